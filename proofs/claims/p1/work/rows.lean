section
-- ===== PART A: goes FIRST, ahead of the names: the tables' words, and 'selects' of the private methods out of them =====
/-- a private method of a class that the tables say can be made, by its rows of tables_1 -/
def lw_okq (q : MethodName × Nat) : Prop := (q.1.cls ≠ "java/lang/invoke/MethodHandle" ∧ q.1.cls ≠ "java/lang/invoke/VarHandle") ∧ Cond.instantiable q.1.cls q.2 ∈ tables_1 ∧ Cond.privateMethod q.1 ∈ tables_1 ∧ Cond.instanceMethod q.1 ∈ tables_1
theorem lw_p0 : lw_okq (⟨"TypeForms2$Types", "setPlain", "(IIII)V"⟩, 13) := ⟨⟨by decide +kernel, by decide +kernel⟩, List.mem_of_getElem? (i := 66) (by decide +kernel), List.mem_of_getElem? (i := 72) (by decide +kernel), List.mem_of_getElem? (i := 73) (by decide +kernel)⟩
theorem lw_p1 : lw_okq (⟨"TypeForms2$Declarations", "hasPlace", "(II)Z"⟩, 12) := ⟨⟨by decide +kernel, by decide +kernel⟩, List.mem_of_getElem? (i := 21) (by decide +kernel), List.mem_of_getElem? (i := 280) (by decide +kernel), List.mem_of_getElem? (i := 281) (by decide +kernel)⟩
theorem lw_p2 : lw_okq (⟨"TypeForms2$Rules", "isAsTold", "(II)Z"⟩, 4) := ⟨⟨by decide +kernel, by decide +kernel⟩, List.mem_of_getElem? (i := 146) (by decide +kernel), List.mem_of_getElem? (i := 304) (by decide +kernel), List.mem_of_getElem? (i := 305) (by decide +kernel)⟩
theorem lw_p3 : lw_okq (⟨"TypeForms2$Rules", "comesTo", "(II)Z"⟩, 4) := ⟨⟨by decide +kernel, by decide +kernel⟩, List.mem_of_getElem? (i := 146) (by decide +kernel), List.mem_of_getElem? (i := 340) (by decide +kernel), List.mem_of_getElem? (i := 341) (by decide +kernel)⟩
theorem lw_p4 : lw_okq (⟨"TypeForms2$Declarations", "findAncestors", "()V"⟩, 12) := ⟨⟨by decide +kernel, by decide +kernel⟩, List.mem_of_getElem? (i := 21) (by decide +kernel), List.mem_of_getElem? (i := 374) (by decide +kernel), List.mem_of_getElem? (i := 375) (by decide +kernel)⟩
theorem lw_p5 : lw_okq (⟨"TypeForms2$Rules", "ofMadeShape", "(IIIII)I"⟩, 4) := ⟨⟨by decide +kernel, by decide +kernel⟩, List.mem_of_getElem? (i := 146) (by decide +kernel), List.mem_of_getElem? (i := 402) (by decide +kernel), List.mem_of_getElem? (i := 403) (by decide +kernel)⟩
theorem lw_p6 : lw_okq (⟨"TypeForms2$Forms", "putIn", "(III)I"⟩, 2) := ⟨⟨by decide +kernel, by decide +kernel⟩, List.mem_of_getElem? (i := 117) (by decide +kernel), List.mem_of_getElem? (i := 430) (by decide +kernel), List.mem_of_getElem? (i := 431) (by decide +kernel)⟩
theorem lw_p7 : lw_okq (⟨"TypeForms2$Forms", "tellerOf", "(II)I"⟩, 2) := ⟨⟨by decide +kernel, by decide +kernel⟩, List.mem_of_getElem? (i := 117) (by decide +kernel), List.mem_of_getElem? (i := 453) (by decide +kernel), List.mem_of_getElem? (i := 454) (by decide +kernel)⟩
theorem lw_p8 : lw_okq (⟨"TypeForms2$Forms", "putInArgument", "(III)I"⟩, 2) := ⟨⟨by decide +kernel, by decide +kernel⟩, List.mem_of_getElem? (i := 117) (by decide +kernel), List.mem_of_getElem? (i := 462) (by decide +kernel), List.mem_of_getElem? (i := 463) (by decide +kernel)⟩
theorem lw_p9 : lw_okq (⟨"TypeForms2$Order", "ask", "(III)I"⟩, 3) := ⟨⟨by decide +kernel, by decide +kernel⟩, List.mem_of_getElem? (i := 130) (by decide +kernel), List.mem_of_getElem? (i := 470) (by decide +kernel), List.mem_of_getElem? (i := 471) (by decide +kernel)⟩
theorem lw_p10 : lw_okq (⟨"TypeForms2$Order", "askBounds", "(III)I"⟩, 3) := ⟨⟨by decide +kernel, by decide +kernel⟩, List.mem_of_getElem? (i := 130) (by decide +kernel), List.mem_of_getElem? (i := 478) (by decide +kernel), List.mem_of_getElem? (i := 479) (by decide +kernel)⟩
theorem lw_p11 : lw_okq (⟨"TypeForms2$Order", "askElements", "(III)I"⟩, 3) := ⟨⟨by decide +kernel, by decide +kernel⟩, List.mem_of_getElem? (i := 130) (by decide +kernel), List.mem_of_getElem? (i := 488) (by decide +kernel), List.mem_of_getElem? (i := 489) (by decide +kernel)⟩
theorem lw_p12 : lw_okq (⟨"TypeForms2$Order", "askClasses", "(III)I"⟩, 3) := ⟨⟨by decide +kernel, by decide +kernel⟩, List.mem_of_getElem? (i := 130) (by decide +kernel), List.mem_of_getElem? (i := 492) (by decide +kernel), List.mem_of_getElem? (i := 493) (by decide +kernel)⟩
theorem lw_p13 : lw_okq (⟨"TypeForms2$Order", "askSame", "(III)I"⟩, 3) := ⟨⟨by decide +kernel, by decide +kernel⟩, List.mem_of_getElem? (i := 130) (by decide +kernel), List.mem_of_getElem? (i := 505) (by decide +kernel), List.mem_of_getElem? (i := 506) (by decide +kernel)⟩
theorem lw_p14 : lw_okq (⟨"TypeForms2$Order", "askIn", "(III)I"⟩, 3) := ⟨⟨by decide +kernel, by decide +kernel⟩, List.mem_of_getElem? (i := 130) (by decide +kernel), List.mem_of_getElem? (i := 513) (by decide +kernel), List.mem_of_getElem? (i := 514) (by decide +kernel)⟩
theorem lw_p15 : lw_okq (⟨"TypeForms2$Types", "keep", "(II)I"⟩, 13) := ⟨⟨by decide +kernel, by decide +kernel⟩, List.mem_of_getElem? (i := 66) (by decide +kernel), List.mem_of_getElem? (i := 532) (by decide +kernel), List.mem_of_getElem? (i := 533) (by decide +kernel)⟩
def lw_privs_1 : List (MethodName × Nat) := [(⟨"TypeForms2$Types", "setPlain", "(IIII)V"⟩, 13), (⟨"TypeForms2$Declarations", "hasPlace", "(II)Z"⟩, 12), (⟨"TypeForms2$Rules", "isAsTold", "(II)Z"⟩, 4), (⟨"TypeForms2$Rules", "comesTo", "(II)Z"⟩, 4), (⟨"TypeForms2$Declarations", "findAncestors", "()V"⟩, 12), (⟨"TypeForms2$Rules", "ofMadeShape", "(IIIII)I"⟩, 4), (⟨"TypeForms2$Forms", "putIn", "(III)I"⟩, 2), (⟨"TypeForms2$Forms", "tellerOf", "(II)I"⟩, 2), (⟨"TypeForms2$Forms", "putInArgument", "(III)I"⟩, 2), (⟨"TypeForms2$Order", "ask", "(III)I"⟩, 3), (⟨"TypeForms2$Order", "askBounds", "(III)I"⟩, 3), (⟨"TypeForms2$Order", "askElements", "(III)I"⟩, 3), (⟨"TypeForms2$Order", "askClasses", "(III)I"⟩, 3), (⟨"TypeForms2$Order", "askSame", "(III)I"⟩, 3), (⟨"TypeForms2$Order", "askIn", "(III)I"⟩, 3), (⟨"TypeForms2$Types", "keep", "(II)I"⟩, 13)]
theorem lw_r1 : ∀ q ∈ lw_privs_1, lw_okq q := List.forall_mem_cons.mpr ⟨lw_p0, List.forall_mem_cons.mpr ⟨lw_p1, List.forall_mem_cons.mpr ⟨lw_p2, List.forall_mem_cons.mpr ⟨lw_p3, List.forall_mem_cons.mpr ⟨lw_p4, List.forall_mem_cons.mpr ⟨lw_p5, List.forall_mem_cons.mpr ⟨lw_p6, List.forall_mem_cons.mpr ⟨lw_p7, List.forall_mem_cons.mpr ⟨lw_p8, List.forall_mem_cons.mpr ⟨lw_p9, List.forall_mem_cons.mpr ⟨lw_p10, List.forall_mem_cons.mpr ⟨lw_p11, List.forall_mem_cons.mpr ⟨lw_p12, List.forall_mem_cons.mpr ⟨lw_p13, List.forall_mem_cons.mpr ⟨lw_p14, List.forall_mem_cons.mpr ⟨lw_p15, fun _ h => absurd h List.not_mem_nil⟩⟩⟩⟩⟩⟩⟩⟩⟩⟩⟩⟩⟩⟩⟩⟩
theorem lw_p16 : lw_okq (⟨"TypeForms2$Types", "keepArgument", "(II)I"⟩, 13) := ⟨⟨by decide +kernel, by decide +kernel⟩, List.mem_of_getElem? (i := 66) (by decide +kernel), List.mem_of_getElem? (i := 536) (by decide +kernel), List.mem_of_getElem? (i := 537) (by decide +kernel)⟩
theorem lw_p17 : lw_okq (⟨"TypeForms2$Reader", "typeText", "(I)I"⟩, 7) := ⟨⟨by decide +kernel, by decide +kernel⟩, List.mem_of_getElem? (i := 165) (by decide +kernel), List.mem_of_getElem? (i := 611) (by decide +kernel), List.mem_of_getElem? (i := 612) (by decide +kernel)⟩
theorem lw_p18 : lw_okq (⟨"TypeForms2$Reader", "baseText", "(I)I"⟩, 7) := ⟨⟨by decide +kernel, by decide +kernel⟩, List.mem_of_getElem? (i := 165) (by decide +kernel), List.mem_of_getElem? (i := 615) (by decide +kernel), List.mem_of_getElem? (i := 616) (by decide +kernel)⟩
theorem lw_p19 : lw_okq (⟨"TypeForms2$Reader", "next", "()I"⟩, 7) := ⟨⟨by decide +kernel, by decide +kernel⟩, List.mem_of_getElem? (i := 165) (by decide +kernel), List.mem_of_getElem? (i := 619) (by decide +kernel), List.mem_of_getElem? (i := 620) (by decide +kernel)⟩
theorem lw_p20 : lw_okq (⟨"TypeForms2$Reader", "variableText", "(I)I"⟩, 7) := ⟨⟨by decide +kernel, by decide +kernel⟩, List.mem_of_getElem? (i := 165) (by decide +kernel), List.mem_of_getElem? (i := 623) (by decide +kernel), List.mem_of_getElem? (i := 624) (by decide +kernel)⟩
theorem lw_p21 : lw_okq (⟨"TypeForms2$Reader", "faultAt", "(I)I"⟩, 7) := ⟨⟨by decide +kernel, by decide +kernel⟩, List.mem_of_getElem? (i := 165) (by decide +kernel), List.mem_of_getElem? (i := 628) (by decide +kernel), List.mem_of_getElem? (i := 629) (by decide +kernel)⟩
theorem lw_p22 : lw_okq (⟨"TypeForms2$Reader", "partText", "(II)I"⟩, 7) := ⟨⟨by decide +kernel, by decide +kernel⟩, List.mem_of_getElem? (i := 165) (by decide +kernel), List.mem_of_getElem? (i := 633) (by decide +kernel), List.mem_of_getElem? (i := 634) (by decide +kernel)⟩
theorem lw_p23 : lw_okq (⟨"TypeForms2$Reader", "argumentText", "(I)I"⟩, 7) := ⟨⟨by decide +kernel, by decide +kernel⟩, List.mem_of_getElem? (i := 165) (by decide +kernel), List.mem_of_getElem? (i := 637) (by decide +kernel), List.mem_of_getElem? (i := 638) (by decide +kernel)⟩
theorem lw_p24 : lw_okq (⟨"TypeForms2$Printer", "writeType", "(II)V"⟩, 5) := ⟨⟨by decide +kernel, by decide +kernel⟩, List.mem_of_getElem? (i := 193) (by decide +kernel), List.mem_of_getElem? (i := 659) (by decide +kernel), List.mem_of_getElem? (i := 660) (by decide +kernel)⟩
theorem lw_p25 : lw_okq (⟨"TypeForms2$Printer", "write", "(I)V"⟩, 5) := ⟨⟨by decide +kernel, by decide +kernel⟩, List.mem_of_getElem? (i := 193) (by decide +kernel), List.mem_of_getElem? (i := 664) (by decide +kernel), List.mem_of_getElem? (i := 665) (by decide +kernel)⟩
theorem lw_p26 : lw_okq (⟨"TypeForms2$Printer", "writeArguments", "(II)V"⟩, 5) := ⟨⟨by decide +kernel, by decide +kernel⟩, List.mem_of_getElem? (i := 193) (by decide +kernel), List.mem_of_getElem? (i := 672) (by decide +kernel), List.mem_of_getElem? (i := 673) (by decide +kernel)⟩
theorem lw_p27 : lw_okq (⟨"TypeForms2Model", "isDecl", "(I)Z"⟩, 56) := ⟨⟨by decide +kernel, by decide +kernel⟩, List.mem_of_getElem? (i := 712) (by decide +kernel), List.mem_of_getElem? (i := 891) (by decide +kernel), List.mem_of_getElem? (i := 892) (by decide +kernel)⟩
theorem lw_p28 : lw_okq (⟨"TypeForms2Model", "write", "(IIIIII)V"⟩, 56) := ⟨⟨by decide +kernel, by decide +kernel⟩, List.mem_of_getElem? (i := 712) (by decide +kernel), List.mem_of_getElem? (i := 898) (by decide +kernel), List.mem_of_getElem? (i := 899) (by decide +kernel)⟩
theorem lw_p29 : lw_okq (⟨"TypeForms2Model", "type", "(IIIII)I"⟩, 56) := ⟨⟨by decide +kernel, by decide +kernel⟩, List.mem_of_getElem? (i := 712) (by decide +kernel), List.mem_of_getElem? (i := 906) (by decide +kernel), List.mem_of_getElem? (i := 907) (by decide +kernel)⟩
theorem lw_p30 : lw_okq (⟨"TypeForms2Model", "isSame", "(IIIIII)Z"⟩, 56) := ⟨⟨by decide +kernel, by decide +kernel⟩, List.mem_of_getElem? (i := 712) (by decide +kernel), List.mem_of_getElem? (i := 910) (by decide +kernel), List.mem_of_getElem? (i := 911) (by decide +kernel)⟩
theorem lw_p31 : lw_okq (⟨"TypeForms2Model", "isNode", "(I)Z"⟩, 56) := ⟨⟨by decide +kernel, by decide +kernel⟩, List.mem_of_getElem? (i := 712) (by decide +kernel), List.mem_of_getElem? (i := 918) (by decide +kernel), List.mem_of_getElem? (i := 919) (by decide +kernel)⟩
def lw_privs_2 : List (MethodName × Nat) := [(⟨"TypeForms2$Types", "keepArgument", "(II)I"⟩, 13), (⟨"TypeForms2$Reader", "typeText", "(I)I"⟩, 7), (⟨"TypeForms2$Reader", "baseText", "(I)I"⟩, 7), (⟨"TypeForms2$Reader", "next", "()I"⟩, 7), (⟨"TypeForms2$Reader", "variableText", "(I)I"⟩, 7), (⟨"TypeForms2$Reader", "faultAt", "(I)I"⟩, 7), (⟨"TypeForms2$Reader", "partText", "(II)I"⟩, 7), (⟨"TypeForms2$Reader", "argumentText", "(I)I"⟩, 7), (⟨"TypeForms2$Printer", "writeType", "(II)V"⟩, 5), (⟨"TypeForms2$Printer", "write", "(I)V"⟩, 5), (⟨"TypeForms2$Printer", "writeArguments", "(II)V"⟩, 5), (⟨"TypeForms2Model", "isDecl", "(I)Z"⟩, 56), (⟨"TypeForms2Model", "write", "(IIIIII)V"⟩, 56), (⟨"TypeForms2Model", "type", "(IIIII)I"⟩, 56), (⟨"TypeForms2Model", "isSame", "(IIIIII)Z"⟩, 56), (⟨"TypeForms2Model", "isNode", "(I)Z"⟩, 56)]
theorem lw_r2 : ∀ q ∈ lw_privs_2, lw_okq q := List.forall_mem_cons.mpr ⟨lw_p16, List.forall_mem_cons.mpr ⟨lw_p17, List.forall_mem_cons.mpr ⟨lw_p18, List.forall_mem_cons.mpr ⟨lw_p19, List.forall_mem_cons.mpr ⟨lw_p20, List.forall_mem_cons.mpr ⟨lw_p21, List.forall_mem_cons.mpr ⟨lw_p22, List.forall_mem_cons.mpr ⟨lw_p23, List.forall_mem_cons.mpr ⟨lw_p24, List.forall_mem_cons.mpr ⟨lw_p25, List.forall_mem_cons.mpr ⟨lw_p26, List.forall_mem_cons.mpr ⟨lw_p27, List.forall_mem_cons.mpr ⟨lw_p28, List.forall_mem_cons.mpr ⟨lw_p29, List.forall_mem_cons.mpr ⟨lw_p30, List.forall_mem_cons.mpr ⟨lw_p31, fun _ h => absurd h List.not_mem_nil⟩⟩⟩⟩⟩⟩⟩⟩⟩⟩⟩⟩⟩⟩⟩⟩
theorem lw_p32 : lw_okq (⟨"TypeForms2Model", "isTellable", "(II)Z"⟩, 56) := ⟨⟨by decide +kernel, by decide +kernel⟩, List.mem_of_getElem? (i := 712) (by decide +kernel), List.mem_of_getElem? (i := 922) (by decide +kernel), List.mem_of_getElem? (i := 923) (by decide +kernel)⟩
theorem lw_p33 : lw_okq (⟨"TypeForms2Model", "hasVariable", "(I)Z"⟩, 56) := ⟨⟨by decide +kernel, by decide +kernel⟩, List.mem_of_getElem? (i := 712) (by decide +kernel), List.mem_of_getElem? (i := 926) (by decide +kernel), List.mem_of_getElem? (i := 927) (by decide +kernel)⟩
theorem lw_p34 : lw_okq (⟨"TypeForms2Model", "reach", "(I)V"⟩, 56) := ⟨⟨by decide +kernel, by decide +kernel⟩, List.mem_of_getElem? (i := 712) (by decide +kernel), List.mem_of_getElem? (i := 930) (by decide +kernel), List.mem_of_getElem? (i := 931) (by decide +kernel)⟩
theorem lw_p35 : lw_okq (⟨"TypeForms2Model", "lower", "(I)I"⟩, 56) := ⟨⟨by decide +kernel, by decide +kernel⟩, List.mem_of_getElem? (i := 712) (by decide +kernel), List.mem_of_getElem? (i := 934) (by decide +kernel), List.mem_of_getElem? (i := 935) (by decide +kernel)⟩
theorem lw_p36 : lw_okq (⟨"TypeForms2Model", "leadsTo", "(II)Z"⟩, 56) := ⟨⟨by decide +kernel, by decide +kernel⟩, List.mem_of_getElem? (i := 712) (by decide +kernel), List.mem_of_getElem? (i := 938) (by decide +kernel), List.mem_of_getElem? (i := 939) (by decide +kernel)⟩
theorem lw_p37 : lw_okq (⟨"TypeForms2Model", "isPlain", "(I)Z"⟩, 56) := ⟨⟨by decide +kernel, by decide +kernel⟩, List.mem_of_getElem? (i := 712) (by decide +kernel), List.mem_of_getElem? (i := 950) (by decide +kernel), List.mem_of_getElem? (i := 951) (by decide +kernel)⟩
theorem lw_p38 : lw_okq (⟨"TypeForms2Model", "wrong", "(III[I[II)I"⟩, 56) := ⟨⟨by decide +kernel, by decide +kernel⟩, List.mem_of_getElem? (i := 712) (by decide +kernel), List.mem_of_getElem? (i := 958) (by decide +kernel), List.mem_of_getElem? (i := 959) (by decide +kernel)⟩
theorem lw_p39 : lw_okq (⟨"TypeForms2Model", "isRaw", "(I)Z"⟩, 56) := ⟨⟨by decide +kernel, by decide +kernel⟩, List.mem_of_getElem? (i := 712) (by decide +kernel), List.mem_of_getElem? (i := 962) (by decide +kernel), List.mem_of_getElem? (i := 963) (by decide +kernel)⟩
theorem lw_p40 : lw_okq (⟨"TypeForms2Model", "putIn", "(II)I"⟩, 56) := ⟨⟨by decide +kernel, by decide +kernel⟩, List.mem_of_getElem? (i := 712) (by decide +kernel), List.mem_of_getElem? (i := 966) (by decide +kernel), List.mem_of_getElem? (i := 967) (by decide +kernel)⟩
theorem lw_p41 : lw_okq (⟨"TypeForms2Model", "erasedOf", "(I)I"⟩, 56) := ⟨⟨by decide +kernel, by decide +kernel⟩, List.mem_of_getElem? (i := 712) (by decide +kernel), List.mem_of_getElem? (i := 970) (by decide +kernel), List.mem_of_getElem? (i := 971) (by decide +kernel)⟩
theorem lw_p42 : lw_okq (⟨"TypeForms2Model", "bare", "(II)I"⟩, 56) := ⟨⟨by decide +kernel, by decide +kernel⟩, List.mem_of_getElem? (i := 712) (by decide +kernel), List.mem_of_getElem? (i := 974) (by decide +kernel), List.mem_of_getElem? (i := 975) (by decide +kernel)⟩
theorem lw_p43 : lw_okq (⟨"TypeForms2Model", "arrayOf", "(I)I"⟩, 56) := ⟨⟨by decide +kernel, by decide +kernel⟩, List.mem_of_getElem? (i := 712) (by decide +kernel), List.mem_of_getElem? (i := 978) (by decide +kernel), List.mem_of_getElem? (i := 979) (by decide +kernel)⟩
theorem lw_p44 : lw_okq (⟨"TypeForms2Model", "higher", "(I)I"⟩, 56) := ⟨⟨by decide +kernel, by decide +kernel⟩, List.mem_of_getElem? (i := 712) (by decide +kernel), List.mem_of_getElem? (i := 982) (by decide +kernel), List.mem_of_getElem? (i := 983) (by decide +kernel)⟩
theorem lw_p45 : lw_okq (⟨"TypeForms2Model", "putPart", "(II)V"⟩, 56) := ⟨⟨by decide +kernel, by decide +kernel⟩, List.mem_of_getElem? (i := 712) (by decide +kernel), List.mem_of_getElem? (i := 986) (by decide +kernel), List.mem_of_getElem? (i := 987) (by decide +kernel)⟩
theorem lw_p46 : lw_okq (⟨"TypeForms2Model", "putVariable", "(II)I"⟩, 56) := ⟨⟨by decide +kernel, by decide +kernel⟩, List.mem_of_getElem? (i := 712) (by decide +kernel), List.mem_of_getElem? (i := 990) (by decide +kernel), List.mem_of_getElem? (i := 991) (by decide +kernel)⟩
theorem lw_p47 : lw_okq (⟨"TypeForms2Model", "isTold", "(II)Z"⟩, 56) := ⟨⟨by decide +kernel, by decide +kernel⟩, List.mem_of_getElem? (i := 712) (by decide +kernel), List.mem_of_getElem? (i := 994) (by decide +kernel), List.mem_of_getElem? (i := 995) (by decide +kernel)⟩
def lw_privs_3 : List (MethodName × Nat) := [(⟨"TypeForms2Model", "isTellable", "(II)Z"⟩, 56), (⟨"TypeForms2Model", "hasVariable", "(I)Z"⟩, 56), (⟨"TypeForms2Model", "reach", "(I)V"⟩, 56), (⟨"TypeForms2Model", "lower", "(I)I"⟩, 56), (⟨"TypeForms2Model", "leadsTo", "(II)Z"⟩, 56), (⟨"TypeForms2Model", "isPlain", "(I)Z"⟩, 56), (⟨"TypeForms2Model", "wrong", "(III[I[II)I"⟩, 56), (⟨"TypeForms2Model", "isRaw", "(I)Z"⟩, 56), (⟨"TypeForms2Model", "putIn", "(II)I"⟩, 56), (⟨"TypeForms2Model", "erasedOf", "(I)I"⟩, 56), (⟨"TypeForms2Model", "bare", "(II)I"⟩, 56), (⟨"TypeForms2Model", "arrayOf", "(I)I"⟩, 56), (⟨"TypeForms2Model", "higher", "(I)I"⟩, 56), (⟨"TypeForms2Model", "putPart", "(II)V"⟩, 56), (⟨"TypeForms2Model", "putVariable", "(II)I"⟩, 56), (⟨"TypeForms2Model", "isTold", "(II)Z"⟩, 56)]
theorem lw_r3 : ∀ q ∈ lw_privs_3, lw_okq q := List.forall_mem_cons.mpr ⟨lw_p32, List.forall_mem_cons.mpr ⟨lw_p33, List.forall_mem_cons.mpr ⟨lw_p34, List.forall_mem_cons.mpr ⟨lw_p35, List.forall_mem_cons.mpr ⟨lw_p36, List.forall_mem_cons.mpr ⟨lw_p37, List.forall_mem_cons.mpr ⟨lw_p38, List.forall_mem_cons.mpr ⟨lw_p39, List.forall_mem_cons.mpr ⟨lw_p40, List.forall_mem_cons.mpr ⟨lw_p41, List.forall_mem_cons.mpr ⟨lw_p42, List.forall_mem_cons.mpr ⟨lw_p43, List.forall_mem_cons.mpr ⟨lw_p44, List.forall_mem_cons.mpr ⟨lw_p45, List.forall_mem_cons.mpr ⟨lw_p46, List.forall_mem_cons.mpr ⟨lw_p47, fun _ h => absurd h List.not_mem_nil⟩⟩⟩⟩⟩⟩⟩⟩⟩⟩⟩⟩⟩⟩⟩⟩
theorem lw_p48 : lw_okq (⟨"TypeForms2Model", "putArgument", "(IIII)V"⟩, 56) := ⟨⟨by decide +kernel, by decide +kernel⟩, List.mem_of_getElem? (i := 712) (by decide +kernel), List.mem_of_getElem? (i := 998) (by decide +kernel), List.mem_of_getElem? (i := 999) (by decide +kernel)⟩
theorem lw_p49 : lw_okq (⟨"TypeForms2Model", "belowOf", "(II)I"⟩, 56) := ⟨⟨by decide +kernel, by decide +kernel⟩, List.mem_of_getElem? (i := 712) (by decide +kernel), List.mem_of_getElem? (i := 1002) (by decide +kernel), List.mem_of_getElem? (i := 1003) (by decide +kernel)⟩
theorem lw_p50 : lw_okq (⟨"TypeForms2Model", "atOnce", "(II)I"⟩, 56) := ⟨⟨by decide +kernel, by decide +kernel⟩, List.mem_of_getElem? (i := 712) (by decide +kernel), List.mem_of_getElem? (i := 1006) (by decide +kernel), List.mem_of_getElem? (i := 1007) (by decide +kernel)⟩
theorem lw_p51 : lw_okq (⟨"TypeForms2Model", "isObject", "(I)Z"⟩, 56) := ⟨⟨by decide +kernel, by decide +kernel⟩, List.mem_of_getElem? (i := 712) (by decide +kernel), List.mem_of_getElem? (i := 1013) (by decide +kernel), List.mem_of_getElem? (i := 1014) (by decide +kernel)⟩
theorem lw_p52 : lw_okq (⟨"TypeForms2Model", "superOf", "(II)I"⟩, 56) := ⟨⟨by decide +kernel, by decide +kernel⟩, List.mem_of_getElem? (i := 712) (by decide +kernel), List.mem_of_getElem? (i := 1017) (by decide +kernel), List.mem_of_getElem? (i := 1018) (by decide +kernel)⟩
theorem lw_p53 : lw_okq (⟨"TypeForms2Model", "comesTo", "(II)Z"⟩, 56) := ⟨⟨by decide +kernel, by decide +kernel⟩, List.mem_of_getElem? (i := 712) (by decide +kernel), List.mem_of_getElem? (i := 1021) (by decide +kernel), List.mem_of_getElem? (i := 1022) (by decide +kernel)⟩
theorem lw_p54 : lw_okq (⟨"TypeForms2Model", "goOn", "(II)I"⟩, 56) := ⟨⟨by decide +kernel, by decide +kernel⟩, List.mem_of_getElem? (i := 712) (by decide +kernel), List.mem_of_getElem? (i := 1025) (by decide +kernel), List.mem_of_getElem? (i := 1026) (by decide +kernel)⟩
theorem lw_p55 : lw_okq (⟨"TypeForms2Model", "ask", "(III)V"⟩, 56) := ⟨⟨by decide +kernel, by decide +kernel⟩, List.mem_of_getElem? (i := 712) (by decide +kernel), List.mem_of_getElem? (i := 1029) (by decide +kernel), List.mem_of_getElem? (i := 1030) (by decide +kernel)⟩
theorem lw_p56 : lw_okq (⟨"TypeForms2Model", "told", "(I)I"⟩, 56) := ⟨⟨by decide +kernel, by decide +kernel⟩, List.mem_of_getElem? (i := 712) (by decide +kernel), List.mem_of_getElem? (i := 1033) (by decide +kernel), List.mem_of_getElem? (i := 1034) (by decide +kernel)⟩
theorem lw_p57 : lw_okq (⟨"TypeForms2Model", "part", "(II)I"⟩, 56) := ⟨⟨by decide +kernel, by decide +kernel⟩, List.mem_of_getElem? (i := 712) (by decide +kernel), List.mem_of_getElem? (i := 1037) (by decide +kernel), List.mem_of_getElem? (i := 1038) (by decide +kernel)⟩
theorem lw_p58 : lw_okq (⟨"TypeForms2Model", "copy", "(I)V"⟩, 56) := ⟨⟨by decide +kernel, by decide +kernel⟩, List.mem_of_getElem? (i := 712) (by decide +kernel), List.mem_of_getElem? (i := 1041) (by decide +kernel), List.mem_of_getElem? (i := 1042) (by decide +kernel)⟩
theorem lw_p59 : lw_okq (⟨"TypeForms2Model", "real", "(I)I"⟩, 56) := ⟨⟨by decide +kernel, by decide +kernel⟩, List.mem_of_getElem? (i := 712) (by decide +kernel), List.mem_of_getElem? (i := 1045) (by decide +kernel), List.mem_of_getElem? (i := 1046) (by decide +kernel)⟩
theorem lw_p60 : lw_okq (⟨"TypeForms2Model", "readType", "()I"⟩, 56) := ⟨⟨by decide +kernel, by decide +kernel⟩, List.mem_of_getElem? (i := 712) (by decide +kernel), List.mem_of_getElem? (i := 1085) (by decide +kernel), List.mem_of_getElem? (i := 1086) (by decide +kernel)⟩
theorem lw_p61 : lw_okq (⟨"TypeForms2Model", "byteAt", "(I)I"⟩, 56) := ⟨⟨by decide +kernel, by decide +kernel⟩, List.mem_of_getElem? (i := 712) (by decide +kernel), List.mem_of_getElem? (i := 1089) (by decide +kernel), List.mem_of_getElem? (i := 1090) (by decide +kernel)⟩
theorem lw_p62 : lw_okq (⟨"TypeForms2Model", "faultAt", "(I)I"⟩, 56) := ⟨⟨by decide +kernel, by decide +kernel⟩, List.mem_of_getElem? (i := 712) (by decide +kernel), List.mem_of_getElem? (i := 1093) (by decide +kernel), List.mem_of_getElem? (i := 1094) (by decide +kernel)⟩
theorem lw_p63 : lw_okq (⟨"TypeForms2Model", "readLetter", "(I)I"⟩, 56) := ⟨⟨by decide +kernel, by decide +kernel⟩, List.mem_of_getElem? (i := 712) (by decide +kernel), List.mem_of_getElem? (i := 1097) (by decide +kernel), List.mem_of_getElem? (i := 1098) (by decide +kernel)⟩
def lw_privs_4 : List (MethodName × Nat) := [(⟨"TypeForms2Model", "putArgument", "(IIII)V"⟩, 56), (⟨"TypeForms2Model", "belowOf", "(II)I"⟩, 56), (⟨"TypeForms2Model", "atOnce", "(II)I"⟩, 56), (⟨"TypeForms2Model", "isObject", "(I)Z"⟩, 56), (⟨"TypeForms2Model", "superOf", "(II)I"⟩, 56), (⟨"TypeForms2Model", "comesTo", "(II)Z"⟩, 56), (⟨"TypeForms2Model", "goOn", "(II)I"⟩, 56), (⟨"TypeForms2Model", "ask", "(III)V"⟩, 56), (⟨"TypeForms2Model", "told", "(I)I"⟩, 56), (⟨"TypeForms2Model", "part", "(II)I"⟩, 56), (⟨"TypeForms2Model", "copy", "(I)V"⟩, 56), (⟨"TypeForms2Model", "real", "(I)I"⟩, 56), (⟨"TypeForms2Model", "readType", "()I"⟩, 56), (⟨"TypeForms2Model", "byteAt", "(I)I"⟩, 56), (⟨"TypeForms2Model", "faultAt", "(I)I"⟩, 56), (⟨"TypeForms2Model", "readLetter", "(I)I"⟩, 56)]
theorem lw_r4 : ∀ q ∈ lw_privs_4, lw_okq q := List.forall_mem_cons.mpr ⟨lw_p48, List.forall_mem_cons.mpr ⟨lw_p49, List.forall_mem_cons.mpr ⟨lw_p50, List.forall_mem_cons.mpr ⟨lw_p51, List.forall_mem_cons.mpr ⟨lw_p52, List.forall_mem_cons.mpr ⟨lw_p53, List.forall_mem_cons.mpr ⟨lw_p54, List.forall_mem_cons.mpr ⟨lw_p55, List.forall_mem_cons.mpr ⟨lw_p56, List.forall_mem_cons.mpr ⟨lw_p57, List.forall_mem_cons.mpr ⟨lw_p58, List.forall_mem_cons.mpr ⟨lw_p59, List.forall_mem_cons.mpr ⟨lw_p60, List.forall_mem_cons.mpr ⟨lw_p61, List.forall_mem_cons.mpr ⟨lw_p62, List.forall_mem_cons.mpr ⟨lw_p63, fun _ h => absurd h List.not_mem_nil⟩⟩⟩⟩⟩⟩⟩⟩⟩⟩⟩⟩⟩⟩⟩⟩
theorem lw_p64 : lw_okq (⟨"TypeForms2Model", "readPart", "()I"⟩, 56) := ⟨⟨by decide +kernel, by decide +kernel⟩, List.mem_of_getElem? (i := 712) (by decide +kernel), List.mem_of_getElem? (i := 1101) (by decide +kernel), List.mem_of_getElem? (i := 1102) (by decide +kernel)⟩
theorem lw_p65 : lw_okq (⟨"TypeForms2Model", "readArgument", "()I"⟩, 56) := ⟨⟨by decide +kernel, by decide +kernel⟩, List.mem_of_getElem? (i := 712) (by decide +kernel), List.mem_of_getElem? (i := 1105) (by decide +kernel), List.mem_of_getElem? (i := 1106) (by decide +kernel)⟩
theorem lw_p66 : lw_okq (⟨"TypeForms2Model", "keep", "(II)V"⟩, 56) := ⟨⟨by decide +kernel, by decide +kernel⟩, List.mem_of_getElem? (i := 712) (by decide +kernel), List.mem_of_getElem? (i := 1109) (by decide +kernel), List.mem_of_getElem? (i := 1110) (by decide +kernel)⟩
theorem lw_p67 : lw_okq (⟨"TypeForms2Model", "readBehind", "()I"⟩, 56) := ⟨⟨by decide +kernel, by decide +kernel⟩, List.mem_of_getElem? (i := 712) (by decide +kernel), List.mem_of_getElem? (i := 1113) (by decide +kernel), List.mem_of_getElem? (i := 1114) (by decide +kernel)⟩
theorem lw_p68 : lw_okq (⟨"TypeForms2Model", "readClosed", "()I"⟩, 56) := ⟨⟨by decide +kernel, by decide +kernel⟩, List.mem_of_getElem? (i := 712) (by decide +kernel), List.mem_of_getElem? (i := 1117) (by decide +kernel), List.mem_of_getElem? (i := 1118) (by decide +kernel)⟩
theorem lw_p69 : lw_okq (⟨"TypeForms2Model", "readSuffix", "()I"⟩, 56) := ⟨⟨by decide +kernel, by decide +kernel⟩, List.mem_of_getElem? (i := 712) (by decide +kernel), List.mem_of_getElem? (i := 1121) (by decide +kernel), List.mem_of_getElem? (i := 1122) (by decide +kernel)⟩
theorem lw_p70 : lw_okq (⟨"TypeForms2Model", "push", "(I)V"⟩, 56) := ⟨⟨by decide +kernel, by decide +kernel⟩, List.mem_of_getElem? (i := 712) (by decide +kernel), List.mem_of_getElem? (i := 1129) (by decide +kernel), List.mem_of_getElem? (i := 1130) (by decide +kernel)⟩
theorem lw_p71 : lw_okq (⟨"TypeForms2Model", "pushParts", "(I)V"⟩, 56) := ⟨⟨by decide +kernel, by decide +kernel⟩, List.mem_of_getElem? (i := 712) (by decide +kernel), List.mem_of_getElem? (i := 1133) (by decide +kernel), List.mem_of_getElem? (i := 1134) (by decide +kernel)⟩
def lw_privs_5 : List (MethodName × Nat) := [(⟨"TypeForms2Model", "readPart", "()I"⟩, 56), (⟨"TypeForms2Model", "readArgument", "()I"⟩, 56), (⟨"TypeForms2Model", "keep", "(II)V"⟩, 56), (⟨"TypeForms2Model", "readBehind", "()I"⟩, 56), (⟨"TypeForms2Model", "readClosed", "()I"⟩, 56), (⟨"TypeForms2Model", "readSuffix", "()I"⟩, 56), (⟨"TypeForms2Model", "push", "(I)V"⟩, 56), (⟨"TypeForms2Model", "pushParts", "(I)V"⟩, 56)]
theorem lw_r5 : ∀ q ∈ lw_privs_5, lw_okq q := List.forall_mem_cons.mpr ⟨lw_p64, List.forall_mem_cons.mpr ⟨lw_p65, List.forall_mem_cons.mpr ⟨lw_p66, List.forall_mem_cons.mpr ⟨lw_p67, List.forall_mem_cons.mpr ⟨lw_p68, List.forall_mem_cons.mpr ⟨lw_p69, List.forall_mem_cons.mpr ⟨lw_p70, List.forall_mem_cons.mpr ⟨lw_p71, fun _ h => absurd h List.not_mem_nil⟩⟩⟩⟩⟩⟩⟩⟩
def lw_privs : List (MethodName × Nat) := lw_privs_1 ++ (lw_privs_2 ++ (lw_privs_3 ++ (lw_privs_4 ++ (lw_privs_5))))
def lw_tbl : List Cond := k2_sels lw_privs ++ tables_1
theorem lw_privs_ok : ∀ q ∈ lw_privs, lw_okq q := by
  show ∀ q ∈ lw_privs_1 ++ (lw_privs_2 ++ (lw_privs_3 ++ (lw_privs_4 ++ (lw_privs_5)))), lw_okq q
  exact List.forall_mem_append.mpr ⟨lw_r1, List.forall_mem_append.mpr ⟨lw_r2, List.forall_mem_append.mpr ⟨lw_r3, List.forall_mem_append.mpr ⟨lw_r4, lw_r5⟩⟩⟩⟩
-- ===== end of PART A; then your names; then what follows =====
def RX0 : String := "TypeForms2$Declarations"
def TX0 : u_T := fun k => match k with
  | 0 => ("TypeForms2$Declarations", "kind", "[I", true)
  | 1 => ("TypeForms2$Declarations", "parameters", "[I", true)
  | 2 => ("TypeForms2$Declarations", "outer", "[I", true)
  | 3 => ("TypeForms2$Declarations", "within", "[I", true)
  | 4 => ("TypeForms2$Declarations", "firstVariable", "[I", true)
  | 5 => ("TypeForms2$Declarations", "bounds", "[I", true)
  | 6 => ("TypeForms2$Declarations", "boundNumber", "[I", true)
  | 7 => ("TypeForms2$Declarations", "parents", "[I", true)
  | 8 => ("TypeForms2$Declarations", "parentOwner", "[I", true)
  | 9 => ("TypeForms2$Declarations", "parentNumber", "[I", true)
  | 10 => ("TypeForms2$Declarations", "ancestors", "[I", true)
  | _ => ("TypeForms2$Declarations", "number", "I", false)
def tyX0 : Nat → FieldType := fun k => match k with
  | 0 => .array .int
  | 1 => .array .int
  | 2 => .array .int
  | 3 => .array .int
  | 4 => .array .int
  | 5 => .array .int
  | 6 => .array .int
  | 7 => .array .int
  | 8 => .array .int
  | 9 => .array .int
  | 10 => .array .int
  | _ => .int
abbrev wsX00 : List Cond := u_ws RX0 TX0 12
theorem nmX0 : ∀ a, a < 12 → ∀ b, b < 12 → a ≠ b → (TX0 a).2.1 ≠ (TX0 b).2.1 := by decide +kernel
theorem tyX0_ok : ∀ k, k < 12 → parseFieldDescriptor (TX0 k).2.2.1 = some (tyX0 k) := by decide +kernel
abbrev cX0_init : ByteArray := prog_2_method_1_code
def yX0_init : MethodName := ⟨RX0, "<init>", "()V"⟩
abbrev cX0_number : ByteArray := prog_2_method_2_code
def yX0_number : MethodName := ⟨RX0, "number", "()I"⟩
abbrev cX0_has : ByteArray := prog_2_method_3_code
def yX0_has : MethodName := ⟨RX0, "has", "(I)Z"⟩
abbrev cX0_hasRoom : ByteArray := prog_2_method_4_code
def yX0_hasRoom : MethodName := ⟨RX0, "hasRoom", "()Z"⟩
abbrev cX0_add : ByteArray := prog_2_method_5_code
def yX0_add : MethodName := ⟨RX0, "add", "(IIII)I"⟩
abbrev cX0_isInterface : ByteArray := prog_2_method_6_code
def yX0_isInterface : MethodName := ⟨RX0, "isInterface", "(I)Z"⟩
abbrev cX0_parametersOf : ByteArray := prog_2_method_7_code
def yX0_parametersOf : MethodName := ⟨RX0, "parametersOf", "(I)I"⟩
abbrev cX0_outerOf : ByteArray := prog_2_method_8_code
def yX0_outerOf : MethodName := ⟨RX0, "outerOf", "(I)I"⟩
abbrev cX0_isWithin : ByteArray := prog_2_method_9_code
def yX0_isWithin : MethodName := ⟨RX0, "isWithin", "(II)Z"⟩
abbrev cX0_hasPlace : ByteArray := prog_2_method_10_code
def yX0_hasPlace : MethodName := ⟨RX0, "hasPlace", "(II)Z"⟩
abbrev cX0_variableAt : ByteArray := prog_2_method_11_code
def yX0_variableAt : MethodName := ⟨RX0, "variableAt", "(II)I"⟩
abbrev cX0_boundsOf : ByteArray := prog_2_method_12_code
def yX0_boundsOf : MethodName := ⟨RX0, "boundsOf", "(II)I"⟩
abbrev cX0_boundAt : ByteArray := prog_2_method_13_code
def yX0_boundAt : MethodName := ⟨RX0, "boundAt", "(III)I"⟩
abbrev cX0_allBoundsOf : ByteArray := prog_2_method_14_code
def yX0_allBoundsOf : MethodName := ⟨RX0, "allBoundsOf", "(I)I"⟩
abbrev cX0_addBound : ByteArray := prog_2_method_15_code
def yX0_addBound : MethodName := ⟨RX0, "addBound", "(III)I"⟩
abbrev cX0_parentsOf : ByteArray := prog_2_method_16_code
def yX0_parentsOf : MethodName := ⟨RX0, "parentsOf", "(I)I"⟩
abbrev cX0_addParent : ByteArray := prog_2_method_17_code
def yX0_addParent : MethodName := ⟨RX0, "addParent", "(III)I"⟩
abbrev cX0_findAncestors : ByteArray := prog_2_method_18_code
def yX0_findAncestors : MethodName := ⟨RX0, "findAncestors", "()V"⟩
abbrev cX0_parentToward : ByteArray := prog_2_method_19_code
def yX0_parentToward : MethodName := ⟨RX0, "parentToward", "(II)I"⟩
def RX1 : String := "TypeForms2$Forms"
def TX1 : u_T := fun k => match k with
  | 0 => ("TypeForms2$Forms", "declarations", "LTypeForms2$Declarations;", true)
  | _ => ("TypeForms2$Forms", "types", "LTypeForms2$Types;", true)
def tyX1 : Nat → FieldType := fun k => match k with
  | 0 => .object "TypeForms2$Declarations"
  | _ => .object "TypeForms2$Types"
abbrev wsX10 : List Cond := u_ws RX1 TX1 2
theorem nmX1 : ∀ a, a < 2 → ∀ b, b < 2 → a ≠ b → (TX1 a).2.1 ≠ (TX1 b).2.1 := by decide +kernel
theorem tyX1_ok : ∀ k, k < 2 → parseFieldDescriptor (TX1 k).2.2.1 = some (tyX1 k) := by decide +kernel
abbrev cX1_init : ByteArray := prog_3_method_1_code
def yX1_init : MethodName := ⟨RX1, "<init>", "(LTypeForms2$Declarations;LTypeForms2$Types;)V"⟩
abbrev cX1_erase : ByteArray := prog_3_method_2_code
def yX1_erase : MethodName := ⟨RX1, "erase", "(I)I"⟩
abbrev cX1_putIn : ByteArray := prog_3_method_3_code
def yX1_putIn : MethodName := ⟨RX1, "putIn", "(III)I"⟩
abbrev cX1_putInArgument : ByteArray := prog_3_method_4_code
def yX1_putInArgument : MethodName := ⟨RX1, "putInArgument", "(III)I"⟩
abbrev cX1_tellerOf : ByteArray := prog_3_method_5_code
def yX1_tellerOf : MethodName := ⟨RX1, "tellerOf", "(II)I"⟩
abbrev cX1_told : ByteArray := prog_3_method_6_code
def yX1_told : MethodName := ⟨RX1, "told", "(II)I"⟩
abbrev cX1_superOf : ByteArray := prog_3_method_7_code
def yX1_superOf : MethodName := ⟨RX1, "superOf", "(II)I"⟩
abbrev cX1_isWhole : ByteArray := prog_3_method_8_code
def yX1_isWhole : MethodName := ⟨RX1, "isWhole", "(I)Z"⟩
def RX2 : String := "TypeForms2$Order"
def TX2 : u_T := fun k => match k with
  | 0 => ("TypeForms2$Order", "declarations", "LTypeForms2$Declarations;", true)
  | 1 => ("TypeForms2$Order", "types", "LTypeForms2$Types;", true)
  | _ => ("TypeForms2$Order", "forms", "LTypeForms2$Forms;", true)
def tyX2 : Nat → FieldType := fun k => match k with
  | 0 => .object "TypeForms2$Declarations"
  | 1 => .object "TypeForms2$Types"
  | _ => .object "TypeForms2$Forms"
abbrev wsX20 : List Cond := u_ws RX2 TX2 3
theorem nmX2 : ∀ a, a < 3 → ∀ b, b < 3 → a ≠ b → (TX2 a).2.1 ≠ (TX2 b).2.1 := by decide +kernel
theorem tyX2_ok : ∀ k, k < 3 → parseFieldDescriptor (TX2 k).2.2.1 = some (tyX2 k) := by decide +kernel
abbrev cX2_init : ByteArray := prog_4_method_1_code
def yX2_init : MethodName := ⟨RX2, "<init>", "(LTypeForms2$Declarations;LTypeForms2$Types;LTypeForms2$Forms;)V"⟩
abbrev cX2_ask : ByteArray := prog_4_method_2_code
def yX2_ask : MethodName := ⟨RX2, "ask", "(III)I"⟩
abbrev cX2_isNarrower : ByteArray := prog_4_method_3_code
def yX2_isNarrower : MethodName := ⟨RX2, "isNarrower", "(II)Z"⟩
abbrev cX2_askBounds : ByteArray := prog_4_method_4_code
def yX2_askBounds : MethodName := ⟨RX2, "askBounds", "(III)I"⟩
abbrev cX2_askElements : ByteArray := prog_4_method_5_code
def yX2_askElements : MethodName := ⟨RX2, "askElements", "(III)I"⟩
abbrev cX2_askClasses : ByteArray := prog_4_method_6_code
def yX2_askClasses : MethodName := ⟨RX2, "askClasses", "(III)I"⟩
abbrev cX2_askSame : ByteArray := prog_4_method_7_code
def yX2_askSame : MethodName := ⟨RX2, "askSame", "(III)I"⟩
abbrev cX2_askIn : ByteArray := prog_4_method_8_code
def yX2_askIn : MethodName := ⟨RX2, "askIn", "(III)I"⟩
def RX3 : String := "TypeForms2$Printer"
def TX3 : u_T := fun k => match k with
  | 0 => ("TypeForms2$Printer", "types", "LTypeForms2$Types;", true)
  | 1 => ("TypeForms2$Printer", "text", "[I", true)
  | 2 => ("TypeForms2$Printer", "line", "[I", true)
  | 3 => ("TypeForms2$Printer", "length", "I", false)
  | _ => ("TypeForms2$Printer", "written", "I", false)
def tyX3 : Nat → FieldType := fun k => match k with
  | 0 => .object "TypeForms2$Types"
  | 1 => .array .int
  | 2 => .array .int
  | 3 => .int
  | _ => .int
abbrev wsX30 : List Cond := u_ws RX3 TX3 5
theorem nmX3 : ∀ a, a < 5 → ∀ b, b < 5 → a ≠ b → (TX3 a).2.1 ≠ (TX3 b).2.1 := by decide +kernel
theorem tyX3_ok : ∀ k, k < 5 → parseFieldDescriptor (TX3 k).2.2.1 = some (tyX3 k) := by decide +kernel
abbrev cX3_init : ByteArray := prog_5_method_1_code
def yX3_init : MethodName := ⟨RX3, "<init>", "(LTypeForms2$Types;)V"⟩
abbrev cX3_length : ByteArray := prog_5_method_2_code
def yX3_length : MethodName := ⟨RX3, "length", "()I"⟩
abbrev cX3_byteAt : ByteArray := prog_5_method_3_code
def yX3_byteAt : MethodName := ⟨RX3, "byteAt", "(I)I"⟩
abbrev cX3_put : ByteArray := prog_5_method_4_code
def yX3_put : MethodName := ⟨RX3, "put", "(I)I"⟩
abbrev cX3_write : ByteArray := prog_5_method_5_code
def yX3_write : MethodName := ⟨RX3, "write", "(I)V"⟩
abbrev cX3_writeType : ByteArray := prog_5_method_6_code
def yX3_writeType : MethodName := ⟨RX3, "writeType", "(II)V"⟩
abbrev cX3_writeArguments : ByteArray := prog_5_method_7_code
def yX3_writeArguments : MethodName := ⟨RX3, "writeArguments", "(II)V"⟩
def RX4 : String := "TypeForms2$Reader"
def TX4 : u_T := fun k => match k with
  | 0 => ("TypeForms2$Reader", "declarations", "LTypeForms2$Declarations;", true)
  | 1 => ("TypeForms2$Reader", "types", "LTypeForms2$Types;", true)
  | 2 => ("TypeForms2$Reader", "rules", "LTypeForms2$Rules;", true)
  | 3 => ("TypeForms2$Reader", "tape", "[I", true)
  | 4 => ("TypeForms2$Reader", "length", "I", false)
  | 5 => ("TypeForms2$Reader", "at", "I", false)
  | _ => ("TypeForms2$Reader", "fault", "I", false)
def tyX4 : Nat → FieldType := fun k => match k with
  | 0 => .object "TypeForms2$Declarations"
  | 1 => .object "TypeForms2$Types"
  | 2 => .object "TypeForms2$Rules"
  | 3 => .array .int
  | 4 => .int
  | 5 => .int
  | _ => .int
abbrev wsX40 : List Cond := u_ws RX4 TX4 7
theorem nmX4 : ∀ a, a < 7 → ∀ b, b < 7 → a ≠ b → (TX4 a).2.1 ≠ (TX4 b).2.1 := by decide +kernel
theorem tyX4_ok : ∀ k, k < 7 → parseFieldDescriptor (TX4 k).2.2.1 = some (tyX4 k) := by decide +kernel
abbrev cX4_init : ByteArray := prog_6_method_1_code
def yX4_init : MethodName := ⟨RX4, "<init>", "(LTypeForms2$Declarations;LTypeForms2$Types;LTypeForms2$Rules;)V"⟩
abbrev cX4_length : ByteArray := prog_6_method_2_code
def yX4_length : MethodName := ⟨RX4, "length", "()I"⟩
abbrev cX4_take : ByteArray := prog_6_method_3_code
def yX4_take : MethodName := ⟨RX4, "take", "(IJ)I"⟩
abbrev cX4_start : ByteArray := prog_6_method_4_code
def yX4_start : MethodName := ⟨RX4, "start", "()V"⟩
abbrev cX4_finish : ByteArray := prog_6_method_5_code
def yX4_finish : MethodName := ⟨RX4, "finish", "()I"⟩
abbrev cX4_next : ByteArray := prog_6_method_6_code
def yX4_next : MethodName := ⟨RX4, "next", "()I"⟩
abbrev cX4_faultAt : ByteArray := prog_6_method_7_code
def yX4_faultAt : MethodName := ⟨RX4, "faultAt", "(I)I"⟩
abbrev cX4_typeText : ByteArray := prog_6_method_8_code
def yX4_typeText : MethodName := ⟨RX4, "typeText", "(I)I"⟩
abbrev cX4_baseText : ByteArray := prog_6_method_9_code
def yX4_baseText : MethodName := ⟨RX4, "baseText", "(I)I"⟩
abbrev cX4_variableText : ByteArray := prog_6_method_10_code
def yX4_variableText : MethodName := ⟨RX4, "variableText", "(I)I"⟩
abbrev cX4_partText : ByteArray := prog_6_method_11_code
def yX4_partText : MethodName := ⟨RX4, "partText", "(II)I"⟩
abbrev cX4_argumentText : ByteArray := prog_6_method_12_code
def yX4_argumentText : MethodName := ⟨RX4, "argumentText", "(I)I"⟩
def RX5 : String := "TypeForms2$Rules"
def TX5 : u_T := fun k => match k with
  | 0 => ("TypeForms2$Rules", "declarations", "LTypeForms2$Declarations;", true)
  | 1 => ("TypeForms2$Rules", "types", "LTypeForms2$Types;", true)
  | 2 => ("TypeForms2$Rules", "forms", "LTypeForms2$Forms;", true)
  | _ => ("TypeForms2$Rules", "order", "LTypeForms2$Order;", true)
def tyX5 : Nat → FieldType := fun k => match k with
  | 0 => .object "TypeForms2$Declarations"
  | 1 => .object "TypeForms2$Types"
  | 2 => .object "TypeForms2$Forms"
  | _ => .object "TypeForms2$Order"
abbrev wsX50 : List Cond := u_ws RX5 TX5 4
theorem nmX5 : ∀ a, a < 4 → ∀ b, b < 4 → a ≠ b → (TX5 a).2.1 ≠ (TX5 b).2.1 := by decide +kernel
theorem tyX5_ok : ∀ k, k < 4 → parseFieldDescriptor (TX5 k).2.2.1 = some (tyX5 k) := by decide +kernel
abbrev cX5_init : ByteArray := prog_7_method_1_code
def yX5_init : MethodName := ⟨RX5, "<init>", "(LTypeForms2$Declarations;LTypeForms2$Types;LTypeForms2$Forms;LTypeForms2$Order;)V"⟩
abbrev cX5_ofBound : ByteArray := prog_7_method_2_code
def yX5_ofBound : MethodName := ⟨RX5, "ofBound", "(III)I"⟩
abbrev cX5_ofParent : ByteArray := prog_7_method_3_code
def yX5_ofParent : MethodName := ⟨RX5, "ofParent", "(II)I"⟩
abbrev cX5_isAsTold : ByteArray := prog_7_method_4_code
def yX5_isAsTold : MethodName := ⟨RX5, "isAsTold", "(II)Z"⟩
abbrev cX5_comesTo : ByteArray := prog_7_method_5_code
def yX5_comesTo : MethodName := ⟨RX5, "comesTo", "(II)Z"⟩
abbrev cX5_ofMade : ByteArray := prog_7_method_6_code
def yX5_ofMade : MethodName := ⟨RX5, "ofMade", "(IIIII)I"⟩
abbrev cX5_ofMadeShape : ByteArray := prog_7_method_7_code
def yX5_ofMadeShape : MethodName := ⟨RX5, "ofMadeShape", "(IIIII)I"⟩
def RX6 : String := "TypeForms2$Types"
def TX6 : u_T := fun k => match k with
  | 0 => ("TypeForms2$Types", "declarations", "LTypeForms2$Declarations;", true)
  | 1 => ("TypeForms2$Types", "form", "[I", true)
  | 2 => ("TypeForms2$Types", "owner", "[I", true)
  | 3 => ("TypeForms2$Types", "place", "[I", true)
  | 4 => ("TypeForms2$Types", "inner", "[I", true)
  | 5 => ("TypeForms2$Types", "arguments", "[I", true)
  | 6 => ("TypeForms2$Types", "size", "[I", true)
  | 7 => ("TypeForms2$Types", "raw", "[Z", true)
  | 8 => ("TypeForms2$Types", "open", "[Z", true)
  | 9 => ("TypeForms2$Types", "nodes", "I", false)
  | 10 => ("TypeForms2$Types", "top", "I", false)
  | 11 => ("TypeForms2$Types", "keeping", "Z", false)
  | _ => ("TypeForms2$Types", "full", "Z", false)
def tyX6 : Nat → FieldType := fun k => match k with
  | 0 => .object "TypeForms2$Declarations"
  | 1 => .array .int
  | 2 => .array .int
  | 3 => .array .int
  | 4 => .array .int
  | 5 => .array .int
  | 6 => .array .int
  | 7 => .array .boolean
  | 8 => .array .boolean
  | 9 => .int
  | 10 => .int
  | 11 => .boolean
  | _ => .boolean
abbrev wsX60 : List Cond := u_ws RX6 TX6 13
theorem nmX6 : ∀ a, a < 13 → ∀ b, b < 13 → a ≠ b → (TX6 a).2.1 ≠ (TX6 b).2.1 := by decide +kernel
theorem tyX6_ok : ∀ k, k < 13 → parseFieldDescriptor (TX6 k).2.2.1 = some (tyX6 k) := by decide +kernel
abbrev cX6_init : ByteArray := prog_8_method_1_code
def yX6_init : MethodName := ⟨RX6, "<init>", "(LTypeForms2$Declarations;)V"⟩
abbrev cX6_setPlain : ByteArray := prog_8_method_2_code
def yX6_setPlain : MethodName := ⟨RX6, "setPlain", "(IIII)V"⟩
abbrev cX6_number : ByteArray := prog_8_method_3_code
def yX6_number : MethodName := ⟨RX6, "number", "()I"⟩
abbrev cX6_isNode : ByteArray := prog_8_method_4_code
def yX6_isNode : MethodName := ⟨RX6, "isNode", "(I)Z"⟩
abbrev cX6_hasRoomFor : ByteArray := prog_8_method_5_code
def yX6_hasRoomFor : MethodName := ⟨RX6, "hasRoomFor", "(I)Z"⟩
abbrev cX6_addVariables : ByteArray := prog_8_method_6_code
def yX6_addVariables : MethodName := ⟨RX6, "addVariables", "(II)I"⟩
abbrev cX6_formOf : ByteArray := prog_8_method_7_code
def yX6_formOf : MethodName := ⟨RX6, "formOf", "(I)I"⟩
abbrev cX6_ownerOf : ByteArray := prog_8_method_8_code
def yX6_ownerOf : MethodName := ⟨RX6, "ownerOf", "(I)I"⟩
abbrev cX6_placeOf : ByteArray := prog_8_method_9_code
def yX6_placeOf : MethodName := ⟨RX6, "placeOf", "(I)I"⟩
abbrev cX6_elementOf : ByteArray := prog_8_method_10_code
def yX6_elementOf : MethodName := ⟨RX6, "elementOf", "(I)I"⟩
abbrev cX6_outerOf : ByteArray := prog_8_method_11_code
def yX6_outerOf : MethodName := ⟨RX6, "outerOf", "(I)I"⟩
abbrev cX6_argumentAt : ByteArray := prog_8_method_12_code
def yX6_argumentAt : MethodName := ⟨RX6, "argumentAt", "(II)I"⟩
abbrev cX6_argumentsOf : ByteArray := prog_8_method_13_code
def yX6_argumentsOf : MethodName := ⟨RX6, "argumentsOf", "(I)I"⟩
abbrev cX6_isRaw : ByteArray := prog_8_method_14_code
def yX6_isRaw : MethodName := ⟨RX6, "isRaw", "(I)Z"⟩
abbrev cX6_isOpen : ByteArray := prog_8_method_15_code
def yX6_isOpen : MethodName := ⟨RX6, "isOpen", "(I)Z"⟩
abbrev cX6_canBeArgument : ByteArray := prog_8_method_16_code
def yX6_canBeArgument : MethodName := ⟨RX6, "canBeArgument", "(I)Z"⟩
abbrev cX6_canBeElement : ByteArray := prog_8_method_17_code
def yX6_canBeElement : MethodName := ⟨RX6, "canBeElement", "(I)Z"⟩
abbrev cX6_mark : ByteArray := prog_8_method_18_code
def yX6_mark : MethodName := ⟨RX6, "mark", "()I"⟩
abbrev cX6_release : ByteArray := prog_8_method_19_code
def yX6_release : MethodName := ⟨RX6, "release", "(I)V"⟩
abbrev cX6_forget : ByteArray := prog_8_method_20_code
def yX6_forget : MethodName := ⟨RX6, "forget", "()V"⟩
abbrev cX6_shaped : ByteArray := prog_8_method_21_code
def yX6_shaped : MethodName := ⟨RX6, "shaped", "(IIIIII)I"⟩
abbrev cX6_answer : ByteArray := prog_8_method_22_code
def yX6_answer : MethodName := ⟨RX6, "answer", "(I)I"⟩
abbrev cX6_keep : ByteArray := prog_8_method_23_code
def yX6_keep : MethodName := ⟨RX6, "keep", "(II)I"⟩
abbrev cX6_keepArgument : ByteArray := prog_8_method_24_code
def yX6_keepArgument : MethodName := ⟨RX6, "keepArgument", "(II)I"⟩
def RX7 : String := "TypeForms2"
def TX7 : u_T := fun k => match k with
  | 0 => ("TypeForms2", "declarations", "LTypeForms2$Declarations;", true)
  | 1 => ("TypeForms2", "types", "LTypeForms2$Types;", true)
  | 2 => ("TypeForms2", "forms", "LTypeForms2$Forms;", true)
  | 3 => ("TypeForms2", "order", "LTypeForms2$Order;", true)
  | 4 => ("TypeForms2", "rules", "LTypeForms2$Rules;", true)
  | 5 => ("TypeForms2", "reader", "LTypeForms2$Reader;", true)
  | 6 => ("TypeForms2", "printer", "LTypeForms2$Printer;", true)
  | 7 => ("TypeForms2", "draft", "[I", true)
  | _ => ("TypeForms2", "drafted", "I", false)
def tyX7 : Nat → FieldType := fun k => match k with
  | 0 => .object "TypeForms2$Declarations"
  | 1 => .object "TypeForms2$Types"
  | 2 => .object "TypeForms2$Forms"
  | 3 => .object "TypeForms2$Order"
  | 4 => .object "TypeForms2$Rules"
  | 5 => .object "TypeForms2$Reader"
  | 6 => .object "TypeForms2$Printer"
  | 7 => .array .int
  | _ => .int
abbrev wsX70 : List Cond := u_ws RX7 TX7 9
theorem nmX7 : ∀ a, a < 9 → ∀ b, b < 9 → a ≠ b → (TX7 a).2.1 ≠ (TX7 b).2.1 := by decide +kernel
theorem tyX7_ok : ∀ k, k < 9 → parseFieldDescriptor (TX7 k).2.2.1 = some (tyX7 k) := by decide +kernel
abbrev cX7_init : ByteArray := prog_1_method_1_code
def yX7_init : MethodName := ⟨RX7, "<init>", "()V"⟩
abbrev cX7_declare : ByteArray := prog_1_method_2_code
def yX7_declare : MethodName := ⟨RX7, "declare", "(III)I"⟩
abbrev cX7_variable : ByteArray := prog_1_method_3_code
def yX7_variable : MethodName := ⟨RX7, "variable", "(II)I"⟩
abbrev cX7_bound : ByteArray := prog_1_method_4_code
def yX7_bound : MethodName := ⟨RX7, "bound", "(III)I"⟩
abbrev cX7_parent : ByteArray := prog_1_method_5_code
def yX7_parent : MethodName := ⟨RX7, "parent", "(II)I"⟩
abbrev cX7_argument : ByteArray := prog_1_method_6_code
def yX7_argument : MethodName := ⟨RX7, "argument", "(II)I"⟩
abbrev cX7_make : ByteArray := prog_1_method_7_code
def yX7_make : MethodName := ⟨RX7, "make", "(II)I"⟩
abbrev cX7_array : ByteArray := prog_1_method_8_code
def yX7_array : MethodName := ⟨RX7, "array", "(I)I"⟩
abbrev cX7_about : ByteArray := prog_1_method_9_code
def yX7_about : MethodName := ⟨RX7, "about", "(II)I"⟩
abbrev cX7_below : ByteArray := prog_1_method_10_code
def yX7_below : MethodName := ⟨RX7, "below", "(II)I"⟩
abbrev cX7_erased : ByteArray := prog_1_method_11_code
def yX7_erased : MethodName := ⟨RX7, "erased", "(I)I"⟩
abbrev cX7_whole : ByteArray := prog_1_method_12_code
def yX7_whole : MethodName := ⟨RX7, "whole", "(I)I"⟩
abbrev cX7_above : ByteArray := prog_1_method_13_code
def yX7_above : MethodName := ⟨RX7, "above", "(II)I"⟩
abbrev cX7_member : ByteArray := prog_1_method_14_code
def yX7_member : MethodName := ⟨RX7, "member", "(II)I"⟩
abbrev cX7_feed : ByteArray := prog_1_method_15_code
def yX7_feed : MethodName := ⟨RX7, "feed", "(IJ)I"⟩
abbrev cX7_read : ByteArray := prog_1_method_16_code
def yX7_read : MethodName := ⟨RX7, "read", "()I"⟩
abbrev cX7_print : ByteArray := prog_1_method_17_code
def yX7_print : MethodName := ⟨RX7, "print", "(I)I"⟩
abbrev cX7_out : ByteArray := prog_1_method_18_code
def yX7_out : MethodName := ⟨RX7, "out", "(I)I"⟩
abbrev cX7_count : ByteArray := prog_1_method_19_code
def yX7_count : MethodName := ⟨RX7, "count", "(I)I"⟩
abbrev cX7_argumentOf : ByteArray := prog_1_method_20_code
def yX7_argumentOf : MethodName := ⟨RX7, "argumentOf", "(II)I"⟩
abbrev cX7_wildOf : ByteArray := prog_1_method_21_code
def yX7_wildOf : MethodName := ⟨RX7, "wildOf", "(I)I"⟩
abbrev cX7_typeOf : ByteArray := prog_1_method_22_code
def yX7_typeOf : MethodName := ⟨RX7, "typeOf", "(I)I"⟩
def RX8 : String := "TypeForms2Model"
def TX8 : u_T := fun k => match k with
  | 0 => ("TypeForms2Model", "many", "I", false)
  | 1 => ("TypeForms2Model", "top", "I", false)
  | 2 => ("TypeForms2Model", "form", "[I", true)
  | 3 => ("TypeForms2Model", "decl", "[I", true)
  | 4 => ("TypeForms2Model", "place", "[I", true)
  | 5 => ("TypeForms2Model", "elem", "[I", true)
  | 6 => ("TypeForms2Model", "outer", "[I", true)
  | 7 => ("TypeForms2Model", "argMany", "[I", true)
  | 8 => ("TypeForms2Model", "size", "[I", true)
  | 9 => ("TypeForms2Model", "wild", "[I", true)
  | 10 => ("TypeForms2Model", "arg", "[I", true)
  | 11 => ("TypeForms2Model", "mark", "[Z", true)
  | 12 => ("TypeForms2Model", "map", "[I", true)
  | 13 => ("TypeForms2Model", "decls", "I", false)
  | 14 => ("TypeForms2Model", "dKind", "[I", true)
  | 15 => ("TypeForms2Model", "dParams", "[I", true)
  | 16 => ("TypeForms2Model", "dOuter", "[I", true)
  | 17 => ("TypeForms2Model", "parentMany", "[I", true)
  | 18 => ("TypeForms2Model", "parents", "[I", true)
  | 19 => ("TypeForms2Model", "boundMany", "[I", true)
  | 20 => ("TypeForms2Model", "bounds", "[I", true)
  | 21 => ("TypeForms2Model", "drafted", "I", false)
  | 22 => ("TypeForms2Model", "draftWild", "[I", true)
  | 23 => ("TypeForms2Model", "draftArg", "[I", true)
  | 24 => ("TypeForms2Model", "newMany", "I", false)
  | 25 => ("TypeForms2Model", "newWild", "[I", true)
  | 26 => ("TypeForms2Model", "newArg", "[I", true)
  | 27 => ("TypeForms2Model", "taped", "I", false)
  | 28 => ("TypeForms2Model", "tape", "[I", true)
  | 29 => ("TypeForms2Model", "outMany", "I", false)
  | 30 => ("TypeForms2Model", "out", "[I", true)
  | 31 => ("TypeForms2Model", "chain", "[I", true)
  | 32 => ("TypeForms2Model", "toldWild", "I", false)
  | 33 => ("TypeForms2Model", "toldArg", "I", false)
  | 34 => ("TypeForms2Model", "askA", "[I", true)
  | 35 => ("TypeForms2Model", "askB", "[I", true)
  | 36 => ("TypeForms2Model", "askStep", "[I", true)
  | 37 => ("TypeForms2Model", "askWorst", "[I", true)
  | 38 => ("TypeForms2Model", "stack", "[I", true)
  | 39 => ("TypeForms2Model", "stage", "[I", true)
  | 40 => ("TypeForms2Model", "madeType", "I", false)
  | 41 => ("TypeForms2Model", "partDecl", "[I", true)
  | 42 => ("TypeForms2Model", "partAt", "[I", true)
  | 43 => ("TypeForms2Model", "partOuter", "[I", true)
  | 44 => ("TypeForms2Model", "partMany", "[I", true)
  | 45 => ("TypeForms2Model", "partWild", "[I", true)
  | 46 => ("TypeForms2Model", "partArg", "[I", true)
  | 47 => ("TypeForms2Model", "argWild", "[I", true)
  | 48 => ("TypeForms2Model", "argAt", "[I", true)
  | 49 => ("TypeForms2Model", "at", "I", false)
  | 50 => ("TypeForms2Model", "deep", "I", false)
  | 51 => ("TypeForms2Model", "node", "I", false)
  | 52 => ("TypeForms2Model", "fault", "I", false)
  | 53 => ("TypeForms2Model", "printed", "[I", true)
  | 54 => ("TypeForms2Model", "printMany", "I", false)
  | _ => ("TypeForms2Model", "stacked", "I", false)
def tyX8 : Nat → FieldType := fun k => match k with
  | 0 => .int
  | 1 => .int
  | 2 => .array .int
  | 3 => .array .int
  | 4 => .array .int
  | 5 => .array .int
  | 6 => .array .int
  | 7 => .array .int
  | 8 => .array .int
  | 9 => .array .int
  | 10 => .array .int
  | 11 => .array .boolean
  | 12 => .array .int
  | 13 => .int
  | 14 => .array .int
  | 15 => .array .int
  | 16 => .array .int
  | 17 => .array .int
  | 18 => .array .int
  | 19 => .array .int
  | 20 => .array .int
  | 21 => .int
  | 22 => .array .int
  | 23 => .array .int
  | 24 => .int
  | 25 => .array .int
  | 26 => .array .int
  | 27 => .int
  | 28 => .array .int
  | 29 => .int
  | 30 => .array .int
  | 31 => .array .int
  | 32 => .int
  | 33 => .int
  | 34 => .array .int
  | 35 => .array .int
  | 36 => .array .int
  | 37 => .array .int
  | 38 => .array .int
  | 39 => .array .int
  | 40 => .int
  | 41 => .array .int
  | 42 => .array .int
  | 43 => .array .int
  | 44 => .array .int
  | 45 => .array .int
  | 46 => .array .int
  | 47 => .array .int
  | 48 => .array .int
  | 49 => .int
  | 50 => .int
  | 51 => .int
  | 52 => .int
  | 53 => .array .int
  | 54 => .int
  | _ => .int
abbrev wsX80 : List Cond := u_ws RX8 TX8 56
theorem nmX8 : ∀ a, a < 56 → ∀ b, b < 56 → a ≠ b → (TX8 a).2.1 ≠ (TX8 b).2.1 := by decide +kernel
theorem tyX8_ok : ∀ k, k < 56 → parseFieldDescriptor (TX8 k).2.2.1 = some (tyX8 k) := by decide +kernel
abbrev cX8_init : ByteArray := prog_10_method_1_code
def yX8_init : MethodName := ⟨RX8, "<init>", "()V"⟩
abbrev cX8_in : ByteArray := prog_10_method_3_code
def yX8_in : MethodName := ⟨RX8, "in", "(III)Z"⟩
abbrev cX8_isNode : ByteArray := prog_10_method_4_code
def yX8_isNode : MethodName := ⟨RX8, "isNode", "(I)Z"⟩
abbrev cX8_isDecl : ByteArray := prog_10_method_5_code
def yX8_isDecl : MethodName := ⟨RX8, "isDecl", "(I)Z"⟩
abbrev cX8_isSame : ByteArray := prog_10_method_6_code
def yX8_isSame : MethodName := ⟨RX8, "isSame", "(IIIIII)Z"⟩
abbrev cX8_write : ByteArray := prog_10_method_7_code
def yX8_write : MethodName := ⟨RX8, "write", "(IIIIII)V"⟩
abbrev cX8_type : ByteArray := prog_10_method_8_code
def yX8_type : MethodName := ⟨RX8, "type", "(IIIII)I"⟩
abbrev cX8_arrayOf : ByteArray := prog_10_method_9_code
def yX8_arrayOf : MethodName := ⟨RX8, "arrayOf", "(I)I"⟩
abbrev cX8_bare : ByteArray := prog_10_method_10_code
def yX8_bare : MethodName := ⟨RX8, "bare", "(II)I"⟩
abbrev cX8_lower : ByteArray := prog_10_method_11_code
def yX8_lower : MethodName := ⟨RX8, "lower", "(I)I"⟩
abbrev cX8_higher : ByteArray := prog_10_method_12_code
def yX8_higher : MethodName := ⟨RX8, "higher", "(I)I"⟩
abbrev cX8_reach : ByteArray := prog_10_method_13_code
def yX8_reach : MethodName := ⟨RX8, "reach", "(I)V"⟩
abbrev cX8_hasVariable : ByteArray := prog_10_method_14_code
def yX8_hasVariable : MethodName := ⟨RX8, "hasVariable", "(I)Z"⟩
abbrev cX8_isRaw : ByteArray := prog_10_method_15_code
def yX8_isRaw : MethodName := ⟨RX8, "isRaw", "(I)Z"⟩
abbrev cX8_erasedOf : ByteArray := prog_10_method_16_code
def yX8_erasedOf : MethodName := ⟨RX8, "erasedOf", "(I)I"⟩
abbrev cX8_isTold : ByteArray := prog_10_method_17_code
def yX8_isTold : MethodName := ⟨RX8, "isTold", "(II)Z"⟩
abbrev cX8_putVariable : ByteArray := prog_10_method_18_code
def yX8_putVariable : MethodName := ⟨RX8, "putVariable", "(II)I"⟩
abbrev cX8_putArgument : ByteArray := prog_10_method_19_code
def yX8_putArgument : MethodName := ⟨RX8, "putArgument", "(IIII)V"⟩
abbrev cX8_putIn : ByteArray := prog_10_method_20_code
def yX8_putIn : MethodName := ⟨RX8, "putIn", "(II)I"⟩
abbrev cX8_putPart : ByteArray := prog_10_method_21_code
def yX8_putPart : MethodName := ⟨RX8, "putPart", "(II)V"⟩
abbrev cX8_comesTo : ByteArray := prog_10_method_22_code
def yX8_comesTo : MethodName := ⟨RX8, "comesTo", "(II)Z"⟩
abbrev cX8_superOf : ByteArray := prog_10_method_23_code
def yX8_superOf : MethodName := ⟨RX8, "superOf", "(II)I"⟩
abbrev cX8_isPlain : ByteArray := prog_10_method_24_code
def yX8_isPlain : MethodName := ⟨RX8, "isPlain", "(I)Z"⟩
abbrev cX8_isWider : ByteArray := prog_10_method_25_code
def yX8_isWider : MethodName := ⟨RX8, "isWider", "(II)Z"⟩
abbrev cX8_atOnce : ByteArray := prog_10_method_26_code
def yX8_atOnce : MethodName := ⟨RX8, "atOnce", "(II)I"⟩
abbrev cX8_isObject : ByteArray := prog_10_method_27_code
def yX8_isObject : MethodName := ⟨RX8, "isObject", "(I)Z"⟩
abbrev cX8_belowOf : ByteArray := prog_10_method_28_code
def yX8_belowOf : MethodName := ⟨RX8, "belowOf", "(II)I"⟩
abbrev cX8_goOn : ByteArray := prog_10_method_29_code
def yX8_goOn : MethodName := ⟨RX8, "goOn", "(II)I"⟩
abbrev cX8_ask : ByteArray := prog_10_method_30_code
def yX8_ask : MethodName := ⟨RX8, "ask", "(III)V"⟩
abbrev cX8_part : ByteArray := prog_10_method_31_code
def yX8_part : MethodName := ⟨RX8, "part", "(II)I"⟩
abbrev cX8_told : ByteArray := prog_10_method_32_code
def yX8_told : MethodName := ⟨RX8, "told", "(I)I"⟩
abbrev cX8_real : ByteArray := prog_10_method_33_code
def yX8_real : MethodName := ⟨RX8, "real", "(I)I"⟩
abbrev cX8_copy : ByteArray := prog_10_method_34_code
def yX8_copy : MethodName := ⟨RX8, "copy", "(I)V"⟩
abbrev cX8_declare : ByteArray := prog_10_method_35_code
def yX8_declare : MethodName := ⟨RX8, "declare", "(III)I"⟩
abbrev cX8_variable : ByteArray := prog_10_method_36_code
def yX8_variable : MethodName := ⟨RX8, "variable", "(II)I"⟩
abbrev cX8_isTellable : ByteArray := prog_10_method_37_code
def yX8_isTellable : MethodName := ⟨RX8, "isTellable", "(II)Z"⟩
abbrev cX8_bound : ByteArray := prog_10_method_38_code
def yX8_bound : MethodName := ⟨RX8, "bound", "(III)I"⟩
abbrev cX8_leadsTo : ByteArray := prog_10_method_39_code
def yX8_leadsTo : MethodName := ⟨RX8, "leadsTo", "(II)Z"⟩
abbrev cX8_parent : ByteArray := prog_10_method_40_code
def yX8_parent : MethodName := ⟨RX8, "parent", "(II)I"⟩
abbrev cX8_argument : ByteArray := prog_10_method_41_code
def yX8_argument : MethodName := ⟨RX8, "argument", "(II)I"⟩
abbrev cX8_wrong : ByteArray := prog_10_method_42_code
def yX8_wrong : MethodName := ⟨RX8, "wrong", "(III[I[II)I"⟩
abbrev cX8_make : ByteArray := prog_10_method_43_code
def yX8_make : MethodName := ⟨RX8, "make", "(II)I"⟩
abbrev cX8_array : ByteArray := prog_10_method_44_code
def yX8_array : MethodName := ⟨RX8, "array", "(I)I"⟩
abbrev cX8_about : ByteArray := prog_10_method_45_code
def yX8_about : MethodName := ⟨RX8, "about", "(II)I"⟩
abbrev cX8_below : ByteArray := prog_10_method_46_code
def yX8_below : MethodName := ⟨RX8, "below", "(II)I"⟩
abbrev cX8_erased : ByteArray := prog_10_method_47_code
def yX8_erased : MethodName := ⟨RX8, "erased", "(I)I"⟩
abbrev cX8_whole : ByteArray := prog_10_method_48_code
def yX8_whole : MethodName := ⟨RX8, "whole", "(I)I"⟩
abbrev cX8_above : ByteArray := prog_10_method_49_code
def yX8_above : MethodName := ⟨RX8, "above", "(II)I"⟩
abbrev cX8_member : ByteArray := prog_10_method_50_code
def yX8_member : MethodName := ⟨RX8, "member", "(II)I"⟩
abbrev cX8_feed : ByteArray := prog_10_method_51_code
def yX8_feed : MethodName := ⟨RX8, "feed", "(IJ)I"⟩
abbrev cX8_byteAt : ByteArray := prog_10_method_52_code
def yX8_byteAt : MethodName := ⟨RX8, "byteAt", "(I)I"⟩
abbrev cX8_faultAt : ByteArray := prog_10_method_53_code
def yX8_faultAt : MethodName := ⟨RX8, "faultAt", "(I)I"⟩
abbrev cX8_readType : ByteArray := prog_10_method_54_code
def yX8_readType : MethodName := ⟨RX8, "readType", "()I"⟩
abbrev cX8_readLetter : ByteArray := prog_10_method_55_code
def yX8_readLetter : MethodName := ⟨RX8, "readLetter", "(I)I"⟩
abbrev cX8_readPart : ByteArray := prog_10_method_56_code
def yX8_readPart : MethodName := ⟨RX8, "readPart", "()I"⟩
abbrev cX8_readArgument : ByteArray := prog_10_method_57_code
def yX8_readArgument : MethodName := ⟨RX8, "readArgument", "()I"⟩
abbrev cX8_keep : ByteArray := prog_10_method_58_code
def yX8_keep : MethodName := ⟨RX8, "keep", "(II)V"⟩
abbrev cX8_readBehind : ByteArray := prog_10_method_59_code
def yX8_readBehind : MethodName := ⟨RX8, "readBehind", "()I"⟩
abbrev cX8_readClosed : ByteArray := prog_10_method_60_code
def yX8_readClosed : MethodName := ⟨RX8, "readClosed", "()I"⟩
abbrev cX8_readSuffix : ByteArray := prog_10_method_61_code
def yX8_readSuffix : MethodName := ⟨RX8, "readSuffix", "()I"⟩
abbrev cX8_read : ByteArray := prog_10_method_62_code
def yX8_read : MethodName := ⟨RX8, "read", "()I"⟩
abbrev cX8_push : ByteArray := prog_10_method_63_code
def yX8_push : MethodName := ⟨RX8, "push", "(I)V"⟩
abbrev cX8_pushParts : ByteArray := prog_10_method_64_code
def yX8_pushParts : MethodName := ⟨RX8, "pushParts", "(I)V"⟩
abbrev cX8_print : ByteArray := prog_10_method_65_code
def yX8_print : MethodName := ⟨RX8, "print", "(I)I"⟩
abbrev cX8_out : ByteArray := prog_10_method_66_code
def yX8_out : MethodName := ⟨RX8, "out", "(I)I"⟩
abbrev cX8_count : ByteArray := prog_10_method_67_code
def yX8_count : MethodName := ⟨RX8, "count", "(I)I"⟩
end
section
/-! THE SMALL MACHINE: a run of the methods' code over pictures of cells: cell k holds h k j at its place j -/
abbrev ai_H : Type := Nat → Nat → Int32
abbrev ai_Sh : Type := List ((Bool × Nat) ⊕ (Nat × List (Option Nat)))
/-- an instruction, its length, three numbers that it uses, a constant -/
abbrev ai_I : Type := Instr × Nat × Nat × Nat × Nat × Int32
abbrev ai_Lc : Type := List (Option Value)
def ai_up (h : ai_H) (k i : Nat) (x : Int32) : ai_H := fun j => if j = k then upd (h k) i x else h j
def ai_cp (h : ai_H) (k0 k1 sp dp n : Nat) : ai_H := fun j => if j = k1 then va_cpy (h k0) (h k1) sp dp n else h j
def ai_set : ai_Lc → Nat → Value → Option ai_Lc
  | [], _, _ => none
  | _ :: L, 0, v => some (some v :: L)
  | some (.long _) :: _, 1, _ => none
  | some (.double _) :: _, 1, _ => none
  | x :: L, k + 1, v => (ai_set L k v).map (x :: ·)
def ai_cmp (c : Jvm.ClassFile.Cond) (x y : Int32) : Prop := match c with
  | .eq => x = y
  | .ne => ¬ x = y
  | .lt => x < y
  | .ge => y ≤ x
  | .gt => y < x
  | .le => x ≤ y
def ai_fl (vs : List Value) : ai_Lc := vs.flatMap fun v => if v.category = 2 then [some v, none] else [some v]
def ai_ent (n : Nat) (vs : List Value) : ai_Lc := ai_fl vs ++ List.replicate (n - (ai_fl vs).length) none
/-- n steps from here end, with Q -/
def ai_P (sh : ai_Sh) (mci : Nat → Nat) (cl : Nat → List Value → ai_H → Option Value → ai_H → Prop) (cd : Nat → Option ai_I) (Q : Option Value → ai_H → Prop) : Nat → Nat → ai_Lc → List Value → ai_H → Prop
  | 0, _, _, _, _ => False
  | n + 1, pc, L, S, h => match cd pc with
    | none => False
    | some (i, _, a, b, _, c) => match i with
      | .iconst _ => ai_P sh mci cl cd Q n (pc + 1) L (.int c :: S) h
      | .bipush _ => ai_P sh mci cl cd Q n (pc + 2) L (.int c :: S) h
      | .sipush _ => ai_P sh mci cl cd Q n (pc + 3) L (.int c :: S) h
      | .ldc2_w _ => ai_P sh mci cl cd Q n (pc + 3) L (.long (Int64.ofNat a) :: S) h
      | .aload_n _ => match L[a]? with
        | some (some (.ref x)) => ai_P sh mci cl cd Q n (pc + 1) L (.ref x :: S) h
        | _ => False
      | .aload _ => match L[a]? with
        | some (some (.ref x)) => ai_P sh mci cl cd Q n (pc + 2) L (.ref x :: S) h
        | _ => False
      | .iload_n _ => match L[a]? with
        | some (some (.int x)) => ai_P sh mci cl cd Q n (pc + 1) L (.int x :: S) h
        | _ => False
      | .iload _ => match L[a]? with
        | some (some (.int x)) => ai_P sh mci cl cd Q n (pc + 2) L (.int x :: S) h
        | _ => False
      | .lload_n _ => match L[a]? with
        | some (some (.long x)) => ai_P sh mci cl cd Q n (pc + 1) L (.long x :: S) h
        | _ => False
      | .istore_n _ => match S with
        | .int x :: S' => ∃ L', ai_set L a (.int x) = some L' ∧ ai_P sh mci cl cd Q n (pc + 1) L' S' h
        | _ => False
      | .istore _ => match S with
        | .int x :: S' => ∃ L', ai_set L a (.int x) = some L' ∧ ai_P sh mci cl cd Q n (pc + 2) L' S' h
        | _ => False
      | .iinc _ _ => match L[a]? with
        | some (some (.int x)) => ∃ L', ai_set L a (.int (x + c)) = some L' ∧ ai_P sh mci cl cd Q n (pc + 3) L' S h
        | _ => False
      | .iadd => match S with
        | .int y :: .int x :: S' => ai_P sh mci cl cd Q n (pc + 1) L (.int (x + y) :: S') h
        | _ => False
      | .isub => match S with
        | .int y :: .int x :: S' => ai_P sh mci cl cd Q n (pc + 1) L (.int (x - y) :: S') h
        | _ => False
      | .imul => match S with
        | .int y :: .int x :: S' => ai_P sh mci cl cd Q n (pc + 1) L (.int (x * y) :: S') h
        | _ => False
      | .iand => match S with
        | .int y :: .int x :: S' => ai_P sh mci cl cd Q n (pc + 1) L (.int (x &&& y) :: S') h
        | _ => False
      | .ior => match S with
        | .int y :: .int x :: S' => ai_P sh mci cl cd Q n (pc + 1) L (.int (x ||| y) :: S') h
        | _ => False
      | .ishl => match S with
        | .int y :: .int x :: S' => ai_P sh mci cl cd Q n (pc + 1) L (.int (x <<< (y &&& 31)) :: S') h
        | _ => False
      | .ishr => match S with
        | .int y :: .int x :: S' => ai_P sh mci cl cd Q n (pc + 1) L (.int (x >>> (y &&& 31)) :: S') h
        | _ => False
      | .land => match S with
        | .long y :: .long x :: S' => ai_P sh mci cl cd Q n (pc + 1) L (.long (x &&& y) :: S') h
        | _ => False
      | .lushr => match S with
        | .int y :: .long x :: S' => ai_P sh mci cl cd Q n (pc + 1) L (.long (x.toUInt64 >>> (y.toInt64.toUInt64 &&& Int64.toUInt64 63)).toInt64 :: S') h
        | _ => False
      | .lshr => match S with
        | .int y :: .long x :: S' => ai_P sh mci cl cd Q n (pc + 1) L (.long (x >>> (y.toInt64 &&& 63)) :: S') h
        | _ => False
      | .l2i => match S with
        | .long x :: S' => ai_P sh mci cl cd Q n (pc + 1) L (.int x.toInt32 :: S') h
        | _ => False
      | .dup => match S with
        | v :: S' => v.category = 1 ∧ ai_P sh mci cl cd Q n (pc + 1) L (v :: v :: S') h
        | _ => False
      | .dup2 => match S with
        | v :: u :: S' => v.category = 1 ∧ u.category = 1 ∧ ai_P sh mci cl cd Q n (pc + 1) L (v :: u :: v :: u :: S') h
        | _ => False
      | .getfield _ => match S with
        | .ref k :: S' => match sh[k]? with
          | some (.inr (ci, fs)) => ci = a ∧ (match fs[b]? with
            | some none => ai_P sh mci cl cd Q n (pc + 3) L (.int (h k b) :: S') h
            | some (some k2) => ai_P sh mci cl cd Q n (pc + 3) L (.ref k2 :: S') h
            | none => False)
          | _ => False
        | _ => False
      | .putfield _ => match S with
        | .int x :: .ref k :: S' => (∃ fs, sh[k]? = some (.inr (a, fs)) ∧ fs[b]? = some none) ∧ (c = 0 ∨ x = 0 ∨ x = 1) ∧ ai_P sh mci cl cd Q n (pc + 3) L S' (ai_up h k b x)
        | _ => False
      | .iaload => match S with
        | .int i :: .ref k :: S' => ∃ N, sh[k]? = some (.inl (false, N)) ∧ vp_in i N ∧ ai_P sh mci cl cd Q n (pc + 1) L (.int (h k i.toNatClampNeg) :: S') h
        | _ => False
      | .baload => match S with
        | .int i :: .ref k :: S' => ∃ N, sh[k]? = some (.inl (true, N)) ∧ vp_in i N ∧ ai_P sh mci cl cd Q n (pc + 1) L (.int (h k i.toNatClampNeg) :: S') h
        | _ => False
      | .iastore => match S with
        | .int x :: .int i :: .ref k :: S' => ∃ N, sh[k]? = some (.inl (false, N)) ∧ vp_in i N ∧ ai_P sh mci cl cd Q n (pc + 1) L S' (ai_up h k i.toNatClampNeg x)
        | _ => False
      | .bastore => match S with
        | .int x :: .int i :: .ref k :: S' => ∃ N, sh[k]? = some (.inl (true, N)) ∧ vp_in i N ∧ (x = 0 ∨ x = 1) ∧ ai_P sh mci cl cd Q n (pc + 1) L S' (ai_up h k i.toNatClampNeg x)
        | _ => False
      | .if_icmp cc _ => match S with
        | .int y :: .int x :: S' => (ai_cmp cc x y ∧ ai_P sh mci cl cd Q n a L S' h) ∨ (¬ ai_cmp cc x y ∧ ai_P sh mci cl cd Q n (pc + 3) L S' h)
        | _ => False
      | .ifCond cc _ => match S with
        | .int x :: S' => (ai_cmp cc x 0 ∧ ai_P sh mci cl cd Q n a L S' h) ∨ (¬ ai_cmp cc x 0 ∧ ai_P sh mci cl cd Q n (pc + 3) L S' h)
        | _ => False
      | .goto _ => ai_P sh mci cl cd Q n a L S h
      | .tableswitch d lo hi offs => match S with
        | .int x :: S' => ((x.toInt < lo ∨ hi < x.toInt) ∧ ∃ t : Nat, (pc : Int) + d = (t : Int) ∧ ai_P sh mci cl cd Q n t L S' h) ∨ (¬ x.toInt < lo ∧ ¬ hi < x.toInt ∧ ∃ (off : Int) (t : Nat), offs[(x.toInt - lo).toNat]? = some off ∧ (pc : Int) + off = (t : Int) ∧ ai_P sh mci cl cd Q n t L S' h)
        | _ => False
      | .invokevirtual _ => ∃ (As : List Value) (k : Nat) (rest : List Value) (fs : List (Option Nat)) (v : Option Value) (h2 : ai_H), S = As.reverse ++ .ref k :: rest ∧ As.length = b ∧ sh[k]? = some (.inr (mci a, fs)) ∧ (rest.map fun v => v.category).sum ≤ 8 ∧ cl a (.ref k :: As) h v h2 ∧ ai_P sh mci cl cd Q n (pc + 3) L (v.toList ++ rest) h2
      | .invokestatic _ =>
        if a = 1001 then (match S with
          | .int y :: .int x :: S' => (S'.map fun v => v.category).sum ≤ 8 ∧ ai_P sh mci cl cd Q n (pc + 3) L (.int (if y < x then y else x) :: S') h
          | _ => False)
        else if a = 1002 then (match S with
          | .int y :: .int x :: S' => (S'.map fun v => v.category).sum ≤ 8 ∧ ai_P sh mci cl cd Q n (pc + 3) L (.int (if x < y then y else x) :: S') h
          | _ => False)
        else if a = 1003 then (match S with
          | .int m :: .int dp :: .ref k1 :: .int sp :: .ref k0 :: S' => ∃ N0 N1, sh[k0]? = some (.inl (false, N0)) ∧ sh[k1]? = some (.inl (false, N1)) ∧ ¬ sp < 0 ∧ ¬ dp < 0 ∧ ¬ m < 0 ∧ sp.toNatClampNeg + m.toNatClampNeg ≤ N0 ∧ dp.toNatClampNeg + m.toNatClampNeg ≤ N1 ∧ (S'.map fun v => v.category).sum ≤ 8 ∧ ai_P sh mci cl cd Q n (pc + 3) L S' (ai_cp h k0 k1 sp.toNatClampNeg dp.toNatClampNeg m.toNatClampNeg)
          | _ => False)
        else ∃ (As : List Value) (rest : List Value) (v : Option Value) (h2 : ai_H), S = As.reverse ++ rest ∧ As.length = b ∧ (rest.map fun v => v.category).sum ≤ 8 ∧ cl a As h v h2 ∧ ai_P sh mci cl cd Q n (pc + 3) L (v.toList ++ rest) h2
      | .ireturn => match S with
        | [.int x] => (b = 0 ∨ x = 0 ∨ x = 1) ∧ Q (some (.int x)) h
        | _ => False
      | .return_ => match S with
        | [] => Q none h
        | _ => False
      | _ => False
def ai_R (sh : ai_Sh) (mci : Nat → Nat) (cl : Nat → List Value → ai_H → Option Value → ai_H → Prop) (cd : Nat → Option ai_I) (Q : Option Value → ai_H → Prop) (pc : Nat) (L : ai_Lc) (S : List Value) (h : ai_H) : Prop := ∃ n, ai_P sh mci cl cd Q n pc L S h
/-- a call of method i, at most d deep: its answer r, the cells behind it -/
def ai_C (sh : ai_Sh) (mci ml : Nat → Nat) (cd : Nat → Nat → Option ai_I) : Nat → Nat → List Value → ai_H → Option Value → ai_H → Prop
  | 0, _, _, _, _, _ => False
  | d + 1, i, as, h, r, h2 => (ai_ent (ml i) as).length = ml i ∧ ai_R sh mci (ai_C sh mci ml cd d) (cd i) (fun r' h' => r' = r ∧ h' = h2) 0 (ai_ent (ml i) as) [] h
end
section
abbrev ai_cl : List vw_C := [(RX0, TX0, 12), (RX1, TX1, 2), (RX2, TX2, 3), (RX3, TX3, 5), (RX4, TX4, 7), (RX5, TX5, 4), (RX6, TX6, 13), (RX7, TX7, 9), (RX8, TX8, 56)]
/-- a method: its name, its code, its locals, its type, its class's number, whether it is static, how many arguments -/
abbrev ai_Mt : Type := MethodName × ByteArray × Nat × Option FieldType × Nat × Bool × Nat
def ai_cv (ad : Nat → Nat) : Value → Value
  | .ref k => .ref (ad k)
  | v => v
def ai_fv (ad : Nat → Nat) (h : ai_H) (k j : Nat) (f : Option Nat) : Value := match f with
  | none => .int (h k j)
  | some q => .ref (ad q)
def ai_cell (cA : Bool → ClassId) (ad : Nat → Nat) (h : ai_H) (k : Nat) (c : (Bool × Nat) ⊕ (Nat × List (Option Nat))) : Nat × va_E := (ad k, match c with
  | .inl (z, n) => .inl (cA z, n, .inl (h k))
  | .inr (ci, fs) => .inr (ci, fs.mapIdx (ai_fv ad h k)))
def ai_ws (cA : Bool → ClassId) (ad : Nat → Nat) (sh : ai_Sh) (h : ai_H) : va_W := sh.mapIdx (ai_cell cA ad h)
def ai_A (ad : Nat → Nat) (sh : ai_Sh) : Nat → Prop := fun q => ∃ k, k < sh.length ∧ ad k = q
def ai_lk (ad : Nat → Nat) (ls : Array Slot) (L : ai_Lc) : Prop := ls.size = L.length ∧ lv_wf ls ∧ ∀ (k : Nat) (v : Value), L[k]? = some (some v) → ls[k]? = some (.val (ai_cv ad v))
def ai_rm (d : Nat) : Room := { frames := d, cells := 0, slots := 0, locals := 50 * d }
/-- the words that stay good behind a call, and those of nest mates -/
def ai_tb : List Cond := lw_tbl.filter goodWord
def ai_isN : Cond → Bool
  | .fieldLinkNest .. => true
  | .methodLinkNest .. => true
  | _ => false
def ai_N (U : State) : Prop := ∀ w ∈ lw_tbl, ai_isN w = true → va_Nw w U
theorem ai_N_warm {s U : State} (hW : s.WarmedH U.vm) (h : ai_N s) : ai_N U := by
  intro w hw hn
  have h1 := h w hw hn
  cases w with
  | fieldLinkNest a i b n d h => exact va_Nw.warmF hW h1
  | methodLinkNest a i x h => exact va_Nw.warmM hW h1
  | _ => cases hn
theorem ai_N_same {u U : State} (e : u.vm = U.vm) (h : ai_N u) : ai_N U := by
  intro w hw hn
  have h1 := h w hw hn
  cases w with
  | fieldLinkNest a i b n d h => exact va_Nw.same rfl e h1
  | methodLinkNest a i x h => exact va_Nw.same rfl e h1
  | _ => cases hn
theorem ai_tb_in {w : Cond} (h : w ∈ lw_tbl) (g : goodWord w = true) : w ∈ ai_tb := List.mem_filter.mpr ⟨h, g⟩
theorem ai_tb_at {w : Cond} {i : Nat} (h : lw_tbl[i]? = some w) (g : goodWord w = true) : w ∈ ai_tb := ai_tb_in (List.mem_of_getElem? h) g
theorem ai_good {Ts ws : List Cond} (h : ∀ w ∈ ws, w ∈ ai_tb) (hin : ∀ w ∈ ai_tb, w ∈ Ts) : GoodIn Ts ws := fun w hw => ⟨hin w (h w hw), good_of_word (List.mem_filter.mp (h w hw)).2⟩
def ai_Pc (D : va_G) (cA : Bool → ClassId) (ad : Nat → Nat) (sh : ai_Sh) (as : List Value) (h : ai_H) : Array Value → State → Prop := va_Pc (as.map (ai_cv ad)) (fun U => va_P D ai_cl (ai_ws cA ad sh h) U.heap ∧ va_K D ai_cl [(cA false, .int), (cA true, .boolean)] U ∧ ai_N U)
def ai_Qc (D : va_G) (cA : Bool → ClassId) (ad : Nat → Nat) (sh : ai_Sh) (r : Option Value) (h : ai_H) : Array Value → State → Outcome → State → Prop := fun _ st oc t => oc = .returned (r.map (ai_cv ad)) ∧ va_P D ai_cl (ai_ws cA ad sh h) t.heap ∧ va_F (ai_A ad sh) st t
/-- what a row of a method's code must be -/
def ai_okb (mt : Nat → Option ai_Mt) (own : String) (bs : ByteArray) (rt : Option FieldType) (pc : Nat) (q : ai_I) : Bool := match q with
  | (i, len, a, b, w, c) => decide (decode bs pc = .ok (i, len)) && (match i with
    | .iconst n => decide (len = 1) && decide (Int32.ofInt n = c)
    | .bipush n => decide (len = 2) && decide ((Int8.ofInt n).toInt32 = c)
    | .sipush n => decide (len = 3) && decide ((Int16.ofInt n).toInt32 = c)
    | .ldc2_w ix => decide (len = 3) && decide (lw_tbl[w]? = some (.constantLong own ix (Int64.ofNat a)))
    | .aload_n k => decide (len = 1) && decide (k.val = a)
    | .iload_n k => decide (len = 1) && decide (k.val = a)
    | .lload_n k => decide (len = 1) && decide (k.val = a)
    | .istore_n k => decide (len = 1) && decide (k.val = a)
    | .aload k => decide (len = 2) && decide (k = a)
    | .iload k => decide (len = 2) && decide (k = a)
    | .istore k => decide (len = 2) && decide (k = a)
    | .iinc k n => decide (len = 3) && (decide (k = a) && decide (Int32.ofInt n = c))
    | .getfield ix => decide (len = 3) && (match ai_cl[a]? with
      | some (_, T, N) => decide (b < N) && (decide (lw_tbl[w]? = some (.fieldLink own ix (T b).1 (T b).2.1 (T b).2.2.1)) || decide (lw_tbl[w]? = some (.fieldLinkNest own ix (T b).1 (T b).2.1 (T b).2.2.1 RX7)))
      | none => false)
    | .putfield ix => decide (len = 3) && (match ai_cl[a]? with
      | some (_, T, N) => decide (b < N) && (decide (lw_tbl[w]? = some (.fieldLink own ix (T b).1 (T b).2.1 (T b).2.2.1)) && (decide ((T b).2.2.2 = false) && decide (parseFieldDescriptor (T b).2.2.1 = some (if c = 0 then .int else .boolean))))
      | none => false)
    | .iaload => decide (len = 1)
    | .baload => decide (len = 1)
    | .iastore => decide (len = 1)
    | .bastore => decide (len = 1)
    | .iadd => decide (len = 1)
    | .isub => decide (len = 1)
    | .imul => decide (len = 1)
    | .iand => decide (len = 1)
    | .ior => decide (len = 1)
    | .ishl => decide (len = 1)
    | .ishr => decide (len = 1)
    | .land => decide (len = 1)
    | .lushr => decide (len = 1)
    | .lshr => decide (len = 1)
    | .l2i => decide (len = 1)
    | .dup => decide (len = 1)
    | .dup2 => decide (len = 1)
    | .if_icmp _ off => decide (len = 3) && decide ((pc : Int) + off = (a : Int))
    | .ifCond _ off => decide (len = 3) && decide ((pc : Int) + off = (a : Int))
    | .goto off => decide (len = 3) && decide ((pc : Int) + off = (a : Int))
    | .tableswitch _ _ _ _ => true
    | .invokevirtual ix => decide (len = 3) && (match mt a with
      | some (y, _, _, _, _, st, na) => decide (st = false) && (decide (na = b) && (decide (lw_tbl[w]? = some (.methodLink own ix y)) || decide (lw_tbl[w]? = some (.methodLinkNest own ix y RX7))))
      | none => false)
    | .invokestatic ix => decide (len = 3) && (if a = 1001 then decide (lw_tbl[w]? = some (.methodLink own ix Lib.Math.min.name)) else if a = 1002 then decide (lw_tbl[w]? = some (.methodLink own ix Lib.Math.max.name)) else if a = 1003 then decide (lw_tbl[w]? = some (.methodLink own ix arraycopyName)) else (match mt a with
      | some (y, _, _, _, _, st, na) => decide (st = true) && (decide (na = b) && ((decide (y.cls = own) && decide (lw_tbl[w]? = some (.methodLink own ix y))) || decide (lw_tbl[w]? = some (.methodLinkNest own ix y RX7))))
      | none => false))
    | .ireturn => decide (len = 1) && decide ((rt = some .int ∧ b = 0) ∨ (rt = some .boolean ∧ b = 1))
    | .return_ => decide (len = 1) && decide (rt = none)
    | _ => false)
def ai_mokP (q : ai_Mt) : Prop := match q with
  | (y, b, n, rt, ci, st, na) => Cond.code y b n rt ∈ lw_tbl ∧ Cond.initialized y.cls ∈ lw_tbl ∧ plainName y.cls = true ∧ y.cls ≠ "java/lang/invoke/MethodHandle" ∧ y.cls ≠ "java/lang/invoke/VarHandle" ∧ n ≤ 30 ∧ (parseMethodDescriptor y.desc).map (fun d => d.parameters.length) = some na ∧ (if st = true then Cond.static y ∈ lw_tbl else Cond.instanceMethod y ∈ lw_tbl ∧ Cond.selects y.cls y y ∈ lw_tbl ∧ ai_cl[ci]?.map (fun q => q.1) = some y.cls)
theorem ai_cls : ∀ (ci : Nat) (q : vw_C), ai_cl[ci]? = some q → ∃ ty0 : Nat → FieldType, (∀ k, k < q.2.2 → parseFieldDescriptor (q.2.1 k).2.2.1 = some (ty0 k)) ∧ (∀ a, a < q.2.2 → ∀ b, b < q.2.2 → a ≠ b → (q.2.1 a).2.1 ≠ (q.2.1 b).2.1) ∧ ∀ w ∈ u_ws q.1 q.2.1 q.2.2, w ∈ lw_tbl ∧ goodWord w = true := by
  intro ci q hq
  match ci, hq with
  | 0, hq => cases hq; exact ⟨tyX0, tyX0_ok, nmX0, by decide +kernel⟩
  | 1, hq => cases hq; exact ⟨tyX1, tyX1_ok, nmX1, by decide +kernel⟩
  | 2, hq => cases hq; exact ⟨tyX2, tyX2_ok, nmX2, by decide +kernel⟩
  | 3, hq => cases hq; exact ⟨tyX3, tyX3_ok, nmX3, by decide +kernel⟩
  | 4, hq => cases hq; exact ⟨tyX4, tyX4_ok, nmX4, by decide +kernel⟩
  | 5, hq => cases hq; exact ⟨tyX5, tyX5_ok, nmX5, by decide +kernel⟩
  | 6, hq => cases hq; exact ⟨tyX6, tyX6_ok, nmX6, by decide +kernel⟩
  | 7, hq => cases hq; exact ⟨tyX7, tyX7_ok, nmX7, by decide +kernel⟩
  | 8, hq => cases hq; exact ⟨tyX8, tyX8_ok, nmX8, by decide +kernel⟩
  | k + 9, hq => simp [ai_cl] at hq
theorem ai_wmin : Cond.static Lib.Math.min.name ∈ lw_tbl ∧ Cond.initialized "java/lang/Math" ∈ lw_tbl ∧ Cond.code Lib.Math.min.name Lib.Math.min.code 2 (some .int) ∈ lw_tbl := by decide +kernel
theorem ai_wmax : Cond.static Lib.Math.max.name ∈ lw_tbl ∧ Cond.initialized "java/lang/Math" ∈ lw_tbl ∧ Cond.code Lib.Math.max.name Lib.Math.max.code 2 (some .int) ∈ lw_tbl := by decide +kernel
theorem ai_wcpy : Cond.static arraycopyName ∈ lw_tbl ∧ Cond.initialized "java/lang/System" ∈ lw_tbl ∧ Cond.native arraycopyName ∈ lw_tbl := by decide +kernel
theorem ai_ws_at {cA : Bool → ClassId} {ad : Nat → Nat} {sh : ai_Sh} {h : ai_H} {k : Nat} {c : (Bool × Nat) ⊕ (Nat × List (Option Nat))} (hk : sh[k]? = some c) : (ai_ws cA ad sh h)[k]? = some (ai_cell cA ad h k c) := by
  simp [ai_ws, List.getElem?_mapIdx, hk]
theorem ai_ws_inv {cA : Bool → ClassId} {ad : Nat → Nat} {sh : ai_Sh} {h : ai_H} {k : Nat} {q : Nat × va_E} (hk : (ai_ws cA ad sh h)[k]? = some q) : k < sh.length ∧ q.1 = ad k := by
  simp only [ai_ws, List.getElem?_mapIdx, Option.map_eq_some_iff] at hk
  obtain ⟨c, h1, h2⟩ := hk
  exact ⟨(List.getElem?_eq_some_iff.mp h1).1, by rw [← h2]; rfl⟩
theorem ai_D {cA : Bool → ClassId} {ad : Nat → Nat} {sh : ai_Sh} {A : Nat → Prop} (hd : ∀ i j, i < sh.length → j < sh.length → ad i = ad j → i = j) (hA : ∀ k, k < sh.length → A (ad k)) (h : ai_H) : va_D A (ai_ws cA ad sh h) := by
  refine ⟨fun i j p q hp hq e => ?_, fun k q hk => ?_⟩
  · obtain ⟨h1, h2⟩ := ai_ws_inv hp
    obtain ⟨h3, h4⟩ := ai_ws_inv hq
    exact hd i j h1 h3 (by rw [← h2, ← h4, e])
  · obtain ⟨h1, h2⟩ := ai_ws_inv hk
    rw [h2]; exact hA k h1
theorem ai_cell_c {cA : Bool → ClassId} {ad : Nat → Nat} {h h2 : ai_H} {j : Nat} (e : h j = h2 j) (c : (Bool × Nat) ⊕ (Nat × List (Option Nat))) : ai_cell cA ad h j c = ai_cell cA ad h2 j c := by
  have e2 : ai_fv ad h j = ai_fv ad h2 j := by
    funext q f
    cases f <;> simp [ai_fv, e]
  cases c with
  | inl x => simp [ai_cell, e]
  | inr x => simp [ai_cell, e2]
theorem ai_set_arr {cA : Bool → ClassId} {ad : Nat → Nat} {sh : ai_Sh} {h : ai_H} {k i n : Nat} {z : Bool} {x : Int32} (hk : sh[k]? = some (.inl (z, n))) : (ai_ws cA ad sh h).set k (ad k, .inl (cA z, n, .inl (upd (h k) i x))) = ai_ws cA ad sh (ai_up h k i x) := by
  apply List.ext_getElem?
  intro j
  have hl : k < sh.length := (List.getElem?_eq_some_iff.mp hk).1
  by_cases hj : j = k
  · subst hj
    rw [List.getElem?_set_self (by simpa [ai_ws] using hl), ai_ws_at hk]
    simp [ai_cell, ai_up]
  · rw [List.getElem?_set_ne (fun q => hj q.symm)]
    simp only [ai_ws, List.getElem?_mapIdx]
    cases sh[j]? with
    | none => rfl
    | some c => exact congrArg some (ai_cell_c (by simp [ai_up, hj]) c)
theorem ai_set_cpy {cA : Bool → ClassId} {ad : Nat → Nat} {sh : ai_Sh} {h : ai_H} {k0 k sp dp m n : Nat} {z : Bool} (hk : sh[k]? = some (.inl (z, n))) : (ai_ws cA ad sh h).set k (ad k, .inl (cA z, n, .inl (va_cpy (h k0) (h k) sp dp m))) = ai_ws cA ad sh (ai_cp h k0 k sp dp m) := by
  apply List.ext_getElem?
  intro j
  have hl : k < sh.length := (List.getElem?_eq_some_iff.mp hk).1
  by_cases hj : j = k
  · subst hj
    rw [List.getElem?_set_self (by simpa [ai_ws] using hl), ai_ws_at hk]
    simp [ai_cell, ai_cp]
  · rw [List.getElem?_set_ne (fun q => hj q.symm)]
    simp only [ai_ws, List.getElem?_mapIdx]
    cases sh[j]? with
    | none => rfl
    | some c => exact congrArg some (ai_cell_c (by simp [ai_cp, hj]) c)
theorem ai_set_obj {cA : Bool → ClassId} {ad : Nat → Nat} {sh : ai_Sh} {h : ai_H} {k b ci : Nat} {fs : List (Option Nat)} {x : Int32} (hk : sh[k]? = some (.inr (ci, fs))) (hf : fs[b]? = some none) : (ai_ws cA ad sh h).set k (ad k, .inr (ci, (fs.mapIdx (ai_fv ad h k)).set b (.int x))) = ai_ws cA ad sh (ai_up h k b x) := by
  apply List.ext_getElem?
  intro j
  have hl : k < sh.length := (List.getElem?_eq_some_iff.mp hk).1
  have hb : b < fs.length := (List.getElem?_eq_some_iff.mp hf).1
  by_cases hj : j = k
  · subst hj
    rw [List.getElem?_set_self (by simpa [ai_ws] using hl), ai_ws_at hk]
    simp only [ai_cell]
    congr 4
    apply List.ext_getElem?
    intro q
    by_cases hq : q = b
    · subst hq
      rw [List.getElem?_set_self (by simpa using hb)]
      simp [List.getElem?_mapIdx, hf, ai_fv, ai_up, upd]
    · rw [List.getElem?_set_ne (fun e => hq e.symm)]
      simp only [List.getElem?_mapIdx]
      cases fs[q]? with
      | none => rfl
      | some f => cases f <;> simp [ai_fv, ai_up, upd, hq]
  · rw [List.getElem?_set_ne (fun q => hj q.symm)]
    simp only [ai_ws, List.getElem?_mapIdx]
    cases sh[j]? with
    | none => rfl
    | some c => exact congrArg some (ai_cell_c (by simp [ai_up, hj]) c)
end
section
section AIW
variable {p : Program} {l : Launch} {e : Env} {R : Room} {s : State} {m : MethodId} {args : Array Value} {below : List Frame} {meth : Method} {c : Code} {cells slots : Nat}
variable {sh : ai_Sh} {cA : Bool → ClassId} {ad : Nat → Nat} {D : va_G} {A : Nat → Prop}
/-- behind a call -/
theorem ai_call {H : Heap} {locs : List Loc} {pc : Nat} {ls : Array Slot} {st0 rest : List Value} {r : Option Value} {h2 : ai_H} {a : Array Value} {Q : State → Prop} (hr : va_Run p l e R s m args below meth c H locs cells slots 0 0 (F0 m pc ls st0) rest (ai_Qc D cA ad sh r h2 a) (ai_A ad sh)) (hS : va_S A s.heap H locs) (hA : ∀ q, ai_A ad sh q → A q)
    (kk : ∀ (H1 : Heap) (locs1 : List Loc), va_P D ai_cl (ai_ws cA ad sh h2) H1 → va_S A s.heap H1 locs1 → W p l e R s m args below meth c H1 locs1 cells slots Q (F0 m (pc + 3) ls ((r.map (ai_cv ad)).toList ++ rest))) : W p l e R s m args below meth c H locs cells slots Q (F0 m pc ls st0) := by
  intro T hT X
  obtain ⟨v, st₀, t, T', L, h0, X', hL, e1, e2, ⟨hv, hp, hz, hk⟩, st⟩ := hr T hT X
  cases hv
  rw [h0] at hz hk
  obtain ⟨t2, a1, b1⟩ := kk T'.heap (locs ++ L) (by rw [e1]; exact hp)
    ⟨Nat.le_trans hS.1 (by rw [e1]; exact hz), fun q h1 h2 => by rw [e1, hk q (Nat.lt_of_lt_of_le h1 hS.1) (fun z => h2 (hA q z))]; exact hS.2.1 q h1 h2, fun q hq => by
      rcases List.mem_append.mp hq with h | h
      · exact hS.2.2 q h
      · exact hA _ (hL q h)⟩ T' rfl X'
  exact ⟨t2, st t2 a1, b1⟩
theorem ai_blind (D : va_G) (cA : Bool → ClassId) (ad : Nat → Nat) (sh : ai_Sh) (as : List Value) (h : ai_H) : FrameBlind (ai_Pc D cA ad sh as h) := fun a U g mk q => by
  obtain ⟨q0, q1, q2, q3⟩ := q
  exact ⟨q0, q1, va_K.moved (u := U) (U := U.calling g mk a) (Vm.Alike.refl U.vm) q2, ai_N_same (u := U) (U := U.calling g mk a) rfl q3⟩
theorem ai_set_spec : ∀ (L : ai_Lc) (i : Nat) (v : Value) (L' : ai_Lc), ai_set L i v = some L' → L'.length = L.length ∧ i < L.length ∧ (∀ j, L'[j]? = if j = i then some (some v) else L[j]?) ∧ ∀ (j : Nat) (u : Value), L[j]? = some (some u) → j + 1 = i → u.category = 1
  | [], i, v, L', h => by simp [ai_set] at h
  | x :: L, 0, v, L', h => by
    have e : L' = some v :: L := by cases x with | none => simpa [ai_set] using h.symm | some x => simpa [ai_set] using h.symm
    subst e
    refine ⟨rfl, Nat.succ_pos _, fun j => ?_, fun j u _ hj => by omega⟩
    cases j with
    | zero => rfl
    | succ j => simp
  | x :: L, k + 1, v, L', h => by
    have hx : ∀ u : Value, x = some u → k = 0 → u.category = 1 := by
      intro u hu hk
      subst hu; subst hk
      cases u <;> first | rfl | (simp [ai_set] at h)
    have h2 : ∃ L2, ai_set L k v = some L2 ∧ x :: L2 = L' := by
      cases x with
      | none => simpa [ai_set, Option.map_eq_some_iff] using h
      | some u =>
        cases k with
        | zero => cases u <;> first | (simp [ai_set] at h; done) | simpa [ai_set, Option.map_eq_some_iff] using h
        | succ k => cases u <;> simpa [ai_set, Option.map_eq_some_iff] using h
    obtain ⟨L2, h3, rfl⟩ := h2
    obtain ⟨e1, e2, e3, e4⟩ := ai_set_spec L k v L2 h3
    refine ⟨by simp [e1], by simp; omega, fun j => ?_, fun j u hj hji => ?_⟩
    · cases j with
      | zero => simp
      | succ j => simp [e3 j]
    · cases j with
      | zero =>
        have : x = some u := by simpa using hj
        exact hx u this (by omega)
      | succ j => exact e4 j u (by simpa using hj) (by omega)
/-- the listed locals of a picture -/
def ai_lv (ad : Nat → Nat) (L : ai_Lc) : List (Nat × Value) := (List.range L.length).filterMap fun k => match L[k]? with
  | some (some v) => some (k, ai_cv ad v)
  | _ => none
theorem ai_lv_mem {ad : Nat → Nat} {L : ai_Lc} {k : Nat} {v : Value} (h : L[k]? = some (some v)) : (k, ai_cv ad v) ∈ ai_lv ad L := by
  unfold ai_lv
  refine List.mem_filterMap.mpr ⟨k, List.mem_range.mpr (List.getElem?_eq_some_iff.mp h).1, ?_⟩
  simp [h]
theorem ai_lk_has {ls : Array Slot} {L : ai_Lc} {ad : Nat → Nat} (h : ai_lk ad ls L) : lv_has ls L.length (ai_lv ad L) := by
  refine ⟨h.1, h.2.1, fun q hq => ?_⟩
  obtain ⟨k, -, hk⟩ := List.mem_filterMap.mp hq
  revert hk
  split
  · rename_i v hv
    intro hk
    cases hk
    exact h.2.2 k v hv
  · intro hk
    cases hk
theorem ai_cv_cat (ad : Nat → Nat) (v : Value) : (ai_cv ad v).category = v.category := by cases v <;> rfl
theorem ai_lk_set {ls ls' : Array Slot} {L L' : ai_Lc} {ad : Nat → Nat} {i : Nat} {v : Value} (h : ai_lk ad ls L) (hs : ai_set L i v = some L') (hh : lv_has ls' L.length ((i, ai_cv ad v) :: (ai_lv ad L).filter (fun q => !(q.1 == i) && !(q.1 + 1 == i && q.2.category == 2)))) : ai_lk ad ls' L' := by
  obtain ⟨e1, e2, e3, e4⟩ := ai_set_spec L i v L' hs
  refine ⟨by rw [hh.1, e1], hh.2.1, fun k u hk => ?_⟩
  rw [e3 k] at hk
  by_cases hki : k = i
  · subst hki
    rw [if_pos rfl] at hk
    have ev : v = u := by simpa using hk
    rw [← ev]
    exact hh.2.2 (k, ai_cv ad v) List.mem_cons_self
  · rw [if_neg hki] at hk
    refine hh.2.2 (k, ai_cv ad u) (List.mem_cons_of_mem _ (List.mem_filter.mpr ⟨ai_lv_mem hk, ?_⟩))
    by_cases h1 : k + 1 = i
    · have h2 := e4 k u hk h1
      simp [hki, ai_cv_cat, h2]
    · simp [hki, h1]
theorem ai_lk_ent (ad : Nat → Nat) (as : List Value) (n : Nat) (hn : (ai_ent n as).length = n) : ai_lk ad ((lg_sl (as.map (ai_cv ad)) ++ List.replicate (n - (lg_sl (as.map (ai_cv ad))).length) Slot.unset).toArray) (ai_ent n as) := by
  have e : ∀ as : List Value, lg_sl (as.map (ai_cv ad)) = (ai_fl as).map (fun o => match o with | some v => Slot.val (ai_cv ad v) | none => Slot.second) := by
    intro as
    induction as with
    | nil => rfl
    | cons v vs ih =>
      have ih2 := ih
      simp only [lg_sl, ai_fl, List.map_cons, List.flatMap_cons, List.map_append] at ih2 ⊢
      rw [ih2, ai_cv_cat]
      by_cases hc : v.category = 2 <;> simp [hc]
  have hlen : (lg_sl (as.map (ai_cv ad))).length = (ai_fl as).length := by rw [e, List.length_map]
  have hle : (ai_fl as).length ≤ n := by
    unfold ai_ent at hn
    simp only [List.length_append, List.length_replicate] at hn
    omega
  have hl := lv_entry (as.map (ai_cv ad)) (n := n) (by rw [hlen]; exact hle)
  refine ⟨by rw [hl.1, hn], hl.2.1, fun k v hk => ?_⟩
  have hk1 : k < (ai_fl as).length := by
    rcases Nat.lt_or_ge k (ai_fl as).length with q | q
    · exact q
    · unfold ai_ent at hk
      rw [List.getElem?_append_right q, List.getElem?_replicate] at hk
      split at hk <;> cases hk
  unfold ai_ent at hk
  rw [List.getElem?_append_left hk1] at hk
  rw [List.getElem?_toArray, List.getElem?_append_left (by rw [hlen]; exact hk1), e, List.getElem?_map, hk]
  rfl
end AIW
end
section
theorem ai_nar0 {x : Int32} (h : x = 0 ∨ x = 1) : narrow .boolean (.int x) = .int x ∧ fits .boolean (.int x) = true ∧ vp_nar .boolean x = x := by
  rcases h with rfl | rfl <;> exact ⟨by decide +kernel, by decide +kernel, by decide +kernel⟩
set_option maxHeartbeats 4000000 in
set_option maxRecDepth 20000 in
theorem ai_walk {p : Program} {l : Launch} {e : Env} {R : Room} {s : State} {m : MethodId} {args : Array Value} {below : List Frame} {meth : Method} {c : Code} {cells slots : Nat}
    {sh : ai_Sh} {cA : Bool → ClassId} {ad : Nat → Nat} {D : va_G} {A : Nat → Prop} {mci ml : Nat → Nat} {cd : Nat → Nat → Option ai_I} {mt : Nat → Option ai_Mt} {cdi : Nat → Option ai_I} {bs : ByteArray} {own : String} {nL d : Nat} {rt : Option FieldType} {Ts : List Cond}
    {Q : Option Value → ai_H → Prop} {Qc : Array Value → State → Outcome → State → Prop} {free : Addr → Prop}
    (hx : p.tables.exec = Jvm.exec) (hb : c.code = bs) (hml : c.maxLocals = nL) (hown : s.vm.findClass own = some m.cls) (hts : ∀ w ∈ Ts, w.before args s = true) (hin : ∀ w ∈ ai_tb, w ∈ Ts) (hN : ai_N s)
    (hK : va_K D ai_cl [(cA false, .int), (cA true, .boolean)] s) (hdist : ∀ i j, i < sh.length → j < sh.length → ad i = ad j → i = j) (hAd : ∀ k, k < sh.length → A (ad k))
    (hr : meth.sig.returnType = rt) (hlocks : meth.locks = false) (hck : ∀ pc q, cdi pc = some q → ai_okb mt own bs rt pc q = true)
    (hmt : ∀ i q, mt i = some q → ai_mokP q ∧ ml i = q.2.2.1 ∧ mci i = q.2.2.2.2.1)
    (hfr : d + 1 ≤ R.frames) (hlo : 50 * d + 50 ≤ R.locals) (hce : cells ≤ R.cells) (hsl : slots ≤ R.slots)
    (hM : ∀ i q, mt i = some q → ∀ as h r h2, ai_C sh mci ml cd d i as h r h2 → Met l q.1 (.code q.1 q.2.1 q.2.2.1 q.2.2.2.1 :: ai_tb) (ai_rm d) (ai_Pc D cA ad sh as h) (ai_Qc D cA ad sh r h2) 0 0 (ai_A ad sh))
    (hq : ∀ (r : Option Value) (h : ai_H) (H : Heap) (locs : List Loc) (t : State), Q r h → va_P D ai_cl (ai_ws cA ad sh h) H → va_S A s.heap H locs → t.heap = H → s.WarmedH t.vm → Qc args s (.returned (r.map (ai_cv ad))) t)
    (hfree : ∀ q, A q → free q) :
    ∀ (n pc : Nat) (L : ai_Lc) (S : List Value) (h : ai_H) (H : Heap) (locs : List Loc) (ls : Array Slot), ai_P sh mci (ai_C sh mci ml cd d) cdi Q n pc L S h → va_P D ai_cl (ai_ws cA ad sh h) H → va_S A s.heap H locs → ai_lk ad ls L → L.length = nL →
      W p l e R s m args below meth c H locs cells slots (MQ below Qc args s cells slots free) (F0 m pc ls (S.map (ai_cv ad))) := by
  intro n
  induction n with
  | zero => intro pc L S h H locs ls hp; exact (show False from hp).elim
  | succ n ih =>
    intro pc L S h H locs ls hp hP hS hL hnL
    have hD : va_D A (ai_ws cA ad sh h) := ai_D hdist hAd h
    have hsz : ls.size = nL := by rw [hL.1, hnL]
    cases hcd : cdi pc with
    | none => simp only [ai_P, hcd] at hp
    | some q =>
      have hok := hck pc q hcd
      obtain ⟨i, len, a, b, w, cc⟩ := q
      simp only [ai_P, hcd] at hp
      simp only [ai_okb, Bool.and_eq_true, decide_eq_true_eq] at hok
      obtain ⟨hdec, hok⟩ := hok
      cases i
      all_goals (try exact (show False from hp).elim)
      all_goals dsimp only at hp hok
      all_goals (try simp only [Bool.and_eq_true, decide_eq_true_eq] at hok)
      case iconst v => obtain ⟨rfl, hc⟩ := hok; exact lv_iconst hx hb hdec hc (ih _ _ _ _ _ _ _ hp hP hS hL hnL)
      case bipush v => obtain ⟨rfl, hc⟩ := hok; exact lv_bipush hx hb hdec hc (ih _ _ _ _ _ _ _ hp hP hS hL hnL)
      case sipush v => obtain ⟨rfl, hc⟩ := hok; exact lv_sipush hx hb hdec hc (ih _ _ _ _ _ _ _ hp hP hS hL hnL)
      case ldc2_w ix => obtain ⟨rfl, hc⟩ := hok; exact lv_ldc2 hx hb hown (hts _ (hin _ (ai_tb_at hc rfl))) hdec (ih _ _ _ _ _ _ _ hp hP hS hL hnL)
      case aload_n k =>
        obtain ⟨rfl, hc⟩ := hok
        split at hp
        · rename_i x hx2; exact lv_aload_n hx hb hdec hc (hL.2.2 a _ hx2) (ih _ _ _ _ _ _ _ hp hP hS hL hnL)
        · exact hp.elim
      case aload k =>
        obtain ⟨rfl, rfl⟩ := hok
        split at hp
        · rename_i x hx2; exact lv_aload hx hb hdec (hL.2.2 k _ hx2) (ih _ _ _ _ _ _ _ hp hP hS hL hnL)
        · exact hp.elim
      case iload_n k =>
        obtain ⟨rfl, hc⟩ := hok
        split at hp
        · rename_i x hx2; exact lv_iload_n hx hb hdec hc (hL.2.2 a _ hx2) (ih _ _ _ _ _ _ _ hp hP hS hL hnL)
        · exact hp.elim
      case iload k =>
        obtain ⟨rfl, rfl⟩ := hok
        split at hp
        · rename_i x hx2; exact lv_iload hx hb hdec (hL.2.2 k _ hx2) (ih _ _ _ _ _ _ _ hp hP hS hL hnL)
        · exact hp.elim
      case lload_n k =>
        obtain ⟨rfl, hc⟩ := hok
        split at hp
        · rename_i x hx2; exact lv_lload_n hx hb hdec hc (hL.2.2 a _ hx2) (ih _ _ _ _ _ _ _ hp hP hS hL hnL)
        · exact hp.elim
      case istore_n k =>
        obtain ⟨rfl, hc⟩ := hok
        split at hp
        · obtain ⟨L', hs, hp⟩ := hp
          have hs2 := ai_set_spec _ _ _ _ hs
          exact lv_istore_n hx hb hdec hc (ai_lk_has hL) hs2.2.1 rfl (fun ls' hl => ih _ _ _ _ _ _ _ hp hP hS (ai_lk_set hL hs hl) (by rw [hs2.1, hnL]))
        · exact hp.elim
      case istore k =>
        obtain ⟨rfl, rfl⟩ := hok
        split at hp
        · obtain ⟨L', hs, hp⟩ := hp
          have hs2 := ai_set_spec _ _ _ _ hs
          exact lv_istore hx hb hdec (ai_lk_has hL) hs2.2.1 rfl (fun ls' hl => ih _ _ _ _ _ _ _ hp hP hS (ai_lk_set hL hs hl) (by rw [hs2.1, hnL]))
        · exact hp.elim
      case iinc k v =>
        obtain ⟨rfl, rfl, hc⟩ := hok
        split at hp
        · rename_i x hx2
          obtain ⟨L', hs, hp⟩ := hp
          have hs2 := ai_set_spec _ _ _ _ hs
          obtain ⟨j, hj⟩ := List.getElem?_of_mem (ai_lv_mem (ad := ad) hx2)
          exact lv_iinc (v := x + cc) hx hb hdec (ai_lk_has hL) hj (by rw [hc]) hs2.2.1 rfl (fun ls' hl => ih _ _ _ _ _ _ _ hp hP hS (ai_lk_set hL hs hl) (by rw [hs2.1, hnL]))
        · exact hp.elim
      case iadd =>
        subst hok
        split at hp
        · exact lv_iadd hx hb hdec (ih _ _ _ _ _ _ _ hp hP hS hL hnL)
        · exact hp.elim
      case isub =>
        subst hok
        split at hp
        · exact lv_isub hx hb hdec (ih _ _ _ _ _ _ _ hp hP hS hL hnL)
        · exact hp.elim
      case imul =>
        subst hok
        split at hp
        · exact lv_imul hx hb hdec (ih _ _ _ _ _ _ _ hp hP hS hL hnL)
        · exact hp.elim
      case iand =>
        subst hok
        split at hp
        · exact lv_iand hx hb hdec (ih _ _ _ _ _ _ _ hp hP hS hL hnL)
        · exact hp.elim
      case ior =>
        subst hok
        split at hp
        · exact lv_ior hx hb hdec (ih _ _ _ _ _ _ _ hp hP hS hL hnL)
        · exact hp.elim
      case ishl =>
        subst hok
        split at hp
        · exact lv_ishl hx hb hdec (ih _ _ _ _ _ _ _ hp hP hS hL hnL)
        · exact hp.elim
      case ishr =>
        subst hok
        split at hp
        · exact lv_ishr hx hb hdec (ih _ _ _ _ _ _ _ hp hP hS hL hnL)
        · exact hp.elim
      case land =>
        subst hok
        split at hp
        · exact lv_land hx hb hdec (ih _ _ _ _ _ _ _ hp hP hS hL hnL)
        · exact hp.elim
      case lushr =>
        subst hok
        split at hp
        · exact lv_lushr hx hb hdec rfl (ih _ _ _ _ _ _ _ hp hP hS hL hnL)
        · exact hp.elim
      case lshr =>
        subst hok
        split at hp
        · exact lv_lshr hx hb hdec rfl (ih _ _ _ _ _ _ _ hp hP hS hL hnL)
        · exact hp.elim
      case l2i =>
        subst hok
        split at hp
        · exact lv_l2i hx hb hdec rfl (ih _ _ _ _ _ _ _ hp hP hS hL hnL)
        · exact hp.elim
      case dup =>
        subst hok
        split at hp
        · exact lv_dup hx hb hdec (by rw [ai_cv_cat]; exact hp.1) (ih _ _ _ _ _ _ _ hp.2 hP hS hL hnL)
        · exact hp.elim
      case dup2 =>
        subst hok
        split at hp
        · exact lv_dup2_11 hx hb hdec (by rw [ai_cv_cat]; exact hp.1) (by rw [ai_cv_cat]; exact hp.2.1) (ih _ _ _ _ _ _ _ hp.2.2 hP hS hL hnL)
        · exact hp.elim
      case getfield ix =>
        obtain ⟨rfl, hok⟩ := hok
        split at hp
        · rename_i k S'
          split at hp
          · rename_i ci fs hsk
            obtain ⟨rfl, hp⟩ := hp
            cases hcl : ai_cl[ci]? with
            | none => rw [hcl] at hok; exact absurd hok (by simp)
            | some q =>
              obtain ⟨C, T, N⟩ := q
              rw [hcl] at hok
              simp only [Bool.and_eq_true, Bool.or_eq_true, decide_eq_true_eq] at hok
              obtain ⟨ty0, t1, t2, t3⟩ := ai_cls ci _ hcl
              obtain ⟨hbN, hlk⟩ := hok
              have hin2 : ∀ w ∈ u_ws C T N, w ∈ Ts := fun w hw => hin w (ai_tb_in (t3 w hw).1 (t3 w hw).2)
              have key : ∀ v : Value, (fs.mapIdx (ai_fv ad h k))[b]? = some v → W p l e R s m args below meth c H locs cells slots (MQ below Qc args s cells slots free) (F0 m (pc + 3) ls (v :: S'.map (ai_cv ad))) → W p l e R s m args below meth c H locs cells slots (MQ below Qc args s cells slots free) (F0 m pc ls ((Value.ref k :: S').map (ai_cv ad))) := by
                intro v hv kk
                rcases hlk with hlk | hlk
                · exact va_get hx hb hts hin2 hown hK hP k (ai_ws_at hsk) hcl b hbN (hts _ (hin _ (ai_tb_at hlk rfl))) (fun _ h9 => h9) hv hdec kk
                · exact va_getN hx hb hts hin2 hown hK hP k (ai_ws_at hsk) hcl b hbN (va_Nw.use rfl (hN _ (List.mem_of_getElem? hlk) rfl)) (fun _ h9 => h9) hv hdec kk
              split at hp
              · rename_i hf
                exact key (.int (h k b)) (by simp [List.getElem?_mapIdx, hf, ai_fv]) (ih _ _ _ _ _ _ _ hp hP hS hL hnL)
              · rename_i k2 hf
                exact key (.ref (ad k2)) (by simp [List.getElem?_mapIdx, hf, ai_fv]) (ih _ _ _ _ _ _ _ hp hP hS hL hnL)
              · exact hp.elim
          · exact hp.elim
        · exact hp.elim
      case putfield ix =>
        obtain ⟨rfl, hok⟩ := hok
        split at hp
        · rename_i x k S'
          obtain ⟨⟨fs, hsk, hf⟩, hcx, hp⟩ := hp
          cases hcl : ai_cl[a]? with
          | none => rw [hcl] at hok; exact absurd hok (by simp)
          | some q =>
            obtain ⟨C, T, N⟩ := q
            rw [hcl] at hok
            simp only [Bool.and_eq_true, decide_eq_true_eq] at hok
            obtain ⟨ty0, t1, t2, t3⟩ := ai_cls a _ hcl
            obtain ⟨hbN, hlk, hfin, hty⟩ := hok
            have hin2 : ∀ w ∈ u_ws C T N, w ∈ Ts := fun w hw => hin w (ai_tb_in (t3 w hw).1 (t3 w hw).2)
            have hnf : narrow (if cc = 0 then FieldType.int else .boolean) (.int x) = .int x ∧ fits (if cc = 0 then FieldType.int else .boolean) (.int x) = true := by
              by_cases hc0 : cc = 0
              · rw [if_pos hc0]; exact ⟨rfl, rfl⟩
              · rw [if_neg hc0]
                have := ai_nar0 (x := x) (hcx.resolve_left hc0)
                exact ⟨this.1, this.2.1⟩
            refine va_put (v := .int x) hx hb hts hin2 ty0 t1 t2 hown hK hP hD hS k (ai_ws_at hsk) hcl b hbN (hts _ (hin _ (ai_tb_at hlk rfl))) (fun _ h9 => h9) hfin hty hnf.1 hnf.2 (by rw [List.length_mapIdx]; exact (List.getElem?_eq_some_iff.mp hf).1) hdec (fun H1 locs1 hP1 _ hS1 => ?_)
            rw [ai_set_obj hsk hf] at hP1
            exact ih _ _ _ _ _ _ _ hp hP1 hS1 hL hnL
        · exact hp.elim
      case iaload =>
        subst hok
        split at hp
        · rename_i j k S'
          obtain ⟨N, hsk, hi, hp⟩ := hp
          exact va_iald hx hb hK hP k 0 (ai_ws_at hsk) rfl hi hdec (ih _ _ _ _ _ _ _ hp hP hS hL hnL)
        · exact hp.elim
      case baload =>
        subst hok
        split at hp
        · rename_i j k S'
          obtain ⟨N, hsk, hi, hp⟩ := hp
          exact va_zald hx hb hK hP k 1 (ai_ws_at hsk) rfl hi hdec (ih _ _ _ _ _ _ _ hp hP hS hL hnL)
        · exact hp.elim
      case iastore =>
        subst hok
        split at hp
        · rename_i x j k S'
          obtain ⟨N, hsk, hi, hp⟩ := hp
          refine va_iast hx hb hK hP hD hS k 0 (ai_ws_at hsk) rfl hi hdec (fun H1 locs1 hP1 _ hS1 => ?_)
          rw [ai_set_arr hsk] at hP1
          exact ih _ _ _ _ _ _ _ hp hP1 hS1 hL hnL
        · exact hp.elim
      case bastore =>
        subst hok
        split at hp
        · rename_i x j k S'
          obtain ⟨N, hsk, hi, hx01, hp⟩ := hp
          refine va_zast hx hb hK hP hD hS k 1 (ai_ws_at hsk) rfl hi hdec (fun H1 locs1 hP1 _ hS1 => ?_)
          rw [(ai_nar0 hx01).2.2, ai_set_arr hsk] at hP1
          exact ih _ _ _ _ _ _ _ hp hP1 hS1 hL hnL
        · exact hp.elim
      case if_icmp k off =>
        obtain ⟨rfl, hc⟩ := hok
        split at hp
        · rename_i y x S'
          cases k
          · exact lv_icmp_eq hx hb hdec hc (fun q => ih _ _ _ _ _ _ _ (hp.resolve_right (fun z => z.1 q)).2 hP hS hL hnL) (fun q => ih _ _ _ _ _ _ _ (hp.resolve_left (fun z => q z.1)).2 hP hS hL hnL)
          · exact lv_icmp_ne hx hb hdec hc (fun q => ih _ _ _ _ _ _ _ (hp.resolve_right (fun z => z.1 q)).2 hP hS hL hnL) (fun q => ih _ _ _ _ _ _ _ (hp.resolve_left (fun z => z.1 q)).2 hP hS hL hnL)
          · exact lv_icmp_lt hx hb hdec hc (fun q => ih _ _ _ _ _ _ _ (hp.resolve_right (fun z => z.1 q)).2 hP hS hL hnL) (fun q => ih _ _ _ _ _ _ _ (hp.resolve_left (fun z => q z.1)).2 hP hS hL hnL)
          · exact lv_icmp_ge hx hb hdec hc (fun q => ih _ _ _ _ _ _ _ (hp.resolve_right (fun z => z.1 q)).2 hP hS hL hnL) (fun q => ih _ _ _ _ _ _ _ (hp.resolve_left (fun z => q z.1)).2 hP hS hL hnL)
          · exact lv_icmp_gt hx hb hdec hc (fun q => ih _ _ _ _ _ _ _ (hp.resolve_right (fun z => z.1 q)).2 hP hS hL hnL) (fun q => ih _ _ _ _ _ _ _ (hp.resolve_left (fun z => q z.1)).2 hP hS hL hnL)
          · exact lv_icmp_le hx hb hdec hc (fun q => ih _ _ _ _ _ _ _ (hp.resolve_right (fun z => z.1 q)).2 hP hS hL hnL) (fun q => ih _ _ _ _ _ _ _ (hp.resolve_left (fun z => q z.1)).2 hP hS hL hnL)
        · exact hp.elim
      case ifCond k off =>
        obtain ⟨rfl, hc⟩ := hok
        split at hp
        · rename_i x S'
          cases k
          · exact lv_if_eq hx hb hdec hc (fun q => ih _ _ _ _ _ _ _ (hp.resolve_right (fun z => z.1 q)).2 hP hS hL hnL) (fun q => ih _ _ _ _ _ _ _ (hp.resolve_left (fun z => q z.1)).2 hP hS hL hnL)
          · exact lv_if_ne hx hb hdec hc (fun q => ih _ _ _ _ _ _ _ (hp.resolve_right (fun z => z.1 q)).2 hP hS hL hnL) (fun q => ih _ _ _ _ _ _ _ (hp.resolve_left (fun z => z.1 q)).2 hP hS hL hnL)
          · exact lv_if_lt hx hb hdec hc (fun q => ih _ _ _ _ _ _ _ (hp.resolve_right (fun z => z.1 q)).2 hP hS hL hnL) (fun q => ih _ _ _ _ _ _ _ (hp.resolve_left (fun z => q z.1)).2 hP hS hL hnL)
          · exact lv_if_ge hx hb hdec hc (fun q => ih _ _ _ _ _ _ _ (hp.resolve_right (fun z => z.1 q)).2 hP hS hL hnL) (fun q => ih _ _ _ _ _ _ _ (hp.resolve_left (fun z => q z.1)).2 hP hS hL hnL)
          · exact lv_if_gt hx hb hdec hc (fun q => ih _ _ _ _ _ _ _ (hp.resolve_right (fun z => z.1 q)).2 hP hS hL hnL) (fun q => ih _ _ _ _ _ _ _ (hp.resolve_left (fun z => q z.1)).2 hP hS hL hnL)
          · exact lv_if_le hx hb hdec hc (fun q => ih _ _ _ _ _ _ _ (hp.resolve_right (fun z => z.1 q)).2 hP hS hL hnL) (fun q => ih _ _ _ _ _ _ _ (hp.resolve_left (fun z => q z.1)).2 hP hS hL hnL)
        · exact hp.elim
      case goto off => obtain ⟨rfl, hc⟩ := hok; exact lv_goto hx hb hdec hc (ih _ _ _ _ _ _ _ hp hP hS hL hnL)
      case tableswitch df lo hi offs =>
        split at hp
        · rename_i x S'
          rcases hp with ⟨h1, t, h2, hp⟩ | ⟨h1, h2, off, t, h3, h4, hp⟩
          · exact lv_tableOut hx hb hdec h1 h2 (ih _ _ _ _ _ _ _ hp hP hS hL hnL)
          · exact lv_tableIn hx hb hdec h1 h2 h3 h4 (ih _ _ _ _ _ _ _ hp hP hS hL hnL)
        · exact hp.elim
      case invokevirtual ix =>
        obtain ⟨rfl, hok⟩ := hok
        obtain ⟨As, k, rest, fs, v, h2, rfl, hlen, hsk, hrest, hcall, hp⟩ := hp
        cases hmq : mt a with
        | none => rw [hmq] at hok; exact absurd hok (by simp)
        | some q =>
          obtain ⟨y, yb, yn, yt, ci, st, na⟩ := q
          rw [hmq] at hok
          obtain ⟨hm1, hm2, hm3⟩ := hmt a _ hmq
          simp only [ai_mokP] at hm1
          simp only [Bool.and_eq_true, Bool.or_eq_true, decide_eq_true_eq] at hok
          obtain ⟨rfl, rfl, hlk⟩ := hok
          obtain ⟨w1, w2, w3, w4, w5, w6, w7, w8⟩ := hm1
          simp only [Bool.false_eq_true, if_false] at w8
          obtain ⟨w8, w9, w10⟩ := w8
          have hmet := hM a _ hmq _ _ _ _ hcall
          dsimp only at hmet
          have hG : ∀ w ∈ (Cond.code y yb yn yt :: ai_tb), w ∈ ai_tb := fun w hw => (List.mem_cons.mp hw).elim (fun e => e ▸ ai_tb_in w1 rfl) (fun e => e)
          have hci : ∃ T N, ai_cl[ci]? = some (y.cls, T, N) := by
            cases hz : ai_cl[ci]? with
            | none => rw [hz] at w10; cases w10
            | some q => obtain ⟨C, T, N⟩ := q; rw [hz] at w10; cases w10; exact ⟨T, N, rfl⟩
          obtain ⟨T, N, hci⟩ := hci
          have hm4 : mci a = ci := hm3
          rw [hm4] at hsk
          have hpre : PreV s H y.cls (ad k) (ai_Pc D cA ad sh (.ref k :: As) h) (As.map (ai_cv ad)) :=
            ⟨ai_blind D cA ad sh _ h, va_recv hK hP hci (ai_ws_at hsk), fun U hU hW => ⟨rfl, by rw [hU]; exact hP, va_K.moved hW.alike hK, ai_N_warm hW hN⟩⟩
          have hroom : (ai_rm d).frames + 1 ≤ R.frames ∧ 8 + (yn + 11) + (ai_rm d).locals ≤ R.locals := ⟨hfr, by show 8 + (yn + 11) + 50 * d ≤ _; omega⟩
          have hst2 : (F0 m pc ls ((As.reverse ++ Value.ref k :: rest).map (ai_cv ad))).stack = (As.map (ai_cv ad)).reverse ++ Value.ref (ad k) :: rest.map (ai_cv ad) := by
            simp [ai_cv, List.map_reverse]
          have hrest2 : 2 * (F0 m pc ls ((As.reverse ++ Value.ref k :: rest).map (ai_cv ad))).monitorRoom + ((rest.map (ai_cv ad)).map fun v => v.category).sum ≤ 8 := by
            apply lv_room
            rw [List.map_map]
            have : ((fun v : Value => v.category) ∘ ai_cv ad) = fun v => v.category := by funext v; exact ai_cv_cat ad v
            rw [this]; exact hrest
          have hrun : va_Run p l e R s m args below meth c H locs cells slots 0 0 (F0 m pc ls ((As.reverse ++ Value.ref k :: rest).map (ai_cv ad))) (rest.map (ai_cv ad)) (ai_Qc D cA ad sh v h2 (Value.ref (ad k) :: As.map (ai_cv ad)).toArray) (ai_A ad sh) := by
            rcases hlk with hlk | hlk
            · refine va_runV (n := na) (C := y.cls) (bytes := yb) (maxL := yn) (ret := yt) (index := ix) (own := own) (Ts := Ts) ⟨hx, hb, hml, hown, hts⟩ hmet ?_ hpre rfl (by rw [List.length_map]; exact hlen) hsz hst2 hrest2 hdec ⟨hce, hsl⟩
              exact cwV na hts (ai_good (fun w hw => by
                rcases List.mem_append.mp hw with q | q
                · rcases List.mem_cons.mp q with rfl | q
                  · exact ai_tb_at hlk rfl
                  rcases List.mem_cons.mp q with rfl | q
                  · exact ai_tb_in w8 rfl
                  rcases List.mem_cons.mp q with rfl | q
                  · exact ai_tb_in w9 rfl
                  rcases List.mem_cons.mp q with rfl | q
                  · exact ai_tb_in w2 rfl
                  cases q
                · exact hG w q) hin) rfl rfl rfl ⟨rfl, w4, w5, w7⟩ hroom
            · refine va_runVN (n := na) (C := y.cls) (bytes := yb) (maxL := yn) (ret := yt) (index := ix) (own := own) (host := RX7) (Ts := Ts) ⟨hx, hb, hml, hown, hts⟩ hmet ?_ hpre rfl (by rw [List.length_map]; exact hlen) hsz hst2 hrest2 hdec ⟨hce, hsl⟩
              exact ⟨va_cnB na hts (ai_good hG hin) rfl rfl rfl (hN _ (List.mem_of_getElem? hlk) rfl) (hts _ (hin _ (ai_tb_in w2 rfl))) ⟨w4, w5, w7⟩ hroom, hts _ (hin _ (ai_tb_in w8 rfl)), hts _ (hin _ (ai_tb_in w9 rfl))⟩
          refine ai_call hrun hS (fun q hq => by obtain ⟨k9, h9, rfl⟩ := hq; exact hAd k9 h9) (fun H1 locs1 hP1 hS1 => ?_)
          have := ih _ _ _ _ _ _ _ hp hP1 hS1 hL hnL
          rw [List.map_append] at this
          cases v <;> exact this
      case invokestatic ix =>
        obtain ⟨rfl, hok⟩ := hok
        by_cases h1 : a = 1001
        · rw [if_pos h1] at hp hok
          simp only [decide_eq_true_eq] at hok
          split at hp
          · rename_i y x S'
            have hs8 : ((S'.map (ai_cv ad)).map fun v => v.category).sum ≤ 8 := by
              rw [List.map_map]
              have : ((fun v : Value => v.category) ∘ ai_cv ad) = fun v => v.category := by funext v; exact ai_cv_cat ad v
              rw [this]; exact hp.1
            exact va_mmin hx hb (hml.trans hsz.symm) hown (hts _ (hin _ (ai_tb_at hok rfl))) (hts _ (hin _ (ai_tb_in ai_wmin.1 rfl))) (hts _ (hin _ (ai_tb_in ai_wmin.2.1 rfl))) (hts _ (hin _ (ai_tb_in ai_wmin.2.2 rfl))) (by omega) (by omega) hce hsl hdec (ih _ _ _ _ _ _ _ hp.2 hP hS hL hnL)
          · exact hp.elim
        · rw [if_neg h1] at hp hok
          by_cases h2 : a = 1002
          · rw [if_pos h2] at hp hok
            simp only [decide_eq_true_eq] at hok
            split at hp
            · rename_i y x S'
              have hs8 : ((S'.map (ai_cv ad)).map fun v => v.category).sum ≤ 8 := by
                rw [List.map_map]
                have : ((fun v : Value => v.category) ∘ ai_cv ad) = fun v => v.category := by funext v; exact ai_cv_cat ad v
                rw [this]; exact hp.1
              exact va_mmax hx hb (hml.trans hsz.symm) hown (hts _ (hin _ (ai_tb_at hok rfl))) (hts _ (hin _ (ai_tb_in ai_wmax.1 rfl))) (hts _ (hin _ (ai_tb_in ai_wmax.2.1 rfl))) (hts _ (hin _ (ai_tb_in ai_wmax.2.2 rfl))) (by omega) (by omega) hce hsl hdec (ih _ _ _ _ _ _ _ hp.2 hP hS hL hnL)
            · exact hp.elim
          · rw [if_neg h2] at hp hok
            by_cases h3 : a = 1003
            · rw [if_pos h3] at hp hok
              simp only [decide_eq_true_eq] at hok
              split at hp
              · rename_i mm dp k1 sp k0 S'
                obtain ⟨N0, N1, e0, e1, c1, c2, c3, c4, c5, c6, hp⟩ := hp
                have hs8 : ((S'.map (ai_cv ad)).map fun v => v.category).sum ≤ 8 := by
                  rw [List.map_map]
                  have : ((fun v : Value => v.category) ∘ ai_cv ad) = fun v => v.category := by funext v; exact ai_cv_cat ad v
                  rw [this]; exact c6
                have hnw : nativeFrameWords "java/lang/System" "arraycopy" 5 + 11 ≤ 42 := by decide +kernel
                refine va_copyi (ty := .int) hx hb (hml.trans hsz.symm) hown (hts _ (hin _ (ai_tb_at hok rfl))) (hts _ (hin _ (ai_tb_in ai_wcpy.2.2 rfl))) (hts _ (hin _ (ai_tb_in ai_wcpy.1 rfl))) (hts _ (hin _ (ai_tb_in ai_wcpy.2.1 rfl))) hK hP hD hS k0 k1 0 0 (ai_ws_at e0) (ai_ws_at e1) rfl rfl rfl c1 c2 c3 c4 c5 (fun i _ => rfl) (by omega) (by omega) hdec (fun H1 locs1 hP1 _ hS1 => ?_)
                rw [ai_set_cpy e1] at hP1
                exact ih _ _ _ _ _ _ _ hp hP1 hS1 hL hnL
              · exact hp.elim
            · rw [if_neg h3] at hp hok
              obtain ⟨As, rest, v, h2, rfl, hlen, hrest, hcall, hp⟩ := hp
              cases hmq : mt a with
              | none => rw [hmq] at hok; exact absurd hok (by simp)
              | some q =>
                obtain ⟨y, yb, yn, yt, ci, st, na⟩ := q
                rw [hmq] at hok
                obtain ⟨hm1, hm2, hm3⟩ := hmt a _ hmq
                simp only [ai_mokP] at hm1
                simp only [Bool.and_eq_true, Bool.or_eq_true, decide_eq_true_eq] at hok
                obtain ⟨rfl, rfl, hlk⟩ := hok
                obtain ⟨w1, w2, w3, w4, w5, w6, w7, w8⟩ := hm1
                simp only [if_true] at w8
                have hmet := hM a _ hmq _ _ _ _ hcall
                dsimp only at hmet
                have hG : ∀ w ∈ (Cond.code y yb yn yt :: ai_tb), w ∈ ai_tb := fun w hw => (List.mem_cons.mp hw).elim (fun e => e ▸ ai_tb_in w1 rfl) (fun e => e)
                have hpre : PreS s H (ai_Pc D cA ad sh As h) (As.map (ai_cv ad)) :=
                  ⟨ai_blind D cA ad sh _ h, fun U hU hW => ⟨rfl, by rw [hU]; exact hP, va_K.moved hW.alike hK, ai_N_warm hW hN⟩⟩
                have hroom : (ai_rm d).frames + 1 ≤ R.frames ∧ 8 + (yn + 11) + (ai_rm d).locals ≤ R.locals := ⟨hfr, by show 8 + (yn + 11) + 50 * d ≤ _; omega⟩
                have hst2 : (F0 m pc ls ((As.reverse ++ rest).map (ai_cv ad))).stack = (As.map (ai_cv ad)).reverse ++ rest.map (ai_cv ad) := by
                  simp [List.map_reverse]
                have hrest2 : 2 * (F0 m pc ls ((As.reverse ++ rest).map (ai_cv ad))).monitorRoom + ((rest.map (ai_cv ad)).map fun v => v.category).sum ≤ 8 := by
                  apply lv_room
                  rw [List.map_map]
                  have : ((fun v : Value => v.category) ∘ ai_cv ad) = fun v => v.category := by funext v; exact ai_cv_cat ad v
                  rw [this]; exact hrest
                have hrun : va_Run p l e R s m args below meth c H locs cells slots 0 0 (F0 m pc ls ((As.reverse ++ rest).map (ai_cv ad))) (rest.map (ai_cv ad)) (ai_Qc D cA ad sh v h2 (As.map (ai_cv ad)).toArray) (ai_A ad sh) := by
                  rcases hlk with ⟨hyo, hlk⟩ | hlk
                  · refine va_runS (n := na) (bytes := yb) (maxL := yn) (ret := yt) (index := ix) (own := own) (Ts := Ts) ⟨hx, hb, hml, hown, hts⟩ hmet ?_ hpre rfl (by rw [List.length_map]; exact hlen) hsz hst2 hrest2 hdec ⟨hce, hsl⟩
                    exact cwS na hts (ai_good (fun w hw => by
                      rcases List.mem_append.mp hw with q | q
                      · rcases List.mem_cons.mp q with rfl | q
                        · exact ai_tb_at hlk rfl
                        rcases List.mem_cons.mp q with rfl | q
                        · exact ai_tb_in w8 rfl
                        rcases List.mem_cons.mp q with rfl | q
                        · rw [← hyo]; exact ai_tb_in w2 rfl
                        cases q
                      · exact hG w q) hin) rfl rfl rfl ⟨hyo, w4, w5, w7⟩ hroom
                  · refine va_runSN (n := na) (bytes := yb) (maxL := yn) (ret := yt) (index := ix) (own := own) (host := RX7) (Ts := Ts) ⟨hx, hb, hml, hown, hts⟩ hmet ?_ hpre rfl (by rw [List.length_map]; exact hlen) hsz hst2 hrest2 hdec ⟨hce, hsl⟩
                    exact ⟨va_cnB na hts (ai_good hG hin) rfl rfl rfl (hN _ (List.mem_of_getElem? hlk) rfl) (hts _ (hin _ (ai_tb_in w2 rfl))) ⟨w4, w5, w7⟩ hroom, hts _ (hin _ (ai_tb_in w8 rfl)), trivial⟩
                refine ai_call hrun hS (fun q hq => by obtain ⟨k9, h9, rfl⟩ := hq; exact hAd k9 h9) (fun H1 locs1 hP1 hS1 => ?_)
                have := ih _ _ _ _ _ _ _ hp hP1 hS1 hL hnL
                rw [List.map_append] at this
                cases v <;> exact this
      case ireturn =>
        obtain ⟨rfl, hok⟩ := hok
        split at hp
        · rename_i x
          obtain ⟨hbx, hQ⟩ := hp
          rcases hok with ⟨hrt, rfl⟩ | ⟨hrt, rfl⟩
          · exact W.iret hx hb (hr.trans hrt) (fun t ht hW => hq _ _ _ _ t hQ hP hS ht hW) (fun q hq => hfree _ (hS.2.2 q hq)) hdec hlocks
          · exact W.zret hx hb (hr.trans hrt) (ai_nar0 (hbx.resolve_left (by decide))).1 (fun t ht hW => hq _ _ _ _ t hQ hP hS ht hW) (fun q hq => hfree _ (hS.2.2 q hq)) hdec hlocks
        · exact hp.elim
      case return_ =>
        obtain ⟨rfl, hrt⟩ := hok
        split at hp
        · exact W.vret hx hb (hr.trans hrt) (fun t ht hW => hq _ _ _ _ t hp hP hS ht hW) (fun q hq => hfree _ (hS.2.2 q hq)) hdec hlocks
        · exact hp.elim
/-- every call of the small machine is a contract of the machine -/
theorem ai_sound (l : Launch) {sh : ai_Sh} {cA : Bool → ClassId} {ad : Nat → Nat} {D : va_G} {mci ml : Nat → Nat} {cd : Nat → Nat → Option ai_I} {mt : Nat → Option ai_Mt}
    (hdist : ∀ i j, i < sh.length → j < sh.length → ad i = ad j → i = j)
    (hck : ∀ i q, mt i = some q → ∀ pc r, cd i pc = some r → ai_okb mt q.1.cls q.2.1 q.2.2.2.1 pc r = true)
    (hmt : ∀ i q, mt i = some q → ai_mokP q ∧ ml i = q.2.2.1 ∧ mci i = q.2.2.2.2.1) :
    ∀ (d i : Nat) (q : ai_Mt), mt i = some q → ∀ as h r h2, ai_C sh mci ml cd d i as h r h2 → Met l q.1 (.code q.1 q.2.1 q.2.2.1 q.2.2.2.1 :: ai_tb) (ai_rm d) (ai_Pc D cA ad sh as h) (ai_Qc D cA ad sh r h2) 0 0 (ai_A ad sh) := by
  intro d
  induction d with
  | zero => intro i q _ as h r h2 hC; exact (show False from hC).elim
  | succ d ih =>
    intro i q hq as h r h2 hC
    obtain ⟨hlen, n, hp⟩ := hC
    obtain ⟨hm1, hm2, hm3⟩ := hmt i q hq
    have hck1 := hck i q hq
    obtain ⟨y, b, nl, rt, ci, st, na⟩ := q
    dsimp only at hm2 hm3 hck1 ⊢
    simp only [ai_mokP] at hm1
    refine Met.ofW (cc := b) (maxL := nl) (ret := rt) hm1.2.2.1 rfl ?_
    intro p e s m args below meth c s₁ B hml hv
    obtain ⟨rfl, hP, hK, hN⟩ := hv
    have hts := atoms_spec (ws := Cond.code y b nl rt :: ai_tb) B.pre
    have hown : s.vm.findClass y.cls = some m.cls := findClass_of_methodNamed B.named
    rw [lg_entry_eq]
    rw [hm2] at hlen hp
    exact ai_walk (Q := fun r' h' => r' = r ∧ h' = h2) B.exec B.bytes hml hown hts (fun w hw => List.mem_cons_of_mem _ hw) hN hK hdist (fun k hk => ⟨k, hk, rfl⟩) B.returns B.notSynchronized hck1 hmt (Nat.le_refl _) (by show 50 * d + 50 ≤ 50 * (d + 1); omega) (Nat.zero_le _) (Nat.zero_le _) (fun i q hi as h r h2 hC => ih i q hi as h r h2 hC)
      (fun r' h' H locs t hQ hP hS ht hW => by
        obtain ⟨rfl, rfl⟩ := hQ
        exact ⟨rfl, by rw [ht]; exact hP, hS.F ht⟩) (fun q hq => hq) n 0 _ [] h s.heap [] _ hp hP va_S.rf (ai_lk_ent ad as nl hlen) hlen
end
section
def ai_lu : List (Nat × ai_I) → Nat → Option ai_I
  | [], _ => none
  | (k, q) :: t, pc => bif Nat.beq k pc then some q else ai_lu t pc
theorem ai_lu_mem : ∀ (t : List (Nat × ai_I)) (pc : Nat) (q : ai_I), ai_lu t pc = some q → (pc, q) ∈ t
  | [], _, _, h => by cases h
  | (k, q0) :: t, pc, q, h => by
    unfold ai_lu at h
    cases hb : Nat.beq k pc with
    | true =>
      rw [hb] at h
      have e : q0 = q := by simpa using h
      have e2 : k = pc := Nat.eq_of_beq_eq_true hb
      rw [e, e2]
      exact List.mem_cons_self
    | false =>
      rw [hb] at h
      exact List.mem_cons_of_mem _ (ai_lu_mem t pc q (by simpa using h))
/-- all rows of all methods are as they must be -/
def ai_all (mt : Nat → Option ai_Mt) : List ai_Mt → List (List (Nat × ai_I)) → Prop
  | [], [] => True
  | q :: qs, t :: ts => (t.all (fun e => ai_okb mt q.1.cls q.2.1 q.2.2.2.1 e.1 e.2) = true) ∧ ai_all mt qs ts
  | _, _ => False
theorem ai_all_at {mt : Nat → Option ai_Mt} : ∀ (qs : List ai_Mt) (ts : List (List (Nat × ai_I))), ai_all mt qs ts → ∀ i q, qs[i]? = some q → ∀ pc r, ai_lu (ts.getD i []) pc = some r → ai_okb mt q.1.cls q.2.1 q.2.2.2.1 pc r = true
  | [], _, _, i, q, h, _, _, _ => by simp at h
  | q0 :: qs, [], h, i, q, _, _, _, _ => by simp [ai_all] at h
  | q0 :: qs, t :: ts, h, 0, q, hq, pc, r, hl => by
    cases hq
    exact List.all_eq_true.mp h.1 (pc, r) (ai_lu_mem t pc r hl)
  | q0 :: qs, t :: ts, h, i + 1, q, hq, pc, r, hl => ai_all_at qs ts h.2 i q (by simpa using hq) pc r (by simpa using hl)
section AIX
variable {sh : ai_Sh} {mci : Nat → Nat} {cl : Nat → List Value → ai_H → Option Value → ai_H → Prop} {cd : Nat → Option ai_I} {Q : Option Value → ai_H → Prop}
set_option maxHeartbeats 1000000 in
theorem ai_P_ex : ∀ (n pc : Nat) (L : ai_Lc) (S : List Value) (h : ai_H), ai_P sh mci cl cd Q n pc L S h → ∃ r h2, Q r h2 ∧ ai_P sh mci cl cd (fun r' h' => r' = r ∧ h' = h2) n pc L S h := by
  intro n
  induction n with
  | zero => intro pc L S h hp; exact (show False from hp).elim
  | succ n ih =>
    intro pc L S h hp
    cases hcd : cd pc with
    | none => simp only [ai_P, hcd] at hp
    | some q =>
      obtain ⟨i, len, a, b, w, cc⟩ := q
      simp only [ai_P, hcd] at hp ⊢
      cases i
      all_goals (try exact (show False from hp).elim)
      all_goals dsimp only at hp ⊢
      case iconst v => exact ih _ _ _ _ hp
      case bipush v => exact ih _ _ _ _ hp
      case sipush v => exact ih _ _ _ _ hp
      case ldc2_w v => exact ih _ _ _ _ hp
      case goto v => exact ih _ _ _ _ hp
      case aload_n k => split at hp <;> first | exact hp.elim | exact ih _ _ _ _ hp
      case aload k => split at hp <;> first | exact hp.elim | exact ih _ _ _ _ hp
      case iload_n k => split at hp <;> first | exact hp.elim | exact ih _ _ _ _ hp
      case iload k => split at hp <;> first | exact hp.elim | exact ih _ _ _ _ hp
      case lload_n k => split at hp <;> first | exact hp.elim | exact ih _ _ _ _ hp
      case istore_n k => split at hp <;> first | exact hp.elim | (obtain ⟨L', e, hp⟩ := hp; obtain ⟨r, h2, q, z⟩ := ih _ _ _ _ hp; exact ⟨r, h2, q, L', e, z⟩)
      case istore k => split at hp <;> first | exact hp.elim | (obtain ⟨L', e, hp⟩ := hp; obtain ⟨r, h2, q, z⟩ := ih _ _ _ _ hp; exact ⟨r, h2, q, L', e, z⟩)
      case iinc k v => split at hp <;> first | exact hp.elim | (obtain ⟨L', e, hp⟩ := hp; obtain ⟨r, h2, q, z⟩ := ih _ _ _ _ hp; exact ⟨r, h2, q, L', e, z⟩)
      case iadd => split at hp <;> first | exact hp.elim | exact ih _ _ _ _ hp
      case isub => split at hp <;> first | exact hp.elim | exact ih _ _ _ _ hp
      case imul => split at hp <;> first | exact hp.elim | exact ih _ _ _ _ hp
      case iand => split at hp <;> first | exact hp.elim | exact ih _ _ _ _ hp
      case ior => split at hp <;> first | exact hp.elim | exact ih _ _ _ _ hp
      case ishl => split at hp <;> first | exact hp.elim | exact ih _ _ _ _ hp
      case ishr => split at hp <;> first | exact hp.elim | exact ih _ _ _ _ hp
      case land => split at hp <;> first | exact hp.elim | exact ih _ _ _ _ hp
      case lushr => split at hp <;> first | exact hp.elim | exact ih _ _ _ _ hp
      case lshr => split at hp <;> first | exact hp.elim | exact ih _ _ _ _ hp
      case l2i => split at hp <;> first | exact hp.elim | exact ih _ _ _ _ hp
      case dup => split at hp <;> first | exact hp.elim | (obtain ⟨r, h2, q, z⟩ := ih _ _ _ _ hp.2; exact ⟨r, h2, q, hp.1, z⟩)
      case dup2 => split at hp <;> first | exact hp.elim | (obtain ⟨r, h2, q, z⟩ := ih _ _ _ _ hp.2.2; exact ⟨r, h2, q, hp.1, hp.2.1, z⟩)
      case getfield ix =>
        split at hp
        · rename_i k S'
          cases hs : sh[k]? with
          | none => rw [hs] at hp; exact hp.elim
          | some c =>
            rw [hs] at hp
            cases c with
            | inl _ => exact hp.elim
            | inr q =>
              obtain ⟨ci, fs⟩ := q
              obtain ⟨e, hp⟩ := hp
              cases hf : fs[b]? with
              | none => rw [hf] at hp; exact hp.elim
              | some o =>
                rw [hf] at hp
                cases o with
                | none => obtain ⟨r, h2, q, z⟩ := ih _ _ _ _ hp; exact ⟨r, h2, q, by dsimp only; rw [hf]; exact ⟨e, z⟩⟩
                | some k2 => obtain ⟨r, h2, q, z⟩ := ih _ _ _ _ hp; exact ⟨r, h2, q, by dsimp only; rw [hf]; exact ⟨e, z⟩⟩
        · exact hp.elim
      case putfield ix => split at hp <;> first | exact hp.elim | (obtain ⟨e1, e2, hp⟩ := hp; obtain ⟨r, h2, q, z⟩ := ih _ _ _ _ hp; exact ⟨r, h2, q, e1, e2, z⟩)
      case iaload => split at hp <;> first | exact hp.elim | (obtain ⟨N, e1, e2, hp⟩ := hp; obtain ⟨r, h2, q, z⟩ := ih _ _ _ _ hp; exact ⟨r, h2, q, N, e1, e2, z⟩)
      case baload => split at hp <;> first | exact hp.elim | (obtain ⟨N, e1, e2, hp⟩ := hp; obtain ⟨r, h2, q, z⟩ := ih _ _ _ _ hp; exact ⟨r, h2, q, N, e1, e2, z⟩)
      case iastore => split at hp <;> first | exact hp.elim | (obtain ⟨N, e1, e2, hp⟩ := hp; obtain ⟨r, h2, q, z⟩ := ih _ _ _ _ hp; exact ⟨r, h2, q, N, e1, e2, z⟩)
      case bastore => split at hp <;> first | exact hp.elim | (obtain ⟨N, e1, e2, e3, hp⟩ := hp; obtain ⟨r, h2, q, z⟩ := ih _ _ _ _ hp; exact ⟨r, h2, q, N, e1, e2, e3, z⟩)
      case if_icmp k off =>
        split at hp
        · rcases hp with ⟨e, hp⟩ | ⟨e, hp⟩
          · obtain ⟨r, h2, q, z⟩ := ih _ _ _ _ hp; exact ⟨r, h2, q, Or.inl ⟨e, z⟩⟩
          · obtain ⟨r, h2, q, z⟩ := ih _ _ _ _ hp; exact ⟨r, h2, q, Or.inr ⟨e, z⟩⟩
        · exact hp.elim
      case ifCond k off =>
        split at hp
        · rcases hp with ⟨e, hp⟩ | ⟨e, hp⟩
          · obtain ⟨r, h2, q, z⟩ := ih _ _ _ _ hp; exact ⟨r, h2, q, Or.inl ⟨e, z⟩⟩
          · obtain ⟨r, h2, q, z⟩ := ih _ _ _ _ hp; exact ⟨r, h2, q, Or.inr ⟨e, z⟩⟩
        · exact hp.elim
      case tableswitch df lo hi offs =>
        split at hp
        · rcases hp with ⟨h1, t, h2, hp⟩ | ⟨h1, h2, off, t, h3, h4, hp⟩
          · obtain ⟨r, h2', q, z⟩ := ih _ _ _ _ hp; exact ⟨r, h2', q, Or.inl ⟨h1, t, h2, z⟩⟩
          · obtain ⟨r, h2', q, z⟩ := ih _ _ _ _ hp; exact ⟨r, h2', q, Or.inr ⟨h1, h2, off, t, h3, h4, z⟩⟩
        · exact hp.elim
      case invokevirtual ix =>
        obtain ⟨As, k, rest, fs, v, h2, e1, e2, e3, e4, e5, hp⟩ := hp
        obtain ⟨r, h2', q, z⟩ := ih _ _ _ _ hp
        exact ⟨r, h2', q, As, k, rest, fs, v, h2, e1, e2, e3, e4, e5, z⟩
      case invokestatic ix =>
        by_cases h1 : a = 1001
        · simp only [if_pos h1] at hp ⊢
          split at hp <;> first | exact hp.elim | (obtain ⟨r, h2, q, z⟩ := ih _ _ _ _ hp.2; exact ⟨r, h2, q, hp.1, z⟩)
        · by_cases h2 : a = 1002
          · simp only [if_neg h1, if_pos h2] at hp ⊢
            split at hp <;> first | exact hp.elim | (obtain ⟨r, h2, q, z⟩ := ih _ _ _ _ hp.2; exact ⟨r, h2, q, hp.1, z⟩)
          · by_cases h3 : a = 1003
            · simp only [if_neg h1, if_neg h2, if_pos h3] at hp ⊢
              split at hp <;> first | exact hp.elim | (obtain ⟨N0, N1, e0, e1, c1, c2, c3, c4, c5, c6, hp⟩ := hp; obtain ⟨r, h2, q, z⟩ := ih _ _ _ _ hp; exact ⟨r, h2, q, N0, N1, e0, e1, c1, c2, c3, c4, c5, c6, z⟩)
            · simp only [if_neg h1, if_neg h2, if_neg h3] at hp ⊢
              obtain ⟨As, rest, v, h2, e1, e2, e4, e5, hp⟩ := hp
              obtain ⟨r, h2', q, z⟩ := ih _ _ _ _ hp
              exact ⟨r, h2', q, As, rest, v, h2, e1, e2, e4, e5, z⟩
      case ireturn => split at hp <;> first | exact hp.elim | exact ⟨_, _, hp.2, hp.1, rfl, rfl⟩
      case return_ => split at hp <;> first | exact hp.elim | exact ⟨_, _, hp, rfl, rfl⟩
end AIX
/-- a run that ends with Q is a call's answer -/
theorem ai_intro {sh : ai_Sh} {mci ml : Nat → Nat} {cd : Nat → Nat → Option ai_I} {d i : Nat} {as : List Value} {h : ai_H} {Q : Option Value → ai_H → Prop} (hl : (ai_ent (ml i) as).length = ml i) (hR : ai_R sh mci (ai_C sh mci ml cd d) (cd i) Q 0 (ai_ent (ml i) as) [] h) : ∃ r h2, ai_C sh mci ml cd (d + 1) i as h r h2 ∧ Q r h2 := by
  obtain ⟨n, hp⟩ := hR
  obtain ⟨r, h2, hq, z⟩ := ai_P_ex n _ _ _ _ hp
  exact ⟨r, h2, ⟨hl, n, z⟩, hq⟩
end
section
/-! RUNS OVER INTERVALS: a value is a reference, an int between two bounds (biased by 2^31), or some long -/
abbrev ab_V : Type := Nat ⊕ Option (Nat × Nat)
abbrev ab_L : Type := List (Option ab_V)
abbrev ab_G : Type := List (Nat × Nat × Nat × Nat)
abbrev ab_R : Type := Option (Nat × Nat) × ab_G
def ab_U (x : Int32) : Nat := (x.toInt + 2147483648).toNat
def ab_I (n : Nat) : Int32 := Int32.ofInt ((n : Int) - 2147483648)
def ab_in (p : Nat × Nat) (x : Int32) : Prop := p.1 ≤ ab_U x ∧ ab_U x ≤ p.2
def ab_v : ab_V → Value → Prop
  | .inl k, .ref q => k = q
  | .inr (some p), .int x => ab_in p x
  | .inr none, .long _ => True
  | _, _ => False
def ab_s : List ab_V → List Value → Prop
  | [], [] => True
  | a :: A, v :: S => ab_v a v ∧ ab_s A S
  | _, _ => False
def ab_l : ab_L → ai_Lc → Prop
  | [], [] => True
  | none :: A, none :: L => ab_l A L
  | some a :: A, some v :: L => ab_v a v ∧ ab_l A L
  | _, _ => False
def ab_g : ab_G → Nat → Nat → Nat × Nat
  | [], _, _ => (2147483648, 2147483648)
  | (k, i, lo, hi) :: G, k', j => bif Nat.beq k k' && Nat.beq i j then (lo, hi) else ab_g G k' j
def ab_h (G : ab_G) (h : ai_H) : Prop := ∀ k j, ab_in (ab_g G k j) (h k j)
def ab_r : Option (Nat × Nat) → Option Value → Prop
  | none, none => True
  | some p, some (.int x) => ab_in p x
  | _, _ => False
def ab_n {α : Type} (n : Nat) (f : Nat → α) : α := match n with
  | 0 => f 0
  | m + 1 => f (m + 1)
def ab_f {α : Type} (p : Nat × Nat) (f : Nat × Nat → α) : α := ab_n p.1 fun a => ab_n p.2 fun b => f (a, b)
theorem ab_n_eq {α : Type} (n : Nat) (f : Nat → α) : ab_n n f = f n := by cases n <;> rfl
theorem ab_f_eq {α : Type} (p : Nat × Nat) (f : Nat × Nat → α) : ab_f p f = f p := by simp [ab_f, ab_n_eq]
def ab_top : Nat × Nat := (0, 4294967295)
def ab_c (x : Int32) : Nat × Nat := (ab_U x, ab_U x)
def ab_add (p q : Nat × Nat) : Nat × Nat := bif Nat.ble 2147483648 (p.1 + q.1) && Nat.ble (p.2 + q.2) 6442450943 then (p.1 + q.1 - 2147483648, p.2 + q.2 - 2147483648) else ab_top
def ab_sub (p q : Nat × Nat) : Nat × Nat := bif Nat.ble q.2 (p.1 + 2147483648) && Nat.ble (p.2 + 2147483648) (q.1 + 4294967295) then (p.1 + 2147483648 - q.2, p.2 + 2147483648 - q.1) else ab_top
def ab_op (f : Int32 → Int32 → Int32) (p q : Nat × Nat) : Nat × Nat := bif Nat.beq p.1 p.2 && Nat.beq q.1 q.2 then ab_c (f (ab_I p.1) (ab_I q.1)) else ab_top
def ab_min (p q : Nat × Nat) : Nat × Nat := (bif Nat.ble p.1 q.1 then p.1 else q.1, bif Nat.ble p.2 q.2 then p.2 else q.2)
def ab_max (p q : Nat × Nat) : Nat × Nat := (bif Nat.ble p.1 q.1 then q.1 else p.1, bif Nat.ble p.2 q.2 then q.2 else p.2)
def ab_eq (p q : Nat × Nat) : Option Bool := bif Nat.beq p.1 p.2 && Nat.beq q.1 q.2 && Nat.beq p.1 q.1 then some true else bif Nat.ble (p.2 + 1) q.1 || Nat.ble (q.2 + 1) p.1 then some false else none
def ab_lt (p q : Nat × Nat) : Option Bool := bif Nat.ble (p.2 + 1) q.1 then some true else bif Nat.ble q.2 p.1 then some false else none
def ab_cmp (c : Jvm.ClassFile.Cond) (p q : Nat × Nat) : Option Bool := match c with
  | .eq => ab_eq p q
  | .ne => (ab_eq p q).map not
  | .lt => ab_lt p q
  | .ge => (ab_lt p q).map not
  | .gt => ab_lt q p
  | .le => (ab_lt q p).map not
def ab_01 (p : Nat × Nat) : Bool := Nat.ble 2147483648 p.1 && Nat.ble p.2 2147483649
/-- a place in an array of N -/
def ab_ix (p : Nat × Nat) (N : Nat) : Option Nat := bif Nat.beq p.1 p.2 && Nat.ble 2147483648 p.1 && Nat.ble (p.1 + 1) (2147483648 + N) then some (p.1 - 2147483648) else none
def ab_cat : ab_V → Nat
  | .inr none => 2
  | _ => 1
def ab_sum : List ab_V → Nat
  | [] => 0
  | a :: A => ab_cat a + ab_sum A
def ab_sa : ab_L → Nat → ab_V → Option ab_L
  | [], _, _ => none
  | _ :: L, 0, v => some (some v :: L)
  | some (.inr none) :: _, 1, _ => none
  | x :: L, k + 1, v => match ab_sa L k v with
    | some L2 => some (x :: L2)
    | none => none
def ab_fl : List ab_V → ab_L
  | [] => []
  | .inr none :: A => some (.inr none) :: none :: ab_fl A
  | a :: A => some a :: ab_fl A
def ab_rep : Nat → ab_L
  | 0 => []
  | n + 1 => none :: ab_rep n
def ab_ent (n : Nat) (as : List ab_V) : ab_L := ab_fl as ++ ab_rep (n - (ab_fl as).length)
def ab_ref (r : Option (Nat × Nat)) (S : List ab_V) : List ab_V := match r with
  | none => S
  | some p => .inr (some p) :: S
def ab_e (sh : ai_Sh) (mci : Nat → Nat) (ce : Nat → List ab_V → ab_G → Option ab_R) (cd : Nat → Option ai_I) : Nat → Nat → ab_L → List ab_V → ab_G → Option ab_R
  | 0, _, _, _, _ => none
  | n + 1, pc, L, S, G => match cd pc with
    | none => none
    | some (i, _, a, b, _, c) => match i with
      | .iconst _ => ab_n (pc + 1) fun pc => ab_f (ab_c c) fun p => ab_e sh mci ce cd n pc L (.inr (some p) :: S) G
      | .bipush _ => ab_n (pc + 2) fun pc => ab_f (ab_c c) fun p => ab_e sh mci ce cd n pc L (.inr (some p) :: S) G
      | .sipush _ => ab_n (pc + 3) fun pc => ab_f (ab_c c) fun p => ab_e sh mci ce cd n pc L (.inr (some p) :: S) G
      | .ldc2_w _ => ab_n (pc + 3) fun pc => ab_e sh mci ce cd n pc L (.inr none :: S) G
      | .aload_n _ => match L[a]? with
        | some (some (.inl x)) => ab_n (pc + 1) fun pc => ab_e sh mci ce cd n pc L (.inl x :: S) G
        | _ => none
      | .aload _ => match L[a]? with
        | some (some (.inl x)) => ab_n (pc + 2) fun pc => ab_e sh mci ce cd n pc L (.inl x :: S) G
        | _ => none
      | .iload_n _ => match L[a]? with
        | some (some (.inr (some x))) => ab_n (pc + 1) fun pc => ab_e sh mci ce cd n pc L (.inr (some x) :: S) G
        | _ => none
      | .iload _ => match L[a]? with
        | some (some (.inr (some x))) => ab_n (pc + 2) fun pc => ab_e sh mci ce cd n pc L (.inr (some x) :: S) G
        | _ => none
      | .lload_n _ => match L[a]? with
        | some (some (.inr none)) => ab_n (pc + 1) fun pc => ab_e sh mci ce cd n pc L (.inr none :: S) G
        | _ => none
      | .istore_n _ => match S with
        | .inr (some x) :: S' => (match ab_sa L a (.inr (some x)) with
          | some L' => ab_n (pc + 1) fun pc => ab_e sh mci ce cd n pc L' S' G
          | none => none)
        | _ => none
      | .istore _ => match S with
        | .inr (some x) :: S' => (match ab_sa L a (.inr (some x)) with
          | some L' => ab_n (pc + 2) fun pc => ab_e sh mci ce cd n pc L' S' G
          | none => none)
        | _ => none
      | .iinc _ _ => match L[a]? with
        | some (some (.inr (some x))) => ab_f (ab_add x (ab_c c)) fun y => (match ab_sa L a (.inr (some y)) with
          | some L' => ab_n (pc + 3) fun pc => ab_e sh mci ce cd n pc L' S G
          | none => none)
        | _ => none
      | .iadd => match S with
        | .inr (some y) :: .inr (some x) :: S' => ab_n (pc + 1) fun pc => ab_f (ab_add x y) fun p => ab_e sh mci ce cd n pc L (.inr (some p) :: S') G
        | _ => none
      | .isub => match S with
        | .inr (some y) :: .inr (some x) :: S' => ab_n (pc + 1) fun pc => ab_f (ab_sub x y) fun p => ab_e sh mci ce cd n pc L (.inr (some p) :: S') G
        | _ => none
      | .imul => match S with
        | .inr (some y) :: .inr (some x) :: S' => ab_n (pc + 1) fun pc => ab_f (ab_op (fun x y => x * y) x y) fun p => ab_e sh mci ce cd n pc L (.inr (some p) :: S') G
        | _ => none
      | .iand => match S with
        | .inr (some y) :: .inr (some x) :: S' => ab_n (pc + 1) fun pc => ab_f (ab_op (fun x y => x &&& y) x y) fun p => ab_e sh mci ce cd n pc L (.inr (some p) :: S') G
        | _ => none
      | .ior => match S with
        | .inr (some y) :: .inr (some x) :: S' => ab_n (pc + 1) fun pc => ab_f (ab_op (fun x y => x ||| y) x y) fun p => ab_e sh mci ce cd n pc L (.inr (some p) :: S') G
        | _ => none
      | .ishl => match S with
        | .inr (some y) :: .inr (some x) :: S' => ab_n (pc + 1) fun pc => ab_f (ab_op (fun x y => x <<< (y &&& 31)) x y) fun p => ab_e sh mci ce cd n pc L (.inr (some p) :: S') G
        | _ => none
      | .ishr => match S with
        | .inr (some y) :: .inr (some x) :: S' => ab_n (pc + 1) fun pc => ab_f (ab_op (fun x y => x >>> (y &&& 31)) x y) fun p => ab_e sh mci ce cd n pc L (.inr (some p) :: S') G
        | _ => none
      | .land => match S with
        | .inr none :: .inr none :: S' => ab_n (pc + 1) fun pc => ab_e sh mci ce cd n pc L (.inr none :: S') G
        | _ => none
      | .lushr => match S with
        | .inr (some _) :: .inr none :: S' => ab_n (pc + 1) fun pc => ab_e sh mci ce cd n pc L (.inr none :: S') G
        | _ => none
      | .lshr => match S with
        | .inr (some _) :: .inr none :: S' => ab_n (pc + 1) fun pc => ab_e sh mci ce cd n pc L (.inr none :: S') G
        | _ => none
      | .l2i => match S with
        | .inr none :: S' => ab_n (pc + 1) fun pc => ab_e sh mci ce cd n pc L (.inr (some ab_top) :: S') G
        | _ => none
      | .dup => match S with
        | .inl k :: S' => ab_n (pc + 1) fun pc => ab_e sh mci ce cd n pc L (.inl k :: .inl k :: S') G
        | .inr (some p) :: S' => ab_n (pc + 1) fun pc => ab_e sh mci ce cd n pc L (.inr (some p) :: .inr (some p) :: S') G
        | _ => none
      | .dup2 => match S with
        | .inr (some p) :: .inl k :: S' => ab_n (pc + 1) fun pc => ab_e sh mci ce cd n pc L (.inr (some p) :: .inl k :: .inr (some p) :: .inl k :: S') G
        | _ => none
      | .getfield _ => match S with
        | .inl k :: S' => match sh[k]? with
          | some (.inr (ci, fs)) => bif Nat.beq ci a then (match fs[b]? with
            | some none => ab_n (pc + 3) fun pc => ab_f (ab_g G k b) fun p => ab_e sh mci ce cd n pc L (.inr (some p) :: S') G
            | some (some k2) => ab_n (pc + 3) fun pc => ab_e sh mci ce cd n pc L (.inl k2 :: S') G
            | none => none) else none
          | _ => none
        | _ => none
      | .putfield _ => match S with
        | .inr (some x) :: .inl k :: S' => match sh[k]? with
          | some (.inr (ci, fs)) => (match fs[b]? with
            | some none => bif Nat.beq ci a && (decide (c = 0) || ab_01 x) then ab_n (pc + 3) fun pc => ab_e sh mci ce cd n pc L S' ((k, b, x) :: G) else none
            | _ => none)
          | _ => none
        | _ => none
      | .iaload => match S with
        | .inr (some i) :: .inl k :: S' => match sh[k]? with
          | some (.inl (false, N)) => (match ab_ix i N with
            | some j => ab_n (pc + 1) fun pc => ab_f (ab_g G k j) fun p => ab_e sh mci ce cd n pc L (.inr (some p) :: S') G
            | none => none)
          | _ => none
        | _ => none
      | .baload => match S with
        | .inr (some i) :: .inl k :: S' => match sh[k]? with
          | some (.inl (true, N)) => (match ab_ix i N with
            | some j => ab_n (pc + 1) fun pc => ab_f (ab_g G k j) fun p => ab_e sh mci ce cd n pc L (.inr (some p) :: S') G
            | none => none)
          | _ => none
        | _ => none
      | .iastore => match S with
        | .inr (some x) :: .inr (some i) :: .inl k :: S' => match sh[k]? with
          | some (.inl (false, N)) => (match ab_ix i N with
            | some j => ab_n j fun j => ab_n (pc + 1) fun pc => ab_e sh mci ce cd n pc L S' ((k, j, x) :: G)
            | none => none)
          | _ => none
        | _ => none
      | .bastore => match S with
        | .inr (some x) :: .inr (some i) :: .inl k :: S' => match sh[k]? with
          | some (.inl (true, N)) => (match ab_ix i N with
            | some j => bif ab_01 x then ab_n j fun j => ab_n (pc + 1) fun pc => ab_e sh mci ce cd n pc L S' ((k, j, x) :: G) else none
            | none => none)
          | _ => none
        | _ => none
      | .if_icmp cc _ => match S with
        | .inr (some y) :: .inr (some x) :: S' => (match ab_cmp cc x y with
          | some true => ab_e sh mci ce cd n a L S' G
          | some false => ab_n (pc + 3) fun pc => ab_e sh mci ce cd n pc L S' G
          | none => none)
        | _ => none
      | .ifCond cc _ => match S with
        | .inr (some x) :: S' => (match ab_cmp cc x (2147483648, 2147483648) with
          | some true => ab_e sh mci ce cd n a L S' G
          | some false => ab_n (pc + 3) fun pc => ab_e sh mci ce cd n pc L S' G
          | none => none)
        | _ => none
      | .goto _ => ab_e sh mci ce cd n a L S G
      | .tableswitch d lo hi offs => match S with
        | .inr (some x) :: S' => bif (decide ((x.2 : Int) < lo + 2147483648) || decide (hi + 2147483648 < (x.1 : Int))) then (bif decide (0 ≤ (pc : Int) + d) then ab_n ((pc : Int) + d).toNat fun pc => ab_e sh mci ce cd n pc L S' G else none)
            else bif Nat.beq x.1 x.2 then (match offs[((x.1 : Int) - 2147483648 - lo).toNat]? with
              | some off => bif decide (0 ≤ (pc : Int) + off) then ab_n ((pc : Int) + off).toNat fun pc => ab_e sh mci ce cd n pc L S' G else none
              | none => none) else none
        | _ => none
      | .invokevirtual _ => match S.drop b with
        | .inl k :: rest => bif Nat.beq (S.take b).length b && Nat.ble (ab_sum rest) 8 then (match sh[k]? with
          | some (.inr (ci, _)) => bif Nat.beq ci (mci a) then (match ce a (.inl k :: (S.take b).reverse) G with
            | some (r, G2) => ab_n (pc + 3) fun pc => ab_e sh mci ce cd n pc L (ab_ref r rest) G2
            | none => none) else none
          | _ => none) else none
        | _ => none
      | .invokestatic _ =>
        if a = 1001 then (match S with
          | .inr (some y) :: .inr (some x) :: S' => bif Nat.ble (ab_sum S') 8 then ab_n (pc + 3) fun pc => ab_f (ab_min x y) fun p => ab_e sh mci ce cd n pc L (.inr (some p) :: S') G else none
          | _ => none)
        else if a = 1002 then (match S with
          | .inr (some y) :: .inr (some x) :: S' => bif Nat.ble (ab_sum S') 8 then ab_n (pc + 3) fun pc => ab_f (ab_max x y) fun p => ab_e sh mci ce cd n pc L (.inr (some p) :: S') G else none
          | _ => none)
        else if a = 1003 then (match S with
          | .inr (some m) :: .inr (some dp) :: .inl k1 :: .inr (some sp) :: .inl k0 :: S' => (match sh[k0]?, sh[k1]? with
            | some (.inl (false, N0)), some (.inl (false, N1)) => (match ab_ix sp N0, ab_ix dp N1 with
              | some i, some j => bif Nat.beq m.1 2147483649 && Nat.beq m.2 2147483649 && Nat.ble (ab_sum S') 8 then ab_n (pc + 3) fun pc => ab_f (ab_g G k0 i) fun p => ab_e sh mci ce cd n pc L S' ((k1, j, p) :: G) else none
              | _, _ => none)
            | _, _ => none)
          | _ => none)
        else bif Nat.beq (S.take b).length b && Nat.ble (ab_sum (S.drop b)) 8 then (match ce a (S.take b).reverse G with
          | some (r, G2) => ab_n (pc + 3) fun pc => ab_e sh mci ce cd n pc L (ab_ref r (S.drop b)) G2
          | none => none) else none
      | .ireturn => match S with
        | [.inr (some x)] => bif Nat.beq b 0 || ab_01 x then some (some x, G) else none
        | _ => none
      | .return_ => match S with
        | [] => some (none, G)
        | _ => none
      | _ => none
/-- a call of method i over intervals -/
def ab_ec (sh : ai_Sh) (mci ml : Nat → Nat) (cd : Nat → Nat → Option ai_I) (fuel : Nat) : Nat → Nat → List ab_V → ab_G → Option ab_R
  | 0, _, _, _ => none
  | d + 1, i, as, G => bif Nat.beq (ab_ent (ml i) as).length (ml i) then ab_e sh mci (ab_ec sh mci ml cd fuel d) (cd i) fuel 0 (ab_ent (ml i) as) [] G else none
end
section
/-! the runs over intervals are true of the small machine -/
theorem ab_Ub (x : Int32) : (ab_U x : Int) = x.toInt + 2147483648 ∧ ab_U x ≤ 4294967295 := by
  have h1 := Int32.toInt_lt x
  have h2 := Int32.le_toInt x
  unfold ab_U
  omega
theorem ab_lt_iff (x y : Int32) : x < y ↔ ab_U x < ab_U y := by
  rw [Int32.lt_iff_toInt_lt]
  have h1 := (ab_Ub x).1
  have h2 := (ab_Ub y).1
  omega
theorem ab_le_iff (x y : Int32) : x ≤ y ↔ ab_U x ≤ ab_U y := by
  rw [Int32.le_iff_toInt_le]
  have h1 := (ab_Ub x).1
  have h2 := (ab_Ub y).1
  omega
theorem ab_eq_iff (x y : Int32) : x = y ↔ ab_U x = ab_U y := by
  rw [← Int32.toInt_inj]
  have h1 := (ab_Ub x).1
  have h2 := (ab_Ub y).1
  omega
theorem ab_U0 : ab_U 0 = 2147483648 := by decide +kernel
theorem ab_U1 : ab_U 1 = 2147483649 := by decide +kernel
theorem ab_IU (x : Int32) : ab_I (ab_U x) = x := by
  unfold ab_I
  rw [(ab_Ub x).1, show x.toInt + 2147483648 - 2147483648 = x.toInt by omega, Int32.ofInt_toInt]
theorem ab_in_c (x : Int32) : ab_in (ab_c x) x := ⟨Nat.le_refl _, Nat.le_refl _⟩
theorem ab_in_top (x : Int32) : ab_in ab_top x := ⟨Nat.zero_le _, (ab_Ub x).2⟩
theorem ab_in_add {p q : Nat × Nat} {x y : Int32} (hx : ab_in p x) (hy : ab_in q y) : ab_in (ab_add p q) (x + y) := by
  unfold ab_add
  cases hb : (Nat.ble 2147483648 (p.1 + q.1) && Nat.ble (p.2 + q.2) 6442450943) with
  | false => exact ab_in_top _
  | true =>
    simp only [Bool.and_eq_true, Nat.ble_eq] at hb
    have h1 := (ab_Ub x).1
    have h2 := (ab_Ub y).1
    have h3 := (ab_Ub (x + y)).1
    rw [Int32.toInt_add, Int.bmod_eq_of_le (by have := hx.1; have := hx.2; have := hy.1; have := hy.2; omega) (by have := hx.1; have := hx.2; have := hy.1; have := hy.2; omega)] at h3
    have := hx.1; have := hx.2; have := hy.1; have := hy.2
    constructor
    · show p.1 + q.1 - 2147483648 ≤ _
      omega
    · show _ ≤ p.2 + q.2 - 2147483648
      omega
theorem ab_in_sub {p q : Nat × Nat} {x y : Int32} (hx : ab_in p x) (hy : ab_in q y) : ab_in (ab_sub p q) (x - y) := by
  unfold ab_sub
  cases hb : (Nat.ble q.2 (p.1 + 2147483648) && Nat.ble (p.2 + 2147483648) (q.1 + 4294967295)) with
  | false => exact ab_in_top _
  | true =>
    simp only [Bool.and_eq_true, Nat.ble_eq] at hb
    have h1 := (ab_Ub x).1
    have h2 := (ab_Ub y).1
    have h3 := (ab_Ub (x - y)).1
    rw [Int32.toInt_sub, Int.bmod_eq_of_le (by have := hx.1; have := hx.2; have := hy.1; have := hy.2; omega) (by have := hx.1; have := hx.2; have := hy.1; have := hy.2; omega)] at h3
    have := hx.1; have := hx.2; have := hy.1; have := hy.2
    constructor
    · show p.1 + 2147483648 - q.2 ≤ _
      omega
    · show _ ≤ p.2 + 2147483648 - q.1
      omega
theorem ab_one {p : Nat × Nat} {x : Int32} (hx : ab_in p x) (h : Nat.beq p.1 p.2 = true) : ab_I p.1 = x := by
  have h1 := Nat.eq_of_beq_eq_true h
  have h2 : p.1 = ab_U x := by have := hx.1; have := hx.2; omega
  rw [h2, ab_IU]
theorem ab_in_op {f : Int32 → Int32 → Int32} {p q : Nat × Nat} {x y : Int32} (hx : ab_in p x) (hy : ab_in q y) : ab_in (ab_op f p q) (f x y) := by
  unfold ab_op
  cases hb : (Nat.beq p.1 p.2 && Nat.beq q.1 q.2) with
  | false => exact ab_in_top _
  | true =>
    rw [Bool.and_eq_true] at hb
    show ab_in (ab_c (f (ab_I p.1) (ab_I q.1))) _
    rw [ab_one hx hb.1, ab_one hy hb.2]
    exact ab_in_c _
theorem ab_in_min {p q : Nat × Nat} {x y : Int32} (hx : ab_in p x) (hy : ab_in q y) : ab_in (ab_min p q) (if y < x then y else x) := by
  have := hx.1; have := hx.2; have := hy.1; have := hy.2
  unfold ab_min ab_in
  by_cases h : y < x
  · rw [if_pos h]
    rw [ab_lt_iff] at h
    constructor
    · cases hb : Nat.ble p.1 q.1 with
      | true => have := Nat.le_of_ble_eq_true hb; simp only [cond_true]; omega
      | false => simp only [cond_false]; omega
    · cases hb : Nat.ble p.2 q.2 with
      | true => simp only [cond_true]; omega
      | false => simp only [cond_false]; omega
  · rw [if_neg h]
    rw [ab_lt_iff] at h
    constructor
    · cases hb : Nat.ble p.1 q.1 with
      | true => simp only [cond_true]; omega
      | false => have := Nat.not_le_of_not_ble_eq_true (Bool.eq_false_iff.mp hb); simp only [cond_false]; omega
    · cases hb : Nat.ble p.2 q.2 with
      | true => simp only [cond_true]; omega
      | false => have := Nat.not_le_of_not_ble_eq_true (Bool.eq_false_iff.mp hb); simp only [cond_false]; omega
theorem ab_in_max {p q : Nat × Nat} {x y : Int32} (hx : ab_in p x) (hy : ab_in q y) : ab_in (ab_max p q) (if x < y then y else x) := by
  have := hx.1; have := hx.2; have := hy.1; have := hy.2
  unfold ab_max ab_in
  by_cases h : x < y
  · rw [if_pos h]
    rw [ab_lt_iff] at h
    constructor
    · cases hb : Nat.ble p.1 q.1 with
      | true => simp only [cond_true]; omega
      | false => have := Nat.not_le_of_not_ble_eq_true (Bool.eq_false_iff.mp hb); simp only [cond_false]; omega
    · cases hb : Nat.ble p.2 q.2 with
      | true => simp only [cond_true]; omega
      | false => have := Nat.not_le_of_not_ble_eq_true (Bool.eq_false_iff.mp hb); simp only [cond_false]; omega
  · rw [if_neg h]
    rw [ab_lt_iff] at h
    constructor
    · cases hb : Nat.ble p.1 q.1 with
      | true => simp only [cond_true]; omega
      | false => simp only [cond_false]; omega
    · cases hb : Nat.ble p.2 q.2 with
      | true => have := Nat.le_of_ble_eq_true hb; simp only [cond_true]; omega
      | false => simp only [cond_false]; omega
theorem ab_eq_ok {p q : Nat × Nat} {x y : Int32} {b : Bool} (hx : ab_in p x) (hy : ab_in q y) (h : ab_eq p q = some b) : b = true ↔ x = y := by
  have := hx.1; have := hx.2; have := hy.1; have := hy.2
  rw [ab_eq_iff]
  unfold ab_eq at h
  cases h1 : (Nat.beq p.1 p.2 && Nat.beq q.1 q.2 && Nat.beq p.1 q.1) with
  | true =>
    rw [h1] at h
    simp only [cond_true, Option.some.injEq] at h
    simp only [Bool.and_eq_true] at h1
    have e1 := Nat.eq_of_beq_eq_true h1.1.1
    have e2 := Nat.eq_of_beq_eq_true h1.1.2
    have e3 := Nat.eq_of_beq_eq_true h1.2
    exact ⟨fun _ => by omega, fun _ => h.symm⟩
  | false =>
    rw [h1] at h
    simp only [cond_false] at h
    cases h2 : (Nat.ble (p.2 + 1) q.1 || Nat.ble (q.2 + 1) p.1) with
    | false => rw [h2] at h; simp at h
    | true =>
      rw [h2] at h
      simp only [cond_true, Option.some.injEq] at h
      simp only [Bool.or_eq_true, Nat.ble_eq] at h2
      subst h
      exact ⟨fun z => (by cases z), fun z => (by omega)⟩
theorem ab_lt_ok {p q : Nat × Nat} {x y : Int32} {b : Bool} (hx : ab_in p x) (hy : ab_in q y) (h : ab_lt p q = some b) : b = true ↔ x < y := by
  have := hx.1; have := hx.2; have := hy.1; have := hy.2
  rw [ab_lt_iff]
  unfold ab_lt at h
  cases h1 : Nat.ble (p.2 + 1) q.1 with
  | true =>
    rw [h1] at h
    simp only [cond_true, Option.some.injEq] at h
    rw [Nat.ble_eq] at h1
    exact ⟨fun _ => by omega, fun _ => h.symm⟩
  | false =>
    rw [h1] at h
    simp only [cond_false] at h
    cases h2 : Nat.ble q.2 p.1 with
    | false => rw [h2] at h; simp at h
    | true =>
      rw [h2] at h
      simp only [cond_true, Option.some.injEq] at h
      rw [Nat.ble_eq] at h2
      subst h
      exact ⟨fun z => (by cases z), fun z => (by omega)⟩
theorem ab_not_lt (x y : Int32) : y ≤ x ↔ ¬ x < y := by rw [ab_le_iff, ab_lt_iff]; omega
theorem ab_cmp_ok {c : Jvm.ClassFile.Cond} {p q : Nat × Nat} {x y : Int32} {b : Bool} (hx : ab_in p x) (hy : ab_in q y) (h : ab_cmp c p q = some b) : b = true ↔ ai_cmp c x y := by
  have hn : ∀ {o : Option Bool} {P : Prop}, (∀ b, o = some b → (b = true ↔ P)) → o.map not = some b → (b = true ↔ ¬ P) := by
    intro o P h1 h2
    cases o with
    | none => cases h2
    | some b2 =>
      have h3 := h1 b2 rfl
      simp only [Option.map_some, Option.some.injEq] at h2
      subst h2
      rw [← h3]
      cases b2 <;> simp
  cases c with
  | eq => exact ab_eq_ok hx hy h
  | ne => exact hn (fun b hb => ab_eq_ok hx hy hb) h
  | lt => exact ab_lt_ok hx hy h
  | ge => show _ ↔ y ≤ x; rw [ab_not_lt]; exact hn (fun b hb => ab_lt_ok hx hy hb) h
  | gt => exact ab_lt_ok hy hx h
  | le => show _ ↔ x ≤ y; rw [ab_not_lt]; exact hn (fun b hb => ab_lt_ok hy hx hb) h
theorem ab_01_ok {p : Nat × Nat} {x : Int32} (hx : ab_in p x) (h : ab_01 p = true) : x = 0 ∨ x = 1 := by
  simp only [ab_01, Bool.and_eq_true, Nat.ble_eq] at h
  have := hx.1; have := hx.2
  rw [ab_eq_iff, ab_eq_iff, ab_U0, ab_U1]
  omega
theorem ab_ix_ok {p : Nat × Nat} {x : Int32} {N j : Nat} (hx : ab_in p x) (h : ab_ix p N = some j) : vp_in x N ∧ x.toNatClampNeg = j ∧ j < N ∧ ¬ x < 0 := by
  unfold ab_ix at h
  cases h1 : (Nat.beq p.1 p.2 && Nat.ble 2147483648 p.1 && Nat.ble (p.1 + 1) (2147483648 + N)) with
  | false => rw [h1] at h; simp at h
  | true =>
    rw [h1] at h
    simp only [cond_true, Option.some.injEq] at h
    simp only [Bool.and_eq_true, Nat.ble_eq] at h1
    have e1 := Nat.eq_of_beq_eq_true h1.1.1
    have := hx.1; have := hx.2
    have h2 := (ab_Ub x).1
    have h3 : x.toNatClampNeg = j := by
      show x.toInt.toNat = j
      omega
    have h4 : ¬ x < 0 := by rw [ab_lt_iff, ab_U0]; omega
    refine ⟨?_, h3, by omega, h4⟩
    unfold vp_in
    rw [h3]
    rintro (z | z)
    · exact h4 z
    · omega
theorem ab_s_int {p : Nat × Nat} {A : List ab_V} {S : List Value} (h : ab_s (.inr (some p) :: A) S) : ∃ x S1, S = .int x :: S1 ∧ ab_in p x ∧ ab_s A S1 := by
  cases S with
  | nil => exact h.elim
  | cons v S =>
    obtain ⟨h1, h2⟩ := h
    cases v <;> first | exact h1.elim | exact ⟨_, _, rfl, h1, h2⟩
theorem ab_s_ref {k : Nat} {A : List ab_V} {S : List Value} (h : ab_s (.inl k :: A) S) : ∃ S1, S = .ref k :: S1 ∧ ab_s A S1 := by
  cases S with
  | nil => exact h.elim
  | cons v S =>
    obtain ⟨h1, h2⟩ := h
    cases v <;> first | exact h1.elim | (cases h1; exact ⟨_, rfl, h2⟩)
theorem ab_s_long {A : List ab_V} {S : List Value} (h : ab_s (.inr none :: A) S) : ∃ x S1, S = .long x :: S1 ∧ ab_s A S1 := by
  cases S with
  | nil => exact h.elim
  | cons v S =>
    obtain ⟨h1, h2⟩ := h
    cases v <;> first | exact h1.elim | exact ⟨_, _, rfl, h2⟩
theorem ab_s_nil {S : List Value} (h : ab_s [] S) : S = [] := by
  cases S with
  | nil => rfl
  | cons v S => exact h.elim
theorem ab_v_cat {a : ab_V} {v : Value} (h : ab_v a v) : v.category = ab_cat a := by
  rcases a with k | ⟨⟩ | p <;> cases v <;> first | exact h.elim | rfl
theorem ab_s_sum : ∀ {A : List ab_V} {S : List Value}, ab_s A S → (S.map fun v => v.category).sum = ab_sum A
  | [], [], _ => rfl
  | a :: A, v :: S, h => by
    simp only [List.map_cons, List.sum_cons, ab_sum]
    rw [ab_v_cat h.1, ab_s_sum h.2]
  | [], _ :: _, h => h.elim
  | _ :: _, [], h => h.elim
theorem ab_s_take : ∀ (b : Nat) {A : List ab_V} {S : List Value}, ab_s A S → ab_s (A.take b) (S.take b) ∧ ab_s (A.drop b) (S.drop b)
  | 0, A, S, h => ⟨trivial, h⟩
  | b + 1, [], [], _ => ⟨trivial, trivial⟩
  | b + 1, a :: A, v :: S, h => ⟨⟨h.1, (ab_s_take b h.2).1⟩, (ab_s_take b h.2).2⟩
  | b + 1, [], _ :: _, h => h.elim
  | b + 1, _ :: _, [], h => h.elim
theorem ab_s_app : ∀ {A B : List ab_V} {S T : List Value}, ab_s A S → ab_s B T → ab_s (A ++ B) (S ++ T)
  | [], _, [], _, _, h => h
  | a :: A, _, v :: S, _, h, h2 => ⟨h.1, ab_s_app h.2 h2⟩
  | [], _, _ :: _, _, h, _ => h.elim
  | _ :: _, _, [], _, h, _ => h.elim
theorem ab_s_rev : ∀ {A : List ab_V} {S : List Value}, ab_s A S → ab_s A.reverse S.reverse
  | [], [], _ => trivial
  | a :: A, v :: S, h => by
    rw [List.reverse_cons, List.reverse_cons]
    exact ab_s_app (ab_s_rev h.2) ⟨h.1, trivial⟩
  | [], _ :: _, h => h.elim
  | _ :: _, [], h => h.elim
theorem ab_s_len : ∀ {A : List ab_V} {S : List Value}, ab_s A S → S.length = A.length
  | [], [], _ => rfl
  | a :: A, v :: S, h => by rw [List.length_cons, List.length_cons, ab_s_len h.2]
  | [], _ :: _, h => h.elim
  | _ :: _, [], h => h.elim
theorem ab_l_at : ∀ {A : ab_L} {L : ai_Lc} {k : Nat} {a : ab_V}, ab_l A L → A[k]? = some (some a) → ∃ v, L[k]? = some (some v) ∧ ab_v a v
  | [], _, k, a, _, h2 => by simp at h2
  | none :: A, none :: L, 0, a, h, h2 => by simp at h2
  | none :: A, none :: L, k + 1, a, h, h2 => by
    simp only [List.getElem?_cons_succ] at h2 ⊢
    exact ab_l_at (A := A) (L := L) h h2
  | some a0 :: A, some v :: L, 0, a, h, h2 => by
    simp only [List.getElem?_cons_zero, Option.some.injEq] at h2
    subst h2
    exact ⟨v, rfl, h.1⟩
  | some a0 :: A, some v :: L, k + 1, a, h, h2 => by
    simp only [List.getElem?_cons_succ] at h2 ⊢
    exact ab_l_at (A := A) (L := L) h.2 h2
  | none :: _, some _ :: _, _, _, h, _ => h.elim
  | some _ :: _, none :: _, _, _, h, _ => h.elim
  | none :: _, [], _, _, h, _ => h.elim
  | some _ :: _, [], _, _, h, _ => h.elim
theorem ab_l_set : ∀ {A : ab_L} {L : ai_Lc} {k : Nat} {a : ab_V} {v : Value} {A2 : ab_L}, ab_l A L → ab_sa A k a = some A2 → ab_v a v → ∃ L2, ai_set L k v = some L2 ∧ ab_l A2 L2
  | [], _, _, _, _, _, _, h2, _ => by simp [ab_sa] at h2
  | none :: A, none :: L, 0, a, v, A2, h, h2, hv => by
    simp only [ab_sa, Option.some.injEq] at h2
    subst h2
    exact ⟨some v :: L, rfl, hv, h⟩
  | some a0 :: A, some v0 :: L, 0, a, v, A2, h, h2, hv => by
    have h3 : some (some a :: A) = some A2 := by rw [← h2]; rcases a0 with k | ⟨⟩ | p <;> rfl
    cases h3
    exact ⟨some v :: L, by cases v0 <;> rfl, hv, h.2⟩
  | none :: A, none :: L, k + 1, a, v, A2, h, h2, hv => by
    simp only [ab_sa] at h2
    cases h3 : ab_sa A k a with
    | none => rw [h3] at h2; cases h2
    | some A3 =>
      rw [h3] at h2
      cases h2
      obtain ⟨L2, h4, h5⟩ := ab_l_set (A := A) (L := L) h h3 hv
      exact ⟨none :: L2, by simp only [ai_set, h4, Option.map_some], h5⟩
  | some a0 :: A, some v0 :: L, k + 1, a, v, A2, h, h2, hv => by
    have hs : ∃ A3, ab_sa A k a = some A3 ∧ A2 = some a0 :: A3 ∧ (k = 0 → a0 ≠ .inr none) := by
      rcases k with _ | k
      · rcases a0 with q | ⟨⟩ | p
        · simp only [ab_sa] at h2
          cases h3 : ab_sa A 0 a with
          | none => rw [h3] at h2; cases h2
          | some A3 => rw [h3] at h2; cases h2; exact ⟨A3, rfl, rfl, fun _ z => by cases z⟩
        · simp [ab_sa] at h2
        · simp only [ab_sa] at h2
          cases h3 : ab_sa A 0 a with
          | none => rw [h3] at h2; cases h2
          | some A3 => rw [h3] at h2; cases h2; exact ⟨A3, rfl, rfl, fun _ z => by cases z⟩
      · have h2' : (match ab_sa A (k + 1) a with | some L2 => some (some a0 :: L2) | none => none) = some A2 := by rw [← h2]; rcases a0 with q | ⟨⟩ | p <;> rfl
        cases h3 : ab_sa A (k + 1) a with
        | none => rw [h3] at h2'; cases h2'
        | some A3 => rw [h3] at h2'; cases h2'; exact ⟨A3, rfl, rfl, fun z => by cases z⟩
    obtain ⟨A3, h3, rfl, h4⟩ := hs
    obtain ⟨L2, h5, h6⟩ := ab_l_set (A := A) (L := L) h.2 h3 hv
    refine ⟨some v0 :: L2, ?_, h.1, h6⟩
    have hc : ab_v a0 v0 := h.1
    rcases k with _ | k
    · have h7 := h4 rfl
      rcases a0 with q | ⟨⟩ | p
      · cases v0 <;> first | exact hc.elim | simp only [ai_set, h5, Option.map_some]
      · exact absurd rfl h7
      · cases v0 <;> first | exact hc.elim | simp only [ai_set, h5, Option.map_some]
    · cases v0 <;> simp only [ai_set, h5, Option.map_some]
  | none :: _, some _ :: _, _, _, _, _, h, _, _ => h.elim
  | some _ :: _, none :: _, _, _, _, _, h, _, _ => h.elim
  | none :: _, [], _, _, _, _, h, _, _ => h.elim
  | some _ :: _, [], _, _, _, _, h, _, _ => h.elim
theorem ab_l_fl : ∀ {A : List ab_V} {S : List Value}, ab_s A S → ab_l (ab_fl A) (ai_fl S)
  | [], [], _ => trivial
  | a :: A, v :: S, h => by
    have ih := ab_l_fl h.2
    have hc : ab_v a v := h.1
    have e : ai_fl (v :: S) = (if v.category = 2 then [some v, none] else [some v]) ++ ai_fl S := rfl
    rw [e, ab_v_cat hc]
    rcases a with q | ⟨⟩ | p
    · exact ⟨hc, ih⟩
    · exact ⟨hc, ih⟩
    · exact ⟨hc, ih⟩
  | [], _ :: _, h => h.elim
  | _ :: _, [], h => h.elim
theorem ab_l_len : ∀ {A : ab_L} {L : ai_Lc}, ab_l A L → L.length = A.length
  | [], [], _ => rfl
  | none :: A, none :: L, h => by rw [List.length_cons, List.length_cons, ab_l_len (A := A) (L := L) h]
  | some _ :: A, some _ :: L, h => by rw [List.length_cons, List.length_cons, ab_l_len (A := A) (L := L) h.2]
  | [], _ :: _, h => h.elim
  | none :: _, [], h => h.elim
  | some _ :: _, [], h => h.elim
  | none :: _, some _ :: _, h => h.elim
  | some _ :: _, none :: _, h => h.elim
theorem ab_l_rep : ∀ n, ab_l (ab_rep n) (List.replicate n none)
  | 0 => trivial
  | n + 1 => ab_l_rep n
theorem ab_l_app : ∀ {A B : ab_L} {L M : ai_Lc}, ab_l A L → ab_l B M → ab_l (A ++ B) (L ++ M)
  | [], _, [], _, _, h => h
  | none :: A, _, none :: L, _, h, h2 => ab_l_app (A := A) (L := L) h h2
  | some _ :: A, _, some _ :: L, _, h, h2 => ⟨h.1, ab_l_app (A := A) (L := L) h.2 h2⟩
  | [], _, _ :: _, _, h, _ => h.elim
  | none :: _, _, [], _, h, _ => h.elim
  | some _ :: _, _, [], _, h, _ => h.elim
  | none :: _, _, some _ :: _, _, h, _ => h.elim
  | some _ :: _, _, none :: _, _, h, _ => h.elim
theorem ab_l_ent {n : Nat} {A : List ab_V} {S : List Value} (h : ab_s A S) : ab_l (ab_ent n A) (ai_ent n S) := by
  have h1 := ab_l_fl h
  unfold ab_ent ai_ent
  rw [ab_l_len h1]
  exact ab_l_app h1 (ab_l_rep _)
theorem ab_h_up {G : ab_G} {h : ai_H} {k i : Nat} {p : Nat × Nat} {x : Int32} (hh : ab_h G h) (hx : ab_in p x) : ab_h ((k, i, p) :: G) (ai_up h k i x) := by
  intro k' j
  have e : ab_g ((k, i, p) :: G) k' j = bif Nat.beq k k' && Nat.beq i j then p else ab_g G k' j := rfl
  rw [e]
  cases hb : (Nat.beq k k' && Nat.beq i j) with
  | true =>
    simp only [Bool.and_eq_true] at hb
    have e1 := Nat.eq_of_beq_eq_true hb.1
    have e2 := Nat.eq_of_beq_eq_true hb.2
    subst e1; subst e2
    simpa [ai_up, upd] using hx
  | false =>
    have h1 : ai_up h k i x k' j = h k' j := by
      unfold ai_up
      by_cases hk : k' = k
      · subst hk
        have hij : ¬ j = i := fun z => by subst z; simp at hb
        simp [upd, hij]
      · rw [if_neg hk]
    rw [h1]
    exact hh k' j
theorem ab_h_cp {G : ab_G} {h : ai_H} {k0 k1 i j : Nat} (hh : ab_h G h) : ab_h ((k1, j, ab_g G k0 i) :: G) (ai_cp h k0 k1 i j 1) := by
  intro k' q
  have e : ab_g ((k1, j, ab_g G k0 i) :: G) k' q = bif Nat.beq k1 k' && Nat.beq j q then ab_g G k0 i else ab_g G k' q := rfl
  rw [e]
  cases hb : (Nat.beq k1 k' && Nat.beq j q) with
  | true =>
    simp only [Bool.and_eq_true] at hb
    have e1 := Nat.eq_of_beq_eq_true hb.1
    have e2 := Nat.eq_of_beq_eq_true hb.2
    subst e1; subst e2
    have h1 : ai_cp h k0 k1 i j 1 k1 j = h k0 i := by
      unfold ai_cp
      rw [if_pos rfl, pk_cpy_in (Nat.le_refl _) (by omega)]
      rw [Nat.sub_self, Nat.add_zero]
    rw [h1]
    exact hh k0 i
  | false =>
    have h1 : ai_cp h k0 k1 i j 1 k' q = h k' q := by
      unfold ai_cp
      by_cases hk : k' = k1
      · subst hk
        have hij : ¬ j = q := fun z => by subst z; simp at hb
        rw [if_pos rfl, pk_cpy_out (by omega)]
      · rw [if_neg hk]
    rw [h1]
    exact hh k' q
theorem ab_s_ret {r : Option (Nat × Nat)} {v : Option Value} {A : List ab_V} {S : List Value} (hr : ab_r r v) (hs : ab_s A S) : ab_s (ab_ref r A) (v.toList ++ S) := by
  rcases r with _ | p
  · rcases v with _ | v
    · exact hs
    · exact hr.elim
  · rcases v with _ | v
    · exact hr.elim
    · cases v <;> first | exact hr.elim | exact ⟨hr, hs⟩
theorem ab_zero : ab_h [] (fun _ _ => 0) := fun k j => by
  show ab_in (2147483648, 2147483648) 0
  unfold ab_in
  rw [ab_U0]
  exact ⟨Nat.le_refl _, Nat.le_refl _⟩
end
section
theorem ab_bif {c : Bool} {x : Option ab_R} {y : ab_R} (h : (bif c then x else none) = some y) : c = true ∧ x = some y := by
  cases c with
  | true => exact ⟨rfl, h⟩
  | false => cases h
set_option maxHeartbeats 4000000 in
set_option maxRecDepth 20000 in
theorem ab_sound {sh : ai_Sh} {mci : Nat → Nat} {ce : Nat → List ab_V → ab_G → Option ab_R} {cd : Nat → Option ai_I} {cl : Nat → List Value → ai_H → Option Value → ai_H → Prop}
    (hce : ∀ a As G r G2, ce a As G = some (r, G2) → ∀ vs h, ab_s As vs → ab_h G h → ∃ v h2, cl a vs h v h2 ∧ ab_r r v ∧ ab_h G2 h2) (r : Option (Nat × Nat)) (G2 : ab_G) :
    ∀ (n pc : Nat) (A : ab_L) (B : List ab_V) (G : ab_G), ab_e sh mci ce cd n pc A B G = some (r, G2) → ∀ (L : ai_Lc) (S : List Value) (h : ai_H), ab_l A L → ab_s B S → ab_h G h → ai_P sh mci cl cd (fun r' h' => ab_r r r' ∧ ab_h G2 h') n pc L S h := by
  intro n
  induction n with
  | zero => intro pc A B G he; cases he
  | succ n ih =>
    intro pc A B G he L S h hL hS hG
    cases hcd : cd pc with
    | none => simp [ab_e, hcd] at he
    | some q =>
      obtain ⟨i, len, a, b, w, c⟩ := q
      simp only [ab_e, hcd] at he
      simp only [ai_P, hcd]
      cases i
      all_goals (try exact absurd (show (none : Option ab_R) = some (r, G2) from he) (fun z => by cases z))
      all_goals dsimp only at he ⊢
      all_goals (try simp only [ab_n_eq, ab_f_eq] at he)
      case iconst v => exact ih _ _ _ _ he _ _ _ hL ⟨ab_in_c c, hS⟩ hG
      case bipush v => exact ih _ _ _ _ he _ _ _ hL ⟨ab_in_c c, hS⟩ hG
      case sipush v => exact ih _ _ _ _ he _ _ _ hL ⟨ab_in_c c, hS⟩ hG
      case ldc2_w v => exact ih _ _ _ _ he _ _ _ hL ⟨trivial, hS⟩ hG
      case goto v => exact ih _ _ _ _ he _ _ _ hL hS hG
      case aload_n k =>
        split at he
        · rename_i x hx
          obtain ⟨v, h1, h2⟩ := ab_l_at hL hx
          cases v <;> first | exact h2.elim | (cases h2; rw [h1]; exact ih _ _ _ _ he _ _ _ hL ⟨rfl, hS⟩ hG)
        · cases he
      case aload k =>
        split at he
        · rename_i x hx
          obtain ⟨v, h1, h2⟩ := ab_l_at hL hx
          cases v <;> first | exact h2.elim | (cases h2; rw [h1]; exact ih _ _ _ _ he _ _ _ hL ⟨rfl, hS⟩ hG)
        · cases he
      case iload_n k =>
        split at he
        · rename_i x hx
          obtain ⟨v, h1, h2⟩ := ab_l_at hL hx
          cases v <;> first | exact h2.elim | (rw [h1]; exact ih _ _ _ _ he _ _ _ hL ⟨h2, hS⟩ hG)
        · cases he
      case iload k =>
        split at he
        · rename_i x hx
          obtain ⟨v, h1, h2⟩ := ab_l_at hL hx
          cases v <;> first | exact h2.elim | (rw [h1]; exact ih _ _ _ _ he _ _ _ hL ⟨h2, hS⟩ hG)
        · cases he
      case lload_n k =>
        split at he
        · rename_i hx
          obtain ⟨v, h1, h2⟩ := ab_l_at hL hx
          cases v <;> first | exact h2.elim | (rw [h1]; exact ih _ _ _ _ he _ _ _ hL ⟨h2, hS⟩ hG)
        · cases he
      case istore_n k =>
        split at he
        · rename_i x B'
          split at he
          · rename_i A' hA
            obtain ⟨x', S1, rfl, h1, h2⟩ := ab_s_int hS
            obtain ⟨L2, h3, h4⟩ := ab_l_set (v := .int x') hL hA h1
            exact ⟨L2, h3, ih _ _ _ _ he _ _ _ h4 h2 hG⟩
          · cases he
        · cases he
      case istore k =>
        split at he
        · rename_i x B'
          split at he
          · rename_i A' hA
            obtain ⟨x', S1, rfl, h1, h2⟩ := ab_s_int hS
            obtain ⟨L2, h3, h4⟩ := ab_l_set (v := .int x') hL hA h1
            exact ⟨L2, h3, ih _ _ _ _ he _ _ _ h4 h2 hG⟩
          · cases he
        · cases he
      case iinc k v =>
        split at he
        · rename_i x hx
          split at he
          · rename_i A' hA
            obtain ⟨v, h1, h2⟩ := ab_l_at hL hx
            cases v <;> first | exact h2.elim | skip
            rename_i x'
            obtain ⟨L2, h3, h4⟩ := ab_l_set (v := .int (x' + c)) hL hA (ab_in_add h2 (ab_in_c c))
            rw [h1]
            exact ⟨L2, h3, ih _ _ _ _ he _ _ _ h4 hS hG⟩
          · cases he
        · cases he
      case iadd =>
        split at he
        · obtain ⟨y', S1, rfl, hy, hS⟩ := ab_s_int hS
          obtain ⟨x', S2, rfl, hx, hS⟩ := ab_s_int hS
          exact ih _ _ _ _ he _ _ _ hL ⟨ab_in_add hx hy, hS⟩ hG
        · cases he
      case isub =>
        split at he
        · obtain ⟨y', S1, rfl, hy, hS⟩ := ab_s_int hS
          obtain ⟨x', S2, rfl, hx, hS⟩ := ab_s_int hS
          exact ih _ _ _ _ he _ _ _ hL ⟨ab_in_sub hx hy, hS⟩ hG
        · cases he
      case imul =>
        split at he
        · obtain ⟨y', S1, rfl, hy, hS⟩ := ab_s_int hS
          obtain ⟨x', S2, rfl, hx, hS⟩ := ab_s_int hS
          exact ih _ _ _ _ he _ _ _ hL ⟨ab_in_op (f := fun x y => x * y) hx hy, hS⟩ hG
        · cases he
      case iand =>
        split at he
        · obtain ⟨y', S1, rfl, hy, hS⟩ := ab_s_int hS
          obtain ⟨x', S2, rfl, hx, hS⟩ := ab_s_int hS
          exact ih _ _ _ _ he _ _ _ hL ⟨ab_in_op (f := fun x y => x &&& y) hx hy, hS⟩ hG
        · cases he
      case ior =>
        split at he
        · obtain ⟨y', S1, rfl, hy, hS⟩ := ab_s_int hS
          obtain ⟨x', S2, rfl, hx, hS⟩ := ab_s_int hS
          exact ih _ _ _ _ he _ _ _ hL ⟨ab_in_op (f := fun x y => x ||| y) hx hy, hS⟩ hG
        · cases he
      case ishl =>
        split at he
        · obtain ⟨y', S1, rfl, hy, hS⟩ := ab_s_int hS
          obtain ⟨x', S2, rfl, hx, hS⟩ := ab_s_int hS
          exact ih _ _ _ _ he _ _ _ hL ⟨ab_in_op (f := fun x y => x <<< (y &&& 31)) hx hy, hS⟩ hG
        · cases he
      case ishr =>
        split at he
        · obtain ⟨y', S1, rfl, hy, hS⟩ := ab_s_int hS
          obtain ⟨x', S2, rfl, hx, hS⟩ := ab_s_int hS
          exact ih _ _ _ _ he _ _ _ hL ⟨ab_in_op (f := fun x y => x >>> (y &&& 31)) hx hy, hS⟩ hG
        · cases he
      case land =>
        split at he
        · obtain ⟨y', S1, hE, hT⟩ := ab_s_long hS
          subst hE
          (replace hS := hT; clear hT)
          obtain ⟨x', S2, hE, hT⟩ := ab_s_long hS
          subst hE
          (replace hS := hT; clear hT)
          exact ih _ _ _ _ he _ _ _ hL ⟨trivial, hS⟩ hG
        · cases he
      case lushr =>
        split at he
        · obtain ⟨y', S1, rfl, hy, hS⟩ := ab_s_int hS
          obtain ⟨x', S2, hE, hT⟩ := ab_s_long hS
          subst hE
          (replace hS := hT; clear hT)
          exact ih _ _ _ _ he _ _ _ hL ⟨trivial, hS⟩ hG
        · cases he
      case lshr =>
        split at he
        · obtain ⟨y', S1, rfl, hy, hS⟩ := ab_s_int hS
          obtain ⟨x', S2, hE, hT⟩ := ab_s_long hS
          subst hE
          (replace hS := hT; clear hT)
          exact ih _ _ _ _ he _ _ _ hL ⟨trivial, hS⟩ hG
        · cases he
      case l2i =>
        split at he
        · obtain ⟨x', S1, hE, hT⟩ := ab_s_long hS
          subst hE
          (replace hS := hT; clear hT)
          exact ih _ _ _ _ he _ _ _ hL ⟨ab_in_top _, hS⟩ hG
        · cases he
      case dup =>
        split at he
        · obtain ⟨S1, hE, hT⟩ := ab_s_ref hS
          subst hE
          (replace hS := hT; clear hT)
          exact ⟨rfl, ih _ _ _ _ he _ _ _ hL ⟨rfl, rfl, hS⟩ hG⟩
        · obtain ⟨x', S1, rfl, hx, hS⟩ := ab_s_int hS
          exact ⟨rfl, ih _ _ _ _ he _ _ _ hL ⟨hx, hx, hS⟩ hG⟩
        · cases he
      case dup2 =>
        split at he
        · obtain ⟨x', S1, rfl, hx, hS⟩ := ab_s_int hS
          obtain ⟨S2, hE, hT⟩ := ab_s_ref hS
          subst hE
          (replace hS := hT; clear hT)
          exact ⟨rfl, rfl, ih _ _ _ _ he _ _ _ hL ⟨hx, rfl, hx, rfl, hS⟩ hG⟩
        · cases he
      case getfield ix =>
        split at he
        · rename_i k B'
          obtain ⟨S1, hE, hT⟩ := ab_s_ref hS
          subst hE
          (replace hS := hT; clear hT)
          split at he
          · rename_i ci fs hsk
            obtain ⟨hb, he⟩ := ab_bif he
            dsimp only
            rw [hsk]
            refine ⟨Nat.eq_of_beq_eq_true hb, ?_⟩
            split at he
            · rename_i hf
              rw [hf]
              exact ih _ _ _ _ he _ _ _ hL ⟨hG k b, hS⟩ hG
            · rename_i k2 hf
              rw [hf]
              exact ih _ _ _ _ he _ _ _ hL ⟨rfl, hS⟩ hG
            · cases he
          · cases he
        · cases he
      case putfield ix =>
        split at he
        · rename_i x k B'
          obtain ⟨x', S1, rfl, hx, hS⟩ := ab_s_int hS
          obtain ⟨S1, hE, hT⟩ := ab_s_ref hS
          subst hE
          (replace hS := hT; clear hT)
          split at he
          · rename_i ci fs hsk
            split at he
            · rename_i hf
              obtain ⟨hb, he⟩ := ab_bif he
              simp only [Bool.and_eq_true, Bool.or_eq_true, decide_eq_true_eq] at hb
              refine ⟨⟨fs, by rw [hsk, Nat.eq_of_beq_eq_true hb.1], hf⟩, ?_, ih _ _ _ _ he _ _ _ hL hS (ab_h_up hG hx)⟩
              rcases hb.2 with h1 | h1
              · exact Or.inl h1
              · exact Or.inr (ab_01_ok hx h1)
            · cases he
          · cases he
        · cases he
      case iaload =>
        split at he
        · rename_i i k B'
          obtain ⟨x', S1, rfl, hx, hS⟩ := ab_s_int hS
          obtain ⟨S1, hE, hT⟩ := ab_s_ref hS
          subst hE
          (replace hS := hT; clear hT)
          split at he
          · rename_i N hsk
            split at he
            · rename_i j hj
              obtain ⟨j1, j2, j3, j4⟩ := ab_ix_ok hx hj
              refine ⟨N, hsk, j1, ih _ _ _ _ he _ _ _ hL ⟨?_, hS⟩ hG⟩
              rw [j2]
              exact hG k j
            · cases he
          · cases he
        · cases he
      case baload =>
        split at he
        · rename_i i k B'
          obtain ⟨x', S1, rfl, hx, hS⟩ := ab_s_int hS
          obtain ⟨S1, hE, hT⟩ := ab_s_ref hS
          subst hE
          (replace hS := hT; clear hT)
          split at he
          · rename_i N hsk
            split at he
            · rename_i j hj
              obtain ⟨j1, j2, j3, j4⟩ := ab_ix_ok hx hj
              refine ⟨N, hsk, j1, ih _ _ _ _ he _ _ _ hL ⟨?_, hS⟩ hG⟩
              rw [j2]
              exact hG k j
            · cases he
          · cases he
        · cases he
      case iastore =>
        split at he
        · rename_i x i k B'
          obtain ⟨v', S1, rfl, hv, hS⟩ := ab_s_int hS
          obtain ⟨x', S1, rfl, hx, hS⟩ := ab_s_int hS
          obtain ⟨S1, hE, hT⟩ := ab_s_ref hS
          subst hE
          (replace hS := hT; clear hT)
          split at he
          · rename_i N hsk
            split at he
            · rename_i j hj
              obtain ⟨j1, j2, j3, j4⟩ := ab_ix_ok hx hj
              refine ⟨N, hsk, j1, ?_⟩
              rw [j2]
              exact ih _ _ _ _ he _ _ _ hL hS (ab_h_up hG hv)
            · cases he
          · cases he
        · cases he
      case bastore =>
        split at he
        · rename_i x i k B'
          obtain ⟨v', S1, rfl, hv, hS⟩ := ab_s_int hS
          obtain ⟨x', S1, rfl, hx, hS⟩ := ab_s_int hS
          obtain ⟨S1, hE, hT⟩ := ab_s_ref hS
          subst hE
          (replace hS := hT; clear hT)
          split at he
          · rename_i N hsk
            split at he
            · rename_i j hj
              obtain ⟨j1, j2, j3, j4⟩ := ab_ix_ok hx hj
              obtain ⟨hb, he⟩ := ab_bif he
              refine ⟨N, hsk, j1, ab_01_ok hv hb, ?_⟩
              rw [j2]
              exact ih _ _ _ _ he _ _ _ hL hS (ab_h_up hG hv)
            · cases he
          · cases he
        · cases he
      case if_icmp cc off =>
        split at he
        · obtain ⟨y', S1, rfl, hy, hS⟩ := ab_s_int hS
          obtain ⟨x', S2, rfl, hx, hS⟩ := ab_s_int hS
          split at he
          · rename_i hc
            exact Or.inl ⟨(ab_cmp_ok hx hy hc).mp rfl, ih _ _ _ _ he _ _ _ hL hS hG⟩
          · rename_i hc
            exact Or.inr ⟨fun z => Bool.noConfusion ((ab_cmp_ok hx hy hc).mpr z), ih _ _ _ _ he _ _ _ hL hS hG⟩
          · cases he
        · cases he
      case ifCond cc off =>
        split at he
        · obtain ⟨y', S1, rfl, hy, hS⟩ := ab_s_int hS
          have hz : ab_in (2147483648, 2147483648) 0 := ⟨Nat.le_of_eq ab_U0.symm, Nat.le_of_eq ab_U0⟩
          split at he
          · rename_i hc
            exact Or.inl ⟨(ab_cmp_ok hy hz hc).mp rfl, ih _ _ _ _ he _ _ _ hL hS hG⟩
          · rename_i hc
            exact Or.inr ⟨fun z => Bool.noConfusion ((ab_cmp_ok hy hz hc).mpr z), ih _ _ _ _ he _ _ _ hL hS hG⟩
          · cases he
        · cases he
      case tableswitch df lo hi offs =>
        split at he
        · rename_i x B'
          obtain ⟨x', S1, rfl, hx, hS⟩ := ab_s_int hS
          have hu := (ab_Ub x').1
          have := hx.1; have := hx.2
          cases hb : (decide ((x.2 : Int) < lo + 2147483648) || decide (hi + 2147483648 < (x.1 : Int))) with
          | true =>
            rw [hb] at he
            obtain ⟨h0, he⟩ := ab_bif (show (bif decide (0 ≤ (pc : Int) + df) then _ else none) = some (r, G2) from he)
            simp only [decide_eq_true_eq] at h0
            simp only [Bool.or_eq_true, decide_eq_true_eq] at hb
            refine Or.inl ⟨?_, ((pc : Int) + df).toNat, by omega, ih _ _ _ _ he _ _ _ hL hS hG⟩
            rcases hb with h1 | h1
            · left; omega
            · right; omega
          | false =>
            rw [hb] at he
            simp only [Bool.or_eq_false_iff, decide_eq_false_iff_not] at hb
            obtain ⟨h0, he⟩ := ab_bif (show (bif Nat.beq x.1 x.2 then _ else none) = some (r, G2) from he)
            have h0 := Nat.eq_of_beq_eq_true h0
            split at he
            · rename_i off hoff
              obtain ⟨h2, he⟩ := ab_bif he
              simp only [decide_eq_true_eq] at h2
              refine Or.inr ⟨by omega, by omega, off, ((pc : Int) + off).toNat, ?_, by omega, ih _ _ _ _ he _ _ _ hL hS hG⟩
              rw [← hoff, show x'.toInt - lo = (x.1 : Int) - 2147483648 - lo by omega]
            · cases he
        · cases he
      case invokevirtual ix =>
        split at he
        · rename_i k rest hd
          obtain ⟨hb, he⟩ := ab_bif he
          rw [Bool.and_eq_true] at hb
          split at he
          · rename_i ci fs hsk
            obtain ⟨hb2, he⟩ := ab_bif he
            split at he
            · rename_i r' G' hcall
              have ht := ab_s_take b hS
              rw [hd] at ht
              obtain ⟨S1, hS1, hS2⟩ := ab_s_ref ht.2
              obtain ⟨v, h2, c1, c2, c3⟩ := hce _ _ _ _ _ hcall (.ref k :: (S.take b).reverse) h ⟨rfl, ab_s_rev ht.1⟩ hG
              refine ⟨(S.take b).reverse, k, S1, fs, v, h2, ?_, ?_, ?_, ?_, c1, ih _ _ _ _ he _ _ _ hL (ab_s_ret c2 hS2) c3⟩
              · rw [List.reverse_reverse, ← hS1, List.take_append_drop]
              · rw [List.length_reverse, ab_s_len ht.1]; exact Nat.eq_of_beq_eq_true hb.1
              · rw [hsk, Nat.eq_of_beq_eq_true hb2]
              · rw [ab_s_sum hS2]; exact Nat.le_of_ble_eq_true hb.2
            · cases he
          · cases he
        · cases he
      case invokestatic ix =>
        by_cases h1 : a = 1001
        · simp only [if_pos h1] at he ⊢
          split at he
          · obtain ⟨hb, he⟩ := ab_bif he
            obtain ⟨y', S1, rfl, hy, hS⟩ := ab_s_int hS
            obtain ⟨x', S2, rfl, hx, hS⟩ := ab_s_int hS
            exact ⟨by rw [ab_s_sum hS]; exact Nat.le_of_ble_eq_true hb, ih _ _ _ _ he _ _ _ hL ⟨ab_in_min hx hy, hS⟩ hG⟩
          · cases he
        · by_cases h2 : a = 1002
          · simp only [if_neg h1, if_pos h2] at he ⊢
            split at he
            · obtain ⟨hb, he⟩ := ab_bif he
              obtain ⟨y', S1, rfl, hy, hS⟩ := ab_s_int hS
              obtain ⟨x', S2, rfl, hx, hS⟩ := ab_s_int hS
              exact ⟨by rw [ab_s_sum hS]; exact Nat.le_of_ble_eq_true hb, ih _ _ _ _ he _ _ _ hL ⟨ab_in_max hx hy, hS⟩ hG⟩
            · cases he
          · by_cases h3 : a = 1003
            · simp only [if_neg h1, if_neg h2, if_pos h3] at he ⊢
              split at he
              · rename_i m dp k1 sp k0 B'
                obtain ⟨m', S1, rfl, hm, hS⟩ := ab_s_int hS
                obtain ⟨d', S1, rfl, hd, hS⟩ := ab_s_int hS
                obtain ⟨S1, hE, hT⟩ := ab_s_ref hS
                subst hE
                (replace hS := hT; clear hT)
                obtain ⟨s', S1, rfl, hs, hS⟩ := ab_s_int hS
                obtain ⟨S1, hE, hT⟩ := ab_s_ref hS
                subst hE
                (replace hS := hT; clear hT)
                split at he
                · rename_i N0 N1 hk0 hk1
                  split at he
                  · rename_i i j hi hj
                    obtain ⟨hb, he⟩ := ab_bif he
                    simp only [Bool.and_eq_true] at hb
                    obtain ⟨i1, i2, i3, i4⟩ := ab_ix_ok hs hi
                    obtain ⟨j1, j2, j3, j4⟩ := ab_ix_ok hd hj
                    have e1 := Nat.eq_of_beq_eq_true hb.1.1
                    have e2 := Nat.eq_of_beq_eq_true hb.1.2
                    have hS9 := hS
                    have em : m' = 1 := by
                      rw [ab_eq_iff, ab_U1]
                      have := hm.1; have := hm.2
                      omega
                    subst em
                    have e3 : (1 : Int32).toNatClampNeg = 1 := by decide +kernel
                    refine ⟨N0, N1, hk0, hk1, i4, j4, by decide +kernel, by rw [i2, e3]; omega, by rw [j2, e3]; omega, by rw [ab_s_sum hS9]; exact Nat.le_of_ble_eq_true hb.2, ?_⟩
                    rw [i2, j2, e3]
                    exact ih _ _ _ _ he _ _ _ hL hS9 (ab_h_cp hG)
                  · cases he
                · cases he
              · cases he
            · simp only [if_neg h1, if_neg h2, if_neg h3] at he ⊢
              obtain ⟨hb, he⟩ := ab_bif he
              rw [Bool.and_eq_true] at hb
              split at he
              · rename_i r' G' hcall
                have ht := ab_s_take b hS
                obtain ⟨v, h4, c1, c2, c3⟩ := hce _ _ _ _ _ hcall ((S.take b).reverse) h (ab_s_rev ht.1) hG
                refine ⟨(S.take b).reverse, S.drop b, v, h4, ?_, ?_, ?_, c1, ih _ _ _ _ he _ _ _ hL (ab_s_ret c2 ht.2) c3⟩
                · rw [List.reverse_reverse, List.take_append_drop]
                · rw [List.length_reverse, ab_s_len ht.1]; exact Nat.eq_of_beq_eq_true hb.1
                · rw [ab_s_sum ht.2]; exact Nat.le_of_ble_eq_true hb.2
              · cases he
      case ireturn =>
        split at he
        · rename_i x
          obtain ⟨x', S1, rfl, hx, hS⟩ := ab_s_int hS
          cases ab_s_nil hS
          obtain ⟨hb, he⟩ := ab_bif he
          cases he
          rw [Bool.or_eq_true] at hb
          refine ⟨?_, hx, hG⟩
          rcases hb with h1 | h1
          · exact Or.inl (Nat.eq_of_beq_eq_true h1)
          · exact Or.inr (ab_01_ok hx h1)
        · cases he
      case return_ =>
        split at he
        · cases ab_s_nil hS
          cases he
          exact ⟨trivial, hG⟩
        · cases he
theorem ab_call {sh : ai_Sh} {mci ml : Nat → Nat} {cd : Nat → Nat → Option ai_I} {fuel : Nat} : ∀ (d i : Nat) (As : List ab_V) (G : ab_G) (r : Option (Nat × Nat)) (G2 : ab_G), ab_ec sh mci ml cd fuel d i As G = some (r, G2) → ∀ (vs : List Value) (h : ai_H), ab_s As vs → ab_h G h → ∃ v h2, ai_C sh mci ml cd d i vs h v h2 ∧ ab_r r v ∧ ab_h G2 h2
  | 0, _, _, _, _, _, he => by cases he
  | d + 1, i, As, G, r, G2, he => by
    intro vs h hs hG
    obtain ⟨hb, he⟩ := ab_bif he
    have hL := ab_l_ent (n := ml i) hs
    exact ai_intro (Q := fun r' h' => ab_r r r' ∧ ab_h G2 h') (by rw [ab_l_len hL]; exact Nat.eq_of_beq_eq_true hb) ⟨fuel, ab_sound (ab_call d) r G2 fuel 0 _ _ _ he _ _ _ hL trivial hG⟩
end
