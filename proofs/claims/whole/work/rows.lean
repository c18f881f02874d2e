section
-- ===== PART A: goes FIRST, ahead of the names: the tables' words, and 'selects' of the private methods out of them =====
/-- a private method of a class that the tables say can be made, by its rows of tables_1 -/
def lw_okq (q : MethodName × Nat) : Prop := (q.1.cls ≠ "java/lang/invoke/MethodHandle" ∧ q.1.cls ≠ "java/lang/invoke/VarHandle") ∧ Cond.instantiable q.1.cls q.2 ∈ tables_1 ∧ Cond.privateMethod q.1 ∈ tables_1 ∧ Cond.instanceMethod q.1 ∈ tables_1
theorem lw_p0 : lw_okq (⟨"DustCart$Changes", "dropOldest", "()V"⟩, 5) := ⟨⟨by decide +kernel, by decide +kernel⟩, List.mem_of_getElem? (i := 163) (by decide +kernel), List.mem_of_getElem? (i := 312) (by decide +kernel), List.mem_of_getElem? (i := 313) (by decide +kernel)⟩
theorem lw_p1 : lw_okq (⟨"DustCart", "ofCell", "(II)I"⟩, 14) := ⟨⟨by decide +kernel, by decide +kernel⟩, List.mem_of_getElem? (i := 16) (by decide +kernel), List.mem_of_getElem? (i := 323) (by decide +kernel), List.mem_of_getElem? (i := 324) (by decide +kernel)⟩
theorem lw_p2 : lw_okq (⟨"DustCart", "ofCart", "(I)I"⟩, 14) := ⟨⟨by decide +kernel, by decide +kernel⟩, List.mem_of_getElem? (i := 16) (by decide +kernel), List.mem_of_getElem? (i := 345) (by decide +kernel), List.mem_of_getElem? (i := 346) (by decide +kernel)⟩
theorem lw_p3 : lw_okq (⟨"DustCart", "heightsFrom", "(LDustCart$Shelf;III)I"⟩, 14) := ⟨⟨by decide +kernel, by decide +kernel⟩, List.mem_of_getElem? (i := 16) (by decide +kernel), List.mem_of_getElem? (i := 370) (by decide +kernel), List.mem_of_getElem? (i := 371) (by decide +kernel)⟩
theorem lw_p4 : lw_okq (⟨"DustCart$Law", "readLines", "()V"⟩, 10) := ⟨⟨by decide +kernel, by decide +kernel⟩, List.mem_of_getElem? (i := 65) (by decide +kernel), List.mem_of_getElem? (i := 398) (by decide +kernel), List.mem_of_getElem? (i := 399) (by decide +kernel)⟩
theorem lw_p5 : lw_okq (⟨"DustCart$Law", "readOr", "(I)V"⟩, 10) := ⟨⟨by decide +kernel, by decide +kernel⟩, List.mem_of_getElem? (i := 65) (by decide +kernel), List.mem_of_getElem? (i := 402) (by decide +kernel), List.mem_of_getElem? (i := 403) (by decide +kernel)⟩
theorem lw_p6 : lw_okq (⟨"DustCart$Law", "readAnd", "(I)V"⟩, 10) := ⟨⟨by decide +kernel, by decide +kernel⟩, List.mem_of_getElem? (i := 65) (by decide +kernel), List.mem_of_getElem? (i := 406) (by decide +kernel), List.mem_of_getElem? (i := 407) (by decide +kernel)⟩
theorem lw_p7 : lw_okq (⟨"DustCart$Law", "readCompared", "(I)V"⟩, 10) := ⟨⟨by decide +kernel, by decide +kernel⟩, List.mem_of_getElem? (i := 65) (by decide +kernel), List.mem_of_getElem? (i := 410) (by decide +kernel), List.mem_of_getElem? (i := 411) (by decide +kernel)⟩
theorem lw_p8 : lw_okq (⟨"DustCart$Law", "readSum", "(I)V"⟩, 10) := ⟨⟨by decide +kernel, by decide +kernel⟩, List.mem_of_getElem? (i := 65) (by decide +kernel), List.mem_of_getElem? (i := 414) (by decide +kernel), List.mem_of_getElem? (i := 415) (by decide +kernel)⟩
theorem lw_p9 : lw_okq (⟨"DustCart$Law", "readProduct", "(I)V"⟩, 10) := ⟨⟨by decide +kernel, by decide +kernel⟩, List.mem_of_getElem? (i := 65) (by decide +kernel), List.mem_of_getElem? (i := 418) (by decide +kernel), List.mem_of_getElem? (i := 419) (by decide +kernel)⟩
theorem lw_p10 : lw_okq (⟨"DustCart$Law", "readOperand", "(I)V"⟩, 10) := ⟨⟨by decide +kernel, by decide +kernel⟩, List.mem_of_getElem? (i := 65) (by decide +kernel), List.mem_of_getElem? (i := 422) (by decide +kernel), List.mem_of_getElem? (i := 423) (by decide +kernel)⟩
theorem lw_p11 : lw_okq (⟨"DustCart$Law", "sign", "()I"⟩, 10) := ⟨⟨by decide +kernel, by decide +kernel⟩, List.mem_of_getElem? (i := 65) (by decide +kernel), List.mem_of_getElem? (i := 426) (by decide +kernel), List.mem_of_getElem? (i := 427) (by decide +kernel)⟩
theorem lw_p12 : lw_okq (⟨"DustCart$Law", "readNumber", "()V"⟩, 10) := ⟨⟨by decide +kernel, by decide +kernel⟩, List.mem_of_getElem? (i := 65) (by decide +kernel), List.mem_of_getElem? (i := 433) (by decide +kernel), List.mem_of_getElem? (i := 434) (by decide +kernel)⟩
theorem lw_p13 : lw_okq (⟨"DustCart$Law", "write", "(I)V"⟩, 10) := ⟨⟨by decide +kernel, by decide +kernel⟩, List.mem_of_getElem? (i := 65) (by decide +kernel), List.mem_of_getElem? (i := 437) (by decide +kernel), List.mem_of_getElem? (i := 438) (by decide +kernel)⟩
theorem lw_p14 : lw_okq (⟨"DustCart$Law", "readOpened", "(II)V"⟩, 10) := ⟨⟨by decide +kernel, by decide +kernel⟩, List.mem_of_getElem? (i := 65) (by decide +kernel), List.mem_of_getElem? (i := 444) (by decide +kernel), List.mem_of_getElem? (i := 445) (by decide +kernel)⟩
theorem lw_p15 : lw_okq (⟨"DustCart$Law", "pass", "(I)Z"⟩, 10) := ⟨⟨by decide +kernel, by decide +kernel⟩, List.mem_of_getElem? (i := 65) (by decide +kernel), List.mem_of_getElem? (i := 448) (by decide +kernel), List.mem_of_getElem? (i := 449) (by decide +kernel)⟩
def lw_privs_1 : List (MethodName × Nat) := [(⟨"DustCart$Changes", "dropOldest", "()V"⟩, 5), (⟨"DustCart", "ofCell", "(II)I"⟩, 14), (⟨"DustCart", "ofCart", "(I)I"⟩, 14), (⟨"DustCart", "heightsFrom", "(LDustCart$Shelf;III)I"⟩, 14), (⟨"DustCart$Law", "readLines", "()V"⟩, 10), (⟨"DustCart$Law", "readOr", "(I)V"⟩, 10), (⟨"DustCart$Law", "readAnd", "(I)V"⟩, 10), (⟨"DustCart$Law", "readCompared", "(I)V"⟩, 10), (⟨"DustCart$Law", "readSum", "(I)V"⟩, 10), (⟨"DustCart$Law", "readProduct", "(I)V"⟩, 10), (⟨"DustCart$Law", "readOperand", "(I)V"⟩, 10), (⟨"DustCart$Law", "sign", "()I"⟩, 10), (⟨"DustCart$Law", "readNumber", "()V"⟩, 10), (⟨"DustCart$Law", "write", "(I)V"⟩, 10), (⟨"DustCart$Law", "readOpened", "(II)V"⟩, 10), (⟨"DustCart$Law", "pass", "(I)Z"⟩, 10)]
theorem lw_r1 : ∀ q ∈ lw_privs_1, lw_okq q := List.forall_mem_cons.mpr ⟨lw_p0, List.forall_mem_cons.mpr ⟨lw_p1, List.forall_mem_cons.mpr ⟨lw_p2, List.forall_mem_cons.mpr ⟨lw_p3, List.forall_mem_cons.mpr ⟨lw_p4, List.forall_mem_cons.mpr ⟨lw_p5, List.forall_mem_cons.mpr ⟨lw_p6, List.forall_mem_cons.mpr ⟨lw_p7, List.forall_mem_cons.mpr ⟨lw_p8, List.forall_mem_cons.mpr ⟨lw_p9, List.forall_mem_cons.mpr ⟨lw_p10, List.forall_mem_cons.mpr ⟨lw_p11, List.forall_mem_cons.mpr ⟨lw_p12, List.forall_mem_cons.mpr ⟨lw_p13, List.forall_mem_cons.mpr ⟨lw_p14, List.forall_mem_cons.mpr ⟨lw_p15, fun _ h => absurd h List.not_mem_nil⟩⟩⟩⟩⟩⟩⟩⟩⟩⟩⟩⟩⟩⟩⟩⟩
theorem lw_p16 : lw_okq (⟨"DustCart$Law", "refuse", "()V"⟩, 10) := ⟨⟨by decide +kernel, by decide +kernel⟩, List.mem_of_getElem? (i := 65) (by decide +kernel), List.mem_of_getElem? (i := 452) (by decide +kernel), List.mem_of_getElem? (i := 453) (by decide +kernel)⟩
theorem lw_p17 : lw_okq (⟨"DustCart$Law", "workOut", "(LDustCart$Plain;LDustCart$Cart;I)I"⟩, 10) := ⟨⟨by decide +kernel, by decide +kernel⟩, List.mem_of_getElem? (i := 65) (by decide +kernel), List.mem_of_getElem? (i := 486) (by decide +kernel), List.mem_of_getElem? (i := 487) (by decide +kernel)⟩
theorem lw_p18 : lw_okq (⟨"DustCart$Law", "pop", "()I"⟩, 10) := ⟨⟨by decide +kernel, by decide +kernel⟩, List.mem_of_getElem? (i := 65) (by decide +kernel), List.mem_of_getElem? (i := 490) (by decide +kernel), List.mem_of_getElem? (i := 491) (by decide +kernel)⟩
theorem lw_p19 : lw_okq (⟨"DustCart$Law", "step", "(ILDustCart$Plain;LDustCart$Cart;I)V"⟩, 10) := ⟨⟨by decide +kernel, by decide +kernel⟩, List.mem_of_getElem? (i := 65) (by decide +kernel), List.mem_of_getElem? (i := 494) (by decide +kernel), List.mem_of_getElem? (i := 495) (by decide +kernel)⟩
theorem lw_p20 : lw_okq (⟨"DustCart$Law", "push", "(I)V"⟩, 10) := ⟨⟨by decide +kernel, by decide +kernel⟩, List.mem_of_getElem? (i := 65) (by decide +kernel), List.mem_of_getElem? (i := 498) (by decide +kernel), List.mem_of_getElem? (i := 499) (by decide +kernel)⟩
theorem lw_p21 : lw_okq (⟨"DustCart", "live", "(I)Z"⟩, 14) := ⟨⟨by decide +kernel, by decide +kernel⟩, List.mem_of_getElem? (i := 16) (by decide +kernel), List.mem_of_getElem? (i := 517) (by decide +kernel), List.mem_of_getElem? (i := 518) (by decide +kernel)⟩
theorem lw_p22 : lw_okq (⟨"DustCart$Cart", "lookAround", "(LDustCart$Plain;)Z"⟩, 4) := ⟨⟨by decide +kernel, by decide +kernel⟩, List.mem_of_getElem? (i := 35) (by decide +kernel), List.mem_of_getElem? (i := 534) (by decide +kernel), List.mem_of_getElem? (i := 535) (by decide +kernel)⟩
theorem lw_p23 : lw_okq (⟨"DustCart$Cart", "move", "(LDustCart$Plain;I)Z"⟩, 4) := ⟨⟨by decide +kernel, by decide +kernel⟩, List.mem_of_getElem? (i := 35) (by decide +kernel), List.mem_of_getElem? (i := 539) (by decide +kernel), List.mem_of_getElem? (i := 540) (by decide +kernel)⟩
theorem lw_p24 : lw_okq (⟨"DustCart", "refusedBytes", "(I)I"⟩, 14) := ⟨⟨by decide +kernel, by decide +kernel⟩, List.mem_of_getElem? (i := 16) (by decide +kernel), List.mem_of_getElem? (i := 565) (by decide +kernel), List.mem_of_getElem? (i := 566) (by decide +kernel)⟩
theorem lw_p25 : lw_okq (⟨"DustCart", "thoughtOf", "(I)I"⟩, 14) := ⟨⟨by decide +kernel, by decide +kernel⟩, List.mem_of_getElem? (i := 16) (by decide +kernel), List.mem_of_getElem? (i := 580) (by decide +kernel), List.mem_of_getElem? (i := 581) (by decide +kernel)⟩
theorem lw_p26 : lw_okq (⟨"DustCart$Ways", "nearest", "(J)I"⟩, 8) := ⟨⟨by decide +kernel, by decide +kernel⟩, List.mem_of_getElem? (i := 104) (by decide +kernel), List.mem_of_getElem? (i := 602) (by decide +kernel), List.mem_of_getElem? (i := 603) (by decide +kernel)⟩
theorem lw_p27 : lw_okq (⟨"DustCart$Ways", "spreadFrom", "(LDustCart$Plain;I)V"⟩, 8) := ⟨⟨by decide +kernel, by decide +kernel⟩, List.mem_of_getElem? (i := 104) (by decide +kernel), List.mem_of_getElem? (i := 606) (by decide +kernel), List.mem_of_getElem? (i := 607) (by decide +kernel)⟩
theorem lw_p28 : lw_okq (⟨"DustCart$Reach", "mostIn", "(I)I"⟩, 5) := ⟨⟨by decide +kernel, by decide +kernel⟩, List.mem_of_getElem? (i := 137) (by decide +kernel), List.mem_of_getElem? (i := 639) (by decide +kernel), List.mem_of_getElem? (i := 640) (by decide +kernel)⟩
theorem lw_p29 : lw_okq (⟨"DustCart$Reach", "goOn", "(LDustCart$Plain;I)V"⟩, 5) := ⟨⟨by decide +kernel, by decide +kernel⟩, List.mem_of_getElem? (i := 137) (by decide +kernel), List.mem_of_getElem? (i := 643) (by decide +kernel), List.mem_of_getElem? (i := 644) (by decide +kernel)⟩
theorem lw_p30 : lw_okq (⟨"DustCart$Ways", "listStones", "(LDustCart$Plain;LDustCart$Cart;)Z"⟩, 8) := ⟨⟨by decide +kernel, by decide +kernel⟩, List.mem_of_getElem? (i := 104) (by decide +kernel), List.mem_of_getElem? (i := 660) (by decide +kernel), List.mem_of_getElem? (i := 661) (by decide +kernel)⟩
theorem lw_p31 : lw_okq (⟨"DustCart$Ways", "leastRest", "(II)I"⟩, 8) := ⟨⟨by decide +kernel, by decide +kernel⟩, List.mem_of_getElem? (i := 104) (by decide +kernel), List.mem_of_getElem? (i := 667) (by decide +kernel), List.mem_of_getElem? (i := 668) (by decide +kernel)⟩
def lw_privs_2 : List (MethodName × Nat) := [(⟨"DustCart$Law", "refuse", "()V"⟩, 10), (⟨"DustCart$Law", "workOut", "(LDustCart$Plain;LDustCart$Cart;I)I"⟩, 10), (⟨"DustCart$Law", "pop", "()I"⟩, 10), (⟨"DustCart$Law", "step", "(ILDustCart$Plain;LDustCart$Cart;I)V"⟩, 10), (⟨"DustCart$Law", "push", "(I)V"⟩, 10), (⟨"DustCart", "live", "(I)Z"⟩, 14), (⟨"DustCart$Cart", "lookAround", "(LDustCart$Plain;)Z"⟩, 4), (⟨"DustCart$Cart", "move", "(LDustCart$Plain;I)Z"⟩, 4), (⟨"DustCart", "refusedBytes", "(I)I"⟩, 14), (⟨"DustCart", "thoughtOf", "(I)I"⟩, 14), (⟨"DustCart$Ways", "nearest", "(J)I"⟩, 8), (⟨"DustCart$Ways", "spreadFrom", "(LDustCart$Plain;I)V"⟩, 8), (⟨"DustCart$Reach", "mostIn", "(I)I"⟩, 5), (⟨"DustCart$Reach", "goOn", "(LDustCart$Plain;I)V"⟩, 5), (⟨"DustCart$Ways", "listStones", "(LDustCart$Plain;LDustCart$Cart;)Z"⟩, 8), (⟨"DustCart$Ways", "leastRest", "(II)I"⟩, 8)]
theorem lw_r2 : ∀ q ∈ lw_privs_2, lw_okq q := List.forall_mem_cons.mpr ⟨lw_p16, List.forall_mem_cons.mpr ⟨lw_p17, List.forall_mem_cons.mpr ⟨lw_p18, List.forall_mem_cons.mpr ⟨lw_p19, List.forall_mem_cons.mpr ⟨lw_p20, List.forall_mem_cons.mpr ⟨lw_p21, List.forall_mem_cons.mpr ⟨lw_p22, List.forall_mem_cons.mpr ⟨lw_p23, List.forall_mem_cons.mpr ⟨lw_p24, List.forall_mem_cons.mpr ⟨lw_p25, List.forall_mem_cons.mpr ⟨lw_p26, List.forall_mem_cons.mpr ⟨lw_p27, List.forall_mem_cons.mpr ⟨lw_p28, List.forall_mem_cons.mpr ⟨lw_p29, List.forall_mem_cons.mpr ⟨lw_p30, List.forall_mem_cons.mpr ⟨lw_p31, fun _ h => absurd h List.not_mem_nil⟩⟩⟩⟩⟩⟩⟩⟩⟩⟩⟩⟩⟩⟩⟩⟩
theorem lw_p32 : lw_okq (⟨"DustCart$Ways", "chooseFirst", "(I)V"⟩, 8) := ⟨⟨by decide +kernel, by decide +kernel⟩, List.mem_of_getElem? (i := 104) (by decide +kernel), List.mem_of_getElem? (i := 671) (by decide +kernel), List.mem_of_getElem? (i := 672) (by decide +kernel)⟩
theorem lw_p33 : lw_okq (⟨"DustCart$Wheels", "begin", "(IIII)I"⟩, 5) := ⟨⟨by decide +kernel, by decide +kernel⟩, List.mem_of_getElem? (i := 215) (by decide +kernel), List.mem_of_getElem? (i := 767) (by decide +kernel), List.mem_of_getElem? (i := 768) (by decide +kernel)⟩
theorem lw_p34 : lw_okq (⟨"DustCart$Wheels", "answerOfWheel", "(III)I"⟩, 5) := ⟨⟨by decide +kernel, by decide +kernel⟩, List.mem_of_getElem? (i := 215) (by decide +kernel), List.mem_of_getElem? (i := 776) (by decide +kernel), List.mem_of_getElem? (i := 777) (by decide +kernel)⟩
theorem lw_p35 : lw_okq (⟨"DustCart$Wheels", "own", "(III)I"⟩, 5) := ⟨⟨by decide +kernel, by decide +kernel⟩, List.mem_of_getElem? (i := 215) (by decide +kernel), List.mem_of_getElem? (i := 780) (by decide +kernel), List.mem_of_getElem? (i := 781) (by decide +kernel)⟩
theorem lw_p36 : lw_okq (⟨"DustCart$Wheels", "answerUnder", "(IIIII)I"⟩, 5) := ⟨⟨by decide +kernel, by decide +kernel⟩, List.mem_of_getElem? (i := 215) (by decide +kernel), List.mem_of_getElem? (i := 784) (by decide +kernel), List.mem_of_getElem? (i := 785) (by decide +kernel)⟩
theorem lw_p37 : lw_okq (⟨"DustCart$Shelf", "narrowed", "(J)J"⟩, 5) := ⟨⟨by decide +kernel, by decide +kernel⟩, List.mem_of_getElem? (i := 188) (by decide +kernel), List.mem_of_getElem? (i := 838) (by decide +kernel), List.mem_of_getElem? (i := 839) (by decide +kernel)⟩
theorem lw_p38 : lw_okq (⟨"DustCartModel", "lays", "(III)V"⟩, 60) := ⟨⟨by decide +kernel, by decide +kernel⟩, List.mem_of_getElem? (i := 873) (by decide +kernel), List.mem_of_getElem? (i := 1065) (by decide +kernel), List.mem_of_getElem? (i := 1066) (by decide +kernel)⟩
theorem lw_p39 : lw_okq (⟨"DustCartModel", "isThing", "(II)Z"⟩, 60) := ⟨⟨by decide +kernel, by decide +kernel⟩, List.mem_of_getElem? (i := 873) (by decide +kernel), List.mem_of_getElem? (i := 1077) (by decide +kernel), List.mem_of_getElem? (i := 1078) (by decide +kernel)⟩
theorem lw_p40 : lw_okq (⟨"DustCartModel", "changes", "(III)I"⟩, 60) := ⟨⟨by decide +kernel, by decide +kernel⟩, List.mem_of_getElem? (i := 873) (by decide +kernel), List.mem_of_getElem? (i := 1093) (by decide +kernel), List.mem_of_getElem? (i := 1094) (by decide +kernel)⟩
theorem lw_p41 : lw_okq (⟨"DustCartModel", "valueAt", "(II)I"⟩, 60) := ⟨⟨by decide +kernel, by decide +kernel⟩, List.mem_of_getElem? (i := 873) (by decide +kernel), List.mem_of_getElem? (i := 1097) (by decide +kernel), List.mem_of_getElem? (i := 1098) (by decide +kernel)⟩
theorem lw_p42 : lw_okq (⟨"DustCartModel", "isHollow", "(I)Z"⟩, 60) := ⟨⟨by decide +kernel, by decide +kernel⟩, List.mem_of_getElem? (i := 873) (by decide +kernel), List.mem_of_getElem? (i := 1105) (by decide +kernel), List.mem_of_getElem? (i := 1106) (by decide +kernel)⟩
theorem lw_p43 : lw_okq (⟨"DustCartModel", "isLooked", "(I)Z"⟩, 60) := ⟨⟨by decide +kernel, by decide +kernel⟩, List.mem_of_getElem? (i := 873) (by decide +kernel), List.mem_of_getElem? (i := 1112) (by decide +kernel), List.mem_of_getElem? (i := 1113) (by decide +kernel)⟩
theorem lw_p44 : lw_okq (⟨"DustCartModel", "readText", "(I)I"⟩, 60) := ⟨⟨by decide +kernel, by decide +kernel⟩, List.mem_of_getElem? (i := 873) (by decide +kernel), List.mem_of_getElem? (i := 1134) (by decide +kernel), List.mem_of_getElem? (i := 1135) (by decide +kernel)⟩
theorem lw_p45 : lw_okq (⟨"DustCartModel", "oneLine", "()V"⟩, 60) := ⟨⟨by decide +kernel, by decide +kernel⟩, List.mem_of_getElem? (i := 873) (by decide +kernel), List.mem_of_getElem? (i := 1138) (by decide +kernel), List.mem_of_getElem? (i := 1139) (by decide +kernel)⟩
theorem lw_p46 : lw_okq (⟨"DustCartModel", "either", "()V"⟩, 60) := ⟨⟨by decide +kernel, by decide +kernel⟩, List.mem_of_getElem? (i := 873) (by decide +kernel), List.mem_of_getElem? (i := 1142) (by decide +kernel), List.mem_of_getElem? (i := 1143) (by decide +kernel)⟩
theorem lw_p47 : lw_okq (⟨"DustCartModel", "both", "()V"⟩, 60) := ⟨⟨by decide +kernel, by decide +kernel⟩, List.mem_of_getElem? (i := 873) (by decide +kernel), List.mem_of_getElem? (i := 1146) (by decide +kernel), List.mem_of_getElem? (i := 1147) (by decide +kernel)⟩
def lw_privs_3 : List (MethodName × Nat) := [(⟨"DustCart$Ways", "chooseFirst", "(I)V"⟩, 8), (⟨"DustCart$Wheels", "begin", "(IIII)I"⟩, 5), (⟨"DustCart$Wheels", "answerOfWheel", "(III)I"⟩, 5), (⟨"DustCart$Wheels", "own", "(III)I"⟩, 5), (⟨"DustCart$Wheels", "answerUnder", "(IIIII)I"⟩, 5), (⟨"DustCart$Shelf", "narrowed", "(J)J"⟩, 5), (⟨"DustCartModel", "lays", "(III)V"⟩, 60), (⟨"DustCartModel", "isThing", "(II)Z"⟩, 60), (⟨"DustCartModel", "changes", "(III)I"⟩, 60), (⟨"DustCartModel", "valueAt", "(II)I"⟩, 60), (⟨"DustCartModel", "isHollow", "(I)Z"⟩, 60), (⟨"DustCartModel", "isLooked", "(I)Z"⟩, 60), (⟨"DustCartModel", "readText", "(I)I"⟩, 60), (⟨"DustCartModel", "oneLine", "()V"⟩, 60), (⟨"DustCartModel", "either", "()V"⟩, 60), (⟨"DustCartModel", "both", "()V"⟩, 60)]
theorem lw_r3 : ∀ q ∈ lw_privs_3, lw_okq q := List.forall_mem_cons.mpr ⟨lw_p32, List.forall_mem_cons.mpr ⟨lw_p33, List.forall_mem_cons.mpr ⟨lw_p34, List.forall_mem_cons.mpr ⟨lw_p35, List.forall_mem_cons.mpr ⟨lw_p36, List.forall_mem_cons.mpr ⟨lw_p37, List.forall_mem_cons.mpr ⟨lw_p38, List.forall_mem_cons.mpr ⟨lw_p39, List.forall_mem_cons.mpr ⟨lw_p40, List.forall_mem_cons.mpr ⟨lw_p41, List.forall_mem_cons.mpr ⟨lw_p42, List.forall_mem_cons.mpr ⟨lw_p43, List.forall_mem_cons.mpr ⟨lw_p44, List.forall_mem_cons.mpr ⟨lw_p45, List.forall_mem_cons.mpr ⟨lw_p46, List.forall_mem_cons.mpr ⟨lw_p47, fun _ h => absurd h List.not_mem_nil⟩⟩⟩⟩⟩⟩⟩⟩⟩⟩⟩⟩⟩⟩⟩⟩
theorem lw_p48 : lw_okq (⟨"DustCartModel", "compared", "()V"⟩, 60) := ⟨⟨by decide +kernel, by decide +kernel⟩, List.mem_of_getElem? (i := 873) (by decide +kernel), List.mem_of_getElem? (i := 1150) (by decide +kernel), List.mem_of_getElem? (i := 1151) (by decide +kernel)⟩
theorem lw_p49 : lw_okq (⟨"DustCartModel", "sum", "()V"⟩, 60) := ⟨⟨by decide +kernel, by decide +kernel⟩, List.mem_of_getElem? (i := 873) (by decide +kernel), List.mem_of_getElem? (i := 1154) (by decide +kernel), List.mem_of_getElem? (i := 1155) (by decide +kernel)⟩
theorem lw_p50 : lw_okq (⟨"DustCartModel", "product", "()V"⟩, 60) := ⟨⟨by decide +kernel, by decide +kernel⟩, List.mem_of_getElem? (i := 873) (by decide +kernel), List.mem_of_getElem? (i := 1158) (by decide +kernel), List.mem_of_getElem? (i := 1159) (by decide +kernel)⟩
theorem lw_p51 : lw_okq (⟨"DustCartModel", "operand", "()V"⟩, 60) := ⟨⟨by decide +kernel, by decide +kernel⟩, List.mem_of_getElem? (i := 873) (by decide +kernel), List.mem_of_getElem? (i := 1162) (by decide +kernel), List.mem_of_getElem? (i := 1163) (by decide +kernel)⟩
theorem lw_p52 : lw_okq (⟨"DustCartModel", "look", "()I"⟩, 60) := ⟨⟨by decide +kernel, by decide +kernel⟩, List.mem_of_getElem? (i := 873) (by decide +kernel), List.mem_of_getElem? (i := 1166) (by decide +kernel), List.mem_of_getElem? (i := 1167) (by decide +kernel)⟩
theorem lw_p53 : lw_okq (⟨"DustCartModel", "addStep", "(II)V"⟩, 60) := ⟨⟨by decide +kernel, by decide +kernel⟩, List.mem_of_getElem? (i := 873) (by decide +kernel), List.mem_of_getElem? (i := 1173) (by decide +kernel), List.mem_of_getElem? (i := 1174) (by decide +kernel)⟩
theorem lw_p54 : lw_okq (⟨"DustCartModel", "opens", "()Z"⟩, 60) := ⟨⟨by decide +kernel, by decide +kernel⟩, List.mem_of_getElem? (i := 873) (by decide +kernel), List.mem_of_getElem? (i := 1177) (by decide +kernel), List.mem_of_getElem? (i := 1178) (by decide +kernel)⟩
theorem lw_p55 : lw_okq (⟨"DustCartModel", "faulty", "()V"⟩, 60) := ⟨⟨by decide +kernel, by decide +kernel⟩, List.mem_of_getElem? (i := 873) (by decide +kernel), List.mem_of_getElem? (i := 1181) (by decide +kernel), List.mem_of_getElem? (i := 1182) (by decide +kernel)⟩
theorem lw_p56 : lw_okq (⟨"DustCartModel", "figure", "()V"⟩, 60) := ⟨⟨by decide +kernel, by decide +kernel⟩, List.mem_of_getElem? (i := 873) (by decide +kernel), List.mem_of_getElem? (i := 1185) (by decide +kernel), List.mem_of_getElem? (i := 1186) (by decide +kernel)⟩
theorem lw_p57 : lw_okq (⟨"DustCartModel", "costOf", "(II)I"⟩, 60) := ⟨⟨by decide +kernel, by decide +kernel⟩, List.mem_of_getElem? (i := 873) (by decide +kernel), List.mem_of_getElem? (i := 1193) (by decide +kernel), List.mem_of_getElem? (i := 1194) (by decide +kernel)⟩
theorem lw_p58 : lw_okq (⟨"DustCartModel", "orderOf", "(I)I"⟩, 60) := ⟨⟨by decide +kernel, by decide +kernel⟩, List.mem_of_getElem? (i := 873) (by decide +kernel), List.mem_of_getElem? (i := 1201) (by decide +kernel), List.mem_of_getElem? (i := 1202) (by decide +kernel)⟩
theorem lw_p59 : lw_okq (⟨"DustCartModel", "gives", "(I)I"⟩, 60) := ⟨⟨by decide +kernel, by decide +kernel⟩, List.mem_of_getElem? (i := 873) (by decide +kernel), List.mem_of_getElem? (i := 1205) (by decide +kernel), List.mem_of_getElem? (i := 1206) (by decide +kernel)⟩
theorem lw_p60 : lw_okq (⟨"DustCartModel", "worked", "(III)I"⟩, 60) := ⟨⟨by decide +kernel, by decide +kernel⟩, List.mem_of_getElem? (i := 873) (by decide +kernel), List.mem_of_getElem? (i := 1209) (by decide +kernel), List.mem_of_getElem? (i := 1210) (by decide +kernel)⟩
theorem lw_p61 : lw_okq (⟨"DustCartModel", "lead", "(I)I"⟩, 60) := ⟨⟨by decide +kernel, by decide +kernel⟩, List.mem_of_getElem? (i := 873) (by decide +kernel), List.mem_of_getElem? (i := 1220) (by decide +kernel), List.mem_of_getElem? (i := 1221) (by decide +kernel)⟩
theorem lw_p62 : lw_okq (⟨"DustCartModel", "goOwn", "(II)Z"⟩, 60) := ⟨⟨by decide +kernel, by decide +kernel⟩, List.mem_of_getElem? (i := 873) (by decide +kernel), List.mem_of_getElem? (i := 1224) (by decide +kernel), List.mem_of_getElem? (i := 1225) (by decide +kernel)⟩
theorem lw_p63 : lw_okq (⟨"DustCartModel", "goDay", "(IIII)Z"⟩, 60) := ⟨⟨by decide +kernel, by decide +kernel⟩, List.mem_of_getElem? (i := 873) (by decide +kernel), List.mem_of_getElem? (i := 1228) (by decide +kernel), List.mem_of_getElem? (i := 1229) (by decide +kernel)⟩
def lw_privs_4 : List (MethodName × Nat) := [(⟨"DustCartModel", "compared", "()V"⟩, 60), (⟨"DustCartModel", "sum", "()V"⟩, 60), (⟨"DustCartModel", "product", "()V"⟩, 60), (⟨"DustCartModel", "operand", "()V"⟩, 60), (⟨"DustCartModel", "look", "()I"⟩, 60), (⟨"DustCartModel", "addStep", "(II)V"⟩, 60), (⟨"DustCartModel", "opens", "()Z"⟩, 60), (⟨"DustCartModel", "faulty", "()V"⟩, 60), (⟨"DustCartModel", "figure", "()V"⟩, 60), (⟨"DustCartModel", "costOf", "(II)I"⟩, 60), (⟨"DustCartModel", "orderOf", "(I)I"⟩, 60), (⟨"DustCartModel", "gives", "(I)I"⟩, 60), (⟨"DustCartModel", "worked", "(III)I"⟩, 60), (⟨"DustCartModel", "lead", "(I)I"⟩, 60), (⟨"DustCartModel", "goOwn", "(II)Z"⟩, 60), (⟨"DustCartModel", "goDay", "(IIII)Z"⟩, 60)]
theorem lw_r4 : ∀ q ∈ lw_privs_4, lw_okq q := List.forall_mem_cons.mpr ⟨lw_p48, List.forall_mem_cons.mpr ⟨lw_p49, List.forall_mem_cons.mpr ⟨lw_p50, List.forall_mem_cons.mpr ⟨lw_p51, List.forall_mem_cons.mpr ⟨lw_p52, List.forall_mem_cons.mpr ⟨lw_p53, List.forall_mem_cons.mpr ⟨lw_p54, List.forall_mem_cons.mpr ⟨lw_p55, List.forall_mem_cons.mpr ⟨lw_p56, List.forall_mem_cons.mpr ⟨lw_p57, List.forall_mem_cons.mpr ⟨lw_p58, List.forall_mem_cons.mpr ⟨lw_p59, List.forall_mem_cons.mpr ⟨lw_p60, List.forall_mem_cons.mpr ⟨lw_p61, List.forall_mem_cons.mpr ⟨lw_p62, List.forall_mem_cons.mpr ⟨lw_p63, fun _ h => absurd h List.not_mem_nil⟩⟩⟩⟩⟩⟩⟩⟩⟩⟩⟩⟩⟩⟩⟩⟩
theorem lw_p64 : lw_okq (⟨"DustCartModel", "obeys", "(I)Z"⟩, 60) := ⟨⟨by decide +kernel, by decide +kernel⟩, List.mem_of_getElem? (i := 873) (by decide +kernel), List.mem_of_getElem? (i := 1232) (by decide +kernel), List.mem_of_getElem? (i := 1233) (by decide +kernel)⟩
theorem lw_p65 : lw_okq (⟨"DustCartModel", "rowFault", "(I)I"⟩, 60) := ⟨⟨by decide +kernel, by decide +kernel⟩, List.mem_of_getElem? (i := 873) (by decide +kernel), List.mem_of_getElem? (i := 1254) (by decide +kernel), List.mem_of_getElem? (i := 1255) (by decide +kernel)⟩
theorem lw_p66 : lw_okq (⟨"DustCartModel", "think", "()V"⟩, 60) := ⟨⟨by decide +kernel, by decide +kernel⟩, List.mem_of_getElem? (i := 873) (by decide +kernel), List.mem_of_getElem? (i := 1258) (by decide +kernel), List.mem_of_getElem? (i := 1259) (by decide +kernel)⟩
theorem lw_p67 : lw_okq (⟨"DustCartModel", "orderAt", "(II)I"⟩, 60) := ⟨⟨by decide +kernel, by decide +kernel⟩, List.mem_of_getElem? (i := 873) (by decide +kernel), List.mem_of_getElem? (i := 1262) (by decide +kernel), List.mem_of_getElem? (i := 1263) (by decide +kernel)⟩
theorem lw_p68 : lw_okq (⟨"DustCartModel", "byteAt", "(II)I"⟩, 60) := ⟨⟨by decide +kernel, by decide +kernel⟩, List.mem_of_getElem? (i := 873) (by decide +kernel), List.mem_of_getElem? (i := 1266) (by decide +kernel), List.mem_of_getElem? (i := 1267) (by decide +kernel)⟩
theorem lw_p69 : lw_okq (⟨"DustCartModel", "tellThought", "(I)I"⟩, 60) := ⟨⟨by decide +kernel, by decide +kernel⟩, List.mem_of_getElem? (i := 873) (by decide +kernel), List.mem_of_getElem? (i := 1270) (by decide +kernel), List.mem_of_getElem? (i := 1271) (by decide +kernel)⟩
theorem lw_p70 : lw_okq (⟨"DustCartModel", "unthink", "()V"⟩, 60) := ⟨⟨by decide +kernel, by decide +kernel⟩, List.mem_of_getElem? (i := 873) (by decide +kernel), List.mem_of_getElem? (i := 1274) (by decide +kernel), List.mem_of_getElem? (i := 1275) (by decide +kernel)⟩
theorem lw_p71 : lw_okq (⟨"DustCartModel", "findFar", "(I)V"⟩, 60) := ⟨⟨by decide +kernel, by decide +kernel⟩, List.mem_of_getElem? (i := 873) (by decide +kernel), List.mem_of_getElem? (i := 1290) (by decide +kernel), List.mem_of_getElem? (i := 1291) (by decide +kernel)⟩
theorem lw_p72 : lw_okq (⟨"DustCartModel", "mostIn", "(I)I"⟩, 60) := ⟨⟨by decide +kernel, by decide +kernel⟩, List.mem_of_getElem? (i := 873) (by decide +kernel), List.mem_of_getElem? (i := 1299) (by decide +kernel), List.mem_of_getElem? (i := 1300) (by decide +kernel)⟩
theorem lw_p73 : lw_okq (⟨"DustCartModel", "goOn", "(I)V"⟩, 60) := ⟨⟨by decide +kernel, by decide +kernel⟩, List.mem_of_getElem? (i := 873) (by decide +kernel), List.mem_of_getElem? (i := 1303) (by decide +kernel), List.mem_of_getElem? (i := 1304) (by decide +kernel)⟩
theorem lw_p74 : lw_okq (⟨"DustCartModel", "come", "(IIII)V"⟩, 60) := ⟨⟨by decide +kernel, by decide +kernel⟩, List.mem_of_getElem? (i := 873) (by decide +kernel), List.mem_of_getElem? (i := 1307) (by decide +kernel), List.mem_of_getElem? (i := 1308) (by decide +kernel)⟩
theorem lw_p75 : lw_okq (⟨"DustCartModel", "toNorth", "(I)I"⟩, 60) := ⟨⟨by decide +kernel, by decide +kernel⟩, List.mem_of_getElem? (i := 873) (by decide +kernel), List.mem_of_getElem? (i := 1315) (by decide +kernel), List.mem_of_getElem? (i := 1316) (by decide +kernel)⟩
theorem lw_p76 : lw_okq (⟨"DustCartModel", "goRound", "(IIIII)V"⟩, 60) := ⟨⟨by decide +kernel, by decide +kernel⟩, List.mem_of_getElem? (i := 873) (by decide +kernel), List.mem_of_getElem? (i := 1319) (by decide +kernel), List.mem_of_getElem? (i := 1320) (by decide +kernel)⟩
theorem lw_p77 : lw_okq (⟨"DustCartModel", "endOf", "(II)I"⟩, 60) := ⟨⟨by decide +kernel, by decide +kernel⟩, List.mem_of_getElem? (i := 873) (by decide +kernel), List.mem_of_getElem? (i := 1342) (by decide +kernel), List.mem_of_getElem? (i := 1343) (by decide +kernel)⟩
theorem lw_p78 : lw_okq (⟨"DustCartModel", "isBody", "(I)Z"⟩, 60) := ⟨⟨by decide +kernel, by decide +kernel⟩, List.mem_of_getElem? (i := 873) (by decide +kernel), List.mem_of_getElem? (i := 1375) (by decide +kernel), List.mem_of_getElem? (i := 1376) (by decide +kernel)⟩
theorem lw_p79 : lw_okq (⟨"DustCartModel", "turning", "(II)I"⟩, 60) := ⟨⟨by decide +kernel, by decide +kernel⟩, List.mem_of_getElem? (i := 873) (by decide +kernel), List.mem_of_getElem? (i := 1379) (by decide +kernel), List.mem_of_getElem? (i := 1380) (by decide +kernel)⟩
def lw_privs_5 : List (MethodName × Nat) := [(⟨"DustCartModel", "obeys", "(I)Z"⟩, 60), (⟨"DustCartModel", "rowFault", "(I)I"⟩, 60), (⟨"DustCartModel", "think", "()V"⟩, 60), (⟨"DustCartModel", "orderAt", "(II)I"⟩, 60), (⟨"DustCartModel", "byteAt", "(II)I"⟩, 60), (⟨"DustCartModel", "tellThought", "(I)I"⟩, 60), (⟨"DustCartModel", "unthink", "()V"⟩, 60), (⟨"DustCartModel", "findFar", "(I)V"⟩, 60), (⟨"DustCartModel", "mostIn", "(I)I"⟩, 60), (⟨"DustCartModel", "goOn", "(I)V"⟩, 60), (⟨"DustCartModel", "come", "(IIII)V"⟩, 60), (⟨"DustCartModel", "toNorth", "(I)I"⟩, 60), (⟨"DustCartModel", "goRound", "(IIIII)V"⟩, 60), (⟨"DustCartModel", "endOf", "(II)I"⟩, 60), (⟨"DustCartModel", "isBody", "(I)Z"⟩, 60), (⟨"DustCartModel", "turning", "(II)I"⟩, 60)]
theorem lw_r5 : ∀ q ∈ lw_privs_5, lw_okq q := List.forall_mem_cons.mpr ⟨lw_p64, List.forall_mem_cons.mpr ⟨lw_p65, List.forall_mem_cons.mpr ⟨lw_p66, List.forall_mem_cons.mpr ⟨lw_p67, List.forall_mem_cons.mpr ⟨lw_p68, List.forall_mem_cons.mpr ⟨lw_p69, List.forall_mem_cons.mpr ⟨lw_p70, List.forall_mem_cons.mpr ⟨lw_p71, List.forall_mem_cons.mpr ⟨lw_p72, List.forall_mem_cons.mpr ⟨lw_p73, List.forall_mem_cons.mpr ⟨lw_p74, List.forall_mem_cons.mpr ⟨lw_p75, List.forall_mem_cons.mpr ⟨lw_p76, List.forall_mem_cons.mpr ⟨lw_p77, List.forall_mem_cons.mpr ⟨lw_p78, List.forall_mem_cons.mpr ⟨lw_p79, fun _ h => absurd h List.not_mem_nil⟩⟩⟩⟩⟩⟩⟩⟩⟩⟩⟩⟩⟩⟩⟩⟩
theorem lw_p80 : lw_okq (⟨"DustCartModel", "ran", "(I)V"⟩, 60) := ⟨⟨by decide +kernel, by decide +kernel⟩, List.mem_of_getElem? (i := 873) (by decide +kernel), List.mem_of_getElem? (i := 1386) (by decide +kernel), List.mem_of_getElem? (i := 1387) (by decide +kernel)⟩
theorem lw_p81 : lw_okq (⟨"DustCartModel", "plainTurns", "(II)I"⟩, 60) := ⟨⟨by decide +kernel, by decide +kernel⟩, List.mem_of_getElem? (i := 873) (by decide +kernel), List.mem_of_getElem? (i := 1390) (by decide +kernel), List.mem_of_getElem? (i := 1391) (by decide +kernel)⟩
theorem lw_p82 : lw_okq (⟨"DustCartModel", "northTurns", "(II)I"⟩, 60) := ⟨⟨by decide +kernel, by decide +kernel⟩, List.mem_of_getElem? (i := 873) (by decide +kernel), List.mem_of_getElem? (i := 1394) (by decide +kernel), List.mem_of_getElem? (i := 1395) (by decide +kernel)⟩
theorem lw_p83 : lw_okq (⟨"DustCartModel", "moving", "(II)I"⟩, 60) := ⟨⟨by decide +kernel, by decide +kernel⟩, List.mem_of_getElem? (i := 873) (by decide +kernel), List.mem_of_getElem? (i := 1398) (by decide +kernel), List.mem_of_getElem? (i := 1399) (by decide +kernel)⟩
theorem lw_p84 : lw_okq (⟨"DustCartModel", "dustyMoves", "(II)I"⟩, 60) := ⟨⟨by decide +kernel, by decide +kernel⟩, List.mem_of_getElem? (i := 873) (by decide +kernel), List.mem_of_getElem? (i := 1402) (by decide +kernel), List.mem_of_getElem? (i := 1403) (by decide +kernel)⟩
theorem lw_p85 : lw_okq (⟨"DustCartModel", "plainMoves", "(II)I"⟩, 60) := ⟨⟨by decide +kernel, by decide +kernel⟩, List.mem_of_getElem? (i := 873) (by decide +kernel), List.mem_of_getElem? (i := 1406) (by decide +kernel), List.mem_of_getElem? (i := 1407) (by decide +kernel)⟩
theorem lw_p86 : lw_okq (⟨"DustCartModel", "looking", "(II)I"⟩, 60) := ⟨⟨by decide +kernel, by decide +kernel⟩, List.mem_of_getElem? (i := 873) (by decide +kernel), List.mem_of_getElem? (i := 1410) (by decide +kernel), List.mem_of_getElem? (i := 1411) (by decide +kernel)⟩
theorem lw_p87 : lw_okq (⟨"DustCartModel", "cleanLooks", "(II)I"⟩, 60) := ⟨⟨by decide +kernel, by decide +kernel⟩, List.mem_of_getElem? (i := 873) (by decide +kernel), List.mem_of_getElem? (i := 1414) (by decide +kernel), List.mem_of_getElem? (i := 1415) (by decide +kernel)⟩
theorem lw_p88 : lw_okq (⟨"DustCartModel", "plainLooks", "(II)I"⟩, 60) := ⟨⟨by decide +kernel, by decide +kernel⟩, List.mem_of_getElem? (i := 873) (by decide +kernel), List.mem_of_getElem? (i := 1418) (by decide +kernel), List.mem_of_getElem? (i := 1419) (by decide +kernel)⟩
theorem lw_p89 : lw_okq (⟨"DustCartModel", "telling", "(II)I"⟩, 60) := ⟨⟨by decide +kernel, by decide +kernel⟩, List.mem_of_getElem? (i := 873) (by decide +kernel), List.mem_of_getElem? (i := 1422) (by decide +kernel), List.mem_of_getElem? (i := 1423) (by decide +kernel)⟩
theorem lw_p90 : lw_okq (⟨"DustCartModel", "plainTells", "(II)I"⟩, 60) := ⟨⟨by decide +kernel, by decide +kernel⟩, List.mem_of_getElem? (i := 873) (by decide +kernel), List.mem_of_getElem? (i := 1426) (by decide +kernel), List.mem_of_getElem? (i := 1427) (by decide +kernel)⟩
theorem lw_p91 : lw_okq (⟨"DustCartModel", "stones", "()I"⟩, 60) := ⟨⟨by decide +kernel, by decide +kernel⟩, List.mem_of_getElem? (i := 873) (by decide +kernel), List.mem_of_getElem? (i := 1434) (by decide +kernel), List.mem_of_getElem? (i := 1435) (by decide +kernel)⟩
theorem lw_p92 : lw_okq (⟨"DustCartModel", "hollows", "()I"⟩, 60) := ⟨⟨by decide +kernel, by decide +kernel⟩, List.mem_of_getElem? (i := 873) (by decide +kernel), List.mem_of_getElem? (i := 1438) (by decide +kernel), List.mem_of_getElem? (i := 1439) (by decide +kernel)⟩
theorem lw_p93 : lw_okq (⟨"DustCartModel", "whyNoPlace", "(II)I"⟩, 60) := ⟨⟨by decide +kernel, by decide +kernel⟩, List.mem_of_getElem? (i := 873) (by decide +kernel), List.mem_of_getElem? (i := 1454) (by decide +kernel), List.mem_of_getElem? (i := 1455) (by decide +kernel)⟩
def lw_privs_6 : List (MethodName × Nat) := [(⟨"DustCartModel", "ran", "(I)V"⟩, 60), (⟨"DustCartModel", "plainTurns", "(II)I"⟩, 60), (⟨"DustCartModel", "northTurns", "(II)I"⟩, 60), (⟨"DustCartModel", "moving", "(II)I"⟩, 60), (⟨"DustCartModel", "dustyMoves", "(II)I"⟩, 60), (⟨"DustCartModel", "plainMoves", "(II)I"⟩, 60), (⟨"DustCartModel", "looking", "(II)I"⟩, 60), (⟨"DustCartModel", "cleanLooks", "(II)I"⟩, 60), (⟨"DustCartModel", "plainLooks", "(II)I"⟩, 60), (⟨"DustCartModel", "telling", "(II)I"⟩, 60), (⟨"DustCartModel", "plainTells", "(II)I"⟩, 60), (⟨"DustCartModel", "stones", "()I"⟩, 60), (⟨"DustCartModel", "hollows", "()I"⟩, 60), (⟨"DustCartModel", "whyNoPlace", "(II)I"⟩, 60)]
theorem lw_r6 : ∀ q ∈ lw_privs_6, lw_okq q := List.forall_mem_cons.mpr ⟨lw_p80, List.forall_mem_cons.mpr ⟨lw_p81, List.forall_mem_cons.mpr ⟨lw_p82, List.forall_mem_cons.mpr ⟨lw_p83, List.forall_mem_cons.mpr ⟨lw_p84, List.forall_mem_cons.mpr ⟨lw_p85, List.forall_mem_cons.mpr ⟨lw_p86, List.forall_mem_cons.mpr ⟨lw_p87, List.forall_mem_cons.mpr ⟨lw_p88, List.forall_mem_cons.mpr ⟨lw_p89, List.forall_mem_cons.mpr ⟨lw_p90, List.forall_mem_cons.mpr ⟨lw_p91, List.forall_mem_cons.mpr ⟨lw_p92, List.forall_mem_cons.mpr ⟨lw_p93, fun _ h => absurd h List.not_mem_nil⟩⟩⟩⟩⟩⟩⟩⟩⟩⟩⟩⟩⟩⟩
def lw_privs : List (MethodName × Nat) := lw_privs_1 ++ (lw_privs_2 ++ (lw_privs_3 ++ (lw_privs_4 ++ (lw_privs_5 ++ (lw_privs_6)))))
def lw_tbl : List Cond := k2_sels lw_privs ++ tables_1
theorem lw_privs_ok : ∀ q ∈ lw_privs, lw_okq q := by
  show ∀ q ∈ lw_privs_1 ++ (lw_privs_2 ++ (lw_privs_3 ++ (lw_privs_4 ++ (lw_privs_5 ++ (lw_privs_6))))), lw_okq q
  exact List.forall_mem_append.mpr ⟨lw_r1, List.forall_mem_append.mpr ⟨lw_r2, List.forall_mem_append.mpr ⟨lw_r3, List.forall_mem_append.mpr ⟨lw_r4, List.forall_mem_append.mpr ⟨lw_r5, lw_r6⟩⟩⟩⟩⟩
-- ===== end of PART A; then your names; then what follows =====
theorem goodIn_r {big : List Cond} (ws : List Cond) (ps : List Nat) (hp : ws = ps.filterMap (fun i => big[i]?)) (h : ws.all goodWord = true) : GoodIn big ws := by
  intro w hw
  have h1 := List.all_eq_true.mp h w hw
  rw [hp] at hw
  obtain ⟨i, -, hi⟩ := List.mem_filterMap.mp hw
  have hm : w ∈ big := by first | exact List.mem_of_getElem? hi | exact List.getElem?_mem hi
  exact ⟨hm, good_of_word h1⟩
theorem goodIn_app {big a b : List Cond} (ha : GoodIn big a) (hb : GoodIn big b) : GoodIn big (a ++ b) := fun w h => (List.mem_append.mp h).elim (ha w) (hb w)
theorem goodIn_ca {big a b : List Cond} {c : Cond} (ha : GoodIn big (c :: a)) (hb : GoodIn big b) : GoodIn big (c :: (a ++ b)) := fun w h => (List.mem_cons.mp h).elim (fun e => ha w (List.mem_cons.mpr (Or.inl e))) (fun h => (List.mem_append.mp h).elim (fun h => ha w (List.mem_cons.mpr (Or.inr h))) (hb w))
theorem goodIn_sub {big ws : List Cond} (hm : ∀ w ∈ ws, w ∈ big) (h : ws.all goodWord = true) : GoodIn big ws := fun w hw => ⟨hm w hw, good_of_word (List.all_eq_true.mp h w hw)⟩
def RX0 : String := "DustCart$Cart"
def TX0 : u_T := fun k => match k with
  | 0 => ("DustCart$Cart", "cell", "I", false)
  | 1 => ("DustCart$Cart", "store", "I", false)
  | 2 => ("DustCart$Cart", "dust", "I", false)
  | _ => ("DustCart$Cart", "looked", "J", false)
def tyX0 : Nat → FieldType := fun k => match k with
  | 0 => .int
  | 1 => .int
  | 2 => .int
  | _ => .long
abbrev wsX00 : List Cond := u_ws RX0 TX0 4
theorem nmX0 : ∀ a, a < 4 → ∀ b, b < 4 → a ≠ b → (TX0 a).2.1 ≠ (TX0 b).2.1 := by decide +kernel
theorem tyX0_ok : ∀ k, k < 4 → parseFieldDescriptor (TX0 k).2.2.1 = some (tyX0 k) := by decide +kernel
abbrev cX0_init : ByteArray := prog_2_method_1_code
def yX0_init : MethodName := ⟨RX0, "<init>", "()V"⟩
abbrev cX0_become : ByteArray := prog_2_method_2_code
def yX0_become : MethodName := ⟨RX0, "become", "(LDustCart$Cart;)V"⟩
abbrev cX0_place : ByteArray := prog_2_method_3_code
def yX0_place : MethodName := ⟨RX0, "place", "(III)V"⟩
abbrev cX0_hasLookedAt : ByteArray := prog_2_method_4_code
def yX0_hasLookedAt : MethodName := ⟨RX0, "hasLookedAt", "(I)Z"⟩
abbrev cX0_isOnNewStone : ByteArray := prog_2_method_5_code
def yX0_isOnNewStone : MethodName := ⟨RX0, "isOnNewStone", "(LDustCart$Plain;)Z"⟩
abbrev cX0_live : ByteArray := prog_2_method_6_code
def yX0_live : MethodName := ⟨RX0, "live", "(LDustCart$Plain;II)Z"⟩
abbrev cX0_liveUnder : ByteArray := prog_2_method_7_code
def yX0_liveUnder : MethodName := ⟨RX0, "liveUnder", "(LDustCart$Plain;IIII)Z"⟩
abbrev cX0_move : ByteArray := prog_2_method_8_code
def yX0_move : MethodName := ⟨RX0, "move", "(LDustCart$Plain;I)Z"⟩
abbrev cX0_lookAround : ByteArray := prog_2_method_9_code
def yX0_lookAround : MethodName := ⟨RX0, "lookAround", "(LDustCart$Plain;)Z"⟩
def RX1 : String := "DustCart$Changes"
def TX1 : u_T := fun k => match k with
  | 0 => ("DustCart$Changes", "places", "[I", true)
  | 1 => ("DustCart$Changes", "before", "[I", true)
  | 2 => ("DustCart$Changes", "behind", "[I", true)
  | 3 => ("DustCart$Changes", "done", "I", false)
  | _ => ("DustCart$Changes", "known", "I", false)
def tyX1 : Nat → FieldType := fun k => match k with
  | 0 => .array .int
  | 1 => .array .int
  | 2 => .array .int
  | 3 => .int
  | _ => .int
abbrev wsX10 : List Cond := u_ws RX1 TX1 5
theorem nmX1 : ∀ a, a < 5 → ∀ b, b < 5 → a ≠ b → (TX1 a).2.1 ≠ (TX1 b).2.1 := by decide +kernel
theorem tyX1_ok : ∀ k, k < 5 → parseFieldDescriptor (TX1 k).2.2.1 = some (tyX1 k) := by decide +kernel
abbrev cX1_init : ByteArray := prog_3_method_1_code
def yX1_init : MethodName := ⟨RX1, "<init>", "()V"⟩
abbrev cX1_note : ByteArray := prog_3_method_2_code
def yX1_note : MethodName := ⟨RX1, "note", "(III)V"⟩
abbrev cX1_dropOldest : ByteArray := prog_3_method_3_code
def yX1_dropOldest : MethodName := ⟨RX1, "dropOldest", "()V"⟩
abbrev cX1_takeBack : ByteArray := prog_3_method_4_code
def yX1_takeBack : MethodName := ⟨RX1, "takeBack", "(LDustCart$Plain;)Z"⟩
abbrev cX1_bringBack : ByteArray := prog_3_method_5_code
def yX1_bringBack : MethodName := ⟨RX1, "bringBack", "(LDustCart$Plain;)Z"⟩
def RX2 : String := "DustCart$Law"
def TX2 : u_T := fun k => match k with
  | 0 => ("DustCart$Law", "tape", "[I", true)
  | 1 => ("DustCart$Law", "draft", "[I", true)
  | 2 => ("DustCart$Law", "codes", "[I", true)
  | 3 => ("DustCart$Law", "stack", "[I", true)
  | 4 => ("DustCart$Law", "drafted", "I", false)
  | 5 => ("DustCart$Law", "coded", "I", false)
  | 6 => ("DustCart$Law", "high", "I", false)
  | 7 => ("DustCart$Law", "place", "I", false)
  | 8 => ("DustCart$Law", "fault", "I", false)
  | _ => ("DustCart$Law", "fed", "I", false)
def tyX2 : Nat → FieldType := fun k => match k with
  | 0 => .array .int
  | 1 => .array .int
  | 2 => .array .int
  | 3 => .array .int
  | 4 => .int
  | 5 => .int
  | 6 => .int
  | 7 => .int
  | 8 => .int
  | _ => .int
abbrev wsX20 : List Cond := u_ws RX2 TX2 10
theorem nmX2 : ∀ a, a < 10 → ∀ b, b < 10 → a ≠ b → (TX2 a).2.1 ≠ (TX2 b).2.1 := by decide +kernel
theorem tyX2_ok : ∀ k, k < 10 → parseFieldDescriptor (TX2 k).2.2.1 = some (tyX2 k) := by decide +kernel
abbrev cX2_init : ByteArray := prog_4_method_1_code
def yX2_init : MethodName := ⟨RX2, "<init>", "()V"⟩
abbrev cX2_take : ByteArray := prog_4_method_2_code
def yX2_take : MethodName := ⟨RX2, "take", "(I)Z"⟩
abbrev cX2_become : ByteArray := prog_4_method_3_code
def yX2_become : MethodName := ⟨RX2, "become", "()I"⟩
abbrev cX2_sign : ByteArray := prog_4_method_4_code
def yX2_sign : MethodName := ⟨RX2, "sign", "()I"⟩
abbrev cX2_pass : ByteArray := prog_4_method_5_code
def yX2_pass : MethodName := ⟨RX2, "pass", "(I)Z"⟩
abbrev cX2_refuse : ByteArray := prog_4_method_6_code
def yX2_refuse : MethodName := ⟨RX2, "refuse", "()V"⟩
abbrev cX2_write : ByteArray := prog_4_method_7_code
def yX2_write : MethodName := ⟨RX2, "write", "(I)V"⟩
abbrev cX2_readLines : ByteArray := prog_4_method_8_code
def yX2_readLines : MethodName := ⟨RX2, "readLines", "()V"⟩
abbrev cX2_readOr : ByteArray := prog_4_method_9_code
def yX2_readOr : MethodName := ⟨RX2, "readOr", "(I)V"⟩
abbrev cX2_readAnd : ByteArray := prog_4_method_10_code
def yX2_readAnd : MethodName := ⟨RX2, "readAnd", "(I)V"⟩
abbrev cX2_readCompared : ByteArray := prog_4_method_11_code
def yX2_readCompared : MethodName := ⟨RX2, "readCompared", "(I)V"⟩
abbrev cX2_readSum : ByteArray := prog_4_method_12_code
def yX2_readSum : MethodName := ⟨RX2, "readSum", "(I)V"⟩
abbrev cX2_readProduct : ByteArray := prog_4_method_13_code
def yX2_readProduct : MethodName := ⟨RX2, "readProduct", "(I)V"⟩
abbrev cX2_readOperand : ByteArray := prog_4_method_14_code
def yX2_readOperand : MethodName := ⟨RX2, "readOperand", "(I)V"⟩
abbrev cX2_readOpened : ByteArray := prog_4_method_15_code
def yX2_readOpened : MethodName := ⟨RX2, "readOpened", "(II)V"⟩
abbrev cX2_readNumber : ByteArray := prog_4_method_16_code
def yX2_readNumber : MethodName := ⟨RX2, "readNumber", "()V"⟩
abbrev cX2_isDigit : ByteArray := prog_4_method_17_code
def yX2_isDigit : MethodName := ⟨RX2, "isDigit", "(I)Z"⟩
abbrev cX2_isName : ByteArray := prog_4_method_18_code
def yX2_isName : MethodName := ⟨RX2, "isName", "(I)Z"⟩
abbrev cX2_orderFor : ByteArray := prog_4_method_19_code
def yX2_orderFor : MethodName := ⟨RX2, "orderFor", "(LDustCart$Plain;LDustCart$Cart;I)I"⟩
abbrev cX2_workOut : ByteArray := prog_4_method_20_code
def yX2_workOut : MethodName := ⟨RX2, "workOut", "(LDustCart$Plain;LDustCart$Cart;I)I"⟩
abbrev cX2_step : ByteArray := prog_4_method_21_code
def yX2_step : MethodName := ⟨RX2, "step", "(ILDustCart$Plain;LDustCart$Cart;I)V"⟩
abbrev cX2_named : ByteArray := prog_4_method_22_code
def yX2_named : MethodName := ⟨RX2, "named", "(ILDustCart$Plain;LDustCart$Cart;I)I"⟩
abbrev cX2_joined : ByteArray := prog_4_method_23_code
def yX2_joined : MethodName := ⟨RX2, "joined", "(III)I"⟩
abbrev cX2_push : ByteArray := prog_4_method_24_code
def yX2_push : MethodName := ⟨RX2, "push", "(I)V"⟩
abbrev cX2_pop : ByteArray := prog_4_method_25_code
def yX2_pop : MethodName := ⟨RX2, "pop", "()I"⟩
def RX3 : String := "DustCart$Plain"
def TX3 : u_T := fun k => match k with
  | _ => ("DustCart$Plain", "numbers", "[I", true)
def tyX3 : Nat → FieldType := fun k => match k with
  | _ => .array .int
abbrev wsX30 : List Cond := u_ws RX3 TX3 1
theorem nmX3 : ∀ a, a < 1 → ∀ b, b < 1 → a ≠ b → (TX3 a).2.1 ≠ (TX3 b).2.1 := by decide +kernel
theorem tyX3_ok : ∀ k, k < 1 → parseFieldDescriptor (TX3 k).2.2.1 = some (tyX3 k) := by decide +kernel
abbrev cX3_init : ByteArray := prog_5_method_1_code
def yX3_init : MethodName := ⟨RX3, "<init>", "()V"⟩
abbrev cX3_isCell : ByteArray := prog_5_method_2_code
def yX3_isCell : MethodName := ⟨RX3, "isCell", "(I)Z"⟩
abbrev cX3_place : ByteArray := prog_5_method_3_code
def yX3_place : MethodName := ⟨RX3, "place", "(II)I"⟩
abbrev cX3_mayBe : ByteArray := prog_5_method_4_code
def yX3_mayBe : MethodName := ⟨RX3, "mayBe", "(II)Z"⟩
abbrev cX3_neighbour : ByteArray := prog_5_method_5_code
def yX3_neighbour : MethodName := ⟨RX3, "neighbour", "(II)I"⟩
abbrev cX3_told : ByteArray := prog_5_method_6_code
def yX3_told : MethodName := ⟨RX3, "told", "(I)I"⟩
abbrev cX3_tell : ByteArray := prog_5_method_7_code
def yX3_tell : MethodName := ⟨RX3, "tell", "(II)V"⟩
abbrev cX3_high : ByteArray := prog_5_method_8_code
def yX3_high : MethodName := ⟨RX3, "high", "(I)I"⟩
abbrev cX3_isStone : ByteArray := prog_5_method_9_code
def yX3_isStone : MethodName := ⟨RX3, "isStone", "(I)Z"⟩
abbrev cX3_sun : ByteArray := prog_5_method_10_code
def yX3_sun : MethodName := ⟨RX3, "sun", "(I)I"⟩
abbrev cX3_wind : ByteArray := prog_5_method_11_code
def yX3_wind : MethodName := ⟨RX3, "wind", "(I)I"⟩
abbrev cX3_odds : ByteArray := prog_5_method_12_code
def yX3_odds : MethodName := ⟨RX3, "odds", "()I"⟩
abbrev cX3_price : ByteArray := prog_5_method_13_code
def yX3_price : MethodName := ⟨RX3, "price", "(II)I"⟩
abbrev cX3_isHollow : ByteArray := prog_5_method_14_code
def yX3_isHollow : MethodName := ⟨RX3, "isHollow", "(I)Z"⟩
abbrev cX3_stones : ByteArray := prog_5_method_15_code
def yX3_stones : MethodName := ⟨RX3, "stones", "()I"⟩
abbrev cX3_hollows : ByteArray := prog_5_method_16_code
def yX3_hollows : MethodName := ⟨RX3, "hollows", "()I"⟩
def RX4 : String := "DustCart$Reach"
def TX4 : u_T := fun k => match k with
  | 0 => ("DustCart$Reach", "now", "[I", true)
  | 1 => ("DustCart$Reach", "next", "[I", true)
  | 2 => ("DustCart$Reach", "trial", "LDustCart$Cart;", true)
  | 3 => ("DustCart$Reach", "taken", "I", false)
  | _ => ("DustCart$Reach", "most", "I", false)
def tyX4 : Nat → FieldType := fun k => match k with
  | 0 => .array .int
  | 1 => .array .int
  | 2 => .object "DustCart$Cart"
  | 3 => .int
  | _ => .int
abbrev wsX40 : List Cond := u_ws RX4 TX4 5
theorem nmX4 : ∀ a, a < 5 → ∀ b, b < 5 → a ≠ b → (TX4 a).2.1 ≠ (TX4 b).2.1 := by decide +kernel
theorem tyX4_ok : ∀ k, k < 5 → parseFieldDescriptor (TX4 k).2.2.1 = some (tyX4 k) := by decide +kernel
abbrev cX4_init : ByteArray := prog_6_method_1_code
def yX4_init : MethodName := ⟨RX4, "<init>", "()V"⟩
abbrev cX4_find : ByteArray := prog_6_method_2_code
def yX4_find : MethodName := ⟨RX4, "find", "(LDustCart$Plain;LDustCart$Cart;II)Z"⟩
abbrev cX4_arrive : ByteArray := prog_6_method_3_code
def yX4_arrive : MethodName := ⟨RX4, "arrive", "([ILDustCart$Cart;)V"⟩
abbrev cX4_mostIn : ByteArray := prog_6_method_4_code
def yX4_mostIn : MethodName := ⟨RX4, "mostIn", "(I)I"⟩
abbrev cX4_goOn : ByteArray := prog_6_method_5_code
def yX4_goOn : MethodName := ⟨RX4, "goOn", "(LDustCart$Plain;I)V"⟩
def RX5 : String := "DustCart$Shelf"
def TX5 : u_T := fun k => match k with
  | 0 => ("DustCart$Shelf", "elements", "[J", true)
  | 1 => ("DustCart$Shelf", "holds", "I", false)
  | 2 => ("DustCart$Shelf", "body", "I", false)
  | 3 => ("DustCart$Shelf", "sort", "I", false)
  | _ => ("DustCart$Shelf", "length", "I", false)
def tyX5 : Nat → FieldType := fun k => match k with
  | 0 => .array .long
  | 1 => .int
  | 2 => .int
  | 3 => .int
  | _ => .int
abbrev wsX50 : List Cond := u_ws RX5 TX5 5
theorem nmX5 : ∀ a, a < 5 → ∀ b, b < 5 → a ≠ b → (TX5 a).2.1 ≠ (TX5 b).2.1 := by decide +kernel
theorem tyX5_ok : ∀ k, k < 5 → parseFieldDescriptor (TX5 k).2.2.1 = some (tyX5 k) := by decide +kernel
abbrev cX5_init : ByteArray := prog_7_method_1_code
def yX5_init : MethodName := ⟨RX5, "<init>", "()V"⟩
abbrev cX5_isEmpty : ByteArray := prog_7_method_2_code
def yX5_isEmpty : MethodName := ⟨RX5, "isEmpty", "()Z"⟩
abbrev cX5_isRow : ByteArray := prog_7_method_3_code
def yX5_isRow : MethodName := ⟨RX5, "isRow", "()Z"⟩
abbrev cX5_isBytes : ByteArray := prog_7_method_4_code
def yX5_isBytes : MethodName := ⟨RX5, "isBytes", "()Z"⟩
abbrev cX5_holdNothing : ByteArray := prog_7_method_5_code
def yX5_holdNothing : MethodName := ⟨RX5, "holdNothing", "()V"⟩
abbrev cX5_holdBody : ByteArray := prog_7_method_6_code
def yX5_holdBody : MethodName := ⟨RX5, "holdBody", "(I)V"⟩
abbrev cX5_holdRow : ByteArray := prog_7_method_7_code
def yX5_holdRow : MethodName := ⟨RX5, "holdRow", "(II)V"⟩
abbrev cX5_hasPlaces : ByteArray := prog_7_method_8_code
def yX5_hasPlaces : MethodName := ⟨RX5, "hasPlaces", "(II)Z"⟩
abbrev cX5_at : ByteArray := prog_7_method_9_code
def yX5_at : MethodName := ⟨RX5, "at", "(I)J"⟩
abbrev cX5_set : ByteArray := prog_7_method_10_code
def yX5_set : MethodName := ⟨RX5, "set", "(IJ)V"⟩
abbrev cX5_narrowed : ByteArray := prog_7_method_11_code
def yX5_narrowed : MethodName := ⟨RX5, "narrowed", "(J)J"⟩
def RX6 : String := "DustCart$Ways"
def TX6 : u_T := fun k => match k with
  | 0 => ("DustCart$Ways", "left", "[I", true)
  | 1 => ("DustCart$Ways", "stones", "[I", true)
  | 2 => ("DustCart$Ways", "toStone", "[I", true)
  | 3 => ("DustCart$Ways", "between", "[I", true)
  | 4 => ("DustCart$Ways", "rest", "[I", true)
  | 5 => ("DustCart$Ways", "many", "I", false)
  | 6 => ("DustCart$Ways", "roundCost", "I", false)
  | _ => ("DustCart$Ways", "roundFirst", "I", false)
def tyX6 : Nat → FieldType := fun k => match k with
  | 0 => .array .int
  | 1 => .array .int
  | 2 => .array .int
  | 3 => .array .int
  | 4 => .array .int
  | 5 => .int
  | 6 => .int
  | _ => .int
abbrev wsX60 : List Cond := u_ws RX6 TX6 8
theorem nmX6 : ∀ a, a < 8 → ∀ b, b < 8 → a ≠ b → (TX6 a).2.1 ≠ (TX6 b).2.1 := by decide +kernel
theorem tyX6_ok : ∀ k, k < 8 → parseFieldDescriptor (TX6 k).2.2.1 = some (tyX6 k) := by decide +kernel
abbrev cX6_init : ByteArray := prog_8_method_1_code
def yX6_init : MethodName := ⟨RX6, "<init>", "()V"⟩
abbrev cX6_spreadTo : ByteArray := prog_8_method_2_code
def yX6_spreadTo : MethodName := ⟨RX6, "spreadTo", "(LDustCart$Plain;I)V"⟩
abbrev cX6_nearest : ByteArray := prog_8_method_3_code
def yX6_nearest : MethodName := ⟨RX6, "nearest", "(J)I"⟩
abbrev cX6_spreadFrom : ByteArray := prog_8_method_4_code
def yX6_spreadFrom : MethodName := ⟨RX6, "spreadFrom", "(LDustCart$Plain;I)V"⟩
abbrev cX6_costFrom : ByteArray := prog_8_method_5_code
def yX6_costFrom : MethodName := ⟨RX6, "costFrom", "(I)I"⟩
abbrev cX6_firstFrom : ByteArray := prog_8_method_6_code
def yX6_firstFrom : MethodName := ⟨RX6, "firstFrom", "(LDustCart$Plain;I)I"⟩
abbrev cX6_planRound : ByteArray := prog_8_method_7_code
def yX6_planRound : MethodName := ⟨RX6, "planRound", "(LDustCart$Plain;LDustCart$Cart;)Z"⟩
abbrev cX6_listStones : ByteArray := prog_8_method_8_code
def yX6_listStones : MethodName := ⟨RX6, "listStones", "(LDustCart$Plain;LDustCart$Cart;)Z"⟩
abbrev cX6_leastRest : ByteArray := prog_8_method_9_code
def yX6_leastRest : MethodName := ⟨RX6, "leastRest", "(II)I"⟩
abbrev cX6_chooseFirst : ByteArray := prog_8_method_10_code
def yX6_chooseFirst : MethodName := ⟨RX6, "chooseFirst", "(I)V"⟩
def RX7 : String := "DustCart$Wheels"
def TX7 : u_T := fun k => match k with
  | 0 => ("DustCart$Wheels", "kinds", "[I", true)
  | 1 => ("DustCart$Wheels", "ran", "[I", true)
  | 2 => ("DustCart$Wheels", "number", "I", false)
  | 3 => ("DustCart$Wheels", "kept", "I", false)
  | _ => ("DustCart$Wheels", "begun", "I", false)
def tyX7 : Nat → FieldType := fun k => match k with
  | 0 => .array .int
  | 1 => .array .int
  | 2 => .int
  | 3 => .int
  | _ => .int
abbrev wsX70 : List Cond := u_ws RX7 TX7 5
theorem nmX7 : ∀ a, a < 5 → ∀ b, b < 5 → a ≠ b → (TX7 a).2.1 ≠ (TX7 b).2.1 := by decide +kernel
theorem tyX7_ok : ∀ k, k < 5 → parseFieldDescriptor (TX7 k).2.2.1 = some (tyX7 k) := by decide +kernel
abbrev cX7_init : ByteArray := prog_9_method_1_code
def yX7_init : MethodName := ⟨RX7, "<init>", "()V"⟩
abbrev cX7_isKind : ByteArray := prog_9_method_2_code
def yX7_isKind : MethodName := ⟨RX7, "isKind", "(I)Z"⟩
abbrev cX7_isUnder : ByteArray := prog_9_method_3_code
def yX7_isUnder : MethodName := ⟨RX7, "isUnder", "(II)Z"⟩
abbrev cX7_has : ByteArray := prog_9_method_4_code
def yX7_has : MethodName := ⟨RX7, "has", "(I)Z"⟩
abbrev cX7_kindOf : ByteArray := prog_9_method_5_code
def yX7_kindOf : MethodName := ⟨RX7, "kindOf", "(I)I"⟩
abbrev cX7_add : ByteArray := prog_9_method_6_code
def yX7_add : MethodName := ⟨RX7, "add", "(I)I"⟩
abbrev cX7_ranAt : ByteArray := prog_9_method_7_code
def yX7_ranAt : MethodName := ⟨RX7, "ranAt", "(I)I"⟩
abbrev cX7_perform : ByteArray := prog_9_method_8_code
def yX7_perform : MethodName := ⟨RX7, "perform", "(III)I"⟩
abbrev cX7_begin : ByteArray := prog_9_method_9_code
def yX7_begin : MethodName := ⟨RX7, "begin", "(IIII)I"⟩
abbrev cX7_own : ByteArray := prog_9_method_10_code
def yX7_own : MethodName := ⟨RX7, "own", "(III)I"⟩
abbrev cX7_answerOfWheel : ByteArray := prog_9_method_11_code
def yX7_answerOfWheel : MethodName := ⟨RX7, "answerOfWheel", "(III)I"⟩
abbrev cX7_answerUnder : ByteArray := prog_9_method_12_code
def yX7_answerUnder : MethodName := ⟨RX7, "answerUnder", "(IIIII)I"⟩
def RX8 : String := "DustCart"
def TX8 : u_T := fun k => match k with
  | 0 => ("DustCart", "plain", "LDustCart$Plain;", true)
  | 1 => ("DustCart", "cart", "LDustCart$Cart;", true)
  | 2 => ("DustCart", "thought", "LDustCart$Cart;", true)
  | 3 => ("DustCart", "kept", "LDustCart$Cart;", true)
  | 4 => ("DustCart", "orders", "[I", true)
  | 5 => ("DustCart", "could", "[Z", true)
  | 6 => ("DustCart", "rule", "LDustCart$Law;", true)
  | 7 => ("DustCart", "ways", "LDustCart$Ways;", true)
  | 8 => ("DustCart", "reach", "LDustCart$Reach;", true)
  | 9 => ("DustCart", "changes", "LDustCart$Changes;", true)
  | 10 => ("DustCart", "shelves", "[LDustCart$Shelf;", true)
  | 11 => ("DustCart", "wheels", "LDustCart$Wheels;", true)
  | 12 => ("DustCart", "today", "I", false)
  | _ => ("DustCart", "keptDay", "I", false)
def tyX8 : Nat → FieldType := fun k => match k with
  | 0 => .object "DustCart$Plain"
  | 1 => .object "DustCart$Cart"
  | 2 => .object "DustCart$Cart"
  | 3 => .object "DustCart$Cart"
  | 4 => .array .int
  | 5 => .array .boolean
  | 6 => .object "DustCart$Law"
  | 7 => .object "DustCart$Ways"
  | 8 => .object "DustCart$Reach"
  | 9 => .object "DustCart$Changes"
  | 10 => .array (.object "DustCart$Shelf")
  | 11 => .object "DustCart$Wheels"
  | 12 => .int
  | _ => .int
abbrev wsX80 : List Cond := u_ws RX8 TX8 14
theorem nmX8 : ∀ a, a < 14 → ∀ b, b < 14 → a ≠ b → (TX8 a).2.1 ≠ (TX8 b).2.1 := by decide +kernel
theorem tyX8_ok : ∀ k, k < 14 → parseFieldDescriptor (TX8 k).2.2.1 = some (tyX8 k) := by decide +kernel
abbrev cX8_init : ByteArray := prog_1_method_1_code
def yX8_init : MethodName := ⟨RX8, "<init>", "()V"⟩
abbrev cX8_mend : ByteArray := prog_1_method_2_code
def yX8_mend : MethodName := ⟨RX8, "mend", "(III)I"⟩
abbrev cX8_of : ByteArray := prog_1_method_3_code
def yX8_of : MethodName := ⟨RX8, "of", "(II)I"⟩
abbrev cX8_ofCell : ByteArray := prog_1_method_4_code
def yX8_ofCell : MethodName := ⟨RX8, "ofCell", "(II)I"⟩
abbrev cX8_ofCart : ByteArray := prog_1_method_5_code
def yX8_ofCart : MethodName := ⟨RX8, "ofCart", "(I)I"⟩
abbrev cX8_heights : ByteArray := prog_1_method_6_code
def yX8_heights : MethodName := ⟨RX8, "heights", "(III)I"⟩
abbrev cX8_heightsFrom : ByteArray := prog_1_method_7_code
def yX8_heightsFrom : MethodName := ⟨RX8, "heightsFrom", "(LDustCart$Shelf;III)I"⟩
abbrev cX8_feed : ByteArray := prog_1_method_8_code
def yX8_feed : MethodName := ⟨RX8, "feed", "(I)I"⟩
abbrev cX8_law : ByteArray := prog_1_method_9_code
def yX8_law : MethodName := ⟨RX8, "law", "()I"⟩
abbrev cX8_cost : ByteArray := prog_1_method_10_code
def yX8_cost : MethodName := ⟨RX8, "cost", "(II)I"⟩
abbrev cX8_order : ByteArray := prog_1_method_11_code
def yX8_order : MethodName := ⟨RX8, "order", "()I"⟩
abbrev cX8_day : ByteArray := prog_1_method_12_code
def yX8_day : MethodName := ⟨RX8, "day", "(I)I"⟩
abbrev cX8_days : ByteArray := prog_1_method_13_code
def yX8_days : MethodName := ⟨RX8, "days", "(I)I"⟩
abbrev cX8_live : ByteArray := prog_1_method_14_code
def yX8_live : MethodName := ⟨RX8, "live", "(I)Z"⟩
abbrev cX8_led : ByteArray := prog_1_method_15_code
def yX8_led : MethodName := ⟨RX8, "led", "(II)I"⟩
abbrev cX8_run : ByteArray := prog_1_method_16_code
def yX8_run : MethodName := ⟨RX8, "run", "(III)I"⟩
abbrev cX8_first : ByteArray := prog_1_method_17_code
def yX8_first : MethodName := ⟨RX8, "first", "(I)I"⟩
abbrev cX8_orderOn : ByteArray := prog_1_method_18_code
def yX8_orderOn : MethodName := ⟨RX8, "orderOn", "(LDustCart$Shelf;I)I"⟩
abbrev cX8_thoughtOf : ByteArray := prog_1_method_19_code
def yX8_thoughtOf : MethodName := ⟨RX8, "thoughtOf", "(I)I"⟩
abbrev cX8_lawful : ByteArray := prog_1_method_20_code
def yX8_lawful : MethodName := ⟨RX8, "lawful", "(II)I"⟩
abbrev cX8_cheapest : ByteArray := prog_1_method_21_code
def yX8_cheapest : MethodName := ⟨RX8, "cheapest", "(II)I"⟩
abbrev cX8_soonest : ByteArray := prog_1_method_22_code
def yX8_soonest : MethodName := ⟨RX8, "soonest", "(II)I"⟩
abbrev cX8_round : ByteArray := prog_1_method_23_code
def yX8_round : MethodName := ⟨RX8, "round", "(I)I"⟩
abbrev cX8_lasts : ByteArray := prog_1_method_24_code
def yX8_lasts : MethodName := ⟨RX8, "lasts", "(I)I"⟩
abbrev cX8_clean : ByteArray := prog_1_method_25_code
def yX8_clean : MethodName := ⟨RX8, "clean", "(III)J"⟩
abbrev cX8_power : ByteArray := prog_1_method_26_code
def yX8_power : MethodName := ⟨RX8, "power", "(JI)J"⟩
abbrev cX8_greatestCommon : ByteArray := prog_1_method_27_code
def yX8_greatestCommon : MethodName := ⟨RX8, "greatestCommon", "(JJ)J"⟩
abbrev cX8_line : ByteArray := prog_1_method_28_code
def yX8_line : MethodName := ⟨RX8, "line", "(II)J"⟩
abbrev cX8_endOfLine : ByteArray := prog_1_method_29_code
def yX8_endOfLine : MethodName := ⟨RX8, "endOfLine", "(LDustCart$Shelf;I)I"⟩
abbrev cX8_drawn : ByteArray := prog_1_method_30_code
def yX8_drawn : MethodName := ⟨RX8, "drawn", "(III)I"⟩
abbrev cX8_judge : ByteArray := prog_1_method_31_code
def yX8_judge : MethodName := ⟨RX8, "judge", "(I)I"⟩
abbrev cX8_image : ByteArray := prog_1_method_32_code
def yX8_image : MethodName := ⟨RX8, "image", "()I"⟩
abbrev cX8_back : ByteArray := prog_1_method_33_code
def yX8_back : MethodName := ⟨RX8, "back", "()I"⟩
abbrev cX8_undo : ByteArray := prog_1_method_34_code
def yX8_undo : MethodName := ⟨RX8, "undo", "()I"⟩
abbrev cX8_redo : ByteArray := prog_1_method_35_code
def yX8_redo : MethodName := ⟨RX8, "redo", "()I"⟩
abbrev cX8_body : ByteArray := prog_1_method_36_code
def yX8_body : MethodName := ⟨RX8, "body", "(I)I"⟩
abbrev cX8_act : ByteArray := prog_1_method_37_code
def yX8_act : MethodName := ⟨RX8, "act", "(III)I"⟩
abbrev cX8_trace : ByteArray := prog_1_method_38_code
def yX8_trace : MethodName := ⟨RX8, "trace", "(I)I"⟩
abbrev cX8_keep : ByteArray := prog_1_method_39_code
def yX8_keep : MethodName := ⟨RX8, "keep", "(II)I"⟩
abbrev cX8_row : ByteArray := prog_1_method_40_code
def yX8_row : MethodName := ⟨RX8, "row", "(III)I"⟩
abbrev cX8_put : ByteArray := prog_1_method_41_code
def yX8_put : MethodName := ⟨RX8, "put", "(IIJ)I"⟩
abbrev cX8_element : ByteArray := prog_1_method_42_code
def yX8_element : MethodName := ⟨RX8, "element", "(II)J"⟩
abbrev cX8_refusedPlace : ByteArray := prog_1_method_43_code
def yX8_refusedPlace : MethodName := ⟨RX8, "refusedPlace", "(LDustCart$Shelf;I)I"⟩
abbrev cX8_shift : ByteArray := prog_1_method_44_code
def yX8_shift : MethodName := ⟨RX8, "shift", "(IIIII)I"⟩
abbrev cX8_taken : ByteArray := prog_1_method_45_code
def yX8_taken : MethodName := ⟨RX8, "taken", "(II)I"⟩
abbrev cX8_count : ByteArray := prog_1_method_46_code
def yX8_count : MethodName := ⟨RX8, "count", "(I)I"⟩
abbrev cX8_isShelf : ByteArray := prog_1_method_47_code
def yX8_isShelf : MethodName := ⟨RX8, "isShelf", "(I)Z"⟩
abbrev cX8_isOneOf : ByteArray := prog_1_method_48_code
def yX8_isOneOf : MethodName := ⟨RX8, "isOneOf", "(II)Z"⟩
abbrev cX8_refusedBytes : ByteArray := prog_1_method_49_code
def yX8_refusedBytes : MethodName := ⟨RX8, "refusedBytes", "(I)I"⟩
def RX9 : String := "DustCartModel"
def TX9 : u_T := fun k => match k with
  | 0 => ("DustCartModel", "code", "I", false)
  | 1 => ("DustCartModel", "high", "[I", true)
  | 2 => ("DustCartModel", "stone", "[I", true)
  | 3 => ("DustCartModel", "sun", "[I", true)
  | 4 => ("DustCartModel", "wind", "[I", true)
  | 5 => ("DustCartModel", "wheels", "I", false)
  | 6 => ("DustCartModel", "odds", "I", false)
  | 7 => ("DustCartModel", "today", "I", false)
  | 8 => ("DustCartModel", "cell", "I", false)
  | 9 => ("DustCartModel", "store", "I", false)
  | 10 => ("DustCartModel", "dust", "I", false)
  | 11 => ("DustCartModel", "looked", "J", false)
  | 12 => ("DustCartModel", "ledOrder", "[I", true)
  | 13 => ("DustCartModel", "ledCould", "[I", true)
  | 14 => ("DustCartModel", "doneMany", "I", false)
  | 15 => ("DustCartModel", "undoneMany", "I", false)
  | 16 => ("DustCartModel", "changeOf", "[I", true)
  | 17 => ("DustCartModel", "changeAt", "[I", true)
  | 18 => ("DustCartModel", "before", "[I", true)
  | 19 => ("DustCartModel", "behind", "[I", true)
  | 20 => ("DustCartModel", "tape", "[B", true)
  | 21 => ("DustCartModel", "taped", "I", false)
  | 22 => ("DustCartModel", "here", "I", false)
  | 23 => ("DustCartModel", "fault", "I", false)
  | 24 => ("DustCartModel", "open", "I", false)
  | 25 => ("DustCartModel", "laid", "I", false)
  | 26 => ("DustCartModel", "act", "[B", true)
  | 27 => ("DustCartModel", "with", "[I", true)
  | 28 => ("DustCartModel", "lineMany", "[I", true)
  | 29 => ("DustCartModel", "testEnd", "[S", true)
  | 30 => ("DustCartModel", "lineEnd", "[S", true)
  | 31 => ("DustCartModel", "facts", "[I", true)
  | 32 => ("DustCartModel", "pile", "[I", true)
  | 33 => ("DustCartModel", "hasLaw", "Z", false)
  | 34 => ("DustCartModel", "keptCell", "I", false)
  | 35 => ("DustCartModel", "keptStore", "I", false)
  | 36 => ("DustCartModel", "keptDust", "I", false)
  | 37 => ("DustCartModel", "keptLooked", "J", false)
  | 38 => ("DustCartModel", "far", "[I", true)
  | 39 => ("DustCartModel", "now", "[I", true)
  | 40 => ("DustCartModel", "later", "[I", true)
  | 41 => ("DustCartModel", "left", "[I", true)
  | 42 => ("DustCartModel", "between", "[I", true)
  | 43 => ("DustCartModel", "north", "[I", true)
  | 44 => ("DustCartModel", "leastRound", "I", false)
  | 45 => ("DustCartModel", "firstStone", "I", false)
  | 46 => ("DustCartModel", "hasImage", "Z", false)
  | 47 => ("DustCartModel", "imageToday", "I", false)
  | 48 => ("DustCartModel", "imageCell", "I", false)
  | 49 => ("DustCartModel", "imageStore", "I", false)
  | 50 => ("DustCartModel", "imageDust", "I", false)
  | 51 => ("DustCartModel", "imageLooked", "J", false)
  | 52 => ("DustCartModel", "bodies", "I", false)
  | 53 => ("DustCartModel", "kind", "[I", true)
  | 54 => ("DustCartModel", "traces", "I", false)
  | 55 => ("DustCartModel", "traced", "[I", true)
  | 56 => ("DustCartModel", "holds", "[I", true)
  | 57 => ("DustCartModel", "size", "[I", true)
  | 58 => ("DustCartModel", "elements", "[J", true)
  | _ => ("DustCartModel", "shifted", "[J", true)
def tyX9 : Nat → FieldType := fun k => match k with
  | 0 => .int
  | 1 => .array .int
  | 2 => .array .int
  | 3 => .array .int
  | 4 => .array .int
  | 5 => .int
  | 6 => .int
  | 7 => .int
  | 8 => .int
  | 9 => .int
  | 10 => .int
  | 11 => .long
  | 12 => .array .int
  | 13 => .array .int
  | 14 => .int
  | 15 => .int
  | 16 => .array .int
  | 17 => .array .int
  | 18 => .array .int
  | 19 => .array .int
  | 20 => .array .byte
  | 21 => .int
  | 22 => .int
  | 23 => .int
  | 24 => .int
  | 25 => .int
  | 26 => .array .byte
  | 27 => .array .int
  | 28 => .array .int
  | 29 => .array .short
  | 30 => .array .short
  | 31 => .array .int
  | 32 => .array .int
  | 33 => .boolean
  | 34 => .int
  | 35 => .int
  | 36 => .int
  | 37 => .long
  | 38 => .array .int
  | 39 => .array .int
  | 40 => .array .int
  | 41 => .array .int
  | 42 => .array .int
  | 43 => .array .int
  | 44 => .int
  | 45 => .int
  | 46 => .boolean
  | 47 => .int
  | 48 => .int
  | 49 => .int
  | 50 => .int
  | 51 => .long
  | 52 => .int
  | 53 => .array .int
  | 54 => .int
  | 55 => .array .int
  | 56 => .array .int
  | 57 => .array .int
  | 58 => .array .long
  | _ => .array .long
abbrev wsX90 : List Cond := u_ws RX9 TX9 60
theorem nmX9 : ∀ a, a < 60 → ∀ b, b < 60 → a ≠ b → (TX9 a).2.1 ≠ (TX9 b).2.1 := by decide +kernel
theorem tyX9_ok : ∀ k, k < 60 → parseFieldDescriptor (TX9 k).2.2.1 = some (tyX9 k) := by decide +kernel
abbrev cX9_init : ByteArray := prog_11_method_1_code
def yX9_init : MethodName := ⟨RX9, "<init>", "()V"⟩
abbrev cX9_in : ByteArray := prog_11_method_3_code
def yX9_in : MethodName := ⟨RX9, "in", "(III)Z"⟩
abbrev cX9_isCell : ByteArray := prog_11_method_4_code
def yX9_isCell : MethodName := ⟨RX9, "isCell", "(I)Z"⟩
abbrev cX9_isDay : ByteArray := prog_11_method_5_code
def yX9_isDay : MethodName := ⟨RX9, "isDay", "(I)Z"⟩
abbrev cX9_beside : ByteArray := prog_11_method_6_code
def yX9_beside : MethodName := ⟨RX9, "beside", "(II)I"⟩
abbrev cX9_isHollow : ByteArray := prog_11_method_7_code
def yX9_isHollow : MethodName := ⟨RX9, "isHollow", "(I)Z"⟩
abbrev cX9_costOf : ByteArray := prog_11_method_8_code
def yX9_costOf : MethodName := ⟨RX9, "costOf", "(II)I"⟩
abbrev cX9_isLooked : ByteArray := prog_11_method_9_code
def yX9_isLooked : MethodName := ⟨RX9, "isLooked", "(I)Z"⟩
abbrev cX9_bitsIn : ByteArray := prog_11_method_10_code
def yX9_bitsIn : MethodName := ⟨RX9, "bitsIn", "(J)I"⟩
abbrev cX9_valueAt : ByteArray := prog_11_method_11_code
def yX9_valueAt : MethodName := ⟨RX9, "valueAt", "(II)I"⟩
abbrev cX9_lays : ByteArray := prog_11_method_12_code
def yX9_lays : MethodName := ⟨RX9, "lays", "(III)V"⟩
abbrev cX9_changes : ByteArray := prog_11_method_13_code
def yX9_changes : MethodName := ⟨RX9, "changes", "(III)I"⟩
abbrev cX9_undo : ByteArray := prog_11_method_14_code
def yX9_undo : MethodName := ⟨RX9, "undo", "()I"⟩
abbrev cX9_redo : ByteArray := prog_11_method_15_code
def yX9_redo : MethodName := ⟨RX9, "redo", "()I"⟩
abbrev cX9_isThing : ByteArray := prog_11_method_16_code
def yX9_isThing : MethodName := ⟨RX9, "isThing", "(II)Z"⟩
abbrev cX9_mostOf : ByteArray := prog_11_method_17_code
def yX9_mostOf : MethodName := ⟨RX9, "mostOf", "(I)I"⟩
abbrev cX9_mend : ByteArray := prog_11_method_18_code
def yX9_mend : MethodName := ⟨RX9, "mend", "(III)I"⟩
abbrev cX9_of : ByteArray := prog_11_method_19_code
def yX9_of : MethodName := ⟨RX9, "of", "(II)I"⟩
abbrev cX9_heights : ByteArray := prog_11_method_20_code
def yX9_heights : MethodName := ⟨RX9, "heights", "(III)I"⟩
abbrev cX9_feed : ByteArray := prog_11_method_21_code
def yX9_feed : MethodName := ⟨RX9, "feed", "(I)I"⟩
abbrev cX9_look : ByteArray := prog_11_method_22_code
def yX9_look : MethodName := ⟨RX9, "look", "()I"⟩
abbrev cX9_faulty : ByteArray := prog_11_method_23_code
def yX9_faulty : MethodName := ⟨RX9, "faulty", "()V"⟩
abbrev cX9_addStep : ByteArray := prog_11_method_24_code
def yX9_addStep : MethodName := ⟨RX9, "addStep", "(II)V"⟩
abbrev cX9_nameOf : ByteArray := prog_11_method_25_code
def yX9_nameOf : MethodName := ⟨RX9, "nameOf", "(I)I"⟩
abbrev cX9_opens : ByteArray := prog_11_method_26_code
def yX9_opens : MethodName := ⟨RX9, "opens", "()Z"⟩
abbrev cX9_figure : ByteArray := prog_11_method_27_code
def yX9_figure : MethodName := ⟨RX9, "figure", "()V"⟩
abbrev cX9_operand : ByteArray := prog_11_method_28_code
def yX9_operand : MethodName := ⟨RX9, "operand", "()V"⟩
abbrev cX9_product : ByteArray := prog_11_method_29_code
def yX9_product : MethodName := ⟨RX9, "product", "()V"⟩
abbrev cX9_sum : ByteArray := prog_11_method_30_code
def yX9_sum : MethodName := ⟨RX9, "sum", "()V"⟩
abbrev cX9_compared : ByteArray := prog_11_method_31_code
def yX9_compared : MethodName := ⟨RX9, "compared", "()V"⟩
abbrev cX9_both : ByteArray := prog_11_method_32_code
def yX9_both : MethodName := ⟨RX9, "both", "()V"⟩
abbrev cX9_either : ByteArray := prog_11_method_33_code
def yX9_either : MethodName := ⟨RX9, "either", "()V"⟩
abbrev cX9_oneLine : ByteArray := prog_11_method_34_code
def yX9_oneLine : MethodName := ⟨RX9, "oneLine", "()V"⟩
abbrev cX9_readText : ByteArray := prog_11_method_35_code
def yX9_readText : MethodName := ⟨RX9, "readText", "(I)I"⟩
abbrev cX9_twoOf : ByteArray := prog_11_method_36_code
def yX9_twoOf : MethodName := ⟨RX9, "twoOf", "(III)I"⟩
abbrev cX9_worked : ByteArray := prog_11_method_37_code
def yX9_worked : MethodName := ⟨RX9, "worked", "(III)I"⟩
abbrev cX9_gives : ByteArray := prog_11_method_38_code
def yX9_gives : MethodName := ⟨RX9, "gives", "(I)I"⟩
abbrev cX9_law : ByteArray := prog_11_method_39_code
def yX9_law : MethodName := ⟨RX9, "law", "()I"⟩
abbrev cX9_orderOf : ByteArray := prog_11_method_40_code
def yX9_orderOf : MethodName := ⟨RX9, "orderOf", "(I)I"⟩
abbrev cX9_cost : ByteArray := prog_11_method_41_code
def yX9_cost : MethodName := ⟨RX9, "cost", "(II)I"⟩
abbrev cX9_order : ByteArray := prog_11_method_42_code
def yX9_order : MethodName := ⟨RX9, "order", "()I"⟩
abbrev cX9_think : ByteArray := prog_11_method_43_code
def yX9_think : MethodName := ⟨RX9, "think", "()V"⟩
abbrev cX9_unthink : ByteArray := prog_11_method_44_code
def yX9_unthink : MethodName := ⟨RX9, "unthink", "()V"⟩
abbrev cX9_obeys : ByteArray := prog_11_method_45_code
def yX9_obeys : MethodName := ⟨RX9, "obeys", "(I)Z"⟩
abbrev cX9_storeThen : ByteArray := prog_11_method_46_code
def yX9_storeThen : MethodName := ⟨RX9, "storeThen", "(IIIZ)I"⟩
abbrev cX9_dustThen : ByteArray := prog_11_method_47_code
def yX9_dustThen : MethodName := ⟨RX9, "dustThen", "(IIIZ)I"⟩
abbrev cX9_goDay : ByteArray := prog_11_method_48_code
def yX9_goDay : MethodName := ⟨RX9, "goDay", "(IIII)Z"⟩
abbrev cX9_goOwn : ByteArray := prog_11_method_49_code
def yX9_goOwn : MethodName := ⟨RX9, "goOwn", "(II)Z"⟩
abbrev cX9_lead : ByteArray := prog_11_method_50_code
def yX9_lead : MethodName := ⟨RX9, "lead", "(I)I"⟩
abbrev cX9_day : ByteArray := prog_11_method_51_code
def yX9_day : MethodName := ⟨RX9, "day", "(I)I"⟩
abbrev cX9_days : ByteArray := prog_11_method_52_code
def yX9_days : MethodName := ⟨RX9, "days", "(I)I"⟩
abbrev cX9_led : ByteArray := prog_11_method_53_code
def yX9_led : MethodName := ⟨RX9, "led", "(II)I"⟩
abbrev cX9_rowFault : ByteArray := prog_11_method_54_code
def yX9_rowFault : MethodName := ⟨RX9, "rowFault", "(I)I"⟩
abbrev cX9_byteAt : ByteArray := prog_11_method_55_code
def yX9_byteAt : MethodName := ⟨RX9, "byteAt", "(II)I"⟩
abbrev cX9_orderAt : ByteArray := prog_11_method_56_code
def yX9_orderAt : MethodName := ⟨RX9, "orderAt", "(II)I"⟩
abbrev cX9_tellThought : ByteArray := prog_11_method_57_code
def yX9_tellThought : MethodName := ⟨RX9, "tellThought", "(I)I"⟩
abbrev cX9_run : ByteArray := prog_11_method_58_code
def yX9_run : MethodName := ⟨RX9, "run", "(III)I"⟩
abbrev cX9_first : ByteArray := prog_11_method_59_code
def yX9_first : MethodName := ⟨RX9, "first", "(I)I"⟩
abbrev cX9_lawful : ByteArray := prog_11_method_60_code
def yX9_lawful : MethodName := ⟨RX9, "lawful", "(II)I"⟩
abbrev cX9_findFar : ByteArray := prog_11_method_61_code
def yX9_findFar : MethodName := ⟨RX9, "findFar", "(I)V"⟩
abbrev cX9_cheapest : ByteArray := prog_11_method_62_code
def yX9_cheapest : MethodName := ⟨RX9, "cheapest", "(II)I"⟩
abbrev cX9_come : ByteArray := prog_11_method_63_code
def yX9_come : MethodName := ⟨RX9, "come", "(IIII)V"⟩
abbrev cX9_goOn : ByteArray := prog_11_method_64_code
def yX9_goOn : MethodName := ⟨RX9, "goOn", "(I)V"⟩
abbrev cX9_mostIn : ByteArray := prog_11_method_65_code
def yX9_mostIn : MethodName := ⟨RX9, "mostIn", "(I)I"⟩
abbrev cX9_soonest : ByteArray := prog_11_method_66_code
def yX9_soonest : MethodName := ⟨RX9, "soonest", "(II)I"⟩
abbrev cX9_toNorth : ByteArray := prog_11_method_67_code
def yX9_toNorth : MethodName := ⟨RX9, "toNorth", "(I)I"⟩
abbrev cX9_goRound : ByteArray := prog_11_method_68_code
def yX9_goRound : MethodName := ⟨RX9, "goRound", "(IIIII)V"⟩
abbrev cX9_round : ByteArray := prog_11_method_69_code
def yX9_round : MethodName := ⟨RX9, "round", "(I)I"⟩
abbrev cX9_lasts : ByteArray := prog_11_method_70_code
def yX9_lasts : MethodName := ⟨RX9, "lasts", "(I)I"⟩
abbrev cX9_power : ByteArray := prog_11_method_71_code
def yX9_power : MethodName := ⟨RX9, "power", "(II)J"⟩
abbrev cX9_part : ByteArray := prog_11_method_72_code
def yX9_part : MethodName := ⟨RX9, "part", "(JJI)J"⟩
abbrev cX9_clean : ByteArray := prog_11_method_73_code
def yX9_clean : MethodName := ⟨RX9, "clean", "(III)J"⟩
abbrev cX9_endOf : ByteArray := prog_11_method_74_code
def yX9_endOf : MethodName := ⟨RX9, "endOf", "(II)I"⟩
abbrev cX9_line : ByteArray := prog_11_method_75_code
def yX9_line : MethodName := ⟨RX9, "line", "(II)J"⟩
abbrev cX9_drawn : ByteArray := prog_11_method_76_code
def yX9_drawn : MethodName := ⟨RX9, "drawn", "(III)I"⟩
abbrev cX9_judge : ByteArray := prog_11_method_77_code
def yX9_judge : MethodName := ⟨RX9, "judge", "(I)I"⟩
abbrev cX9_image : ByteArray := prog_11_method_78_code
def yX9_image : MethodName := ⟨RX9, "image", "()I"⟩
abbrev cX9_back : ByteArray := prog_11_method_79_code
def yX9_back : MethodName := ⟨RX9, "back", "()I"⟩
abbrev cX9_stones : ByteArray := prog_11_method_80_code
def yX9_stones : MethodName := ⟨RX9, "stones", "()I"⟩
abbrev cX9_hollows : ByteArray := prog_11_method_81_code
def yX9_hollows : MethodName := ⟨RX9, "hollows", "()I"⟩
abbrev cX9_isBody : ByteArray := prog_11_method_82_code
def yX9_isBody : MethodName := ⟨RX9, "isBody", "(I)Z"⟩
abbrev cX9_ran : ByteArray := prog_11_method_83_code
def yX9_ran : MethodName := ⟨RX9, "ran", "(I)V"⟩
abbrev cX9_trace : ByteArray := prog_11_method_84_code
def yX9_trace : MethodName := ⟨RX9, "trace", "(I)I"⟩
abbrev cX9_body : ByteArray := prog_11_method_85_code
def yX9_body : MethodName := ⟨RX9, "body", "(I)I"⟩
abbrev cX9_isUnder : ByteArray := prog_11_method_86_code
def yX9_isUnder : MethodName := ⟨RX9, "isUnder", "(II)Z"⟩
abbrev cX9_plainTurns : ByteArray := prog_11_method_87_code
def yX9_plainTurns : MethodName := ⟨RX9, "plainTurns", "(II)I"⟩
abbrev cX9_northTurns : ByteArray := prog_11_method_88_code
def yX9_northTurns : MethodName := ⟨RX9, "northTurns", "(II)I"⟩
abbrev cX9_turning : ByteArray := prog_11_method_89_code
def yX9_turning : MethodName := ⟨RX9, "turning", "(II)I"⟩
abbrev cX9_plainMoves : ByteArray := prog_11_method_90_code
def yX9_plainMoves : MethodName := ⟨RX9, "plainMoves", "(II)I"⟩
abbrev cX9_dustyMoves : ByteArray := prog_11_method_91_code
def yX9_dustyMoves : MethodName := ⟨RX9, "dustyMoves", "(II)I"⟩
abbrev cX9_moving : ByteArray := prog_11_method_92_code
def yX9_moving : MethodName := ⟨RX9, "moving", "(II)I"⟩
abbrev cX9_plainLooks : ByteArray := prog_11_method_93_code
def yX9_plainLooks : MethodName := ⟨RX9, "plainLooks", "(II)I"⟩
abbrev cX9_cleanLooks : ByteArray := prog_11_method_94_code
def yX9_cleanLooks : MethodName := ⟨RX9, "cleanLooks", "(II)I"⟩
abbrev cX9_looking : ByteArray := prog_11_method_95_code
def yX9_looking : MethodName := ⟨RX9, "looking", "(II)I"⟩
abbrev cX9_plainTells : ByteArray := prog_11_method_96_code
def yX9_plainTells : MethodName := ⟨RX9, "plainTells", "(II)I"⟩
abbrev cX9_telling : ByteArray := prog_11_method_97_code
def yX9_telling : MethodName := ⟨RX9, "telling", "(II)I"⟩
abbrev cX9_act : ByteArray := prog_11_method_98_code
def yX9_act : MethodName := ⟨RX9, "act", "(III)I"⟩
abbrev cX9_count : ByteArray := prog_11_method_99_code
def yX9_count : MethodName := ⟨RX9, "count", "(I)I"⟩
abbrev cX9_isShelf : ByteArray := prog_11_method_100_code
def yX9_isShelf : MethodName := ⟨RX9, "isShelf", "(I)Z"⟩
abbrev cX9_keep : ByteArray := prog_11_method_101_code
def yX9_keep : MethodName := ⟨RX9, "keep", "(II)I"⟩
abbrev cX9_row : ByteArray := prog_11_method_102_code
def yX9_row : MethodName := ⟨RX9, "row", "(III)I"⟩
abbrev cX9_whyNoPlace : ByteArray := prog_11_method_103_code
def yX9_whyNoPlace : MethodName := ⟨RX9, "whyNoPlace", "(II)I"⟩
abbrev cX9_put : ByteArray := prog_11_method_104_code
def yX9_put : MethodName := ⟨RX9, "put", "(IIJ)I"⟩
abbrev cX9_element : ByteArray := prog_11_method_105_code
def yX9_element : MethodName := ⟨RX9, "element", "(II)J"⟩
abbrev cX9_shift : ByteArray := prog_11_method_106_code
def yX9_shift : MethodName := ⟨RX9, "shift", "(IIIII)I"⟩
abbrev cX9_taken : ByteArray := prog_11_method_107_code
def yX9_taken : MethodName := ⟨RX9, "taken", "(II)I"⟩
def RJ13 : String := "java/lang/Long"
def TJ13 : u_T := fun k => match k with
  | _ => ("", "", "", false)
def tyJ13 : Nat → FieldType := fun k => match k with
  | _ => .int
abbrev wsJ130 : List Cond := u_ws RJ13 TJ13 0
theorem nmJ13 : ∀ a, a < 0 → ∀ b, b < 0 → a ≠ b → (TJ13 a).2.1 ≠ (TJ13 b).2.1 := by decide +kernel
theorem tyJ13_ok : ∀ k, k < 0 → parseFieldDescriptor (TJ13 k).2.2.1 = some (tyJ13 k) := by decide +kernel
abbrev cJ13_bitCount_95d88 : ByteArray := prog_12_method_50_code
def yJ13_bitCount_95d88 : MethodName := ⟨RJ13, "bitCount", "(J)I"⟩
def RJ9 : String := "java/lang/Math"
def TJ9 : u_T := fun k => match k with
  | _ => ("", "", "", false)
def tyJ9 : Nat → FieldType := fun k => match k with
  | _ => .int
abbrev wsJ90 : List Cond := u_ws RJ9 TJ9 0
theorem nmJ9 : ∀ a, a < 0 → ∀ b, b < 0 → a ≠ b → (TJ9 a).2.1 ≠ (TJ9 b).2.1 := by decide +kernel
theorem tyJ9_ok : ∀ k, k < 0 → parseFieldDescriptor (TJ9 k).2.2.1 = some (tyJ9 k) := by decide +kernel
abbrev cJ9_max_7cf53 : ByteArray := prog_13_method_65_code
def yJ9_max_7cf53 : MethodName := ⟨RJ9, "max", "(II)I"⟩
abbrev cJ9_min_7cf53 : ByteArray := prog_13_method_69_code
def yJ9_min_7cf53 : MethodName := ⟨RJ9, "min", "(II)I"⟩
def RJ10 : String := "java/lang/System"
def TJ10 : u_T := fun k => match k with
  | _ => ("", "", "", false)
def tyJ10 : Nat → FieldType := fun k => match k with
  | _ => .int
abbrev wsJ100 : List Cond := u_ws RJ10 TJ10 0
theorem nmJ10 : ∀ a, a < 0 → ∀ b, b < 0 → a ≠ b → (TJ10 a).2.1 ≠ (TJ10 b).2.1 := by decide +kernel
theorem tyJ10_ok : ∀ k, k < 0 → parseFieldDescriptor (TJ10 k).2.2.1 = some (tyJ10 k) := by decide +kernel
def RJ7 : String := "java/util/Arrays"
def TJ7 : u_T := fun k => match k with
  | _ => ("", "", "", false)
def tyJ7 : Nat → FieldType := fun k => match k with
  | _ => .int
abbrev wsJ70 : List Cond := u_ws RJ7 TJ7 0
theorem nmJ7 : ∀ a, a < 0 → ∀ b, b < 0 → a ≠ b → (TJ7 a).2.1 ≠ (TJ7 b).2.1 := by decide +kernel
theorem tyJ7_ok : ∀ k, k < 0 → parseFieldDescriptor (TJ7 k).2.2.1 = some (tyJ7 k) := by decide +kernel
abbrev cJ7_fill_d0a16 : ByteArray := prog_15_method_101_code
def yJ7_fill_d0a16 : MethodName := ⟨RJ7, "fill", "([JJ)V"⟩
abbrev cJ7_fill_53178 : ByteArray := prog_15_method_103_code
def yJ7_fill_53178 : MethodName := ⟨RJ7, "fill", "([II)V"⟩
def RL : String := "DustCartLaw"
abbrev cL_law : ByteArray := code
def yL_law : MethodName := ⟨RL, "law", "([I)Z"⟩
def wsL_law_r1 : List Cond := [Cond.classLink RL 7 RX8, Cond.instantiable RX8 14, Cond.initialized RX8, Cond.classLink RL 10 RX9, Cond.instantiable RX9 60, Cond.initialized RX9, Cond.constantLong RL 139 (4294967295), Cond.methodLink RL 9 yX8_init, Cond.instanceMethod yX8_init, Cond.code yX8_init cX8_init 2 none, Cond.methodLink RX8 1 objectInit, Cond.instanceMethod objectInit, Cond.code objectInit ⟨#[0xb1]⟩ 1 none, Cond.classLink RX8 7 RX3, Cond.instantiable RX3 1, Cond.initialized RX3, Cond.fieldLink RX8 10 "DustCart" "plain" "LDustCart$Plain;", Cond.classLink RX8 16 RX0, Cond.instantiable RX0 4, Cond.initialized RX0, Cond.fieldLink RX8 19 "DustCart" "cart" "LDustCart$Cart;", Cond.fieldLink RX8 23 "DustCart" "thought" "LDustCart$Cart;", Cond.fieldLink RX8 26 "DustCart" "kept" "LDustCart$Cart;", Cond.arrayClass .int]
def wsL_law_r2 : List Cond := [Cond.fieldLink RX8 29 "DustCart" "orders" "[I", Cond.arrayClass .boolean, Cond.fieldLink RX8 33 "DustCart" "could" "[Z", Cond.classLink RX8 37 RX2, Cond.instantiable RX2 10, Cond.initialized RX2, Cond.fieldLink RX8 40 "DustCart" "rule" "LDustCart$Law;", Cond.classLink RX8 44 RX6, Cond.instantiable RX6 8, Cond.initialized RX6, Cond.fieldLink RX8 47 "DustCart" "ways" "LDustCart$Ways;", Cond.classLink RX8 51 RX4, Cond.instantiable RX4 5, Cond.initialized RX4, Cond.fieldLink RX8 54 "DustCart" "reach" "LDustCart$Reach;", Cond.classLink RX8 58 RX1, Cond.instantiable RX1 5, Cond.initialized RX1, Cond.fieldLink RX8 61 "DustCart" "changes" "LDustCart$Changes;", Cond.classLink RX8 65 RX5, Cond.fieldLink RX8 67 "DustCart" "shelves" "[LDustCart$Shelf;", Cond.instantiable RX5 5, Cond.initialized RX5, Cond.classLink RX8 72 RX7]
def wsL_law_r3 : List Cond := [Cond.instantiable RX7 5, Cond.initialized RX7, Cond.fieldLink RX8 75 "DustCart" "wheels" "LDustCart$Wheels;", Cond.fieldLink RX8 79 "DustCart" "keptDay" "I", Cond.methodLink RX8 9 yX3_init, Cond.instanceMethod yX3_init, Cond.code yX3_init cX3_init 2 none, Cond.methodLink RX3 3 objectInit, Cond.fieldLink RX3 9 "DustCart$Plain" "numbers" "[I", Cond.methodLink RX8 18 yX0_init, Cond.instanceMethod yX0_init, Cond.code yX0_init cX0_init 1 none, Cond.methodLink RX0 3 objectInit, Cond.fieldLink RX0 9 "DustCart$Cart" "store" "I", Cond.instanceMethod yX2_init, Cond.code yX2_init cX2_init 1 none, Cond.methodLink RX2 3 objectInit, Cond.fieldLink RX2 11 "DustCart$Law" "tape" "[I", Cond.fieldLink RX2 15 "DustCart$Law" "draft" "[I", Cond.fieldLink RX2 18 "DustCart$Law" "codes" "[I", Cond.fieldLink RX2 21 "DustCart$Law" "stack" "[I", Cond.instanceMethod yX6_init, Cond.code yX6_init cX6_init 1 none, Cond.methodLink RX6 1 objectInit]
def wsL_law_r4 : List Cond := [Cond.fieldLink RX6 9 "DustCart$Ways" "left" "[I", Cond.fieldLink RX6 15 "DustCart$Ways" "stones" "[I", Cond.fieldLink RX6 18 "DustCart$Ways" "toStone" "[I", Cond.fieldLink RX6 21 "DustCart$Ways" "between" "[I", Cond.fieldLink RX6 24 "DustCart$Ways" "rest" "[I", Cond.instanceMethod yX4_init, Cond.code yX4_init cX4_init 1 none, Cond.methodLink RX4 3 objectInit, Cond.fieldLink RX4 13 "DustCart$Reach" "now" "[I", Cond.fieldLink RX4 17 "DustCart$Reach" "next" "[I", Cond.classLink RX4 20 RX0, Cond.fieldLink RX4 23 "DustCart$Reach" "trial" "LDustCart$Cart;", Cond.methodLink RX4 22 yX0_init, Cond.instanceMethod yX1_init, Cond.code yX1_init cX1_init 1 none, Cond.methodLink RX1 1 objectInit, Cond.fieldLink RX1 9 "DustCart$Changes" "places" "[I", Cond.fieldLink RX1 13 "DustCart$Changes" "before" "[I", Cond.fieldLink RX1 16 "DustCart$Changes" "behind" "[I", Cond.instanceMethod yX5_init, Cond.code yX5_init cX5_init 1 none, Cond.methodLink RX5 1 objectInit, Cond.arrayClass .long, Cond.fieldLink RX5 9 "DustCart$Shelf" "elements" "[J"]
def wsL_law_r5 : List Cond := [Cond.instanceMethod yX7_init, Cond.code yX7_init cX7_init 1 none, Cond.methodLink RX7 1 objectInit, Cond.fieldLink RX7 9 "DustCart$Wheels" "kinds" "[I", Cond.fieldLink RX7 13 "DustCart$Wheels" "ran" "[I", Cond.methodLink RL 12 yX9_init, Cond.instanceMethod yX9_init, Cond.code yX9_init cX9_init 1 none, Cond.methodLink RX9 1 objectInit, Cond.fieldLink RX9 7 "DustCartModel" "high" "[I", Cond.fieldLink RX9 13 "DustCartModel" "stone" "[I", Cond.fieldLink RX9 16 "DustCartModel" "sun" "[I", Cond.fieldLink RX9 19 "DustCartModel" "wind" "[I", Cond.fieldLink RX9 22 "DustCartModel" "wheels" "I", Cond.fieldLink RX9 26 "DustCartModel" "odds" "I", Cond.fieldLink RX9 29 "DustCartModel" "store" "I", Cond.fieldLink RX9 32 "DustCartModel" "ledOrder" "[I", Cond.fieldLink RX9 35 "DustCartModel" "ledCould" "[I", Cond.fieldLink RX9 38 "DustCartModel" "changeOf" "[I", Cond.fieldLink RX9 41 "DustCartModel" "changeAt" "[I", Cond.fieldLink RX9 44 "DustCartModel" "before" "[I", Cond.fieldLink RX9 47 "DustCartModel" "behind" "[I", Cond.arrayClass .byte, Cond.fieldLink RX9 50 "DustCartModel" "tape" "[B"]
def wsL_law_r6 : List Cond := [Cond.fieldLink RX9 54 "DustCartModel" "act" "[B", Cond.fieldLink RX9 57 "DustCartModel" "with" "[I", Cond.fieldLink RX9 60 "DustCartModel" "lineMany" "[I", Cond.arrayClass .short, Cond.fieldLink RX9 63 "DustCartModel" "testEnd" "[S", Cond.fieldLink RX9 67 "DustCartModel" "lineEnd" "[S", Cond.fieldLink RX9 70 "DustCartModel" "facts" "[I", Cond.fieldLink RX9 73 "DustCartModel" "pile" "[I", Cond.fieldLink RX9 76 "DustCartModel" "far" "[I", Cond.fieldLink RX9 79 "DustCartModel" "now" "[I", Cond.fieldLink RX9 82 "DustCartModel" "later" "[I", Cond.fieldLink RX9 85 "DustCartModel" "left" "[I", Cond.fieldLink RX9 88 "DustCartModel" "between" "[I", Cond.fieldLink RX9 91 "DustCartModel" "north" "[I", Cond.fieldLink RX9 94 "DustCartModel" "kind" "[I", Cond.fieldLink RX9 97 "DustCartModel" "traced" "[I", Cond.fieldLink RX9 100 "DustCartModel" "holds" "[I", Cond.fieldLink RX9 103 "DustCartModel" "size" "[I", Cond.fieldLink RX9 106 "DustCartModel" "elements" "[J", Cond.fieldLink RX9 110 "DustCartModel" "shifted" "[J", Cond.methodLink RL 13 yX8_mend, Cond.instanceMethod yX8_mend, Cond.selects RX8 yX8_mend yX8_mend, Cond.code yX8_mend cX8_mend 6 (some .int)]
def wsL_law_r7 : List Cond := [Cond.methodLink RX8 83 yX3_place, Cond.static yX3_place, Cond.code yX3_place cX3_place 2 (some .int), Cond.fieldLink RX3 15 "DustCart$Plain" "MANY" "[I", Cond.fieldLink RX3 18 "DustCart$Plain" "BEGIN" "[I", Cond.methodLink RX8 87 yX3_mayBe, Cond.static yX3_mayBe, Cond.code yX3_mayBe cX3_mayBe 2 (some .boolean), Cond.fieldLink RX3 21 "DustCart$Plain" "LEAST" "[I", Cond.fieldLink RX3 24 "DustCart$Plain" "MOST" "[I", Cond.methodLink RX8 91 yX3_told, Cond.instanceMethod yX3_told, Cond.selects RX3 yX3_told yX3_told, Cond.code yX3_told cX3_told 2 (some .int), Cond.methodLink RX8 95 yX3_tell, Cond.instanceMethod yX3_tell, Cond.selects RX3 yX3_tell yX3_tell, Cond.code yX3_tell cX3_tell 3 none, Cond.methodLink RX8 99 yX1_note, Cond.instanceMethod yX1_note, Cond.selects RX1 yX1_note yX1_note, Cond.code yX1_note cX1_note 4 none, Cond.fieldLink RX1 19 "DustCart$Changes" "done" "I", Cond.fieldLink RX1 26 "DustCart$Changes" "known" "I"]
def wsL_law_r8 : List Cond := [Cond.methodLink RX1 23 yX1_dropOldest, Cond.instanceMethod yX1_dropOldest, Cond.selects RX1 yX1_dropOldest yX1_dropOldest, Cond.code yX1_dropOldest cX1_dropOldest 1 none, Cond.methodLink RX1 29 arraycopyName, Cond.native arraycopyName, Cond.static arraycopyName, Cond.initialized "java/lang/System", Cond.methodLink RL 17 yX9_mend, Cond.instanceMethod yX9_mend, Cond.selects RX9 yX9_mend yX9_mend, Cond.code yX9_mend cX9_mend 4 (some .int), Cond.methodLink RX9 148 yX9_isThing, Cond.instanceMethod yX9_isThing, Cond.selects RX9 yX9_isThing yX9_isThing, Cond.code yX9_isThing cX9_isThing 3 (some .boolean), Cond.methodLink RX9 116 yX9_in, Cond.static yX9_in, Cond.code yX9_in cX9_in 3 (some .boolean), Cond.methodLink RX9 141 yX9_isCell, Cond.static yX9_isCell, Cond.code yX9_isCell cX9_isCell 1 (some .boolean), Cond.methodLink RX9 145 yX9_isDay, Cond.static yX9_isDay]
def wsL_law_r9 : List Cond := [Cond.code yX9_isDay cX9_isDay 1 (some .boolean), Cond.methodLink RX9 152 yX9_mostOf, Cond.static yX9_mostOf, Cond.code yX9_mostOf cX9_mostOf 1 (some .int), Cond.methodLink RX9 156 yX9_changes, Cond.instanceMethod yX9_changes, Cond.selects RX9 yX9_changes yX9_changes, Cond.code yX9_changes cX9_changes 6 (some .int), Cond.fieldLink RX9 131 "DustCartModel" "undoneMany" "I", Cond.fieldLink RX9 134 "DustCartModel" "doneMany" "I", Cond.methodLink RX9 128 yX9_valueAt, Cond.instanceMethod yX9_valueAt, Cond.selects RX9 yX9_valueAt yX9_valueAt, Cond.code yX9_valueAt cX9_valueAt 3 (some .int), Cond.methodLink RX9 137 yX9_lays, Cond.instanceMethod yX9_lays, Cond.selects RX9 yX9_lays yX9_lays, Cond.code yX9_lays cX9_lays 4 none, Cond.methodLink RL 18 yX8_of, Cond.instanceMethod yX8_of, Cond.selects RX8 yX8_of yX8_of, Cond.code yX8_of cX8_of 4 (some .int), Cond.methodLink RX8 103 yX8_ofCell, Cond.instanceMethod yX8_ofCell]
def wsL_law_r10 : List Cond := [Cond.selects RX8 yX8_ofCell yX8_ofCell, Cond.code yX8_ofCell cX8_ofCell 4 (some .int), Cond.methodLink RX8 109 yX3_isCell, Cond.static yX3_isCell, Cond.code yX3_isCell cX3_isCell 1 (some .boolean), Cond.methodLink RX8 113 yX3_isHollow, Cond.instanceMethod yX3_isHollow, Cond.selects RX3 yX3_isHollow yX3_isHollow, Cond.code yX3_isHollow cX3_isHollow 4 (some .boolean), Cond.methodLink RX3 37 yX3_neighbour, Cond.static yX3_neighbour, Cond.code yX3_neighbour cX3_neighbour 2 (some .int), Cond.methodLink RX3 27 yX3_high, Cond.instanceMethod yX3_high, Cond.selects RX3 yX3_high yX3_high, Cond.code yX3_high cX3_high 2 (some .int), Cond.methodLink RX8 116 yX0_hasLookedAt, Cond.instanceMethod yX0_hasLookedAt, Cond.selects RX0 yX0_hasLookedAt yX0_hasLookedAt, Cond.code yX0_hasLookedAt cX0_hasLookedAt 2 (some .boolean), Cond.fieldLink RX0 25 "DustCart$Cart" "looked" "J", Cond.methodLink RX8 106 yX8_ofCart, Cond.instanceMethod yX8_ofCart, Cond.selects RX8 yX8_ofCart yX8_ofCart]
def wsL_law_r11 : List Cond := [Cond.code yX8_ofCart cX8_ofCart 2 (some .int), Cond.fieldLink RX8 119 "DustCart" "today" "I", Cond.fieldLink RX8 122 "DustCart$Cart" "cell" "I", Cond.fieldLink RX8 125 "DustCart$Cart" "store" "I", Cond.fieldLink RX8 128 "DustCart$Cart" "dust" "I", Cond.fieldLink RX8 131 "DustCart$Cart" "looked" "J", Cond.methodLink RX8 135 yJ13_bitCount_95d88, Cond.static yJ13_bitCount_95d88, Cond.initialized RJ13, Cond.code yJ13_bitCount_95d88 cJ13_bitCount_95d88 2 (some .int), Cond.constantLong RJ13 314 (6148914691236517205), Cond.constantLong RJ13 316 (3689348814741910323), Cond.constantLong RJ13 318 (1085102592571150095), Cond.methodLink RL 22 yX9_of, Cond.instanceMethod yX9_of, Cond.selects RX9 yX9_of yX9_of, Cond.code yX9_of cX9_of 3 (some .int), Cond.fieldLink RX9 166 "DustCartModel" "today" "I", Cond.fieldLink RX9 169 "DustCartModel" "cell" "I", Cond.fieldLink RX9 172 "DustCartModel" "dust" "I", Cond.fieldLink RX9 124 "DustCartModel" "looked" "J", Cond.methodLink RX9 160 yX9_isHollow, Cond.instanceMethod yX9_isHollow, Cond.selects RX9 yX9_isHollow yX9_isHollow]
def wsL_law_r12 : List Cond := [Cond.code yX9_isHollow cX9_isHollow 3 (some .boolean), Cond.methodLink RX9 120 yX9_beside, Cond.static yX9_beside, Cond.code yX9_beside cX9_beside 2 (some .int), Cond.methodLink RX9 163 yX9_isLooked, Cond.instanceMethod yX9_isLooked, Cond.selects RX9 yX9_isLooked yX9_isLooked, Cond.code yX9_isLooked cX9_isLooked 2 (some .boolean), Cond.methodLink RX9 175 yX9_bitsIn, Cond.static yX9_bitsIn, Cond.code yX9_bitsIn cX9_bitsIn 5 (some .int), Cond.methodLink RL 23 yX8_heights, Cond.instanceMethod yX8_heights, Cond.selects RX8 yX8_heights yX8_heights, Cond.code yX8_heights cX8_heights 6 (some .int), Cond.methodLink RX8 141 yX8_isShelf, Cond.static yX8_isShelf, Cond.code yX8_isShelf cX8_isShelf 1 (some .boolean), Cond.methodLink RX8 144 yX5_isEmpty, Cond.instanceMethod yX5_isEmpty, Cond.selects RX5 yX5_isEmpty yX5_isEmpty, Cond.code yX5_isEmpty cX5_isEmpty 1 (some .boolean), Cond.fieldLink RX5 13 "DustCart$Shelf" "holds" "I", Cond.methodLink RX8 148 yX5_isBytes]
def wsL_law_r13 : List Cond := [Cond.instanceMethod yX5_isBytes, Cond.selects RX5 yX5_isBytes yX5_isBytes, Cond.code yX5_isBytes cX5_isBytes 1 (some .boolean), Cond.fieldLink RX5 17 "DustCart$Shelf" "sort" "I", Cond.methodLink RX8 151 yX8_heightsFrom, Cond.instanceMethod yX8_heightsFrom, Cond.selects RX8 yX8_heightsFrom yX8_heightsFrom, Cond.code yX8_heightsFrom cX8_heightsFrom 9 (some .int), Cond.fieldLink RX8 155 "DustCart$Shelf" "length" "I", Cond.methodLink RX8 158 yX5_at, Cond.instanceMethod yX5_at, Cond.selects RX5 yX5_at yX5_at, Cond.code yX5_at cX5_at 2 (some .long), Cond.methodLink RX5 41 yX5_hasPlaces, Cond.instanceMethod yX5_hasPlaces, Cond.selects RX5 yX5_hasPlaces yX5_hasPlaces, Cond.code yX5_hasPlaces cX5_hasPlaces 3 (some .boolean), Cond.fieldLink RX5 32 "DustCart$Shelf" "length" "I", Cond.methodLink RL 26 yX9_heights, Cond.instanceMethod yX9_heights, Cond.selects RX9 yX9_heights yX9_heights, Cond.code yX9_heights cX9_heights 8 (some .int), Cond.methodLink RX9 179 yX9_isShelf, Cond.static yX9_isShelf]
def wsL_law_r14 : List Cond := [Cond.code yX9_isShelf cX9_isShelf 1 (some .boolean), Cond.methodLink RL 27 yX8_feed, Cond.instanceMethod yX8_feed, Cond.selects RX8 yX8_feed yX8_feed, Cond.code yX8_feed cX8_feed 2 (some .int), Cond.fieldLink RX8 165 "DustCart$Law" "fed" "I", Cond.methodLink RX8 162 yX2_take, Cond.instanceMethod yX2_take, Cond.selects RX2 yX2_take yX2_take, Cond.code yX2_take cX2_take 2 (some .boolean), Cond.fieldLink RX2 24 "DustCart$Law" "fed" "I", Cond.methodLink RL 31 yX9_feed, Cond.instanceMethod yX9_feed, Cond.selects RX9 yX9_feed yX9_feed, Cond.code yX9_feed cX9_feed 2 (some .int), Cond.fieldLink RX9 182 "DustCartModel" "taped" "I", Cond.methodLink RL 32 yX8_law, Cond.instanceMethod yX8_law, Cond.selects RX8 yX8_law yX8_law, Cond.code yX8_law cX8_law 2 (some .int), Cond.methodLink RX8 168 yX2_become, Cond.instanceMethod yX2_become, Cond.selects RX2 yX2_become yX2_become, Cond.code yX2_become cX2_become 1 (some .int)]
def wsL_law_r15 : List Cond := [Cond.fieldLink RX2 28 "DustCart$Law" "drafted" "I", Cond.fieldLink RX2 31 "DustCart$Law" "place" "I", Cond.fieldLink RX2 34 "DustCart$Law" "fault" "I", Cond.methodLink RX2 40 arraycopyName, Cond.fieldLink RX2 46 "DustCart$Law" "coded" "I", Cond.methodLink RX2 37 yX2_readLines, Cond.instanceMethod yX2_readLines, Cond.selects RX2 yX2_readLines yX2_readLines, Cond.code yX2_readLines cX2_readLines 2 none, Cond.methodLink RX2 53 yX2_readOr, Cond.instanceMethod yX2_readOr, Cond.selects RX2 yX2_readOr yX2_readOr, Cond.code yX2_readOr cX2_readOr 3 none, Cond.methodLink RX2 67 yX2_readAnd, Cond.instanceMethod yX2_readAnd, Cond.selects RX2 yX2_readAnd yX2_readAnd, Cond.methodLink RX2 57 yX2_pass, Cond.instanceMethod yX2_pass, Cond.selects RX2 yX2_pass yX2_pass, Cond.code yX2_pass cX2_pass 2 (some .boolean), Cond.methodLink RX2 49 yX2_sign, Cond.instanceMethod yX2_sign, Cond.selects RX2 yX2_sign yX2_sign, Cond.code yX2_sign cX2_sign 1 (some .int)]
def wsL_law_r16 : List Cond := [Cond.methodLink RX2 61 yX2_write, Cond.instanceMethod yX2_write, Cond.selects RX2 yX2_write yX2_write, Cond.code yX2_write cX2_write 2 none, Cond.code yX2_readAnd cX2_readAnd 3 none, Cond.methodLink RX2 70 yX2_readCompared, Cond.instanceMethod yX2_readCompared, Cond.selects RX2 yX2_readCompared yX2_readCompared, Cond.code yX2_readCompared cX2_readCompared 3 none, Cond.methodLink RX2 73 yX2_readSum, Cond.instanceMethod yX2_readSum, Cond.selects RX2 yX2_readSum yX2_readSum, Cond.code yX2_readOpened cX2_readOpened 3 none, Cond.methodLink RX2 64 yX2_refuse, Cond.instanceMethod yX2_refuse, Cond.selects RX2 yX2_refuse yX2_refuse, Cond.code yX2_refuse cX2_refuse 1 none, Cond.methodLink RX2 79 yX2_readOperand, Cond.instanceMethod yX2_readOperand, Cond.selects RX2 yX2_readOperand yX2_readOperand, Cond.code yX2_readOperand cX2_readOperand 3 none, Cond.methodLink RX2 82 yX2_isDigit, Cond.static yX2_isDigit, Cond.code yX2_isDigit cX2_isDigit 1 (some .boolean)]
def wsL_law_r17 : List Cond := [Cond.methodLink RX2 85 yX2_readNumber, Cond.instanceMethod yX2_readNumber, Cond.selects RX2 yX2_readNumber yX2_readNumber, Cond.code yX2_readNumber cX2_readNumber 3 none, Cond.methodLink RX2 88 yX2_isName, Cond.static yX2_isName, Cond.code yX2_isName cX2_isName 1 (some .boolean), Cond.methodLink RX2 91 yX2_readOpened, Cond.instanceMethod yX2_readOpened, Cond.selects RX2 yX2_readOpened yX2_readOpened, Cond.code yX2_readProduct cX2_readProduct 4 none, Cond.code yX2_readSum cX2_readSum 4 none, Cond.methodLink RX2 76 yX2_readProduct, Cond.instanceMethod yX2_readProduct, Cond.selects RX2 yX2_readProduct yX2_readProduct, Cond.methodLink RL 36 yX9_law, Cond.instanceMethod yX9_law, Cond.selects RX9 yX9_law yX9_law, Cond.code yX9_law cX9_law 2 (some .int), Cond.fieldLink RX9 248 "DustCartModel" "hasLaw" "Z", Cond.methodLink RX9 245 yX9_readText, Cond.instanceMethod yX9_readText, Cond.selects RX9 yX9_readText yX9_readText, Cond.code yX9_readText cX9_readText 3 (some .int)]
def wsL_law_r18 : List Cond := [Cond.fieldLink RX9 185 "DustCartModel" "here" "I", Cond.fieldLink RX9 188 "DustCartModel" "fault" "I", Cond.fieldLink RX9 194 "DustCartModel" "open" "I", Cond.fieldLink RX9 191 "DustCartModel" "laid" "I", Cond.methodLink RX9 236 yX9_oneLine, Cond.instanceMethod yX9_oneLine, Cond.selects RX9 yX9_oneLine yX9_oneLine, Cond.code yX9_oneLine cX9_oneLine 2 none, Cond.methodLink RX9 218 yX9_either, Cond.instanceMethod yX9_either, Cond.selects RX9 yX9_either yX9_either, Cond.code yX9_either cX9_either 1 none, Cond.methodLink RX9 233 yX9_both, Cond.instanceMethod yX9_both, Cond.selects RX9 yX9_both yX9_both, Cond.methodLink RX9 200 yX9_look, Cond.instanceMethod yX9_look, Cond.selects RX9 yX9_look yX9_look, Cond.code yX9_look cX9_look 1 (some .int), Cond.methodLink RX9 204 yX9_addStep, Cond.instanceMethod yX9_addStep, Cond.selects RX9 yX9_addStep yX9_addStep, Cond.code yX9_addStep cX9_addStep 3 none, Cond.code yX9_both cX9_both 1 none]
def wsL_law_r19 : List Cond := [Cond.methodLink RX9 230 yX9_compared, Cond.instanceMethod yX9_compared, Cond.selects RX9 yX9_compared yX9_compared, Cond.code yX9_compared cX9_compared 2 none, Cond.methodLink RX9 227 yX9_sum, Cond.instanceMethod yX9_sum, Cond.selects RX9 yX9_sum yX9_sum, Cond.code yX9_operand cX9_operand 2 none, Cond.methodLink RX9 208 yX9_nameOf, Cond.static yX9_nameOf, Cond.code yX9_nameOf cX9_nameOf 1 (some .int), Cond.methodLink RX9 211 yX9_opens, Cond.instanceMethod yX9_opens, Cond.selects RX9 yX9_opens yX9_opens, Cond.code yX9_opens cX9_opens 1 (some .boolean), Cond.methodLink RX9 197 yX9_faulty, Cond.instanceMethod yX9_faulty, Cond.selects RX9 yX9_faulty yX9_faulty, Cond.code yX9_faulty cX9_faulty 1 none, Cond.methodLink RX9 215 yX9_operand, Cond.instanceMethod yX9_operand, Cond.selects RX9 yX9_operand yX9_operand, Cond.methodLink RX9 221 yX9_figure, Cond.instanceMethod yX9_figure]
def wsL_law_r20 : List Cond := [Cond.selects RX9 yX9_figure yX9_figure, Cond.code yX9_figure cX9_figure 3 none, Cond.code yX9_product cX9_product 2 none, Cond.code yX9_sum cX9_sum 2 none, Cond.methodLink RX9 224 yX9_product, Cond.instanceMethod yX9_product, Cond.selects RX9 yX9_product yX9_product, Cond.methodLink RL 37 yX8_cost, Cond.instanceMethod yX8_cost, Cond.selects RX8 yX8_cost yX8_cost, Cond.code yX8_cost cX8_cost 4 (some .int), Cond.methodLink RX8 172 yX3_neighbour, Cond.methodLink RX8 175 yX3_price, Cond.instanceMethod yX3_price, Cond.selects RX3 yX3_price yX3_price, Cond.code yX3_price cX3_price 3 (some .int), Cond.methodLink RX3 31 Lib.Math.max.name, Cond.static Lib.Math.max.name, Cond.initialized "java/lang/Math", Cond.code Lib.Math.max.name Lib.Math.max.code 2 (some .int), Cond.methodLink RL 40 yX9_cost, Cond.instanceMethod yX9_cost, Cond.selects RX9 yX9_cost yX9_cost, Cond.code yX9_cost cX9_cost 3 (some .int)]
def wsL_law_r21 : List Cond := [Cond.methodLink RX9 255 yX9_costOf, Cond.instanceMethod yX9_costOf, Cond.selects RX9 yX9_costOf yX9_costOf, Cond.code yX9_costOf cX9_costOf 4 (some .int), Cond.methodLink RL 41 yX8_order, Cond.instanceMethod yX8_order, Cond.selects RX8 yX8_order yX8_order, Cond.code yX8_order cX8_order 1 (some .int), Cond.methodLink RX8 178 yX2_orderFor, Cond.instanceMethod yX2_orderFor, Cond.selects RX2 yX2_orderFor yX2_orderFor, Cond.code yX2_orderFor cX2_orderFor 5 (some .int), Cond.methodLink RX2 95 yX0_isOnNewStone, Cond.instanceMethod yX0_isOnNewStone, Cond.selects RX0 yX0_isOnNewStone yX0_isOnNewStone, Cond.code yX0_isOnNewStone cX0_isOnNewStone 2 (some .boolean), Cond.fieldLink RX0 15 "DustCart$Cart" "cell" "I", Cond.methodLink RX0 29 yX3_isStone, Cond.instanceMethod yX3_isStone, Cond.selects RX3 yX3_isStone yX3_isStone, Cond.code yX3_isStone cX3_isStone 2 (some .boolean), Cond.methodLink RX0 35 yX0_hasLookedAt, Cond.methodLink RX2 101 yX2_workOut, Cond.instanceMethod yX2_workOut]
def wsL_law_r22 : List Cond := [Cond.selects RX2 yX2_workOut yX2_workOut, Cond.code yX2_workOut cX2_workOut 7 (some .int), Cond.fieldLink RX2 105 "DustCart$Law" "high" "I", Cond.methodLink RX2 108 yX2_pop, Cond.instanceMethod yX2_pop, Cond.selects RX2 yX2_pop yX2_pop, Cond.code yX2_pop cX2_pop 1 (some .int), Cond.methodLink RX2 111 yX2_step, Cond.instanceMethod yX2_step, Cond.selects RX2 yX2_step yX2_step, Cond.code yX2_step cX2_step 6 none, Cond.methodLink RX2 115 yX2_push, Cond.instanceMethod yX2_push, Cond.selects RX2 yX2_push yX2_push, Cond.code yX2_push cX2_push 2 none, Cond.methodLink RX2 118 yX2_named, Cond.static yX2_named, Cond.code yX2_named cX2_named 4 (some .int), Cond.fieldLink RX2 126 "DustCart$Cart" "store" "I", Cond.fieldLink RX2 129 "DustCart$Cart" "dust" "I", Cond.fieldLink RX2 132 "DustCart$Cart" "cell" "I", Cond.methodLink RX2 135 yX3_high, Cond.methodLink RX2 140 yX3_wind, Cond.instanceMethod yX3_wind]
def wsL_law_r23 : List Cond := [Cond.selects RX3 yX3_wind yX3_wind, Cond.code yX3_wind cX3_wind 2 (some .int), Cond.methodLink RX2 122 yX2_joined, Cond.static yX2_joined, Cond.code yX2_joined cX2_joined 3 (some .int), Cond.methodLink RL 44 yX9_order, Cond.instanceMethod yX9_order, Cond.selects RX9 yX9_order yX9_order, Cond.code yX9_order cX9_order 1 (some .int), Cond.methodLink RX9 258 yX9_orderOf, Cond.instanceMethod yX9_orderOf, Cond.selects RX9 yX9_orderOf yX9_orderOf, Cond.code yX9_orderOf cX9_orderOf 4 (some .int), Cond.methodLink RX9 252 yX9_gives, Cond.instanceMethod yX9_gives, Cond.selects RX9 yX9_gives yX9_gives, Cond.code yX9_gives cX9_gives 4 (some .int), Cond.methodLink RX9 242 yX9_worked, Cond.instanceMethod yX9_worked, Cond.selects RX9 yX9_worked yX9_worked, Cond.code yX9_worked cX9_worked 7 (some .int), Cond.methodLink RX9 239 yX9_twoOf, Cond.static yX9_twoOf, Cond.code yX9_twoOf cX9_twoOf 3 (some .int)]
def wsL_law_r24 : List Cond := [Cond.methodLink RL 45 yX8_day, Cond.instanceMethod yX8_day, Cond.selects RX8 yX8_day yX8_day, Cond.code yX8_day cX8_day 2 (some .int), Cond.methodLink RX8 182 yX8_live, Cond.instanceMethod yX8_live, Cond.selects RX8 yX8_live yX8_live, Cond.code yX8_live cX8_live 3 (some .boolean), Cond.methodLink RX8 185 yX0_live, Cond.instanceMethod yX0_live, Cond.selects RX0 yX0_live yX0_live, Cond.code yX0_live cX0_live 4 (some .boolean), Cond.methodLink RX0 38 yX3_sun, Cond.instanceMethod yX3_sun, Cond.selects RX3 yX3_sun yX3_sun, Cond.code yX3_sun cX3_sun 2 (some .int), Cond.methodLink RX0 42 yX3_wind, Cond.methodLink RX0 45 yX0_liveUnder, Cond.instanceMethod yX0_liveUnder, Cond.selects RX0 yX0_liveUnder yX0_liveUnder, Cond.code yX0_liveUnder cX0_liveUnder 8 (some .boolean), Cond.fieldLink RX0 18 "DustCart$Cart" "dust" "I", Cond.methodLink RX0 60 Lib.Math.max.name, Cond.methodLink RX0 66 Lib.Math.min.name]
def wsL_law_r25 : List Cond := [Cond.static Lib.Math.min.name, Cond.code Lib.Math.min.name Lib.Math.min.code 2 (some .int), Cond.methodLink RX0 49 yX0_lookAround, Cond.instanceMethod yX0_lookAround, Cond.selects RX0 yX0_lookAround yX0_lookAround, Cond.code yX0_lookAround cX0_lookAround 2 (some .boolean), Cond.methodLink RX0 75 yX0_isOnNewStone, Cond.methodLink RX0 53 yX0_move, Cond.instanceMethod yX0_move, Cond.selects RX0 yX0_move yX0_move, Cond.code yX0_move cX0_move 5 (some .boolean), Cond.methodLink RX0 69 yX3_neighbour, Cond.methodLink RX0 72 yX3_price, Cond.methodLink RX0 57 yX3_isHollow, Cond.methodLink RL 48 yX9_day, Cond.instanceMethod yX9_day, Cond.selects RX9 yX9_day yX9_day, Cond.code yX9_day cX9_day 2 (some .int), Cond.methodLink RX9 290 yX9_lead, Cond.instanceMethod yX9_lead, Cond.selects RX9 yX9_lead yX9_lead, Cond.code yX9_lead cX9_lead 3 (some .int), Cond.methodLink RX9 287 yX9_goOwn, Cond.instanceMethod yX9_goOwn]
def wsL_law_r26 : List Cond := [Cond.selects RX9 yX9_goOwn yX9_goOwn, Cond.code yX9_goOwn cX9_goOwn 3 (some .boolean), Cond.methodLink RX9 283 yX9_goDay, Cond.instanceMethod yX9_goDay, Cond.selects RX9 yX9_goDay yX9_goDay, Cond.code yX9_goDay cX9_goDay 7 (some .boolean), Cond.methodLink RX9 273 yX9_obeys, Cond.instanceMethod yX9_obeys, Cond.selects RX9 yX9_obeys yX9_obeys, Cond.code yX9_obeys cX9_obeys 2 (some .boolean), Cond.methodLink RX9 276 yX9_storeThen, Cond.static yX9_storeThen, Cond.code yX9_storeThen cX9_storeThen 6 (some .int), Cond.methodLink RX9 280 yX9_dustThen, Cond.static yX9_dustThen, Cond.code yX9_dustThen cX9_dustThen 4 (some .int), Cond.methodLink RL 49 yX8_days, Cond.instanceMethod yX8_days, Cond.selects RX8 yX8_days yX8_days, Cond.code yX8_days cX8_days 4 (some .int), Cond.methodLink RL 52 yX9_days, Cond.instanceMethod yX9_days, Cond.selects RX9 yX9_days yX9_days, Cond.code yX9_days cX9_days 4 (some .int)]
def wsL_law_r27 : List Cond := [Cond.methodLink RL 53 yX8_led, Cond.instanceMethod yX8_led, Cond.selects RX8 yX8_led yX8_led, Cond.code yX8_led cX8_led 3 (some .int), Cond.methodLink RX8 188 yX8_isOneOf, Cond.static yX8_isOneOf, Cond.code yX8_isOneOf cX8_isOneOf 2 (some .boolean), Cond.methodLink RL 56 yX9_led, Cond.instanceMethod yX9_led, Cond.selects RX9 yX9_led yX9_led, Cond.code yX9_led cX9_led 3 (some .int), Cond.methodLink RL 57 yX8_run, Cond.instanceMethod yX8_run, Cond.selects RX8 yX8_run yX8_run, Cond.code yX8_run cX8_run 6 (some .int), Cond.methodLink RX8 191 yX8_refusedBytes, Cond.instanceMethod yX8_refusedBytes, Cond.selects RX8 yX8_refusedBytes yX8_refusedBytes, Cond.code yX8_refusedBytes cX8_refusedBytes 2 (some .int), Cond.methodLink RX8 194 yX0_become, Cond.instanceMethod yX0_become, Cond.selects RX0 yX0_become yX0_become, Cond.code yX0_become cX0_become 2 none, Cond.methodLink RX0 21 yX0_place]
def wsL_law_r28 : List Cond := [Cond.instanceMethod yX0_place, Cond.selects RX0 yX0_place yX0_place, Cond.code yX0_place cX0_place 4 none, Cond.methodLink RX8 197 yX8_orderOn, Cond.static yX8_orderOn, Cond.code yX8_orderOn cX8_orderOn 3 (some .int), Cond.methodLink RX8 201 yX8_thoughtOf, Cond.instanceMethod yX8_thoughtOf, Cond.selects RX8 yX8_thoughtOf yX8_thoughtOf, Cond.code yX8_thoughtOf cX8_thoughtOf 2 (some .int), Cond.methodLink RL 60 yX9_run, Cond.instanceMethod yX9_run, Cond.selects RX9 yX9_run yX9_run, Cond.code yX9_run cX9_run 5 (some .int), Cond.methodLink RX9 299 yX9_rowFault, Cond.instanceMethod yX9_rowFault, Cond.selects RX9 yX9_rowFault yX9_rowFault, Cond.code yX9_rowFault cX9_rowFault 2 (some .int), Cond.methodLink RX9 302 yX9_think, Cond.instanceMethod yX9_think, Cond.selects RX9 yX9_think yX9_think, Cond.code yX9_think cX9_think 1 none, Cond.fieldLink RX9 261 "DustCartModel" "keptCell" "I", Cond.fieldLink RX9 264 "DustCartModel" "keptStore" "I"]
def wsL_law_r29 : List Cond := [Cond.fieldLink RX9 267 "DustCartModel" "keptDust" "I", Cond.fieldLink RX9 270 "DustCartModel" "keptLooked" "J", Cond.methodLink RX9 305 yX9_orderAt, Cond.instanceMethod yX9_orderAt, Cond.selects RX9 yX9_orderAt yX9_orderAt, Cond.code yX9_orderAt cX9_orderAt 3 (some .int), Cond.methodLink RX9 293 yX9_byteAt, Cond.instanceMethod yX9_byteAt, Cond.selects RX9 yX9_byteAt yX9_byteAt, Cond.code yX9_byteAt cX9_byteAt 3 (some .int), Cond.methodLink RX9 308 yX9_tellThought, Cond.instanceMethod yX9_tellThought, Cond.selects RX9 yX9_tellThought yX9_tellThought, Cond.code yX9_tellThought cX9_tellThought 3 (some .int), Cond.methodLink RX9 296 yX9_unthink, Cond.instanceMethod yX9_unthink, Cond.selects RX9 yX9_unthink yX9_unthink, Cond.code yX9_unthink cX9_unthink 1 none, Cond.methodLink RL 61 yX8_first, Cond.instanceMethod yX8_first, Cond.selects RX8 yX8_first yX8_first, Cond.code yX8_first cX8_first 5 (some .int), Cond.methodLink RX8 204 Lib.Math.min.name, Cond.methodLink RL 64 yX9_first]
def wsL_law_r30 : List Cond := [Cond.instanceMethod yX9_first, Cond.selects RX9 yX9_first yX9_first, Cond.code yX9_first cX9_first 4 (some .int), Cond.methodLink RL 65 yX8_lawful, Cond.instanceMethod yX8_lawful, Cond.selects RX8 yX8_lawful yX8_lawful, Cond.code yX8_lawful cX8_lawful 4 (some .int), Cond.methodLink RL 68 yX9_lawful, Cond.instanceMethod yX9_lawful, Cond.selects RX9 yX9_lawful yX9_lawful, Cond.code yX9_lawful cX9_lawful 4 (some .int), Cond.methodLink RL 69 yX8_cheapest, Cond.instanceMethod yX8_cheapest, Cond.selects RX8 yX8_cheapest yX8_cheapest, Cond.code yX8_cheapest cX8_cheapest 5 (some .int), Cond.methodLink RX8 209 yX6_spreadTo, Cond.instanceMethod yX6_spreadTo, Cond.selects RX6 yX6_spreadTo yX6_spreadTo, Cond.code yX6_spreadTo cX6_spreadTo 7 none, Cond.constant RX6 27 (1000000), Cond.methodLink RX6 28 yX6_nearest, Cond.instanceMethod yX6_nearest, Cond.selects RX6 yX6_nearest yX6_nearest, Cond.code yX6_nearest cX6_nearest 5 (some .int)]
def wsL_law_r31 : List Cond := [Cond.methodLink RX6 32 yX6_spreadFrom, Cond.instanceMethod yX6_spreadFrom, Cond.selects RX6 yX6_spreadFrom yX6_spreadFrom, Cond.code yX6_spreadFrom cX6_spreadFrom 5 none, Cond.methodLink RX6 43 Lib.Math.min.name, Cond.methodLink RX6 36 yX3_neighbour, Cond.methodLink RX6 40 yX3_price, Cond.methodLink RX8 213 yX6_costFrom, Cond.instanceMethod yX6_costFrom, Cond.selects RX6 yX6_costFrom yX6_costFrom, Cond.code yX6_costFrom cX6_costFrom 2 (some .int), Cond.methodLink RX6 48 yX3_isCell, Cond.methodLink RX8 216 yX6_firstFrom, Cond.instanceMethod yX6_firstFrom, Cond.selects RX6 yX6_firstFrom yX6_firstFrom, Cond.code yX6_firstFrom cX6_firstFrom 5 (some .int), Cond.methodLink RX6 52 yX6_costFrom, Cond.methodLink RL 72 yX9_cheapest, Cond.instanceMethod yX9_cheapest, Cond.selects RX9 yX9_cheapest yX9_cheapest, Cond.code yX9_cheapest cX9_cheapest 5 (some .int), Cond.methodLink RX9 312 yX9_findFar, Cond.instanceMethod yX9_findFar, Cond.selects RX9 yX9_findFar yX9_findFar]
def wsL_law_r32 : List Cond := [Cond.code yX9_findFar cX9_findFar 6 none, Cond.constant RX9 311 (1000000), Cond.methodLink RL 73 yX8_soonest, Cond.instanceMethod yX8_soonest, Cond.selects RX8 yX8_soonest yX8_soonest, Cond.code yX8_soonest cX8_soonest 3 (some .int), Cond.fieldLink RX8 224 "DustCart$Reach" "taken" "I", Cond.fieldLink RX8 227 "DustCart$Reach" "most" "I", Cond.methodLink RX8 220 yX4_find, Cond.instanceMethod yX4_find, Cond.selects RX4 yX4_find yX4_find, Cond.code yX4_find cX4_find 7 (some .boolean), Cond.methodLink RX4 37 Lib.Math.min.name, Cond.fieldLink RX4 47 "DustCart$Reach" "most" "I", Cond.fieldLink RX4 51 "DustCart$Reach" "taken" "I", Cond.methodLink RX4 27 yJ7_fill_53178, Cond.static yJ7_fill_53178, Cond.initialized RJ7, Cond.code yJ7_fill_53178 cJ7_fill_53178 4 none, Cond.methodLink RX4 33 yX4_arrive, Cond.static yX4_arrive, Cond.code yX4_arrive cX4_arrive 3 none, Cond.fieldLink RX4 58 "DustCart$Cart" "cell" "I", Cond.fieldLink RX4 61 "DustCart$Cart" "dust" "I"]
def wsL_law_r33 : List Cond := [Cond.fieldLink RX4 64 "DustCart$Cart" "store" "I", Cond.methodLink RX4 67 Lib.Math.max.name, Cond.methodLink RX4 43 yX4_mostIn, Cond.instanceMethod yX4_mostIn, Cond.selects RX4 yX4_mostIn yX4_mostIn, Cond.code yX4_mostIn cX4_mostIn 4 (some .int), Cond.methodLink RX4 54 yX4_goOn, Cond.instanceMethod yX4_goOn, Cond.selects RX4 yX4_goOn yX4_goOn, Cond.code yX4_goOn cX4_goOn 7 none, Cond.methodLink RX4 84 arraycopyName, Cond.methodLink RX4 70 yX3_sun, Cond.methodLink RX4 73 yX3_wind, Cond.methodLink RX4 76 yX0_place, Cond.methodLink RX4 80 yX0_liveUnder, Cond.methodLink RL 76 yX9_soonest, Cond.instanceMethod yX9_soonest, Cond.selects RX9 yX9_soonest yX9_soonest, Cond.code yX9_soonest cX9_soonest 4 (some .int), Cond.methodLink RX9 320 yX9_mostIn, Cond.instanceMethod yX9_mostIn, Cond.selects RX9 yX9_mostIn yX9_mostIn, Cond.code yX9_mostIn cX9_mostIn 4 (some .int), Cond.methodLink RX9 323 yX9_goOn]
def wsL_law_r34 : List Cond := [Cond.instanceMethod yX9_goOn, Cond.selects RX9 yX9_goOn yX9_goOn, Cond.code yX9_goOn cX9_goOn 5 none, Cond.methodLink RX9 316 yX9_come, Cond.instanceMethod yX9_come, Cond.selects RX9 yX9_come yX9_come, Cond.code yX9_come cX9_come 8 none, Cond.methodLink RL 77 yX8_round, Cond.instanceMethod yX8_round, Cond.selects RX8 yX8_round yX8_round, Cond.code yX8_round cX8_round 2 (some .int), Cond.fieldLink RX8 234 "DustCart$Ways" "roundCost" "I", Cond.fieldLink RX8 237 "DustCart$Ways" "roundFirst" "I", Cond.methodLink RX8 230 yX6_planRound, Cond.instanceMethod yX6_planRound, Cond.selects RX6 yX6_planRound yX6_planRound, Cond.code yX6_planRound cX6_planRound 5 (some .boolean), Cond.fieldLink RX6 60 "DustCart$Ways" "many" "I", Cond.fieldLink RX6 67 "DustCart$Cart" "cell" "I", Cond.methodLink RX6 56 yX6_listStones, Cond.instanceMethod yX6_listStones, Cond.selects RX6 yX6_listStones yX6_listStones, Cond.code yX6_listStones cX6_listStones 4 (some .boolean), Cond.methodLink RX6 79 yX3_isStone]
def wsL_law_r35 : List Cond := [Cond.methodLink RX6 82 yX0_hasLookedAt, Cond.methodLink RX6 64 yX6_spreadTo, Cond.methodLink RX6 72 yX6_leastRest, Cond.instanceMethod yX6_leastRest, Cond.selects RX6 yX6_leastRest yX6_leastRest, Cond.code yX6_leastRest cX6_leastRest 6 (some .int), Cond.methodLink RX6 75 yX6_chooseFirst, Cond.instanceMethod yX6_chooseFirst, Cond.selects RX6 yX6_chooseFirst yX6_chooseFirst, Cond.code yX6_chooseFirst cX6_chooseFirst 5 none, Cond.fieldLink RX6 85 "DustCart$Ways" "roundCost" "I", Cond.fieldLink RX6 88 "DustCart$Ways" "roundFirst" "I", Cond.methodLink RL 80 yX9_round, Cond.instanceMethod yX9_round, Cond.selects RX9 yX9_round yX9_round, Cond.code yX9_round cX9_round 5 (some .int), Cond.fieldLink RX9 326 "DustCartModel" "leastRound" "I", Cond.fieldLink RX9 329 "DustCartModel" "firstStone" "I", Cond.methodLink RX9 336 yX9_toNorth, Cond.instanceMethod yX9_toNorth, Cond.selects RX9 yX9_toNorth yX9_toNorth, Cond.code yX9_toNorth cX9_toNorth 4 (some .int), Cond.methodLink RX9 332 yX9_goRound, Cond.instanceMethod yX9_goRound]
def wsL_law_r36 : List Cond := [Cond.selects RX9 yX9_goRound yX9_goRound, Cond.code yX9_goRound cX9_goRound 7 none, Cond.methodLink RL 81 yX8_lasts, Cond.instanceMethod yX8_lasts, Cond.selects RX8 yX8_lasts yX8_lasts, Cond.code yX8_lasts cX8_lasts 3 (some .int), Cond.methodLink RX8 243 Lib.Math.max.name, Cond.methodLink RX8 240 yX3_sun, Cond.methodLink RX8 246 yX3_wind, Cond.methodLink RX8 249 yX0_liveUnder, Cond.methodLink RL 84 yX9_lasts, Cond.instanceMethod yX9_lasts, Cond.selects RX9 yX9_lasts yX9_lasts, Cond.code yX9_lasts cX9_lasts 4 (some .int), Cond.methodLink RL 85 yX8_clean, Cond.instanceMethod yX8_clean, Cond.selects RX8 yX8_clean yX8_clean, Cond.code yX8_clean cX8_clean 12 (some .long), Cond.constantLong RX8 253 (-9223372036854775808), Cond.constantLong RX8 258 (12), Cond.methodLink RX8 255 yX3_odds, Cond.instanceMethod yX3_odds, Cond.selects RX3 yX3_odds yX3_odds, Cond.code yX3_odds cX3_odds 1 (some .int)]
def wsL_law_r37 : List Cond := [Cond.methodLink RX8 260 yX8_power, Cond.static yX8_power, Cond.code yX8_power cX8_power 6 (some .long), Cond.methodLink RX8 264 yX8_greatestCommon, Cond.static yX8_greatestCommon, Cond.code yX8_greatestCommon cX8_greatestCommon 11 (some .long), Cond.methodLink RL 89 yX9_clean, Cond.instanceMethod yX9_clean, Cond.selects RX9 yX9_clean yX9_clean, Cond.code yX9_clean cX9_clean 9 (some .long), Cond.constantLong RX9 341 (-9223372036854775808), Cond.methodLink RX9 343 yX9_power, Cond.static yX9_power, Cond.code yX9_power cX9_power 5 (some .long), Cond.methodLink RX9 347 yX9_part, Cond.static yX9_part, Cond.code yX9_part cX9_part 11 (some .long), Cond.methodLink RL 90 yX8_line, Cond.instanceMethod yX8_line, Cond.selects RX8 yX8_line yX8_line, Cond.code yX8_line cX8_line 9 (some .long), Cond.methodLink RX8 268 yX8_endOfLine, Cond.static yX8_endOfLine, Cond.code yX8_endOfLine cX8_endOfLine 4 (some .int)]
def wsL_law_r38 : List Cond := [Cond.methodLink RL 94 yX9_line, Cond.instanceMethod yX9_line, Cond.selects RX9 yX9_line yX9_line, Cond.code yX9_line cX9_line 6 (some .long), Cond.methodLink RX9 351 yX9_endOf, Cond.instanceMethod yX9_endOf, Cond.selects RX9 yX9_endOf yX9_endOf, Cond.code yX9_endOf cX9_endOf 5 (some .int), Cond.methodLink RL 95 yX8_drawn, Cond.instanceMethod yX8_drawn, Cond.selects RX8 yX8_drawn yX8_drawn, Cond.code yX8_drawn cX8_drawn 11 (some .int), Cond.constant RX8 271 (1103515245), Cond.methodLink RL 98 yX9_drawn, Cond.instanceMethod yX9_drawn, Cond.selects RX9 yX9_drawn yX9_drawn, Cond.code yX9_drawn cX9_drawn 10 (some .int), Cond.constant RX9 354 (1103515245), Cond.methodLink RL 99 yX8_judge, Cond.instanceMethod yX8_judge, Cond.selects RX8 yX8_judge yX8_judge, Cond.code yX8_judge cX8_judge 5 (some .int), Cond.methodLink RL 102 yX9_judge, Cond.instanceMethod yX9_judge]
def wsL_law_r39 : List Cond := [Cond.selects RX9 yX9_judge yX9_judge, Cond.code yX9_judge cX9_judge 4 (some .int), Cond.methodLink RL 103 yX8_image, Cond.instanceMethod yX8_image, Cond.selects RX8 yX8_image yX8_image, Cond.code yX8_image cX8_image 1 (some .int), Cond.methodLink RL 106 yX9_image, Cond.instanceMethod yX9_image, Cond.selects RX9 yX9_image yX9_image, Cond.code yX9_image cX9_image 1 (some .int), Cond.fieldLink RX9 355 "DustCartModel" "hasImage" "Z", Cond.fieldLink RX9 358 "DustCartModel" "imageToday" "I", Cond.fieldLink RX9 361 "DustCartModel" "imageCell" "I", Cond.fieldLink RX9 364 "DustCartModel" "imageStore" "I", Cond.fieldLink RX9 367 "DustCartModel" "imageDust" "I", Cond.fieldLink RX9 370 "DustCartModel" "imageLooked" "J", Cond.methodLink RL 107 yX8_back, Cond.instanceMethod yX8_back, Cond.selects RX8 yX8_back yX8_back, Cond.code yX8_back cX8_back 1 (some .int), Cond.methodLink RL 110 yX9_back, Cond.instanceMethod yX9_back, Cond.selects RX9 yX9_back yX9_back, Cond.code yX9_back cX9_back 1 (some .int)]
def wsL_law_r40 : List Cond := [Cond.methodLink RL 111 yX8_undo, Cond.instanceMethod yX8_undo, Cond.selects RX8 yX8_undo yX8_undo, Cond.code yX8_undo cX8_undo 1 (some .int), Cond.fieldLink RX8 276 "DustCart$Changes" "done" "I", Cond.methodLink RX8 272 yX1_takeBack, Cond.instanceMethod yX1_takeBack, Cond.selects RX1 yX1_takeBack yX1_takeBack, Cond.code yX1_takeBack cX1_takeBack 2 (some .boolean), Cond.methodLink RX1 35 yX3_tell, Cond.methodLink RL 114 yX9_undo, Cond.instanceMethod yX9_undo, Cond.selects RX9 yX9_undo yX9_undo, Cond.code yX9_undo cX9_undo 1 (some .int), Cond.methodLink RL 115 yX8_redo, Cond.instanceMethod yX8_redo, Cond.selects RX8 yX8_redo yX8_redo, Cond.code yX8_redo cX8_redo 1 (some .int), Cond.fieldLink RX8 282 "DustCart$Changes" "known" "I", Cond.methodLink RX8 279 yX1_bringBack, Cond.instanceMethod yX1_bringBack, Cond.selects RX1 yX1_bringBack yX1_bringBack, Cond.code yX1_bringBack cX1_bringBack 2 (some .boolean), Cond.methodLink RL 118 yX9_redo]
def wsL_law_r41 : List Cond := [Cond.instanceMethod yX9_redo, Cond.selects RX9 yX9_redo yX9_redo, Cond.code yX9_redo cX9_redo 1 (some .int), Cond.methodLink RL 119 yX8_body, Cond.instanceMethod yX8_body, Cond.selects RX8 yX8_body yX8_body, Cond.code yX8_body cX8_body 3 (some .int), Cond.methodLink RX8 285 yX7_isKind, Cond.static yX7_isKind, Cond.code yX7_isKind cX7_isKind 1 (some .boolean), Cond.methodLink RX8 288 yX7_add, Cond.instanceMethod yX7_add, Cond.selects RX7 yX7_add yX7_add, Cond.code yX7_add cX7_add 2 (some .int), Cond.fieldLink RX7 23 "DustCart$Wheels" "kept" "I", Cond.methodLink RL 122 yX9_body, Cond.instanceMethod yX9_body, Cond.selects RX9 yX9_body yX9_body, Cond.code yX9_body cX9_body 2 (some .int), Cond.fieldLink RX9 373 "DustCartModel" "bodies" "I", Cond.methodLink RL 123 yX8_act, Cond.instanceMethod yX8_act, Cond.selects RX8 yX8_act yX8_act, Cond.code yX8_act cX8_act 4 (some .int)]
def wsL_law_r42 : List Cond := [Cond.methodLink RX8 291 yX7_perform, Cond.instanceMethod yX7_perform, Cond.selects RX7 yX7_perform yX7_perform, Cond.code yX7_perform cX7_perform 4 (some .int), Cond.fieldLink RX7 30 "DustCart$Wheels" "begun" "I", Cond.fieldLink RX7 33 "DustCart$Wheels" "number" "I", Cond.methodLink RX7 27 yX7_has, Cond.instanceMethod yX7_has, Cond.selects RX7 yX7_has yX7_has, Cond.code yX7_has cX7_has 2 (some .boolean), Cond.methodLink RX7 36 yX7_kindOf, Cond.instanceMethod yX7_kindOf, Cond.selects RX7 yX7_kindOf yX7_kindOf, Cond.code yX7_kindOf cX7_kindOf 2 (some .int), Cond.methodLink RX7 40 yX7_begin, Cond.instanceMethod yX7_begin, Cond.selects RX7 yX7_begin yX7_begin, Cond.code yX7_begin cX7_begin 7 (some .int), Cond.fieldLink RX7 44 "DustCart$Wheels" "BODIES" "[I", Cond.fieldLink RX7 20 "DustCart$Wheels" "ABOVE" "[I", Cond.methodLink RX7 16 yX7_isKind, Cond.methodLink RX7 47 yX7_answerOfWheel, Cond.instanceMethod yX7_answerOfWheel, Cond.selects RX7 yX7_answerOfWheel yX7_answerOfWheel]
def wsL_law_r43 : List Cond := [Cond.methodLink RX7 51 yX7_answerUnder, Cond.instanceMethod yX7_answerUnder, Cond.selects RX7 yX7_answerUnder yX7_answerUnder, Cond.code yX7_answerOfWheel cX7_answerOfWheel 4 (some .int), Cond.methodLink RX7 55 yX7_own, Cond.instanceMethod yX7_own, Cond.selects RX7 yX7_own yX7_own, Cond.code yX7_answerUnder cX7_answerUnder 7 (some .int), Cond.code yX7_own cX7_own 4 (some .int), Cond.methodLink RL 126 yX9_act, Cond.instanceMethod yX9_act, Cond.selects RX9 yX9_act yX9_act, Cond.code yX9_act cX9_act 4 (some .int), Cond.fieldLink RX9 376 "DustCartModel" "traces" "I", Cond.methodLink RX9 415 yX9_isBody, Cond.instanceMethod yX9_isBody, Cond.selects RX9 yX9_isBody yX9_isBody, Cond.code yX9_isBody cX9_isBody 2 (some .boolean), Cond.methodLink RX9 391 yX9_turning, Cond.instanceMethod yX9_turning, Cond.selects RX9 yX9_turning yX9_turning, Cond.code yX9_turning cX9_turning 3 (some .int), Cond.methodLink RX9 385 yX9_isUnder, Cond.static yX9_isUnder]
def wsL_law_r44 : List Cond := [Cond.code yX9_isUnder cX9_isUnder 2 (some .boolean), Cond.methodLink RX9 379 yX9_ran, Cond.instanceMethod yX9_ran, Cond.selects RX9 yX9_ran yX9_ran, Cond.code yX9_ran cX9_ran 2 none, Cond.methodLink RX9 382 yX9_plainTurns, Cond.instanceMethod yX9_plainTurns, Cond.selects RX9 yX9_plainTurns yX9_plainTurns, Cond.code yX9_plainTurns cX9_plainTurns 3 (some .int), Cond.methodLink RX9 388 yX9_northTurns, Cond.instanceMethod yX9_northTurns, Cond.selects RX9 yX9_northTurns yX9_northTurns, Cond.code yX9_northTurns cX9_northTurns 3 (some .int), Cond.methodLink RX9 409 yX9_moving, Cond.instanceMethod yX9_moving, Cond.selects RX9 yX9_moving yX9_moving, Cond.code yX9_moving cX9_moving 4 (some .int), Cond.methodLink RX9 397 yX9_dustyMoves, Cond.instanceMethod yX9_dustyMoves, Cond.selects RX9 yX9_dustyMoves yX9_dustyMoves, Cond.code yX9_dustyMoves cX9_dustyMoves 3 (some .int), Cond.methodLink RX9 394 yX9_plainMoves, Cond.instanceMethod yX9_plainMoves, Cond.selects RX9 yX9_plainMoves yX9_plainMoves]
def wsL_law_r45 : List Cond := [Cond.code yX9_plainMoves cX9_plainMoves 3 (some .int), Cond.methodLink RX9 400 yX9_looking, Cond.instanceMethod yX9_looking, Cond.selects RX9 yX9_looking yX9_looking, Cond.code yX9_looking cX9_looking 4 (some .int), Cond.methodLink RX9 406 yX9_cleanLooks, Cond.instanceMethod yX9_cleanLooks, Cond.selects RX9 yX9_cleanLooks yX9_cleanLooks, Cond.code yX9_cleanLooks cX9_cleanLooks 3 (some .int), Cond.methodLink RX9 403 yX9_plainLooks, Cond.instanceMethod yX9_plainLooks, Cond.selects RX9 yX9_plainLooks yX9_plainLooks, Cond.code yX9_plainLooks cX9_plainLooks 3 (some .int), Cond.methodLink RX9 418 yX9_telling, Cond.instanceMethod yX9_telling, Cond.selects RX9 yX9_telling yX9_telling, Cond.code yX9_telling cX9_telling 3 (some .int), Cond.methodLink RX9 412 yX9_plainTells, Cond.instanceMethod yX9_plainTells, Cond.selects RX9 yX9_plainTells yX9_plainTells, Cond.code yX9_plainTells cX9_plainTells 4 (some .int), Cond.methodLink RL 127 yX8_trace, Cond.instanceMethod yX8_trace, Cond.selects RX8 yX8_trace yX8_trace]
def wsL_law_r46 : List Cond := [Cond.code yX8_trace cX8_trace 3 (some .int), Cond.methodLink RX8 295 yX7_ranAt, Cond.instanceMethod yX7_ranAt, Cond.selects RX7 yX7_ranAt yX7_ranAt, Cond.code yX7_ranAt cX7_ranAt 2 (some .int), Cond.methodLink RL 130 yX9_trace, Cond.instanceMethod yX9_trace, Cond.selects RX9 yX9_trace yX9_trace, Cond.code yX9_trace cX9_trace 2 (some .int), Cond.methodLink RL 131 yX8_keep, Cond.instanceMethod yX8_keep, Cond.selects RX8 yX8_keep yX8_keep, Cond.code yX8_keep cX8_keep 3 (some .int), Cond.methodLink RX8 298 yX7_has, Cond.methodLink RX8 301 yX5_holdNothing, Cond.instanceMethod yX5_holdNothing, Cond.selects RX5 yX5_holdNothing yX5_holdNothing, Cond.code yX5_holdNothing cX5_holdNothing 1 none, Cond.methodLink RX8 304 yX5_holdBody, Cond.instanceMethod yX5_holdBody, Cond.selects RX5 yX5_holdBody yX5_holdBody, Cond.code yX5_holdBody cX5_holdBody 2 none, Cond.fieldLink RX5 20 "DustCart$Shelf" "body" "I", Cond.methodLink RL 134 yX9_keep]
def wsL_law_r47 : List Cond := [Cond.instanceMethod yX9_keep, Cond.selects RX9 yX9_keep yX9_keep, Cond.code yX9_keep cX9_keep 3 (some .int), Cond.methodLink RL 135 yX8_row, Cond.instanceMethod yX8_row, Cond.selects RX8 yX8_row yX8_row, Cond.code yX8_row cX8_row 4 (some .int), Cond.methodLink RX8 308 yX5_holdRow, Cond.instanceMethod yX5_holdRow, Cond.selects RX5 yX5_holdRow yX5_holdRow, Cond.code yX5_holdRow cX5_holdRow 3 none, Cond.methodLink RX5 23 Lib.Math.max.name, Cond.methodLink RX5 29 Lib.Math.min.name, Cond.methodLink RX5 35 yJ7_fill_d0a16, Cond.static yJ7_fill_d0a16, Cond.code yJ7_fill_d0a16 cJ7_fill_d0a16 5 none, Cond.methodLink RL 138 yX9_row, Cond.instanceMethod yX9_row, Cond.selects RX9 yX9_row yX9_row, Cond.code yX9_row cX9_row 5 (some .int), Cond.methodLink RL 141 yX8_put, Cond.instanceMethod yX8_put, Cond.selects RX8 yX8_put yX8_put, Cond.code yX8_put cX8_put 6 (some .int)]
def wsL_law_r48 : List Cond := [Cond.methodLink RX8 311 yX8_refusedPlace, Cond.static yX8_refusedPlace, Cond.code yX8_refusedPlace cX8_refusedPlace 2 (some .int), Cond.methodLink RX8 318 yX5_isRow, Cond.instanceMethod yX5_isRow, Cond.selects RX5 yX5_isRow yX5_isRow, Cond.code yX5_isRow cX5_isRow 1 (some .boolean), Cond.methodLink RX8 321 yX5_hasPlaces, Cond.methodLink RX8 314 yX5_set, Cond.instanceMethod yX5_set, Cond.selects RX5 yX5_set yX5_set, Cond.code yX5_set cX5_set 4 none, Cond.methodLink RX5 45 yX5_narrowed, Cond.instanceMethod yX5_narrowed, Cond.selects RX5 yX5_narrowed yX5_narrowed, Cond.code yX5_narrowed cX5_narrowed 3 (some .long), Cond.methodLink RL 145 yX9_put, Cond.instanceMethod yX9_put, Cond.selects RX9 yX9_put yX9_put, Cond.code yX9_put cX9_put 7 (some .int), Cond.methodLink RX9 427 yX9_whyNoPlace, Cond.instanceMethod yX9_whyNoPlace, Cond.selects RX9 yX9_whyNoPlace yX9_whyNoPlace, Cond.code yX9_whyNoPlace cX9_whyNoPlace 3 (some .int)]
def wsL_law_r49 : List Cond := [Cond.methodLink RL 146 yX8_element, Cond.instanceMethod yX8_element, Cond.selects RX8 yX8_element yX8_element, Cond.code yX8_element cX8_element 3 (some .long), Cond.methodLink RL 149 yX9_element, Cond.instanceMethod yX9_element, Cond.selects RX9 yX9_element yX9_element, Cond.code yX9_element cX9_element 3 (some .long), Cond.methodLink RL 150 yX8_shift, Cond.instanceMethod yX8_shift, Cond.selects RX8 yX8_shift yX8_shift, Cond.code yX8_shift cX8_shift 8 (some .int), Cond.fieldLink RX8 324 "DustCart$Shelf" "sort" "I", Cond.fieldLink RX8 327 "DustCart$Shelf" "elements" "[J", Cond.methodLink RX8 331 arraycopyName, Cond.methodLink RL 154 yX9_shift, Cond.instanceMethod yX9_shift, Cond.selects RX9 yX9_shift yX9_shift, Cond.code yX9_shift cX9_shift 7 (some .int), Cond.methodLink RL 155 yX8_taken, Cond.instanceMethod yX8_taken, Cond.selects RX8 yX8_taken yX8_taken, Cond.code yX8_taken cX8_taken 4 (some .int), Cond.fieldLink RX8 337 "DustCart$Shelf" "body" "I"]
def wsL_law_r50 : List Cond := [Cond.methodLink RX8 340 yX7_kindOf, Cond.methodLink RX8 343 yX7_isUnder, Cond.static yX7_isUnder, Cond.code yX7_isUnder cX7_isUnder 4 (some .boolean), Cond.methodLink RL 158 yX9_taken, Cond.instanceMethod yX9_taken, Cond.selects RX9 yX9_taken yX9_taken, Cond.code yX9_taken cX9_taken 3 (some .int), Cond.methodLink RL 159 yX8_count, Cond.instanceMethod yX8_count, Cond.selects RX8 yX8_count yX8_count, Cond.code yX8_count cX8_count 2 (some .int), Cond.fieldLink RX8 352 "DustCart$Wheels" "kept" "I", Cond.fieldLink RX8 354 "DustCart$Wheels" "begun" "I", Cond.methodLink RX8 346 yX3_stones, Cond.instanceMethod yX3_stones, Cond.selects RX3 yX3_stones yX3_stones, Cond.code yX3_stones cX3_stones 3 (some .int), Cond.methodLink RX3 40 yX3_isStone, Cond.methodLink RX8 349 yX3_hollows, Cond.instanceMethod yX3_hollows, Cond.selects RX3 yX3_hollows yX3_hollows, Cond.code yX3_hollows cX3_hollows 3 (some .int), Cond.methodLink RX3 44 yX3_isHollow]
def wsL_law_r51 : List Cond := [Cond.methodLink RL 162 yX9_count, Cond.instanceMethod yX9_count, Cond.selects RX9 yX9_count yX9_count, Cond.code yX9_count cX9_count 2 (some .int), Cond.methodLink RX9 421 yX9_stones, Cond.instanceMethod yX9_stones, Cond.selects RX9 yX9_stones yX9_stones, Cond.code yX9_stones cX9_stones 3 (some .int), Cond.methodLink RX9 424 yX9_hollows, Cond.instanceMethod yX9_hollows, Cond.selects RX9 yX9_hollows yX9_hollows, Cond.code yX9_hollows cX9_hollows 3 (some .int)]
def wsL_law : List Cond := (wsL_law_r1 ++ (wsL_law_r2 ++ (wsL_law_r3 ++ (wsL_law_r4 ++ (wsL_law_r5 ++ (wsL_law_r6 ++ (wsL_law_r7 ++ (wsL_law_r8 ++ (wsL_law_r9 ++ (wsL_law_r10 ++ (wsL_law_r11 ++ (wsL_law_r12 ++ (wsL_law_r13 ++ (wsL_law_r14 ++ (wsL_law_r15 ++ (wsL_law_r16 ++ (wsL_law_r17 ++ (wsL_law_r18 ++ (wsL_law_r19 ++ (wsL_law_r20 ++ (wsL_law_r21 ++ (wsL_law_r22 ++ (wsL_law_r23 ++ (wsL_law_r24 ++ (wsL_law_r25 ++ (wsL_law_r26 ++ (wsL_law_r27 ++ (wsL_law_r28 ++ (wsL_law_r29 ++ (wsL_law_r30 ++ (wsL_law_r31 ++ (wsL_law_r32 ++ (wsL_law_r33 ++ (wsL_law_r34 ++ (wsL_law_r35 ++ (wsL_law_r36 ++ (wsL_law_r37 ++ (wsL_law_r38 ++ (wsL_law_r39 ++ (wsL_law_r40 ++ (wsL_law_r41 ++ (wsL_law_r42 ++ (wsL_law_r43 ++ (wsL_law_r44 ++ (wsL_law_r45 ++ (wsL_law_r46 ++ (wsL_law_r47 ++ (wsL_law_r48 ++ (wsL_law_r49 ++ (wsL_law_r50 ++ wsL_law_r51)))))))))))))))))))))))))))))))))))))))))))))))))) ++ wsX80 ++ wsX90 ++ wsX30 ++ wsX00 ++ wsX20 ++ wsX60 ++ wsX40 ++ wsX10 ++ wsX50 ++ wsX70 ++ ([] : List Cond)
set_option maxRecDepth 20000 in
theorem wsL_law_in : ∀ w ∈ wsL_law, w ∈ lw_tbl := fun w h => (goodIn_p wsL_law [113, 116, 121, 132, 162, 201, 234, 260, 285, 312, 970, 378, 381, 388, 396, 400, 404, 408, 1169, 1173, 1176, 1179, 1182, 1185, 1189, 1193, 1161, 415, 419, 422, 426, 429, 433, 437, 441, 444, 1197, 1201, 1204, 1208, 1211, 451, 454, 458, 462, 466, 470, 474, 1215, 1218, 478, 482, 1222, 486, 490, 494, 498, 544, 522, 533, 502, 506, 540, 548, 518, 525, 529, 536, 514, 510, 1226, 1230, 1234, 1238, 1262, 1269, 1242, 1246, 1258, 1265, 1273, 1277, 1281, 1254, 1250, 553, 558, 561, 1285, 1289, 565, 569, 573, 577, 582, 586, 590, 594, 597, 602, 605, 1293, 1297, 1301, 1305, 1308, 609, 613, 617, 621, 626, 642, 630, 635, 1312, 1316, 1320, 1324, 1328, 1331, 1334, 646, 1338, 650, 653, 1342, 657, 661, 665, 669, 672, 676, 1346, 1350, 1354, 1358, 1362, 1366, 1370, 680, 1374, 685, 1378, 689, 693, 698, 702, 709, 714, 1382, 1386, 719, 723, 726, 729, 735, 739, 1391, 1395, 1399, 1403, 748, 752, 756, 763, 767, 1407, 1411, 1415, 771, 1419, 779, 784, 788, 791, 1423, 1427, 1430, 795, 798, 1434, 1438, 802, 1442, 807, 1447, 811, 1451, 815, 1455, 819, 823, 1157, 828, 832, 1165, 836, 839, 843, 1463, 847, 851, 855, 859, 863, 872, 880, 876, 1467, 1471, 1475, 1478, 1482, 1486, 1490, 1494, 1498, 1502, 1506, 1510, 1514, 1518, 1522, 884, 888, 1459, 892, 897, 901, 1538, 905, 909, 914, 1542, 918, 921, 925, 930, 934, 1546, 1550, 938, 1554, 942, 1558, 947, 951, 1562, 955, 959, 964, 1526, 1530, 1534] (by decide +kernel) (by decide +kernel) w h).1
theorem inlX0 : ∀ w ∈ wsX00, w ∈ wsL_law := fun _ h => List.mem_append_left _ (List.mem_append_left _ (List.mem_append_left _ (List.mem_append_left _ (List.mem_append_left _ (List.mem_append_left _ (List.mem_append_left _ (List.mem_append_right _ h)))))))
theorem inX0 : ∀ w ∈ wsX00, w ∈ lw_tbl := fun w h => wsL_law_in w (inlX0 w h)
theorem inlX1 : ∀ w ∈ wsX10, w ∈ wsL_law := fun _ h => List.mem_append_left _ (List.mem_append_left _ (List.mem_append_left _ (List.mem_append_right _ h)))
theorem inX1 : ∀ w ∈ wsX10, w ∈ lw_tbl := fun w h => wsL_law_in w (inlX1 w h)
theorem inlX2 : ∀ w ∈ wsX20, w ∈ wsL_law := fun _ h => List.mem_append_left _ (List.mem_append_left _ (List.mem_append_left _ (List.mem_append_left _ (List.mem_append_left _ (List.mem_append_left _ (List.mem_append_right _ h))))))
theorem inX2 : ∀ w ∈ wsX20, w ∈ lw_tbl := fun w h => wsL_law_in w (inlX2 w h)
theorem inlX3 : ∀ w ∈ wsX30, w ∈ wsL_law := fun _ h => List.mem_append_left _ (List.mem_append_left _ (List.mem_append_left _ (List.mem_append_left _ (List.mem_append_left _ (List.mem_append_left _ (List.mem_append_left _ (List.mem_append_left _ (List.mem_append_right _ h))))))))
theorem inX3 : ∀ w ∈ wsX30, w ∈ lw_tbl := fun w h => wsL_law_in w (inlX3 w h)
theorem inlX4 : ∀ w ∈ wsX40, w ∈ wsL_law := fun _ h => List.mem_append_left _ (List.mem_append_left _ (List.mem_append_left _ (List.mem_append_left _ (List.mem_append_right _ h))))
theorem inX4 : ∀ w ∈ wsX40, w ∈ lw_tbl := fun w h => wsL_law_in w (inlX4 w h)
theorem inlX5 : ∀ w ∈ wsX50, w ∈ wsL_law := fun _ h => List.mem_append_left _ (List.mem_append_left _ (List.mem_append_right _ h))
theorem inX5 : ∀ w ∈ wsX50, w ∈ lw_tbl := fun w h => wsL_law_in w (inlX5 w h)
theorem inlX6 : ∀ w ∈ wsX60, w ∈ wsL_law := fun _ h => List.mem_append_left _ (List.mem_append_left _ (List.mem_append_left _ (List.mem_append_left _ (List.mem_append_left _ (List.mem_append_right _ h)))))
theorem inX6 : ∀ w ∈ wsX60, w ∈ lw_tbl := fun w h => wsL_law_in w (inlX6 w h)
theorem inlX7 : ∀ w ∈ wsX70, w ∈ wsL_law := fun _ h => List.mem_append_left _ (List.mem_append_right _ h)
theorem inX7 : ∀ w ∈ wsX70, w ∈ lw_tbl := fun w h => wsL_law_in w (inlX7 w h)
theorem inlX8 : ∀ w ∈ wsX80, w ∈ wsL_law := fun _ h => List.mem_append_left _ (List.mem_append_left _ (List.mem_append_left _ (List.mem_append_left _ (List.mem_append_left _ (List.mem_append_left _ (List.mem_append_left _ (List.mem_append_left _ (List.mem_append_left _ (List.mem_append_left _ (List.mem_append_right _ h))))))))))
theorem inX8 : ∀ w ∈ wsX80, w ∈ lw_tbl := fun w h => wsL_law_in w (inlX8 w h)
theorem inlX9 : ∀ w ∈ wsX90, w ∈ wsL_law := fun _ h => List.mem_append_left _ (List.mem_append_left _ (List.mem_append_left _ (List.mem_append_left _ (List.mem_append_left _ (List.mem_append_left _ (List.mem_append_left _ (List.mem_append_left _ (List.mem_append_left _ (List.mem_append_right _ h)))))))))
theorem inX9 : ∀ w ∈ wsX90, w ∈ lw_tbl := fun w h => wsL_law_in w (inlX9 w h)
abbrev vwCl : List vw_C := [(RX0, TX0, 4), (RX1, TX1, 5), (RX2, TX2, 10), (RX3, TX3, 1), (RX4, TX4, 5), (RX5, TX5, 5), (RX6, TX6, 8), (RX7, TX7, 5), (RX8, TX8, 14), (RX9, TX9, 60)]
/-- the objects of DustCart$Cart, kind 0: what each holds, by its address -/
structure wK_O_Cart where
  f_cell : Nat → Int32
  f_store : Nat → Int32
  f_dust : Nat → Int32
  f_looked : Nat → Int64
/-- the objects of DustCart$Changes, kind 1: what each holds, by its address -/
structure wK_O_Changes where
  f_places : Nat → Option Nat
  f_before : Nat → Option Nat
  f_behind : Nat → Option Nat
  f_done : Nat → Int32
  f_known : Nat → Int32
/-- the objects of DustCart$Law, kind 2: what each holds, by its address -/
structure wK_O_Law where
  f_tape : Nat → Option Nat
  f_draft : Nat → Option Nat
  f_codes : Nat → Option Nat
  f_stack : Nat → Option Nat
  f_drafted : Nat → Int32
  f_coded : Nat → Int32
  f_high : Nat → Int32
  f_place : Nat → Int32
  f_fault : Nat → Int32
  f_fed : Nat → Int32
/-- the objects of DustCart$Plain, kind 3: what each holds, by its address -/
structure wK_O_Plain where
  f_numbers : Nat → Option Nat
/-- the objects of DustCart$Reach, kind 4: what each holds, by its address -/
structure wK_O_Reach where
  f_now : Nat → Option Nat
  f_next : Nat → Option Nat
  f_trial : Nat → Option Nat
  f_taken : Nat → Int32
  f_most : Nat → Int32
/-- the objects of DustCart$Shelf, kind 5: what each holds, by its address -/
structure wK_O_Shelf where
  f_elements : Nat → Option Nat
  f_holds : Nat → Int32
  f_body : Nat → Int32
  f_sort : Nat → Int32
  f_length : Nat → Int32
/-- the objects of DustCart$Ways, kind 6: what each holds, by its address -/
structure wK_O_Ways where
  f_left : Nat → Option Nat
  f_stones : Nat → Option Nat
  f_toStone : Nat → Option Nat
  f_between : Nat → Option Nat
  f_rest : Nat → Option Nat
  f_many : Nat → Int32
  f_roundCost : Nat → Int32
  f_roundFirst : Nat → Int32
/-- the objects of DustCart$Wheels, kind 7: what each holds, by its address -/
structure wK_O_Wheels where
  f_kinds : Nat → Option Nat
  f_ran : Nat → Option Nat
  f_number : Nat → Int32
  f_kept : Nat → Int32
  f_begun : Nat → Int32
/-- the objects of DustCart, kind 8: what each holds, by its address -/
structure wK_O_DustCart where
  f_plain : Nat → Option Nat
  f_cart : Nat → Option Nat
  f_thought : Nat → Option Nat
  f_kept : Nat → Option Nat
  f_orders : Nat → Option Nat
  f_could : Nat → Option Nat
  f_rule : Nat → Option Nat
  f_ways : Nat → Option Nat
  f_reach : Nat → Option Nat
  f_changes : Nat → Option Nat
  f_shelves : Nat → Option Nat
  f_wheels : Nat → Option Nat
  f_today : Nat → Int32
  f_keptDay : Nat → Int32
/-- the objects of DustCartModel, kind 9: what each holds, by its address -/
structure wK_O_DustCartModel where
  f_code : Nat → Int32
  f_high : Nat → Option Nat
  f_stone : Nat → Option Nat
  f_sun : Nat → Option Nat
  f_wind : Nat → Option Nat
  f_wheels : Nat → Int32
  f_odds : Nat → Int32
  f_today : Nat → Int32
  f_cell : Nat → Int32
  f_store : Nat → Int32
  f_dust : Nat → Int32
  f_looked : Nat → Int64
  f_ledOrder : Nat → Option Nat
  f_ledCould : Nat → Option Nat
  f_doneMany : Nat → Int32
  f_undoneMany : Nat → Int32
  f_changeOf : Nat → Option Nat
  f_changeAt : Nat → Option Nat
  f_before : Nat → Option Nat
  f_behind : Nat → Option Nat
  f_tape : Nat → Option Nat
  f_taped : Nat → Int32
  f_here : Nat → Int32
  f_fault : Nat → Int32
  f_open : Nat → Int32
  f_laid : Nat → Int32
  f_act : Nat → Option Nat
  f_with : Nat → Option Nat
  f_lineMany : Nat → Option Nat
  f_testEnd : Nat → Option Nat
  f_lineEnd : Nat → Option Nat
  f_facts : Nat → Option Nat
  f_pile : Nat → Option Nat
  f_hasLaw : Nat → Int32
  f_keptCell : Nat → Int32
  f_keptStore : Nat → Int32
  f_keptDust : Nat → Int32
  f_keptLooked : Nat → Int64
  f_far : Nat → Option Nat
  f_now : Nat → Option Nat
  f_later : Nat → Option Nat
  f_left : Nat → Option Nat
  f_between : Nat → Option Nat
  f_north : Nat → Option Nat
  f_leastRound : Nat → Int32
  f_firstStone : Nat → Int32
  f_hasImage : Nat → Int32
  f_imageToday : Nat → Int32
  f_imageCell : Nat → Int32
  f_imageStore : Nat → Int32
  f_imageDust : Nat → Int32
  f_imageLooked : Nat → Int64
  f_bodies : Nat → Int32
  f_kind : Nat → Option Nat
  f_traces : Nat → Int32
  f_traced : Nat → Option Nat
  f_holds : Nat → Option Nat
  f_size : Nat → Option Nat
  f_elements : Nat → Option Nat
  f_shifted : Nat → Option Nat
/-- the arrays of kind 10: what each holds, by its address -/
structure wK_R_B where
  len : Nat → Nat
  row : Nat → Nat → Int32
/-- the arrays of kind 11: what each holds, by its address -/
structure wK_R_I where
  len : Nat → Nat
  row : Nat → Nat → Int32
/-- the arrays of kind 12: what each holds, by its address -/
structure wK_R_J where
  len : Nat → Nat
  row : Nat → Nat → Int64
/-- the arrays of kind 13: what each holds, by its address -/
structure wK_R_S where
  len : Nat → Nat
  row : Nat → Nat → Int32
/-- the arrays of kind 14: what each holds, by its address -/
structure wK_R_Z where
  len : Nat → Nat
  row : Nat → Nat → Int32
/-- the arrays of kind 15: what each holds, by its address -/
structure wK_R_Shelf where
  len : Nat → Nat
  row : Nat → Nat → Option Nat
/-- the pool: the addresses, the kind of each, and the kinds -/
structure wPS where
  L : List Nat
  K : Nat → Nat
  O_Cart : wK_O_Cart
  O_Changes : wK_O_Changes
  O_Law : wK_O_Law
  O_Plain : wK_O_Plain
  O_Reach : wK_O_Reach
  O_Shelf : wK_O_Shelf
  O_Ways : wK_O_Ways
  O_Wheels : wK_O_Wheels
  O_DustCart : wK_O_DustCart
  O_DustCartModel : wK_O_DustCartModel
  R_B : wK_R_B
  R_I : wK_R_I
  R_J : wK_R_J
  R_S : wK_R_S
  R_Z : wK_R_Z
  R_Shelf : wK_R_Shelf
/-- the empty pool -/
end
section
theorem dX0_init_0 : decode cX0_init 0 = .ok (.aload_n 0, 1) := by decide +kernel
theorem dX0_init_1 : decode cX0_init 1 = .ok (.invokespecial 3, 3) := by decide +kernel
theorem dX0_init_4 : decode cX0_init 4 = .ok (.aload_n 0, 1) := by decide +kernel
theorem dX0_init_5 : decode cX0_init 5 = .ok (.bipush 50, 2) := by decide +kernel
theorem dX0_init_7 : decode cX0_init 7 = .ok (.putfield 9, 3) := by decide +kernel
theorem dX0_init_10 : decode cX0_init 10 = .ok (.return_, 1) := by decide +kernel
theorem dX0_become_0 : decode cX0_become 0 = .ok (.aload_n 0, 1) := by decide +kernel
theorem dX0_become_1 : decode cX0_become 1 = .ok (.aload_n 1, 1) := by decide +kernel
theorem dX0_become_2 : decode cX0_become 2 = .ok (.getfield 15, 3) := by decide +kernel
theorem dX0_become_5 : decode cX0_become 5 = .ok (.aload_n 1, 1) := by decide +kernel
theorem dX0_become_6 : decode cX0_become 6 = .ok (.getfield 9, 3) := by decide +kernel
theorem dX0_become_9 : decode cX0_become 9 = .ok (.aload_n 1, 1) := by decide +kernel
theorem dX0_become_10 : decode cX0_become 10 = .ok (.getfield 18, 3) := by decide +kernel
theorem dX0_become_13 : decode cX0_become 13 = .ok (.invokevirtual 21, 3) := by decide +kernel
theorem dX0_become_16 : decode cX0_become 16 = .ok (.aload_n 0, 1) := by decide +kernel
theorem dX0_become_17 : decode cX0_become 17 = .ok (.aload_n 1, 1) := by decide +kernel
theorem dX0_become_18 : decode cX0_become 18 = .ok (.getfield 25, 3) := by decide +kernel
theorem dX0_become_21 : decode cX0_become 21 = .ok (.putfield 25, 3) := by decide +kernel
theorem dX0_become_24 : decode cX0_become 24 = .ok (.return_, 1) := by decide +kernel
theorem dX0_place_0 : decode cX0_place 0 = .ok (.aload_n 0, 1) := by decide +kernel
theorem dX0_place_1 : decode cX0_place 1 = .ok (.iload_n 1, 1) := by decide +kernel
theorem dX0_place_2 : decode cX0_place 2 = .ok (.putfield 15, 3) := by decide +kernel
theorem dX0_place_5 : decode cX0_place 5 = .ok (.aload_n 0, 1) := by decide +kernel
theorem dX0_place_6 : decode cX0_place 6 = .ok (.iload_n 2, 1) := by decide +kernel
theorem dX0_place_7 : decode cX0_place 7 = .ok (.putfield 9, 3) := by decide +kernel
theorem dX0_place_10 : decode cX0_place 10 = .ok (.aload_n 0, 1) := by decide +kernel
theorem dX0_place_11 : decode cX0_place 11 = .ok (.iload_n 3, 1) := by decide +kernel
theorem dX0_place_12 : decode cX0_place 12 = .ok (.putfield 18, 3) := by decide +kernel
theorem dX0_place_15 : decode cX0_place 15 = .ok (.return_, 1) := by decide +kernel
theorem dX0_hasLookedAt_0 : decode cX0_hasLookedAt 0 = .ok (.aload_n 0, 1) := by decide +kernel
theorem dX0_hasLookedAt_1 : decode cX0_hasLookedAt 1 = .ok (.getfield 25, 3) := by decide +kernel
theorem dX0_hasLookedAt_4 : decode cX0_hasLookedAt 4 = .ok (.iload_n 1, 1) := by decide +kernel
theorem dX0_hasLookedAt_5 : decode cX0_hasLookedAt 5 = .ok (.lushr, 1) := by decide +kernel
theorem dX0_hasLookedAt_6 : decode cX0_hasLookedAt 6 = .ok (.lconst 1, 1) := by decide +kernel
theorem dX0_hasLookedAt_7 : decode cX0_hasLookedAt 7 = .ok (.land, 1) := by decide +kernel
theorem dX0_hasLookedAt_8 : decode cX0_hasLookedAt 8 = .ok (.lconst 0, 1) := by decide +kernel
theorem dX0_hasLookedAt_9 : decode cX0_hasLookedAt 9 = .ok (.lcmp, 1) := by decide +kernel
theorem dX0_hasLookedAt_10 : decode cX0_hasLookedAt 10 = .ok (.ifCond .eq 7, 3) := by decide +kernel
theorem dX0_hasLookedAt_13 : decode cX0_hasLookedAt 13 = .ok (.iconst 1, 1) := by decide +kernel
theorem dX0_hasLookedAt_14 : decode cX0_hasLookedAt 14 = .ok (.goto 4, 3) := by decide +kernel
theorem dX0_hasLookedAt_17 : decode cX0_hasLookedAt 17 = .ok (.iconst 0, 1) := by decide +kernel
theorem dX0_hasLookedAt_18 : decode cX0_hasLookedAt 18 = .ok (.ireturn, 1) := by decide +kernel
theorem dX0_isOnNewStone_0 : decode cX0_isOnNewStone 0 = .ok (.aload_n 1, 1) := by decide +kernel
theorem dX0_isOnNewStone_1 : decode cX0_isOnNewStone 1 = .ok (.aload_n 0, 1) := by decide +kernel
theorem dX0_isOnNewStone_2 : decode cX0_isOnNewStone 2 = .ok (.getfield 15, 3) := by decide +kernel
theorem dX0_isOnNewStone_5 : decode cX0_isOnNewStone 5 = .ok (.invokevirtual 29, 3) := by decide +kernel
theorem dX0_isOnNewStone_8 : decode cX0_isOnNewStone 8 = .ok (.ifCond .eq 18, 3) := by decide +kernel
theorem dX0_isOnNewStone_11 : decode cX0_isOnNewStone 11 = .ok (.aload_n 0, 1) := by decide +kernel
theorem dX0_isOnNewStone_12 : decode cX0_isOnNewStone 12 = .ok (.aload_n 0, 1) := by decide +kernel
theorem dX0_isOnNewStone_13 : decode cX0_isOnNewStone 13 = .ok (.getfield 15, 3) := by decide +kernel
theorem dX0_isOnNewStone_16 : decode cX0_isOnNewStone 16 = .ok (.invokevirtual 35, 3) := by decide +kernel
theorem dX0_isOnNewStone_19 : decode cX0_isOnNewStone 19 = .ok (.ifCond .ne 7, 3) := by decide +kernel
theorem dX0_isOnNewStone_22 : decode cX0_isOnNewStone 22 = .ok (.iconst 1, 1) := by decide +kernel
theorem dX0_isOnNewStone_23 : decode cX0_isOnNewStone 23 = .ok (.goto 4, 3) := by decide +kernel
theorem dX0_isOnNewStone_26 : decode cX0_isOnNewStone 26 = .ok (.iconst 0, 1) := by decide +kernel
theorem dX0_isOnNewStone_27 : decode cX0_isOnNewStone 27 = .ok (.ireturn, 1) := by decide +kernel
theorem dX0_live_0 : decode cX0_live 0 = .ok (.aload_n 0, 1) := by decide +kernel
theorem dX0_live_1 : decode cX0_live 1 = .ok (.aload_n 1, 1) := by decide +kernel
theorem dX0_live_2 : decode cX0_live 2 = .ok (.iload_n 2, 1) := by decide +kernel
theorem dX0_live_3 : decode cX0_live 3 = .ok (.iload_n 3, 1) := by decide +kernel
theorem dX0_live_4 : decode cX0_live 4 = .ok (.aload_n 1, 1) := by decide +kernel
theorem dX0_live_5 : decode cX0_live 5 = .ok (.iload_n 2, 1) := by decide +kernel
theorem dX0_live_6 : decode cX0_live 6 = .ok (.invokevirtual 38, 3) := by decide +kernel
theorem dX0_live_9 : decode cX0_live 9 = .ok (.aload_n 1, 1) := by decide +kernel
theorem dX0_live_10 : decode cX0_live 10 = .ok (.iload_n 2, 1) := by decide +kernel
theorem dX0_live_11 : decode cX0_live 11 = .ok (.invokevirtual 42, 3) := by decide +kernel
theorem dX0_live_14 : decode cX0_live 14 = .ok (.invokevirtual 45, 3) := by decide +kernel
theorem dX0_live_17 : decode cX0_live 17 = .ok (.ireturn, 1) := by decide +kernel
theorem dX0_liveUnder_0 : decode cX0_liveUnder 0 = .ok (.iload_n 3, 1) := by decide +kernel
theorem dX0_liveUnder_1 : decode cX0_liveUnder 1 = .ok (.iconst 5, 1) := by decide +kernel
theorem dX0_liveUnder_2 : decode cX0_liveUnder 2 = .ok (.if_icmp .ne 11, 3) := by decide +kernel
theorem dX0_liveUnder_5 : decode cX0_liveUnder 5 = .ok (.aload_n 0, 1) := by decide +kernel
theorem dX0_liveUnder_6 : decode cX0_liveUnder 6 = .ok (.aload_n 1, 1) := by decide +kernel
theorem dX0_liveUnder_7 : decode cX0_liveUnder 7 = .ok (.invokevirtual 49, 3) := by decide +kernel
theorem dX0_liveUnder_10 : decode cX0_liveUnder 10 = .ok (.goto 21, 3) := by decide +kernel
theorem dX0_liveUnder_13 : decode cX0_liveUnder 13 = .ok (.iload_n 3, 1) := by decide +kernel
theorem dX0_liveUnder_14 : decode cX0_liveUnder 14 = .ok (.ifCond .eq 12, 3) := by decide +kernel
theorem dX0_liveUnder_17 : decode cX0_liveUnder 17 = .ok (.aload_n 0, 1) := by decide +kernel
theorem dX0_liveUnder_18 : decode cX0_liveUnder 18 = .ok (.aload_n 1, 1) := by decide +kernel
theorem dX0_liveUnder_19 : decode cX0_liveUnder 19 = .ok (.iload_n 3, 1) := by decide +kernel
theorem dX0_liveUnder_20 : decode cX0_liveUnder 20 = .ok (.invokevirtual 53, 3) := by decide +kernel
theorem dX0_liveUnder_23 : decode cX0_liveUnder 23 = .ok (.ifCond .eq 7, 3) := by decide +kernel
theorem dX0_liveUnder_26 : decode cX0_liveUnder 26 = .ok (.iconst 1, 1) := by decide +kernel
theorem dX0_liveUnder_27 : decode cX0_liveUnder 27 = .ok (.goto 4, 3) := by decide +kernel
theorem dX0_liveUnder_30 : decode cX0_liveUnder 30 = .ok (.iconst 0, 1) := by decide +kernel
theorem dX0_liveUnder_31 : decode cX0_liveUnder 31 = .ok (.istore 6, 2) := by decide +kernel
theorem dX0_liveUnder_33 : decode cX0_liveUnder 33 = .ok (.aload_n 1, 1) := by decide +kernel
theorem dX0_liveUnder_34 : decode cX0_liveUnder 34 = .ok (.aload_n 0, 1) := by decide +kernel
theorem dX0_liveUnder_35 : decode cX0_liveUnder 35 = .ok (.getfield 15, 3) := by decide +kernel
theorem dX0_liveUnder_38 : decode cX0_liveUnder 38 = .ok (.invokevirtual 57, 3) := by decide +kernel
theorem dX0_liveUnder_41 : decode cX0_liveUnder 41 = .ok (.istore 7, 2) := by decide +kernel
theorem dX0_liveUnder_43 : decode cX0_liveUnder 43 = .ok (.aload_n 0, 1) := by decide +kernel
theorem dX0_liveUnder_44 : decode cX0_liveUnder 44 = .ok (.dup, 1) := by decide +kernel
theorem dX0_liveUnder_45 : decode cX0_liveUnder 45 = .ok (.getfield 9, 3) := by decide +kernel
theorem dX0_liveUnder_48 : decode cX0_liveUnder 48 = .ok (.iconst 0, 1) := by decide +kernel
theorem dX0_liveUnder_49 : decode cX0_liveUnder 49 = .ok (.iload 4, 2) := by decide +kernel
theorem dX0_liveUnder_51 : decode cX0_liveUnder 51 = .ok (.aload_n 0, 1) := by decide +kernel
theorem dX0_liveUnder_52 : decode cX0_liveUnder 52 = .ok (.getfield 18, 3) := by decide +kernel
theorem dX0_liveUnder_55 : decode cX0_liveUnder 55 = .ok (.iconst 2, 1) := by decide +kernel
theorem dX0_liveUnder_56 : decode cX0_liveUnder 56 = .ok (.idiv, 1) := by decide +kernel
theorem dX0_liveUnder_57 : decode cX0_liveUnder 57 = .ok (.isub, 1) := by decide +kernel
theorem dX0_liveUnder_58 : decode cX0_liveUnder 58 = .ok (.invokestatic 60, 3) := by decide +kernel
theorem dX0_liveUnder_61 : decode cX0_liveUnder 61 = .ok (.iadd, 1) := by decide +kernel
theorem dX0_liveUnder_62 : decode cX0_liveUnder 62 = .ok (.putfield 9, 3) := by decide +kernel
theorem dX0_liveUnder_65 : decode cX0_liveUnder 65 = .ok (.aload_n 0, 1) := by decide +kernel
theorem dX0_liveUnder_66 : decode cX0_liveUnder 66 = .ok (.dup, 1) := by decide +kernel
theorem dX0_liveUnder_67 : decode cX0_liveUnder 67 = .ok (.getfield 9, 3) := by decide +kernel
theorem dX0_liveUnder_70 : decode cX0_liveUnder 70 = .ok (.iload 7, 2) := by decide +kernel
theorem dX0_liveUnder_72 : decode cX0_liveUnder 72 = .ok (.ifCond .eq 7, 3) := by decide +kernel
theorem dX0_liveUnder_75 : decode cX0_liveUnder 75 = .ok (.iconst 2, 1) := by decide +kernel
theorem dX0_liveUnder_76 : decode cX0_liveUnder 76 = .ok (.goto 4, 3) := by decide +kernel
theorem dX0_liveUnder_79 : decode cX0_liveUnder 79 = .ok (.iconst 4, 1) := by decide +kernel
theorem dX0_liveUnder_80 : decode cX0_liveUnder 80 = .ok (.isub, 1) := by decide +kernel
theorem dX0_liveUnder_81 : decode cX0_liveUnder 81 = .ok (.putfield 9, 3) := by decide +kernel
theorem dX0_liveUnder_84 : decode cX0_liveUnder 84 = .ok (.aload_n 0, 1) := by decide +kernel
theorem dX0_liveUnder_85 : decode cX0_liveUnder 85 = .ok (.bipush 99, 2) := by decide +kernel
theorem dX0_liveUnder_87 : decode cX0_liveUnder 87 = .ok (.iconst 0, 1) := by decide +kernel
theorem dX0_liveUnder_88 : decode cX0_liveUnder 88 = .ok (.aload_n 0, 1) := by decide +kernel
theorem dX0_liveUnder_89 : decode cX0_liveUnder 89 = .ok (.getfield 9, 3) := by decide +kernel
theorem dX0_liveUnder_92 : decode cX0_liveUnder 92 = .ok (.invokestatic 60, 3) := by decide +kernel
theorem dX0_liveUnder_95 : decode cX0_liveUnder 95 = .ok (.invokestatic 66, 3) := by decide +kernel
theorem dX0_liveUnder_98 : decode cX0_liveUnder 98 = .ok (.putfield 9, 3) := by decide +kernel
theorem dX0_liveUnder_101 : decode cX0_liveUnder 101 = .ok (.iload_n 2, 1) := by decide +kernel
theorem dX0_liveUnder_102 : decode cX0_liveUnder 102 = .ok (.iconst 3, 1) := by decide +kernel
theorem dX0_liveUnder_103 : decode cX0_liveUnder 103 = .ok (.irem, 1) := by decide +kernel
theorem dX0_liveUnder_104 : decode cX0_liveUnder 104 = .ok (.ifCond .ne 18, 3) := by decide +kernel
theorem dX0_liveUnder_107 : decode cX0_liveUnder 107 = .ok (.aload_n 0, 1) := by decide +kernel
theorem dX0_liveUnder_108 : decode cX0_liveUnder 108 = .ok (.bipush 9, 2) := by decide +kernel
theorem dX0_liveUnder_110 : decode cX0_liveUnder 110 = .ok (.aload_n 0, 1) := by decide +kernel
theorem dX0_liveUnder_111 : decode cX0_liveUnder 111 = .ok (.getfield 18, 3) := by decide +kernel
theorem dX0_liveUnder_114 : decode cX0_liveUnder 114 = .ok (.iconst 1, 1) := by decide +kernel
theorem dX0_liveUnder_115 : decode cX0_liveUnder 115 = .ok (.iadd, 1) := by decide +kernel
theorem dX0_liveUnder_116 : decode cX0_liveUnder 116 = .ok (.invokestatic 66, 3) := by decide +kernel
theorem dX0_liveUnder_119 : decode cX0_liveUnder 119 = .ok (.putfield 18, 3) := by decide +kernel
theorem dX0_liveUnder_122 : decode cX0_liveUnder 122 = .ok (.iload 5, 2) := by decide +kernel
theorem dX0_liveUnder_124 : decode cX0_liveUnder 124 = .ok (.bipush 7, 2) := by decide +kernel
theorem dX0_liveUnder_126 : decode cX0_liveUnder 126 = .ok (.if_icmp .lt 13, 3) := by decide +kernel
theorem dX0_liveUnder_129 : decode cX0_liveUnder 129 = .ok (.iload 7, 2) := by decide +kernel
theorem dX0_liveUnder_131 : decode cX0_liveUnder 131 = .ok (.ifCond .ne 8, 3) := by decide +kernel
theorem dX0_liveUnder_134 : decode cX0_liveUnder 134 = .ok (.aload_n 0, 1) := by decide +kernel
theorem dX0_liveUnder_135 : decode cX0_liveUnder 135 = .ok (.iconst 0, 1) := by decide +kernel
theorem dX0_liveUnder_136 : decode cX0_liveUnder 136 = .ok (.putfield 18, 3) := by decide +kernel
theorem dX0_liveUnder_139 : decode cX0_liveUnder 139 = .ok (.iload 6, 2) := by decide +kernel
theorem dX0_liveUnder_141 : decode cX0_liveUnder 141 = .ok (.ireturn, 1) := by decide +kernel
theorem dX0_move_0 : decode cX0_move 0 = .ok (.aload_n 0, 1) := by decide +kernel
theorem dX0_move_1 : decode cX0_move 1 = .ok (.getfield 15, 3) := by decide +kernel
theorem dX0_move_4 : decode cX0_move 4 = .ok (.iload_n 2, 1) := by decide +kernel
theorem dX0_move_5 : decode cX0_move 5 = .ok (.invokestatic 69, 3) := by decide +kernel
theorem dX0_move_8 : decode cX0_move 8 = .ok (.istore_n 3, 1) := by decide +kernel
theorem dX0_move_9 : decode cX0_move 9 = .ok (.iload_n 3, 1) := by decide +kernel
theorem dX0_move_10 : decode cX0_move 10 = .ok (.ifCond .ge 5, 3) := by decide +kernel
theorem dX0_move_13 : decode cX0_move 13 = .ok (.iconst 0, 1) := by decide +kernel
theorem dX0_move_14 : decode cX0_move 14 = .ok (.ireturn, 1) := by decide +kernel
theorem dX0_move_15 : decode cX0_move 15 = .ok (.aload_n 1, 1) := by decide +kernel
theorem dX0_move_16 : decode cX0_move 16 = .ok (.aload_n 0, 1) := by decide +kernel
theorem dX0_move_17 : decode cX0_move 17 = .ok (.getfield 15, 3) := by decide +kernel
theorem dX0_move_20 : decode cX0_move 20 = .ok (.iload_n 3, 1) := by decide +kernel
theorem dX0_move_21 : decode cX0_move 21 = .ok (.invokevirtual 72, 3) := by decide +kernel
theorem dX0_move_24 : decode cX0_move 24 = .ok (.istore 4, 2) := by decide +kernel
theorem dX0_move_26 : decode cX0_move 26 = .ok (.aload_n 0, 1) := by decide +kernel
theorem dX0_move_27 : decode cX0_move 27 = .ok (.getfield 9, 3) := by decide +kernel
theorem dX0_move_30 : decode cX0_move 30 = .ok (.iload 4, 2) := by decide +kernel
theorem dX0_move_32 : decode cX0_move 32 = .ok (.if_icmp .ge 5, 3) := by decide +kernel
theorem dX0_move_35 : decode cX0_move 35 = .ok (.iconst 0, 1) := by decide +kernel
theorem dX0_move_36 : decode cX0_move 36 = .ok (.ireturn, 1) := by decide +kernel
theorem dX0_move_37 : decode cX0_move 37 = .ok (.aload_n 0, 1) := by decide +kernel
theorem dX0_move_38 : decode cX0_move 38 = .ok (.dup, 1) := by decide +kernel
theorem dX0_move_39 : decode cX0_move 39 = .ok (.getfield 9, 3) := by decide +kernel
theorem dX0_move_42 : decode cX0_move 42 = .ok (.iload 4, 2) := by decide +kernel
theorem dX0_move_44 : decode cX0_move 44 = .ok (.isub, 1) := by decide +kernel
theorem dX0_move_45 : decode cX0_move 45 = .ok (.putfield 9, 3) := by decide +kernel
theorem dX0_move_48 : decode cX0_move 48 = .ok (.aload_n 0, 1) := by decide +kernel
theorem dX0_move_49 : decode cX0_move 49 = .ok (.iload_n 3, 1) := by decide +kernel
theorem dX0_move_50 : decode cX0_move 50 = .ok (.putfield 15, 3) := by decide +kernel
theorem dX0_move_53 : decode cX0_move 53 = .ok (.iconst 1, 1) := by decide +kernel
theorem dX0_move_54 : decode cX0_move 54 = .ok (.ireturn, 1) := by decide +kernel
theorem dX0_lookAround_0 : decode cX0_lookAround 0 = .ok (.aload_n 0, 1) := by decide +kernel
theorem dX0_lookAround_1 : decode cX0_lookAround 1 = .ok (.getfield 9, 3) := by decide +kernel
theorem dX0_lookAround_4 : decode cX0_lookAround 4 = .ok (.iconst 2, 1) := by decide +kernel
theorem dX0_lookAround_5 : decode cX0_lookAround 5 = .ok (.if_icmp .lt 11, 3) := by decide +kernel
theorem dX0_lookAround_8 : decode cX0_lookAround 8 = .ok (.aload_n 0, 1) := by decide +kernel
theorem dX0_lookAround_9 : decode cX0_lookAround 9 = .ok (.aload_n 1, 1) := by decide +kernel
theorem dX0_lookAround_10 : decode cX0_lookAround 10 = .ok (.invokevirtual 75, 3) := by decide +kernel
theorem dX0_lookAround_13 : decode cX0_lookAround 13 = .ok (.ifCond .ne 5, 3) := by decide +kernel
theorem dX0_lookAround_16 : decode cX0_lookAround 16 = .ok (.iconst 0, 1) := by decide +kernel
theorem dX0_lookAround_17 : decode cX0_lookAround 17 = .ok (.ireturn, 1) := by decide +kernel
theorem dX0_lookAround_18 : decode cX0_lookAround 18 = .ok (.aload_n 0, 1) := by decide +kernel
theorem dX0_lookAround_19 : decode cX0_lookAround 19 = .ok (.dup, 1) := by decide +kernel
theorem dX0_lookAround_20 : decode cX0_lookAround 20 = .ok (.getfield 9, 3) := by decide +kernel
theorem dX0_lookAround_23 : decode cX0_lookAround 23 = .ok (.iconst 2, 1) := by decide +kernel
theorem dX0_lookAround_24 : decode cX0_lookAround 24 = .ok (.isub, 1) := by decide +kernel
theorem dX0_lookAround_25 : decode cX0_lookAround 25 = .ok (.putfield 9, 3) := by decide +kernel
theorem dX0_lookAround_28 : decode cX0_lookAround 28 = .ok (.aload_n 0, 1) := by decide +kernel
theorem dX0_lookAround_29 : decode cX0_lookAround 29 = .ok (.dup, 1) := by decide +kernel
theorem dX0_lookAround_30 : decode cX0_lookAround 30 = .ok (.getfield 25, 3) := by decide +kernel
theorem dX0_lookAround_33 : decode cX0_lookAround 33 = .ok (.lconst 1, 1) := by decide +kernel
theorem dX0_lookAround_34 : decode cX0_lookAround 34 = .ok (.aload_n 0, 1) := by decide +kernel
theorem dX0_lookAround_35 : decode cX0_lookAround 35 = .ok (.getfield 15, 3) := by decide +kernel
theorem dX0_lookAround_38 : decode cX0_lookAround 38 = .ok (.lshl, 1) := by decide +kernel
theorem dX0_lookAround_39 : decode cX0_lookAround 39 = .ok (.lor, 1) := by decide +kernel
theorem dX0_lookAround_40 : decode cX0_lookAround 40 = .ok (.putfield 25, 3) := by decide +kernel
theorem dX0_lookAround_43 : decode cX0_lookAround 43 = .ok (.iconst 1, 1) := by decide +kernel
theorem dX0_lookAround_44 : decode cX0_lookAround 44 = .ok (.ireturn, 1) := by decide +kernel
theorem dX1_init_0 : decode cX1_init 0 = .ok (.aload_n 0, 1) := by decide +kernel
theorem dX1_init_1 : decode cX1_init 1 = .ok (.invokespecial 1, 3) := by decide +kernel
theorem dX1_init_4 : decode cX1_init 4 = .ok (.aload_n 0, 1) := by decide +kernel
theorem dX1_init_5 : decode cX1_init 5 = .ok (.bipush 40, 2) := by decide +kernel
theorem dX1_init_7 : decode cX1_init 7 = .ok (.newarray .int, 2) := by decide +kernel
theorem dX1_init_9 : decode cX1_init 9 = .ok (.putfield 9, 3) := by decide +kernel
theorem dX1_init_12 : decode cX1_init 12 = .ok (.aload_n 0, 1) := by decide +kernel
theorem dX1_init_13 : decode cX1_init 13 = .ok (.bipush 40, 2) := by decide +kernel
theorem dX1_init_15 : decode cX1_init 15 = .ok (.newarray .int, 2) := by decide +kernel
theorem dX1_init_17 : decode cX1_init 17 = .ok (.putfield 13, 3) := by decide +kernel
theorem dX1_init_20 : decode cX1_init 20 = .ok (.aload_n 0, 1) := by decide +kernel
theorem dX1_init_21 : decode cX1_init 21 = .ok (.bipush 40, 2) := by decide +kernel
theorem dX1_init_23 : decode cX1_init 23 = .ok (.newarray .int, 2) := by decide +kernel
theorem dX1_init_25 : decode cX1_init 25 = .ok (.putfield 16, 3) := by decide +kernel
theorem dX1_init_28 : decode cX1_init 28 = .ok (.return_, 1) := by decide +kernel
theorem dX1_note_0 : decode cX1_note 0 = .ok (.aload_n 0, 1) := by decide +kernel
theorem dX1_note_1 : decode cX1_note 1 = .ok (.getfield 19, 3) := by decide +kernel
theorem dX1_note_4 : decode cX1_note 4 = .ok (.bipush 40, 2) := by decide +kernel
theorem dX1_note_6 : decode cX1_note 6 = .ok (.if_icmp .lt 7, 3) := by decide +kernel
theorem dX1_note_9 : decode cX1_note 9 = .ok (.aload_n 0, 1) := by decide +kernel
theorem dX1_note_10 : decode cX1_note 10 = .ok (.invokevirtual 23, 3) := by decide +kernel
theorem dX1_note_13 : decode cX1_note 13 = .ok (.aload_n 0, 1) := by decide +kernel
theorem dX1_note_14 : decode cX1_note 14 = .ok (.getfield 9, 3) := by decide +kernel
theorem dX1_note_17 : decode cX1_note 17 = .ok (.aload_n 0, 1) := by decide +kernel
theorem dX1_note_18 : decode cX1_note 18 = .ok (.getfield 19, 3) := by decide +kernel
theorem dX1_note_21 : decode cX1_note 21 = .ok (.iload_n 1, 1) := by decide +kernel
theorem dX1_note_22 : decode cX1_note 22 = .ok (.iastore, 1) := by decide +kernel
theorem dX1_note_23 : decode cX1_note 23 = .ok (.aload_n 0, 1) := by decide +kernel
theorem dX1_note_24 : decode cX1_note 24 = .ok (.getfield 13, 3) := by decide +kernel
theorem dX1_note_27 : decode cX1_note 27 = .ok (.aload_n 0, 1) := by decide +kernel
theorem dX1_note_28 : decode cX1_note 28 = .ok (.getfield 19, 3) := by decide +kernel
theorem dX1_note_31 : decode cX1_note 31 = .ok (.iload_n 2, 1) := by decide +kernel
theorem dX1_note_32 : decode cX1_note 32 = .ok (.iastore, 1) := by decide +kernel
theorem dX1_note_33 : decode cX1_note 33 = .ok (.aload_n 0, 1) := by decide +kernel
theorem dX1_note_34 : decode cX1_note 34 = .ok (.getfield 16, 3) := by decide +kernel
theorem dX1_note_37 : decode cX1_note 37 = .ok (.aload_n 0, 1) := by decide +kernel
theorem dX1_note_38 : decode cX1_note 38 = .ok (.getfield 19, 3) := by decide +kernel
theorem dX1_note_41 : decode cX1_note 41 = .ok (.iload_n 3, 1) := by decide +kernel
theorem dX1_note_42 : decode cX1_note 42 = .ok (.iastore, 1) := by decide +kernel
theorem dX1_note_43 : decode cX1_note 43 = .ok (.aload_n 0, 1) := by decide +kernel
theorem dX1_note_44 : decode cX1_note 44 = .ok (.dup, 1) := by decide +kernel
theorem dX1_note_45 : decode cX1_note 45 = .ok (.getfield 19, 3) := by decide +kernel
theorem dX1_note_48 : decode cX1_note 48 = .ok (.iconst 1, 1) := by decide +kernel
theorem dX1_note_49 : decode cX1_note 49 = .ok (.iadd, 1) := by decide +kernel
theorem dX1_note_50 : decode cX1_note 50 = .ok (.putfield 19, 3) := by decide +kernel
theorem dX1_note_53 : decode cX1_note 53 = .ok (.aload_n 0, 1) := by decide +kernel
theorem dX1_note_54 : decode cX1_note 54 = .ok (.aload_n 0, 1) := by decide +kernel
theorem dX1_note_55 : decode cX1_note 55 = .ok (.getfield 19, 3) := by decide +kernel
theorem dX1_note_58 : decode cX1_note 58 = .ok (.putfield 26, 3) := by decide +kernel
theorem dX1_note_61 : decode cX1_note 61 = .ok (.return_, 1) := by decide +kernel
theorem dX1_dropOldest_0 : decode cX1_dropOldest 0 = .ok (.aload_n 0, 1) := by decide +kernel
theorem dX1_dropOldest_1 : decode cX1_dropOldest 1 = .ok (.bipush 39, 2) := by decide +kernel
theorem dX1_dropOldest_3 : decode cX1_dropOldest 3 = .ok (.putfield 19, 3) := by decide +kernel
theorem dX1_dropOldest_6 : decode cX1_dropOldest 6 = .ok (.aload_n 0, 1) := by decide +kernel
theorem dX1_dropOldest_7 : decode cX1_dropOldest 7 = .ok (.getfield 9, 3) := by decide +kernel
theorem dX1_dropOldest_10 : decode cX1_dropOldest 10 = .ok (.iconst 1, 1) := by decide +kernel
theorem dX1_dropOldest_11 : decode cX1_dropOldest 11 = .ok (.aload_n 0, 1) := by decide +kernel
theorem dX1_dropOldest_12 : decode cX1_dropOldest 12 = .ok (.getfield 9, 3) := by decide +kernel
theorem dX1_dropOldest_15 : decode cX1_dropOldest 15 = .ok (.iconst 0, 1) := by decide +kernel
theorem dX1_dropOldest_16 : decode cX1_dropOldest 16 = .ok (.aload_n 0, 1) := by decide +kernel
theorem dX1_dropOldest_17 : decode cX1_dropOldest 17 = .ok (.getfield 19, 3) := by decide +kernel
theorem dX1_dropOldest_20 : decode cX1_dropOldest 20 = .ok (.invokestatic 29, 3) := by decide +kernel
theorem dX1_dropOldest_23 : decode cX1_dropOldest 23 = .ok (.aload_n 0, 1) := by decide +kernel
theorem dX1_dropOldest_24 : decode cX1_dropOldest 24 = .ok (.getfield 13, 3) := by decide +kernel
theorem dX1_dropOldest_27 : decode cX1_dropOldest 27 = .ok (.iconst 1, 1) := by decide +kernel
theorem dX1_dropOldest_28 : decode cX1_dropOldest 28 = .ok (.aload_n 0, 1) := by decide +kernel
theorem dX1_dropOldest_29 : decode cX1_dropOldest 29 = .ok (.getfield 13, 3) := by decide +kernel
theorem dX1_dropOldest_32 : decode cX1_dropOldest 32 = .ok (.iconst 0, 1) := by decide +kernel
theorem dX1_dropOldest_33 : decode cX1_dropOldest 33 = .ok (.aload_n 0, 1) := by decide +kernel
theorem dX1_dropOldest_34 : decode cX1_dropOldest 34 = .ok (.getfield 19, 3) := by decide +kernel
theorem dX1_dropOldest_37 : decode cX1_dropOldest 37 = .ok (.invokestatic 29, 3) := by decide +kernel
theorem dX1_dropOldest_40 : decode cX1_dropOldest 40 = .ok (.aload_n 0, 1) := by decide +kernel
theorem dX1_dropOldest_41 : decode cX1_dropOldest 41 = .ok (.getfield 16, 3) := by decide +kernel
theorem dX1_dropOldest_44 : decode cX1_dropOldest 44 = .ok (.iconst 1, 1) := by decide +kernel
theorem dX1_dropOldest_45 : decode cX1_dropOldest 45 = .ok (.aload_n 0, 1) := by decide +kernel
theorem dX1_dropOldest_46 : decode cX1_dropOldest 46 = .ok (.getfield 16, 3) := by decide +kernel
theorem dX1_dropOldest_49 : decode cX1_dropOldest 49 = .ok (.iconst 0, 1) := by decide +kernel
theorem dX1_dropOldest_50 : decode cX1_dropOldest 50 = .ok (.aload_n 0, 1) := by decide +kernel
theorem dX1_dropOldest_51 : decode cX1_dropOldest 51 = .ok (.getfield 19, 3) := by decide +kernel
theorem dX1_dropOldest_54 : decode cX1_dropOldest 54 = .ok (.invokestatic 29, 3) := by decide +kernel
theorem dX1_dropOldest_57 : decode cX1_dropOldest 57 = .ok (.return_, 1) := by decide +kernel
theorem dX1_takeBack_0 : decode cX1_takeBack 0 = .ok (.aload_n 0, 1) := by decide +kernel
theorem dX1_takeBack_1 : decode cX1_takeBack 1 = .ok (.getfield 19, 3) := by decide +kernel
theorem dX1_takeBack_4 : decode cX1_takeBack 4 = .ok (.ifCond .gt 5, 3) := by decide +kernel
theorem dX1_takeBack_7 : decode cX1_takeBack 7 = .ok (.iconst 0, 1) := by decide +kernel
theorem dX1_takeBack_8 : decode cX1_takeBack 8 = .ok (.ireturn, 1) := by decide +kernel
theorem dX1_takeBack_9 : decode cX1_takeBack 9 = .ok (.aload_n 0, 1) := by decide +kernel
theorem dX1_takeBack_10 : decode cX1_takeBack 10 = .ok (.dup, 1) := by decide +kernel
theorem dX1_takeBack_11 : decode cX1_takeBack 11 = .ok (.getfield 19, 3) := by decide +kernel
theorem dX1_takeBack_14 : decode cX1_takeBack 14 = .ok (.iconst 1, 1) := by decide +kernel
theorem dX1_takeBack_15 : decode cX1_takeBack 15 = .ok (.isub, 1) := by decide +kernel
theorem dX1_takeBack_16 : decode cX1_takeBack 16 = .ok (.putfield 19, 3) := by decide +kernel
theorem dX1_takeBack_19 : decode cX1_takeBack 19 = .ok (.aload_n 1, 1) := by decide +kernel
theorem dX1_takeBack_20 : decode cX1_takeBack 20 = .ok (.aload_n 0, 1) := by decide +kernel
theorem dX1_takeBack_21 : decode cX1_takeBack 21 = .ok (.getfield 9, 3) := by decide +kernel
theorem dX1_takeBack_24 : decode cX1_takeBack 24 = .ok (.aload_n 0, 1) := by decide +kernel
theorem dX1_takeBack_25 : decode cX1_takeBack 25 = .ok (.getfield 19, 3) := by decide +kernel
theorem dX1_takeBack_28 : decode cX1_takeBack 28 = .ok (.iaload, 1) := by decide +kernel
theorem dX1_takeBack_29 : decode cX1_takeBack 29 = .ok (.aload_n 0, 1) := by decide +kernel
theorem dX1_takeBack_30 : decode cX1_takeBack 30 = .ok (.getfield 13, 3) := by decide +kernel
theorem dX1_takeBack_33 : decode cX1_takeBack 33 = .ok (.aload_n 0, 1) := by decide +kernel
theorem dX1_takeBack_34 : decode cX1_takeBack 34 = .ok (.getfield 19, 3) := by decide +kernel
theorem dX1_takeBack_37 : decode cX1_takeBack 37 = .ok (.iaload, 1) := by decide +kernel
theorem dX1_takeBack_38 : decode cX1_takeBack 38 = .ok (.invokevirtual 35, 3) := by decide +kernel
theorem dX1_takeBack_41 : decode cX1_takeBack 41 = .ok (.iconst 1, 1) := by decide +kernel
theorem dX1_takeBack_42 : decode cX1_takeBack 42 = .ok (.ireturn, 1) := by decide +kernel
theorem dX1_bringBack_0 : decode cX1_bringBack 0 = .ok (.aload_n 0, 1) := by decide +kernel
theorem dX1_bringBack_1 : decode cX1_bringBack 1 = .ok (.getfield 19, 3) := by decide +kernel
theorem dX1_bringBack_4 : decode cX1_bringBack 4 = .ok (.aload_n 0, 1) := by decide +kernel
theorem dX1_bringBack_5 : decode cX1_bringBack 5 = .ok (.getfield 26, 3) := by decide +kernel
theorem dX1_bringBack_8 : decode cX1_bringBack 8 = .ok (.if_icmp .lt 5, 3) := by decide +kernel
theorem dX1_bringBack_11 : decode cX1_bringBack 11 = .ok (.iconst 0, 1) := by decide +kernel
theorem dX1_bringBack_12 : decode cX1_bringBack 12 = .ok (.ireturn, 1) := by decide +kernel
theorem dX1_bringBack_13 : decode cX1_bringBack 13 = .ok (.aload_n 1, 1) := by decide +kernel
theorem dX1_bringBack_14 : decode cX1_bringBack 14 = .ok (.aload_n 0, 1) := by decide +kernel
theorem dX1_bringBack_15 : decode cX1_bringBack 15 = .ok (.getfield 9, 3) := by decide +kernel
theorem dX1_bringBack_18 : decode cX1_bringBack 18 = .ok (.aload_n 0, 1) := by decide +kernel
theorem dX1_bringBack_19 : decode cX1_bringBack 19 = .ok (.getfield 19, 3) := by decide +kernel
theorem dX1_bringBack_22 : decode cX1_bringBack 22 = .ok (.iaload, 1) := by decide +kernel
theorem dX1_bringBack_23 : decode cX1_bringBack 23 = .ok (.aload_n 0, 1) := by decide +kernel
theorem dX1_bringBack_24 : decode cX1_bringBack 24 = .ok (.getfield 16, 3) := by decide +kernel
theorem dX1_bringBack_27 : decode cX1_bringBack 27 = .ok (.aload_n 0, 1) := by decide +kernel
theorem dX1_bringBack_28 : decode cX1_bringBack 28 = .ok (.getfield 19, 3) := by decide +kernel
theorem dX1_bringBack_31 : decode cX1_bringBack 31 = .ok (.iaload, 1) := by decide +kernel
theorem dX1_bringBack_32 : decode cX1_bringBack 32 = .ok (.invokevirtual 35, 3) := by decide +kernel
theorem dX1_bringBack_35 : decode cX1_bringBack 35 = .ok (.aload_n 0, 1) := by decide +kernel
theorem dX1_bringBack_36 : decode cX1_bringBack 36 = .ok (.dup, 1) := by decide +kernel
theorem dX1_bringBack_37 : decode cX1_bringBack 37 = .ok (.getfield 19, 3) := by decide +kernel
theorem dX1_bringBack_40 : decode cX1_bringBack 40 = .ok (.iconst 1, 1) := by decide +kernel
theorem dX1_bringBack_41 : decode cX1_bringBack 41 = .ok (.iadd, 1) := by decide +kernel
theorem dX1_bringBack_42 : decode cX1_bringBack 42 = .ok (.putfield 19, 3) := by decide +kernel
theorem dX1_bringBack_45 : decode cX1_bringBack 45 = .ok (.iconst 1, 1) := by decide +kernel
theorem dX1_bringBack_46 : decode cX1_bringBack 46 = .ok (.ireturn, 1) := by decide +kernel
theorem dX2_init_0 : decode cX2_init 0 = .ok (.aload_n 0, 1) := by decide +kernel
theorem dX2_init_1 : decode cX2_init 1 = .ok (.invokespecial 3, 3) := by decide +kernel
theorem dX2_init_4 : decode cX2_init 4 = .ok (.aload_n 0, 1) := by decide +kernel
theorem dX2_init_5 : decode cX2_init 5 = .ok (.bipush 120, 2) := by decide +kernel
theorem dX2_init_7 : decode cX2_init 7 = .ok (.newarray .int, 2) := by decide +kernel
theorem dX2_init_9 : decode cX2_init 9 = .ok (.putfield 11, 3) := by decide +kernel
theorem dX2_init_12 : decode cX2_init 12 = .ok (.aload_n 0, 1) := by decide +kernel
theorem dX2_init_13 : decode cX2_init 13 = .ok (.bipush 121, 2) := by decide +kernel
theorem dX2_init_15 : decode cX2_init 15 = .ok (.newarray .int, 2) := by decide +kernel
theorem dX2_init_17 : decode cX2_init 17 = .ok (.putfield 15, 3) := by decide +kernel
theorem dX2_init_20 : decode cX2_init 20 = .ok (.aload_n 0, 1) := by decide +kernel
theorem dX2_init_21 : decode cX2_init 21 = .ok (.bipush 121, 2) := by decide +kernel
theorem dX2_init_23 : decode cX2_init 23 = .ok (.newarray .int, 2) := by decide +kernel
theorem dX2_init_25 : decode cX2_init 25 = .ok (.putfield 18, 3) := by decide +kernel
theorem dX2_init_28 : decode cX2_init 28 = .ok (.aload_n 0, 1) := by decide +kernel
theorem dX2_init_29 : decode cX2_init 29 = .ok (.bipush 121, 2) := by decide +kernel
theorem dX2_init_31 : decode cX2_init 31 = .ok (.newarray .int, 2) := by decide +kernel
theorem dX2_init_33 : decode cX2_init 33 = .ok (.putfield 21, 3) := by decide +kernel
theorem dX2_init_36 : decode cX2_init 36 = .ok (.return_, 1) := by decide +kernel
theorem dX2_take_0 : decode cX2_take 0 = .ok (.aload_n 0, 1) := by decide +kernel
theorem dX2_take_1 : decode cX2_take 1 = .ok (.getfield 24, 3) := by decide +kernel
theorem dX2_take_4 : decode cX2_take 4 = .ok (.bipush 120, 2) := by decide +kernel
theorem dX2_take_6 : decode cX2_take 6 = .ok (.if_icmp .lt 5, 3) := by decide +kernel
theorem dX2_take_9 : decode cX2_take 9 = .ok (.iconst 0, 1) := by decide +kernel
theorem dX2_take_10 : decode cX2_take 10 = .ok (.ireturn, 1) := by decide +kernel
theorem dX2_take_11 : decode cX2_take 11 = .ok (.aload_n 0, 1) := by decide +kernel
theorem dX2_take_12 : decode cX2_take 12 = .ok (.getfield 11, 3) := by decide +kernel
theorem dX2_take_15 : decode cX2_take 15 = .ok (.aload_n 0, 1) := by decide +kernel
theorem dX2_take_16 : decode cX2_take 16 = .ok (.getfield 24, 3) := by decide +kernel
theorem dX2_take_19 : decode cX2_take 19 = .ok (.iload_n 1, 1) := by decide +kernel
theorem dX2_take_20 : decode cX2_take 20 = .ok (.iastore, 1) := by decide +kernel
theorem dX2_take_21 : decode cX2_take 21 = .ok (.aload_n 0, 1) := by decide +kernel
theorem dX2_take_22 : decode cX2_take 22 = .ok (.dup, 1) := by decide +kernel
theorem dX2_take_23 : decode cX2_take 23 = .ok (.getfield 24, 3) := by decide +kernel
theorem dX2_take_26 : decode cX2_take 26 = .ok (.iconst 1, 1) := by decide +kernel
theorem dX2_take_27 : decode cX2_take 27 = .ok (.iadd, 1) := by decide +kernel
theorem dX2_take_28 : decode cX2_take 28 = .ok (.putfield 24, 3) := by decide +kernel
theorem dX2_take_31 : decode cX2_take 31 = .ok (.iconst 1, 1) := by decide +kernel
theorem dX2_take_32 : decode cX2_take 32 = .ok (.ireturn, 1) := by decide +kernel
theorem dX2_become_0 : decode cX2_become 0 = .ok (.aload_n 0, 1) := by decide +kernel
theorem dX2_become_1 : decode cX2_become 1 = .ok (.iconst 0, 1) := by decide +kernel
theorem dX2_become_2 : decode cX2_become 2 = .ok (.putfield 28, 3) := by decide +kernel
theorem dX2_become_5 : decode cX2_become 5 = .ok (.aload_n 0, 1) := by decide +kernel
theorem dX2_become_6 : decode cX2_become 6 = .ok (.iconst 0, 1) := by decide +kernel
theorem dX2_become_7 : decode cX2_become 7 = .ok (.putfield 31, 3) := by decide +kernel
theorem dX2_become_10 : decode cX2_become 10 = .ok (.aload_n 0, 1) := by decide +kernel
theorem dX2_become_11 : decode cX2_become 11 = .ok (.iconst (-1), 1) := by decide +kernel
theorem dX2_become_12 : decode cX2_become 12 = .ok (.putfield 34, 3) := by decide +kernel
theorem dX2_become_15 : decode cX2_become 15 = .ok (.aload_n 0, 1) := by decide +kernel
theorem dX2_become_16 : decode cX2_become 16 = .ok (.invokevirtual 37, 3) := by decide +kernel
theorem dX2_become_19 : decode cX2_become 19 = .ok (.aload_n 0, 1) := by decide +kernel
theorem dX2_become_20 : decode cX2_become 20 = .ok (.getfield 34, 3) := by decide +kernel
theorem dX2_become_23 : decode cX2_become 23 = .ok (.iconst (-1), 1) := by decide +kernel
theorem dX2_become_24 : decode cX2_become 24 = .ok (.if_icmp .ne 28, 3) := by decide +kernel
theorem dX2_become_27 : decode cX2_become 27 = .ok (.aload_n 0, 1) := by decide +kernel
theorem dX2_become_28 : decode cX2_become 28 = .ok (.getfield 15, 3) := by decide +kernel
theorem dX2_become_31 : decode cX2_become 31 = .ok (.iconst 0, 1) := by decide +kernel
theorem dX2_become_32 : decode cX2_become 32 = .ok (.aload_n 0, 1) := by decide +kernel
theorem dX2_become_33 : decode cX2_become 33 = .ok (.getfield 18, 3) := by decide +kernel
theorem dX2_become_36 : decode cX2_become 36 = .ok (.iconst 0, 1) := by decide +kernel
theorem dX2_become_37 : decode cX2_become 37 = .ok (.aload_n 0, 1) := by decide +kernel
theorem dX2_become_38 : decode cX2_become 38 = .ok (.getfield 28, 3) := by decide +kernel
theorem dX2_become_41 : decode cX2_become 41 = .ok (.invokestatic 40, 3) := by decide +kernel
theorem dX2_become_44 : decode cX2_become 44 = .ok (.aload_n 0, 1) := by decide +kernel
theorem dX2_become_45 : decode cX2_become 45 = .ok (.aload_n 0, 1) := by decide +kernel
theorem dX2_become_46 : decode cX2_become 46 = .ok (.getfield 28, 3) := by decide +kernel
theorem dX2_become_49 : decode cX2_become 49 = .ok (.putfield 46, 3) := by decide +kernel
theorem dX2_become_52 : decode cX2_become 52 = .ok (.aload_n 0, 1) := by decide +kernel
theorem dX2_become_53 : decode cX2_become 53 = .ok (.iconst 0, 1) := by decide +kernel
theorem dX2_become_54 : decode cX2_become 54 = .ok (.putfield 24, 3) := by decide +kernel
theorem dX2_become_57 : decode cX2_become 57 = .ok (.aload_n 0, 1) := by decide +kernel
theorem dX2_become_58 : decode cX2_become 58 = .ok (.getfield 34, 3) := by decide +kernel
theorem dX2_become_61 : decode cX2_become 61 = .ok (.ireturn, 1) := by decide +kernel
theorem dX2_sign_0 : decode cX2_sign 0 = .ok (.aload_n 0, 1) := by decide +kernel
theorem dX2_sign_1 : decode cX2_sign 1 = .ok (.getfield 34, 3) := by decide +kernel
theorem dX2_sign_4 : decode cX2_sign 4 = .ok (.iconst (-1), 1) := by decide +kernel
theorem dX2_sign_5 : decode cX2_sign 5 = .ok (.if_icmp .ne 26, 3) := by decide +kernel
theorem dX2_sign_8 : decode cX2_sign 8 = .ok (.aload_n 0, 1) := by decide +kernel
theorem dX2_sign_9 : decode cX2_sign 9 = .ok (.getfield 31, 3) := by decide +kernel
theorem dX2_sign_12 : decode cX2_sign 12 = .ok (.aload_n 0, 1) := by decide +kernel
theorem dX2_sign_13 : decode cX2_sign 13 = .ok (.getfield 24, 3) := by decide +kernel
theorem dX2_sign_16 : decode cX2_sign 16 = .ok (.if_icmp .ge 15, 3) := by decide +kernel
theorem dX2_sign_19 : decode cX2_sign 19 = .ok (.aload_n 0, 1) := by decide +kernel
theorem dX2_sign_20 : decode cX2_sign 20 = .ok (.getfield 11, 3) := by decide +kernel
theorem dX2_sign_23 : decode cX2_sign 23 = .ok (.aload_n 0, 1) := by decide +kernel
theorem dX2_sign_24 : decode cX2_sign 24 = .ok (.getfield 31, 3) := by decide +kernel
theorem dX2_sign_27 : decode cX2_sign 27 = .ok (.iaload, 1) := by decide +kernel
theorem dX2_sign_28 : decode cX2_sign 28 = .ok (.goto 4, 3) := by decide +kernel
theorem dX2_sign_31 : decode cX2_sign 31 = .ok (.iconst (-1), 1) := by decide +kernel
theorem dX2_sign_32 : decode cX2_sign 32 = .ok (.ireturn, 1) := by decide +kernel
theorem dX2_pass_0 : decode cX2_pass 0 = .ok (.aload_n 0, 1) := by decide +kernel
theorem dX2_pass_1 : decode cX2_pass 1 = .ok (.invokevirtual 49, 3) := by decide +kernel
theorem dX2_pass_4 : decode cX2_pass 4 = .ok (.iload_n 1, 1) := by decide +kernel
theorem dX2_pass_5 : decode cX2_pass 5 = .ok (.if_icmp .eq 5, 3) := by decide +kernel
theorem dX2_pass_8 : decode cX2_pass 8 = .ok (.iconst 0, 1) := by decide +kernel
theorem dX2_pass_9 : decode cX2_pass 9 = .ok (.ireturn, 1) := by decide +kernel
theorem dX2_pass_10 : decode cX2_pass 10 = .ok (.aload_n 0, 1) := by decide +kernel
theorem dX2_pass_11 : decode cX2_pass 11 = .ok (.dup, 1) := by decide +kernel
theorem dX2_pass_12 : decode cX2_pass 12 = .ok (.getfield 31, 3) := by decide +kernel
theorem dX2_pass_15 : decode cX2_pass 15 = .ok (.iconst 1, 1) := by decide +kernel
theorem dX2_pass_16 : decode cX2_pass 16 = .ok (.iadd, 1) := by decide +kernel
theorem dX2_pass_17 : decode cX2_pass 17 = .ok (.putfield 31, 3) := by decide +kernel
theorem dX2_pass_20 : decode cX2_pass 20 = .ok (.iconst 1, 1) := by decide +kernel
theorem dX2_pass_21 : decode cX2_pass 21 = .ok (.ireturn, 1) := by decide +kernel
theorem dX2_refuse_0 : decode cX2_refuse 0 = .ok (.aload_n 0, 1) := by decide +kernel
theorem dX2_refuse_1 : decode cX2_refuse 1 = .ok (.getfield 34, 3) := by decide +kernel
theorem dX2_refuse_4 : decode cX2_refuse 4 = .ok (.iconst (-1), 1) := by decide +kernel
theorem dX2_refuse_5 : decode cX2_refuse 5 = .ok (.if_icmp .ne 11, 3) := by decide +kernel
theorem dX2_refuse_8 : decode cX2_refuse 8 = .ok (.aload_n 0, 1) := by decide +kernel
theorem dX2_refuse_9 : decode cX2_refuse 9 = .ok (.aload_n 0, 1) := by decide +kernel
theorem dX2_refuse_10 : decode cX2_refuse 10 = .ok (.getfield 31, 3) := by decide +kernel
theorem dX2_refuse_13 : decode cX2_refuse 13 = .ok (.putfield 34, 3) := by decide +kernel
theorem dX2_refuse_16 : decode cX2_refuse 16 = .ok (.return_, 1) := by decide +kernel
theorem dX2_write_0 : decode cX2_write 0 = .ok (.aload_n 0, 1) := by decide +kernel
theorem dX2_write_1 : decode cX2_write 1 = .ok (.getfield 28, 3) := by decide +kernel
theorem dX2_write_4 : decode cX2_write 4 = .ok (.aload_n 0, 1) := by decide +kernel
theorem dX2_write_5 : decode cX2_write 5 = .ok (.getfield 15, 3) := by decide +kernel
theorem dX2_write_8 : decode cX2_write 8 = .ok (.arraylength, 1) := by decide +kernel
theorem dX2_write_9 : decode cX2_write 9 = .ok (.if_icmp .ge 23, 3) := by decide +kernel
theorem dX2_write_12 : decode cX2_write 12 = .ok (.aload_n 0, 1) := by decide +kernel
theorem dX2_write_13 : decode cX2_write 13 = .ok (.getfield 15, 3) := by decide +kernel
theorem dX2_write_16 : decode cX2_write 16 = .ok (.aload_n 0, 1) := by decide +kernel
theorem dX2_write_17 : decode cX2_write 17 = .ok (.getfield 28, 3) := by decide +kernel
theorem dX2_write_20 : decode cX2_write 20 = .ok (.iload_n 1, 1) := by decide +kernel
theorem dX2_write_21 : decode cX2_write 21 = .ok (.iastore, 1) := by decide +kernel
theorem dX2_write_22 : decode cX2_write 22 = .ok (.aload_n 0, 1) := by decide +kernel
theorem dX2_write_23 : decode cX2_write 23 = .ok (.dup, 1) := by decide +kernel
theorem dX2_write_24 : decode cX2_write 24 = .ok (.getfield 28, 3) := by decide +kernel
theorem dX2_write_27 : decode cX2_write 27 = .ok (.iconst 1, 1) := by decide +kernel
theorem dX2_write_28 : decode cX2_write 28 = .ok (.iadd, 1) := by decide +kernel
theorem dX2_write_29 : decode cX2_write 29 = .ok (.putfield 28, 3) := by decide +kernel
theorem dX2_write_32 : decode cX2_write 32 = .ok (.return_, 1) := by decide +kernel
theorem dX2_readLines_0 : decode cX2_readLines 0 = .ok (.iconst 0, 1) := by decide +kernel
theorem dX2_readLines_1 : decode cX2_readLines 1 = .ok (.istore_n 1, 1) := by decide +kernel
theorem dX2_readLines_2 : decode cX2_readLines 2 = .ok (.iload_n 1, 1) := by decide +kernel
theorem dX2_readLines_3 : decode cX2_readLines 3 = .ok (.bipush 120, 2) := by decide +kernel
theorem dX2_readLines_5 : decode cX2_readLines 5 = .ok (.if_icmp .gt 52, 3) := by decide +kernel
theorem dX2_readLines_8 : decode cX2_readLines 8 = .ok (.aload_n 0, 1) := by decide +kernel
theorem dX2_readLines_9 : decode cX2_readLines 9 = .ok (.iconst 0, 1) := by decide +kernel
theorem dX2_readLines_10 : decode cX2_readLines 10 = .ok (.invokevirtual 53, 3) := by decide +kernel
theorem dX2_readLines_13 : decode cX2_readLines 13 = .ok (.aload_n 0, 1) := by decide +kernel
theorem dX2_readLines_14 : decode cX2_readLines 14 = .ok (.bipush 63, 2) := by decide +kernel
theorem dX2_readLines_16 : decode cX2_readLines 16 = .ok (.invokevirtual 57, 3) := by decide +kernel
theorem dX2_readLines_19 : decode cX2_readLines 19 = .ok (.ifCond .eq 14, 3) := by decide +kernel
theorem dX2_readLines_22 : decode cX2_readLines 22 = .ok (.aload_n 0, 1) := by decide +kernel
theorem dX2_readLines_23 : decode cX2_readLines 23 = .ok (.bipush (-63), 2) := by decide +kernel
theorem dX2_readLines_25 : decode cX2_readLines 25 = .ok (.invokevirtual 61, 3) := by decide +kernel
theorem dX2_readLines_28 : decode cX2_readLines 28 = .ok (.aload_n 0, 1) := by decide +kernel
theorem dX2_readLines_29 : decode cX2_readLines 29 = .ok (.iconst 0, 1) := by decide +kernel
theorem dX2_readLines_30 : decode cX2_readLines 30 = .ok (.invokevirtual 53, 3) := by decide +kernel
theorem dX2_readLines_33 : decode cX2_readLines 33 = .ok (.aload_n 0, 1) := by decide +kernel
theorem dX2_readLines_34 : decode cX2_readLines 34 = .ok (.bipush (-59), 2) := by decide +kernel
theorem dX2_readLines_36 : decode cX2_readLines 36 = .ok (.invokevirtual 61, 3) := by decide +kernel
theorem dX2_readLines_39 : decode cX2_readLines 39 = .ok (.aload_n 0, 1) := by decide +kernel
theorem dX2_readLines_40 : decode cX2_readLines 40 = .ok (.bipush 59, 2) := by decide +kernel
theorem dX2_readLines_42 : decode cX2_readLines 42 = .ok (.invokevirtual 57, 3) := by decide +kernel
theorem dX2_readLines_45 : decode cX2_readLines 45 = .ok (.ifCond .ne 6, 3) := by decide +kernel
theorem dX2_readLines_48 : decode cX2_readLines 48 = .ok (.goto 9, 3) := by decide +kernel
theorem dX2_readLines_51 : decode cX2_readLines 51 = .ok (.iinc 1 1, 3) := by decide +kernel
theorem dX2_readLines_54 : decode cX2_readLines 54 = .ok (.goto (-52), 3) := by decide +kernel
theorem dX2_readLines_57 : decode cX2_readLines 57 = .ok (.aload_n 0, 1) := by decide +kernel
theorem dX2_readLines_58 : decode cX2_readLines 58 = .ok (.getfield 31, 3) := by decide +kernel
theorem dX2_readLines_61 : decode cX2_readLines 61 = .ok (.aload_n 0, 1) := by decide +kernel
theorem dX2_readLines_62 : decode cX2_readLines 62 = .ok (.getfield 24, 3) := by decide +kernel
theorem dX2_readLines_65 : decode cX2_readLines 65 = .ok (.if_icmp .ge 7, 3) := by decide +kernel
theorem dX2_readLines_68 : decode cX2_readLines 68 = .ok (.aload_n 0, 1) := by decide +kernel
theorem dX2_readLines_69 : decode cX2_readLines 69 = .ok (.invokevirtual 64, 3) := by decide +kernel
theorem dX2_readLines_72 : decode cX2_readLines 72 = .ok (.return_, 1) := by decide +kernel
theorem dX2_readOr_0 : decode cX2_readOr 0 = .ok (.aload_n 0, 1) := by decide +kernel
theorem dX2_readOr_1 : decode cX2_readOr 1 = .ok (.iload_n 1, 1) := by decide +kernel
theorem dX2_readOr_2 : decode cX2_readOr 2 = .ok (.invokevirtual 67, 3) := by decide +kernel
theorem dX2_readOr_5 : decode cX2_readOr 5 = .ok (.iconst 0, 1) := by decide +kernel
theorem dX2_readOr_6 : decode cX2_readOr 6 = .ok (.istore_n 2, 1) := by decide +kernel
theorem dX2_readOr_7 : decode cX2_readOr 7 = .ok (.iload_n 2, 1) := by decide +kernel
theorem dX2_readOr_8 : decode cX2_readOr 8 = .ok (.bipush 120, 2) := by decide +kernel
theorem dX2_readOr_10 : decode cX2_readOr 10 = .ok (.if_icmp .ge 29, 3) := by decide +kernel
theorem dX2_readOr_13 : decode cX2_readOr 13 = .ok (.aload_n 0, 1) := by decide +kernel
theorem dX2_readOr_14 : decode cX2_readOr 14 = .ok (.bipush 124, 2) := by decide +kernel
theorem dX2_readOr_16 : decode cX2_readOr 16 = .ok (.invokevirtual 57, 3) := by decide +kernel
theorem dX2_readOr_19 : decode cX2_readOr 19 = .ok (.ifCond .eq 20, 3) := by decide +kernel
theorem dX2_readOr_22 : decode cX2_readOr 22 = .ok (.aload_n 0, 1) := by decide +kernel
theorem dX2_readOr_23 : decode cX2_readOr 23 = .ok (.iload_n 1, 1) := by decide +kernel
theorem dX2_readOr_24 : decode cX2_readOr 24 = .ok (.invokevirtual 67, 3) := by decide +kernel
theorem dX2_readOr_27 : decode cX2_readOr 27 = .ok (.aload_n 0, 1) := by decide +kernel
theorem dX2_readOr_28 : decode cX2_readOr 28 = .ok (.bipush (-124), 2) := by decide +kernel
theorem dX2_readOr_30 : decode cX2_readOr 30 = .ok (.invokevirtual 61, 3) := by decide +kernel
theorem dX2_readOr_33 : decode cX2_readOr 33 = .ok (.iinc 2 1, 3) := by decide +kernel
theorem dX2_readOr_36 : decode cX2_readOr 36 = .ok (.goto (-29), 3) := by decide +kernel
theorem dX2_readOr_39 : decode cX2_readOr 39 = .ok (.return_, 1) := by decide +kernel
theorem dX2_readAnd_0 : decode cX2_readAnd 0 = .ok (.aload_n 0, 1) := by decide +kernel
theorem dX2_readAnd_1 : decode cX2_readAnd 1 = .ok (.iload_n 1, 1) := by decide +kernel
theorem dX2_readAnd_2 : decode cX2_readAnd 2 = .ok (.invokevirtual 70, 3) := by decide +kernel
theorem dX2_readAnd_5 : decode cX2_readAnd 5 = .ok (.iconst 0, 1) := by decide +kernel
theorem dX2_readAnd_6 : decode cX2_readAnd 6 = .ok (.istore_n 2, 1) := by decide +kernel
theorem dX2_readAnd_7 : decode cX2_readAnd 7 = .ok (.iload_n 2, 1) := by decide +kernel
theorem dX2_readAnd_8 : decode cX2_readAnd 8 = .ok (.bipush 120, 2) := by decide +kernel
theorem dX2_readAnd_10 : decode cX2_readAnd 10 = .ok (.if_icmp .ge 29, 3) := by decide +kernel
theorem dX2_readAnd_13 : decode cX2_readAnd 13 = .ok (.aload_n 0, 1) := by decide +kernel
theorem dX2_readAnd_14 : decode cX2_readAnd 14 = .ok (.bipush 38, 2) := by decide +kernel
theorem dX2_readAnd_16 : decode cX2_readAnd 16 = .ok (.invokevirtual 57, 3) := by decide +kernel
theorem dX2_readAnd_19 : decode cX2_readAnd 19 = .ok (.ifCond .eq 20, 3) := by decide +kernel
theorem dX2_readAnd_22 : decode cX2_readAnd 22 = .ok (.aload_n 0, 1) := by decide +kernel
theorem dX2_readAnd_23 : decode cX2_readAnd 23 = .ok (.iload_n 1, 1) := by decide +kernel
theorem dX2_readAnd_24 : decode cX2_readAnd 24 = .ok (.invokevirtual 70, 3) := by decide +kernel
theorem dX2_readAnd_27 : decode cX2_readAnd 27 = .ok (.aload_n 0, 1) := by decide +kernel
theorem dX2_readAnd_28 : decode cX2_readAnd 28 = .ok (.bipush (-38), 2) := by decide +kernel
theorem dX2_readAnd_30 : decode cX2_readAnd 30 = .ok (.invokevirtual 61, 3) := by decide +kernel
theorem dX2_readAnd_33 : decode cX2_readAnd 33 = .ok (.iinc 2 1, 3) := by decide +kernel
theorem dX2_readAnd_36 : decode cX2_readAnd 36 = .ok (.goto (-29), 3) := by decide +kernel
theorem dX2_readAnd_39 : decode cX2_readAnd 39 = .ok (.return_, 1) := by decide +kernel
theorem dX2_readCompared_0 : decode cX2_readCompared 0 = .ok (.aload_n 0, 1) := by decide +kernel
theorem dX2_readCompared_1 : decode cX2_readCompared 1 = .ok (.iload_n 1, 1) := by decide +kernel
theorem dX2_readCompared_2 : decode cX2_readCompared 2 = .ok (.invokevirtual 73, 3) := by decide +kernel
theorem dX2_readCompared_5 : decode cX2_readCompared 5 = .ok (.aload_n 0, 1) := by decide +kernel
theorem dX2_readCompared_6 : decode cX2_readCompared 6 = .ok (.invokevirtual 49, 3) := by decide +kernel
theorem dX2_readCompared_9 : decode cX2_readCompared 9 = .ok (.istore_n 2, 1) := by decide +kernel
theorem dX2_readCompared_10 : decode cX2_readCompared 10 = .ok (.iload_n 2, 1) := by decide +kernel
theorem dX2_readCompared_11 : decode cX2_readCompared 11 = .ok (.bipush 60, 2) := by decide +kernel
theorem dX2_readCompared_13 : decode cX2_readCompared 13 = .ok (.if_icmp .eq 15, 3) := by decide +kernel
theorem dX2_readCompared_16 : decode cX2_readCompared 16 = .ok (.iload_n 2, 1) := by decide +kernel
theorem dX2_readCompared_17 : decode cX2_readCompared 17 = .ok (.bipush 61, 2) := by decide +kernel
theorem dX2_readCompared_19 : decode cX2_readCompared 19 = .ok (.if_icmp .eq 9, 3) := by decide +kernel
theorem dX2_readCompared_22 : decode cX2_readCompared 22 = .ok (.iload_n 2, 1) := by decide +kernel
theorem dX2_readCompared_23 : decode cX2_readCompared 23 = .ok (.bipush 62, 2) := by decide +kernel
theorem dX2_readCompared_25 : decode cX2_readCompared 25 = .ok (.if_icmp .ne 24, 3) := by decide +kernel
theorem dX2_readCompared_28 : decode cX2_readCompared 28 = .ok (.aload_n 0, 1) := by decide +kernel
theorem dX2_readCompared_29 : decode cX2_readCompared 29 = .ok (.dup, 1) := by decide +kernel
theorem dX2_readCompared_30 : decode cX2_readCompared 30 = .ok (.getfield 31, 3) := by decide +kernel
theorem dX2_readCompared_33 : decode cX2_readCompared 33 = .ok (.iconst 1, 1) := by decide +kernel
theorem dX2_readCompared_34 : decode cX2_readCompared 34 = .ok (.iadd, 1) := by decide +kernel
theorem dX2_readCompared_35 : decode cX2_readCompared 35 = .ok (.putfield 31, 3) := by decide +kernel
theorem dX2_readCompared_38 : decode cX2_readCompared 38 = .ok (.aload_n 0, 1) := by decide +kernel
theorem dX2_readCompared_39 : decode cX2_readCompared 39 = .ok (.iload_n 1, 1) := by decide +kernel
theorem dX2_readCompared_40 : decode cX2_readCompared 40 = .ok (.invokevirtual 73, 3) := by decide +kernel
theorem dX2_readCompared_43 : decode cX2_readCompared 43 = .ok (.aload_n 0, 1) := by decide +kernel
theorem dX2_readCompared_44 : decode cX2_readCompared 44 = .ok (.iload_n 2, 1) := by decide +kernel
theorem dX2_readCompared_45 : decode cX2_readCompared 45 = .ok (.ineg, 1) := by decide +kernel
theorem dX2_readCompared_46 : decode cX2_readCompared 46 = .ok (.invokevirtual 61, 3) := by decide +kernel
theorem dX2_readCompared_49 : decode cX2_readCompared 49 = .ok (.return_, 1) := by decide +kernel
theorem dX2_readSum_0 : decode cX2_readSum 0 = .ok (.aload_n 0, 1) := by decide +kernel
theorem dX2_readSum_1 : decode cX2_readSum 1 = .ok (.iload_n 1, 1) := by decide +kernel
theorem dX2_readSum_2 : decode cX2_readSum 2 = .ok (.invokevirtual 76, 3) := by decide +kernel
theorem dX2_readSum_5 : decode cX2_readSum 5 = .ok (.iconst 0, 1) := by decide +kernel
theorem dX2_readSum_6 : decode cX2_readSum 6 = .ok (.istore_n 2, 1) := by decide +kernel
theorem dX2_readSum_7 : decode cX2_readSum 7 = .ok (.iload_n 2, 1) := by decide +kernel
theorem dX2_readSum_8 : decode cX2_readSum 8 = .ok (.bipush 120, 2) := by decide +kernel
theorem dX2_readSum_10 : decode cX2_readSum 10 = .ok (.if_icmp .ge 50, 3) := by decide +kernel
theorem dX2_readSum_13 : decode cX2_readSum 13 = .ok (.aload_n 0, 1) := by decide +kernel
theorem dX2_readSum_14 : decode cX2_readSum 14 = .ok (.invokevirtual 49, 3) := by decide +kernel
theorem dX2_readSum_17 : decode cX2_readSum 17 = .ok (.istore_n 3, 1) := by decide +kernel
theorem dX2_readSum_18 : decode cX2_readSum 18 = .ok (.iload_n 3, 1) := by decide +kernel
theorem dX2_readSum_19 : decode cX2_readSum 19 = .ok (.bipush 43, 2) := by decide +kernel
theorem dX2_readSum_21 : decode cX2_readSum 21 = .ok (.if_icmp .eq 12, 3) := by decide +kernel
theorem dX2_readSum_24 : decode cX2_readSum 24 = .ok (.iload_n 3, 1) := by decide +kernel
theorem dX2_readSum_25 : decode cX2_readSum 25 = .ok (.bipush 45, 2) := by decide +kernel
theorem dX2_readSum_27 : decode cX2_readSum 27 = .ok (.if_icmp .eq 6, 3) := by decide +kernel
theorem dX2_readSum_30 : decode cX2_readSum 30 = .ok (.goto 30, 3) := by decide +kernel
theorem dX2_readSum_33 : decode cX2_readSum 33 = .ok (.aload_n 0, 1) := by decide +kernel
theorem dX2_readSum_34 : decode cX2_readSum 34 = .ok (.dup, 1) := by decide +kernel
theorem dX2_readSum_35 : decode cX2_readSum 35 = .ok (.getfield 31, 3) := by decide +kernel
theorem dX2_readSum_38 : decode cX2_readSum 38 = .ok (.iconst 1, 1) := by decide +kernel
theorem dX2_readSum_39 : decode cX2_readSum 39 = .ok (.iadd, 1) := by decide +kernel
theorem dX2_readSum_40 : decode cX2_readSum 40 = .ok (.putfield 31, 3) := by decide +kernel
theorem dX2_readSum_43 : decode cX2_readSum 43 = .ok (.aload_n 0, 1) := by decide +kernel
theorem dX2_readSum_44 : decode cX2_readSum 44 = .ok (.iload_n 1, 1) := by decide +kernel
theorem dX2_readSum_45 : decode cX2_readSum 45 = .ok (.invokevirtual 76, 3) := by decide +kernel
theorem dX2_readSum_48 : decode cX2_readSum 48 = .ok (.aload_n 0, 1) := by decide +kernel
theorem dX2_readSum_49 : decode cX2_readSum 49 = .ok (.iload_n 3, 1) := by decide +kernel
theorem dX2_readSum_50 : decode cX2_readSum 50 = .ok (.ineg, 1) := by decide +kernel
theorem dX2_readSum_51 : decode cX2_readSum 51 = .ok (.invokevirtual 61, 3) := by decide +kernel
theorem dX2_readSum_54 : decode cX2_readSum 54 = .ok (.iinc 2 1, 3) := by decide +kernel
theorem dX2_readSum_57 : decode cX2_readSum 57 = .ok (.goto (-50), 3) := by decide +kernel
theorem dX2_readSum_60 : decode cX2_readSum 60 = .ok (.return_, 1) := by decide +kernel
theorem dX2_readProduct_0 : decode cX2_readProduct 0 = .ok (.aload_n 0, 1) := by decide +kernel
theorem dX2_readProduct_1 : decode cX2_readProduct 1 = .ok (.iload_n 1, 1) := by decide +kernel
theorem dX2_readProduct_2 : decode cX2_readProduct 2 = .ok (.invokevirtual 79, 3) := by decide +kernel
theorem dX2_readProduct_5 : decode cX2_readProduct 5 = .ok (.iconst 0, 1) := by decide +kernel
theorem dX2_readProduct_6 : decode cX2_readProduct 6 = .ok (.istore_n 2, 1) := by decide +kernel
theorem dX2_readProduct_7 : decode cX2_readProduct 7 = .ok (.iload_n 2, 1) := by decide +kernel
theorem dX2_readProduct_8 : decode cX2_readProduct 8 = .ok (.bipush 120, 2) := by decide +kernel
theorem dX2_readProduct_10 : decode cX2_readProduct 10 = .ok (.if_icmp .ge 56, 3) := by decide +kernel
theorem dX2_readProduct_13 : decode cX2_readProduct 13 = .ok (.aload_n 0, 1) := by decide +kernel
theorem dX2_readProduct_14 : decode cX2_readProduct 14 = .ok (.invokevirtual 49, 3) := by decide +kernel
theorem dX2_readProduct_17 : decode cX2_readProduct 17 = .ok (.istore_n 3, 1) := by decide +kernel
theorem dX2_readProduct_18 : decode cX2_readProduct 18 = .ok (.iload_n 3, 1) := by decide +kernel
theorem dX2_readProduct_19 : decode cX2_readProduct 19 = .ok (.bipush 42, 2) := by decide +kernel
theorem dX2_readProduct_21 : decode cX2_readProduct 21 = .ok (.if_icmp .eq 18, 3) := by decide +kernel
theorem dX2_readProduct_24 : decode cX2_readProduct 24 = .ok (.iload_n 3, 1) := by decide +kernel
theorem dX2_readProduct_25 : decode cX2_readProduct 25 = .ok (.bipush 47, 2) := by decide +kernel
theorem dX2_readProduct_27 : decode cX2_readProduct 27 = .ok (.if_icmp .eq 12, 3) := by decide +kernel
theorem dX2_readProduct_30 : decode cX2_readProduct 30 = .ok (.iload_n 3, 1) := by decide +kernel
theorem dX2_readProduct_31 : decode cX2_readProduct 31 = .ok (.bipush 37, 2) := by decide +kernel
theorem dX2_readProduct_33 : decode cX2_readProduct 33 = .ok (.if_icmp .eq 6, 3) := by decide +kernel
theorem dX2_readProduct_36 : decode cX2_readProduct 36 = .ok (.goto 30, 3) := by decide +kernel
theorem dX2_readProduct_39 : decode cX2_readProduct 39 = .ok (.aload_n 0, 1) := by decide +kernel
theorem dX2_readProduct_40 : decode cX2_readProduct 40 = .ok (.dup, 1) := by decide +kernel
theorem dX2_readProduct_41 : decode cX2_readProduct 41 = .ok (.getfield 31, 3) := by decide +kernel
theorem dX2_readProduct_44 : decode cX2_readProduct 44 = .ok (.iconst 1, 1) := by decide +kernel
theorem dX2_readProduct_45 : decode cX2_readProduct 45 = .ok (.iadd, 1) := by decide +kernel
theorem dX2_readProduct_46 : decode cX2_readProduct 46 = .ok (.putfield 31, 3) := by decide +kernel
theorem dX2_readProduct_49 : decode cX2_readProduct 49 = .ok (.aload_n 0, 1) := by decide +kernel
theorem dX2_readProduct_50 : decode cX2_readProduct 50 = .ok (.iload_n 1, 1) := by decide +kernel
theorem dX2_readProduct_51 : decode cX2_readProduct 51 = .ok (.invokevirtual 79, 3) := by decide +kernel
theorem dX2_readProduct_54 : decode cX2_readProduct 54 = .ok (.aload_n 0, 1) := by decide +kernel
theorem dX2_readProduct_55 : decode cX2_readProduct 55 = .ok (.iload_n 3, 1) := by decide +kernel
theorem dX2_readProduct_56 : decode cX2_readProduct 56 = .ok (.ineg, 1) := by decide +kernel
theorem dX2_readProduct_57 : decode cX2_readProduct 57 = .ok (.invokevirtual 61, 3) := by decide +kernel
theorem dX2_readProduct_60 : decode cX2_readProduct 60 = .ok (.iinc 2 1, 3) := by decide +kernel
theorem dX2_readProduct_63 : decode cX2_readProduct 63 = .ok (.goto (-56), 3) := by decide +kernel
theorem dX2_readProduct_66 : decode cX2_readProduct 66 = .ok (.return_, 1) := by decide +kernel
theorem dX2_readOperand_0 : decode cX2_readOperand 0 = .ok (.aload_n 0, 1) := by decide +kernel
theorem dX2_readOperand_1 : decode cX2_readOperand 1 = .ok (.invokevirtual 49, 3) := by decide +kernel
theorem dX2_readOperand_4 : decode cX2_readOperand 4 = .ok (.istore_n 2, 1) := by decide +kernel
theorem dX2_readOperand_5 : decode cX2_readOperand 5 = .ok (.iload_n 2, 1) := by decide +kernel
theorem dX2_readOperand_6 : decode cX2_readOperand 6 = .ok (.invokestatic 82, 3) := by decide +kernel
theorem dX2_readOperand_9 : decode cX2_readOperand 9 = .ok (.ifCond .eq 10, 3) := by decide +kernel
theorem dX2_readOperand_12 : decode cX2_readOperand 12 = .ok (.aload_n 0, 1) := by decide +kernel
theorem dX2_readOperand_13 : decode cX2_readOperand 13 = .ok (.invokevirtual 85, 3) := by decide +kernel
theorem dX2_readOperand_16 : decode cX2_readOperand 16 = .ok (.goto 78, 3) := by decide +kernel
theorem dX2_readOperand_19 : decode cX2_readOperand 19 = .ok (.iload_n 2, 1) := by decide +kernel
theorem dX2_readOperand_20 : decode cX2_readOperand 20 = .ok (.invokestatic 88, 3) := by decide +kernel
theorem dX2_readOperand_23 : decode cX2_readOperand 23 = .ok (.ifCond .eq 22, 3) := by decide +kernel
theorem dX2_readOperand_26 : decode cX2_readOperand 26 = .ok (.aload_n 0, 1) := by decide +kernel
theorem dX2_readOperand_27 : decode cX2_readOperand 27 = .ok (.dup, 1) := by decide +kernel
theorem dX2_readOperand_28 : decode cX2_readOperand 28 = .ok (.getfield 31, 3) := by decide +kernel
theorem dX2_readOperand_31 : decode cX2_readOperand 31 = .ok (.iconst 1, 1) := by decide +kernel
theorem dX2_readOperand_32 : decode cX2_readOperand 32 = .ok (.iadd, 1) := by decide +kernel
theorem dX2_readOperand_33 : decode cX2_readOperand 33 = .ok (.putfield 31, 3) := by decide +kernel
theorem dX2_readOperand_36 : decode cX2_readOperand 36 = .ok (.aload_n 0, 1) := by decide +kernel
theorem dX2_readOperand_37 : decode cX2_readOperand 37 = .ok (.iload_n 2, 1) := by decide +kernel
theorem dX2_readOperand_38 : decode cX2_readOperand 38 = .ok (.ineg, 1) := by decide +kernel
theorem dX2_readOperand_39 : decode cX2_readOperand 39 = .ok (.invokevirtual 61, 3) := by decide +kernel
theorem dX2_readOperand_42 : decode cX2_readOperand 42 = .ok (.goto 52, 3) := by decide +kernel
theorem dX2_readOperand_45 : decode cX2_readOperand 45 = .ok (.iload_n 1, 1) := by decide +kernel
theorem dX2_readOperand_46 : decode cX2_readOperand 46 = .ok (.bipush 6, 2) := by decide +kernel
theorem dX2_readOperand_48 : decode cX2_readOperand 48 = .ok (.if_icmp .ge 42, 3) := by decide +kernel
theorem dX2_readOperand_51 : decode cX2_readOperand 51 = .ok (.iload_n 2, 1) := by decide +kernel
theorem dX2_readOperand_52 : decode cX2_readOperand 52 = .ok (.bipush 40, 2) := by decide +kernel
theorem dX2_readOperand_54 : decode cX2_readOperand 54 = .ok (.if_icmp .eq 15, 3) := by decide +kernel
theorem dX2_readOperand_57 : decode cX2_readOperand 57 = .ok (.iload_n 2, 1) := by decide +kernel
theorem dX2_readOperand_58 : decode cX2_readOperand 58 = .ok (.bipush 33, 2) := by decide +kernel
theorem dX2_readOperand_60 : decode cX2_readOperand 60 = .ok (.if_icmp .eq 9, 3) := by decide +kernel
theorem dX2_readOperand_63 : decode cX2_readOperand 63 = .ok (.iload_n 2, 1) := by decide +kernel
theorem dX2_readOperand_64 : decode cX2_readOperand 64 = .ok (.bipush 45, 2) := by decide +kernel
theorem dX2_readOperand_66 : decode cX2_readOperand 66 = .ok (.if_icmp .ne 24, 3) := by decide +kernel
theorem dX2_readOperand_69 : decode cX2_readOperand 69 = .ok (.aload_n 0, 1) := by decide +kernel
theorem dX2_readOperand_70 : decode cX2_readOperand 70 = .ok (.dup, 1) := by decide +kernel
theorem dX2_readOperand_71 : decode cX2_readOperand 71 = .ok (.getfield 31, 3) := by decide +kernel
theorem dX2_readOperand_74 : decode cX2_readOperand 74 = .ok (.iconst 1, 1) := by decide +kernel
theorem dX2_readOperand_75 : decode cX2_readOperand 75 = .ok (.iadd, 1) := by decide +kernel
theorem dX2_readOperand_76 : decode cX2_readOperand 76 = .ok (.putfield 31, 3) := by decide +kernel
theorem dX2_readOperand_79 : decode cX2_readOperand 79 = .ok (.aload_n 0, 1) := by decide +kernel
theorem dX2_readOperand_80 : decode cX2_readOperand 80 = .ok (.iload_n 2, 1) := by decide +kernel
theorem dX2_readOperand_81 : decode cX2_readOperand 81 = .ok (.iload_n 1, 1) := by decide +kernel
theorem dX2_readOperand_82 : decode cX2_readOperand 82 = .ok (.iconst 1, 1) := by decide +kernel
theorem dX2_readOperand_83 : decode cX2_readOperand 83 = .ok (.iadd, 1) := by decide +kernel
theorem dX2_readOperand_84 : decode cX2_readOperand 84 = .ok (.invokevirtual 91, 3) := by decide +kernel
theorem dX2_readOperand_87 : decode cX2_readOperand 87 = .ok (.goto 7, 3) := by decide +kernel
theorem dX2_readOperand_90 : decode cX2_readOperand 90 = .ok (.aload_n 0, 1) := by decide +kernel
theorem dX2_readOperand_91 : decode cX2_readOperand 91 = .ok (.invokevirtual 64, 3) := by decide +kernel
theorem dX2_readOperand_94 : decode cX2_readOperand 94 = .ok (.return_, 1) := by decide +kernel
theorem dX2_readOpened_0 : decode cX2_readOpened 0 = .ok (.iload_n 1, 1) := by decide +kernel
theorem dX2_readOpened_1 : decode cX2_readOpened 1 = .ok (.bipush 40, 2) := by decide +kernel
theorem dX2_readOpened_3 : decode cX2_readOpened 3 = .ok (.if_icmp .ne 24, 3) := by decide +kernel
theorem dX2_readOpened_6 : decode cX2_readOpened 6 = .ok (.aload_n 0, 1) := by decide +kernel
theorem dX2_readOpened_7 : decode cX2_readOpened 7 = .ok (.iload_n 2, 1) := by decide +kernel
theorem dX2_readOpened_8 : decode cX2_readOpened 8 = .ok (.invokevirtual 53, 3) := by decide +kernel
theorem dX2_readOpened_11 : decode cX2_readOpened 11 = .ok (.aload_n 0, 1) := by decide +kernel
theorem dX2_readOpened_12 : decode cX2_readOpened 12 = .ok (.bipush 41, 2) := by decide +kernel
theorem dX2_readOpened_14 : decode cX2_readOpened 14 = .ok (.invokevirtual 57, 3) := by decide +kernel
theorem dX2_readOpened_17 : decode cX2_readOpened 17 = .ok (.ifCond .ne 32, 3) := by decide +kernel
theorem dX2_readOpened_20 : decode cX2_readOpened 20 = .ok (.aload_n 0, 1) := by decide +kernel
theorem dX2_readOpened_21 : decode cX2_readOpened 21 = .ok (.invokevirtual 64, 3) := by decide +kernel
theorem dX2_readOpened_24 : decode cX2_readOpened 24 = .ok (.goto 25, 3) := by decide +kernel
theorem dX2_readOpened_27 : decode cX2_readOpened 27 = .ok (.aload_n 0, 1) := by decide +kernel
theorem dX2_readOpened_28 : decode cX2_readOpened 28 = .ok (.iload_n 2, 1) := by decide +kernel
theorem dX2_readOpened_29 : decode cX2_readOpened 29 = .ok (.invokevirtual 79, 3) := by decide +kernel
theorem dX2_readOpened_32 : decode cX2_readOpened 32 = .ok (.aload_n 0, 1) := by decide +kernel
theorem dX2_readOpened_33 : decode cX2_readOpened 33 = .ok (.iload_n 1, 1) := by decide +kernel
theorem dX2_readOpened_34 : decode cX2_readOpened 34 = .ok (.bipush 33, 2) := by decide +kernel
theorem dX2_readOpened_36 : decode cX2_readOpened 36 = .ok (.if_icmp .ne 8, 3) := by decide +kernel
theorem dX2_readOpened_39 : decode cX2_readOpened 39 = .ok (.bipush (-33), 2) := by decide +kernel
theorem dX2_readOpened_41 : decode cX2_readOpened 41 = .ok (.goto 5, 3) := by decide +kernel
theorem dX2_readOpened_44 : decode cX2_readOpened 44 = .ok (.bipush (-126), 2) := by decide +kernel
theorem dX2_readOpened_46 : decode cX2_readOpened 46 = .ok (.invokevirtual 61, 3) := by decide +kernel
theorem dX2_readOpened_49 : decode cX2_readOpened 49 = .ok (.return_, 1) := by decide +kernel
theorem dX2_readNumber_0 : decode cX2_readNumber 0 = .ok (.iconst 0, 1) := by decide +kernel
theorem dX2_readNumber_1 : decode cX2_readNumber 1 = .ok (.istore_n 1, 1) := by decide +kernel
theorem dX2_readNumber_2 : decode cX2_readNumber 2 = .ok (.iconst 0, 1) := by decide +kernel
theorem dX2_readNumber_3 : decode cX2_readNumber 3 = .ok (.istore_n 2, 1) := by decide +kernel
theorem dX2_readNumber_4 : decode cX2_readNumber 4 = .ok (.iload_n 2, 1) := by decide +kernel
theorem dX2_readNumber_5 : decode cX2_readNumber 5 = .ok (.iconst 4, 1) := by decide +kernel
theorem dX2_readNumber_6 : decode cX2_readNumber 6 = .ok (.if_icmp .ge 42, 3) := by decide +kernel
theorem dX2_readNumber_9 : decode cX2_readNumber 9 = .ok (.aload_n 0, 1) := by decide +kernel
theorem dX2_readNumber_10 : decode cX2_readNumber 10 = .ok (.invokevirtual 49, 3) := by decide +kernel
theorem dX2_readNumber_13 : decode cX2_readNumber 13 = .ok (.invokestatic 82, 3) := by decide +kernel
theorem dX2_readNumber_16 : decode cX2_readNumber 16 = .ok (.ifCond .eq 32, 3) := by decide +kernel
theorem dX2_readNumber_19 : decode cX2_readNumber 19 = .ok (.iload_n 1, 1) := by decide +kernel
theorem dX2_readNumber_20 : decode cX2_readNumber 20 = .ok (.bipush 10, 2) := by decide +kernel
theorem dX2_readNumber_22 : decode cX2_readNumber 22 = .ok (.imul, 1) := by decide +kernel
theorem dX2_readNumber_23 : decode cX2_readNumber 23 = .ok (.aload_n 0, 1) := by decide +kernel
theorem dX2_readNumber_24 : decode cX2_readNumber 24 = .ok (.invokevirtual 49, 3) := by decide +kernel
theorem dX2_readNumber_27 : decode cX2_readNumber 27 = .ok (.iadd, 1) := by decide +kernel
theorem dX2_readNumber_28 : decode cX2_readNumber 28 = .ok (.bipush 48, 2) := by decide +kernel
theorem dX2_readNumber_30 : decode cX2_readNumber 30 = .ok (.isub, 1) := by decide +kernel
theorem dX2_readNumber_31 : decode cX2_readNumber 31 = .ok (.istore_n 1, 1) := by decide +kernel
theorem dX2_readNumber_32 : decode cX2_readNumber 32 = .ok (.aload_n 0, 1) := by decide +kernel
theorem dX2_readNumber_33 : decode cX2_readNumber 33 = .ok (.dup, 1) := by decide +kernel
theorem dX2_readNumber_34 : decode cX2_readNumber 34 = .ok (.getfield 31, 3) := by decide +kernel
theorem dX2_readNumber_37 : decode cX2_readNumber 37 = .ok (.iconst 1, 1) := by decide +kernel
theorem dX2_readNumber_38 : decode cX2_readNumber 38 = .ok (.iadd, 1) := by decide +kernel
theorem dX2_readNumber_39 : decode cX2_readNumber 39 = .ok (.putfield 31, 3) := by decide +kernel
theorem dX2_readNumber_42 : decode cX2_readNumber 42 = .ok (.iinc 2 1, 3) := by decide +kernel
theorem dX2_readNumber_45 : decode cX2_readNumber 45 = .ok (.goto (-41), 3) := by decide +kernel
theorem dX2_readNumber_48 : decode cX2_readNumber 48 = .ok (.aload_n 0, 1) := by decide +kernel
theorem dX2_readNumber_49 : decode cX2_readNumber 49 = .ok (.iload_n 1, 1) := by decide +kernel
theorem dX2_readNumber_50 : decode cX2_readNumber 50 = .ok (.invokevirtual 61, 3) := by decide +kernel
theorem dX2_readNumber_53 : decode cX2_readNumber 53 = .ok (.return_, 1) := by decide +kernel
theorem dX2_isDigit_0 : decode cX2_isDigit 0 = .ok (.iload_n 0, 1) := by decide +kernel
theorem dX2_isDigit_1 : decode cX2_isDigit 1 = .ok (.bipush 48, 2) := by decide +kernel
theorem dX2_isDigit_3 : decode cX2_isDigit 3 = .ok (.if_icmp .lt 13, 3) := by decide +kernel
theorem dX2_isDigit_6 : decode cX2_isDigit 6 = .ok (.iload_n 0, 1) := by decide +kernel
theorem dX2_isDigit_7 : decode cX2_isDigit 7 = .ok (.bipush 57, 2) := by decide +kernel
theorem dX2_isDigit_9 : decode cX2_isDigit 9 = .ok (.if_icmp .gt 7, 3) := by decide +kernel
theorem dX2_isDigit_12 : decode cX2_isDigit 12 = .ok (.iconst 1, 1) := by decide +kernel
theorem dX2_isDigit_13 : decode cX2_isDigit 13 = .ok (.goto 4, 3) := by decide +kernel
theorem dX2_isDigit_16 : decode cX2_isDigit 16 = .ok (.iconst 0, 1) := by decide +kernel
theorem dX2_isDigit_17 : decode cX2_isDigit 17 = .ok (.ireturn, 1) := by decide +kernel
theorem dX2_isName_0 : decode cX2_isName 0 = .ok (.iload_n 0, 1) := by decide +kernel
theorem dX2_isName_1 : decode cX2_isName 1 = .ok (.tableswitch 101 99 119 #[99, 99, 101, 101, 101, 99, 101, 101, 101, 101, 101, 101, 99, 101, 101, 101, 99, 101, 99, 101, 99], 99) := by decide +kernel
theorem dX2_isName_100 : decode cX2_isName 100 = .ok (.iconst 1, 1) := by decide +kernel
theorem dX2_isName_101 : decode cX2_isName 101 = .ok (.ireturn, 1) := by decide +kernel
theorem dX2_isName_102 : decode cX2_isName 102 = .ok (.iconst 0, 1) := by decide +kernel
theorem dX2_isName_103 : decode cX2_isName 103 = .ok (.ireturn, 1) := by decide +kernel
theorem dX2_orderFor_0 : decode cX2_orderFor 0 = .ok (.aload_n 0, 1) := by decide +kernel
theorem dX2_orderFor_1 : decode cX2_orderFor 1 = .ok (.getfield 46, 3) := by decide +kernel
theorem dX2_orderFor_4 : decode cX2_orderFor 4 = .ok (.ifCond .ne 17, 3) := by decide +kernel
theorem dX2_orderFor_7 : decode cX2_orderFor 7 = .ok (.aload_n 2, 1) := by decide +kernel
theorem dX2_orderFor_8 : decode cX2_orderFor 8 = .ok (.aload_n 1, 1) := by decide +kernel
theorem dX2_orderFor_9 : decode cX2_orderFor 9 = .ok (.invokevirtual 95, 3) := by decide +kernel
theorem dX2_orderFor_12 : decode cX2_orderFor 12 = .ok (.ifCond .eq 7, 3) := by decide +kernel
theorem dX2_orderFor_15 : decode cX2_orderFor 15 = .ok (.iconst 5, 1) := by decide +kernel
theorem dX2_orderFor_16 : decode cX2_orderFor 16 = .ok (.goto 4, 3) := by decide +kernel
theorem dX2_orderFor_19 : decode cX2_orderFor 19 = .ok (.iconst 0, 1) := by decide +kernel
theorem dX2_orderFor_20 : decode cX2_orderFor 20 = .ok (.ireturn, 1) := by decide +kernel
theorem dX2_orderFor_21 : decode cX2_orderFor 21 = .ok (.aload_n 0, 1) := by decide +kernel
theorem dX2_orderFor_22 : decode cX2_orderFor 22 = .ok (.aload_n 1, 1) := by decide +kernel
theorem dX2_orderFor_23 : decode cX2_orderFor 23 = .ok (.aload_n 2, 1) := by decide +kernel
theorem dX2_orderFor_24 : decode cX2_orderFor 24 = .ok (.iload_n 3, 1) := by decide +kernel
theorem dX2_orderFor_25 : decode cX2_orderFor 25 = .ok (.invokevirtual 101, 3) := by decide +kernel
theorem dX2_orderFor_28 : decode cX2_orderFor 28 = .ok (.istore 4, 2) := by decide +kernel
theorem dX2_orderFor_30 : decode cX2_orderFor 30 = .ok (.iload 4, 2) := by decide +kernel
theorem dX2_orderFor_32 : decode cX2_orderFor 32 = .ok (.ifCond .ge 7, 3) := by decide +kernel
theorem dX2_orderFor_35 : decode cX2_orderFor 35 = .ok (.iconst 0, 1) := by decide +kernel
theorem dX2_orderFor_36 : decode cX2_orderFor 36 = .ok (.goto 8, 3) := by decide +kernel
theorem dX2_orderFor_39 : decode cX2_orderFor 39 = .ok (.iload 4, 2) := by decide +kernel
theorem dX2_orderFor_41 : decode cX2_orderFor 41 = .ok (.bipush 6, 2) := by decide +kernel
theorem dX2_orderFor_43 : decode cX2_orderFor 43 = .ok (.irem, 1) := by decide +kernel
theorem dX2_orderFor_44 : decode cX2_orderFor 44 = .ok (.ireturn, 1) := by decide +kernel
theorem dX2_workOut_0 : decode cX2_workOut 0 = .ok (.iconst 0, 1) := by decide +kernel
theorem dX2_workOut_1 : decode cX2_workOut 1 = .ok (.istore 4, 2) := by decide +kernel
theorem dX2_workOut_3 : decode cX2_workOut 3 = .ok (.aload_n 0, 1) := by decide +kernel
theorem dX2_workOut_4 : decode cX2_workOut 4 = .ok (.iconst 0, 1) := by decide +kernel
theorem dX2_workOut_5 : decode cX2_workOut 5 = .ok (.putfield 105, 3) := by decide +kernel
theorem dX2_workOut_8 : decode cX2_workOut 8 = .ok (.iconst 0, 1) := by decide +kernel
theorem dX2_workOut_9 : decode cX2_workOut 9 = .ok (.istore 5, 2) := by decide +kernel
theorem dX2_workOut_11 : decode cX2_workOut 11 = .ok (.iload 5, 2) := by decide +kernel
theorem dX2_workOut_13 : decode cX2_workOut 13 = .ok (.aload_n 0, 1) := by decide +kernel
theorem dX2_workOut_14 : decode cX2_workOut 14 = .ok (.getfield 46, 3) := by decide +kernel
theorem dX2_workOut_17 : decode cX2_workOut 17 = .ok (.if_icmp .ge 79, 3) := by decide +kernel
theorem dX2_workOut_20 : decode cX2_workOut 20 = .ok (.aload_n 0, 1) := by decide +kernel
theorem dX2_workOut_21 : decode cX2_workOut 21 = .ok (.getfield 18, 3) := by decide +kernel
theorem dX2_workOut_24 : decode cX2_workOut 24 = .ok (.iload 5, 2) := by decide +kernel
theorem dX2_workOut_26 : decode cX2_workOut 26 = .ok (.iaload, 1) := by decide +kernel
theorem dX2_workOut_27 : decode cX2_workOut 27 = .ok (.istore 6, 2) := by decide +kernel
theorem dX2_workOut_29 : decode cX2_workOut 29 = .ok (.iload 6, 2) := by decide +kernel
theorem dX2_workOut_31 : decode cX2_workOut 31 = .ok (.bipush (-59), 2) := by decide +kernel
theorem dX2_workOut_33 : decode cX2_workOut 33 = .ok (.if_icmp .ne 19, 3) := by decide +kernel
theorem dX2_workOut_36 : decode cX2_workOut 36 = .ok (.iload 4, 2) := by decide +kernel
theorem dX2_workOut_38 : decode cX2_workOut 38 = .ok (.ifCond .ne 8, 3) := by decide +kernel
theorem dX2_workOut_41 : decode cX2_workOut 41 = .ok (.aload_n 0, 1) := by decide +kernel
theorem dX2_workOut_42 : decode cX2_workOut 42 = .ok (.invokevirtual 108, 3) := by decide +kernel
theorem dX2_workOut_45 : decode cX2_workOut 45 = .ok (.ireturn, 1) := by decide +kernel
theorem dX2_workOut_46 : decode cX2_workOut 46 = .ok (.iconst 0, 1) := by decide +kernel
theorem dX2_workOut_47 : decode cX2_workOut 47 = .ok (.istore 4, 2) := by decide +kernel
theorem dX2_workOut_49 : decode cX2_workOut 49 = .ok (.goto 41, 3) := by decide +kernel
theorem dX2_workOut_52 : decode cX2_workOut 52 = .ok (.iload 4, 2) := by decide +kernel
theorem dX2_workOut_54 : decode cX2_workOut 54 = .ok (.ifCond .ne 36, 3) := by decide +kernel
theorem dX2_workOut_57 : decode cX2_workOut 57 = .ok (.iload 6, 2) := by decide +kernel
theorem dX2_workOut_59 : decode cX2_workOut 59 = .ok (.bipush (-63), 2) := by decide +kernel
theorem dX2_workOut_61 : decode cX2_workOut 61 = .ok (.if_icmp .ne 20, 3) := by decide +kernel
theorem dX2_workOut_64 : decode cX2_workOut 64 = .ok (.aload_n 0, 1) := by decide +kernel
theorem dX2_workOut_65 : decode cX2_workOut 65 = .ok (.invokevirtual 108, 3) := by decide +kernel
theorem dX2_workOut_68 : decode cX2_workOut 68 = .ok (.ifCond .ne 7, 3) := by decide +kernel
theorem dX2_workOut_71 : decode cX2_workOut 71 = .ok (.iconst 1, 1) := by decide +kernel
theorem dX2_workOut_72 : decode cX2_workOut 72 = .ok (.goto 4, 3) := by decide +kernel
theorem dX2_workOut_75 : decode cX2_workOut 75 = .ok (.iconst 0, 1) := by decide +kernel
theorem dX2_workOut_76 : decode cX2_workOut 76 = .ok (.istore 4, 2) := by decide +kernel
theorem dX2_workOut_78 : decode cX2_workOut 78 = .ok (.goto 12, 3) := by decide +kernel
theorem dX2_workOut_81 : decode cX2_workOut 81 = .ok (.aload_n 0, 1) := by decide +kernel
theorem dX2_workOut_82 : decode cX2_workOut 82 = .ok (.iload 6, 2) := by decide +kernel
theorem dX2_workOut_84 : decode cX2_workOut 84 = .ok (.aload_n 1, 1) := by decide +kernel
theorem dX2_workOut_85 : decode cX2_workOut 85 = .ok (.aload_n 2, 1) := by decide +kernel
theorem dX2_workOut_86 : decode cX2_workOut 86 = .ok (.iload_n 3, 1) := by decide +kernel
theorem dX2_workOut_87 : decode cX2_workOut 87 = .ok (.invokevirtual 111, 3) := by decide +kernel
theorem dX2_workOut_90 : decode cX2_workOut 90 = .ok (.iinc 5 1, 3) := by decide +kernel
theorem dX2_workOut_93 : decode cX2_workOut 93 = .ok (.goto (-82), 3) := by decide +kernel
theorem dX2_workOut_96 : decode cX2_workOut 96 = .ok (.iconst 0, 1) := by decide +kernel
theorem dX2_workOut_97 : decode cX2_workOut 97 = .ok (.ireturn, 1) := by decide +kernel
theorem dX2_step_0 : decode cX2_step 0 = .ok (.iload_n 1, 1) := by decide +kernel
theorem dX2_step_1 : decode cX2_step 1 = .ok (.ifCond .lt 11, 3) := by decide +kernel
theorem dX2_step_4 : decode cX2_step 4 = .ok (.aload_n 0, 1) := by decide +kernel
theorem dX2_step_5 : decode cX2_step 5 = .ok (.iload_n 1, 1) := by decide +kernel
theorem dX2_step_6 : decode cX2_step 6 = .ok (.invokevirtual 115, 3) := by decide +kernel
theorem dX2_step_9 : decode cX2_step 9 = .ok (.goto 91, 3) := by decide +kernel
theorem dX2_step_12 : decode cX2_step 12 = .ok (.iload_n 1, 1) := by decide +kernel
theorem dX2_step_13 : decode cX2_step 13 = .ok (.ineg, 1) := by decide +kernel
theorem dX2_step_14 : decode cX2_step 14 = .ok (.invokestatic 88, 3) := by decide +kernel
theorem dX2_step_17 : decode cX2_step 17 = .ok (.ifCond .eq 19, 3) := by decide +kernel
theorem dX2_step_20 : decode cX2_step 20 = .ok (.aload_n 0, 1) := by decide +kernel
theorem dX2_step_21 : decode cX2_step 21 = .ok (.iload_n 1, 1) := by decide +kernel
theorem dX2_step_22 : decode cX2_step 22 = .ok (.ineg, 1) := by decide +kernel
theorem dX2_step_23 : decode cX2_step 23 = .ok (.aload_n 2, 1) := by decide +kernel
theorem dX2_step_24 : decode cX2_step 24 = .ok (.aload_n 3, 1) := by decide +kernel
theorem dX2_step_25 : decode cX2_step 25 = .ok (.iload 4, 2) := by decide +kernel
theorem dX2_step_27 : decode cX2_step 27 = .ok (.invokestatic 118, 3) := by decide +kernel
theorem dX2_step_30 : decode cX2_step 30 = .ok (.invokevirtual 115, 3) := by decide +kernel
theorem dX2_step_33 : decode cX2_step 33 = .ok (.goto 67, 3) := by decide +kernel
theorem dX2_step_36 : decode cX2_step 36 = .ok (.iload_n 1, 1) := by decide +kernel
theorem dX2_step_37 : decode cX2_step 37 = .ok (.bipush (-126), 2) := by decide +kernel
theorem dX2_step_39 : decode cX2_step 39 = .ok (.if_icmp .ne 15, 3) := by decide +kernel
theorem dX2_step_42 : decode cX2_step 42 = .ok (.aload_n 0, 1) := by decide +kernel
theorem dX2_step_43 : decode cX2_step 43 = .ok (.aload_n 0, 1) := by decide +kernel
theorem dX2_step_44 : decode cX2_step 44 = .ok (.invokevirtual 108, 3) := by decide +kernel
theorem dX2_step_47 : decode cX2_step 47 = .ok (.ineg, 1) := by decide +kernel
theorem dX2_step_48 : decode cX2_step 48 = .ok (.invokevirtual 115, 3) := by decide +kernel
theorem dX2_step_51 : decode cX2_step 51 = .ok (.goto 49, 3) := by decide +kernel
theorem dX2_step_54 : decode cX2_step 54 = .ok (.iload_n 1, 1) := by decide +kernel
theorem dX2_step_55 : decode cX2_step 55 = .ok (.bipush (-33), 2) := by decide +kernel
theorem dX2_step_57 : decode cX2_step 57 = .ok (.if_icmp .ne 22, 3) := by decide +kernel
theorem dX2_step_60 : decode cX2_step 60 = .ok (.aload_n 0, 1) := by decide +kernel
theorem dX2_step_61 : decode cX2_step 61 = .ok (.aload_n 0, 1) := by decide +kernel
theorem dX2_step_62 : decode cX2_step 62 = .ok (.invokevirtual 108, 3) := by decide +kernel
theorem dX2_step_65 : decode cX2_step 65 = .ok (.ifCond .ne 7, 3) := by decide +kernel
theorem dX2_step_68 : decode cX2_step 68 = .ok (.iconst 1, 1) := by decide +kernel
theorem dX2_step_69 : decode cX2_step 69 = .ok (.goto 4, 3) := by decide +kernel
theorem dX2_step_72 : decode cX2_step 72 = .ok (.iconst 0, 1) := by decide +kernel
theorem dX2_step_73 : decode cX2_step 73 = .ok (.invokevirtual 115, 3) := by decide +kernel
theorem dX2_step_76 : decode cX2_step 76 = .ok (.goto 24, 3) := by decide +kernel
theorem dX2_step_79 : decode cX2_step 79 = .ok (.aload_n 0, 1) := by decide +kernel
theorem dX2_step_80 : decode cX2_step 80 = .ok (.invokevirtual 108, 3) := by decide +kernel
theorem dX2_step_83 : decode cX2_step 83 = .ok (.istore 5, 2) := by decide +kernel
theorem dX2_step_85 : decode cX2_step 85 = .ok (.aload_n 0, 1) := by decide +kernel
theorem dX2_step_86 : decode cX2_step 86 = .ok (.iload_n 1, 1) := by decide +kernel
theorem dX2_step_87 : decode cX2_step 87 = .ok (.ineg, 1) := by decide +kernel
theorem dX2_step_88 : decode cX2_step 88 = .ok (.aload_n 0, 1) := by decide +kernel
theorem dX2_step_89 : decode cX2_step 89 = .ok (.invokevirtual 108, 3) := by decide +kernel
theorem dX2_step_92 : decode cX2_step 92 = .ok (.iload 5, 2) := by decide +kernel
theorem dX2_step_94 : decode cX2_step 94 = .ok (.invokestatic 122, 3) := by decide +kernel
theorem dX2_step_97 : decode cX2_step 97 = .ok (.invokevirtual 115, 3) := by decide +kernel
theorem dX2_step_100 : decode cX2_step 100 = .ok (.return_, 1) := by decide +kernel
theorem dX2_named_0 : decode cX2_named 0 = .ok (.iload_n 0, 1) := by decide +kernel
theorem dX2_named_1 : decode cX2_named 1 = .ok (.tableswitch 136 100 119 #[105, 136, 136, 136, 107, 136, 136, 136, 136, 136, 136, 116, 136, 136, 136, 95, 136, 100, 136, 130], 95) := by decide +kernel
theorem dX2_named_96 : decode cX2_named 96 = .ok (.aload_n 2, 1) := by decide +kernel
theorem dX2_named_97 : decode cX2_named 97 = .ok (.getfield 126, 3) := by decide +kernel
theorem dX2_named_100 : decode cX2_named 100 = .ok (.ireturn, 1) := by decide +kernel
theorem dX2_named_101 : decode cX2_named 101 = .ok (.aload_n 2, 1) := by decide +kernel
theorem dX2_named_102 : decode cX2_named 102 = .ok (.getfield 129, 3) := by decide +kernel
theorem dX2_named_105 : decode cX2_named 105 = .ok (.ireturn, 1) := by decide +kernel
theorem dX2_named_106 : decode cX2_named 106 = .ok (.iload_n 3, 1) := by decide +kernel
theorem dX2_named_107 : decode cX2_named 107 = .ok (.ireturn, 1) := by decide +kernel
theorem dX2_named_108 : decode cX2_named 108 = .ok (.aload_n 1, 1) := by decide +kernel
theorem dX2_named_109 : decode cX2_named 109 = .ok (.aload_n 2, 1) := by decide +kernel
theorem dX2_named_110 : decode cX2_named 110 = .ok (.getfield 132, 3) := by decide +kernel
theorem dX2_named_113 : decode cX2_named 113 = .ok (.invokevirtual 135, 3) := by decide +kernel
theorem dX2_named_116 : decode cX2_named 116 = .ok (.ireturn, 1) := by decide +kernel
theorem dX2_named_117 : decode cX2_named 117 = .ok (.aload_n 2, 1) := by decide +kernel
theorem dX2_named_118 : decode cX2_named 118 = .ok (.aload_n 1, 1) := by decide +kernel
theorem dX2_named_119 : decode cX2_named 119 = .ok (.invokevirtual 95, 3) := by decide +kernel
theorem dX2_named_122 : decode cX2_named 122 = .ok (.ifCond .eq 7, 3) := by decide +kernel
theorem dX2_named_125 : decode cX2_named 125 = .ok (.iconst 1, 1) := by decide +kernel
theorem dX2_named_126 : decode cX2_named 126 = .ok (.goto 4, 3) := by decide +kernel
theorem dX2_named_129 : decode cX2_named 129 = .ok (.iconst 0, 1) := by decide +kernel
theorem dX2_named_130 : decode cX2_named 130 = .ok (.ireturn, 1) := by decide +kernel
theorem dX2_named_131 : decode cX2_named 131 = .ok (.aload_n 1, 1) := by decide +kernel
theorem dX2_named_132 : decode cX2_named 132 = .ok (.iload_n 3, 1) := by decide +kernel
theorem dX2_named_133 : decode cX2_named 133 = .ok (.invokevirtual 140, 3) := by decide +kernel
theorem dX2_named_136 : decode cX2_named 136 = .ok (.ireturn, 1) := by decide +kernel
theorem dX2_named_137 : decode cX2_named 137 = .ok (.aload_n 2, 1) := by decide +kernel
theorem dX2_named_138 : decode cX2_named 138 = .ok (.getfield 132, 3) := by decide +kernel
theorem dX2_named_141 : decode cX2_named 141 = .ok (.ireturn, 1) := by decide +kernel
theorem dX2_joined_0 : decode cX2_joined 0 = .ok (.iload_n 0, 1) := by decide +kernel
theorem dX2_joined_1 : decode cX2_joined 1 = .ok (.tableswitch 202 37 62 #[143, 188, 202, 202, 202, 127, 119, 202, 123, 202, 131, 202, 202, 202, 202, 202, 202, 202, 202, 202, 202, 202, 202, 155, 166, 177], 119) := by decide +kernel
theorem dX2_joined_120 : decode cX2_joined 120 = .ok (.iload_n 1, 1) := by decide +kernel
theorem dX2_joined_121 : decode cX2_joined 121 = .ok (.iload_n 2, 1) := by decide +kernel
theorem dX2_joined_122 : decode cX2_joined 122 = .ok (.iadd, 1) := by decide +kernel
theorem dX2_joined_123 : decode cX2_joined 123 = .ok (.ireturn, 1) := by decide +kernel
theorem dX2_joined_124 : decode cX2_joined 124 = .ok (.iload_n 1, 1) := by decide +kernel
theorem dX2_joined_125 : decode cX2_joined 125 = .ok (.iload_n 2, 1) := by decide +kernel
theorem dX2_joined_126 : decode cX2_joined 126 = .ok (.isub, 1) := by decide +kernel
theorem dX2_joined_127 : decode cX2_joined 127 = .ok (.ireturn, 1) := by decide +kernel
theorem dX2_joined_128 : decode cX2_joined 128 = .ok (.iload_n 1, 1) := by decide +kernel
theorem dX2_joined_129 : decode cX2_joined 129 = .ok (.iload_n 2, 1) := by decide +kernel
theorem dX2_joined_130 : decode cX2_joined 130 = .ok (.imul, 1) := by decide +kernel
theorem dX2_joined_131 : decode cX2_joined 131 = .ok (.ireturn, 1) := by decide +kernel
theorem dX2_joined_132 : decode cX2_joined 132 = .ok (.iload_n 2, 1) := by decide +kernel
theorem dX2_joined_133 : decode cX2_joined 133 = .ok (.ifCond .ne 7, 3) := by decide +kernel
theorem dX2_joined_136 : decode cX2_joined 136 = .ok (.iconst 0, 1) := by decide +kernel
theorem dX2_joined_137 : decode cX2_joined 137 = .ok (.goto 6, 3) := by decide +kernel
theorem dX2_joined_140 : decode cX2_joined 140 = .ok (.iload_n 1, 1) := by decide +kernel
theorem dX2_joined_141 : decode cX2_joined 141 = .ok (.iload_n 2, 1) := by decide +kernel
theorem dX2_joined_142 : decode cX2_joined 142 = .ok (.idiv, 1) := by decide +kernel
theorem dX2_joined_143 : decode cX2_joined 143 = .ok (.ireturn, 1) := by decide +kernel
theorem dX2_joined_144 : decode cX2_joined 144 = .ok (.iload_n 2, 1) := by decide +kernel
theorem dX2_joined_145 : decode cX2_joined 145 = .ok (.ifCond .ne 7, 3) := by decide +kernel
theorem dX2_joined_148 : decode cX2_joined 148 = .ok (.iconst 0, 1) := by decide +kernel
theorem dX2_joined_149 : decode cX2_joined 149 = .ok (.goto 6, 3) := by decide +kernel
theorem dX2_joined_152 : decode cX2_joined 152 = .ok (.iload_n 1, 1) := by decide +kernel
theorem dX2_joined_153 : decode cX2_joined 153 = .ok (.iload_n 2, 1) := by decide +kernel
theorem dX2_joined_154 : decode cX2_joined 154 = .ok (.irem, 1) := by decide +kernel
theorem dX2_joined_155 : decode cX2_joined 155 = .ok (.ireturn, 1) := by decide +kernel
theorem dX2_joined_156 : decode cX2_joined 156 = .ok (.iload_n 1, 1) := by decide +kernel
theorem dX2_joined_157 : decode cX2_joined 157 = .ok (.iload_n 2, 1) := by decide +kernel
theorem dX2_joined_158 : decode cX2_joined 158 = .ok (.if_icmp .ge 7, 3) := by decide +kernel
theorem dX2_joined_161 : decode cX2_joined 161 = .ok (.iconst 1, 1) := by decide +kernel
theorem dX2_joined_162 : decode cX2_joined 162 = .ok (.goto 4, 3) := by decide +kernel
theorem dX2_joined_165 : decode cX2_joined 165 = .ok (.iconst 0, 1) := by decide +kernel
theorem dX2_joined_166 : decode cX2_joined 166 = .ok (.ireturn, 1) := by decide +kernel
theorem dX2_joined_167 : decode cX2_joined 167 = .ok (.iload_n 1, 1) := by decide +kernel
theorem dX2_joined_168 : decode cX2_joined 168 = .ok (.iload_n 2, 1) := by decide +kernel
theorem dX2_joined_169 : decode cX2_joined 169 = .ok (.if_icmp .ne 7, 3) := by decide +kernel
theorem dX2_joined_172 : decode cX2_joined 172 = .ok (.iconst 1, 1) := by decide +kernel
theorem dX2_joined_173 : decode cX2_joined 173 = .ok (.goto 4, 3) := by decide +kernel
theorem dX2_joined_176 : decode cX2_joined 176 = .ok (.iconst 0, 1) := by decide +kernel
theorem dX2_joined_177 : decode cX2_joined 177 = .ok (.ireturn, 1) := by decide +kernel
theorem dX2_joined_178 : decode cX2_joined 178 = .ok (.iload_n 1, 1) := by decide +kernel
theorem dX2_joined_179 : decode cX2_joined 179 = .ok (.iload_n 2, 1) := by decide +kernel
theorem dX2_joined_180 : decode cX2_joined 180 = .ok (.if_icmp .le 7, 3) := by decide +kernel
theorem dX2_joined_183 : decode cX2_joined 183 = .ok (.iconst 1, 1) := by decide +kernel
theorem dX2_joined_184 : decode cX2_joined 184 = .ok (.goto 4, 3) := by decide +kernel
theorem dX2_joined_187 : decode cX2_joined 187 = .ok (.iconst 0, 1) := by decide +kernel
theorem dX2_joined_188 : decode cX2_joined 188 = .ok (.ireturn, 1) := by decide +kernel
theorem dX2_joined_189 : decode cX2_joined 189 = .ok (.iload_n 1, 1) := by decide +kernel
theorem dX2_joined_190 : decode cX2_joined 190 = .ok (.ifCond .eq 11, 3) := by decide +kernel
theorem dX2_joined_193 : decode cX2_joined 193 = .ok (.iload_n 2, 1) := by decide +kernel
theorem dX2_joined_194 : decode cX2_joined 194 = .ok (.ifCond .eq 7, 3) := by decide +kernel
theorem dX2_joined_197 : decode cX2_joined 197 = .ok (.iconst 1, 1) := by decide +kernel
theorem dX2_joined_198 : decode cX2_joined 198 = .ok (.goto 4, 3) := by decide +kernel
theorem dX2_joined_201 : decode cX2_joined 201 = .ok (.iconst 0, 1) := by decide +kernel
theorem dX2_joined_202 : decode cX2_joined 202 = .ok (.ireturn, 1) := by decide +kernel
theorem dX2_joined_203 : decode cX2_joined 203 = .ok (.iload_n 1, 1) := by decide +kernel
theorem dX2_joined_204 : decode cX2_joined 204 = .ok (.ifCond .ne 7, 3) := by decide +kernel
theorem dX2_joined_207 : decode cX2_joined 207 = .ok (.iload_n 2, 1) := by decide +kernel
theorem dX2_joined_208 : decode cX2_joined 208 = .ok (.ifCond .eq 7, 3) := by decide +kernel
theorem dX2_joined_211 : decode cX2_joined 211 = .ok (.iconst 1, 1) := by decide +kernel
theorem dX2_joined_212 : decode cX2_joined 212 = .ok (.goto 4, 3) := by decide +kernel
theorem dX2_joined_215 : decode cX2_joined 215 = .ok (.iconst 0, 1) := by decide +kernel
theorem dX2_joined_216 : decode cX2_joined 216 = .ok (.ireturn, 1) := by decide +kernel
theorem dX2_push_0 : decode cX2_push 0 = .ok (.aload_n 0, 1) := by decide +kernel
theorem dX2_push_1 : decode cX2_push 1 = .ok (.getfield 105, 3) := by decide +kernel
theorem dX2_push_4 : decode cX2_push 4 = .ok (.aload_n 0, 1) := by decide +kernel
theorem dX2_push_5 : decode cX2_push 5 = .ok (.getfield 21, 3) := by decide +kernel
theorem dX2_push_8 : decode cX2_push 8 = .ok (.arraylength, 1) := by decide +kernel
theorem dX2_push_9 : decode cX2_push 9 = .ok (.if_icmp .ge 23, 3) := by decide +kernel
theorem dX2_push_12 : decode cX2_push 12 = .ok (.aload_n 0, 1) := by decide +kernel
theorem dX2_push_13 : decode cX2_push 13 = .ok (.getfield 21, 3) := by decide +kernel
theorem dX2_push_16 : decode cX2_push 16 = .ok (.aload_n 0, 1) := by decide +kernel
theorem dX2_push_17 : decode cX2_push 17 = .ok (.getfield 105, 3) := by decide +kernel
theorem dX2_push_20 : decode cX2_push 20 = .ok (.iload_n 1, 1) := by decide +kernel
theorem dX2_push_21 : decode cX2_push 21 = .ok (.iastore, 1) := by decide +kernel
theorem dX2_push_22 : decode cX2_push 22 = .ok (.aload_n 0, 1) := by decide +kernel
theorem dX2_push_23 : decode cX2_push 23 = .ok (.dup, 1) := by decide +kernel
theorem dX2_push_24 : decode cX2_push 24 = .ok (.getfield 105, 3) := by decide +kernel
theorem dX2_push_27 : decode cX2_push 27 = .ok (.iconst 1, 1) := by decide +kernel
theorem dX2_push_28 : decode cX2_push 28 = .ok (.iadd, 1) := by decide +kernel
theorem dX2_push_29 : decode cX2_push 29 = .ok (.putfield 105, 3) := by decide +kernel
theorem dX2_push_32 : decode cX2_push 32 = .ok (.return_, 1) := by decide +kernel
theorem dX2_pop_0 : decode cX2_pop 0 = .ok (.aload_n 0, 1) := by decide +kernel
theorem dX2_pop_1 : decode cX2_pop 1 = .ok (.getfield 105, 3) := by decide +kernel
theorem dX2_pop_4 : decode cX2_pop 4 = .ok (.ifCond .gt 5, 3) := by decide +kernel
theorem dX2_pop_7 : decode cX2_pop 7 = .ok (.iconst 0, 1) := by decide +kernel
theorem dX2_pop_8 : decode cX2_pop 8 = .ok (.ireturn, 1) := by decide +kernel
theorem dX2_pop_9 : decode cX2_pop 9 = .ok (.aload_n 0, 1) := by decide +kernel
theorem dX2_pop_10 : decode cX2_pop 10 = .ok (.dup, 1) := by decide +kernel
theorem dX2_pop_11 : decode cX2_pop 11 = .ok (.getfield 105, 3) := by decide +kernel
theorem dX2_pop_14 : decode cX2_pop 14 = .ok (.iconst 1, 1) := by decide +kernel
theorem dX2_pop_15 : decode cX2_pop 15 = .ok (.isub, 1) := by decide +kernel
theorem dX2_pop_16 : decode cX2_pop 16 = .ok (.putfield 105, 3) := by decide +kernel
theorem dX2_pop_19 : decode cX2_pop 19 = .ok (.aload_n 0, 1) := by decide +kernel
theorem dX2_pop_20 : decode cX2_pop 20 = .ok (.getfield 21, 3) := by decide +kernel
theorem dX2_pop_23 : decode cX2_pop 23 = .ok (.aload_n 0, 1) := by decide +kernel
theorem dX2_pop_24 : decode cX2_pop 24 = .ok (.getfield 105, 3) := by decide +kernel
theorem dX2_pop_27 : decode cX2_pop 27 = .ok (.iaload, 1) := by decide +kernel
theorem dX2_pop_28 : decode cX2_pop 28 = .ok (.ireturn, 1) := by decide +kernel
theorem dX3_init_0 : decode cX3_init 0 = .ok (.aload_n 0, 1) := by decide +kernel
theorem dX3_init_1 : decode cX3_init 1 = .ok (.invokespecial 3, 3) := by decide +kernel
theorem dX3_init_4 : decode cX3_init 4 = .ok (.aload_n 0, 1) := by decide +kernel
theorem dX3_init_5 : decode cX3_init 5 = .ok (.sipush 194, 3) := by decide +kernel
theorem dX3_init_8 : decode cX3_init 8 = .ok (.newarray .int, 2) := by decide +kernel
theorem dX3_init_10 : decode cX3_init 10 = .ok (.putfield 9, 3) := by decide +kernel
theorem dX3_init_13 : decode cX3_init 13 = .ok (.iconst 0, 1) := by decide +kernel
theorem dX3_init_14 : decode cX3_init 14 = .ok (.istore_n 1, 1) := by decide +kernel
theorem dX3_init_15 : decode cX3_init 15 = .ok (.iload_n 1, 1) := by decide +kernel
theorem dX3_init_16 : decode cX3_init 16 = .ok (.bipush 60, 2) := by decide +kernel
theorem dX3_init_18 : decode cX3_init 18 = .ok (.if_icmp .ge 31, 3) := by decide +kernel
theorem dX3_init_21 : decode cX3_init 21 = .ok (.aload_n 0, 1) := by decide +kernel
theorem dX3_init_22 : decode cX3_init 22 = .ok (.getfield 9, 3) := by decide +kernel
theorem dX3_init_25 : decode cX3_init 25 = .ok (.bipush 72, 2) := by decide +kernel
theorem dX3_init_27 : decode cX3_init 27 = .ok (.iload_n 1, 1) := by decide +kernel
theorem dX3_init_28 : decode cX3_init 28 = .ok (.iadd, 1) := by decide +kernel
theorem dX3_init_29 : decode cX3_init 29 = .ok (.bipush 8, 2) := by decide +kernel
theorem dX3_init_31 : decode cX3_init 31 = .ok (.iastore, 1) := by decide +kernel
theorem dX3_init_32 : decode cX3_init 32 = .ok (.aload_n 0, 1) := by decide +kernel
theorem dX3_init_33 : decode cX3_init 33 = .ok (.getfield 9, 3) := by decide +kernel
theorem dX3_init_36 : decode cX3_init 36 = .ok (.sipush 132, 3) := by decide +kernel
theorem dX3_init_39 : decode cX3_init 39 = .ok (.iload_n 1, 1) := by decide +kernel
theorem dX3_init_40 : decode cX3_init 40 = .ok (.iadd, 1) := by decide +kernel
theorem dX3_init_41 : decode cX3_init 41 = .ok (.iconst 3, 1) := by decide +kernel
theorem dX3_init_42 : decode cX3_init 42 = .ok (.iastore, 1) := by decide +kernel
theorem dX3_init_43 : decode cX3_init 43 = .ok (.iinc 1 1, 3) := by decide +kernel
theorem dX3_init_46 : decode cX3_init 46 = .ok (.goto (-31), 3) := by decide +kernel
theorem dX3_init_49 : decode cX3_init 49 = .ok (.aload_n 0, 1) := by decide +kernel
theorem dX3_init_50 : decode cX3_init 50 = .ok (.getfield 9, 3) := by decide +kernel
theorem dX3_init_53 : decode cX3_init 53 = .ok (.sipush 192, 3) := by decide +kernel
theorem dX3_init_56 : decode cX3_init 56 = .ok (.bipush 6, 2) := by decide +kernel
theorem dX3_init_58 : decode cX3_init 58 = .ok (.iastore, 1) := by decide +kernel
theorem dX3_init_59 : decode cX3_init 59 = .ok (.aload_n 0, 1) := by decide +kernel
theorem dX3_init_60 : decode cX3_init 60 = .ok (.getfield 9, 3) := by decide +kernel
theorem dX3_init_63 : decode cX3_init 63 = .ok (.sipush 193, 3) := by decide +kernel
theorem dX3_init_66 : decode cX3_init 66 = .ok (.iconst 2, 1) := by decide +kernel
theorem dX3_init_67 : decode cX3_init 67 = .ok (.iastore, 1) := by decide +kernel
theorem dX3_init_68 : decode cX3_init 68 = .ok (.return_, 1) := by decide +kernel
theorem dX3_isCell_0 : decode cX3_isCell 0 = .ok (.iload_n 0, 1) := by decide +kernel
theorem dX3_isCell_1 : decode cX3_isCell 1 = .ok (.ifCond .lt 13, 3) := by decide +kernel
theorem dX3_isCell_4 : decode cX3_isCell 4 = .ok (.iload_n 0, 1) := by decide +kernel
theorem dX3_isCell_5 : decode cX3_isCell 5 = .ok (.bipush 36, 2) := by decide +kernel
theorem dX3_isCell_7 : decode cX3_isCell 7 = .ok (.if_icmp .ge 7, 3) := by decide +kernel
theorem dX3_isCell_10 : decode cX3_isCell 10 = .ok (.iconst 1, 1) := by decide +kernel
theorem dX3_isCell_11 : decode cX3_isCell 11 = .ok (.goto 4, 3) := by decide +kernel
theorem dX3_isCell_14 : decode cX3_isCell 14 = .ok (.iconst 0, 1) := by decide +kernel
theorem dX3_isCell_15 : decode cX3_isCell 15 = .ok (.ireturn, 1) := by decide +kernel
theorem dX3_place_0 : decode cX3_place 0 = .ok (.iload_n 1, 1) := by decide +kernel
theorem dX3_place_1 : decode cX3_place 1 = .ok (.ifCond .lt 24, 3) := by decide +kernel
theorem dX3_place_4 : decode cX3_place 4 = .ok (.iload_n 1, 1) := by decide +kernel
theorem dX3_place_5 : decode cX3_place 5 = .ok (.getstatic 15, 3) := by decide +kernel
theorem dX3_place_8 : decode cX3_place 8 = .ok (.arraylength, 1) := by decide +kernel
theorem dX3_place_9 : decode cX3_place 9 = .ok (.if_icmp .ge 16, 3) := by decide +kernel
theorem dX3_place_12 : decode cX3_place 12 = .ok (.iload_n 0, 1) := by decide +kernel
theorem dX3_place_13 : decode cX3_place 13 = .ok (.ifCond .lt 12, 3) := by decide +kernel
theorem dX3_place_16 : decode cX3_place 16 = .ok (.iload_n 0, 1) := by decide +kernel
theorem dX3_place_17 : decode cX3_place 17 = .ok (.getstatic 15, 3) := by decide +kernel
theorem dX3_place_20 : decode cX3_place 20 = .ok (.iload_n 1, 1) := by decide +kernel
theorem dX3_place_21 : decode cX3_place 21 = .ok (.iaload, 1) := by decide +kernel
theorem dX3_place_22 : decode cX3_place 22 = .ok (.if_icmp .lt 5, 3) := by decide +kernel
theorem dX3_place_25 : decode cX3_place 25 = .ok (.iconst (-1), 1) := by decide +kernel
theorem dX3_place_26 : decode cX3_place 26 = .ok (.ireturn, 1) := by decide +kernel
theorem dX3_place_27 : decode cX3_place 27 = .ok (.getstatic 18, 3) := by decide +kernel
theorem dX3_place_30 : decode cX3_place 30 = .ok (.iload_n 1, 1) := by decide +kernel
theorem dX3_place_31 : decode cX3_place 31 = .ok (.iaload, 1) := by decide +kernel
theorem dX3_place_32 : decode cX3_place 32 = .ok (.iload_n 0, 1) := by decide +kernel
theorem dX3_place_33 : decode cX3_place 33 = .ok (.iadd, 1) := by decide +kernel
theorem dX3_place_34 : decode cX3_place 34 = .ok (.ireturn, 1) := by decide +kernel
theorem dX3_mayBe_0 : decode cX3_mayBe 0 = .ok (.iload_n 0, 1) := by decide +kernel
theorem dX3_mayBe_1 : decode cX3_mayBe 1 = .ok (.ifCond .lt 33, 3) := by decide +kernel
theorem dX3_mayBe_4 : decode cX3_mayBe 4 = .ok (.iload_n 0, 1) := by decide +kernel
theorem dX3_mayBe_5 : decode cX3_mayBe 5 = .ok (.getstatic 21, 3) := by decide +kernel
theorem dX3_mayBe_8 : decode cX3_mayBe 8 = .ok (.arraylength, 1) := by decide +kernel
theorem dX3_mayBe_9 : decode cX3_mayBe 9 = .ok (.if_icmp .ge 25, 3) := by decide +kernel
theorem dX3_mayBe_12 : decode cX3_mayBe 12 = .ok (.iload_n 1, 1) := by decide +kernel
theorem dX3_mayBe_13 : decode cX3_mayBe 13 = .ok (.getstatic 21, 3) := by decide +kernel
theorem dX3_mayBe_16 : decode cX3_mayBe 16 = .ok (.iload_n 0, 1) := by decide +kernel
theorem dX3_mayBe_17 : decode cX3_mayBe 17 = .ok (.iaload, 1) := by decide +kernel
theorem dX3_mayBe_18 : decode cX3_mayBe 18 = .ok (.if_icmp .lt 16, 3) := by decide +kernel
theorem dX3_mayBe_21 : decode cX3_mayBe 21 = .ok (.iload_n 1, 1) := by decide +kernel
theorem dX3_mayBe_22 : decode cX3_mayBe 22 = .ok (.getstatic 24, 3) := by decide +kernel
theorem dX3_mayBe_25 : decode cX3_mayBe 25 = .ok (.iload_n 0, 1) := by decide +kernel
theorem dX3_mayBe_26 : decode cX3_mayBe 26 = .ok (.iaload, 1) := by decide +kernel
theorem dX3_mayBe_27 : decode cX3_mayBe 27 = .ok (.if_icmp .gt 7, 3) := by decide +kernel
theorem dX3_mayBe_30 : decode cX3_mayBe 30 = .ok (.iconst 1, 1) := by decide +kernel
theorem dX3_mayBe_31 : decode cX3_mayBe 31 = .ok (.goto 4, 3) := by decide +kernel
theorem dX3_mayBe_34 : decode cX3_mayBe 34 = .ok (.iconst 0, 1) := by decide +kernel
theorem dX3_mayBe_35 : decode cX3_mayBe 35 = .ok (.ireturn, 1) := by decide +kernel
theorem dX3_neighbour_0 : decode cX3_neighbour 0 = .ok (.iload_n 1, 1) := by decide +kernel
theorem dX3_neighbour_1 : decode cX3_neighbour 1 = .ok (.tableswitch 92 1 4 #[31, 46, 62, 77], 31) := by decide +kernel
theorem dX3_neighbour_32 : decode cX3_neighbour 32 = .ok (.iload_n 0, 1) := by decide +kernel
theorem dX3_neighbour_33 : decode cX3_neighbour 33 = .ok (.bipush 6, 2) := by decide +kernel
theorem dX3_neighbour_35 : decode cX3_neighbour 35 = .ok (.if_icmp .lt 10, 3) := by decide +kernel
theorem dX3_neighbour_38 : decode cX3_neighbour 38 = .ok (.iload_n 0, 1) := by decide +kernel
theorem dX3_neighbour_39 : decode cX3_neighbour 39 = .ok (.bipush 6, 2) := by decide +kernel
theorem dX3_neighbour_41 : decode cX3_neighbour 41 = .ok (.isub, 1) := by decide +kernel
theorem dX3_neighbour_42 : decode cX3_neighbour 42 = .ok (.goto 4, 3) := by decide +kernel
theorem dX3_neighbour_45 : decode cX3_neighbour 45 = .ok (.iconst (-1), 1) := by decide +kernel
theorem dX3_neighbour_46 : decode cX3_neighbour 46 = .ok (.ireturn, 1) := by decide +kernel
theorem dX3_neighbour_47 : decode cX3_neighbour 47 = .ok (.iload_n 0, 1) := by decide +kernel
theorem dX3_neighbour_48 : decode cX3_neighbour 48 = .ok (.bipush 6, 2) := by decide +kernel
theorem dX3_neighbour_50 : decode cX3_neighbour 50 = .ok (.irem, 1) := by decide +kernel
theorem dX3_neighbour_51 : decode cX3_neighbour 51 = .ok (.iconst 5, 1) := by decide +kernel
theorem dX3_neighbour_52 : decode cX3_neighbour 52 = .ok (.if_icmp .ge 9, 3) := by decide +kernel
theorem dX3_neighbour_55 : decode cX3_neighbour 55 = .ok (.iload_n 0, 1) := by decide +kernel
theorem dX3_neighbour_56 : decode cX3_neighbour 56 = .ok (.iconst 1, 1) := by decide +kernel
theorem dX3_neighbour_57 : decode cX3_neighbour 57 = .ok (.iadd, 1) := by decide +kernel
theorem dX3_neighbour_58 : decode cX3_neighbour 58 = .ok (.goto 4, 3) := by decide +kernel
theorem dX3_neighbour_61 : decode cX3_neighbour 61 = .ok (.iconst (-1), 1) := by decide +kernel
theorem dX3_neighbour_62 : decode cX3_neighbour 62 = .ok (.ireturn, 1) := by decide +kernel
theorem dX3_neighbour_63 : decode cX3_neighbour 63 = .ok (.iload_n 0, 1) := by decide +kernel
theorem dX3_neighbour_64 : decode cX3_neighbour 64 = .ok (.bipush 30, 2) := by decide +kernel
theorem dX3_neighbour_66 : decode cX3_neighbour 66 = .ok (.if_icmp .ge 10, 3) := by decide +kernel
theorem dX3_neighbour_69 : decode cX3_neighbour 69 = .ok (.iload_n 0, 1) := by decide +kernel
theorem dX3_neighbour_70 : decode cX3_neighbour 70 = .ok (.bipush 6, 2) := by decide +kernel
theorem dX3_neighbour_72 : decode cX3_neighbour 72 = .ok (.iadd, 1) := by decide +kernel
theorem dX3_neighbour_73 : decode cX3_neighbour 73 = .ok (.goto 4, 3) := by decide +kernel
theorem dX3_neighbour_76 : decode cX3_neighbour 76 = .ok (.iconst (-1), 1) := by decide +kernel
theorem dX3_neighbour_77 : decode cX3_neighbour 77 = .ok (.ireturn, 1) := by decide +kernel
theorem dX3_neighbour_78 : decode cX3_neighbour 78 = .ok (.iload_n 0, 1) := by decide +kernel
theorem dX3_neighbour_79 : decode cX3_neighbour 79 = .ok (.bipush 6, 2) := by decide +kernel
theorem dX3_neighbour_81 : decode cX3_neighbour 81 = .ok (.irem, 1) := by decide +kernel
theorem dX3_neighbour_82 : decode cX3_neighbour 82 = .ok (.ifCond .le 9, 3) := by decide +kernel
theorem dX3_neighbour_85 : decode cX3_neighbour 85 = .ok (.iload_n 0, 1) := by decide +kernel
theorem dX3_neighbour_86 : decode cX3_neighbour 86 = .ok (.iconst 1, 1) := by decide +kernel
theorem dX3_neighbour_87 : decode cX3_neighbour 87 = .ok (.isub, 1) := by decide +kernel
theorem dX3_neighbour_88 : decode cX3_neighbour 88 = .ok (.goto 4, 3) := by decide +kernel
theorem dX3_neighbour_91 : decode cX3_neighbour 91 = .ok (.iconst (-1), 1) := by decide +kernel
theorem dX3_neighbour_92 : decode cX3_neighbour 92 = .ok (.ireturn, 1) := by decide +kernel
theorem dX3_neighbour_93 : decode cX3_neighbour 93 = .ok (.iconst (-1), 1) := by decide +kernel
theorem dX3_neighbour_94 : decode cX3_neighbour 94 = .ok (.ireturn, 1) := by decide +kernel
theorem dX3_told_0 : decode cX3_told 0 = .ok (.iload_n 1, 1) := by decide +kernel
theorem dX3_told_1 : decode cX3_told 1 = .ok (.ifCond .lt 21, 3) := by decide +kernel
theorem dX3_told_4 : decode cX3_told 4 = .ok (.iload_n 1, 1) := by decide +kernel
theorem dX3_told_5 : decode cX3_told 5 = .ok (.aload_n 0, 1) := by decide +kernel
theorem dX3_told_6 : decode cX3_told 6 = .ok (.getfield 9, 3) := by decide +kernel
theorem dX3_told_9 : decode cX3_told 9 = .ok (.arraylength, 1) := by decide +kernel
theorem dX3_told_10 : decode cX3_told 10 = .ok (.if_icmp .ge 12, 3) := by decide +kernel
theorem dX3_told_13 : decode cX3_told 13 = .ok (.aload_n 0, 1) := by decide +kernel
theorem dX3_told_14 : decode cX3_told 14 = .ok (.getfield 9, 3) := by decide +kernel
theorem dX3_told_17 : decode cX3_told 17 = .ok (.iload_n 1, 1) := by decide +kernel
theorem dX3_told_18 : decode cX3_told 18 = .ok (.iaload, 1) := by decide +kernel
theorem dX3_told_19 : decode cX3_told 19 = .ok (.goto 4, 3) := by decide +kernel
theorem dX3_told_22 : decode cX3_told 22 = .ok (.iconst 0, 1) := by decide +kernel
theorem dX3_told_23 : decode cX3_told 23 = .ok (.ireturn, 1) := by decide +kernel
theorem dX3_tell_0 : decode cX3_tell 0 = .ok (.iload_n 1, 1) := by decide +kernel
theorem dX3_tell_1 : decode cX3_tell 1 = .ok (.ifCond .lt 19, 3) := by decide +kernel
theorem dX3_tell_4 : decode cX3_tell 4 = .ok (.iload_n 1, 1) := by decide +kernel
theorem dX3_tell_5 : decode cX3_tell 5 = .ok (.aload_n 0, 1) := by decide +kernel
theorem dX3_tell_6 : decode cX3_tell 6 = .ok (.getfield 9, 3) := by decide +kernel
theorem dX3_tell_9 : decode cX3_tell 9 = .ok (.arraylength, 1) := by decide +kernel
theorem dX3_tell_10 : decode cX3_tell 10 = .ok (.if_icmp .ge 10, 3) := by decide +kernel
theorem dX3_tell_13 : decode cX3_tell 13 = .ok (.aload_n 0, 1) := by decide +kernel
theorem dX3_tell_14 : decode cX3_tell 14 = .ok (.getfield 9, 3) := by decide +kernel
theorem dX3_tell_17 : decode cX3_tell 17 = .ok (.iload_n 1, 1) := by decide +kernel
theorem dX3_tell_18 : decode cX3_tell 18 = .ok (.iload_n 2, 1) := by decide +kernel
theorem dX3_tell_19 : decode cX3_tell 19 = .ok (.iastore, 1) := by decide +kernel
theorem dX3_tell_20 : decode cX3_tell 20 = .ok (.return_, 1) := by decide +kernel
theorem dX3_high_0 : decode cX3_high 0 = .ok (.iload_n 1, 1) := by decide +kernel
theorem dX3_high_1 : decode cX3_high 1 = .ok (.ifCond .lt 18, 3) := by decide +kernel
theorem dX3_high_4 : decode cX3_high 4 = .ok (.iload_n 1, 1) := by decide +kernel
theorem dX3_high_5 : decode cX3_high 5 = .ok (.bipush 36, 2) := by decide +kernel
theorem dX3_high_7 : decode cX3_high 7 = .ok (.if_icmp .ge 12, 3) := by decide +kernel
theorem dX3_high_10 : decode cX3_high 10 = .ok (.aload_n 0, 1) := by decide +kernel
theorem dX3_high_11 : decode cX3_high 11 = .ok (.getfield 9, 3) := by decide +kernel
theorem dX3_high_14 : decode cX3_high 14 = .ok (.iload_n 1, 1) := by decide +kernel
theorem dX3_high_15 : decode cX3_high 15 = .ok (.iaload, 1) := by decide +kernel
theorem dX3_high_16 : decode cX3_high 16 = .ok (.goto 4, 3) := by decide +kernel
theorem dX3_high_19 : decode cX3_high 19 = .ok (.iconst 0, 1) := by decide +kernel
theorem dX3_high_20 : decode cX3_high 20 = .ok (.ireturn, 1) := by decide +kernel
theorem dX3_isStone_0 : decode cX3_isStone 0 = .ok (.iload_n 1, 1) := by decide +kernel
theorem dX3_isStone_1 : decode cX3_isStone 1 = .ok (.ifCond .lt 26, 3) := by decide +kernel
theorem dX3_isStone_4 : decode cX3_isStone 4 = .ok (.iload_n 1, 1) := by decide +kernel
theorem dX3_isStone_5 : decode cX3_isStone 5 = .ok (.bipush 36, 2) := by decide +kernel
theorem dX3_isStone_7 : decode cX3_isStone 7 = .ok (.if_icmp .ge 20, 3) := by decide +kernel
theorem dX3_isStone_10 : decode cX3_isStone 10 = .ok (.aload_n 0, 1) := by decide +kernel
theorem dX3_isStone_11 : decode cX3_isStone 11 = .ok (.getfield 9, 3) := by decide +kernel
theorem dX3_isStone_14 : decode cX3_isStone 14 = .ok (.bipush 36, 2) := by decide +kernel
theorem dX3_isStone_16 : decode cX3_isStone 16 = .ok (.iload_n 1, 1) := by decide +kernel
theorem dX3_isStone_17 : decode cX3_isStone 17 = .ok (.iadd, 1) := by decide +kernel
theorem dX3_isStone_18 : decode cX3_isStone 18 = .ok (.iaload, 1) := by decide +kernel
theorem dX3_isStone_19 : decode cX3_isStone 19 = .ok (.iconst 1, 1) := by decide +kernel
theorem dX3_isStone_20 : decode cX3_isStone 20 = .ok (.if_icmp .ne 7, 3) := by decide +kernel
theorem dX3_isStone_23 : decode cX3_isStone 23 = .ok (.iconst 1, 1) := by decide +kernel
theorem dX3_isStone_24 : decode cX3_isStone 24 = .ok (.goto 4, 3) := by decide +kernel
theorem dX3_isStone_27 : decode cX3_isStone 27 = .ok (.iconst 0, 1) := by decide +kernel
theorem dX3_isStone_28 : decode cX3_isStone 28 = .ok (.ireturn, 1) := by decide +kernel
theorem dX3_sun_0 : decode cX3_sun 0 = .ok (.iload_n 1, 1) := by decide +kernel
theorem dX3_sun_1 : decode cX3_sun 1 = .ok (.ifCond .lt 21, 3) := by decide +kernel
theorem dX3_sun_4 : decode cX3_sun 4 = .ok (.iload_n 1, 1) := by decide +kernel
theorem dX3_sun_5 : decode cX3_sun 5 = .ok (.bipush 60, 2) := by decide +kernel
theorem dX3_sun_7 : decode cX3_sun 7 = .ok (.if_icmp .ge 15, 3) := by decide +kernel
theorem dX3_sun_10 : decode cX3_sun 10 = .ok (.aload_n 0, 1) := by decide +kernel
theorem dX3_sun_11 : decode cX3_sun 11 = .ok (.getfield 9, 3) := by decide +kernel
theorem dX3_sun_14 : decode cX3_sun 14 = .ok (.bipush 72, 2) := by decide +kernel
theorem dX3_sun_16 : decode cX3_sun 16 = .ok (.iload_n 1, 1) := by decide +kernel
theorem dX3_sun_17 : decode cX3_sun 17 = .ok (.iadd, 1) := by decide +kernel
theorem dX3_sun_18 : decode cX3_sun 18 = .ok (.iaload, 1) := by decide +kernel
theorem dX3_sun_19 : decode cX3_sun 19 = .ok (.goto 4, 3) := by decide +kernel
theorem dX3_sun_22 : decode cX3_sun 22 = .ok (.iconst 0, 1) := by decide +kernel
theorem dX3_sun_23 : decode cX3_sun 23 = .ok (.ireturn, 1) := by decide +kernel
theorem dX3_wind_0 : decode cX3_wind 0 = .ok (.iload_n 1, 1) := by decide +kernel
theorem dX3_wind_1 : decode cX3_wind 1 = .ok (.ifCond .lt 22, 3) := by decide +kernel
theorem dX3_wind_4 : decode cX3_wind 4 = .ok (.iload_n 1, 1) := by decide +kernel
theorem dX3_wind_5 : decode cX3_wind 5 = .ok (.bipush 60, 2) := by decide +kernel
theorem dX3_wind_7 : decode cX3_wind 7 = .ok (.if_icmp .ge 16, 3) := by decide +kernel
theorem dX3_wind_10 : decode cX3_wind 10 = .ok (.aload_n 0, 1) := by decide +kernel
theorem dX3_wind_11 : decode cX3_wind 11 = .ok (.getfield 9, 3) := by decide +kernel
theorem dX3_wind_14 : decode cX3_wind 14 = .ok (.sipush 132, 3) := by decide +kernel
theorem dX3_wind_17 : decode cX3_wind 17 = .ok (.iload_n 1, 1) := by decide +kernel
theorem dX3_wind_18 : decode cX3_wind 18 = .ok (.iadd, 1) := by decide +kernel
theorem dX3_wind_19 : decode cX3_wind 19 = .ok (.iaload, 1) := by decide +kernel
theorem dX3_wind_20 : decode cX3_wind 20 = .ok (.goto 4, 3) := by decide +kernel
theorem dX3_wind_23 : decode cX3_wind 23 = .ok (.iconst 0, 1) := by decide +kernel
theorem dX3_wind_24 : decode cX3_wind 24 = .ok (.ireturn, 1) := by decide +kernel
theorem dX3_odds_0 : decode cX3_odds 0 = .ok (.aload_n 0, 1) := by decide +kernel
theorem dX3_odds_1 : decode cX3_odds 1 = .ok (.getfield 9, 3) := by decide +kernel
theorem dX3_odds_4 : decode cX3_odds 4 = .ok (.sipush 193, 3) := by decide +kernel
theorem dX3_odds_7 : decode cX3_odds 7 = .ok (.iaload, 1) := by decide +kernel
theorem dX3_odds_8 : decode cX3_odds 8 = .ok (.ireturn, 1) := by decide +kernel
theorem dX3_price_0 : decode cX3_price 0 = .ok (.iconst 3, 1) := by decide +kernel
theorem dX3_price_1 : decode cX3_price 1 = .ok (.iconst 2, 1) := by decide +kernel
theorem dX3_price_2 : decode cX3_price 2 = .ok (.iconst 0, 1) := by decide +kernel
theorem dX3_price_3 : decode cX3_price 3 = .ok (.aload_n 0, 1) := by decide +kernel
theorem dX3_price_4 : decode cX3_price 4 = .ok (.iload_n 2, 1) := by decide +kernel
theorem dX3_price_5 : decode cX3_price 5 = .ok (.invokevirtual 27, 3) := by decide +kernel
theorem dX3_price_8 : decode cX3_price 8 = .ok (.aload_n 0, 1) := by decide +kernel
theorem dX3_price_9 : decode cX3_price 9 = .ok (.iload_n 1, 1) := by decide +kernel
theorem dX3_price_10 : decode cX3_price 10 = .ok (.invokevirtual 27, 3) := by decide +kernel
theorem dX3_price_13 : decode cX3_price 13 = .ok (.isub, 1) := by decide +kernel
theorem dX3_price_14 : decode cX3_price 14 = .ok (.invokestatic 31, 3) := by decide +kernel
theorem dX3_price_17 : decode cX3_price 17 = .ok (.imul, 1) := by decide +kernel
theorem dX3_price_18 : decode cX3_price 18 = .ok (.iadd, 1) := by decide +kernel
theorem dX3_price_19 : decode cX3_price 19 = .ok (.bipush 6, 2) := by decide +kernel
theorem dX3_price_21 : decode cX3_price 21 = .ok (.iadd, 1) := by decide +kernel
theorem dX3_price_22 : decode cX3_price 22 = .ok (.aload_n 0, 1) := by decide +kernel
theorem dX3_price_23 : decode cX3_price 23 = .ok (.getfield 9, 3) := by decide +kernel
theorem dX3_price_26 : decode cX3_price 26 = .ok (.sipush 192, 3) := by decide +kernel
theorem dX3_price_29 : decode cX3_price 29 = .ok (.iaload, 1) := by decide +kernel
theorem dX3_price_30 : decode cX3_price 30 = .ok (.isub, 1) := by decide +kernel
theorem dX3_price_31 : decode cX3_price 31 = .ok (.ireturn, 1) := by decide +kernel
theorem dX3_isHollow_0 : decode cX3_isHollow 0 = .ok (.iconst 1, 1) := by decide +kernel
theorem dX3_isHollow_1 : decode cX3_isHollow 1 = .ok (.istore_n 2, 1) := by decide +kernel
theorem dX3_isHollow_2 : decode cX3_isHollow 2 = .ok (.iload_n 2, 1) := by decide +kernel
theorem dX3_isHollow_3 : decode cX3_isHollow 3 = .ok (.iconst 4, 1) := by decide +kernel
theorem dX3_isHollow_4 : decode cX3_isHollow 4 = .ok (.if_icmp .gt 34, 3) := by decide +kernel
theorem dX3_isHollow_7 : decode cX3_isHollow 7 = .ok (.iload_n 1, 1) := by decide +kernel
theorem dX3_isHollow_8 : decode cX3_isHollow 8 = .ok (.iload_n 2, 1) := by decide +kernel
theorem dX3_isHollow_9 : decode cX3_isHollow 9 = .ok (.invokestatic 37, 3) := by decide +kernel
theorem dX3_isHollow_12 : decode cX3_isHollow 12 = .ok (.istore_n 3, 1) := by decide +kernel
theorem dX3_isHollow_13 : decode cX3_isHollow 13 = .ok (.iload_n 3, 1) := by decide +kernel
theorem dX3_isHollow_14 : decode cX3_isHollow 14 = .ok (.ifCond .lt 18, 3) := by decide +kernel
theorem dX3_isHollow_17 : decode cX3_isHollow 17 = .ok (.aload_n 0, 1) := by decide +kernel
theorem dX3_isHollow_18 : decode cX3_isHollow 18 = .ok (.iload_n 3, 1) := by decide +kernel
theorem dX3_isHollow_19 : decode cX3_isHollow 19 = .ok (.invokevirtual 27, 3) := by decide +kernel
theorem dX3_isHollow_22 : decode cX3_isHollow 22 = .ok (.aload_n 0, 1) := by decide +kernel
theorem dX3_isHollow_23 : decode cX3_isHollow 23 = .ok (.iload_n 1, 1) := by decide +kernel
theorem dX3_isHollow_24 : decode cX3_isHollow 24 = .ok (.invokevirtual 27, 3) := by decide +kernel
theorem dX3_isHollow_27 : decode cX3_isHollow 27 = .ok (.if_icmp .gt 5, 3) := by decide +kernel
theorem dX3_isHollow_30 : decode cX3_isHollow 30 = .ok (.iconst 0, 1) := by decide +kernel
theorem dX3_isHollow_31 : decode cX3_isHollow 31 = .ok (.ireturn, 1) := by decide +kernel
theorem dX3_isHollow_32 : decode cX3_isHollow 32 = .ok (.iinc 2 1, 3) := by decide +kernel
theorem dX3_isHollow_35 : decode cX3_isHollow 35 = .ok (.goto (-33), 3) := by decide +kernel
theorem dX3_isHollow_38 : decode cX3_isHollow 38 = .ok (.iconst 1, 1) := by decide +kernel
theorem dX3_isHollow_39 : decode cX3_isHollow 39 = .ok (.ireturn, 1) := by decide +kernel
theorem dX3_stones_0 : decode cX3_stones 0 = .ok (.iconst 0, 1) := by decide +kernel
theorem dX3_stones_1 : decode cX3_stones 1 = .ok (.istore_n 1, 1) := by decide +kernel
theorem dX3_stones_2 : decode cX3_stones 2 = .ok (.iconst 0, 1) := by decide +kernel
theorem dX3_stones_3 : decode cX3_stones 3 = .ok (.istore_n 2, 1) := by decide +kernel
theorem dX3_stones_4 : decode cX3_stones 4 = .ok (.iload_n 2, 1) := by decide +kernel
theorem dX3_stones_5 : decode cX3_stones 5 = .ok (.bipush 36, 2) := by decide +kernel
theorem dX3_stones_7 : decode cX3_stones 7 = .ok (.if_icmp .ge 20, 3) := by decide +kernel
theorem dX3_stones_10 : decode cX3_stones 10 = .ok (.aload_n 0, 1) := by decide +kernel
theorem dX3_stones_11 : decode cX3_stones 11 = .ok (.iload_n 2, 1) := by decide +kernel
theorem dX3_stones_12 : decode cX3_stones 12 = .ok (.invokevirtual 40, 3) := by decide +kernel
theorem dX3_stones_15 : decode cX3_stones 15 = .ok (.ifCond .eq 6, 3) := by decide +kernel
theorem dX3_stones_18 : decode cX3_stones 18 = .ok (.iinc 1 1, 3) := by decide +kernel
theorem dX3_stones_21 : decode cX3_stones 21 = .ok (.iinc 2 1, 3) := by decide +kernel
theorem dX3_stones_24 : decode cX3_stones 24 = .ok (.goto (-20), 3) := by decide +kernel
theorem dX3_stones_27 : decode cX3_stones 27 = .ok (.iload_n 1, 1) := by decide +kernel
theorem dX3_stones_28 : decode cX3_stones 28 = .ok (.ireturn, 1) := by decide +kernel
theorem dX3_hollows_0 : decode cX3_hollows 0 = .ok (.iconst 0, 1) := by decide +kernel
theorem dX3_hollows_1 : decode cX3_hollows 1 = .ok (.istore_n 1, 1) := by decide +kernel
theorem dX3_hollows_2 : decode cX3_hollows 2 = .ok (.iconst 0, 1) := by decide +kernel
theorem dX3_hollows_3 : decode cX3_hollows 3 = .ok (.istore_n 2, 1) := by decide +kernel
theorem dX3_hollows_4 : decode cX3_hollows 4 = .ok (.iload_n 2, 1) := by decide +kernel
theorem dX3_hollows_5 : decode cX3_hollows 5 = .ok (.bipush 36, 2) := by decide +kernel
theorem dX3_hollows_7 : decode cX3_hollows 7 = .ok (.if_icmp .ge 20, 3) := by decide +kernel
theorem dX3_hollows_10 : decode cX3_hollows 10 = .ok (.aload_n 0, 1) := by decide +kernel
theorem dX3_hollows_11 : decode cX3_hollows 11 = .ok (.iload_n 2, 1) := by decide +kernel
theorem dX3_hollows_12 : decode cX3_hollows 12 = .ok (.invokevirtual 44, 3) := by decide +kernel
theorem dX3_hollows_15 : decode cX3_hollows 15 = .ok (.ifCond .eq 6, 3) := by decide +kernel
theorem dX3_hollows_18 : decode cX3_hollows 18 = .ok (.iinc 1 1, 3) := by decide +kernel
theorem dX3_hollows_21 : decode cX3_hollows 21 = .ok (.iinc 2 1, 3) := by decide +kernel
theorem dX3_hollows_24 : decode cX3_hollows 24 = .ok (.goto (-20), 3) := by decide +kernel
theorem dX3_hollows_27 : decode cX3_hollows 27 = .ok (.iload_n 1, 1) := by decide +kernel
theorem dX3_hollows_28 : decode cX3_hollows 28 = .ok (.ireturn, 1) := by decide +kernel
theorem dX4_init_0 : decode cX4_init 0 = .ok (.aload_n 0, 1) := by decide +kernel
theorem dX4_init_1 : decode cX4_init 1 = .ok (.invokespecial 3, 3) := by decide +kernel
theorem dX4_init_4 : decode cX4_init 4 = .ok (.aload_n 0, 1) := by decide +kernel
theorem dX4_init_5 : decode cX4_init 5 = .ok (.sipush 360, 3) := by decide +kernel
theorem dX4_init_8 : decode cX4_init 8 = .ok (.newarray .int, 2) := by decide +kernel
theorem dX4_init_10 : decode cX4_init 10 = .ok (.putfield 13, 3) := by decide +kernel
theorem dX4_init_13 : decode cX4_init 13 = .ok (.aload_n 0, 1) := by decide +kernel
theorem dX4_init_14 : decode cX4_init 14 = .ok (.sipush 360, 3) := by decide +kernel
theorem dX4_init_17 : decode cX4_init 17 = .ok (.newarray .int, 2) := by decide +kernel
theorem dX4_init_19 : decode cX4_init 19 = .ok (.putfield 17, 3) := by decide +kernel
theorem dX4_init_22 : decode cX4_init 22 = .ok (.aload_n 0, 1) := by decide +kernel
theorem dX4_init_23 : decode cX4_init 23 = .ok (.new 20, 3) := by decide +kernel
theorem dX4_init_26 : decode cX4_init 26 = .ok (.dup, 1) := by decide +kernel
theorem dX4_init_27 : decode cX4_init 27 = .ok (.invokespecial 22, 3) := by decide +kernel
theorem dX4_init_30 : decode cX4_init 30 = .ok (.putfield 23, 3) := by decide +kernel
theorem dX4_init_33 : decode cX4_init 33 = .ok (.return_, 1) := by decide +kernel
theorem dX4_find_0 : decode cX4_find 0 = .ok (.aload_n 0, 1) := by decide +kernel
theorem dX4_find_1 : decode cX4_find 1 = .ok (.getfield 13, 3) := by decide +kernel
theorem dX4_find_4 : decode cX4_find 4 = .ok (.iconst (-1), 1) := by decide +kernel
theorem dX4_find_5 : decode cX4_find 5 = .ok (.invokestatic 27, 3) := by decide +kernel
theorem dX4_find_8 : decode cX4_find 8 = .ok (.aload_n 0, 1) := by decide +kernel
theorem dX4_find_9 : decode cX4_find 9 = .ok (.getfield 13, 3) := by decide +kernel
theorem dX4_find_12 : decode cX4_find 12 = .ok (.aload_n 2, 1) := by decide +kernel
theorem dX4_find_13 : decode cX4_find 13 = .ok (.invokestatic 33, 3) := by decide +kernel
theorem dX4_find_16 : decode cX4_find 16 = .ok (.bipush 20, 2) := by decide +kernel
theorem dX4_find_18 : decode cX4_find 18 = .ok (.bipush 60, 2) := by decide +kernel
theorem dX4_find_20 : decode cX4_find 20 = .ok (.iload_n 3, 1) := by decide +kernel
theorem dX4_find_21 : decode cX4_find 21 = .ok (.isub, 1) := by decide +kernel
theorem dX4_find_22 : decode cX4_find 22 = .ok (.invokestatic 37, 3) := by decide +kernel
theorem dX4_find_25 : decode cX4_find 25 = .ok (.istore 5, 2) := by decide +kernel
theorem dX4_find_27 : decode cX4_find 27 = .ok (.iconst 0, 1) := by decide +kernel
theorem dX4_find_28 : decode cX4_find 28 = .ok (.istore 6, 2) := by decide +kernel
theorem dX4_find_30 : decode cX4_find 30 = .ok (.iload 6, 2) := by decide +kernel
theorem dX4_find_32 : decode cX4_find 32 = .ok (.iload 5, 2) := by decide +kernel
theorem dX4_find_34 : decode cX4_find 34 = .ok (.if_icmp .gt 50, 3) := by decide +kernel
theorem dX4_find_37 : decode cX4_find 37 = .ok (.aload_n 0, 1) := by decide +kernel
theorem dX4_find_38 : decode cX4_find 38 = .ok (.aload_n 0, 1) := by decide +kernel
theorem dX4_find_39 : decode cX4_find 39 = .ok (.iload 4, 2) := by decide +kernel
theorem dX4_find_41 : decode cX4_find 41 = .ok (.invokevirtual 43, 3) := by decide +kernel
theorem dX4_find_44 : decode cX4_find 44 = .ok (.putfield 47, 3) := by decide +kernel
theorem dX4_find_47 : decode cX4_find 47 = .ok (.aload_n 0, 1) := by decide +kernel
theorem dX4_find_48 : decode cX4_find 48 = .ok (.iload 6, 2) := by decide +kernel
theorem dX4_find_50 : decode cX4_find 50 = .ok (.putfield 51, 3) := by decide +kernel
theorem dX4_find_53 : decode cX4_find 53 = .ok (.aload_n 0, 1) := by decide +kernel
theorem dX4_find_54 : decode cX4_find 54 = .ok (.getfield 47, 3) := by decide +kernel
theorem dX4_find_57 : decode cX4_find 57 = .ok (.ifCond .lt 5, 3) := by decide +kernel
theorem dX4_find_60 : decode cX4_find 60 = .ok (.iconst 1, 1) := by decide +kernel
theorem dX4_find_61 : decode cX4_find 61 = .ok (.ireturn, 1) := by decide +kernel
theorem dX4_find_62 : decode cX4_find 62 = .ok (.iload 6, 2) := by decide +kernel
theorem dX4_find_64 : decode cX4_find 64 = .ok (.iload 5, 2) := by decide +kernel
theorem dX4_find_66 : decode cX4_find 66 = .ok (.if_icmp .ge 12, 3) := by decide +kernel
theorem dX4_find_69 : decode cX4_find 69 = .ok (.aload_n 0, 1) := by decide +kernel
theorem dX4_find_70 : decode cX4_find 70 = .ok (.aload_n 1, 1) := by decide +kernel
theorem dX4_find_71 : decode cX4_find 71 = .ok (.iload_n 3, 1) := by decide +kernel
theorem dX4_find_72 : decode cX4_find 72 = .ok (.iload 6, 2) := by decide +kernel
theorem dX4_find_74 : decode cX4_find 74 = .ok (.iadd, 1) := by decide +kernel
theorem dX4_find_75 : decode cX4_find 75 = .ok (.invokevirtual 54, 3) := by decide +kernel
theorem dX4_find_78 : decode cX4_find 78 = .ok (.iinc 6 1, 3) := by decide +kernel
theorem dX4_find_81 : decode cX4_find 81 = .ok (.goto (-51), 3) := by decide +kernel
theorem dX4_find_84 : decode cX4_find 84 = .ok (.iconst 0, 1) := by decide +kernel
theorem dX4_find_85 : decode cX4_find 85 = .ok (.ireturn, 1) := by decide +kernel
theorem dX4_arrive_0 : decode cX4_arrive 0 = .ok (.aload_n 1, 1) := by decide +kernel
theorem dX4_arrive_1 : decode cX4_arrive 1 = .ok (.getfield 58, 3) := by decide +kernel
theorem dX4_arrive_4 : decode cX4_arrive 4 = .ok (.bipush 10, 2) := by decide +kernel
theorem dX4_arrive_6 : decode cX4_arrive 6 = .ok (.imul, 1) := by decide +kernel
theorem dX4_arrive_7 : decode cX4_arrive 7 = .ok (.aload_n 1, 1) := by decide +kernel
theorem dX4_arrive_8 : decode cX4_arrive 8 = .ok (.getfield 61, 3) := by decide +kernel
theorem dX4_arrive_11 : decode cX4_arrive 11 = .ok (.iadd, 1) := by decide +kernel
theorem dX4_arrive_12 : decode cX4_arrive 12 = .ok (.istore_n 2, 1) := by decide +kernel
theorem dX4_arrive_13 : decode cX4_arrive 13 = .ok (.iload_n 2, 1) := by decide +kernel
theorem dX4_arrive_14 : decode cX4_arrive 14 = .ok (.ifCond .lt 22, 3) := by decide +kernel
theorem dX4_arrive_17 : decode cX4_arrive 17 = .ok (.iload_n 2, 1) := by decide +kernel
theorem dX4_arrive_18 : decode cX4_arrive 18 = .ok (.aload_n 0, 1) := by decide +kernel
theorem dX4_arrive_19 : decode cX4_arrive 19 = .ok (.arraylength, 1) := by decide +kernel
theorem dX4_arrive_20 : decode cX4_arrive 20 = .ok (.if_icmp .ge 16, 3) := by decide +kernel
theorem dX4_arrive_23 : decode cX4_arrive 23 = .ok (.aload_n 0, 1) := by decide +kernel
theorem dX4_arrive_24 : decode cX4_arrive 24 = .ok (.iload_n 2, 1) := by decide +kernel
theorem dX4_arrive_25 : decode cX4_arrive 25 = .ok (.aload_n 0, 1) := by decide +kernel
theorem dX4_arrive_26 : decode cX4_arrive 26 = .ok (.iload_n 2, 1) := by decide +kernel
theorem dX4_arrive_27 : decode cX4_arrive 27 = .ok (.iaload, 1) := by decide +kernel
theorem dX4_arrive_28 : decode cX4_arrive 28 = .ok (.aload_n 1, 1) := by decide +kernel
theorem dX4_arrive_29 : decode cX4_arrive 29 = .ok (.getfield 64, 3) := by decide +kernel
theorem dX4_arrive_32 : decode cX4_arrive 32 = .ok (.invokestatic 67, 3) := by decide +kernel
theorem dX4_arrive_35 : decode cX4_arrive 35 = .ok (.iastore, 1) := by decide +kernel
theorem dX4_arrive_36 : decode cX4_arrive 36 = .ok (.return_, 1) := by decide +kernel
theorem dX4_mostIn_0 : decode cX4_mostIn 0 = .ok (.iconst (-1), 1) := by decide +kernel
theorem dX4_mostIn_1 : decode cX4_mostIn 1 = .ok (.istore_n 2, 1) := by decide +kernel
theorem dX4_mostIn_2 : decode cX4_mostIn 2 = .ok (.iconst 0, 1) := by decide +kernel
theorem dX4_mostIn_3 : decode cX4_mostIn 3 = .ok (.istore_n 3, 1) := by decide +kernel
theorem dX4_mostIn_4 : decode cX4_mostIn 4 = .ok (.iload_n 3, 1) := by decide +kernel
theorem dX4_mostIn_5 : decode cX4_mostIn 5 = .ok (.bipush 10, 2) := by decide +kernel
theorem dX4_mostIn_7 : decode cX4_mostIn 7 = .ok (.if_icmp .ge 25, 3) := by decide +kernel
theorem dX4_mostIn_10 : decode cX4_mostIn 10 = .ok (.iload_n 2, 1) := by decide +kernel
theorem dX4_mostIn_11 : decode cX4_mostIn 11 = .ok (.aload_n 0, 1) := by decide +kernel
theorem dX4_mostIn_12 : decode cX4_mostIn 12 = .ok (.getfield 13, 3) := by decide +kernel
theorem dX4_mostIn_15 : decode cX4_mostIn 15 = .ok (.iload_n 1, 1) := by decide +kernel
theorem dX4_mostIn_16 : decode cX4_mostIn 16 = .ok (.bipush 10, 2) := by decide +kernel
theorem dX4_mostIn_18 : decode cX4_mostIn 18 = .ok (.imul, 1) := by decide +kernel
theorem dX4_mostIn_19 : decode cX4_mostIn 19 = .ok (.iload_n 3, 1) := by decide +kernel
theorem dX4_mostIn_20 : decode cX4_mostIn 20 = .ok (.iadd, 1) := by decide +kernel
theorem dX4_mostIn_21 : decode cX4_mostIn 21 = .ok (.iaload, 1) := by decide +kernel
theorem dX4_mostIn_22 : decode cX4_mostIn 22 = .ok (.invokestatic 67, 3) := by decide +kernel
theorem dX4_mostIn_25 : decode cX4_mostIn 25 = .ok (.istore_n 2, 1) := by decide +kernel
theorem dX4_mostIn_26 : decode cX4_mostIn 26 = .ok (.iinc 3 1, 3) := by decide +kernel
theorem dX4_mostIn_29 : decode cX4_mostIn 29 = .ok (.goto (-25), 3) := by decide +kernel
theorem dX4_mostIn_32 : decode cX4_mostIn 32 = .ok (.iload_n 2, 1) := by decide +kernel
theorem dX4_mostIn_33 : decode cX4_mostIn 33 = .ok (.ireturn, 1) := by decide +kernel
theorem dX4_goOn_0 : decode cX4_goOn 0 = .ok (.aload_n 0, 1) := by decide +kernel
theorem dX4_goOn_1 : decode cX4_goOn 1 = .ok (.getfield 17, 3) := by decide +kernel
theorem dX4_goOn_4 : decode cX4_goOn 4 = .ok (.iconst (-1), 1) := by decide +kernel
theorem dX4_goOn_5 : decode cX4_goOn 5 = .ok (.invokestatic 27, 3) := by decide +kernel
theorem dX4_goOn_8 : decode cX4_goOn 8 = .ok (.aload_n 1, 1) := by decide +kernel
theorem dX4_goOn_9 : decode cX4_goOn 9 = .ok (.iload_n 2, 1) := by decide +kernel
theorem dX4_goOn_10 : decode cX4_goOn 10 = .ok (.invokevirtual 70, 3) := by decide +kernel
theorem dX4_goOn_13 : decode cX4_goOn 13 = .ok (.istore_n 3, 1) := by decide +kernel
theorem dX4_goOn_14 : decode cX4_goOn 14 = .ok (.aload_n 1, 1) := by decide +kernel
theorem dX4_goOn_15 : decode cX4_goOn 15 = .ok (.iload_n 2, 1) := by decide +kernel
theorem dX4_goOn_16 : decode cX4_goOn 16 = .ok (.invokevirtual 73, 3) := by decide +kernel
theorem dX4_goOn_19 : decode cX4_goOn 19 = .ok (.istore 4, 2) := by decide +kernel
theorem dX4_goOn_21 : decode cX4_goOn 21 = .ok (.iconst 0, 1) := by decide +kernel
theorem dX4_goOn_22 : decode cX4_goOn 22 = .ok (.istore 5, 2) := by decide +kernel
theorem dX4_goOn_24 : decode cX4_goOn 24 = .ok (.iload 5, 2) := by decide +kernel
theorem dX4_goOn_26 : decode cX4_goOn 26 = .ok (.aload_n 0, 1) := by decide +kernel
theorem dX4_goOn_27 : decode cX4_goOn 27 = .ok (.getfield 13, 3) := by decide +kernel
theorem dX4_goOn_30 : decode cX4_goOn 30 = .ok (.arraylength, 1) := by decide +kernel
theorem dX4_goOn_31 : decode cX4_goOn 31 = .ok (.if_icmp .ge 89, 3) := by decide +kernel
theorem dX4_goOn_34 : decode cX4_goOn 34 = .ok (.aload_n 0, 1) := by decide +kernel
theorem dX4_goOn_35 : decode cX4_goOn 35 = .ok (.getfield 13, 3) := by decide +kernel
theorem dX4_goOn_38 : decode cX4_goOn 38 = .ok (.iload 5, 2) := by decide +kernel
theorem dX4_goOn_40 : decode cX4_goOn 40 = .ok (.iaload, 1) := by decide +kernel
theorem dX4_goOn_41 : decode cX4_goOn 41 = .ok (.ifCond .ge 6, 3) := by decide +kernel
theorem dX4_goOn_44 : decode cX4_goOn 44 = .ok (.goto 70, 3) := by decide +kernel
theorem dX4_goOn_47 : decode cX4_goOn 47 = .ok (.iconst 0, 1) := by decide +kernel
theorem dX4_goOn_48 : decode cX4_goOn 48 = .ok (.istore 6, 2) := by decide +kernel
theorem dX4_goOn_50 : decode cX4_goOn 50 = .ok (.iload 6, 2) := by decide +kernel
theorem dX4_goOn_52 : decode cX4_goOn 52 = .ok (.iconst 4, 1) := by decide +kernel
theorem dX4_goOn_53 : decode cX4_goOn 53 = .ok (.if_icmp .gt 61, 3) := by decide +kernel
theorem dX4_goOn_56 : decode cX4_goOn 56 = .ok (.aload_n 0, 1) := by decide +kernel
theorem dX4_goOn_57 : decode cX4_goOn 57 = .ok (.getfield 23, 3) := by decide +kernel
theorem dX4_goOn_60 : decode cX4_goOn 60 = .ok (.iload 5, 2) := by decide +kernel
theorem dX4_goOn_62 : decode cX4_goOn 62 = .ok (.bipush 10, 2) := by decide +kernel
theorem dX4_goOn_64 : decode cX4_goOn 64 = .ok (.idiv, 1) := by decide +kernel
theorem dX4_goOn_65 : decode cX4_goOn 65 = .ok (.aload_n 0, 1) := by decide +kernel
theorem dX4_goOn_66 : decode cX4_goOn 66 = .ok (.getfield 13, 3) := by decide +kernel
theorem dX4_goOn_69 : decode cX4_goOn 69 = .ok (.iload 5, 2) := by decide +kernel
theorem dX4_goOn_71 : decode cX4_goOn 71 = .ok (.iaload, 1) := by decide +kernel
theorem dX4_goOn_72 : decode cX4_goOn 72 = .ok (.iload 5, 2) := by decide +kernel
theorem dX4_goOn_74 : decode cX4_goOn 74 = .ok (.bipush 10, 2) := by decide +kernel
theorem dX4_goOn_76 : decode cX4_goOn 76 = .ok (.irem, 1) := by decide +kernel
theorem dX4_goOn_77 : decode cX4_goOn 77 = .ok (.invokevirtual 76, 3) := by decide +kernel
theorem dX4_goOn_80 : decode cX4_goOn 80 = .ok (.aload_n 0, 1) := by decide +kernel
theorem dX4_goOn_81 : decode cX4_goOn 81 = .ok (.getfield 23, 3) := by decide +kernel
theorem dX4_goOn_84 : decode cX4_goOn 84 = .ok (.aload_n 1, 1) := by decide +kernel
theorem dX4_goOn_85 : decode cX4_goOn 85 = .ok (.iload_n 2, 1) := by decide +kernel
theorem dX4_goOn_86 : decode cX4_goOn 86 = .ok (.iload 6, 2) := by decide +kernel
theorem dX4_goOn_88 : decode cX4_goOn 88 = .ok (.iload_n 3, 1) := by decide +kernel
theorem dX4_goOn_89 : decode cX4_goOn 89 = .ok (.iload 4, 2) := by decide +kernel
theorem dX4_goOn_91 : decode cX4_goOn 91 = .ok (.invokevirtual 80, 3) := by decide +kernel
theorem dX4_goOn_94 : decode cX4_goOn 94 = .ok (.ifCond .eq 14, 3) := by decide +kernel
theorem dX4_goOn_97 : decode cX4_goOn 97 = .ok (.aload_n 0, 1) := by decide +kernel
theorem dX4_goOn_98 : decode cX4_goOn 98 = .ok (.getfield 17, 3) := by decide +kernel
theorem dX4_goOn_101 : decode cX4_goOn 101 = .ok (.aload_n 0, 1) := by decide +kernel
theorem dX4_goOn_102 : decode cX4_goOn 102 = .ok (.getfield 23, 3) := by decide +kernel
theorem dX4_goOn_105 : decode cX4_goOn 105 = .ok (.invokestatic 33, 3) := by decide +kernel
theorem dX4_goOn_108 : decode cX4_goOn 108 = .ok (.iinc 6 1, 3) := by decide +kernel
theorem dX4_goOn_111 : decode cX4_goOn 111 = .ok (.goto (-61), 3) := by decide +kernel
theorem dX4_goOn_114 : decode cX4_goOn 114 = .ok (.iinc 5 1, 3) := by decide +kernel
theorem dX4_goOn_117 : decode cX4_goOn 117 = .ok (.goto (-93), 3) := by decide +kernel
theorem dX4_goOn_120 : decode cX4_goOn 120 = .ok (.aload_n 0, 1) := by decide +kernel
theorem dX4_goOn_121 : decode cX4_goOn 121 = .ok (.getfield 17, 3) := by decide +kernel
theorem dX4_goOn_124 : decode cX4_goOn 124 = .ok (.iconst 0, 1) := by decide +kernel
theorem dX4_goOn_125 : decode cX4_goOn 125 = .ok (.aload_n 0, 1) := by decide +kernel
theorem dX4_goOn_126 : decode cX4_goOn 126 = .ok (.getfield 13, 3) := by decide +kernel
theorem dX4_goOn_129 : decode cX4_goOn 129 = .ok (.iconst 0, 1) := by decide +kernel
theorem dX4_goOn_130 : decode cX4_goOn 130 = .ok (.aload_n 0, 1) := by decide +kernel
theorem dX4_goOn_131 : decode cX4_goOn 131 = .ok (.getfield 13, 3) := by decide +kernel
theorem dX4_goOn_134 : decode cX4_goOn 134 = .ok (.arraylength, 1) := by decide +kernel
theorem dX4_goOn_135 : decode cX4_goOn 135 = .ok (.invokestatic 84, 3) := by decide +kernel
theorem dX4_goOn_138 : decode cX4_goOn 138 = .ok (.return_, 1) := by decide +kernel
theorem dX5_init_0 : decode cX5_init 0 = .ok (.aload_n 0, 1) := by decide +kernel
theorem dX5_init_1 : decode cX5_init 1 = .ok (.invokespecial 1, 3) := by decide +kernel
theorem dX5_init_4 : decode cX5_init 4 = .ok (.aload_n 0, 1) := by decide +kernel
theorem dX5_init_5 : decode cX5_init 5 = .ok (.bipush 60, 2) := by decide +kernel
theorem dX5_init_7 : decode cX5_init 7 = .ok (.newarray .long, 2) := by decide +kernel
theorem dX5_init_9 : decode cX5_init 9 = .ok (.putfield 9, 3) := by decide +kernel
theorem dX5_init_12 : decode cX5_init 12 = .ok (.return_, 1) := by decide +kernel
theorem dX5_isEmpty_0 : decode cX5_isEmpty 0 = .ok (.aload_n 0, 1) := by decide +kernel
theorem dX5_isEmpty_1 : decode cX5_isEmpty 1 = .ok (.getfield 13, 3) := by decide +kernel
theorem dX5_isEmpty_4 : decode cX5_isEmpty 4 = .ok (.ifCond .ne 7, 3) := by decide +kernel
theorem dX5_isEmpty_7 : decode cX5_isEmpty 7 = .ok (.iconst 1, 1) := by decide +kernel
theorem dX5_isEmpty_8 : decode cX5_isEmpty 8 = .ok (.goto 4, 3) := by decide +kernel
theorem dX5_isEmpty_11 : decode cX5_isEmpty 11 = .ok (.iconst 0, 1) := by decide +kernel
theorem dX5_isEmpty_12 : decode cX5_isEmpty 12 = .ok (.ireturn, 1) := by decide +kernel
theorem dX5_isRow_0 : decode cX5_isRow 0 = .ok (.aload_n 0, 1) := by decide +kernel
theorem dX5_isRow_1 : decode cX5_isRow 1 = .ok (.getfield 13, 3) := by decide +kernel
theorem dX5_isRow_4 : decode cX5_isRow 4 = .ok (.iconst 2, 1) := by decide +kernel
theorem dX5_isRow_5 : decode cX5_isRow 5 = .ok (.if_icmp .ne 7, 3) := by decide +kernel
theorem dX5_isRow_8 : decode cX5_isRow 8 = .ok (.iconst 1, 1) := by decide +kernel
theorem dX5_isRow_9 : decode cX5_isRow 9 = .ok (.goto 4, 3) := by decide +kernel
theorem dX5_isRow_12 : decode cX5_isRow 12 = .ok (.iconst 0, 1) := by decide +kernel
theorem dX5_isRow_13 : decode cX5_isRow 13 = .ok (.ireturn, 1) := by decide +kernel
theorem dX5_isBytes_0 : decode cX5_isBytes 0 = .ok (.aload_n 0, 1) := by decide +kernel
theorem dX5_isBytes_1 : decode cX5_isBytes 1 = .ok (.getfield 13, 3) := by decide +kernel
theorem dX5_isBytes_4 : decode cX5_isBytes 4 = .ok (.iconst 2, 1) := by decide +kernel
theorem dX5_isBytes_5 : decode cX5_isBytes 5 = .ok (.if_icmp .ne 14, 3) := by decide +kernel
theorem dX5_isBytes_8 : decode cX5_isBytes 8 = .ok (.aload_n 0, 1) := by decide +kernel
theorem dX5_isBytes_9 : decode cX5_isBytes 9 = .ok (.getfield 17, 3) := by decide +kernel
theorem dX5_isBytes_12 : decode cX5_isBytes 12 = .ok (.ifCond .ne 7, 3) := by decide +kernel
theorem dX5_isBytes_15 : decode cX5_isBytes 15 = .ok (.iconst 1, 1) := by decide +kernel
theorem dX5_isBytes_16 : decode cX5_isBytes 16 = .ok (.goto 4, 3) := by decide +kernel
theorem dX5_isBytes_19 : decode cX5_isBytes 19 = .ok (.iconst 0, 1) := by decide +kernel
theorem dX5_isBytes_20 : decode cX5_isBytes 20 = .ok (.ireturn, 1) := by decide +kernel
theorem dX5_holdNothing_0 : decode cX5_holdNothing 0 = .ok (.aload_n 0, 1) := by decide +kernel
theorem dX5_holdNothing_1 : decode cX5_holdNothing 1 = .ok (.iconst 0, 1) := by decide +kernel
theorem dX5_holdNothing_2 : decode cX5_holdNothing 2 = .ok (.putfield 13, 3) := by decide +kernel
theorem dX5_holdNothing_5 : decode cX5_holdNothing 5 = .ok (.return_, 1) := by decide +kernel
theorem dX5_holdBody_0 : decode cX5_holdBody 0 = .ok (.aload_n 0, 1) := by decide +kernel
theorem dX5_holdBody_1 : decode cX5_holdBody 1 = .ok (.iconst 1, 1) := by decide +kernel
theorem dX5_holdBody_2 : decode cX5_holdBody 2 = .ok (.putfield 13, 3) := by decide +kernel
theorem dX5_holdBody_5 : decode cX5_holdBody 5 = .ok (.aload_n 0, 1) := by decide +kernel
theorem dX5_holdBody_6 : decode cX5_holdBody 6 = .ok (.iload_n 1, 1) := by decide +kernel
theorem dX5_holdBody_7 : decode cX5_holdBody 7 = .ok (.putfield 20, 3) := by decide +kernel
theorem dX5_holdBody_10 : decode cX5_holdBody 10 = .ok (.return_, 1) := by decide +kernel
theorem dX5_holdRow_0 : decode cX5_holdRow 0 = .ok (.aload_n 0, 1) := by decide +kernel
theorem dX5_holdRow_1 : decode cX5_holdRow 1 = .ok (.iconst 2, 1) := by decide +kernel
theorem dX5_holdRow_2 : decode cX5_holdRow 2 = .ok (.putfield 13, 3) := by decide +kernel
theorem dX5_holdRow_5 : decode cX5_holdRow 5 = .ok (.aload_n 0, 1) := by decide +kernel
theorem dX5_holdRow_6 : decode cX5_holdRow 6 = .ok (.iload_n 1, 1) := by decide +kernel
theorem dX5_holdRow_7 : decode cX5_holdRow 7 = .ok (.putfield 17, 3) := by decide +kernel
theorem dX5_holdRow_10 : decode cX5_holdRow 10 = .ok (.aload_n 0, 1) := by decide +kernel
theorem dX5_holdRow_11 : decode cX5_holdRow 11 = .ok (.bipush 60, 2) := by decide +kernel
theorem dX5_holdRow_13 : decode cX5_holdRow 13 = .ok (.iconst 0, 1) := by decide +kernel
theorem dX5_holdRow_14 : decode cX5_holdRow 14 = .ok (.iload_n 2, 1) := by decide +kernel
theorem dX5_holdRow_15 : decode cX5_holdRow 15 = .ok (.invokestatic 23, 3) := by decide +kernel
theorem dX5_holdRow_18 : decode cX5_holdRow 18 = .ok (.invokestatic 29, 3) := by decide +kernel
theorem dX5_holdRow_21 : decode cX5_holdRow 21 = .ok (.putfield 32, 3) := by decide +kernel
theorem dX5_holdRow_24 : decode cX5_holdRow 24 = .ok (.aload_n 0, 1) := by decide +kernel
theorem dX5_holdRow_25 : decode cX5_holdRow 25 = .ok (.getfield 9, 3) := by decide +kernel
theorem dX5_holdRow_28 : decode cX5_holdRow 28 = .ok (.lconst 0, 1) := by decide +kernel
theorem dX5_holdRow_29 : decode cX5_holdRow 29 = .ok (.invokestatic 35, 3) := by decide +kernel
theorem dX5_holdRow_32 : decode cX5_holdRow 32 = .ok (.return_, 1) := by decide +kernel
theorem dX5_hasPlaces_0 : decode cX5_hasPlaces 0 = .ok (.iload_n 1, 1) := by decide +kernel
theorem dX5_hasPlaces_1 : decode cX5_hasPlaces 1 = .ok (.ifCond .lt 29, 3) := by decide +kernel
theorem dX5_hasPlaces_4 : decode cX5_hasPlaces 4 = .ok (.iload_n 2, 1) := by decide +kernel
theorem dX5_hasPlaces_5 : decode cX5_hasPlaces 5 = .ok (.ifCond .lt 25, 3) := by decide +kernel
theorem dX5_hasPlaces_8 : decode cX5_hasPlaces 8 = .ok (.iload_n 1, 1) := by decide +kernel
theorem dX5_hasPlaces_9 : decode cX5_hasPlaces 9 = .ok (.aload_n 0, 1) := by decide +kernel
theorem dX5_hasPlaces_10 : decode cX5_hasPlaces 10 = .ok (.getfield 32, 3) := by decide +kernel
theorem dX5_hasPlaces_13 : decode cX5_hasPlaces 13 = .ok (.if_icmp .gt 17, 3) := by decide +kernel
theorem dX5_hasPlaces_16 : decode cX5_hasPlaces 16 = .ok (.iload_n 2, 1) := by decide +kernel
theorem dX5_hasPlaces_17 : decode cX5_hasPlaces 17 = .ok (.aload_n 0, 1) := by decide +kernel
theorem dX5_hasPlaces_18 : decode cX5_hasPlaces 18 = .ok (.getfield 32, 3) := by decide +kernel
theorem dX5_hasPlaces_21 : decode cX5_hasPlaces 21 = .ok (.iload_n 1, 1) := by decide +kernel
theorem dX5_hasPlaces_22 : decode cX5_hasPlaces 22 = .ok (.isub, 1) := by decide +kernel
theorem dX5_hasPlaces_23 : decode cX5_hasPlaces 23 = .ok (.if_icmp .gt 7, 3) := by decide +kernel
theorem dX5_hasPlaces_26 : decode cX5_hasPlaces 26 = .ok (.iconst 1, 1) := by decide +kernel
theorem dX5_hasPlaces_27 : decode cX5_hasPlaces 27 = .ok (.goto 4, 3) := by decide +kernel
theorem dX5_hasPlaces_30 : decode cX5_hasPlaces 30 = .ok (.iconst 0, 1) := by decide +kernel
theorem dX5_hasPlaces_31 : decode cX5_hasPlaces 31 = .ok (.ireturn, 1) := by decide +kernel
theorem dX5_at_0 : decode cX5_at 0 = .ok (.aload_n 0, 1) := by decide +kernel
theorem dX5_at_1 : decode cX5_at 1 = .ok (.iload_n 1, 1) := by decide +kernel
theorem dX5_at_2 : decode cX5_at 2 = .ok (.iconst 1, 1) := by decide +kernel
theorem dX5_at_3 : decode cX5_at 3 = .ok (.invokevirtual 41, 3) := by decide +kernel
theorem dX5_at_6 : decode cX5_at 6 = .ok (.ifCond .eq 12, 3) := by decide +kernel
theorem dX5_at_9 : decode cX5_at 9 = .ok (.aload_n 0, 1) := by decide +kernel
theorem dX5_at_10 : decode cX5_at 10 = .ok (.getfield 9, 3) := by decide +kernel
theorem dX5_at_13 : decode cX5_at 13 = .ok (.iload_n 1, 1) := by decide +kernel
theorem dX5_at_14 : decode cX5_at 14 = .ok (.laload, 1) := by decide +kernel
theorem dX5_at_15 : decode cX5_at 15 = .ok (.goto 4, 3) := by decide +kernel
theorem dX5_at_18 : decode cX5_at 18 = .ok (.lconst 0, 1) := by decide +kernel
theorem dX5_at_19 : decode cX5_at 19 = .ok (.lreturn, 1) := by decide +kernel
theorem dX5_set_0 : decode cX5_set 0 = .ok (.aload_n 0, 1) := by decide +kernel
theorem dX5_set_1 : decode cX5_set 1 = .ok (.iload_n 1, 1) := by decide +kernel
theorem dX5_set_2 : decode cX5_set 2 = .ok (.iconst 1, 1) := by decide +kernel
theorem dX5_set_3 : decode cX5_set 3 = .ok (.invokevirtual 41, 3) := by decide +kernel
theorem dX5_set_6 : decode cX5_set 6 = .ok (.ifCond .eq 14, 3) := by decide +kernel
theorem dX5_set_9 : decode cX5_set 9 = .ok (.aload_n 0, 1) := by decide +kernel
theorem dX5_set_10 : decode cX5_set 10 = .ok (.getfield 9, 3) := by decide +kernel
theorem dX5_set_13 : decode cX5_set 13 = .ok (.iload_n 1, 1) := by decide +kernel
theorem dX5_set_14 : decode cX5_set 14 = .ok (.aload_n 0, 1) := by decide +kernel
theorem dX5_set_15 : decode cX5_set 15 = .ok (.lload_n 2, 1) := by decide +kernel
theorem dX5_set_16 : decode cX5_set 16 = .ok (.invokevirtual 45, 3) := by decide +kernel
theorem dX5_set_19 : decode cX5_set 19 = .ok (.lastore, 1) := by decide +kernel
theorem dX5_set_20 : decode cX5_set 20 = .ok (.return_, 1) := by decide +kernel
theorem dX5_narrowed_0 : decode cX5_narrowed 0 = .ok (.aload_n 0, 1) := by decide +kernel
theorem dX5_narrowed_1 : decode cX5_narrowed 1 = .ok (.getfield 17, 3) := by decide +kernel
theorem dX5_narrowed_4 : decode cX5_narrowed 4 = .ok (.tableswitch 48 0 3 #[32, 37, 42, 46], 32) := by decide +kernel
theorem dX5_narrowed_36 : decode cX5_narrowed 36 = .ok (.lload_n 1, 1) := by decide +kernel
theorem dX5_narrowed_37 : decode cX5_narrowed 37 = .ok (.l2i, 1) := by decide +kernel
theorem dX5_narrowed_38 : decode cX5_narrowed 38 = .ok (.i2b, 1) := by decide +kernel
theorem dX5_narrowed_39 : decode cX5_narrowed 39 = .ok (.i2l, 1) := by decide +kernel
theorem dX5_narrowed_40 : decode cX5_narrowed 40 = .ok (.lreturn, 1) := by decide +kernel
theorem dX5_narrowed_41 : decode cX5_narrowed 41 = .ok (.lload_n 1, 1) := by decide +kernel
theorem dX5_narrowed_42 : decode cX5_narrowed 42 = .ok (.l2i, 1) := by decide +kernel
theorem dX5_narrowed_43 : decode cX5_narrowed 43 = .ok (.i2s, 1) := by decide +kernel
theorem dX5_narrowed_44 : decode cX5_narrowed 44 = .ok (.i2l, 1) := by decide +kernel
theorem dX5_narrowed_45 : decode cX5_narrowed 45 = .ok (.lreturn, 1) := by decide +kernel
theorem dX5_narrowed_46 : decode cX5_narrowed 46 = .ok (.lload_n 1, 1) := by decide +kernel
theorem dX5_narrowed_47 : decode cX5_narrowed 47 = .ok (.l2i, 1) := by decide +kernel
theorem dX5_narrowed_48 : decode cX5_narrowed 48 = .ok (.i2l, 1) := by decide +kernel
theorem dX5_narrowed_49 : decode cX5_narrowed 49 = .ok (.lreturn, 1) := by decide +kernel
theorem dX5_narrowed_50 : decode cX5_narrowed 50 = .ok (.lload_n 1, 1) := by decide +kernel
theorem dX5_narrowed_51 : decode cX5_narrowed 51 = .ok (.lreturn, 1) := by decide +kernel
theorem dX5_narrowed_52 : decode cX5_narrowed 52 = .ok (.lload_n 1, 1) := by decide +kernel
theorem dX5_narrowed_53 : decode cX5_narrowed 53 = .ok (.lconst 0, 1) := by decide +kernel
theorem dX5_narrowed_54 : decode cX5_narrowed 54 = .ok (.lcmp, 1) := by decide +kernel
theorem dX5_narrowed_55 : decode cX5_narrowed 55 = .ok (.ifCond .eq 7, 3) := by decide +kernel
theorem dX5_narrowed_58 : decode cX5_narrowed 58 = .ok (.lconst 1, 1) := by decide +kernel
theorem dX5_narrowed_59 : decode cX5_narrowed 59 = .ok (.goto 4, 3) := by decide +kernel
theorem dX5_narrowed_62 : decode cX5_narrowed 62 = .ok (.lconst 0, 1) := by decide +kernel
theorem dX5_narrowed_63 : decode cX5_narrowed 63 = .ok (.lreturn, 1) := by decide +kernel
theorem dX6_init_0 : decode cX6_init 0 = .ok (.aload_n 0, 1) := by decide +kernel
theorem dX6_init_1 : decode cX6_init 1 = .ok (.invokespecial 1, 3) := by decide +kernel
theorem dX6_init_4 : decode cX6_init 4 = .ok (.aload_n 0, 1) := by decide +kernel
theorem dX6_init_5 : decode cX6_init 5 = .ok (.bipush 36, 2) := by decide +kernel
theorem dX6_init_7 : decode cX6_init 7 = .ok (.newarray .int, 2) := by decide +kernel
theorem dX6_init_9 : decode cX6_init 9 = .ok (.putfield 9, 3) := by decide +kernel
theorem dX6_init_12 : decode cX6_init 12 = .ok (.aload_n 0, 1) := by decide +kernel
theorem dX6_init_13 : decode cX6_init 13 = .ok (.iconst 5, 1) := by decide +kernel
theorem dX6_init_14 : decode cX6_init 14 = .ok (.newarray .int, 2) := by decide +kernel
theorem dX6_init_16 : decode cX6_init 16 = .ok (.putfield 15, 3) := by decide +kernel
theorem dX6_init_19 : decode cX6_init 19 = .ok (.aload_n 0, 1) := by decide +kernel
theorem dX6_init_20 : decode cX6_init 20 = .ok (.iconst 5, 1) := by decide +kernel
theorem dX6_init_21 : decode cX6_init 21 = .ok (.newarray .int, 2) := by decide +kernel
theorem dX6_init_23 : decode cX6_init 23 = .ok (.putfield 18, 3) := by decide +kernel
theorem dX6_init_26 : decode cX6_init 26 = .ok (.aload_n 0, 1) := by decide +kernel
theorem dX6_init_27 : decode cX6_init 27 = .ok (.bipush 25, 2) := by decide +kernel
theorem dX6_init_29 : decode cX6_init 29 = .ok (.newarray .int, 2) := by decide +kernel
theorem dX6_init_31 : decode cX6_init 31 = .ok (.putfield 21, 3) := by decide +kernel
theorem dX6_init_34 : decode cX6_init 34 = .ok (.aload_n 0, 1) := by decide +kernel
theorem dX6_init_35 : decode cX6_init 35 = .ok (.sipush 160, 3) := by decide +kernel
theorem dX6_init_38 : decode cX6_init 38 = .ok (.newarray .int, 2) := by decide +kernel
theorem dX6_init_40 : decode cX6_init 40 = .ok (.putfield 24, 3) := by decide +kernel
theorem dX6_init_43 : decode cX6_init 43 = .ok (.return_, 1) := by decide +kernel
theorem dX6_spreadTo_0 : decode cX6_spreadTo 0 = .ok (.iconst 0, 1) := by decide +kernel
theorem dX6_spreadTo_1 : decode cX6_spreadTo 1 = .ok (.istore_n 3, 1) := by decide +kernel
theorem dX6_spreadTo_2 : decode cX6_spreadTo 2 = .ok (.iload_n 3, 1) := by decide +kernel
theorem dX6_spreadTo_3 : decode cX6_spreadTo 3 = .ok (.bipush 36, 2) := by decide +kernel
theorem dX6_spreadTo_5 : decode cX6_spreadTo 5 = .ok (.if_icmp .ge 57, 3) := by decide +kernel
theorem dX6_spreadTo_8 : decode cX6_spreadTo 8 = .ok (.iload_n 2, 1) := by decide +kernel
theorem dX6_spreadTo_9 : decode cX6_spreadTo 9 = .ok (.iconst (-1), 1) := by decide +kernel
theorem dX6_spreadTo_10 : decode cX6_spreadTo 10 = .ok (.if_icmp .ne 17, 3) := by decide +kernel
theorem dX6_spreadTo_13 : decode cX6_spreadTo 13 = .ok (.iload_n 3, 1) := by decide +kernel
theorem dX6_spreadTo_14 : decode cX6_spreadTo 14 = .ok (.bipush 6, 2) := by decide +kernel
theorem dX6_spreadTo_16 : decode cX6_spreadTo 16 = .ok (.if_icmp .ge 7, 3) := by decide +kernel
theorem dX6_spreadTo_19 : decode cX6_spreadTo 19 = .ok (.iconst 1, 1) := by decide +kernel
theorem dX6_spreadTo_20 : decode cX6_spreadTo 20 = .ok (.goto 17, 3) := by decide +kernel
theorem dX6_spreadTo_23 : decode cX6_spreadTo 23 = .ok (.iconst 0, 1) := by decide +kernel
theorem dX6_spreadTo_24 : decode cX6_spreadTo 24 = .ok (.goto 13, 3) := by decide +kernel
theorem dX6_spreadTo_27 : decode cX6_spreadTo 27 = .ok (.iload_n 3, 1) := by decide +kernel
theorem dX6_spreadTo_28 : decode cX6_spreadTo 28 = .ok (.iload_n 2, 1) := by decide +kernel
theorem dX6_spreadTo_29 : decode cX6_spreadTo 29 = .ok (.if_icmp .ne 7, 3) := by decide +kernel
theorem dX6_spreadTo_32 : decode cX6_spreadTo 32 = .ok (.iconst 1, 1) := by decide +kernel
theorem dX6_spreadTo_33 : decode cX6_spreadTo 33 = .ok (.goto 4, 3) := by decide +kernel
theorem dX6_spreadTo_36 : decode cX6_spreadTo 36 = .ok (.iconst 0, 1) := by decide +kernel
theorem dX6_spreadTo_37 : decode cX6_spreadTo 37 = .ok (.istore 4, 2) := by decide +kernel
theorem dX6_spreadTo_39 : decode cX6_spreadTo 39 = .ok (.aload_n 0, 1) := by decide +kernel
theorem dX6_spreadTo_40 : decode cX6_spreadTo 40 = .ok (.getfield 9, 3) := by decide +kernel
theorem dX6_spreadTo_43 : decode cX6_spreadTo 43 = .ok (.iload_n 3, 1) := by decide +kernel
theorem dX6_spreadTo_44 : decode cX6_spreadTo 44 = .ok (.iload 4, 2) := by decide +kernel
theorem dX6_spreadTo_46 : decode cX6_spreadTo 46 = .ok (.ifCond .eq 7, 3) := by decide +kernel
theorem dX6_spreadTo_49 : decode cX6_spreadTo 49 = .ok (.iconst 0, 1) := by decide +kernel
theorem dX6_spreadTo_50 : decode cX6_spreadTo 50 = .ok (.goto 5, 3) := by decide +kernel
theorem dX6_spreadTo_53 : decode cX6_spreadTo 53 = .ok (.ldc 27, 2) := by decide +kernel
theorem dX6_spreadTo_55 : decode cX6_spreadTo 55 = .ok (.iastore, 1) := by decide +kernel
theorem dX6_spreadTo_56 : decode cX6_spreadTo 56 = .ok (.iinc 3 1, 3) := by decide +kernel
theorem dX6_spreadTo_59 : decode cX6_spreadTo 59 = .ok (.goto (-57), 3) := by decide +kernel
theorem dX6_spreadTo_62 : decode cX6_spreadTo 62 = .ok (.lconst 0, 1) := by decide +kernel
theorem dX6_spreadTo_63 : decode cX6_spreadTo 63 = .ok (.lstore_n 3, 1) := by decide +kernel
theorem dX6_spreadTo_64 : decode cX6_spreadTo 64 = .ok (.iconst 0, 1) := by decide +kernel
theorem dX6_spreadTo_65 : decode cX6_spreadTo 65 = .ok (.istore 5, 2) := by decide +kernel
theorem dX6_spreadTo_67 : decode cX6_spreadTo 67 = .ok (.iload 5, 2) := by decide +kernel
theorem dX6_spreadTo_69 : decode cX6_spreadTo 69 = .ok (.bipush 36, 2) := by decide +kernel
theorem dX6_spreadTo_71 : decode cX6_spreadTo 71 = .ok (.if_icmp .ge 38, 3) := by decide +kernel
theorem dX6_spreadTo_74 : decode cX6_spreadTo 74 = .ok (.aload_n 0, 1) := by decide +kernel
theorem dX6_spreadTo_75 : decode cX6_spreadTo 75 = .ok (.lload_n 3, 1) := by decide +kernel
theorem dX6_spreadTo_76 : decode cX6_spreadTo 76 = .ok (.invokevirtual 28, 3) := by decide +kernel
theorem dX6_spreadTo_79 : decode cX6_spreadTo 79 = .ok (.istore 6, 2) := by decide +kernel
theorem dX6_spreadTo_81 : decode cX6_spreadTo 81 = .ok (.iload 6, 2) := by decide +kernel
theorem dX6_spreadTo_83 : decode cX6_spreadTo 83 = .ok (.ifCond .ge 6, 3) := by decide +kernel
theorem dX6_spreadTo_86 : decode cX6_spreadTo 86 = .ok (.goto 23, 3) := by decide +kernel
theorem dX6_spreadTo_89 : decode cX6_spreadTo 89 = .ok (.lload_n 3, 1) := by decide +kernel
theorem dX6_spreadTo_90 : decode cX6_spreadTo 90 = .ok (.lconst 1, 1) := by decide +kernel
theorem dX6_spreadTo_91 : decode cX6_spreadTo 91 = .ok (.iload 6, 2) := by decide +kernel
theorem dX6_spreadTo_93 : decode cX6_spreadTo 93 = .ok (.lshl, 1) := by decide +kernel
theorem dX6_spreadTo_94 : decode cX6_spreadTo 94 = .ok (.lor, 1) := by decide +kernel
theorem dX6_spreadTo_95 : decode cX6_spreadTo 95 = .ok (.lstore_n 3, 1) := by decide +kernel
theorem dX6_spreadTo_96 : decode cX6_spreadTo 96 = .ok (.aload_n 0, 1) := by decide +kernel
theorem dX6_spreadTo_97 : decode cX6_spreadTo 97 = .ok (.aload_n 1, 1) := by decide +kernel
theorem dX6_spreadTo_98 : decode cX6_spreadTo 98 = .ok (.iload 6, 2) := by decide +kernel
theorem dX6_spreadTo_100 : decode cX6_spreadTo 100 = .ok (.invokevirtual 32, 3) := by decide +kernel
theorem dX6_spreadTo_103 : decode cX6_spreadTo 103 = .ok (.iinc 5 1, 3) := by decide +kernel
theorem dX6_spreadTo_106 : decode cX6_spreadTo 106 = .ok (.goto (-39), 3) := by decide +kernel
theorem dX6_spreadTo_109 : decode cX6_spreadTo 109 = .ok (.return_, 1) := by decide +kernel
theorem dX6_nearest_0 : decode cX6_nearest 0 = .ok (.iconst (-1), 1) := by decide +kernel
theorem dX6_nearest_1 : decode cX6_nearest 1 = .ok (.istore_n 3, 1) := by decide +kernel
theorem dX6_nearest_2 : decode cX6_nearest 2 = .ok (.iconst 0, 1) := by decide +kernel
theorem dX6_nearest_3 : decode cX6_nearest 3 = .ok (.istore 4, 2) := by decide +kernel
theorem dX6_nearest_5 : decode cX6_nearest 5 = .ok (.iload 4, 2) := by decide +kernel
theorem dX6_nearest_7 : decode cX6_nearest 7 = .ok (.bipush 36, 2) := by decide +kernel
theorem dX6_nearest_9 : decode cX6_nearest 9 = .ok (.if_icmp .ge 43, 3) := by decide +kernel
theorem dX6_nearest_12 : decode cX6_nearest 12 = .ok (.lload_n 1, 1) := by decide +kernel
theorem dX6_nearest_13 : decode cX6_nearest 13 = .ok (.iload 4, 2) := by decide +kernel
theorem dX6_nearest_15 : decode cX6_nearest 15 = .ok (.lushr, 1) := by decide +kernel
theorem dX6_nearest_16 : decode cX6_nearest 16 = .ok (.lconst 1, 1) := by decide +kernel
theorem dX6_nearest_17 : decode cX6_nearest 17 = .ok (.land, 1) := by decide +kernel
theorem dX6_nearest_18 : decode cX6_nearest 18 = .ok (.lconst 0, 1) := by decide +kernel
theorem dX6_nearest_19 : decode cX6_nearest 19 = .ok (.lcmp, 1) := by decide +kernel
theorem dX6_nearest_20 : decode cX6_nearest 20 = .ok (.ifCond .ne 26, 3) := by decide +kernel
theorem dX6_nearest_23 : decode cX6_nearest 23 = .ok (.iload_n 3, 1) := by decide +kernel
theorem dX6_nearest_24 : decode cX6_nearest 24 = .ok (.ifCond .lt 19, 3) := by decide +kernel
theorem dX6_nearest_27 : decode cX6_nearest 27 = .ok (.aload_n 0, 1) := by decide +kernel
theorem dX6_nearest_28 : decode cX6_nearest 28 = .ok (.getfield 9, 3) := by decide +kernel
theorem dX6_nearest_31 : decode cX6_nearest 31 = .ok (.iload 4, 2) := by decide +kernel
theorem dX6_nearest_33 : decode cX6_nearest 33 = .ok (.iaload, 1) := by decide +kernel
theorem dX6_nearest_34 : decode cX6_nearest 34 = .ok (.aload_n 0, 1) := by decide +kernel
theorem dX6_nearest_35 : decode cX6_nearest 35 = .ok (.getfield 9, 3) := by decide +kernel
theorem dX6_nearest_38 : decode cX6_nearest 38 = .ok (.iload_n 3, 1) := by decide +kernel
theorem dX6_nearest_39 : decode cX6_nearest 39 = .ok (.iaload, 1) := by decide +kernel
theorem dX6_nearest_40 : decode cX6_nearest 40 = .ok (.if_icmp .ge 6, 3) := by decide +kernel
theorem dX6_nearest_43 : decode cX6_nearest 43 = .ok (.iload 4, 2) := by decide +kernel
theorem dX6_nearest_45 : decode cX6_nearest 45 = .ok (.istore_n 3, 1) := by decide +kernel
theorem dX6_nearest_46 : decode cX6_nearest 46 = .ok (.iinc 4 1, 3) := by decide +kernel
theorem dX6_nearest_49 : decode cX6_nearest 49 = .ok (.goto (-44), 3) := by decide +kernel
theorem dX6_nearest_52 : decode cX6_nearest 52 = .ok (.iload_n 3, 1) := by decide +kernel
theorem dX6_nearest_53 : decode cX6_nearest 53 = .ok (.ireturn, 1) := by decide +kernel
theorem dX6_spreadFrom_0 : decode cX6_spreadFrom 0 = .ok (.iconst 1, 1) := by decide +kernel
theorem dX6_spreadFrom_1 : decode cX6_spreadFrom 1 = .ok (.istore_n 3, 1) := by decide +kernel
theorem dX6_spreadFrom_2 : decode cX6_spreadFrom 2 = .ok (.iload_n 3, 1) := by decide +kernel
theorem dX6_spreadFrom_3 : decode cX6_spreadFrom 3 = .ok (.iconst 4, 1) := by decide +kernel
theorem dX6_spreadFrom_4 : decode cX6_spreadFrom 4 = .ok (.if_icmp .gt 52, 3) := by decide +kernel
theorem dX6_spreadFrom_7 : decode cX6_spreadFrom 7 = .ok (.iload_n 2, 1) := by decide +kernel
theorem dX6_spreadFrom_8 : decode cX6_spreadFrom 8 = .ok (.iload_n 3, 1) := by decide +kernel
theorem dX6_spreadFrom_9 : decode cX6_spreadFrom 9 = .ok (.invokestatic 36, 3) := by decide +kernel
theorem dX6_spreadFrom_12 : decode cX6_spreadFrom 12 = .ok (.istore 4, 2) := by decide +kernel
theorem dX6_spreadFrom_14 : decode cX6_spreadFrom 14 = .ok (.iload 4, 2) := by decide +kernel
theorem dX6_spreadFrom_16 : decode cX6_spreadFrom 16 = .ok (.ifCond .lt 34, 3) := by decide +kernel
theorem dX6_spreadFrom_19 : decode cX6_spreadFrom 19 = .ok (.aload_n 0, 1) := by decide +kernel
theorem dX6_spreadFrom_20 : decode cX6_spreadFrom 20 = .ok (.getfield 9, 3) := by decide +kernel
theorem dX6_spreadFrom_23 : decode cX6_spreadFrom 23 = .ok (.iload 4, 2) := by decide +kernel
theorem dX6_spreadFrom_25 : decode cX6_spreadFrom 25 = .ok (.aload_n 0, 1) := by decide +kernel
theorem dX6_spreadFrom_26 : decode cX6_spreadFrom 26 = .ok (.getfield 9, 3) := by decide +kernel
theorem dX6_spreadFrom_29 : decode cX6_spreadFrom 29 = .ok (.iload 4, 2) := by decide +kernel
theorem dX6_spreadFrom_31 : decode cX6_spreadFrom 31 = .ok (.iaload, 1) := by decide +kernel
theorem dX6_spreadFrom_32 : decode cX6_spreadFrom 32 = .ok (.aload_n 1, 1) := by decide +kernel
theorem dX6_spreadFrom_33 : decode cX6_spreadFrom 33 = .ok (.iload 4, 2) := by decide +kernel
theorem dX6_spreadFrom_35 : decode cX6_spreadFrom 35 = .ok (.iload_n 2, 1) := by decide +kernel
theorem dX6_spreadFrom_36 : decode cX6_spreadFrom 36 = .ok (.invokevirtual 40, 3) := by decide +kernel
theorem dX6_spreadFrom_39 : decode cX6_spreadFrom 39 = .ok (.aload_n 0, 1) := by decide +kernel
theorem dX6_spreadFrom_40 : decode cX6_spreadFrom 40 = .ok (.getfield 9, 3) := by decide +kernel
theorem dX6_spreadFrom_43 : decode cX6_spreadFrom 43 = .ok (.iload_n 2, 1) := by decide +kernel
theorem dX6_spreadFrom_44 : decode cX6_spreadFrom 44 = .ok (.iaload, 1) := by decide +kernel
theorem dX6_spreadFrom_45 : decode cX6_spreadFrom 45 = .ok (.iadd, 1) := by decide +kernel
theorem dX6_spreadFrom_46 : decode cX6_spreadFrom 46 = .ok (.invokestatic 43, 3) := by decide +kernel
theorem dX6_spreadFrom_49 : decode cX6_spreadFrom 49 = .ok (.iastore, 1) := by decide +kernel
theorem dX6_spreadFrom_50 : decode cX6_spreadFrom 50 = .ok (.iinc 3 1, 3) := by decide +kernel
theorem dX6_spreadFrom_53 : decode cX6_spreadFrom 53 = .ok (.goto (-51), 3) := by decide +kernel
theorem dX6_spreadFrom_56 : decode cX6_spreadFrom 56 = .ok (.return_, 1) := by decide +kernel
theorem dX6_costFrom_0 : decode cX6_costFrom 0 = .ok (.iload_n 1, 1) := by decide +kernel
theorem dX6_costFrom_1 : decode cX6_costFrom 1 = .ok (.invokestatic 48, 3) := by decide +kernel
theorem dX6_costFrom_4 : decode cX6_costFrom 4 = .ok (.ifCond .eq 12, 3) := by decide +kernel
theorem dX6_costFrom_7 : decode cX6_costFrom 7 = .ok (.aload_n 0, 1) := by decide +kernel
theorem dX6_costFrom_8 : decode cX6_costFrom 8 = .ok (.getfield 9, 3) := by decide +kernel
theorem dX6_costFrom_11 : decode cX6_costFrom 11 = .ok (.iload_n 1, 1) := by decide +kernel
theorem dX6_costFrom_12 : decode cX6_costFrom 12 = .ok (.iaload, 1) := by decide +kernel
theorem dX6_costFrom_13 : decode cX6_costFrom 13 = .ok (.goto 5, 3) := by decide +kernel
theorem dX6_costFrom_16 : decode cX6_costFrom 16 = .ok (.ldc 27, 2) := by decide +kernel
theorem dX6_costFrom_18 : decode cX6_costFrom 18 = .ok (.ireturn, 1) := by decide +kernel
theorem dX6_firstFrom_0 : decode cX6_firstFrom 0 = .ok (.iconst 1, 1) := by decide +kernel
theorem dX6_firstFrom_1 : decode cX6_firstFrom 1 = .ok (.istore_n 3, 1) := by decide +kernel
theorem dX6_firstFrom_2 : decode cX6_firstFrom 2 = .ok (.iload_n 3, 1) := by decide +kernel
theorem dX6_firstFrom_3 : decode cX6_firstFrom 3 = .ok (.iconst 4, 1) := by decide +kernel
theorem dX6_firstFrom_4 : decode cX6_firstFrom 4 = .ok (.if_icmp .gt 46, 3) := by decide +kernel
theorem dX6_firstFrom_7 : decode cX6_firstFrom 7 = .ok (.iload_n 2, 1) := by decide +kernel
theorem dX6_firstFrom_8 : decode cX6_firstFrom 8 = .ok (.iload_n 3, 1) := by decide +kernel
theorem dX6_firstFrom_9 : decode cX6_firstFrom 9 = .ok (.invokestatic 36, 3) := by decide +kernel
theorem dX6_firstFrom_12 : decode cX6_firstFrom 12 = .ok (.istore 4, 2) := by decide +kernel
theorem dX6_firstFrom_14 : decode cX6_firstFrom 14 = .ok (.iload 4, 2) := by decide +kernel
theorem dX6_firstFrom_16 : decode cX6_firstFrom 16 = .ok (.ifCond .lt 28, 3) := by decide +kernel
theorem dX6_firstFrom_19 : decode cX6_firstFrom 19 = .ok (.aload_n 1, 1) := by decide +kernel
theorem dX6_firstFrom_20 : decode cX6_firstFrom 20 = .ok (.iload_n 2, 1) := by decide +kernel
theorem dX6_firstFrom_21 : decode cX6_firstFrom 21 = .ok (.iload 4, 2) := by decide +kernel
theorem dX6_firstFrom_23 : decode cX6_firstFrom 23 = .ok (.invokevirtual 40, 3) := by decide +kernel
theorem dX6_firstFrom_26 : decode cX6_firstFrom 26 = .ok (.aload_n 0, 1) := by decide +kernel
theorem dX6_firstFrom_27 : decode cX6_firstFrom 27 = .ok (.iload 4, 2) := by decide +kernel
theorem dX6_firstFrom_29 : decode cX6_firstFrom 29 = .ok (.invokevirtual 52, 3) := by decide +kernel
theorem dX6_firstFrom_32 : decode cX6_firstFrom 32 = .ok (.iadd, 1) := by decide +kernel
theorem dX6_firstFrom_33 : decode cX6_firstFrom 33 = .ok (.aload_n 0, 1) := by decide +kernel
theorem dX6_firstFrom_34 : decode cX6_firstFrom 34 = .ok (.iload_n 2, 1) := by decide +kernel
theorem dX6_firstFrom_35 : decode cX6_firstFrom 35 = .ok (.invokevirtual 52, 3) := by decide +kernel
theorem dX6_firstFrom_38 : decode cX6_firstFrom 38 = .ok (.if_icmp .ne 6, 3) := by decide +kernel
theorem dX6_firstFrom_41 : decode cX6_firstFrom 41 = .ok (.iload 4, 2) := by decide +kernel
theorem dX6_firstFrom_43 : decode cX6_firstFrom 43 = .ok (.ireturn, 1) := by decide +kernel
theorem dX6_firstFrom_44 : decode cX6_firstFrom 44 = .ok (.iinc 3 1, 3) := by decide +kernel
theorem dX6_firstFrom_47 : decode cX6_firstFrom 47 = .ok (.goto (-45), 3) := by decide +kernel
theorem dX6_firstFrom_50 : decode cX6_firstFrom 50 = .ok (.iconst (-1), 1) := by decide +kernel
theorem dX6_firstFrom_51 : decode cX6_firstFrom 51 = .ok (.ireturn, 1) := by decide +kernel
theorem dX6_planRound_0 : decode cX6_planRound 0 = .ok (.aload_n 0, 1) := by decide +kernel
theorem dX6_planRound_1 : decode cX6_planRound 1 = .ok (.aload_n 1, 1) := by decide +kernel
theorem dX6_planRound_2 : decode cX6_planRound 2 = .ok (.aload_n 2, 1) := by decide +kernel
theorem dX6_planRound_3 : decode cX6_planRound 3 = .ok (.invokevirtual 56, 3) := by decide +kernel
theorem dX6_planRound_6 : decode cX6_planRound 6 = .ok (.ifCond .ne 5, 3) := by decide +kernel
theorem dX6_planRound_9 : decode cX6_planRound 9 = .ok (.iconst 0, 1) := by decide +kernel
theorem dX6_planRound_10 : decode cX6_planRound 10 = .ok (.ireturn, 1) := by decide +kernel
theorem dX6_planRound_11 : decode cX6_planRound 11 = .ok (.iconst 0, 1) := by decide +kernel
theorem dX6_planRound_12 : decode cX6_planRound 12 = .ok (.istore_n 3, 1) := by decide +kernel
theorem dX6_planRound_13 : decode cX6_planRound 13 = .ok (.iload_n 3, 1) := by decide +kernel
theorem dX6_planRound_14 : decode cX6_planRound 14 = .ok (.aload_n 0, 1) := by decide +kernel
theorem dX6_planRound_15 : decode cX6_planRound 15 = .ok (.getfield 60, 3) := by decide +kernel
theorem dX6_planRound_18 : decode cX6_planRound 18 = .ok (.if_icmp .ge 74, 3) := by decide +kernel
theorem dX6_planRound_21 : decode cX6_planRound 21 = .ok (.aload_n 0, 1) := by decide +kernel
theorem dX6_planRound_22 : decode cX6_planRound 22 = .ok (.aload_n 1, 1) := by decide +kernel
theorem dX6_planRound_23 : decode cX6_planRound 23 = .ok (.aload_n 0, 1) := by decide +kernel
theorem dX6_planRound_24 : decode cX6_planRound 24 = .ok (.getfield 15, 3) := by decide +kernel
theorem dX6_planRound_27 : decode cX6_planRound 27 = .ok (.iload_n 3, 1) := by decide +kernel
theorem dX6_planRound_28 : decode cX6_planRound 28 = .ok (.iaload, 1) := by decide +kernel
theorem dX6_planRound_29 : decode cX6_planRound 29 = .ok (.invokevirtual 64, 3) := by decide +kernel
theorem dX6_planRound_32 : decode cX6_planRound 32 = .ok (.aload_n 0, 1) := by decide +kernel
theorem dX6_planRound_33 : decode cX6_planRound 33 = .ok (.getfield 18, 3) := by decide +kernel
theorem dX6_planRound_36 : decode cX6_planRound 36 = .ok (.iload_n 3, 1) := by decide +kernel
theorem dX6_planRound_37 : decode cX6_planRound 37 = .ok (.aload_n 0, 1) := by decide +kernel
theorem dX6_planRound_38 : decode cX6_planRound 38 = .ok (.aload_n 2, 1) := by decide +kernel
theorem dX6_planRound_39 : decode cX6_planRound 39 = .ok (.getfield 67, 3) := by decide +kernel
theorem dX6_planRound_42 : decode cX6_planRound 42 = .ok (.invokevirtual 52, 3) := by decide +kernel
theorem dX6_planRound_45 : decode cX6_planRound 45 = .ok (.iastore, 1) := by decide +kernel
theorem dX6_planRound_46 : decode cX6_planRound 46 = .ok (.iconst 0, 1) := by decide +kernel
theorem dX6_planRound_47 : decode cX6_planRound 47 = .ok (.istore 4, 2) := by decide +kernel
theorem dX6_planRound_49 : decode cX6_planRound 49 = .ok (.iload 4, 2) := by decide +kernel
theorem dX6_planRound_51 : decode cX6_planRound 51 = .ok (.aload_n 0, 1) := by decide +kernel
theorem dX6_planRound_52 : decode cX6_planRound 52 = .ok (.getfield 60, 3) := by decide +kernel
theorem dX6_planRound_55 : decode cX6_planRound 55 = .ok (.if_icmp .ge 31, 3) := by decide +kernel
theorem dX6_planRound_58 : decode cX6_planRound 58 = .ok (.aload_n 0, 1) := by decide +kernel
theorem dX6_planRound_59 : decode cX6_planRound 59 = .ok (.getfield 21, 3) := by decide +kernel
theorem dX6_planRound_62 : decode cX6_planRound 62 = .ok (.iload 4, 2) := by decide +kernel
theorem dX6_planRound_64 : decode cX6_planRound 64 = .ok (.iconst 5, 1) := by decide +kernel
theorem dX6_planRound_65 : decode cX6_planRound 65 = .ok (.imul, 1) := by decide +kernel
theorem dX6_planRound_66 : decode cX6_planRound 66 = .ok (.iload_n 3, 1) := by decide +kernel
theorem dX6_planRound_67 : decode cX6_planRound 67 = .ok (.iadd, 1) := by decide +kernel
theorem dX6_planRound_68 : decode cX6_planRound 68 = .ok (.aload_n 0, 1) := by decide +kernel
theorem dX6_planRound_69 : decode cX6_planRound 69 = .ok (.aload_n 0, 1) := by decide +kernel
theorem dX6_planRound_70 : decode cX6_planRound 70 = .ok (.getfield 15, 3) := by decide +kernel
theorem dX6_planRound_73 : decode cX6_planRound 73 = .ok (.iload 4, 2) := by decide +kernel
theorem dX6_planRound_75 : decode cX6_planRound 75 = .ok (.iaload, 1) := by decide +kernel
theorem dX6_planRound_76 : decode cX6_planRound 76 = .ok (.invokevirtual 52, 3) := by decide +kernel
theorem dX6_planRound_79 : decode cX6_planRound 79 = .ok (.iastore, 1) := by decide +kernel
theorem dX6_planRound_80 : decode cX6_planRound 80 = .ok (.iinc 4 1, 3) := by decide +kernel
theorem dX6_planRound_83 : decode cX6_planRound 83 = .ok (.goto (-34), 3) := by decide +kernel
theorem dX6_planRound_86 : decode cX6_planRound 86 = .ok (.iinc 3 1, 3) := by decide +kernel
theorem dX6_planRound_89 : decode cX6_planRound 89 = .ok (.goto (-76), 3) := by decide +kernel
theorem dX6_planRound_92 : decode cX6_planRound 92 = .ok (.aload_n 0, 1) := by decide +kernel
theorem dX6_planRound_93 : decode cX6_planRound 93 = .ok (.aload_n 1, 1) := by decide +kernel
theorem dX6_planRound_94 : decode cX6_planRound 94 = .ok (.iconst (-1), 1) := by decide +kernel
theorem dX6_planRound_95 : decode cX6_planRound 95 = .ok (.invokevirtual 64, 3) := by decide +kernel
theorem dX6_planRound_98 : decode cX6_planRound 98 = .ok (.iconst 0, 1) := by decide +kernel
theorem dX6_planRound_99 : decode cX6_planRound 99 = .ok (.istore_n 3, 1) := by decide +kernel
theorem dX6_planRound_100 : decode cX6_planRound 100 = .ok (.iload_n 3, 1) := by decide +kernel
theorem dX6_planRound_101 : decode cX6_planRound 101 = .ok (.iconst 1, 1) := by decide +kernel
theorem dX6_planRound_102 : decode cX6_planRound 102 = .ok (.aload_n 0, 1) := by decide +kernel
theorem dX6_planRound_103 : decode cX6_planRound 103 = .ok (.getfield 60, 3) := by decide +kernel
theorem dX6_planRound_106 : decode cX6_planRound 106 = .ok (.ishl, 1) := by decide +kernel
theorem dX6_planRound_107 : decode cX6_planRound 107 = .ok (.if_icmp .ge 45, 3) := by decide +kernel
theorem dX6_planRound_110 : decode cX6_planRound 110 = .ok (.iconst 0, 1) := by decide +kernel
theorem dX6_planRound_111 : decode cX6_planRound 111 = .ok (.istore 4, 2) := by decide +kernel
theorem dX6_planRound_113 : decode cX6_planRound 113 = .ok (.iload 4, 2) := by decide +kernel
theorem dX6_planRound_115 : decode cX6_planRound 115 = .ok (.aload_n 0, 1) := by decide +kernel
theorem dX6_planRound_116 : decode cX6_planRound 116 = .ok (.getfield 60, 3) := by decide +kernel
theorem dX6_planRound_119 : decode cX6_planRound 119 = .ok (.if_icmp .ge 27, 3) := by decide +kernel
theorem dX6_planRound_122 : decode cX6_planRound 122 = .ok (.aload_n 0, 1) := by decide +kernel
theorem dX6_planRound_123 : decode cX6_planRound 123 = .ok (.getfield 24, 3) := by decide +kernel
theorem dX6_planRound_126 : decode cX6_planRound 126 = .ok (.iload_n 3, 1) := by decide +kernel
theorem dX6_planRound_127 : decode cX6_planRound 127 = .ok (.iconst 5, 1) := by decide +kernel
theorem dX6_planRound_128 : decode cX6_planRound 128 = .ok (.imul, 1) := by decide +kernel
theorem dX6_planRound_129 : decode cX6_planRound 129 = .ok (.iload 4, 2) := by decide +kernel
theorem dX6_planRound_131 : decode cX6_planRound 131 = .ok (.iadd, 1) := by decide +kernel
theorem dX6_planRound_132 : decode cX6_planRound 132 = .ok (.aload_n 0, 1) := by decide +kernel
theorem dX6_planRound_133 : decode cX6_planRound 133 = .ok (.iload_n 3, 1) := by decide +kernel
theorem dX6_planRound_134 : decode cX6_planRound 134 = .ok (.iload 4, 2) := by decide +kernel
theorem dX6_planRound_136 : decode cX6_planRound 136 = .ok (.invokevirtual 72, 3) := by decide +kernel
theorem dX6_planRound_139 : decode cX6_planRound 139 = .ok (.iastore, 1) := by decide +kernel
theorem dX6_planRound_140 : decode cX6_planRound 140 = .ok (.iinc 4 1, 3) := by decide +kernel
theorem dX6_planRound_143 : decode cX6_planRound 143 = .ok (.goto (-30), 3) := by decide +kernel
theorem dX6_planRound_146 : decode cX6_planRound 146 = .ok (.iinc 3 1, 3) := by decide +kernel
theorem dX6_planRound_149 : decode cX6_planRound 149 = .ok (.goto (-49), 3) := by decide +kernel
theorem dX6_planRound_152 : decode cX6_planRound 152 = .ok (.aload_n 0, 1) := by decide +kernel
theorem dX6_planRound_153 : decode cX6_planRound 153 = .ok (.aload_n 0, 1) := by decide +kernel
theorem dX6_planRound_154 : decode cX6_planRound 154 = .ok (.aload_n 2, 1) := by decide +kernel
theorem dX6_planRound_155 : decode cX6_planRound 155 = .ok (.getfield 67, 3) := by decide +kernel
theorem dX6_planRound_158 : decode cX6_planRound 158 = .ok (.invokevirtual 52, 3) := by decide +kernel
theorem dX6_planRound_161 : decode cX6_planRound 161 = .ok (.invokevirtual 75, 3) := by decide +kernel
theorem dX6_planRound_164 : decode cX6_planRound 164 = .ok (.iconst 1, 1) := by decide +kernel
theorem dX6_planRound_165 : decode cX6_planRound 165 = .ok (.ireturn, 1) := by decide +kernel
theorem dX6_listStones_0 : decode cX6_listStones 0 = .ok (.aload_n 0, 1) := by decide +kernel
theorem dX6_listStones_1 : decode cX6_listStones 1 = .ok (.iconst 0, 1) := by decide +kernel
theorem dX6_listStones_2 : decode cX6_listStones 2 = .ok (.putfield 60, 3) := by decide +kernel
theorem dX6_listStones_5 : decode cX6_listStones 5 = .ok (.iconst 0, 1) := by decide +kernel
theorem dX6_listStones_6 : decode cX6_listStones 6 = .ok (.istore_n 3, 1) := by decide +kernel
theorem dX6_listStones_7 : decode cX6_listStones 7 = .ok (.iload_n 3, 1) := by decide +kernel
theorem dX6_listStones_8 : decode cX6_listStones 8 = .ok (.bipush 36, 2) := by decide +kernel
theorem dX6_listStones_10 : decode cX6_listStones 10 = .ok (.if_icmp .ge 58, 3) := by decide +kernel
theorem dX6_listStones_13 : decode cX6_listStones 13 = .ok (.aload_n 1, 1) := by decide +kernel
theorem dX6_listStones_14 : decode cX6_listStones 14 = .ok (.iload_n 3, 1) := by decide +kernel
theorem dX6_listStones_15 : decode cX6_listStones 15 = .ok (.invokevirtual 79, 3) := by decide +kernel
theorem dX6_listStones_18 : decode cX6_listStones 18 = .ok (.ifCond .eq 44, 3) := by decide +kernel
theorem dX6_listStones_21 : decode cX6_listStones 21 = .ok (.aload_n 2, 1) := by decide +kernel
theorem dX6_listStones_22 : decode cX6_listStones 22 = .ok (.iload_n 3, 1) := by decide +kernel
theorem dX6_listStones_23 : decode cX6_listStones 23 = .ok (.invokevirtual 82, 3) := by decide +kernel
theorem dX6_listStones_26 : decode cX6_listStones 26 = .ok (.ifCond .eq 6, 3) := by decide +kernel
theorem dX6_listStones_29 : decode cX6_listStones 29 = .ok (.goto 33, 3) := by decide +kernel
theorem dX6_listStones_32 : decode cX6_listStones 32 = .ok (.aload_n 0, 1) := by decide +kernel
theorem dX6_listStones_33 : decode cX6_listStones 33 = .ok (.getfield 60, 3) := by decide +kernel
theorem dX6_listStones_36 : decode cX6_listStones 36 = .ok (.iconst 5, 1) := by decide +kernel
theorem dX6_listStones_37 : decode cX6_listStones 37 = .ok (.if_icmp .lt 5, 3) := by decide +kernel
theorem dX6_listStones_40 : decode cX6_listStones 40 = .ok (.iconst 0, 1) := by decide +kernel
theorem dX6_listStones_41 : decode cX6_listStones 41 = .ok (.ireturn, 1) := by decide +kernel
theorem dX6_listStones_42 : decode cX6_listStones 42 = .ok (.aload_n 0, 1) := by decide +kernel
theorem dX6_listStones_43 : decode cX6_listStones 43 = .ok (.getfield 15, 3) := by decide +kernel
theorem dX6_listStones_46 : decode cX6_listStones 46 = .ok (.aload_n 0, 1) := by decide +kernel
theorem dX6_listStones_47 : decode cX6_listStones 47 = .ok (.getfield 60, 3) := by decide +kernel
theorem dX6_listStones_50 : decode cX6_listStones 50 = .ok (.iload_n 3, 1) := by decide +kernel
theorem dX6_listStones_51 : decode cX6_listStones 51 = .ok (.iastore, 1) := by decide +kernel
theorem dX6_listStones_52 : decode cX6_listStones 52 = .ok (.aload_n 0, 1) := by decide +kernel
theorem dX6_listStones_53 : decode cX6_listStones 53 = .ok (.dup, 1) := by decide +kernel
theorem dX6_listStones_54 : decode cX6_listStones 54 = .ok (.getfield 60, 3) := by decide +kernel
theorem dX6_listStones_57 : decode cX6_listStones 57 = .ok (.iconst 1, 1) := by decide +kernel
theorem dX6_listStones_58 : decode cX6_listStones 58 = .ok (.iadd, 1) := by decide +kernel
theorem dX6_listStones_59 : decode cX6_listStones 59 = .ok (.putfield 60, 3) := by decide +kernel
theorem dX6_listStones_62 : decode cX6_listStones 62 = .ok (.iinc 3 1, 3) := by decide +kernel
theorem dX6_listStones_65 : decode cX6_listStones 65 = .ok (.goto (-58), 3) := by decide +kernel
theorem dX6_listStones_68 : decode cX6_listStones 68 = .ok (.iconst 1, 1) := by decide +kernel
theorem dX6_listStones_69 : decode cX6_listStones 69 = .ok (.ireturn, 1) := by decide +kernel
theorem dX6_leastRest_0 : decode cX6_leastRest 0 = .ok (.iload_n 1, 1) := by decide +kernel
theorem dX6_leastRest_1 : decode cX6_leastRest 1 = .ok (.ifCond .ne 14, 3) := by decide +kernel
theorem dX6_leastRest_4 : decode cX6_leastRest 4 = .ok (.aload_n 0, 1) := by decide +kernel
theorem dX6_leastRest_5 : decode cX6_leastRest 5 = .ok (.aload_n 0, 1) := by decide +kernel
theorem dX6_leastRest_6 : decode cX6_leastRest 6 = .ok (.getfield 15, 3) := by decide +kernel
theorem dX6_leastRest_9 : decode cX6_leastRest 9 = .ok (.iload_n 2, 1) := by decide +kernel
theorem dX6_leastRest_10 : decode cX6_leastRest 10 = .ok (.iaload, 1) := by decide +kernel
theorem dX6_leastRest_11 : decode cX6_leastRest 11 = .ok (.invokevirtual 52, 3) := by decide +kernel
theorem dX6_leastRest_14 : decode cX6_leastRest 14 = .ok (.ireturn, 1) := by decide +kernel
theorem dX6_leastRest_15 : decode cX6_leastRest 15 = .ok (.ldc 27, 2) := by decide +kernel
theorem dX6_leastRest_17 : decode cX6_leastRest 17 = .ok (.istore_n 3, 1) := by decide +kernel
theorem dX6_leastRest_18 : decode cX6_leastRest 18 = .ok (.iconst 0, 1) := by decide +kernel
theorem dX6_leastRest_19 : decode cX6_leastRest 19 = .ok (.istore 4, 2) := by decide +kernel
theorem dX6_leastRest_21 : decode cX6_leastRest 21 = .ok (.iload 4, 2) := by decide +kernel
theorem dX6_leastRest_23 : decode cX6_leastRest 23 = .ok (.aload_n 0, 1) := by decide +kernel
theorem dX6_leastRest_24 : decode cX6_leastRest 24 = .ok (.getfield 60, 3) := by decide +kernel
theorem dX6_leastRest_27 : decode cX6_leastRest 27 = .ok (.if_icmp .ge 55, 3) := by decide +kernel
theorem dX6_leastRest_30 : decode cX6_leastRest 30 = .ok (.iload_n 1, 1) := by decide +kernel
theorem dX6_leastRest_31 : decode cX6_leastRest 31 = .ok (.iload 4, 2) := by decide +kernel
theorem dX6_leastRest_33 : decode cX6_leastRest 33 = .ok (.iushr, 1) := by decide +kernel
theorem dX6_leastRest_34 : decode cX6_leastRest 34 = .ok (.iconst 1, 1) := by decide +kernel
theorem dX6_leastRest_35 : decode cX6_leastRest 35 = .ok (.iand, 1) := by decide +kernel
theorem dX6_leastRest_36 : decode cX6_leastRest 36 = .ok (.ifCond .eq 40, 3) := by decide +kernel
theorem dX6_leastRest_39 : decode cX6_leastRest 39 = .ok (.aload_n 0, 1) := by decide +kernel
theorem dX6_leastRest_40 : decode cX6_leastRest 40 = .ok (.getfield 24, 3) := by decide +kernel
theorem dX6_leastRest_43 : decode cX6_leastRest 43 = .ok (.iload_n 1, 1) := by decide +kernel
theorem dX6_leastRest_44 : decode cX6_leastRest 44 = .ok (.iconst 1, 1) := by decide +kernel
theorem dX6_leastRest_45 : decode cX6_leastRest 45 = .ok (.iload 4, 2) := by decide +kernel
theorem dX6_leastRest_47 : decode cX6_leastRest 47 = .ok (.ishl, 1) := by decide +kernel
theorem dX6_leastRest_48 : decode cX6_leastRest 48 = .ok (.ixor, 1) := by decide +kernel
theorem dX6_leastRest_49 : decode cX6_leastRest 49 = .ok (.iconst 5, 1) := by decide +kernel
theorem dX6_leastRest_50 : decode cX6_leastRest 50 = .ok (.imul, 1) := by decide +kernel
theorem dX6_leastRest_51 : decode cX6_leastRest 51 = .ok (.iload 4, 2) := by decide +kernel
theorem dX6_leastRest_53 : decode cX6_leastRest 53 = .ok (.iadd, 1) := by decide +kernel
theorem dX6_leastRest_54 : decode cX6_leastRest 54 = .ok (.iaload, 1) := by decide +kernel
theorem dX6_leastRest_55 : decode cX6_leastRest 55 = .ok (.istore 5, 2) := by decide +kernel
theorem dX6_leastRest_57 : decode cX6_leastRest 57 = .ok (.iload_n 3, 1) := by decide +kernel
theorem dX6_leastRest_58 : decode cX6_leastRest 58 = .ok (.aload_n 0, 1) := by decide +kernel
theorem dX6_leastRest_59 : decode cX6_leastRest 59 = .ok (.getfield 21, 3) := by decide +kernel
theorem dX6_leastRest_62 : decode cX6_leastRest 62 = .ok (.iload_n 2, 1) := by decide +kernel
theorem dX6_leastRest_63 : decode cX6_leastRest 63 = .ok (.iconst 5, 1) := by decide +kernel
theorem dX6_leastRest_64 : decode cX6_leastRest 64 = .ok (.imul, 1) := by decide +kernel
theorem dX6_leastRest_65 : decode cX6_leastRest 65 = .ok (.iload 4, 2) := by decide +kernel
theorem dX6_leastRest_67 : decode cX6_leastRest 67 = .ok (.iadd, 1) := by decide +kernel
theorem dX6_leastRest_68 : decode cX6_leastRest 68 = .ok (.iaload, 1) := by decide +kernel
theorem dX6_leastRest_69 : decode cX6_leastRest 69 = .ok (.iload 5, 2) := by decide +kernel
theorem dX6_leastRest_71 : decode cX6_leastRest 71 = .ok (.iadd, 1) := by decide +kernel
theorem dX6_leastRest_72 : decode cX6_leastRest 72 = .ok (.invokestatic 43, 3) := by decide +kernel
theorem dX6_leastRest_75 : decode cX6_leastRest 75 = .ok (.istore_n 3, 1) := by decide +kernel
theorem dX6_leastRest_76 : decode cX6_leastRest 76 = .ok (.iinc 4 1, 3) := by decide +kernel
theorem dX6_leastRest_79 : decode cX6_leastRest 79 = .ok (.goto (-58), 3) := by decide +kernel
theorem dX6_leastRest_82 : decode cX6_leastRest 82 = .ok (.iload_n 3, 1) := by decide +kernel
theorem dX6_leastRest_83 : decode cX6_leastRest 83 = .ok (.ireturn, 1) := by decide +kernel
theorem dX6_chooseFirst_0 : decode cX6_chooseFirst 0 = .ok (.aload_n 0, 1) := by decide +kernel
theorem dX6_chooseFirst_1 : decode cX6_chooseFirst 1 = .ok (.aload_n 0, 1) := by decide +kernel
theorem dX6_chooseFirst_2 : decode cX6_chooseFirst 2 = .ok (.getfield 60, 3) := by decide +kernel
theorem dX6_chooseFirst_5 : decode cX6_chooseFirst 5 = .ok (.ifCond .ne 7, 3) := by decide +kernel
theorem dX6_chooseFirst_8 : decode cX6_chooseFirst 8 = .ok (.iload_n 1, 1) := by decide +kernel
theorem dX6_chooseFirst_9 : decode cX6_chooseFirst 9 = .ok (.goto 5, 3) := by decide +kernel
theorem dX6_chooseFirst_12 : decode cX6_chooseFirst 12 = .ok (.ldc 27, 2) := by decide +kernel
theorem dX6_chooseFirst_14 : decode cX6_chooseFirst 14 = .ok (.putfield 85, 3) := by decide +kernel
theorem dX6_chooseFirst_17 : decode cX6_chooseFirst 17 = .ok (.aload_n 0, 1) := by decide +kernel
theorem dX6_chooseFirst_18 : decode cX6_chooseFirst 18 = .ok (.iconst (-1), 1) := by decide +kernel
theorem dX6_chooseFirst_19 : decode cX6_chooseFirst 19 = .ok (.putfield 88, 3) := by decide +kernel
theorem dX6_chooseFirst_22 : decode cX6_chooseFirst 22 = .ok (.iconst 1, 1) := by decide +kernel
theorem dX6_chooseFirst_23 : decode cX6_chooseFirst 23 = .ok (.aload_n 0, 1) := by decide +kernel
theorem dX6_chooseFirst_24 : decode cX6_chooseFirst 24 = .ok (.getfield 60, 3) := by decide +kernel
theorem dX6_chooseFirst_27 : decode cX6_chooseFirst 27 = .ok (.ishl, 1) := by decide +kernel
theorem dX6_chooseFirst_28 : decode cX6_chooseFirst 28 = .ok (.iconst 1, 1) := by decide +kernel
theorem dX6_chooseFirst_29 : decode cX6_chooseFirst 29 = .ok (.isub, 1) := by decide +kernel
theorem dX6_chooseFirst_30 : decode cX6_chooseFirst 30 = .ok (.istore_n 2, 1) := by decide +kernel
theorem dX6_chooseFirst_31 : decode cX6_chooseFirst 31 = .ok (.iconst 0, 1) := by decide +kernel
theorem dX6_chooseFirst_32 : decode cX6_chooseFirst 32 = .ok (.istore_n 3, 1) := by decide +kernel
theorem dX6_chooseFirst_33 : decode cX6_chooseFirst 33 = .ok (.iload_n 3, 1) := by decide +kernel
theorem dX6_chooseFirst_34 : decode cX6_chooseFirst 34 = .ok (.aload_n 0, 1) := by decide +kernel
theorem dX6_chooseFirst_35 : decode cX6_chooseFirst 35 = .ok (.getfield 60, 3) := by decide +kernel
theorem dX6_chooseFirst_38 : decode cX6_chooseFirst 38 = .ok (.if_icmp .ge 57, 3) := by decide +kernel
theorem dX6_chooseFirst_41 : decode cX6_chooseFirst 41 = .ok (.aload_n 0, 1) := by decide +kernel
theorem dX6_chooseFirst_42 : decode cX6_chooseFirst 42 = .ok (.getfield 18, 3) := by decide +kernel
theorem dX6_chooseFirst_45 : decode cX6_chooseFirst 45 = .ok (.iload_n 3, 1) := by decide +kernel
theorem dX6_chooseFirst_46 : decode cX6_chooseFirst 46 = .ok (.iaload, 1) := by decide +kernel
theorem dX6_chooseFirst_47 : decode cX6_chooseFirst 47 = .ok (.aload_n 0, 1) := by decide +kernel
theorem dX6_chooseFirst_48 : decode cX6_chooseFirst 48 = .ok (.getfield 24, 3) := by decide +kernel
theorem dX6_chooseFirst_51 : decode cX6_chooseFirst 51 = .ok (.iload_n 2, 1) := by decide +kernel
theorem dX6_chooseFirst_52 : decode cX6_chooseFirst 52 = .ok (.iconst 1, 1) := by decide +kernel
theorem dX6_chooseFirst_53 : decode cX6_chooseFirst 53 = .ok (.iload_n 3, 1) := by decide +kernel
theorem dX6_chooseFirst_54 : decode cX6_chooseFirst 54 = .ok (.ishl, 1) := by decide +kernel
theorem dX6_chooseFirst_55 : decode cX6_chooseFirst 55 = .ok (.ixor, 1) := by decide +kernel
theorem dX6_chooseFirst_56 : decode cX6_chooseFirst 56 = .ok (.iconst 5, 1) := by decide +kernel
theorem dX6_chooseFirst_57 : decode cX6_chooseFirst 57 = .ok (.imul, 1) := by decide +kernel
theorem dX6_chooseFirst_58 : decode cX6_chooseFirst 58 = .ok (.iload_n 3, 1) := by decide +kernel
theorem dX6_chooseFirst_59 : decode cX6_chooseFirst 59 = .ok (.iadd, 1) := by decide +kernel
theorem dX6_chooseFirst_60 : decode cX6_chooseFirst 60 = .ok (.iaload, 1) := by decide +kernel
theorem dX6_chooseFirst_61 : decode cX6_chooseFirst 61 = .ok (.iadd, 1) := by decide +kernel
theorem dX6_chooseFirst_62 : decode cX6_chooseFirst 62 = .ok (.istore 4, 2) := by decide +kernel
theorem dX6_chooseFirst_64 : decode cX6_chooseFirst 64 = .ok (.iload 4, 2) := by decide +kernel
theorem dX6_chooseFirst_66 : decode cX6_chooseFirst 66 = .ok (.aload_n 0, 1) := by decide +kernel
theorem dX6_chooseFirst_67 : decode cX6_chooseFirst 67 = .ok (.getfield 85, 3) := by decide +kernel
theorem dX6_chooseFirst_70 : decode cX6_chooseFirst 70 = .ok (.if_icmp .ge 19, 3) := by decide +kernel
theorem dX6_chooseFirst_73 : decode cX6_chooseFirst 73 = .ok (.aload_n 0, 1) := by decide +kernel
theorem dX6_chooseFirst_74 : decode cX6_chooseFirst 74 = .ok (.iload 4, 2) := by decide +kernel
theorem dX6_chooseFirst_76 : decode cX6_chooseFirst 76 = .ok (.putfield 85, 3) := by decide +kernel
theorem dX6_chooseFirst_79 : decode cX6_chooseFirst 79 = .ok (.aload_n 0, 1) := by decide +kernel
theorem dX6_chooseFirst_80 : decode cX6_chooseFirst 80 = .ok (.aload_n 0, 1) := by decide +kernel
theorem dX6_chooseFirst_81 : decode cX6_chooseFirst 81 = .ok (.getfield 15, 3) := by decide +kernel
theorem dX6_chooseFirst_84 : decode cX6_chooseFirst 84 = .ok (.iload_n 3, 1) := by decide +kernel
theorem dX6_chooseFirst_85 : decode cX6_chooseFirst 85 = .ok (.iaload, 1) := by decide +kernel
theorem dX6_chooseFirst_86 : decode cX6_chooseFirst 86 = .ok (.putfield 88, 3) := by decide +kernel
theorem dX6_chooseFirst_89 : decode cX6_chooseFirst 89 = .ok (.iinc 3 1, 3) := by decide +kernel
theorem dX6_chooseFirst_92 : decode cX6_chooseFirst 92 = .ok (.goto (-59), 3) := by decide +kernel
theorem dX6_chooseFirst_95 : decode cX6_chooseFirst 95 = .ok (.return_, 1) := by decide +kernel
theorem dX7_init_0 : decode cX7_init 0 = .ok (.aload_n 0, 1) := by decide +kernel
theorem dX7_init_1 : decode cX7_init 1 = .ok (.invokespecial 1, 3) := by decide +kernel
theorem dX7_init_4 : decode cX7_init 4 = .ok (.aload_n 0, 1) := by decide +kernel
theorem dX7_init_5 : decode cX7_init 5 = .ok (.bipush 50, 2) := by decide +kernel
theorem dX7_init_7 : decode cX7_init 7 = .ok (.newarray .int, 2) := by decide +kernel
theorem dX7_init_9 : decode cX7_init 9 = .ok (.putfield 9, 3) := by decide +kernel
theorem dX7_init_12 : decode cX7_init 12 = .ok (.aload_n 0, 1) := by decide +kernel
theorem dX7_init_13 : decode cX7_init 13 = .ok (.bipush 24, 2) := by decide +kernel
theorem dX7_init_15 : decode cX7_init 15 = .ok (.newarray .int, 2) := by decide +kernel
theorem dX7_init_17 : decode cX7_init 17 = .ok (.putfield 13, 3) := by decide +kernel
theorem dX7_init_20 : decode cX7_init 20 = .ok (.return_, 1) := by decide +kernel
theorem dX7_isKind_0 : decode cX7_isKind 0 = .ok (.iload_n 0, 1) := by decide +kernel
theorem dX7_isKind_1 : decode cX7_isKind 1 = .ok (.ifCond .lt 13, 3) := by decide +kernel
theorem dX7_isKind_4 : decode cX7_isKind 4 = .ok (.iload_n 0, 1) := by decide +kernel
theorem dX7_isKind_5 : decode cX7_isKind 5 = .ok (.bipush 8, 2) := by decide +kernel
theorem dX7_isKind_7 : decode cX7_isKind 7 = .ok (.if_icmp .ge 7, 3) := by decide +kernel
theorem dX7_isKind_10 : decode cX7_isKind 10 = .ok (.iconst 1, 1) := by decide +kernel
theorem dX7_isKind_11 : decode cX7_isKind 11 = .ok (.goto 4, 3) := by decide +kernel
theorem dX7_isKind_14 : decode cX7_isKind 14 = .ok (.iconst 0, 1) := by decide +kernel
theorem dX7_isKind_15 : decode cX7_isKind 15 = .ok (.ireturn, 1) := by decide +kernel
theorem dX7_isUnder_0 : decode cX7_isUnder 0 = .ok (.iload_n 0, 1) := by decide +kernel
theorem dX7_isUnder_1 : decode cX7_isUnder 1 = .ok (.istore_n 2, 1) := by decide +kernel
theorem dX7_isUnder_2 : decode cX7_isUnder 2 = .ok (.iconst 0, 1) := by decide +kernel
theorem dX7_isUnder_3 : decode cX7_isUnder 3 = .ok (.istore_n 3, 1) := by decide +kernel
theorem dX7_isUnder_4 : decode cX7_isUnder 4 = .ok (.iload_n 3, 1) := by decide +kernel
theorem dX7_isUnder_5 : decode cX7_isUnder 5 = .ok (.bipush 8, 2) := by decide +kernel
theorem dX7_isUnder_7 : decode cX7_isUnder 7 = .ok (.if_icmp .ge 29, 3) := by decide +kernel
theorem dX7_isUnder_10 : decode cX7_isUnder 10 = .ok (.iload_n 2, 1) := by decide +kernel
theorem dX7_isUnder_11 : decode cX7_isUnder 11 = .ok (.invokestatic 16, 3) := by decide +kernel
theorem dX7_isUnder_14 : decode cX7_isUnder 14 = .ok (.ifCond .eq 22, 3) := by decide +kernel
theorem dX7_isUnder_17 : decode cX7_isUnder 17 = .ok (.iload_n 2, 1) := by decide +kernel
theorem dX7_isUnder_18 : decode cX7_isUnder 18 = .ok (.iload_n 1, 1) := by decide +kernel
theorem dX7_isUnder_19 : decode cX7_isUnder 19 = .ok (.if_icmp .ne 5, 3) := by decide +kernel
theorem dX7_isUnder_22 : decode cX7_isUnder 22 = .ok (.iconst 1, 1) := by decide +kernel
theorem dX7_isUnder_23 : decode cX7_isUnder 23 = .ok (.ireturn, 1) := by decide +kernel
theorem dX7_isUnder_24 : decode cX7_isUnder 24 = .ok (.getstatic 20, 3) := by decide +kernel
theorem dX7_isUnder_27 : decode cX7_isUnder 27 = .ok (.iload_n 2, 1) := by decide +kernel
theorem dX7_isUnder_28 : decode cX7_isUnder 28 = .ok (.iaload, 1) := by decide +kernel
theorem dX7_isUnder_29 : decode cX7_isUnder 29 = .ok (.istore_n 2, 1) := by decide +kernel
theorem dX7_isUnder_30 : decode cX7_isUnder 30 = .ok (.iinc 3 1, 3) := by decide +kernel
theorem dX7_isUnder_33 : decode cX7_isUnder 33 = .ok (.goto (-29), 3) := by decide +kernel
theorem dX7_isUnder_36 : decode cX7_isUnder 36 = .ok (.iconst 0, 1) := by decide +kernel
theorem dX7_isUnder_37 : decode cX7_isUnder 37 = .ok (.ireturn, 1) := by decide +kernel
theorem dX7_has_0 : decode cX7_has 0 = .ok (.iload_n 1, 1) := by decide +kernel
theorem dX7_has_1 : decode cX7_has 1 = .ok (.ifCond .lt 21, 3) := by decide +kernel
theorem dX7_has_4 : decode cX7_has 4 = .ok (.iload_n 1, 1) := by decide +kernel
theorem dX7_has_5 : decode cX7_has 5 = .ok (.aload_n 0, 1) := by decide +kernel
theorem dX7_has_6 : decode cX7_has 6 = .ok (.getfield 23, 3) := by decide +kernel
theorem dX7_has_9 : decode cX7_has 9 = .ok (.if_icmp .ge 13, 3) := by decide +kernel
theorem dX7_has_12 : decode cX7_has 12 = .ok (.iload_n 1, 1) := by decide +kernel
theorem dX7_has_13 : decode cX7_has 13 = .ok (.bipush 50, 2) := by decide +kernel
theorem dX7_has_15 : decode cX7_has 15 = .ok (.if_icmp .ge 7, 3) := by decide +kernel
theorem dX7_has_18 : decode cX7_has 18 = .ok (.iconst 1, 1) := by decide +kernel
theorem dX7_has_19 : decode cX7_has 19 = .ok (.goto 4, 3) := by decide +kernel
theorem dX7_has_22 : decode cX7_has 22 = .ok (.iconst 0, 1) := by decide +kernel
theorem dX7_has_23 : decode cX7_has 23 = .ok (.ireturn, 1) := by decide +kernel
theorem dX7_kindOf_0 : decode cX7_kindOf 0 = .ok (.aload_n 0, 1) := by decide +kernel
theorem dX7_kindOf_1 : decode cX7_kindOf 1 = .ok (.iload_n 1, 1) := by decide +kernel
theorem dX7_kindOf_2 : decode cX7_kindOf 2 = .ok (.invokevirtual 27, 3) := by decide +kernel
theorem dX7_kindOf_5 : decode cX7_kindOf 5 = .ok (.ifCond .eq 12, 3) := by decide +kernel
theorem dX7_kindOf_8 : decode cX7_kindOf 8 = .ok (.aload_n 0, 1) := by decide +kernel
theorem dX7_kindOf_9 : decode cX7_kindOf 9 = .ok (.getfield 9, 3) := by decide +kernel
theorem dX7_kindOf_12 : decode cX7_kindOf 12 = .ok (.iload_n 1, 1) := by decide +kernel
theorem dX7_kindOf_13 : decode cX7_kindOf 13 = .ok (.iaload, 1) := by decide +kernel
theorem dX7_kindOf_14 : decode cX7_kindOf 14 = .ok (.goto 4, 3) := by decide +kernel
theorem dX7_kindOf_17 : decode cX7_kindOf 17 = .ok (.iconst (-1), 1) := by decide +kernel
theorem dX7_kindOf_18 : decode cX7_kindOf 18 = .ok (.ireturn, 1) := by decide +kernel
theorem dX7_add_0 : decode cX7_add 0 = .ok (.aload_n 0, 1) := by decide +kernel
theorem dX7_add_1 : decode cX7_add 1 = .ok (.getfield 23, 3) := by decide +kernel
theorem dX7_add_4 : decode cX7_add 4 = .ok (.bipush 50, 2) := by decide +kernel
theorem dX7_add_6 : decode cX7_add 6 = .ok (.if_icmp .lt 5, 3) := by decide +kernel
theorem dX7_add_9 : decode cX7_add 9 = .ok (.iconst (-1), 1) := by decide +kernel
theorem dX7_add_10 : decode cX7_add 10 = .ok (.ireturn, 1) := by decide +kernel
theorem dX7_add_11 : decode cX7_add 11 = .ok (.aload_n 0, 1) := by decide +kernel
theorem dX7_add_12 : decode cX7_add 12 = .ok (.getfield 9, 3) := by decide +kernel
theorem dX7_add_15 : decode cX7_add 15 = .ok (.aload_n 0, 1) := by decide +kernel
theorem dX7_add_16 : decode cX7_add 16 = .ok (.getfield 23, 3) := by decide +kernel
theorem dX7_add_19 : decode cX7_add 19 = .ok (.iload_n 1, 1) := by decide +kernel
theorem dX7_add_20 : decode cX7_add 20 = .ok (.iastore, 1) := by decide +kernel
theorem dX7_add_21 : decode cX7_add 21 = .ok (.aload_n 0, 1) := by decide +kernel
theorem dX7_add_22 : decode cX7_add 22 = .ok (.dup, 1) := by decide +kernel
theorem dX7_add_23 : decode cX7_add 23 = .ok (.getfield 23, 3) := by decide +kernel
theorem dX7_add_26 : decode cX7_add 26 = .ok (.iconst 1, 1) := by decide +kernel
theorem dX7_add_27 : decode cX7_add 27 = .ok (.iadd, 1) := by decide +kernel
theorem dX7_add_28 : decode cX7_add 28 = .ok (.putfield 23, 3) := by decide +kernel
theorem dX7_add_31 : decode cX7_add 31 = .ok (.aload_n 0, 1) := by decide +kernel
theorem dX7_add_32 : decode cX7_add 32 = .ok (.getfield 23, 3) := by decide +kernel
theorem dX7_add_35 : decode cX7_add 35 = .ok (.iconst 1, 1) := by decide +kernel
theorem dX7_add_36 : decode cX7_add 36 = .ok (.isub, 1) := by decide +kernel
theorem dX7_add_37 : decode cX7_add 37 = .ok (.ireturn, 1) := by decide +kernel
theorem dX7_ranAt_0 : decode cX7_ranAt 0 = .ok (.iload_n 1, 1) := by decide +kernel
theorem dX7_ranAt_1 : decode cX7_ranAt 1 = .ok (.ifCond .lt 26, 3) := by decide +kernel
theorem dX7_ranAt_4 : decode cX7_ranAt 4 = .ok (.iload_n 1, 1) := by decide +kernel
theorem dX7_ranAt_5 : decode cX7_ranAt 5 = .ok (.aload_n 0, 1) := by decide +kernel
theorem dX7_ranAt_6 : decode cX7_ranAt 6 = .ok (.getfield 30, 3) := by decide +kernel
theorem dX7_ranAt_9 : decode cX7_ranAt 9 = .ok (.if_icmp .ge 18, 3) := by decide +kernel
theorem dX7_ranAt_12 : decode cX7_ranAt 12 = .ok (.iload_n 1, 1) := by decide +kernel
theorem dX7_ranAt_13 : decode cX7_ranAt 13 = .ok (.bipush 24, 2) := by decide +kernel
theorem dX7_ranAt_15 : decode cX7_ranAt 15 = .ok (.if_icmp .ge 12, 3) := by decide +kernel
theorem dX7_ranAt_18 : decode cX7_ranAt 18 = .ok (.aload_n 0, 1) := by decide +kernel
theorem dX7_ranAt_19 : decode cX7_ranAt 19 = .ok (.getfield 13, 3) := by decide +kernel
theorem dX7_ranAt_22 : decode cX7_ranAt 22 = .ok (.iload_n 1, 1) := by decide +kernel
theorem dX7_ranAt_23 : decode cX7_ranAt 23 = .ok (.iaload, 1) := by decide +kernel
theorem dX7_ranAt_24 : decode cX7_ranAt 24 = .ok (.goto 4, 3) := by decide +kernel
theorem dX7_ranAt_27 : decode cX7_ranAt 27 = .ok (.iconst (-1), 1) := by decide +kernel
theorem dX7_ranAt_28 : decode cX7_ranAt 28 = .ok (.ireturn, 1) := by decide +kernel
theorem dX7_perform_0 : decode cX7_perform 0 = .ok (.aload_n 0, 1) := by decide +kernel
theorem dX7_perform_1 : decode cX7_perform 1 = .ok (.iconst 0, 1) := by decide +kernel
theorem dX7_perform_2 : decode cX7_perform 2 = .ok (.putfield 30, 3) := by decide +kernel
theorem dX7_perform_5 : decode cX7_perform 5 = .ok (.aload_n 0, 1) := by decide +kernel
theorem dX7_perform_6 : decode cX7_perform 6 = .ok (.iload_n 1, 1) := by decide +kernel
theorem dX7_perform_7 : decode cX7_perform 7 = .ok (.invokevirtual 27, 3) := by decide +kernel
theorem dX7_perform_10 : decode cX7_perform 10 = .ok (.ifCond .eq 12, 3) := by decide +kernel
theorem dX7_perform_13 : decode cX7_perform 13 = .ok (.iload_n 2, 1) := by decide +kernel
theorem dX7_perform_14 : decode cX7_perform 14 = .ok (.ifCond .lt 8, 3) := by decide +kernel
theorem dX7_perform_17 : decode cX7_perform 17 = .ok (.iload_n 2, 1) := by decide +kernel
theorem dX7_perform_18 : decode cX7_perform 18 = .ok (.iconst 4, 1) := by decide +kernel
theorem dX7_perform_19 : decode cX7_perform 19 = .ok (.if_icmp .lt 5, 3) := by decide +kernel
theorem dX7_perform_22 : decode cX7_perform 22 = .ok (.iconst 0, 1) := by decide +kernel
theorem dX7_perform_23 : decode cX7_perform 23 = .ok (.ireturn, 1) := by decide +kernel
theorem dX7_perform_24 : decode cX7_perform 24 = .ok (.aload_n 0, 1) := by decide +kernel
theorem dX7_perform_25 : decode cX7_perform 25 = .ok (.iload_n 1, 1) := by decide +kernel
theorem dX7_perform_26 : decode cX7_perform 26 = .ok (.putfield 33, 3) := by decide +kernel
theorem dX7_perform_29 : decode cX7_perform 29 = .ok (.aload_n 0, 1) := by decide +kernel
theorem dX7_perform_30 : decode cX7_perform 30 = .ok (.iload_n 2, 1) := by decide +kernel
theorem dX7_perform_31 : decode cX7_perform 31 = .ok (.aload_n 0, 1) := by decide +kernel
theorem dX7_perform_32 : decode cX7_perform 32 = .ok (.iload_n 1, 1) := by decide +kernel
theorem dX7_perform_33 : decode cX7_perform 33 = .ok (.invokevirtual 36, 3) := by decide +kernel
theorem dX7_perform_36 : decode cX7_perform 36 = .ok (.iload_n 3, 1) := by decide +kernel
theorem dX7_perform_37 : decode cX7_perform 37 = .ok (.iconst 0, 1) := by decide +kernel
theorem dX7_perform_38 : decode cX7_perform 38 = .ok (.invokevirtual 40, 3) := by decide +kernel
theorem dX7_perform_41 : decode cX7_perform 41 = .ok (.ireturn, 1) := by decide +kernel
theorem dX7_begin_0 : decode cX7_begin 0 = .ok (.iload_n 2, 1) := by decide +kernel
theorem dX7_begin_1 : decode cX7_begin 1 = .ok (.istore 5, 2) := by decide +kernel
theorem dX7_begin_3 : decode cX7_begin 3 = .ok (.iconst 0, 1) := by decide +kernel
theorem dX7_begin_4 : decode cX7_begin 4 = .ok (.istore 6, 2) := by decide +kernel
theorem dX7_begin_6 : decode cX7_begin 6 = .ok (.iload 6, 2) := by decide +kernel
theorem dX7_begin_8 : decode cX7_begin 8 = .ok (.bipush 8, 2) := by decide +kernel
theorem dX7_begin_10 : decode cX7_begin 10 = .ok (.if_icmp .ge 39, 3) := by decide +kernel
theorem dX7_begin_13 : decode cX7_begin 13 = .ok (.iload 5, 2) := by decide +kernel
theorem dX7_begin_15 : decode cX7_begin 15 = .ok (.invokestatic 16, 3) := by decide +kernel
theorem dX7_begin_18 : decode cX7_begin 18 = .ok (.ifCond .eq 31, 3) := by decide +kernel
theorem dX7_begin_21 : decode cX7_begin 21 = .ok (.getstatic 44, 3) := by decide +kernel
theorem dX7_begin_24 : decode cX7_begin 24 = .ok (.iload_n 1, 1) := by decide +kernel
theorem dX7_begin_25 : decode cX7_begin 25 = .ok (.bipush 8, 2) := by decide +kernel
theorem dX7_begin_27 : decode cX7_begin 27 = .ok (.imul, 1) := by decide +kernel
theorem dX7_begin_28 : decode cX7_begin 28 = .ok (.iload 5, 2) := by decide +kernel
theorem dX7_begin_30 : decode cX7_begin 30 = .ok (.iadd, 1) := by decide +kernel
theorem dX7_begin_31 : decode cX7_begin 31 = .ok (.iaload, 1) := by decide +kernel
theorem dX7_begin_32 : decode cX7_begin 32 = .ok (.ifCond .ne 17, 3) := by decide +kernel
theorem dX7_begin_35 : decode cX7_begin 35 = .ok (.getstatic 20, 3) := by decide +kernel
theorem dX7_begin_38 : decode cX7_begin 38 = .ok (.iload 5, 2) := by decide +kernel
theorem dX7_begin_40 : decode cX7_begin 40 = .ok (.iaload, 1) := by decide +kernel
theorem dX7_begin_41 : decode cX7_begin 41 = .ok (.istore 5, 2) := by decide +kernel
theorem dX7_begin_43 : decode cX7_begin 43 = .ok (.iinc 6 1, 3) := by decide +kernel
theorem dX7_begin_46 : decode cX7_begin 46 = .ok (.goto (-40), 3) := by decide +kernel
theorem dX7_begin_49 : decode cX7_begin 49 = .ok (.iload 5, 2) := by decide +kernel
theorem dX7_begin_51 : decode cX7_begin 51 = .ok (.invokestatic 16, 3) := by decide +kernel
theorem dX7_begin_54 : decode cX7_begin 54 = .ok (.ifCond .eq 10, 3) := by decide +kernel
theorem dX7_begin_57 : decode cX7_begin 57 = .ok (.iload 4, 2) := by decide +kernel
theorem dX7_begin_59 : decode cX7_begin 59 = .ok (.bipush 20, 2) := by decide +kernel
theorem dX7_begin_61 : decode cX7_begin 61 = .ok (.if_icmp .le 5, 3) := by decide +kernel
theorem dX7_begin_64 : decode cX7_begin 64 = .ok (.iconst 0, 1) := by decide +kernel
theorem dX7_begin_65 : decode cX7_begin 65 = .ok (.ireturn, 1) := by decide +kernel
theorem dX7_begin_66 : decode cX7_begin 66 = .ok (.getstatic 44, 3) := by decide +kernel
theorem dX7_begin_69 : decode cX7_begin 69 = .ok (.iload_n 1, 1) := by decide +kernel
theorem dX7_begin_70 : decode cX7_begin 70 = .ok (.bipush 8, 2) := by decide +kernel
theorem dX7_begin_72 : decode cX7_begin 72 = .ok (.imul, 1) := by decide +kernel
theorem dX7_begin_73 : decode cX7_begin 73 = .ok (.iload 5, 2) := by decide +kernel
theorem dX7_begin_75 : decode cX7_begin 75 = .ok (.iadd, 1) := by decide +kernel
theorem dX7_begin_76 : decode cX7_begin 76 = .ok (.iaload, 1) := by decide +kernel
theorem dX7_begin_77 : decode cX7_begin 77 = .ok (.istore 6, 2) := by decide +kernel
theorem dX7_begin_79 : decode cX7_begin 79 = .ok (.aload_n 0, 1) := by decide +kernel
theorem dX7_begin_80 : decode cX7_begin 80 = .ok (.getfield 30, 3) := by decide +kernel
theorem dX7_begin_83 : decode cX7_begin 83 = .ok (.bipush 24, 2) := by decide +kernel
theorem dX7_begin_85 : decode cX7_begin 85 = .ok (.if_icmp .ge 14, 3) := by decide +kernel
theorem dX7_begin_88 : decode cX7_begin 88 = .ok (.aload_n 0, 1) := by decide +kernel
theorem dX7_begin_89 : decode cX7_begin 89 = .ok (.getfield 13, 3) := by decide +kernel
theorem dX7_begin_92 : decode cX7_begin 92 = .ok (.aload_n 0, 1) := by decide +kernel
theorem dX7_begin_93 : decode cX7_begin 93 = .ok (.getfield 30, 3) := by decide +kernel
theorem dX7_begin_96 : decode cX7_begin 96 = .ok (.iload 6, 2) := by decide +kernel
theorem dX7_begin_98 : decode cX7_begin 98 = .ok (.iastore, 1) := by decide +kernel
theorem dX7_begin_99 : decode cX7_begin 99 = .ok (.aload_n 0, 1) := by decide +kernel
theorem dX7_begin_100 : decode cX7_begin 100 = .ok (.dup, 1) := by decide +kernel
theorem dX7_begin_101 : decode cX7_begin 101 = .ok (.getfield 30, 3) := by decide +kernel
theorem dX7_begin_104 : decode cX7_begin 104 = .ok (.iconst 1, 1) := by decide +kernel
theorem dX7_begin_105 : decode cX7_begin 105 = .ok (.iadd, 1) := by decide +kernel
theorem dX7_begin_106 : decode cX7_begin 106 = .ok (.putfield 30, 3) := by decide +kernel
theorem dX7_begin_109 : decode cX7_begin 109 = .ok (.iload 6, 2) := by decide +kernel
theorem dX7_begin_111 : decode cX7_begin 111 = .ok (.bipush 11, 2) := by decide +kernel
theorem dX7_begin_113 : decode cX7_begin 113 = .ok (.if_icmp .gt 13, 3) := by decide +kernel
theorem dX7_begin_116 : decode cX7_begin 116 = .ok (.aload_n 0, 1) := by decide +kernel
theorem dX7_begin_117 : decode cX7_begin 117 = .ok (.iload 6, 2) := by decide +kernel
theorem dX7_begin_119 : decode cX7_begin 119 = .ok (.iload_n 3, 1) := by decide +kernel
theorem dX7_begin_120 : decode cX7_begin 120 = .ok (.iload 4, 2) := by decide +kernel
theorem dX7_begin_122 : decode cX7_begin 122 = .ok (.invokevirtual 47, 3) := by decide +kernel
theorem dX7_begin_125 : decode cX7_begin 125 = .ok (.ireturn, 1) := by decide +kernel
theorem dX7_begin_126 : decode cX7_begin 126 = .ok (.aload_n 0, 1) := by decide +kernel
theorem dX7_begin_127 : decode cX7_begin 127 = .ok (.iload 6, 2) := by decide +kernel
theorem dX7_begin_129 : decode cX7_begin 129 = .ok (.iload_n 1, 1) := by decide +kernel
theorem dX7_begin_130 : decode cX7_begin 130 = .ok (.getstatic 20, 3) := by decide +kernel
theorem dX7_begin_133 : decode cX7_begin 133 = .ok (.iload 5, 2) := by decide +kernel
theorem dX7_begin_135 : decode cX7_begin 135 = .ok (.iaload, 1) := by decide +kernel
theorem dX7_begin_136 : decode cX7_begin 136 = .ok (.iload_n 3, 1) := by decide +kernel
theorem dX7_begin_137 : decode cX7_begin 137 = .ok (.iload 4, 2) := by decide +kernel
theorem dX7_begin_139 : decode cX7_begin 139 = .ok (.invokevirtual 51, 3) := by decide +kernel
theorem dX7_begin_142 : decode cX7_begin 142 = .ok (.ireturn, 1) := by decide +kernel
theorem dX7_own_0 : decode cX7_own 0 = .ok (.aload_n 0, 1) := by decide +kernel
theorem dX7_own_1 : decode cX7_own 1 = .ok (.iload_n 1, 1) := by decide +kernel
theorem dX7_own_2 : decode cX7_own 2 = .ok (.aload_n 0, 1) := by decide +kernel
theorem dX7_own_3 : decode cX7_own 3 = .ok (.aload_n 0, 1) := by decide +kernel
theorem dX7_own_4 : decode cX7_own 4 = .ok (.getfield 33, 3) := by decide +kernel
theorem dX7_own_7 : decode cX7_own 7 = .ok (.invokevirtual 36, 3) := by decide +kernel
theorem dX7_own_10 : decode cX7_own 10 = .ok (.iload_n 2, 1) := by decide +kernel
theorem dX7_own_11 : decode cX7_own 11 = .ok (.iload_n 3, 1) := by decide +kernel
theorem dX7_own_12 : decode cX7_own 12 = .ok (.iconst 1, 1) := by decide +kernel
theorem dX7_own_13 : decode cX7_own 13 = .ok (.iadd, 1) := by decide +kernel
theorem dX7_own_14 : decode cX7_own 14 = .ok (.invokevirtual 40, 3) := by decide +kernel
theorem dX7_own_17 : decode cX7_own 17 = .ok (.ireturn, 1) := by decide +kernel
theorem dX7_answerOfWheel_0 : decode cX7_answerOfWheel 0 = .ok (.iload_n 1, 1) := by decide +kernel
theorem dX7_answerOfWheel_1 : decode cX7_answerOfWheel 1 = .ok (.lookupswitch 68 #[(1, 35), (2, 42), (10, 58)], 35) := by decide +kernel
theorem dX7_answerOfWheel_36 : decode cX7_answerOfWheel 36 = .ok (.iload_n 2, 1) := by decide +kernel
theorem dX7_answerOfWheel_37 : decode cX7_answerOfWheel 37 = .ok (.aload_n 0, 1) := by decide +kernel
theorem dX7_answerOfWheel_38 : decode cX7_answerOfWheel 38 = .ok (.getfield 33, 3) := by decide +kernel
theorem dX7_answerOfWheel_41 : decode cX7_answerOfWheel 41 = .ok (.iadd, 1) := by decide +kernel
theorem dX7_answerOfWheel_42 : decode cX7_answerOfWheel 42 = .ok (.ireturn, 1) := by decide +kernel
theorem dX7_answerOfWheel_43 : decode cX7_answerOfWheel 43 = .ok (.aload_n 0, 1) := by decide +kernel
theorem dX7_answerOfWheel_44 : decode cX7_answerOfWheel 44 = .ok (.iconst 1, 1) := by decide +kernel
theorem dX7_answerOfWheel_45 : decode cX7_answerOfWheel 45 = .ok (.iload_n 2, 1) := by decide +kernel
theorem dX7_answerOfWheel_46 : decode cX7_answerOfWheel 46 = .ok (.iload_n 3, 1) := by decide +kernel
theorem dX7_answerOfWheel_47 : decode cX7_answerOfWheel 47 = .ok (.invokevirtual 55, 3) := by decide +kernel
theorem dX7_answerOfWheel_50 : decode cX7_answerOfWheel 50 = .ok (.aload_n 0, 1) := by decide +kernel
theorem dX7_answerOfWheel_51 : decode cX7_answerOfWheel 51 = .ok (.iconst 2, 1) := by decide +kernel
theorem dX7_answerOfWheel_52 : decode cX7_answerOfWheel 52 = .ok (.iconst 1, 1) := by decide +kernel
theorem dX7_answerOfWheel_53 : decode cX7_answerOfWheel 53 = .ok (.iload_n 3, 1) := by decide +kernel
theorem dX7_answerOfWheel_54 : decode cX7_answerOfWheel 54 = .ok (.invokevirtual 55, 3) := by decide +kernel
theorem dX7_answerOfWheel_57 : decode cX7_answerOfWheel 57 = .ok (.isub, 1) := by decide +kernel
theorem dX7_answerOfWheel_58 : decode cX7_answerOfWheel 58 = .ok (.ireturn, 1) := by decide +kernel
theorem dX7_answerOfWheel_59 : decode cX7_answerOfWheel 59 = .ok (.aload_n 0, 1) := by decide +kernel
theorem dX7_answerOfWheel_60 : decode cX7_answerOfWheel 60 = .ok (.iconst 0, 1) := by decide +kernel
theorem dX7_answerOfWheel_61 : decode cX7_answerOfWheel 61 = .ok (.iload_n 2, 1) := by decide +kernel
theorem dX7_answerOfWheel_62 : decode cX7_answerOfWheel 62 = .ok (.iload_n 3, 1) := by decide +kernel
theorem dX7_answerOfWheel_63 : decode cX7_answerOfWheel 63 = .ok (.invokevirtual 55, 3) := by decide +kernel
theorem dX7_answerOfWheel_66 : decode cX7_answerOfWheel 66 = .ok (.iconst 2, 1) := by decide +kernel
theorem dX7_answerOfWheel_67 : decode cX7_answerOfWheel 67 = .ok (.imul, 1) := by decide +kernel
theorem dX7_answerOfWheel_68 : decode cX7_answerOfWheel 68 = .ok (.ireturn, 1) := by decide +kernel
theorem dX7_answerOfWheel_69 : decode cX7_answerOfWheel 69 = .ok (.iload_n 2, 1) := by decide +kernel
theorem dX7_answerOfWheel_70 : decode cX7_answerOfWheel 70 = .ok (.aload_n 0, 1) := by decide +kernel
theorem dX7_answerOfWheel_71 : decode cX7_answerOfWheel 71 = .ok (.getfield 33, 3) := by decide +kernel
theorem dX7_answerOfWheel_74 : decode cX7_answerOfWheel 74 = .ok (.ixor, 1) := by decide +kernel
theorem dX7_answerOfWheel_75 : decode cX7_answerOfWheel 75 = .ok (.ireturn, 1) := by decide +kernel
theorem dX7_answerUnder_0 : decode cX7_answerUnder 0 = .ok (.aload_n 0, 1) := by decide +kernel
theorem dX7_answerUnder_1 : decode cX7_answerUnder 1 = .ok (.iload_n 2, 1) := by decide +kernel
theorem dX7_answerUnder_2 : decode cX7_answerUnder 2 = .ok (.iload_n 3, 1) := by decide +kernel
theorem dX7_answerUnder_3 : decode cX7_answerUnder 3 = .ok (.iload_n 1, 1) := by decide +kernel
theorem dX7_answerUnder_4 : decode cX7_answerUnder 4 = .ok (.bipush 41, 2) := by decide +kernel
theorem dX7_answerUnder_6 : decode cX7_answerUnder 6 = .ok (.if_icmp .ne 10, 3) := by decide +kernel
theorem dX7_answerUnder_9 : decode cX7_answerUnder 9 = .ok (.iload 4, 2) := by decide +kernel
theorem dX7_answerUnder_11 : decode cX7_answerUnder 11 = .ok (.iconst 1, 1) := by decide +kernel
theorem dX7_answerUnder_12 : decode cX7_answerUnder 12 = .ok (.iadd, 1) := by decide +kernel
theorem dX7_answerUnder_13 : decode cX7_answerUnder 13 = .ok (.goto 5, 3) := by decide +kernel
theorem dX7_answerUnder_16 : decode cX7_answerUnder 16 = .ok (.iload 4, 2) := by decide +kernel
theorem dX7_answerUnder_18 : decode cX7_answerUnder 18 = .ok (.iload 5, 2) := by decide +kernel
theorem dX7_answerUnder_20 : decode cX7_answerUnder 20 = .ok (.iconst 1, 1) := by decide +kernel
theorem dX7_answerUnder_21 : decode cX7_answerUnder 21 = .ok (.iadd, 1) := by decide +kernel
theorem dX7_answerUnder_22 : decode cX7_answerUnder 22 = .ok (.invokevirtual 40, 3) := by decide +kernel
theorem dX7_answerUnder_25 : decode cX7_answerUnder 25 = .ok (.istore 6, 2) := by decide +kernel
theorem dX7_answerUnder_27 : decode cX7_answerUnder 27 = .ok (.iload_n 1, 1) := by decide +kernel
theorem dX7_answerUnder_28 : decode cX7_answerUnder 28 = .ok (.lookupswitch 142 #[(20, 84), (30, 89), (40, 93), (50, 98), (60, 103), (61, 115), (70, 120), (80, 125), (81, 137)], 84) := by decide +kernel
theorem dX7_answerUnder_112 : decode cX7_answerUnder 112 = .ok (.iload 6, 2) := by decide +kernel
theorem dX7_answerUnder_114 : decode cX7_answerUnder 114 = .ok (.iconst 3, 1) := by decide +kernel
theorem dX7_answerUnder_115 : decode cX7_answerUnder 115 = .ok (.iadd, 1) := by decide +kernel
theorem dX7_answerUnder_116 : decode cX7_answerUnder 116 = .ok (.ireturn, 1) := by decide +kernel
theorem dX7_answerUnder_117 : decode cX7_answerUnder 117 = .ok (.iload 6, 2) := by decide +kernel
theorem dX7_answerUnder_119 : decode cX7_answerUnder 119 = .ok (.ineg, 1) := by decide +kernel
theorem dX7_answerUnder_120 : decode cX7_answerUnder 120 = .ok (.ireturn, 1) := by decide +kernel
theorem dX7_answerUnder_121 : decode cX7_answerUnder 121 = .ok (.iload 6, 2) := by decide +kernel
theorem dX7_answerUnder_123 : decode cX7_answerUnder 123 = .ok (.iconst 3, 1) := by decide +kernel
theorem dX7_answerUnder_124 : decode cX7_answerUnder 124 = .ok (.imul, 1) := by decide +kernel
theorem dX7_answerUnder_125 : decode cX7_answerUnder 125 = .ok (.ireturn, 1) := by decide +kernel
theorem dX7_answerUnder_126 : decode cX7_answerUnder 126 = .ok (.iload 6, 2) := by decide +kernel
theorem dX7_answerUnder_128 : decode cX7_answerUnder 128 = .ok (.iconst 5, 1) := by decide +kernel
theorem dX7_answerUnder_129 : decode cX7_answerUnder 129 = .ok (.ixor, 1) := by decide +kernel
theorem dX7_answerUnder_130 : decode cX7_answerUnder 130 = .ok (.ireturn, 1) := by decide +kernel
theorem dX7_answerUnder_131 : decode cX7_answerUnder 131 = .ok (.iload 6, 2) := by decide +kernel
theorem dX7_answerUnder_133 : decode cX7_answerUnder 133 = .ok (.aload_n 0, 1) := by decide +kernel
theorem dX7_answerUnder_134 : decode cX7_answerUnder 134 = .ok (.iconst 0, 1) := by decide +kernel
theorem dX7_answerUnder_135 : decode cX7_answerUnder 135 = .ok (.iconst 2, 1) := by decide +kernel
theorem dX7_answerUnder_136 : decode cX7_answerUnder 136 = .ok (.iload 5, 2) := by decide +kernel
theorem dX7_answerUnder_138 : decode cX7_answerUnder 138 = .ok (.invokevirtual 55, 3) := by decide +kernel
theorem dX7_answerUnder_141 : decode cX7_answerUnder 141 = .ok (.isub, 1) := by decide +kernel
theorem dX7_answerUnder_142 : decode cX7_answerUnder 142 = .ok (.ireturn, 1) := by decide +kernel
theorem dX7_answerUnder_143 : decode cX7_answerUnder 143 = .ok (.iload 6, 2) := by decide +kernel
theorem dX7_answerUnder_145 : decode cX7_answerUnder 145 = .ok (.iconst 1, 1) := by decide +kernel
theorem dX7_answerUnder_146 : decode cX7_answerUnder 146 = .ok (.iadd, 1) := by decide +kernel
theorem dX7_answerUnder_147 : decode cX7_answerUnder 147 = .ok (.ireturn, 1) := by decide +kernel
theorem dX7_answerUnder_148 : decode cX7_answerUnder 148 = .ok (.iload 6, 2) := by decide +kernel
theorem dX7_answerUnder_150 : decode cX7_answerUnder 150 = .ok (.iconst 2, 1) := by decide +kernel
theorem dX7_answerUnder_151 : decode cX7_answerUnder 151 = .ok (.imul, 1) := by decide +kernel
theorem dX7_answerUnder_152 : decode cX7_answerUnder 152 = .ok (.ireturn, 1) := by decide +kernel
theorem dX7_answerUnder_153 : decode cX7_answerUnder 153 = .ok (.iload 6, 2) := by decide +kernel
theorem dX7_answerUnder_155 : decode cX7_answerUnder 155 = .ok (.aload_n 0, 1) := by decide +kernel
theorem dX7_answerUnder_156 : decode cX7_answerUnder 156 = .ok (.iconst 2, 1) := by decide +kernel
theorem dX7_answerUnder_157 : decode cX7_answerUnder 157 = .ok (.iconst 2, 1) := by decide +kernel
theorem dX7_answerUnder_158 : decode cX7_answerUnder 158 = .ok (.iload 5, 2) := by decide +kernel
theorem dX7_answerUnder_160 : decode cX7_answerUnder 160 = .ok (.invokevirtual 55, 3) := by decide +kernel
theorem dX7_answerUnder_163 : decode cX7_answerUnder 163 = .ok (.iadd, 1) := by decide +kernel
theorem dX7_answerUnder_164 : decode cX7_answerUnder 164 = .ok (.ireturn, 1) := by decide +kernel
theorem dX7_answerUnder_165 : decode cX7_answerUnder 165 = .ok (.iload 6, 2) := by decide +kernel
theorem dX7_answerUnder_167 : decode cX7_answerUnder 167 = .ok (.iconst 1, 1) := by decide +kernel
theorem dX7_answerUnder_168 : decode cX7_answerUnder 168 = .ok (.isub, 1) := by decide +kernel
theorem dX7_answerUnder_169 : decode cX7_answerUnder 169 = .ok (.ireturn, 1) := by decide +kernel
theorem dX7_answerUnder_170 : decode cX7_answerUnder 170 = .ok (.iload 6, 2) := by decide +kernel
theorem dX7_answerUnder_172 : decode cX7_answerUnder 172 = .ok (.ireturn, 1) := by decide +kernel
theorem dX8_init_0 : decode cX8_init 0 = .ok (.aload_n 0, 1) := by decide +kernel
theorem dX8_init_1 : decode cX8_init 1 = .ok (.invokespecial 1, 3) := by decide +kernel
theorem dX8_init_4 : decode cX8_init 4 = .ok (.aload_n 0, 1) := by decide +kernel
theorem dX8_init_5 : decode cX8_init 5 = .ok (.new 7, 3) := by decide +kernel
theorem dX8_init_8 : decode cX8_init 8 = .ok (.dup, 1) := by decide +kernel
end
