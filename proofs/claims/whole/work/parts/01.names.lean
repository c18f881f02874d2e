-- ===== PART A: goes FIRST, ahead of the names: the tables' words, and 'selects' of the private methods out of them =====
/-- a private method of a class that the tables say can be made, by its rows of tables_1 -/
def lw_okq (q : MethodName × Nat) : Prop := (q.1.cls ≠ "java/lang/invoke/MethodHandle" ∧ q.1.cls ≠ "java/lang/invoke/VarHandle") ∧ Cond.instantiable q.1.cls q.2 ∈ tables_1 ∧ Cond.privateMethod q.1 ∈ tables_1 ∧ Cond.instanceMethod q.1 ∈ tables_1
theorem lw_p0 : lw_okq (⟨"DustCart$Changes", "dropOldest", "()V"⟩, 5) := ⟨⟨by decide +kernel, by decide +kernel⟩, List.mem_of_getElem? (i := 163) (by decide +kernel), List.mem_of_getElem? (i := 312) (by decide +kernel), List.mem_of_getElem? (i := 313) (by decide +kernel)⟩
theorem lw_p1 : lw_okq (⟨"DustCart", "ofCell", "(II)I"⟩, 14) := ⟨⟨by decide +kernel, by decide +kernel⟩, List.mem_of_getElem? (i := 16) (by decide +kernel), List.mem_of_getElem? (i := 323) (by decide +kernel), List.mem_of_getElem? (i := 324) (by decide +kernel)⟩
theorem lw_p2 : lw_okq (⟨"DustCart", "ofCart", "(I)I"⟩, 14) := ⟨⟨by decide +kernel, by decide +kernel⟩, List.mem_of_getElem? (i := 16) (by decide +kernel), List.mem_of_getElem? (i := 345) (by decide +kernel), List.mem_of_getElem? (i := 346) (by decide +kernel)⟩
theorem lw_p3 : lw_okq (⟨"DustCart", "heightsFrom", "(LDustCart$Shelf;III)I"⟩, 14) := ⟨⟨by decide +kernel, by decide +kernel⟩, List.mem_of_getElem? (i := 16) (by decide +kernel), List.mem_of_getElem? (i := 370) (by decide +kernel), List.mem_of_getElem? (i := 371) (by decide +kernel)⟩
theorem lw_p4 : lw_okq (⟨"DustCart$Law", "readLines", "()V"⟩, 10) := ⟨⟨by decide +kernel, by decide +kernel⟩, List.mem_of_getElem? (i := 65) (by decide +kernel), List.mem_of_getElem? (i := 398) (by decide +kernel), List.mem_of_getElem? (i := 399) (by decide +kernel)⟩
theorem lw_p5 : lw_okq (⟨"DustCart$Law", "readOr", "(I)V"⟩, 10) := ⟨⟨by decide +kernel, by decide +kernel⟩, List.mem_of_getElem? (i := 65) (by decide +kernel), List.mem_of_getElem? (i := 402) (by decide +kernel), List.mem_of_getElem? (i := 403) (by decide +kernel)⟩
theorem lw_p6 : lw_okq (⟨"DustCart$Law", "readAnd", "(I)V"⟩, 10) := ⟨⟨by decide +kernel, by decide +kernel⟩, List.mem_of_getElem? (i := 65) (by decide +kernel), List.mem_of_getElem? (i := 406) (by decide +kernel), List.mem_of_getElem? (i := 407) (by decide +kernel)⟩
theorem lw_p7 : lw_okq (⟨"DustCart$Law", "readCompared", "(I)V"⟩, 10) := ⟨⟨by decide +kernel, by decide +kernel⟩, List.mem_of_getElem? (i := 65) (by decide +kernel), List.mem_of_getElem? (i := 410) (by decide +kernel), List.mem_of_getElem? (i := 411) (by decide +kernel)⟩
theorem lw_p8 : lw_okq (⟨"DustCart$Law", "readSum", "(I)V"⟩, 10) := ⟨⟨by decide +kernel, by decide +kernel⟩, List.mem_of_getElem? (i := 65) (by decide +kernel), List.mem_of_getElem? (i := 414) (by decide +kernel), List.mem_of_getElem? (i := 415) (by decide +kernel)⟩
theorem lw_p9 : lw_okq (⟨"DustCart$Law", "readProduct", "(I)V"⟩, 10) := ⟨⟨by decide +kernel, by decide +kernel⟩, List.mem_of_getElem? (i := 65) (by decide +kernel), List.mem_of_getElem? (i := 418) (by decide +kernel), List.mem_of_getElem? (i := 419) (by decide +kernel)⟩
theorem lw_p10 : lw_okq (⟨"DustCart$Law", "readOperand", "(I)V"⟩, 10) := ⟨⟨by decide +kernel, by decide +kernel⟩, List.mem_of_getElem? (i := 65) (by decide +kernel), List.mem_of_getElem? (i := 422) (by decide +kernel), List.mem_of_getElem? (i := 423) (by decide +kernel)⟩
theorem lw_p11 : lw_okq (⟨"DustCart$Law", "sign", "()I"⟩, 10) := ⟨⟨by decide +kernel, by decide +kernel⟩, List.mem_of_getElem? (i := 65) (by decide +kernel), List.mem_of_getElem? (i := 426) (by decide +kernel), List.mem_of_getElem? (i := 427) (by decide +kernel)⟩
theorem lw_p12 : lw_okq (⟨"DustCart$Law", "readNumber", "()V"⟩, 10) := ⟨⟨by decide +kernel, by decide +kernel⟩, List.mem_of_getElem? (i := 65) (by decide +kernel), List.mem_of_getElem? (i := 433) (by decide +kernel), List.mem_of_getElem? (i := 434) (by decide +kernel)⟩
theorem lw_p13 : lw_okq (⟨"DustCart$Law", "write", "(I)V"⟩, 10) := ⟨⟨by decide +kernel, by decide +kernel⟩, List.mem_of_getElem? (i := 65) (by decide +kernel), List.mem_of_getElem? (i := 437) (by decide +kernel), List.mem_of_getElem? (i := 438) (by decide +kernel)⟩
theorem lw_p14 : lw_okq (⟨"DustCart$Law", "readOpened", "(II)V"⟩, 10) := ⟨⟨by decide +kernel, by decide +kernel⟩, List.mem_of_getElem? (i := 65) (by decide +kernel), List.mem_of_getElem? (i := 444) (by decide +kernel), List.mem_of_getElem? (i := 445) (by decide +kernel)⟩
theorem lw_p15 : lw_okq (⟨"DustCart$Law", "pass", "(I)Z"⟩, 10) := ⟨⟨by decide +kernel, by decide +kernel⟩, List.mem_of_getElem? (i := 65) (by decide +kernel), List.mem_of_getElem? (i := 448) (by decide +kernel), List.mem_of_getElem? (i := 449) (by decide +kernel)⟩
def lw_privs_1 : List (MethodName × Nat) := [(⟨"DustCart$Changes", "dropOldest", "()V"⟩, 5), (⟨"DustCart", "ofCell", "(II)I"⟩, 14), (⟨"DustCart", "ofCart", "(I)I"⟩, 14), (⟨"DustCart", "heightsFrom", "(LDustCart$Shelf;III)I"⟩, 14), (⟨"DustCart$Law", "readLines", "()V"⟩, 10), (⟨"DustCart$Law", "readOr", "(I)V"⟩, 10), (⟨"DustCart$Law", "readAnd", "(I)V"⟩, 10), (⟨"DustCart$Law", "readCompared", "(I)V"⟩, 10), (⟨"DustCart$Law", "readSum", "(I)V"⟩, 10), (⟨"DustCart$Law", "readProduct", "(I)V"⟩, 10), (⟨"DustCart$Law", "readOperand", "(I)V"⟩, 10), (⟨"DustCart$Law", "sign", "()I"⟩, 10), (⟨"DustCart$Law", "readNumber", "()V"⟩, 10), (⟨"DustCart$Law", "write", "(I)V"⟩, 10), (⟨"DustCart$Law", "readOpened", "(II)V"⟩, 10), (⟨"DustCart$Law", "pass", "(I)Z"⟩, 10)]
theorem lw_r1 : ∀ q ∈ lw_privs_1, lw_okq q := List.forall_mem_cons.mpr ⟨lw_p0, List.forall_mem_cons.mpr ⟨lw_p1, List.forall_mem_cons.mpr ⟨lw_p2, List.forall_mem_cons.mpr ⟨lw_p3, List.forall_mem_cons.mpr ⟨lw_p4, List.forall_mem_cons.mpr ⟨lw_p5, List.forall_mem_cons.mpr ⟨lw_p6, List.forall_mem_cons.mpr ⟨lw_p7, List.forall_mem_cons.mpr ⟨lw_p8, List.forall_mem_cons.mpr ⟨lw_p9, List.forall_mem_cons.mpr ⟨lw_p10, List.forall_mem_cons.mpr ⟨lw_p11, List.forall_mem_cons.mpr ⟨lw_p12, List.forall_mem_cons.mpr ⟨lw_p13, List.forall_mem_cons.mpr ⟨lw_p14, List.forall_mem_cons.mpr ⟨lw_p15, fun _ h => absurd h List.not_mem_nil⟩⟩⟩⟩⟩⟩⟩⟩⟩⟩⟩⟩⟩⟩⟩⟩
theorem lw_p16 : lw_okq (⟨"DustCart$Law", "refuse", "()V"⟩, 10) := ⟨⟨by decide +kernel, by decide +kernel⟩, List.mem_of_getElem? (i := 65) (by decide +kernel), List.mem_of_getElem? (i := 452) (by decide +kernel), List.mem_of_getElem? (i := 453) (by decide +kernel)⟩
theorem lw_p17 : lw_okq (⟨"DustCart$Law", "workOut", "(LDustCart$Plain;LDustCart$Cart;I)I"⟩, 10) := ⟨⟨by decide +kernel, by decide +kernel⟩, List.mem_of_getElem? (i := 65) (by decide +kernel), List.mem_of_getElem? (i := 486) (by decide +kernel), List.mem_of_getElem? (i := 487) (by decide +kernel)⟩
theorem lw_p18 : lw_okq (⟨"DustCart$Law", "pop", "()I"⟩, 10) := ⟨⟨by decide +kernel, by decide +kernel⟩, List.mem_of_getElem? (i := 65) (by decide +kernel), List.mem_of_getElem? (i := 490) (by decide +kernel), List.mem_of_getElem? (i := 491) (by decide +kernel)⟩
theorem lw_p19 : lw_okq (⟨"DustCart$Law", "step", "(ILDustCart$Plain;LDustCart$Cart;I)V"⟩, 10) := ⟨⟨by decide +kernel, by decide +kernel⟩, List.mem_of_getElem? (i := 65) (by decide +kernel), List.mem_of_getElem? (i := 494) (by decide +kernel), List.mem_of_getElem? (i := 495) (by decide +kernel)⟩
theorem lw_p20 : lw_okq (⟨"DustCart$Law", "push", "(I)V"⟩, 10) := ⟨⟨by decide +kernel, by decide +kernel⟩, List.mem_of_getElem? (i := 65) (by decide +kernel), List.mem_of_getElem? (i := 498) (by decide +kernel), List.mem_of_getElem? (i := 499) (by decide +kernel)⟩
theorem lw_p21 : lw_okq (⟨"DustCart", "live", "(I)Z"⟩, 14) := ⟨⟨by decide +kernel, by decide +kernel⟩, List.mem_of_getElem? (i := 16) (by decide +kernel), List.mem_of_getElem? (i := 517) (by decide +kernel), List.mem_of_getElem? (i := 518) (by decide +kernel)⟩
theorem lw_p22 : lw_okq (⟨"DustCart$Cart", "lookAround", "(LDustCart$Plain;)Z"⟩, 4) := ⟨⟨by decide +kernel, by decide +kernel⟩, List.mem_of_getElem? (i := 35) (by decide +kernel), List.mem_of_getElem? (i := 534) (by decide +kernel), List.mem_of_getElem? (i := 535) (by decide +kernel)⟩
theorem lw_p23 : lw_okq (⟨"DustCart$Cart", "move", "(LDustCart$Plain;I)Z"⟩, 4) := ⟨⟨by decide +kernel, by decide +kernel⟩, List.mem_of_getElem? (i := 35) (by decide +kernel), List.mem_of_getElem? (i := 539) (by decide +kernel), List.mem_of_getElem? (i := 540) (by decide +kernel)⟩
theorem lw_p24 : lw_okq (⟨"DustCart", "refusedBytes", "(I)I"⟩, 14) := ⟨⟨by decide +kernel, by decide +kernel⟩, List.mem_of_getElem? (i := 16) (by decide +kernel), List.mem_of_getElem? (i := 565) (by decide +kernel), List.mem_of_getElem? (i := 566) (by decide +kernel)⟩
theorem lw_p25 : lw_okq (⟨"DustCart", "thoughtOf", "(I)I"⟩, 14) := ⟨⟨by decide +kernel, by decide +kernel⟩, List.mem_of_getElem? (i := 16) (by decide +kernel), List.mem_of_getElem? (i := 580) (by decide +kernel), List.mem_of_getElem? (i := 581) (by decide +kernel)⟩
theorem lw_p26 : lw_okq (⟨"DustCart$Ways", "nearest", "(J)I"⟩, 8) := ⟨⟨by decide +kernel, by decide +kernel⟩, List.mem_of_getElem? (i := 104) (by decide +kernel), List.mem_of_getElem? (i := 602) (by decide +kernel), List.mem_of_getElem? (i := 603) (by decide +kernel)⟩
theorem lw_p27 : lw_okq (⟨"DustCart$Ways", "spreadFrom", "(LDustCart$Plain;I)V"⟩, 8) := ⟨⟨by decide +kernel, by decide +kernel⟩, List.mem_of_getElem? (i := 104) (by decide +kernel), List.mem_of_getElem? (i := 606) (by decide +kernel), List.mem_of_getElem? (i := 607) (by decide +kernel)⟩
theorem lw_p28 : lw_okq (⟨"DustCart$Reach", "mostIn", "(I)I"⟩, 5) := ⟨⟨by decide +kernel, by decide +kernel⟩, List.mem_of_getElem? (i := 137) (by decide +kernel), List.mem_of_getElem? (i := 639) (by decide +kernel), List.mem_of_getElem? (i := 640) (by decide +kernel)⟩
theorem lw_p29 : lw_okq (⟨"DustCart$Reach", "goOn", "(LDustCart$Plain;I)V"⟩, 5) := ⟨⟨by decide +kernel, by decide +kernel⟩, List.mem_of_getElem? (i := 137) (by decide +kernel), List.mem_of_getElem? (i := 643) (by decide +kernel), List.mem_of_getElem? (i := 644) (by decide +kernel)⟩
theorem lw_p30 : lw_okq (⟨"DustCart$Ways", "listStones", "(LDustCart$Plain;LDustCart$Cart;)Z"⟩, 8) := ⟨⟨by decide +kernel, by decide +kernel⟩, List.mem_of_getElem? (i := 104) (by decide +kernel), List.mem_of_getElem? (i := 660) (by decide +kernel), List.mem_of_getElem? (i := 661) (by decide +kernel)⟩
theorem lw_p31 : lw_okq (⟨"DustCart$Ways", "leastRest", "(II)I"⟩, 8) := ⟨⟨by decide +kernel, by decide +kernel⟩, List.mem_of_getElem? (i := 104) (by decide +kernel), List.mem_of_getElem? (i := 667) (by decide +kernel), List.mem_of_getElem? (i := 668) (by decide +kernel)⟩
def lw_privs_2 : List (MethodName × Nat) := [(⟨"DustCart$Law", "refuse", "()V"⟩, 10), (⟨"DustCart$Law", "workOut", "(LDustCart$Plain;LDustCart$Cart;I)I"⟩, 10), (⟨"DustCart$Law", "pop", "()I"⟩, 10), (⟨"DustCart$Law", "step", "(ILDustCart$Plain;LDustCart$Cart;I)V"⟩, 10), (⟨"DustCart$Law", "push", "(I)V"⟩, 10), (⟨"DustCart", "live", "(I)Z"⟩, 14), (⟨"DustCart$Cart", "lookAround", "(LDustCart$Plain;)Z"⟩, 4), (⟨"DustCart$Cart", "move", "(LDustCart$Plain;I)Z"⟩, 4), (⟨"DustCart", "refusedBytes", "(I)I"⟩, 14), (⟨"DustCart", "thoughtOf", "(I)I"⟩, 14), (⟨"DustCart$Ways", "nearest", "(J)I"⟩, 8), (⟨"DustCart$Ways", "spreadFrom", "(LDustCart$Plain;I)V"⟩, 8), (⟨"DustCart$Reach", "mostIn", "(I)I"⟩, 5), (⟨"DustCart$Reach", "goOn", "(LDustCart$Plain;I)V"⟩, 5), (⟨"DustCart$Ways", "listStones", "(LDustCart$Plain;LDustCart$Cart;)Z"⟩, 8), (⟨"DustCart$Ways", "leastRest", "(II)I"⟩, 8)]
theorem lw_r2 : ∀ q ∈ lw_privs_2, lw_okq q := List.forall_mem_cons.mpr ⟨lw_p16, List.forall_mem_cons.mpr ⟨lw_p17, List.forall_mem_cons.mpr ⟨lw_p18, List.forall_mem_cons.mpr ⟨lw_p19, List.forall_mem_cons.mpr ⟨lw_p20, List.forall_mem_cons.mpr ⟨lw_p21, List.forall_mem_cons.mpr ⟨lw_p22, List.forall_mem_cons.mpr ⟨lw_p23, List.forall_mem_cons.mpr ⟨lw_p24, List.forall_mem_cons.mpr ⟨lw_p25, List.forall_mem_cons.mpr ⟨lw_p26, List.forall_mem_cons.mpr ⟨lw_p27, List.forall_mem_cons.mpr ⟨lw_p28, List.forall_mem_cons.mpr ⟨lw_p29, List.forall_mem_cons.mpr ⟨lw_p30, List.forall_mem_cons.mpr ⟨lw_p31, fun _ h => absurd h List.not_mem_nil⟩⟩⟩⟩⟩⟩⟩⟩⟩⟩⟩⟩⟩⟩⟩⟩
theorem lw_p32 : lw_okq (⟨"DustCart$Ways", "chooseFirst", "(I)V"⟩, 8) := ⟨⟨by decide +kernel, by decide +kernel⟩, List.mem_of_getElem? (i := 104) (by decide +kernel), List.mem_of_getElem? (i := 671) (by decide +kernel), List.mem_of_getElem? (i := 672) (by decide +kernel)⟩
theorem lw_p33 : lw_okq (⟨"DustCart$Wheels", "begin", "(IIII)I"⟩, 5) := ⟨⟨by decide +kernel, by decide +kernel⟩, List.mem_of_getElem? (i := 215) (by decide +kernel), List.mem_of_getElem? (i := 767) (by decide +kernel), List.mem_of_getElem? (i := 768) (by decide +kernel)⟩
theorem lw_p34 : lw_okq (⟨"DustCart$Wheels", "answerOfWheel", "(III)I"⟩, 5) := ⟨⟨by decide +kernel, by decide +kernel⟩, List.mem_of_getElem? (i := 215) (by decide +kernel), List.mem_of_getElem? (i := 776) (by decide +kernel), List.mem_of_getElem? (i := 777) (by decide +kernel)⟩
theorem lw_p35 : lw_okq (⟨"DustCart$Wheels", "own", "(III)I"⟩, 5) := ⟨⟨by decide +kernel, by decide +kernel⟩, List.mem_of_getElem? (i := 215) (by decide +kernel), List.mem_of_getElem? (i := 780) (by decide +kernel), List.mem_of_getElem? (i := 781) (by decide +kernel)⟩
theorem lw_p36 : lw_okq (⟨"DustCart$Wheels", "answerUnder", "(IIIII)I"⟩, 5) := ⟨⟨by decide +kernel, by decide +kernel⟩, List.mem_of_getElem? (i := 215) (by decide +kernel), List.mem_of_getElem? (i := 784) (by decide +kernel), List.mem_of_getElem? (i := 785) (by decide +kernel)⟩
theorem lw_p37 : lw_okq (⟨"DustCart$Shelf", "narrowed", "(J)J"⟩, 5) := ⟨⟨by decide +kernel, by decide +kernel⟩, List.mem_of_getElem? (i := 188) (by decide +kernel), List.mem_of_getElem? (i := 838) (by decide +kernel), List.mem_of_getElem? (i := 839) (by decide +kernel)⟩
theorem lw_p38 : lw_okq (⟨"DustCartModel", "lays", "(III)V"⟩, 60) := ⟨⟨by decide +kernel, by decide +kernel⟩, List.mem_of_getElem? (i := 873) (by decide +kernel), List.mem_of_getElem? (i := 1065) (by decide +kernel), List.mem_of_getElem? (i := 1066) (by decide +kernel)⟩
theorem lw_p39 : lw_okq (⟨"DustCartModel", "isThing", "(II)Z"⟩, 60) := ⟨⟨by decide +kernel, by decide +kernel⟩, List.mem_of_getElem? (i := 873) (by decide +kernel), List.mem_of_getElem? (i := 1077) (by decide +kernel), List.mem_of_getElem? (i := 1078) (by decide +kernel)⟩
theorem lw_p40 : lw_okq (⟨"DustCartModel", "changes", "(III)I"⟩, 60) := ⟨⟨by decide +kernel, by decide +kernel⟩, List.mem_of_getElem? (i := 873) (by decide +kernel), List.mem_of_getElem? (i := 1093) (by decide +kernel), List.mem_of_getElem? (i := 1094) (by decide +kernel)⟩
theorem lw_p41 : lw_okq (⟨"DustCartModel", "valueAt", "(II)I"⟩, 60) := ⟨⟨by decide +kernel, by decide +kernel⟩, List.mem_of_getElem? (i := 873) (by decide +kernel), List.mem_of_getElem? (i := 1097) (by decide +kernel), List.mem_of_getElem? (i := 1098) (by decide +kernel)⟩
theorem lw_p42 : lw_okq (⟨"DustCartModel", "isHollow", "(I)Z"⟩, 60) := ⟨⟨by decide +kernel, by decide +kernel⟩, List.mem_of_getElem? (i := 873) (by decide +kernel), List.mem_of_getElem? (i := 1105) (by decide +kernel), List.mem_of_getElem? (i := 1106) (by decide +kernel)⟩
theorem lw_p43 : lw_okq (⟨"DustCartModel", "isLooked", "(I)Z"⟩, 60) := ⟨⟨by decide +kernel, by decide +kernel⟩, List.mem_of_getElem? (i := 873) (by decide +kernel), List.mem_of_getElem? (i := 1112) (by decide +kernel), List.mem_of_getElem? (i := 1113) (by decide +kernel)⟩
theorem lw_p44 : lw_okq (⟨"DustCartModel", "readText", "(I)I"⟩, 60) := ⟨⟨by decide +kernel, by decide +kernel⟩, List.mem_of_getElem? (i := 873) (by decide +kernel), List.mem_of_getElem? (i := 1134) (by decide +kernel), List.mem_of_getElem? (i := 1135) (by decide +kernel)⟩
theorem lw_p45 : lw_okq (⟨"DustCartModel", "oneLine", "()V"⟩, 60) := ⟨⟨by decide +kernel, by decide +kernel⟩, List.mem_of_getElem? (i := 873) (by decide +kernel), List.mem_of_getElem? (i := 1138) (by decide +kernel), List.mem_of_getElem? (i := 1139) (by decide +kernel)⟩
theorem lw_p46 : lw_okq (⟨"DustCartModel", "either", "()V"⟩, 60) := ⟨⟨by decide +kernel, by decide +kernel⟩, List.mem_of_getElem? (i := 873) (by decide +kernel), List.mem_of_getElem? (i := 1142) (by decide +kernel), List.mem_of_getElem? (i := 1143) (by decide +kernel)⟩
theorem lw_p47 : lw_okq (⟨"DustCartModel", "both", "()V"⟩, 60) := ⟨⟨by decide +kernel, by decide +kernel⟩, List.mem_of_getElem? (i := 873) (by decide +kernel), List.mem_of_getElem? (i := 1146) (by decide +kernel), List.mem_of_getElem? (i := 1147) (by decide +kernel)⟩
def lw_privs_3 : List (MethodName × Nat) := [(⟨"DustCart$Ways", "chooseFirst", "(I)V"⟩, 8), (⟨"DustCart$Wheels", "begin", "(IIII)I"⟩, 5), (⟨"DustCart$Wheels", "answerOfWheel", "(III)I"⟩, 5), (⟨"DustCart$Wheels", "own", "(III)I"⟩, 5), (⟨"DustCart$Wheels", "answerUnder", "(IIIII)I"⟩, 5), (⟨"DustCart$Shelf", "narrowed", "(J)J"⟩, 5), (⟨"DustCartModel", "lays", "(III)V"⟩, 60), (⟨"DustCartModel", "isThing", "(II)Z"⟩, 60), (⟨"DustCartModel", "changes", "(III)I"⟩, 60), (⟨"DustCartModel", "valueAt", "(II)I"⟩, 60), (⟨"DustCartModel", "isHollow", "(I)Z"⟩, 60), (⟨"DustCartModel", "isLooked", "(I)Z"⟩, 60), (⟨"DustCartModel", "readText", "(I)I"⟩, 60), (⟨"DustCartModel", "oneLine", "()V"⟩, 60), (⟨"DustCartModel", "either", "()V"⟩, 60), (⟨"DustCartModel", "both", "()V"⟩, 60)]
theorem lw_r3 : ∀ q ∈ lw_privs_3, lw_okq q := List.forall_mem_cons.mpr ⟨lw_p32, List.forall_mem_cons.mpr ⟨lw_p33, List.forall_mem_cons.mpr ⟨lw_p34, List.forall_mem_cons.mpr ⟨lw_p35, List.forall_mem_cons.mpr ⟨lw_p36, List.forall_mem_cons.mpr ⟨lw_p37, List.forall_mem_cons.mpr ⟨lw_p38, List.forall_mem_cons.mpr ⟨lw_p39, List.forall_mem_cons.mpr ⟨lw_p40, List.forall_mem_cons.mpr ⟨lw_p41, List.forall_mem_cons.mpr ⟨lw_p42, List.forall_mem_cons.mpr ⟨lw_p43, List.forall_mem_cons.mpr ⟨lw_p44, List.forall_mem_cons.mpr ⟨lw_p45, List.forall_mem_cons.mpr ⟨lw_p46, List.forall_mem_cons.mpr ⟨lw_p47, fun _ h => absurd h List.not_mem_nil⟩⟩⟩⟩⟩⟩⟩⟩⟩⟩⟩⟩⟩⟩⟩⟩
theorem lw_p48 : lw_okq (⟨"DustCartModel", "compared", "()V"⟩, 60) := ⟨⟨by decide +kernel, by decide +kernel⟩, List.mem_of_getElem? (i := 873) (by decide +kernel), List.mem_of_getElem? (i := 1150) (by decide +kernel), List.mem_of_getElem? (i := 1151) (by decide +kernel)⟩
theorem lw_p49 : lw_okq (⟨"DustCartModel", "sum", "()V"⟩, 60) := ⟨⟨by decide +kernel, by decide +kernel⟩, List.mem_of_getElem? (i := 873) (by decide +kernel), List.mem_of_getElem? (i := 1154) (by decide +kernel), List.mem_of_getElem? (i := 1155) (by decide +kernel)⟩
theorem lw_p50 : lw_okq (⟨"DustCartModel", "product", "()V"⟩, 60) := ⟨⟨by decide +kernel, by decide +kernel⟩, List.mem_of_getElem? (i := 873) (by decide +kernel), List.mem_of_getElem? (i := 1158) (by decide +kernel), List.mem_of_getElem? (i := 1159) (by decide +kernel)⟩
theorem lw_p51 : lw_okq (⟨"DustCartModel", "operand", "()V"⟩, 60) := ⟨⟨by decide +kernel, by decide +kernel⟩, List.mem_of_getElem? (i := 873) (by decide +kernel), List.mem_of_getElem? (i := 1162) (by decide +kernel), List.mem_of_getElem? (i := 1163) (by decide +kernel)⟩
theorem lw_p52 : lw_okq (⟨"DustCartModel", "look", "()I"⟩, 60) := ⟨⟨by decide +kernel, by decide +kernel⟩, List.mem_of_getElem? (i := 873) (by decide +kernel), List.mem_of_getElem? (i := 1166) (by decide +kernel), List.mem_of_getElem? (i := 1167) (by decide +kernel)⟩
theorem lw_p53 : lw_okq (⟨"DustCartModel", "addStep", "(II)V"⟩, 60) := ⟨⟨by decide +kernel, by decide +kernel⟩, List.mem_of_getElem? (i := 873) (by decide +kernel), List.mem_of_getElem? (i := 1173) (by decide +kernel), List.mem_of_getElem? (i := 1174) (by decide +kernel)⟩
theorem lw_p54 : lw_okq (⟨"DustCartModel", "opens", "()Z"⟩, 60) := ⟨⟨by decide +kernel, by decide +kernel⟩, List.mem_of_getElem? (i := 873) (by decide +kernel), List.mem_of_getElem? (i := 1177) (by decide +kernel), List.mem_of_getElem? (i := 1178) (by decide +kernel)⟩
theorem lw_p55 : lw_okq (⟨"DustCartModel", "faulty", "()V"⟩, 60) := ⟨⟨by decide +kernel, by decide +kernel⟩, List.mem_of_getElem? (i := 873) (by decide +kernel), List.mem_of_getElem? (i := 1181) (by decide +kernel), List.mem_of_getElem? (i := 1182) (by decide +kernel)⟩
theorem lw_p56 : lw_okq (⟨"DustCartModel", "figure", "()V"⟩, 60) := ⟨⟨by decide +kernel, by decide +kernel⟩, List.mem_of_getElem? (i := 873) (by decide +kernel), List.mem_of_getElem? (i := 1185) (by decide +kernel), List.mem_of_getElem? (i := 1186) (by decide +kernel)⟩
theorem lw_p57 : lw_okq (⟨"DustCartModel", "costOf", "(II)I"⟩, 60) := ⟨⟨by decide +kernel, by decide +kernel⟩, List.mem_of_getElem? (i := 873) (by decide +kernel), List.mem_of_getElem? (i := 1193) (by decide +kernel), List.mem_of_getElem? (i := 1194) (by decide +kernel)⟩
theorem lw_p58 : lw_okq (⟨"DustCartModel", "orderOf", "(I)I"⟩, 60) := ⟨⟨by decide +kernel, by decide +kernel⟩, List.mem_of_getElem? (i := 873) (by decide +kernel), List.mem_of_getElem? (i := 1201) (by decide +kernel), List.mem_of_getElem? (i := 1202) (by decide +kernel)⟩
theorem lw_p59 : lw_okq (⟨"DustCartModel", "gives", "(I)I"⟩, 60) := ⟨⟨by decide +kernel, by decide +kernel⟩, List.mem_of_getElem? (i := 873) (by decide +kernel), List.mem_of_getElem? (i := 1205) (by decide +kernel), List.mem_of_getElem? (i := 1206) (by decide +kernel)⟩
theorem lw_p60 : lw_okq (⟨"DustCartModel", "worked", "(III)I"⟩, 60) := ⟨⟨by decide +kernel, by decide +kernel⟩, List.mem_of_getElem? (i := 873) (by decide +kernel), List.mem_of_getElem? (i := 1209) (by decide +kernel), List.mem_of_getElem? (i := 1210) (by decide +kernel)⟩
theorem lw_p61 : lw_okq (⟨"DustCartModel", "lead", "(I)I"⟩, 60) := ⟨⟨by decide +kernel, by decide +kernel⟩, List.mem_of_getElem? (i := 873) (by decide +kernel), List.mem_of_getElem? (i := 1220) (by decide +kernel), List.mem_of_getElem? (i := 1221) (by decide +kernel)⟩
theorem lw_p62 : lw_okq (⟨"DustCartModel", "goOwn", "(II)Z"⟩, 60) := ⟨⟨by decide +kernel, by decide +kernel⟩, List.mem_of_getElem? (i := 873) (by decide +kernel), List.mem_of_getElem? (i := 1224) (by decide +kernel), List.mem_of_getElem? (i := 1225) (by decide +kernel)⟩
theorem lw_p63 : lw_okq (⟨"DustCartModel", "goDay", "(IIII)Z"⟩, 60) := ⟨⟨by decide +kernel, by decide +kernel⟩, List.mem_of_getElem? (i := 873) (by decide +kernel), List.mem_of_getElem? (i := 1228) (by decide +kernel), List.mem_of_getElem? (i := 1229) (by decide +kernel)⟩
def lw_privs_4 : List (MethodName × Nat) := [(⟨"DustCartModel", "compared", "()V"⟩, 60), (⟨"DustCartModel", "sum", "()V"⟩, 60), (⟨"DustCartModel", "product", "()V"⟩, 60), (⟨"DustCartModel", "operand", "()V"⟩, 60), (⟨"DustCartModel", "look", "()I"⟩, 60), (⟨"DustCartModel", "addStep", "(II)V"⟩, 60), (⟨"DustCartModel", "opens", "()Z"⟩, 60), (⟨"DustCartModel", "faulty", "()V"⟩, 60), (⟨"DustCartModel", "figure", "()V"⟩, 60), (⟨"DustCartModel", "costOf", "(II)I"⟩, 60), (⟨"DustCartModel", "orderOf", "(I)I"⟩, 60), (⟨"DustCartModel", "gives", "(I)I"⟩, 60), (⟨"DustCartModel", "worked", "(III)I"⟩, 60), (⟨"DustCartModel", "lead", "(I)I"⟩, 60), (⟨"DustCartModel", "goOwn", "(II)Z"⟩, 60), (⟨"DustCartModel", "goDay", "(IIII)Z"⟩, 60)]
theorem lw_r4 : ∀ q ∈ lw_privs_4, lw_okq q := List.forall_mem_cons.mpr ⟨lw_p48, List.forall_mem_cons.mpr ⟨lw_p49, List.forall_mem_cons.mpr ⟨lw_p50, List.forall_mem_cons.mpr ⟨lw_p51, List.forall_mem_cons.mpr ⟨lw_p52, List.forall_mem_cons.mpr ⟨lw_p53, List.forall_mem_cons.mpr ⟨lw_p54, List.forall_mem_cons.mpr ⟨lw_p55, List.forall_mem_cons.mpr ⟨lw_p56, List.forall_mem_cons.mpr ⟨lw_p57, List.forall_mem_cons.mpr ⟨lw_p58, List.forall_mem_cons.mpr ⟨lw_p59, List.forall_mem_cons.mpr ⟨lw_p60, List.forall_mem_cons.mpr ⟨lw_p61, List.forall_mem_cons.mpr ⟨lw_p62, List.forall_mem_cons.mpr ⟨lw_p63, fun _ h => absurd h List.not_mem_nil⟩⟩⟩⟩⟩⟩⟩⟩⟩⟩⟩⟩⟩⟩⟩⟩
theorem lw_p64 : lw_okq (⟨"DustCartModel", "obeys", "(I)Z"⟩, 60) := ⟨⟨by decide +kernel, by decide +kernel⟩, List.mem_of_getElem? (i := 873) (by decide +kernel), List.mem_of_getElem? (i := 1232) (by decide +kernel), List.mem_of_getElem? (i := 1233) (by decide +kernel)⟩
theorem lw_p65 : lw_okq (⟨"DustCartModel", "rowFault", "(I)I"⟩, 60) := ⟨⟨by decide +kernel, by decide +kernel⟩, List.mem_of_getElem? (i := 873) (by decide +kernel), List.mem_of_getElem? (i := 1254) (by decide +kernel), List.mem_of_getElem? (i := 1255) (by decide +kernel)⟩
theorem lw_p66 : lw_okq (⟨"DustCartModel", "think", "()V"⟩, 60) := ⟨⟨by decide +kernel, by decide +kernel⟩, List.mem_of_getElem? (i := 873) (by decide +kernel), List.mem_of_getElem? (i := 1258) (by decide +kernel), List.mem_of_getElem? (i := 1259) (by decide +kernel)⟩
theorem lw_p67 : lw_okq (⟨"DustCartModel", "orderAt", "(II)I"⟩, 60) := ⟨⟨by decide +kernel, by decide +kernel⟩, List.mem_of_getElem? (i := 873) (by decide +kernel), List.mem_of_getElem? (i := 1262) (by decide +kernel), List.mem_of_getElem? (i := 1263) (by decide +kernel)⟩
theorem lw_p68 : lw_okq (⟨"DustCartModel", "byteAt", "(II)I"⟩, 60) := ⟨⟨by decide +kernel, by decide +kernel⟩, List.mem_of_getElem? (i := 873) (by decide +kernel), List.mem_of_getElem? (i := 1266) (by decide +kernel), List.mem_of_getElem? (i := 1267) (by decide +kernel)⟩
theorem lw_p69 : lw_okq (⟨"DustCartModel", "tellThought", "(I)I"⟩, 60) := ⟨⟨by decide +kernel, by decide +kernel⟩, List.mem_of_getElem? (i := 873) (by decide +kernel), List.mem_of_getElem? (i := 1270) (by decide +kernel), List.mem_of_getElem? (i := 1271) (by decide +kernel)⟩
theorem lw_p70 : lw_okq (⟨"DustCartModel", "unthink", "()V"⟩, 60) := ⟨⟨by decide +kernel, by decide +kernel⟩, List.mem_of_getElem? (i := 873) (by decide +kernel), List.mem_of_getElem? (i := 1274) (by decide +kernel), List.mem_of_getElem? (i := 1275) (by decide +kernel)⟩
theorem lw_p71 : lw_okq (⟨"DustCartModel", "findFar", "(I)V"⟩, 60) := ⟨⟨by decide +kernel, by decide +kernel⟩, List.mem_of_getElem? (i := 873) (by decide +kernel), List.mem_of_getElem? (i := 1290) (by decide +kernel), List.mem_of_getElem? (i := 1291) (by decide +kernel)⟩
theorem lw_p72 : lw_okq (⟨"DustCartModel", "mostIn", "(I)I"⟩, 60) := ⟨⟨by decide +kernel, by decide +kernel⟩, List.mem_of_getElem? (i := 873) (by decide +kernel), List.mem_of_getElem? (i := 1299) (by decide +kernel), List.mem_of_getElem? (i := 1300) (by decide +kernel)⟩
theorem lw_p73 : lw_okq (⟨"DustCartModel", "goOn", "(I)V"⟩, 60) := ⟨⟨by decide +kernel, by decide +kernel⟩, List.mem_of_getElem? (i := 873) (by decide +kernel), List.mem_of_getElem? (i := 1303) (by decide +kernel), List.mem_of_getElem? (i := 1304) (by decide +kernel)⟩
theorem lw_p74 : lw_okq (⟨"DustCartModel", "come", "(IIII)V"⟩, 60) := ⟨⟨by decide +kernel, by decide +kernel⟩, List.mem_of_getElem? (i := 873) (by decide +kernel), List.mem_of_getElem? (i := 1307) (by decide +kernel), List.mem_of_getElem? (i := 1308) (by decide +kernel)⟩
theorem lw_p75 : lw_okq (⟨"DustCartModel", "toNorth", "(I)I"⟩, 60) := ⟨⟨by decide +kernel, by decide +kernel⟩, List.mem_of_getElem? (i := 873) (by decide +kernel), List.mem_of_getElem? (i := 1315) (by decide +kernel), List.mem_of_getElem? (i := 1316) (by decide +kernel)⟩
theorem lw_p76 : lw_okq (⟨"DustCartModel", "goRound", "(IIIII)V"⟩, 60) := ⟨⟨by decide +kernel, by decide +kernel⟩, List.mem_of_getElem? (i := 873) (by decide +kernel), List.mem_of_getElem? (i := 1319) (by decide +kernel), List.mem_of_getElem? (i := 1320) (by decide +kernel)⟩
theorem lw_p77 : lw_okq (⟨"DustCartModel", "endOf", "(II)I"⟩, 60) := ⟨⟨by decide +kernel, by decide +kernel⟩, List.mem_of_getElem? (i := 873) (by decide +kernel), List.mem_of_getElem? (i := 1342) (by decide +kernel), List.mem_of_getElem? (i := 1343) (by decide +kernel)⟩
theorem lw_p78 : lw_okq (⟨"DustCartModel", "isBody", "(I)Z"⟩, 60) := ⟨⟨by decide +kernel, by decide +kernel⟩, List.mem_of_getElem? (i := 873) (by decide +kernel), List.mem_of_getElem? (i := 1375) (by decide +kernel), List.mem_of_getElem? (i := 1376) (by decide +kernel)⟩
theorem lw_p79 : lw_okq (⟨"DustCartModel", "turning", "(II)I"⟩, 60) := ⟨⟨by decide +kernel, by decide +kernel⟩, List.mem_of_getElem? (i := 873) (by decide +kernel), List.mem_of_getElem? (i := 1379) (by decide +kernel), List.mem_of_getElem? (i := 1380) (by decide +kernel)⟩
def lw_privs_5 : List (MethodName × Nat) := [(⟨"DustCartModel", "obeys", "(I)Z"⟩, 60), (⟨"DustCartModel", "rowFault", "(I)I"⟩, 60), (⟨"DustCartModel", "think", "()V"⟩, 60), (⟨"DustCartModel", "orderAt", "(II)I"⟩, 60), (⟨"DustCartModel", "byteAt", "(II)I"⟩, 60), (⟨"DustCartModel", "tellThought", "(I)I"⟩, 60), (⟨"DustCartModel", "unthink", "()V"⟩, 60), (⟨"DustCartModel", "findFar", "(I)V"⟩, 60), (⟨"DustCartModel", "mostIn", "(I)I"⟩, 60), (⟨"DustCartModel", "goOn", "(I)V"⟩, 60), (⟨"DustCartModel", "come", "(IIII)V"⟩, 60), (⟨"DustCartModel", "toNorth", "(I)I"⟩, 60), (⟨"DustCartModel", "goRound", "(IIIII)V"⟩, 60), (⟨"DustCartModel", "endOf", "(II)I"⟩, 60), (⟨"DustCartModel", "isBody", "(I)Z"⟩, 60), (⟨"DustCartModel", "turning", "(II)I"⟩, 60)]
theorem lw_r5 : ∀ q ∈ lw_privs_5, lw_okq q := List.forall_mem_cons.mpr ⟨lw_p64, List.forall_mem_cons.mpr ⟨lw_p65, List.forall_mem_cons.mpr ⟨lw_p66, List.forall_mem_cons.mpr ⟨lw_p67, List.forall_mem_cons.mpr ⟨lw_p68, List.forall_mem_cons.mpr ⟨lw_p69, List.forall_mem_cons.mpr ⟨lw_p70, List.forall_mem_cons.mpr ⟨lw_p71, List.forall_mem_cons.mpr ⟨lw_p72, List.forall_mem_cons.mpr ⟨lw_p73, List.forall_mem_cons.mpr ⟨lw_p74, List.forall_mem_cons.mpr ⟨lw_p75, List.forall_mem_cons.mpr ⟨lw_p76, List.forall_mem_cons.mpr ⟨lw_p77, List.forall_mem_cons.mpr ⟨lw_p78, List.forall_mem_cons.mpr ⟨lw_p79, fun _ h => absurd h List.not_mem_nil⟩⟩⟩⟩⟩⟩⟩⟩⟩⟩⟩⟩⟩⟩⟩⟩
theorem lw_p80 : lw_okq (⟨"DustCartModel", "ran", "(I)V"⟩, 60) := ⟨⟨by decide +kernel, by decide +kernel⟩, List.mem_of_getElem? (i := 873) (by decide +kernel), List.mem_of_getElem? (i := 1386) (by decide +kernel), List.mem_of_getElem? (i := 1387) (by decide +kernel)⟩
theorem lw_p81 : lw_okq (⟨"DustCartModel", "plainTurns", "(II)I"⟩, 60) := ⟨⟨by decide +kernel, by decide +kernel⟩, List.mem_of_getElem? (i := 873) (by decide +kernel), List.mem_of_getElem? (i := 1390) (by decide +kernel), List.mem_of_getElem? (i := 1391) (by decide +kernel)⟩
theorem lw_p82 : lw_okq (⟨"DustCartModel", "northTurns", "(II)I"⟩, 60) := ⟨⟨by decide +kernel, by decide +kernel⟩, List.mem_of_getElem? (i := 873) (by decide +kernel), List.mem_of_getElem? (i := 1394) (by decide +kernel), List.mem_of_getElem? (i := 1395) (by decide +kernel)⟩
theorem lw_p83 : lw_okq (⟨"DustCartModel", "moving", "(II)I"⟩, 60) := ⟨⟨by decide +kernel, by decide +kernel⟩, List.mem_of_getElem? (i := 873) (by decide +kernel), List.mem_of_getElem? (i := 1398) (by decide +kernel), List.mem_of_getElem? (i := 1399) (by decide +kernel)⟩
theorem lw_p84 : lw_okq (⟨"DustCartModel", "dustyMoves", "(II)I"⟩, 60) := ⟨⟨by decide +kernel, by decide +kernel⟩, List.mem_of_getElem? (i := 873) (by decide +kernel), List.mem_of_getElem? (i := 1402) (by decide +kernel), List.mem_of_getElem? (i := 1403) (by decide +kernel)⟩
theorem lw_p85 : lw_okq (⟨"DustCartModel", "plainMoves", "(II)I"⟩, 60) := ⟨⟨by decide +kernel, by decide +kernel⟩, List.mem_of_getElem? (i := 873) (by decide +kernel), List.mem_of_getElem? (i := 1406) (by decide +kernel), List.mem_of_getElem? (i := 1407) (by decide +kernel)⟩
theorem lw_p86 : lw_okq (⟨"DustCartModel", "looking", "(II)I"⟩, 60) := ⟨⟨by decide +kernel, by decide +kernel⟩, List.mem_of_getElem? (i := 873) (by decide +kernel), List.mem_of_getElem? (i := 1410) (by decide +kernel), List.mem_of_getElem? (i := 1411) (by decide +kernel)⟩
theorem lw_p87 : lw_okq (⟨"DustCartModel", "cleanLooks", "(II)I"⟩, 60) := ⟨⟨by decide +kernel, by decide +kernel⟩, List.mem_of_getElem? (i := 873) (by decide +kernel), List.mem_of_getElem? (i := 1414) (by decide +kernel), List.mem_of_getElem? (i := 1415) (by decide +kernel)⟩
theorem lw_p88 : lw_okq (⟨"DustCartModel", "plainLooks", "(II)I"⟩, 60) := ⟨⟨by decide +kernel, by decide +kernel⟩, List.mem_of_getElem? (i := 873) (by decide +kernel), List.mem_of_getElem? (i := 1418) (by decide +kernel), List.mem_of_getElem? (i := 1419) (by decide +kernel)⟩
theorem lw_p89 : lw_okq (⟨"DustCartModel", "telling", "(II)I"⟩, 60) := ⟨⟨by decide +kernel, by decide +kernel⟩, List.mem_of_getElem? (i := 873) (by decide +kernel), List.mem_of_getElem? (i := 1422) (by decide +kernel), List.mem_of_getElem? (i := 1423) (by decide +kernel)⟩
theorem lw_p90 : lw_okq (⟨"DustCartModel", "plainTells", "(II)I"⟩, 60) := ⟨⟨by decide +kernel, by decide +kernel⟩, List.mem_of_getElem? (i := 873) (by decide +kernel), List.mem_of_getElem? (i := 1426) (by decide +kernel), List.mem_of_getElem? (i := 1427) (by decide +kernel)⟩
theorem lw_p91 : lw_okq (⟨"DustCartModel", "stones", "()I"⟩, 60) := ⟨⟨by decide +kernel, by decide +kernel⟩, List.mem_of_getElem? (i := 873) (by decide +kernel), List.mem_of_getElem? (i := 1434) (by decide +kernel), List.mem_of_getElem? (i := 1435) (by decide +kernel)⟩
theorem lw_p92 : lw_okq (⟨"DustCartModel", "hollows", "()I"⟩, 60) := ⟨⟨by decide +kernel, by decide +kernel⟩, List.mem_of_getElem? (i := 873) (by decide +kernel), List.mem_of_getElem? (i := 1438) (by decide +kernel), List.mem_of_getElem? (i := 1439) (by decide +kernel)⟩
theorem lw_p93 : lw_okq (⟨"DustCartModel", "whyNoPlace", "(II)I"⟩, 60) := ⟨⟨by decide +kernel, by decide +kernel⟩, List.mem_of_getElem? (i := 873) (by decide +kernel), List.mem_of_getElem? (i := 1454) (by decide +kernel), List.mem_of_getElem? (i := 1455) (by decide +kernel)⟩
def lw_privs_6 : List (MethodName × Nat) := [(⟨"DustCartModel", "ran", "(I)V"⟩, 60), (⟨"DustCartModel", "plainTurns", "(II)I"⟩, 60), (⟨"DustCartModel", "northTurns", "(II)I"⟩, 60), (⟨"DustCartModel", "moving", "(II)I"⟩, 60), (⟨"DustCartModel", "dustyMoves", "(II)I"⟩, 60), (⟨"DustCartModel", "plainMoves", "(II)I"⟩, 60), (⟨"DustCartModel", "looking", "(II)I"⟩, 60), (⟨"DustCartModel", "cleanLooks", "(II)I"⟩, 60), (⟨"DustCartModel", "plainLooks", "(II)I"⟩, 60), (⟨"DustCartModel", "telling", "(II)I"⟩, 60), (⟨"DustCartModel", "plainTells", "(II)I"⟩, 60), (⟨"DustCartModel", "stones", "()I"⟩, 60), (⟨"DustCartModel", "hollows", "()I"⟩, 60), (⟨"DustCartModel", "whyNoPlace", "(II)I"⟩, 60)]
theorem lw_r6 : ∀ q ∈ lw_privs_6, lw_okq q := List.forall_mem_cons.mpr ⟨lw_p80, List.forall_mem_cons.mpr ⟨lw_p81, List.forall_mem_cons.mpr ⟨lw_p82, List.forall_mem_cons.mpr ⟨lw_p83, List.forall_mem_cons.mpr ⟨lw_p84, List.forall_mem_cons.mpr ⟨lw_p85, List.forall_mem_cons.mpr ⟨lw_p86, List.forall_mem_cons.mpr ⟨lw_p87, List.forall_mem_cons.mpr ⟨lw_p88, List.forall_mem_cons.mpr ⟨lw_p89, List.forall_mem_cons.mpr ⟨lw_p90, List.forall_mem_cons.mpr ⟨lw_p91, List.forall_mem_cons.mpr ⟨lw_p92, List.forall_mem_cons.mpr ⟨lw_p93, fun _ h => absurd h List.not_mem_nil⟩⟩⟩⟩⟩⟩⟩⟩⟩⟩⟩⟩⟩⟩
def lw_privs : List (MethodName × Nat) := lw_privs_1 ++ (lw_privs_2 ++ (lw_privs_3 ++ (lw_privs_4 ++ (lw_privs_5 ++ (lw_privs_6)))))
def lw_tbl : List Cond := k2_sels lw_privs ++ tables_1
theorem lw_privs_ok : ∀ q ∈ lw_privs, lw_okq q := by
  show ∀ q ∈ lw_privs_1 ++ (lw_privs_2 ++ (lw_privs_3 ++ (lw_privs_4 ++ (lw_privs_5 ++ (lw_privs_6))))), lw_okq q
  exact List.forall_mem_append.mpr ⟨lw_r1, List.forall_mem_append.mpr ⟨lw_r2, List.forall_mem_append.mpr ⟨lw_r3, List.forall_mem_append.mpr ⟨lw_r4, List.forall_mem_append.mpr ⟨lw_r5, lw_r6⟩⟩⟩⟩⟩
-- ===== end of PART A; then your names; then what follows =====
theorem goodIn_r {big : List Cond} (ws : List Cond) (ps : List Nat) (hp : ws = ps.filterMap (fun i => big[i]?)) (h : ws.all goodWord = true) : GoodIn big ws := by
  intro w hw
  have h1 := List.all_eq_true.mp h w hw
  rw [hp] at hw
  obtain ⟨i, -, hi⟩ := List.mem_filterMap.mp hw
  have hm : w ∈ big := by first | exact List.mem_of_getElem? hi | exact List.getElem?_mem hi
  exact ⟨hm, good_of_word h1⟩
theorem goodIn_app {big a b : List Cond} (ha : GoodIn big a) (hb : GoodIn big b) : GoodIn big (a ++ b) := fun w h => (List.mem_append.mp h).elim (ha w) (hb w)
theorem goodIn_ca {big a b : List Cond} {c : Cond} (ha : GoodIn big (c :: a)) (hb : GoodIn big b) : GoodIn big (c :: (a ++ b)) := fun w h => (List.mem_cons.mp h).elim (fun e => ha w (List.mem_cons.mpr (Or.inl e))) (fun h => (List.mem_append.mp h).elim (fun h => ha w (List.mem_cons.mpr (Or.inr h))) (hb w))
theorem goodIn_sub {big ws : List Cond} (hm : ∀ w ∈ ws, w ∈ big) (h : ws.all goodWord = true) : GoodIn big ws := fun w hw => ⟨hm w hw, good_of_word (List.all_eq_true.mp h w hw)⟩
def RX0 : String := "DustCart$Cart"
def TX0 : u_T := fun k => match k with
  | 0 => ("DustCart$Cart", "cell", "I", false)
  | 1 => ("DustCart$Cart", "store", "I", false)
  | 2 => ("DustCart$Cart", "dust", "I", false)
  | _ => ("DustCart$Cart", "looked", "J", false)
def tyX0 : Nat → FieldType := fun k => match k with
  | 0 => .int
  | 1 => .int
  | 2 => .int
  | _ => .long
abbrev wsX00 : List Cond := u_ws RX0 TX0 4
theorem nmX0 : ∀ a, a < 4 → ∀ b, b < 4 → a ≠ b → (TX0 a).2.1 ≠ (TX0 b).2.1 := by decide +kernel
theorem tyX0_ok : ∀ k, k < 4 → parseFieldDescriptor (TX0 k).2.2.1 = some (tyX0 k) := by decide +kernel
abbrev cX0_init : ByteArray := prog_2_method_1_code
def yX0_init : MethodName := ⟨RX0, "<init>", "()V"⟩
abbrev cX0_become : ByteArray := prog_2_method_2_code
def yX0_become : MethodName := ⟨RX0, "become", "(LDustCart$Cart;)V"⟩
abbrev cX0_place : ByteArray := prog_2_method_3_code
def yX0_place : MethodName := ⟨RX0, "place", "(III)V"⟩
abbrev cX0_hasLookedAt : ByteArray := prog_2_method_4_code
def yX0_hasLookedAt : MethodName := ⟨RX0, "hasLookedAt", "(I)Z"⟩
abbrev cX0_isOnNewStone : ByteArray := prog_2_method_5_code
def yX0_isOnNewStone : MethodName := ⟨RX0, "isOnNewStone", "(LDustCart$Plain;)Z"⟩
abbrev cX0_live : ByteArray := prog_2_method_6_code
def yX0_live : MethodName := ⟨RX0, "live", "(LDustCart$Plain;II)Z"⟩
abbrev cX0_liveUnder : ByteArray := prog_2_method_7_code
def yX0_liveUnder : MethodName := ⟨RX0, "liveUnder", "(LDustCart$Plain;IIII)Z"⟩
abbrev cX0_move : ByteArray := prog_2_method_8_code
def yX0_move : MethodName := ⟨RX0, "move", "(LDustCart$Plain;I)Z"⟩
abbrev cX0_lookAround : ByteArray := prog_2_method_9_code
def yX0_lookAround : MethodName := ⟨RX0, "lookAround", "(LDustCart$Plain;)Z"⟩
def RX1 : String := "DustCart$Changes"
def TX1 : u_T := fun k => match k with
  | 0 => ("DustCart$Changes", "places", "[I", true)
  | 1 => ("DustCart$Changes", "before", "[I", true)
  | 2 => ("DustCart$Changes", "behind", "[I", true)
  | 3 => ("DustCart$Changes", "done", "I", false)
  | _ => ("DustCart$Changes", "known", "I", false)
def tyX1 : Nat → FieldType := fun k => match k with
  | 0 => .array .int
  | 1 => .array .int
  | 2 => .array .int
  | 3 => .int
  | _ => .int
abbrev wsX10 : List Cond := u_ws RX1 TX1 5
theorem nmX1 : ∀ a, a < 5 → ∀ b, b < 5 → a ≠ b → (TX1 a).2.1 ≠ (TX1 b).2.1 := by decide +kernel
theorem tyX1_ok : ∀ k, k < 5 → parseFieldDescriptor (TX1 k).2.2.1 = some (tyX1 k) := by decide +kernel
abbrev cX1_init : ByteArray := prog_3_method_1_code
def yX1_init : MethodName := ⟨RX1, "<init>", "()V"⟩
abbrev cX1_note : ByteArray := prog_3_method_2_code
def yX1_note : MethodName := ⟨RX1, "note", "(III)V"⟩
abbrev cX1_dropOldest : ByteArray := prog_3_method_3_code
def yX1_dropOldest : MethodName := ⟨RX1, "dropOldest", "()V"⟩
abbrev cX1_takeBack : ByteArray := prog_3_method_4_code
def yX1_takeBack : MethodName := ⟨RX1, "takeBack", "(LDustCart$Plain;)Z"⟩
abbrev cX1_bringBack : ByteArray := prog_3_method_5_code
def yX1_bringBack : MethodName := ⟨RX1, "bringBack", "(LDustCart$Plain;)Z"⟩
def RX2 : String := "DustCart$Law"
def TX2 : u_T := fun k => match k with
  | 0 => ("DustCart$Law", "tape", "[I", true)
  | 1 => ("DustCart$Law", "draft", "[I", true)
  | 2 => ("DustCart$Law", "codes", "[I", true)
  | 3 => ("DustCart$Law", "stack", "[I", true)
  | 4 => ("DustCart$Law", "drafted", "I", false)
  | 5 => ("DustCart$Law", "coded", "I", false)
  | 6 => ("DustCart$Law", "high", "I", false)
  | 7 => ("DustCart$Law", "place", "I", false)
  | 8 => ("DustCart$Law", "fault", "I", false)
  | _ => ("DustCart$Law", "fed", "I", false)
def tyX2 : Nat → FieldType := fun k => match k with
  | 0 => .array .int
  | 1 => .array .int
  | 2 => .array .int
  | 3 => .array .int
  | 4 => .int
  | 5 => .int
  | 6 => .int
  | 7 => .int
  | 8 => .int
  | _ => .int
abbrev wsX20 : List Cond := u_ws RX2 TX2 10
theorem nmX2 : ∀ a, a < 10 → ∀ b, b < 10 → a ≠ b → (TX2 a).2.1 ≠ (TX2 b).2.1 := by decide +kernel
theorem tyX2_ok : ∀ k, k < 10 → parseFieldDescriptor (TX2 k).2.2.1 = some (tyX2 k) := by decide +kernel
abbrev cX2_init : ByteArray := prog_4_method_1_code
def yX2_init : MethodName := ⟨RX2, "<init>", "()V"⟩
abbrev cX2_take : ByteArray := prog_4_method_2_code
def yX2_take : MethodName := ⟨RX2, "take", "(I)Z"⟩
abbrev cX2_become : ByteArray := prog_4_method_3_code
def yX2_become : MethodName := ⟨RX2, "become", "()I"⟩
abbrev cX2_sign : ByteArray := prog_4_method_4_code
def yX2_sign : MethodName := ⟨RX2, "sign", "()I"⟩
abbrev cX2_pass : ByteArray := prog_4_method_5_code
def yX2_pass : MethodName := ⟨RX2, "pass", "(I)Z"⟩
abbrev cX2_refuse : ByteArray := prog_4_method_6_code
def yX2_refuse : MethodName := ⟨RX2, "refuse", "()V"⟩
abbrev cX2_write : ByteArray := prog_4_method_7_code
def yX2_write : MethodName := ⟨RX2, "write", "(I)V"⟩
abbrev cX2_readLines : ByteArray := prog_4_method_8_code
def yX2_readLines : MethodName := ⟨RX2, "readLines", "()V"⟩
abbrev cX2_readOr : ByteArray := prog_4_method_9_code
def yX2_readOr : MethodName := ⟨RX2, "readOr", "(I)V"⟩
abbrev cX2_readAnd : ByteArray := prog_4_method_10_code
def yX2_readAnd : MethodName := ⟨RX2, "readAnd", "(I)V"⟩
abbrev cX2_readCompared : ByteArray := prog_4_method_11_code
def yX2_readCompared : MethodName := ⟨RX2, "readCompared", "(I)V"⟩
abbrev cX2_readSum : ByteArray := prog_4_method_12_code
def yX2_readSum : MethodName := ⟨RX2, "readSum", "(I)V"⟩
abbrev cX2_readProduct : ByteArray := prog_4_method_13_code
def yX2_readProduct : MethodName := ⟨RX2, "readProduct", "(I)V"⟩
abbrev cX2_readOperand : ByteArray := prog_4_method_14_code
def yX2_readOperand : MethodName := ⟨RX2, "readOperand", "(I)V"⟩
abbrev cX2_readOpened : ByteArray := prog_4_method_15_code
def yX2_readOpened : MethodName := ⟨RX2, "readOpened", "(II)V"⟩
abbrev cX2_readNumber : ByteArray := prog_4_method_16_code
def yX2_readNumber : MethodName := ⟨RX2, "readNumber", "()V"⟩
abbrev cX2_isDigit : ByteArray := prog_4_method_17_code
def yX2_isDigit : MethodName := ⟨RX2, "isDigit", "(I)Z"⟩
abbrev cX2_isName : ByteArray := prog_4_method_18_code
def yX2_isName : MethodName := ⟨RX2, "isName", "(I)Z"⟩
abbrev cX2_orderFor : ByteArray := prog_4_method_19_code
def yX2_orderFor : MethodName := ⟨RX2, "orderFor", "(LDustCart$Plain;LDustCart$Cart;I)I"⟩
abbrev cX2_workOut : ByteArray := prog_4_method_20_code
def yX2_workOut : MethodName := ⟨RX2, "workOut", "(LDustCart$Plain;LDustCart$Cart;I)I"⟩
abbrev cX2_step : ByteArray := prog_4_method_21_code
def yX2_step : MethodName := ⟨RX2, "step", "(ILDustCart$Plain;LDustCart$Cart;I)V"⟩
abbrev cX2_named : ByteArray := prog_4_method_22_code
def yX2_named : MethodName := ⟨RX2, "named", "(ILDustCart$Plain;LDustCart$Cart;I)I"⟩
abbrev cX2_joined : ByteArray := prog_4_method_23_code
def yX2_joined : MethodName := ⟨RX2, "joined", "(III)I"⟩
abbrev cX2_push : ByteArray := prog_4_method_24_code
def yX2_push : MethodName := ⟨RX2, "push", "(I)V"⟩
abbrev cX2_pop : ByteArray := prog_4_method_25_code
def yX2_pop : MethodName := ⟨RX2, "pop", "()I"⟩
def RX3 : String := "DustCart$Plain"
def TX3 : u_T := fun k => match k with
  | _ => ("DustCart$Plain", "numbers", "[I", true)
def tyX3 : Nat → FieldType := fun k => match k with
  | _ => .array .int
abbrev wsX30 : List Cond := u_ws RX3 TX3 1
theorem nmX3 : ∀ a, a < 1 → ∀ b, b < 1 → a ≠ b → (TX3 a).2.1 ≠ (TX3 b).2.1 := by decide +kernel
theorem tyX3_ok : ∀ k, k < 1 → parseFieldDescriptor (TX3 k).2.2.1 = some (tyX3 k) := by decide +kernel
abbrev cX3_init : ByteArray := prog_5_method_1_code
def yX3_init : MethodName := ⟨RX3, "<init>", "()V"⟩
abbrev cX3_isCell : ByteArray := prog_5_method_2_code
def yX3_isCell : MethodName := ⟨RX3, "isCell", "(I)Z"⟩
abbrev cX3_place : ByteArray := prog_5_method_3_code
def yX3_place : MethodName := ⟨RX3, "place", "(II)I"⟩
abbrev cX3_mayBe : ByteArray := prog_5_method_4_code
def yX3_mayBe : MethodName := ⟨RX3, "mayBe", "(II)Z"⟩
abbrev cX3_neighbour : ByteArray := prog_5_method_5_code
def yX3_neighbour : MethodName := ⟨RX3, "neighbour", "(II)I"⟩
abbrev cX3_told : ByteArray := prog_5_method_6_code
def yX3_told : MethodName := ⟨RX3, "told", "(I)I"⟩
abbrev cX3_tell : ByteArray := prog_5_method_7_code
def yX3_tell : MethodName := ⟨RX3, "tell", "(II)V"⟩
abbrev cX3_high : ByteArray := prog_5_method_8_code
def yX3_high : MethodName := ⟨RX3, "high", "(I)I"⟩
abbrev cX3_isStone : ByteArray := prog_5_method_9_code
def yX3_isStone : MethodName := ⟨RX3, "isStone", "(I)Z"⟩
abbrev cX3_sun : ByteArray := prog_5_method_10_code
def yX3_sun : MethodName := ⟨RX3, "sun", "(I)I"⟩
abbrev cX3_wind : ByteArray := prog_5_method_11_code
def yX3_wind : MethodName := ⟨RX3, "wind", "(I)I"⟩
abbrev cX3_odds : ByteArray := prog_5_method_12_code
def yX3_odds : MethodName := ⟨RX3, "odds", "()I"⟩
abbrev cX3_price : ByteArray := prog_5_method_13_code
def yX3_price : MethodName := ⟨RX3, "price", "(II)I"⟩
abbrev cX3_isHollow : ByteArray := prog_5_method_14_code
def yX3_isHollow : MethodName := ⟨RX3, "isHollow", "(I)Z"⟩
abbrev cX3_stones : ByteArray := prog_5_method_15_code
def yX3_stones : MethodName := ⟨RX3, "stones", "()I"⟩
abbrev cX3_hollows : ByteArray := prog_5_method_16_code
def yX3_hollows : MethodName := ⟨RX3, "hollows", "()I"⟩
def RX4 : String := "DustCart$Reach"
def TX4 : u_T := fun k => match k with
  | 0 => ("DustCart$Reach", "now", "[I", true)
  | 1 => ("DustCart$Reach", "next", "[I", true)
  | 2 => ("DustCart$Reach", "trial", "LDustCart$Cart;", true)
  | 3 => ("DustCart$Reach", "taken", "I", false)
  | _ => ("DustCart$Reach", "most", "I", false)
def tyX4 : Nat → FieldType := fun k => match k with
  | 0 => .array .int
  | 1 => .array .int
  | 2 => .object "DustCart$Cart"
  | 3 => .int
  | _ => .int
abbrev wsX40 : List Cond := u_ws RX4 TX4 5
theorem nmX4 : ∀ a, a < 5 → ∀ b, b < 5 → a ≠ b → (TX4 a).2.1 ≠ (TX4 b).2.1 := by decide +kernel
theorem tyX4_ok : ∀ k, k < 5 → parseFieldDescriptor (TX4 k).2.2.1 = some (tyX4 k) := by decide +kernel
abbrev cX4_init : ByteArray := prog_6_method_1_code
def yX4_init : MethodName := ⟨RX4, "<init>", "()V"⟩
abbrev cX4_find : ByteArray := prog_6_method_2_code
def yX4_find : MethodName := ⟨RX4, "find", "(LDustCart$Plain;LDustCart$Cart;II)Z"⟩
abbrev cX4_arrive : ByteArray := prog_6_method_3_code
def yX4_arrive : MethodName := ⟨RX4, "arrive", "([ILDustCart$Cart;)V"⟩
abbrev cX4_mostIn : ByteArray := prog_6_method_4_code
def yX4_mostIn : MethodName := ⟨RX4, "mostIn", "(I)I"⟩
abbrev cX4_goOn : ByteArray := prog_6_method_5_code
def yX4_goOn : MethodName := ⟨RX4, "goOn", "(LDustCart$Plain;I)V"⟩
def RX5 : String := "DustCart$Shelf"
def TX5 : u_T := fun k => match k with
  | 0 => ("DustCart$Shelf", "elements", "[J", true)
  | 1 => ("DustCart$Shelf", "holds", "I", false)
  | 2 => ("DustCart$Shelf", "body", "I", false)
  | 3 => ("DustCart$Shelf", "sort", "I", false)
  | _ => ("DustCart$Shelf", "length", "I", false)
def tyX5 : Nat → FieldType := fun k => match k with
  | 0 => .array .long
  | 1 => .int
  | 2 => .int
  | 3 => .int
  | _ => .int
abbrev wsX50 : List Cond := u_ws RX5 TX5 5
theorem nmX5 : ∀ a, a < 5 → ∀ b, b < 5 → a ≠ b → (TX5 a).2.1 ≠ (TX5 b).2.1 := by decide +kernel
theorem tyX5_ok : ∀ k, k < 5 → parseFieldDescriptor (TX5 k).2.2.1 = some (tyX5 k) := by decide +kernel
abbrev cX5_init : ByteArray := prog_7_method_1_code
def yX5_init : MethodName := ⟨RX5, "<init>", "()V"⟩
abbrev cX5_isEmpty : ByteArray := prog_7_method_2_code
def yX5_isEmpty : MethodName := ⟨RX5, "isEmpty", "()Z"⟩
abbrev cX5_isRow : ByteArray := prog_7_method_3_code
def yX5_isRow : MethodName := ⟨RX5, "isRow", "()Z"⟩
abbrev cX5_isBytes : ByteArray := prog_7_method_4_code
def yX5_isBytes : MethodName := ⟨RX5, "isBytes", "()Z"⟩
abbrev cX5_holdNothing : ByteArray := prog_7_method_5_code
def yX5_holdNothing : MethodName := ⟨RX5, "holdNothing", "()V"⟩
abbrev cX5_holdBody : ByteArray := prog_7_method_6_code
def yX5_holdBody : MethodName := ⟨RX5, "holdBody", "(I)V"⟩
abbrev cX5_holdRow : ByteArray := prog_7_method_7_code
def yX5_holdRow : MethodName := ⟨RX5, "holdRow", "(II)V"⟩
abbrev cX5_hasPlaces : ByteArray := prog_7_method_8_code
def yX5_hasPlaces : MethodName := ⟨RX5, "hasPlaces", "(II)Z"⟩
abbrev cX5_at : ByteArray := prog_7_method_9_code
def yX5_at : MethodName := ⟨RX5, "at", "(I)J"⟩
abbrev cX5_set : ByteArray := prog_7_method_10_code
def yX5_set : MethodName := ⟨RX5, "set", "(IJ)V"⟩
abbrev cX5_narrowed : ByteArray := prog_7_method_11_code
def yX5_narrowed : MethodName := ⟨RX5, "narrowed", "(J)J"⟩
def RX6 : String := "DustCart$Ways"
def TX6 : u_T := fun k => match k with
  | 0 => ("DustCart$Ways", "left", "[I", true)
  | 1 => ("DustCart$Ways", "stones", "[I", true)
  | 2 => ("DustCart$Ways", "toStone", "[I", true)
  | 3 => ("DustCart$Ways", "between", "[I", true)
  | 4 => ("DustCart$Ways", "rest", "[I", true)
  | 5 => ("DustCart$Ways", "many", "I", false)
  | 6 => ("DustCart$Ways", "roundCost", "I", false)
  | _ => ("DustCart$Ways", "roundFirst", "I", false)
def tyX6 : Nat → FieldType := fun k => match k with
  | 0 => .array .int
  | 1 => .array .int
  | 2 => .array .int
  | 3 => .array .int
  | 4 => .array .int
  | 5 => .int
  | 6 => .int
  | _ => .int
abbrev wsX60 : List Cond := u_ws RX6 TX6 8
theorem nmX6 : ∀ a, a < 8 → ∀ b, b < 8 → a ≠ b → (TX6 a).2.1 ≠ (TX6 b).2.1 := by decide +kernel
theorem tyX6_ok : ∀ k, k < 8 → parseFieldDescriptor (TX6 k).2.2.1 = some (tyX6 k) := by decide +kernel
abbrev cX6_init : ByteArray := prog_8_method_1_code
def yX6_init : MethodName := ⟨RX6, "<init>", "()V"⟩
abbrev cX6_spreadTo : ByteArray := prog_8_method_2_code
def yX6_spreadTo : MethodName := ⟨RX6, "spreadTo", "(LDustCart$Plain;I)V"⟩
abbrev cX6_nearest : ByteArray := prog_8_method_3_code
def yX6_nearest : MethodName := ⟨RX6, "nearest", "(J)I"⟩
abbrev cX6_spreadFrom : ByteArray := prog_8_method_4_code
def yX6_spreadFrom : MethodName := ⟨RX6, "spreadFrom", "(LDustCart$Plain;I)V"⟩
abbrev cX6_costFrom : ByteArray := prog_8_method_5_code
def yX6_costFrom : MethodName := ⟨RX6, "costFrom", "(I)I"⟩
abbrev cX6_firstFrom : ByteArray := prog_8_method_6_code
def yX6_firstFrom : MethodName := ⟨RX6, "firstFrom", "(LDustCart$Plain;I)I"⟩
abbrev cX6_planRound : ByteArray := prog_8_method_7_code
def yX6_planRound : MethodName := ⟨RX6, "planRound", "(LDustCart$Plain;LDustCart$Cart;)Z"⟩
abbrev cX6_listStones : ByteArray := prog_8_method_8_code
def yX6_listStones : MethodName := ⟨RX6, "listStones", "(LDustCart$Plain;LDustCart$Cart;)Z"⟩
abbrev cX6_leastRest : ByteArray := prog_8_method_9_code
def yX6_leastRest : MethodName := ⟨RX6, "leastRest", "(II)I"⟩
abbrev cX6_chooseFirst : ByteArray := prog_8_method_10_code
def yX6_chooseFirst : MethodName := ⟨RX6, "chooseFirst", "(I)V"⟩
def RX7 : String := "DustCart$Wheels"
def TX7 : u_T := fun k => match k with
  | 0 => ("DustCart$Wheels", "kinds", "[I", true)
  | 1 => ("DustCart$Wheels", "ran", "[I", true)
  | 2 => ("DustCart$Wheels", "number", "I", false)
  | 3 => ("DustCart$Wheels", "kept", "I", false)
  | _ => ("DustCart$Wheels", "begun", "I", false)
def tyX7 : Nat → FieldType := fun k => match k with
  | 0 => .array .int
  | 1 => .array .int
  | 2 => .int
  | 3 => .int
  | _ => .int
abbrev wsX70 : List Cond := u_ws RX7 TX7 5
theorem nmX7 : ∀ a, a < 5 → ∀ b, b < 5 → a ≠ b → (TX7 a).2.1 ≠ (TX7 b).2.1 := by decide +kernel
theorem tyX7_ok : ∀ k, k < 5 → parseFieldDescriptor (TX7 k).2.2.1 = some (tyX7 k) := by decide +kernel
abbrev cX7_init : ByteArray := prog_9_method_1_code
def yX7_init : MethodName := ⟨RX7, "<init>", "()V"⟩
abbrev cX7_isKind : ByteArray := prog_9_method_2_code
def yX7_isKind : MethodName := ⟨RX7, "isKind", "(I)Z"⟩
abbrev cX7_isUnder : ByteArray := prog_9_method_3_code
def yX7_isUnder : MethodName := ⟨RX7, "isUnder", "(II)Z"⟩
abbrev cX7_has : ByteArray := prog_9_method_4_code
def yX7_has : MethodName := ⟨RX7, "has", "(I)Z"⟩
abbrev cX7_kindOf : ByteArray := prog_9_method_5_code
def yX7_kindOf : MethodName := ⟨RX7, "kindOf", "(I)I"⟩
abbrev cX7_add : ByteArray := prog_9_method_6_code
def yX7_add : MethodName := ⟨RX7, "add", "(I)I"⟩
abbrev cX7_ranAt : ByteArray := prog_9_method_7_code
def yX7_ranAt : MethodName := ⟨RX7, "ranAt", "(I)I"⟩
abbrev cX7_perform : ByteArray := prog_9_method_8_code
def yX7_perform : MethodName := ⟨RX7, "perform", "(III)I"⟩
abbrev cX7_begin : ByteArray := prog_9_method_9_code
def yX7_begin : MethodName := ⟨RX7, "begin", "(IIII)I"⟩
abbrev cX7_own : ByteArray := prog_9_method_10_code
def yX7_own : MethodName := ⟨RX7, "own", "(III)I"⟩
abbrev cX7_answerOfWheel : ByteArray := prog_9_method_11_code
def yX7_answerOfWheel : MethodName := ⟨RX7, "answerOfWheel", "(III)I"⟩
abbrev cX7_answerUnder : ByteArray := prog_9_method_12_code
def yX7_answerUnder : MethodName := ⟨RX7, "answerUnder", "(IIIII)I"⟩
def RX8 : String := "DustCart"
def TX8 : u_T := fun k => match k with
  | 0 => ("DustCart", "plain", "LDustCart$Plain;", true)
  | 1 => ("DustCart", "cart", "LDustCart$Cart;", true)
  | 2 => ("DustCart", "thought", "LDustCart$Cart;", true)
  | 3 => ("DustCart", "kept", "LDustCart$Cart;", true)
  | 4 => ("DustCart", "orders", "[I", true)
  | 5 => ("DustCart", "could", "[Z", true)
  | 6 => ("DustCart", "rule", "LDustCart$Law;", true)
  | 7 => ("DustCart", "ways", "LDustCart$Ways;", true)
  | 8 => ("DustCart", "reach", "LDustCart$Reach;", true)
  | 9 => ("DustCart", "changes", "LDustCart$Changes;", true)
  | 10 => ("DustCart", "shelves", "[LDustCart$Shelf;", true)
  | 11 => ("DustCart", "wheels", "LDustCart$Wheels;", true)
  | 12 => ("DustCart", "today", "I", false)
  | _ => ("DustCart", "keptDay", "I", false)
def tyX8 : Nat → FieldType := fun k => match k with
  | 0 => .object "DustCart$Plain"
  | 1 => .object "DustCart$Cart"
  | 2 => .object "DustCart$Cart"
  | 3 => .object "DustCart$Cart"
  | 4 => .array .int
  | 5 => .array .boolean
  | 6 => .object "DustCart$Law"
  | 7 => .object "DustCart$Ways"
  | 8 => .object "DustCart$Reach"
  | 9 => .object "DustCart$Changes"
  | 10 => .array (.object "DustCart$Shelf")
  | 11 => .object "DustCart$Wheels"
  | 12 => .int
  | _ => .int
abbrev wsX80 : List Cond := u_ws RX8 TX8 14
theorem nmX8 : ∀ a, a < 14 → ∀ b, b < 14 → a ≠ b → (TX8 a).2.1 ≠ (TX8 b).2.1 := by decide +kernel
theorem tyX8_ok : ∀ k, k < 14 → parseFieldDescriptor (TX8 k).2.2.1 = some (tyX8 k) := by decide +kernel
abbrev cX8_init : ByteArray := prog_1_method_1_code
def yX8_init : MethodName := ⟨RX8, "<init>", "()V"⟩
abbrev cX8_mend : ByteArray := prog_1_method_2_code
def yX8_mend : MethodName := ⟨RX8, "mend", "(III)I"⟩
abbrev cX8_of : ByteArray := prog_1_method_3_code
def yX8_of : MethodName := ⟨RX8, "of", "(II)I"⟩
abbrev cX8_ofCell : ByteArray := prog_1_method_4_code
def yX8_ofCell : MethodName := ⟨RX8, "ofCell", "(II)I"⟩
abbrev cX8_ofCart : ByteArray := prog_1_method_5_code
def yX8_ofCart : MethodName := ⟨RX8, "ofCart", "(I)I"⟩
abbrev cX8_heights : ByteArray := prog_1_method_6_code
def yX8_heights : MethodName := ⟨RX8, "heights", "(III)I"⟩
abbrev cX8_heightsFrom : ByteArray := prog_1_method_7_code
def yX8_heightsFrom : MethodName := ⟨RX8, "heightsFrom", "(LDustCart$Shelf;III)I"⟩
abbrev cX8_feed : ByteArray := prog_1_method_8_code
def yX8_feed : MethodName := ⟨RX8, "feed", "(I)I"⟩
abbrev cX8_law : ByteArray := prog_1_method_9_code
def yX8_law : MethodName := ⟨RX8, "law", "()I"⟩
abbrev cX8_cost : ByteArray := prog_1_method_10_code
def yX8_cost : MethodName := ⟨RX8, "cost", "(II)I"⟩
abbrev cX8_order : ByteArray := prog_1_method_11_code
def yX8_order : MethodName := ⟨RX8, "order", "()I"⟩
abbrev cX8_day : ByteArray := prog_1_method_12_code
def yX8_day : MethodName := ⟨RX8, "day", "(I)I"⟩
abbrev cX8_days : ByteArray := prog_1_method_13_code
def yX8_days : MethodName := ⟨RX8, "days", "(I)I"⟩
abbrev cX8_live : ByteArray := prog_1_method_14_code
def yX8_live : MethodName := ⟨RX8, "live", "(I)Z"⟩
abbrev cX8_led : ByteArray := prog_1_method_15_code
def yX8_led : MethodName := ⟨RX8, "led", "(II)I"⟩
abbrev cX8_run : ByteArray := prog_1_method_16_code
def yX8_run : MethodName := ⟨RX8, "run", "(III)I"⟩
abbrev cX8_first : ByteArray := prog_1_method_17_code
def yX8_first : MethodName := ⟨RX8, "first", "(I)I"⟩
abbrev cX8_orderOn : ByteArray := prog_1_method_18_code
def yX8_orderOn : MethodName := ⟨RX8, "orderOn", "(LDustCart$Shelf;I)I"⟩
abbrev cX8_thoughtOf : ByteArray := prog_1_method_19_code
def yX8_thoughtOf : MethodName := ⟨RX8, "thoughtOf", "(I)I"⟩
abbrev cX8_lawful : ByteArray := prog_1_method_20_code
def yX8_lawful : MethodName := ⟨RX8, "lawful", "(II)I"⟩
abbrev cX8_cheapest : ByteArray := prog_1_method_21_code
def yX8_cheapest : MethodName := ⟨RX8, "cheapest", "(II)I"⟩
abbrev cX8_soonest : ByteArray := prog_1_method_22_code
def yX8_soonest : MethodName := ⟨RX8, "soonest", "(II)I"⟩
abbrev cX8_round : ByteArray := prog_1_method_23_code
def yX8_round : MethodName := ⟨RX8, "round", "(I)I"⟩
abbrev cX8_lasts : ByteArray := prog_1_method_24_code
def yX8_lasts : MethodName := ⟨RX8, "lasts", "(I)I"⟩
abbrev cX8_clean : ByteArray := prog_1_method_25_code
def yX8_clean : MethodName := ⟨RX8, "clean", "(III)J"⟩
abbrev cX8_power : ByteArray := prog_1_method_26_code
def yX8_power : MethodName := ⟨RX8, "power", "(JI)J"⟩
abbrev cX8_greatestCommon : ByteArray := prog_1_method_27_code
def yX8_greatestCommon : MethodName := ⟨RX8, "greatestCommon", "(JJ)J"⟩
abbrev cX8_line : ByteArray := prog_1_method_28_code
def yX8_line : MethodName := ⟨RX8, "line", "(II)J"⟩
abbrev cX8_endOfLine : ByteArray := prog_1_method_29_code
def yX8_endOfLine : MethodName := ⟨RX8, "endOfLine", "(LDustCart$Shelf;I)I"⟩
abbrev cX8_drawn : ByteArray := prog_1_method_30_code
def yX8_drawn : MethodName := ⟨RX8, "drawn", "(III)I"⟩
abbrev cX8_judge : ByteArray := prog_1_method_31_code
def yX8_judge : MethodName := ⟨RX8, "judge", "(I)I"⟩
abbrev cX8_image : ByteArray := prog_1_method_32_code
def yX8_image : MethodName := ⟨RX8, "image", "()I"⟩
abbrev cX8_back : ByteArray := prog_1_method_33_code
def yX8_back : MethodName := ⟨RX8, "back", "()I"⟩
abbrev cX8_undo : ByteArray := prog_1_method_34_code
def yX8_undo : MethodName := ⟨RX8, "undo", "()I"⟩
abbrev cX8_redo : ByteArray := prog_1_method_35_code
def yX8_redo : MethodName := ⟨RX8, "redo", "()I"⟩
abbrev cX8_body : ByteArray := prog_1_method_36_code
def yX8_body : MethodName := ⟨RX8, "body", "(I)I"⟩
abbrev cX8_act : ByteArray := prog_1_method_37_code
def yX8_act : MethodName := ⟨RX8, "act", "(III)I"⟩
abbrev cX8_trace : ByteArray := prog_1_method_38_code
def yX8_trace : MethodName := ⟨RX8, "trace", "(I)I"⟩
abbrev cX8_keep : ByteArray := prog_1_method_39_code
def yX8_keep : MethodName := ⟨RX8, "keep", "(II)I"⟩
abbrev cX8_row : ByteArray := prog_1_method_40_code
def yX8_row : MethodName := ⟨RX8, "row", "(III)I"⟩
abbrev cX8_put : ByteArray := prog_1_method_41_code
def yX8_put : MethodName := ⟨RX8, "put", "(IIJ)I"⟩
abbrev cX8_element : ByteArray := prog_1_method_42_code
def yX8_element : MethodName := ⟨RX8, "element", "(II)J"⟩
abbrev cX8_refusedPlace : ByteArray := prog_1_method_43_code
def yX8_refusedPlace : MethodName := ⟨RX8, "refusedPlace", "(LDustCart$Shelf;I)I"⟩
abbrev cX8_shift : ByteArray := prog_1_method_44_code
def yX8_shift : MethodName := ⟨RX8, "shift", "(IIIII)I"⟩
abbrev cX8_taken : ByteArray := prog_1_method_45_code
def yX8_taken : MethodName := ⟨RX8, "taken", "(II)I"⟩
abbrev cX8_count : ByteArray := prog_1_method_46_code
def yX8_count : MethodName := ⟨RX8, "count", "(I)I"⟩
abbrev cX8_isShelf : ByteArray := prog_1_method_47_code
def yX8_isShelf : MethodName := ⟨RX8, "isShelf", "(I)Z"⟩
abbrev cX8_isOneOf : ByteArray := prog_1_method_48_code
def yX8_isOneOf : MethodName := ⟨RX8, "isOneOf", "(II)Z"⟩
abbrev cX8_refusedBytes : ByteArray := prog_1_method_49_code
def yX8_refusedBytes : MethodName := ⟨RX8, "refusedBytes", "(I)I"⟩
def RX9 : String := "DustCartModel"
def TX9 : u_T := fun k => match k with
  | 0 => ("DustCartModel", "code", "I", false)
  | 1 => ("DustCartModel", "high", "[I", true)
  | 2 => ("DustCartModel", "stone", "[I", true)
  | 3 => ("DustCartModel", "sun", "[I", true)
  | 4 => ("DustCartModel", "wind", "[I", true)
  | 5 => ("DustCartModel", "wheels", "I", false)
  | 6 => ("DustCartModel", "odds", "I", false)
  | 7 => ("DustCartModel", "today", "I", false)
  | 8 => ("DustCartModel", "cell", "I", false)
  | 9 => ("DustCartModel", "store", "I", false)
  | 10 => ("DustCartModel", "dust", "I", false)
  | 11 => ("DustCartModel", "looked", "J", false)
  | 12 => ("DustCartModel", "ledOrder", "[I", true)
  | 13 => ("DustCartModel", "ledCould", "[I", true)
  | 14 => ("DustCartModel", "doneMany", "I", false)
  | 15 => ("DustCartModel", "undoneMany", "I", false)
  | 16 => ("DustCartModel", "changeOf", "[I", true)
  | 17 => ("DustCartModel", "changeAt", "[I", true)
  | 18 => ("DustCartModel", "before", "[I", true)
  | 19 => ("DustCartModel", "behind", "[I", true)
  | 20 => ("DustCartModel", "tape", "[B", true)
  | 21 => ("DustCartModel", "taped", "I", false)
  | 22 => ("DustCartModel", "here", "I", false)
  | 23 => ("DustCartModel", "fault", "I", false)
  | 24 => ("DustCartModel", "open", "I", false)
  | 25 => ("DustCartModel", "laid", "I", false)
  | 26 => ("DustCartModel", "act", "[B", true)
  | 27 => ("DustCartModel", "with", "[I", true)
  | 28 => ("DustCartModel", "lineMany", "[I", true)
  | 29 => ("DustCartModel", "testEnd", "[S", true)
  | 30 => ("DustCartModel", "lineEnd", "[S", true)
  | 31 => ("DustCartModel", "facts", "[I", true)
  | 32 => ("DustCartModel", "pile", "[I", true)
  | 33 => ("DustCartModel", "hasLaw", "Z", false)
  | 34 => ("DustCartModel", "keptCell", "I", false)
  | 35 => ("DustCartModel", "keptStore", "I", false)
  | 36 => ("DustCartModel", "keptDust", "I", false)
  | 37 => ("DustCartModel", "keptLooked", "J", false)
  | 38 => ("DustCartModel", "far", "[I", true)
  | 39 => ("DustCartModel", "now", "[I", true)
  | 40 => ("DustCartModel", "later", "[I", true)
  | 41 => ("DustCartModel", "left", "[I", true)
  | 42 => ("DustCartModel", "between", "[I", true)
  | 43 => ("DustCartModel", "north", "[I", true)
  | 44 => ("DustCartModel", "leastRound", "I", false)
  | 45 => ("DustCartModel", "firstStone", "I", false)
  | 46 => ("DustCartModel", "hasImage", "Z", false)
  | 47 => ("DustCartModel", "imageToday", "I", false)
  | 48 => ("DustCartModel", "imageCell", "I", false)
  | 49 => ("DustCartModel", "imageStore", "I", false)
  | 50 => ("DustCartModel", "imageDust", "I", false)
  | 51 => ("DustCartModel", "imageLooked", "J", false)
  | 52 => ("DustCartModel", "bodies", "I", false)
  | 53 => ("DustCartModel", "kind", "[I", true)
  | 54 => ("DustCartModel", "traces", "I", false)
  | 55 => ("DustCartModel", "traced", "[I", true)
  | 56 => ("DustCartModel", "holds", "[I", true)
  | 57 => ("DustCartModel", "size", "[I", true)
  | 58 => ("DustCartModel", "elements", "[J", true)
  | _ => ("DustCartModel", "shifted", "[J", true)
def tyX9 : Nat → FieldType := fun k => match k with
  | 0 => .int
  | 1 => .array .int
  | 2 => .array .int
  | 3 => .array .int
  | 4 => .array .int
  | 5 => .int
  | 6 => .int
  | 7 => .int
  | 8 => .int
  | 9 => .int
  | 10 => .int
  | 11 => .long
  | 12 => .array .int
  | 13 => .array .int
  | 14 => .int
  | 15 => .int
  | 16 => .array .int
  | 17 => .array .int
  | 18 => .array .int
  | 19 => .array .int
  | 20 => .array .byte
  | 21 => .int
  | 22 => .int
  | 23 => .int
  | 24 => .int
  | 25 => .int
  | 26 => .array .byte
  | 27 => .array .int
  | 28 => .array .int
  | 29 => .array .short
  | 30 => .array .short
  | 31 => .array .int
  | 32 => .array .int
  | 33 => .boolean
  | 34 => .int
  | 35 => .int
  | 36 => .int
  | 37 => .long
  | 38 => .array .int
  | 39 => .array .int
  | 40 => .array .int
  | 41 => .array .int
  | 42 => .array .int
  | 43 => .array .int
  | 44 => .int
  | 45 => .int
  | 46 => .boolean
  | 47 => .int
  | 48 => .int
  | 49 => .int
  | 50 => .int
  | 51 => .long
  | 52 => .int
  | 53 => .array .int
  | 54 => .int
  | 55 => .array .int
  | 56 => .array .int
  | 57 => .array .int
  | 58 => .array .long
  | _ => .array .long
abbrev wsX90 : List Cond := u_ws RX9 TX9 60
theorem nmX9 : ∀ a, a < 60 → ∀ b, b < 60 → a ≠ b → (TX9 a).2.1 ≠ (TX9 b).2.1 := by decide +kernel
theorem tyX9_ok : ∀ k, k < 60 → parseFieldDescriptor (TX9 k).2.2.1 = some (tyX9 k) := by decide +kernel
abbrev cX9_init : ByteArray := prog_11_method_1_code
def yX9_init : MethodName := ⟨RX9, "<init>", "()V"⟩
abbrev cX9_in : ByteArray := prog_11_method_3_code
def yX9_in : MethodName := ⟨RX9, "in", "(III)Z"⟩
abbrev cX9_isCell : ByteArray := prog_11_method_4_code
def yX9_isCell : MethodName := ⟨RX9, "isCell", "(I)Z"⟩
abbrev cX9_isDay : ByteArray := prog_11_method_5_code
def yX9_isDay : MethodName := ⟨RX9, "isDay", "(I)Z"⟩
abbrev cX9_beside : ByteArray := prog_11_method_6_code
def yX9_beside : MethodName := ⟨RX9, "beside", "(II)I"⟩
abbrev cX9_isHollow : ByteArray := prog_11_method_7_code
def yX9_isHollow : MethodName := ⟨RX9, "isHollow", "(I)Z"⟩
abbrev cX9_costOf : ByteArray := prog_11_method_8_code
def yX9_costOf : MethodName := ⟨RX9, "costOf", "(II)I"⟩
abbrev cX9_isLooked : ByteArray := prog_11_method_9_code
def yX9_isLooked : MethodName := ⟨RX9, "isLooked", "(I)Z"⟩
abbrev cX9_bitsIn : ByteArray := prog_11_method_10_code
def yX9_bitsIn : MethodName := ⟨RX9, "bitsIn", "(J)I"⟩
abbrev cX9_valueAt : ByteArray := prog_11_method_11_code
def yX9_valueAt : MethodName := ⟨RX9, "valueAt", "(II)I"⟩
abbrev cX9_lays : ByteArray := prog_11_method_12_code
def yX9_lays : MethodName := ⟨RX9, "lays", "(III)V"⟩
abbrev cX9_changes : ByteArray := prog_11_method_13_code
def yX9_changes : MethodName := ⟨RX9, "changes", "(III)I"⟩
abbrev cX9_undo : ByteArray := prog_11_method_14_code
def yX9_undo : MethodName := ⟨RX9, "undo", "()I"⟩
abbrev cX9_redo : ByteArray := prog_11_method_15_code
def yX9_redo : MethodName := ⟨RX9, "redo", "()I"⟩
abbrev cX9_isThing : ByteArray := prog_11_method_16_code
def yX9_isThing : MethodName := ⟨RX9, "isThing", "(II)Z"⟩
abbrev cX9_mostOf : ByteArray := prog_11_method_17_code
def yX9_mostOf : MethodName := ⟨RX9, "mostOf", "(I)I"⟩
abbrev cX9_mend : ByteArray := prog_11_method_18_code
def yX9_mend : MethodName := ⟨RX9, "mend", "(III)I"⟩
abbrev cX9_of : ByteArray := prog_11_method_19_code
def yX9_of : MethodName := ⟨RX9, "of", "(II)I"⟩
abbrev cX9_heights : ByteArray := prog_11_method_20_code
def yX9_heights : MethodName := ⟨RX9, "heights", "(III)I"⟩
abbrev cX9_feed : ByteArray := prog_11_method_21_code
def yX9_feed : MethodName := ⟨RX9, "feed", "(I)I"⟩
abbrev cX9_look : ByteArray := prog_11_method_22_code
def yX9_look : MethodName := ⟨RX9, "look", "()I"⟩
abbrev cX9_faulty : ByteArray := prog_11_method_23_code
def yX9_faulty : MethodName := ⟨RX9, "faulty", "()V"⟩
abbrev cX9_addStep : ByteArray := prog_11_method_24_code
def yX9_addStep : MethodName := ⟨RX9, "addStep", "(II)V"⟩
abbrev cX9_nameOf : ByteArray := prog_11_method_25_code
def yX9_nameOf : MethodName := ⟨RX9, "nameOf", "(I)I"⟩
abbrev cX9_opens : ByteArray := prog_11_method_26_code
def yX9_opens : MethodName := ⟨RX9, "opens", "()Z"⟩
abbrev cX9_figure : ByteArray := prog_11_method_27_code
def yX9_figure : MethodName := ⟨RX9, "figure", "()V"⟩
abbrev cX9_operand : ByteArray := prog_11_method_28_code
def yX9_operand : MethodName := ⟨RX9, "operand", "()V"⟩
abbrev cX9_product : ByteArray := prog_11_method_29_code
def yX9_product : MethodName := ⟨RX9, "product", "()V"⟩
abbrev cX9_sum : ByteArray := prog_11_method_30_code
def yX9_sum : MethodName := ⟨RX9, "sum", "()V"⟩
abbrev cX9_compared : ByteArray := prog_11_method_31_code
def yX9_compared : MethodName := ⟨RX9, "compared", "()V"⟩
abbrev cX9_both : ByteArray := prog_11_method_32_code
def yX9_both : MethodName := ⟨RX9, "both", "()V"⟩
abbrev cX9_either : ByteArray := prog_11_method_33_code
def yX9_either : MethodName := ⟨RX9, "either", "()V"⟩
abbrev cX9_oneLine : ByteArray := prog_11_method_34_code
def yX9_oneLine : MethodName := ⟨RX9, "oneLine", "()V"⟩
abbrev cX9_readText : ByteArray := prog_11_method_35_code
def yX9_readText : MethodName := ⟨RX9, "readText", "(I)I"⟩
abbrev cX9_twoOf : ByteArray := prog_11_method_36_code
def yX9_twoOf : MethodName := ⟨RX9, "twoOf", "(III)I"⟩
abbrev cX9_worked : ByteArray := prog_11_method_37_code
def yX9_worked : MethodName := ⟨RX9, "worked", "(III)I"⟩
abbrev cX9_gives : ByteArray := prog_11_method_38_code
def yX9_gives : MethodName := ⟨RX9, "gives", "(I)I"⟩
abbrev cX9_law : ByteArray := prog_11_method_39_code
def yX9_law : MethodName := ⟨RX9, "law", "()I"⟩
abbrev cX9_orderOf : ByteArray := prog_11_method_40_code
def yX9_orderOf : MethodName := ⟨RX9, "orderOf", "(I)I"⟩
abbrev cX9_cost : ByteArray := prog_11_method_41_code
def yX9_cost : MethodName := ⟨RX9, "cost", "(II)I"⟩
abbrev cX9_order : ByteArray := prog_11_method_42_code
def yX9_order : MethodName := ⟨RX9, "order", "()I"⟩
abbrev cX9_think : ByteArray := prog_11_method_43_code
def yX9_think : MethodName := ⟨RX9, "think", "()V"⟩
abbrev cX9_unthink : ByteArray := prog_11_method_44_code
def yX9_unthink : MethodName := ⟨RX9, "unthink", "()V"⟩
abbrev cX9_obeys : ByteArray := prog_11_method_45_code
def yX9_obeys : MethodName := ⟨RX9, "obeys", "(I)Z"⟩
abbrev cX9_storeThen : ByteArray := prog_11_method_46_code
def yX9_storeThen : MethodName := ⟨RX9, "storeThen", "(IIIZ)I"⟩
abbrev cX9_dustThen : ByteArray := prog_11_method_47_code
def yX9_dustThen : MethodName := ⟨RX9, "dustThen", "(IIIZ)I"⟩
abbrev cX9_goDay : ByteArray := prog_11_method_48_code
def yX9_goDay : MethodName := ⟨RX9, "goDay", "(IIII)Z"⟩
abbrev cX9_goOwn : ByteArray := prog_11_method_49_code
def yX9_goOwn : MethodName := ⟨RX9, "goOwn", "(II)Z"⟩
abbrev cX9_lead : ByteArray := prog_11_method_50_code
def yX9_lead : MethodName := ⟨RX9, "lead", "(I)I"⟩
abbrev cX9_day : ByteArray := prog_11_method_51_code
def yX9_day : MethodName := ⟨RX9, "day", "(I)I"⟩
abbrev cX9_days : ByteArray := prog_11_method_52_code
def yX9_days : MethodName := ⟨RX9, "days", "(I)I"⟩
abbrev cX9_led : ByteArray := prog_11_method_53_code
def yX9_led : MethodName := ⟨RX9, "led", "(II)I"⟩
abbrev cX9_rowFault : ByteArray := prog_11_method_54_code
def yX9_rowFault : MethodName := ⟨RX9, "rowFault", "(I)I"⟩
abbrev cX9_byteAt : ByteArray := prog_11_method_55_code
def yX9_byteAt : MethodName := ⟨RX9, "byteAt", "(II)I"⟩
abbrev cX9_orderAt : ByteArray := prog_11_method_56_code
def yX9_orderAt : MethodName := ⟨RX9, "orderAt", "(II)I"⟩
abbrev cX9_tellThought : ByteArray := prog_11_method_57_code
def yX9_tellThought : MethodName := ⟨RX9, "tellThought", "(I)I"⟩
abbrev cX9_run : ByteArray := prog_11_method_58_code
def yX9_run : MethodName := ⟨RX9, "run", "(III)I"⟩
abbrev cX9_first : ByteArray := prog_11_method_59_code
def yX9_first : MethodName := ⟨RX9, "first", "(I)I"⟩
abbrev cX9_lawful : ByteArray := prog_11_method_60_code
def yX9_lawful : MethodName := ⟨RX9, "lawful", "(II)I"⟩
abbrev cX9_findFar : ByteArray := prog_11_method_61_code
def yX9_findFar : MethodName := ⟨RX9, "findFar", "(I)V"⟩
abbrev cX9_cheapest : ByteArray := prog_11_method_62_code
def yX9_cheapest : MethodName := ⟨RX9, "cheapest", "(II)I"⟩
abbrev cX9_come : ByteArray := prog_11_method_63_code
def yX9_come : MethodName := ⟨RX9, "come", "(IIII)V"⟩
abbrev cX9_goOn : ByteArray := prog_11_method_64_code
def yX9_goOn : MethodName := ⟨RX9, "goOn", "(I)V"⟩
abbrev cX9_mostIn : ByteArray := prog_11_method_65_code
def yX9_mostIn : MethodName := ⟨RX9, "mostIn", "(I)I"⟩
abbrev cX9_soonest : ByteArray := prog_11_method_66_code
def yX9_soonest : MethodName := ⟨RX9, "soonest", "(II)I"⟩
abbrev cX9_toNorth : ByteArray := prog_11_method_67_code
def yX9_toNorth : MethodName := ⟨RX9, "toNorth", "(I)I"⟩
abbrev cX9_goRound : ByteArray := prog_11_method_68_code
def yX9_goRound : MethodName := ⟨RX9, "goRound", "(IIIII)V"⟩
abbrev cX9_round : ByteArray := prog_11_method_69_code
def yX9_round : MethodName := ⟨RX9, "round", "(I)I"⟩
abbrev cX9_lasts : ByteArray := prog_11_method_70_code
def yX9_lasts : MethodName := ⟨RX9, "lasts", "(I)I"⟩
abbrev cX9_power : ByteArray := prog_11_method_71_code
def yX9_power : MethodName := ⟨RX9, "power", "(II)J"⟩
abbrev cX9_part : ByteArray := prog_11_method_72_code
def yX9_part : MethodName := ⟨RX9, "part", "(JJI)J"⟩
abbrev cX9_clean : ByteArray := prog_11_method_73_code
def yX9_clean : MethodName := ⟨RX9, "clean", "(III)J"⟩
abbrev cX9_endOf : ByteArray := prog_11_method_74_code
def yX9_endOf : MethodName := ⟨RX9, "endOf", "(II)I"⟩
abbrev cX9_line : ByteArray := prog_11_method_75_code
def yX9_line : MethodName := ⟨RX9, "line", "(II)J"⟩
abbrev cX9_drawn : ByteArray := prog_11_method_76_code
def yX9_drawn : MethodName := ⟨RX9, "drawn", "(III)I"⟩
abbrev cX9_judge : ByteArray := prog_11_method_77_code
def yX9_judge : MethodName := ⟨RX9, "judge", "(I)I"⟩
abbrev cX9_image : ByteArray := prog_11_method_78_code
def yX9_image : MethodName := ⟨RX9, "image", "()I"⟩
abbrev cX9_back : ByteArray := prog_11_method_79_code
def yX9_back : MethodName := ⟨RX9, "back", "()I"⟩
abbrev cX9_stones : ByteArray := prog_11_method_80_code
def yX9_stones : MethodName := ⟨RX9, "stones", "()I"⟩
abbrev cX9_hollows : ByteArray := prog_11_method_81_code
def yX9_hollows : MethodName := ⟨RX9, "hollows", "()I"⟩
abbrev cX9_isBody : ByteArray := prog_11_method_82_code
def yX9_isBody : MethodName := ⟨RX9, "isBody", "(I)Z"⟩
abbrev cX9_ran : ByteArray := prog_11_method_83_code
def yX9_ran : MethodName := ⟨RX9, "ran", "(I)V"⟩
abbrev cX9_trace : ByteArray := prog_11_method_84_code
def yX9_trace : MethodName := ⟨RX9, "trace", "(I)I"⟩
abbrev cX9_body : ByteArray := prog_11_method_85_code
def yX9_body : MethodName := ⟨RX9, "body", "(I)I"⟩
abbrev cX9_isUnder : ByteArray := prog_11_method_86_code
def yX9_isUnder : MethodName := ⟨RX9, "isUnder", "(II)Z"⟩
abbrev cX9_plainTurns : ByteArray := prog_11_method_87_code
def yX9_plainTurns : MethodName := ⟨RX9, "plainTurns", "(II)I"⟩
abbrev cX9_northTurns : ByteArray := prog_11_method_88_code
def yX9_northTurns : MethodName := ⟨RX9, "northTurns", "(II)I"⟩
abbrev cX9_turning : ByteArray := prog_11_method_89_code
def yX9_turning : MethodName := ⟨RX9, "turning", "(II)I"⟩
abbrev cX9_plainMoves : ByteArray := prog_11_method_90_code
def yX9_plainMoves : MethodName := ⟨RX9, "plainMoves", "(II)I"⟩
abbrev cX9_dustyMoves : ByteArray := prog_11_method_91_code
def yX9_dustyMoves : MethodName := ⟨RX9, "dustyMoves", "(II)I"⟩
abbrev cX9_moving : ByteArray := prog_11_method_92_code
def yX9_moving : MethodName := ⟨RX9, "moving", "(II)I"⟩
abbrev cX9_plainLooks : ByteArray := prog_11_method_93_code
def yX9_plainLooks : MethodName := ⟨RX9, "plainLooks", "(II)I"⟩
abbrev cX9_cleanLooks : ByteArray := prog_11_method_94_code
def yX9_cleanLooks : MethodName := ⟨RX9, "cleanLooks", "(II)I"⟩
abbrev cX9_looking : ByteArray := prog_11_method_95_code
def yX9_looking : MethodName := ⟨RX9, "looking", "(II)I"⟩
abbrev cX9_plainTells : ByteArray := prog_11_method_96_code
def yX9_plainTells : MethodName := ⟨RX9, "plainTells", "(II)I"⟩
abbrev cX9_telling : ByteArray := prog_11_method_97_code
def yX9_telling : MethodName := ⟨RX9, "telling", "(II)I"⟩
abbrev cX9_act : ByteArray := prog_11_method_98_code
def yX9_act : MethodName := ⟨RX9, "act", "(III)I"⟩
abbrev cX9_count : ByteArray := prog_11_method_99_code
def yX9_count : MethodName := ⟨RX9, "count", "(I)I"⟩
abbrev cX9_isShelf : ByteArray := prog_11_method_100_code
def yX9_isShelf : MethodName := ⟨RX9, "isShelf", "(I)Z"⟩
abbrev cX9_keep : ByteArray := prog_11_method_101_code
def yX9_keep : MethodName := ⟨RX9, "keep", "(II)I"⟩
abbrev cX9_row : ByteArray := prog_11_method_102_code
def yX9_row : MethodName := ⟨RX9, "row", "(III)I"⟩
abbrev cX9_whyNoPlace : ByteArray := prog_11_method_103_code
def yX9_whyNoPlace : MethodName := ⟨RX9, "whyNoPlace", "(II)I"⟩
abbrev cX9_put : ByteArray := prog_11_method_104_code
def yX9_put : MethodName := ⟨RX9, "put", "(IIJ)I"⟩
abbrev cX9_element : ByteArray := prog_11_method_105_code
def yX9_element : MethodName := ⟨RX9, "element", "(II)J"⟩
abbrev cX9_shift : ByteArray := prog_11_method_106_code
def yX9_shift : MethodName := ⟨RX9, "shift", "(IIIII)I"⟩
abbrev cX9_taken : ByteArray := prog_11_method_107_code
def yX9_taken : MethodName := ⟨RX9, "taken", "(II)I"⟩
def RJ13 : String := "java/lang/Long"
def TJ13 : u_T := fun k => match k with
  | _ => ("", "", "", false)
def tyJ13 : Nat → FieldType := fun k => match k with
  | _ => .int
abbrev wsJ130 : List Cond := u_ws RJ13 TJ13 0
theorem nmJ13 : ∀ a, a < 0 → ∀ b, b < 0 → a ≠ b → (TJ13 a).2.1 ≠ (TJ13 b).2.1 := by decide +kernel
theorem tyJ13_ok : ∀ k, k < 0 → parseFieldDescriptor (TJ13 k).2.2.1 = some (tyJ13 k) := by decide +kernel
abbrev cJ13_bitCount_95d88 : ByteArray := prog_12_method_50_code
def yJ13_bitCount_95d88 : MethodName := ⟨RJ13, "bitCount", "(J)I"⟩
def RJ9 : String := "java/lang/Math"
def TJ9 : u_T := fun k => match k with
  | _ => ("", "", "", false)
def tyJ9 : Nat → FieldType := fun k => match k with
  | _ => .int
abbrev wsJ90 : List Cond := u_ws RJ9 TJ9 0
theorem nmJ9 : ∀ a, a < 0 → ∀ b, b < 0 → a ≠ b → (TJ9 a).2.1 ≠ (TJ9 b).2.1 := by decide +kernel
theorem tyJ9_ok : ∀ k, k < 0 → parseFieldDescriptor (TJ9 k).2.2.1 = some (tyJ9 k) := by decide +kernel
abbrev cJ9_max_7cf53 : ByteArray := prog_13_method_65_code
def yJ9_max_7cf53 : MethodName := ⟨RJ9, "max", "(II)I"⟩
abbrev cJ9_min_7cf53 : ByteArray := prog_13_method_69_code
def yJ9_min_7cf53 : MethodName := ⟨RJ9, "min", "(II)I"⟩
def RJ10 : String := "java/lang/System"
def TJ10 : u_T := fun k => match k with
  | _ => ("", "", "", false)
def tyJ10 : Nat → FieldType := fun k => match k with
  | _ => .int
abbrev wsJ100 : List Cond := u_ws RJ10 TJ10 0
theorem nmJ10 : ∀ a, a < 0 → ∀ b, b < 0 → a ≠ b → (TJ10 a).2.1 ≠ (TJ10 b).2.1 := by decide +kernel
theorem tyJ10_ok : ∀ k, k < 0 → parseFieldDescriptor (TJ10 k).2.2.1 = some (tyJ10 k) := by decide +kernel
def RJ7 : String := "java/util/Arrays"
def TJ7 : u_T := fun k => match k with
  | _ => ("", "", "", false)
def tyJ7 : Nat → FieldType := fun k => match k with
  | _ => .int
abbrev wsJ70 : List Cond := u_ws RJ7 TJ7 0
theorem nmJ7 : ∀ a, a < 0 → ∀ b, b < 0 → a ≠ b → (TJ7 a).2.1 ≠ (TJ7 b).2.1 := by decide +kernel
theorem tyJ7_ok : ∀ k, k < 0 → parseFieldDescriptor (TJ7 k).2.2.1 = some (tyJ7 k) := by decide +kernel
abbrev cJ7_fill_d0a16 : ByteArray := prog_15_method_101_code
def yJ7_fill_d0a16 : MethodName := ⟨RJ7, "fill", "([JJ)V"⟩
abbrev cJ7_fill_53178 : ByteArray := prog_15_method_103_code
def yJ7_fill_53178 : MethodName := ⟨RJ7, "fill", "([II)V"⟩
def RL : String := "DustCartLaw"
abbrev cL_law : ByteArray := code
def yL_law : MethodName := ⟨RL, "law", "([I)Z"⟩
def wsL_law_r1 : List Cond := [Cond.classLink RL 7 RX8, Cond.instantiable RX8 14, Cond.initialized RX8, Cond.classLink RL 10 RX9, Cond.instantiable RX9 60, Cond.initialized RX9, Cond.constantLong RL 139 (4294967295), Cond.methodLink RL 9 yX8_init, Cond.instanceMethod yX8_init, Cond.code yX8_init cX8_init 2 none, Cond.methodLink RX8 1 objectInit, Cond.instanceMethod objectInit, Cond.code objectInit ⟨#[0xb1]⟩ 1 none, Cond.classLink RX8 7 RX3, Cond.instantiable RX3 1, Cond.initialized RX3, Cond.fieldLink RX8 10 "DustCart" "plain" "LDustCart$Plain;", Cond.classLink RX8 16 RX0, Cond.instantiable RX0 4, Cond.initialized RX0, Cond.fieldLink RX8 19 "DustCart" "cart" "LDustCart$Cart;", Cond.fieldLink RX8 23 "DustCart" "thought" "LDustCart$Cart;", Cond.fieldLink RX8 26 "DustCart" "kept" "LDustCart$Cart;", Cond.arrayClass .int]
def wsL_law_r2 : List Cond := [Cond.fieldLink RX8 29 "DustCart" "orders" "[I", Cond.arrayClass .boolean, Cond.fieldLink RX8 33 "DustCart" "could" "[Z", Cond.classLink RX8 37 RX2, Cond.instantiable RX2 10, Cond.initialized RX2, Cond.fieldLink RX8 40 "DustCart" "rule" "LDustCart$Law;", Cond.classLink RX8 44 RX6, Cond.instantiable RX6 8, Cond.initialized RX6, Cond.fieldLink RX8 47 "DustCart" "ways" "LDustCart$Ways;", Cond.classLink RX8 51 RX4, Cond.instantiable RX4 5, Cond.initialized RX4, Cond.fieldLink RX8 54 "DustCart" "reach" "LDustCart$Reach;", Cond.classLink RX8 58 RX1, Cond.instantiable RX1 5, Cond.initialized RX1, Cond.fieldLink RX8 61 "DustCart" "changes" "LDustCart$Changes;", Cond.classLink RX8 65 RX5, Cond.fieldLink RX8 67 "DustCart" "shelves" "[LDustCart$Shelf;", Cond.instantiable RX5 5, Cond.initialized RX5, Cond.classLink RX8 72 RX7]
def wsL_law_r3 : List Cond := [Cond.instantiable RX7 5, Cond.initialized RX7, Cond.fieldLink RX8 75 "DustCart" "wheels" "LDustCart$Wheels;", Cond.fieldLink RX8 79 "DustCart" "keptDay" "I", Cond.methodLink RX8 9 yX3_init, Cond.instanceMethod yX3_init, Cond.code yX3_init cX3_init 2 none, Cond.methodLink RX3 3 objectInit, Cond.fieldLink RX3 9 "DustCart$Plain" "numbers" "[I", Cond.methodLink RX8 18 yX0_init, Cond.instanceMethod yX0_init, Cond.code yX0_init cX0_init 1 none, Cond.methodLink RX0 3 objectInit, Cond.fieldLink RX0 9 "DustCart$Cart" "store" "I", Cond.instanceMethod yX2_init, Cond.code yX2_init cX2_init 1 none, Cond.methodLink RX2 3 objectInit, Cond.fieldLink RX2 11 "DustCart$Law" "tape" "[I", Cond.fieldLink RX2 15 "DustCart$Law" "draft" "[I", Cond.fieldLink RX2 18 "DustCart$Law" "codes" "[I", Cond.fieldLink RX2 21 "DustCart$Law" "stack" "[I", Cond.instanceMethod yX6_init, Cond.code yX6_init cX6_init 1 none, Cond.methodLink RX6 1 objectInit]
def wsL_law_r4 : List Cond := [Cond.fieldLink RX6 9 "DustCart$Ways" "left" "[I", Cond.fieldLink RX6 15 "DustCart$Ways" "stones" "[I", Cond.fieldLink RX6 18 "DustCart$Ways" "toStone" "[I", Cond.fieldLink RX6 21 "DustCart$Ways" "between" "[I", Cond.fieldLink RX6 24 "DustCart$Ways" "rest" "[I", Cond.instanceMethod yX4_init, Cond.code yX4_init cX4_init 1 none, Cond.methodLink RX4 3 objectInit, Cond.fieldLink RX4 13 "DustCart$Reach" "now" "[I", Cond.fieldLink RX4 17 "DustCart$Reach" "next" "[I", Cond.classLink RX4 20 RX0, Cond.fieldLink RX4 23 "DustCart$Reach" "trial" "LDustCart$Cart;", Cond.methodLink RX4 22 yX0_init, Cond.instanceMethod yX1_init, Cond.code yX1_init cX1_init 1 none, Cond.methodLink RX1 1 objectInit, Cond.fieldLink RX1 9 "DustCart$Changes" "places" "[I", Cond.fieldLink RX1 13 "DustCart$Changes" "before" "[I", Cond.fieldLink RX1 16 "DustCart$Changes" "behind" "[I", Cond.instanceMethod yX5_init, Cond.code yX5_init cX5_init 1 none, Cond.methodLink RX5 1 objectInit, Cond.arrayClass .long, Cond.fieldLink RX5 9 "DustCart$Shelf" "elements" "[J"]
def wsL_law_r5 : List Cond := [Cond.instanceMethod yX7_init, Cond.code yX7_init cX7_init 1 none, Cond.methodLink RX7 1 objectInit, Cond.fieldLink RX7 9 "DustCart$Wheels" "kinds" "[I", Cond.fieldLink RX7 13 "DustCart$Wheels" "ran" "[I", Cond.methodLink RL 12 yX9_init, Cond.instanceMethod yX9_init, Cond.code yX9_init cX9_init 1 none, Cond.methodLink RX9 1 objectInit, Cond.fieldLink RX9 7 "DustCartModel" "high" "[I", Cond.fieldLink RX9 13 "DustCartModel" "stone" "[I", Cond.fieldLink RX9 16 "DustCartModel" "sun" "[I", Cond.fieldLink RX9 19 "DustCartModel" "wind" "[I", Cond.fieldLink RX9 22 "DustCartModel" "wheels" "I", Cond.fieldLink RX9 26 "DustCartModel" "odds" "I", Cond.fieldLink RX9 29 "DustCartModel" "store" "I", Cond.fieldLink RX9 32 "DustCartModel" "ledOrder" "[I", Cond.fieldLink RX9 35 "DustCartModel" "ledCould" "[I", Cond.fieldLink RX9 38 "DustCartModel" "changeOf" "[I", Cond.fieldLink RX9 41 "DustCartModel" "changeAt" "[I", Cond.fieldLink RX9 44 "DustCartModel" "before" "[I", Cond.fieldLink RX9 47 "DustCartModel" "behind" "[I", Cond.arrayClass .byte, Cond.fieldLink RX9 50 "DustCartModel" "tape" "[B"]
def wsL_law_r6 : List Cond := [Cond.fieldLink RX9 54 "DustCartModel" "act" "[B", Cond.fieldLink RX9 57 "DustCartModel" "with" "[I", Cond.fieldLink RX9 60 "DustCartModel" "lineMany" "[I", Cond.arrayClass .short, Cond.fieldLink RX9 63 "DustCartModel" "testEnd" "[S", Cond.fieldLink RX9 67 "DustCartModel" "lineEnd" "[S", Cond.fieldLink RX9 70 "DustCartModel" "facts" "[I", Cond.fieldLink RX9 73 "DustCartModel" "pile" "[I", Cond.fieldLink RX9 76 "DustCartModel" "far" "[I", Cond.fieldLink RX9 79 "DustCartModel" "now" "[I", Cond.fieldLink RX9 82 "DustCartModel" "later" "[I", Cond.fieldLink RX9 85 "DustCartModel" "left" "[I", Cond.fieldLink RX9 88 "DustCartModel" "between" "[I", Cond.fieldLink RX9 91 "DustCartModel" "north" "[I", Cond.fieldLink RX9 94 "DustCartModel" "kind" "[I", Cond.fieldLink RX9 97 "DustCartModel" "traced" "[I", Cond.fieldLink RX9 100 "DustCartModel" "holds" "[I", Cond.fieldLink RX9 103 "DustCartModel" "size" "[I", Cond.fieldLink RX9 106 "DustCartModel" "elements" "[J", Cond.fieldLink RX9 110 "DustCartModel" "shifted" "[J", Cond.methodLink RL 13 yX8_mend, Cond.instanceMethod yX8_mend, Cond.selects RX8 yX8_mend yX8_mend, Cond.code yX8_mend cX8_mend 6 (some .int)]
def wsL_law_r7 : List Cond := [Cond.methodLink RX8 83 yX3_place, Cond.static yX3_place, Cond.code yX3_place cX3_place 2 (some .int), Cond.fieldLink RX3 15 "DustCart$Plain" "MANY" "[I", Cond.fieldLink RX3 18 "DustCart$Plain" "BEGIN" "[I", Cond.methodLink RX8 87 yX3_mayBe, Cond.static yX3_mayBe, Cond.code yX3_mayBe cX3_mayBe 2 (some .boolean), Cond.fieldLink RX3 21 "DustCart$Plain" "LEAST" "[I", Cond.fieldLink RX3 24 "DustCart$Plain" "MOST" "[I", Cond.methodLink RX8 91 yX3_told, Cond.instanceMethod yX3_told, Cond.selects RX3 yX3_told yX3_told, Cond.code yX3_told cX3_told 2 (some .int), Cond.methodLink RX8 95 yX3_tell, Cond.instanceMethod yX3_tell, Cond.selects RX3 yX3_tell yX3_tell, Cond.code yX3_tell cX3_tell 3 none, Cond.methodLink RX8 99 yX1_note, Cond.instanceMethod yX1_note, Cond.selects RX1 yX1_note yX1_note, Cond.code yX1_note cX1_note 4 none, Cond.fieldLink RX1 19 "DustCart$Changes" "done" "I", Cond.fieldLink RX1 26 "DustCart$Changes" "known" "I"]
def wsL_law_r8 : List Cond := [Cond.methodLink RX1 23 yX1_dropOldest, Cond.instanceMethod yX1_dropOldest, Cond.selects RX1 yX1_dropOldest yX1_dropOldest, Cond.code yX1_dropOldest cX1_dropOldest 1 none, Cond.methodLink RX1 29 arraycopyName, Cond.native arraycopyName, Cond.static arraycopyName, Cond.initialized "java/lang/System", Cond.methodLink RL 17 yX9_mend, Cond.instanceMethod yX9_mend, Cond.selects RX9 yX9_mend yX9_mend, Cond.code yX9_mend cX9_mend 4 (some .int), Cond.methodLink RX9 148 yX9_isThing, Cond.instanceMethod yX9_isThing, Cond.selects RX9 yX9_isThing yX9_isThing, Cond.code yX9_isThing cX9_isThing 3 (some .boolean), Cond.methodLink RX9 116 yX9_in, Cond.static yX9_in, Cond.code yX9_in cX9_in 3 (some .boolean), Cond.methodLink RX9 141 yX9_isCell, Cond.static yX9_isCell, Cond.code yX9_isCell cX9_isCell 1 (some .boolean), Cond.methodLink RX9 145 yX9_isDay, Cond.static yX9_isDay]
def wsL_law_r9 : List Cond := [Cond.code yX9_isDay cX9_isDay 1 (some .boolean), Cond.methodLink RX9 152 yX9_mostOf, Cond.static yX9_mostOf, Cond.code yX9_mostOf cX9_mostOf 1 (some .int), Cond.methodLink RX9 156 yX9_changes, Cond.instanceMethod yX9_changes, Cond.selects RX9 yX9_changes yX9_changes, Cond.code yX9_changes cX9_changes 6 (some .int), Cond.fieldLink RX9 131 "DustCartModel" "undoneMany" "I", Cond.fieldLink RX9 134 "DustCartModel" "doneMany" "I", Cond.methodLink RX9 128 yX9_valueAt, Cond.instanceMethod yX9_valueAt, Cond.selects RX9 yX9_valueAt yX9_valueAt, Cond.code yX9_valueAt cX9_valueAt 3 (some .int), Cond.methodLink RX9 137 yX9_lays, Cond.instanceMethod yX9_lays, Cond.selects RX9 yX9_lays yX9_lays, Cond.code yX9_lays cX9_lays 4 none, Cond.methodLink RL 18 yX8_of, Cond.instanceMethod yX8_of, Cond.selects RX8 yX8_of yX8_of, Cond.code yX8_of cX8_of 4 (some .int), Cond.methodLink RX8 103 yX8_ofCell, Cond.instanceMethod yX8_ofCell]
def wsL_law_r10 : List Cond := [Cond.selects RX8 yX8_ofCell yX8_ofCell, Cond.code yX8_ofCell cX8_ofCell 4 (some .int), Cond.methodLink RX8 109 yX3_isCell, Cond.static yX3_isCell, Cond.code yX3_isCell cX3_isCell 1 (some .boolean), Cond.methodLink RX8 113 yX3_isHollow, Cond.instanceMethod yX3_isHollow, Cond.selects RX3 yX3_isHollow yX3_isHollow, Cond.code yX3_isHollow cX3_isHollow 4 (some .boolean), Cond.methodLink RX3 37 yX3_neighbour, Cond.static yX3_neighbour, Cond.code yX3_neighbour cX3_neighbour 2 (some .int), Cond.methodLink RX3 27 yX3_high, Cond.instanceMethod yX3_high, Cond.selects RX3 yX3_high yX3_high, Cond.code yX3_high cX3_high 2 (some .int), Cond.methodLink RX8 116 yX0_hasLookedAt, Cond.instanceMethod yX0_hasLookedAt, Cond.selects RX0 yX0_hasLookedAt yX0_hasLookedAt, Cond.code yX0_hasLookedAt cX0_hasLookedAt 2 (some .boolean), Cond.fieldLink RX0 25 "DustCart$Cart" "looked" "J", Cond.methodLink RX8 106 yX8_ofCart, Cond.instanceMethod yX8_ofCart, Cond.selects RX8 yX8_ofCart yX8_ofCart]
def wsL_law_r11 : List Cond := [Cond.code yX8_ofCart cX8_ofCart 2 (some .int), Cond.fieldLink RX8 119 "DustCart" "today" "I", Cond.fieldLink RX8 122 "DustCart$Cart" "cell" "I", Cond.fieldLink RX8 125 "DustCart$Cart" "store" "I", Cond.fieldLink RX8 128 "DustCart$Cart" "dust" "I", Cond.fieldLink RX8 131 "DustCart$Cart" "looked" "J", Cond.methodLink RX8 135 yJ13_bitCount_95d88, Cond.static yJ13_bitCount_95d88, Cond.initialized RJ13, Cond.code yJ13_bitCount_95d88 cJ13_bitCount_95d88 2 (some .int), Cond.constantLong RJ13 314 (6148914691236517205), Cond.constantLong RJ13 316 (3689348814741910323), Cond.constantLong RJ13 318 (1085102592571150095), Cond.methodLink RL 22 yX9_of, Cond.instanceMethod yX9_of, Cond.selects RX9 yX9_of yX9_of, Cond.code yX9_of cX9_of 3 (some .int), Cond.fieldLink RX9 166 "DustCartModel" "today" "I", Cond.fieldLink RX9 169 "DustCartModel" "cell" "I", Cond.fieldLink RX9 172 "DustCartModel" "dust" "I", Cond.fieldLink RX9 124 "DustCartModel" "looked" "J", Cond.methodLink RX9 160 yX9_isHollow, Cond.instanceMethod yX9_isHollow, Cond.selects RX9 yX9_isHollow yX9_isHollow]
def wsL_law_r12 : List Cond := [Cond.code yX9_isHollow cX9_isHollow 3 (some .boolean), Cond.methodLink RX9 120 yX9_beside, Cond.static yX9_beside, Cond.code yX9_beside cX9_beside 2 (some .int), Cond.methodLink RX9 163 yX9_isLooked, Cond.instanceMethod yX9_isLooked, Cond.selects RX9 yX9_isLooked yX9_isLooked, Cond.code yX9_isLooked cX9_isLooked 2 (some .boolean), Cond.methodLink RX9 175 yX9_bitsIn, Cond.static yX9_bitsIn, Cond.code yX9_bitsIn cX9_bitsIn 5 (some .int), Cond.methodLink RL 23 yX8_heights, Cond.instanceMethod yX8_heights, Cond.selects RX8 yX8_heights yX8_heights, Cond.code yX8_heights cX8_heights 6 (some .int), Cond.methodLink RX8 141 yX8_isShelf, Cond.static yX8_isShelf, Cond.code yX8_isShelf cX8_isShelf 1 (some .boolean), Cond.methodLink RX8 144 yX5_isEmpty, Cond.instanceMethod yX5_isEmpty, Cond.selects RX5 yX5_isEmpty yX5_isEmpty, Cond.code yX5_isEmpty cX5_isEmpty 1 (some .boolean), Cond.fieldLink RX5 13 "DustCart$Shelf" "holds" "I", Cond.methodLink RX8 148 yX5_isBytes]
def wsL_law_r13 : List Cond := [Cond.instanceMethod yX5_isBytes, Cond.selects RX5 yX5_isBytes yX5_isBytes, Cond.code yX5_isBytes cX5_isBytes 1 (some .boolean), Cond.fieldLink RX5 17 "DustCart$Shelf" "sort" "I", Cond.methodLink RX8 151 yX8_heightsFrom, Cond.instanceMethod yX8_heightsFrom, Cond.selects RX8 yX8_heightsFrom yX8_heightsFrom, Cond.code yX8_heightsFrom cX8_heightsFrom 9 (some .int), Cond.fieldLink RX8 155 "DustCart$Shelf" "length" "I", Cond.methodLink RX8 158 yX5_at, Cond.instanceMethod yX5_at, Cond.selects RX5 yX5_at yX5_at, Cond.code yX5_at cX5_at 2 (some .long), Cond.methodLink RX5 41 yX5_hasPlaces, Cond.instanceMethod yX5_hasPlaces, Cond.selects RX5 yX5_hasPlaces yX5_hasPlaces, Cond.code yX5_hasPlaces cX5_hasPlaces 3 (some .boolean), Cond.fieldLink RX5 32 "DustCart$Shelf" "length" "I", Cond.methodLink RL 26 yX9_heights, Cond.instanceMethod yX9_heights, Cond.selects RX9 yX9_heights yX9_heights, Cond.code yX9_heights cX9_heights 8 (some .int), Cond.methodLink RX9 179 yX9_isShelf, Cond.static yX9_isShelf]
def wsL_law_r14 : List Cond := [Cond.code yX9_isShelf cX9_isShelf 1 (some .boolean), Cond.methodLink RL 27 yX8_feed, Cond.instanceMethod yX8_feed, Cond.selects RX8 yX8_feed yX8_feed, Cond.code yX8_feed cX8_feed 2 (some .int), Cond.fieldLink RX8 165 "DustCart$Law" "fed" "I", Cond.methodLink RX8 162 yX2_take, Cond.instanceMethod yX2_take, Cond.selects RX2 yX2_take yX2_take, Cond.code yX2_take cX2_take 2 (some .boolean), Cond.fieldLink RX2 24 "DustCart$Law" "fed" "I", Cond.methodLink RL 31 yX9_feed, Cond.instanceMethod yX9_feed, Cond.selects RX9 yX9_feed yX9_feed, Cond.code yX9_feed cX9_feed 2 (some .int), Cond.fieldLink RX9 182 "DustCartModel" "taped" "I", Cond.methodLink RL 32 yX8_law, Cond.instanceMethod yX8_law, Cond.selects RX8 yX8_law yX8_law, Cond.code yX8_law cX8_law 2 (some .int), Cond.methodLink RX8 168 yX2_become, Cond.instanceMethod yX2_become, Cond.selects RX2 yX2_become yX2_become, Cond.code yX2_become cX2_become 1 (some .int)]
def wsL_law_r15 : List Cond := [Cond.fieldLink RX2 28 "DustCart$Law" "drafted" "I", Cond.fieldLink RX2 31 "DustCart$Law" "place" "I", Cond.fieldLink RX2 34 "DustCart$Law" "fault" "I", Cond.methodLink RX2 40 arraycopyName, Cond.fieldLink RX2 46 "DustCart$Law" "coded" "I", Cond.methodLink RX2 37 yX2_readLines, Cond.instanceMethod yX2_readLines, Cond.selects RX2 yX2_readLines yX2_readLines, Cond.code yX2_readLines cX2_readLines 2 none, Cond.methodLink RX2 53 yX2_readOr, Cond.instanceMethod yX2_readOr, Cond.selects RX2 yX2_readOr yX2_readOr, Cond.code yX2_readOr cX2_readOr 3 none, Cond.methodLink RX2 67 yX2_readAnd, Cond.instanceMethod yX2_readAnd, Cond.selects RX2 yX2_readAnd yX2_readAnd, Cond.methodLink RX2 57 yX2_pass, Cond.instanceMethod yX2_pass, Cond.selects RX2 yX2_pass yX2_pass, Cond.code yX2_pass cX2_pass 2 (some .boolean), Cond.methodLink RX2 49 yX2_sign, Cond.instanceMethod yX2_sign, Cond.selects RX2 yX2_sign yX2_sign, Cond.code yX2_sign cX2_sign 1 (some .int)]
def wsL_law_r16 : List Cond := [Cond.methodLink RX2 61 yX2_write, Cond.instanceMethod yX2_write, Cond.selects RX2 yX2_write yX2_write, Cond.code yX2_write cX2_write 2 none, Cond.code yX2_readAnd cX2_readAnd 3 none, Cond.methodLink RX2 70 yX2_readCompared, Cond.instanceMethod yX2_readCompared, Cond.selects RX2 yX2_readCompared yX2_readCompared, Cond.code yX2_readCompared cX2_readCompared 3 none, Cond.methodLink RX2 73 yX2_readSum, Cond.instanceMethod yX2_readSum, Cond.selects RX2 yX2_readSum yX2_readSum, Cond.code yX2_readOpened cX2_readOpened 3 none, Cond.methodLink RX2 64 yX2_refuse, Cond.instanceMethod yX2_refuse, Cond.selects RX2 yX2_refuse yX2_refuse, Cond.code yX2_refuse cX2_refuse 1 none, Cond.methodLink RX2 79 yX2_readOperand, Cond.instanceMethod yX2_readOperand, Cond.selects RX2 yX2_readOperand yX2_readOperand, Cond.code yX2_readOperand cX2_readOperand 3 none, Cond.methodLink RX2 82 yX2_isDigit, Cond.static yX2_isDigit, Cond.code yX2_isDigit cX2_isDigit 1 (some .boolean)]
def wsL_law_r17 : List Cond := [Cond.methodLink RX2 85 yX2_readNumber, Cond.instanceMethod yX2_readNumber, Cond.selects RX2 yX2_readNumber yX2_readNumber, Cond.code yX2_readNumber cX2_readNumber 3 none, Cond.methodLink RX2 88 yX2_isName, Cond.static yX2_isName, Cond.code yX2_isName cX2_isName 1 (some .boolean), Cond.methodLink RX2 91 yX2_readOpened, Cond.instanceMethod yX2_readOpened, Cond.selects RX2 yX2_readOpened yX2_readOpened, Cond.code yX2_readProduct cX2_readProduct 4 none, Cond.code yX2_readSum cX2_readSum 4 none, Cond.methodLink RX2 76 yX2_readProduct, Cond.instanceMethod yX2_readProduct, Cond.selects RX2 yX2_readProduct yX2_readProduct, Cond.methodLink RL 36 yX9_law, Cond.instanceMethod yX9_law, Cond.selects RX9 yX9_law yX9_law, Cond.code yX9_law cX9_law 2 (some .int), Cond.fieldLink RX9 248 "DustCartModel" "hasLaw" "Z", Cond.methodLink RX9 245 yX9_readText, Cond.instanceMethod yX9_readText, Cond.selects RX9 yX9_readText yX9_readText, Cond.code yX9_readText cX9_readText 3 (some .int)]
def wsL_law_r18 : List Cond := [Cond.fieldLink RX9 185 "DustCartModel" "here" "I", Cond.fieldLink RX9 188 "DustCartModel" "fault" "I", Cond.fieldLink RX9 194 "DustCartModel" "open" "I", Cond.fieldLink RX9 191 "DustCartModel" "laid" "I", Cond.methodLink RX9 236 yX9_oneLine, Cond.instanceMethod yX9_oneLine, Cond.selects RX9 yX9_oneLine yX9_oneLine, Cond.code yX9_oneLine cX9_oneLine 2 none, Cond.methodLink RX9 218 yX9_either, Cond.instanceMethod yX9_either, Cond.selects RX9 yX9_either yX9_either, Cond.code yX9_either cX9_either 1 none, Cond.methodLink RX9 233 yX9_both, Cond.instanceMethod yX9_both, Cond.selects RX9 yX9_both yX9_both, Cond.methodLink RX9 200 yX9_look, Cond.instanceMethod yX9_look, Cond.selects RX9 yX9_look yX9_look, Cond.code yX9_look cX9_look 1 (some .int), Cond.methodLink RX9 204 yX9_addStep, Cond.instanceMethod yX9_addStep, Cond.selects RX9 yX9_addStep yX9_addStep, Cond.code yX9_addStep cX9_addStep 3 none, Cond.code yX9_both cX9_both 1 none]
def wsL_law_r19 : List Cond := [Cond.methodLink RX9 230 yX9_compared, Cond.instanceMethod yX9_compared, Cond.selects RX9 yX9_compared yX9_compared, Cond.code yX9_compared cX9_compared 2 none, Cond.methodLink RX9 227 yX9_sum, Cond.instanceMethod yX9_sum, Cond.selects RX9 yX9_sum yX9_sum, Cond.code yX9_operand cX9_operand 2 none, Cond.methodLink RX9 208 yX9_nameOf, Cond.static yX9_nameOf, Cond.code yX9_nameOf cX9_nameOf 1 (some .int), Cond.methodLink RX9 211 yX9_opens, Cond.instanceMethod yX9_opens, Cond.selects RX9 yX9_opens yX9_opens, Cond.code yX9_opens cX9_opens 1 (some .boolean), Cond.methodLink RX9 197 yX9_faulty, Cond.instanceMethod yX9_faulty, Cond.selects RX9 yX9_faulty yX9_faulty, Cond.code yX9_faulty cX9_faulty 1 none, Cond.methodLink RX9 215 yX9_operand, Cond.instanceMethod yX9_operand, Cond.selects RX9 yX9_operand yX9_operand, Cond.methodLink RX9 221 yX9_figure, Cond.instanceMethod yX9_figure]
def wsL_law_r20 : List Cond := [Cond.selects RX9 yX9_figure yX9_figure, Cond.code yX9_figure cX9_figure 3 none, Cond.code yX9_product cX9_product 2 none, Cond.code yX9_sum cX9_sum 2 none, Cond.methodLink RX9 224 yX9_product, Cond.instanceMethod yX9_product, Cond.selects RX9 yX9_product yX9_product, Cond.methodLink RL 37 yX8_cost, Cond.instanceMethod yX8_cost, Cond.selects RX8 yX8_cost yX8_cost, Cond.code yX8_cost cX8_cost 4 (some .int), Cond.methodLink RX8 172 yX3_neighbour, Cond.methodLink RX8 175 yX3_price, Cond.instanceMethod yX3_price, Cond.selects RX3 yX3_price yX3_price, Cond.code yX3_price cX3_price 3 (some .int), Cond.methodLink RX3 31 Lib.Math.max.name, Cond.static Lib.Math.max.name, Cond.initialized "java/lang/Math", Cond.code Lib.Math.max.name Lib.Math.max.code 2 (some .int), Cond.methodLink RL 40 yX9_cost, Cond.instanceMethod yX9_cost, Cond.selects RX9 yX9_cost yX9_cost, Cond.code yX9_cost cX9_cost 3 (some .int)]
def wsL_law_r21 : List Cond := [Cond.methodLink RX9 255 yX9_costOf, Cond.instanceMethod yX9_costOf, Cond.selects RX9 yX9_costOf yX9_costOf, Cond.code yX9_costOf cX9_costOf 4 (some .int), Cond.methodLink RL 41 yX8_order, Cond.instanceMethod yX8_order, Cond.selects RX8 yX8_order yX8_order, Cond.code yX8_order cX8_order 1 (some .int), Cond.methodLink RX8 178 yX2_orderFor, Cond.instanceMethod yX2_orderFor, Cond.selects RX2 yX2_orderFor yX2_orderFor, Cond.code yX2_orderFor cX2_orderFor 5 (some .int), Cond.methodLink RX2 95 yX0_isOnNewStone, Cond.instanceMethod yX0_isOnNewStone, Cond.selects RX0 yX0_isOnNewStone yX0_isOnNewStone, Cond.code yX0_isOnNewStone cX0_isOnNewStone 2 (some .boolean), Cond.fieldLink RX0 15 "DustCart$Cart" "cell" "I", Cond.methodLink RX0 29 yX3_isStone, Cond.instanceMethod yX3_isStone, Cond.selects RX3 yX3_isStone yX3_isStone, Cond.code yX3_isStone cX3_isStone 2 (some .boolean), Cond.methodLink RX0 35 yX0_hasLookedAt, Cond.methodLink RX2 101 yX2_workOut, Cond.instanceMethod yX2_workOut]
def wsL_law_r22 : List Cond := [Cond.selects RX2 yX2_workOut yX2_workOut, Cond.code yX2_workOut cX2_workOut 7 (some .int), Cond.fieldLink RX2 105 "DustCart$Law" "high" "I", Cond.methodLink RX2 108 yX2_pop, Cond.instanceMethod yX2_pop, Cond.selects RX2 yX2_pop yX2_pop, Cond.code yX2_pop cX2_pop 1 (some .int), Cond.methodLink RX2 111 yX2_step, Cond.instanceMethod yX2_step, Cond.selects RX2 yX2_step yX2_step, Cond.code yX2_step cX2_step 6 none, Cond.methodLink RX2 115 yX2_push, Cond.instanceMethod yX2_push, Cond.selects RX2 yX2_push yX2_push, Cond.code yX2_push cX2_push 2 none, Cond.methodLink RX2 118 yX2_named, Cond.static yX2_named, Cond.code yX2_named cX2_named 4 (some .int), Cond.fieldLink RX2 126 "DustCart$Cart" "store" "I", Cond.fieldLink RX2 129 "DustCart$Cart" "dust" "I", Cond.fieldLink RX2 132 "DustCart$Cart" "cell" "I", Cond.methodLink RX2 135 yX3_high, Cond.methodLink RX2 140 yX3_wind, Cond.instanceMethod yX3_wind]
def wsL_law_r23 : List Cond := [Cond.selects RX3 yX3_wind yX3_wind, Cond.code yX3_wind cX3_wind 2 (some .int), Cond.methodLink RX2 122 yX2_joined, Cond.static yX2_joined, Cond.code yX2_joined cX2_joined 3 (some .int), Cond.methodLink RL 44 yX9_order, Cond.instanceMethod yX9_order, Cond.selects RX9 yX9_order yX9_order, Cond.code yX9_order cX9_order 1 (some .int), Cond.methodLink RX9 258 yX9_orderOf, Cond.instanceMethod yX9_orderOf, Cond.selects RX9 yX9_orderOf yX9_orderOf, Cond.code yX9_orderOf cX9_orderOf 4 (some .int), Cond.methodLink RX9 252 yX9_gives, Cond.instanceMethod yX9_gives, Cond.selects RX9 yX9_gives yX9_gives, Cond.code yX9_gives cX9_gives 4 (some .int), Cond.methodLink RX9 242 yX9_worked, Cond.instanceMethod yX9_worked, Cond.selects RX9 yX9_worked yX9_worked, Cond.code yX9_worked cX9_worked 7 (some .int), Cond.methodLink RX9 239 yX9_twoOf, Cond.static yX9_twoOf, Cond.code yX9_twoOf cX9_twoOf 3 (some .int)]
def wsL_law_r24 : List Cond := [Cond.methodLink RL 45 yX8_day, Cond.instanceMethod yX8_day, Cond.selects RX8 yX8_day yX8_day, Cond.code yX8_day cX8_day 2 (some .int), Cond.methodLink RX8 182 yX8_live, Cond.instanceMethod yX8_live, Cond.selects RX8 yX8_live yX8_live, Cond.code yX8_live cX8_live 3 (some .boolean), Cond.methodLink RX8 185 yX0_live, Cond.instanceMethod yX0_live, Cond.selects RX0 yX0_live yX0_live, Cond.code yX0_live cX0_live 4 (some .boolean), Cond.methodLink RX0 38 yX3_sun, Cond.instanceMethod yX3_sun, Cond.selects RX3 yX3_sun yX3_sun, Cond.code yX3_sun cX3_sun 2 (some .int), Cond.methodLink RX0 42 yX3_wind, Cond.methodLink RX0 45 yX0_liveUnder, Cond.instanceMethod yX0_liveUnder, Cond.selects RX0 yX0_liveUnder yX0_liveUnder, Cond.code yX0_liveUnder cX0_liveUnder 8 (some .boolean), Cond.fieldLink RX0 18 "DustCart$Cart" "dust" "I", Cond.methodLink RX0 60 Lib.Math.max.name, Cond.methodLink RX0 66 Lib.Math.min.name]
def wsL_law_r25 : List Cond := [Cond.static Lib.Math.min.name, Cond.code Lib.Math.min.name Lib.Math.min.code 2 (some .int), Cond.methodLink RX0 49 yX0_lookAround, Cond.instanceMethod yX0_lookAround, Cond.selects RX0 yX0_lookAround yX0_lookAround, Cond.code yX0_lookAround cX0_lookAround 2 (some .boolean), Cond.methodLink RX0 75 yX0_isOnNewStone, Cond.methodLink RX0 53 yX0_move, Cond.instanceMethod yX0_move, Cond.selects RX0 yX0_move yX0_move, Cond.code yX0_move cX0_move 5 (some .boolean), Cond.methodLink RX0 69 yX3_neighbour, Cond.methodLink RX0 72 yX3_price, Cond.methodLink RX0 57 yX3_isHollow, Cond.methodLink RL 48 yX9_day, Cond.instanceMethod yX9_day, Cond.selects RX9 yX9_day yX9_day, Cond.code yX9_day cX9_day 2 (some .int), Cond.methodLink RX9 290 yX9_lead, Cond.instanceMethod yX9_lead, Cond.selects RX9 yX9_lead yX9_lead, Cond.code yX9_lead cX9_lead 3 (some .int), Cond.methodLink RX9 287 yX9_goOwn, Cond.instanceMethod yX9_goOwn]
def wsL_law_r26 : List Cond := [Cond.selects RX9 yX9_goOwn yX9_goOwn, Cond.code yX9_goOwn cX9_goOwn 3 (some .boolean), Cond.methodLink RX9 283 yX9_goDay, Cond.instanceMethod yX9_goDay, Cond.selects RX9 yX9_goDay yX9_goDay, Cond.code yX9_goDay cX9_goDay 7 (some .boolean), Cond.methodLink RX9 273 yX9_obeys, Cond.instanceMethod yX9_obeys, Cond.selects RX9 yX9_obeys yX9_obeys, Cond.code yX9_obeys cX9_obeys 2 (some .boolean), Cond.methodLink RX9 276 yX9_storeThen, Cond.static yX9_storeThen, Cond.code yX9_storeThen cX9_storeThen 6 (some .int), Cond.methodLink RX9 280 yX9_dustThen, Cond.static yX9_dustThen, Cond.code yX9_dustThen cX9_dustThen 4 (some .int), Cond.methodLink RL 49 yX8_days, Cond.instanceMethod yX8_days, Cond.selects RX8 yX8_days yX8_days, Cond.code yX8_days cX8_days 4 (some .int), Cond.methodLink RL 52 yX9_days, Cond.instanceMethod yX9_days, Cond.selects RX9 yX9_days yX9_days, Cond.code yX9_days cX9_days 4 (some .int)]
def wsL_law_r27 : List Cond := [Cond.methodLink RL 53 yX8_led, Cond.instanceMethod yX8_led, Cond.selects RX8 yX8_led yX8_led, Cond.code yX8_led cX8_led 3 (some .int), Cond.methodLink RX8 188 yX8_isOneOf, Cond.static yX8_isOneOf, Cond.code yX8_isOneOf cX8_isOneOf 2 (some .boolean), Cond.methodLink RL 56 yX9_led, Cond.instanceMethod yX9_led, Cond.selects RX9 yX9_led yX9_led, Cond.code yX9_led cX9_led 3 (some .int), Cond.methodLink RL 57 yX8_run, Cond.instanceMethod yX8_run, Cond.selects RX8 yX8_run yX8_run, Cond.code yX8_run cX8_run 6 (some .int), Cond.methodLink RX8 191 yX8_refusedBytes, Cond.instanceMethod yX8_refusedBytes, Cond.selects RX8 yX8_refusedBytes yX8_refusedBytes, Cond.code yX8_refusedBytes cX8_refusedBytes 2 (some .int), Cond.methodLink RX8 194 yX0_become, Cond.instanceMethod yX0_become, Cond.selects RX0 yX0_become yX0_become, Cond.code yX0_become cX0_become 2 none, Cond.methodLink RX0 21 yX0_place]
def wsL_law_r28 : List Cond := [Cond.instanceMethod yX0_place, Cond.selects RX0 yX0_place yX0_place, Cond.code yX0_place cX0_place 4 none, Cond.methodLink RX8 197 yX8_orderOn, Cond.static yX8_orderOn, Cond.code yX8_orderOn cX8_orderOn 3 (some .int), Cond.methodLink RX8 201 yX8_thoughtOf, Cond.instanceMethod yX8_thoughtOf, Cond.selects RX8 yX8_thoughtOf yX8_thoughtOf, Cond.code yX8_thoughtOf cX8_thoughtOf 2 (some .int), Cond.methodLink RL 60 yX9_run, Cond.instanceMethod yX9_run, Cond.selects RX9 yX9_run yX9_run, Cond.code yX9_run cX9_run 5 (some .int), Cond.methodLink RX9 299 yX9_rowFault, Cond.instanceMethod yX9_rowFault, Cond.selects RX9 yX9_rowFault yX9_rowFault, Cond.code yX9_rowFault cX9_rowFault 2 (some .int), Cond.methodLink RX9 302 yX9_think, Cond.instanceMethod yX9_think, Cond.selects RX9 yX9_think yX9_think, Cond.code yX9_think cX9_think 1 none, Cond.fieldLink RX9 261 "DustCartModel" "keptCell" "I", Cond.fieldLink RX9 264 "DustCartModel" "keptStore" "I"]
def wsL_law_r29 : List Cond := [Cond.fieldLink RX9 267 "DustCartModel" "keptDust" "I", Cond.fieldLink RX9 270 "DustCartModel" "keptLooked" "J", Cond.methodLink RX9 305 yX9_orderAt, Cond.instanceMethod yX9_orderAt, Cond.selects RX9 yX9_orderAt yX9_orderAt, Cond.code yX9_orderAt cX9_orderAt 3 (some .int), Cond.methodLink RX9 293 yX9_byteAt, Cond.instanceMethod yX9_byteAt, Cond.selects RX9 yX9_byteAt yX9_byteAt, Cond.code yX9_byteAt cX9_byteAt 3 (some .int), Cond.methodLink RX9 308 yX9_tellThought, Cond.instanceMethod yX9_tellThought, Cond.selects RX9 yX9_tellThought yX9_tellThought, Cond.code yX9_tellThought cX9_tellThought 3 (some .int), Cond.methodLink RX9 296 yX9_unthink, Cond.instanceMethod yX9_unthink, Cond.selects RX9 yX9_unthink yX9_unthink, Cond.code yX9_unthink cX9_unthink 1 none, Cond.methodLink RL 61 yX8_first, Cond.instanceMethod yX8_first, Cond.selects RX8 yX8_first yX8_first, Cond.code yX8_first cX8_first 5 (some .int), Cond.methodLink RX8 204 Lib.Math.min.name, Cond.methodLink RL 64 yX9_first]
def wsL_law_r30 : List Cond := [Cond.instanceMethod yX9_first, Cond.selects RX9 yX9_first yX9_first, Cond.code yX9_first cX9_first 4 (some .int), Cond.methodLink RL 65 yX8_lawful, Cond.instanceMethod yX8_lawful, Cond.selects RX8 yX8_lawful yX8_lawful, Cond.code yX8_lawful cX8_lawful 4 (some .int), Cond.methodLink RL 68 yX9_lawful, Cond.instanceMethod yX9_lawful, Cond.selects RX9 yX9_lawful yX9_lawful, Cond.code yX9_lawful cX9_lawful 4 (some .int), Cond.methodLink RL 69 yX8_cheapest, Cond.instanceMethod yX8_cheapest, Cond.selects RX8 yX8_cheapest yX8_cheapest, Cond.code yX8_cheapest cX8_cheapest 5 (some .int), Cond.methodLink RX8 209 yX6_spreadTo, Cond.instanceMethod yX6_spreadTo, Cond.selects RX6 yX6_spreadTo yX6_spreadTo, Cond.code yX6_spreadTo cX6_spreadTo 7 none, Cond.constant RX6 27 (1000000), Cond.methodLink RX6 28 yX6_nearest, Cond.instanceMethod yX6_nearest, Cond.selects RX6 yX6_nearest yX6_nearest, Cond.code yX6_nearest cX6_nearest 5 (some .int)]
def wsL_law_r31 : List Cond := [Cond.methodLink RX6 32 yX6_spreadFrom, Cond.instanceMethod yX6_spreadFrom, Cond.selects RX6 yX6_spreadFrom yX6_spreadFrom, Cond.code yX6_spreadFrom cX6_spreadFrom 5 none, Cond.methodLink RX6 43 Lib.Math.min.name, Cond.methodLink RX6 36 yX3_neighbour, Cond.methodLink RX6 40 yX3_price, Cond.methodLink RX8 213 yX6_costFrom, Cond.instanceMethod yX6_costFrom, Cond.selects RX6 yX6_costFrom yX6_costFrom, Cond.code yX6_costFrom cX6_costFrom 2 (some .int), Cond.methodLink RX6 48 yX3_isCell, Cond.methodLink RX8 216 yX6_firstFrom, Cond.instanceMethod yX6_firstFrom, Cond.selects RX6 yX6_firstFrom yX6_firstFrom, Cond.code yX6_firstFrom cX6_firstFrom 5 (some .int), Cond.methodLink RX6 52 yX6_costFrom, Cond.methodLink RL 72 yX9_cheapest, Cond.instanceMethod yX9_cheapest, Cond.selects RX9 yX9_cheapest yX9_cheapest, Cond.code yX9_cheapest cX9_cheapest 5 (some .int), Cond.methodLink RX9 312 yX9_findFar, Cond.instanceMethod yX9_findFar, Cond.selects RX9 yX9_findFar yX9_findFar]
def wsL_law_r32 : List Cond := [Cond.code yX9_findFar cX9_findFar 6 none, Cond.constant RX9 311 (1000000), Cond.methodLink RL 73 yX8_soonest, Cond.instanceMethod yX8_soonest, Cond.selects RX8 yX8_soonest yX8_soonest, Cond.code yX8_soonest cX8_soonest 3 (some .int), Cond.fieldLink RX8 224 "DustCart$Reach" "taken" "I", Cond.fieldLink RX8 227 "DustCart$Reach" "most" "I", Cond.methodLink RX8 220 yX4_find, Cond.instanceMethod yX4_find, Cond.selects RX4 yX4_find yX4_find, Cond.code yX4_find cX4_find 7 (some .boolean), Cond.methodLink RX4 37 Lib.Math.min.name, Cond.fieldLink RX4 47 "DustCart$Reach" "most" "I", Cond.fieldLink RX4 51 "DustCart$Reach" "taken" "I", Cond.methodLink RX4 27 yJ7_fill_53178, Cond.static yJ7_fill_53178, Cond.initialized RJ7, Cond.code yJ7_fill_53178 cJ7_fill_53178 4 none, Cond.methodLink RX4 33 yX4_arrive, Cond.static yX4_arrive, Cond.code yX4_arrive cX4_arrive 3 none, Cond.fieldLink RX4 58 "DustCart$Cart" "cell" "I", Cond.fieldLink RX4 61 "DustCart$Cart" "dust" "I"]
def wsL_law_r33 : List Cond := [Cond.fieldLink RX4 64 "DustCart$Cart" "store" "I", Cond.methodLink RX4 67 Lib.Math.max.name, Cond.methodLink RX4 43 yX4_mostIn, Cond.instanceMethod yX4_mostIn, Cond.selects RX4 yX4_mostIn yX4_mostIn, Cond.code yX4_mostIn cX4_mostIn 4 (some .int), Cond.methodLink RX4 54 yX4_goOn, Cond.instanceMethod yX4_goOn, Cond.selects RX4 yX4_goOn yX4_goOn, Cond.code yX4_goOn cX4_goOn 7 none, Cond.methodLink RX4 84 arraycopyName, Cond.methodLink RX4 70 yX3_sun, Cond.methodLink RX4 73 yX3_wind, Cond.methodLink RX4 76 yX0_place, Cond.methodLink RX4 80 yX0_liveUnder, Cond.methodLink RL 76 yX9_soonest, Cond.instanceMethod yX9_soonest, Cond.selects RX9 yX9_soonest yX9_soonest, Cond.code yX9_soonest cX9_soonest 4 (some .int), Cond.methodLink RX9 320 yX9_mostIn, Cond.instanceMethod yX9_mostIn, Cond.selects RX9 yX9_mostIn yX9_mostIn, Cond.code yX9_mostIn cX9_mostIn 4 (some .int), Cond.methodLink RX9 323 yX9_goOn]
def wsL_law_r34 : List Cond := [Cond.instanceMethod yX9_goOn, Cond.selects RX9 yX9_goOn yX9_goOn, Cond.code yX9_goOn cX9_goOn 5 none, Cond.methodLink RX9 316 yX9_come, Cond.instanceMethod yX9_come, Cond.selects RX9 yX9_come yX9_come, Cond.code yX9_come cX9_come 8 none, Cond.methodLink RL 77 yX8_round, Cond.instanceMethod yX8_round, Cond.selects RX8 yX8_round yX8_round, Cond.code yX8_round cX8_round 2 (some .int), Cond.fieldLink RX8 234 "DustCart$Ways" "roundCost" "I", Cond.fieldLink RX8 237 "DustCart$Ways" "roundFirst" "I", Cond.methodLink RX8 230 yX6_planRound, Cond.instanceMethod yX6_planRound, Cond.selects RX6 yX6_planRound yX6_planRound, Cond.code yX6_planRound cX6_planRound 5 (some .boolean), Cond.fieldLink RX6 60 "DustCart$Ways" "many" "I", Cond.fieldLink RX6 67 "DustCart$Cart" "cell" "I", Cond.methodLink RX6 56 yX6_listStones, Cond.instanceMethod yX6_listStones, Cond.selects RX6 yX6_listStones yX6_listStones, Cond.code yX6_listStones cX6_listStones 4 (some .boolean), Cond.methodLink RX6 79 yX3_isStone]
def wsL_law_r35 : List Cond := [Cond.methodLink RX6 82 yX0_hasLookedAt, Cond.methodLink RX6 64 yX6_spreadTo, Cond.methodLink RX6 72 yX6_leastRest, Cond.instanceMethod yX6_leastRest, Cond.selects RX6 yX6_leastRest yX6_leastRest, Cond.code yX6_leastRest cX6_leastRest 6 (some .int), Cond.methodLink RX6 75 yX6_chooseFirst, Cond.instanceMethod yX6_chooseFirst, Cond.selects RX6 yX6_chooseFirst yX6_chooseFirst, Cond.code yX6_chooseFirst cX6_chooseFirst 5 none, Cond.fieldLink RX6 85 "DustCart$Ways" "roundCost" "I", Cond.fieldLink RX6 88 "DustCart$Ways" "roundFirst" "I", Cond.methodLink RL 80 yX9_round, Cond.instanceMethod yX9_round, Cond.selects RX9 yX9_round yX9_round, Cond.code yX9_round cX9_round 5 (some .int), Cond.fieldLink RX9 326 "DustCartModel" "leastRound" "I", Cond.fieldLink RX9 329 "DustCartModel" "firstStone" "I", Cond.methodLink RX9 336 yX9_toNorth, Cond.instanceMethod yX9_toNorth, Cond.selects RX9 yX9_toNorth yX9_toNorth, Cond.code yX9_toNorth cX9_toNorth 4 (some .int), Cond.methodLink RX9 332 yX9_goRound, Cond.instanceMethod yX9_goRound]
def wsL_law_r36 : List Cond := [Cond.selects RX9 yX9_goRound yX9_goRound, Cond.code yX9_goRound cX9_goRound 7 none, Cond.methodLink RL 81 yX8_lasts, Cond.instanceMethod yX8_lasts, Cond.selects RX8 yX8_lasts yX8_lasts, Cond.code yX8_lasts cX8_lasts 3 (some .int), Cond.methodLink RX8 243 Lib.Math.max.name, Cond.methodLink RX8 240 yX3_sun, Cond.methodLink RX8 246 yX3_wind, Cond.methodLink RX8 249 yX0_liveUnder, Cond.methodLink RL 84 yX9_lasts, Cond.instanceMethod yX9_lasts, Cond.selects RX9 yX9_lasts yX9_lasts, Cond.code yX9_lasts cX9_lasts 4 (some .int), Cond.methodLink RL 85 yX8_clean, Cond.instanceMethod yX8_clean, Cond.selects RX8 yX8_clean yX8_clean, Cond.code yX8_clean cX8_clean 12 (some .long), Cond.constantLong RX8 253 (-9223372036854775808), Cond.constantLong RX8 258 (12), Cond.methodLink RX8 255 yX3_odds, Cond.instanceMethod yX3_odds, Cond.selects RX3 yX3_odds yX3_odds, Cond.code yX3_odds cX3_odds 1 (some .int)]
def wsL_law_r37 : List Cond := [Cond.methodLink RX8 260 yX8_power, Cond.static yX8_power, Cond.code yX8_power cX8_power 6 (some .long), Cond.methodLink RX8 264 yX8_greatestCommon, Cond.static yX8_greatestCommon, Cond.code yX8_greatestCommon cX8_greatestCommon 11 (some .long), Cond.methodLink RL 89 yX9_clean, Cond.instanceMethod yX9_clean, Cond.selects RX9 yX9_clean yX9_clean, Cond.code yX9_clean cX9_clean 9 (some .long), Cond.constantLong RX9 341 (-9223372036854775808), Cond.methodLink RX9 343 yX9_power, Cond.static yX9_power, Cond.code yX9_power cX9_power 5 (some .long), Cond.methodLink RX9 347 yX9_part, Cond.static yX9_part, Cond.code yX9_part cX9_part 11 (some .long), Cond.methodLink RL 90 yX8_line, Cond.instanceMethod yX8_line, Cond.selects RX8 yX8_line yX8_line, Cond.code yX8_line cX8_line 9 (some .long), Cond.methodLink RX8 268 yX8_endOfLine, Cond.static yX8_endOfLine, Cond.code yX8_endOfLine cX8_endOfLine 4 (some .int)]
def wsL_law_r38 : List Cond := [Cond.methodLink RL 94 yX9_line, Cond.instanceMethod yX9_line, Cond.selects RX9 yX9_line yX9_line, Cond.code yX9_line cX9_line 6 (some .long), Cond.methodLink RX9 351 yX9_endOf, Cond.instanceMethod yX9_endOf, Cond.selects RX9 yX9_endOf yX9_endOf, Cond.code yX9_endOf cX9_endOf 5 (some .int), Cond.methodLink RL 95 yX8_drawn, Cond.instanceMethod yX8_drawn, Cond.selects RX8 yX8_drawn yX8_drawn, Cond.code yX8_drawn cX8_drawn 11 (some .int), Cond.constant RX8 271 (1103515245), Cond.methodLink RL 98 yX9_drawn, Cond.instanceMethod yX9_drawn, Cond.selects RX9 yX9_drawn yX9_drawn, Cond.code yX9_drawn cX9_drawn 10 (some .int), Cond.constant RX9 354 (1103515245), Cond.methodLink RL 99 yX8_judge, Cond.instanceMethod yX8_judge, Cond.selects RX8 yX8_judge yX8_judge, Cond.code yX8_judge cX8_judge 5 (some .int), Cond.methodLink RL 102 yX9_judge, Cond.instanceMethod yX9_judge]
def wsL_law_r39 : List Cond := [Cond.selects RX9 yX9_judge yX9_judge, Cond.code yX9_judge cX9_judge 4 (some .int), Cond.methodLink RL 103 yX8_image, Cond.instanceMethod yX8_image, Cond.selects RX8 yX8_image yX8_image, Cond.code yX8_image cX8_image 1 (some .int), Cond.methodLink RL 106 yX9_image, Cond.instanceMethod yX9_image, Cond.selects RX9 yX9_image yX9_image, Cond.code yX9_image cX9_image 1 (some .int), Cond.fieldLink RX9 355 "DustCartModel" "hasImage" "Z", Cond.fieldLink RX9 358 "DustCartModel" "imageToday" "I", Cond.fieldLink RX9 361 "DustCartModel" "imageCell" "I", Cond.fieldLink RX9 364 "DustCartModel" "imageStore" "I", Cond.fieldLink RX9 367 "DustCartModel" "imageDust" "I", Cond.fieldLink RX9 370 "DustCartModel" "imageLooked" "J", Cond.methodLink RL 107 yX8_back, Cond.instanceMethod yX8_back, Cond.selects RX8 yX8_back yX8_back, Cond.code yX8_back cX8_back 1 (some .int), Cond.methodLink RL 110 yX9_back, Cond.instanceMethod yX9_back, Cond.selects RX9 yX9_back yX9_back, Cond.code yX9_back cX9_back 1 (some .int)]
def wsL_law_r40 : List Cond := [Cond.methodLink RL 111 yX8_undo, Cond.instanceMethod yX8_undo, Cond.selects RX8 yX8_undo yX8_undo, Cond.code yX8_undo cX8_undo 1 (some .int), Cond.fieldLink RX8 276 "DustCart$Changes" "done" "I", Cond.methodLink RX8 272 yX1_takeBack, Cond.instanceMethod yX1_takeBack, Cond.selects RX1 yX1_takeBack yX1_takeBack, Cond.code yX1_takeBack cX1_takeBack 2 (some .boolean), Cond.methodLink RX1 35 yX3_tell, Cond.methodLink RL 114 yX9_undo, Cond.instanceMethod yX9_undo, Cond.selects RX9 yX9_undo yX9_undo, Cond.code yX9_undo cX9_undo 1 (some .int), Cond.methodLink RL 115 yX8_redo, Cond.instanceMethod yX8_redo, Cond.selects RX8 yX8_redo yX8_redo, Cond.code yX8_redo cX8_redo 1 (some .int), Cond.fieldLink RX8 282 "DustCart$Changes" "known" "I", Cond.methodLink RX8 279 yX1_bringBack, Cond.instanceMethod yX1_bringBack, Cond.selects RX1 yX1_bringBack yX1_bringBack, Cond.code yX1_bringBack cX1_bringBack 2 (some .boolean), Cond.methodLink RL 118 yX9_redo]
def wsL_law_r41 : List Cond := [Cond.instanceMethod yX9_redo, Cond.selects RX9 yX9_redo yX9_redo, Cond.code yX9_redo cX9_redo 1 (some .int), Cond.methodLink RL 119 yX8_body, Cond.instanceMethod yX8_body, Cond.selects RX8 yX8_body yX8_body, Cond.code yX8_body cX8_body 3 (some .int), Cond.methodLink RX8 285 yX7_isKind, Cond.static yX7_isKind, Cond.code yX7_isKind cX7_isKind 1 (some .boolean), Cond.methodLink RX8 288 yX7_add, Cond.instanceMethod yX7_add, Cond.selects RX7 yX7_add yX7_add, Cond.code yX7_add cX7_add 2 (some .int), Cond.fieldLink RX7 23 "DustCart$Wheels" "kept" "I", Cond.methodLink RL 122 yX9_body, Cond.instanceMethod yX9_body, Cond.selects RX9 yX9_body yX9_body, Cond.code yX9_body cX9_body 2 (some .int), Cond.fieldLink RX9 373 "DustCartModel" "bodies" "I", Cond.methodLink RL 123 yX8_act, Cond.instanceMethod yX8_act, Cond.selects RX8 yX8_act yX8_act, Cond.code yX8_act cX8_act 4 (some .int)]
def wsL_law_r42 : List Cond := [Cond.methodLink RX8 291 yX7_perform, Cond.instanceMethod yX7_perform, Cond.selects RX7 yX7_perform yX7_perform, Cond.code yX7_perform cX7_perform 4 (some .int), Cond.fieldLink RX7 30 "DustCart$Wheels" "begun" "I", Cond.fieldLink RX7 33 "DustCart$Wheels" "number" "I", Cond.methodLink RX7 27 yX7_has, Cond.instanceMethod yX7_has, Cond.selects RX7 yX7_has yX7_has, Cond.code yX7_has cX7_has 2 (some .boolean), Cond.methodLink RX7 36 yX7_kindOf, Cond.instanceMethod yX7_kindOf, Cond.selects RX7 yX7_kindOf yX7_kindOf, Cond.code yX7_kindOf cX7_kindOf 2 (some .int), Cond.methodLink RX7 40 yX7_begin, Cond.instanceMethod yX7_begin, Cond.selects RX7 yX7_begin yX7_begin, Cond.code yX7_begin cX7_begin 7 (some .int), Cond.fieldLink RX7 44 "DustCart$Wheels" "BODIES" "[I", Cond.fieldLink RX7 20 "DustCart$Wheels" "ABOVE" "[I", Cond.methodLink RX7 16 yX7_isKind, Cond.methodLink RX7 47 yX7_answerOfWheel, Cond.instanceMethod yX7_answerOfWheel, Cond.selects RX7 yX7_answerOfWheel yX7_answerOfWheel]
def wsL_law_r43 : List Cond := [Cond.methodLink RX7 51 yX7_answerUnder, Cond.instanceMethod yX7_answerUnder, Cond.selects RX7 yX7_answerUnder yX7_answerUnder, Cond.code yX7_answerOfWheel cX7_answerOfWheel 4 (some .int), Cond.methodLink RX7 55 yX7_own, Cond.instanceMethod yX7_own, Cond.selects RX7 yX7_own yX7_own, Cond.code yX7_answerUnder cX7_answerUnder 7 (some .int), Cond.code yX7_own cX7_own 4 (some .int), Cond.methodLink RL 126 yX9_act, Cond.instanceMethod yX9_act, Cond.selects RX9 yX9_act yX9_act, Cond.code yX9_act cX9_act 4 (some .int), Cond.fieldLink RX9 376 "DustCartModel" "traces" "I", Cond.methodLink RX9 415 yX9_isBody, Cond.instanceMethod yX9_isBody, Cond.selects RX9 yX9_isBody yX9_isBody, Cond.code yX9_isBody cX9_isBody 2 (some .boolean), Cond.methodLink RX9 391 yX9_turning, Cond.instanceMethod yX9_turning, Cond.selects RX9 yX9_turning yX9_turning, Cond.code yX9_turning cX9_turning 3 (some .int), Cond.methodLink RX9 385 yX9_isUnder, Cond.static yX9_isUnder]
def wsL_law_r44 : List Cond := [Cond.code yX9_isUnder cX9_isUnder 2 (some .boolean), Cond.methodLink RX9 379 yX9_ran, Cond.instanceMethod yX9_ran, Cond.selects RX9 yX9_ran yX9_ran, Cond.code yX9_ran cX9_ran 2 none, Cond.methodLink RX9 382 yX9_plainTurns, Cond.instanceMethod yX9_plainTurns, Cond.selects RX9 yX9_plainTurns yX9_plainTurns, Cond.code yX9_plainTurns cX9_plainTurns 3 (some .int), Cond.methodLink RX9 388 yX9_northTurns, Cond.instanceMethod yX9_northTurns, Cond.selects RX9 yX9_northTurns yX9_northTurns, Cond.code yX9_northTurns cX9_northTurns 3 (some .int), Cond.methodLink RX9 409 yX9_moving, Cond.instanceMethod yX9_moving, Cond.selects RX9 yX9_moving yX9_moving, Cond.code yX9_moving cX9_moving 4 (some .int), Cond.methodLink RX9 397 yX9_dustyMoves, Cond.instanceMethod yX9_dustyMoves, Cond.selects RX9 yX9_dustyMoves yX9_dustyMoves, Cond.code yX9_dustyMoves cX9_dustyMoves 3 (some .int), Cond.methodLink RX9 394 yX9_plainMoves, Cond.instanceMethod yX9_plainMoves, Cond.selects RX9 yX9_plainMoves yX9_plainMoves]
def wsL_law_r45 : List Cond := [Cond.code yX9_plainMoves cX9_plainMoves 3 (some .int), Cond.methodLink RX9 400 yX9_looking, Cond.instanceMethod yX9_looking, Cond.selects RX9 yX9_looking yX9_looking, Cond.code yX9_looking cX9_looking 4 (some .int), Cond.methodLink RX9 406 yX9_cleanLooks, Cond.instanceMethod yX9_cleanLooks, Cond.selects RX9 yX9_cleanLooks yX9_cleanLooks, Cond.code yX9_cleanLooks cX9_cleanLooks 3 (some .int), Cond.methodLink RX9 403 yX9_plainLooks, Cond.instanceMethod yX9_plainLooks, Cond.selects RX9 yX9_plainLooks yX9_plainLooks, Cond.code yX9_plainLooks cX9_plainLooks 3 (some .int), Cond.methodLink RX9 418 yX9_telling, Cond.instanceMethod yX9_telling, Cond.selects RX9 yX9_telling yX9_telling, Cond.code yX9_telling cX9_telling 3 (some .int), Cond.methodLink RX9 412 yX9_plainTells, Cond.instanceMethod yX9_plainTells, Cond.selects RX9 yX9_plainTells yX9_plainTells, Cond.code yX9_plainTells cX9_plainTells 4 (some .int), Cond.methodLink RL 127 yX8_trace, Cond.instanceMethod yX8_trace, Cond.selects RX8 yX8_trace yX8_trace]
def wsL_law_r46 : List Cond := [Cond.code yX8_trace cX8_trace 3 (some .int), Cond.methodLink RX8 295 yX7_ranAt, Cond.instanceMethod yX7_ranAt, Cond.selects RX7 yX7_ranAt yX7_ranAt, Cond.code yX7_ranAt cX7_ranAt 2 (some .int), Cond.methodLink RL 130 yX9_trace, Cond.instanceMethod yX9_trace, Cond.selects RX9 yX9_trace yX9_trace, Cond.code yX9_trace cX9_trace 2 (some .int), Cond.methodLink RL 131 yX8_keep, Cond.instanceMethod yX8_keep, Cond.selects RX8 yX8_keep yX8_keep, Cond.code yX8_keep cX8_keep 3 (some .int), Cond.methodLink RX8 298 yX7_has, Cond.methodLink RX8 301 yX5_holdNothing, Cond.instanceMethod yX5_holdNothing, Cond.selects RX5 yX5_holdNothing yX5_holdNothing, Cond.code yX5_holdNothing cX5_holdNothing 1 none, Cond.methodLink RX8 304 yX5_holdBody, Cond.instanceMethod yX5_holdBody, Cond.selects RX5 yX5_holdBody yX5_holdBody, Cond.code yX5_holdBody cX5_holdBody 2 none, Cond.fieldLink RX5 20 "DustCart$Shelf" "body" "I", Cond.methodLink RL 134 yX9_keep]
def wsL_law_r47 : List Cond := [Cond.instanceMethod yX9_keep, Cond.selects RX9 yX9_keep yX9_keep, Cond.code yX9_keep cX9_keep 3 (some .int), Cond.methodLink RL 135 yX8_row, Cond.instanceMethod yX8_row, Cond.selects RX8 yX8_row yX8_row, Cond.code yX8_row cX8_row 4 (some .int), Cond.methodLink RX8 308 yX5_holdRow, Cond.instanceMethod yX5_holdRow, Cond.selects RX5 yX5_holdRow yX5_holdRow, Cond.code yX5_holdRow cX5_holdRow 3 none, Cond.methodLink RX5 23 Lib.Math.max.name, Cond.methodLink RX5 29 Lib.Math.min.name, Cond.methodLink RX5 35 yJ7_fill_d0a16, Cond.static yJ7_fill_d0a16, Cond.code yJ7_fill_d0a16 cJ7_fill_d0a16 5 none, Cond.methodLink RL 138 yX9_row, Cond.instanceMethod yX9_row, Cond.selects RX9 yX9_row yX9_row, Cond.code yX9_row cX9_row 5 (some .int), Cond.methodLink RL 141 yX8_put, Cond.instanceMethod yX8_put, Cond.selects RX8 yX8_put yX8_put, Cond.code yX8_put cX8_put 6 (some .int)]
def wsL_law_r48 : List Cond := [Cond.methodLink RX8 311 yX8_refusedPlace, Cond.static yX8_refusedPlace, Cond.code yX8_refusedPlace cX8_refusedPlace 2 (some .int), Cond.methodLink RX8 318 yX5_isRow, Cond.instanceMethod yX5_isRow, Cond.selects RX5 yX5_isRow yX5_isRow, Cond.code yX5_isRow cX5_isRow 1 (some .boolean), Cond.methodLink RX8 321 yX5_hasPlaces, Cond.methodLink RX8 314 yX5_set, Cond.instanceMethod yX5_set, Cond.selects RX5 yX5_set yX5_set, Cond.code yX5_set cX5_set 4 none, Cond.methodLink RX5 45 yX5_narrowed, Cond.instanceMethod yX5_narrowed, Cond.selects RX5 yX5_narrowed yX5_narrowed, Cond.code yX5_narrowed cX5_narrowed 3 (some .long), Cond.methodLink RL 145 yX9_put, Cond.instanceMethod yX9_put, Cond.selects RX9 yX9_put yX9_put, Cond.code yX9_put cX9_put 7 (some .int), Cond.methodLink RX9 427 yX9_whyNoPlace, Cond.instanceMethod yX9_whyNoPlace, Cond.selects RX9 yX9_whyNoPlace yX9_whyNoPlace, Cond.code yX9_whyNoPlace cX9_whyNoPlace 3 (some .int)]
def wsL_law_r49 : List Cond := [Cond.methodLink RL 146 yX8_element, Cond.instanceMethod yX8_element, Cond.selects RX8 yX8_element yX8_element, Cond.code yX8_element cX8_element 3 (some .long), Cond.methodLink RL 149 yX9_element, Cond.instanceMethod yX9_element, Cond.selects RX9 yX9_element yX9_element, Cond.code yX9_element cX9_element 3 (some .long), Cond.methodLink RL 150 yX8_shift, Cond.instanceMethod yX8_shift, Cond.selects RX8 yX8_shift yX8_shift, Cond.code yX8_shift cX8_shift 8 (some .int), Cond.fieldLink RX8 324 "DustCart$Shelf" "sort" "I", Cond.fieldLink RX8 327 "DustCart$Shelf" "elements" "[J", Cond.methodLink RX8 331 arraycopyName, Cond.methodLink RL 154 yX9_shift, Cond.instanceMethod yX9_shift, Cond.selects RX9 yX9_shift yX9_shift, Cond.code yX9_shift cX9_shift 7 (some .int), Cond.methodLink RL 155 yX8_taken, Cond.instanceMethod yX8_taken, Cond.selects RX8 yX8_taken yX8_taken, Cond.code yX8_taken cX8_taken 4 (some .int), Cond.fieldLink RX8 337 "DustCart$Shelf" "body" "I"]
def wsL_law_r50 : List Cond := [Cond.methodLink RX8 340 yX7_kindOf, Cond.methodLink RX8 343 yX7_isUnder, Cond.static yX7_isUnder, Cond.code yX7_isUnder cX7_isUnder 4 (some .boolean), Cond.methodLink RL 158 yX9_taken, Cond.instanceMethod yX9_taken, Cond.selects RX9 yX9_taken yX9_taken, Cond.code yX9_taken cX9_taken 3 (some .int), Cond.methodLink RL 159 yX8_count, Cond.instanceMethod yX8_count, Cond.selects RX8 yX8_count yX8_count, Cond.code yX8_count cX8_count 2 (some .int), Cond.fieldLink RX8 352 "DustCart$Wheels" "kept" "I", Cond.fieldLink RX8 354 "DustCart$Wheels" "begun" "I", Cond.methodLink RX8 346 yX3_stones, Cond.instanceMethod yX3_stones, Cond.selects RX3 yX3_stones yX3_stones, Cond.code yX3_stones cX3_stones 3 (some .int), Cond.methodLink RX3 40 yX3_isStone, Cond.methodLink RX8 349 yX3_hollows, Cond.instanceMethod yX3_hollows, Cond.selects RX3 yX3_hollows yX3_hollows, Cond.code yX3_hollows cX3_hollows 3 (some .int), Cond.methodLink RX3 44 yX3_isHollow]
def wsL_law_r51 : List Cond := [Cond.methodLink RL 162 yX9_count, Cond.instanceMethod yX9_count, Cond.selects RX9 yX9_count yX9_count, Cond.code yX9_count cX9_count 2 (some .int), Cond.methodLink RX9 421 yX9_stones, Cond.instanceMethod yX9_stones, Cond.selects RX9 yX9_stones yX9_stones, Cond.code yX9_stones cX9_stones 3 (some .int), Cond.methodLink RX9 424 yX9_hollows, Cond.instanceMethod yX9_hollows, Cond.selects RX9 yX9_hollows yX9_hollows, Cond.code yX9_hollows cX9_hollows 3 (some .int)]
def wsL_law : List Cond := (wsL_law_r1 ++ (wsL_law_r2 ++ (wsL_law_r3 ++ (wsL_law_r4 ++ (wsL_law_r5 ++ (wsL_law_r6 ++ (wsL_law_r7 ++ (wsL_law_r8 ++ (wsL_law_r9 ++ (wsL_law_r10 ++ (wsL_law_r11 ++ (wsL_law_r12 ++ (wsL_law_r13 ++ (wsL_law_r14 ++ (wsL_law_r15 ++ (wsL_law_r16 ++ (wsL_law_r17 ++ (wsL_law_r18 ++ (wsL_law_r19 ++ (wsL_law_r20 ++ (wsL_law_r21 ++ (wsL_law_r22 ++ (wsL_law_r23 ++ (wsL_law_r24 ++ (wsL_law_r25 ++ (wsL_law_r26 ++ (wsL_law_r27 ++ (wsL_law_r28 ++ (wsL_law_r29 ++ (wsL_law_r30 ++ (wsL_law_r31 ++ (wsL_law_r32 ++ (wsL_law_r33 ++ (wsL_law_r34 ++ (wsL_law_r35 ++ (wsL_law_r36 ++ (wsL_law_r37 ++ (wsL_law_r38 ++ (wsL_law_r39 ++ (wsL_law_r40 ++ (wsL_law_r41 ++ (wsL_law_r42 ++ (wsL_law_r43 ++ (wsL_law_r44 ++ (wsL_law_r45 ++ (wsL_law_r46 ++ (wsL_law_r47 ++ (wsL_law_r48 ++ (wsL_law_r49 ++ (wsL_law_r50 ++ wsL_law_r51)))))))))))))))))))))))))))))))))))))))))))))))))) ++ wsX80 ++ wsX90 ++ wsX30 ++ wsX00 ++ wsX20 ++ wsX60 ++ wsX40 ++ wsX10 ++ wsX50 ++ wsX70 ++ ([] : List Cond)
set_option maxRecDepth 20000 in
theorem wsL_law_in : ∀ w ∈ wsL_law, w ∈ lw_tbl := fun w h => (goodIn_p wsL_law [113, 116, 121, 132, 162, 201, 234, 260, 285, 312, 970, 378, 381, 388, 396, 400, 404, 408, 1169, 1173, 1176, 1179, 1182, 1185, 1189, 1193, 1161, 415, 419, 422, 426, 429, 433, 437, 441, 444, 1197, 1201, 1204, 1208, 1211, 451, 454, 458, 462, 466, 470, 474, 1215, 1218, 478, 482, 1222, 486, 490, 494, 498, 544, 522, 533, 502, 506, 540, 548, 518, 525, 529, 536, 514, 510, 1226, 1230, 1234, 1238, 1262, 1269, 1242, 1246, 1258, 1265, 1273, 1277, 1281, 1254, 1250, 553, 558, 561, 1285, 1289, 565, 569, 573, 577, 582, 586, 590, 594, 597, 602, 605, 1293, 1297, 1301, 1305, 1308, 609, 613, 617, 621, 626, 642, 630, 635, 1312, 1316, 1320, 1324, 1328, 1331, 1334, 646, 1338, 650, 653, 1342, 657, 661, 665, 669, 672, 676, 1346, 1350, 1354, 1358, 1362, 1366, 1370, 680, 1374, 685, 1378, 689, 693, 698, 702, 709, 714, 1382, 1386, 719, 723, 726, 729, 735, 739, 1391, 1395, 1399, 1403, 748, 752, 756, 763, 767, 1407, 1411, 1415, 771, 1419, 779, 784, 788, 791, 1423, 1427, 1430, 795, 798, 1434, 1438, 802, 1442, 807, 1447, 811, 1451, 815, 1455, 819, 823, 1157, 828, 832, 1165, 836, 839, 843, 1463, 847, 851, 855, 859, 863, 872, 880, 876, 1467, 1471, 1475, 1478, 1482, 1486, 1490, 1494, 1498, 1502, 1506, 1510, 1514, 1518, 1522, 884, 888, 1459, 892, 897, 901, 1538, 905, 909, 914, 1542, 918, 921, 925, 930, 934, 1546, 1550, 938, 1554, 942, 1558, 947, 951, 1562, 955, 959, 964, 1526, 1530, 1534] (by decide +kernel) (by decide +kernel) w h).1
theorem inlX0 : ∀ w ∈ wsX00, w ∈ wsL_law := fun _ h => List.mem_append_left _ (List.mem_append_left _ (List.mem_append_left _ (List.mem_append_left _ (List.mem_append_left _ (List.mem_append_left _ (List.mem_append_left _ (List.mem_append_right _ h)))))))
theorem inX0 : ∀ w ∈ wsX00, w ∈ lw_tbl := fun w h => wsL_law_in w (inlX0 w h)
theorem inlX1 : ∀ w ∈ wsX10, w ∈ wsL_law := fun _ h => List.mem_append_left _ (List.mem_append_left _ (List.mem_append_left _ (List.mem_append_right _ h)))
theorem inX1 : ∀ w ∈ wsX10, w ∈ lw_tbl := fun w h => wsL_law_in w (inlX1 w h)
theorem inlX2 : ∀ w ∈ wsX20, w ∈ wsL_law := fun _ h => List.mem_append_left _ (List.mem_append_left _ (List.mem_append_left _ (List.mem_append_left _ (List.mem_append_left _ (List.mem_append_left _ (List.mem_append_right _ h))))))
theorem inX2 : ∀ w ∈ wsX20, w ∈ lw_tbl := fun w h => wsL_law_in w (inlX2 w h)
theorem inlX3 : ∀ w ∈ wsX30, w ∈ wsL_law := fun _ h => List.mem_append_left _ (List.mem_append_left _ (List.mem_append_left _ (List.mem_append_left _ (List.mem_append_left _ (List.mem_append_left _ (List.mem_append_left _ (List.mem_append_left _ (List.mem_append_right _ h))))))))
theorem inX3 : ∀ w ∈ wsX30, w ∈ lw_tbl := fun w h => wsL_law_in w (inlX3 w h)
theorem inlX4 : ∀ w ∈ wsX40, w ∈ wsL_law := fun _ h => List.mem_append_left _ (List.mem_append_left _ (List.mem_append_left _ (List.mem_append_left _ (List.mem_append_right _ h))))
theorem inX4 : ∀ w ∈ wsX40, w ∈ lw_tbl := fun w h => wsL_law_in w (inlX4 w h)
theorem inlX5 : ∀ w ∈ wsX50, w ∈ wsL_law := fun _ h => List.mem_append_left _ (List.mem_append_left _ (List.mem_append_right _ h))
theorem inX5 : ∀ w ∈ wsX50, w ∈ lw_tbl := fun w h => wsL_law_in w (inlX5 w h)
theorem inlX6 : ∀ w ∈ wsX60, w ∈ wsL_law := fun _ h => List.mem_append_left _ (List.mem_append_left _ (List.mem_append_left _ (List.mem_append_left _ (List.mem_append_left _ (List.mem_append_right _ h)))))
theorem inX6 : ∀ w ∈ wsX60, w ∈ lw_tbl := fun w h => wsL_law_in w (inlX6 w h)
theorem inlX7 : ∀ w ∈ wsX70, w ∈ wsL_law := fun _ h => List.mem_append_left _ (List.mem_append_right _ h)
theorem inX7 : ∀ w ∈ wsX70, w ∈ lw_tbl := fun w h => wsL_law_in w (inlX7 w h)
theorem inlX8 : ∀ w ∈ wsX80, w ∈ wsL_law := fun _ h => List.mem_append_left _ (List.mem_append_left _ (List.mem_append_left _ (List.mem_append_left _ (List.mem_append_left _ (List.mem_append_left _ (List.mem_append_left _ (List.mem_append_left _ (List.mem_append_left _ (List.mem_append_left _ (List.mem_append_right _ h))))))))))
theorem inX8 : ∀ w ∈ wsX80, w ∈ lw_tbl := fun w h => wsL_law_in w (inlX8 w h)
theorem inlX9 : ∀ w ∈ wsX90, w ∈ wsL_law := fun _ h => List.mem_append_left _ (List.mem_append_left _ (List.mem_append_left _ (List.mem_append_left _ (List.mem_append_left _ (List.mem_append_left _ (List.mem_append_left _ (List.mem_append_left _ (List.mem_append_left _ (List.mem_append_right _ h)))))))))
theorem inX9 : ∀ w ∈ wsX90, w ∈ lw_tbl := fun w h => wsL_law_in w (inlX9 w h)
abbrev vwCl : List vw_C := [(RX0, TX0, 4), (RX1, TX1, 5), (RX2, TX2, 10), (RX3, TX3, 1), (RX4, TX4, 5), (RX5, TX5, 5), (RX6, TX6, 8), (RX7, TX7, 5), (RX8, TX8, 14), (RX9, TX9, 60)]
/-- the objects of DustCart$Cart, kind 0: what each holds, by its address -/
structure wK_O_Cart where
  f_cell : Nat → Int32
  f_store : Nat → Int32
  f_dust : Nat → Int32
  f_looked : Nat → Int64
/-- the objects of DustCart$Changes, kind 1: what each holds, by its address -/
structure wK_O_Changes where
  f_places : Nat → Option Nat
  f_before : Nat → Option Nat
  f_behind : Nat → Option Nat
  f_done : Nat → Int32
  f_known : Nat → Int32
/-- the objects of DustCart$Law, kind 2: what each holds, by its address -/
structure wK_O_Law where
  f_tape : Nat → Option Nat
  f_draft : Nat → Option Nat
  f_codes : Nat → Option Nat
  f_stack : Nat → Option Nat
  f_drafted : Nat → Int32
  f_coded : Nat → Int32
  f_high : Nat → Int32
  f_place : Nat → Int32
  f_fault : Nat → Int32
  f_fed : Nat → Int32
/-- the objects of DustCart$Plain, kind 3: what each holds, by its address -/
structure wK_O_Plain where
  f_numbers : Nat → Option Nat
/-- the objects of DustCart$Reach, kind 4: what each holds, by its address -/
structure wK_O_Reach where
  f_now : Nat → Option Nat
  f_next : Nat → Option Nat
  f_trial : Nat → Option Nat
  f_taken : Nat → Int32
  f_most : Nat → Int32
/-- the objects of DustCart$Shelf, kind 5: what each holds, by its address -/
structure wK_O_Shelf where
  f_elements : Nat → Option Nat
  f_holds : Nat → Int32
  f_body : Nat → Int32
  f_sort : Nat → Int32
  f_length : Nat → Int32
/-- the objects of DustCart$Ways, kind 6: what each holds, by its address -/
structure wK_O_Ways where
  f_left : Nat → Option Nat
  f_stones : Nat → Option Nat
  f_toStone : Nat → Option Nat
  f_between : Nat → Option Nat
  f_rest : Nat → Option Nat
  f_many : Nat → Int32
  f_roundCost : Nat → Int32
  f_roundFirst : Nat → Int32
/-- the objects of DustCart$Wheels, kind 7: what each holds, by its address -/
structure wK_O_Wheels where
  f_kinds : Nat → Option Nat
  f_ran : Nat → Option Nat
  f_number : Nat → Int32
  f_kept : Nat → Int32
  f_begun : Nat → Int32
/-- the objects of DustCart, kind 8: what each holds, by its address -/
structure wK_O_DustCart where
  f_plain : Nat → Option Nat
  f_cart : Nat → Option Nat
  f_thought : Nat → Option Nat
  f_kept : Nat → Option Nat
  f_orders : Nat → Option Nat
  f_could : Nat → Option Nat
  f_rule : Nat → Option Nat
  f_ways : Nat → Option Nat
  f_reach : Nat → Option Nat
  f_changes : Nat → Option Nat
  f_shelves : Nat → Option Nat
  f_wheels : Nat → Option Nat
  f_today : Nat → Int32
  f_keptDay : Nat → Int32
/-- the objects of DustCartModel, kind 9: what each holds, by its address -/
structure wK_O_DustCartModel where
  f_code : Nat → Int32
  f_high : Nat → Option Nat
  f_stone : Nat → Option Nat
  f_sun : Nat → Option Nat
  f_wind : Nat → Option Nat
  f_wheels : Nat → Int32
  f_odds : Nat → Int32
  f_today : Nat → Int32
  f_cell : Nat → Int32
  f_store : Nat → Int32
  f_dust : Nat → Int32
  f_looked : Nat → Int64
  f_ledOrder : Nat → Option Nat
  f_ledCould : Nat → Option Nat
  f_doneMany : Nat → Int32
  f_undoneMany : Nat → Int32
  f_changeOf : Nat → Option Nat
  f_changeAt : Nat → Option Nat
  f_before : Nat → Option Nat
  f_behind : Nat → Option Nat
  f_tape : Nat → Option Nat
  f_taped : Nat → Int32
  f_here : Nat → Int32
  f_fault : Nat → Int32
  f_open : Nat → Int32
  f_laid : Nat → Int32
  f_act : Nat → Option Nat
  f_with : Nat → Option Nat
  f_lineMany : Nat → Option Nat
  f_testEnd : Nat → Option Nat
  f_lineEnd : Nat → Option Nat
  f_facts : Nat → Option Nat
  f_pile : Nat → Option Nat
  f_hasLaw : Nat → Int32
  f_keptCell : Nat → Int32
  f_keptStore : Nat → Int32
  f_keptDust : Nat → Int32
  f_keptLooked : Nat → Int64
  f_far : Nat → Option Nat
  f_now : Nat → Option Nat
  f_later : Nat → Option Nat
  f_left : Nat → Option Nat
  f_between : Nat → Option Nat
  f_north : Nat → Option Nat
  f_leastRound : Nat → Int32
  f_firstStone : Nat → Int32
  f_hasImage : Nat → Int32
  f_imageToday : Nat → Int32
  f_imageCell : Nat → Int32
  f_imageStore : Nat → Int32
  f_imageDust : Nat → Int32
  f_imageLooked : Nat → Int64
  f_bodies : Nat → Int32
  f_kind : Nat → Option Nat
  f_traces : Nat → Int32
  f_traced : Nat → Option Nat
  f_holds : Nat → Option Nat
  f_size : Nat → Option Nat
  f_elements : Nat → Option Nat
  f_shifted : Nat → Option Nat
/-- the arrays of kind 10: what each holds, by its address -/
structure wK_R_B where
  len : Nat → Nat
  row : Nat → Nat → Int32
/-- the arrays of kind 11: what each holds, by its address -/
structure wK_R_I where
  len : Nat → Nat
  row : Nat → Nat → Int32
/-- the arrays of kind 12: what each holds, by its address -/
structure wK_R_J where
  len : Nat → Nat
  row : Nat → Nat → Int64
/-- the arrays of kind 13: what each holds, by its address -/
structure wK_R_S where
  len : Nat → Nat
  row : Nat → Nat → Int32
/-- the arrays of kind 14: what each holds, by its address -/
structure wK_R_Z where
  len : Nat → Nat
  row : Nat → Nat → Int32
/-- the arrays of kind 15: what each holds, by its address -/
structure wK_R_Shelf where
  len : Nat → Nat
  row : Nat → Nat → Option Nat
/-- the pool: the addresses, the kind of each, and the kinds -/
structure wPS where
  L : List Nat
  K : Nat → Nat
  O_Cart : wK_O_Cart
  O_Changes : wK_O_Changes
  O_Law : wK_O_Law
  O_Plain : wK_O_Plain
  O_Reach : wK_O_Reach
  O_Shelf : wK_O_Shelf
  O_Ways : wK_O_Ways
  O_Wheels : wK_O_Wheels
  O_DustCart : wK_O_DustCart
  O_DustCartModel : wK_O_DustCartModel
  R_B : wK_R_B
  R_I : wK_R_I
  R_J : wK_R_J
  R_S : wK_R_S
  R_Z : wK_R_Z
  R_Shelf : wK_R_Shelf
/-- the empty pool -/
