-- ===== PART A: goes FIRST, ahead of the names: the tables' words, and 'selects' of the private methods out of them =====
/-- a private method of a class that the tables say can be made, by its rows of tables_1 -/
def lw_okq (q : MethodName × Nat) : Prop := (q.1.cls ≠ "java/lang/invoke/MethodHandle" ∧ q.1.cls ≠ "java/lang/invoke/VarHandle") ∧ Cond.instantiable q.1.cls q.2 ∈ tables_1 ∧ Cond.privateMethod q.1 ∈ tables_1 ∧ Cond.instanceMethod q.1 ∈ tables_1
theorem lw_p0 : lw_okq (⟨"DustCart$Changes", "dropOldest", "()V"⟩, 5) := ⟨⟨by decide +kernel, by decide +kernel⟩, List.mem_of_getElem? (i := 163) (by decide +kernel), List.mem_of_getElem? (i := 312) (by decide +kernel), List.mem_of_getElem? (i := 313) (by decide +kernel)⟩
theorem lw_p1 : lw_okq (⟨"DustCart", "ofCell", "(II)I"⟩, 14) := ⟨⟨by decide +kernel, by decide +kernel⟩, List.mem_of_getElem? (i := 16) (by decide +kernel), List.mem_of_getElem? (i := 323) (by decide +kernel), List.mem_of_getElem? (i := 324) (by decide +kernel)⟩
theorem lw_p2 : lw_okq (⟨"DustCart", "ofCart", "(I)I"⟩, 14) := ⟨⟨by decide +kernel, by decide +kernel⟩, List.mem_of_getElem? (i := 16) (by decide +kernel), List.mem_of_getElem? (i := 345) (by decide +kernel), List.mem_of_getElem? (i := 346) (by decide +kernel)⟩
theorem lw_p3 : lw_okq (⟨"DustCart", "heightsFrom", "(LDustCart$Shelf;III)I"⟩, 14) := ⟨⟨by decide +kernel, by decide +kernel⟩, List.mem_of_getElem? (i := 16) (by decide +kernel), List.mem_of_getElem? (i := 370) (by decide +kernel), List.mem_of_getElem? (i := 371) (by decide +kernel)⟩
theorem lw_p4 : lw_okq (⟨"DustCart$Law", "readLines", "()V"⟩, 10) := ⟨⟨by decide +kernel, by decide +kernel⟩, List.mem_of_getElem? (i := 65) (by decide +kernel), List.mem_of_getElem? (i := 398) (by decide +kernel), List.mem_of_getElem? (i := 399) (by decide +kernel)⟩
theorem lw_p5 : lw_okq (⟨"DustCart$Law", "readOr", "(I)V"⟩, 10) := ⟨⟨by decide +kernel, by decide +kernel⟩, List.mem_of_getElem? (i := 65) (by decide +kernel), List.mem_of_getElem? (i := 402) (by decide +kernel), List.mem_of_getElem? (i := 403) (by decide +kernel)⟩
theorem lw_p6 : lw_okq (⟨"DustCart$Law", "readAnd", "(I)V"⟩, 10) := ⟨⟨by decide +kernel, by decide +kernel⟩, List.mem_of_getElem? (i := 65) (by decide +kernel), List.mem_of_getElem? (i := 406) (by decide +kernel), List.mem_of_getElem? (i := 407) (by decide +kernel)⟩
theorem lw_p7 : lw_okq (⟨"DustCart$Law", "readCompared", "(I)V"⟩, 10) := ⟨⟨by decide +kernel, by decide +kernel⟩, List.mem_of_getElem? (i := 65) (by decide +kernel), List.mem_of_getElem? (i := 410) (by decide +kernel), List.mem_of_getElem? (i := 411) (by decide +kernel)⟩
theorem lw_p8 : lw_okq (⟨"DustCart$Law", "readSum", "(I)V"⟩, 10) := ⟨⟨by decide +kernel, by decide +kernel⟩, List.mem_of_getElem? (i := 65) (by decide +kernel), List.mem_of_getElem? (i := 414) (by decide +kernel), List.mem_of_getElem? (i := 415) (by decide +kernel)⟩
theorem lw_p9 : lw_okq (⟨"DustCart$Law", "readProduct", "(I)V"⟩, 10) := ⟨⟨by decide +kernel, by decide +kernel⟩, List.mem_of_getElem? (i := 65) (by decide +kernel), List.mem_of_getElem? (i := 418) (by decide +kernel), List.mem_of_getElem? (i := 419) (by decide +kernel)⟩
theorem lw_p10 : lw_okq (⟨"DustCart$Law", "readOperand", "(I)V"⟩, 10) := ⟨⟨by decide +kernel, by decide +kernel⟩, List.mem_of_getElem? (i := 65) (by decide +kernel), List.mem_of_getElem? (i := 422) (by decide +kernel), List.mem_of_getElem? (i := 423) (by decide +kernel)⟩
theorem lw_p11 : lw_okq (⟨"DustCart$Law", "sign", "()I"⟩, 10) := ⟨⟨by decide +kernel, by decide +kernel⟩, List.mem_of_getElem? (i := 65) (by decide +kernel), List.mem_of_getElem? (i := 426) (by decide +kernel), List.mem_of_getElem? (i := 427) (by decide +kernel)⟩
theorem lw_p12 : lw_okq (⟨"DustCart$Law", "readNumber", "()V"⟩, 10) := ⟨⟨by decide +kernel, by decide +kernel⟩, List.mem_of_getElem? (i := 65) (by decide +kernel), List.mem_of_getElem? (i := 433) (by decide +kernel), List.mem_of_getElem? (i := 434) (by decide +kernel)⟩
theorem lw_p13 : lw_okq (⟨"DustCart$Law", "write", "(I)V"⟩, 10) := ⟨⟨by decide +kernel, by decide +kernel⟩, List.mem_of_getElem? (i := 65) (by decide +kernel), List.mem_of_getElem? (i := 437) (by decide +kernel), List.mem_of_getElem? (i := 438) (by decide +kernel)⟩
theorem lw_p14 : lw_okq (⟨"DustCart$Law", "readOpened", "(II)V"⟩, 10) := ⟨⟨by decide +kernel, by decide +kernel⟩, List.mem_of_getElem? (i := 65) (by decide +kernel), List.mem_of_getElem? (i := 444) (by decide +kernel), List.mem_of_getElem? (i := 445) (by decide +kernel)⟩
theorem lw_p15 : lw_okq (⟨"DustCart$Law", "pass", "(I)Z"⟩, 10) := ⟨⟨by decide +kernel, by decide +kernel⟩, List.mem_of_getElem? (i := 65) (by decide +kernel), List.mem_of_getElem? (i := 448) (by decide +kernel), List.mem_of_getElem? (i := 449) (by decide +kernel)⟩
def lw_privs_1 : List (MethodName × Nat) := [(⟨"DustCart$Changes", "dropOldest", "()V"⟩, 5), (⟨"DustCart", "ofCell", "(II)I"⟩, 14), (⟨"DustCart", "ofCart", "(I)I"⟩, 14), (⟨"DustCart", "heightsFrom", "(LDustCart$Shelf;III)I"⟩, 14), (⟨"DustCart$Law", "readLines", "()V"⟩, 10), (⟨"DustCart$Law", "readOr", "(I)V"⟩, 10), (⟨"DustCart$Law", "readAnd", "(I)V"⟩, 10), (⟨"DustCart$Law", "readCompared", "(I)V"⟩, 10), (⟨"DustCart$Law", "readSum", "(I)V"⟩, 10), (⟨"DustCart$Law", "readProduct", "(I)V"⟩, 10), (⟨"DustCart$Law", "readOperand", "(I)V"⟩, 10), (⟨"DustCart$Law", "sign", "()I"⟩, 10), (⟨"DustCart$Law", "readNumber", "()V"⟩, 10), (⟨"DustCart$Law", "write", "(I)V"⟩, 10), (⟨"DustCart$Law", "readOpened", "(II)V"⟩, 10), (⟨"DustCart$Law", "pass", "(I)Z"⟩, 10)]
theorem lw_r1 : ∀ q ∈ lw_privs_1, lw_okq q := List.forall_mem_cons.mpr ⟨lw_p0, List.forall_mem_cons.mpr ⟨lw_p1, List.forall_mem_cons.mpr ⟨lw_p2, List.forall_mem_cons.mpr ⟨lw_p3, List.forall_mem_cons.mpr ⟨lw_p4, List.forall_mem_cons.mpr ⟨lw_p5, List.forall_mem_cons.mpr ⟨lw_p6, List.forall_mem_cons.mpr ⟨lw_p7, List.forall_mem_cons.mpr ⟨lw_p8, List.forall_mem_cons.mpr ⟨lw_p9, List.forall_mem_cons.mpr ⟨lw_p10, List.forall_mem_cons.mpr ⟨lw_p11, List.forall_mem_cons.mpr ⟨lw_p12, List.forall_mem_cons.mpr ⟨lw_p13, List.forall_mem_cons.mpr ⟨lw_p14, List.forall_mem_cons.mpr ⟨lw_p15, fun _ h => absurd h List.not_mem_nil⟩⟩⟩⟩⟩⟩⟩⟩⟩⟩⟩⟩⟩⟩⟩⟩
theorem lw_p16 : lw_okq (⟨"DustCart$Law", "refuse", "()V"⟩, 10) := ⟨⟨by decide +kernel, by decide +kernel⟩, List.mem_of_getElem? (i := 65) (by decide +kernel), List.mem_of_getElem? (i := 452) (by decide +kernel), List.mem_of_getElem? (i := 453) (by decide +kernel)⟩
theorem lw_p17 : lw_okq (⟨"DustCart$Law", "workOut", "(LDustCart$Plain;LDustCart$Cart;I)I"⟩, 10) := ⟨⟨by decide +kernel, by decide +kernel⟩, List.mem_of_getElem? (i := 65) (by decide +kernel), List.mem_of_getElem? (i := 486) (by decide +kernel), List.mem_of_getElem? (i := 487) (by decide +kernel)⟩
theorem lw_p18 : lw_okq (⟨"DustCart$Law", "pop", "()I"⟩, 10) := ⟨⟨by decide +kernel, by decide +kernel⟩, List.mem_of_getElem? (i := 65) (by decide +kernel), List.mem_of_getElem? (i := 490) (by decide +kernel), List.mem_of_getElem? (i := 491) (by decide +kernel)⟩
theorem lw_p19 : lw_okq (⟨"DustCart$Law", "step", "(ILDustCart$Plain;LDustCart$Cart;I)V"⟩, 10) := ⟨⟨by decide +kernel, by decide +kernel⟩, List.mem_of_getElem? (i := 65) (by decide +kernel), List.mem_of_getElem? (i := 494) (by decide +kernel), List.mem_of_getElem? (i := 495) (by decide +kernel)⟩
theorem lw_p20 : lw_okq (⟨"DustCart$Law", "push", "(I)V"⟩, 10) := ⟨⟨by decide +kernel, by decide +kernel⟩, List.mem_of_getElem? (i := 65) (by decide +kernel), List.mem_of_getElem? (i := 498) (by decide +kernel), List.mem_of_getElem? (i := 499) (by decide +kernel)⟩
theorem lw_p21 : lw_okq (⟨"DustCart", "live", "(I)Z"⟩, 14) := ⟨⟨by decide +kernel, by decide +kernel⟩, List.mem_of_getElem? (i := 16) (by decide +kernel), List.mem_of_getElem? (i := 517) (by decide +kernel), List.mem_of_getElem? (i := 518) (by decide +kernel)⟩
theorem lw_p22 : lw_okq (⟨"DustCart$Cart", "lookAround", "(LDustCart$Plain;)Z"⟩, 4) := ⟨⟨by decide +kernel, by decide +kernel⟩, List.mem_of_getElem? (i := 35) (by decide +kernel), List.mem_of_getElem? (i := 534) (by decide +kernel), List.mem_of_getElem? (i := 535) (by decide +kernel)⟩
theorem lw_p23 : lw_okq (⟨"DustCart$Cart", "move", "(LDustCart$Plain;I)Z"⟩, 4) := ⟨⟨by decide +kernel, by decide +kernel⟩, List.mem_of_getElem? (i := 35) (by decide +kernel), List.mem_of_getElem? (i := 539) (by decide +kernel), List.mem_of_getElem? (i := 540) (by decide +kernel)⟩
theorem lw_p24 : lw_okq (⟨"DustCart", "refusedBytes", "(I)I"⟩, 14) := ⟨⟨by decide +kernel, by decide +kernel⟩, List.mem_of_getElem? (i := 16) (by decide +kernel), List.mem_of_getElem? (i := 565) (by decide +kernel), List.mem_of_getElem? (i := 566) (by decide +kernel)⟩
theorem lw_p25 : lw_okq (⟨"DustCart", "thoughtOf", "(I)I"⟩, 14) := ⟨⟨by decide +kernel, by decide +kernel⟩, List.mem_of_getElem? (i := 16) (by decide +kernel), List.mem_of_getElem? (i := 580) (by decide +kernel), List.mem_of_getElem? (i := 581) (by decide +kernel)⟩
theorem lw_p26 : lw_okq (⟨"DustCart$Ways", "nearest", "(J)I"⟩, 8) := ⟨⟨by decide +kernel, by decide +kernel⟩, List.mem_of_getElem? (i := 104) (by decide +kernel), List.mem_of_getElem? (i := 602) (by decide +kernel), List.mem_of_getElem? (i := 603) (by decide +kernel)⟩
theorem lw_p27 : lw_okq (⟨"DustCart$Ways", "spreadFrom", "(LDustCart$Plain;I)V"⟩, 8) := ⟨⟨by decide +kernel, by decide +kernel⟩, List.mem_of_getElem? (i := 104) (by decide +kernel), List.mem_of_getElem? (i := 606) (by decide +kernel), List.mem_of_getElem? (i := 607) (by decide +kernel)⟩
theorem lw_p28 : lw_okq (⟨"DustCart$Reach", "mostIn", "(I)I"⟩, 5) := ⟨⟨by decide +kernel, by decide +kernel⟩, List.mem_of_getElem? (i := 137) (by decide +kernel), List.mem_of_getElem? (i := 639) (by decide +kernel), List.mem_of_getElem? (i := 640) (by decide +kernel)⟩
theorem lw_p29 : lw_okq (⟨"DustCart$Reach", "goOn", "(LDustCart$Plain;I)V"⟩, 5) := ⟨⟨by decide +kernel, by decide +kernel⟩, List.mem_of_getElem? (i := 137) (by decide +kernel), List.mem_of_getElem? (i := 643) (by decide +kernel), List.mem_of_getElem? (i := 644) (by decide +kernel)⟩
theorem lw_p30 : lw_okq (⟨"DustCart$Ways", "listStones", "(LDustCart$Plain;LDustCart$Cart;)Z"⟩, 8) := ⟨⟨by decide +kernel, by decide +kernel⟩, List.mem_of_getElem? (i := 104) (by decide +kernel), List.mem_of_getElem? (i := 660) (by decide +kernel), List.mem_of_getElem? (i := 661) (by decide +kernel)⟩
theorem lw_p31 : lw_okq (⟨"DustCart$Ways", "leastRest", "(II)I"⟩, 8) := ⟨⟨by decide +kernel, by decide +kernel⟩, List.mem_of_getElem? (i := 104) (by decide +kernel), List.mem_of_getElem? (i := 667) (by decide +kernel), List.mem_of_getElem? (i := 668) (by decide +kernel)⟩
def lw_privs_2 : List (MethodName × Nat) := [(⟨"DustCart$Law", "refuse", "()V"⟩, 10), (⟨"DustCart$Law", "workOut", "(LDustCart$Plain;LDustCart$Cart;I)I"⟩, 10), (⟨"DustCart$Law", "pop", "()I"⟩, 10), (⟨"DustCart$Law", "step", "(ILDustCart$Plain;LDustCart$Cart;I)V"⟩, 10), (⟨"DustCart$Law", "push", "(I)V"⟩, 10), (⟨"DustCart", "live", "(I)Z"⟩, 14), (⟨"DustCart$Cart", "lookAround", "(LDustCart$Plain;)Z"⟩, 4), (⟨"DustCart$Cart", "move", "(LDustCart$Plain;I)Z"⟩, 4), (⟨"DustCart", "refusedBytes", "(I)I"⟩, 14), (⟨"DustCart", "thoughtOf", "(I)I"⟩, 14), (⟨"DustCart$Ways", "nearest", "(J)I"⟩, 8), (⟨"DustCart$Ways", "spreadFrom", "(LDustCart$Plain;I)V"⟩, 8), (⟨"DustCart$Reach", "mostIn", "(I)I"⟩, 5), (⟨"DustCart$Reach", "goOn", "(LDustCart$Plain;I)V"⟩, 5), (⟨"DustCart$Ways", "listStones", "(LDustCart$Plain;LDustCart$Cart;)Z"⟩, 8), (⟨"DustCart$Ways", "leastRest", "(II)I"⟩, 8)]
theorem lw_r2 : ∀ q ∈ lw_privs_2, lw_okq q := List.forall_mem_cons.mpr ⟨lw_p16, List.forall_mem_cons.mpr ⟨lw_p17, List.forall_mem_cons.mpr ⟨lw_p18, List.forall_mem_cons.mpr ⟨lw_p19, List.forall_mem_cons.mpr ⟨lw_p20, List.forall_mem_cons.mpr ⟨lw_p21, List.forall_mem_cons.mpr ⟨lw_p22, List.forall_mem_cons.mpr ⟨lw_p23, List.forall_mem_cons.mpr ⟨lw_p24, List.forall_mem_cons.mpr ⟨lw_p25, List.forall_mem_cons.mpr ⟨lw_p26, List.forall_mem_cons.mpr ⟨lw_p27, List.forall_mem_cons.mpr ⟨lw_p28, List.forall_mem_cons.mpr ⟨lw_p29, List.forall_mem_cons.mpr ⟨lw_p30, List.forall_mem_cons.mpr ⟨lw_p31, fun _ h => absurd h List.not_mem_nil⟩⟩⟩⟩⟩⟩⟩⟩⟩⟩⟩⟩⟩⟩⟩⟩
theorem lw_p32 : lw_okq (⟨"DustCart$Ways", "chooseFirst", "(I)V"⟩, 8) := ⟨⟨by decide +kernel, by decide +kernel⟩, List.mem_of_getElem? (i := 104) (by decide +kernel), List.mem_of_getElem? (i := 671) (by decide +kernel), List.mem_of_getElem? (i := 672) (by decide +kernel)⟩
theorem lw_p33 : lw_okq (⟨"DustCart$Wheels", "begin", "(IIII)I"⟩, 5) := ⟨⟨by decide +kernel, by decide +kernel⟩, List.mem_of_getElem? (i := 215) (by decide +kernel), List.mem_of_getElem? (i := 767) (by decide +kernel), List.mem_of_getElem? (i := 768) (by decide +kernel)⟩
theorem lw_p34 : lw_okq (⟨"DustCart$Wheels", "answerOfWheel", "(III)I"⟩, 5) := ⟨⟨by decide +kernel, by decide +kernel⟩, List.mem_of_getElem? (i := 215) (by decide +kernel), List.mem_of_getElem? (i := 776) (by decide +kernel), List.mem_of_getElem? (i := 777) (by decide +kernel)⟩
theorem lw_p35 : lw_okq (⟨"DustCart$Wheels", "own", "(III)I"⟩, 5) := ⟨⟨by decide +kernel, by decide +kernel⟩, List.mem_of_getElem? (i := 215) (by decide +kernel), List.mem_of_getElem? (i := 780) (by decide +kernel), List.mem_of_getElem? (i := 781) (by decide +kernel)⟩
theorem lw_p36 : lw_okq (⟨"DustCart$Wheels", "answerUnder", "(IIIII)I"⟩, 5) := ⟨⟨by decide +kernel, by decide +kernel⟩, List.mem_of_getElem? (i := 215) (by decide +kernel), List.mem_of_getElem? (i := 784) (by decide +kernel), List.mem_of_getElem? (i := 785) (by decide +kernel)⟩
theorem lw_p37 : lw_okq (⟨"DustCart$Shelf", "narrowed", "(J)J"⟩, 5) := ⟨⟨by decide +kernel, by decide +kernel⟩, List.mem_of_getElem? (i := 188) (by decide +kernel), List.mem_of_getElem? (i := 838) (by decide +kernel), List.mem_of_getElem? (i := 839) (by decide +kernel)⟩
theorem lw_p38 : lw_okq (⟨"DustCartModel", "lays", "(III)V"⟩, 60) := ⟨⟨by decide +kernel, by decide +kernel⟩, List.mem_of_getElem? (i := 873) (by decide +kernel), List.mem_of_getElem? (i := 1065) (by decide +kernel), List.mem_of_getElem? (i := 1066) (by decide +kernel)⟩
theorem lw_p39 : lw_okq (⟨"DustCartModel", "isThing", "(II)Z"⟩, 60) := ⟨⟨by decide +kernel, by decide +kernel⟩, List.mem_of_getElem? (i := 873) (by decide +kernel), List.mem_of_getElem? (i := 1077) (by decide +kernel), List.mem_of_getElem? (i := 1078) (by decide +kernel)⟩
theorem lw_p40 : lw_okq (⟨"DustCartModel", "changes", "(III)I"⟩, 60) := ⟨⟨by decide +kernel, by decide +kernel⟩, List.mem_of_getElem? (i := 873) (by decide +kernel), List.mem_of_getElem? (i := 1093) (by decide +kernel), List.mem_of_getElem? (i := 1094) (by decide +kernel)⟩
theorem lw_p41 : lw_okq (⟨"DustCartModel", "valueAt", "(II)I"⟩, 60) := ⟨⟨by decide +kernel, by decide +kernel⟩, List.mem_of_getElem? (i := 873) (by decide +kernel), List.mem_of_getElem? (i := 1097) (by decide +kernel), List.mem_of_getElem? (i := 1098) (by decide +kernel)⟩
theorem lw_p42 : lw_okq (⟨"DustCartModel", "isHollow", "(I)Z"⟩, 60) := ⟨⟨by decide +kernel, by decide +kernel⟩, List.mem_of_getElem? (i := 873) (by decide +kernel), List.mem_of_getElem? (i := 1105) (by decide +kernel), List.mem_of_getElem? (i := 1106) (by decide +kernel)⟩
theorem lw_p43 : lw_okq (⟨"DustCartModel", "isLooked", "(I)Z"⟩, 60) := ⟨⟨by decide +kernel, by decide +kernel⟩, List.mem_of_getElem? (i := 873) (by decide +kernel), List.mem_of_getElem? (i := 1112) (by decide +kernel), List.mem_of_getElem? (i := 1113) (by decide +kernel)⟩
theorem lw_p44 : lw_okq (⟨"DustCartModel", "readText", "(I)I"⟩, 60) := ⟨⟨by decide +kernel, by decide +kernel⟩, List.mem_of_getElem? (i := 873) (by decide +kernel), List.mem_of_getElem? (i := 1134) (by decide +kernel), List.mem_of_getElem? (i := 1135) (by decide +kernel)⟩
theorem lw_p45 : lw_okq (⟨"DustCartModel", "oneLine", "()V"⟩, 60) := ⟨⟨by decide +kernel, by decide +kernel⟩, List.mem_of_getElem? (i := 873) (by decide +kernel), List.mem_of_getElem? (i := 1138) (by decide +kernel), List.mem_of_getElem? (i := 1139) (by decide +kernel)⟩
theorem lw_p46 : lw_okq (⟨"DustCartModel", "either", "()V"⟩, 60) := ⟨⟨by decide +kernel, by decide +kernel⟩, List.mem_of_getElem? (i := 873) (by decide +kernel), List.mem_of_getElem? (i := 1142) (by decide +kernel), List.mem_of_getElem? (i := 1143) (by decide +kernel)⟩
theorem lw_p47 : lw_okq (⟨"DustCartModel", "both", "()V"⟩, 60) := ⟨⟨by decide +kernel, by decide +kernel⟩, List.mem_of_getElem? (i := 873) (by decide +kernel), List.mem_of_getElem? (i := 1146) (by decide +kernel), List.mem_of_getElem? (i := 1147) (by decide +kernel)⟩
def lw_privs_3 : List (MethodName × Nat) := [(⟨"DustCart$Ways", "chooseFirst", "(I)V"⟩, 8), (⟨"DustCart$Wheels", "begin", "(IIII)I"⟩, 5), (⟨"DustCart$Wheels", "answerOfWheel", "(III)I"⟩, 5), (⟨"DustCart$Wheels", "own", "(III)I"⟩, 5), (⟨"DustCart$Wheels", "answerUnder", "(IIIII)I"⟩, 5), (⟨"DustCart$Shelf", "narrowed", "(J)J"⟩, 5), (⟨"DustCartModel", "lays", "(III)V"⟩, 60), (⟨"DustCartModel", "isThing", "(II)Z"⟩, 60), (⟨"DustCartModel", "changes", "(III)I"⟩, 60), (⟨"DustCartModel", "valueAt", "(II)I"⟩, 60), (⟨"DustCartModel", "isHollow", "(I)Z"⟩, 60), (⟨"DustCartModel", "isLooked", "(I)Z"⟩, 60), (⟨"DustCartModel", "readText", "(I)I"⟩, 60), (⟨"DustCartModel", "oneLine", "()V"⟩, 60), (⟨"DustCartModel", "either", "()V"⟩, 60), (⟨"DustCartModel", "both", "()V"⟩, 60)]
theorem lw_r3 : ∀ q ∈ lw_privs_3, lw_okq q := List.forall_mem_cons.mpr ⟨lw_p32, List.forall_mem_cons.mpr ⟨lw_p33, List.forall_mem_cons.mpr ⟨lw_p34, List.forall_mem_cons.mpr ⟨lw_p35, List.forall_mem_cons.mpr ⟨lw_p36, List.forall_mem_cons.mpr ⟨lw_p37, List.forall_mem_cons.mpr ⟨lw_p38, List.forall_mem_cons.mpr ⟨lw_p39, List.forall_mem_cons.mpr ⟨lw_p40, List.forall_mem_cons.mpr ⟨lw_p41, List.forall_mem_cons.mpr ⟨lw_p42, List.forall_mem_cons.mpr ⟨lw_p43, List.forall_mem_cons.mpr ⟨lw_p44, List.forall_mem_cons.mpr ⟨lw_p45, List.forall_mem_cons.mpr ⟨lw_p46, List.forall_mem_cons.mpr ⟨lw_p47, fun _ h => absurd h List.not_mem_nil⟩⟩⟩⟩⟩⟩⟩⟩⟩⟩⟩⟩⟩⟩⟩⟩
theorem lw_p48 : lw_okq (⟨"DustCartModel", "compared", "()V"⟩, 60) := ⟨⟨by decide +kernel, by decide +kernel⟩, List.mem_of_getElem? (i := 873) (by decide +kernel), List.mem_of_getElem? (i := 1150) (by decide +kernel), List.mem_of_getElem? (i := 1151) (by decide +kernel)⟩
theorem lw_p49 : lw_okq (⟨"DustCartModel", "sum", "()V"⟩, 60) := ⟨⟨by decide +kernel, by decide +kernel⟩, List.mem_of_getElem? (i := 873) (by decide +kernel), List.mem_of_getElem? (i := 1154) (by decide +kernel), List.mem_of_getElem? (i := 1155) (by decide +kernel)⟩
theorem lw_p50 : lw_okq (⟨"DustCartModel", "product", "()V"⟩, 60) := ⟨⟨by decide +kernel, by decide +kernel⟩, List.mem_of_getElem? (i := 873) (by decide +kernel), List.mem_of_getElem? (i := 1158) (by decide +kernel), List.mem_of_getElem? (i := 1159) (by decide +kernel)⟩
theorem lw_p51 : lw_okq (⟨"DustCartModel", "operand", "()V"⟩, 60) := ⟨⟨by decide +kernel, by decide +kernel⟩, List.mem_of_getElem? (i := 873) (by decide +kernel), List.mem_of_getElem? (i := 1162) (by decide +kernel), List.mem_of_getElem? (i := 1163) (by decide +kernel)⟩
theorem lw_p52 : lw_okq (⟨"DustCartModel", "look", "()I"⟩, 60) := ⟨⟨by decide +kernel, by decide +kernel⟩, List.mem_of_getElem? (i := 873) (by decide +kernel), List.mem_of_getElem? (i := 1166) (by decide +kernel), List.mem_of_getElem? (i := 1167) (by decide +kernel)⟩
theorem lw_p53 : lw_okq (⟨"DustCartModel", "addStep", "(II)V"⟩, 60) := ⟨⟨by decide +kernel, by decide +kernel⟩, List.mem_of_getElem? (i := 873) (by decide +kernel), List.mem_of_getElem? (i := 1173) (by decide +kernel), List.mem_of_getElem? (i := 1174) (by decide +kernel)⟩
theorem lw_p54 : lw_okq (⟨"DustCartModel", "opens", "()Z"⟩, 60) := ⟨⟨by decide +kernel, by decide +kernel⟩, List.mem_of_getElem? (i := 873) (by decide +kernel), List.mem_of_getElem? (i := 1177) (by decide +kernel), List.mem_of_getElem? (i := 1178) (by decide +kernel)⟩
theorem lw_p55 : lw_okq (⟨"DustCartModel", "faulty", "()V"⟩, 60) := ⟨⟨by decide +kernel, by decide +kernel⟩, List.mem_of_getElem? (i := 873) (by decide +kernel), List.mem_of_getElem? (i := 1181) (by decide +kernel), List.mem_of_getElem? (i := 1182) (by decide +kernel)⟩
theorem lw_p56 : lw_okq (⟨"DustCartModel", "figure", "()V"⟩, 60) := ⟨⟨by decide +kernel, by decide +kernel⟩, List.mem_of_getElem? (i := 873) (by decide +kernel), List.mem_of_getElem? (i := 1185) (by decide +kernel), List.mem_of_getElem? (i := 1186) (by decide +kernel)⟩
theorem lw_p57 : lw_okq (⟨"DustCartModel", "costOf", "(II)I"⟩, 60) := ⟨⟨by decide +kernel, by decide +kernel⟩, List.mem_of_getElem? (i := 873) (by decide +kernel), List.mem_of_getElem? (i := 1193) (by decide +kernel), List.mem_of_getElem? (i := 1194) (by decide +kernel)⟩
theorem lw_p58 : lw_okq (⟨"DustCartModel", "orderOf", "(I)I"⟩, 60) := ⟨⟨by decide +kernel, by decide +kernel⟩, List.mem_of_getElem? (i := 873) (by decide +kernel), List.mem_of_getElem? (i := 1201) (by decide +kernel), List.mem_of_getElem? (i := 1202) (by decide +kernel)⟩
theorem lw_p59 : lw_okq (⟨"DustCartModel", "gives", "(I)I"⟩, 60) := ⟨⟨by decide +kernel, by decide +kernel⟩, List.mem_of_getElem? (i := 873) (by decide +kernel), List.mem_of_getElem? (i := 1205) (by decide +kernel), List.mem_of_getElem? (i := 1206) (by decide +kernel)⟩
theorem lw_p60 : lw_okq (⟨"DustCartModel", "worked", "(III)I"⟩, 60) := ⟨⟨by decide +kernel, by decide +kernel⟩, List.mem_of_getElem? (i := 873) (by decide +kernel), List.mem_of_getElem? (i := 1209) (by decide +kernel), List.mem_of_getElem? (i := 1210) (by decide +kernel)⟩
theorem lw_p61 : lw_okq (⟨"DustCartModel", "lead", "(I)I"⟩, 60) := ⟨⟨by decide +kernel, by decide +kernel⟩, List.mem_of_getElem? (i := 873) (by decide +kernel), List.mem_of_getElem? (i := 1220) (by decide +kernel), List.mem_of_getElem? (i := 1221) (by decide +kernel)⟩
theorem lw_p62 : lw_okq (⟨"DustCartModel", "goOwn", "(II)Z"⟩, 60) := ⟨⟨by decide +kernel, by decide +kernel⟩, List.mem_of_getElem? (i := 873) (by decide +kernel), List.mem_of_getElem? (i := 1224) (by decide +kernel), List.mem_of_getElem? (i := 1225) (by decide +kernel)⟩
theorem lw_p63 : lw_okq (⟨"DustCartModel", "goDay", "(IIII)Z"⟩, 60) := ⟨⟨by decide +kernel, by decide +kernel⟩, List.mem_of_getElem? (i := 873) (by decide +kernel), List.mem_of_getElem? (i := 1228) (by decide +kernel), List.mem_of_getElem? (i := 1229) (by decide +kernel)⟩
def lw_privs_4 : List (MethodName × Nat) := [(⟨"DustCartModel", "compared", "()V"⟩, 60), (⟨"DustCartModel", "sum", "()V"⟩, 60), (⟨"DustCartModel", "product", "()V"⟩, 60), (⟨"DustCartModel", "operand", "()V"⟩, 60), (⟨"DustCartModel", "look", "()I"⟩, 60), (⟨"DustCartModel", "addStep", "(II)V"⟩, 60), (⟨"DustCartModel", "opens", "()Z"⟩, 60), (⟨"DustCartModel", "faulty", "()V"⟩, 60), (⟨"DustCartModel", "figure", "()V"⟩, 60), (⟨"DustCartModel", "costOf", "(II)I"⟩, 60), (⟨"DustCartModel", "orderOf", "(I)I"⟩, 60), (⟨"DustCartModel", "gives", "(I)I"⟩, 60), (⟨"DustCartModel", "worked", "(III)I"⟩, 60), (⟨"DustCartModel", "lead", "(I)I"⟩, 60), (⟨"DustCartModel", "goOwn", "(II)Z"⟩, 60), (⟨"DustCartModel", "goDay", "(IIII)Z"⟩, 60)]
theorem lw_r4 : ∀ q ∈ lw_privs_4, lw_okq q := List.forall_mem_cons.mpr ⟨lw_p48, List.forall_mem_cons.mpr ⟨lw_p49, List.forall_mem_cons.mpr ⟨lw_p50, List.forall_mem_cons.mpr ⟨lw_p51, List.forall_mem_cons.mpr ⟨lw_p52, List.forall_mem_cons.mpr ⟨lw_p53, List.forall_mem_cons.mpr ⟨lw_p54, List.forall_mem_cons.mpr ⟨lw_p55, List.forall_mem_cons.mpr ⟨lw_p56, List.forall_mem_cons.mpr ⟨lw_p57, List.forall_mem_cons.mpr ⟨lw_p58, List.forall_mem_cons.mpr ⟨lw_p59, List.forall_mem_cons.mpr ⟨lw_p60, List.forall_mem_cons.mpr ⟨lw_p61, List.forall_mem_cons.mpr ⟨lw_p62, List.forall_mem_cons.mpr ⟨lw_p63, fun _ h => absurd h List.not_mem_nil⟩⟩⟩⟩⟩⟩⟩⟩⟩⟩⟩⟩⟩⟩⟩⟩
theorem lw_p64 : lw_okq (⟨"DustCartModel", "obeys", "(I)Z"⟩, 60) := ⟨⟨by decide +kernel, by decide +kernel⟩, List.mem_of_getElem? (i := 873) (by decide +kernel), List.mem_of_getElem? (i := 1232) (by decide +kernel), List.mem_of_getElem? (i := 1233) (by decide +kernel)⟩
theorem lw_p65 : lw_okq (⟨"DustCartModel", "rowFault", "(I)I"⟩, 60) := ⟨⟨by decide +kernel, by decide +kernel⟩, List.mem_of_getElem? (i := 873) (by decide +kernel), List.mem_of_getElem? (i := 1254) (by decide +kernel), List.mem_of_getElem? (i := 1255) (by decide +kernel)⟩
theorem lw_p66 : lw_okq (⟨"DustCartModel", "think", "()V"⟩, 60) := ⟨⟨by decide +kernel, by decide +kernel⟩, List.mem_of_getElem? (i := 873) (by decide +kernel), List.mem_of_getElem? (i := 1258) (by decide +kernel), List.mem_of_getElem? (i := 1259) (by decide +kernel)⟩
theorem lw_p67 : lw_okq (⟨"DustCartModel", "orderAt", "(II)I"⟩, 60) := ⟨⟨by decide +kernel, by decide +kernel⟩, List.mem_of_getElem? (i := 873) (by decide +kernel), List.mem_of_getElem? (i := 1262) (by decide +kernel), List.mem_of_getElem? (i := 1263) (by decide +kernel)⟩
theorem lw_p68 : lw_okq (⟨"DustCartModel", "byteAt", "(II)I"⟩, 60) := ⟨⟨by decide +kernel, by decide +kernel⟩, List.mem_of_getElem? (i := 873) (by decide +kernel), List.mem_of_getElem? (i := 1266) (by decide +kernel), List.mem_of_getElem? (i := 1267) (by decide +kernel)⟩
theorem lw_p69 : lw_okq (⟨"DustCartModel", "tellThought", "(I)I"⟩, 60) := ⟨⟨by decide +kernel, by decide +kernel⟩, List.mem_of_getElem? (i := 873) (by decide +kernel), List.mem_of_getElem? (i := 1270) (by decide +kernel), List.mem_of_getElem? (i := 1271) (by decide +kernel)⟩
theorem lw_p70 : lw_okq (⟨"DustCartModel", "unthink", "()V"⟩, 60) := ⟨⟨by decide +kernel, by decide +kernel⟩, List.mem_of_getElem? (i := 873) (by decide +kernel), List.mem_of_getElem? (i := 1274) (by decide +kernel), List.mem_of_getElem? (i := 1275) (by decide +kernel)⟩
theorem lw_p71 : lw_okq (⟨"DustCartModel", "findFar", "(I)V"⟩, 60) := ⟨⟨by decide +kernel, by decide +kernel⟩, List.mem_of_getElem? (i := 873) (by decide +kernel), List.mem_of_getElem? (i := 1290) (by decide +kernel), List.mem_of_getElem? (i := 1291) (by decide +kernel)⟩
theorem lw_p72 : lw_okq (⟨"DustCartModel", "mostIn", "(I)I"⟩, 60) := ⟨⟨by decide +kernel, by decide +kernel⟩, List.mem_of_getElem? (i := 873) (by decide +kernel), List.mem_of_getElem? (i := 1299) (by decide +kernel), List.mem_of_getElem? (i := 1300) (by decide +kernel)⟩
theorem lw_p73 : lw_okq (⟨"DustCartModel", "goOn", "(I)V"⟩, 60) := ⟨⟨by decide +kernel, by decide +kernel⟩, List.mem_of_getElem? (i := 873) (by decide +kernel), List.mem_of_getElem? (i := 1303) (by decide +kernel), List.mem_of_getElem? (i := 1304) (by decide +kernel)⟩
theorem lw_p74 : lw_okq (⟨"DustCartModel", "come", "(IIII)V"⟩, 60) := ⟨⟨by decide +kernel, by decide +kernel⟩, List.mem_of_getElem? (i := 873) (by decide +kernel), List.mem_of_getElem? (i := 1307) (by decide +kernel), List.mem_of_getElem? (i := 1308) (by decide +kernel)⟩
theorem lw_p75 : lw_okq (⟨"DustCartModel", "toNorth", "(I)I"⟩, 60) := ⟨⟨by decide +kernel, by decide +kernel⟩, List.mem_of_getElem? (i := 873) (by decide +kernel), List.mem_of_getElem? (i := 1315) (by decide +kernel), List.mem_of_getElem? (i := 1316) (by decide +kernel)⟩
theorem lw_p76 : lw_okq (⟨"DustCartModel", "goRound", "(IIIII)V"⟩, 60) := ⟨⟨by decide +kernel, by decide +kernel⟩, List.mem_of_getElem? (i := 873) (by decide +kernel), List.mem_of_getElem? (i := 1319) (by decide +kernel), List.mem_of_getElem? (i := 1320) (by decide +kernel)⟩
theorem lw_p77 : lw_okq (⟨"DustCartModel", "endOf", "(II)I"⟩, 60) := ⟨⟨by decide +kernel, by decide +kernel⟩, List.mem_of_getElem? (i := 873) (by decide +kernel), List.mem_of_getElem? (i := 1342) (by decide +kernel), List.mem_of_getElem? (i := 1343) (by decide +kernel)⟩
theorem lw_p78 : lw_okq (⟨"DustCartModel", "isBody", "(I)Z"⟩, 60) := ⟨⟨by decide +kernel, by decide +kernel⟩, List.mem_of_getElem? (i := 873) (by decide +kernel), List.mem_of_getElem? (i := 1375) (by decide +kernel), List.mem_of_getElem? (i := 1376) (by decide +kernel)⟩
theorem lw_p79 : lw_okq (⟨"DustCartModel", "turning", "(II)I"⟩, 60) := ⟨⟨by decide +kernel, by decide +kernel⟩, List.mem_of_getElem? (i := 873) (by decide +kernel), List.mem_of_getElem? (i := 1379) (by decide +kernel), List.mem_of_getElem? (i := 1380) (by decide +kernel)⟩
def lw_privs_5 : List (MethodName × Nat) := [(⟨"DustCartModel", "obeys", "(I)Z"⟩, 60), (⟨"DustCartModel", "rowFault", "(I)I"⟩, 60), (⟨"DustCartModel", "think", "()V"⟩, 60), (⟨"DustCartModel", "orderAt", "(II)I"⟩, 60), (⟨"DustCartModel", "byteAt", "(II)I"⟩, 60), (⟨"DustCartModel", "tellThought", "(I)I"⟩, 60), (⟨"DustCartModel", "unthink", "()V"⟩, 60), (⟨"DustCartModel", "findFar", "(I)V"⟩, 60), (⟨"DustCartModel", "mostIn", "(I)I"⟩, 60), (⟨"DustCartModel", "goOn", "(I)V"⟩, 60), (⟨"DustCartModel", "come", "(IIII)V"⟩, 60), (⟨"DustCartModel", "toNorth", "(I)I"⟩, 60), (⟨"DustCartModel", "goRound", "(IIIII)V"⟩, 60), (⟨"DustCartModel", "endOf", "(II)I"⟩, 60), (⟨"DustCartModel", "isBody", "(I)Z"⟩, 60), (⟨"DustCartModel", "turning", "(II)I"⟩, 60)]
theorem lw_r5 : ∀ q ∈ lw_privs_5, lw_okq q := List.forall_mem_cons.mpr ⟨lw_p64, List.forall_mem_cons.mpr ⟨lw_p65, List.forall_mem_cons.mpr ⟨lw_p66, List.forall_mem_cons.mpr ⟨lw_p67, List.forall_mem_cons.mpr ⟨lw_p68, List.forall_mem_cons.mpr ⟨lw_p69, List.forall_mem_cons.mpr ⟨lw_p70, List.forall_mem_cons.mpr ⟨lw_p71, List.forall_mem_cons.mpr ⟨lw_p72, List.forall_mem_cons.mpr ⟨lw_p73, List.forall_mem_cons.mpr ⟨lw_p74, List.forall_mem_cons.mpr ⟨lw_p75, List.forall_mem_cons.mpr ⟨lw_p76, List.forall_mem_cons.mpr ⟨lw_p77, List.forall_mem_cons.mpr ⟨lw_p78, List.forall_mem_cons.mpr ⟨lw_p79, fun _ h => absurd h List.not_mem_nil⟩⟩⟩⟩⟩⟩⟩⟩⟩⟩⟩⟩⟩⟩⟩⟩
theorem lw_p80 : lw_okq (⟨"DustCartModel", "ran", "(I)V"⟩, 60) := ⟨⟨by decide +kernel, by decide +kernel⟩, List.mem_of_getElem? (i := 873) (by decide +kernel), List.mem_of_getElem? (i := 1386) (by decide +kernel), List.mem_of_getElem? (i := 1387) (by decide +kernel)⟩
theorem lw_p81 : lw_okq (⟨"DustCartModel", "plainTurns", "(II)I"⟩, 60) := ⟨⟨by decide +kernel, by decide +kernel⟩, List.mem_of_getElem? (i := 873) (by decide +kernel), List.mem_of_getElem? (i := 1390) (by decide +kernel), List.mem_of_getElem? (i := 1391) (by decide +kernel)⟩
theorem lw_p82 : lw_okq (⟨"DustCartModel", "northTurns", "(II)I"⟩, 60) := ⟨⟨by decide +kernel, by decide +kernel⟩, List.mem_of_getElem? (i := 873) (by decide +kernel), List.mem_of_getElem? (i := 1394) (by decide +kernel), List.mem_of_getElem? (i := 1395) (by decide +kernel)⟩
theorem lw_p83 : lw_okq (⟨"DustCartModel", "moving", "(II)I"⟩, 60) := ⟨⟨by decide +kernel, by decide +kernel⟩, List.mem_of_getElem? (i := 873) (by decide +kernel), List.mem_of_getElem? (i := 1398) (by decide +kernel), List.mem_of_getElem? (i := 1399) (by decide +kernel)⟩
theorem lw_p84 : lw_okq (⟨"DustCartModel", "dustyMoves", "(II)I"⟩, 60) := ⟨⟨by decide +kernel, by decide +kernel⟩, List.mem_of_getElem? (i := 873) (by decide +kernel), List.mem_of_getElem? (i := 1402) (by decide +kernel), List.mem_of_getElem? (i := 1403) (by decide +kernel)⟩
theorem lw_p85 : lw_okq (⟨"DustCartModel", "plainMoves", "(II)I"⟩, 60) := ⟨⟨by decide +kernel, by decide +kernel⟩, List.mem_of_getElem? (i := 873) (by decide +kernel), List.mem_of_getElem? (i := 1406) (by decide +kernel), List.mem_of_getElem? (i := 1407) (by decide +kernel)⟩
theorem lw_p86 : lw_okq (⟨"DustCartModel", "looking", "(II)I"⟩, 60) := ⟨⟨by decide +kernel, by decide +kernel⟩, List.mem_of_getElem? (i := 873) (by decide +kernel), List.mem_of_getElem? (i := 1410) (by decide +kernel), List.mem_of_getElem? (i := 1411) (by decide +kernel)⟩
theorem lw_p87 : lw_okq (⟨"DustCartModel", "cleanLooks", "(II)I"⟩, 60) := ⟨⟨by decide +kernel, by decide +kernel⟩, List.mem_of_getElem? (i := 873) (by decide +kernel), List.mem_of_getElem? (i := 1414) (by decide +kernel), List.mem_of_getElem? (i := 1415) (by decide +kernel)⟩
theorem lw_p88 : lw_okq (⟨"DustCartModel", "plainLooks", "(II)I"⟩, 60) := ⟨⟨by decide +kernel, by decide +kernel⟩, List.mem_of_getElem? (i := 873) (by decide +kernel), List.mem_of_getElem? (i := 1418) (by decide +kernel), List.mem_of_getElem? (i := 1419) (by decide +kernel)⟩
theorem lw_p89 : lw_okq (⟨"DustCartModel", "telling", "(II)I"⟩, 60) := ⟨⟨by decide +kernel, by decide +kernel⟩, List.mem_of_getElem? (i := 873) (by decide +kernel), List.mem_of_getElem? (i := 1422) (by decide +kernel), List.mem_of_getElem? (i := 1423) (by decide +kernel)⟩
theorem lw_p90 : lw_okq (⟨"DustCartModel", "plainTells", "(II)I"⟩, 60) := ⟨⟨by decide +kernel, by decide +kernel⟩, List.mem_of_getElem? (i := 873) (by decide +kernel), List.mem_of_getElem? (i := 1426) (by decide +kernel), List.mem_of_getElem? (i := 1427) (by decide +kernel)⟩
theorem lw_p91 : lw_okq (⟨"DustCartModel", "stones", "()I"⟩, 60) := ⟨⟨by decide +kernel, by decide +kernel⟩, List.mem_of_getElem? (i := 873) (by decide +kernel), List.mem_of_getElem? (i := 1434) (by decide +kernel), List.mem_of_getElem? (i := 1435) (by decide +kernel)⟩
theorem lw_p92 : lw_okq (⟨"DustCartModel", "hollows", "()I"⟩, 60) := ⟨⟨by decide +kernel, by decide +kernel⟩, List.mem_of_getElem? (i := 873) (by decide +kernel), List.mem_of_getElem? (i := 1438) (by decide +kernel), List.mem_of_getElem? (i := 1439) (by decide +kernel)⟩
theorem lw_p93 : lw_okq (⟨"DustCartModel", "whyNoPlace", "(II)I"⟩, 60) := ⟨⟨by decide +kernel, by decide +kernel⟩, List.mem_of_getElem? (i := 873) (by decide +kernel), List.mem_of_getElem? (i := 1454) (by decide +kernel), List.mem_of_getElem? (i := 1455) (by decide +kernel)⟩
def lw_privs_6 : List (MethodName × Nat) := [(⟨"DustCartModel", "ran", "(I)V"⟩, 60), (⟨"DustCartModel", "plainTurns", "(II)I"⟩, 60), (⟨"DustCartModel", "northTurns", "(II)I"⟩, 60), (⟨"DustCartModel", "moving", "(II)I"⟩, 60), (⟨"DustCartModel", "dustyMoves", "(II)I"⟩, 60), (⟨"DustCartModel", "plainMoves", "(II)I"⟩, 60), (⟨"DustCartModel", "looking", "(II)I"⟩, 60), (⟨"DustCartModel", "cleanLooks", "(II)I"⟩, 60), (⟨"DustCartModel", "plainLooks", "(II)I"⟩, 60), (⟨"DustCartModel", "telling", "(II)I"⟩, 60), (⟨"DustCartModel", "plainTells", "(II)I"⟩, 60), (⟨"DustCartModel", "stones", "()I"⟩, 60), (⟨"DustCartModel", "hollows", "()I"⟩, 60), (⟨"DustCartModel", "whyNoPlace", "(II)I"⟩, 60)]
theorem lw_r6 : ∀ q ∈ lw_privs_6, lw_okq q := List.forall_mem_cons.mpr ⟨lw_p80, List.forall_mem_cons.mpr ⟨lw_p81, List.forall_mem_cons.mpr ⟨lw_p82, List.forall_mem_cons.mpr ⟨lw_p83, List.forall_mem_cons.mpr ⟨lw_p84, List.forall_mem_cons.mpr ⟨lw_p85, List.forall_mem_cons.mpr ⟨lw_p86, List.forall_mem_cons.mpr ⟨lw_p87, List.forall_mem_cons.mpr ⟨lw_p88, List.forall_mem_cons.mpr ⟨lw_p89, List.forall_mem_cons.mpr ⟨lw_p90, List.forall_mem_cons.mpr ⟨lw_p91, List.forall_mem_cons.mpr ⟨lw_p92, List.forall_mem_cons.mpr ⟨lw_p93, fun _ h => absurd h List.not_mem_nil⟩⟩⟩⟩⟩⟩⟩⟩⟩⟩⟩⟩⟩⟩
def lw_privs : List (MethodName × Nat) := lw_privs_1 ++ (lw_privs_2 ++ (lw_privs_3 ++ (lw_privs_4 ++ (lw_privs_5 ++ (lw_privs_6)))))
def lw_tbl : List Cond := k2_sels lw_privs ++ tables_1
theorem lw_privs_ok : ∀ q ∈ lw_privs, lw_okq q := by
  show ∀ q ∈ lw_privs_1 ++ (lw_privs_2 ++ (lw_privs_3 ++ (lw_privs_4 ++ (lw_privs_5 ++ (lw_privs_6))))), lw_okq q
  exact List.forall_mem_append.mpr ⟨lw_r1, List.forall_mem_append.mpr ⟨lw_r2, List.forall_mem_append.mpr ⟨lw_r3, List.forall_mem_append.mpr ⟨lw_r4, List.forall_mem_append.mpr ⟨lw_r5, lw_r6⟩⟩⟩⟩⟩
-- ===== end of PART A; then your names; then what follows =====
def RX0 : String := "DustCart$Cart"
def TX0 : u_T := fun k => match k with
  | 0 => ("DustCart$Cart", "cell", "I", false)
  | 1 => ("DustCart$Cart", "store", "I", false)
  | 2 => ("DustCart$Cart", "dust", "I", false)
  | _ => ("DustCart$Cart", "looked", "J", false)
def tyX0 : Nat → FieldType := fun k => match k with
  | 0 => .int
  | 1 => .int
  | 2 => .int
  | _ => .long
abbrev wsX00 : List Cond := u_ws RX0 TX0 4
theorem nmX0 : ∀ a, a < 4 → ∀ b, b < 4 → a ≠ b → (TX0 a).2.1 ≠ (TX0 b).2.1 := by decide +kernel
theorem tyX0_ok : ∀ k, k < 4 → parseFieldDescriptor (TX0 k).2.2.1 = some (tyX0 k) := by decide +kernel
abbrev cX0_init : ByteArray := prog_2_method_1_code
def yX0_init : MethodName := ⟨RX0, "<init>", "()V"⟩
abbrev cX0_become : ByteArray := prog_2_method_2_code
def yX0_become : MethodName := ⟨RX0, "become", "(LDustCart$Cart;)V"⟩
abbrev cX0_place : ByteArray := prog_2_method_3_code
def yX0_place : MethodName := ⟨RX0, "place", "(III)V"⟩
abbrev cX0_hasLookedAt : ByteArray := prog_2_method_4_code
def yX0_hasLookedAt : MethodName := ⟨RX0, "hasLookedAt", "(I)Z"⟩
abbrev cX0_isOnNewStone : ByteArray := prog_2_method_5_code
def yX0_isOnNewStone : MethodName := ⟨RX0, "isOnNewStone", "(LDustCart$Plain;)Z"⟩
abbrev cX0_live : ByteArray := prog_2_method_6_code
def yX0_live : MethodName := ⟨RX0, "live", "(LDustCart$Plain;II)Z"⟩
abbrev cX0_liveUnder : ByteArray := prog_2_method_7_code
def yX0_liveUnder : MethodName := ⟨RX0, "liveUnder", "(LDustCart$Plain;IIII)Z"⟩
abbrev cX0_move : ByteArray := prog_2_method_8_code
def yX0_move : MethodName := ⟨RX0, "move", "(LDustCart$Plain;I)Z"⟩
abbrev cX0_lookAround : ByteArray := prog_2_method_9_code
def yX0_lookAround : MethodName := ⟨RX0, "lookAround", "(LDustCart$Plain;)Z"⟩
def RX1 : String := "DustCart$Changes"
def TX1 : u_T := fun k => match k with
  | 0 => ("DustCart$Changes", "places", "[I", true)
  | 1 => ("DustCart$Changes", "before", "[I", true)
  | 2 => ("DustCart$Changes", "behind", "[I", true)
  | 3 => ("DustCart$Changes", "done", "I", false)
  | _ => ("DustCart$Changes", "known", "I", false)
def tyX1 : Nat → FieldType := fun k => match k with
  | 0 => .array .int
  | 1 => .array .int
  | 2 => .array .int
  | 3 => .int
  | _ => .int
abbrev wsX10 : List Cond := u_ws RX1 TX1 5
theorem nmX1 : ∀ a, a < 5 → ∀ b, b < 5 → a ≠ b → (TX1 a).2.1 ≠ (TX1 b).2.1 := by decide +kernel
theorem tyX1_ok : ∀ k, k < 5 → parseFieldDescriptor (TX1 k).2.2.1 = some (tyX1 k) := by decide +kernel
abbrev cX1_init : ByteArray := prog_3_method_1_code
def yX1_init : MethodName := ⟨RX1, "<init>", "()V"⟩
abbrev cX1_note : ByteArray := prog_3_method_2_code
def yX1_note : MethodName := ⟨RX1, "note", "(III)V"⟩
abbrev cX1_dropOldest : ByteArray := prog_3_method_3_code
def yX1_dropOldest : MethodName := ⟨RX1, "dropOldest", "()V"⟩
abbrev cX1_takeBack : ByteArray := prog_3_method_4_code
def yX1_takeBack : MethodName := ⟨RX1, "takeBack", "(LDustCart$Plain;)Z"⟩
abbrev cX1_bringBack : ByteArray := prog_3_method_5_code
def yX1_bringBack : MethodName := ⟨RX1, "bringBack", "(LDustCart$Plain;)Z"⟩
def RX2 : String := "DustCart$Law"
def TX2 : u_T := fun k => match k with
  | 0 => ("DustCart$Law", "tape", "[I", true)
  | 1 => ("DustCart$Law", "draft", "[I", true)
  | 2 => ("DustCart$Law", "codes", "[I", true)
  | 3 => ("DustCart$Law", "stack", "[I", true)
  | 4 => ("DustCart$Law", "drafted", "I", false)
  | 5 => ("DustCart$Law", "coded", "I", false)
  | 6 => ("DustCart$Law", "high", "I", false)
  | 7 => ("DustCart$Law", "place", "I", false)
  | 8 => ("DustCart$Law", "fault", "I", false)
  | _ => ("DustCart$Law", "fed", "I", false)
def tyX2 : Nat → FieldType := fun k => match k with
  | 0 => .array .int
  | 1 => .array .int
  | 2 => .array .int
  | 3 => .array .int
  | 4 => .int
  | 5 => .int
  | 6 => .int
  | 7 => .int
  | 8 => .int
  | _ => .int
abbrev wsX20 : List Cond := u_ws RX2 TX2 10
theorem nmX2 : ∀ a, a < 10 → ∀ b, b < 10 → a ≠ b → (TX2 a).2.1 ≠ (TX2 b).2.1 := by decide +kernel
theorem tyX2_ok : ∀ k, k < 10 → parseFieldDescriptor (TX2 k).2.2.1 = some (tyX2 k) := by decide +kernel
abbrev cX2_init : ByteArray := prog_4_method_1_code
def yX2_init : MethodName := ⟨RX2, "<init>", "()V"⟩
abbrev cX2_take : ByteArray := prog_4_method_2_code
def yX2_take : MethodName := ⟨RX2, "take", "(I)Z"⟩
abbrev cX2_become : ByteArray := prog_4_method_3_code
def yX2_become : MethodName := ⟨RX2, "become", "()I"⟩
abbrev cX2_sign : ByteArray := prog_4_method_4_code
def yX2_sign : MethodName := ⟨RX2, "sign", "()I"⟩
abbrev cX2_pass : ByteArray := prog_4_method_5_code
def yX2_pass : MethodName := ⟨RX2, "pass", "(I)Z"⟩
abbrev cX2_refuse : ByteArray := prog_4_method_6_code
def yX2_refuse : MethodName := ⟨RX2, "refuse", "()V"⟩
abbrev cX2_write : ByteArray := prog_4_method_7_code
def yX2_write : MethodName := ⟨RX2, "write", "(I)V"⟩
abbrev cX2_readLines : ByteArray := prog_4_method_8_code
def yX2_readLines : MethodName := ⟨RX2, "readLines", "()V"⟩
abbrev cX2_readOr : ByteArray := prog_4_method_9_code
def yX2_readOr : MethodName := ⟨RX2, "readOr", "(I)V"⟩
abbrev cX2_readAnd : ByteArray := prog_4_method_10_code
def yX2_readAnd : MethodName := ⟨RX2, "readAnd", "(I)V"⟩
abbrev cX2_readCompared : ByteArray := prog_4_method_11_code
def yX2_readCompared : MethodName := ⟨RX2, "readCompared", "(I)V"⟩
abbrev cX2_readSum : ByteArray := prog_4_method_12_code
def yX2_readSum : MethodName := ⟨RX2, "readSum", "(I)V"⟩
abbrev cX2_readProduct : ByteArray := prog_4_method_13_code
def yX2_readProduct : MethodName := ⟨RX2, "readProduct", "(I)V"⟩
abbrev cX2_readOperand : ByteArray := prog_4_method_14_code
def yX2_readOperand : MethodName := ⟨RX2, "readOperand", "(I)V"⟩
abbrev cX2_readOpened : ByteArray := prog_4_method_15_code
def yX2_readOpened : MethodName := ⟨RX2, "readOpened", "(II)V"⟩
abbrev cX2_readNumber : ByteArray := prog_4_method_16_code
def yX2_readNumber : MethodName := ⟨RX2, "readNumber", "()V"⟩
abbrev cX2_isDigit : ByteArray := prog_4_method_17_code
def yX2_isDigit : MethodName := ⟨RX2, "isDigit", "(I)Z"⟩
abbrev cX2_isName : ByteArray := prog_4_method_18_code
def yX2_isName : MethodName := ⟨RX2, "isName", "(I)Z"⟩
abbrev cX2_orderFor : ByteArray := prog_4_method_19_code
def yX2_orderFor : MethodName := ⟨RX2, "orderFor", "(LDustCart$Plain;LDustCart$Cart;I)I"⟩
abbrev cX2_workOut : ByteArray := prog_4_method_20_code
def yX2_workOut : MethodName := ⟨RX2, "workOut", "(LDustCart$Plain;LDustCart$Cart;I)I"⟩
abbrev cX2_step : ByteArray := prog_4_method_21_code
def yX2_step : MethodName := ⟨RX2, "step", "(ILDustCart$Plain;LDustCart$Cart;I)V"⟩
abbrev cX2_named : ByteArray := prog_4_method_22_code
def yX2_named : MethodName := ⟨RX2, "named", "(ILDustCart$Plain;LDustCart$Cart;I)I"⟩
abbrev cX2_joined : ByteArray := prog_4_method_23_code
def yX2_joined : MethodName := ⟨RX2, "joined", "(III)I"⟩
abbrev cX2_push : ByteArray := prog_4_method_24_code
def yX2_push : MethodName := ⟨RX2, "push", "(I)V"⟩
abbrev cX2_pop : ByteArray := prog_4_method_25_code
def yX2_pop : MethodName := ⟨RX2, "pop", "()I"⟩
def RX3 : String := "DustCart$Plain"
def TX3 : u_T := fun k => match k with
  | _ => ("DustCart$Plain", "numbers", "[I", true)
def tyX3 : Nat → FieldType := fun k => match k with
  | _ => .array .int
abbrev wsX30 : List Cond := u_ws RX3 TX3 1
theorem nmX3 : ∀ a, a < 1 → ∀ b, b < 1 → a ≠ b → (TX3 a).2.1 ≠ (TX3 b).2.1 := by decide +kernel
theorem tyX3_ok : ∀ k, k < 1 → parseFieldDescriptor (TX3 k).2.2.1 = some (tyX3 k) := by decide +kernel
abbrev cX3_init : ByteArray := prog_5_method_1_code
def yX3_init : MethodName := ⟨RX3, "<init>", "()V"⟩
abbrev cX3_isCell : ByteArray := prog_5_method_2_code
def yX3_isCell : MethodName := ⟨RX3, "isCell", "(I)Z"⟩
abbrev cX3_place : ByteArray := prog_5_method_3_code
def yX3_place : MethodName := ⟨RX3, "place", "(II)I"⟩
abbrev cX3_mayBe : ByteArray := prog_5_method_4_code
def yX3_mayBe : MethodName := ⟨RX3, "mayBe", "(II)Z"⟩
abbrev cX3_neighbour : ByteArray := prog_5_method_5_code
def yX3_neighbour : MethodName := ⟨RX3, "neighbour", "(II)I"⟩
abbrev cX3_told : ByteArray := prog_5_method_6_code
def yX3_told : MethodName := ⟨RX3, "told", "(I)I"⟩
abbrev cX3_tell : ByteArray := prog_5_method_7_code
def yX3_tell : MethodName := ⟨RX3, "tell", "(II)V"⟩
abbrev cX3_high : ByteArray := prog_5_method_8_code
def yX3_high : MethodName := ⟨RX3, "high", "(I)I"⟩
abbrev cX3_isStone : ByteArray := prog_5_method_9_code
def yX3_isStone : MethodName := ⟨RX3, "isStone", "(I)Z"⟩
abbrev cX3_sun : ByteArray := prog_5_method_10_code
def yX3_sun : MethodName := ⟨RX3, "sun", "(I)I"⟩
abbrev cX3_wind : ByteArray := prog_5_method_11_code
def yX3_wind : MethodName := ⟨RX3, "wind", "(I)I"⟩
abbrev cX3_odds : ByteArray := prog_5_method_12_code
def yX3_odds : MethodName := ⟨RX3, "odds", "()I"⟩
abbrev cX3_price : ByteArray := prog_5_method_13_code
def yX3_price : MethodName := ⟨RX3, "price", "(II)I"⟩
abbrev cX3_isHollow : ByteArray := prog_5_method_14_code
def yX3_isHollow : MethodName := ⟨RX3, "isHollow", "(I)Z"⟩
abbrev cX3_stones : ByteArray := prog_5_method_15_code
def yX3_stones : MethodName := ⟨RX3, "stones", "()I"⟩
abbrev cX3_hollows : ByteArray := prog_5_method_16_code
def yX3_hollows : MethodName := ⟨RX3, "hollows", "()I"⟩
def RX4 : String := "DustCart$Reach"
def TX4 : u_T := fun k => match k with
  | 0 => ("DustCart$Reach", "now", "[I", true)
  | 1 => ("DustCart$Reach", "next", "[I", true)
  | 2 => ("DustCart$Reach", "trial", "LDustCart$Cart;", true)
  | 3 => ("DustCart$Reach", "taken", "I", false)
  | _ => ("DustCart$Reach", "most", "I", false)
def tyX4 : Nat → FieldType := fun k => match k with
  | 0 => .array .int
  | 1 => .array .int
  | 2 => .object "DustCart$Cart"
  | 3 => .int
  | _ => .int
abbrev wsX40 : List Cond := u_ws RX4 TX4 5
theorem nmX4 : ∀ a, a < 5 → ∀ b, b < 5 → a ≠ b → (TX4 a).2.1 ≠ (TX4 b).2.1 := by decide +kernel
theorem tyX4_ok : ∀ k, k < 5 → parseFieldDescriptor (TX4 k).2.2.1 = some (tyX4 k) := by decide +kernel
abbrev cX4_init : ByteArray := prog_6_method_1_code
def yX4_init : MethodName := ⟨RX4, "<init>", "()V"⟩
abbrev cX4_find : ByteArray := prog_6_method_2_code
def yX4_find : MethodName := ⟨RX4, "find", "(LDustCart$Plain;LDustCart$Cart;II)Z"⟩
abbrev cX4_arrive : ByteArray := prog_6_method_3_code
def yX4_arrive : MethodName := ⟨RX4, "arrive", "([ILDustCart$Cart;)V"⟩
abbrev cX4_mostIn : ByteArray := prog_6_method_4_code
def yX4_mostIn : MethodName := ⟨RX4, "mostIn", "(I)I"⟩
abbrev cX4_goOn : ByteArray := prog_6_method_5_code
def yX4_goOn : MethodName := ⟨RX4, "goOn", "(LDustCart$Plain;I)V"⟩
def RX5 : String := "DustCart$Shelf"
def TX5 : u_T := fun k => match k with
  | 0 => ("DustCart$Shelf", "elements", "[J", true)
  | 1 => ("DustCart$Shelf", "holds", "I", false)
  | 2 => ("DustCart$Shelf", "body", "I", false)
  | 3 => ("DustCart$Shelf", "sort", "I", false)
  | _ => ("DustCart$Shelf", "length", "I", false)
def tyX5 : Nat → FieldType := fun k => match k with
  | 0 => .array .long
  | 1 => .int
  | 2 => .int
  | 3 => .int
  | _ => .int
abbrev wsX50 : List Cond := u_ws RX5 TX5 5
theorem nmX5 : ∀ a, a < 5 → ∀ b, b < 5 → a ≠ b → (TX5 a).2.1 ≠ (TX5 b).2.1 := by decide +kernel
theorem tyX5_ok : ∀ k, k < 5 → parseFieldDescriptor (TX5 k).2.2.1 = some (tyX5 k) := by decide +kernel
abbrev cX5_init : ByteArray := prog_7_method_1_code
def yX5_init : MethodName := ⟨RX5, "<init>", "()V"⟩
abbrev cX5_isEmpty : ByteArray := prog_7_method_2_code
def yX5_isEmpty : MethodName := ⟨RX5, "isEmpty", "()Z"⟩
abbrev cX5_isRow : ByteArray := prog_7_method_3_code
def yX5_isRow : MethodName := ⟨RX5, "isRow", "()Z"⟩
abbrev cX5_isBytes : ByteArray := prog_7_method_4_code
def yX5_isBytes : MethodName := ⟨RX5, "isBytes", "()Z"⟩
abbrev cX5_holdNothing : ByteArray := prog_7_method_5_code
def yX5_holdNothing : MethodName := ⟨RX5, "holdNothing", "()V"⟩
abbrev cX5_holdBody : ByteArray := prog_7_method_6_code
def yX5_holdBody : MethodName := ⟨RX5, "holdBody", "(I)V"⟩
abbrev cX5_holdRow : ByteArray := prog_7_method_7_code
def yX5_holdRow : MethodName := ⟨RX5, "holdRow", "(II)V"⟩
abbrev cX5_hasPlaces : ByteArray := prog_7_method_8_code
def yX5_hasPlaces : MethodName := ⟨RX5, "hasPlaces", "(II)Z"⟩
abbrev cX5_at : ByteArray := prog_7_method_9_code
def yX5_at : MethodName := ⟨RX5, "at", "(I)J"⟩
abbrev cX5_set : ByteArray := prog_7_method_10_code
def yX5_set : MethodName := ⟨RX5, "set", "(IJ)V"⟩
abbrev cX5_narrowed : ByteArray := prog_7_method_11_code
def yX5_narrowed : MethodName := ⟨RX5, "narrowed", "(J)J"⟩
def RX6 : String := "DustCart$Ways"
def TX6 : u_T := fun k => match k with
  | 0 => ("DustCart$Ways", "left", "[I", true)
  | 1 => ("DustCart$Ways", "stones", "[I", true)
  | 2 => ("DustCart$Ways", "toStone", "[I", true)
  | 3 => ("DustCart$Ways", "between", "[I", true)
  | 4 => ("DustCart$Ways", "rest", "[I", true)
  | 5 => ("DustCart$Ways", "many", "I", false)
  | 6 => ("DustCart$Ways", "roundCost", "I", false)
  | _ => ("DustCart$Ways", "roundFirst", "I", false)
def tyX6 : Nat → FieldType := fun k => match k with
  | 0 => .array .int
  | 1 => .array .int
  | 2 => .array .int
  | 3 => .array .int
  | 4 => .array .int
  | 5 => .int
  | 6 => .int
  | _ => .int
abbrev wsX60 : List Cond := u_ws RX6 TX6 8
theorem nmX6 : ∀ a, a < 8 → ∀ b, b < 8 → a ≠ b → (TX6 a).2.1 ≠ (TX6 b).2.1 := by decide +kernel
theorem tyX6_ok : ∀ k, k < 8 → parseFieldDescriptor (TX6 k).2.2.1 = some (tyX6 k) := by decide +kernel
abbrev cX6_init : ByteArray := prog_8_method_1_code
def yX6_init : MethodName := ⟨RX6, "<init>", "()V"⟩
abbrev cX6_spreadTo : ByteArray := prog_8_method_2_code
def yX6_spreadTo : MethodName := ⟨RX6, "spreadTo", "(LDustCart$Plain;I)V"⟩
abbrev cX6_nearest : ByteArray := prog_8_method_3_code
def yX6_nearest : MethodName := ⟨RX6, "nearest", "(J)I"⟩
abbrev cX6_spreadFrom : ByteArray := prog_8_method_4_code
def yX6_spreadFrom : MethodName := ⟨RX6, "spreadFrom", "(LDustCart$Plain;I)V"⟩
abbrev cX6_costFrom : ByteArray := prog_8_method_5_code
def yX6_costFrom : MethodName := ⟨RX6, "costFrom", "(I)I"⟩
abbrev cX6_firstFrom : ByteArray := prog_8_method_6_code
def yX6_firstFrom : MethodName := ⟨RX6, "firstFrom", "(LDustCart$Plain;I)I"⟩
abbrev cX6_planRound : ByteArray := prog_8_method_7_code
def yX6_planRound : MethodName := ⟨RX6, "planRound", "(LDustCart$Plain;LDustCart$Cart;)Z"⟩
abbrev cX6_listStones : ByteArray := prog_8_method_8_code
def yX6_listStones : MethodName := ⟨RX6, "listStones", "(LDustCart$Plain;LDustCart$Cart;)Z"⟩
abbrev cX6_leastRest : ByteArray := prog_8_method_9_code
def yX6_leastRest : MethodName := ⟨RX6, "leastRest", "(II)I"⟩
abbrev cX6_chooseFirst : ByteArray := prog_8_method_10_code
def yX6_chooseFirst : MethodName := ⟨RX6, "chooseFirst", "(I)V"⟩
def RX7 : String := "DustCart$Wheels"
def TX7 : u_T := fun k => match k with
  | 0 => ("DustCart$Wheels", "kinds", "[I", true)
  | 1 => ("DustCart$Wheels", "ran", "[I", true)
  | 2 => ("DustCart$Wheels", "number", "I", false)
  | 3 => ("DustCart$Wheels", "kept", "I", false)
  | _ => ("DustCart$Wheels", "begun", "I", false)
def tyX7 : Nat → FieldType := fun k => match k with
  | 0 => .array .int
  | 1 => .array .int
  | 2 => .int
  | 3 => .int
  | _ => .int
abbrev wsX70 : List Cond := u_ws RX7 TX7 5
theorem nmX7 : ∀ a, a < 5 → ∀ b, b < 5 → a ≠ b → (TX7 a).2.1 ≠ (TX7 b).2.1 := by decide +kernel
theorem tyX7_ok : ∀ k, k < 5 → parseFieldDescriptor (TX7 k).2.2.1 = some (tyX7 k) := by decide +kernel
abbrev cX7_init : ByteArray := prog_9_method_1_code
def yX7_init : MethodName := ⟨RX7, "<init>", "()V"⟩
abbrev cX7_isKind : ByteArray := prog_9_method_2_code
def yX7_isKind : MethodName := ⟨RX7, "isKind", "(I)Z"⟩
abbrev cX7_isUnder : ByteArray := prog_9_method_3_code
def yX7_isUnder : MethodName := ⟨RX7, "isUnder", "(II)Z"⟩
abbrev cX7_has : ByteArray := prog_9_method_4_code
def yX7_has : MethodName := ⟨RX7, "has", "(I)Z"⟩
abbrev cX7_kindOf : ByteArray := prog_9_method_5_code
def yX7_kindOf : MethodName := ⟨RX7, "kindOf", "(I)I"⟩
abbrev cX7_add : ByteArray := prog_9_method_6_code
def yX7_add : MethodName := ⟨RX7, "add", "(I)I"⟩
abbrev cX7_ranAt : ByteArray := prog_9_method_7_code
def yX7_ranAt : MethodName := ⟨RX7, "ranAt", "(I)I"⟩
abbrev cX7_perform : ByteArray := prog_9_method_8_code
def yX7_perform : MethodName := ⟨RX7, "perform", "(III)I"⟩
abbrev cX7_begin : ByteArray := prog_9_method_9_code
def yX7_begin : MethodName := ⟨RX7, "begin", "(IIII)I"⟩
abbrev cX7_own : ByteArray := prog_9_method_10_code
def yX7_own : MethodName := ⟨RX7, "own", "(III)I"⟩
abbrev cX7_answerOfWheel : ByteArray := prog_9_method_11_code
def yX7_answerOfWheel : MethodName := ⟨RX7, "answerOfWheel", "(III)I"⟩
abbrev cX7_answerUnder : ByteArray := prog_9_method_12_code
def yX7_answerUnder : MethodName := ⟨RX7, "answerUnder", "(IIIII)I"⟩
def RX8 : String := "DustCart"
def TX8 : u_T := fun k => match k with
  | 0 => ("DustCart", "plain", "LDustCart$Plain;", true)
  | 1 => ("DustCart", "cart", "LDustCart$Cart;", true)
  | 2 => ("DustCart", "thought", "LDustCart$Cart;", true)
  | 3 => ("DustCart", "kept", "LDustCart$Cart;", true)
  | 4 => ("DustCart", "orders", "[I", true)
  | 5 => ("DustCart", "could", "[Z", true)
  | 6 => ("DustCart", "rule", "LDustCart$Law;", true)
  | 7 => ("DustCart", "ways", "LDustCart$Ways;", true)
  | 8 => ("DustCart", "reach", "LDustCart$Reach;", true)
  | 9 => ("DustCart", "changes", "LDustCart$Changes;", true)
  | 10 => ("DustCart", "shelves", "[LDustCart$Shelf;", true)
  | 11 => ("DustCart", "wheels", "LDustCart$Wheels;", true)
  | 12 => ("DustCart", "today", "I", false)
  | _ => ("DustCart", "keptDay", "I", false)
def tyX8 : Nat → FieldType := fun k => match k with
  | 0 => .object "DustCart$Plain"
  | 1 => .object "DustCart$Cart"
  | 2 => .object "DustCart$Cart"
  | 3 => .object "DustCart$Cart"
  | 4 => .array .int
  | 5 => .array .boolean
  | 6 => .object "DustCart$Law"
  | 7 => .object "DustCart$Ways"
  | 8 => .object "DustCart$Reach"
  | 9 => .object "DustCart$Changes"
  | 10 => .array (.object "DustCart$Shelf")
  | 11 => .object "DustCart$Wheels"
  | 12 => .int
  | _ => .int
abbrev wsX80 : List Cond := u_ws RX8 TX8 14
theorem nmX8 : ∀ a, a < 14 → ∀ b, b < 14 → a ≠ b → (TX8 a).2.1 ≠ (TX8 b).2.1 := by decide +kernel
theorem tyX8_ok : ∀ k, k < 14 → parseFieldDescriptor (TX8 k).2.2.1 = some (tyX8 k) := by decide +kernel
abbrev cX8_init : ByteArray := prog_1_method_1_code
def yX8_init : MethodName := ⟨RX8, "<init>", "()V"⟩
abbrev cX8_mend : ByteArray := prog_1_method_2_code
def yX8_mend : MethodName := ⟨RX8, "mend", "(III)I"⟩
abbrev cX8_of : ByteArray := prog_1_method_3_code
def yX8_of : MethodName := ⟨RX8, "of", "(II)I"⟩
abbrev cX8_ofCell : ByteArray := prog_1_method_4_code
def yX8_ofCell : MethodName := ⟨RX8, "ofCell", "(II)I"⟩
abbrev cX8_ofCart : ByteArray := prog_1_method_5_code
def yX8_ofCart : MethodName := ⟨RX8, "ofCart", "(I)I"⟩
abbrev cX8_heights : ByteArray := prog_1_method_6_code
def yX8_heights : MethodName := ⟨RX8, "heights", "(III)I"⟩
abbrev cX8_heightsFrom : ByteArray := prog_1_method_7_code
def yX8_heightsFrom : MethodName := ⟨RX8, "heightsFrom", "(LDustCart$Shelf;III)I"⟩
abbrev cX8_feed : ByteArray := prog_1_method_8_code
def yX8_feed : MethodName := ⟨RX8, "feed", "(I)I"⟩
abbrev cX8_law : ByteArray := prog_1_method_9_code
def yX8_law : MethodName := ⟨RX8, "law", "()I"⟩
abbrev cX8_cost : ByteArray := prog_1_method_10_code
def yX8_cost : MethodName := ⟨RX8, "cost", "(II)I"⟩
abbrev cX8_order : ByteArray := prog_1_method_11_code
def yX8_order : MethodName := ⟨RX8, "order", "()I"⟩
abbrev cX8_day : ByteArray := prog_1_method_12_code
def yX8_day : MethodName := ⟨RX8, "day", "(I)I"⟩
abbrev cX8_days : ByteArray := prog_1_method_13_code
def yX8_days : MethodName := ⟨RX8, "days", "(I)I"⟩
abbrev cX8_live : ByteArray := prog_1_method_14_code
def yX8_live : MethodName := ⟨RX8, "live", "(I)Z"⟩
abbrev cX8_led : ByteArray := prog_1_method_15_code
def yX8_led : MethodName := ⟨RX8, "led", "(II)I"⟩
abbrev cX8_run : ByteArray := prog_1_method_16_code
def yX8_run : MethodName := ⟨RX8, "run", "(III)I"⟩
abbrev cX8_first : ByteArray := prog_1_method_17_code
def yX8_first : MethodName := ⟨RX8, "first", "(I)I"⟩
abbrev cX8_orderOn : ByteArray := prog_1_method_18_code
def yX8_orderOn : MethodName := ⟨RX8, "orderOn", "(LDustCart$Shelf;I)I"⟩
abbrev cX8_thoughtOf : ByteArray := prog_1_method_19_code
def yX8_thoughtOf : MethodName := ⟨RX8, "thoughtOf", "(I)I"⟩
abbrev cX8_lawful : ByteArray := prog_1_method_20_code
def yX8_lawful : MethodName := ⟨RX8, "lawful", "(II)I"⟩
abbrev cX8_cheapest : ByteArray := prog_1_method_21_code
def yX8_cheapest : MethodName := ⟨RX8, "cheapest", "(II)I"⟩
abbrev cX8_soonest : ByteArray := prog_1_method_22_code
def yX8_soonest : MethodName := ⟨RX8, "soonest", "(II)I"⟩
abbrev cX8_round : ByteArray := prog_1_method_23_code
def yX8_round : MethodName := ⟨RX8, "round", "(I)I"⟩
abbrev cX8_lasts : ByteArray := prog_1_method_24_code
def yX8_lasts : MethodName := ⟨RX8, "lasts", "(I)I"⟩
abbrev cX8_clean : ByteArray := prog_1_method_25_code
def yX8_clean : MethodName := ⟨RX8, "clean", "(III)J"⟩
abbrev cX8_power : ByteArray := prog_1_method_26_code
def yX8_power : MethodName := ⟨RX8, "power", "(JI)J"⟩
abbrev cX8_greatestCommon : ByteArray := prog_1_method_27_code
def yX8_greatestCommon : MethodName := ⟨RX8, "greatestCommon", "(JJ)J"⟩
abbrev cX8_line : ByteArray := prog_1_method_28_code
def yX8_line : MethodName := ⟨RX8, "line", "(II)J"⟩
abbrev cX8_endOfLine : ByteArray := prog_1_method_29_code
def yX8_endOfLine : MethodName := ⟨RX8, "endOfLine", "(LDustCart$Shelf;I)I"⟩
abbrev cX8_drawn : ByteArray := prog_1_method_30_code
def yX8_drawn : MethodName := ⟨RX8, "drawn", "(III)I"⟩
abbrev cX8_judge : ByteArray := prog_1_method_31_code
def yX8_judge : MethodName := ⟨RX8, "judge", "(I)I"⟩
abbrev cX8_image : ByteArray := prog_1_method_32_code
def yX8_image : MethodName := ⟨RX8, "image", "()I"⟩
abbrev cX8_back : ByteArray := prog_1_method_33_code
def yX8_back : MethodName := ⟨RX8, "back", "()I"⟩
abbrev cX8_undo : ByteArray := prog_1_method_34_code
def yX8_undo : MethodName := ⟨RX8, "undo", "()I"⟩
abbrev cX8_redo : ByteArray := prog_1_method_35_code
def yX8_redo : MethodName := ⟨RX8, "redo", "()I"⟩
abbrev cX8_body : ByteArray := prog_1_method_36_code
def yX8_body : MethodName := ⟨RX8, "body", "(I)I"⟩
abbrev cX8_act : ByteArray := prog_1_method_37_code
def yX8_act : MethodName := ⟨RX8, "act", "(III)I"⟩
abbrev cX8_trace : ByteArray := prog_1_method_38_code
def yX8_trace : MethodName := ⟨RX8, "trace", "(I)I"⟩
abbrev cX8_keep : ByteArray := prog_1_method_39_code
def yX8_keep : MethodName := ⟨RX8, "keep", "(II)I"⟩
abbrev cX8_row : ByteArray := prog_1_method_40_code
def yX8_row : MethodName := ⟨RX8, "row", "(III)I"⟩
abbrev cX8_put : ByteArray := prog_1_method_41_code
def yX8_put : MethodName := ⟨RX8, "put", "(IIJ)I"⟩
abbrev cX8_element : ByteArray := prog_1_method_42_code
def yX8_element : MethodName := ⟨RX8, "element", "(II)J"⟩
abbrev cX8_refusedPlace : ByteArray := prog_1_method_43_code
def yX8_refusedPlace : MethodName := ⟨RX8, "refusedPlace", "(LDustCart$Shelf;I)I"⟩
abbrev cX8_shift : ByteArray := prog_1_method_44_code
def yX8_shift : MethodName := ⟨RX8, "shift", "(IIIII)I"⟩
abbrev cX8_taken : ByteArray := prog_1_method_45_code
def yX8_taken : MethodName := ⟨RX8, "taken", "(II)I"⟩
abbrev cX8_count : ByteArray := prog_1_method_46_code
def yX8_count : MethodName := ⟨RX8, "count", "(I)I"⟩
abbrev cX8_isShelf : ByteArray := prog_1_method_47_code
def yX8_isShelf : MethodName := ⟨RX8, "isShelf", "(I)Z"⟩
abbrev cX8_isOneOf : ByteArray := prog_1_method_48_code
def yX8_isOneOf : MethodName := ⟨RX8, "isOneOf", "(II)Z"⟩
abbrev cX8_refusedBytes : ByteArray := prog_1_method_49_code
def yX8_refusedBytes : MethodName := ⟨RX8, "refusedBytes", "(I)I"⟩
def RX9 : String := "DustCartModel"
def TX9 : u_T := fun k => match k with
  | 0 => ("DustCartModel", "code", "I", false)
  | 1 => ("DustCartModel", "high", "[I", true)
  | 2 => ("DustCartModel", "stone", "[I", true)
  | 3 => ("DustCartModel", "sun", "[I", true)
  | 4 => ("DustCartModel", "wind", "[I", true)
  | 5 => ("DustCartModel", "wheels", "I", false)
  | 6 => ("DustCartModel", "odds", "I", false)
  | 7 => ("DustCartModel", "today", "I", false)
  | 8 => ("DustCartModel", "cell", "I", false)
  | 9 => ("DustCartModel", "store", "I", false)
  | 10 => ("DustCartModel", "dust", "I", false)
  | 11 => ("DustCartModel", "looked", "J", false)
  | 12 => ("DustCartModel", "ledOrder", "[I", true)
  | 13 => ("DustCartModel", "ledCould", "[I", true)
  | 14 => ("DustCartModel", "doneMany", "I", false)
  | 15 => ("DustCartModel", "undoneMany", "I", false)
  | 16 => ("DustCartModel", "changeOf", "[I", true)
  | 17 => ("DustCartModel", "changeAt", "[I", true)
  | 18 => ("DustCartModel", "before", "[I", true)
  | 19 => ("DustCartModel", "behind", "[I", true)
  | 20 => ("DustCartModel", "tape", "[B", true)
  | 21 => ("DustCartModel", "taped", "I", false)
  | 22 => ("DustCartModel", "here", "I", false)
  | 23 => ("DustCartModel", "fault", "I", false)
  | 24 => ("DustCartModel", "open", "I", false)
  | 25 => ("DustCartModel", "laid", "I", false)
  | 26 => ("DustCartModel", "act", "[B", true)
  | 27 => ("DustCartModel", "with", "[I", true)
  | 28 => ("DustCartModel", "lineMany", "[I", true)
  | 29 => ("DustCartModel", "testEnd", "[S", true)
  | 30 => ("DustCartModel", "lineEnd", "[S", true)
  | 31 => ("DustCartModel", "facts", "[I", true)
  | 32 => ("DustCartModel", "pile", "[I", true)
  | 33 => ("DustCartModel", "hasLaw", "Z", false)
  | 34 => ("DustCartModel", "keptCell", "I", false)
  | 35 => ("DustCartModel", "keptStore", "I", false)
  | 36 => ("DustCartModel", "keptDust", "I", false)
  | 37 => ("DustCartModel", "keptLooked", "J", false)
  | 38 => ("DustCartModel", "far", "[I", true)
  | 39 => ("DustCartModel", "now", "[I", true)
  | 40 => ("DustCartModel", "later", "[I", true)
  | 41 => ("DustCartModel", "left", "[I", true)
  | 42 => ("DustCartModel", "between", "[I", true)
  | 43 => ("DustCartModel", "north", "[I", true)
  | 44 => ("DustCartModel", "leastRound", "I", false)
  | 45 => ("DustCartModel", "firstStone", "I", false)
  | 46 => ("DustCartModel", "hasImage", "Z", false)
  | 47 => ("DustCartModel", "imageToday", "I", false)
  | 48 => ("DustCartModel", "imageCell", "I", false)
  | 49 => ("DustCartModel", "imageStore", "I", false)
  | 50 => ("DustCartModel", "imageDust", "I", false)
  | 51 => ("DustCartModel", "imageLooked", "J", false)
  | 52 => ("DustCartModel", "bodies", "I", false)
  | 53 => ("DustCartModel", "kind", "[I", true)
  | 54 => ("DustCartModel", "traces", "I", false)
  | 55 => ("DustCartModel", "traced", "[I", true)
  | 56 => ("DustCartModel", "holds", "[I", true)
  | 57 => ("DustCartModel", "size", "[I", true)
  | 58 => ("DustCartModel", "elements", "[J", true)
  | _ => ("DustCartModel", "shifted", "[J", true)
def tyX9 : Nat → FieldType := fun k => match k with
  | 0 => .int
  | 1 => .array .int
  | 2 => .array .int
  | 3 => .array .int
  | 4 => .array .int
  | 5 => .int
  | 6 => .int
  | 7 => .int
  | 8 => .int
  | 9 => .int
  | 10 => .int
  | 11 => .long
  | 12 => .array .int
  | 13 => .array .int
  | 14 => .int
  | 15 => .int
  | 16 => .array .int
  | 17 => .array .int
  | 18 => .array .int
  | 19 => .array .int
  | 20 => .array .byte
  | 21 => .int
  | 22 => .int
  | 23 => .int
  | 24 => .int
  | 25 => .int
  | 26 => .array .byte
  | 27 => .array .int
  | 28 => .array .int
  | 29 => .array .short
  | 30 => .array .short
  | 31 => .array .int
  | 32 => .array .int
  | 33 => .boolean
  | 34 => .int
  | 35 => .int
  | 36 => .int
  | 37 => .long
  | 38 => .array .int
  | 39 => .array .int
  | 40 => .array .int
  | 41 => .array .int
  | 42 => .array .int
  | 43 => .array .int
  | 44 => .int
  | 45 => .int
  | 46 => .boolean
  | 47 => .int
  | 48 => .int
  | 49 => .int
  | 50 => .int
  | 51 => .long
  | 52 => .int
  | 53 => .array .int
  | 54 => .int
  | 55 => .array .int
  | 56 => .array .int
  | 57 => .array .int
  | 58 => .array .long
  | _ => .array .long
abbrev wsX90 : List Cond := u_ws RX9 TX9 60
theorem nmX9 : ∀ a, a < 60 → ∀ b, b < 60 → a ≠ b → (TX9 a).2.1 ≠ (TX9 b).2.1 := by decide +kernel
theorem tyX9_ok : ∀ k, k < 60 → parseFieldDescriptor (TX9 k).2.2.1 = some (tyX9 k) := by decide +kernel
abbrev cX9_init : ByteArray := prog_11_method_1_code
def yX9_init : MethodName := ⟨RX9, "<init>", "()V"⟩
abbrev cX9_in : ByteArray := prog_11_method_3_code
def yX9_in : MethodName := ⟨RX9, "in", "(III)Z"⟩
abbrev cX9_isCell : ByteArray := prog_11_method_4_code
def yX9_isCell : MethodName := ⟨RX9, "isCell", "(I)Z"⟩
abbrev cX9_isDay : ByteArray := prog_11_method_5_code
def yX9_isDay : MethodName := ⟨RX9, "isDay", "(I)Z"⟩
abbrev cX9_beside : ByteArray := prog_11_method_6_code
def yX9_beside : MethodName := ⟨RX9, "beside", "(II)I"⟩
abbrev cX9_isHollow : ByteArray := prog_11_method_7_code
def yX9_isHollow : MethodName := ⟨RX9, "isHollow", "(I)Z"⟩
abbrev cX9_costOf : ByteArray := prog_11_method_8_code
def yX9_costOf : MethodName := ⟨RX9, "costOf", "(II)I"⟩
abbrev cX9_isLooked : ByteArray := prog_11_method_9_code
def yX9_isLooked : MethodName := ⟨RX9, "isLooked", "(I)Z"⟩
abbrev cX9_bitsIn : ByteArray := prog_11_method_10_code
def yX9_bitsIn : MethodName := ⟨RX9, "bitsIn", "(J)I"⟩
abbrev cX9_valueAt : ByteArray := prog_11_method_11_code
def yX9_valueAt : MethodName := ⟨RX9, "valueAt", "(II)I"⟩
abbrev cX9_lays : ByteArray := prog_11_method_12_code
def yX9_lays : MethodName := ⟨RX9, "lays", "(III)V"⟩
abbrev cX9_changes : ByteArray := prog_11_method_13_code
def yX9_changes : MethodName := ⟨RX9, "changes", "(III)I"⟩
abbrev cX9_undo : ByteArray := prog_11_method_14_code
def yX9_undo : MethodName := ⟨RX9, "undo", "()I"⟩
abbrev cX9_redo : ByteArray := prog_11_method_15_code
def yX9_redo : MethodName := ⟨RX9, "redo", "()I"⟩
abbrev cX9_isThing : ByteArray := prog_11_method_16_code
def yX9_isThing : MethodName := ⟨RX9, "isThing", "(II)Z"⟩
abbrev cX9_mostOf : ByteArray := prog_11_method_17_code
def yX9_mostOf : MethodName := ⟨RX9, "mostOf", "(I)I"⟩
abbrev cX9_mend : ByteArray := prog_11_method_18_code
def yX9_mend : MethodName := ⟨RX9, "mend", "(III)I"⟩
abbrev cX9_of : ByteArray := prog_11_method_19_code
def yX9_of : MethodName := ⟨RX9, "of", "(II)I"⟩
abbrev cX9_heights : ByteArray := prog_11_method_20_code
def yX9_heights : MethodName := ⟨RX9, "heights", "(III)I"⟩
abbrev cX9_feed : ByteArray := prog_11_method_21_code
def yX9_feed : MethodName := ⟨RX9, "feed", "(I)I"⟩
abbrev cX9_look : ByteArray := prog_11_method_22_code
def yX9_look : MethodName := ⟨RX9, "look", "()I"⟩
abbrev cX9_faulty : ByteArray := prog_11_method_23_code
def yX9_faulty : MethodName := ⟨RX9, "faulty", "()V"⟩
abbrev cX9_addStep : ByteArray := prog_11_method_24_code
def yX9_addStep : MethodName := ⟨RX9, "addStep", "(II)V"⟩
abbrev cX9_nameOf : ByteArray := prog_11_method_25_code
def yX9_nameOf : MethodName := ⟨RX9, "nameOf", "(I)I"⟩
abbrev cX9_opens : ByteArray := prog_11_method_26_code
def yX9_opens : MethodName := ⟨RX9, "opens", "()Z"⟩
abbrev cX9_figure : ByteArray := prog_11_method_27_code
def yX9_figure : MethodName := ⟨RX9, "figure", "()V"⟩
abbrev cX9_operand : ByteArray := prog_11_method_28_code
def yX9_operand : MethodName := ⟨RX9, "operand", "()V"⟩
abbrev cX9_product : ByteArray := prog_11_method_29_code
def yX9_product : MethodName := ⟨RX9, "product", "()V"⟩
abbrev cX9_sum : ByteArray := prog_11_method_30_code
def yX9_sum : MethodName := ⟨RX9, "sum", "()V"⟩
abbrev cX9_compared : ByteArray := prog_11_method_31_code
def yX9_compared : MethodName := ⟨RX9, "compared", "()V"⟩
abbrev cX9_both : ByteArray := prog_11_method_32_code
def yX9_both : MethodName := ⟨RX9, "both", "()V"⟩
abbrev cX9_either : ByteArray := prog_11_method_33_code
def yX9_either : MethodName := ⟨RX9, "either", "()V"⟩
abbrev cX9_oneLine : ByteArray := prog_11_method_34_code
def yX9_oneLine : MethodName := ⟨RX9, "oneLine", "()V"⟩
abbrev cX9_readText : ByteArray := prog_11_method_35_code
def yX9_readText : MethodName := ⟨RX9, "readText", "(I)I"⟩
abbrev cX9_twoOf : ByteArray := prog_11_method_36_code
def yX9_twoOf : MethodName := ⟨RX9, "twoOf", "(III)I"⟩
abbrev cX9_worked : ByteArray := prog_11_method_37_code
def yX9_worked : MethodName := ⟨RX9, "worked", "(III)I"⟩
abbrev cX9_gives : ByteArray := prog_11_method_38_code
def yX9_gives : MethodName := ⟨RX9, "gives", "(I)I"⟩
abbrev cX9_law : ByteArray := prog_11_method_39_code
def yX9_law : MethodName := ⟨RX9, "law", "()I"⟩
abbrev cX9_orderOf : ByteArray := prog_11_method_40_code
def yX9_orderOf : MethodName := ⟨RX9, "orderOf", "(I)I"⟩
abbrev cX9_cost : ByteArray := prog_11_method_41_code
def yX9_cost : MethodName := ⟨RX9, "cost", "(II)I"⟩
abbrev cX9_order : ByteArray := prog_11_method_42_code
def yX9_order : MethodName := ⟨RX9, "order", "()I"⟩
abbrev cX9_think : ByteArray := prog_11_method_43_code
def yX9_think : MethodName := ⟨RX9, "think", "()V"⟩
abbrev cX9_unthink : ByteArray := prog_11_method_44_code
def yX9_unthink : MethodName := ⟨RX9, "unthink", "()V"⟩
abbrev cX9_obeys : ByteArray := prog_11_method_45_code
def yX9_obeys : MethodName := ⟨RX9, "obeys", "(I)Z"⟩
abbrev cX9_storeThen : ByteArray := prog_11_method_46_code
def yX9_storeThen : MethodName := ⟨RX9, "storeThen", "(IIIZ)I"⟩
abbrev cX9_dustThen : ByteArray := prog_11_method_47_code
def yX9_dustThen : MethodName := ⟨RX9, "dustThen", "(IIIZ)I"⟩
abbrev cX9_goDay : ByteArray := prog_11_method_48_code
def yX9_goDay : MethodName := ⟨RX9, "goDay", "(IIII)Z"⟩
abbrev cX9_goOwn : ByteArray := prog_11_method_49_code
def yX9_goOwn : MethodName := ⟨RX9, "goOwn", "(II)Z"⟩
abbrev cX9_lead : ByteArray := prog_11_method_50_code
def yX9_lead : MethodName := ⟨RX9, "lead", "(I)I"⟩
abbrev cX9_day : ByteArray := prog_11_method_51_code
def yX9_day : MethodName := ⟨RX9, "day", "(I)I"⟩
abbrev cX9_days : ByteArray := prog_11_method_52_code
def yX9_days : MethodName := ⟨RX9, "days", "(I)I"⟩
abbrev cX9_led : ByteArray := prog_11_method_53_code
def yX9_led : MethodName := ⟨RX9, "led", "(II)I"⟩
abbrev cX9_rowFault : ByteArray := prog_11_method_54_code
def yX9_rowFault : MethodName := ⟨RX9, "rowFault", "(I)I"⟩
abbrev cX9_byteAt : ByteArray := prog_11_method_55_code
def yX9_byteAt : MethodName := ⟨RX9, "byteAt", "(II)I"⟩
abbrev cX9_orderAt : ByteArray := prog_11_method_56_code
def yX9_orderAt : MethodName := ⟨RX9, "orderAt", "(II)I"⟩
abbrev cX9_tellThought : ByteArray := prog_11_method_57_code
def yX9_tellThought : MethodName := ⟨RX9, "tellThought", "(I)I"⟩
abbrev cX9_run : ByteArray := prog_11_method_58_code
def yX9_run : MethodName := ⟨RX9, "run", "(III)I"⟩
abbrev cX9_first : ByteArray := prog_11_method_59_code
def yX9_first : MethodName := ⟨RX9, "first", "(I)I"⟩
abbrev cX9_lawful : ByteArray := prog_11_method_60_code
def yX9_lawful : MethodName := ⟨RX9, "lawful", "(II)I"⟩
abbrev cX9_findFar : ByteArray := prog_11_method_61_code
def yX9_findFar : MethodName := ⟨RX9, "findFar", "(I)V"⟩
abbrev cX9_cheapest : ByteArray := prog_11_method_62_code
def yX9_cheapest : MethodName := ⟨RX9, "cheapest", "(II)I"⟩
abbrev cX9_come : ByteArray := prog_11_method_63_code
def yX9_come : MethodName := ⟨RX9, "come", "(IIII)V"⟩
abbrev cX9_goOn : ByteArray := prog_11_method_64_code
def yX9_goOn : MethodName := ⟨RX9, "goOn", "(I)V"⟩
abbrev cX9_mostIn : ByteArray := prog_11_method_65_code
def yX9_mostIn : MethodName := ⟨RX9, "mostIn", "(I)I"⟩
abbrev cX9_soonest : ByteArray := prog_11_method_66_code
def yX9_soonest : MethodName := ⟨RX9, "soonest", "(II)I"⟩
abbrev cX9_toNorth : ByteArray := prog_11_method_67_code
def yX9_toNorth : MethodName := ⟨RX9, "toNorth", "(I)I"⟩
abbrev cX9_goRound : ByteArray := prog_11_method_68_code
def yX9_goRound : MethodName := ⟨RX9, "goRound", "(IIIII)V"⟩
abbrev cX9_round : ByteArray := prog_11_method_69_code
def yX9_round : MethodName := ⟨RX9, "round", "(I)I"⟩
abbrev cX9_lasts : ByteArray := prog_11_method_70_code
def yX9_lasts : MethodName := ⟨RX9, "lasts", "(I)I"⟩
abbrev cX9_power : ByteArray := prog_11_method_71_code
def yX9_power : MethodName := ⟨RX9, "power", "(II)J"⟩
abbrev cX9_part : ByteArray := prog_11_method_72_code
def yX9_part : MethodName := ⟨RX9, "part", "(JJI)J"⟩
abbrev cX9_clean : ByteArray := prog_11_method_73_code
def yX9_clean : MethodName := ⟨RX9, "clean", "(III)J"⟩
abbrev cX9_endOf : ByteArray := prog_11_method_74_code
def yX9_endOf : MethodName := ⟨RX9, "endOf", "(II)I"⟩
abbrev cX9_line : ByteArray := prog_11_method_75_code
def yX9_line : MethodName := ⟨RX9, "line", "(II)J"⟩
abbrev cX9_drawn : ByteArray := prog_11_method_76_code
def yX9_drawn : MethodName := ⟨RX9, "drawn", "(III)I"⟩
abbrev cX9_judge : ByteArray := prog_11_method_77_code
def yX9_judge : MethodName := ⟨RX9, "judge", "(I)I"⟩
abbrev cX9_image : ByteArray := prog_11_method_78_code
def yX9_image : MethodName := ⟨RX9, "image", "()I"⟩
abbrev cX9_back : ByteArray := prog_11_method_79_code
def yX9_back : MethodName := ⟨RX9, "back", "()I"⟩
abbrev cX9_stones : ByteArray := prog_11_method_80_code
def yX9_stones : MethodName := ⟨RX9, "stones", "()I"⟩
abbrev cX9_hollows : ByteArray := prog_11_method_81_code
def yX9_hollows : MethodName := ⟨RX9, "hollows", "()I"⟩
abbrev cX9_isBody : ByteArray := prog_11_method_82_code
def yX9_isBody : MethodName := ⟨RX9, "isBody", "(I)Z"⟩
abbrev cX9_ran : ByteArray := prog_11_method_83_code
def yX9_ran : MethodName := ⟨RX9, "ran", "(I)V"⟩
abbrev cX9_trace : ByteArray := prog_11_method_84_code
def yX9_trace : MethodName := ⟨RX9, "trace", "(I)I"⟩
abbrev cX9_body : ByteArray := prog_11_method_85_code
def yX9_body : MethodName := ⟨RX9, "body", "(I)I"⟩
abbrev cX9_isUnder : ByteArray := prog_11_method_86_code
def yX9_isUnder : MethodName := ⟨RX9, "isUnder", "(II)Z"⟩
abbrev cX9_plainTurns : ByteArray := prog_11_method_87_code
def yX9_plainTurns : MethodName := ⟨RX9, "plainTurns", "(II)I"⟩
abbrev cX9_northTurns : ByteArray := prog_11_method_88_code
def yX9_northTurns : MethodName := ⟨RX9, "northTurns", "(II)I"⟩
abbrev cX9_turning : ByteArray := prog_11_method_89_code
def yX9_turning : MethodName := ⟨RX9, "turning", "(II)I"⟩
abbrev cX9_plainMoves : ByteArray := prog_11_method_90_code
def yX9_plainMoves : MethodName := ⟨RX9, "plainMoves", "(II)I"⟩
abbrev cX9_dustyMoves : ByteArray := prog_11_method_91_code
def yX9_dustyMoves : MethodName := ⟨RX9, "dustyMoves", "(II)I"⟩
abbrev cX9_moving : ByteArray := prog_11_method_92_code
def yX9_moving : MethodName := ⟨RX9, "moving", "(II)I"⟩
abbrev cX9_plainLooks : ByteArray := prog_11_method_93_code
def yX9_plainLooks : MethodName := ⟨RX9, "plainLooks", "(II)I"⟩
abbrev cX9_cleanLooks : ByteArray := prog_11_method_94_code
def yX9_cleanLooks : MethodName := ⟨RX9, "cleanLooks", "(II)I"⟩
abbrev cX9_looking : ByteArray := prog_11_method_95_code
def yX9_looking : MethodName := ⟨RX9, "looking", "(II)I"⟩
abbrev cX9_plainTells : ByteArray := prog_11_method_96_code
def yX9_plainTells : MethodName := ⟨RX9, "plainTells", "(II)I"⟩
abbrev cX9_telling : ByteArray := prog_11_method_97_code
def yX9_telling : MethodName := ⟨RX9, "telling", "(II)I"⟩
abbrev cX9_act : ByteArray := prog_11_method_98_code
def yX9_act : MethodName := ⟨RX9, "act", "(III)I"⟩
abbrev cX9_count : ByteArray := prog_11_method_99_code
def yX9_count : MethodName := ⟨RX9, "count", "(I)I"⟩
abbrev cX9_isShelf : ByteArray := prog_11_method_100_code
def yX9_isShelf : MethodName := ⟨RX9, "isShelf", "(I)Z"⟩
abbrev cX9_keep : ByteArray := prog_11_method_101_code
def yX9_keep : MethodName := ⟨RX9, "keep", "(II)I"⟩
abbrev cX9_row : ByteArray := prog_11_method_102_code
def yX9_row : MethodName := ⟨RX9, "row", "(III)I"⟩
abbrev cX9_whyNoPlace : ByteArray := prog_11_method_103_code
def yX9_whyNoPlace : MethodName := ⟨RX9, "whyNoPlace", "(II)I"⟩
abbrev cX9_put : ByteArray := prog_11_method_104_code
def yX9_put : MethodName := ⟨RX9, "put", "(IIJ)I"⟩
abbrev cX9_element : ByteArray := prog_11_method_105_code
def yX9_element : MethodName := ⟨RX9, "element", "(II)J"⟩
abbrev cX9_shift : ByteArray := prog_11_method_106_code
def yX9_shift : MethodName := ⟨RX9, "shift", "(IIIII)I"⟩
abbrev cX9_taken : ByteArray := prog_11_method_107_code
def yX9_taken : MethodName := ⟨RX9, "taken", "(II)I"⟩
def RJ13 : String := "java/lang/Long"
def TJ13 : u_T := fun k => match k with
  | _ => ("", "", "", false)
def tyJ13 : Nat → FieldType := fun k => match k with
  | _ => .int
abbrev wsJ130 : List Cond := u_ws RJ13 TJ13 0
theorem nmJ13 : ∀ a, a < 0 → ∀ b, b < 0 → a ≠ b → (TJ13 a).2.1 ≠ (TJ13 b).2.1 := by decide +kernel
theorem tyJ13_ok : ∀ k, k < 0 → parseFieldDescriptor (TJ13 k).2.2.1 = some (tyJ13 k) := by decide +kernel
abbrev cJ13_bitCount_95d88 : ByteArray := prog_12_method_50_code
def yJ13_bitCount_95d88 : MethodName := ⟨RJ13, "bitCount", "(J)I"⟩
def RJ9 : String := "java/lang/Math"
def TJ9 : u_T := fun k => match k with
  | _ => ("", "", "", false)
def tyJ9 : Nat → FieldType := fun k => match k with
  | _ => .int
abbrev wsJ90 : List Cond := u_ws RJ9 TJ9 0
theorem nmJ9 : ∀ a, a < 0 → ∀ b, b < 0 → a ≠ b → (TJ9 a).2.1 ≠ (TJ9 b).2.1 := by decide +kernel
theorem tyJ9_ok : ∀ k, k < 0 → parseFieldDescriptor (TJ9 k).2.2.1 = some (tyJ9 k) := by decide +kernel
abbrev cJ9_max_7cf53 : ByteArray := prog_13_method_65_code
def yJ9_max_7cf53 : MethodName := ⟨RJ9, "max", "(II)I"⟩
abbrev cJ9_min_7cf53 : ByteArray := prog_13_method_69_code
def yJ9_min_7cf53 : MethodName := ⟨RJ9, "min", "(II)I"⟩
def RJ10 : String := "java/lang/System"
def TJ10 : u_T := fun k => match k with
  | _ => ("", "", "", false)
def tyJ10 : Nat → FieldType := fun k => match k with
  | _ => .int
abbrev wsJ100 : List Cond := u_ws RJ10 TJ10 0
theorem nmJ10 : ∀ a, a < 0 → ∀ b, b < 0 → a ≠ b → (TJ10 a).2.1 ≠ (TJ10 b).2.1 := by decide +kernel
theorem tyJ10_ok : ∀ k, k < 0 → parseFieldDescriptor (TJ10 k).2.2.1 = some (tyJ10 k) := by decide +kernel
def RJ7 : String := "java/util/Arrays"
def TJ7 : u_T := fun k => match k with
  | _ => ("", "", "", false)
def tyJ7 : Nat → FieldType := fun k => match k with
  | _ => .int
abbrev wsJ70 : List Cond := u_ws RJ7 TJ7 0
theorem nmJ7 : ∀ a, a < 0 → ∀ b, b < 0 → a ≠ b → (TJ7 a).2.1 ≠ (TJ7 b).2.1 := by decide +kernel
theorem tyJ7_ok : ∀ k, k < 0 → parseFieldDescriptor (TJ7 k).2.2.1 = some (tyJ7 k) := by decide +kernel
abbrev cJ7_fill_d0a16 : ByteArray := prog_15_method_101_code
def yJ7_fill_d0a16 : MethodName := ⟨RJ7, "fill", "([JJ)V"⟩
abbrev cJ7_fill_53178 : ByteArray := prog_15_method_103_code
def yJ7_fill_53178 : MethodName := ⟨RJ7, "fill", "([II)V"⟩
def RL : String := "DustCartLaw"
abbrev cL_law : ByteArray := code
def yL_law : MethodName := ⟨RL, "law", "([I)Z"⟩
abbrev vwCl : List vw_C := [(RX0, TX0, 4), (RX1, TX1, 5), (RX2, TX2, 10), (RX3, TX3, 1), (RX4, TX4, 5), (RX5, TX5, 5), (RX6, TX6, 8), (RX7, TX7, 5), (RX8, TX8, 14), (RX9, TX9, 60)]
/-- the words of the tables that hold wherever they are asked -/
def xTbl : List Cond := lw_tbl.filter goodWord
theorem xm1 {w : Cond} (i : Nat) (h : lw_tbl[i]? = some w) (hg : goodWord w = true) : w ∈ xTbl := List.mem_filter.mpr ⟨List.mem_of_getElem? h, hg⟩
theorem xms (ws : List Cond) (ps : List Nat) (h : ws = ps.filterMap (fun i => lw_tbl[i]?)) (hg : ws.all goodWord = true) : ∀ w ∈ ws, w ∈ xTbl := by
  intro w hw
  have h1 := List.all_eq_true.mp hg w hw
  rw [h] at hw
  obtain ⟨i, -, hi⟩ := List.mem_filterMap.mp hw
  exact xm1 i hi h1
theorem xGood : GoodIn xTbl xTbl := fun w h => ⟨h, good_of_word (List.mem_filter.mp h).2⟩
theorem xmt_1 {w : Cond} (j : Nat) (h : tables_1_1[j]? = some w) (hg : goodWord w = true) : w ∈ xTbl := List.mem_filter.mpr ⟨by unfold lw_tbl tables_1; simp only [List.mem_append]; have := List.mem_of_getElem? h; simp only [this, true_or, or_true], hg⟩
theorem xmt_2 {w : Cond} (j : Nat) (h : tables_1_2[j]? = some w) (hg : goodWord w = true) : w ∈ xTbl := List.mem_filter.mpr ⟨by unfold lw_tbl tables_1; simp only [List.mem_append]; have := List.mem_of_getElem? h; simp only [this, true_or, or_true], hg⟩
theorem xmt_3 {w : Cond} (j : Nat) (h : tables_1_3[j]? = some w) (hg : goodWord w = true) : w ∈ xTbl := List.mem_filter.mpr ⟨by unfold lw_tbl tables_1; simp only [List.mem_append]; have := List.mem_of_getElem? h; simp only [this, true_or, or_true], hg⟩
theorem xmt_4 {w : Cond} (j : Nat) (h : tables_1_4[j]? = some w) (hg : goodWord w = true) : w ∈ xTbl := List.mem_filter.mpr ⟨by unfold lw_tbl tables_1; simp only [List.mem_append]; have := List.mem_of_getElem? h; simp only [this, true_or, or_true], hg⟩
theorem xmt_5 {w : Cond} (j : Nat) (h : tables_1_5[j]? = some w) (hg : goodWord w = true) : w ∈ xTbl := List.mem_filter.mpr ⟨by unfold lw_tbl tables_1; simp only [List.mem_append]; have := List.mem_of_getElem? h; simp only [this, true_or, or_true], hg⟩
theorem xmt_6 {w : Cond} (j : Nat) (h : tables_1_6[j]? = some w) (hg : goodWord w = true) : w ∈ xTbl := List.mem_filter.mpr ⟨by unfold lw_tbl tables_1; simp only [List.mem_append]; have := List.mem_of_getElem? h; simp only [this, true_or, or_true], hg⟩
theorem xmt_7 {w : Cond} (j : Nat) (h : tables_1_7[j]? = some w) (hg : goodWord w = true) : w ∈ xTbl := List.mem_filter.mpr ⟨by unfold lw_tbl tables_1; simp only [List.mem_append]; have := List.mem_of_getElem? h; simp only [this, true_or, or_true], hg⟩
theorem xTbl_in {w : Cond} (h : w ∈ xTbl) : w ∈ lw_tbl := (List.mem_filter.mp h).1
