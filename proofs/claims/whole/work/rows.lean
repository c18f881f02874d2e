section
-- ===== PART A: goes FIRST, ahead of the names: the tables' words, and 'selects' of the private methods out of them =====
/-- a private method of a class that the tables say can be made, by its rows of tables_1 -/
def lw_okq (q : MethodName × Nat) : Prop := (q.1.cls ≠ "java/lang/invoke/MethodHandle" ∧ q.1.cls ≠ "java/lang/invoke/VarHandle") ∧ Cond.instantiable q.1.cls q.2 ∈ tables_1 ∧ Cond.privateMethod q.1 ∈ tables_1 ∧ Cond.instanceMethod q.1 ∈ tables_1
theorem lw_p0 : lw_okq (⟨"DustCart$Changes", "dropOldest", "()V"⟩, 5) := ⟨⟨by decide +kernel, by decide +kernel⟩, List.mem_of_getElem? (i := 163) (by decide +kernel), List.mem_of_getElem? (i := 312) (by decide +kernel), List.mem_of_getElem? (i := 313) (by decide +kernel)⟩
theorem lw_p1 : lw_okq (⟨"DustCart", "ofCell", "(II)I"⟩, 14) := ⟨⟨by decide +kernel, by decide +kernel⟩, List.mem_of_getElem? (i := 16) (by decide +kernel), List.mem_of_getElem? (i := 323) (by decide +kernel), List.mem_of_getElem? (i := 324) (by decide +kernel)⟩
theorem lw_p2 : lw_okq (⟨"DustCart", "ofCart", "(I)I"⟩, 14) := ⟨⟨by decide +kernel, by decide +kernel⟩, List.mem_of_getElem? (i := 16) (by decide +kernel), List.mem_of_getElem? (i := 345) (by decide +kernel), List.mem_of_getElem? (i := 346) (by decide +kernel)⟩
theorem lw_p3 : lw_okq (⟨"DustCart", "heightsFrom", "(LDustCart$Shelf;III)I"⟩, 14) := ⟨⟨by decide +kernel, by decide +kernel⟩, List.mem_of_getElem? (i := 16) (by decide +kernel), List.mem_of_getElem? (i := 370) (by decide +kernel), List.mem_of_getElem? (i := 371) (by decide +kernel)⟩
theorem lw_p4 : lw_okq (⟨"DustCart$Law", "readLines", "()V"⟩, 10) := ⟨⟨by decide +kernel, by decide +kernel⟩, List.mem_of_getElem? (i := 65) (by decide +kernel), List.mem_of_getElem? (i := 398) (by decide +kernel), List.mem_of_getElem? (i := 399) (by decide +kernel)⟩
theorem lw_p5 : lw_okq (⟨"DustCart$Law", "readOr", "(I)V"⟩, 10) := ⟨⟨by decide +kernel, by decide +kernel⟩, List.mem_of_getElem? (i := 65) (by decide +kernel), List.mem_of_getElem? (i := 402) (by decide +kernel), List.mem_of_getElem? (i := 403) (by decide +kernel)⟩
theorem lw_p6 : lw_okq (⟨"DustCart$Law", "readAnd", "(I)V"⟩, 10) := ⟨⟨by decide +kernel, by decide +kernel⟩, List.mem_of_getElem? (i := 65) (by decide +kernel), List.mem_of_getElem? (i := 406) (by decide +kernel), List.mem_of_getElem? (i := 407) (by decide +kernel)⟩
theorem lw_p7 : lw_okq (⟨"DustCart$Law", "readCompared", "(I)V"⟩, 10) := ⟨⟨by decide +kernel, by decide +kernel⟩, List.mem_of_getElem? (i := 65) (by decide +kernel), List.mem_of_getElem? (i := 410) (by decide +kernel), List.mem_of_getElem? (i := 411) (by decide +kernel)⟩
theorem lw_p8 : lw_okq (⟨"DustCart$Law", "readSum", "(I)V"⟩, 10) := ⟨⟨by decide +kernel, by decide +kernel⟩, List.mem_of_getElem? (i := 65) (by decide +kernel), List.mem_of_getElem? (i := 414) (by decide +kernel), List.mem_of_getElem? (i := 415) (by decide +kernel)⟩
theorem lw_p9 : lw_okq (⟨"DustCart$Law", "readProduct", "(I)V"⟩, 10) := ⟨⟨by decide +kernel, by decide +kernel⟩, List.mem_of_getElem? (i := 65) (by decide +kernel), List.mem_of_getElem? (i := 418) (by decide +kernel), List.mem_of_getElem? (i := 419) (by decide +kernel)⟩
theorem lw_p10 : lw_okq (⟨"DustCart$Law", "readOperand", "(I)V"⟩, 10) := ⟨⟨by decide +kernel, by decide +kernel⟩, List.mem_of_getElem? (i := 65) (by decide +kernel), List.mem_of_getElem? (i := 422) (by decide +kernel), List.mem_of_getElem? (i := 423) (by decide +kernel)⟩
theorem lw_p11 : lw_okq (⟨"DustCart$Law", "sign", "()I"⟩, 10) := ⟨⟨by decide +kernel, by decide +kernel⟩, List.mem_of_getElem? (i := 65) (by decide +kernel), List.mem_of_getElem? (i := 426) (by decide +kernel), List.mem_of_getElem? (i := 427) (by decide +kernel)⟩
theorem lw_p12 : lw_okq (⟨"DustCart$Law", "readNumber", "()V"⟩, 10) := ⟨⟨by decide +kernel, by decide +kernel⟩, List.mem_of_getElem? (i := 65) (by decide +kernel), List.mem_of_getElem? (i := 433) (by decide +kernel), List.mem_of_getElem? (i := 434) (by decide +kernel)⟩
theorem lw_p13 : lw_okq (⟨"DustCart$Law", "write", "(I)V"⟩, 10) := ⟨⟨by decide +kernel, by decide +kernel⟩, List.mem_of_getElem? (i := 65) (by decide +kernel), List.mem_of_getElem? (i := 437) (by decide +kernel), List.mem_of_getElem? (i := 438) (by decide +kernel)⟩
theorem lw_p14 : lw_okq (⟨"DustCart$Law", "readOpened", "(II)V"⟩, 10) := ⟨⟨by decide +kernel, by decide +kernel⟩, List.mem_of_getElem? (i := 65) (by decide +kernel), List.mem_of_getElem? (i := 444) (by decide +kernel), List.mem_of_getElem? (i := 445) (by decide +kernel)⟩
theorem lw_p15 : lw_okq (⟨"DustCart$Law", "pass", "(I)Z"⟩, 10) := ⟨⟨by decide +kernel, by decide +kernel⟩, List.mem_of_getElem? (i := 65) (by decide +kernel), List.mem_of_getElem? (i := 448) (by decide +kernel), List.mem_of_getElem? (i := 449) (by decide +kernel)⟩
def lw_privs_1 : List (MethodName × Nat) := [(⟨"DustCart$Changes", "dropOldest", "()V"⟩, 5), (⟨"DustCart", "ofCell", "(II)I"⟩, 14), (⟨"DustCart", "ofCart", "(I)I"⟩, 14), (⟨"DustCart", "heightsFrom", "(LDustCart$Shelf;III)I"⟩, 14), (⟨"DustCart$Law", "readLines", "()V"⟩, 10), (⟨"DustCart$Law", "readOr", "(I)V"⟩, 10), (⟨"DustCart$Law", "readAnd", "(I)V"⟩, 10), (⟨"DustCart$Law", "readCompared", "(I)V"⟩, 10), (⟨"DustCart$Law", "readSum", "(I)V"⟩, 10), (⟨"DustCart$Law", "readProduct", "(I)V"⟩, 10), (⟨"DustCart$Law", "readOperand", "(I)V"⟩, 10), (⟨"DustCart$Law", "sign", "()I"⟩, 10), (⟨"DustCart$Law", "readNumber", "()V"⟩, 10), (⟨"DustCart$Law", "write", "(I)V"⟩, 10), (⟨"DustCart$Law", "readOpened", "(II)V"⟩, 10), (⟨"DustCart$Law", "pass", "(I)Z"⟩, 10)]
theorem lw_r1 : ∀ q ∈ lw_privs_1, lw_okq q := List.forall_mem_cons.mpr ⟨lw_p0, List.forall_mem_cons.mpr ⟨lw_p1, List.forall_mem_cons.mpr ⟨lw_p2, List.forall_mem_cons.mpr ⟨lw_p3, List.forall_mem_cons.mpr ⟨lw_p4, List.forall_mem_cons.mpr ⟨lw_p5, List.forall_mem_cons.mpr ⟨lw_p6, List.forall_mem_cons.mpr ⟨lw_p7, List.forall_mem_cons.mpr ⟨lw_p8, List.forall_mem_cons.mpr ⟨lw_p9, List.forall_mem_cons.mpr ⟨lw_p10, List.forall_mem_cons.mpr ⟨lw_p11, List.forall_mem_cons.mpr ⟨lw_p12, List.forall_mem_cons.mpr ⟨lw_p13, List.forall_mem_cons.mpr ⟨lw_p14, List.forall_mem_cons.mpr ⟨lw_p15, fun _ h => absurd h List.not_mem_nil⟩⟩⟩⟩⟩⟩⟩⟩⟩⟩⟩⟩⟩⟩⟩⟩
theorem lw_p16 : lw_okq (⟨"DustCart$Law", "refuse", "()V"⟩, 10) := ⟨⟨by decide +kernel, by decide +kernel⟩, List.mem_of_getElem? (i := 65) (by decide +kernel), List.mem_of_getElem? (i := 452) (by decide +kernel), List.mem_of_getElem? (i := 453) (by decide +kernel)⟩
theorem lw_p17 : lw_okq (⟨"DustCart$Law", "workOut", "(LDustCart$Plain;LDustCart$Cart;I)I"⟩, 10) := ⟨⟨by decide +kernel, by decide +kernel⟩, List.mem_of_getElem? (i := 65) (by decide +kernel), List.mem_of_getElem? (i := 486) (by decide +kernel), List.mem_of_getElem? (i := 487) (by decide +kernel)⟩
theorem lw_p18 : lw_okq (⟨"DustCart$Law", "pop", "()I"⟩, 10) := ⟨⟨by decide +kernel, by decide +kernel⟩, List.mem_of_getElem? (i := 65) (by decide +kernel), List.mem_of_getElem? (i := 490) (by decide +kernel), List.mem_of_getElem? (i := 491) (by decide +kernel)⟩
theorem lw_p19 : lw_okq (⟨"DustCart$Law", "step", "(ILDustCart$Plain;LDustCart$Cart;I)V"⟩, 10) := ⟨⟨by decide +kernel, by decide +kernel⟩, List.mem_of_getElem? (i := 65) (by decide +kernel), List.mem_of_getElem? (i := 494) (by decide +kernel), List.mem_of_getElem? (i := 495) (by decide +kernel)⟩
theorem lw_p20 : lw_okq (⟨"DustCart$Law", "push", "(I)V"⟩, 10) := ⟨⟨by decide +kernel, by decide +kernel⟩, List.mem_of_getElem? (i := 65) (by decide +kernel), List.mem_of_getElem? (i := 498) (by decide +kernel), List.mem_of_getElem? (i := 499) (by decide +kernel)⟩
theorem lw_p21 : lw_okq (⟨"DustCart", "live", "(I)Z"⟩, 14) := ⟨⟨by decide +kernel, by decide +kernel⟩, List.mem_of_getElem? (i := 16) (by decide +kernel), List.mem_of_getElem? (i := 517) (by decide +kernel), List.mem_of_getElem? (i := 518) (by decide +kernel)⟩
theorem lw_p22 : lw_okq (⟨"DustCart$Cart", "lookAround", "(LDustCart$Plain;)Z"⟩, 4) := ⟨⟨by decide +kernel, by decide +kernel⟩, List.mem_of_getElem? (i := 35) (by decide +kernel), List.mem_of_getElem? (i := 534) (by decide +kernel), List.mem_of_getElem? (i := 535) (by decide +kernel)⟩
theorem lw_p23 : lw_okq (⟨"DustCart$Cart", "move", "(LDustCart$Plain;I)Z"⟩, 4) := ⟨⟨by decide +kernel, by decide +kernel⟩, List.mem_of_getElem? (i := 35) (by decide +kernel), List.mem_of_getElem? (i := 539) (by decide +kernel), List.mem_of_getElem? (i := 540) (by decide +kernel)⟩
theorem lw_p24 : lw_okq (⟨"DustCart", "refusedBytes", "(I)I"⟩, 14) := ⟨⟨by decide +kernel, by decide +kernel⟩, List.mem_of_getElem? (i := 16) (by decide +kernel), List.mem_of_getElem? (i := 565) (by decide +kernel), List.mem_of_getElem? (i := 566) (by decide +kernel)⟩
theorem lw_p25 : lw_okq (⟨"DustCart", "thoughtOf", "(I)I"⟩, 14) := ⟨⟨by decide +kernel, by decide +kernel⟩, List.mem_of_getElem? (i := 16) (by decide +kernel), List.mem_of_getElem? (i := 580) (by decide +kernel), List.mem_of_getElem? (i := 581) (by decide +kernel)⟩
theorem lw_p26 : lw_okq (⟨"DustCart$Ways", "nearest", "(J)I"⟩, 8) := ⟨⟨by decide +kernel, by decide +kernel⟩, List.mem_of_getElem? (i := 104) (by decide +kernel), List.mem_of_getElem? (i := 602) (by decide +kernel), List.mem_of_getElem? (i := 603) (by decide +kernel)⟩
theorem lw_p27 : lw_okq (⟨"DustCart$Ways", "spreadFrom", "(LDustCart$Plain;I)V"⟩, 8) := ⟨⟨by decide +kernel, by decide +kernel⟩, List.mem_of_getElem? (i := 104) (by decide +kernel), List.mem_of_getElem? (i := 606) (by decide +kernel), List.mem_of_getElem? (i := 607) (by decide +kernel)⟩
theorem lw_p28 : lw_okq (⟨"DustCart$Reach", "mostIn", "(I)I"⟩, 5) := ⟨⟨by decide +kernel, by decide +kernel⟩, List.mem_of_getElem? (i := 137) (by decide +kernel), List.mem_of_getElem? (i := 639) (by decide +kernel), List.mem_of_getElem? (i := 640) (by decide +kernel)⟩
theorem lw_p29 : lw_okq (⟨"DustCart$Reach", "goOn", "(LDustCart$Plain;I)V"⟩, 5) := ⟨⟨by decide +kernel, by decide +kernel⟩, List.mem_of_getElem? (i := 137) (by decide +kernel), List.mem_of_getElem? (i := 643) (by decide +kernel), List.mem_of_getElem? (i := 644) (by decide +kernel)⟩
theorem lw_p30 : lw_okq (⟨"DustCart$Ways", "listStones", "(LDustCart$Plain;LDustCart$Cart;)Z"⟩, 8) := ⟨⟨by decide +kernel, by decide +kernel⟩, List.mem_of_getElem? (i := 104) (by decide +kernel), List.mem_of_getElem? (i := 660) (by decide +kernel), List.mem_of_getElem? (i := 661) (by decide +kernel)⟩
theorem lw_p31 : lw_okq (⟨"DustCart$Ways", "leastRest", "(II)I"⟩, 8) := ⟨⟨by decide +kernel, by decide +kernel⟩, List.mem_of_getElem? (i := 104) (by decide +kernel), List.mem_of_getElem? (i := 667) (by decide +kernel), List.mem_of_getElem? (i := 668) (by decide +kernel)⟩
def lw_privs_2 : List (MethodName × Nat) := [(⟨"DustCart$Law", "refuse", "()V"⟩, 10), (⟨"DustCart$Law", "workOut", "(LDustCart$Plain;LDustCart$Cart;I)I"⟩, 10), (⟨"DustCart$Law", "pop", "()I"⟩, 10), (⟨"DustCart$Law", "step", "(ILDustCart$Plain;LDustCart$Cart;I)V"⟩, 10), (⟨"DustCart$Law", "push", "(I)V"⟩, 10), (⟨"DustCart", "live", "(I)Z"⟩, 14), (⟨"DustCart$Cart", "lookAround", "(LDustCart$Plain;)Z"⟩, 4), (⟨"DustCart$Cart", "move", "(LDustCart$Plain;I)Z"⟩, 4), (⟨"DustCart", "refusedBytes", "(I)I"⟩, 14), (⟨"DustCart", "thoughtOf", "(I)I"⟩, 14), (⟨"DustCart$Ways", "nearest", "(J)I"⟩, 8), (⟨"DustCart$Ways", "spreadFrom", "(LDustCart$Plain;I)V"⟩, 8), (⟨"DustCart$Reach", "mostIn", "(I)I"⟩, 5), (⟨"DustCart$Reach", "goOn", "(LDustCart$Plain;I)V"⟩, 5), (⟨"DustCart$Ways", "listStones", "(LDustCart$Plain;LDustCart$Cart;)Z"⟩, 8), (⟨"DustCart$Ways", "leastRest", "(II)I"⟩, 8)]
theorem lw_r2 : ∀ q ∈ lw_privs_2, lw_okq q := List.forall_mem_cons.mpr ⟨lw_p16, List.forall_mem_cons.mpr ⟨lw_p17, List.forall_mem_cons.mpr ⟨lw_p18, List.forall_mem_cons.mpr ⟨lw_p19, List.forall_mem_cons.mpr ⟨lw_p20, List.forall_mem_cons.mpr ⟨lw_p21, List.forall_mem_cons.mpr ⟨lw_p22, List.forall_mem_cons.mpr ⟨lw_p23, List.forall_mem_cons.mpr ⟨lw_p24, List.forall_mem_cons.mpr ⟨lw_p25, List.forall_mem_cons.mpr ⟨lw_p26, List.forall_mem_cons.mpr ⟨lw_p27, List.forall_mem_cons.mpr ⟨lw_p28, List.forall_mem_cons.mpr ⟨lw_p29, List.forall_mem_cons.mpr ⟨lw_p30, List.forall_mem_cons.mpr ⟨lw_p31, fun _ h => absurd h List.not_mem_nil⟩⟩⟩⟩⟩⟩⟩⟩⟩⟩⟩⟩⟩⟩⟩⟩
theorem lw_p32 : lw_okq (⟨"DustCart$Ways", "chooseFirst", "(I)V"⟩, 8) := ⟨⟨by decide +kernel, by decide +kernel⟩, List.mem_of_getElem? (i := 104) (by decide +kernel), List.mem_of_getElem? (i := 671) (by decide +kernel), List.mem_of_getElem? (i := 672) (by decide +kernel)⟩
theorem lw_p33 : lw_okq (⟨"DustCart$Wheels", "begin", "(IIII)I"⟩, 5) := ⟨⟨by decide +kernel, by decide +kernel⟩, List.mem_of_getElem? (i := 215) (by decide +kernel), List.mem_of_getElem? (i := 767) (by decide +kernel), List.mem_of_getElem? (i := 768) (by decide +kernel)⟩
theorem lw_p34 : lw_okq (⟨"DustCart$Wheels", "answerOfWheel", "(III)I"⟩, 5) := ⟨⟨by decide +kernel, by decide +kernel⟩, List.mem_of_getElem? (i := 215) (by decide +kernel), List.mem_of_getElem? (i := 776) (by decide +kernel), List.mem_of_getElem? (i := 777) (by decide +kernel)⟩
theorem lw_p35 : lw_okq (⟨"DustCart$Wheels", "own", "(III)I"⟩, 5) := ⟨⟨by decide +kernel, by decide +kernel⟩, List.mem_of_getElem? (i := 215) (by decide +kernel), List.mem_of_getElem? (i := 780) (by decide +kernel), List.mem_of_getElem? (i := 781) (by decide +kernel)⟩
theorem lw_p36 : lw_okq (⟨"DustCart$Wheels", "answerUnder", "(IIIII)I"⟩, 5) := ⟨⟨by decide +kernel, by decide +kernel⟩, List.mem_of_getElem? (i := 215) (by decide +kernel), List.mem_of_getElem? (i := 784) (by decide +kernel), List.mem_of_getElem? (i := 785) (by decide +kernel)⟩
theorem lw_p37 : lw_okq (⟨"DustCart$Shelf", "narrowed", "(J)J"⟩, 5) := ⟨⟨by decide +kernel, by decide +kernel⟩, List.mem_of_getElem? (i := 188) (by decide +kernel), List.mem_of_getElem? (i := 838) (by decide +kernel), List.mem_of_getElem? (i := 839) (by decide +kernel)⟩
theorem lw_p38 : lw_okq (⟨"DustCartModel", "lays", "(III)V"⟩, 60) := ⟨⟨by decide +kernel, by decide +kernel⟩, List.mem_of_getElem? (i := 873) (by decide +kernel), List.mem_of_getElem? (i := 1065) (by decide +kernel), List.mem_of_getElem? (i := 1066) (by decide +kernel)⟩
theorem lw_p39 : lw_okq (⟨"DustCartModel", "isThing", "(II)Z"⟩, 60) := ⟨⟨by decide +kernel, by decide +kernel⟩, List.mem_of_getElem? (i := 873) (by decide +kernel), List.mem_of_getElem? (i := 1077) (by decide +kernel), List.mem_of_getElem? (i := 1078) (by decide +kernel)⟩
theorem lw_p40 : lw_okq (⟨"DustCartModel", "changes", "(III)I"⟩, 60) := ⟨⟨by decide +kernel, by decide +kernel⟩, List.mem_of_getElem? (i := 873) (by decide +kernel), List.mem_of_getElem? (i := 1093) (by decide +kernel), List.mem_of_getElem? (i := 1094) (by decide +kernel)⟩
theorem lw_p41 : lw_okq (⟨"DustCartModel", "valueAt", "(II)I"⟩, 60) := ⟨⟨by decide +kernel, by decide +kernel⟩, List.mem_of_getElem? (i := 873) (by decide +kernel), List.mem_of_getElem? (i := 1097) (by decide +kernel), List.mem_of_getElem? (i := 1098) (by decide +kernel)⟩
theorem lw_p42 : lw_okq (⟨"DustCartModel", "isHollow", "(I)Z"⟩, 60) := ⟨⟨by decide +kernel, by decide +kernel⟩, List.mem_of_getElem? (i := 873) (by decide +kernel), List.mem_of_getElem? (i := 1105) (by decide +kernel), List.mem_of_getElem? (i := 1106) (by decide +kernel)⟩
theorem lw_p43 : lw_okq (⟨"DustCartModel", "isLooked", "(I)Z"⟩, 60) := ⟨⟨by decide +kernel, by decide +kernel⟩, List.mem_of_getElem? (i := 873) (by decide +kernel), List.mem_of_getElem? (i := 1112) (by decide +kernel), List.mem_of_getElem? (i := 1113) (by decide +kernel)⟩
theorem lw_p44 : lw_okq (⟨"DustCartModel", "readText", "(I)I"⟩, 60) := ⟨⟨by decide +kernel, by decide +kernel⟩, List.mem_of_getElem? (i := 873) (by decide +kernel), List.mem_of_getElem? (i := 1134) (by decide +kernel), List.mem_of_getElem? (i := 1135) (by decide +kernel)⟩
theorem lw_p45 : lw_okq (⟨"DustCartModel", "oneLine", "()V"⟩, 60) := ⟨⟨by decide +kernel, by decide +kernel⟩, List.mem_of_getElem? (i := 873) (by decide +kernel), List.mem_of_getElem? (i := 1138) (by decide +kernel), List.mem_of_getElem? (i := 1139) (by decide +kernel)⟩
theorem lw_p46 : lw_okq (⟨"DustCartModel", "either", "()V"⟩, 60) := ⟨⟨by decide +kernel, by decide +kernel⟩, List.mem_of_getElem? (i := 873) (by decide +kernel), List.mem_of_getElem? (i := 1142) (by decide +kernel), List.mem_of_getElem? (i := 1143) (by decide +kernel)⟩
theorem lw_p47 : lw_okq (⟨"DustCartModel", "both", "()V"⟩, 60) := ⟨⟨by decide +kernel, by decide +kernel⟩, List.mem_of_getElem? (i := 873) (by decide +kernel), List.mem_of_getElem? (i := 1146) (by decide +kernel), List.mem_of_getElem? (i := 1147) (by decide +kernel)⟩
def lw_privs_3 : List (MethodName × Nat) := [(⟨"DustCart$Ways", "chooseFirst", "(I)V"⟩, 8), (⟨"DustCart$Wheels", "begin", "(IIII)I"⟩, 5), (⟨"DustCart$Wheels", "answerOfWheel", "(III)I"⟩, 5), (⟨"DustCart$Wheels", "own", "(III)I"⟩, 5), (⟨"DustCart$Wheels", "answerUnder", "(IIIII)I"⟩, 5), (⟨"DustCart$Shelf", "narrowed", "(J)J"⟩, 5), (⟨"DustCartModel", "lays", "(III)V"⟩, 60), (⟨"DustCartModel", "isThing", "(II)Z"⟩, 60), (⟨"DustCartModel", "changes", "(III)I"⟩, 60), (⟨"DustCartModel", "valueAt", "(II)I"⟩, 60), (⟨"DustCartModel", "isHollow", "(I)Z"⟩, 60), (⟨"DustCartModel", "isLooked", "(I)Z"⟩, 60), (⟨"DustCartModel", "readText", "(I)I"⟩, 60), (⟨"DustCartModel", "oneLine", "()V"⟩, 60), (⟨"DustCartModel", "either", "()V"⟩, 60), (⟨"DustCartModel", "both", "()V"⟩, 60)]
theorem lw_r3 : ∀ q ∈ lw_privs_3, lw_okq q := List.forall_mem_cons.mpr ⟨lw_p32, List.forall_mem_cons.mpr ⟨lw_p33, List.forall_mem_cons.mpr ⟨lw_p34, List.forall_mem_cons.mpr ⟨lw_p35, List.forall_mem_cons.mpr ⟨lw_p36, List.forall_mem_cons.mpr ⟨lw_p37, List.forall_mem_cons.mpr ⟨lw_p38, List.forall_mem_cons.mpr ⟨lw_p39, List.forall_mem_cons.mpr ⟨lw_p40, List.forall_mem_cons.mpr ⟨lw_p41, List.forall_mem_cons.mpr ⟨lw_p42, List.forall_mem_cons.mpr ⟨lw_p43, List.forall_mem_cons.mpr ⟨lw_p44, List.forall_mem_cons.mpr ⟨lw_p45, List.forall_mem_cons.mpr ⟨lw_p46, List.forall_mem_cons.mpr ⟨lw_p47, fun _ h => absurd h List.not_mem_nil⟩⟩⟩⟩⟩⟩⟩⟩⟩⟩⟩⟩⟩⟩⟩⟩
theorem lw_p48 : lw_okq (⟨"DustCartModel", "compared", "()V"⟩, 60) := ⟨⟨by decide +kernel, by decide +kernel⟩, List.mem_of_getElem? (i := 873) (by decide +kernel), List.mem_of_getElem? (i := 1150) (by decide +kernel), List.mem_of_getElem? (i := 1151) (by decide +kernel)⟩
theorem lw_p49 : lw_okq (⟨"DustCartModel", "sum", "()V"⟩, 60) := ⟨⟨by decide +kernel, by decide +kernel⟩, List.mem_of_getElem? (i := 873) (by decide +kernel), List.mem_of_getElem? (i := 1154) (by decide +kernel), List.mem_of_getElem? (i := 1155) (by decide +kernel)⟩
theorem lw_p50 : lw_okq (⟨"DustCartModel", "product", "()V"⟩, 60) := ⟨⟨by decide +kernel, by decide +kernel⟩, List.mem_of_getElem? (i := 873) (by decide +kernel), List.mem_of_getElem? (i := 1158) (by decide +kernel), List.mem_of_getElem? (i := 1159) (by decide +kernel)⟩
theorem lw_p51 : lw_okq (⟨"DustCartModel", "operand", "()V"⟩, 60) := ⟨⟨by decide +kernel, by decide +kernel⟩, List.mem_of_getElem? (i := 873) (by decide +kernel), List.mem_of_getElem? (i := 1162) (by decide +kernel), List.mem_of_getElem? (i := 1163) (by decide +kernel)⟩
theorem lw_p52 : lw_okq (⟨"DustCartModel", "look", "()I"⟩, 60) := ⟨⟨by decide +kernel, by decide +kernel⟩, List.mem_of_getElem? (i := 873) (by decide +kernel), List.mem_of_getElem? (i := 1166) (by decide +kernel), List.mem_of_getElem? (i := 1167) (by decide +kernel)⟩
theorem lw_p53 : lw_okq (⟨"DustCartModel", "addStep", "(II)V"⟩, 60) := ⟨⟨by decide +kernel, by decide +kernel⟩, List.mem_of_getElem? (i := 873) (by decide +kernel), List.mem_of_getElem? (i := 1173) (by decide +kernel), List.mem_of_getElem? (i := 1174) (by decide +kernel)⟩
theorem lw_p54 : lw_okq (⟨"DustCartModel", "opens", "()Z"⟩, 60) := ⟨⟨by decide +kernel, by decide +kernel⟩, List.mem_of_getElem? (i := 873) (by decide +kernel), List.mem_of_getElem? (i := 1177) (by decide +kernel), List.mem_of_getElem? (i := 1178) (by decide +kernel)⟩
theorem lw_p55 : lw_okq (⟨"DustCartModel", "faulty", "()V"⟩, 60) := ⟨⟨by decide +kernel, by decide +kernel⟩, List.mem_of_getElem? (i := 873) (by decide +kernel), List.mem_of_getElem? (i := 1181) (by decide +kernel), List.mem_of_getElem? (i := 1182) (by decide +kernel)⟩
theorem lw_p56 : lw_okq (⟨"DustCartModel", "figure", "()V"⟩, 60) := ⟨⟨by decide +kernel, by decide +kernel⟩, List.mem_of_getElem? (i := 873) (by decide +kernel), List.mem_of_getElem? (i := 1185) (by decide +kernel), List.mem_of_getElem? (i := 1186) (by decide +kernel)⟩
theorem lw_p57 : lw_okq (⟨"DustCartModel", "costOf", "(II)I"⟩, 60) := ⟨⟨by decide +kernel, by decide +kernel⟩, List.mem_of_getElem? (i := 873) (by decide +kernel), List.mem_of_getElem? (i := 1193) (by decide +kernel), List.mem_of_getElem? (i := 1194) (by decide +kernel)⟩
theorem lw_p58 : lw_okq (⟨"DustCartModel", "orderOf", "(I)I"⟩, 60) := ⟨⟨by decide +kernel, by decide +kernel⟩, List.mem_of_getElem? (i := 873) (by decide +kernel), List.mem_of_getElem? (i := 1201) (by decide +kernel), List.mem_of_getElem? (i := 1202) (by decide +kernel)⟩
theorem lw_p59 : lw_okq (⟨"DustCartModel", "gives", "(I)I"⟩, 60) := ⟨⟨by decide +kernel, by decide +kernel⟩, List.mem_of_getElem? (i := 873) (by decide +kernel), List.mem_of_getElem? (i := 1205) (by decide +kernel), List.mem_of_getElem? (i := 1206) (by decide +kernel)⟩
theorem lw_p60 : lw_okq (⟨"DustCartModel", "worked", "(III)I"⟩, 60) := ⟨⟨by decide +kernel, by decide +kernel⟩, List.mem_of_getElem? (i := 873) (by decide +kernel), List.mem_of_getElem? (i := 1209) (by decide +kernel), List.mem_of_getElem? (i := 1210) (by decide +kernel)⟩
theorem lw_p61 : lw_okq (⟨"DustCartModel", "lead", "(I)I"⟩, 60) := ⟨⟨by decide +kernel, by decide +kernel⟩, List.mem_of_getElem? (i := 873) (by decide +kernel), List.mem_of_getElem? (i := 1220) (by decide +kernel), List.mem_of_getElem? (i := 1221) (by decide +kernel)⟩
theorem lw_p62 : lw_okq (⟨"DustCartModel", "goOwn", "(II)Z"⟩, 60) := ⟨⟨by decide +kernel, by decide +kernel⟩, List.mem_of_getElem? (i := 873) (by decide +kernel), List.mem_of_getElem? (i := 1224) (by decide +kernel), List.mem_of_getElem? (i := 1225) (by decide +kernel)⟩
theorem lw_p63 : lw_okq (⟨"DustCartModel", "goDay", "(IIII)Z"⟩, 60) := ⟨⟨by decide +kernel, by decide +kernel⟩, List.mem_of_getElem? (i := 873) (by decide +kernel), List.mem_of_getElem? (i := 1228) (by decide +kernel), List.mem_of_getElem? (i := 1229) (by decide +kernel)⟩
def lw_privs_4 : List (MethodName × Nat) := [(⟨"DustCartModel", "compared", "()V"⟩, 60), (⟨"DustCartModel", "sum", "()V"⟩, 60), (⟨"DustCartModel", "product", "()V"⟩, 60), (⟨"DustCartModel", "operand", "()V"⟩, 60), (⟨"DustCartModel", "look", "()I"⟩, 60), (⟨"DustCartModel", "addStep", "(II)V"⟩, 60), (⟨"DustCartModel", "opens", "()Z"⟩, 60), (⟨"DustCartModel", "faulty", "()V"⟩, 60), (⟨"DustCartModel", "figure", "()V"⟩, 60), (⟨"DustCartModel", "costOf", "(II)I"⟩, 60), (⟨"DustCartModel", "orderOf", "(I)I"⟩, 60), (⟨"DustCartModel", "gives", "(I)I"⟩, 60), (⟨"DustCartModel", "worked", "(III)I"⟩, 60), (⟨"DustCartModel", "lead", "(I)I"⟩, 60), (⟨"DustCartModel", "goOwn", "(II)Z"⟩, 60), (⟨"DustCartModel", "goDay", "(IIII)Z"⟩, 60)]
theorem lw_r4 : ∀ q ∈ lw_privs_4, lw_okq q := List.forall_mem_cons.mpr ⟨lw_p48, List.forall_mem_cons.mpr ⟨lw_p49, List.forall_mem_cons.mpr ⟨lw_p50, List.forall_mem_cons.mpr ⟨lw_p51, List.forall_mem_cons.mpr ⟨lw_p52, List.forall_mem_cons.mpr ⟨lw_p53, List.forall_mem_cons.mpr ⟨lw_p54, List.forall_mem_cons.mpr ⟨lw_p55, List.forall_mem_cons.mpr ⟨lw_p56, List.forall_mem_cons.mpr ⟨lw_p57, List.forall_mem_cons.mpr ⟨lw_p58, List.forall_mem_cons.mpr ⟨lw_p59, List.forall_mem_cons.mpr ⟨lw_p60, List.forall_mem_cons.mpr ⟨lw_p61, List.forall_mem_cons.mpr ⟨lw_p62, List.forall_mem_cons.mpr ⟨lw_p63, fun _ h => absurd h List.not_mem_nil⟩⟩⟩⟩⟩⟩⟩⟩⟩⟩⟩⟩⟩⟩⟩⟩
theorem lw_p64 : lw_okq (⟨"DustCartModel", "obeys", "(I)Z"⟩, 60) := ⟨⟨by decide +kernel, by decide +kernel⟩, List.mem_of_getElem? (i := 873) (by decide +kernel), List.mem_of_getElem? (i := 1232) (by decide +kernel), List.mem_of_getElem? (i := 1233) (by decide +kernel)⟩
theorem lw_p65 : lw_okq (⟨"DustCartModel", "rowFault", "(I)I"⟩, 60) := ⟨⟨by decide +kernel, by decide +kernel⟩, List.mem_of_getElem? (i := 873) (by decide +kernel), List.mem_of_getElem? (i := 1254) (by decide +kernel), List.mem_of_getElem? (i := 1255) (by decide +kernel)⟩
theorem lw_p66 : lw_okq (⟨"DustCartModel", "think", "()V"⟩, 60) := ⟨⟨by decide +kernel, by decide +kernel⟩, List.mem_of_getElem? (i := 873) (by decide +kernel), List.mem_of_getElem? (i := 1258) (by decide +kernel), List.mem_of_getElem? (i := 1259) (by decide +kernel)⟩
theorem lw_p67 : lw_okq (⟨"DustCartModel", "orderAt", "(II)I"⟩, 60) := ⟨⟨by decide +kernel, by decide +kernel⟩, List.mem_of_getElem? (i := 873) (by decide +kernel), List.mem_of_getElem? (i := 1262) (by decide +kernel), List.mem_of_getElem? (i := 1263) (by decide +kernel)⟩
theorem lw_p68 : lw_okq (⟨"DustCartModel", "byteAt", "(II)I"⟩, 60) := ⟨⟨by decide +kernel, by decide +kernel⟩, List.mem_of_getElem? (i := 873) (by decide +kernel), List.mem_of_getElem? (i := 1266) (by decide +kernel), List.mem_of_getElem? (i := 1267) (by decide +kernel)⟩
theorem lw_p69 : lw_okq (⟨"DustCartModel", "tellThought", "(I)I"⟩, 60) := ⟨⟨by decide +kernel, by decide +kernel⟩, List.mem_of_getElem? (i := 873) (by decide +kernel), List.mem_of_getElem? (i := 1270) (by decide +kernel), List.mem_of_getElem? (i := 1271) (by decide +kernel)⟩
theorem lw_p70 : lw_okq (⟨"DustCartModel", "unthink", "()V"⟩, 60) := ⟨⟨by decide +kernel, by decide +kernel⟩, List.mem_of_getElem? (i := 873) (by decide +kernel), List.mem_of_getElem? (i := 1274) (by decide +kernel), List.mem_of_getElem? (i := 1275) (by decide +kernel)⟩
theorem lw_p71 : lw_okq (⟨"DustCartModel", "findFar", "(I)V"⟩, 60) := ⟨⟨by decide +kernel, by decide +kernel⟩, List.mem_of_getElem? (i := 873) (by decide +kernel), List.mem_of_getElem? (i := 1290) (by decide +kernel), List.mem_of_getElem? (i := 1291) (by decide +kernel)⟩
theorem lw_p72 : lw_okq (⟨"DustCartModel", "mostIn", "(I)I"⟩, 60) := ⟨⟨by decide +kernel, by decide +kernel⟩, List.mem_of_getElem? (i := 873) (by decide +kernel), List.mem_of_getElem? (i := 1299) (by decide +kernel), List.mem_of_getElem? (i := 1300) (by decide +kernel)⟩
theorem lw_p73 : lw_okq (⟨"DustCartModel", "goOn", "(I)V"⟩, 60) := ⟨⟨by decide +kernel, by decide +kernel⟩, List.mem_of_getElem? (i := 873) (by decide +kernel), List.mem_of_getElem? (i := 1303) (by decide +kernel), List.mem_of_getElem? (i := 1304) (by decide +kernel)⟩
theorem lw_p74 : lw_okq (⟨"DustCartModel", "come", "(IIII)V"⟩, 60) := ⟨⟨by decide +kernel, by decide +kernel⟩, List.mem_of_getElem? (i := 873) (by decide +kernel), List.mem_of_getElem? (i := 1307) (by decide +kernel), List.mem_of_getElem? (i := 1308) (by decide +kernel)⟩
theorem lw_p75 : lw_okq (⟨"DustCartModel", "toNorth", "(I)I"⟩, 60) := ⟨⟨by decide +kernel, by decide +kernel⟩, List.mem_of_getElem? (i := 873) (by decide +kernel), List.mem_of_getElem? (i := 1315) (by decide +kernel), List.mem_of_getElem? (i := 1316) (by decide +kernel)⟩
theorem lw_p76 : lw_okq (⟨"DustCartModel", "goRound", "(IIIII)V"⟩, 60) := ⟨⟨by decide +kernel, by decide +kernel⟩, List.mem_of_getElem? (i := 873) (by decide +kernel), List.mem_of_getElem? (i := 1319) (by decide +kernel), List.mem_of_getElem? (i := 1320) (by decide +kernel)⟩
theorem lw_p77 : lw_okq (⟨"DustCartModel", "endOf", "(II)I"⟩, 60) := ⟨⟨by decide +kernel, by decide +kernel⟩, List.mem_of_getElem? (i := 873) (by decide +kernel), List.mem_of_getElem? (i := 1342) (by decide +kernel), List.mem_of_getElem? (i := 1343) (by decide +kernel)⟩
theorem lw_p78 : lw_okq (⟨"DustCartModel", "isBody", "(I)Z"⟩, 60) := ⟨⟨by decide +kernel, by decide +kernel⟩, List.mem_of_getElem? (i := 873) (by decide +kernel), List.mem_of_getElem? (i := 1375) (by decide +kernel), List.mem_of_getElem? (i := 1376) (by decide +kernel)⟩
theorem lw_p79 : lw_okq (⟨"DustCartModel", "turning", "(II)I"⟩, 60) := ⟨⟨by decide +kernel, by decide +kernel⟩, List.mem_of_getElem? (i := 873) (by decide +kernel), List.mem_of_getElem? (i := 1379) (by decide +kernel), List.mem_of_getElem? (i := 1380) (by decide +kernel)⟩
def lw_privs_5 : List (MethodName × Nat) := [(⟨"DustCartModel", "obeys", "(I)Z"⟩, 60), (⟨"DustCartModel", "rowFault", "(I)I"⟩, 60), (⟨"DustCartModel", "think", "()V"⟩, 60), (⟨"DustCartModel", "orderAt", "(II)I"⟩, 60), (⟨"DustCartModel", "byteAt", "(II)I"⟩, 60), (⟨"DustCartModel", "tellThought", "(I)I"⟩, 60), (⟨"DustCartModel", "unthink", "()V"⟩, 60), (⟨"DustCartModel", "findFar", "(I)V"⟩, 60), (⟨"DustCartModel", "mostIn", "(I)I"⟩, 60), (⟨"DustCartModel", "goOn", "(I)V"⟩, 60), (⟨"DustCartModel", "come", "(IIII)V"⟩, 60), (⟨"DustCartModel", "toNorth", "(I)I"⟩, 60), (⟨"DustCartModel", "goRound", "(IIIII)V"⟩, 60), (⟨"DustCartModel", "endOf", "(II)I"⟩, 60), (⟨"DustCartModel", "isBody", "(I)Z"⟩, 60), (⟨"DustCartModel", "turning", "(II)I"⟩, 60)]
theorem lw_r5 : ∀ q ∈ lw_privs_5, lw_okq q := List.forall_mem_cons.mpr ⟨lw_p64, List.forall_mem_cons.mpr ⟨lw_p65, List.forall_mem_cons.mpr ⟨lw_p66, List.forall_mem_cons.mpr ⟨lw_p67, List.forall_mem_cons.mpr ⟨lw_p68, List.forall_mem_cons.mpr ⟨lw_p69, List.forall_mem_cons.mpr ⟨lw_p70, List.forall_mem_cons.mpr ⟨lw_p71, List.forall_mem_cons.mpr ⟨lw_p72, List.forall_mem_cons.mpr ⟨lw_p73, List.forall_mem_cons.mpr ⟨lw_p74, List.forall_mem_cons.mpr ⟨lw_p75, List.forall_mem_cons.mpr ⟨lw_p76, List.forall_mem_cons.mpr ⟨lw_p77, List.forall_mem_cons.mpr ⟨lw_p78, List.forall_mem_cons.mpr ⟨lw_p79, fun _ h => absurd h List.not_mem_nil⟩⟩⟩⟩⟩⟩⟩⟩⟩⟩⟩⟩⟩⟩⟩⟩
theorem lw_p80 : lw_okq (⟨"DustCartModel", "ran", "(I)V"⟩, 60) := ⟨⟨by decide +kernel, by decide +kernel⟩, List.mem_of_getElem? (i := 873) (by decide +kernel), List.mem_of_getElem? (i := 1386) (by decide +kernel), List.mem_of_getElem? (i := 1387) (by decide +kernel)⟩
theorem lw_p81 : lw_okq (⟨"DustCartModel", "plainTurns", "(II)I"⟩, 60) := ⟨⟨by decide +kernel, by decide +kernel⟩, List.mem_of_getElem? (i := 873) (by decide +kernel), List.mem_of_getElem? (i := 1390) (by decide +kernel), List.mem_of_getElem? (i := 1391) (by decide +kernel)⟩
theorem lw_p82 : lw_okq (⟨"DustCartModel", "northTurns", "(II)I"⟩, 60) := ⟨⟨by decide +kernel, by decide +kernel⟩, List.mem_of_getElem? (i := 873) (by decide +kernel), List.mem_of_getElem? (i := 1394) (by decide +kernel), List.mem_of_getElem? (i := 1395) (by decide +kernel)⟩
theorem lw_p83 : lw_okq (⟨"DustCartModel", "moving", "(II)I"⟩, 60) := ⟨⟨by decide +kernel, by decide +kernel⟩, List.mem_of_getElem? (i := 873) (by decide +kernel), List.mem_of_getElem? (i := 1398) (by decide +kernel), List.mem_of_getElem? (i := 1399) (by decide +kernel)⟩
theorem lw_p84 : lw_okq (⟨"DustCartModel", "dustyMoves", "(II)I"⟩, 60) := ⟨⟨by decide +kernel, by decide +kernel⟩, List.mem_of_getElem? (i := 873) (by decide +kernel), List.mem_of_getElem? (i := 1402) (by decide +kernel), List.mem_of_getElem? (i := 1403) (by decide +kernel)⟩
theorem lw_p85 : lw_okq (⟨"DustCartModel", "plainMoves", "(II)I"⟩, 60) := ⟨⟨by decide +kernel, by decide +kernel⟩, List.mem_of_getElem? (i := 873) (by decide +kernel), List.mem_of_getElem? (i := 1406) (by decide +kernel), List.mem_of_getElem? (i := 1407) (by decide +kernel)⟩
theorem lw_p86 : lw_okq (⟨"DustCartModel", "looking", "(II)I"⟩, 60) := ⟨⟨by decide +kernel, by decide +kernel⟩, List.mem_of_getElem? (i := 873) (by decide +kernel), List.mem_of_getElem? (i := 1410) (by decide +kernel), List.mem_of_getElem? (i := 1411) (by decide +kernel)⟩
theorem lw_p87 : lw_okq (⟨"DustCartModel", "cleanLooks", "(II)I"⟩, 60) := ⟨⟨by decide +kernel, by decide +kernel⟩, List.mem_of_getElem? (i := 873) (by decide +kernel), List.mem_of_getElem? (i := 1414) (by decide +kernel), List.mem_of_getElem? (i := 1415) (by decide +kernel)⟩
theorem lw_p88 : lw_okq (⟨"DustCartModel", "plainLooks", "(II)I"⟩, 60) := ⟨⟨by decide +kernel, by decide +kernel⟩, List.mem_of_getElem? (i := 873) (by decide +kernel), List.mem_of_getElem? (i := 1418) (by decide +kernel), List.mem_of_getElem? (i := 1419) (by decide +kernel)⟩
theorem lw_p89 : lw_okq (⟨"DustCartModel", "telling", "(II)I"⟩, 60) := ⟨⟨by decide +kernel, by decide +kernel⟩, List.mem_of_getElem? (i := 873) (by decide +kernel), List.mem_of_getElem? (i := 1422) (by decide +kernel), List.mem_of_getElem? (i := 1423) (by decide +kernel)⟩
theorem lw_p90 : lw_okq (⟨"DustCartModel", "plainTells", "(II)I"⟩, 60) := ⟨⟨by decide +kernel, by decide +kernel⟩, List.mem_of_getElem? (i := 873) (by decide +kernel), List.mem_of_getElem? (i := 1426) (by decide +kernel), List.mem_of_getElem? (i := 1427) (by decide +kernel)⟩
theorem lw_p91 : lw_okq (⟨"DustCartModel", "stones", "()I"⟩, 60) := ⟨⟨by decide +kernel, by decide +kernel⟩, List.mem_of_getElem? (i := 873) (by decide +kernel), List.mem_of_getElem? (i := 1434) (by decide +kernel), List.mem_of_getElem? (i := 1435) (by decide +kernel)⟩
theorem lw_p92 : lw_okq (⟨"DustCartModel", "hollows", "()I"⟩, 60) := ⟨⟨by decide +kernel, by decide +kernel⟩, List.mem_of_getElem? (i := 873) (by decide +kernel), List.mem_of_getElem? (i := 1438) (by decide +kernel), List.mem_of_getElem? (i := 1439) (by decide +kernel)⟩
theorem lw_p93 : lw_okq (⟨"DustCartModel", "whyNoPlace", "(II)I"⟩, 60) := ⟨⟨by decide +kernel, by decide +kernel⟩, List.mem_of_getElem? (i := 873) (by decide +kernel), List.mem_of_getElem? (i := 1454) (by decide +kernel), List.mem_of_getElem? (i := 1455) (by decide +kernel)⟩
def lw_privs_6 : List (MethodName × Nat) := [(⟨"DustCartModel", "ran", "(I)V"⟩, 60), (⟨"DustCartModel", "plainTurns", "(II)I"⟩, 60), (⟨"DustCartModel", "northTurns", "(II)I"⟩, 60), (⟨"DustCartModel", "moving", "(II)I"⟩, 60), (⟨"DustCartModel", "dustyMoves", "(II)I"⟩, 60), (⟨"DustCartModel", "plainMoves", "(II)I"⟩, 60), (⟨"DustCartModel", "looking", "(II)I"⟩, 60), (⟨"DustCartModel", "cleanLooks", "(II)I"⟩, 60), (⟨"DustCartModel", "plainLooks", "(II)I"⟩, 60), (⟨"DustCartModel", "telling", "(II)I"⟩, 60), (⟨"DustCartModel", "plainTells", "(II)I"⟩, 60), (⟨"DustCartModel", "stones", "()I"⟩, 60), (⟨"DustCartModel", "hollows", "()I"⟩, 60), (⟨"DustCartModel", "whyNoPlace", "(II)I"⟩, 60)]
theorem lw_r6 : ∀ q ∈ lw_privs_6, lw_okq q := List.forall_mem_cons.mpr ⟨lw_p80, List.forall_mem_cons.mpr ⟨lw_p81, List.forall_mem_cons.mpr ⟨lw_p82, List.forall_mem_cons.mpr ⟨lw_p83, List.forall_mem_cons.mpr ⟨lw_p84, List.forall_mem_cons.mpr ⟨lw_p85, List.forall_mem_cons.mpr ⟨lw_p86, List.forall_mem_cons.mpr ⟨lw_p87, List.forall_mem_cons.mpr ⟨lw_p88, List.forall_mem_cons.mpr ⟨lw_p89, List.forall_mem_cons.mpr ⟨lw_p90, List.forall_mem_cons.mpr ⟨lw_p91, List.forall_mem_cons.mpr ⟨lw_p92, List.forall_mem_cons.mpr ⟨lw_p93, fun _ h => absurd h List.not_mem_nil⟩⟩⟩⟩⟩⟩⟩⟩⟩⟩⟩⟩⟩⟩
def lw_privs : List (MethodName × Nat) := lw_privs_1 ++ (lw_privs_2 ++ (lw_privs_3 ++ (lw_privs_4 ++ (lw_privs_5 ++ (lw_privs_6)))))
def lw_tbl : List Cond := k2_sels lw_privs ++ tables_1
theorem lw_privs_ok : ∀ q ∈ lw_privs, lw_okq q := by
  show ∀ q ∈ lw_privs_1 ++ (lw_privs_2 ++ (lw_privs_3 ++ (lw_privs_4 ++ (lw_privs_5 ++ (lw_privs_6))))), lw_okq q
  exact List.forall_mem_append.mpr ⟨lw_r1, List.forall_mem_append.mpr ⟨lw_r2, List.forall_mem_append.mpr ⟨lw_r3, List.forall_mem_append.mpr ⟨lw_r4, List.forall_mem_append.mpr ⟨lw_r5, lw_r6⟩⟩⟩⟩⟩
-- ===== end of PART A; then your names; then what follows =====
def RX0 : String := "DustCart$Cart"
def TX0 : u_T := fun k => match k with
  | 0 => ("DustCart$Cart", "cell", "I", false)
  | 1 => ("DustCart$Cart", "store", "I", false)
  | 2 => ("DustCart$Cart", "dust", "I", false)
  | _ => ("DustCart$Cart", "looked", "J", false)
def tyX0 : Nat → FieldType := fun k => match k with
  | 0 => .int
  | 1 => .int
  | 2 => .int
  | _ => .long
abbrev wsX00 : List Cond := u_ws RX0 TX0 4
theorem nmX0 : ∀ a, a < 4 → ∀ b, b < 4 → a ≠ b → (TX0 a).2.1 ≠ (TX0 b).2.1 := by decide +kernel
theorem tyX0_ok : ∀ k, k < 4 → parseFieldDescriptor (TX0 k).2.2.1 = some (tyX0 k) := by decide +kernel
abbrev cX0_init : ByteArray := prog_2_method_1_code
def yX0_init : MethodName := ⟨RX0, "<init>", "()V"⟩
abbrev cX0_become : ByteArray := prog_2_method_2_code
def yX0_become : MethodName := ⟨RX0, "become", "(LDustCart$Cart;)V"⟩
abbrev cX0_place : ByteArray := prog_2_method_3_code
def yX0_place : MethodName := ⟨RX0, "place", "(III)V"⟩
abbrev cX0_hasLookedAt : ByteArray := prog_2_method_4_code
def yX0_hasLookedAt : MethodName := ⟨RX0, "hasLookedAt", "(I)Z"⟩
abbrev cX0_isOnNewStone : ByteArray := prog_2_method_5_code
def yX0_isOnNewStone : MethodName := ⟨RX0, "isOnNewStone", "(LDustCart$Plain;)Z"⟩
abbrev cX0_live : ByteArray := prog_2_method_6_code
def yX0_live : MethodName := ⟨RX0, "live", "(LDustCart$Plain;II)Z"⟩
abbrev cX0_liveUnder : ByteArray := prog_2_method_7_code
def yX0_liveUnder : MethodName := ⟨RX0, "liveUnder", "(LDustCart$Plain;IIII)Z"⟩
abbrev cX0_move : ByteArray := prog_2_method_8_code
def yX0_move : MethodName := ⟨RX0, "move", "(LDustCart$Plain;I)Z"⟩
abbrev cX0_lookAround : ByteArray := prog_2_method_9_code
def yX0_lookAround : MethodName := ⟨RX0, "lookAround", "(LDustCart$Plain;)Z"⟩
def RX1 : String := "DustCart$Changes"
def TX1 : u_T := fun k => match k with
  | 0 => ("DustCart$Changes", "places", "[I", true)
  | 1 => ("DustCart$Changes", "before", "[I", true)
  | 2 => ("DustCart$Changes", "behind", "[I", true)
  | 3 => ("DustCart$Changes", "done", "I", false)
  | _ => ("DustCart$Changes", "known", "I", false)
def tyX1 : Nat → FieldType := fun k => match k with
  | 0 => .array .int
  | 1 => .array .int
  | 2 => .array .int
  | 3 => .int
  | _ => .int
abbrev wsX10 : List Cond := u_ws RX1 TX1 5
theorem nmX1 : ∀ a, a < 5 → ∀ b, b < 5 → a ≠ b → (TX1 a).2.1 ≠ (TX1 b).2.1 := by decide +kernel
theorem tyX1_ok : ∀ k, k < 5 → parseFieldDescriptor (TX1 k).2.2.1 = some (tyX1 k) := by decide +kernel
abbrev cX1_init : ByteArray := prog_3_method_1_code
def yX1_init : MethodName := ⟨RX1, "<init>", "()V"⟩
abbrev cX1_note : ByteArray := prog_3_method_2_code
def yX1_note : MethodName := ⟨RX1, "note", "(III)V"⟩
abbrev cX1_dropOldest : ByteArray := prog_3_method_3_code
def yX1_dropOldest : MethodName := ⟨RX1, "dropOldest", "()V"⟩
abbrev cX1_takeBack : ByteArray := prog_3_method_4_code
def yX1_takeBack : MethodName := ⟨RX1, "takeBack", "(LDustCart$Plain;)Z"⟩
abbrev cX1_bringBack : ByteArray := prog_3_method_5_code
def yX1_bringBack : MethodName := ⟨RX1, "bringBack", "(LDustCart$Plain;)Z"⟩
def RX2 : String := "DustCart$Law"
def TX2 : u_T := fun k => match k with
  | 0 => ("DustCart$Law", "tape", "[I", true)
  | 1 => ("DustCart$Law", "draft", "[I", true)
  | 2 => ("DustCart$Law", "codes", "[I", true)
  | 3 => ("DustCart$Law", "stack", "[I", true)
  | 4 => ("DustCart$Law", "drafted", "I", false)
  | 5 => ("DustCart$Law", "coded", "I", false)
  | 6 => ("DustCart$Law", "high", "I", false)
  | 7 => ("DustCart$Law", "place", "I", false)
  | 8 => ("DustCart$Law", "fault", "I", false)
  | _ => ("DustCart$Law", "fed", "I", false)
def tyX2 : Nat → FieldType := fun k => match k with
  | 0 => .array .int
  | 1 => .array .int
  | 2 => .array .int
  | 3 => .array .int
  | 4 => .int
  | 5 => .int
  | 6 => .int
  | 7 => .int
  | 8 => .int
  | _ => .int
abbrev wsX20 : List Cond := u_ws RX2 TX2 10
theorem nmX2 : ∀ a, a < 10 → ∀ b, b < 10 → a ≠ b → (TX2 a).2.1 ≠ (TX2 b).2.1 := by decide +kernel
theorem tyX2_ok : ∀ k, k < 10 → parseFieldDescriptor (TX2 k).2.2.1 = some (tyX2 k) := by decide +kernel
abbrev cX2_init : ByteArray := prog_4_method_1_code
def yX2_init : MethodName := ⟨RX2, "<init>", "()V"⟩
abbrev cX2_take : ByteArray := prog_4_method_2_code
def yX2_take : MethodName := ⟨RX2, "take", "(I)Z"⟩
abbrev cX2_become : ByteArray := prog_4_method_3_code
def yX2_become : MethodName := ⟨RX2, "become", "()I"⟩
abbrev cX2_sign : ByteArray := prog_4_method_4_code
def yX2_sign : MethodName := ⟨RX2, "sign", "()I"⟩
abbrev cX2_pass : ByteArray := prog_4_method_5_code
def yX2_pass : MethodName := ⟨RX2, "pass", "(I)Z"⟩
abbrev cX2_refuse : ByteArray := prog_4_method_6_code
def yX2_refuse : MethodName := ⟨RX2, "refuse", "()V"⟩
abbrev cX2_write : ByteArray := prog_4_method_7_code
def yX2_write : MethodName := ⟨RX2, "write", "(I)V"⟩
abbrev cX2_readLines : ByteArray := prog_4_method_8_code
def yX2_readLines : MethodName := ⟨RX2, "readLines", "()V"⟩
abbrev cX2_readOr : ByteArray := prog_4_method_9_code
def yX2_readOr : MethodName := ⟨RX2, "readOr", "(I)V"⟩
abbrev cX2_readAnd : ByteArray := prog_4_method_10_code
def yX2_readAnd : MethodName := ⟨RX2, "readAnd", "(I)V"⟩
abbrev cX2_readCompared : ByteArray := prog_4_method_11_code
def yX2_readCompared : MethodName := ⟨RX2, "readCompared", "(I)V"⟩
abbrev cX2_readSum : ByteArray := prog_4_method_12_code
def yX2_readSum : MethodName := ⟨RX2, "readSum", "(I)V"⟩
abbrev cX2_readProduct : ByteArray := prog_4_method_13_code
def yX2_readProduct : MethodName := ⟨RX2, "readProduct", "(I)V"⟩
abbrev cX2_readOperand : ByteArray := prog_4_method_14_code
def yX2_readOperand : MethodName := ⟨RX2, "readOperand", "(I)V"⟩
abbrev cX2_readOpened : ByteArray := prog_4_method_15_code
def yX2_readOpened : MethodName := ⟨RX2, "readOpened", "(II)V"⟩
abbrev cX2_readNumber : ByteArray := prog_4_method_16_code
def yX2_readNumber : MethodName := ⟨RX2, "readNumber", "()V"⟩
abbrev cX2_isDigit : ByteArray := prog_4_method_17_code
def yX2_isDigit : MethodName := ⟨RX2, "isDigit", "(I)Z"⟩
abbrev cX2_isName : ByteArray := prog_4_method_18_code
def yX2_isName : MethodName := ⟨RX2, "isName", "(I)Z"⟩
abbrev cX2_orderFor : ByteArray := prog_4_method_19_code
def yX2_orderFor : MethodName := ⟨RX2, "orderFor", "(LDustCart$Plain;LDustCart$Cart;I)I"⟩
abbrev cX2_workOut : ByteArray := prog_4_method_20_code
def yX2_workOut : MethodName := ⟨RX2, "workOut", "(LDustCart$Plain;LDustCart$Cart;I)I"⟩
abbrev cX2_step : ByteArray := prog_4_method_21_code
def yX2_step : MethodName := ⟨RX2, "step", "(ILDustCart$Plain;LDustCart$Cart;I)V"⟩
abbrev cX2_named : ByteArray := prog_4_method_22_code
def yX2_named : MethodName := ⟨RX2, "named", "(ILDustCart$Plain;LDustCart$Cart;I)I"⟩
abbrev cX2_joined : ByteArray := prog_4_method_23_code
def yX2_joined : MethodName := ⟨RX2, "joined", "(III)I"⟩
abbrev cX2_push : ByteArray := prog_4_method_24_code
def yX2_push : MethodName := ⟨RX2, "push", "(I)V"⟩
abbrev cX2_pop : ByteArray := prog_4_method_25_code
def yX2_pop : MethodName := ⟨RX2, "pop", "()I"⟩
def RX3 : String := "DustCart$Plain"
def TX3 : u_T := fun k => match k with
  | _ => ("DustCart$Plain", "numbers", "[I", true)
def tyX3 : Nat → FieldType := fun k => match k with
  | _ => .array .int
abbrev wsX30 : List Cond := u_ws RX3 TX3 1
theorem nmX3 : ∀ a, a < 1 → ∀ b, b < 1 → a ≠ b → (TX3 a).2.1 ≠ (TX3 b).2.1 := by decide +kernel
theorem tyX3_ok : ∀ k, k < 1 → parseFieldDescriptor (TX3 k).2.2.1 = some (tyX3 k) := by decide +kernel
abbrev cX3_init : ByteArray := prog_5_method_1_code
def yX3_init : MethodName := ⟨RX3, "<init>", "()V"⟩
abbrev cX3_isCell : ByteArray := prog_5_method_2_code
def yX3_isCell : MethodName := ⟨RX3, "isCell", "(I)Z"⟩
abbrev cX3_place : ByteArray := prog_5_method_3_code
def yX3_place : MethodName := ⟨RX3, "place", "(II)I"⟩
abbrev cX3_mayBe : ByteArray := prog_5_method_4_code
def yX3_mayBe : MethodName := ⟨RX3, "mayBe", "(II)Z"⟩
abbrev cX3_neighbour : ByteArray := prog_5_method_5_code
def yX3_neighbour : MethodName := ⟨RX3, "neighbour", "(II)I"⟩
abbrev cX3_told : ByteArray := prog_5_method_6_code
def yX3_told : MethodName := ⟨RX3, "told", "(I)I"⟩
abbrev cX3_tell : ByteArray := prog_5_method_7_code
def yX3_tell : MethodName := ⟨RX3, "tell", "(II)V"⟩
abbrev cX3_high : ByteArray := prog_5_method_8_code
def yX3_high : MethodName := ⟨RX3, "high", "(I)I"⟩
abbrev cX3_isStone : ByteArray := prog_5_method_9_code
def yX3_isStone : MethodName := ⟨RX3, "isStone", "(I)Z"⟩
abbrev cX3_sun : ByteArray := prog_5_method_10_code
def yX3_sun : MethodName := ⟨RX3, "sun", "(I)I"⟩
abbrev cX3_wind : ByteArray := prog_5_method_11_code
def yX3_wind : MethodName := ⟨RX3, "wind", "(I)I"⟩
abbrev cX3_odds : ByteArray := prog_5_method_12_code
def yX3_odds : MethodName := ⟨RX3, "odds", "()I"⟩
abbrev cX3_price : ByteArray := prog_5_method_13_code
def yX3_price : MethodName := ⟨RX3, "price", "(II)I"⟩
abbrev cX3_isHollow : ByteArray := prog_5_method_14_code
def yX3_isHollow : MethodName := ⟨RX3, "isHollow", "(I)Z"⟩
abbrev cX3_stones : ByteArray := prog_5_method_15_code
def yX3_stones : MethodName := ⟨RX3, "stones", "()I"⟩
abbrev cX3_hollows : ByteArray := prog_5_method_16_code
def yX3_hollows : MethodName := ⟨RX3, "hollows", "()I"⟩
def RX4 : String := "DustCart$Reach"
def TX4 : u_T := fun k => match k with
  | 0 => ("DustCart$Reach", "now", "[I", true)
  | 1 => ("DustCart$Reach", "next", "[I", true)
  | 2 => ("DustCart$Reach", "trial", "LDustCart$Cart;", true)
  | 3 => ("DustCart$Reach", "taken", "I", false)
  | _ => ("DustCart$Reach", "most", "I", false)
def tyX4 : Nat → FieldType := fun k => match k with
  | 0 => .array .int
  | 1 => .array .int
  | 2 => .object "DustCart$Cart"
  | 3 => .int
  | _ => .int
abbrev wsX40 : List Cond := u_ws RX4 TX4 5
theorem nmX4 : ∀ a, a < 5 → ∀ b, b < 5 → a ≠ b → (TX4 a).2.1 ≠ (TX4 b).2.1 := by decide +kernel
theorem tyX4_ok : ∀ k, k < 5 → parseFieldDescriptor (TX4 k).2.2.1 = some (tyX4 k) := by decide +kernel
abbrev cX4_init : ByteArray := prog_6_method_1_code
def yX4_init : MethodName := ⟨RX4, "<init>", "()V"⟩
abbrev cX4_find : ByteArray := prog_6_method_2_code
def yX4_find : MethodName := ⟨RX4, "find", "(LDustCart$Plain;LDustCart$Cart;II)Z"⟩
abbrev cX4_arrive : ByteArray := prog_6_method_3_code
def yX4_arrive : MethodName := ⟨RX4, "arrive", "([ILDustCart$Cart;)V"⟩
abbrev cX4_mostIn : ByteArray := prog_6_method_4_code
def yX4_mostIn : MethodName := ⟨RX4, "mostIn", "(I)I"⟩
abbrev cX4_goOn : ByteArray := prog_6_method_5_code
def yX4_goOn : MethodName := ⟨RX4, "goOn", "(LDustCart$Plain;I)V"⟩
def RX5 : String := "DustCart$Shelf"
def TX5 : u_T := fun k => match k with
  | 0 => ("DustCart$Shelf", "elements", "[J", true)
  | 1 => ("DustCart$Shelf", "holds", "I", false)
  | 2 => ("DustCart$Shelf", "body", "I", false)
  | 3 => ("DustCart$Shelf", "sort", "I", false)
  | _ => ("DustCart$Shelf", "length", "I", false)
def tyX5 : Nat → FieldType := fun k => match k with
  | 0 => .array .long
  | 1 => .int
  | 2 => .int
  | 3 => .int
  | _ => .int
abbrev wsX50 : List Cond := u_ws RX5 TX5 5
theorem nmX5 : ∀ a, a < 5 → ∀ b, b < 5 → a ≠ b → (TX5 a).2.1 ≠ (TX5 b).2.1 := by decide +kernel
theorem tyX5_ok : ∀ k, k < 5 → parseFieldDescriptor (TX5 k).2.2.1 = some (tyX5 k) := by decide +kernel
abbrev cX5_init : ByteArray := prog_7_method_1_code
def yX5_init : MethodName := ⟨RX5, "<init>", "()V"⟩
abbrev cX5_isEmpty : ByteArray := prog_7_method_2_code
def yX5_isEmpty : MethodName := ⟨RX5, "isEmpty", "()Z"⟩
abbrev cX5_isRow : ByteArray := prog_7_method_3_code
def yX5_isRow : MethodName := ⟨RX5, "isRow", "()Z"⟩
abbrev cX5_isBytes : ByteArray := prog_7_method_4_code
def yX5_isBytes : MethodName := ⟨RX5, "isBytes", "()Z"⟩
abbrev cX5_holdNothing : ByteArray := prog_7_method_5_code
def yX5_holdNothing : MethodName := ⟨RX5, "holdNothing", "()V"⟩
abbrev cX5_holdBody : ByteArray := prog_7_method_6_code
def yX5_holdBody : MethodName := ⟨RX5, "holdBody", "(I)V"⟩
abbrev cX5_holdRow : ByteArray := prog_7_method_7_code
def yX5_holdRow : MethodName := ⟨RX5, "holdRow", "(II)V"⟩
abbrev cX5_hasPlaces : ByteArray := prog_7_method_8_code
def yX5_hasPlaces : MethodName := ⟨RX5, "hasPlaces", "(II)Z"⟩
abbrev cX5_at : ByteArray := prog_7_method_9_code
def yX5_at : MethodName := ⟨RX5, "at", "(I)J"⟩
abbrev cX5_set : ByteArray := prog_7_method_10_code
def yX5_set : MethodName := ⟨RX5, "set", "(IJ)V"⟩
abbrev cX5_narrowed : ByteArray := prog_7_method_11_code
def yX5_narrowed : MethodName := ⟨RX5, "narrowed", "(J)J"⟩
def RX6 : String := "DustCart$Ways"
def TX6 : u_T := fun k => match k with
  | 0 => ("DustCart$Ways", "left", "[I", true)
  | 1 => ("DustCart$Ways", "stones", "[I", true)
  | 2 => ("DustCart$Ways", "toStone", "[I", true)
  | 3 => ("DustCart$Ways", "between", "[I", true)
  | 4 => ("DustCart$Ways", "rest", "[I", true)
  | 5 => ("DustCart$Ways", "many", "I", false)
  | 6 => ("DustCart$Ways", "roundCost", "I", false)
  | _ => ("DustCart$Ways", "roundFirst", "I", false)
def tyX6 : Nat → FieldType := fun k => match k with
  | 0 => .array .int
  | 1 => .array .int
  | 2 => .array .int
  | 3 => .array .int
  | 4 => .array .int
  | 5 => .int
  | 6 => .int
  | _ => .int
abbrev wsX60 : List Cond := u_ws RX6 TX6 8
theorem nmX6 : ∀ a, a < 8 → ∀ b, b < 8 → a ≠ b → (TX6 a).2.1 ≠ (TX6 b).2.1 := by decide +kernel
theorem tyX6_ok : ∀ k, k < 8 → parseFieldDescriptor (TX6 k).2.2.1 = some (tyX6 k) := by decide +kernel
abbrev cX6_init : ByteArray := prog_8_method_1_code
def yX6_init : MethodName := ⟨RX6, "<init>", "()V"⟩
abbrev cX6_spreadTo : ByteArray := prog_8_method_2_code
def yX6_spreadTo : MethodName := ⟨RX6, "spreadTo", "(LDustCart$Plain;I)V"⟩
abbrev cX6_nearest : ByteArray := prog_8_method_3_code
def yX6_nearest : MethodName := ⟨RX6, "nearest", "(J)I"⟩
abbrev cX6_spreadFrom : ByteArray := prog_8_method_4_code
def yX6_spreadFrom : MethodName := ⟨RX6, "spreadFrom", "(LDustCart$Plain;I)V"⟩
abbrev cX6_costFrom : ByteArray := prog_8_method_5_code
def yX6_costFrom : MethodName := ⟨RX6, "costFrom", "(I)I"⟩
abbrev cX6_firstFrom : ByteArray := prog_8_method_6_code
def yX6_firstFrom : MethodName := ⟨RX6, "firstFrom", "(LDustCart$Plain;I)I"⟩
abbrev cX6_planRound : ByteArray := prog_8_method_7_code
def yX6_planRound : MethodName := ⟨RX6, "planRound", "(LDustCart$Plain;LDustCart$Cart;)Z"⟩
abbrev cX6_listStones : ByteArray := prog_8_method_8_code
def yX6_listStones : MethodName := ⟨RX6, "listStones", "(LDustCart$Plain;LDustCart$Cart;)Z"⟩
abbrev cX6_leastRest : ByteArray := prog_8_method_9_code
def yX6_leastRest : MethodName := ⟨RX6, "leastRest", "(II)I"⟩
abbrev cX6_chooseFirst : ByteArray := prog_8_method_10_code
def yX6_chooseFirst : MethodName := ⟨RX6, "chooseFirst", "(I)V"⟩
def RX7 : String := "DustCart$Wheels"
def TX7 : u_T := fun k => match k with
  | 0 => ("DustCart$Wheels", "kinds", "[I", true)
  | 1 => ("DustCart$Wheels", "ran", "[I", true)
  | 2 => ("DustCart$Wheels", "number", "I", false)
  | 3 => ("DustCart$Wheels", "kept", "I", false)
  | _ => ("DustCart$Wheels", "begun", "I", false)
def tyX7 : Nat → FieldType := fun k => match k with
  | 0 => .array .int
  | 1 => .array .int
  | 2 => .int
  | 3 => .int
  | _ => .int
abbrev wsX70 : List Cond := u_ws RX7 TX7 5
theorem nmX7 : ∀ a, a < 5 → ∀ b, b < 5 → a ≠ b → (TX7 a).2.1 ≠ (TX7 b).2.1 := by decide +kernel
theorem tyX7_ok : ∀ k, k < 5 → parseFieldDescriptor (TX7 k).2.2.1 = some (tyX7 k) := by decide +kernel
abbrev cX7_init : ByteArray := prog_9_method_1_code
def yX7_init : MethodName := ⟨RX7, "<init>", "()V"⟩
abbrev cX7_isKind : ByteArray := prog_9_method_2_code
def yX7_isKind : MethodName := ⟨RX7, "isKind", "(I)Z"⟩
abbrev cX7_isUnder : ByteArray := prog_9_method_3_code
def yX7_isUnder : MethodName := ⟨RX7, "isUnder", "(II)Z"⟩
abbrev cX7_has : ByteArray := prog_9_method_4_code
def yX7_has : MethodName := ⟨RX7, "has", "(I)Z"⟩
abbrev cX7_kindOf : ByteArray := prog_9_method_5_code
def yX7_kindOf : MethodName := ⟨RX7, "kindOf", "(I)I"⟩
abbrev cX7_add : ByteArray := prog_9_method_6_code
def yX7_add : MethodName := ⟨RX7, "add", "(I)I"⟩
abbrev cX7_ranAt : ByteArray := prog_9_method_7_code
def yX7_ranAt : MethodName := ⟨RX7, "ranAt", "(I)I"⟩
abbrev cX7_perform : ByteArray := prog_9_method_8_code
def yX7_perform : MethodName := ⟨RX7, "perform", "(III)I"⟩
abbrev cX7_begin : ByteArray := prog_9_method_9_code
def yX7_begin : MethodName := ⟨RX7, "begin", "(IIII)I"⟩
abbrev cX7_own : ByteArray := prog_9_method_10_code
def yX7_own : MethodName := ⟨RX7, "own", "(III)I"⟩
abbrev cX7_answerOfWheel : ByteArray := prog_9_method_11_code
def yX7_answerOfWheel : MethodName := ⟨RX7, "answerOfWheel", "(III)I"⟩
abbrev cX7_answerUnder : ByteArray := prog_9_method_12_code
def yX7_answerUnder : MethodName := ⟨RX7, "answerUnder", "(IIIII)I"⟩
def RX8 : String := "DustCart"
def TX8 : u_T := fun k => match k with
  | 0 => ("DustCart", "plain", "LDustCart$Plain;", true)
  | 1 => ("DustCart", "cart", "LDustCart$Cart;", true)
  | 2 => ("DustCart", "thought", "LDustCart$Cart;", true)
  | 3 => ("DustCart", "kept", "LDustCart$Cart;", true)
  | 4 => ("DustCart", "orders", "[I", true)
  | 5 => ("DustCart", "could", "[Z", true)
  | 6 => ("DustCart", "rule", "LDustCart$Law;", true)
  | 7 => ("DustCart", "ways", "LDustCart$Ways;", true)
  | 8 => ("DustCart", "reach", "LDustCart$Reach;", true)
  | 9 => ("DustCart", "changes", "LDustCart$Changes;", true)
  | 10 => ("DustCart", "shelves", "[LDustCart$Shelf;", true)
  | 11 => ("DustCart", "wheels", "LDustCart$Wheels;", true)
  | 12 => ("DustCart", "today", "I", false)
  | _ => ("DustCart", "keptDay", "I", false)
def tyX8 : Nat → FieldType := fun k => match k with
  | 0 => .object "DustCart$Plain"
  | 1 => .object "DustCart$Cart"
  | 2 => .object "DustCart$Cart"
  | 3 => .object "DustCart$Cart"
  | 4 => .array .int
  | 5 => .array .boolean
  | 6 => .object "DustCart$Law"
  | 7 => .object "DustCart$Ways"
  | 8 => .object "DustCart$Reach"
  | 9 => .object "DustCart$Changes"
  | 10 => .array (.object "DustCart$Shelf")
  | 11 => .object "DustCart$Wheels"
  | 12 => .int
  | _ => .int
abbrev wsX80 : List Cond := u_ws RX8 TX8 14
theorem nmX8 : ∀ a, a < 14 → ∀ b, b < 14 → a ≠ b → (TX8 a).2.1 ≠ (TX8 b).2.1 := by decide +kernel
theorem tyX8_ok : ∀ k, k < 14 → parseFieldDescriptor (TX8 k).2.2.1 = some (tyX8 k) := by decide +kernel
abbrev cX8_init : ByteArray := prog_1_method_1_code
def yX8_init : MethodName := ⟨RX8, "<init>", "()V"⟩
abbrev cX8_mend : ByteArray := prog_1_method_2_code
def yX8_mend : MethodName := ⟨RX8, "mend", "(III)I"⟩
abbrev cX8_of : ByteArray := prog_1_method_3_code
def yX8_of : MethodName := ⟨RX8, "of", "(II)I"⟩
abbrev cX8_ofCell : ByteArray := prog_1_method_4_code
def yX8_ofCell : MethodName := ⟨RX8, "ofCell", "(II)I"⟩
abbrev cX8_ofCart : ByteArray := prog_1_method_5_code
def yX8_ofCart : MethodName := ⟨RX8, "ofCart", "(I)I"⟩
abbrev cX8_heights : ByteArray := prog_1_method_6_code
def yX8_heights : MethodName := ⟨RX8, "heights", "(III)I"⟩
abbrev cX8_heightsFrom : ByteArray := prog_1_method_7_code
def yX8_heightsFrom : MethodName := ⟨RX8, "heightsFrom", "(LDustCart$Shelf;III)I"⟩
abbrev cX8_feed : ByteArray := prog_1_method_8_code
def yX8_feed : MethodName := ⟨RX8, "feed", "(I)I"⟩
abbrev cX8_law : ByteArray := prog_1_method_9_code
def yX8_law : MethodName := ⟨RX8, "law", "()I"⟩
abbrev cX8_cost : ByteArray := prog_1_method_10_code
def yX8_cost : MethodName := ⟨RX8, "cost", "(II)I"⟩
abbrev cX8_order : ByteArray := prog_1_method_11_code
def yX8_order : MethodName := ⟨RX8, "order", "()I"⟩
abbrev cX8_day : ByteArray := prog_1_method_12_code
def yX8_day : MethodName := ⟨RX8, "day", "(I)I"⟩
abbrev cX8_days : ByteArray := prog_1_method_13_code
def yX8_days : MethodName := ⟨RX8, "days", "(I)I"⟩
abbrev cX8_live : ByteArray := prog_1_method_14_code
def yX8_live : MethodName := ⟨RX8, "live", "(I)Z"⟩
abbrev cX8_led : ByteArray := prog_1_method_15_code
def yX8_led : MethodName := ⟨RX8, "led", "(II)I"⟩
abbrev cX8_run : ByteArray := prog_1_method_16_code
def yX8_run : MethodName := ⟨RX8, "run", "(III)I"⟩
abbrev cX8_first : ByteArray := prog_1_method_17_code
def yX8_first : MethodName := ⟨RX8, "first", "(I)I"⟩
abbrev cX8_orderOn : ByteArray := prog_1_method_18_code
def yX8_orderOn : MethodName := ⟨RX8, "orderOn", "(LDustCart$Shelf;I)I"⟩
abbrev cX8_thoughtOf : ByteArray := prog_1_method_19_code
def yX8_thoughtOf : MethodName := ⟨RX8, "thoughtOf", "(I)I"⟩
abbrev cX8_lawful : ByteArray := prog_1_method_20_code
def yX8_lawful : MethodName := ⟨RX8, "lawful", "(II)I"⟩
abbrev cX8_cheapest : ByteArray := prog_1_method_21_code
def yX8_cheapest : MethodName := ⟨RX8, "cheapest", "(II)I"⟩
abbrev cX8_soonest : ByteArray := prog_1_method_22_code
def yX8_soonest : MethodName := ⟨RX8, "soonest", "(II)I"⟩
abbrev cX8_round : ByteArray := prog_1_method_23_code
def yX8_round : MethodName := ⟨RX8, "round", "(I)I"⟩
abbrev cX8_lasts : ByteArray := prog_1_method_24_code
def yX8_lasts : MethodName := ⟨RX8, "lasts", "(I)I"⟩
abbrev cX8_clean : ByteArray := prog_1_method_25_code
def yX8_clean : MethodName := ⟨RX8, "clean", "(III)J"⟩
abbrev cX8_power : ByteArray := prog_1_method_26_code
def yX8_power : MethodName := ⟨RX8, "power", "(JI)J"⟩
abbrev cX8_greatestCommon : ByteArray := prog_1_method_27_code
def yX8_greatestCommon : MethodName := ⟨RX8, "greatestCommon", "(JJ)J"⟩
abbrev cX8_line : ByteArray := prog_1_method_28_code
def yX8_line : MethodName := ⟨RX8, "line", "(II)J"⟩
abbrev cX8_endOfLine : ByteArray := prog_1_method_29_code
def yX8_endOfLine : MethodName := ⟨RX8, "endOfLine", "(LDustCart$Shelf;I)I"⟩
abbrev cX8_drawn : ByteArray := prog_1_method_30_code
def yX8_drawn : MethodName := ⟨RX8, "drawn", "(III)I"⟩
abbrev cX8_judge : ByteArray := prog_1_method_31_code
def yX8_judge : MethodName := ⟨RX8, "judge", "(I)I"⟩
abbrev cX8_image : ByteArray := prog_1_method_32_code
def yX8_image : MethodName := ⟨RX8, "image", "()I"⟩
abbrev cX8_back : ByteArray := prog_1_method_33_code
def yX8_back : MethodName := ⟨RX8, "back", "()I"⟩
abbrev cX8_undo : ByteArray := prog_1_method_34_code
def yX8_undo : MethodName := ⟨RX8, "undo", "()I"⟩
abbrev cX8_redo : ByteArray := prog_1_method_35_code
def yX8_redo : MethodName := ⟨RX8, "redo", "()I"⟩
abbrev cX8_body : ByteArray := prog_1_method_36_code
def yX8_body : MethodName := ⟨RX8, "body", "(I)I"⟩
abbrev cX8_act : ByteArray := prog_1_method_37_code
def yX8_act : MethodName := ⟨RX8, "act", "(III)I"⟩
abbrev cX8_trace : ByteArray := prog_1_method_38_code
def yX8_trace : MethodName := ⟨RX8, "trace", "(I)I"⟩
abbrev cX8_keep : ByteArray := prog_1_method_39_code
def yX8_keep : MethodName := ⟨RX8, "keep", "(II)I"⟩
abbrev cX8_row : ByteArray := prog_1_method_40_code
def yX8_row : MethodName := ⟨RX8, "row", "(III)I"⟩
abbrev cX8_put : ByteArray := prog_1_method_41_code
def yX8_put : MethodName := ⟨RX8, "put", "(IIJ)I"⟩
abbrev cX8_element : ByteArray := prog_1_method_42_code
def yX8_element : MethodName := ⟨RX8, "element", "(II)J"⟩
abbrev cX8_refusedPlace : ByteArray := prog_1_method_43_code
def yX8_refusedPlace : MethodName := ⟨RX8, "refusedPlace", "(LDustCart$Shelf;I)I"⟩
abbrev cX8_shift : ByteArray := prog_1_method_44_code
def yX8_shift : MethodName := ⟨RX8, "shift", "(IIIII)I"⟩
abbrev cX8_taken : ByteArray := prog_1_method_45_code
def yX8_taken : MethodName := ⟨RX8, "taken", "(II)I"⟩
abbrev cX8_count : ByteArray := prog_1_method_46_code
def yX8_count : MethodName := ⟨RX8, "count", "(I)I"⟩
abbrev cX8_isShelf : ByteArray := prog_1_method_47_code
def yX8_isShelf : MethodName := ⟨RX8, "isShelf", "(I)Z"⟩
abbrev cX8_isOneOf : ByteArray := prog_1_method_48_code
def yX8_isOneOf : MethodName := ⟨RX8, "isOneOf", "(II)Z"⟩
abbrev cX8_refusedBytes : ByteArray := prog_1_method_49_code
def yX8_refusedBytes : MethodName := ⟨RX8, "refusedBytes", "(I)I"⟩
def RX9 : String := "DustCartModel"
def TX9 : u_T := fun k => match k with
  | 0 => ("DustCartModel", "code", "I", false)
  | 1 => ("DustCartModel", "high", "[I", true)
  | 2 => ("DustCartModel", "stone", "[I", true)
  | 3 => ("DustCartModel", "sun", "[I", true)
  | 4 => ("DustCartModel", "wind", "[I", true)
  | 5 => ("DustCartModel", "wheels", "I", false)
  | 6 => ("DustCartModel", "odds", "I", false)
  | 7 => ("DustCartModel", "today", "I", false)
  | 8 => ("DustCartModel", "cell", "I", false)
  | 9 => ("DustCartModel", "store", "I", false)
  | 10 => ("DustCartModel", "dust", "I", false)
  | 11 => ("DustCartModel", "looked", "J", false)
  | 12 => ("DustCartModel", "ledOrder", "[I", true)
  | 13 => ("DustCartModel", "ledCould", "[I", true)
  | 14 => ("DustCartModel", "doneMany", "I", false)
  | 15 => ("DustCartModel", "undoneMany", "I", false)
  | 16 => ("DustCartModel", "changeOf", "[I", true)
  | 17 => ("DustCartModel", "changeAt", "[I", true)
  | 18 => ("DustCartModel", "before", "[I", true)
  | 19 => ("DustCartModel", "behind", "[I", true)
  | 20 => ("DustCartModel", "tape", "[B", true)
  | 21 => ("DustCartModel", "taped", "I", false)
  | 22 => ("DustCartModel", "here", "I", false)
  | 23 => ("DustCartModel", "fault", "I", false)
  | 24 => ("DustCartModel", "open", "I", false)
  | 25 => ("DustCartModel", "laid", "I", false)
  | 26 => ("DustCartModel", "act", "[B", true)
  | 27 => ("DustCartModel", "with", "[I", true)
  | 28 => ("DustCartModel", "lineMany", "[I", true)
  | 29 => ("DustCartModel", "testEnd", "[S", true)
  | 30 => ("DustCartModel", "lineEnd", "[S", true)
  | 31 => ("DustCartModel", "facts", "[I", true)
  | 32 => ("DustCartModel", "pile", "[I", true)
  | 33 => ("DustCartModel", "hasLaw", "Z", false)
  | 34 => ("DustCartModel", "keptCell", "I", false)
  | 35 => ("DustCartModel", "keptStore", "I", false)
  | 36 => ("DustCartModel", "keptDust", "I", false)
  | 37 => ("DustCartModel", "keptLooked", "J", false)
  | 38 => ("DustCartModel", "far", "[I", true)
  | 39 => ("DustCartModel", "now", "[I", true)
  | 40 => ("DustCartModel", "later", "[I", true)
  | 41 => ("DustCartModel", "left", "[I", true)
  | 42 => ("DustCartModel", "between", "[I", true)
  | 43 => ("DustCartModel", "north", "[I", true)
  | 44 => ("DustCartModel", "leastRound", "I", false)
  | 45 => ("DustCartModel", "firstStone", "I", false)
  | 46 => ("DustCartModel", "hasImage", "Z", false)
  | 47 => ("DustCartModel", "imageToday", "I", false)
  | 48 => ("DustCartModel", "imageCell", "I", false)
  | 49 => ("DustCartModel", "imageStore", "I", false)
  | 50 => ("DustCartModel", "imageDust", "I", false)
  | 51 => ("DustCartModel", "imageLooked", "J", false)
  | 52 => ("DustCartModel", "bodies", "I", false)
  | 53 => ("DustCartModel", "kind", "[I", true)
  | 54 => ("DustCartModel", "traces", "I", false)
  | 55 => ("DustCartModel", "traced", "[I", true)
  | 56 => ("DustCartModel", "holds", "[I", true)
  | 57 => ("DustCartModel", "size", "[I", true)
  | 58 => ("DustCartModel", "elements", "[J", true)
  | _ => ("DustCartModel", "shifted", "[J", true)
def tyX9 : Nat → FieldType := fun k => match k with
  | 0 => .int
  | 1 => .array .int
  | 2 => .array .int
  | 3 => .array .int
  | 4 => .array .int
  | 5 => .int
  | 6 => .int
  | 7 => .int
  | 8 => .int
  | 9 => .int
  | 10 => .int
  | 11 => .long
  | 12 => .array .int
  | 13 => .array .int
  | 14 => .int
  | 15 => .int
  | 16 => .array .int
  | 17 => .array .int
  | 18 => .array .int
  | 19 => .array .int
  | 20 => .array .byte
  | 21 => .int
  | 22 => .int
  | 23 => .int
  | 24 => .int
  | 25 => .int
  | 26 => .array .byte
  | 27 => .array .int
  | 28 => .array .int
  | 29 => .array .short
  | 30 => .array .short
  | 31 => .array .int
  | 32 => .array .int
  | 33 => .boolean
  | 34 => .int
  | 35 => .int
  | 36 => .int
  | 37 => .long
  | 38 => .array .int
  | 39 => .array .int
  | 40 => .array .int
  | 41 => .array .int
  | 42 => .array .int
  | 43 => .array .int
  | 44 => .int
  | 45 => .int
  | 46 => .boolean
  | 47 => .int
  | 48 => .int
  | 49 => .int
  | 50 => .int
  | 51 => .long
  | 52 => .int
  | 53 => .array .int
  | 54 => .int
  | 55 => .array .int
  | 56 => .array .int
  | 57 => .array .int
  | 58 => .array .long
  | _ => .array .long
abbrev wsX90 : List Cond := u_ws RX9 TX9 60
theorem nmX9 : ∀ a, a < 60 → ∀ b, b < 60 → a ≠ b → (TX9 a).2.1 ≠ (TX9 b).2.1 := by decide +kernel
theorem tyX9_ok : ∀ k, k < 60 → parseFieldDescriptor (TX9 k).2.2.1 = some (tyX9 k) := by decide +kernel
abbrev cX9_init : ByteArray := prog_11_method_1_code
def yX9_init : MethodName := ⟨RX9, "<init>", "()V"⟩
abbrev cX9_in : ByteArray := prog_11_method_3_code
def yX9_in : MethodName := ⟨RX9, "in", "(III)Z"⟩
abbrev cX9_isCell : ByteArray := prog_11_method_4_code
def yX9_isCell : MethodName := ⟨RX9, "isCell", "(I)Z"⟩
abbrev cX9_isDay : ByteArray := prog_11_method_5_code
def yX9_isDay : MethodName := ⟨RX9, "isDay", "(I)Z"⟩
abbrev cX9_beside : ByteArray := prog_11_method_6_code
def yX9_beside : MethodName := ⟨RX9, "beside", "(II)I"⟩
abbrev cX9_isHollow : ByteArray := prog_11_method_7_code
def yX9_isHollow : MethodName := ⟨RX9, "isHollow", "(I)Z"⟩
abbrev cX9_costOf : ByteArray := prog_11_method_8_code
def yX9_costOf : MethodName := ⟨RX9, "costOf", "(II)I"⟩
abbrev cX9_isLooked : ByteArray := prog_11_method_9_code
def yX9_isLooked : MethodName := ⟨RX9, "isLooked", "(I)Z"⟩
abbrev cX9_bitsIn : ByteArray := prog_11_method_10_code
def yX9_bitsIn : MethodName := ⟨RX9, "bitsIn", "(J)I"⟩
abbrev cX9_valueAt : ByteArray := prog_11_method_11_code
def yX9_valueAt : MethodName := ⟨RX9, "valueAt", "(II)I"⟩
abbrev cX9_lays : ByteArray := prog_11_method_12_code
def yX9_lays : MethodName := ⟨RX9, "lays", "(III)V"⟩
abbrev cX9_changes : ByteArray := prog_11_method_13_code
def yX9_changes : MethodName := ⟨RX9, "changes", "(III)I"⟩
abbrev cX9_undo : ByteArray := prog_11_method_14_code
def yX9_undo : MethodName := ⟨RX9, "undo", "()I"⟩
abbrev cX9_redo : ByteArray := prog_11_method_15_code
def yX9_redo : MethodName := ⟨RX9, "redo", "()I"⟩
abbrev cX9_isThing : ByteArray := prog_11_method_16_code
def yX9_isThing : MethodName := ⟨RX9, "isThing", "(II)Z"⟩
abbrev cX9_mostOf : ByteArray := prog_11_method_17_code
def yX9_mostOf : MethodName := ⟨RX9, "mostOf", "(I)I"⟩
abbrev cX9_mend : ByteArray := prog_11_method_18_code
def yX9_mend : MethodName := ⟨RX9, "mend", "(III)I"⟩
abbrev cX9_of : ByteArray := prog_11_method_19_code
def yX9_of : MethodName := ⟨RX9, "of", "(II)I"⟩
abbrev cX9_heights : ByteArray := prog_11_method_20_code
def yX9_heights : MethodName := ⟨RX9, "heights", "(III)I"⟩
abbrev cX9_feed : ByteArray := prog_11_method_21_code
def yX9_feed : MethodName := ⟨RX9, "feed", "(I)I"⟩
abbrev cX9_look : ByteArray := prog_11_method_22_code
def yX9_look : MethodName := ⟨RX9, "look", "()I"⟩
abbrev cX9_faulty : ByteArray := prog_11_method_23_code
def yX9_faulty : MethodName := ⟨RX9, "faulty", "()V"⟩
abbrev cX9_addStep : ByteArray := prog_11_method_24_code
def yX9_addStep : MethodName := ⟨RX9, "addStep", "(II)V"⟩
abbrev cX9_nameOf : ByteArray := prog_11_method_25_code
def yX9_nameOf : MethodName := ⟨RX9, "nameOf", "(I)I"⟩
abbrev cX9_opens : ByteArray := prog_11_method_26_code
def yX9_opens : MethodName := ⟨RX9, "opens", "()Z"⟩
abbrev cX9_figure : ByteArray := prog_11_method_27_code
def yX9_figure : MethodName := ⟨RX9, "figure", "()V"⟩
abbrev cX9_operand : ByteArray := prog_11_method_28_code
def yX9_operand : MethodName := ⟨RX9, "operand", "()V"⟩
abbrev cX9_product : ByteArray := prog_11_method_29_code
def yX9_product : MethodName := ⟨RX9, "product", "()V"⟩
abbrev cX9_sum : ByteArray := prog_11_method_30_code
def yX9_sum : MethodName := ⟨RX9, "sum", "()V"⟩
abbrev cX9_compared : ByteArray := prog_11_method_31_code
def yX9_compared : MethodName := ⟨RX9, "compared", "()V"⟩
abbrev cX9_both : ByteArray := prog_11_method_32_code
def yX9_both : MethodName := ⟨RX9, "both", "()V"⟩
abbrev cX9_either : ByteArray := prog_11_method_33_code
def yX9_either : MethodName := ⟨RX9, "either", "()V"⟩
abbrev cX9_oneLine : ByteArray := prog_11_method_34_code
def yX9_oneLine : MethodName := ⟨RX9, "oneLine", "()V"⟩
abbrev cX9_readText : ByteArray := prog_11_method_35_code
def yX9_readText : MethodName := ⟨RX9, "readText", "(I)I"⟩
abbrev cX9_twoOf : ByteArray := prog_11_method_36_code
def yX9_twoOf : MethodName := ⟨RX9, "twoOf", "(III)I"⟩
abbrev cX9_worked : ByteArray := prog_11_method_37_code
def yX9_worked : MethodName := ⟨RX9, "worked", "(III)I"⟩
abbrev cX9_gives : ByteArray := prog_11_method_38_code
def yX9_gives : MethodName := ⟨RX9, "gives", "(I)I"⟩
abbrev cX9_law : ByteArray := prog_11_method_39_code
def yX9_law : MethodName := ⟨RX9, "law", "()I"⟩
abbrev cX9_orderOf : ByteArray := prog_11_method_40_code
def yX9_orderOf : MethodName := ⟨RX9, "orderOf", "(I)I"⟩
abbrev cX9_cost : ByteArray := prog_11_method_41_code
def yX9_cost : MethodName := ⟨RX9, "cost", "(II)I"⟩
abbrev cX9_order : ByteArray := prog_11_method_42_code
def yX9_order : MethodName := ⟨RX9, "order", "()I"⟩
abbrev cX9_think : ByteArray := prog_11_method_43_code
def yX9_think : MethodName := ⟨RX9, "think", "()V"⟩
abbrev cX9_unthink : ByteArray := prog_11_method_44_code
def yX9_unthink : MethodName := ⟨RX9, "unthink", "()V"⟩
abbrev cX9_obeys : ByteArray := prog_11_method_45_code
def yX9_obeys : MethodName := ⟨RX9, "obeys", "(I)Z"⟩
abbrev cX9_storeThen : ByteArray := prog_11_method_46_code
def yX9_storeThen : MethodName := ⟨RX9, "storeThen", "(IIIZ)I"⟩
abbrev cX9_dustThen : ByteArray := prog_11_method_47_code
def yX9_dustThen : MethodName := ⟨RX9, "dustThen", "(IIIZ)I"⟩
abbrev cX9_goDay : ByteArray := prog_11_method_48_code
def yX9_goDay : MethodName := ⟨RX9, "goDay", "(IIII)Z"⟩
abbrev cX9_goOwn : ByteArray := prog_11_method_49_code
def yX9_goOwn : MethodName := ⟨RX9, "goOwn", "(II)Z"⟩
abbrev cX9_lead : ByteArray := prog_11_method_50_code
def yX9_lead : MethodName := ⟨RX9, "lead", "(I)I"⟩
abbrev cX9_day : ByteArray := prog_11_method_51_code
def yX9_day : MethodName := ⟨RX9, "day", "(I)I"⟩
abbrev cX9_days : ByteArray := prog_11_method_52_code
def yX9_days : MethodName := ⟨RX9, "days", "(I)I"⟩
abbrev cX9_led : ByteArray := prog_11_method_53_code
def yX9_led : MethodName := ⟨RX9, "led", "(II)I"⟩
abbrev cX9_rowFault : ByteArray := prog_11_method_54_code
def yX9_rowFault : MethodName := ⟨RX9, "rowFault", "(I)I"⟩
abbrev cX9_byteAt : ByteArray := prog_11_method_55_code
def yX9_byteAt : MethodName := ⟨RX9, "byteAt", "(II)I"⟩
abbrev cX9_orderAt : ByteArray := prog_11_method_56_code
def yX9_orderAt : MethodName := ⟨RX9, "orderAt", "(II)I"⟩
abbrev cX9_tellThought : ByteArray := prog_11_method_57_code
def yX9_tellThought : MethodName := ⟨RX9, "tellThought", "(I)I"⟩
abbrev cX9_run : ByteArray := prog_11_method_58_code
def yX9_run : MethodName := ⟨RX9, "run", "(III)I"⟩
abbrev cX9_first : ByteArray := prog_11_method_59_code
def yX9_first : MethodName := ⟨RX9, "first", "(I)I"⟩
abbrev cX9_lawful : ByteArray := prog_11_method_60_code
def yX9_lawful : MethodName := ⟨RX9, "lawful", "(II)I"⟩
abbrev cX9_findFar : ByteArray := prog_11_method_61_code
def yX9_findFar : MethodName := ⟨RX9, "findFar", "(I)V"⟩
abbrev cX9_cheapest : ByteArray := prog_11_method_62_code
def yX9_cheapest : MethodName := ⟨RX9, "cheapest", "(II)I"⟩
abbrev cX9_come : ByteArray := prog_11_method_63_code
def yX9_come : MethodName := ⟨RX9, "come", "(IIII)V"⟩
abbrev cX9_goOn : ByteArray := prog_11_method_64_code
def yX9_goOn : MethodName := ⟨RX9, "goOn", "(I)V"⟩
abbrev cX9_mostIn : ByteArray := prog_11_method_65_code
def yX9_mostIn : MethodName := ⟨RX9, "mostIn", "(I)I"⟩
abbrev cX9_soonest : ByteArray := prog_11_method_66_code
def yX9_soonest : MethodName := ⟨RX9, "soonest", "(II)I"⟩
abbrev cX9_toNorth : ByteArray := prog_11_method_67_code
def yX9_toNorth : MethodName := ⟨RX9, "toNorth", "(I)I"⟩
abbrev cX9_goRound : ByteArray := prog_11_method_68_code
def yX9_goRound : MethodName := ⟨RX9, "goRound", "(IIIII)V"⟩
abbrev cX9_round : ByteArray := prog_11_method_69_code
def yX9_round : MethodName := ⟨RX9, "round", "(I)I"⟩
abbrev cX9_lasts : ByteArray := prog_11_method_70_code
def yX9_lasts : MethodName := ⟨RX9, "lasts", "(I)I"⟩
abbrev cX9_power : ByteArray := prog_11_method_71_code
def yX9_power : MethodName := ⟨RX9, "power", "(II)J"⟩
abbrev cX9_part : ByteArray := prog_11_method_72_code
def yX9_part : MethodName := ⟨RX9, "part", "(JJI)J"⟩
abbrev cX9_clean : ByteArray := prog_11_method_73_code
def yX9_clean : MethodName := ⟨RX9, "clean", "(III)J"⟩
abbrev cX9_endOf : ByteArray := prog_11_method_74_code
def yX9_endOf : MethodName := ⟨RX9, "endOf", "(II)I"⟩
abbrev cX9_line : ByteArray := prog_11_method_75_code
def yX9_line : MethodName := ⟨RX9, "line", "(II)J"⟩
abbrev cX9_drawn : ByteArray := prog_11_method_76_code
def yX9_drawn : MethodName := ⟨RX9, "drawn", "(III)I"⟩
abbrev cX9_judge : ByteArray := prog_11_method_77_code
def yX9_judge : MethodName := ⟨RX9, "judge", "(I)I"⟩
abbrev cX9_image : ByteArray := prog_11_method_78_code
def yX9_image : MethodName := ⟨RX9, "image", "()I"⟩
abbrev cX9_back : ByteArray := prog_11_method_79_code
def yX9_back : MethodName := ⟨RX9, "back", "()I"⟩
abbrev cX9_stones : ByteArray := prog_11_method_80_code
def yX9_stones : MethodName := ⟨RX9, "stones", "()I"⟩
abbrev cX9_hollows : ByteArray := prog_11_method_81_code
def yX9_hollows : MethodName := ⟨RX9, "hollows", "()I"⟩
abbrev cX9_isBody : ByteArray := prog_11_method_82_code
def yX9_isBody : MethodName := ⟨RX9, "isBody", "(I)Z"⟩
abbrev cX9_ran : ByteArray := prog_11_method_83_code
def yX9_ran : MethodName := ⟨RX9, "ran", "(I)V"⟩
abbrev cX9_trace : ByteArray := prog_11_method_84_code
def yX9_trace : MethodName := ⟨RX9, "trace", "(I)I"⟩
abbrev cX9_body : ByteArray := prog_11_method_85_code
def yX9_body : MethodName := ⟨RX9, "body", "(I)I"⟩
abbrev cX9_isUnder : ByteArray := prog_11_method_86_code
def yX9_isUnder : MethodName := ⟨RX9, "isUnder", "(II)Z"⟩
abbrev cX9_plainTurns : ByteArray := prog_11_method_87_code
def yX9_plainTurns : MethodName := ⟨RX9, "plainTurns", "(II)I"⟩
abbrev cX9_northTurns : ByteArray := prog_11_method_88_code
def yX9_northTurns : MethodName := ⟨RX9, "northTurns", "(II)I"⟩
abbrev cX9_turning : ByteArray := prog_11_method_89_code
def yX9_turning : MethodName := ⟨RX9, "turning", "(II)I"⟩
abbrev cX9_plainMoves : ByteArray := prog_11_method_90_code
def yX9_plainMoves : MethodName := ⟨RX9, "plainMoves", "(II)I"⟩
abbrev cX9_dustyMoves : ByteArray := prog_11_method_91_code
def yX9_dustyMoves : MethodName := ⟨RX9, "dustyMoves", "(II)I"⟩
abbrev cX9_moving : ByteArray := prog_11_method_92_code
def yX9_moving : MethodName := ⟨RX9, "moving", "(II)I"⟩
abbrev cX9_plainLooks : ByteArray := prog_11_method_93_code
def yX9_plainLooks : MethodName := ⟨RX9, "plainLooks", "(II)I"⟩
abbrev cX9_cleanLooks : ByteArray := prog_11_method_94_code
def yX9_cleanLooks : MethodName := ⟨RX9, "cleanLooks", "(II)I"⟩
abbrev cX9_looking : ByteArray := prog_11_method_95_code
def yX9_looking : MethodName := ⟨RX9, "looking", "(II)I"⟩
abbrev cX9_plainTells : ByteArray := prog_11_method_96_code
def yX9_plainTells : MethodName := ⟨RX9, "plainTells", "(II)I"⟩
abbrev cX9_telling : ByteArray := prog_11_method_97_code
def yX9_telling : MethodName := ⟨RX9, "telling", "(II)I"⟩
abbrev cX9_act : ByteArray := prog_11_method_98_code
def yX9_act : MethodName := ⟨RX9, "act", "(III)I"⟩
abbrev cX9_count : ByteArray := prog_11_method_99_code
def yX9_count : MethodName := ⟨RX9, "count", "(I)I"⟩
abbrev cX9_isShelf : ByteArray := prog_11_method_100_code
def yX9_isShelf : MethodName := ⟨RX9, "isShelf", "(I)Z"⟩
abbrev cX9_keep : ByteArray := prog_11_method_101_code
def yX9_keep : MethodName := ⟨RX9, "keep", "(II)I"⟩
abbrev cX9_row : ByteArray := prog_11_method_102_code
def yX9_row : MethodName := ⟨RX9, "row", "(III)I"⟩
abbrev cX9_whyNoPlace : ByteArray := prog_11_method_103_code
def yX9_whyNoPlace : MethodName := ⟨RX9, "whyNoPlace", "(II)I"⟩
abbrev cX9_put : ByteArray := prog_11_method_104_code
def yX9_put : MethodName := ⟨RX9, "put", "(IIJ)I"⟩
abbrev cX9_element : ByteArray := prog_11_method_105_code
def yX9_element : MethodName := ⟨RX9, "element", "(II)J"⟩
abbrev cX9_shift : ByteArray := prog_11_method_106_code
def yX9_shift : MethodName := ⟨RX9, "shift", "(IIIII)I"⟩
abbrev cX9_taken : ByteArray := prog_11_method_107_code
def yX9_taken : MethodName := ⟨RX9, "taken", "(II)I"⟩
def RJ13 : String := "java/lang/Long"
def TJ13 : u_T := fun k => match k with
  | _ => ("", "", "", false)
def tyJ13 : Nat → FieldType := fun k => match k with
  | _ => .int
abbrev wsJ130 : List Cond := u_ws RJ13 TJ13 0
theorem nmJ13 : ∀ a, a < 0 → ∀ b, b < 0 → a ≠ b → (TJ13 a).2.1 ≠ (TJ13 b).2.1 := by decide +kernel
theorem tyJ13_ok : ∀ k, k < 0 → parseFieldDescriptor (TJ13 k).2.2.1 = some (tyJ13 k) := by decide +kernel
abbrev cJ13_bitCount_95d88 : ByteArray := prog_12_method_50_code
def yJ13_bitCount_95d88 : MethodName := ⟨RJ13, "bitCount", "(J)I"⟩
def RJ9 : String := "java/lang/Math"
def TJ9 : u_T := fun k => match k with
  | _ => ("", "", "", false)
def tyJ9 : Nat → FieldType := fun k => match k with
  | _ => .int
abbrev wsJ90 : List Cond := u_ws RJ9 TJ9 0
theorem nmJ9 : ∀ a, a < 0 → ∀ b, b < 0 → a ≠ b → (TJ9 a).2.1 ≠ (TJ9 b).2.1 := by decide +kernel
theorem tyJ9_ok : ∀ k, k < 0 → parseFieldDescriptor (TJ9 k).2.2.1 = some (tyJ9 k) := by decide +kernel
abbrev cJ9_max_7cf53 : ByteArray := prog_13_method_65_code
def yJ9_max_7cf53 : MethodName := ⟨RJ9, "max", "(II)I"⟩
abbrev cJ9_min_7cf53 : ByteArray := prog_13_method_69_code
def yJ9_min_7cf53 : MethodName := ⟨RJ9, "min", "(II)I"⟩
def RJ10 : String := "java/lang/System"
def TJ10 : u_T := fun k => match k with
  | _ => ("", "", "", false)
def tyJ10 : Nat → FieldType := fun k => match k with
  | _ => .int
abbrev wsJ100 : List Cond := u_ws RJ10 TJ10 0
theorem nmJ10 : ∀ a, a < 0 → ∀ b, b < 0 → a ≠ b → (TJ10 a).2.1 ≠ (TJ10 b).2.1 := by decide +kernel
theorem tyJ10_ok : ∀ k, k < 0 → parseFieldDescriptor (TJ10 k).2.2.1 = some (tyJ10 k) := by decide +kernel
def RJ7 : String := "java/util/Arrays"
def TJ7 : u_T := fun k => match k with
  | _ => ("", "", "", false)
def tyJ7 : Nat → FieldType := fun k => match k with
  | _ => .int
abbrev wsJ70 : List Cond := u_ws RJ7 TJ7 0
theorem nmJ7 : ∀ a, a < 0 → ∀ b, b < 0 → a ≠ b → (TJ7 a).2.1 ≠ (TJ7 b).2.1 := by decide +kernel
theorem tyJ7_ok : ∀ k, k < 0 → parseFieldDescriptor (TJ7 k).2.2.1 = some (tyJ7 k) := by decide +kernel
abbrev cJ7_fill_d0a16 : ByteArray := prog_15_method_101_code
def yJ7_fill_d0a16 : MethodName := ⟨RJ7, "fill", "([JJ)V"⟩
abbrev cJ7_fill_53178 : ByteArray := prog_15_method_103_code
def yJ7_fill_53178 : MethodName := ⟨RJ7, "fill", "([II)V"⟩
def RL : String := "DustCartLaw"
abbrev cL_law : ByteArray := code
def yL_law : MethodName := ⟨RL, "law", "([I)Z"⟩
abbrev vwCl : List vw_C := [(RX0, TX0, 4), (RX1, TX1, 5), (RX2, TX2, 10), (RX3, TX3, 1), (RX4, TX4, 5), (RX5, TX5, 5), (RX6, TX6, 8), (RX7, TX7, 5), (RX8, TX8, 14), (RX9, TX9, 60)]
/-- the words of the tables that hold wherever they are asked -/
def xTbl : List Cond := lw_tbl.filter goodWord
theorem xm1 {w : Cond} (i : Nat) (h : lw_tbl[i]? = some w) (hg : goodWord w = true) : w ∈ xTbl := List.mem_filter.mpr ⟨List.mem_of_getElem? h, hg⟩
theorem xms (ws : List Cond) (ps : List Nat) (h : ws = ps.filterMap (fun i => lw_tbl[i]?)) (hg : ws.all goodWord = true) : ∀ w ∈ ws, w ∈ xTbl := by
  intro w hw
  have h1 := List.all_eq_true.mp hg w hw
  rw [h] at hw
  obtain ⟨i, -, hi⟩ := List.mem_filterMap.mp hw
  exact xm1 i hi h1
theorem xGood : GoodIn xTbl xTbl := fun w h => ⟨h, good_of_word (List.mem_filter.mp h).2⟩
theorem xTbl_in {w : Cond} (h : w ∈ xTbl) : w ∈ lw_tbl := (List.mem_filter.mp h).1
end
section
theorem dX0_init_0 : decode cX0_init 0 = .ok (.aload_n 0, 1) := by decide +kernel
theorem dX0_init_1 : decode cX0_init 1 = .ok (.invokespecial 3, 3) := by decide +kernel
theorem dX0_init_4 : decode cX0_init 4 = .ok (.aload_n 0, 1) := by decide +kernel
theorem dX0_init_5 : decode cX0_init 5 = .ok (.bipush 50, 2) := by decide +kernel
theorem dX0_init_7 : decode cX0_init 7 = .ok (.putfield 9, 3) := by decide +kernel
theorem dX0_init_10 : decode cX0_init 10 = .ok (.return_, 1) := by decide +kernel
theorem dX0_become_0 : decode cX0_become 0 = .ok (.aload_n 0, 1) := by decide +kernel
theorem dX0_become_1 : decode cX0_become 1 = .ok (.aload_n 1, 1) := by decide +kernel
theorem dX0_become_2 : decode cX0_become 2 = .ok (.getfield 15, 3) := by decide +kernel
theorem dX0_become_5 : decode cX0_become 5 = .ok (.aload_n 1, 1) := by decide +kernel
theorem dX0_become_6 : decode cX0_become 6 = .ok (.getfield 9, 3) := by decide +kernel
theorem dX0_become_9 : decode cX0_become 9 = .ok (.aload_n 1, 1) := by decide +kernel
theorem dX0_become_10 : decode cX0_become 10 = .ok (.getfield 18, 3) := by decide +kernel
theorem dX0_become_13 : decode cX0_become 13 = .ok (.invokevirtual 21, 3) := by decide +kernel
theorem dX0_become_16 : decode cX0_become 16 = .ok (.aload_n 0, 1) := by decide +kernel
theorem dX0_become_17 : decode cX0_become 17 = .ok (.aload_n 1, 1) := by decide +kernel
theorem dX0_become_18 : decode cX0_become 18 = .ok (.getfield 25, 3) := by decide +kernel
theorem dX0_become_21 : decode cX0_become 21 = .ok (.putfield 25, 3) := by decide +kernel
theorem dX0_become_24 : decode cX0_become 24 = .ok (.return_, 1) := by decide +kernel
theorem dX0_place_0 : decode cX0_place 0 = .ok (.aload_n 0, 1) := by decide +kernel
theorem dX0_place_1 : decode cX0_place 1 = .ok (.iload_n 1, 1) := by decide +kernel
theorem dX0_place_2 : decode cX0_place 2 = .ok (.putfield 15, 3) := by decide +kernel
theorem dX0_place_5 : decode cX0_place 5 = .ok (.aload_n 0, 1) := by decide +kernel
theorem dX0_place_6 : decode cX0_place 6 = .ok (.iload_n 2, 1) := by decide +kernel
theorem dX0_place_7 : decode cX0_place 7 = .ok (.putfield 9, 3) := by decide +kernel
theorem dX0_place_10 : decode cX0_place 10 = .ok (.aload_n 0, 1) := by decide +kernel
theorem dX0_place_11 : decode cX0_place 11 = .ok (.iload_n 3, 1) := by decide +kernel
theorem dX0_place_12 : decode cX0_place 12 = .ok (.putfield 18, 3) := by decide +kernel
theorem dX0_place_15 : decode cX0_place 15 = .ok (.return_, 1) := by decide +kernel
theorem dX0_hasLookedAt_0 : decode cX0_hasLookedAt 0 = .ok (.aload_n 0, 1) := by decide +kernel
theorem dX0_hasLookedAt_1 : decode cX0_hasLookedAt 1 = .ok (.getfield 25, 3) := by decide +kernel
theorem dX0_hasLookedAt_4 : decode cX0_hasLookedAt 4 = .ok (.iload_n 1, 1) := by decide +kernel
theorem dX0_hasLookedAt_5 : decode cX0_hasLookedAt 5 = .ok (.lushr, 1) := by decide +kernel
theorem dX0_hasLookedAt_6 : decode cX0_hasLookedAt 6 = .ok (.lconst 1, 1) := by decide +kernel
theorem dX0_hasLookedAt_7 : decode cX0_hasLookedAt 7 = .ok (.land, 1) := by decide +kernel
theorem dX0_hasLookedAt_8 : decode cX0_hasLookedAt 8 = .ok (.lconst 0, 1) := by decide +kernel
theorem dX0_hasLookedAt_9 : decode cX0_hasLookedAt 9 = .ok (.lcmp, 1) := by decide +kernel
theorem dX0_hasLookedAt_10 : decode cX0_hasLookedAt 10 = .ok (.ifCond .eq 7, 3) := by decide +kernel
theorem dX0_hasLookedAt_13 : decode cX0_hasLookedAt 13 = .ok (.iconst 1, 1) := by decide +kernel
theorem dX0_hasLookedAt_14 : decode cX0_hasLookedAt 14 = .ok (.goto 4, 3) := by decide +kernel
theorem dX0_hasLookedAt_17 : decode cX0_hasLookedAt 17 = .ok (.iconst 0, 1) := by decide +kernel
theorem dX0_hasLookedAt_18 : decode cX0_hasLookedAt 18 = .ok (.ireturn, 1) := by decide +kernel
theorem dX0_isOnNewStone_0 : decode cX0_isOnNewStone 0 = .ok (.aload_n 1, 1) := by decide +kernel
theorem dX0_isOnNewStone_1 : decode cX0_isOnNewStone 1 = .ok (.aload_n 0, 1) := by decide +kernel
theorem dX0_isOnNewStone_2 : decode cX0_isOnNewStone 2 = .ok (.getfield 15, 3) := by decide +kernel
theorem dX0_isOnNewStone_5 : decode cX0_isOnNewStone 5 = .ok (.invokevirtual 29, 3) := by decide +kernel
theorem dX0_isOnNewStone_8 : decode cX0_isOnNewStone 8 = .ok (.ifCond .eq 18, 3) := by decide +kernel
theorem dX0_isOnNewStone_11 : decode cX0_isOnNewStone 11 = .ok (.aload_n 0, 1) := by decide +kernel
theorem dX0_isOnNewStone_12 : decode cX0_isOnNewStone 12 = .ok (.aload_n 0, 1) := by decide +kernel
theorem dX0_isOnNewStone_13 : decode cX0_isOnNewStone 13 = .ok (.getfield 15, 3) := by decide +kernel
theorem dX0_isOnNewStone_16 : decode cX0_isOnNewStone 16 = .ok (.invokevirtual 35, 3) := by decide +kernel
theorem dX0_isOnNewStone_19 : decode cX0_isOnNewStone 19 = .ok (.ifCond .ne 7, 3) := by decide +kernel
theorem dX0_isOnNewStone_22 : decode cX0_isOnNewStone 22 = .ok (.iconst 1, 1) := by decide +kernel
theorem dX0_isOnNewStone_23 : decode cX0_isOnNewStone 23 = .ok (.goto 4, 3) := by decide +kernel
theorem dX0_isOnNewStone_26 : decode cX0_isOnNewStone 26 = .ok (.iconst 0, 1) := by decide +kernel
theorem dX0_isOnNewStone_27 : decode cX0_isOnNewStone 27 = .ok (.ireturn, 1) := by decide +kernel
theorem dX0_live_0 : decode cX0_live 0 = .ok (.aload_n 0, 1) := by decide +kernel
theorem dX0_live_1 : decode cX0_live 1 = .ok (.aload_n 1, 1) := by decide +kernel
theorem dX0_live_2 : decode cX0_live 2 = .ok (.iload_n 2, 1) := by decide +kernel
theorem dX0_live_3 : decode cX0_live 3 = .ok (.iload_n 3, 1) := by decide +kernel
theorem dX0_live_4 : decode cX0_live 4 = .ok (.aload_n 1, 1) := by decide +kernel
theorem dX0_live_5 : decode cX0_live 5 = .ok (.iload_n 2, 1) := by decide +kernel
theorem dX0_live_6 : decode cX0_live 6 = .ok (.invokevirtual 38, 3) := by decide +kernel
theorem dX0_live_9 : decode cX0_live 9 = .ok (.aload_n 1, 1) := by decide +kernel
theorem dX0_live_10 : decode cX0_live 10 = .ok (.iload_n 2, 1) := by decide +kernel
theorem dX0_live_11 : decode cX0_live 11 = .ok (.invokevirtual 42, 3) := by decide +kernel
theorem dX0_live_14 : decode cX0_live 14 = .ok (.invokevirtual 45, 3) := by decide +kernel
theorem dX0_live_17 : decode cX0_live 17 = .ok (.ireturn, 1) := by decide +kernel
theorem dX0_liveUnder_0 : decode cX0_liveUnder 0 = .ok (.iload_n 3, 1) := by decide +kernel
theorem dX0_liveUnder_1 : decode cX0_liveUnder 1 = .ok (.iconst 5, 1) := by decide +kernel
theorem dX0_liveUnder_2 : decode cX0_liveUnder 2 = .ok (.if_icmp .ne 11, 3) := by decide +kernel
theorem dX0_liveUnder_5 : decode cX0_liveUnder 5 = .ok (.aload_n 0, 1) := by decide +kernel
theorem dX0_liveUnder_6 : decode cX0_liveUnder 6 = .ok (.aload_n 1, 1) := by decide +kernel
theorem dX0_liveUnder_7 : decode cX0_liveUnder 7 = .ok (.invokevirtual 49, 3) := by decide +kernel
theorem dX0_liveUnder_10 : decode cX0_liveUnder 10 = .ok (.goto 21, 3) := by decide +kernel
theorem dX0_liveUnder_13 : decode cX0_liveUnder 13 = .ok (.iload_n 3, 1) := by decide +kernel
theorem dX0_liveUnder_14 : decode cX0_liveUnder 14 = .ok (.ifCond .eq 12, 3) := by decide +kernel
theorem dX0_liveUnder_17 : decode cX0_liveUnder 17 = .ok (.aload_n 0, 1) := by decide +kernel
theorem dX0_liveUnder_18 : decode cX0_liveUnder 18 = .ok (.aload_n 1, 1) := by decide +kernel
theorem dX0_liveUnder_19 : decode cX0_liveUnder 19 = .ok (.iload_n 3, 1) := by decide +kernel
theorem dX0_liveUnder_20 : decode cX0_liveUnder 20 = .ok (.invokevirtual 53, 3) := by decide +kernel
theorem dX0_liveUnder_23 : decode cX0_liveUnder 23 = .ok (.ifCond .eq 7, 3) := by decide +kernel
theorem dX0_liveUnder_26 : decode cX0_liveUnder 26 = .ok (.iconst 1, 1) := by decide +kernel
theorem dX0_liveUnder_27 : decode cX0_liveUnder 27 = .ok (.goto 4, 3) := by decide +kernel
theorem dX0_liveUnder_30 : decode cX0_liveUnder 30 = .ok (.iconst 0, 1) := by decide +kernel
theorem dX0_liveUnder_31 : decode cX0_liveUnder 31 = .ok (.istore 6, 2) := by decide +kernel
theorem dX0_liveUnder_33 : decode cX0_liveUnder 33 = .ok (.aload_n 1, 1) := by decide +kernel
theorem dX0_liveUnder_34 : decode cX0_liveUnder 34 = .ok (.aload_n 0, 1) := by decide +kernel
theorem dX0_liveUnder_35 : decode cX0_liveUnder 35 = .ok (.getfield 15, 3) := by decide +kernel
theorem dX0_liveUnder_38 : decode cX0_liveUnder 38 = .ok (.invokevirtual 57, 3) := by decide +kernel
theorem dX0_liveUnder_41 : decode cX0_liveUnder 41 = .ok (.istore 7, 2) := by decide +kernel
theorem dX0_liveUnder_43 : decode cX0_liveUnder 43 = .ok (.aload_n 0, 1) := by decide +kernel
theorem dX0_liveUnder_44 : decode cX0_liveUnder 44 = .ok (.dup, 1) := by decide +kernel
theorem dX0_liveUnder_45 : decode cX0_liveUnder 45 = .ok (.getfield 9, 3) := by decide +kernel
theorem dX0_liveUnder_48 : decode cX0_liveUnder 48 = .ok (.iconst 0, 1) := by decide +kernel
theorem dX0_liveUnder_49 : decode cX0_liveUnder 49 = .ok (.iload 4, 2) := by decide +kernel
theorem dX0_liveUnder_51 : decode cX0_liveUnder 51 = .ok (.aload_n 0, 1) := by decide +kernel
theorem dX0_liveUnder_52 : decode cX0_liveUnder 52 = .ok (.getfield 18, 3) := by decide +kernel
theorem dX0_liveUnder_55 : decode cX0_liveUnder 55 = .ok (.iconst 2, 1) := by decide +kernel
theorem dX0_liveUnder_56 : decode cX0_liveUnder 56 = .ok (.idiv, 1) := by decide +kernel
theorem dX0_liveUnder_57 : decode cX0_liveUnder 57 = .ok (.isub, 1) := by decide +kernel
theorem dX0_liveUnder_58 : decode cX0_liveUnder 58 = .ok (.invokestatic 60, 3) := by decide +kernel
theorem dX0_liveUnder_61 : decode cX0_liveUnder 61 = .ok (.iadd, 1) := by decide +kernel
theorem dX0_liveUnder_62 : decode cX0_liveUnder 62 = .ok (.putfield 9, 3) := by decide +kernel
theorem dX0_liveUnder_65 : decode cX0_liveUnder 65 = .ok (.aload_n 0, 1) := by decide +kernel
theorem dX0_liveUnder_66 : decode cX0_liveUnder 66 = .ok (.dup, 1) := by decide +kernel
theorem dX0_liveUnder_67 : decode cX0_liveUnder 67 = .ok (.getfield 9, 3) := by decide +kernel
theorem dX0_liveUnder_70 : decode cX0_liveUnder 70 = .ok (.iload 7, 2) := by decide +kernel
theorem dX0_liveUnder_72 : decode cX0_liveUnder 72 = .ok (.ifCond .eq 7, 3) := by decide +kernel
theorem dX0_liveUnder_75 : decode cX0_liveUnder 75 = .ok (.iconst 2, 1) := by decide +kernel
theorem dX0_liveUnder_76 : decode cX0_liveUnder 76 = .ok (.goto 4, 3) := by decide +kernel
theorem dX0_liveUnder_79 : decode cX0_liveUnder 79 = .ok (.iconst 4, 1) := by decide +kernel
theorem dX0_liveUnder_80 : decode cX0_liveUnder 80 = .ok (.isub, 1) := by decide +kernel
theorem dX0_liveUnder_81 : decode cX0_liveUnder 81 = .ok (.putfield 9, 3) := by decide +kernel
theorem dX0_liveUnder_84 : decode cX0_liveUnder 84 = .ok (.aload_n 0, 1) := by decide +kernel
theorem dX0_liveUnder_85 : decode cX0_liveUnder 85 = .ok (.bipush 99, 2) := by decide +kernel
theorem dX0_liveUnder_87 : decode cX0_liveUnder 87 = .ok (.iconst 0, 1) := by decide +kernel
theorem dX0_liveUnder_88 : decode cX0_liveUnder 88 = .ok (.aload_n 0, 1) := by decide +kernel
theorem dX0_liveUnder_89 : decode cX0_liveUnder 89 = .ok (.getfield 9, 3) := by decide +kernel
theorem dX0_liveUnder_92 : decode cX0_liveUnder 92 = .ok (.invokestatic 60, 3) := by decide +kernel
theorem dX0_liveUnder_95 : decode cX0_liveUnder 95 = .ok (.invokestatic 66, 3) := by decide +kernel
theorem dX0_liveUnder_98 : decode cX0_liveUnder 98 = .ok (.putfield 9, 3) := by decide +kernel
theorem dX0_liveUnder_101 : decode cX0_liveUnder 101 = .ok (.iload_n 2, 1) := by decide +kernel
theorem dX0_liveUnder_102 : decode cX0_liveUnder 102 = .ok (.iconst 3, 1) := by decide +kernel
theorem dX0_liveUnder_103 : decode cX0_liveUnder 103 = .ok (.irem, 1) := by decide +kernel
theorem dX0_liveUnder_104 : decode cX0_liveUnder 104 = .ok (.ifCond .ne 18, 3) := by decide +kernel
theorem dX0_liveUnder_107 : decode cX0_liveUnder 107 = .ok (.aload_n 0, 1) := by decide +kernel
theorem dX0_liveUnder_108 : decode cX0_liveUnder 108 = .ok (.bipush 9, 2) := by decide +kernel
theorem dX0_liveUnder_110 : decode cX0_liveUnder 110 = .ok (.aload_n 0, 1) := by decide +kernel
theorem dX0_liveUnder_111 : decode cX0_liveUnder 111 = .ok (.getfield 18, 3) := by decide +kernel
theorem dX0_liveUnder_114 : decode cX0_liveUnder 114 = .ok (.iconst 1, 1) := by decide +kernel
theorem dX0_liveUnder_115 : decode cX0_liveUnder 115 = .ok (.iadd, 1) := by decide +kernel
theorem dX0_liveUnder_116 : decode cX0_liveUnder 116 = .ok (.invokestatic 66, 3) := by decide +kernel
theorem dX0_liveUnder_119 : decode cX0_liveUnder 119 = .ok (.putfield 18, 3) := by decide +kernel
theorem dX0_liveUnder_122 : decode cX0_liveUnder 122 = .ok (.iload 5, 2) := by decide +kernel
theorem dX0_liveUnder_124 : decode cX0_liveUnder 124 = .ok (.bipush 7, 2) := by decide +kernel
theorem dX0_liveUnder_126 : decode cX0_liveUnder 126 = .ok (.if_icmp .lt 13, 3) := by decide +kernel
theorem dX0_liveUnder_129 : decode cX0_liveUnder 129 = .ok (.iload 7, 2) := by decide +kernel
theorem dX0_liveUnder_131 : decode cX0_liveUnder 131 = .ok (.ifCond .ne 8, 3) := by decide +kernel
theorem dX0_liveUnder_134 : decode cX0_liveUnder 134 = .ok (.aload_n 0, 1) := by decide +kernel
theorem dX0_liveUnder_135 : decode cX0_liveUnder 135 = .ok (.iconst 0, 1) := by decide +kernel
theorem dX0_liveUnder_136 : decode cX0_liveUnder 136 = .ok (.putfield 18, 3) := by decide +kernel
theorem dX0_liveUnder_139 : decode cX0_liveUnder 139 = .ok (.iload 6, 2) := by decide +kernel
theorem dX0_liveUnder_141 : decode cX0_liveUnder 141 = .ok (.ireturn, 1) := by decide +kernel
theorem dX0_move_0 : decode cX0_move 0 = .ok (.aload_n 0, 1) := by decide +kernel
theorem dX0_move_1 : decode cX0_move 1 = .ok (.getfield 15, 3) := by decide +kernel
theorem dX0_move_4 : decode cX0_move 4 = .ok (.iload_n 2, 1) := by decide +kernel
theorem dX0_move_5 : decode cX0_move 5 = .ok (.invokestatic 69, 3) := by decide +kernel
theorem dX0_move_8 : decode cX0_move 8 = .ok (.istore_n 3, 1) := by decide +kernel
theorem dX0_move_9 : decode cX0_move 9 = .ok (.iload_n 3, 1) := by decide +kernel
theorem dX0_move_10 : decode cX0_move 10 = .ok (.ifCond .ge 5, 3) := by decide +kernel
theorem dX0_move_13 : decode cX0_move 13 = .ok (.iconst 0, 1) := by decide +kernel
theorem dX0_move_14 : decode cX0_move 14 = .ok (.ireturn, 1) := by decide +kernel
theorem dX0_move_15 : decode cX0_move 15 = .ok (.aload_n 1, 1) := by decide +kernel
theorem dX0_move_16 : decode cX0_move 16 = .ok (.aload_n 0, 1) := by decide +kernel
theorem dX0_move_17 : decode cX0_move 17 = .ok (.getfield 15, 3) := by decide +kernel
theorem dX0_move_20 : decode cX0_move 20 = .ok (.iload_n 3, 1) := by decide +kernel
theorem dX0_move_21 : decode cX0_move 21 = .ok (.invokevirtual 72, 3) := by decide +kernel
theorem dX0_move_24 : decode cX0_move 24 = .ok (.istore 4, 2) := by decide +kernel
theorem dX0_move_26 : decode cX0_move 26 = .ok (.aload_n 0, 1) := by decide +kernel
theorem dX0_move_27 : decode cX0_move 27 = .ok (.getfield 9, 3) := by decide +kernel
theorem dX0_move_30 : decode cX0_move 30 = .ok (.iload 4, 2) := by decide +kernel
theorem dX0_move_32 : decode cX0_move 32 = .ok (.if_icmp .ge 5, 3) := by decide +kernel
theorem dX0_move_35 : decode cX0_move 35 = .ok (.iconst 0, 1) := by decide +kernel
theorem dX0_move_36 : decode cX0_move 36 = .ok (.ireturn, 1) := by decide +kernel
theorem dX0_move_37 : decode cX0_move 37 = .ok (.aload_n 0, 1) := by decide +kernel
theorem dX0_move_38 : decode cX0_move 38 = .ok (.dup, 1) := by decide +kernel
theorem dX0_move_39 : decode cX0_move 39 = .ok (.getfield 9, 3) := by decide +kernel
theorem dX0_move_42 : decode cX0_move 42 = .ok (.iload 4, 2) := by decide +kernel
theorem dX0_move_44 : decode cX0_move 44 = .ok (.isub, 1) := by decide +kernel
theorem dX0_move_45 : decode cX0_move 45 = .ok (.putfield 9, 3) := by decide +kernel
theorem dX0_move_48 : decode cX0_move 48 = .ok (.aload_n 0, 1) := by decide +kernel
theorem dX0_move_49 : decode cX0_move 49 = .ok (.iload_n 3, 1) := by decide +kernel
theorem dX0_move_50 : decode cX0_move 50 = .ok (.putfield 15, 3) := by decide +kernel
theorem dX0_move_53 : decode cX0_move 53 = .ok (.iconst 1, 1) := by decide +kernel
theorem dX0_move_54 : decode cX0_move 54 = .ok (.ireturn, 1) := by decide +kernel
theorem dX0_lookAround_0 : decode cX0_lookAround 0 = .ok (.aload_n 0, 1) := by decide +kernel
theorem dX0_lookAround_1 : decode cX0_lookAround 1 = .ok (.getfield 9, 3) := by decide +kernel
theorem dX0_lookAround_4 : decode cX0_lookAround 4 = .ok (.iconst 2, 1) := by decide +kernel
theorem dX0_lookAround_5 : decode cX0_lookAround 5 = .ok (.if_icmp .lt 11, 3) := by decide +kernel
theorem dX0_lookAround_8 : decode cX0_lookAround 8 = .ok (.aload_n 0, 1) := by decide +kernel
theorem dX0_lookAround_9 : decode cX0_lookAround 9 = .ok (.aload_n 1, 1) := by decide +kernel
theorem dX0_lookAround_10 : decode cX0_lookAround 10 = .ok (.invokevirtual 75, 3) := by decide +kernel
theorem dX0_lookAround_13 : decode cX0_lookAround 13 = .ok (.ifCond .ne 5, 3) := by decide +kernel
theorem dX0_lookAround_16 : decode cX0_lookAround 16 = .ok (.iconst 0, 1) := by decide +kernel
theorem dX0_lookAround_17 : decode cX0_lookAround 17 = .ok (.ireturn, 1) := by decide +kernel
theorem dX0_lookAround_18 : decode cX0_lookAround 18 = .ok (.aload_n 0, 1) := by decide +kernel
theorem dX0_lookAround_19 : decode cX0_lookAround 19 = .ok (.dup, 1) := by decide +kernel
theorem dX0_lookAround_20 : decode cX0_lookAround 20 = .ok (.getfield 9, 3) := by decide +kernel
theorem dX0_lookAround_23 : decode cX0_lookAround 23 = .ok (.iconst 2, 1) := by decide +kernel
theorem dX0_lookAround_24 : decode cX0_lookAround 24 = .ok (.isub, 1) := by decide +kernel
theorem dX0_lookAround_25 : decode cX0_lookAround 25 = .ok (.putfield 9, 3) := by decide +kernel
theorem dX0_lookAround_28 : decode cX0_lookAround 28 = .ok (.aload_n 0, 1) := by decide +kernel
theorem dX0_lookAround_29 : decode cX0_lookAround 29 = .ok (.dup, 1) := by decide +kernel
theorem dX0_lookAround_30 : decode cX0_lookAround 30 = .ok (.getfield 25, 3) := by decide +kernel
theorem dX0_lookAround_33 : decode cX0_lookAround 33 = .ok (.lconst 1, 1) := by decide +kernel
theorem dX0_lookAround_34 : decode cX0_lookAround 34 = .ok (.aload_n 0, 1) := by decide +kernel
theorem dX0_lookAround_35 : decode cX0_lookAround 35 = .ok (.getfield 15, 3) := by decide +kernel
theorem dX0_lookAround_38 : decode cX0_lookAround 38 = .ok (.lshl, 1) := by decide +kernel
theorem dX0_lookAround_39 : decode cX0_lookAround 39 = .ok (.lor, 1) := by decide +kernel
theorem dX0_lookAround_40 : decode cX0_lookAround 40 = .ok (.putfield 25, 3) := by decide +kernel
theorem dX0_lookAround_43 : decode cX0_lookAround 43 = .ok (.iconst 1, 1) := by decide +kernel
theorem dX0_lookAround_44 : decode cX0_lookAround 44 = .ok (.ireturn, 1) := by decide +kernel
theorem dX1_init_0 : decode cX1_init 0 = .ok (.aload_n 0, 1) := by decide +kernel
theorem dX1_init_1 : decode cX1_init 1 = .ok (.invokespecial 1, 3) := by decide +kernel
theorem dX1_init_4 : decode cX1_init 4 = .ok (.aload_n 0, 1) := by decide +kernel
theorem dX1_init_5 : decode cX1_init 5 = .ok (.bipush 40, 2) := by decide +kernel
theorem dX1_init_7 : decode cX1_init 7 = .ok (.newarray .int, 2) := by decide +kernel
theorem dX1_init_9 : decode cX1_init 9 = .ok (.putfield 9, 3) := by decide +kernel
theorem dX1_init_12 : decode cX1_init 12 = .ok (.aload_n 0, 1) := by decide +kernel
theorem dX1_init_13 : decode cX1_init 13 = .ok (.bipush 40, 2) := by decide +kernel
theorem dX1_init_15 : decode cX1_init 15 = .ok (.newarray .int, 2) := by decide +kernel
theorem dX1_init_17 : decode cX1_init 17 = .ok (.putfield 13, 3) := by decide +kernel
theorem dX1_init_20 : decode cX1_init 20 = .ok (.aload_n 0, 1) := by decide +kernel
theorem dX1_init_21 : decode cX1_init 21 = .ok (.bipush 40, 2) := by decide +kernel
theorem dX1_init_23 : decode cX1_init 23 = .ok (.newarray .int, 2) := by decide +kernel
theorem dX1_init_25 : decode cX1_init 25 = .ok (.putfield 16, 3) := by decide +kernel
theorem dX1_init_28 : decode cX1_init 28 = .ok (.return_, 1) := by decide +kernel
theorem dX1_note_0 : decode cX1_note 0 = .ok (.aload_n 0, 1) := by decide +kernel
theorem dX1_note_1 : decode cX1_note 1 = .ok (.getfield 19, 3) := by decide +kernel
theorem dX1_note_4 : decode cX1_note 4 = .ok (.bipush 40, 2) := by decide +kernel
theorem dX1_note_6 : decode cX1_note 6 = .ok (.if_icmp .lt 7, 3) := by decide +kernel
theorem dX1_note_9 : decode cX1_note 9 = .ok (.aload_n 0, 1) := by decide +kernel
theorem dX1_note_10 : decode cX1_note 10 = .ok (.invokevirtual 23, 3) := by decide +kernel
theorem dX1_note_13 : decode cX1_note 13 = .ok (.aload_n 0, 1) := by decide +kernel
theorem dX1_note_14 : decode cX1_note 14 = .ok (.getfield 9, 3) := by decide +kernel
theorem dX1_note_17 : decode cX1_note 17 = .ok (.aload_n 0, 1) := by decide +kernel
theorem dX1_note_18 : decode cX1_note 18 = .ok (.getfield 19, 3) := by decide +kernel
theorem dX1_note_21 : decode cX1_note 21 = .ok (.iload_n 1, 1) := by decide +kernel
theorem dX1_note_22 : decode cX1_note 22 = .ok (.iastore, 1) := by decide +kernel
theorem dX1_note_23 : decode cX1_note 23 = .ok (.aload_n 0, 1) := by decide +kernel
theorem dX1_note_24 : decode cX1_note 24 = .ok (.getfield 13, 3) := by decide +kernel
theorem dX1_note_27 : decode cX1_note 27 = .ok (.aload_n 0, 1) := by decide +kernel
theorem dX1_note_28 : decode cX1_note 28 = .ok (.getfield 19, 3) := by decide +kernel
theorem dX1_note_31 : decode cX1_note 31 = .ok (.iload_n 2, 1) := by decide +kernel
theorem dX1_note_32 : decode cX1_note 32 = .ok (.iastore, 1) := by decide +kernel
theorem dX1_note_33 : decode cX1_note 33 = .ok (.aload_n 0, 1) := by decide +kernel
theorem dX1_note_34 : decode cX1_note 34 = .ok (.getfield 16, 3) := by decide +kernel
theorem dX1_note_37 : decode cX1_note 37 = .ok (.aload_n 0, 1) := by decide +kernel
theorem dX1_note_38 : decode cX1_note 38 = .ok (.getfield 19, 3) := by decide +kernel
theorem dX1_note_41 : decode cX1_note 41 = .ok (.iload_n 3, 1) := by decide +kernel
theorem dX1_note_42 : decode cX1_note 42 = .ok (.iastore, 1) := by decide +kernel
theorem dX1_note_43 : decode cX1_note 43 = .ok (.aload_n 0, 1) := by decide +kernel
theorem dX1_note_44 : decode cX1_note 44 = .ok (.dup, 1) := by decide +kernel
theorem dX1_note_45 : decode cX1_note 45 = .ok (.getfield 19, 3) := by decide +kernel
theorem dX1_note_48 : decode cX1_note 48 = .ok (.iconst 1, 1) := by decide +kernel
theorem dX1_note_49 : decode cX1_note 49 = .ok (.iadd, 1) := by decide +kernel
theorem dX1_note_50 : decode cX1_note 50 = .ok (.putfield 19, 3) := by decide +kernel
theorem dX1_note_53 : decode cX1_note 53 = .ok (.aload_n 0, 1) := by decide +kernel
theorem dX1_note_54 : decode cX1_note 54 = .ok (.aload_n 0, 1) := by decide +kernel
theorem dX1_note_55 : decode cX1_note 55 = .ok (.getfield 19, 3) := by decide +kernel
theorem dX1_note_58 : decode cX1_note 58 = .ok (.putfield 26, 3) := by decide +kernel
theorem dX1_note_61 : decode cX1_note 61 = .ok (.return_, 1) := by decide +kernel
theorem dX1_dropOldest_0 : decode cX1_dropOldest 0 = .ok (.aload_n 0, 1) := by decide +kernel
theorem dX1_dropOldest_1 : decode cX1_dropOldest 1 = .ok (.bipush 39, 2) := by decide +kernel
theorem dX1_dropOldest_3 : decode cX1_dropOldest 3 = .ok (.putfield 19, 3) := by decide +kernel
theorem dX1_dropOldest_6 : decode cX1_dropOldest 6 = .ok (.aload_n 0, 1) := by decide +kernel
theorem dX1_dropOldest_7 : decode cX1_dropOldest 7 = .ok (.getfield 9, 3) := by decide +kernel
theorem dX1_dropOldest_10 : decode cX1_dropOldest 10 = .ok (.iconst 1, 1) := by decide +kernel
theorem dX1_dropOldest_11 : decode cX1_dropOldest 11 = .ok (.aload_n 0, 1) := by decide +kernel
theorem dX1_dropOldest_12 : decode cX1_dropOldest 12 = .ok (.getfield 9, 3) := by decide +kernel
theorem dX1_dropOldest_15 : decode cX1_dropOldest 15 = .ok (.iconst 0, 1) := by decide +kernel
theorem dX1_dropOldest_16 : decode cX1_dropOldest 16 = .ok (.aload_n 0, 1) := by decide +kernel
theorem dX1_dropOldest_17 : decode cX1_dropOldest 17 = .ok (.getfield 19, 3) := by decide +kernel
theorem dX1_dropOldest_20 : decode cX1_dropOldest 20 = .ok (.invokestatic 29, 3) := by decide +kernel
theorem dX1_dropOldest_23 : decode cX1_dropOldest 23 = .ok (.aload_n 0, 1) := by decide +kernel
theorem dX1_dropOldest_24 : decode cX1_dropOldest 24 = .ok (.getfield 13, 3) := by decide +kernel
theorem dX1_dropOldest_27 : decode cX1_dropOldest 27 = .ok (.iconst 1, 1) := by decide +kernel
theorem dX1_dropOldest_28 : decode cX1_dropOldest 28 = .ok (.aload_n 0, 1) := by decide +kernel
theorem dX1_dropOldest_29 : decode cX1_dropOldest 29 = .ok (.getfield 13, 3) := by decide +kernel
theorem dX1_dropOldest_32 : decode cX1_dropOldest 32 = .ok (.iconst 0, 1) := by decide +kernel
theorem dX1_dropOldest_33 : decode cX1_dropOldest 33 = .ok (.aload_n 0, 1) := by decide +kernel
theorem dX1_dropOldest_34 : decode cX1_dropOldest 34 = .ok (.getfield 19, 3) := by decide +kernel
theorem dX1_dropOldest_37 : decode cX1_dropOldest 37 = .ok (.invokestatic 29, 3) := by decide +kernel
theorem dX1_dropOldest_40 : decode cX1_dropOldest 40 = .ok (.aload_n 0, 1) := by decide +kernel
theorem dX1_dropOldest_41 : decode cX1_dropOldest 41 = .ok (.getfield 16, 3) := by decide +kernel
theorem dX1_dropOldest_44 : decode cX1_dropOldest 44 = .ok (.iconst 1, 1) := by decide +kernel
theorem dX1_dropOldest_45 : decode cX1_dropOldest 45 = .ok (.aload_n 0, 1) := by decide +kernel
theorem dX1_dropOldest_46 : decode cX1_dropOldest 46 = .ok (.getfield 16, 3) := by decide +kernel
theorem dX1_dropOldest_49 : decode cX1_dropOldest 49 = .ok (.iconst 0, 1) := by decide +kernel
theorem dX1_dropOldest_50 : decode cX1_dropOldest 50 = .ok (.aload_n 0, 1) := by decide +kernel
theorem dX1_dropOldest_51 : decode cX1_dropOldest 51 = .ok (.getfield 19, 3) := by decide +kernel
theorem dX1_dropOldest_54 : decode cX1_dropOldest 54 = .ok (.invokestatic 29, 3) := by decide +kernel
theorem dX1_dropOldest_57 : decode cX1_dropOldest 57 = .ok (.return_, 1) := by decide +kernel
theorem dX1_takeBack_0 : decode cX1_takeBack 0 = .ok (.aload_n 0, 1) := by decide +kernel
theorem dX1_takeBack_1 : decode cX1_takeBack 1 = .ok (.getfield 19, 3) := by decide +kernel
theorem dX1_takeBack_4 : decode cX1_takeBack 4 = .ok (.ifCond .gt 5, 3) := by decide +kernel
theorem dX1_takeBack_7 : decode cX1_takeBack 7 = .ok (.iconst 0, 1) := by decide +kernel
theorem dX1_takeBack_8 : decode cX1_takeBack 8 = .ok (.ireturn, 1) := by decide +kernel
theorem dX1_takeBack_9 : decode cX1_takeBack 9 = .ok (.aload_n 0, 1) := by decide +kernel
theorem dX1_takeBack_10 : decode cX1_takeBack 10 = .ok (.dup, 1) := by decide +kernel
theorem dX1_takeBack_11 : decode cX1_takeBack 11 = .ok (.getfield 19, 3) := by decide +kernel
theorem dX1_takeBack_14 : decode cX1_takeBack 14 = .ok (.iconst 1, 1) := by decide +kernel
theorem dX1_takeBack_15 : decode cX1_takeBack 15 = .ok (.isub, 1) := by decide +kernel
theorem dX1_takeBack_16 : decode cX1_takeBack 16 = .ok (.putfield 19, 3) := by decide +kernel
theorem dX1_takeBack_19 : decode cX1_takeBack 19 = .ok (.aload_n 1, 1) := by decide +kernel
theorem dX1_takeBack_20 : decode cX1_takeBack 20 = .ok (.aload_n 0, 1) := by decide +kernel
theorem dX1_takeBack_21 : decode cX1_takeBack 21 = .ok (.getfield 9, 3) := by decide +kernel
theorem dX1_takeBack_24 : decode cX1_takeBack 24 = .ok (.aload_n 0, 1) := by decide +kernel
theorem dX1_takeBack_25 : decode cX1_takeBack 25 = .ok (.getfield 19, 3) := by decide +kernel
theorem dX1_takeBack_28 : decode cX1_takeBack 28 = .ok (.iaload, 1) := by decide +kernel
theorem dX1_takeBack_29 : decode cX1_takeBack 29 = .ok (.aload_n 0, 1) := by decide +kernel
theorem dX1_takeBack_30 : decode cX1_takeBack 30 = .ok (.getfield 13, 3) := by decide +kernel
theorem dX1_takeBack_33 : decode cX1_takeBack 33 = .ok (.aload_n 0, 1) := by decide +kernel
theorem dX1_takeBack_34 : decode cX1_takeBack 34 = .ok (.getfield 19, 3) := by decide +kernel
theorem dX1_takeBack_37 : decode cX1_takeBack 37 = .ok (.iaload, 1) := by decide +kernel
theorem dX1_takeBack_38 : decode cX1_takeBack 38 = .ok (.invokevirtual 35, 3) := by decide +kernel
theorem dX1_takeBack_41 : decode cX1_takeBack 41 = .ok (.iconst 1, 1) := by decide +kernel
theorem dX1_takeBack_42 : decode cX1_takeBack 42 = .ok (.ireturn, 1) := by decide +kernel
theorem dX1_bringBack_0 : decode cX1_bringBack 0 = .ok (.aload_n 0, 1) := by decide +kernel
theorem dX1_bringBack_1 : decode cX1_bringBack 1 = .ok (.getfield 19, 3) := by decide +kernel
theorem dX1_bringBack_4 : decode cX1_bringBack 4 = .ok (.aload_n 0, 1) := by decide +kernel
theorem dX1_bringBack_5 : decode cX1_bringBack 5 = .ok (.getfield 26, 3) := by decide +kernel
theorem dX1_bringBack_8 : decode cX1_bringBack 8 = .ok (.if_icmp .lt 5, 3) := by decide +kernel
theorem dX1_bringBack_11 : decode cX1_bringBack 11 = .ok (.iconst 0, 1) := by decide +kernel
theorem dX1_bringBack_12 : decode cX1_bringBack 12 = .ok (.ireturn, 1) := by decide +kernel
theorem dX1_bringBack_13 : decode cX1_bringBack 13 = .ok (.aload_n 1, 1) := by decide +kernel
theorem dX1_bringBack_14 : decode cX1_bringBack 14 = .ok (.aload_n 0, 1) := by decide +kernel
theorem dX1_bringBack_15 : decode cX1_bringBack 15 = .ok (.getfield 9, 3) := by decide +kernel
theorem dX1_bringBack_18 : decode cX1_bringBack 18 = .ok (.aload_n 0, 1) := by decide +kernel
theorem dX1_bringBack_19 : decode cX1_bringBack 19 = .ok (.getfield 19, 3) := by decide +kernel
theorem dX1_bringBack_22 : decode cX1_bringBack 22 = .ok (.iaload, 1) := by decide +kernel
theorem dX1_bringBack_23 : decode cX1_bringBack 23 = .ok (.aload_n 0, 1) := by decide +kernel
theorem dX1_bringBack_24 : decode cX1_bringBack 24 = .ok (.getfield 16, 3) := by decide +kernel
theorem dX1_bringBack_27 : decode cX1_bringBack 27 = .ok (.aload_n 0, 1) := by decide +kernel
theorem dX1_bringBack_28 : decode cX1_bringBack 28 = .ok (.getfield 19, 3) := by decide +kernel
theorem dX1_bringBack_31 : decode cX1_bringBack 31 = .ok (.iaload, 1) := by decide +kernel
theorem dX1_bringBack_32 : decode cX1_bringBack 32 = .ok (.invokevirtual 35, 3) := by decide +kernel
theorem dX1_bringBack_35 : decode cX1_bringBack 35 = .ok (.aload_n 0, 1) := by decide +kernel
theorem dX1_bringBack_36 : decode cX1_bringBack 36 = .ok (.dup, 1) := by decide +kernel
theorem dX1_bringBack_37 : decode cX1_bringBack 37 = .ok (.getfield 19, 3) := by decide +kernel
theorem dX1_bringBack_40 : decode cX1_bringBack 40 = .ok (.iconst 1, 1) := by decide +kernel
theorem dX1_bringBack_41 : decode cX1_bringBack 41 = .ok (.iadd, 1) := by decide +kernel
theorem dX1_bringBack_42 : decode cX1_bringBack 42 = .ok (.putfield 19, 3) := by decide +kernel
theorem dX1_bringBack_45 : decode cX1_bringBack 45 = .ok (.iconst 1, 1) := by decide +kernel
theorem dX1_bringBack_46 : decode cX1_bringBack 46 = .ok (.ireturn, 1) := by decide +kernel
theorem dX2_init_0 : decode cX2_init 0 = .ok (.aload_n 0, 1) := by decide +kernel
theorem dX2_init_1 : decode cX2_init 1 = .ok (.invokespecial 3, 3) := by decide +kernel
theorem dX2_init_4 : decode cX2_init 4 = .ok (.aload_n 0, 1) := by decide +kernel
theorem dX2_init_5 : decode cX2_init 5 = .ok (.bipush 120, 2) := by decide +kernel
theorem dX2_init_7 : decode cX2_init 7 = .ok (.newarray .int, 2) := by decide +kernel
theorem dX2_init_9 : decode cX2_init 9 = .ok (.putfield 11, 3) := by decide +kernel
theorem dX2_init_12 : decode cX2_init 12 = .ok (.aload_n 0, 1) := by decide +kernel
theorem dX2_init_13 : decode cX2_init 13 = .ok (.bipush 121, 2) := by decide +kernel
theorem dX2_init_15 : decode cX2_init 15 = .ok (.newarray .int, 2) := by decide +kernel
theorem dX2_init_17 : decode cX2_init 17 = .ok (.putfield 15, 3) := by decide +kernel
theorem dX2_init_20 : decode cX2_init 20 = .ok (.aload_n 0, 1) := by decide +kernel
theorem dX2_init_21 : decode cX2_init 21 = .ok (.bipush 121, 2) := by decide +kernel
theorem dX2_init_23 : decode cX2_init 23 = .ok (.newarray .int, 2) := by decide +kernel
theorem dX2_init_25 : decode cX2_init 25 = .ok (.putfield 18, 3) := by decide +kernel
theorem dX2_init_28 : decode cX2_init 28 = .ok (.aload_n 0, 1) := by decide +kernel
theorem dX2_init_29 : decode cX2_init 29 = .ok (.bipush 121, 2) := by decide +kernel
theorem dX2_init_31 : decode cX2_init 31 = .ok (.newarray .int, 2) := by decide +kernel
theorem dX2_init_33 : decode cX2_init 33 = .ok (.putfield 21, 3) := by decide +kernel
theorem dX2_init_36 : decode cX2_init 36 = .ok (.return_, 1) := by decide +kernel
theorem dX2_take_0 : decode cX2_take 0 = .ok (.aload_n 0, 1) := by decide +kernel
theorem dX2_take_1 : decode cX2_take 1 = .ok (.getfield 24, 3) := by decide +kernel
theorem dX2_take_4 : decode cX2_take 4 = .ok (.bipush 120, 2) := by decide +kernel
theorem dX2_take_6 : decode cX2_take 6 = .ok (.if_icmp .lt 5, 3) := by decide +kernel
theorem dX2_take_9 : decode cX2_take 9 = .ok (.iconst 0, 1) := by decide +kernel
theorem dX2_take_10 : decode cX2_take 10 = .ok (.ireturn, 1) := by decide +kernel
theorem dX2_take_11 : decode cX2_take 11 = .ok (.aload_n 0, 1) := by decide +kernel
theorem dX2_take_12 : decode cX2_take 12 = .ok (.getfield 11, 3) := by decide +kernel
theorem dX2_take_15 : decode cX2_take 15 = .ok (.aload_n 0, 1) := by decide +kernel
theorem dX2_take_16 : decode cX2_take 16 = .ok (.getfield 24, 3) := by decide +kernel
theorem dX2_take_19 : decode cX2_take 19 = .ok (.iload_n 1, 1) := by decide +kernel
theorem dX2_take_20 : decode cX2_take 20 = .ok (.iastore, 1) := by decide +kernel
theorem dX2_take_21 : decode cX2_take 21 = .ok (.aload_n 0, 1) := by decide +kernel
theorem dX2_take_22 : decode cX2_take 22 = .ok (.dup, 1) := by decide +kernel
theorem dX2_take_23 : decode cX2_take 23 = .ok (.getfield 24, 3) := by decide +kernel
theorem dX2_take_26 : decode cX2_take 26 = .ok (.iconst 1, 1) := by decide +kernel
theorem dX2_take_27 : decode cX2_take 27 = .ok (.iadd, 1) := by decide +kernel
theorem dX2_take_28 : decode cX2_take 28 = .ok (.putfield 24, 3) := by decide +kernel
theorem dX2_take_31 : decode cX2_take 31 = .ok (.iconst 1, 1) := by decide +kernel
theorem dX2_take_32 : decode cX2_take 32 = .ok (.ireturn, 1) := by decide +kernel
theorem dX2_become_0 : decode cX2_become 0 = .ok (.aload_n 0, 1) := by decide +kernel
theorem dX2_become_1 : decode cX2_become 1 = .ok (.iconst 0, 1) := by decide +kernel
theorem dX2_become_2 : decode cX2_become 2 = .ok (.putfield 28, 3) := by decide +kernel
theorem dX2_become_5 : decode cX2_become 5 = .ok (.aload_n 0, 1) := by decide +kernel
theorem dX2_become_6 : decode cX2_become 6 = .ok (.iconst 0, 1) := by decide +kernel
theorem dX2_become_7 : decode cX2_become 7 = .ok (.putfield 31, 3) := by decide +kernel
theorem dX2_become_10 : decode cX2_become 10 = .ok (.aload_n 0, 1) := by decide +kernel
theorem dX2_become_11 : decode cX2_become 11 = .ok (.iconst (-1), 1) := by decide +kernel
theorem dX2_become_12 : decode cX2_become 12 = .ok (.putfield 34, 3) := by decide +kernel
theorem dX2_become_15 : decode cX2_become 15 = .ok (.aload_n 0, 1) := by decide +kernel
theorem dX2_become_16 : decode cX2_become 16 = .ok (.invokevirtual 37, 3) := by decide +kernel
theorem dX2_become_19 : decode cX2_become 19 = .ok (.aload_n 0, 1) := by decide +kernel
theorem dX2_become_20 : decode cX2_become 20 = .ok (.getfield 34, 3) := by decide +kernel
theorem dX2_become_23 : decode cX2_become 23 = .ok (.iconst (-1), 1) := by decide +kernel
theorem dX2_become_24 : decode cX2_become 24 = .ok (.if_icmp .ne 28, 3) := by decide +kernel
theorem dX2_become_27 : decode cX2_become 27 = .ok (.aload_n 0, 1) := by decide +kernel
theorem dX2_become_28 : decode cX2_become 28 = .ok (.getfield 15, 3) := by decide +kernel
theorem dX2_become_31 : decode cX2_become 31 = .ok (.iconst 0, 1) := by decide +kernel
theorem dX2_become_32 : decode cX2_become 32 = .ok (.aload_n 0, 1) := by decide +kernel
theorem dX2_become_33 : decode cX2_become 33 = .ok (.getfield 18, 3) := by decide +kernel
theorem dX2_become_36 : decode cX2_become 36 = .ok (.iconst 0, 1) := by decide +kernel
theorem dX2_become_37 : decode cX2_become 37 = .ok (.aload_n 0, 1) := by decide +kernel
theorem dX2_become_38 : decode cX2_become 38 = .ok (.getfield 28, 3) := by decide +kernel
theorem dX2_become_41 : decode cX2_become 41 = .ok (.invokestatic 40, 3) := by decide +kernel
theorem dX2_become_44 : decode cX2_become 44 = .ok (.aload_n 0, 1) := by decide +kernel
theorem dX2_become_45 : decode cX2_become 45 = .ok (.aload_n 0, 1) := by decide +kernel
theorem dX2_become_46 : decode cX2_become 46 = .ok (.getfield 28, 3) := by decide +kernel
theorem dX2_become_49 : decode cX2_become 49 = .ok (.putfield 46, 3) := by decide +kernel
theorem dX2_become_52 : decode cX2_become 52 = .ok (.aload_n 0, 1) := by decide +kernel
theorem dX2_become_53 : decode cX2_become 53 = .ok (.iconst 0, 1) := by decide +kernel
theorem dX2_become_54 : decode cX2_become 54 = .ok (.putfield 24, 3) := by decide +kernel
theorem dX2_become_57 : decode cX2_become 57 = .ok (.aload_n 0, 1) := by decide +kernel
theorem dX2_become_58 : decode cX2_become 58 = .ok (.getfield 34, 3) := by decide +kernel
theorem dX2_become_61 : decode cX2_become 61 = .ok (.ireturn, 1) := by decide +kernel
theorem dX2_sign_0 : decode cX2_sign 0 = .ok (.aload_n 0, 1) := by decide +kernel
theorem dX2_sign_1 : decode cX2_sign 1 = .ok (.getfield 34, 3) := by decide +kernel
theorem dX2_sign_4 : decode cX2_sign 4 = .ok (.iconst (-1), 1) := by decide +kernel
theorem dX2_sign_5 : decode cX2_sign 5 = .ok (.if_icmp .ne 26, 3) := by decide +kernel
theorem dX2_sign_8 : decode cX2_sign 8 = .ok (.aload_n 0, 1) := by decide +kernel
theorem dX2_sign_9 : decode cX2_sign 9 = .ok (.getfield 31, 3) := by decide +kernel
theorem dX2_sign_12 : decode cX2_sign 12 = .ok (.aload_n 0, 1) := by decide +kernel
theorem dX2_sign_13 : decode cX2_sign 13 = .ok (.getfield 24, 3) := by decide +kernel
theorem dX2_sign_16 : decode cX2_sign 16 = .ok (.if_icmp .ge 15, 3) := by decide +kernel
theorem dX2_sign_19 : decode cX2_sign 19 = .ok (.aload_n 0, 1) := by decide +kernel
theorem dX2_sign_20 : decode cX2_sign 20 = .ok (.getfield 11, 3) := by decide +kernel
theorem dX2_sign_23 : decode cX2_sign 23 = .ok (.aload_n 0, 1) := by decide +kernel
theorem dX2_sign_24 : decode cX2_sign 24 = .ok (.getfield 31, 3) := by decide +kernel
theorem dX2_sign_27 : decode cX2_sign 27 = .ok (.iaload, 1) := by decide +kernel
theorem dX2_sign_28 : decode cX2_sign 28 = .ok (.goto 4, 3) := by decide +kernel
theorem dX2_sign_31 : decode cX2_sign 31 = .ok (.iconst (-1), 1) := by decide +kernel
theorem dX2_sign_32 : decode cX2_sign 32 = .ok (.ireturn, 1) := by decide +kernel
theorem dX2_pass_0 : decode cX2_pass 0 = .ok (.aload_n 0, 1) := by decide +kernel
theorem dX2_pass_1 : decode cX2_pass 1 = .ok (.invokevirtual 49, 3) := by decide +kernel
theorem dX2_pass_4 : decode cX2_pass 4 = .ok (.iload_n 1, 1) := by decide +kernel
theorem dX2_pass_5 : decode cX2_pass 5 = .ok (.if_icmp .eq 5, 3) := by decide +kernel
theorem dX2_pass_8 : decode cX2_pass 8 = .ok (.iconst 0, 1) := by decide +kernel
theorem dX2_pass_9 : decode cX2_pass 9 = .ok (.ireturn, 1) := by decide +kernel
theorem dX2_pass_10 : decode cX2_pass 10 = .ok (.aload_n 0, 1) := by decide +kernel
theorem dX2_pass_11 : decode cX2_pass 11 = .ok (.dup, 1) := by decide +kernel
theorem dX2_pass_12 : decode cX2_pass 12 = .ok (.getfield 31, 3) := by decide +kernel
theorem dX2_pass_15 : decode cX2_pass 15 = .ok (.iconst 1, 1) := by decide +kernel
theorem dX2_pass_16 : decode cX2_pass 16 = .ok (.iadd, 1) := by decide +kernel
theorem dX2_pass_17 : decode cX2_pass 17 = .ok (.putfield 31, 3) := by decide +kernel
theorem dX2_pass_20 : decode cX2_pass 20 = .ok (.iconst 1, 1) := by decide +kernel
theorem dX2_pass_21 : decode cX2_pass 21 = .ok (.ireturn, 1) := by decide +kernel
theorem dX2_refuse_0 : decode cX2_refuse 0 = .ok (.aload_n 0, 1) := by decide +kernel
theorem dX2_refuse_1 : decode cX2_refuse 1 = .ok (.getfield 34, 3) := by decide +kernel
theorem dX2_refuse_4 : decode cX2_refuse 4 = .ok (.iconst (-1), 1) := by decide +kernel
theorem dX2_refuse_5 : decode cX2_refuse 5 = .ok (.if_icmp .ne 11, 3) := by decide +kernel
theorem dX2_refuse_8 : decode cX2_refuse 8 = .ok (.aload_n 0, 1) := by decide +kernel
theorem dX2_refuse_9 : decode cX2_refuse 9 = .ok (.aload_n 0, 1) := by decide +kernel
theorem dX2_refuse_10 : decode cX2_refuse 10 = .ok (.getfield 31, 3) := by decide +kernel
theorem dX2_refuse_13 : decode cX2_refuse 13 = .ok (.putfield 34, 3) := by decide +kernel
theorem dX2_refuse_16 : decode cX2_refuse 16 = .ok (.return_, 1) := by decide +kernel
theorem dX2_write_0 : decode cX2_write 0 = .ok (.aload_n 0, 1) := by decide +kernel
theorem dX2_write_1 : decode cX2_write 1 = .ok (.getfield 28, 3) := by decide +kernel
theorem dX2_write_4 : decode cX2_write 4 = .ok (.aload_n 0, 1) := by decide +kernel
theorem dX2_write_5 : decode cX2_write 5 = .ok (.getfield 15, 3) := by decide +kernel
theorem dX2_write_8 : decode cX2_write 8 = .ok (.arraylength, 1) := by decide +kernel
theorem dX2_write_9 : decode cX2_write 9 = .ok (.if_icmp .ge 23, 3) := by decide +kernel
theorem dX2_write_12 : decode cX2_write 12 = .ok (.aload_n 0, 1) := by decide +kernel
theorem dX2_write_13 : decode cX2_write 13 = .ok (.getfield 15, 3) := by decide +kernel
theorem dX2_write_16 : decode cX2_write 16 = .ok (.aload_n 0, 1) := by decide +kernel
theorem dX2_write_17 : decode cX2_write 17 = .ok (.getfield 28, 3) := by decide +kernel
theorem dX2_write_20 : decode cX2_write 20 = .ok (.iload_n 1, 1) := by decide +kernel
theorem dX2_write_21 : decode cX2_write 21 = .ok (.iastore, 1) := by decide +kernel
theorem dX2_write_22 : decode cX2_write 22 = .ok (.aload_n 0, 1) := by decide +kernel
theorem dX2_write_23 : decode cX2_write 23 = .ok (.dup, 1) := by decide +kernel
theorem dX2_write_24 : decode cX2_write 24 = .ok (.getfield 28, 3) := by decide +kernel
theorem dX2_write_27 : decode cX2_write 27 = .ok (.iconst 1, 1) := by decide +kernel
theorem dX2_write_28 : decode cX2_write 28 = .ok (.iadd, 1) := by decide +kernel
theorem dX2_write_29 : decode cX2_write 29 = .ok (.putfield 28, 3) := by decide +kernel
theorem dX2_write_32 : decode cX2_write 32 = .ok (.return_, 1) := by decide +kernel
theorem dX2_readLines_0 : decode cX2_readLines 0 = .ok (.iconst 0, 1) := by decide +kernel
theorem dX2_readLines_1 : decode cX2_readLines 1 = .ok (.istore_n 1, 1) := by decide +kernel
theorem dX2_readLines_2 : decode cX2_readLines 2 = .ok (.iload_n 1, 1) := by decide +kernel
theorem dX2_readLines_3 : decode cX2_readLines 3 = .ok (.bipush 120, 2) := by decide +kernel
theorem dX2_readLines_5 : decode cX2_readLines 5 = .ok (.if_icmp .gt 52, 3) := by decide +kernel
theorem dX2_readLines_8 : decode cX2_readLines 8 = .ok (.aload_n 0, 1) := by decide +kernel
theorem dX2_readLines_9 : decode cX2_readLines 9 = .ok (.iconst 0, 1) := by decide +kernel
theorem dX2_readLines_10 : decode cX2_readLines 10 = .ok (.invokevirtual 53, 3) := by decide +kernel
theorem dX2_readLines_13 : decode cX2_readLines 13 = .ok (.aload_n 0, 1) := by decide +kernel
theorem dX2_readLines_14 : decode cX2_readLines 14 = .ok (.bipush 63, 2) := by decide +kernel
theorem dX2_readLines_16 : decode cX2_readLines 16 = .ok (.invokevirtual 57, 3) := by decide +kernel
theorem dX2_readLines_19 : decode cX2_readLines 19 = .ok (.ifCond .eq 14, 3) := by decide +kernel
theorem dX2_readLines_22 : decode cX2_readLines 22 = .ok (.aload_n 0, 1) := by decide +kernel
theorem dX2_readLines_23 : decode cX2_readLines 23 = .ok (.bipush (-63), 2) := by decide +kernel
theorem dX2_readLines_25 : decode cX2_readLines 25 = .ok (.invokevirtual 61, 3) := by decide +kernel
theorem dX2_readLines_28 : decode cX2_readLines 28 = .ok (.aload_n 0, 1) := by decide +kernel
theorem dX2_readLines_29 : decode cX2_readLines 29 = .ok (.iconst 0, 1) := by decide +kernel
theorem dX2_readLines_30 : decode cX2_readLines 30 = .ok (.invokevirtual 53, 3) := by decide +kernel
theorem dX2_readLines_33 : decode cX2_readLines 33 = .ok (.aload_n 0, 1) := by decide +kernel
theorem dX2_readLines_34 : decode cX2_readLines 34 = .ok (.bipush (-59), 2) := by decide +kernel
theorem dX2_readLines_36 : decode cX2_readLines 36 = .ok (.invokevirtual 61, 3) := by decide +kernel
theorem dX2_readLines_39 : decode cX2_readLines 39 = .ok (.aload_n 0, 1) := by decide +kernel
theorem dX2_readLines_40 : decode cX2_readLines 40 = .ok (.bipush 59, 2) := by decide +kernel
theorem dX2_readLines_42 : decode cX2_readLines 42 = .ok (.invokevirtual 57, 3) := by decide +kernel
theorem dX2_readLines_45 : decode cX2_readLines 45 = .ok (.ifCond .ne 6, 3) := by decide +kernel
theorem dX2_readLines_48 : decode cX2_readLines 48 = .ok (.goto 9, 3) := by decide +kernel
theorem dX2_readLines_51 : decode cX2_readLines 51 = .ok (.iinc 1 1, 3) := by decide +kernel
theorem dX2_readLines_54 : decode cX2_readLines 54 = .ok (.goto (-52), 3) := by decide +kernel
theorem dX2_readLines_57 : decode cX2_readLines 57 = .ok (.aload_n 0, 1) := by decide +kernel
theorem dX2_readLines_58 : decode cX2_readLines 58 = .ok (.getfield 31, 3) := by decide +kernel
theorem dX2_readLines_61 : decode cX2_readLines 61 = .ok (.aload_n 0, 1) := by decide +kernel
theorem dX2_readLines_62 : decode cX2_readLines 62 = .ok (.getfield 24, 3) := by decide +kernel
theorem dX2_readLines_65 : decode cX2_readLines 65 = .ok (.if_icmp .ge 7, 3) := by decide +kernel
theorem dX2_readLines_68 : decode cX2_readLines 68 = .ok (.aload_n 0, 1) := by decide +kernel
theorem dX2_readLines_69 : decode cX2_readLines 69 = .ok (.invokevirtual 64, 3) := by decide +kernel
theorem dX2_readLines_72 : decode cX2_readLines 72 = .ok (.return_, 1) := by decide +kernel
theorem dX2_readOr_0 : decode cX2_readOr 0 = .ok (.aload_n 0, 1) := by decide +kernel
theorem dX2_readOr_1 : decode cX2_readOr 1 = .ok (.iload_n 1, 1) := by decide +kernel
theorem dX2_readOr_2 : decode cX2_readOr 2 = .ok (.invokevirtual 67, 3) := by decide +kernel
theorem dX2_readOr_5 : decode cX2_readOr 5 = .ok (.iconst 0, 1) := by decide +kernel
theorem dX2_readOr_6 : decode cX2_readOr 6 = .ok (.istore_n 2, 1) := by decide +kernel
theorem dX2_readOr_7 : decode cX2_readOr 7 = .ok (.iload_n 2, 1) := by decide +kernel
theorem dX2_readOr_8 : decode cX2_readOr 8 = .ok (.bipush 120, 2) := by decide +kernel
theorem dX2_readOr_10 : decode cX2_readOr 10 = .ok (.if_icmp .ge 29, 3) := by decide +kernel
theorem dX2_readOr_13 : decode cX2_readOr 13 = .ok (.aload_n 0, 1) := by decide +kernel
theorem dX2_readOr_14 : decode cX2_readOr 14 = .ok (.bipush 124, 2) := by decide +kernel
theorem dX2_readOr_16 : decode cX2_readOr 16 = .ok (.invokevirtual 57, 3) := by decide +kernel
theorem dX2_readOr_19 : decode cX2_readOr 19 = .ok (.ifCond .eq 20, 3) := by decide +kernel
theorem dX2_readOr_22 : decode cX2_readOr 22 = .ok (.aload_n 0, 1) := by decide +kernel
theorem dX2_readOr_23 : decode cX2_readOr 23 = .ok (.iload_n 1, 1) := by decide +kernel
theorem dX2_readOr_24 : decode cX2_readOr 24 = .ok (.invokevirtual 67, 3) := by decide +kernel
theorem dX2_readOr_27 : decode cX2_readOr 27 = .ok (.aload_n 0, 1) := by decide +kernel
theorem dX2_readOr_28 : decode cX2_readOr 28 = .ok (.bipush (-124), 2) := by decide +kernel
theorem dX2_readOr_30 : decode cX2_readOr 30 = .ok (.invokevirtual 61, 3) := by decide +kernel
theorem dX2_readOr_33 : decode cX2_readOr 33 = .ok (.iinc 2 1, 3) := by decide +kernel
theorem dX2_readOr_36 : decode cX2_readOr 36 = .ok (.goto (-29), 3) := by decide +kernel
theorem dX2_readOr_39 : decode cX2_readOr 39 = .ok (.return_, 1) := by decide +kernel
theorem dX2_readAnd_0 : decode cX2_readAnd 0 = .ok (.aload_n 0, 1) := by decide +kernel
theorem dX2_readAnd_1 : decode cX2_readAnd 1 = .ok (.iload_n 1, 1) := by decide +kernel
theorem dX2_readAnd_2 : decode cX2_readAnd 2 = .ok (.invokevirtual 70, 3) := by decide +kernel
theorem dX2_readAnd_5 : decode cX2_readAnd 5 = .ok (.iconst 0, 1) := by decide +kernel
theorem dX2_readAnd_6 : decode cX2_readAnd 6 = .ok (.istore_n 2, 1) := by decide +kernel
theorem dX2_readAnd_7 : decode cX2_readAnd 7 = .ok (.iload_n 2, 1) := by decide +kernel
theorem dX2_readAnd_8 : decode cX2_readAnd 8 = .ok (.bipush 120, 2) := by decide +kernel
theorem dX2_readAnd_10 : decode cX2_readAnd 10 = .ok (.if_icmp .ge 29, 3) := by decide +kernel
theorem dX2_readAnd_13 : decode cX2_readAnd 13 = .ok (.aload_n 0, 1) := by decide +kernel
theorem dX2_readAnd_14 : decode cX2_readAnd 14 = .ok (.bipush 38, 2) := by decide +kernel
theorem dX2_readAnd_16 : decode cX2_readAnd 16 = .ok (.invokevirtual 57, 3) := by decide +kernel
theorem dX2_readAnd_19 : decode cX2_readAnd 19 = .ok (.ifCond .eq 20, 3) := by decide +kernel
theorem dX2_readAnd_22 : decode cX2_readAnd 22 = .ok (.aload_n 0, 1) := by decide +kernel
theorem dX2_readAnd_23 : decode cX2_readAnd 23 = .ok (.iload_n 1, 1) := by decide +kernel
theorem dX2_readAnd_24 : decode cX2_readAnd 24 = .ok (.invokevirtual 70, 3) := by decide +kernel
theorem dX2_readAnd_27 : decode cX2_readAnd 27 = .ok (.aload_n 0, 1) := by decide +kernel
theorem dX2_readAnd_28 : decode cX2_readAnd 28 = .ok (.bipush (-38), 2) := by decide +kernel
theorem dX2_readAnd_30 : decode cX2_readAnd 30 = .ok (.invokevirtual 61, 3) := by decide +kernel
theorem dX2_readAnd_33 : decode cX2_readAnd 33 = .ok (.iinc 2 1, 3) := by decide +kernel
theorem dX2_readAnd_36 : decode cX2_readAnd 36 = .ok (.goto (-29), 3) := by decide +kernel
theorem dX2_readAnd_39 : decode cX2_readAnd 39 = .ok (.return_, 1) := by decide +kernel
theorem dX2_readCompared_0 : decode cX2_readCompared 0 = .ok (.aload_n 0, 1) := by decide +kernel
theorem dX2_readCompared_1 : decode cX2_readCompared 1 = .ok (.iload_n 1, 1) := by decide +kernel
theorem dX2_readCompared_2 : decode cX2_readCompared 2 = .ok (.invokevirtual 73, 3) := by decide +kernel
theorem dX2_readCompared_5 : decode cX2_readCompared 5 = .ok (.aload_n 0, 1) := by decide +kernel
theorem dX2_readCompared_6 : decode cX2_readCompared 6 = .ok (.invokevirtual 49, 3) := by decide +kernel
theorem dX2_readCompared_9 : decode cX2_readCompared 9 = .ok (.istore_n 2, 1) := by decide +kernel
theorem dX2_readCompared_10 : decode cX2_readCompared 10 = .ok (.iload_n 2, 1) := by decide +kernel
theorem dX2_readCompared_11 : decode cX2_readCompared 11 = .ok (.bipush 60, 2) := by decide +kernel
theorem dX2_readCompared_13 : decode cX2_readCompared 13 = .ok (.if_icmp .eq 15, 3) := by decide +kernel
theorem dX2_readCompared_16 : decode cX2_readCompared 16 = .ok (.iload_n 2, 1) := by decide +kernel
theorem dX2_readCompared_17 : decode cX2_readCompared 17 = .ok (.bipush 61, 2) := by decide +kernel
theorem dX2_readCompared_19 : decode cX2_readCompared 19 = .ok (.if_icmp .eq 9, 3) := by decide +kernel
theorem dX2_readCompared_22 : decode cX2_readCompared 22 = .ok (.iload_n 2, 1) := by decide +kernel
theorem dX2_readCompared_23 : decode cX2_readCompared 23 = .ok (.bipush 62, 2) := by decide +kernel
theorem dX2_readCompared_25 : decode cX2_readCompared 25 = .ok (.if_icmp .ne 24, 3) := by decide +kernel
theorem dX2_readCompared_28 : decode cX2_readCompared 28 = .ok (.aload_n 0, 1) := by decide +kernel
theorem dX2_readCompared_29 : decode cX2_readCompared 29 = .ok (.dup, 1) := by decide +kernel
theorem dX2_readCompared_30 : decode cX2_readCompared 30 = .ok (.getfield 31, 3) := by decide +kernel
theorem dX2_readCompared_33 : decode cX2_readCompared 33 = .ok (.iconst 1, 1) := by decide +kernel
theorem dX2_readCompared_34 : decode cX2_readCompared 34 = .ok (.iadd, 1) := by decide +kernel
theorem dX2_readCompared_35 : decode cX2_readCompared 35 = .ok (.putfield 31, 3) := by decide +kernel
theorem dX2_readCompared_38 : decode cX2_readCompared 38 = .ok (.aload_n 0, 1) := by decide +kernel
theorem dX2_readCompared_39 : decode cX2_readCompared 39 = .ok (.iload_n 1, 1) := by decide +kernel
theorem dX2_readCompared_40 : decode cX2_readCompared 40 = .ok (.invokevirtual 73, 3) := by decide +kernel
theorem dX2_readCompared_43 : decode cX2_readCompared 43 = .ok (.aload_n 0, 1) := by decide +kernel
theorem dX2_readCompared_44 : decode cX2_readCompared 44 = .ok (.iload_n 2, 1) := by decide +kernel
theorem dX2_readCompared_45 : decode cX2_readCompared 45 = .ok (.ineg, 1) := by decide +kernel
theorem dX2_readCompared_46 : decode cX2_readCompared 46 = .ok (.invokevirtual 61, 3) := by decide +kernel
theorem dX2_readCompared_49 : decode cX2_readCompared 49 = .ok (.return_, 1) := by decide +kernel
theorem dX2_readSum_0 : decode cX2_readSum 0 = .ok (.aload_n 0, 1) := by decide +kernel
theorem dX2_readSum_1 : decode cX2_readSum 1 = .ok (.iload_n 1, 1) := by decide +kernel
theorem dX2_readSum_2 : decode cX2_readSum 2 = .ok (.invokevirtual 76, 3) := by decide +kernel
theorem dX2_readSum_5 : decode cX2_readSum 5 = .ok (.iconst 0, 1) := by decide +kernel
theorem dX2_readSum_6 : decode cX2_readSum 6 = .ok (.istore_n 2, 1) := by decide +kernel
theorem dX2_readSum_7 : decode cX2_readSum 7 = .ok (.iload_n 2, 1) := by decide +kernel
theorem dX2_readSum_8 : decode cX2_readSum 8 = .ok (.bipush 120, 2) := by decide +kernel
theorem dX2_readSum_10 : decode cX2_readSum 10 = .ok (.if_icmp .ge 50, 3) := by decide +kernel
theorem dX2_readSum_13 : decode cX2_readSum 13 = .ok (.aload_n 0, 1) := by decide +kernel
theorem dX2_readSum_14 : decode cX2_readSum 14 = .ok (.invokevirtual 49, 3) := by decide +kernel
theorem dX2_readSum_17 : decode cX2_readSum 17 = .ok (.istore_n 3, 1) := by decide +kernel
theorem dX2_readSum_18 : decode cX2_readSum 18 = .ok (.iload_n 3, 1) := by decide +kernel
theorem dX2_readSum_19 : decode cX2_readSum 19 = .ok (.bipush 43, 2) := by decide +kernel
theorem dX2_readSum_21 : decode cX2_readSum 21 = .ok (.if_icmp .eq 12, 3) := by decide +kernel
theorem dX2_readSum_24 : decode cX2_readSum 24 = .ok (.iload_n 3, 1) := by decide +kernel
theorem dX2_readSum_25 : decode cX2_readSum 25 = .ok (.bipush 45, 2) := by decide +kernel
theorem dX2_readSum_27 : decode cX2_readSum 27 = .ok (.if_icmp .eq 6, 3) := by decide +kernel
theorem dX2_readSum_30 : decode cX2_readSum 30 = .ok (.goto 30, 3) := by decide +kernel
theorem dX2_readSum_33 : decode cX2_readSum 33 = .ok (.aload_n 0, 1) := by decide +kernel
theorem dX2_readSum_34 : decode cX2_readSum 34 = .ok (.dup, 1) := by decide +kernel
theorem dX2_readSum_35 : decode cX2_readSum 35 = .ok (.getfield 31, 3) := by decide +kernel
theorem dX2_readSum_38 : decode cX2_readSum 38 = .ok (.iconst 1, 1) := by decide +kernel
theorem dX2_readSum_39 : decode cX2_readSum 39 = .ok (.iadd, 1) := by decide +kernel
theorem dX2_readSum_40 : decode cX2_readSum 40 = .ok (.putfield 31, 3) := by decide +kernel
theorem dX2_readSum_43 : decode cX2_readSum 43 = .ok (.aload_n 0, 1) := by decide +kernel
theorem dX2_readSum_44 : decode cX2_readSum 44 = .ok (.iload_n 1, 1) := by decide +kernel
theorem dX2_readSum_45 : decode cX2_readSum 45 = .ok (.invokevirtual 76, 3) := by decide +kernel
theorem dX2_readSum_48 : decode cX2_readSum 48 = .ok (.aload_n 0, 1) := by decide +kernel
theorem dX2_readSum_49 : decode cX2_readSum 49 = .ok (.iload_n 3, 1) := by decide +kernel
theorem dX2_readSum_50 : decode cX2_readSum 50 = .ok (.ineg, 1) := by decide +kernel
theorem dX2_readSum_51 : decode cX2_readSum 51 = .ok (.invokevirtual 61, 3) := by decide +kernel
theorem dX2_readSum_54 : decode cX2_readSum 54 = .ok (.iinc 2 1, 3) := by decide +kernel
theorem dX2_readSum_57 : decode cX2_readSum 57 = .ok (.goto (-50), 3) := by decide +kernel
theorem dX2_readSum_60 : decode cX2_readSum 60 = .ok (.return_, 1) := by decide +kernel
theorem dX2_readProduct_0 : decode cX2_readProduct 0 = .ok (.aload_n 0, 1) := by decide +kernel
theorem dX2_readProduct_1 : decode cX2_readProduct 1 = .ok (.iload_n 1, 1) := by decide +kernel
theorem dX2_readProduct_2 : decode cX2_readProduct 2 = .ok (.invokevirtual 79, 3) := by decide +kernel
theorem dX2_readProduct_5 : decode cX2_readProduct 5 = .ok (.iconst 0, 1) := by decide +kernel
theorem dX2_readProduct_6 : decode cX2_readProduct 6 = .ok (.istore_n 2, 1) := by decide +kernel
theorem dX2_readProduct_7 : decode cX2_readProduct 7 = .ok (.iload_n 2, 1) := by decide +kernel
theorem dX2_readProduct_8 : decode cX2_readProduct 8 = .ok (.bipush 120, 2) := by decide +kernel
theorem dX2_readProduct_10 : decode cX2_readProduct 10 = .ok (.if_icmp .ge 56, 3) := by decide +kernel
theorem dX2_readProduct_13 : decode cX2_readProduct 13 = .ok (.aload_n 0, 1) := by decide +kernel
theorem dX2_readProduct_14 : decode cX2_readProduct 14 = .ok (.invokevirtual 49, 3) := by decide +kernel
theorem dX2_readProduct_17 : decode cX2_readProduct 17 = .ok (.istore_n 3, 1) := by decide +kernel
theorem dX2_readProduct_18 : decode cX2_readProduct 18 = .ok (.iload_n 3, 1) := by decide +kernel
theorem dX2_readProduct_19 : decode cX2_readProduct 19 = .ok (.bipush 42, 2) := by decide +kernel
theorem dX2_readProduct_21 : decode cX2_readProduct 21 = .ok (.if_icmp .eq 18, 3) := by decide +kernel
theorem dX2_readProduct_24 : decode cX2_readProduct 24 = .ok (.iload_n 3, 1) := by decide +kernel
theorem dX2_readProduct_25 : decode cX2_readProduct 25 = .ok (.bipush 47, 2) := by decide +kernel
theorem dX2_readProduct_27 : decode cX2_readProduct 27 = .ok (.if_icmp .eq 12, 3) := by decide +kernel
theorem dX2_readProduct_30 : decode cX2_readProduct 30 = .ok (.iload_n 3, 1) := by decide +kernel
theorem dX2_readProduct_31 : decode cX2_readProduct 31 = .ok (.bipush 37, 2) := by decide +kernel
theorem dX2_readProduct_33 : decode cX2_readProduct 33 = .ok (.if_icmp .eq 6, 3) := by decide +kernel
theorem dX2_readProduct_36 : decode cX2_readProduct 36 = .ok (.goto 30, 3) := by decide +kernel
theorem dX2_readProduct_39 : decode cX2_readProduct 39 = .ok (.aload_n 0, 1) := by decide +kernel
theorem dX2_readProduct_40 : decode cX2_readProduct 40 = .ok (.dup, 1) := by decide +kernel
theorem dX2_readProduct_41 : decode cX2_readProduct 41 = .ok (.getfield 31, 3) := by decide +kernel
theorem dX2_readProduct_44 : decode cX2_readProduct 44 = .ok (.iconst 1, 1) := by decide +kernel
theorem dX2_readProduct_45 : decode cX2_readProduct 45 = .ok (.iadd, 1) := by decide +kernel
theorem dX2_readProduct_46 : decode cX2_readProduct 46 = .ok (.putfield 31, 3) := by decide +kernel
theorem dX2_readProduct_49 : decode cX2_readProduct 49 = .ok (.aload_n 0, 1) := by decide +kernel
theorem dX2_readProduct_50 : decode cX2_readProduct 50 = .ok (.iload_n 1, 1) := by decide +kernel
theorem dX2_readProduct_51 : decode cX2_readProduct 51 = .ok (.invokevirtual 79, 3) := by decide +kernel
theorem dX2_readProduct_54 : decode cX2_readProduct 54 = .ok (.aload_n 0, 1) := by decide +kernel
theorem dX2_readProduct_55 : decode cX2_readProduct 55 = .ok (.iload_n 3, 1) := by decide +kernel
theorem dX2_readProduct_56 : decode cX2_readProduct 56 = .ok (.ineg, 1) := by decide +kernel
theorem dX2_readProduct_57 : decode cX2_readProduct 57 = .ok (.invokevirtual 61, 3) := by decide +kernel
theorem dX2_readProduct_60 : decode cX2_readProduct 60 = .ok (.iinc 2 1, 3) := by decide +kernel
theorem dX2_readProduct_63 : decode cX2_readProduct 63 = .ok (.goto (-56), 3) := by decide +kernel
theorem dX2_readProduct_66 : decode cX2_readProduct 66 = .ok (.return_, 1) := by decide +kernel
theorem dX2_readOperand_0 : decode cX2_readOperand 0 = .ok (.aload_n 0, 1) := by decide +kernel
theorem dX2_readOperand_1 : decode cX2_readOperand 1 = .ok (.invokevirtual 49, 3) := by decide +kernel
theorem dX2_readOperand_4 : decode cX2_readOperand 4 = .ok (.istore_n 2, 1) := by decide +kernel
theorem dX2_readOperand_5 : decode cX2_readOperand 5 = .ok (.iload_n 2, 1) := by decide +kernel
theorem dX2_readOperand_6 : decode cX2_readOperand 6 = .ok (.invokestatic 82, 3) := by decide +kernel
theorem dX2_readOperand_9 : decode cX2_readOperand 9 = .ok (.ifCond .eq 10, 3) := by decide +kernel
theorem dX2_readOperand_12 : decode cX2_readOperand 12 = .ok (.aload_n 0, 1) := by decide +kernel
theorem dX2_readOperand_13 : decode cX2_readOperand 13 = .ok (.invokevirtual 85, 3) := by decide +kernel
theorem dX2_readOperand_16 : decode cX2_readOperand 16 = .ok (.goto 78, 3) := by decide +kernel
theorem dX2_readOperand_19 : decode cX2_readOperand 19 = .ok (.iload_n 2, 1) := by decide +kernel
theorem dX2_readOperand_20 : decode cX2_readOperand 20 = .ok (.invokestatic 88, 3) := by decide +kernel
theorem dX2_readOperand_23 : decode cX2_readOperand 23 = .ok (.ifCond .eq 22, 3) := by decide +kernel
theorem dX2_readOperand_26 : decode cX2_readOperand 26 = .ok (.aload_n 0, 1) := by decide +kernel
theorem dX2_readOperand_27 : decode cX2_readOperand 27 = .ok (.dup, 1) := by decide +kernel
theorem dX2_readOperand_28 : decode cX2_readOperand 28 = .ok (.getfield 31, 3) := by decide +kernel
theorem dX2_readOperand_31 : decode cX2_readOperand 31 = .ok (.iconst 1, 1) := by decide +kernel
theorem dX2_readOperand_32 : decode cX2_readOperand 32 = .ok (.iadd, 1) := by decide +kernel
theorem dX2_readOperand_33 : decode cX2_readOperand 33 = .ok (.putfield 31, 3) := by decide +kernel
theorem dX2_readOperand_36 : decode cX2_readOperand 36 = .ok (.aload_n 0, 1) := by decide +kernel
theorem dX2_readOperand_37 : decode cX2_readOperand 37 = .ok (.iload_n 2, 1) := by decide +kernel
theorem dX2_readOperand_38 : decode cX2_readOperand 38 = .ok (.ineg, 1) := by decide +kernel
theorem dX2_readOperand_39 : decode cX2_readOperand 39 = .ok (.invokevirtual 61, 3) := by decide +kernel
theorem dX2_readOperand_42 : decode cX2_readOperand 42 = .ok (.goto 52, 3) := by decide +kernel
theorem dX2_readOperand_45 : decode cX2_readOperand 45 = .ok (.iload_n 1, 1) := by decide +kernel
theorem dX2_readOperand_46 : decode cX2_readOperand 46 = .ok (.bipush 6, 2) := by decide +kernel
theorem dX2_readOperand_48 : decode cX2_readOperand 48 = .ok (.if_icmp .ge 42, 3) := by decide +kernel
theorem dX2_readOperand_51 : decode cX2_readOperand 51 = .ok (.iload_n 2, 1) := by decide +kernel
theorem dX2_readOperand_52 : decode cX2_readOperand 52 = .ok (.bipush 40, 2) := by decide +kernel
theorem dX2_readOperand_54 : decode cX2_readOperand 54 = .ok (.if_icmp .eq 15, 3) := by decide +kernel
theorem dX2_readOperand_57 : decode cX2_readOperand 57 = .ok (.iload_n 2, 1) := by decide +kernel
theorem dX2_readOperand_58 : decode cX2_readOperand 58 = .ok (.bipush 33, 2) := by decide +kernel
theorem dX2_readOperand_60 : decode cX2_readOperand 60 = .ok (.if_icmp .eq 9, 3) := by decide +kernel
theorem dX2_readOperand_63 : decode cX2_readOperand 63 = .ok (.iload_n 2, 1) := by decide +kernel
theorem dX2_readOperand_64 : decode cX2_readOperand 64 = .ok (.bipush 45, 2) := by decide +kernel
theorem dX2_readOperand_66 : decode cX2_readOperand 66 = .ok (.if_icmp .ne 24, 3) := by decide +kernel
theorem dX2_readOperand_69 : decode cX2_readOperand 69 = .ok (.aload_n 0, 1) := by decide +kernel
theorem dX2_readOperand_70 : decode cX2_readOperand 70 = .ok (.dup, 1) := by decide +kernel
theorem dX2_readOperand_71 : decode cX2_readOperand 71 = .ok (.getfield 31, 3) := by decide +kernel
theorem dX2_readOperand_74 : decode cX2_readOperand 74 = .ok (.iconst 1, 1) := by decide +kernel
theorem dX2_readOperand_75 : decode cX2_readOperand 75 = .ok (.iadd, 1) := by decide +kernel
theorem dX2_readOperand_76 : decode cX2_readOperand 76 = .ok (.putfield 31, 3) := by decide +kernel
theorem dX2_readOperand_79 : decode cX2_readOperand 79 = .ok (.aload_n 0, 1) := by decide +kernel
theorem dX2_readOperand_80 : decode cX2_readOperand 80 = .ok (.iload_n 2, 1) := by decide +kernel
theorem dX2_readOperand_81 : decode cX2_readOperand 81 = .ok (.iload_n 1, 1) := by decide +kernel
theorem dX2_readOperand_82 : decode cX2_readOperand 82 = .ok (.iconst 1, 1) := by decide +kernel
theorem dX2_readOperand_83 : decode cX2_readOperand 83 = .ok (.iadd, 1) := by decide +kernel
theorem dX2_readOperand_84 : decode cX2_readOperand 84 = .ok (.invokevirtual 91, 3) := by decide +kernel
theorem dX2_readOperand_87 : decode cX2_readOperand 87 = .ok (.goto 7, 3) := by decide +kernel
theorem dX2_readOperand_90 : decode cX2_readOperand 90 = .ok (.aload_n 0, 1) := by decide +kernel
theorem dX2_readOperand_91 : decode cX2_readOperand 91 = .ok (.invokevirtual 64, 3) := by decide +kernel
theorem dX2_readOperand_94 : decode cX2_readOperand 94 = .ok (.return_, 1) := by decide +kernel
theorem dX2_readOpened_0 : decode cX2_readOpened 0 = .ok (.iload_n 1, 1) := by decide +kernel
theorem dX2_readOpened_1 : decode cX2_readOpened 1 = .ok (.bipush 40, 2) := by decide +kernel
theorem dX2_readOpened_3 : decode cX2_readOpened 3 = .ok (.if_icmp .ne 24, 3) := by decide +kernel
theorem dX2_readOpened_6 : decode cX2_readOpened 6 = .ok (.aload_n 0, 1) := by decide +kernel
theorem dX2_readOpened_7 : decode cX2_readOpened 7 = .ok (.iload_n 2, 1) := by decide +kernel
theorem dX2_readOpened_8 : decode cX2_readOpened 8 = .ok (.invokevirtual 53, 3) := by decide +kernel
theorem dX2_readOpened_11 : decode cX2_readOpened 11 = .ok (.aload_n 0, 1) := by decide +kernel
theorem dX2_readOpened_12 : decode cX2_readOpened 12 = .ok (.bipush 41, 2) := by decide +kernel
theorem dX2_readOpened_14 : decode cX2_readOpened 14 = .ok (.invokevirtual 57, 3) := by decide +kernel
theorem dX2_readOpened_17 : decode cX2_readOpened 17 = .ok (.ifCond .ne 32, 3) := by decide +kernel
theorem dX2_readOpened_20 : decode cX2_readOpened 20 = .ok (.aload_n 0, 1) := by decide +kernel
theorem dX2_readOpened_21 : decode cX2_readOpened 21 = .ok (.invokevirtual 64, 3) := by decide +kernel
theorem dX2_readOpened_24 : decode cX2_readOpened 24 = .ok (.goto 25, 3) := by decide +kernel
theorem dX2_readOpened_27 : decode cX2_readOpened 27 = .ok (.aload_n 0, 1) := by decide +kernel
theorem dX2_readOpened_28 : decode cX2_readOpened 28 = .ok (.iload_n 2, 1) := by decide +kernel
theorem dX2_readOpened_29 : decode cX2_readOpened 29 = .ok (.invokevirtual 79, 3) := by decide +kernel
theorem dX2_readOpened_32 : decode cX2_readOpened 32 = .ok (.aload_n 0, 1) := by decide +kernel
theorem dX2_readOpened_33 : decode cX2_readOpened 33 = .ok (.iload_n 1, 1) := by decide +kernel
theorem dX2_readOpened_34 : decode cX2_readOpened 34 = .ok (.bipush 33, 2) := by decide +kernel
theorem dX2_readOpened_36 : decode cX2_readOpened 36 = .ok (.if_icmp .ne 8, 3) := by decide +kernel
theorem dX2_readOpened_39 : decode cX2_readOpened 39 = .ok (.bipush (-33), 2) := by decide +kernel
theorem dX2_readOpened_41 : decode cX2_readOpened 41 = .ok (.goto 5, 3) := by decide +kernel
theorem dX2_readOpened_44 : decode cX2_readOpened 44 = .ok (.bipush (-126), 2) := by decide +kernel
theorem dX2_readOpened_46 : decode cX2_readOpened 46 = .ok (.invokevirtual 61, 3) := by decide +kernel
theorem dX2_readOpened_49 : decode cX2_readOpened 49 = .ok (.return_, 1) := by decide +kernel
theorem dX2_readNumber_0 : decode cX2_readNumber 0 = .ok (.iconst 0, 1) := by decide +kernel
theorem dX2_readNumber_1 : decode cX2_readNumber 1 = .ok (.istore_n 1, 1) := by decide +kernel
theorem dX2_readNumber_2 : decode cX2_readNumber 2 = .ok (.iconst 0, 1) := by decide +kernel
theorem dX2_readNumber_3 : decode cX2_readNumber 3 = .ok (.istore_n 2, 1) := by decide +kernel
theorem dX2_readNumber_4 : decode cX2_readNumber 4 = .ok (.iload_n 2, 1) := by decide +kernel
theorem dX2_readNumber_5 : decode cX2_readNumber 5 = .ok (.iconst 4, 1) := by decide +kernel
theorem dX2_readNumber_6 : decode cX2_readNumber 6 = .ok (.if_icmp .ge 42, 3) := by decide +kernel
theorem dX2_readNumber_9 : decode cX2_readNumber 9 = .ok (.aload_n 0, 1) := by decide +kernel
theorem dX2_readNumber_10 : decode cX2_readNumber 10 = .ok (.invokevirtual 49, 3) := by decide +kernel
theorem dX2_readNumber_13 : decode cX2_readNumber 13 = .ok (.invokestatic 82, 3) := by decide +kernel
theorem dX2_readNumber_16 : decode cX2_readNumber 16 = .ok (.ifCond .eq 32, 3) := by decide +kernel
theorem dX2_readNumber_19 : decode cX2_readNumber 19 = .ok (.iload_n 1, 1) := by decide +kernel
theorem dX2_readNumber_20 : decode cX2_readNumber 20 = .ok (.bipush 10, 2) := by decide +kernel
theorem dX2_readNumber_22 : decode cX2_readNumber 22 = .ok (.imul, 1) := by decide +kernel
theorem dX2_readNumber_23 : decode cX2_readNumber 23 = .ok (.aload_n 0, 1) := by decide +kernel
theorem dX2_readNumber_24 : decode cX2_readNumber 24 = .ok (.invokevirtual 49, 3) := by decide +kernel
theorem dX2_readNumber_27 : decode cX2_readNumber 27 = .ok (.iadd, 1) := by decide +kernel
theorem dX2_readNumber_28 : decode cX2_readNumber 28 = .ok (.bipush 48, 2) := by decide +kernel
theorem dX2_readNumber_30 : decode cX2_readNumber 30 = .ok (.isub, 1) := by decide +kernel
theorem dX2_readNumber_31 : decode cX2_readNumber 31 = .ok (.istore_n 1, 1) := by decide +kernel
theorem dX2_readNumber_32 : decode cX2_readNumber 32 = .ok (.aload_n 0, 1) := by decide +kernel
theorem dX2_readNumber_33 : decode cX2_readNumber 33 = .ok (.dup, 1) := by decide +kernel
theorem dX2_readNumber_34 : decode cX2_readNumber 34 = .ok (.getfield 31, 3) := by decide +kernel
theorem dX2_readNumber_37 : decode cX2_readNumber 37 = .ok (.iconst 1, 1) := by decide +kernel
theorem dX2_readNumber_38 : decode cX2_readNumber 38 = .ok (.iadd, 1) := by decide +kernel
theorem dX2_readNumber_39 : decode cX2_readNumber 39 = .ok (.putfield 31, 3) := by decide +kernel
theorem dX2_readNumber_42 : decode cX2_readNumber 42 = .ok (.iinc 2 1, 3) := by decide +kernel
theorem dX2_readNumber_45 : decode cX2_readNumber 45 = .ok (.goto (-41), 3) := by decide +kernel
theorem dX2_readNumber_48 : decode cX2_readNumber 48 = .ok (.aload_n 0, 1) := by decide +kernel
theorem dX2_readNumber_49 : decode cX2_readNumber 49 = .ok (.iload_n 1, 1) := by decide +kernel
theorem dX2_readNumber_50 : decode cX2_readNumber 50 = .ok (.invokevirtual 61, 3) := by decide +kernel
theorem dX2_readNumber_53 : decode cX2_readNumber 53 = .ok (.return_, 1) := by decide +kernel
theorem dX2_isDigit_0 : decode cX2_isDigit 0 = .ok (.iload_n 0, 1) := by decide +kernel
theorem dX2_isDigit_1 : decode cX2_isDigit 1 = .ok (.bipush 48, 2) := by decide +kernel
theorem dX2_isDigit_3 : decode cX2_isDigit 3 = .ok (.if_icmp .lt 13, 3) := by decide +kernel
theorem dX2_isDigit_6 : decode cX2_isDigit 6 = .ok (.iload_n 0, 1) := by decide +kernel
theorem dX2_isDigit_7 : decode cX2_isDigit 7 = .ok (.bipush 57, 2) := by decide +kernel
theorem dX2_isDigit_9 : decode cX2_isDigit 9 = .ok (.if_icmp .gt 7, 3) := by decide +kernel
theorem dX2_isDigit_12 : decode cX2_isDigit 12 = .ok (.iconst 1, 1) := by decide +kernel
theorem dX2_isDigit_13 : decode cX2_isDigit 13 = .ok (.goto 4, 3) := by decide +kernel
theorem dX2_isDigit_16 : decode cX2_isDigit 16 = .ok (.iconst 0, 1) := by decide +kernel
theorem dX2_isDigit_17 : decode cX2_isDigit 17 = .ok (.ireturn, 1) := by decide +kernel
theorem dX2_isName_0 : decode cX2_isName 0 = .ok (.iload_n 0, 1) := by decide +kernel
theorem dX2_isName_1 : decode cX2_isName 1 = .ok (.tableswitch 101 99 119 #[99, 99, 101, 101, 101, 99, 101, 101, 101, 101, 101, 101, 99, 101, 101, 101, 99, 101, 99, 101, 99], 99) := by decide +kernel
theorem dX2_isName_100 : decode cX2_isName 100 = .ok (.iconst 1, 1) := by decide +kernel
theorem dX2_isName_101 : decode cX2_isName 101 = .ok (.ireturn, 1) := by decide +kernel
theorem dX2_isName_102 : decode cX2_isName 102 = .ok (.iconst 0, 1) := by decide +kernel
theorem dX2_isName_103 : decode cX2_isName 103 = .ok (.ireturn, 1) := by decide +kernel
theorem dX2_orderFor_0 : decode cX2_orderFor 0 = .ok (.aload_n 0, 1) := by decide +kernel
theorem dX2_orderFor_1 : decode cX2_orderFor 1 = .ok (.getfield 46, 3) := by decide +kernel
theorem dX2_orderFor_4 : decode cX2_orderFor 4 = .ok (.ifCond .ne 17, 3) := by decide +kernel
theorem dX2_orderFor_7 : decode cX2_orderFor 7 = .ok (.aload_n 2, 1) := by decide +kernel
theorem dX2_orderFor_8 : decode cX2_orderFor 8 = .ok (.aload_n 1, 1) := by decide +kernel
theorem dX2_orderFor_9 : decode cX2_orderFor 9 = .ok (.invokevirtual 95, 3) := by decide +kernel
theorem dX2_orderFor_12 : decode cX2_orderFor 12 = .ok (.ifCond .eq 7, 3) := by decide +kernel
theorem dX2_orderFor_15 : decode cX2_orderFor 15 = .ok (.iconst 5, 1) := by decide +kernel
theorem dX2_orderFor_16 : decode cX2_orderFor 16 = .ok (.goto 4, 3) := by decide +kernel
theorem dX2_orderFor_19 : decode cX2_orderFor 19 = .ok (.iconst 0, 1) := by decide +kernel
theorem dX2_orderFor_20 : decode cX2_orderFor 20 = .ok (.ireturn, 1) := by decide +kernel
theorem dX2_orderFor_21 : decode cX2_orderFor 21 = .ok (.aload_n 0, 1) := by decide +kernel
theorem dX2_orderFor_22 : decode cX2_orderFor 22 = .ok (.aload_n 1, 1) := by decide +kernel
theorem dX2_orderFor_23 : decode cX2_orderFor 23 = .ok (.aload_n 2, 1) := by decide +kernel
theorem dX2_orderFor_24 : decode cX2_orderFor 24 = .ok (.iload_n 3, 1) := by decide +kernel
theorem dX2_orderFor_25 : decode cX2_orderFor 25 = .ok (.invokevirtual 101, 3) := by decide +kernel
theorem dX2_orderFor_28 : decode cX2_orderFor 28 = .ok (.istore 4, 2) := by decide +kernel
theorem dX2_orderFor_30 : decode cX2_orderFor 30 = .ok (.iload 4, 2) := by decide +kernel
theorem dX2_orderFor_32 : decode cX2_orderFor 32 = .ok (.ifCond .ge 7, 3) := by decide +kernel
theorem dX2_orderFor_35 : decode cX2_orderFor 35 = .ok (.iconst 0, 1) := by decide +kernel
theorem dX2_orderFor_36 : decode cX2_orderFor 36 = .ok (.goto 8, 3) := by decide +kernel
theorem dX2_orderFor_39 : decode cX2_orderFor 39 = .ok (.iload 4, 2) := by decide +kernel
theorem dX2_orderFor_41 : decode cX2_orderFor 41 = .ok (.bipush 6, 2) := by decide +kernel
theorem dX2_orderFor_43 : decode cX2_orderFor 43 = .ok (.irem, 1) := by decide +kernel
theorem dX2_orderFor_44 : decode cX2_orderFor 44 = .ok (.ireturn, 1) := by decide +kernel
theorem dX2_workOut_0 : decode cX2_workOut 0 = .ok (.iconst 0, 1) := by decide +kernel
theorem dX2_workOut_1 : decode cX2_workOut 1 = .ok (.istore 4, 2) := by decide +kernel
theorem dX2_workOut_3 : decode cX2_workOut 3 = .ok (.aload_n 0, 1) := by decide +kernel
theorem dX2_workOut_4 : decode cX2_workOut 4 = .ok (.iconst 0, 1) := by decide +kernel
theorem dX2_workOut_5 : decode cX2_workOut 5 = .ok (.putfield 105, 3) := by decide +kernel
theorem dX2_workOut_8 : decode cX2_workOut 8 = .ok (.iconst 0, 1) := by decide +kernel
theorem dX2_workOut_9 : decode cX2_workOut 9 = .ok (.istore 5, 2) := by decide +kernel
theorem dX2_workOut_11 : decode cX2_workOut 11 = .ok (.iload 5, 2) := by decide +kernel
theorem dX2_workOut_13 : decode cX2_workOut 13 = .ok (.aload_n 0, 1) := by decide +kernel
theorem dX2_workOut_14 : decode cX2_workOut 14 = .ok (.getfield 46, 3) := by decide +kernel
theorem dX2_workOut_17 : decode cX2_workOut 17 = .ok (.if_icmp .ge 79, 3) := by decide +kernel
theorem dX2_workOut_20 : decode cX2_workOut 20 = .ok (.aload_n 0, 1) := by decide +kernel
theorem dX2_workOut_21 : decode cX2_workOut 21 = .ok (.getfield 18, 3) := by decide +kernel
theorem dX2_workOut_24 : decode cX2_workOut 24 = .ok (.iload 5, 2) := by decide +kernel
theorem dX2_workOut_26 : decode cX2_workOut 26 = .ok (.iaload, 1) := by decide +kernel
theorem dX2_workOut_27 : decode cX2_workOut 27 = .ok (.istore 6, 2) := by decide +kernel
theorem dX2_workOut_29 : decode cX2_workOut 29 = .ok (.iload 6, 2) := by decide +kernel
theorem dX2_workOut_31 : decode cX2_workOut 31 = .ok (.bipush (-59), 2) := by decide +kernel
theorem dX2_workOut_33 : decode cX2_workOut 33 = .ok (.if_icmp .ne 19, 3) := by decide +kernel
theorem dX2_workOut_36 : decode cX2_workOut 36 = .ok (.iload 4, 2) := by decide +kernel
theorem dX2_workOut_38 : decode cX2_workOut 38 = .ok (.ifCond .ne 8, 3) := by decide +kernel
theorem dX2_workOut_41 : decode cX2_workOut 41 = .ok (.aload_n 0, 1) := by decide +kernel
theorem dX2_workOut_42 : decode cX2_workOut 42 = .ok (.invokevirtual 108, 3) := by decide +kernel
theorem dX2_workOut_45 : decode cX2_workOut 45 = .ok (.ireturn, 1) := by decide +kernel
theorem dX2_workOut_46 : decode cX2_workOut 46 = .ok (.iconst 0, 1) := by decide +kernel
theorem dX2_workOut_47 : decode cX2_workOut 47 = .ok (.istore 4, 2) := by decide +kernel
theorem dX2_workOut_49 : decode cX2_workOut 49 = .ok (.goto 41, 3) := by decide +kernel
theorem dX2_workOut_52 : decode cX2_workOut 52 = .ok (.iload 4, 2) := by decide +kernel
theorem dX2_workOut_54 : decode cX2_workOut 54 = .ok (.ifCond .ne 36, 3) := by decide +kernel
theorem dX2_workOut_57 : decode cX2_workOut 57 = .ok (.iload 6, 2) := by decide +kernel
theorem dX2_workOut_59 : decode cX2_workOut 59 = .ok (.bipush (-63), 2) := by decide +kernel
theorem dX2_workOut_61 : decode cX2_workOut 61 = .ok (.if_icmp .ne 20, 3) := by decide +kernel
theorem dX2_workOut_64 : decode cX2_workOut 64 = .ok (.aload_n 0, 1) := by decide +kernel
theorem dX2_workOut_65 : decode cX2_workOut 65 = .ok (.invokevirtual 108, 3) := by decide +kernel
theorem dX2_workOut_68 : decode cX2_workOut 68 = .ok (.ifCond .ne 7, 3) := by decide +kernel
theorem dX2_workOut_71 : decode cX2_workOut 71 = .ok (.iconst 1, 1) := by decide +kernel
theorem dX2_workOut_72 : decode cX2_workOut 72 = .ok (.goto 4, 3) := by decide +kernel
theorem dX2_workOut_75 : decode cX2_workOut 75 = .ok (.iconst 0, 1) := by decide +kernel
theorem dX2_workOut_76 : decode cX2_workOut 76 = .ok (.istore 4, 2) := by decide +kernel
theorem dX2_workOut_78 : decode cX2_workOut 78 = .ok (.goto 12, 3) := by decide +kernel
theorem dX2_workOut_81 : decode cX2_workOut 81 = .ok (.aload_n 0, 1) := by decide +kernel
theorem dX2_workOut_82 : decode cX2_workOut 82 = .ok (.iload 6, 2) := by decide +kernel
theorem dX2_workOut_84 : decode cX2_workOut 84 = .ok (.aload_n 1, 1) := by decide +kernel
theorem dX2_workOut_85 : decode cX2_workOut 85 = .ok (.aload_n 2, 1) := by decide +kernel
theorem dX2_workOut_86 : decode cX2_workOut 86 = .ok (.iload_n 3, 1) := by decide +kernel
theorem dX2_workOut_87 : decode cX2_workOut 87 = .ok (.invokevirtual 111, 3) := by decide +kernel
theorem dX2_workOut_90 : decode cX2_workOut 90 = .ok (.iinc 5 1, 3) := by decide +kernel
theorem dX2_workOut_93 : decode cX2_workOut 93 = .ok (.goto (-82), 3) := by decide +kernel
theorem dX2_workOut_96 : decode cX2_workOut 96 = .ok (.iconst 0, 1) := by decide +kernel
theorem dX2_workOut_97 : decode cX2_workOut 97 = .ok (.ireturn, 1) := by decide +kernel
theorem dX2_step_0 : decode cX2_step 0 = .ok (.iload_n 1, 1) := by decide +kernel
theorem dX2_step_1 : decode cX2_step 1 = .ok (.ifCond .lt 11, 3) := by decide +kernel
theorem dX2_step_4 : decode cX2_step 4 = .ok (.aload_n 0, 1) := by decide +kernel
theorem dX2_step_5 : decode cX2_step 5 = .ok (.iload_n 1, 1) := by decide +kernel
theorem dX2_step_6 : decode cX2_step 6 = .ok (.invokevirtual 115, 3) := by decide +kernel
theorem dX2_step_9 : decode cX2_step 9 = .ok (.goto 91, 3) := by decide +kernel
theorem dX2_step_12 : decode cX2_step 12 = .ok (.iload_n 1, 1) := by decide +kernel
theorem dX2_step_13 : decode cX2_step 13 = .ok (.ineg, 1) := by decide +kernel
theorem dX2_step_14 : decode cX2_step 14 = .ok (.invokestatic 88, 3) := by decide +kernel
theorem dX2_step_17 : decode cX2_step 17 = .ok (.ifCond .eq 19, 3) := by decide +kernel
theorem dX2_step_20 : decode cX2_step 20 = .ok (.aload_n 0, 1) := by decide +kernel
theorem dX2_step_21 : decode cX2_step 21 = .ok (.iload_n 1, 1) := by decide +kernel
theorem dX2_step_22 : decode cX2_step 22 = .ok (.ineg, 1) := by decide +kernel
theorem dX2_step_23 : decode cX2_step 23 = .ok (.aload_n 2, 1) := by decide +kernel
theorem dX2_step_24 : decode cX2_step 24 = .ok (.aload_n 3, 1) := by decide +kernel
theorem dX2_step_25 : decode cX2_step 25 = .ok (.iload 4, 2) := by decide +kernel
theorem dX2_step_27 : decode cX2_step 27 = .ok (.invokestatic 118, 3) := by decide +kernel
theorem dX2_step_30 : decode cX2_step 30 = .ok (.invokevirtual 115, 3) := by decide +kernel
theorem dX2_step_33 : decode cX2_step 33 = .ok (.goto 67, 3) := by decide +kernel
theorem dX2_step_36 : decode cX2_step 36 = .ok (.iload_n 1, 1) := by decide +kernel
theorem dX2_step_37 : decode cX2_step 37 = .ok (.bipush (-126), 2) := by decide +kernel
theorem dX2_step_39 : decode cX2_step 39 = .ok (.if_icmp .ne 15, 3) := by decide +kernel
theorem dX2_step_42 : decode cX2_step 42 = .ok (.aload_n 0, 1) := by decide +kernel
theorem dX2_step_43 : decode cX2_step 43 = .ok (.aload_n 0, 1) := by decide +kernel
theorem dX2_step_44 : decode cX2_step 44 = .ok (.invokevirtual 108, 3) := by decide +kernel
theorem dX2_step_47 : decode cX2_step 47 = .ok (.ineg, 1) := by decide +kernel
theorem dX2_step_48 : decode cX2_step 48 = .ok (.invokevirtual 115, 3) := by decide +kernel
theorem dX2_step_51 : decode cX2_step 51 = .ok (.goto 49, 3) := by decide +kernel
theorem dX2_step_54 : decode cX2_step 54 = .ok (.iload_n 1, 1) := by decide +kernel
theorem dX2_step_55 : decode cX2_step 55 = .ok (.bipush (-33), 2) := by decide +kernel
theorem dX2_step_57 : decode cX2_step 57 = .ok (.if_icmp .ne 22, 3) := by decide +kernel
theorem dX2_step_60 : decode cX2_step 60 = .ok (.aload_n 0, 1) := by decide +kernel
theorem dX2_step_61 : decode cX2_step 61 = .ok (.aload_n 0, 1) := by decide +kernel
theorem dX2_step_62 : decode cX2_step 62 = .ok (.invokevirtual 108, 3) := by decide +kernel
theorem dX2_step_65 : decode cX2_step 65 = .ok (.ifCond .ne 7, 3) := by decide +kernel
theorem dX2_step_68 : decode cX2_step 68 = .ok (.iconst 1, 1) := by decide +kernel
theorem dX2_step_69 : decode cX2_step 69 = .ok (.goto 4, 3) := by decide +kernel
theorem dX2_step_72 : decode cX2_step 72 = .ok (.iconst 0, 1) := by decide +kernel
theorem dX2_step_73 : decode cX2_step 73 = .ok (.invokevirtual 115, 3) := by decide +kernel
theorem dX2_step_76 : decode cX2_step 76 = .ok (.goto 24, 3) := by decide +kernel
theorem dX2_step_79 : decode cX2_step 79 = .ok (.aload_n 0, 1) := by decide +kernel
theorem dX2_step_80 : decode cX2_step 80 = .ok (.invokevirtual 108, 3) := by decide +kernel
theorem dX2_step_83 : decode cX2_step 83 = .ok (.istore 5, 2) := by decide +kernel
theorem dX2_step_85 : decode cX2_step 85 = .ok (.aload_n 0, 1) := by decide +kernel
theorem dX2_step_86 : decode cX2_step 86 = .ok (.iload_n 1, 1) := by decide +kernel
theorem dX2_step_87 : decode cX2_step 87 = .ok (.ineg, 1) := by decide +kernel
theorem dX2_step_88 : decode cX2_step 88 = .ok (.aload_n 0, 1) := by decide +kernel
theorem dX2_step_89 : decode cX2_step 89 = .ok (.invokevirtual 108, 3) := by decide +kernel
theorem dX2_step_92 : decode cX2_step 92 = .ok (.iload 5, 2) := by decide +kernel
theorem dX2_step_94 : decode cX2_step 94 = .ok (.invokestatic 122, 3) := by decide +kernel
theorem dX2_step_97 : decode cX2_step 97 = .ok (.invokevirtual 115, 3) := by decide +kernel
theorem dX2_step_100 : decode cX2_step 100 = .ok (.return_, 1) := by decide +kernel
theorem dX2_named_0 : decode cX2_named 0 = .ok (.iload_n 0, 1) := by decide +kernel
theorem dX2_named_1 : decode cX2_named 1 = .ok (.tableswitch 136 100 119 #[105, 136, 136, 136, 107, 136, 136, 136, 136, 136, 136, 116, 136, 136, 136, 95, 136, 100, 136, 130], 95) := by decide +kernel
theorem dX2_named_96 : decode cX2_named 96 = .ok (.aload_n 2, 1) := by decide +kernel
theorem dX2_named_97 : decode cX2_named 97 = .ok (.getfield 126, 3) := by decide +kernel
theorem dX2_named_100 : decode cX2_named 100 = .ok (.ireturn, 1) := by decide +kernel
theorem dX2_named_101 : decode cX2_named 101 = .ok (.aload_n 2, 1) := by decide +kernel
theorem dX2_named_102 : decode cX2_named 102 = .ok (.getfield 129, 3) := by decide +kernel
theorem dX2_named_105 : decode cX2_named 105 = .ok (.ireturn, 1) := by decide +kernel
theorem dX2_named_106 : decode cX2_named 106 = .ok (.iload_n 3, 1) := by decide +kernel
theorem dX2_named_107 : decode cX2_named 107 = .ok (.ireturn, 1) := by decide +kernel
theorem dX2_named_108 : decode cX2_named 108 = .ok (.aload_n 1, 1) := by decide +kernel
theorem dX2_named_109 : decode cX2_named 109 = .ok (.aload_n 2, 1) := by decide +kernel
theorem dX2_named_110 : decode cX2_named 110 = .ok (.getfield 132, 3) := by decide +kernel
theorem dX2_named_113 : decode cX2_named 113 = .ok (.invokevirtual 135, 3) := by decide +kernel
theorem dX2_named_116 : decode cX2_named 116 = .ok (.ireturn, 1) := by decide +kernel
theorem dX2_named_117 : decode cX2_named 117 = .ok (.aload_n 2, 1) := by decide +kernel
theorem dX2_named_118 : decode cX2_named 118 = .ok (.aload_n 1, 1) := by decide +kernel
theorem dX2_named_119 : decode cX2_named 119 = .ok (.invokevirtual 95, 3) := by decide +kernel
theorem dX2_named_122 : decode cX2_named 122 = .ok (.ifCond .eq 7, 3) := by decide +kernel
theorem dX2_named_125 : decode cX2_named 125 = .ok (.iconst 1, 1) := by decide +kernel
theorem dX2_named_126 : decode cX2_named 126 = .ok (.goto 4, 3) := by decide +kernel
theorem dX2_named_129 : decode cX2_named 129 = .ok (.iconst 0, 1) := by decide +kernel
theorem dX2_named_130 : decode cX2_named 130 = .ok (.ireturn, 1) := by decide +kernel
theorem dX2_named_131 : decode cX2_named 131 = .ok (.aload_n 1, 1) := by decide +kernel
theorem dX2_named_132 : decode cX2_named 132 = .ok (.iload_n 3, 1) := by decide +kernel
theorem dX2_named_133 : decode cX2_named 133 = .ok (.invokevirtual 140, 3) := by decide +kernel
theorem dX2_named_136 : decode cX2_named 136 = .ok (.ireturn, 1) := by decide +kernel
theorem dX2_named_137 : decode cX2_named 137 = .ok (.aload_n 2, 1) := by decide +kernel
theorem dX2_named_138 : decode cX2_named 138 = .ok (.getfield 132, 3) := by decide +kernel
theorem dX2_named_141 : decode cX2_named 141 = .ok (.ireturn, 1) := by decide +kernel
theorem dX2_joined_0 : decode cX2_joined 0 = .ok (.iload_n 0, 1) := by decide +kernel
theorem dX2_joined_1 : decode cX2_joined 1 = .ok (.tableswitch 202 37 62 #[143, 188, 202, 202, 202, 127, 119, 202, 123, 202, 131, 202, 202, 202, 202, 202, 202, 202, 202, 202, 202, 202, 202, 155, 166, 177], 119) := by decide +kernel
theorem dX2_joined_120 : decode cX2_joined 120 = .ok (.iload_n 1, 1) := by decide +kernel
theorem dX2_joined_121 : decode cX2_joined 121 = .ok (.iload_n 2, 1) := by decide +kernel
theorem dX2_joined_122 : decode cX2_joined 122 = .ok (.iadd, 1) := by decide +kernel
theorem dX2_joined_123 : decode cX2_joined 123 = .ok (.ireturn, 1) := by decide +kernel
theorem dX2_joined_124 : decode cX2_joined 124 = .ok (.iload_n 1, 1) := by decide +kernel
theorem dX2_joined_125 : decode cX2_joined 125 = .ok (.iload_n 2, 1) := by decide +kernel
theorem dX2_joined_126 : decode cX2_joined 126 = .ok (.isub, 1) := by decide +kernel
theorem dX2_joined_127 : decode cX2_joined 127 = .ok (.ireturn, 1) := by decide +kernel
theorem dX2_joined_128 : decode cX2_joined 128 = .ok (.iload_n 1, 1) := by decide +kernel
theorem dX2_joined_129 : decode cX2_joined 129 = .ok (.iload_n 2, 1) := by decide +kernel
theorem dX2_joined_130 : decode cX2_joined 130 = .ok (.imul, 1) := by decide +kernel
theorem dX2_joined_131 : decode cX2_joined 131 = .ok (.ireturn, 1) := by decide +kernel
theorem dX2_joined_132 : decode cX2_joined 132 = .ok (.iload_n 2, 1) := by decide +kernel
theorem dX2_joined_133 : decode cX2_joined 133 = .ok (.ifCond .ne 7, 3) := by decide +kernel
theorem dX2_joined_136 : decode cX2_joined 136 = .ok (.iconst 0, 1) := by decide +kernel
theorem dX2_joined_137 : decode cX2_joined 137 = .ok (.goto 6, 3) := by decide +kernel
theorem dX2_joined_140 : decode cX2_joined 140 = .ok (.iload_n 1, 1) := by decide +kernel
theorem dX2_joined_141 : decode cX2_joined 141 = .ok (.iload_n 2, 1) := by decide +kernel
theorem dX2_joined_142 : decode cX2_joined 142 = .ok (.idiv, 1) := by decide +kernel
theorem dX2_joined_143 : decode cX2_joined 143 = .ok (.ireturn, 1) := by decide +kernel
theorem dX2_joined_144 : decode cX2_joined 144 = .ok (.iload_n 2, 1) := by decide +kernel
theorem dX2_joined_145 : decode cX2_joined 145 = .ok (.ifCond .ne 7, 3) := by decide +kernel
theorem dX2_joined_148 : decode cX2_joined 148 = .ok (.iconst 0, 1) := by decide +kernel
theorem dX2_joined_149 : decode cX2_joined 149 = .ok (.goto 6, 3) := by decide +kernel
theorem dX2_joined_152 : decode cX2_joined 152 = .ok (.iload_n 1, 1) := by decide +kernel
theorem dX2_joined_153 : decode cX2_joined 153 = .ok (.iload_n 2, 1) := by decide +kernel
theorem dX2_joined_154 : decode cX2_joined 154 = .ok (.irem, 1) := by decide +kernel
theorem dX2_joined_155 : decode cX2_joined 155 = .ok (.ireturn, 1) := by decide +kernel
theorem dX2_joined_156 : decode cX2_joined 156 = .ok (.iload_n 1, 1) := by decide +kernel
theorem dX2_joined_157 : decode cX2_joined 157 = .ok (.iload_n 2, 1) := by decide +kernel
theorem dX2_joined_158 : decode cX2_joined 158 = .ok (.if_icmp .ge 7, 3) := by decide +kernel
theorem dX2_joined_161 : decode cX2_joined 161 = .ok (.iconst 1, 1) := by decide +kernel
theorem dX2_joined_162 : decode cX2_joined 162 = .ok (.goto 4, 3) := by decide +kernel
theorem dX2_joined_165 : decode cX2_joined 165 = .ok (.iconst 0, 1) := by decide +kernel
theorem dX2_joined_166 : decode cX2_joined 166 = .ok (.ireturn, 1) := by decide +kernel
theorem dX2_joined_167 : decode cX2_joined 167 = .ok (.iload_n 1, 1) := by decide +kernel
theorem dX2_joined_168 : decode cX2_joined 168 = .ok (.iload_n 2, 1) := by decide +kernel
theorem dX2_joined_169 : decode cX2_joined 169 = .ok (.if_icmp .ne 7, 3) := by decide +kernel
theorem dX2_joined_172 : decode cX2_joined 172 = .ok (.iconst 1, 1) := by decide +kernel
theorem dX2_joined_173 : decode cX2_joined 173 = .ok (.goto 4, 3) := by decide +kernel
theorem dX2_joined_176 : decode cX2_joined 176 = .ok (.iconst 0, 1) := by decide +kernel
theorem dX2_joined_177 : decode cX2_joined 177 = .ok (.ireturn, 1) := by decide +kernel
theorem dX2_joined_178 : decode cX2_joined 178 = .ok (.iload_n 1, 1) := by decide +kernel
theorem dX2_joined_179 : decode cX2_joined 179 = .ok (.iload_n 2, 1) := by decide +kernel
theorem dX2_joined_180 : decode cX2_joined 180 = .ok (.if_icmp .le 7, 3) := by decide +kernel
theorem dX2_joined_183 : decode cX2_joined 183 = .ok (.iconst 1, 1) := by decide +kernel
theorem dX2_joined_184 : decode cX2_joined 184 = .ok (.goto 4, 3) := by decide +kernel
theorem dX2_joined_187 : decode cX2_joined 187 = .ok (.iconst 0, 1) := by decide +kernel
theorem dX2_joined_188 : decode cX2_joined 188 = .ok (.ireturn, 1) := by decide +kernel
theorem dX2_joined_189 : decode cX2_joined 189 = .ok (.iload_n 1, 1) := by decide +kernel
theorem dX2_joined_190 : decode cX2_joined 190 = .ok (.ifCond .eq 11, 3) := by decide +kernel
theorem dX2_joined_193 : decode cX2_joined 193 = .ok (.iload_n 2, 1) := by decide +kernel
theorem dX2_joined_194 : decode cX2_joined 194 = .ok (.ifCond .eq 7, 3) := by decide +kernel
theorem dX2_joined_197 : decode cX2_joined 197 = .ok (.iconst 1, 1) := by decide +kernel
theorem dX2_joined_198 : decode cX2_joined 198 = .ok (.goto 4, 3) := by decide +kernel
theorem dX2_joined_201 : decode cX2_joined 201 = .ok (.iconst 0, 1) := by decide +kernel
theorem dX2_joined_202 : decode cX2_joined 202 = .ok (.ireturn, 1) := by decide +kernel
theorem dX2_joined_203 : decode cX2_joined 203 = .ok (.iload_n 1, 1) := by decide +kernel
theorem dX2_joined_204 : decode cX2_joined 204 = .ok (.ifCond .ne 7, 3) := by decide +kernel
theorem dX2_joined_207 : decode cX2_joined 207 = .ok (.iload_n 2, 1) := by decide +kernel
theorem dX2_joined_208 : decode cX2_joined 208 = .ok (.ifCond .eq 7, 3) := by decide +kernel
theorem dX2_joined_211 : decode cX2_joined 211 = .ok (.iconst 1, 1) := by decide +kernel
theorem dX2_joined_212 : decode cX2_joined 212 = .ok (.goto 4, 3) := by decide +kernel
theorem dX2_joined_215 : decode cX2_joined 215 = .ok (.iconst 0, 1) := by decide +kernel
theorem dX2_joined_216 : decode cX2_joined 216 = .ok (.ireturn, 1) := by decide +kernel
theorem dX2_push_0 : decode cX2_push 0 = .ok (.aload_n 0, 1) := by decide +kernel
theorem dX2_push_1 : decode cX2_push 1 = .ok (.getfield 105, 3) := by decide +kernel
theorem dX2_push_4 : decode cX2_push 4 = .ok (.aload_n 0, 1) := by decide +kernel
theorem dX2_push_5 : decode cX2_push 5 = .ok (.getfield 21, 3) := by decide +kernel
theorem dX2_push_8 : decode cX2_push 8 = .ok (.arraylength, 1) := by decide +kernel
theorem dX2_push_9 : decode cX2_push 9 = .ok (.if_icmp .ge 23, 3) := by decide +kernel
theorem dX2_push_12 : decode cX2_push 12 = .ok (.aload_n 0, 1) := by decide +kernel
theorem dX2_push_13 : decode cX2_push 13 = .ok (.getfield 21, 3) := by decide +kernel
theorem dX2_push_16 : decode cX2_push 16 = .ok (.aload_n 0, 1) := by decide +kernel
theorem dX2_push_17 : decode cX2_push 17 = .ok (.getfield 105, 3) := by decide +kernel
theorem dX2_push_20 : decode cX2_push 20 = .ok (.iload_n 1, 1) := by decide +kernel
theorem dX2_push_21 : decode cX2_push 21 = .ok (.iastore, 1) := by decide +kernel
theorem dX2_push_22 : decode cX2_push 22 = .ok (.aload_n 0, 1) := by decide +kernel
theorem dX2_push_23 : decode cX2_push 23 = .ok (.dup, 1) := by decide +kernel
theorem dX2_push_24 : decode cX2_push 24 = .ok (.getfield 105, 3) := by decide +kernel
theorem dX2_push_27 : decode cX2_push 27 = .ok (.iconst 1, 1) := by decide +kernel
theorem dX2_push_28 : decode cX2_push 28 = .ok (.iadd, 1) := by decide +kernel
theorem dX2_push_29 : decode cX2_push 29 = .ok (.putfield 105, 3) := by decide +kernel
theorem dX2_push_32 : decode cX2_push 32 = .ok (.return_, 1) := by decide +kernel
theorem dX2_pop_0 : decode cX2_pop 0 = .ok (.aload_n 0, 1) := by decide +kernel
theorem dX2_pop_1 : decode cX2_pop 1 = .ok (.getfield 105, 3) := by decide +kernel
theorem dX2_pop_4 : decode cX2_pop 4 = .ok (.ifCond .gt 5, 3) := by decide +kernel
theorem dX2_pop_7 : decode cX2_pop 7 = .ok (.iconst 0, 1) := by decide +kernel
theorem dX2_pop_8 : decode cX2_pop 8 = .ok (.ireturn, 1) := by decide +kernel
theorem dX2_pop_9 : decode cX2_pop 9 = .ok (.aload_n 0, 1) := by decide +kernel
theorem dX2_pop_10 : decode cX2_pop 10 = .ok (.dup, 1) := by decide +kernel
theorem dX2_pop_11 : decode cX2_pop 11 = .ok (.getfield 105, 3) := by decide +kernel
theorem dX2_pop_14 : decode cX2_pop 14 = .ok (.iconst 1, 1) := by decide +kernel
theorem dX2_pop_15 : decode cX2_pop 15 = .ok (.isub, 1) := by decide +kernel
theorem dX2_pop_16 : decode cX2_pop 16 = .ok (.putfield 105, 3) := by decide +kernel
theorem dX2_pop_19 : decode cX2_pop 19 = .ok (.aload_n 0, 1) := by decide +kernel
theorem dX2_pop_20 : decode cX2_pop 20 = .ok (.getfield 21, 3) := by decide +kernel
theorem dX2_pop_23 : decode cX2_pop 23 = .ok (.aload_n 0, 1) := by decide +kernel
theorem dX2_pop_24 : decode cX2_pop 24 = .ok (.getfield 105, 3) := by decide +kernel
theorem dX2_pop_27 : decode cX2_pop 27 = .ok (.iaload, 1) := by decide +kernel
theorem dX2_pop_28 : decode cX2_pop 28 = .ok (.ireturn, 1) := by decide +kernel
theorem dX3_init_0 : decode cX3_init 0 = .ok (.aload_n 0, 1) := by decide +kernel
theorem dX3_init_1 : decode cX3_init 1 = .ok (.invokespecial 3, 3) := by decide +kernel
theorem dX3_init_4 : decode cX3_init 4 = .ok (.aload_n 0, 1) := by decide +kernel
theorem dX3_init_5 : decode cX3_init 5 = .ok (.sipush 194, 3) := by decide +kernel
theorem dX3_init_8 : decode cX3_init 8 = .ok (.newarray .int, 2) := by decide +kernel
theorem dX3_init_10 : decode cX3_init 10 = .ok (.putfield 9, 3) := by decide +kernel
theorem dX3_init_13 : decode cX3_init 13 = .ok (.iconst 0, 1) := by decide +kernel
theorem dX3_init_14 : decode cX3_init 14 = .ok (.istore_n 1, 1) := by decide +kernel
theorem dX3_init_15 : decode cX3_init 15 = .ok (.iload_n 1, 1) := by decide +kernel
theorem dX3_init_16 : decode cX3_init 16 = .ok (.bipush 60, 2) := by decide +kernel
theorem dX3_init_18 : decode cX3_init 18 = .ok (.if_icmp .ge 31, 3) := by decide +kernel
theorem dX3_init_21 : decode cX3_init 21 = .ok (.aload_n 0, 1) := by decide +kernel
theorem dX3_init_22 : decode cX3_init 22 = .ok (.getfield 9, 3) := by decide +kernel
theorem dX3_init_25 : decode cX3_init 25 = .ok (.bipush 72, 2) := by decide +kernel
theorem dX3_init_27 : decode cX3_init 27 = .ok (.iload_n 1, 1) := by decide +kernel
theorem dX3_init_28 : decode cX3_init 28 = .ok (.iadd, 1) := by decide +kernel
theorem dX3_init_29 : decode cX3_init 29 = .ok (.bipush 8, 2) := by decide +kernel
theorem dX3_init_31 : decode cX3_init 31 = .ok (.iastore, 1) := by decide +kernel
theorem dX3_init_32 : decode cX3_init 32 = .ok (.aload_n 0, 1) := by decide +kernel
theorem dX3_init_33 : decode cX3_init 33 = .ok (.getfield 9, 3) := by decide +kernel
theorem dX3_init_36 : decode cX3_init 36 = .ok (.sipush 132, 3) := by decide +kernel
theorem dX3_init_39 : decode cX3_init 39 = .ok (.iload_n 1, 1) := by decide +kernel
theorem dX3_init_40 : decode cX3_init 40 = .ok (.iadd, 1) := by decide +kernel
theorem dX3_init_41 : decode cX3_init 41 = .ok (.iconst 3, 1) := by decide +kernel
theorem dX3_init_42 : decode cX3_init 42 = .ok (.iastore, 1) := by decide +kernel
theorem dX3_init_43 : decode cX3_init 43 = .ok (.iinc 1 1, 3) := by decide +kernel
theorem dX3_init_46 : decode cX3_init 46 = .ok (.goto (-31), 3) := by decide +kernel
theorem dX3_init_49 : decode cX3_init 49 = .ok (.aload_n 0, 1) := by decide +kernel
theorem dX3_init_50 : decode cX3_init 50 = .ok (.getfield 9, 3) := by decide +kernel
theorem dX3_init_53 : decode cX3_init 53 = .ok (.sipush 192, 3) := by decide +kernel
theorem dX3_init_56 : decode cX3_init 56 = .ok (.bipush 6, 2) := by decide +kernel
theorem dX3_init_58 : decode cX3_init 58 = .ok (.iastore, 1) := by decide +kernel
theorem dX3_init_59 : decode cX3_init 59 = .ok (.aload_n 0, 1) := by decide +kernel
theorem dX3_init_60 : decode cX3_init 60 = .ok (.getfield 9, 3) := by decide +kernel
theorem dX3_init_63 : decode cX3_init 63 = .ok (.sipush 193, 3) := by decide +kernel
theorem dX3_init_66 : decode cX3_init 66 = .ok (.iconst 2, 1) := by decide +kernel
theorem dX3_init_67 : decode cX3_init 67 = .ok (.iastore, 1) := by decide +kernel
theorem dX3_init_68 : decode cX3_init 68 = .ok (.return_, 1) := by decide +kernel
theorem dX3_isCell_0 : decode cX3_isCell 0 = .ok (.iload_n 0, 1) := by decide +kernel
theorem dX3_isCell_1 : decode cX3_isCell 1 = .ok (.ifCond .lt 13, 3) := by decide +kernel
theorem dX3_isCell_4 : decode cX3_isCell 4 = .ok (.iload_n 0, 1) := by decide +kernel
theorem dX3_isCell_5 : decode cX3_isCell 5 = .ok (.bipush 36, 2) := by decide +kernel
theorem dX3_isCell_7 : decode cX3_isCell 7 = .ok (.if_icmp .ge 7, 3) := by decide +kernel
theorem dX3_isCell_10 : decode cX3_isCell 10 = .ok (.iconst 1, 1) := by decide +kernel
theorem dX3_isCell_11 : decode cX3_isCell 11 = .ok (.goto 4, 3) := by decide +kernel
theorem dX3_isCell_14 : decode cX3_isCell 14 = .ok (.iconst 0, 1) := by decide +kernel
theorem dX3_isCell_15 : decode cX3_isCell 15 = .ok (.ireturn, 1) := by decide +kernel
theorem dX3_place_0 : decode cX3_place 0 = .ok (.iload_n 1, 1) := by decide +kernel
theorem dX3_place_1 : decode cX3_place 1 = .ok (.ifCond .lt 24, 3) := by decide +kernel
theorem dX3_place_4 : decode cX3_place 4 = .ok (.iload_n 1, 1) := by decide +kernel
theorem dX3_place_5 : decode cX3_place 5 = .ok (.getstatic 15, 3) := by decide +kernel
theorem dX3_place_8 : decode cX3_place 8 = .ok (.arraylength, 1) := by decide +kernel
theorem dX3_place_9 : decode cX3_place 9 = .ok (.if_icmp .ge 16, 3) := by decide +kernel
theorem dX3_place_12 : decode cX3_place 12 = .ok (.iload_n 0, 1) := by decide +kernel
theorem dX3_place_13 : decode cX3_place 13 = .ok (.ifCond .lt 12, 3) := by decide +kernel
theorem dX3_place_16 : decode cX3_place 16 = .ok (.iload_n 0, 1) := by decide +kernel
theorem dX3_place_17 : decode cX3_place 17 = .ok (.getstatic 15, 3) := by decide +kernel
theorem dX3_place_20 : decode cX3_place 20 = .ok (.iload_n 1, 1) := by decide +kernel
theorem dX3_place_21 : decode cX3_place 21 = .ok (.iaload, 1) := by decide +kernel
theorem dX3_place_22 : decode cX3_place 22 = .ok (.if_icmp .lt 5, 3) := by decide +kernel
theorem dX3_place_25 : decode cX3_place 25 = .ok (.iconst (-1), 1) := by decide +kernel
theorem dX3_place_26 : decode cX3_place 26 = .ok (.ireturn, 1) := by decide +kernel
theorem dX3_place_27 : decode cX3_place 27 = .ok (.getstatic 18, 3) := by decide +kernel
theorem dX3_place_30 : decode cX3_place 30 = .ok (.iload_n 1, 1) := by decide +kernel
theorem dX3_place_31 : decode cX3_place 31 = .ok (.iaload, 1) := by decide +kernel
theorem dX3_place_32 : decode cX3_place 32 = .ok (.iload_n 0, 1) := by decide +kernel
theorem dX3_place_33 : decode cX3_place 33 = .ok (.iadd, 1) := by decide +kernel
theorem dX3_place_34 : decode cX3_place 34 = .ok (.ireturn, 1) := by decide +kernel
theorem dX3_mayBe_0 : decode cX3_mayBe 0 = .ok (.iload_n 0, 1) := by decide +kernel
theorem dX3_mayBe_1 : decode cX3_mayBe 1 = .ok (.ifCond .lt 33, 3) := by decide +kernel
theorem dX3_mayBe_4 : decode cX3_mayBe 4 = .ok (.iload_n 0, 1) := by decide +kernel
theorem dX3_mayBe_5 : decode cX3_mayBe 5 = .ok (.getstatic 21, 3) := by decide +kernel
theorem dX3_mayBe_8 : decode cX3_mayBe 8 = .ok (.arraylength, 1) := by decide +kernel
theorem dX3_mayBe_9 : decode cX3_mayBe 9 = .ok (.if_icmp .ge 25, 3) := by decide +kernel
theorem dX3_mayBe_12 : decode cX3_mayBe 12 = .ok (.iload_n 1, 1) := by decide +kernel
theorem dX3_mayBe_13 : decode cX3_mayBe 13 = .ok (.getstatic 21, 3) := by decide +kernel
theorem dX3_mayBe_16 : decode cX3_mayBe 16 = .ok (.iload_n 0, 1) := by decide +kernel
theorem dX3_mayBe_17 : decode cX3_mayBe 17 = .ok (.iaload, 1) := by decide +kernel
theorem dX3_mayBe_18 : decode cX3_mayBe 18 = .ok (.if_icmp .lt 16, 3) := by decide +kernel
theorem dX3_mayBe_21 : decode cX3_mayBe 21 = .ok (.iload_n 1, 1) := by decide +kernel
theorem dX3_mayBe_22 : decode cX3_mayBe 22 = .ok (.getstatic 24, 3) := by decide +kernel
theorem dX3_mayBe_25 : decode cX3_mayBe 25 = .ok (.iload_n 0, 1) := by decide +kernel
theorem dX3_mayBe_26 : decode cX3_mayBe 26 = .ok (.iaload, 1) := by decide +kernel
theorem dX3_mayBe_27 : decode cX3_mayBe 27 = .ok (.if_icmp .gt 7, 3) := by decide +kernel
theorem dX3_mayBe_30 : decode cX3_mayBe 30 = .ok (.iconst 1, 1) := by decide +kernel
theorem dX3_mayBe_31 : decode cX3_mayBe 31 = .ok (.goto 4, 3) := by decide +kernel
theorem dX3_mayBe_34 : decode cX3_mayBe 34 = .ok (.iconst 0, 1) := by decide +kernel
theorem dX3_mayBe_35 : decode cX3_mayBe 35 = .ok (.ireturn, 1) := by decide +kernel
theorem dX3_neighbour_0 : decode cX3_neighbour 0 = .ok (.iload_n 1, 1) := by decide +kernel
theorem dX3_neighbour_1 : decode cX3_neighbour 1 = .ok (.tableswitch 92 1 4 #[31, 46, 62, 77], 31) := by decide +kernel
theorem dX3_neighbour_32 : decode cX3_neighbour 32 = .ok (.iload_n 0, 1) := by decide +kernel
theorem dX3_neighbour_33 : decode cX3_neighbour 33 = .ok (.bipush 6, 2) := by decide +kernel
theorem dX3_neighbour_35 : decode cX3_neighbour 35 = .ok (.if_icmp .lt 10, 3) := by decide +kernel
theorem dX3_neighbour_38 : decode cX3_neighbour 38 = .ok (.iload_n 0, 1) := by decide +kernel
theorem dX3_neighbour_39 : decode cX3_neighbour 39 = .ok (.bipush 6, 2) := by decide +kernel
theorem dX3_neighbour_41 : decode cX3_neighbour 41 = .ok (.isub, 1) := by decide +kernel
theorem dX3_neighbour_42 : decode cX3_neighbour 42 = .ok (.goto 4, 3) := by decide +kernel
theorem dX3_neighbour_45 : decode cX3_neighbour 45 = .ok (.iconst (-1), 1) := by decide +kernel
theorem dX3_neighbour_46 : decode cX3_neighbour 46 = .ok (.ireturn, 1) := by decide +kernel
theorem dX3_neighbour_47 : decode cX3_neighbour 47 = .ok (.iload_n 0, 1) := by decide +kernel
theorem dX3_neighbour_48 : decode cX3_neighbour 48 = .ok (.bipush 6, 2) := by decide +kernel
theorem dX3_neighbour_50 : decode cX3_neighbour 50 = .ok (.irem, 1) := by decide +kernel
theorem dX3_neighbour_51 : decode cX3_neighbour 51 = .ok (.iconst 5, 1) := by decide +kernel
theorem dX3_neighbour_52 : decode cX3_neighbour 52 = .ok (.if_icmp .ge 9, 3) := by decide +kernel
theorem dX3_neighbour_55 : decode cX3_neighbour 55 = .ok (.iload_n 0, 1) := by decide +kernel
theorem dX3_neighbour_56 : decode cX3_neighbour 56 = .ok (.iconst 1, 1) := by decide +kernel
theorem dX3_neighbour_57 : decode cX3_neighbour 57 = .ok (.iadd, 1) := by decide +kernel
theorem dX3_neighbour_58 : decode cX3_neighbour 58 = .ok (.goto 4, 3) := by decide +kernel
theorem dX3_neighbour_61 : decode cX3_neighbour 61 = .ok (.iconst (-1), 1) := by decide +kernel
theorem dX3_neighbour_62 : decode cX3_neighbour 62 = .ok (.ireturn, 1) := by decide +kernel
theorem dX3_neighbour_63 : decode cX3_neighbour 63 = .ok (.iload_n 0, 1) := by decide +kernel
theorem dX3_neighbour_64 : decode cX3_neighbour 64 = .ok (.bipush 30, 2) := by decide +kernel
theorem dX3_neighbour_66 : decode cX3_neighbour 66 = .ok (.if_icmp .ge 10, 3) := by decide +kernel
theorem dX3_neighbour_69 : decode cX3_neighbour 69 = .ok (.iload_n 0, 1) := by decide +kernel
theorem dX3_neighbour_70 : decode cX3_neighbour 70 = .ok (.bipush 6, 2) := by decide +kernel
theorem dX3_neighbour_72 : decode cX3_neighbour 72 = .ok (.iadd, 1) := by decide +kernel
theorem dX3_neighbour_73 : decode cX3_neighbour 73 = .ok (.goto 4, 3) := by decide +kernel
theorem dX3_neighbour_76 : decode cX3_neighbour 76 = .ok (.iconst (-1), 1) := by decide +kernel
theorem dX3_neighbour_77 : decode cX3_neighbour 77 = .ok (.ireturn, 1) := by decide +kernel
theorem dX3_neighbour_78 : decode cX3_neighbour 78 = .ok (.iload_n 0, 1) := by decide +kernel
theorem dX3_neighbour_79 : decode cX3_neighbour 79 = .ok (.bipush 6, 2) := by decide +kernel
theorem dX3_neighbour_81 : decode cX3_neighbour 81 = .ok (.irem, 1) := by decide +kernel
theorem dX3_neighbour_82 : decode cX3_neighbour 82 = .ok (.ifCond .le 9, 3) := by decide +kernel
theorem dX3_neighbour_85 : decode cX3_neighbour 85 = .ok (.iload_n 0, 1) := by decide +kernel
theorem dX3_neighbour_86 : decode cX3_neighbour 86 = .ok (.iconst 1, 1) := by decide +kernel
theorem dX3_neighbour_87 : decode cX3_neighbour 87 = .ok (.isub, 1) := by decide +kernel
theorem dX3_neighbour_88 : decode cX3_neighbour 88 = .ok (.goto 4, 3) := by decide +kernel
theorem dX3_neighbour_91 : decode cX3_neighbour 91 = .ok (.iconst (-1), 1) := by decide +kernel
theorem dX3_neighbour_92 : decode cX3_neighbour 92 = .ok (.ireturn, 1) := by decide +kernel
theorem dX3_neighbour_93 : decode cX3_neighbour 93 = .ok (.iconst (-1), 1) := by decide +kernel
theorem dX3_neighbour_94 : decode cX3_neighbour 94 = .ok (.ireturn, 1) := by decide +kernel
theorem dX3_told_0 : decode cX3_told 0 = .ok (.iload_n 1, 1) := by decide +kernel
theorem dX3_told_1 : decode cX3_told 1 = .ok (.ifCond .lt 21, 3) := by decide +kernel
theorem dX3_told_4 : decode cX3_told 4 = .ok (.iload_n 1, 1) := by decide +kernel
theorem dX3_told_5 : decode cX3_told 5 = .ok (.aload_n 0, 1) := by decide +kernel
theorem dX3_told_6 : decode cX3_told 6 = .ok (.getfield 9, 3) := by decide +kernel
theorem dX3_told_9 : decode cX3_told 9 = .ok (.arraylength, 1) := by decide +kernel
theorem dX3_told_10 : decode cX3_told 10 = .ok (.if_icmp .ge 12, 3) := by decide +kernel
theorem dX3_told_13 : decode cX3_told 13 = .ok (.aload_n 0, 1) := by decide +kernel
theorem dX3_told_14 : decode cX3_told 14 = .ok (.getfield 9, 3) := by decide +kernel
theorem dX3_told_17 : decode cX3_told 17 = .ok (.iload_n 1, 1) := by decide +kernel
theorem dX3_told_18 : decode cX3_told 18 = .ok (.iaload, 1) := by decide +kernel
theorem dX3_told_19 : decode cX3_told 19 = .ok (.goto 4, 3) := by decide +kernel
theorem dX3_told_22 : decode cX3_told 22 = .ok (.iconst 0, 1) := by decide +kernel
theorem dX3_told_23 : decode cX3_told 23 = .ok (.ireturn, 1) := by decide +kernel
theorem dX3_tell_0 : decode cX3_tell 0 = .ok (.iload_n 1, 1) := by decide +kernel
theorem dX3_tell_1 : decode cX3_tell 1 = .ok (.ifCond .lt 19, 3) := by decide +kernel
theorem dX3_tell_4 : decode cX3_tell 4 = .ok (.iload_n 1, 1) := by decide +kernel
theorem dX3_tell_5 : decode cX3_tell 5 = .ok (.aload_n 0, 1) := by decide +kernel
theorem dX3_tell_6 : decode cX3_tell 6 = .ok (.getfield 9, 3) := by decide +kernel
theorem dX3_tell_9 : decode cX3_tell 9 = .ok (.arraylength, 1) := by decide +kernel
theorem dX3_tell_10 : decode cX3_tell 10 = .ok (.if_icmp .ge 10, 3) := by decide +kernel
theorem dX3_tell_13 : decode cX3_tell 13 = .ok (.aload_n 0, 1) := by decide +kernel
theorem dX3_tell_14 : decode cX3_tell 14 = .ok (.getfield 9, 3) := by decide +kernel
theorem dX3_tell_17 : decode cX3_tell 17 = .ok (.iload_n 1, 1) := by decide +kernel
theorem dX3_tell_18 : decode cX3_tell 18 = .ok (.iload_n 2, 1) := by decide +kernel
theorem dX3_tell_19 : decode cX3_tell 19 = .ok (.iastore, 1) := by decide +kernel
theorem dX3_tell_20 : decode cX3_tell 20 = .ok (.return_, 1) := by decide +kernel
theorem dX3_high_0 : decode cX3_high 0 = .ok (.iload_n 1, 1) := by decide +kernel
theorem dX3_high_1 : decode cX3_high 1 = .ok (.ifCond .lt 18, 3) := by decide +kernel
theorem dX3_high_4 : decode cX3_high 4 = .ok (.iload_n 1, 1) := by decide +kernel
theorem dX3_high_5 : decode cX3_high 5 = .ok (.bipush 36, 2) := by decide +kernel
theorem dX3_high_7 : decode cX3_high 7 = .ok (.if_icmp .ge 12, 3) := by decide +kernel
theorem dX3_high_10 : decode cX3_high 10 = .ok (.aload_n 0, 1) := by decide +kernel
theorem dX3_high_11 : decode cX3_high 11 = .ok (.getfield 9, 3) := by decide +kernel
theorem dX3_high_14 : decode cX3_high 14 = .ok (.iload_n 1, 1) := by decide +kernel
theorem dX3_high_15 : decode cX3_high 15 = .ok (.iaload, 1) := by decide +kernel
theorem dX3_high_16 : decode cX3_high 16 = .ok (.goto 4, 3) := by decide +kernel
theorem dX3_high_19 : decode cX3_high 19 = .ok (.iconst 0, 1) := by decide +kernel
theorem dX3_high_20 : decode cX3_high 20 = .ok (.ireturn, 1) := by decide +kernel
theorem dX3_isStone_0 : decode cX3_isStone 0 = .ok (.iload_n 1, 1) := by decide +kernel
theorem dX3_isStone_1 : decode cX3_isStone 1 = .ok (.ifCond .lt 26, 3) := by decide +kernel
theorem dX3_isStone_4 : decode cX3_isStone 4 = .ok (.iload_n 1, 1) := by decide +kernel
theorem dX3_isStone_5 : decode cX3_isStone 5 = .ok (.bipush 36, 2) := by decide +kernel
theorem dX3_isStone_7 : decode cX3_isStone 7 = .ok (.if_icmp .ge 20, 3) := by decide +kernel
theorem dX3_isStone_10 : decode cX3_isStone 10 = .ok (.aload_n 0, 1) := by decide +kernel
theorem dX3_isStone_11 : decode cX3_isStone 11 = .ok (.getfield 9, 3) := by decide +kernel
theorem dX3_isStone_14 : decode cX3_isStone 14 = .ok (.bipush 36, 2) := by decide +kernel
theorem dX3_isStone_16 : decode cX3_isStone 16 = .ok (.iload_n 1, 1) := by decide +kernel
theorem dX3_isStone_17 : decode cX3_isStone 17 = .ok (.iadd, 1) := by decide +kernel
theorem dX3_isStone_18 : decode cX3_isStone 18 = .ok (.iaload, 1) := by decide +kernel
theorem dX3_isStone_19 : decode cX3_isStone 19 = .ok (.iconst 1, 1) := by decide +kernel
theorem dX3_isStone_20 : decode cX3_isStone 20 = .ok (.if_icmp .ne 7, 3) := by decide +kernel
theorem dX3_isStone_23 : decode cX3_isStone 23 = .ok (.iconst 1, 1) := by decide +kernel
theorem dX3_isStone_24 : decode cX3_isStone 24 = .ok (.goto 4, 3) := by decide +kernel
theorem dX3_isStone_27 : decode cX3_isStone 27 = .ok (.iconst 0, 1) := by decide +kernel
theorem dX3_isStone_28 : decode cX3_isStone 28 = .ok (.ireturn, 1) := by decide +kernel
theorem dX3_sun_0 : decode cX3_sun 0 = .ok (.iload_n 1, 1) := by decide +kernel
theorem dX3_sun_1 : decode cX3_sun 1 = .ok (.ifCond .lt 21, 3) := by decide +kernel
theorem dX3_sun_4 : decode cX3_sun 4 = .ok (.iload_n 1, 1) := by decide +kernel
theorem dX3_sun_5 : decode cX3_sun 5 = .ok (.bipush 60, 2) := by decide +kernel
theorem dX3_sun_7 : decode cX3_sun 7 = .ok (.if_icmp .ge 15, 3) := by decide +kernel
theorem dX3_sun_10 : decode cX3_sun 10 = .ok (.aload_n 0, 1) := by decide +kernel
theorem dX3_sun_11 : decode cX3_sun 11 = .ok (.getfield 9, 3) := by decide +kernel
theorem dX3_sun_14 : decode cX3_sun 14 = .ok (.bipush 72, 2) := by decide +kernel
theorem dX3_sun_16 : decode cX3_sun 16 = .ok (.iload_n 1, 1) := by decide +kernel
theorem dX3_sun_17 : decode cX3_sun 17 = .ok (.iadd, 1) := by decide +kernel
theorem dX3_sun_18 : decode cX3_sun 18 = .ok (.iaload, 1) := by decide +kernel
theorem dX3_sun_19 : decode cX3_sun 19 = .ok (.goto 4, 3) := by decide +kernel
theorem dX3_sun_22 : decode cX3_sun 22 = .ok (.iconst 0, 1) := by decide +kernel
theorem dX3_sun_23 : decode cX3_sun 23 = .ok (.ireturn, 1) := by decide +kernel
theorem dX3_wind_0 : decode cX3_wind 0 = .ok (.iload_n 1, 1) := by decide +kernel
theorem dX3_wind_1 : decode cX3_wind 1 = .ok (.ifCond .lt 22, 3) := by decide +kernel
theorem dX3_wind_4 : decode cX3_wind 4 = .ok (.iload_n 1, 1) := by decide +kernel
theorem dX3_wind_5 : decode cX3_wind 5 = .ok (.bipush 60, 2) := by decide +kernel
theorem dX3_wind_7 : decode cX3_wind 7 = .ok (.if_icmp .ge 16, 3) := by decide +kernel
theorem dX3_wind_10 : decode cX3_wind 10 = .ok (.aload_n 0, 1) := by decide +kernel
theorem dX3_wind_11 : decode cX3_wind 11 = .ok (.getfield 9, 3) := by decide +kernel
theorem dX3_wind_14 : decode cX3_wind 14 = .ok (.sipush 132, 3) := by decide +kernel
theorem dX3_wind_17 : decode cX3_wind 17 = .ok (.iload_n 1, 1) := by decide +kernel
theorem dX3_wind_18 : decode cX3_wind 18 = .ok (.iadd, 1) := by decide +kernel
theorem dX3_wind_19 : decode cX3_wind 19 = .ok (.iaload, 1) := by decide +kernel
theorem dX3_wind_20 : decode cX3_wind 20 = .ok (.goto 4, 3) := by decide +kernel
theorem dX3_wind_23 : decode cX3_wind 23 = .ok (.iconst 0, 1) := by decide +kernel
theorem dX3_wind_24 : decode cX3_wind 24 = .ok (.ireturn, 1) := by decide +kernel
theorem dX3_odds_0 : decode cX3_odds 0 = .ok (.aload_n 0, 1) := by decide +kernel
theorem dX3_odds_1 : decode cX3_odds 1 = .ok (.getfield 9, 3) := by decide +kernel
theorem dX3_odds_4 : decode cX3_odds 4 = .ok (.sipush 193, 3) := by decide +kernel
theorem dX3_odds_7 : decode cX3_odds 7 = .ok (.iaload, 1) := by decide +kernel
theorem dX3_odds_8 : decode cX3_odds 8 = .ok (.ireturn, 1) := by decide +kernel
theorem dX3_price_0 : decode cX3_price 0 = .ok (.iconst 3, 1) := by decide +kernel
theorem dX3_price_1 : decode cX3_price 1 = .ok (.iconst 2, 1) := by decide +kernel
theorem dX3_price_2 : decode cX3_price 2 = .ok (.iconst 0, 1) := by decide +kernel
theorem dX3_price_3 : decode cX3_price 3 = .ok (.aload_n 0, 1) := by decide +kernel
theorem dX3_price_4 : decode cX3_price 4 = .ok (.iload_n 2, 1) := by decide +kernel
theorem dX3_price_5 : decode cX3_price 5 = .ok (.invokevirtual 27, 3) := by decide +kernel
theorem dX3_price_8 : decode cX3_price 8 = .ok (.aload_n 0, 1) := by decide +kernel
theorem dX3_price_9 : decode cX3_price 9 = .ok (.iload_n 1, 1) := by decide +kernel
theorem dX3_price_10 : decode cX3_price 10 = .ok (.invokevirtual 27, 3) := by decide +kernel
theorem dX3_price_13 : decode cX3_price 13 = .ok (.isub, 1) := by decide +kernel
theorem dX3_price_14 : decode cX3_price 14 = .ok (.invokestatic 31, 3) := by decide +kernel
theorem dX3_price_17 : decode cX3_price 17 = .ok (.imul, 1) := by decide +kernel
theorem dX3_price_18 : decode cX3_price 18 = .ok (.iadd, 1) := by decide +kernel
theorem dX3_price_19 : decode cX3_price 19 = .ok (.bipush 6, 2) := by decide +kernel
theorem dX3_price_21 : decode cX3_price 21 = .ok (.iadd, 1) := by decide +kernel
theorem dX3_price_22 : decode cX3_price 22 = .ok (.aload_n 0, 1) := by decide +kernel
theorem dX3_price_23 : decode cX3_price 23 = .ok (.getfield 9, 3) := by decide +kernel
theorem dX3_price_26 : decode cX3_price 26 = .ok (.sipush 192, 3) := by decide +kernel
theorem dX3_price_29 : decode cX3_price 29 = .ok (.iaload, 1) := by decide +kernel
theorem dX3_price_30 : decode cX3_price 30 = .ok (.isub, 1) := by decide +kernel
theorem dX3_price_31 : decode cX3_price 31 = .ok (.ireturn, 1) := by decide +kernel
theorem dX3_isHollow_0 : decode cX3_isHollow 0 = .ok (.iconst 1, 1) := by decide +kernel
theorem dX3_isHollow_1 : decode cX3_isHollow 1 = .ok (.istore_n 2, 1) := by decide +kernel
theorem dX3_isHollow_2 : decode cX3_isHollow 2 = .ok (.iload_n 2, 1) := by decide +kernel
theorem dX3_isHollow_3 : decode cX3_isHollow 3 = .ok (.iconst 4, 1) := by decide +kernel
theorem dX3_isHollow_4 : decode cX3_isHollow 4 = .ok (.if_icmp .gt 34, 3) := by decide +kernel
theorem dX3_isHollow_7 : decode cX3_isHollow 7 = .ok (.iload_n 1, 1) := by decide +kernel
theorem dX3_isHollow_8 : decode cX3_isHollow 8 = .ok (.iload_n 2, 1) := by decide +kernel
theorem dX3_isHollow_9 : decode cX3_isHollow 9 = .ok (.invokestatic 37, 3) := by decide +kernel
theorem dX3_isHollow_12 : decode cX3_isHollow 12 = .ok (.istore_n 3, 1) := by decide +kernel
theorem dX3_isHollow_13 : decode cX3_isHollow 13 = .ok (.iload_n 3, 1) := by decide +kernel
theorem dX3_isHollow_14 : decode cX3_isHollow 14 = .ok (.ifCond .lt 18, 3) := by decide +kernel
theorem dX3_isHollow_17 : decode cX3_isHollow 17 = .ok (.aload_n 0, 1) := by decide +kernel
theorem dX3_isHollow_18 : decode cX3_isHollow 18 = .ok (.iload_n 3, 1) := by decide +kernel
theorem dX3_isHollow_19 : decode cX3_isHollow 19 = .ok (.invokevirtual 27, 3) := by decide +kernel
theorem dX3_isHollow_22 : decode cX3_isHollow 22 = .ok (.aload_n 0, 1) := by decide +kernel
theorem dX3_isHollow_23 : decode cX3_isHollow 23 = .ok (.iload_n 1, 1) := by decide +kernel
theorem dX3_isHollow_24 : decode cX3_isHollow 24 = .ok (.invokevirtual 27, 3) := by decide +kernel
theorem dX3_isHollow_27 : decode cX3_isHollow 27 = .ok (.if_icmp .gt 5, 3) := by decide +kernel
theorem dX3_isHollow_30 : decode cX3_isHollow 30 = .ok (.iconst 0, 1) := by decide +kernel
theorem dX3_isHollow_31 : decode cX3_isHollow 31 = .ok (.ireturn, 1) := by decide +kernel
theorem dX3_isHollow_32 : decode cX3_isHollow 32 = .ok (.iinc 2 1, 3) := by decide +kernel
theorem dX3_isHollow_35 : decode cX3_isHollow 35 = .ok (.goto (-33), 3) := by decide +kernel
theorem dX3_isHollow_38 : decode cX3_isHollow 38 = .ok (.iconst 1, 1) := by decide +kernel
theorem dX3_isHollow_39 : decode cX3_isHollow 39 = .ok (.ireturn, 1) := by decide +kernel
theorem dX3_stones_0 : decode cX3_stones 0 = .ok (.iconst 0, 1) := by decide +kernel
theorem dX3_stones_1 : decode cX3_stones 1 = .ok (.istore_n 1, 1) := by decide +kernel
theorem dX3_stones_2 : decode cX3_stones 2 = .ok (.iconst 0, 1) := by decide +kernel
theorem dX3_stones_3 : decode cX3_stones 3 = .ok (.istore_n 2, 1) := by decide +kernel
theorem dX3_stones_4 : decode cX3_stones 4 = .ok (.iload_n 2, 1) := by decide +kernel
theorem dX3_stones_5 : decode cX3_stones 5 = .ok (.bipush 36, 2) := by decide +kernel
theorem dX3_stones_7 : decode cX3_stones 7 = .ok (.if_icmp .ge 20, 3) := by decide +kernel
theorem dX3_stones_10 : decode cX3_stones 10 = .ok (.aload_n 0, 1) := by decide +kernel
theorem dX3_stones_11 : decode cX3_stones 11 = .ok (.iload_n 2, 1) := by decide +kernel
theorem dX3_stones_12 : decode cX3_stones 12 = .ok (.invokevirtual 40, 3) := by decide +kernel
theorem dX3_stones_15 : decode cX3_stones 15 = .ok (.ifCond .eq 6, 3) := by decide +kernel
theorem dX3_stones_18 : decode cX3_stones 18 = .ok (.iinc 1 1, 3) := by decide +kernel
theorem dX3_stones_21 : decode cX3_stones 21 = .ok (.iinc 2 1, 3) := by decide +kernel
theorem dX3_stones_24 : decode cX3_stones 24 = .ok (.goto (-20), 3) := by decide +kernel
theorem dX3_stones_27 : decode cX3_stones 27 = .ok (.iload_n 1, 1) := by decide +kernel
theorem dX3_stones_28 : decode cX3_stones 28 = .ok (.ireturn, 1) := by decide +kernel
theorem dX3_hollows_0 : decode cX3_hollows 0 = .ok (.iconst 0, 1) := by decide +kernel
theorem dX3_hollows_1 : decode cX3_hollows 1 = .ok (.istore_n 1, 1) := by decide +kernel
theorem dX3_hollows_2 : decode cX3_hollows 2 = .ok (.iconst 0, 1) := by decide +kernel
theorem dX3_hollows_3 : decode cX3_hollows 3 = .ok (.istore_n 2, 1) := by decide +kernel
theorem dX3_hollows_4 : decode cX3_hollows 4 = .ok (.iload_n 2, 1) := by decide +kernel
theorem dX3_hollows_5 : decode cX3_hollows 5 = .ok (.bipush 36, 2) := by decide +kernel
theorem dX3_hollows_7 : decode cX3_hollows 7 = .ok (.if_icmp .ge 20, 3) := by decide +kernel
theorem dX3_hollows_10 : decode cX3_hollows 10 = .ok (.aload_n 0, 1) := by decide +kernel
theorem dX3_hollows_11 : decode cX3_hollows 11 = .ok (.iload_n 2, 1) := by decide +kernel
theorem dX3_hollows_12 : decode cX3_hollows 12 = .ok (.invokevirtual 44, 3) := by decide +kernel
theorem dX3_hollows_15 : decode cX3_hollows 15 = .ok (.ifCond .eq 6, 3) := by decide +kernel
theorem dX3_hollows_18 : decode cX3_hollows 18 = .ok (.iinc 1 1, 3) := by decide +kernel
theorem dX3_hollows_21 : decode cX3_hollows 21 = .ok (.iinc 2 1, 3) := by decide +kernel
theorem dX3_hollows_24 : decode cX3_hollows 24 = .ok (.goto (-20), 3) := by decide +kernel
theorem dX3_hollows_27 : decode cX3_hollows 27 = .ok (.iload_n 1, 1) := by decide +kernel
theorem dX3_hollows_28 : decode cX3_hollows 28 = .ok (.ireturn, 1) := by decide +kernel
theorem dX4_init_0 : decode cX4_init 0 = .ok (.aload_n 0, 1) := by decide +kernel
theorem dX4_init_1 : decode cX4_init 1 = .ok (.invokespecial 3, 3) := by decide +kernel
theorem dX4_init_4 : decode cX4_init 4 = .ok (.aload_n 0, 1) := by decide +kernel
theorem dX4_init_5 : decode cX4_init 5 = .ok (.sipush 360, 3) := by decide +kernel
theorem dX4_init_8 : decode cX4_init 8 = .ok (.newarray .int, 2) := by decide +kernel
theorem dX4_init_10 : decode cX4_init 10 = .ok (.putfield 13, 3) := by decide +kernel
theorem dX4_init_13 : decode cX4_init 13 = .ok (.aload_n 0, 1) := by decide +kernel
theorem dX4_init_14 : decode cX4_init 14 = .ok (.sipush 360, 3) := by decide +kernel
theorem dX4_init_17 : decode cX4_init 17 = .ok (.newarray .int, 2) := by decide +kernel
theorem dX4_init_19 : decode cX4_init 19 = .ok (.putfield 17, 3) := by decide +kernel
theorem dX4_init_22 : decode cX4_init 22 = .ok (.aload_n 0, 1) := by decide +kernel
theorem dX4_init_23 : decode cX4_init 23 = .ok (.new 20, 3) := by decide +kernel
theorem dX4_init_26 : decode cX4_init 26 = .ok (.dup, 1) := by decide +kernel
theorem dX4_init_27 : decode cX4_init 27 = .ok (.invokespecial 22, 3) := by decide +kernel
theorem dX4_init_30 : decode cX4_init 30 = .ok (.putfield 23, 3) := by decide +kernel
theorem dX4_init_33 : decode cX4_init 33 = .ok (.return_, 1) := by decide +kernel
theorem dX4_find_0 : decode cX4_find 0 = .ok (.aload_n 0, 1) := by decide +kernel
theorem dX4_find_1 : decode cX4_find 1 = .ok (.getfield 13, 3) := by decide +kernel
theorem dX4_find_4 : decode cX4_find 4 = .ok (.iconst (-1), 1) := by decide +kernel
theorem dX4_find_5 : decode cX4_find 5 = .ok (.invokestatic 27, 3) := by decide +kernel
theorem dX4_find_8 : decode cX4_find 8 = .ok (.aload_n 0, 1) := by decide +kernel
theorem dX4_find_9 : decode cX4_find 9 = .ok (.getfield 13, 3) := by decide +kernel
theorem dX4_find_12 : decode cX4_find 12 = .ok (.aload_n 2, 1) := by decide +kernel
theorem dX4_find_13 : decode cX4_find 13 = .ok (.invokestatic 33, 3) := by decide +kernel
theorem dX4_find_16 : decode cX4_find 16 = .ok (.bipush 20, 2) := by decide +kernel
theorem dX4_find_18 : decode cX4_find 18 = .ok (.bipush 60, 2) := by decide +kernel
theorem dX4_find_20 : decode cX4_find 20 = .ok (.iload_n 3, 1) := by decide +kernel
theorem dX4_find_21 : decode cX4_find 21 = .ok (.isub, 1) := by decide +kernel
theorem dX4_find_22 : decode cX4_find 22 = .ok (.invokestatic 37, 3) := by decide +kernel
theorem dX4_find_25 : decode cX4_find 25 = .ok (.istore 5, 2) := by decide +kernel
theorem dX4_find_27 : decode cX4_find 27 = .ok (.iconst 0, 1) := by decide +kernel
theorem dX4_find_28 : decode cX4_find 28 = .ok (.istore 6, 2) := by decide +kernel
theorem dX4_find_30 : decode cX4_find 30 = .ok (.iload 6, 2) := by decide +kernel
theorem dX4_find_32 : decode cX4_find 32 = .ok (.iload 5, 2) := by decide +kernel
theorem dX4_find_34 : decode cX4_find 34 = .ok (.if_icmp .gt 50, 3) := by decide +kernel
theorem dX4_find_37 : decode cX4_find 37 = .ok (.aload_n 0, 1) := by decide +kernel
theorem dX4_find_38 : decode cX4_find 38 = .ok (.aload_n 0, 1) := by decide +kernel
theorem dX4_find_39 : decode cX4_find 39 = .ok (.iload 4, 2) := by decide +kernel
theorem dX4_find_41 : decode cX4_find 41 = .ok (.invokevirtual 43, 3) := by decide +kernel
theorem dX4_find_44 : decode cX4_find 44 = .ok (.putfield 47, 3) := by decide +kernel
theorem dX4_find_47 : decode cX4_find 47 = .ok (.aload_n 0, 1) := by decide +kernel
theorem dX4_find_48 : decode cX4_find 48 = .ok (.iload 6, 2) := by decide +kernel
theorem dX4_find_50 : decode cX4_find 50 = .ok (.putfield 51, 3) := by decide +kernel
theorem dX4_find_53 : decode cX4_find 53 = .ok (.aload_n 0, 1) := by decide +kernel
theorem dX4_find_54 : decode cX4_find 54 = .ok (.getfield 47, 3) := by decide +kernel
theorem dX4_find_57 : decode cX4_find 57 = .ok (.ifCond .lt 5, 3) := by decide +kernel
theorem dX4_find_60 : decode cX4_find 60 = .ok (.iconst 1, 1) := by decide +kernel
theorem dX4_find_61 : decode cX4_find 61 = .ok (.ireturn, 1) := by decide +kernel
theorem dX4_find_62 : decode cX4_find 62 = .ok (.iload 6, 2) := by decide +kernel
theorem dX4_find_64 : decode cX4_find 64 = .ok (.iload 5, 2) := by decide +kernel
theorem dX4_find_66 : decode cX4_find 66 = .ok (.if_icmp .ge 12, 3) := by decide +kernel
theorem dX4_find_69 : decode cX4_find 69 = .ok (.aload_n 0, 1) := by decide +kernel
theorem dX4_find_70 : decode cX4_find 70 = .ok (.aload_n 1, 1) := by decide +kernel
theorem dX4_find_71 : decode cX4_find 71 = .ok (.iload_n 3, 1) := by decide +kernel
theorem dX4_find_72 : decode cX4_find 72 = .ok (.iload 6, 2) := by decide +kernel
theorem dX4_find_74 : decode cX4_find 74 = .ok (.iadd, 1) := by decide +kernel
theorem dX4_find_75 : decode cX4_find 75 = .ok (.invokevirtual 54, 3) := by decide +kernel
theorem dX4_find_78 : decode cX4_find 78 = .ok (.iinc 6 1, 3) := by decide +kernel
theorem dX4_find_81 : decode cX4_find 81 = .ok (.goto (-51), 3) := by decide +kernel
theorem dX4_find_84 : decode cX4_find 84 = .ok (.iconst 0, 1) := by decide +kernel
theorem dX4_find_85 : decode cX4_find 85 = .ok (.ireturn, 1) := by decide +kernel
theorem dX4_arrive_0 : decode cX4_arrive 0 = .ok (.aload_n 1, 1) := by decide +kernel
theorem dX4_arrive_1 : decode cX4_arrive 1 = .ok (.getfield 58, 3) := by decide +kernel
theorem dX4_arrive_4 : decode cX4_arrive 4 = .ok (.bipush 10, 2) := by decide +kernel
theorem dX4_arrive_6 : decode cX4_arrive 6 = .ok (.imul, 1) := by decide +kernel
theorem dX4_arrive_7 : decode cX4_arrive 7 = .ok (.aload_n 1, 1) := by decide +kernel
theorem dX4_arrive_8 : decode cX4_arrive 8 = .ok (.getfield 61, 3) := by decide +kernel
theorem dX4_arrive_11 : decode cX4_arrive 11 = .ok (.iadd, 1) := by decide +kernel
theorem dX4_arrive_12 : decode cX4_arrive 12 = .ok (.istore_n 2, 1) := by decide +kernel
theorem dX4_arrive_13 : decode cX4_arrive 13 = .ok (.iload_n 2, 1) := by decide +kernel
theorem dX4_arrive_14 : decode cX4_arrive 14 = .ok (.ifCond .lt 22, 3) := by decide +kernel
theorem dX4_arrive_17 : decode cX4_arrive 17 = .ok (.iload_n 2, 1) := by decide +kernel
theorem dX4_arrive_18 : decode cX4_arrive 18 = .ok (.aload_n 0, 1) := by decide +kernel
theorem dX4_arrive_19 : decode cX4_arrive 19 = .ok (.arraylength, 1) := by decide +kernel
theorem dX4_arrive_20 : decode cX4_arrive 20 = .ok (.if_icmp .ge 16, 3) := by decide +kernel
theorem dX4_arrive_23 : decode cX4_arrive 23 = .ok (.aload_n 0, 1) := by decide +kernel
theorem dX4_arrive_24 : decode cX4_arrive 24 = .ok (.iload_n 2, 1) := by decide +kernel
theorem dX4_arrive_25 : decode cX4_arrive 25 = .ok (.aload_n 0, 1) := by decide +kernel
theorem dX4_arrive_26 : decode cX4_arrive 26 = .ok (.iload_n 2, 1) := by decide +kernel
theorem dX4_arrive_27 : decode cX4_arrive 27 = .ok (.iaload, 1) := by decide +kernel
theorem dX4_arrive_28 : decode cX4_arrive 28 = .ok (.aload_n 1, 1) := by decide +kernel
theorem dX4_arrive_29 : decode cX4_arrive 29 = .ok (.getfield 64, 3) := by decide +kernel
theorem dX4_arrive_32 : decode cX4_arrive 32 = .ok (.invokestatic 67, 3) := by decide +kernel
theorem dX4_arrive_35 : decode cX4_arrive 35 = .ok (.iastore, 1) := by decide +kernel
theorem dX4_arrive_36 : decode cX4_arrive 36 = .ok (.return_, 1) := by decide +kernel
theorem dX4_mostIn_0 : decode cX4_mostIn 0 = .ok (.iconst (-1), 1) := by decide +kernel
theorem dX4_mostIn_1 : decode cX4_mostIn 1 = .ok (.istore_n 2, 1) := by decide +kernel
theorem dX4_mostIn_2 : decode cX4_mostIn 2 = .ok (.iconst 0, 1) := by decide +kernel
theorem dX4_mostIn_3 : decode cX4_mostIn 3 = .ok (.istore_n 3, 1) := by decide +kernel
theorem dX4_mostIn_4 : decode cX4_mostIn 4 = .ok (.iload_n 3, 1) := by decide +kernel
theorem dX4_mostIn_5 : decode cX4_mostIn 5 = .ok (.bipush 10, 2) := by decide +kernel
theorem dX4_mostIn_7 : decode cX4_mostIn 7 = .ok (.if_icmp .ge 25, 3) := by decide +kernel
theorem dX4_mostIn_10 : decode cX4_mostIn 10 = .ok (.iload_n 2, 1) := by decide +kernel
theorem dX4_mostIn_11 : decode cX4_mostIn 11 = .ok (.aload_n 0, 1) := by decide +kernel
theorem dX4_mostIn_12 : decode cX4_mostIn 12 = .ok (.getfield 13, 3) := by decide +kernel
theorem dX4_mostIn_15 : decode cX4_mostIn 15 = .ok (.iload_n 1, 1) := by decide +kernel
theorem dX4_mostIn_16 : decode cX4_mostIn 16 = .ok (.bipush 10, 2) := by decide +kernel
theorem dX4_mostIn_18 : decode cX4_mostIn 18 = .ok (.imul, 1) := by decide +kernel
theorem dX4_mostIn_19 : decode cX4_mostIn 19 = .ok (.iload_n 3, 1) := by decide +kernel
theorem dX4_mostIn_20 : decode cX4_mostIn 20 = .ok (.iadd, 1) := by decide +kernel
theorem dX4_mostIn_21 : decode cX4_mostIn 21 = .ok (.iaload, 1) := by decide +kernel
theorem dX4_mostIn_22 : decode cX4_mostIn 22 = .ok (.invokestatic 67, 3) := by decide +kernel
theorem dX4_mostIn_25 : decode cX4_mostIn 25 = .ok (.istore_n 2, 1) := by decide +kernel
theorem dX4_mostIn_26 : decode cX4_mostIn 26 = .ok (.iinc 3 1, 3) := by decide +kernel
theorem dX4_mostIn_29 : decode cX4_mostIn 29 = .ok (.goto (-25), 3) := by decide +kernel
theorem dX4_mostIn_32 : decode cX4_mostIn 32 = .ok (.iload_n 2, 1) := by decide +kernel
theorem dX4_mostIn_33 : decode cX4_mostIn 33 = .ok (.ireturn, 1) := by decide +kernel
theorem dX4_goOn_0 : decode cX4_goOn 0 = .ok (.aload_n 0, 1) := by decide +kernel
theorem dX4_goOn_1 : decode cX4_goOn 1 = .ok (.getfield 17, 3) := by decide +kernel
theorem dX4_goOn_4 : decode cX4_goOn 4 = .ok (.iconst (-1), 1) := by decide +kernel
theorem dX4_goOn_5 : decode cX4_goOn 5 = .ok (.invokestatic 27, 3) := by decide +kernel
theorem dX4_goOn_8 : decode cX4_goOn 8 = .ok (.aload_n 1, 1) := by decide +kernel
theorem dX4_goOn_9 : decode cX4_goOn 9 = .ok (.iload_n 2, 1) := by decide +kernel
theorem dX4_goOn_10 : decode cX4_goOn 10 = .ok (.invokevirtual 70, 3) := by decide +kernel
theorem dX4_goOn_13 : decode cX4_goOn 13 = .ok (.istore_n 3, 1) := by decide +kernel
theorem dX4_goOn_14 : decode cX4_goOn 14 = .ok (.aload_n 1, 1) := by decide +kernel
theorem dX4_goOn_15 : decode cX4_goOn 15 = .ok (.iload_n 2, 1) := by decide +kernel
theorem dX4_goOn_16 : decode cX4_goOn 16 = .ok (.invokevirtual 73, 3) := by decide +kernel
theorem dX4_goOn_19 : decode cX4_goOn 19 = .ok (.istore 4, 2) := by decide +kernel
theorem dX4_goOn_21 : decode cX4_goOn 21 = .ok (.iconst 0, 1) := by decide +kernel
theorem dX4_goOn_22 : decode cX4_goOn 22 = .ok (.istore 5, 2) := by decide +kernel
theorem dX4_goOn_24 : decode cX4_goOn 24 = .ok (.iload 5, 2) := by decide +kernel
theorem dX4_goOn_26 : decode cX4_goOn 26 = .ok (.aload_n 0, 1) := by decide +kernel
theorem dX4_goOn_27 : decode cX4_goOn 27 = .ok (.getfield 13, 3) := by decide +kernel
theorem dX4_goOn_30 : decode cX4_goOn 30 = .ok (.arraylength, 1) := by decide +kernel
theorem dX4_goOn_31 : decode cX4_goOn 31 = .ok (.if_icmp .ge 89, 3) := by decide +kernel
theorem dX4_goOn_34 : decode cX4_goOn 34 = .ok (.aload_n 0, 1) := by decide +kernel
theorem dX4_goOn_35 : decode cX4_goOn 35 = .ok (.getfield 13, 3) := by decide +kernel
theorem dX4_goOn_38 : decode cX4_goOn 38 = .ok (.iload 5, 2) := by decide +kernel
theorem dX4_goOn_40 : decode cX4_goOn 40 = .ok (.iaload, 1) := by decide +kernel
theorem dX4_goOn_41 : decode cX4_goOn 41 = .ok (.ifCond .ge 6, 3) := by decide +kernel
theorem dX4_goOn_44 : decode cX4_goOn 44 = .ok (.goto 70, 3) := by decide +kernel
theorem dX4_goOn_47 : decode cX4_goOn 47 = .ok (.iconst 0, 1) := by decide +kernel
theorem dX4_goOn_48 : decode cX4_goOn 48 = .ok (.istore 6, 2) := by decide +kernel
theorem dX4_goOn_50 : decode cX4_goOn 50 = .ok (.iload 6, 2) := by decide +kernel
theorem dX4_goOn_52 : decode cX4_goOn 52 = .ok (.iconst 4, 1) := by decide +kernel
theorem dX4_goOn_53 : decode cX4_goOn 53 = .ok (.if_icmp .gt 61, 3) := by decide +kernel
theorem dX4_goOn_56 : decode cX4_goOn 56 = .ok (.aload_n 0, 1) := by decide +kernel
theorem dX4_goOn_57 : decode cX4_goOn 57 = .ok (.getfield 23, 3) := by decide +kernel
theorem dX4_goOn_60 : decode cX4_goOn 60 = .ok (.iload 5, 2) := by decide +kernel
theorem dX4_goOn_62 : decode cX4_goOn 62 = .ok (.bipush 10, 2) := by decide +kernel
theorem dX4_goOn_64 : decode cX4_goOn 64 = .ok (.idiv, 1) := by decide +kernel
theorem dX4_goOn_65 : decode cX4_goOn 65 = .ok (.aload_n 0, 1) := by decide +kernel
theorem dX4_goOn_66 : decode cX4_goOn 66 = .ok (.getfield 13, 3) := by decide +kernel
theorem dX4_goOn_69 : decode cX4_goOn 69 = .ok (.iload 5, 2) := by decide +kernel
theorem dX4_goOn_71 : decode cX4_goOn 71 = .ok (.iaload, 1) := by decide +kernel
theorem dX4_goOn_72 : decode cX4_goOn 72 = .ok (.iload 5, 2) := by decide +kernel
theorem dX4_goOn_74 : decode cX4_goOn 74 = .ok (.bipush 10, 2) := by decide +kernel
theorem dX4_goOn_76 : decode cX4_goOn 76 = .ok (.irem, 1) := by decide +kernel
theorem dX4_goOn_77 : decode cX4_goOn 77 = .ok (.invokevirtual 76, 3) := by decide +kernel
theorem dX4_goOn_80 : decode cX4_goOn 80 = .ok (.aload_n 0, 1) := by decide +kernel
theorem dX4_goOn_81 : decode cX4_goOn 81 = .ok (.getfield 23, 3) := by decide +kernel
theorem dX4_goOn_84 : decode cX4_goOn 84 = .ok (.aload_n 1, 1) := by decide +kernel
theorem dX4_goOn_85 : decode cX4_goOn 85 = .ok (.iload_n 2, 1) := by decide +kernel
theorem dX4_goOn_86 : decode cX4_goOn 86 = .ok (.iload 6, 2) := by decide +kernel
theorem dX4_goOn_88 : decode cX4_goOn 88 = .ok (.iload_n 3, 1) := by decide +kernel
theorem dX4_goOn_89 : decode cX4_goOn 89 = .ok (.iload 4, 2) := by decide +kernel
theorem dX4_goOn_91 : decode cX4_goOn 91 = .ok (.invokevirtual 80, 3) := by decide +kernel
theorem dX4_goOn_94 : decode cX4_goOn 94 = .ok (.ifCond .eq 14, 3) := by decide +kernel
theorem dX4_goOn_97 : decode cX4_goOn 97 = .ok (.aload_n 0, 1) := by decide +kernel
theorem dX4_goOn_98 : decode cX4_goOn 98 = .ok (.getfield 17, 3) := by decide +kernel
theorem dX4_goOn_101 : decode cX4_goOn 101 = .ok (.aload_n 0, 1) := by decide +kernel
theorem dX4_goOn_102 : decode cX4_goOn 102 = .ok (.getfield 23, 3) := by decide +kernel
theorem dX4_goOn_105 : decode cX4_goOn 105 = .ok (.invokestatic 33, 3) := by decide +kernel
theorem dX4_goOn_108 : decode cX4_goOn 108 = .ok (.iinc 6 1, 3) := by decide +kernel
theorem dX4_goOn_111 : decode cX4_goOn 111 = .ok (.goto (-61), 3) := by decide +kernel
theorem dX4_goOn_114 : decode cX4_goOn 114 = .ok (.iinc 5 1, 3) := by decide +kernel
theorem dX4_goOn_117 : decode cX4_goOn 117 = .ok (.goto (-93), 3) := by decide +kernel
theorem dX4_goOn_120 : decode cX4_goOn 120 = .ok (.aload_n 0, 1) := by decide +kernel
theorem dX4_goOn_121 : decode cX4_goOn 121 = .ok (.getfield 17, 3) := by decide +kernel
theorem dX4_goOn_124 : decode cX4_goOn 124 = .ok (.iconst 0, 1) := by decide +kernel
theorem dX4_goOn_125 : decode cX4_goOn 125 = .ok (.aload_n 0, 1) := by decide +kernel
theorem dX4_goOn_126 : decode cX4_goOn 126 = .ok (.getfield 13, 3) := by decide +kernel
theorem dX4_goOn_129 : decode cX4_goOn 129 = .ok (.iconst 0, 1) := by decide +kernel
theorem dX4_goOn_130 : decode cX4_goOn 130 = .ok (.aload_n 0, 1) := by decide +kernel
theorem dX4_goOn_131 : decode cX4_goOn 131 = .ok (.getfield 13, 3) := by decide +kernel
theorem dX4_goOn_134 : decode cX4_goOn 134 = .ok (.arraylength, 1) := by decide +kernel
theorem dX4_goOn_135 : decode cX4_goOn 135 = .ok (.invokestatic 84, 3) := by decide +kernel
theorem dX4_goOn_138 : decode cX4_goOn 138 = .ok (.return_, 1) := by decide +kernel
theorem dX5_init_0 : decode cX5_init 0 = .ok (.aload_n 0, 1) := by decide +kernel
theorem dX5_init_1 : decode cX5_init 1 = .ok (.invokespecial 1, 3) := by decide +kernel
theorem dX5_init_4 : decode cX5_init 4 = .ok (.aload_n 0, 1) := by decide +kernel
theorem dX5_init_5 : decode cX5_init 5 = .ok (.bipush 60, 2) := by decide +kernel
theorem dX5_init_7 : decode cX5_init 7 = .ok (.newarray .long, 2) := by decide +kernel
theorem dX5_init_9 : decode cX5_init 9 = .ok (.putfield 9, 3) := by decide +kernel
theorem dX5_init_12 : decode cX5_init 12 = .ok (.return_, 1) := by decide +kernel
theorem dX5_isEmpty_0 : decode cX5_isEmpty 0 = .ok (.aload_n 0, 1) := by decide +kernel
theorem dX5_isEmpty_1 : decode cX5_isEmpty 1 = .ok (.getfield 13, 3) := by decide +kernel
theorem dX5_isEmpty_4 : decode cX5_isEmpty 4 = .ok (.ifCond .ne 7, 3) := by decide +kernel
theorem dX5_isEmpty_7 : decode cX5_isEmpty 7 = .ok (.iconst 1, 1) := by decide +kernel
theorem dX5_isEmpty_8 : decode cX5_isEmpty 8 = .ok (.goto 4, 3) := by decide +kernel
theorem dX5_isEmpty_11 : decode cX5_isEmpty 11 = .ok (.iconst 0, 1) := by decide +kernel
theorem dX5_isEmpty_12 : decode cX5_isEmpty 12 = .ok (.ireturn, 1) := by decide +kernel
theorem dX5_isRow_0 : decode cX5_isRow 0 = .ok (.aload_n 0, 1) := by decide +kernel
theorem dX5_isRow_1 : decode cX5_isRow 1 = .ok (.getfield 13, 3) := by decide +kernel
theorem dX5_isRow_4 : decode cX5_isRow 4 = .ok (.iconst 2, 1) := by decide +kernel
theorem dX5_isRow_5 : decode cX5_isRow 5 = .ok (.if_icmp .ne 7, 3) := by decide +kernel
theorem dX5_isRow_8 : decode cX5_isRow 8 = .ok (.iconst 1, 1) := by decide +kernel
theorem dX5_isRow_9 : decode cX5_isRow 9 = .ok (.goto 4, 3) := by decide +kernel
theorem dX5_isRow_12 : decode cX5_isRow 12 = .ok (.iconst 0, 1) := by decide +kernel
theorem dX5_isRow_13 : decode cX5_isRow 13 = .ok (.ireturn, 1) := by decide +kernel
theorem dX5_isBytes_0 : decode cX5_isBytes 0 = .ok (.aload_n 0, 1) := by decide +kernel
theorem dX5_isBytes_1 : decode cX5_isBytes 1 = .ok (.getfield 13, 3) := by decide +kernel
theorem dX5_isBytes_4 : decode cX5_isBytes 4 = .ok (.iconst 2, 1) := by decide +kernel
theorem dX5_isBytes_5 : decode cX5_isBytes 5 = .ok (.if_icmp .ne 14, 3) := by decide +kernel
theorem dX5_isBytes_8 : decode cX5_isBytes 8 = .ok (.aload_n 0, 1) := by decide +kernel
theorem dX5_isBytes_9 : decode cX5_isBytes 9 = .ok (.getfield 17, 3) := by decide +kernel
theorem dX5_isBytes_12 : decode cX5_isBytes 12 = .ok (.ifCond .ne 7, 3) := by decide +kernel
theorem dX5_isBytes_15 : decode cX5_isBytes 15 = .ok (.iconst 1, 1) := by decide +kernel
theorem dX5_isBytes_16 : decode cX5_isBytes 16 = .ok (.goto 4, 3) := by decide +kernel
theorem dX5_isBytes_19 : decode cX5_isBytes 19 = .ok (.iconst 0, 1) := by decide +kernel
theorem dX5_isBytes_20 : decode cX5_isBytes 20 = .ok (.ireturn, 1) := by decide +kernel
theorem dX5_holdNothing_0 : decode cX5_holdNothing 0 = .ok (.aload_n 0, 1) := by decide +kernel
theorem dX5_holdNothing_1 : decode cX5_holdNothing 1 = .ok (.iconst 0, 1) := by decide +kernel
theorem dX5_holdNothing_2 : decode cX5_holdNothing 2 = .ok (.putfield 13, 3) := by decide +kernel
theorem dX5_holdNothing_5 : decode cX5_holdNothing 5 = .ok (.return_, 1) := by decide +kernel
theorem dX5_holdBody_0 : decode cX5_holdBody 0 = .ok (.aload_n 0, 1) := by decide +kernel
theorem dX5_holdBody_1 : decode cX5_holdBody 1 = .ok (.iconst 1, 1) := by decide +kernel
theorem dX5_holdBody_2 : decode cX5_holdBody 2 = .ok (.putfield 13, 3) := by decide +kernel
theorem dX5_holdBody_5 : decode cX5_holdBody 5 = .ok (.aload_n 0, 1) := by decide +kernel
theorem dX5_holdBody_6 : decode cX5_holdBody 6 = .ok (.iload_n 1, 1) := by decide +kernel
theorem dX5_holdBody_7 : decode cX5_holdBody 7 = .ok (.putfield 20, 3) := by decide +kernel
theorem dX5_holdBody_10 : decode cX5_holdBody 10 = .ok (.return_, 1) := by decide +kernel
theorem dX5_holdRow_0 : decode cX5_holdRow 0 = .ok (.aload_n 0, 1) := by decide +kernel
theorem dX5_holdRow_1 : decode cX5_holdRow 1 = .ok (.iconst 2, 1) := by decide +kernel
theorem dX5_holdRow_2 : decode cX5_holdRow 2 = .ok (.putfield 13, 3) := by decide +kernel
theorem dX5_holdRow_5 : decode cX5_holdRow 5 = .ok (.aload_n 0, 1) := by decide +kernel
theorem dX5_holdRow_6 : decode cX5_holdRow 6 = .ok (.iload_n 1, 1) := by decide +kernel
theorem dX5_holdRow_7 : decode cX5_holdRow 7 = .ok (.putfield 17, 3) := by decide +kernel
theorem dX5_holdRow_10 : decode cX5_holdRow 10 = .ok (.aload_n 0, 1) := by decide +kernel
theorem dX5_holdRow_11 : decode cX5_holdRow 11 = .ok (.bipush 60, 2) := by decide +kernel
theorem dX5_holdRow_13 : decode cX5_holdRow 13 = .ok (.iconst 0, 1) := by decide +kernel
theorem dX5_holdRow_14 : decode cX5_holdRow 14 = .ok (.iload_n 2, 1) := by decide +kernel
theorem dX5_holdRow_15 : decode cX5_holdRow 15 = .ok (.invokestatic 23, 3) := by decide +kernel
theorem dX5_holdRow_18 : decode cX5_holdRow 18 = .ok (.invokestatic 29, 3) := by decide +kernel
theorem dX5_holdRow_21 : decode cX5_holdRow 21 = .ok (.putfield 32, 3) := by decide +kernel
theorem dX5_holdRow_24 : decode cX5_holdRow 24 = .ok (.aload_n 0, 1) := by decide +kernel
theorem dX5_holdRow_25 : decode cX5_holdRow 25 = .ok (.getfield 9, 3) := by decide +kernel
theorem dX5_holdRow_28 : decode cX5_holdRow 28 = .ok (.lconst 0, 1) := by decide +kernel
theorem dX5_holdRow_29 : decode cX5_holdRow 29 = .ok (.invokestatic 35, 3) := by decide +kernel
theorem dX5_holdRow_32 : decode cX5_holdRow 32 = .ok (.return_, 1) := by decide +kernel
theorem dX5_hasPlaces_0 : decode cX5_hasPlaces 0 = .ok (.iload_n 1, 1) := by decide +kernel
theorem dX5_hasPlaces_1 : decode cX5_hasPlaces 1 = .ok (.ifCond .lt 29, 3) := by decide +kernel
theorem dX5_hasPlaces_4 : decode cX5_hasPlaces 4 = .ok (.iload_n 2, 1) := by decide +kernel
theorem dX5_hasPlaces_5 : decode cX5_hasPlaces 5 = .ok (.ifCond .lt 25, 3) := by decide +kernel
theorem dX5_hasPlaces_8 : decode cX5_hasPlaces 8 = .ok (.iload_n 1, 1) := by decide +kernel
theorem dX5_hasPlaces_9 : decode cX5_hasPlaces 9 = .ok (.aload_n 0, 1) := by decide +kernel
theorem dX5_hasPlaces_10 : decode cX5_hasPlaces 10 = .ok (.getfield 32, 3) := by decide +kernel
theorem dX5_hasPlaces_13 : decode cX5_hasPlaces 13 = .ok (.if_icmp .gt 17, 3) := by decide +kernel
theorem dX5_hasPlaces_16 : decode cX5_hasPlaces 16 = .ok (.iload_n 2, 1) := by decide +kernel
theorem dX5_hasPlaces_17 : decode cX5_hasPlaces 17 = .ok (.aload_n 0, 1) := by decide +kernel
theorem dX5_hasPlaces_18 : decode cX5_hasPlaces 18 = .ok (.getfield 32, 3) := by decide +kernel
theorem dX5_hasPlaces_21 : decode cX5_hasPlaces 21 = .ok (.iload_n 1, 1) := by decide +kernel
theorem dX5_hasPlaces_22 : decode cX5_hasPlaces 22 = .ok (.isub, 1) := by decide +kernel
theorem dX5_hasPlaces_23 : decode cX5_hasPlaces 23 = .ok (.if_icmp .gt 7, 3) := by decide +kernel
theorem dX5_hasPlaces_26 : decode cX5_hasPlaces 26 = .ok (.iconst 1, 1) := by decide +kernel
theorem dX5_hasPlaces_27 : decode cX5_hasPlaces 27 = .ok (.goto 4, 3) := by decide +kernel
theorem dX5_hasPlaces_30 : decode cX5_hasPlaces 30 = .ok (.iconst 0, 1) := by decide +kernel
theorem dX5_hasPlaces_31 : decode cX5_hasPlaces 31 = .ok (.ireturn, 1) := by decide +kernel
theorem dX5_at_0 : decode cX5_at 0 = .ok (.aload_n 0, 1) := by decide +kernel
theorem dX5_at_1 : decode cX5_at 1 = .ok (.iload_n 1, 1) := by decide +kernel
theorem dX5_at_2 : decode cX5_at 2 = .ok (.iconst 1, 1) := by decide +kernel
theorem dX5_at_3 : decode cX5_at 3 = .ok (.invokevirtual 41, 3) := by decide +kernel
theorem dX5_at_6 : decode cX5_at 6 = .ok (.ifCond .eq 12, 3) := by decide +kernel
theorem dX5_at_9 : decode cX5_at 9 = .ok (.aload_n 0, 1) := by decide +kernel
theorem dX5_at_10 : decode cX5_at 10 = .ok (.getfield 9, 3) := by decide +kernel
theorem dX5_at_13 : decode cX5_at 13 = .ok (.iload_n 1, 1) := by decide +kernel
theorem dX5_at_14 : decode cX5_at 14 = .ok (.laload, 1) := by decide +kernel
theorem dX5_at_15 : decode cX5_at 15 = .ok (.goto 4, 3) := by decide +kernel
theorem dX5_at_18 : decode cX5_at 18 = .ok (.lconst 0, 1) := by decide +kernel
theorem dX5_at_19 : decode cX5_at 19 = .ok (.lreturn, 1) := by decide +kernel
theorem dX5_set_0 : decode cX5_set 0 = .ok (.aload_n 0, 1) := by decide +kernel
theorem dX5_set_1 : decode cX5_set 1 = .ok (.iload_n 1, 1) := by decide +kernel
theorem dX5_set_2 : decode cX5_set 2 = .ok (.iconst 1, 1) := by decide +kernel
theorem dX5_set_3 : decode cX5_set 3 = .ok (.invokevirtual 41, 3) := by decide +kernel
theorem dX5_set_6 : decode cX5_set 6 = .ok (.ifCond .eq 14, 3) := by decide +kernel
theorem dX5_set_9 : decode cX5_set 9 = .ok (.aload_n 0, 1) := by decide +kernel
theorem dX5_set_10 : decode cX5_set 10 = .ok (.getfield 9, 3) := by decide +kernel
theorem dX5_set_13 : decode cX5_set 13 = .ok (.iload_n 1, 1) := by decide +kernel
theorem dX5_set_14 : decode cX5_set 14 = .ok (.aload_n 0, 1) := by decide +kernel
theorem dX5_set_15 : decode cX5_set 15 = .ok (.lload_n 2, 1) := by decide +kernel
theorem dX5_set_16 : decode cX5_set 16 = .ok (.invokevirtual 45, 3) := by decide +kernel
theorem dX5_set_19 : decode cX5_set 19 = .ok (.lastore, 1) := by decide +kernel
theorem dX5_set_20 : decode cX5_set 20 = .ok (.return_, 1) := by decide +kernel
theorem dX5_narrowed_0 : decode cX5_narrowed 0 = .ok (.aload_n 0, 1) := by decide +kernel
theorem dX5_narrowed_1 : decode cX5_narrowed 1 = .ok (.getfield 17, 3) := by decide +kernel
theorem dX5_narrowed_4 : decode cX5_narrowed 4 = .ok (.tableswitch 48 0 3 #[32, 37, 42, 46], 32) := by decide +kernel
theorem dX5_narrowed_36 : decode cX5_narrowed 36 = .ok (.lload_n 1, 1) := by decide +kernel
theorem dX5_narrowed_37 : decode cX5_narrowed 37 = .ok (.l2i, 1) := by decide +kernel
theorem dX5_narrowed_38 : decode cX5_narrowed 38 = .ok (.i2b, 1) := by decide +kernel
theorem dX5_narrowed_39 : decode cX5_narrowed 39 = .ok (.i2l, 1) := by decide +kernel
theorem dX5_narrowed_40 : decode cX5_narrowed 40 = .ok (.lreturn, 1) := by decide +kernel
theorem dX5_narrowed_41 : decode cX5_narrowed 41 = .ok (.lload_n 1, 1) := by decide +kernel
theorem dX5_narrowed_42 : decode cX5_narrowed 42 = .ok (.l2i, 1) := by decide +kernel
theorem dX5_narrowed_43 : decode cX5_narrowed 43 = .ok (.i2s, 1) := by decide +kernel
theorem dX5_narrowed_44 : decode cX5_narrowed 44 = .ok (.i2l, 1) := by decide +kernel
theorem dX5_narrowed_45 : decode cX5_narrowed 45 = .ok (.lreturn, 1) := by decide +kernel
theorem dX5_narrowed_46 : decode cX5_narrowed 46 = .ok (.lload_n 1, 1) := by decide +kernel
theorem dX5_narrowed_47 : decode cX5_narrowed 47 = .ok (.l2i, 1) := by decide +kernel
theorem dX5_narrowed_48 : decode cX5_narrowed 48 = .ok (.i2l, 1) := by decide +kernel
theorem dX5_narrowed_49 : decode cX5_narrowed 49 = .ok (.lreturn, 1) := by decide +kernel
theorem dX5_narrowed_50 : decode cX5_narrowed 50 = .ok (.lload_n 1, 1) := by decide +kernel
theorem dX5_narrowed_51 : decode cX5_narrowed 51 = .ok (.lreturn, 1) := by decide +kernel
theorem dX5_narrowed_52 : decode cX5_narrowed 52 = .ok (.lload_n 1, 1) := by decide +kernel
theorem dX5_narrowed_53 : decode cX5_narrowed 53 = .ok (.lconst 0, 1) := by decide +kernel
theorem dX5_narrowed_54 : decode cX5_narrowed 54 = .ok (.lcmp, 1) := by decide +kernel
theorem dX5_narrowed_55 : decode cX5_narrowed 55 = .ok (.ifCond .eq 7, 3) := by decide +kernel
theorem dX5_narrowed_58 : decode cX5_narrowed 58 = .ok (.lconst 1, 1) := by decide +kernel
theorem dX5_narrowed_59 : decode cX5_narrowed 59 = .ok (.goto 4, 3) := by decide +kernel
theorem dX5_narrowed_62 : decode cX5_narrowed 62 = .ok (.lconst 0, 1) := by decide +kernel
theorem dX5_narrowed_63 : decode cX5_narrowed 63 = .ok (.lreturn, 1) := by decide +kernel
theorem dX6_init_0 : decode cX6_init 0 = .ok (.aload_n 0, 1) := by decide +kernel
theorem dX6_init_1 : decode cX6_init 1 = .ok (.invokespecial 1, 3) := by decide +kernel
theorem dX6_init_4 : decode cX6_init 4 = .ok (.aload_n 0, 1) := by decide +kernel
theorem dX6_init_5 : decode cX6_init 5 = .ok (.bipush 36, 2) := by decide +kernel
theorem dX6_init_7 : decode cX6_init 7 = .ok (.newarray .int, 2) := by decide +kernel
theorem dX6_init_9 : decode cX6_init 9 = .ok (.putfield 9, 3) := by decide +kernel
theorem dX6_init_12 : decode cX6_init 12 = .ok (.aload_n 0, 1) := by decide +kernel
theorem dX6_init_13 : decode cX6_init 13 = .ok (.iconst 5, 1) := by decide +kernel
theorem dX6_init_14 : decode cX6_init 14 = .ok (.newarray .int, 2) := by decide +kernel
theorem dX6_init_16 : decode cX6_init 16 = .ok (.putfield 15, 3) := by decide +kernel
theorem dX6_init_19 : decode cX6_init 19 = .ok (.aload_n 0, 1) := by decide +kernel
theorem dX6_init_20 : decode cX6_init 20 = .ok (.iconst 5, 1) := by decide +kernel
theorem dX6_init_21 : decode cX6_init 21 = .ok (.newarray .int, 2) := by decide +kernel
theorem dX6_init_23 : decode cX6_init 23 = .ok (.putfield 18, 3) := by decide +kernel
theorem dX6_init_26 : decode cX6_init 26 = .ok (.aload_n 0, 1) := by decide +kernel
theorem dX6_init_27 : decode cX6_init 27 = .ok (.bipush 25, 2) := by decide +kernel
theorem dX6_init_29 : decode cX6_init 29 = .ok (.newarray .int, 2) := by decide +kernel
theorem dX6_init_31 : decode cX6_init 31 = .ok (.putfield 21, 3) := by decide +kernel
theorem dX6_init_34 : decode cX6_init 34 = .ok (.aload_n 0, 1) := by decide +kernel
theorem dX6_init_35 : decode cX6_init 35 = .ok (.sipush 160, 3) := by decide +kernel
theorem dX6_init_38 : decode cX6_init 38 = .ok (.newarray .int, 2) := by decide +kernel
theorem dX6_init_40 : decode cX6_init 40 = .ok (.putfield 24, 3) := by decide +kernel
theorem dX6_init_43 : decode cX6_init 43 = .ok (.return_, 1) := by decide +kernel
theorem dX6_spreadTo_0 : decode cX6_spreadTo 0 = .ok (.iconst 0, 1) := by decide +kernel
theorem dX6_spreadTo_1 : decode cX6_spreadTo 1 = .ok (.istore_n 3, 1) := by decide +kernel
theorem dX6_spreadTo_2 : decode cX6_spreadTo 2 = .ok (.iload_n 3, 1) := by decide +kernel
theorem dX6_spreadTo_3 : decode cX6_spreadTo 3 = .ok (.bipush 36, 2) := by decide +kernel
theorem dX6_spreadTo_5 : decode cX6_spreadTo 5 = .ok (.if_icmp .ge 57, 3) := by decide +kernel
theorem dX6_spreadTo_8 : decode cX6_spreadTo 8 = .ok (.iload_n 2, 1) := by decide +kernel
theorem dX6_spreadTo_9 : decode cX6_spreadTo 9 = .ok (.iconst (-1), 1) := by decide +kernel
theorem dX6_spreadTo_10 : decode cX6_spreadTo 10 = .ok (.if_icmp .ne 17, 3) := by decide +kernel
theorem dX6_spreadTo_13 : decode cX6_spreadTo 13 = .ok (.iload_n 3, 1) := by decide +kernel
theorem dX6_spreadTo_14 : decode cX6_spreadTo 14 = .ok (.bipush 6, 2) := by decide +kernel
theorem dX6_spreadTo_16 : decode cX6_spreadTo 16 = .ok (.if_icmp .ge 7, 3) := by decide +kernel
theorem dX6_spreadTo_19 : decode cX6_spreadTo 19 = .ok (.iconst 1, 1) := by decide +kernel
theorem dX6_spreadTo_20 : decode cX6_spreadTo 20 = .ok (.goto 17, 3) := by decide +kernel
theorem dX6_spreadTo_23 : decode cX6_spreadTo 23 = .ok (.iconst 0, 1) := by decide +kernel
theorem dX6_spreadTo_24 : decode cX6_spreadTo 24 = .ok (.goto 13, 3) := by decide +kernel
theorem dX6_spreadTo_27 : decode cX6_spreadTo 27 = .ok (.iload_n 3, 1) := by decide +kernel
theorem dX6_spreadTo_28 : decode cX6_spreadTo 28 = .ok (.iload_n 2, 1) := by decide +kernel
theorem dX6_spreadTo_29 : decode cX6_spreadTo 29 = .ok (.if_icmp .ne 7, 3) := by decide +kernel
theorem dX6_spreadTo_32 : decode cX6_spreadTo 32 = .ok (.iconst 1, 1) := by decide +kernel
theorem dX6_spreadTo_33 : decode cX6_spreadTo 33 = .ok (.goto 4, 3) := by decide +kernel
theorem dX6_spreadTo_36 : decode cX6_spreadTo 36 = .ok (.iconst 0, 1) := by decide +kernel
theorem dX6_spreadTo_37 : decode cX6_spreadTo 37 = .ok (.istore 4, 2) := by decide +kernel
theorem dX6_spreadTo_39 : decode cX6_spreadTo 39 = .ok (.aload_n 0, 1) := by decide +kernel
theorem dX6_spreadTo_40 : decode cX6_spreadTo 40 = .ok (.getfield 9, 3) := by decide +kernel
theorem dX6_spreadTo_43 : decode cX6_spreadTo 43 = .ok (.iload_n 3, 1) := by decide +kernel
theorem dX6_spreadTo_44 : decode cX6_spreadTo 44 = .ok (.iload 4, 2) := by decide +kernel
theorem dX6_spreadTo_46 : decode cX6_spreadTo 46 = .ok (.ifCond .eq 7, 3) := by decide +kernel
theorem dX6_spreadTo_49 : decode cX6_spreadTo 49 = .ok (.iconst 0, 1) := by decide +kernel
theorem dX6_spreadTo_50 : decode cX6_spreadTo 50 = .ok (.goto 5, 3) := by decide +kernel
theorem dX6_spreadTo_53 : decode cX6_spreadTo 53 = .ok (.ldc 27, 2) := by decide +kernel
theorem dX6_spreadTo_55 : decode cX6_spreadTo 55 = .ok (.iastore, 1) := by decide +kernel
theorem dX6_spreadTo_56 : decode cX6_spreadTo 56 = .ok (.iinc 3 1, 3) := by decide +kernel
theorem dX6_spreadTo_59 : decode cX6_spreadTo 59 = .ok (.goto (-57), 3) := by decide +kernel
theorem dX6_spreadTo_62 : decode cX6_spreadTo 62 = .ok (.lconst 0, 1) := by decide +kernel
theorem dX6_spreadTo_63 : decode cX6_spreadTo 63 = .ok (.lstore_n 3, 1) := by decide +kernel
theorem dX6_spreadTo_64 : decode cX6_spreadTo 64 = .ok (.iconst 0, 1) := by decide +kernel
theorem dX6_spreadTo_65 : decode cX6_spreadTo 65 = .ok (.istore 5, 2) := by decide +kernel
theorem dX6_spreadTo_67 : decode cX6_spreadTo 67 = .ok (.iload 5, 2) := by decide +kernel
theorem dX6_spreadTo_69 : decode cX6_spreadTo 69 = .ok (.bipush 36, 2) := by decide +kernel
theorem dX6_spreadTo_71 : decode cX6_spreadTo 71 = .ok (.if_icmp .ge 38, 3) := by decide +kernel
theorem dX6_spreadTo_74 : decode cX6_spreadTo 74 = .ok (.aload_n 0, 1) := by decide +kernel
theorem dX6_spreadTo_75 : decode cX6_spreadTo 75 = .ok (.lload_n 3, 1) := by decide +kernel
theorem dX6_spreadTo_76 : decode cX6_spreadTo 76 = .ok (.invokevirtual 28, 3) := by decide +kernel
theorem dX6_spreadTo_79 : decode cX6_spreadTo 79 = .ok (.istore 6, 2) := by decide +kernel
theorem dX6_spreadTo_81 : decode cX6_spreadTo 81 = .ok (.iload 6, 2) := by decide +kernel
theorem dX6_spreadTo_83 : decode cX6_spreadTo 83 = .ok (.ifCond .ge 6, 3) := by decide +kernel
theorem dX6_spreadTo_86 : decode cX6_spreadTo 86 = .ok (.goto 23, 3) := by decide +kernel
theorem dX6_spreadTo_89 : decode cX6_spreadTo 89 = .ok (.lload_n 3, 1) := by decide +kernel
theorem dX6_spreadTo_90 : decode cX6_spreadTo 90 = .ok (.lconst 1, 1) := by decide +kernel
theorem dX6_spreadTo_91 : decode cX6_spreadTo 91 = .ok (.iload 6, 2) := by decide +kernel
theorem dX6_spreadTo_93 : decode cX6_spreadTo 93 = .ok (.lshl, 1) := by decide +kernel
theorem dX6_spreadTo_94 : decode cX6_spreadTo 94 = .ok (.lor, 1) := by decide +kernel
theorem dX6_spreadTo_95 : decode cX6_spreadTo 95 = .ok (.lstore_n 3, 1) := by decide +kernel
theorem dX6_spreadTo_96 : decode cX6_spreadTo 96 = .ok (.aload_n 0, 1) := by decide +kernel
theorem dX6_spreadTo_97 : decode cX6_spreadTo 97 = .ok (.aload_n 1, 1) := by decide +kernel
theorem dX6_spreadTo_98 : decode cX6_spreadTo 98 = .ok (.iload 6, 2) := by decide +kernel
theorem dX6_spreadTo_100 : decode cX6_spreadTo 100 = .ok (.invokevirtual 32, 3) := by decide +kernel
theorem dX6_spreadTo_103 : decode cX6_spreadTo 103 = .ok (.iinc 5 1, 3) := by decide +kernel
theorem dX6_spreadTo_106 : decode cX6_spreadTo 106 = .ok (.goto (-39), 3) := by decide +kernel
theorem dX6_spreadTo_109 : decode cX6_spreadTo 109 = .ok (.return_, 1) := by decide +kernel
theorem dX6_nearest_0 : decode cX6_nearest 0 = .ok (.iconst (-1), 1) := by decide +kernel
theorem dX6_nearest_1 : decode cX6_nearest 1 = .ok (.istore_n 3, 1) := by decide +kernel
theorem dX6_nearest_2 : decode cX6_nearest 2 = .ok (.iconst 0, 1) := by decide +kernel
theorem dX6_nearest_3 : decode cX6_nearest 3 = .ok (.istore 4, 2) := by decide +kernel
theorem dX6_nearest_5 : decode cX6_nearest 5 = .ok (.iload 4, 2) := by decide +kernel
theorem dX6_nearest_7 : decode cX6_nearest 7 = .ok (.bipush 36, 2) := by decide +kernel
theorem dX6_nearest_9 : decode cX6_nearest 9 = .ok (.if_icmp .ge 43, 3) := by decide +kernel
theorem dX6_nearest_12 : decode cX6_nearest 12 = .ok (.lload_n 1, 1) := by decide +kernel
theorem dX6_nearest_13 : decode cX6_nearest 13 = .ok (.iload 4, 2) := by decide +kernel
theorem dX6_nearest_15 : decode cX6_nearest 15 = .ok (.lushr, 1) := by decide +kernel
theorem dX6_nearest_16 : decode cX6_nearest 16 = .ok (.lconst 1, 1) := by decide +kernel
theorem dX6_nearest_17 : decode cX6_nearest 17 = .ok (.land, 1) := by decide +kernel
theorem dX6_nearest_18 : decode cX6_nearest 18 = .ok (.lconst 0, 1) := by decide +kernel
theorem dX6_nearest_19 : decode cX6_nearest 19 = .ok (.lcmp, 1) := by decide +kernel
theorem dX6_nearest_20 : decode cX6_nearest 20 = .ok (.ifCond .ne 26, 3) := by decide +kernel
theorem dX6_nearest_23 : decode cX6_nearest 23 = .ok (.iload_n 3, 1) := by decide +kernel
theorem dX6_nearest_24 : decode cX6_nearest 24 = .ok (.ifCond .lt 19, 3) := by decide +kernel
theorem dX6_nearest_27 : decode cX6_nearest 27 = .ok (.aload_n 0, 1) := by decide +kernel
theorem dX6_nearest_28 : decode cX6_nearest 28 = .ok (.getfield 9, 3) := by decide +kernel
theorem dX6_nearest_31 : decode cX6_nearest 31 = .ok (.iload 4, 2) := by decide +kernel
theorem dX6_nearest_33 : decode cX6_nearest 33 = .ok (.iaload, 1) := by decide +kernel
theorem dX6_nearest_34 : decode cX6_nearest 34 = .ok (.aload_n 0, 1) := by decide +kernel
theorem dX6_nearest_35 : decode cX6_nearest 35 = .ok (.getfield 9, 3) := by decide +kernel
theorem dX6_nearest_38 : decode cX6_nearest 38 = .ok (.iload_n 3, 1) := by decide +kernel
theorem dX6_nearest_39 : decode cX6_nearest 39 = .ok (.iaload, 1) := by decide +kernel
theorem dX6_nearest_40 : decode cX6_nearest 40 = .ok (.if_icmp .ge 6, 3) := by decide +kernel
theorem dX6_nearest_43 : decode cX6_nearest 43 = .ok (.iload 4, 2) := by decide +kernel
theorem dX6_nearest_45 : decode cX6_nearest 45 = .ok (.istore_n 3, 1) := by decide +kernel
theorem dX6_nearest_46 : decode cX6_nearest 46 = .ok (.iinc 4 1, 3) := by decide +kernel
theorem dX6_nearest_49 : decode cX6_nearest 49 = .ok (.goto (-44), 3) := by decide +kernel
theorem dX6_nearest_52 : decode cX6_nearest 52 = .ok (.iload_n 3, 1) := by decide +kernel
theorem dX6_nearest_53 : decode cX6_nearest 53 = .ok (.ireturn, 1) := by decide +kernel
theorem dX6_spreadFrom_0 : decode cX6_spreadFrom 0 = .ok (.iconst 1, 1) := by decide +kernel
theorem dX6_spreadFrom_1 : decode cX6_spreadFrom 1 = .ok (.istore_n 3, 1) := by decide +kernel
theorem dX6_spreadFrom_2 : decode cX6_spreadFrom 2 = .ok (.iload_n 3, 1) := by decide +kernel
theorem dX6_spreadFrom_3 : decode cX6_spreadFrom 3 = .ok (.iconst 4, 1) := by decide +kernel
theorem dX6_spreadFrom_4 : decode cX6_spreadFrom 4 = .ok (.if_icmp .gt 52, 3) := by decide +kernel
theorem dX6_spreadFrom_7 : decode cX6_spreadFrom 7 = .ok (.iload_n 2, 1) := by decide +kernel
theorem dX6_spreadFrom_8 : decode cX6_spreadFrom 8 = .ok (.iload_n 3, 1) := by decide +kernel
theorem dX6_spreadFrom_9 : decode cX6_spreadFrom 9 = .ok (.invokestatic 36, 3) := by decide +kernel
theorem dX6_spreadFrom_12 : decode cX6_spreadFrom 12 = .ok (.istore 4, 2) := by decide +kernel
theorem dX6_spreadFrom_14 : decode cX6_spreadFrom 14 = .ok (.iload 4, 2) := by decide +kernel
theorem dX6_spreadFrom_16 : decode cX6_spreadFrom 16 = .ok (.ifCond .lt 34, 3) := by decide +kernel
theorem dX6_spreadFrom_19 : decode cX6_spreadFrom 19 = .ok (.aload_n 0, 1) := by decide +kernel
theorem dX6_spreadFrom_20 : decode cX6_spreadFrom 20 = .ok (.getfield 9, 3) := by decide +kernel
theorem dX6_spreadFrom_23 : decode cX6_spreadFrom 23 = .ok (.iload 4, 2) := by decide +kernel
theorem dX6_spreadFrom_25 : decode cX6_spreadFrom 25 = .ok (.aload_n 0, 1) := by decide +kernel
theorem dX6_spreadFrom_26 : decode cX6_spreadFrom 26 = .ok (.getfield 9, 3) := by decide +kernel
theorem dX6_spreadFrom_29 : decode cX6_spreadFrom 29 = .ok (.iload 4, 2) := by decide +kernel
theorem dX6_spreadFrom_31 : decode cX6_spreadFrom 31 = .ok (.iaload, 1) := by decide +kernel
theorem dX6_spreadFrom_32 : decode cX6_spreadFrom 32 = .ok (.aload_n 1, 1) := by decide +kernel
theorem dX6_spreadFrom_33 : decode cX6_spreadFrom 33 = .ok (.iload 4, 2) := by decide +kernel
theorem dX6_spreadFrom_35 : decode cX6_spreadFrom 35 = .ok (.iload_n 2, 1) := by decide +kernel
theorem dX6_spreadFrom_36 : decode cX6_spreadFrom 36 = .ok (.invokevirtual 40, 3) := by decide +kernel
theorem dX6_spreadFrom_39 : decode cX6_spreadFrom 39 = .ok (.aload_n 0, 1) := by decide +kernel
theorem dX6_spreadFrom_40 : decode cX6_spreadFrom 40 = .ok (.getfield 9, 3) := by decide +kernel
theorem dX6_spreadFrom_43 : decode cX6_spreadFrom 43 = .ok (.iload_n 2, 1) := by decide +kernel
theorem dX6_spreadFrom_44 : decode cX6_spreadFrom 44 = .ok (.iaload, 1) := by decide +kernel
theorem dX6_spreadFrom_45 : decode cX6_spreadFrom 45 = .ok (.iadd, 1) := by decide +kernel
theorem dX6_spreadFrom_46 : decode cX6_spreadFrom 46 = .ok (.invokestatic 43, 3) := by decide +kernel
theorem dX6_spreadFrom_49 : decode cX6_spreadFrom 49 = .ok (.iastore, 1) := by decide +kernel
theorem dX6_spreadFrom_50 : decode cX6_spreadFrom 50 = .ok (.iinc 3 1, 3) := by decide +kernel
theorem dX6_spreadFrom_53 : decode cX6_spreadFrom 53 = .ok (.goto (-51), 3) := by decide +kernel
theorem dX6_spreadFrom_56 : decode cX6_spreadFrom 56 = .ok (.return_, 1) := by decide +kernel
theorem dX6_costFrom_0 : decode cX6_costFrom 0 = .ok (.iload_n 1, 1) := by decide +kernel
theorem dX6_costFrom_1 : decode cX6_costFrom 1 = .ok (.invokestatic 48, 3) := by decide +kernel
theorem dX6_costFrom_4 : decode cX6_costFrom 4 = .ok (.ifCond .eq 12, 3) := by decide +kernel
theorem dX6_costFrom_7 : decode cX6_costFrom 7 = .ok (.aload_n 0, 1) := by decide +kernel
theorem dX6_costFrom_8 : decode cX6_costFrom 8 = .ok (.getfield 9, 3) := by decide +kernel
theorem dX6_costFrom_11 : decode cX6_costFrom 11 = .ok (.iload_n 1, 1) := by decide +kernel
theorem dX6_costFrom_12 : decode cX6_costFrom 12 = .ok (.iaload, 1) := by decide +kernel
theorem dX6_costFrom_13 : decode cX6_costFrom 13 = .ok (.goto 5, 3) := by decide +kernel
theorem dX6_costFrom_16 : decode cX6_costFrom 16 = .ok (.ldc 27, 2) := by decide +kernel
theorem dX6_costFrom_18 : decode cX6_costFrom 18 = .ok (.ireturn, 1) := by decide +kernel
theorem dX6_firstFrom_0 : decode cX6_firstFrom 0 = .ok (.iconst 1, 1) := by decide +kernel
theorem dX6_firstFrom_1 : decode cX6_firstFrom 1 = .ok (.istore_n 3, 1) := by decide +kernel
theorem dX6_firstFrom_2 : decode cX6_firstFrom 2 = .ok (.iload_n 3, 1) := by decide +kernel
theorem dX6_firstFrom_3 : decode cX6_firstFrom 3 = .ok (.iconst 4, 1) := by decide +kernel
theorem dX6_firstFrom_4 : decode cX6_firstFrom 4 = .ok (.if_icmp .gt 46, 3) := by decide +kernel
theorem dX6_firstFrom_7 : decode cX6_firstFrom 7 = .ok (.iload_n 2, 1) := by decide +kernel
theorem dX6_firstFrom_8 : decode cX6_firstFrom 8 = .ok (.iload_n 3, 1) := by decide +kernel
theorem dX6_firstFrom_9 : decode cX6_firstFrom 9 = .ok (.invokestatic 36, 3) := by decide +kernel
theorem dX6_firstFrom_12 : decode cX6_firstFrom 12 = .ok (.istore 4, 2) := by decide +kernel
theorem dX6_firstFrom_14 : decode cX6_firstFrom 14 = .ok (.iload 4, 2) := by decide +kernel
theorem dX6_firstFrom_16 : decode cX6_firstFrom 16 = .ok (.ifCond .lt 28, 3) := by decide +kernel
theorem dX6_firstFrom_19 : decode cX6_firstFrom 19 = .ok (.aload_n 1, 1) := by decide +kernel
theorem dX6_firstFrom_20 : decode cX6_firstFrom 20 = .ok (.iload_n 2, 1) := by decide +kernel
theorem dX6_firstFrom_21 : decode cX6_firstFrom 21 = .ok (.iload 4, 2) := by decide +kernel
theorem dX6_firstFrom_23 : decode cX6_firstFrom 23 = .ok (.invokevirtual 40, 3) := by decide +kernel
theorem dX6_firstFrom_26 : decode cX6_firstFrom 26 = .ok (.aload_n 0, 1) := by decide +kernel
theorem dX6_firstFrom_27 : decode cX6_firstFrom 27 = .ok (.iload 4, 2) := by decide +kernel
theorem dX6_firstFrom_29 : decode cX6_firstFrom 29 = .ok (.invokevirtual 52, 3) := by decide +kernel
theorem dX6_firstFrom_32 : decode cX6_firstFrom 32 = .ok (.iadd, 1) := by decide +kernel
theorem dX6_firstFrom_33 : decode cX6_firstFrom 33 = .ok (.aload_n 0, 1) := by decide +kernel
theorem dX6_firstFrom_34 : decode cX6_firstFrom 34 = .ok (.iload_n 2, 1) := by decide +kernel
theorem dX6_firstFrom_35 : decode cX6_firstFrom 35 = .ok (.invokevirtual 52, 3) := by decide +kernel
theorem dX6_firstFrom_38 : decode cX6_firstFrom 38 = .ok (.if_icmp .ne 6, 3) := by decide +kernel
theorem dX6_firstFrom_41 : decode cX6_firstFrom 41 = .ok (.iload 4, 2) := by decide +kernel
theorem dX6_firstFrom_43 : decode cX6_firstFrom 43 = .ok (.ireturn, 1) := by decide +kernel
theorem dX6_firstFrom_44 : decode cX6_firstFrom 44 = .ok (.iinc 3 1, 3) := by decide +kernel
theorem dX6_firstFrom_47 : decode cX6_firstFrom 47 = .ok (.goto (-45), 3) := by decide +kernel
theorem dX6_firstFrom_50 : decode cX6_firstFrom 50 = .ok (.iconst (-1), 1) := by decide +kernel
theorem dX6_firstFrom_51 : decode cX6_firstFrom 51 = .ok (.ireturn, 1) := by decide +kernel
theorem dX6_planRound_0 : decode cX6_planRound 0 = .ok (.aload_n 0, 1) := by decide +kernel
theorem dX6_planRound_1 : decode cX6_planRound 1 = .ok (.aload_n 1, 1) := by decide +kernel
theorem dX6_planRound_2 : decode cX6_planRound 2 = .ok (.aload_n 2, 1) := by decide +kernel
theorem dX6_planRound_3 : decode cX6_planRound 3 = .ok (.invokevirtual 56, 3) := by decide +kernel
theorem dX6_planRound_6 : decode cX6_planRound 6 = .ok (.ifCond .ne 5, 3) := by decide +kernel
theorem dX6_planRound_9 : decode cX6_planRound 9 = .ok (.iconst 0, 1) := by decide +kernel
theorem dX6_planRound_10 : decode cX6_planRound 10 = .ok (.ireturn, 1) := by decide +kernel
theorem dX6_planRound_11 : decode cX6_planRound 11 = .ok (.iconst 0, 1) := by decide +kernel
theorem dX6_planRound_12 : decode cX6_planRound 12 = .ok (.istore_n 3, 1) := by decide +kernel
theorem dX6_planRound_13 : decode cX6_planRound 13 = .ok (.iload_n 3, 1) := by decide +kernel
theorem dX6_planRound_14 : decode cX6_planRound 14 = .ok (.aload_n 0, 1) := by decide +kernel
theorem dX6_planRound_15 : decode cX6_planRound 15 = .ok (.getfield 60, 3) := by decide +kernel
theorem dX6_planRound_18 : decode cX6_planRound 18 = .ok (.if_icmp .ge 74, 3) := by decide +kernel
theorem dX6_planRound_21 : decode cX6_planRound 21 = .ok (.aload_n 0, 1) := by decide +kernel
theorem dX6_planRound_22 : decode cX6_planRound 22 = .ok (.aload_n 1, 1) := by decide +kernel
theorem dX6_planRound_23 : decode cX6_planRound 23 = .ok (.aload_n 0, 1) := by decide +kernel
theorem dX6_planRound_24 : decode cX6_planRound 24 = .ok (.getfield 15, 3) := by decide +kernel
theorem dX6_planRound_27 : decode cX6_planRound 27 = .ok (.iload_n 3, 1) := by decide +kernel
theorem dX6_planRound_28 : decode cX6_planRound 28 = .ok (.iaload, 1) := by decide +kernel
theorem dX6_planRound_29 : decode cX6_planRound 29 = .ok (.invokevirtual 64, 3) := by decide +kernel
theorem dX6_planRound_32 : decode cX6_planRound 32 = .ok (.aload_n 0, 1) := by decide +kernel
theorem dX6_planRound_33 : decode cX6_planRound 33 = .ok (.getfield 18, 3) := by decide +kernel
theorem dX6_planRound_36 : decode cX6_planRound 36 = .ok (.iload_n 3, 1) := by decide +kernel
theorem dX6_planRound_37 : decode cX6_planRound 37 = .ok (.aload_n 0, 1) := by decide +kernel
theorem dX6_planRound_38 : decode cX6_planRound 38 = .ok (.aload_n 2, 1) := by decide +kernel
theorem dX6_planRound_39 : decode cX6_planRound 39 = .ok (.getfield 67, 3) := by decide +kernel
theorem dX6_planRound_42 : decode cX6_planRound 42 = .ok (.invokevirtual 52, 3) := by decide +kernel
theorem dX6_planRound_45 : decode cX6_planRound 45 = .ok (.iastore, 1) := by decide +kernel
theorem dX6_planRound_46 : decode cX6_planRound 46 = .ok (.iconst 0, 1) := by decide +kernel
theorem dX6_planRound_47 : decode cX6_planRound 47 = .ok (.istore 4, 2) := by decide +kernel
theorem dX6_planRound_49 : decode cX6_planRound 49 = .ok (.iload 4, 2) := by decide +kernel
theorem dX6_planRound_51 : decode cX6_planRound 51 = .ok (.aload_n 0, 1) := by decide +kernel
theorem dX6_planRound_52 : decode cX6_planRound 52 = .ok (.getfield 60, 3) := by decide +kernel
theorem dX6_planRound_55 : decode cX6_planRound 55 = .ok (.if_icmp .ge 31, 3) := by decide +kernel
theorem dX6_planRound_58 : decode cX6_planRound 58 = .ok (.aload_n 0, 1) := by decide +kernel
theorem dX6_planRound_59 : decode cX6_planRound 59 = .ok (.getfield 21, 3) := by decide +kernel
theorem dX6_planRound_62 : decode cX6_planRound 62 = .ok (.iload 4, 2) := by decide +kernel
theorem dX6_planRound_64 : decode cX6_planRound 64 = .ok (.iconst 5, 1) := by decide +kernel
theorem dX6_planRound_65 : decode cX6_planRound 65 = .ok (.imul, 1) := by decide +kernel
theorem dX6_planRound_66 : decode cX6_planRound 66 = .ok (.iload_n 3, 1) := by decide +kernel
theorem dX6_planRound_67 : decode cX6_planRound 67 = .ok (.iadd, 1) := by decide +kernel
theorem dX6_planRound_68 : decode cX6_planRound 68 = .ok (.aload_n 0, 1) := by decide +kernel
theorem dX6_planRound_69 : decode cX6_planRound 69 = .ok (.aload_n 0, 1) := by decide +kernel
theorem dX6_planRound_70 : decode cX6_planRound 70 = .ok (.getfield 15, 3) := by decide +kernel
theorem dX6_planRound_73 : decode cX6_planRound 73 = .ok (.iload 4, 2) := by decide +kernel
theorem dX6_planRound_75 : decode cX6_planRound 75 = .ok (.iaload, 1) := by decide +kernel
theorem dX6_planRound_76 : decode cX6_planRound 76 = .ok (.invokevirtual 52, 3) := by decide +kernel
theorem dX6_planRound_79 : decode cX6_planRound 79 = .ok (.iastore, 1) := by decide +kernel
theorem dX6_planRound_80 : decode cX6_planRound 80 = .ok (.iinc 4 1, 3) := by decide +kernel
theorem dX6_planRound_83 : decode cX6_planRound 83 = .ok (.goto (-34), 3) := by decide +kernel
theorem dX6_planRound_86 : decode cX6_planRound 86 = .ok (.iinc 3 1, 3) := by decide +kernel
theorem dX6_planRound_89 : decode cX6_planRound 89 = .ok (.goto (-76), 3) := by decide +kernel
theorem dX6_planRound_92 : decode cX6_planRound 92 = .ok (.aload_n 0, 1) := by decide +kernel
theorem dX6_planRound_93 : decode cX6_planRound 93 = .ok (.aload_n 1, 1) := by decide +kernel
theorem dX6_planRound_94 : decode cX6_planRound 94 = .ok (.iconst (-1), 1) := by decide +kernel
theorem dX6_planRound_95 : decode cX6_planRound 95 = .ok (.invokevirtual 64, 3) := by decide +kernel
theorem dX6_planRound_98 : decode cX6_planRound 98 = .ok (.iconst 0, 1) := by decide +kernel
theorem dX6_planRound_99 : decode cX6_planRound 99 = .ok (.istore_n 3, 1) := by decide +kernel
theorem dX6_planRound_100 : decode cX6_planRound 100 = .ok (.iload_n 3, 1) := by decide +kernel
theorem dX6_planRound_101 : decode cX6_planRound 101 = .ok (.iconst 1, 1) := by decide +kernel
theorem dX6_planRound_102 : decode cX6_planRound 102 = .ok (.aload_n 0, 1) := by decide +kernel
theorem dX6_planRound_103 : decode cX6_planRound 103 = .ok (.getfield 60, 3) := by decide +kernel
theorem dX6_planRound_106 : decode cX6_planRound 106 = .ok (.ishl, 1) := by decide +kernel
theorem dX6_planRound_107 : decode cX6_planRound 107 = .ok (.if_icmp .ge 45, 3) := by decide +kernel
theorem dX6_planRound_110 : decode cX6_planRound 110 = .ok (.iconst 0, 1) := by decide +kernel
theorem dX6_planRound_111 : decode cX6_planRound 111 = .ok (.istore 4, 2) := by decide +kernel
theorem dX6_planRound_113 : decode cX6_planRound 113 = .ok (.iload 4, 2) := by decide +kernel
theorem dX6_planRound_115 : decode cX6_planRound 115 = .ok (.aload_n 0, 1) := by decide +kernel
theorem dX6_planRound_116 : decode cX6_planRound 116 = .ok (.getfield 60, 3) := by decide +kernel
theorem dX6_planRound_119 : decode cX6_planRound 119 = .ok (.if_icmp .ge 27, 3) := by decide +kernel
theorem dX6_planRound_122 : decode cX6_planRound 122 = .ok (.aload_n 0, 1) := by decide +kernel
theorem dX6_planRound_123 : decode cX6_planRound 123 = .ok (.getfield 24, 3) := by decide +kernel
theorem dX6_planRound_126 : decode cX6_planRound 126 = .ok (.iload_n 3, 1) := by decide +kernel
theorem dX6_planRound_127 : decode cX6_planRound 127 = .ok (.iconst 5, 1) := by decide +kernel
theorem dX6_planRound_128 : decode cX6_planRound 128 = .ok (.imul, 1) := by decide +kernel
theorem dX6_planRound_129 : decode cX6_planRound 129 = .ok (.iload 4, 2) := by decide +kernel
theorem dX6_planRound_131 : decode cX6_planRound 131 = .ok (.iadd, 1) := by decide +kernel
theorem dX6_planRound_132 : decode cX6_planRound 132 = .ok (.aload_n 0, 1) := by decide +kernel
theorem dX6_planRound_133 : decode cX6_planRound 133 = .ok (.iload_n 3, 1) := by decide +kernel
theorem dX6_planRound_134 : decode cX6_planRound 134 = .ok (.iload 4, 2) := by decide +kernel
theorem dX6_planRound_136 : decode cX6_planRound 136 = .ok (.invokevirtual 72, 3) := by decide +kernel
theorem dX6_planRound_139 : decode cX6_planRound 139 = .ok (.iastore, 1) := by decide +kernel
theorem dX6_planRound_140 : decode cX6_planRound 140 = .ok (.iinc 4 1, 3) := by decide +kernel
theorem dX6_planRound_143 : decode cX6_planRound 143 = .ok (.goto (-30), 3) := by decide +kernel
theorem dX6_planRound_146 : decode cX6_planRound 146 = .ok (.iinc 3 1, 3) := by decide +kernel
theorem dX6_planRound_149 : decode cX6_planRound 149 = .ok (.goto (-49), 3) := by decide +kernel
theorem dX6_planRound_152 : decode cX6_planRound 152 = .ok (.aload_n 0, 1) := by decide +kernel
theorem dX6_planRound_153 : decode cX6_planRound 153 = .ok (.aload_n 0, 1) := by decide +kernel
theorem dX6_planRound_154 : decode cX6_planRound 154 = .ok (.aload_n 2, 1) := by decide +kernel
theorem dX6_planRound_155 : decode cX6_planRound 155 = .ok (.getfield 67, 3) := by decide +kernel
theorem dX6_planRound_158 : decode cX6_planRound 158 = .ok (.invokevirtual 52, 3) := by decide +kernel
theorem dX6_planRound_161 : decode cX6_planRound 161 = .ok (.invokevirtual 75, 3) := by decide +kernel
theorem dX6_planRound_164 : decode cX6_planRound 164 = .ok (.iconst 1, 1) := by decide +kernel
theorem dX6_planRound_165 : decode cX6_planRound 165 = .ok (.ireturn, 1) := by decide +kernel
theorem dX6_listStones_0 : decode cX6_listStones 0 = .ok (.aload_n 0, 1) := by decide +kernel
theorem dX6_listStones_1 : decode cX6_listStones 1 = .ok (.iconst 0, 1) := by decide +kernel
theorem dX6_listStones_2 : decode cX6_listStones 2 = .ok (.putfield 60, 3) := by decide +kernel
theorem dX6_listStones_5 : decode cX6_listStones 5 = .ok (.iconst 0, 1) := by decide +kernel
theorem dX6_listStones_6 : decode cX6_listStones 6 = .ok (.istore_n 3, 1) := by decide +kernel
theorem dX6_listStones_7 : decode cX6_listStones 7 = .ok (.iload_n 3, 1) := by decide +kernel
theorem dX6_listStones_8 : decode cX6_listStones 8 = .ok (.bipush 36, 2) := by decide +kernel
theorem dX6_listStones_10 : decode cX6_listStones 10 = .ok (.if_icmp .ge 58, 3) := by decide +kernel
theorem dX6_listStones_13 : decode cX6_listStones 13 = .ok (.aload_n 1, 1) := by decide +kernel
theorem dX6_listStones_14 : decode cX6_listStones 14 = .ok (.iload_n 3, 1) := by decide +kernel
theorem dX6_listStones_15 : decode cX6_listStones 15 = .ok (.invokevirtual 79, 3) := by decide +kernel
theorem dX6_listStones_18 : decode cX6_listStones 18 = .ok (.ifCond .eq 44, 3) := by decide +kernel
theorem dX6_listStones_21 : decode cX6_listStones 21 = .ok (.aload_n 2, 1) := by decide +kernel
theorem dX6_listStones_22 : decode cX6_listStones 22 = .ok (.iload_n 3, 1) := by decide +kernel
theorem dX6_listStones_23 : decode cX6_listStones 23 = .ok (.invokevirtual 82, 3) := by decide +kernel
theorem dX6_listStones_26 : decode cX6_listStones 26 = .ok (.ifCond .eq 6, 3) := by decide +kernel
theorem dX6_listStones_29 : decode cX6_listStones 29 = .ok (.goto 33, 3) := by decide +kernel
theorem dX6_listStones_32 : decode cX6_listStones 32 = .ok (.aload_n 0, 1) := by decide +kernel
theorem dX6_listStones_33 : decode cX6_listStones 33 = .ok (.getfield 60, 3) := by decide +kernel
theorem dX6_listStones_36 : decode cX6_listStones 36 = .ok (.iconst 5, 1) := by decide +kernel
theorem dX6_listStones_37 : decode cX6_listStones 37 = .ok (.if_icmp .lt 5, 3) := by decide +kernel
theorem dX6_listStones_40 : decode cX6_listStones 40 = .ok (.iconst 0, 1) := by decide +kernel
theorem dX6_listStones_41 : decode cX6_listStones 41 = .ok (.ireturn, 1) := by decide +kernel
theorem dX6_listStones_42 : decode cX6_listStones 42 = .ok (.aload_n 0, 1) := by decide +kernel
theorem dX6_listStones_43 : decode cX6_listStones 43 = .ok (.getfield 15, 3) := by decide +kernel
theorem dX6_listStones_46 : decode cX6_listStones 46 = .ok (.aload_n 0, 1) := by decide +kernel
theorem dX6_listStones_47 : decode cX6_listStones 47 = .ok (.getfield 60, 3) := by decide +kernel
theorem dX6_listStones_50 : decode cX6_listStones 50 = .ok (.iload_n 3, 1) := by decide +kernel
theorem dX6_listStones_51 : decode cX6_listStones 51 = .ok (.iastore, 1) := by decide +kernel
theorem dX6_listStones_52 : decode cX6_listStones 52 = .ok (.aload_n 0, 1) := by decide +kernel
theorem dX6_listStones_53 : decode cX6_listStones 53 = .ok (.dup, 1) := by decide +kernel
theorem dX6_listStones_54 : decode cX6_listStones 54 = .ok (.getfield 60, 3) := by decide +kernel
theorem dX6_listStones_57 : decode cX6_listStones 57 = .ok (.iconst 1, 1) := by decide +kernel
theorem dX6_listStones_58 : decode cX6_listStones 58 = .ok (.iadd, 1) := by decide +kernel
theorem dX6_listStones_59 : decode cX6_listStones 59 = .ok (.putfield 60, 3) := by decide +kernel
theorem dX6_listStones_62 : decode cX6_listStones 62 = .ok (.iinc 3 1, 3) := by decide +kernel
theorem dX6_listStones_65 : decode cX6_listStones 65 = .ok (.goto (-58), 3) := by decide +kernel
theorem dX6_listStones_68 : decode cX6_listStones 68 = .ok (.iconst 1, 1) := by decide +kernel
theorem dX6_listStones_69 : decode cX6_listStones 69 = .ok (.ireturn, 1) := by decide +kernel
theorem dX6_leastRest_0 : decode cX6_leastRest 0 = .ok (.iload_n 1, 1) := by decide +kernel
theorem dX6_leastRest_1 : decode cX6_leastRest 1 = .ok (.ifCond .ne 14, 3) := by decide +kernel
theorem dX6_leastRest_4 : decode cX6_leastRest 4 = .ok (.aload_n 0, 1) := by decide +kernel
theorem dX6_leastRest_5 : decode cX6_leastRest 5 = .ok (.aload_n 0, 1) := by decide +kernel
theorem dX6_leastRest_6 : decode cX6_leastRest 6 = .ok (.getfield 15, 3) := by decide +kernel
theorem dX6_leastRest_9 : decode cX6_leastRest 9 = .ok (.iload_n 2, 1) := by decide +kernel
theorem dX6_leastRest_10 : decode cX6_leastRest 10 = .ok (.iaload, 1) := by decide +kernel
theorem dX6_leastRest_11 : decode cX6_leastRest 11 = .ok (.invokevirtual 52, 3) := by decide +kernel
theorem dX6_leastRest_14 : decode cX6_leastRest 14 = .ok (.ireturn, 1) := by decide +kernel
theorem dX6_leastRest_15 : decode cX6_leastRest 15 = .ok (.ldc 27, 2) := by decide +kernel
theorem dX6_leastRest_17 : decode cX6_leastRest 17 = .ok (.istore_n 3, 1) := by decide +kernel
theorem dX6_leastRest_18 : decode cX6_leastRest 18 = .ok (.iconst 0, 1) := by decide +kernel
theorem dX6_leastRest_19 : decode cX6_leastRest 19 = .ok (.istore 4, 2) := by decide +kernel
theorem dX6_leastRest_21 : decode cX6_leastRest 21 = .ok (.iload 4, 2) := by decide +kernel
theorem dX6_leastRest_23 : decode cX6_leastRest 23 = .ok (.aload_n 0, 1) := by decide +kernel
theorem dX6_leastRest_24 : decode cX6_leastRest 24 = .ok (.getfield 60, 3) := by decide +kernel
theorem dX6_leastRest_27 : decode cX6_leastRest 27 = .ok (.if_icmp .ge 55, 3) := by decide +kernel
theorem dX6_leastRest_30 : decode cX6_leastRest 30 = .ok (.iload_n 1, 1) := by decide +kernel
theorem dX6_leastRest_31 : decode cX6_leastRest 31 = .ok (.iload 4, 2) := by decide +kernel
theorem dX6_leastRest_33 : decode cX6_leastRest 33 = .ok (.iushr, 1) := by decide +kernel
theorem dX6_leastRest_34 : decode cX6_leastRest 34 = .ok (.iconst 1, 1) := by decide +kernel
theorem dX6_leastRest_35 : decode cX6_leastRest 35 = .ok (.iand, 1) := by decide +kernel
theorem dX6_leastRest_36 : decode cX6_leastRest 36 = .ok (.ifCond .eq 40, 3) := by decide +kernel
theorem dX6_leastRest_39 : decode cX6_leastRest 39 = .ok (.aload_n 0, 1) := by decide +kernel
theorem dX6_leastRest_40 : decode cX6_leastRest 40 = .ok (.getfield 24, 3) := by decide +kernel
theorem dX6_leastRest_43 : decode cX6_leastRest 43 = .ok (.iload_n 1, 1) := by decide +kernel
theorem dX6_leastRest_44 : decode cX6_leastRest 44 = .ok (.iconst 1, 1) := by decide +kernel
theorem dX6_leastRest_45 : decode cX6_leastRest 45 = .ok (.iload 4, 2) := by decide +kernel
theorem dX6_leastRest_47 : decode cX6_leastRest 47 = .ok (.ishl, 1) := by decide +kernel
theorem dX6_leastRest_48 : decode cX6_leastRest 48 = .ok (.ixor, 1) := by decide +kernel
theorem dX6_leastRest_49 : decode cX6_leastRest 49 = .ok (.iconst 5, 1) := by decide +kernel
theorem dX6_leastRest_50 : decode cX6_leastRest 50 = .ok (.imul, 1) := by decide +kernel
theorem dX6_leastRest_51 : decode cX6_leastRest 51 = .ok (.iload 4, 2) := by decide +kernel
theorem dX6_leastRest_53 : decode cX6_leastRest 53 = .ok (.iadd, 1) := by decide +kernel
theorem dX6_leastRest_54 : decode cX6_leastRest 54 = .ok (.iaload, 1) := by decide +kernel
theorem dX6_leastRest_55 : decode cX6_leastRest 55 = .ok (.istore 5, 2) := by decide +kernel
theorem dX6_leastRest_57 : decode cX6_leastRest 57 = .ok (.iload_n 3, 1) := by decide +kernel
theorem dX6_leastRest_58 : decode cX6_leastRest 58 = .ok (.aload_n 0, 1) := by decide +kernel
theorem dX6_leastRest_59 : decode cX6_leastRest 59 = .ok (.getfield 21, 3) := by decide +kernel
theorem dX6_leastRest_62 : decode cX6_leastRest 62 = .ok (.iload_n 2, 1) := by decide +kernel
theorem dX6_leastRest_63 : decode cX6_leastRest 63 = .ok (.iconst 5, 1) := by decide +kernel
theorem dX6_leastRest_64 : decode cX6_leastRest 64 = .ok (.imul, 1) := by decide +kernel
theorem dX6_leastRest_65 : decode cX6_leastRest 65 = .ok (.iload 4, 2) := by decide +kernel
theorem dX6_leastRest_67 : decode cX6_leastRest 67 = .ok (.iadd, 1) := by decide +kernel
theorem dX6_leastRest_68 : decode cX6_leastRest 68 = .ok (.iaload, 1) := by decide +kernel
theorem dX6_leastRest_69 : decode cX6_leastRest 69 = .ok (.iload 5, 2) := by decide +kernel
theorem dX6_leastRest_71 : decode cX6_leastRest 71 = .ok (.iadd, 1) := by decide +kernel
theorem dX6_leastRest_72 : decode cX6_leastRest 72 = .ok (.invokestatic 43, 3) := by decide +kernel
theorem dX6_leastRest_75 : decode cX6_leastRest 75 = .ok (.istore_n 3, 1) := by decide +kernel
theorem dX6_leastRest_76 : decode cX6_leastRest 76 = .ok (.iinc 4 1, 3) := by decide +kernel
theorem dX6_leastRest_79 : decode cX6_leastRest 79 = .ok (.goto (-58), 3) := by decide +kernel
theorem dX6_leastRest_82 : decode cX6_leastRest 82 = .ok (.iload_n 3, 1) := by decide +kernel
theorem dX6_leastRest_83 : decode cX6_leastRest 83 = .ok (.ireturn, 1) := by decide +kernel
theorem dX6_chooseFirst_0 : decode cX6_chooseFirst 0 = .ok (.aload_n 0, 1) := by decide +kernel
theorem dX6_chooseFirst_1 : decode cX6_chooseFirst 1 = .ok (.aload_n 0, 1) := by decide +kernel
theorem dX6_chooseFirst_2 : decode cX6_chooseFirst 2 = .ok (.getfield 60, 3) := by decide +kernel
theorem dX6_chooseFirst_5 : decode cX6_chooseFirst 5 = .ok (.ifCond .ne 7, 3) := by decide +kernel
theorem dX6_chooseFirst_8 : decode cX6_chooseFirst 8 = .ok (.iload_n 1, 1) := by decide +kernel
theorem dX6_chooseFirst_9 : decode cX6_chooseFirst 9 = .ok (.goto 5, 3) := by decide +kernel
theorem dX6_chooseFirst_12 : decode cX6_chooseFirst 12 = .ok (.ldc 27, 2) := by decide +kernel
theorem dX6_chooseFirst_14 : decode cX6_chooseFirst 14 = .ok (.putfield 85, 3) := by decide +kernel
theorem dX6_chooseFirst_17 : decode cX6_chooseFirst 17 = .ok (.aload_n 0, 1) := by decide +kernel
theorem dX6_chooseFirst_18 : decode cX6_chooseFirst 18 = .ok (.iconst (-1), 1) := by decide +kernel
theorem dX6_chooseFirst_19 : decode cX6_chooseFirst 19 = .ok (.putfield 88, 3) := by decide +kernel
theorem dX6_chooseFirst_22 : decode cX6_chooseFirst 22 = .ok (.iconst 1, 1) := by decide +kernel
theorem dX6_chooseFirst_23 : decode cX6_chooseFirst 23 = .ok (.aload_n 0, 1) := by decide +kernel
theorem dX6_chooseFirst_24 : decode cX6_chooseFirst 24 = .ok (.getfield 60, 3) := by decide +kernel
theorem dX6_chooseFirst_27 : decode cX6_chooseFirst 27 = .ok (.ishl, 1) := by decide +kernel
theorem dX6_chooseFirst_28 : decode cX6_chooseFirst 28 = .ok (.iconst 1, 1) := by decide +kernel
theorem dX6_chooseFirst_29 : decode cX6_chooseFirst 29 = .ok (.isub, 1) := by decide +kernel
theorem dX6_chooseFirst_30 : decode cX6_chooseFirst 30 = .ok (.istore_n 2, 1) := by decide +kernel
theorem dX6_chooseFirst_31 : decode cX6_chooseFirst 31 = .ok (.iconst 0, 1) := by decide +kernel
theorem dX6_chooseFirst_32 : decode cX6_chooseFirst 32 = .ok (.istore_n 3, 1) := by decide +kernel
theorem dX6_chooseFirst_33 : decode cX6_chooseFirst 33 = .ok (.iload_n 3, 1) := by decide +kernel
theorem dX6_chooseFirst_34 : decode cX6_chooseFirst 34 = .ok (.aload_n 0, 1) := by decide +kernel
theorem dX6_chooseFirst_35 : decode cX6_chooseFirst 35 = .ok (.getfield 60, 3) := by decide +kernel
theorem dX6_chooseFirst_38 : decode cX6_chooseFirst 38 = .ok (.if_icmp .ge 57, 3) := by decide +kernel
theorem dX6_chooseFirst_41 : decode cX6_chooseFirst 41 = .ok (.aload_n 0, 1) := by decide +kernel
theorem dX6_chooseFirst_42 : decode cX6_chooseFirst 42 = .ok (.getfield 18, 3) := by decide +kernel
theorem dX6_chooseFirst_45 : decode cX6_chooseFirst 45 = .ok (.iload_n 3, 1) := by decide +kernel
theorem dX6_chooseFirst_46 : decode cX6_chooseFirst 46 = .ok (.iaload, 1) := by decide +kernel
theorem dX6_chooseFirst_47 : decode cX6_chooseFirst 47 = .ok (.aload_n 0, 1) := by decide +kernel
theorem dX6_chooseFirst_48 : decode cX6_chooseFirst 48 = .ok (.getfield 24, 3) := by decide +kernel
theorem dX6_chooseFirst_51 : decode cX6_chooseFirst 51 = .ok (.iload_n 2, 1) := by decide +kernel
theorem dX6_chooseFirst_52 : decode cX6_chooseFirst 52 = .ok (.iconst 1, 1) := by decide +kernel
theorem dX6_chooseFirst_53 : decode cX6_chooseFirst 53 = .ok (.iload_n 3, 1) := by decide +kernel
theorem dX6_chooseFirst_54 : decode cX6_chooseFirst 54 = .ok (.ishl, 1) := by decide +kernel
theorem dX6_chooseFirst_55 : decode cX6_chooseFirst 55 = .ok (.ixor, 1) := by decide +kernel
theorem dX6_chooseFirst_56 : decode cX6_chooseFirst 56 = .ok (.iconst 5, 1) := by decide +kernel
theorem dX6_chooseFirst_57 : decode cX6_chooseFirst 57 = .ok (.imul, 1) := by decide +kernel
theorem dX6_chooseFirst_58 : decode cX6_chooseFirst 58 = .ok (.iload_n 3, 1) := by decide +kernel
theorem dX6_chooseFirst_59 : decode cX6_chooseFirst 59 = .ok (.iadd, 1) := by decide +kernel
theorem dX6_chooseFirst_60 : decode cX6_chooseFirst 60 = .ok (.iaload, 1) := by decide +kernel
theorem dX6_chooseFirst_61 : decode cX6_chooseFirst 61 = .ok (.iadd, 1) := by decide +kernel
theorem dX6_chooseFirst_62 : decode cX6_chooseFirst 62 = .ok (.istore 4, 2) := by decide +kernel
theorem dX6_chooseFirst_64 : decode cX6_chooseFirst 64 = .ok (.iload 4, 2) := by decide +kernel
theorem dX6_chooseFirst_66 : decode cX6_chooseFirst 66 = .ok (.aload_n 0, 1) := by decide +kernel
theorem dX6_chooseFirst_67 : decode cX6_chooseFirst 67 = .ok (.getfield 85, 3) := by decide +kernel
theorem dX6_chooseFirst_70 : decode cX6_chooseFirst 70 = .ok (.if_icmp .ge 19, 3) := by decide +kernel
theorem dX6_chooseFirst_73 : decode cX6_chooseFirst 73 = .ok (.aload_n 0, 1) := by decide +kernel
theorem dX6_chooseFirst_74 : decode cX6_chooseFirst 74 = .ok (.iload 4, 2) := by decide +kernel
theorem dX6_chooseFirst_76 : decode cX6_chooseFirst 76 = .ok (.putfield 85, 3) := by decide +kernel
theorem dX6_chooseFirst_79 : decode cX6_chooseFirst 79 = .ok (.aload_n 0, 1) := by decide +kernel
theorem dX6_chooseFirst_80 : decode cX6_chooseFirst 80 = .ok (.aload_n 0, 1) := by decide +kernel
theorem dX6_chooseFirst_81 : decode cX6_chooseFirst 81 = .ok (.getfield 15, 3) := by decide +kernel
theorem dX6_chooseFirst_84 : decode cX6_chooseFirst 84 = .ok (.iload_n 3, 1) := by decide +kernel
theorem dX6_chooseFirst_85 : decode cX6_chooseFirst 85 = .ok (.iaload, 1) := by decide +kernel
theorem dX6_chooseFirst_86 : decode cX6_chooseFirst 86 = .ok (.putfield 88, 3) := by decide +kernel
theorem dX6_chooseFirst_89 : decode cX6_chooseFirst 89 = .ok (.iinc 3 1, 3) := by decide +kernel
theorem dX6_chooseFirst_92 : decode cX6_chooseFirst 92 = .ok (.goto (-59), 3) := by decide +kernel
theorem dX6_chooseFirst_95 : decode cX6_chooseFirst 95 = .ok (.return_, 1) := by decide +kernel
theorem dX7_init_0 : decode cX7_init 0 = .ok (.aload_n 0, 1) := by decide +kernel
theorem dX7_init_1 : decode cX7_init 1 = .ok (.invokespecial 1, 3) := by decide +kernel
theorem dX7_init_4 : decode cX7_init 4 = .ok (.aload_n 0, 1) := by decide +kernel
theorem dX7_init_5 : decode cX7_init 5 = .ok (.bipush 50, 2) := by decide +kernel
theorem dX7_init_7 : decode cX7_init 7 = .ok (.newarray .int, 2) := by decide +kernel
theorem dX7_init_9 : decode cX7_init 9 = .ok (.putfield 9, 3) := by decide +kernel
theorem dX7_init_12 : decode cX7_init 12 = .ok (.aload_n 0, 1) := by decide +kernel
theorem dX7_init_13 : decode cX7_init 13 = .ok (.bipush 24, 2) := by decide +kernel
theorem dX7_init_15 : decode cX7_init 15 = .ok (.newarray .int, 2) := by decide +kernel
theorem dX7_init_17 : decode cX7_init 17 = .ok (.putfield 13, 3) := by decide +kernel
theorem dX7_init_20 : decode cX7_init 20 = .ok (.return_, 1) := by decide +kernel
theorem dX7_isKind_0 : decode cX7_isKind 0 = .ok (.iload_n 0, 1) := by decide +kernel
theorem dX7_isKind_1 : decode cX7_isKind 1 = .ok (.ifCond .lt 13, 3) := by decide +kernel
theorem dX7_isKind_4 : decode cX7_isKind 4 = .ok (.iload_n 0, 1) := by decide +kernel
theorem dX7_isKind_5 : decode cX7_isKind 5 = .ok (.bipush 8, 2) := by decide +kernel
theorem dX7_isKind_7 : decode cX7_isKind 7 = .ok (.if_icmp .ge 7, 3) := by decide +kernel
theorem dX7_isKind_10 : decode cX7_isKind 10 = .ok (.iconst 1, 1) := by decide +kernel
theorem dX7_isKind_11 : decode cX7_isKind 11 = .ok (.goto 4, 3) := by decide +kernel
theorem dX7_isKind_14 : decode cX7_isKind 14 = .ok (.iconst 0, 1) := by decide +kernel
theorem dX7_isKind_15 : decode cX7_isKind 15 = .ok (.ireturn, 1) := by decide +kernel
theorem dX7_isUnder_0 : decode cX7_isUnder 0 = .ok (.iload_n 0, 1) := by decide +kernel
theorem dX7_isUnder_1 : decode cX7_isUnder 1 = .ok (.istore_n 2, 1) := by decide +kernel
theorem dX7_isUnder_2 : decode cX7_isUnder 2 = .ok (.iconst 0, 1) := by decide +kernel
theorem dX7_isUnder_3 : decode cX7_isUnder 3 = .ok (.istore_n 3, 1) := by decide +kernel
theorem dX7_isUnder_4 : decode cX7_isUnder 4 = .ok (.iload_n 3, 1) := by decide +kernel
theorem dX7_isUnder_5 : decode cX7_isUnder 5 = .ok (.bipush 8, 2) := by decide +kernel
theorem dX7_isUnder_7 : decode cX7_isUnder 7 = .ok (.if_icmp .ge 29, 3) := by decide +kernel
theorem dX7_isUnder_10 : decode cX7_isUnder 10 = .ok (.iload_n 2, 1) := by decide +kernel
theorem dX7_isUnder_11 : decode cX7_isUnder 11 = .ok (.invokestatic 16, 3) := by decide +kernel
theorem dX7_isUnder_14 : decode cX7_isUnder 14 = .ok (.ifCond .eq 22, 3) := by decide +kernel
theorem dX7_isUnder_17 : decode cX7_isUnder 17 = .ok (.iload_n 2, 1) := by decide +kernel
theorem dX7_isUnder_18 : decode cX7_isUnder 18 = .ok (.iload_n 1, 1) := by decide +kernel
theorem dX7_isUnder_19 : decode cX7_isUnder 19 = .ok (.if_icmp .ne 5, 3) := by decide +kernel
theorem dX7_isUnder_22 : decode cX7_isUnder 22 = .ok (.iconst 1, 1) := by decide +kernel
theorem dX7_isUnder_23 : decode cX7_isUnder 23 = .ok (.ireturn, 1) := by decide +kernel
theorem dX7_isUnder_24 : decode cX7_isUnder 24 = .ok (.getstatic 20, 3) := by decide +kernel
theorem dX7_isUnder_27 : decode cX7_isUnder 27 = .ok (.iload_n 2, 1) := by decide +kernel
theorem dX7_isUnder_28 : decode cX7_isUnder 28 = .ok (.iaload, 1) := by decide +kernel
theorem dX7_isUnder_29 : decode cX7_isUnder 29 = .ok (.istore_n 2, 1) := by decide +kernel
theorem dX7_isUnder_30 : decode cX7_isUnder 30 = .ok (.iinc 3 1, 3) := by decide +kernel
theorem dX7_isUnder_33 : decode cX7_isUnder 33 = .ok (.goto (-29), 3) := by decide +kernel
theorem dX7_isUnder_36 : decode cX7_isUnder 36 = .ok (.iconst 0, 1) := by decide +kernel
theorem dX7_isUnder_37 : decode cX7_isUnder 37 = .ok (.ireturn, 1) := by decide +kernel
theorem dX7_has_0 : decode cX7_has 0 = .ok (.iload_n 1, 1) := by decide +kernel
theorem dX7_has_1 : decode cX7_has 1 = .ok (.ifCond .lt 21, 3) := by decide +kernel
theorem dX7_has_4 : decode cX7_has 4 = .ok (.iload_n 1, 1) := by decide +kernel
theorem dX7_has_5 : decode cX7_has 5 = .ok (.aload_n 0, 1) := by decide +kernel
theorem dX7_has_6 : decode cX7_has 6 = .ok (.getfield 23, 3) := by decide +kernel
theorem dX7_has_9 : decode cX7_has 9 = .ok (.if_icmp .ge 13, 3) := by decide +kernel
theorem dX7_has_12 : decode cX7_has 12 = .ok (.iload_n 1, 1) := by decide +kernel
theorem dX7_has_13 : decode cX7_has 13 = .ok (.bipush 50, 2) := by decide +kernel
theorem dX7_has_15 : decode cX7_has 15 = .ok (.if_icmp .ge 7, 3) := by decide +kernel
theorem dX7_has_18 : decode cX7_has 18 = .ok (.iconst 1, 1) := by decide +kernel
theorem dX7_has_19 : decode cX7_has 19 = .ok (.goto 4, 3) := by decide +kernel
theorem dX7_has_22 : decode cX7_has 22 = .ok (.iconst 0, 1) := by decide +kernel
theorem dX7_has_23 : decode cX7_has 23 = .ok (.ireturn, 1) := by decide +kernel
theorem dX7_kindOf_0 : decode cX7_kindOf 0 = .ok (.aload_n 0, 1) := by decide +kernel
theorem dX7_kindOf_1 : decode cX7_kindOf 1 = .ok (.iload_n 1, 1) := by decide +kernel
theorem dX7_kindOf_2 : decode cX7_kindOf 2 = .ok (.invokevirtual 27, 3) := by decide +kernel
theorem dX7_kindOf_5 : decode cX7_kindOf 5 = .ok (.ifCond .eq 12, 3) := by decide +kernel
theorem dX7_kindOf_8 : decode cX7_kindOf 8 = .ok (.aload_n 0, 1) := by decide +kernel
theorem dX7_kindOf_9 : decode cX7_kindOf 9 = .ok (.getfield 9, 3) := by decide +kernel
theorem dX7_kindOf_12 : decode cX7_kindOf 12 = .ok (.iload_n 1, 1) := by decide +kernel
theorem dX7_kindOf_13 : decode cX7_kindOf 13 = .ok (.iaload, 1) := by decide +kernel
theorem dX7_kindOf_14 : decode cX7_kindOf 14 = .ok (.goto 4, 3) := by decide +kernel
theorem dX7_kindOf_17 : decode cX7_kindOf 17 = .ok (.iconst (-1), 1) := by decide +kernel
theorem dX7_kindOf_18 : decode cX7_kindOf 18 = .ok (.ireturn, 1) := by decide +kernel
theorem dX7_add_0 : decode cX7_add 0 = .ok (.aload_n 0, 1) := by decide +kernel
theorem dX7_add_1 : decode cX7_add 1 = .ok (.getfield 23, 3) := by decide +kernel
theorem dX7_add_4 : decode cX7_add 4 = .ok (.bipush 50, 2) := by decide +kernel
theorem dX7_add_6 : decode cX7_add 6 = .ok (.if_icmp .lt 5, 3) := by decide +kernel
theorem dX7_add_9 : decode cX7_add 9 = .ok (.iconst (-1), 1) := by decide +kernel
theorem dX7_add_10 : decode cX7_add 10 = .ok (.ireturn, 1) := by decide +kernel
theorem dX7_add_11 : decode cX7_add 11 = .ok (.aload_n 0, 1) := by decide +kernel
theorem dX7_add_12 : decode cX7_add 12 = .ok (.getfield 9, 3) := by decide +kernel
theorem dX7_add_15 : decode cX7_add 15 = .ok (.aload_n 0, 1) := by decide +kernel
theorem dX7_add_16 : decode cX7_add 16 = .ok (.getfield 23, 3) := by decide +kernel
theorem dX7_add_19 : decode cX7_add 19 = .ok (.iload_n 1, 1) := by decide +kernel
theorem dX7_add_20 : decode cX7_add 20 = .ok (.iastore, 1) := by decide +kernel
theorem dX7_add_21 : decode cX7_add 21 = .ok (.aload_n 0, 1) := by decide +kernel
theorem dX7_add_22 : decode cX7_add 22 = .ok (.dup, 1) := by decide +kernel
theorem dX7_add_23 : decode cX7_add 23 = .ok (.getfield 23, 3) := by decide +kernel
theorem dX7_add_26 : decode cX7_add 26 = .ok (.iconst 1, 1) := by decide +kernel
theorem dX7_add_27 : decode cX7_add 27 = .ok (.iadd, 1) := by decide +kernel
theorem dX7_add_28 : decode cX7_add 28 = .ok (.putfield 23, 3) := by decide +kernel
theorem dX7_add_31 : decode cX7_add 31 = .ok (.aload_n 0, 1) := by decide +kernel
theorem dX7_add_32 : decode cX7_add 32 = .ok (.getfield 23, 3) := by decide +kernel
theorem dX7_add_35 : decode cX7_add 35 = .ok (.iconst 1, 1) := by decide +kernel
theorem dX7_add_36 : decode cX7_add 36 = .ok (.isub, 1) := by decide +kernel
theorem dX7_add_37 : decode cX7_add 37 = .ok (.ireturn, 1) := by decide +kernel
theorem dX7_ranAt_0 : decode cX7_ranAt 0 = .ok (.iload_n 1, 1) := by decide +kernel
theorem dX7_ranAt_1 : decode cX7_ranAt 1 = .ok (.ifCond .lt 26, 3) := by decide +kernel
theorem dX7_ranAt_4 : decode cX7_ranAt 4 = .ok (.iload_n 1, 1) := by decide +kernel
theorem dX7_ranAt_5 : decode cX7_ranAt 5 = .ok (.aload_n 0, 1) := by decide +kernel
theorem dX7_ranAt_6 : decode cX7_ranAt 6 = .ok (.getfield 30, 3) := by decide +kernel
theorem dX7_ranAt_9 : decode cX7_ranAt 9 = .ok (.if_icmp .ge 18, 3) := by decide +kernel
theorem dX7_ranAt_12 : decode cX7_ranAt 12 = .ok (.iload_n 1, 1) := by decide +kernel
theorem dX7_ranAt_13 : decode cX7_ranAt 13 = .ok (.bipush 24, 2) := by decide +kernel
theorem dX7_ranAt_15 : decode cX7_ranAt 15 = .ok (.if_icmp .ge 12, 3) := by decide +kernel
theorem dX7_ranAt_18 : decode cX7_ranAt 18 = .ok (.aload_n 0, 1) := by decide +kernel
theorem dX7_ranAt_19 : decode cX7_ranAt 19 = .ok (.getfield 13, 3) := by decide +kernel
theorem dX7_ranAt_22 : decode cX7_ranAt 22 = .ok (.iload_n 1, 1) := by decide +kernel
theorem dX7_ranAt_23 : decode cX7_ranAt 23 = .ok (.iaload, 1) := by decide +kernel
theorem dX7_ranAt_24 : decode cX7_ranAt 24 = .ok (.goto 4, 3) := by decide +kernel
theorem dX7_ranAt_27 : decode cX7_ranAt 27 = .ok (.iconst (-1), 1) := by decide +kernel
theorem dX7_ranAt_28 : decode cX7_ranAt 28 = .ok (.ireturn, 1) := by decide +kernel
theorem dX7_perform_0 : decode cX7_perform 0 = .ok (.aload_n 0, 1) := by decide +kernel
theorem dX7_perform_1 : decode cX7_perform 1 = .ok (.iconst 0, 1) := by decide +kernel
theorem dX7_perform_2 : decode cX7_perform 2 = .ok (.putfield 30, 3) := by decide +kernel
theorem dX7_perform_5 : decode cX7_perform 5 = .ok (.aload_n 0, 1) := by decide +kernel
theorem dX7_perform_6 : decode cX7_perform 6 = .ok (.iload_n 1, 1) := by decide +kernel
theorem dX7_perform_7 : decode cX7_perform 7 = .ok (.invokevirtual 27, 3) := by decide +kernel
theorem dX7_perform_10 : decode cX7_perform 10 = .ok (.ifCond .eq 12, 3) := by decide +kernel
theorem dX7_perform_13 : decode cX7_perform 13 = .ok (.iload_n 2, 1) := by decide +kernel
theorem dX7_perform_14 : decode cX7_perform 14 = .ok (.ifCond .lt 8, 3) := by decide +kernel
theorem dX7_perform_17 : decode cX7_perform 17 = .ok (.iload_n 2, 1) := by decide +kernel
theorem dX7_perform_18 : decode cX7_perform 18 = .ok (.iconst 4, 1) := by decide +kernel
theorem dX7_perform_19 : decode cX7_perform 19 = .ok (.if_icmp .lt 5, 3) := by decide +kernel
theorem dX7_perform_22 : decode cX7_perform 22 = .ok (.iconst 0, 1) := by decide +kernel
theorem dX7_perform_23 : decode cX7_perform 23 = .ok (.ireturn, 1) := by decide +kernel
theorem dX7_perform_24 : decode cX7_perform 24 = .ok (.aload_n 0, 1) := by decide +kernel
theorem dX7_perform_25 : decode cX7_perform 25 = .ok (.iload_n 1, 1) := by decide +kernel
theorem dX7_perform_26 : decode cX7_perform 26 = .ok (.putfield 33, 3) := by decide +kernel
theorem dX7_perform_29 : decode cX7_perform 29 = .ok (.aload_n 0, 1) := by decide +kernel
theorem dX7_perform_30 : decode cX7_perform 30 = .ok (.iload_n 2, 1) := by decide +kernel
theorem dX7_perform_31 : decode cX7_perform 31 = .ok (.aload_n 0, 1) := by decide +kernel
theorem dX7_perform_32 : decode cX7_perform 32 = .ok (.iload_n 1, 1) := by decide +kernel
theorem dX7_perform_33 : decode cX7_perform 33 = .ok (.invokevirtual 36, 3) := by decide +kernel
theorem dX7_perform_36 : decode cX7_perform 36 = .ok (.iload_n 3, 1) := by decide +kernel
theorem dX7_perform_37 : decode cX7_perform 37 = .ok (.iconst 0, 1) := by decide +kernel
theorem dX7_perform_38 : decode cX7_perform 38 = .ok (.invokevirtual 40, 3) := by decide +kernel
theorem dX7_perform_41 : decode cX7_perform 41 = .ok (.ireturn, 1) := by decide +kernel
theorem dX7_begin_0 : decode cX7_begin 0 = .ok (.iload_n 2, 1) := by decide +kernel
theorem dX7_begin_1 : decode cX7_begin 1 = .ok (.istore 5, 2) := by decide +kernel
theorem dX7_begin_3 : decode cX7_begin 3 = .ok (.iconst 0, 1) := by decide +kernel
theorem dX7_begin_4 : decode cX7_begin 4 = .ok (.istore 6, 2) := by decide +kernel
theorem dX7_begin_6 : decode cX7_begin 6 = .ok (.iload 6, 2) := by decide +kernel
theorem dX7_begin_8 : decode cX7_begin 8 = .ok (.bipush 8, 2) := by decide +kernel
theorem dX7_begin_10 : decode cX7_begin 10 = .ok (.if_icmp .ge 39, 3) := by decide +kernel
theorem dX7_begin_13 : decode cX7_begin 13 = .ok (.iload 5, 2) := by decide +kernel
theorem dX7_begin_15 : decode cX7_begin 15 = .ok (.invokestatic 16, 3) := by decide +kernel
theorem dX7_begin_18 : decode cX7_begin 18 = .ok (.ifCond .eq 31, 3) := by decide +kernel
theorem dX7_begin_21 : decode cX7_begin 21 = .ok (.getstatic 44, 3) := by decide +kernel
theorem dX7_begin_24 : decode cX7_begin 24 = .ok (.iload_n 1, 1) := by decide +kernel
theorem dX7_begin_25 : decode cX7_begin 25 = .ok (.bipush 8, 2) := by decide +kernel
theorem dX7_begin_27 : decode cX7_begin 27 = .ok (.imul, 1) := by decide +kernel
theorem dX7_begin_28 : decode cX7_begin 28 = .ok (.iload 5, 2) := by decide +kernel
theorem dX7_begin_30 : decode cX7_begin 30 = .ok (.iadd, 1) := by decide +kernel
theorem dX7_begin_31 : decode cX7_begin 31 = .ok (.iaload, 1) := by decide +kernel
theorem dX7_begin_32 : decode cX7_begin 32 = .ok (.ifCond .ne 17, 3) := by decide +kernel
theorem dX7_begin_35 : decode cX7_begin 35 = .ok (.getstatic 20, 3) := by decide +kernel
theorem dX7_begin_38 : decode cX7_begin 38 = .ok (.iload 5, 2) := by decide +kernel
theorem dX7_begin_40 : decode cX7_begin 40 = .ok (.iaload, 1) := by decide +kernel
theorem dX7_begin_41 : decode cX7_begin 41 = .ok (.istore 5, 2) := by decide +kernel
theorem dX7_begin_43 : decode cX7_begin 43 = .ok (.iinc 6 1, 3) := by decide +kernel
theorem dX7_begin_46 : decode cX7_begin 46 = .ok (.goto (-40), 3) := by decide +kernel
theorem dX7_begin_49 : decode cX7_begin 49 = .ok (.iload 5, 2) := by decide +kernel
theorem dX7_begin_51 : decode cX7_begin 51 = .ok (.invokestatic 16, 3) := by decide +kernel
theorem dX7_begin_54 : decode cX7_begin 54 = .ok (.ifCond .eq 10, 3) := by decide +kernel
theorem dX7_begin_57 : decode cX7_begin 57 = .ok (.iload 4, 2) := by decide +kernel
theorem dX7_begin_59 : decode cX7_begin 59 = .ok (.bipush 20, 2) := by decide +kernel
theorem dX7_begin_61 : decode cX7_begin 61 = .ok (.if_icmp .le 5, 3) := by decide +kernel
theorem dX7_begin_64 : decode cX7_begin 64 = .ok (.iconst 0, 1) := by decide +kernel
theorem dX7_begin_65 : decode cX7_begin 65 = .ok (.ireturn, 1) := by decide +kernel
theorem dX7_begin_66 : decode cX7_begin 66 = .ok (.getstatic 44, 3) := by decide +kernel
theorem dX7_begin_69 : decode cX7_begin 69 = .ok (.iload_n 1, 1) := by decide +kernel
theorem dX7_begin_70 : decode cX7_begin 70 = .ok (.bipush 8, 2) := by decide +kernel
theorem dX7_begin_72 : decode cX7_begin 72 = .ok (.imul, 1) := by decide +kernel
theorem dX7_begin_73 : decode cX7_begin 73 = .ok (.iload 5, 2) := by decide +kernel
theorem dX7_begin_75 : decode cX7_begin 75 = .ok (.iadd, 1) := by decide +kernel
theorem dX7_begin_76 : decode cX7_begin 76 = .ok (.iaload, 1) := by decide +kernel
theorem dX7_begin_77 : decode cX7_begin 77 = .ok (.istore 6, 2) := by decide +kernel
theorem dX7_begin_79 : decode cX7_begin 79 = .ok (.aload_n 0, 1) := by decide +kernel
theorem dX7_begin_80 : decode cX7_begin 80 = .ok (.getfield 30, 3) := by decide +kernel
theorem dX7_begin_83 : decode cX7_begin 83 = .ok (.bipush 24, 2) := by decide +kernel
theorem dX7_begin_85 : decode cX7_begin 85 = .ok (.if_icmp .ge 14, 3) := by decide +kernel
theorem dX7_begin_88 : decode cX7_begin 88 = .ok (.aload_n 0, 1) := by decide +kernel
theorem dX7_begin_89 : decode cX7_begin 89 = .ok (.getfield 13, 3) := by decide +kernel
theorem dX7_begin_92 : decode cX7_begin 92 = .ok (.aload_n 0, 1) := by decide +kernel
theorem dX7_begin_93 : decode cX7_begin 93 = .ok (.getfield 30, 3) := by decide +kernel
theorem dX7_begin_96 : decode cX7_begin 96 = .ok (.iload 6, 2) := by decide +kernel
theorem dX7_begin_98 : decode cX7_begin 98 = .ok (.iastore, 1) := by decide +kernel
theorem dX7_begin_99 : decode cX7_begin 99 = .ok (.aload_n 0, 1) := by decide +kernel
theorem dX7_begin_100 : decode cX7_begin 100 = .ok (.dup, 1) := by decide +kernel
theorem dX7_begin_101 : decode cX7_begin 101 = .ok (.getfield 30, 3) := by decide +kernel
theorem dX7_begin_104 : decode cX7_begin 104 = .ok (.iconst 1, 1) := by decide +kernel
theorem dX7_begin_105 : decode cX7_begin 105 = .ok (.iadd, 1) := by decide +kernel
theorem dX7_begin_106 : decode cX7_begin 106 = .ok (.putfield 30, 3) := by decide +kernel
theorem dX7_begin_109 : decode cX7_begin 109 = .ok (.iload 6, 2) := by decide +kernel
theorem dX7_begin_111 : decode cX7_begin 111 = .ok (.bipush 11, 2) := by decide +kernel
theorem dX7_begin_113 : decode cX7_begin 113 = .ok (.if_icmp .gt 13, 3) := by decide +kernel
theorem dX7_begin_116 : decode cX7_begin 116 = .ok (.aload_n 0, 1) := by decide +kernel
theorem dX7_begin_117 : decode cX7_begin 117 = .ok (.iload 6, 2) := by decide +kernel
theorem dX7_begin_119 : decode cX7_begin 119 = .ok (.iload_n 3, 1) := by decide +kernel
theorem dX7_begin_120 : decode cX7_begin 120 = .ok (.iload 4, 2) := by decide +kernel
theorem dX7_begin_122 : decode cX7_begin 122 = .ok (.invokevirtual 47, 3) := by decide +kernel
theorem dX7_begin_125 : decode cX7_begin 125 = .ok (.ireturn, 1) := by decide +kernel
theorem dX7_begin_126 : decode cX7_begin 126 = .ok (.aload_n 0, 1) := by decide +kernel
theorem dX7_begin_127 : decode cX7_begin 127 = .ok (.iload 6, 2) := by decide +kernel
theorem dX7_begin_129 : decode cX7_begin 129 = .ok (.iload_n 1, 1) := by decide +kernel
theorem dX7_begin_130 : decode cX7_begin 130 = .ok (.getstatic 20, 3) := by decide +kernel
theorem dX7_begin_133 : decode cX7_begin 133 = .ok (.iload 5, 2) := by decide +kernel
theorem dX7_begin_135 : decode cX7_begin 135 = .ok (.iaload, 1) := by decide +kernel
theorem dX7_begin_136 : decode cX7_begin 136 = .ok (.iload_n 3, 1) := by decide +kernel
theorem dX7_begin_137 : decode cX7_begin 137 = .ok (.iload 4, 2) := by decide +kernel
theorem dX7_begin_139 : decode cX7_begin 139 = .ok (.invokevirtual 51, 3) := by decide +kernel
theorem dX7_begin_142 : decode cX7_begin 142 = .ok (.ireturn, 1) := by decide +kernel
theorem dX7_own_0 : decode cX7_own 0 = .ok (.aload_n 0, 1) := by decide +kernel
theorem dX7_own_1 : decode cX7_own 1 = .ok (.iload_n 1, 1) := by decide +kernel
theorem dX7_own_2 : decode cX7_own 2 = .ok (.aload_n 0, 1) := by decide +kernel
theorem dX7_own_3 : decode cX7_own 3 = .ok (.aload_n 0, 1) := by decide +kernel
theorem dX7_own_4 : decode cX7_own 4 = .ok (.getfield 33, 3) := by decide +kernel
theorem dX7_own_7 : decode cX7_own 7 = .ok (.invokevirtual 36, 3) := by decide +kernel
theorem dX7_own_10 : decode cX7_own 10 = .ok (.iload_n 2, 1) := by decide +kernel
theorem dX7_own_11 : decode cX7_own 11 = .ok (.iload_n 3, 1) := by decide +kernel
theorem dX7_own_12 : decode cX7_own 12 = .ok (.iconst 1, 1) := by decide +kernel
theorem dX7_own_13 : decode cX7_own 13 = .ok (.iadd, 1) := by decide +kernel
theorem dX7_own_14 : decode cX7_own 14 = .ok (.invokevirtual 40, 3) := by decide +kernel
theorem dX7_own_17 : decode cX7_own 17 = .ok (.ireturn, 1) := by decide +kernel
theorem dX7_answerOfWheel_0 : decode cX7_answerOfWheel 0 = .ok (.iload_n 1, 1) := by decide +kernel
theorem dX7_answerOfWheel_1 : decode cX7_answerOfWheel 1 = .ok (.lookupswitch 68 #[(1, 35), (2, 42), (10, 58)], 35) := by decide +kernel
theorem dX7_answerOfWheel_36 : decode cX7_answerOfWheel 36 = .ok (.iload_n 2, 1) := by decide +kernel
theorem dX7_answerOfWheel_37 : decode cX7_answerOfWheel 37 = .ok (.aload_n 0, 1) := by decide +kernel
theorem dX7_answerOfWheel_38 : decode cX7_answerOfWheel 38 = .ok (.getfield 33, 3) := by decide +kernel
theorem dX7_answerOfWheel_41 : decode cX7_answerOfWheel 41 = .ok (.iadd, 1) := by decide +kernel
theorem dX7_answerOfWheel_42 : decode cX7_answerOfWheel 42 = .ok (.ireturn, 1) := by decide +kernel
theorem dX7_answerOfWheel_43 : decode cX7_answerOfWheel 43 = .ok (.aload_n 0, 1) := by decide +kernel
theorem dX7_answerOfWheel_44 : decode cX7_answerOfWheel 44 = .ok (.iconst 1, 1) := by decide +kernel
theorem dX7_answerOfWheel_45 : decode cX7_answerOfWheel 45 = .ok (.iload_n 2, 1) := by decide +kernel
theorem dX7_answerOfWheel_46 : decode cX7_answerOfWheel 46 = .ok (.iload_n 3, 1) := by decide +kernel
theorem dX7_answerOfWheel_47 : decode cX7_answerOfWheel 47 = .ok (.invokevirtual 55, 3) := by decide +kernel
theorem dX7_answerOfWheel_50 : decode cX7_answerOfWheel 50 = .ok (.aload_n 0, 1) := by decide +kernel
theorem dX7_answerOfWheel_51 : decode cX7_answerOfWheel 51 = .ok (.iconst 2, 1) := by decide +kernel
theorem dX7_answerOfWheel_52 : decode cX7_answerOfWheel 52 = .ok (.iconst 1, 1) := by decide +kernel
theorem dX7_answerOfWheel_53 : decode cX7_answerOfWheel 53 = .ok (.iload_n 3, 1) := by decide +kernel
theorem dX7_answerOfWheel_54 : decode cX7_answerOfWheel 54 = .ok (.invokevirtual 55, 3) := by decide +kernel
theorem dX7_answerOfWheel_57 : decode cX7_answerOfWheel 57 = .ok (.isub, 1) := by decide +kernel
theorem dX7_answerOfWheel_58 : decode cX7_answerOfWheel 58 = .ok (.ireturn, 1) := by decide +kernel
theorem dX7_answerOfWheel_59 : decode cX7_answerOfWheel 59 = .ok (.aload_n 0, 1) := by decide +kernel
theorem dX7_answerOfWheel_60 : decode cX7_answerOfWheel 60 = .ok (.iconst 0, 1) := by decide +kernel
theorem dX7_answerOfWheel_61 : decode cX7_answerOfWheel 61 = .ok (.iload_n 2, 1) := by decide +kernel
theorem dX7_answerOfWheel_62 : decode cX7_answerOfWheel 62 = .ok (.iload_n 3, 1) := by decide +kernel
theorem dX7_answerOfWheel_63 : decode cX7_answerOfWheel 63 = .ok (.invokevirtual 55, 3) := by decide +kernel
theorem dX7_answerOfWheel_66 : decode cX7_answerOfWheel 66 = .ok (.iconst 2, 1) := by decide +kernel
theorem dX7_answerOfWheel_67 : decode cX7_answerOfWheel 67 = .ok (.imul, 1) := by decide +kernel
theorem dX7_answerOfWheel_68 : decode cX7_answerOfWheel 68 = .ok (.ireturn, 1) := by decide +kernel
theorem dX7_answerOfWheel_69 : decode cX7_answerOfWheel 69 = .ok (.iload_n 2, 1) := by decide +kernel
theorem dX7_answerOfWheel_70 : decode cX7_answerOfWheel 70 = .ok (.aload_n 0, 1) := by decide +kernel
theorem dX7_answerOfWheel_71 : decode cX7_answerOfWheel 71 = .ok (.getfield 33, 3) := by decide +kernel
theorem dX7_answerOfWheel_74 : decode cX7_answerOfWheel 74 = .ok (.ixor, 1) := by decide +kernel
theorem dX7_answerOfWheel_75 : decode cX7_answerOfWheel 75 = .ok (.ireturn, 1) := by decide +kernel
theorem dX7_answerUnder_0 : decode cX7_answerUnder 0 = .ok (.aload_n 0, 1) := by decide +kernel
theorem dX7_answerUnder_1 : decode cX7_answerUnder 1 = .ok (.iload_n 2, 1) := by decide +kernel
theorem dX7_answerUnder_2 : decode cX7_answerUnder 2 = .ok (.iload_n 3, 1) := by decide +kernel
theorem dX7_answerUnder_3 : decode cX7_answerUnder 3 = .ok (.iload_n 1, 1) := by decide +kernel
theorem dX7_answerUnder_4 : decode cX7_answerUnder 4 = .ok (.bipush 41, 2) := by decide +kernel
theorem dX7_answerUnder_6 : decode cX7_answerUnder 6 = .ok (.if_icmp .ne 10, 3) := by decide +kernel
theorem dX7_answerUnder_9 : decode cX7_answerUnder 9 = .ok (.iload 4, 2) := by decide +kernel
theorem dX7_answerUnder_11 : decode cX7_answerUnder 11 = .ok (.iconst 1, 1) := by decide +kernel
theorem dX7_answerUnder_12 : decode cX7_answerUnder 12 = .ok (.iadd, 1) := by decide +kernel
theorem dX7_answerUnder_13 : decode cX7_answerUnder 13 = .ok (.goto 5, 3) := by decide +kernel
theorem dX7_answerUnder_16 : decode cX7_answerUnder 16 = .ok (.iload 4, 2) := by decide +kernel
theorem dX7_answerUnder_18 : decode cX7_answerUnder 18 = .ok (.iload 5, 2) := by decide +kernel
theorem dX7_answerUnder_20 : decode cX7_answerUnder 20 = .ok (.iconst 1, 1) := by decide +kernel
theorem dX7_answerUnder_21 : decode cX7_answerUnder 21 = .ok (.iadd, 1) := by decide +kernel
theorem dX7_answerUnder_22 : decode cX7_answerUnder 22 = .ok (.invokevirtual 40, 3) := by decide +kernel
theorem dX7_answerUnder_25 : decode cX7_answerUnder 25 = .ok (.istore 6, 2) := by decide +kernel
theorem dX7_answerUnder_27 : decode cX7_answerUnder 27 = .ok (.iload_n 1, 1) := by decide +kernel
theorem dX7_answerUnder_28 : decode cX7_answerUnder 28 = .ok (.lookupswitch 142 #[(20, 84), (30, 89), (40, 93), (50, 98), (60, 103), (61, 115), (70, 120), (80, 125), (81, 137)], 84) := by decide +kernel
theorem dX7_answerUnder_112 : decode cX7_answerUnder 112 = .ok (.iload 6, 2) := by decide +kernel
theorem dX7_answerUnder_114 : decode cX7_answerUnder 114 = .ok (.iconst 3, 1) := by decide +kernel
theorem dX7_answerUnder_115 : decode cX7_answerUnder 115 = .ok (.iadd, 1) := by decide +kernel
theorem dX7_answerUnder_116 : decode cX7_answerUnder 116 = .ok (.ireturn, 1) := by decide +kernel
theorem dX7_answerUnder_117 : decode cX7_answerUnder 117 = .ok (.iload 6, 2) := by decide +kernel
theorem dX7_answerUnder_119 : decode cX7_answerUnder 119 = .ok (.ineg, 1) := by decide +kernel
theorem dX7_answerUnder_120 : decode cX7_answerUnder 120 = .ok (.ireturn, 1) := by decide +kernel
theorem dX7_answerUnder_121 : decode cX7_answerUnder 121 = .ok (.iload 6, 2) := by decide +kernel
theorem dX7_answerUnder_123 : decode cX7_answerUnder 123 = .ok (.iconst 3, 1) := by decide +kernel
theorem dX7_answerUnder_124 : decode cX7_answerUnder 124 = .ok (.imul, 1) := by decide +kernel
theorem dX7_answerUnder_125 : decode cX7_answerUnder 125 = .ok (.ireturn, 1) := by decide +kernel
theorem dX7_answerUnder_126 : decode cX7_answerUnder 126 = .ok (.iload 6, 2) := by decide +kernel
theorem dX7_answerUnder_128 : decode cX7_answerUnder 128 = .ok (.iconst 5, 1) := by decide +kernel
theorem dX7_answerUnder_129 : decode cX7_answerUnder 129 = .ok (.ixor, 1) := by decide +kernel
theorem dX7_answerUnder_130 : decode cX7_answerUnder 130 = .ok (.ireturn, 1) := by decide +kernel
theorem dX7_answerUnder_131 : decode cX7_answerUnder 131 = .ok (.iload 6, 2) := by decide +kernel
theorem dX7_answerUnder_133 : decode cX7_answerUnder 133 = .ok (.aload_n 0, 1) := by decide +kernel
theorem dX7_answerUnder_134 : decode cX7_answerUnder 134 = .ok (.iconst 0, 1) := by decide +kernel
theorem dX7_answerUnder_135 : decode cX7_answerUnder 135 = .ok (.iconst 2, 1) := by decide +kernel
theorem dX7_answerUnder_136 : decode cX7_answerUnder 136 = .ok (.iload 5, 2) := by decide +kernel
theorem dX7_answerUnder_138 : decode cX7_answerUnder 138 = .ok (.invokevirtual 55, 3) := by decide +kernel
theorem dX7_answerUnder_141 : decode cX7_answerUnder 141 = .ok (.isub, 1) := by decide +kernel
theorem dX7_answerUnder_142 : decode cX7_answerUnder 142 = .ok (.ireturn, 1) := by decide +kernel
theorem dX7_answerUnder_143 : decode cX7_answerUnder 143 = .ok (.iload 6, 2) := by decide +kernel
theorem dX7_answerUnder_145 : decode cX7_answerUnder 145 = .ok (.iconst 1, 1) := by decide +kernel
theorem dX7_answerUnder_146 : decode cX7_answerUnder 146 = .ok (.iadd, 1) := by decide +kernel
theorem dX7_answerUnder_147 : decode cX7_answerUnder 147 = .ok (.ireturn, 1) := by decide +kernel
theorem dX7_answerUnder_148 : decode cX7_answerUnder 148 = .ok (.iload 6, 2) := by decide +kernel
theorem dX7_answerUnder_150 : decode cX7_answerUnder 150 = .ok (.iconst 2, 1) := by decide +kernel
theorem dX7_answerUnder_151 : decode cX7_answerUnder 151 = .ok (.imul, 1) := by decide +kernel
theorem dX7_answerUnder_152 : decode cX7_answerUnder 152 = .ok (.ireturn, 1) := by decide +kernel
theorem dX7_answerUnder_153 : decode cX7_answerUnder 153 = .ok (.iload 6, 2) := by decide +kernel
theorem dX7_answerUnder_155 : decode cX7_answerUnder 155 = .ok (.aload_n 0, 1) := by decide +kernel
theorem dX7_answerUnder_156 : decode cX7_answerUnder 156 = .ok (.iconst 2, 1) := by decide +kernel
theorem dX7_answerUnder_157 : decode cX7_answerUnder 157 = .ok (.iconst 2, 1) := by decide +kernel
theorem dX7_answerUnder_158 : decode cX7_answerUnder 158 = .ok (.iload 5, 2) := by decide +kernel
theorem dX7_answerUnder_160 : decode cX7_answerUnder 160 = .ok (.invokevirtual 55, 3) := by decide +kernel
theorem dX7_answerUnder_163 : decode cX7_answerUnder 163 = .ok (.iadd, 1) := by decide +kernel
theorem dX7_answerUnder_164 : decode cX7_answerUnder 164 = .ok (.ireturn, 1) := by decide +kernel
theorem dX7_answerUnder_165 : decode cX7_answerUnder 165 = .ok (.iload 6, 2) := by decide +kernel
theorem dX7_answerUnder_167 : decode cX7_answerUnder 167 = .ok (.iconst 1, 1) := by decide +kernel
theorem dX7_answerUnder_168 : decode cX7_answerUnder 168 = .ok (.isub, 1) := by decide +kernel
theorem dX7_answerUnder_169 : decode cX7_answerUnder 169 = .ok (.ireturn, 1) := by decide +kernel
theorem dX7_answerUnder_170 : decode cX7_answerUnder 170 = .ok (.iload 6, 2) := by decide +kernel
theorem dX7_answerUnder_172 : decode cX7_answerUnder 172 = .ok (.ireturn, 1) := by decide +kernel
theorem dX8_init_0 : decode cX8_init 0 = .ok (.aload_n 0, 1) := by decide +kernel
theorem dX8_init_1 : decode cX8_init 1 = .ok (.invokespecial 1, 3) := by decide +kernel
theorem dX8_init_4 : decode cX8_init 4 = .ok (.aload_n 0, 1) := by decide +kernel
theorem dX8_init_5 : decode cX8_init 5 = .ok (.new 7, 3) := by decide +kernel
theorem dX8_init_8 : decode cX8_init 8 = .ok (.dup, 1) := by decide +kernel
end
section
theorem dX8_init_9 : decode cX8_init 9 = .ok (.invokespecial 9, 3) := by decide +kernel
theorem dX8_init_12 : decode cX8_init 12 = .ok (.putfield 10, 3) := by decide +kernel
theorem dX8_init_15 : decode cX8_init 15 = .ok (.aload_n 0, 1) := by decide +kernel
theorem dX8_init_16 : decode cX8_init 16 = .ok (.new 16, 3) := by decide +kernel
theorem dX8_init_19 : decode cX8_init 19 = .ok (.dup, 1) := by decide +kernel
theorem dX8_init_20 : decode cX8_init 20 = .ok (.invokespecial 18, 3) := by decide +kernel
theorem dX8_init_23 : decode cX8_init 23 = .ok (.putfield 19, 3) := by decide +kernel
theorem dX8_init_26 : decode cX8_init 26 = .ok (.aload_n 0, 1) := by decide +kernel
theorem dX8_init_27 : decode cX8_init 27 = .ok (.new 16, 3) := by decide +kernel
theorem dX8_init_30 : decode cX8_init 30 = .ok (.dup, 1) := by decide +kernel
theorem dX8_init_31 : decode cX8_init 31 = .ok (.invokespecial 18, 3) := by decide +kernel
theorem dX8_init_34 : decode cX8_init 34 = .ok (.putfield 23, 3) := by decide +kernel
theorem dX8_init_37 : decode cX8_init 37 = .ok (.aload_n 0, 1) := by decide +kernel
theorem dX8_init_38 : decode cX8_init 38 = .ok (.new 16, 3) := by decide +kernel
theorem dX8_init_41 : decode cX8_init 41 = .ok (.dup, 1) := by decide +kernel
theorem dX8_init_42 : decode cX8_init 42 = .ok (.invokespecial 18, 3) := by decide +kernel
theorem dX8_init_45 : decode cX8_init 45 = .ok (.putfield 26, 3) := by decide +kernel
theorem dX8_init_48 : decode cX8_init 48 = .ok (.aload_n 0, 1) := by decide +kernel
theorem dX8_init_49 : decode cX8_init 49 = .ok (.bipush 60, 2) := by decide +kernel
theorem dX8_init_51 : decode cX8_init 51 = .ok (.newarray .int, 2) := by decide +kernel
theorem dX8_init_53 : decode cX8_init 53 = .ok (.putfield 29, 3) := by decide +kernel
theorem dX8_init_56 : decode cX8_init 56 = .ok (.aload_n 0, 1) := by decide +kernel
theorem dX8_init_57 : decode cX8_init 57 = .ok (.bipush 60, 2) := by decide +kernel
theorem dX8_init_59 : decode cX8_init 59 = .ok (.newarray .boolean, 2) := by decide +kernel
theorem dX8_init_61 : decode cX8_init 61 = .ok (.putfield 33, 3) := by decide +kernel
theorem dX8_init_64 : decode cX8_init 64 = .ok (.aload_n 0, 1) := by decide +kernel
theorem dX8_init_65 : decode cX8_init 65 = .ok (.new 37, 3) := by decide +kernel
theorem dX8_init_68 : decode cX8_init 68 = .ok (.dup, 1) := by decide +kernel
theorem dX8_init_69 : decode cX8_init 69 = .ok (.invokespecial 39, 3) := by decide +kernel
theorem dX8_init_72 : decode cX8_init 72 = .ok (.putfield 40, 3) := by decide +kernel
theorem dX8_init_75 : decode cX8_init 75 = .ok (.aload_n 0, 1) := by decide +kernel
theorem dX8_init_76 : decode cX8_init 76 = .ok (.new 44, 3) := by decide +kernel
theorem dX8_init_79 : decode cX8_init 79 = .ok (.dup, 1) := by decide +kernel
theorem dX8_init_80 : decode cX8_init 80 = .ok (.invokespecial 46, 3) := by decide +kernel
theorem dX8_init_83 : decode cX8_init 83 = .ok (.putfield 47, 3) := by decide +kernel
theorem dX8_init_86 : decode cX8_init 86 = .ok (.aload_n 0, 1) := by decide +kernel
theorem dX8_init_87 : decode cX8_init 87 = .ok (.new 51, 3) := by decide +kernel
theorem dX8_init_90 : decode cX8_init 90 = .ok (.dup, 1) := by decide +kernel
theorem dX8_init_91 : decode cX8_init 91 = .ok (.invokespecial 53, 3) := by decide +kernel
theorem dX8_init_94 : decode cX8_init 94 = .ok (.putfield 54, 3) := by decide +kernel
theorem dX8_init_97 : decode cX8_init 97 = .ok (.aload_n 0, 1) := by decide +kernel
theorem dX8_init_98 : decode cX8_init 98 = .ok (.new 58, 3) := by decide +kernel
theorem dX8_init_101 : decode cX8_init 101 = .ok (.dup, 1) := by decide +kernel
theorem dX8_init_102 : decode cX8_init 102 = .ok (.invokespecial 60, 3) := by decide +kernel
theorem dX8_init_105 : decode cX8_init 105 = .ok (.putfield 61, 3) := by decide +kernel
theorem dX8_init_108 : decode cX8_init 108 = .ok (.aload_n 0, 1) := by decide +kernel
theorem dX8_init_109 : decode cX8_init 109 = .ok (.bipush 6, 2) := by decide +kernel
theorem dX8_init_111 : decode cX8_init 111 = .ok (.anewarray 65, 3) := by decide +kernel
theorem dX8_init_114 : decode cX8_init 114 = .ok (.putfield 67, 3) := by decide +kernel
theorem dX8_init_117 : decode cX8_init 117 = .ok (.iconst 0, 1) := by decide +kernel
theorem dX8_init_118 : decode cX8_init 118 = .ok (.istore_n 1, 1) := by decide +kernel
theorem dX8_init_119 : decode cX8_init 119 = .ok (.iload_n 1, 1) := by decide +kernel
theorem dX8_init_120 : decode cX8_init 120 = .ok (.bipush 6, 2) := by decide +kernel
theorem dX8_init_122 : decode cX8_init 122 = .ok (.if_icmp .ge 22, 3) := by decide +kernel
theorem dX8_init_125 : decode cX8_init 125 = .ok (.aload_n 0, 1) := by decide +kernel
theorem dX8_init_126 : decode cX8_init 126 = .ok (.getfield 67, 3) := by decide +kernel
theorem dX8_init_129 : decode cX8_init 129 = .ok (.iload_n 1, 1) := by decide +kernel
theorem dX8_init_130 : decode cX8_init 130 = .ok (.new 65, 3) := by decide +kernel
theorem dX8_init_133 : decode cX8_init 133 = .ok (.dup, 1) := by decide +kernel
theorem dX8_init_134 : decode cX8_init 134 = .ok (.invokespecial 71, 3) := by decide +kernel
theorem dX8_init_137 : decode cX8_init 137 = .ok (.aastore, 1) := by decide +kernel
theorem dX8_init_138 : decode cX8_init 138 = .ok (.iinc 1 1, 3) := by decide +kernel
theorem dX8_init_141 : decode cX8_init 141 = .ok (.goto (-22), 3) := by decide +kernel
theorem dX8_init_144 : decode cX8_init 144 = .ok (.aload_n 0, 1) := by decide +kernel
theorem dX8_init_145 : decode cX8_init 145 = .ok (.new 72, 3) := by decide +kernel
theorem dX8_init_148 : decode cX8_init 148 = .ok (.dup, 1) := by decide +kernel
theorem dX8_init_149 : decode cX8_init 149 = .ok (.invokespecial 74, 3) := by decide +kernel
theorem dX8_init_152 : decode cX8_init 152 = .ok (.putfield 75, 3) := by decide +kernel
theorem dX8_init_155 : decode cX8_init 155 = .ok (.aload_n 0, 1) := by decide +kernel
theorem dX8_init_156 : decode cX8_init 156 = .ok (.iconst (-1), 1) := by decide +kernel
theorem dX8_init_157 : decode cX8_init 157 = .ok (.putfield 79, 3) := by decide +kernel
theorem dX8_init_160 : decode cX8_init 160 = .ok (.return_, 1) := by decide +kernel
theorem dX8_mend_0 : decode cX8_mend 0 = .ok (.iload_n 1, 1) := by decide +kernel
theorem dX8_mend_1 : decode cX8_mend 1 = .ok (.iload_n 2, 1) := by decide +kernel
theorem dX8_mend_2 : decode cX8_mend 2 = .ok (.invokestatic 83, 3) := by decide +kernel
theorem dX8_mend_5 : decode cX8_mend 5 = .ok (.istore 4, 2) := by decide +kernel
theorem dX8_mend_7 : decode cX8_mend 7 = .ok (.iload 4, 2) := by decide +kernel
theorem dX8_mend_9 : decode cX8_mend 9 = .ok (.ifCond .lt 11, 3) := by decide +kernel
theorem dX8_mend_12 : decode cX8_mend 12 = .ok (.iload_n 2, 1) := by decide +kernel
theorem dX8_mend_13 : decode cX8_mend 13 = .ok (.iload_n 3, 1) := by decide +kernel
theorem dX8_mend_14 : decode cX8_mend 14 = .ok (.invokestatic 87, 3) := by decide +kernel
theorem dX8_mend_17 : decode cX8_mend 17 = .ok (.ifCond .ne 5, 3) := by decide +kernel
theorem dX8_mend_20 : decode cX8_mend 20 = .ok (.iconst (-1), 1) := by decide +kernel
theorem dX8_mend_21 : decode cX8_mend 21 = .ok (.ireturn, 1) := by decide +kernel
theorem dX8_mend_22 : decode cX8_mend 22 = .ok (.aload_n 0, 1) := by decide +kernel
theorem dX8_mend_23 : decode cX8_mend 23 = .ok (.getfield 10, 3) := by decide +kernel
theorem dX8_mend_26 : decode cX8_mend 26 = .ok (.iload 4, 2) := by decide +kernel
theorem dX8_mend_28 : decode cX8_mend 28 = .ok (.invokevirtual 91, 3) := by decide +kernel
theorem dX8_mend_31 : decode cX8_mend 31 = .ok (.istore 5, 2) := by decide +kernel
theorem dX8_mend_33 : decode cX8_mend 33 = .ok (.iload 5, 2) := by decide +kernel
theorem dX8_mend_35 : decode cX8_mend 35 = .ok (.iload_n 3, 1) := by decide +kernel
theorem dX8_mend_36 : decode cX8_mend 36 = .ok (.if_icmp .eq 25, 3) := by decide +kernel
theorem dX8_mend_39 : decode cX8_mend 39 = .ok (.aload_n 0, 1) := by decide +kernel
theorem dX8_mend_40 : decode cX8_mend 40 = .ok (.getfield 10, 3) := by decide +kernel
theorem dX8_mend_43 : decode cX8_mend 43 = .ok (.iload 4, 2) := by decide +kernel
theorem dX8_mend_45 : decode cX8_mend 45 = .ok (.iload_n 3, 1) := by decide +kernel
theorem dX8_mend_46 : decode cX8_mend 46 = .ok (.invokevirtual 95, 3) := by decide +kernel
theorem dX8_mend_49 : decode cX8_mend 49 = .ok (.aload_n 0, 1) := by decide +kernel
theorem dX8_mend_50 : decode cX8_mend 50 = .ok (.getfield 61, 3) := by decide +kernel
theorem dX8_mend_53 : decode cX8_mend 53 = .ok (.iload 4, 2) := by decide +kernel
theorem dX8_mend_55 : decode cX8_mend 55 = .ok (.iload 5, 2) := by decide +kernel
theorem dX8_mend_57 : decode cX8_mend 57 = .ok (.iload_n 3, 1) := by decide +kernel
theorem dX8_mend_58 : decode cX8_mend 58 = .ok (.invokevirtual 99, 3) := by decide +kernel
theorem dX8_mend_61 : decode cX8_mend 61 = .ok (.iload 5, 2) := by decide +kernel
theorem dX8_mend_63 : decode cX8_mend 63 = .ok (.ireturn, 1) := by decide +kernel
theorem dX8_of_0 : decode cX8_of 0 = .ok (.iload_n 1, 1) := by decide +kernel
theorem dX8_of_1 : decode cX8_of 1 = .ok (.iload_n 2, 1) := by decide +kernel
theorem dX8_of_2 : decode cX8_of 2 = .ok (.invokestatic 83, 3) := by decide +kernel
theorem dX8_of_5 : decode cX8_of 5 = .ok (.istore_n 3, 1) := by decide +kernel
theorem dX8_of_6 : decode cX8_of 6 = .ok (.iload_n 3, 1) := by decide +kernel
theorem dX8_of_7 : decode cX8_of 7 = .ok (.ifCond .lt 12, 3) := by decide +kernel
theorem dX8_of_10 : decode cX8_of 10 = .ok (.aload_n 0, 1) := by decide +kernel
theorem dX8_of_11 : decode cX8_of 11 = .ok (.getfield 10, 3) := by decide +kernel
theorem dX8_of_14 : decode cX8_of 14 = .ok (.iload_n 3, 1) := by decide +kernel
theorem dX8_of_15 : decode cX8_of 15 = .ok (.invokevirtual 91, 3) := by decide +kernel
theorem dX8_of_18 : decode cX8_of 18 = .ok (.ireturn, 1) := by decide +kernel
theorem dX8_of_19 : decode cX8_of 19 = .ok (.iload_n 2, 1) := by decide +kernel
theorem dX8_of_20 : decode cX8_of 20 = .ok (.bipush 10, 2) := by decide +kernel
theorem dX8_of_22 : decode cX8_of 22 = .ok (.if_icmp .eq 9, 3) := by decide +kernel
theorem dX8_of_25 : decode cX8_of 25 = .ok (.iload_n 2, 1) := by decide +kernel
theorem dX8_of_26 : decode cX8_of 26 = .ok (.bipush 11, 2) := by decide +kernel
theorem dX8_of_28 : decode cX8_of 28 = .ok (.if_icmp .ne 10, 3) := by decide +kernel
theorem dX8_of_31 : decode cX8_of 31 = .ok (.aload_n 0, 1) := by decide +kernel
theorem dX8_of_32 : decode cX8_of 32 = .ok (.iload_n 1, 1) := by decide +kernel
theorem dX8_of_33 : decode cX8_of 33 = .ok (.iload_n 2, 1) := by decide +kernel
theorem dX8_of_34 : decode cX8_of 34 = .ok (.invokevirtual 103, 3) := by decide +kernel
theorem dX8_of_37 : decode cX8_of 37 = .ok (.ireturn, 1) := by decide +kernel
theorem dX8_of_38 : decode cX8_of 38 = .ok (.iload_n 1, 1) := by decide +kernel
theorem dX8_of_39 : decode cX8_of 39 = .ok (.ifCond .ne 11, 3) := by decide +kernel
theorem dX8_of_42 : decode cX8_of 42 = .ok (.aload_n 0, 1) := by decide +kernel
theorem dX8_of_43 : decode cX8_of 43 = .ok (.iload_n 2, 1) := by decide +kernel
theorem dX8_of_44 : decode cX8_of 44 = .ok (.invokevirtual 106, 3) := by decide +kernel
theorem dX8_of_47 : decode cX8_of 47 = .ok (.goto 4, 3) := by decide +kernel
theorem dX8_of_50 : decode cX8_of 50 = .ok (.iconst (-1), 1) := by decide +kernel
theorem dX8_of_51 : decode cX8_of 51 = .ok (.ireturn, 1) := by decide +kernel
theorem dX8_ofCell_0 : decode cX8_ofCell 0 = .ok (.iload_n 1, 1) := by decide +kernel
theorem dX8_ofCell_1 : decode cX8_ofCell 1 = .ok (.invokestatic 109, 3) := by decide +kernel
theorem dX8_ofCell_4 : decode cX8_ofCell 4 = .ok (.ifCond .ne 5, 3) := by decide +kernel
theorem dX8_ofCell_7 : decode cX8_ofCell 7 = .ok (.iconst (-1), 1) := by decide +kernel
theorem dX8_ofCell_8 : decode cX8_ofCell 8 = .ok (.ireturn, 1) := by decide +kernel
theorem dX8_ofCell_9 : decode cX8_ofCell 9 = .ok (.iload_n 2, 1) := by decide +kernel
theorem dX8_ofCell_10 : decode cX8_ofCell 10 = .ok (.bipush 10, 2) := by decide +kernel
theorem dX8_ofCell_12 : decode cX8_ofCell 12 = .ok (.if_icmp .ne 14, 3) := by decide +kernel
theorem dX8_ofCell_15 : decode cX8_ofCell 15 = .ok (.aload_n 0, 1) := by decide +kernel
theorem dX8_ofCell_16 : decode cX8_ofCell 16 = .ok (.getfield 10, 3) := by decide +kernel
theorem dX8_ofCell_19 : decode cX8_ofCell 19 = .ok (.iload_n 1, 1) := by decide +kernel
theorem dX8_ofCell_20 : decode cX8_ofCell 20 = .ok (.invokevirtual 113, 3) := by decide +kernel
theorem dX8_ofCell_23 : decode cX8_ofCell 23 = .ok (.goto 11, 3) := by decide +kernel
theorem dX8_ofCell_26 : decode cX8_ofCell 26 = .ok (.aload_n 0, 1) := by decide +kernel
theorem dX8_ofCell_27 : decode cX8_ofCell 27 = .ok (.getfield 19, 3) := by decide +kernel
theorem dX8_ofCell_30 : decode cX8_ofCell 30 = .ok (.iload_n 1, 1) := by decide +kernel
theorem dX8_ofCell_31 : decode cX8_ofCell 31 = .ok (.invokevirtual 116, 3) := by decide +kernel
theorem dX8_ofCell_34 : decode cX8_ofCell 34 = .ok (.istore_n 3, 1) := by decide +kernel
theorem dX8_ofCell_35 : decode cX8_ofCell 35 = .ok (.iload_n 3, 1) := by decide +kernel
theorem dX8_ofCell_36 : decode cX8_ofCell 36 = .ok (.ifCond .eq 7, 3) := by decide +kernel
theorem dX8_ofCell_39 : decode cX8_ofCell 39 = .ok (.iconst 1, 1) := by decide +kernel
theorem dX8_ofCell_40 : decode cX8_ofCell 40 = .ok (.goto 4, 3) := by decide +kernel
theorem dX8_ofCell_43 : decode cX8_ofCell 43 = .ok (.iconst 0, 1) := by decide +kernel
theorem dX8_ofCell_44 : decode cX8_ofCell 44 = .ok (.ireturn, 1) := by decide +kernel
theorem dX8_ofCart_0 : decode cX8_ofCart 0 = .ok (.iload_n 1, 1) := by decide +kernel
theorem dX8_ofCart_1 : decode cX8_ofCart 1 = .ok (.tableswitch 75 20 24 #[35, 40, 48, 56, 64], 35) := by decide +kernel
theorem dX8_ofCart_36 : decode cX8_ofCart 36 = .ok (.aload_n 0, 1) := by decide +kernel
theorem dX8_ofCart_37 : decode cX8_ofCart 37 = .ok (.getfield 119, 3) := by decide +kernel
theorem dX8_ofCart_40 : decode cX8_ofCart 40 = .ok (.ireturn, 1) := by decide +kernel
theorem dX8_ofCart_41 : decode cX8_ofCart 41 = .ok (.aload_n 0, 1) := by decide +kernel
theorem dX8_ofCart_42 : decode cX8_ofCart 42 = .ok (.getfield 19, 3) := by decide +kernel
theorem dX8_ofCart_45 : decode cX8_ofCart 45 = .ok (.getfield 122, 3) := by decide +kernel
theorem dX8_ofCart_48 : decode cX8_ofCart 48 = .ok (.ireturn, 1) := by decide +kernel
theorem dX8_ofCart_49 : decode cX8_ofCart 49 = .ok (.aload_n 0, 1) := by decide +kernel
theorem dX8_ofCart_50 : decode cX8_ofCart 50 = .ok (.getfield 19, 3) := by decide +kernel
theorem dX8_ofCart_53 : decode cX8_ofCart 53 = .ok (.getfield 125, 3) := by decide +kernel
theorem dX8_ofCart_56 : decode cX8_ofCart 56 = .ok (.ireturn, 1) := by decide +kernel
theorem dX8_ofCart_57 : decode cX8_ofCart 57 = .ok (.aload_n 0, 1) := by decide +kernel
theorem dX8_ofCart_58 : decode cX8_ofCart 58 = .ok (.getfield 19, 3) := by decide +kernel
theorem dX8_ofCart_61 : decode cX8_ofCart 61 = .ok (.getfield 128, 3) := by decide +kernel
theorem dX8_ofCart_64 : decode cX8_ofCart 64 = .ok (.ireturn, 1) := by decide +kernel
theorem dX8_ofCart_65 : decode cX8_ofCart 65 = .ok (.aload_n 0, 1) := by decide +kernel
theorem dX8_ofCart_66 : decode cX8_ofCart 66 = .ok (.getfield 19, 3) := by decide +kernel
theorem dX8_ofCart_69 : decode cX8_ofCart 69 = .ok (.getfield 131, 3) := by decide +kernel
theorem dX8_ofCart_72 : decode cX8_ofCart 72 = .ok (.invokestatic 135, 3) := by decide +kernel
theorem dX8_ofCart_75 : decode cX8_ofCart 75 = .ok (.ireturn, 1) := by decide +kernel
theorem dX8_ofCart_76 : decode cX8_ofCart 76 = .ok (.iconst (-1), 1) := by decide +kernel
theorem dX8_ofCart_77 : decode cX8_ofCart 77 = .ok (.ireturn, 1) := by decide +kernel
theorem dX8_heights_0 : decode cX8_heights 0 = .ok (.iload_n 1, 1) := by decide +kernel
theorem dX8_heights_1 : decode cX8_heights 1 = .ok (.invokestatic 141, 3) := by decide +kernel
theorem dX8_heights_4 : decode cX8_heights 4 = .ok (.ifCond .eq 7, 3) := by decide +kernel
theorem dX8_heights_7 : decode cX8_heights 7 = .ok (.iload_n 3, 1) := by decide +kernel
theorem dX8_heights_8 : decode cX8_heights 8 = .ok (.ifCond .ge 5, 3) := by decide +kernel
theorem dX8_heights_11 : decode cX8_heights 11 = .ok (.iconst (-1), 1) := by decide +kernel
theorem dX8_heights_12 : decode cX8_heights 12 = .ok (.ireturn, 1) := by decide +kernel
theorem dX8_heights_13 : decode cX8_heights 13 = .ok (.iload_n 3, 1) := by decide +kernel
theorem dX8_heights_14 : decode cX8_heights 14 = .ok (.bipush 100, 2) := by decide +kernel
theorem dX8_heights_16 : decode cX8_heights 16 = .ok (.idiv, 1) := by decide +kernel
theorem dX8_heights_17 : decode cX8_heights 17 = .ok (.istore 4, 2) := by decide +kernel
theorem dX8_heights_19 : decode cX8_heights 19 = .ok (.iload_n 3, 1) := by decide +kernel
theorem dX8_heights_20 : decode cX8_heights 20 = .ok (.bipush 100, 2) := by decide +kernel
theorem dX8_heights_22 : decode cX8_heights 22 = .ok (.irem, 1) := by decide +kernel
theorem dX8_heights_23 : decode cX8_heights 23 = .ok (.istore 5, 2) := by decide +kernel
theorem dX8_heights_25 : decode cX8_heights 25 = .ok (.iload 4, 2) := by decide +kernel
theorem dX8_heights_27 : decode cX8_heights 27 = .ok (.invokestatic 109, 3) := by decide +kernel
theorem dX8_heights_30 : decode cX8_heights 30 = .ok (.ifCond .eq 16, 3) := by decide +kernel
theorem dX8_heights_33 : decode cX8_heights 33 = .ok (.iload 5, 2) := by decide +kernel
theorem dX8_heights_35 : decode cX8_heights 35 = .ok (.iconst 1, 1) := by decide +kernel
theorem dX8_heights_36 : decode cX8_heights 36 = .ok (.if_icmp .lt 10, 3) := by decide +kernel
theorem dX8_heights_39 : decode cX8_heights 39 = .ok (.iload 5, 2) := by decide +kernel
theorem dX8_heights_41 : decode cX8_heights 41 = .ok (.bipush 36, 2) := by decide +kernel
theorem dX8_heights_43 : decode cX8_heights 43 = .ok (.if_icmp .le 5, 3) := by decide +kernel
theorem dX8_heights_46 : decode cX8_heights 46 = .ok (.iconst (-1), 1) := by decide +kernel
theorem dX8_heights_47 : decode cX8_heights 47 = .ok (.ireturn, 1) := by decide +kernel
theorem dX8_heights_48 : decode cX8_heights 48 = .ok (.aload_n 0, 1) := by decide +kernel
theorem dX8_heights_49 : decode cX8_heights 49 = .ok (.getfield 67, 3) := by decide +kernel
theorem dX8_heights_52 : decode cX8_heights 52 = .ok (.iload_n 1, 1) := by decide +kernel
theorem dX8_heights_53 : decode cX8_heights 53 = .ok (.aaload, 1) := by decide +kernel
theorem dX8_heights_54 : decode cX8_heights 54 = .ok (.invokevirtual 144, 3) := by decide +kernel
theorem dX8_heights_57 : decode cX8_heights 57 = .ok (.ifCond .eq 5, 3) := by decide +kernel
theorem dX8_heights_60 : decode cX8_heights 60 = .ok (.iconst 0, 1) := by decide +kernel
theorem dX8_heights_61 : decode cX8_heights 61 = .ok (.ireturn, 1) := by decide +kernel
theorem dX8_heights_62 : decode cX8_heights 62 = .ok (.aload_n 0, 1) := by decide +kernel
theorem dX8_heights_63 : decode cX8_heights 63 = .ok (.getfield 67, 3) := by decide +kernel
theorem dX8_heights_66 : decode cX8_heights 66 = .ok (.iload_n 1, 1) := by decide +kernel
theorem dX8_heights_67 : decode cX8_heights 67 = .ok (.aaload, 1) := by decide +kernel
theorem dX8_heights_68 : decode cX8_heights 68 = .ok (.invokevirtual 148, 3) := by decide +kernel
theorem dX8_heights_71 : decode cX8_heights 71 = .ok (.ifCond .ne 6, 3) := by decide +kernel
theorem dX8_heights_74 : decode cX8_heights 74 = .ok (.bipush (-12), 2) := by decide +kernel
theorem dX8_heights_76 : decode cX8_heights 76 = .ok (.ireturn, 1) := by decide +kernel
theorem dX8_heights_77 : decode cX8_heights 77 = .ok (.aload_n 0, 1) := by decide +kernel
theorem dX8_heights_78 : decode cX8_heights 78 = .ok (.aload_n 0, 1) := by decide +kernel
theorem dX8_heights_79 : decode cX8_heights 79 = .ok (.getfield 67, 3) := by decide +kernel
theorem dX8_heights_82 : decode cX8_heights 82 = .ok (.iload_n 1, 1) := by decide +kernel
theorem dX8_heights_83 : decode cX8_heights 83 = .ok (.aaload, 1) := by decide +kernel
theorem dX8_heights_84 : decode cX8_heights 84 = .ok (.iload_n 2, 1) := by decide +kernel
theorem dX8_heights_85 : decode cX8_heights 85 = .ok (.iload 4, 2) := by decide +kernel
theorem dX8_heights_87 : decode cX8_heights 87 = .ok (.iload 5, 2) := by decide +kernel
theorem dX8_heights_89 : decode cX8_heights 89 = .ok (.invokevirtual 151, 3) := by decide +kernel
theorem dX8_heights_92 : decode cX8_heights 92 = .ok (.ireturn, 1) := by decide +kernel
theorem dX8_heightsFrom_0 : decode cX8_heightsFrom 0 = .ok (.iconst 0, 1) := by decide +kernel
theorem dX8_heightsFrom_1 : decode cX8_heightsFrom 1 = .ok (.istore 5, 2) := by decide +kernel
theorem dX8_heightsFrom_3 : decode cX8_heightsFrom 3 = .ok (.iconst 0, 1) := by decide +kernel
theorem dX8_heightsFrom_4 : decode cX8_heightsFrom 4 = .ok (.istore 6, 2) := by decide +kernel
theorem dX8_heightsFrom_6 : decode cX8_heightsFrom 6 = .ok (.iload 6, 2) := by decide +kernel
theorem dX8_heightsFrom_8 : decode cX8_heightsFrom 8 = .ok (.iload 4, 2) := by decide +kernel
theorem dX8_heightsFrom_10 : decode cX8_heightsFrom 10 = .ok (.if_icmp .ge 79, 3) := by decide +kernel
theorem dX8_heightsFrom_13 : decode cX8_heightsFrom 13 = .ok (.iload_n 3, 1) := by decide +kernel
theorem dX8_heightsFrom_14 : decode cX8_heightsFrom 14 = .ok (.iload 6, 2) := by decide +kernel
theorem dX8_heightsFrom_16 : decode cX8_heightsFrom 16 = .ok (.iadd, 1) := by decide +kernel
theorem dX8_heightsFrom_17 : decode cX8_heightsFrom 17 = .ok (.iconst 0, 1) := by decide +kernel
theorem dX8_heightsFrom_18 : decode cX8_heightsFrom 18 = .ok (.invokestatic 83, 3) := by decide +kernel
theorem dX8_heightsFrom_21 : decode cX8_heightsFrom 21 = .ok (.istore 7, 2) := by decide +kernel
theorem dX8_heightsFrom_23 : decode cX8_heightsFrom 23 = .ok (.iload 7, 2) := by decide +kernel
theorem dX8_heightsFrom_25 : decode cX8_heightsFrom 25 = .ok (.ifCond .lt 64, 3) := by decide +kernel
theorem dX8_heightsFrom_28 : decode cX8_heightsFrom 28 = .ok (.iload_n 2, 1) := by decide +kernel
theorem dX8_heightsFrom_29 : decode cX8_heightsFrom 29 = .ok (.ifCond .lt 60, 3) := by decide +kernel
theorem dX8_heightsFrom_32 : decode cX8_heightsFrom 32 = .ok (.iload_n 2, 1) := by decide +kernel
theorem dX8_heightsFrom_33 : decode cX8_heightsFrom 33 = .ok (.aload_n 1, 1) := by decide +kernel
theorem dX8_heightsFrom_34 : decode cX8_heightsFrom 34 = .ok (.getfield 155, 3) := by decide +kernel
theorem dX8_heightsFrom_37 : decode cX8_heightsFrom 37 = .ok (.iload 6, 2) := by decide +kernel
theorem dX8_heightsFrom_39 : decode cX8_heightsFrom 39 = .ok (.isub, 1) := by decide +kernel
theorem dX8_heightsFrom_40 : decode cX8_heightsFrom 40 = .ok (.if_icmp .lt 6, 3) := by decide +kernel
theorem dX8_heightsFrom_43 : decode cX8_heightsFrom 43 = .ok (.goto 46, 3) := by decide +kernel
theorem dX8_heightsFrom_46 : decode cX8_heightsFrom 46 = .ok (.aload_n 1, 1) := by decide +kernel
theorem dX8_heightsFrom_47 : decode cX8_heightsFrom 47 = .ok (.iload_n 2, 1) := by decide +kernel
theorem dX8_heightsFrom_48 : decode cX8_heightsFrom 48 = .ok (.iload 6, 2) := by decide +kernel
theorem dX8_heightsFrom_50 : decode cX8_heightsFrom 50 = .ok (.iadd, 1) := by decide +kernel
theorem dX8_heightsFrom_51 : decode cX8_heightsFrom 51 = .ok (.invokevirtual 158, 3) := by decide +kernel
theorem dX8_heightsFrom_54 : decode cX8_heightsFrom 54 = .ok (.l2i, 1) := by decide +kernel
theorem dX8_heightsFrom_55 : decode cX8_heightsFrom 55 = .ok (.istore 8, 2) := by decide +kernel
theorem dX8_heightsFrom_57 : decode cX8_heightsFrom 57 = .ok (.iconst 0, 1) := by decide +kernel
theorem dX8_heightsFrom_58 : decode cX8_heightsFrom 58 = .ok (.iload 8, 2) := by decide +kernel
theorem dX8_heightsFrom_60 : decode cX8_heightsFrom 60 = .ok (.invokestatic 87, 3) := by decide +kernel
theorem dX8_heightsFrom_63 : decode cX8_heightsFrom 63 = .ok (.ifCond .ne 6, 3) := by decide +kernel
theorem dX8_heightsFrom_66 : decode cX8_heightsFrom 66 = .ok (.goto 23, 3) := by decide +kernel
theorem dX8_heightsFrom_69 : decode cX8_heightsFrom 69 = .ok (.aload_n 0, 1) := by decide +kernel
theorem dX8_heightsFrom_70 : decode cX8_heightsFrom 70 = .ok (.getfield 10, 3) := by decide +kernel
theorem dX8_heightsFrom_73 : decode cX8_heightsFrom 73 = .ok (.iload 7, 2) := by decide +kernel
theorem dX8_heightsFrom_75 : decode cX8_heightsFrom 75 = .ok (.iload 8, 2) := by decide +kernel
theorem dX8_heightsFrom_77 : decode cX8_heightsFrom 77 = .ok (.invokevirtual 95, 3) := by decide +kernel
theorem dX8_heightsFrom_80 : decode cX8_heightsFrom 80 = .ok (.iinc 5 1, 3) := by decide +kernel
theorem dX8_heightsFrom_83 : decode cX8_heightsFrom 83 = .ok (.iinc 6 1, 3) := by decide +kernel
theorem dX8_heightsFrom_86 : decode cX8_heightsFrom 86 = .ok (.goto (-80), 3) := by decide +kernel
theorem dX8_heightsFrom_89 : decode cX8_heightsFrom 89 = .ok (.iload 5, 2) := by decide +kernel
theorem dX8_heightsFrom_91 : decode cX8_heightsFrom 91 = .ok (.ireturn, 1) := by decide +kernel
theorem dX8_feed_0 : decode cX8_feed 0 = .ok (.iload_n 1, 1) := by decide +kernel
theorem dX8_feed_1 : decode cX8_feed 1 = .ok (.ifCond .lt 10, 3) := by decide +kernel
theorem dX8_feed_4 : decode cX8_feed 4 = .ok (.iload_n 1, 1) := by decide +kernel
theorem dX8_feed_5 : decode cX8_feed 5 = .ok (.sipush 255, 3) := by decide +kernel
theorem dX8_feed_8 : decode cX8_feed 8 = .ok (.if_icmp .le 5, 3) := by decide +kernel
theorem dX8_feed_11 : decode cX8_feed 11 = .ok (.iconst (-1), 1) := by decide +kernel
theorem dX8_feed_12 : decode cX8_feed 12 = .ok (.ireturn, 1) := by decide +kernel
theorem dX8_feed_13 : decode cX8_feed 13 = .ok (.aload_n 0, 1) := by decide +kernel
theorem dX8_feed_14 : decode cX8_feed 14 = .ok (.getfield 40, 3) := by decide +kernel
theorem dX8_feed_17 : decode cX8_feed 17 = .ok (.iload_n 1, 1) := by decide +kernel
theorem dX8_feed_18 : decode cX8_feed 18 = .ok (.invokevirtual 162, 3) := by decide +kernel
theorem dX8_feed_21 : decode cX8_feed 21 = .ok (.ifCond .eq 13, 3) := by decide +kernel
theorem dX8_feed_24 : decode cX8_feed 24 = .ok (.aload_n 0, 1) := by decide +kernel
theorem dX8_feed_25 : decode cX8_feed 25 = .ok (.getfield 40, 3) := by decide +kernel
theorem dX8_feed_28 : decode cX8_feed 28 = .ok (.getfield 165, 3) := by decide +kernel
theorem dX8_feed_31 : decode cX8_feed 31 = .ok (.goto 5, 3) := by decide +kernel
theorem dX8_feed_34 : decode cX8_feed 34 = .ok (.bipush (-3), 2) := by decide +kernel
theorem dX8_feed_36 : decode cX8_feed 36 = .ok (.ireturn, 1) := by decide +kernel
theorem dX8_law_0 : decode cX8_law 0 = .ok (.aload_n 0, 1) := by decide +kernel
theorem dX8_law_1 : decode cX8_law 1 = .ok (.getfield 40, 3) := by decide +kernel
theorem dX8_law_4 : decode cX8_law 4 = .ok (.invokevirtual 168, 3) := by decide +kernel
theorem dX8_law_7 : decode cX8_law 7 = .ok (.istore_n 1, 1) := by decide +kernel
theorem dX8_law_8 : decode cX8_law 8 = .ok (.iload_n 1, 1) := by decide +kernel
theorem dX8_law_9 : decode cX8_law 9 = .ok (.ifCond .ge 7, 3) := by decide +kernel
theorem dX8_law_12 : decode cX8_law 12 = .ok (.iconst 1, 1) := by decide +kernel
theorem dX8_law_13 : decode cX8_law 13 = .ok (.goto 7, 3) := by decide +kernel
theorem dX8_law_16 : decode cX8_law 16 = .ok (.bipush (-100), 2) := by decide +kernel
theorem dX8_law_18 : decode cX8_law 18 = .ok (.iload_n 1, 1) := by decide +kernel
theorem dX8_law_19 : decode cX8_law 19 = .ok (.isub, 1) := by decide +kernel
theorem dX8_law_20 : decode cX8_law 20 = .ok (.ireturn, 1) := by decide +kernel
theorem dX8_cost_0 : decode cX8_cost 0 = .ok (.iload_n 1, 1) := by decide +kernel
theorem dX8_cost_1 : decode cX8_cost 1 = .ok (.invokestatic 109, 3) := by decide +kernel
theorem dX8_cost_4 : decode cX8_cost 4 = .ok (.ifCond .eq 13, 3) := by decide +kernel
theorem dX8_cost_7 : decode cX8_cost 7 = .ok (.iload_n 2, 1) := by decide +kernel
theorem dX8_cost_8 : decode cX8_cost 8 = .ok (.iconst 1, 1) := by decide +kernel
theorem dX8_cost_9 : decode cX8_cost 9 = .ok (.if_icmp .lt 8, 3) := by decide +kernel
theorem dX8_cost_12 : decode cX8_cost 12 = .ok (.iload_n 2, 1) := by decide +kernel
theorem dX8_cost_13 : decode cX8_cost 13 = .ok (.iconst 4, 1) := by decide +kernel
theorem dX8_cost_14 : decode cX8_cost 14 = .ok (.if_icmp .le 5, 3) := by decide +kernel
theorem dX8_cost_17 : decode cX8_cost 17 = .ok (.iconst (-1), 1) := by decide +kernel
theorem dX8_cost_18 : decode cX8_cost 18 = .ok (.ireturn, 1) := by decide +kernel
theorem dX8_cost_19 : decode cX8_cost 19 = .ok (.iload_n 1, 1) := by decide +kernel
theorem dX8_cost_20 : decode cX8_cost 20 = .ok (.iload_n 2, 1) := by decide +kernel
theorem dX8_cost_21 : decode cX8_cost 21 = .ok (.invokestatic 172, 3) := by decide +kernel
theorem dX8_cost_24 : decode cX8_cost 24 = .ok (.istore_n 3, 1) := by decide +kernel
theorem dX8_cost_25 : decode cX8_cost 25 = .ok (.iload_n 3, 1) := by decide +kernel
theorem dX8_cost_26 : decode cX8_cost 26 = .ok (.ifCond .ge 8, 3) := by decide +kernel
theorem dX8_cost_29 : decode cX8_cost 29 = .ok (.bipush (-2), 2) := by decide +kernel
theorem dX8_cost_31 : decode cX8_cost 31 = .ok (.goto 12, 3) := by decide +kernel
theorem dX8_cost_34 : decode cX8_cost 34 = .ok (.aload_n 0, 1) := by decide +kernel
theorem dX8_cost_35 : decode cX8_cost 35 = .ok (.getfield 10, 3) := by decide +kernel
theorem dX8_cost_38 : decode cX8_cost 38 = .ok (.iload_n 1, 1) := by decide +kernel
theorem dX8_cost_39 : decode cX8_cost 39 = .ok (.iload_n 3, 1) := by decide +kernel
theorem dX8_cost_40 : decode cX8_cost 40 = .ok (.invokevirtual 175, 3) := by decide +kernel
theorem dX8_cost_43 : decode cX8_cost 43 = .ok (.ireturn, 1) := by decide +kernel
theorem dX8_order_0 : decode cX8_order 0 = .ok (.aload_n 0, 1) := by decide +kernel
theorem dX8_order_1 : decode cX8_order 1 = .ok (.getfield 119, 3) := by decide +kernel
theorem dX8_order_4 : decode cX8_order 4 = .ok (.bipush 60, 2) := by decide +kernel
theorem dX8_order_6 : decode cX8_order 6 = .ok (.if_icmp .lt 8, 3) := by decide +kernel
theorem dX8_order_9 : decode cX8_order 9 = .ok (.bipush (-5), 2) := by decide +kernel
theorem dX8_order_11 : decode cX8_order 11 = .ok (.goto 22, 3) := by decide +kernel
theorem dX8_order_14 : decode cX8_order 14 = .ok (.aload_n 0, 1) := by decide +kernel
theorem dX8_order_15 : decode cX8_order 15 = .ok (.getfield 40, 3) := by decide +kernel
theorem dX8_order_18 : decode cX8_order 18 = .ok (.aload_n 0, 1) := by decide +kernel
theorem dX8_order_19 : decode cX8_order 19 = .ok (.getfield 10, 3) := by decide +kernel
theorem dX8_order_22 : decode cX8_order 22 = .ok (.aload_n 0, 1) := by decide +kernel
theorem dX8_order_23 : decode cX8_order 23 = .ok (.getfield 19, 3) := by decide +kernel
theorem dX8_order_26 : decode cX8_order 26 = .ok (.aload_n 0, 1) := by decide +kernel
theorem dX8_order_27 : decode cX8_order 27 = .ok (.getfield 119, 3) := by decide +kernel
theorem dX8_order_30 : decode cX8_order 30 = .ok (.invokevirtual 178, 3) := by decide +kernel
theorem dX8_order_33 : decode cX8_order 33 = .ok (.ireturn, 1) := by decide +kernel
theorem dX8_day_0 : decode cX8_day 0 = .ok (.iload_n 1, 1) := by decide +kernel
theorem dX8_day_1 : decode cX8_day 1 = .ok (.ifCond .lt 8, 3) := by decide +kernel
theorem dX8_day_4 : decode cX8_day 4 = .ok (.iload_n 1, 1) := by decide +kernel
theorem dX8_day_5 : decode cX8_day 5 = .ok (.iconst 5, 1) := by decide +kernel
theorem dX8_day_6 : decode cX8_day 6 = .ok (.if_icmp .le 5, 3) := by decide +kernel
theorem dX8_day_9 : decode cX8_day 9 = .ok (.iconst (-1), 1) := by decide +kernel
theorem dX8_day_10 : decode cX8_day 10 = .ok (.ireturn, 1) := by decide +kernel
theorem dX8_day_11 : decode cX8_day 11 = .ok (.aload_n 0, 1) := by decide +kernel
theorem dX8_day_12 : decode cX8_day 12 = .ok (.getfield 119, 3) := by decide +kernel
theorem dX8_day_15 : decode cX8_day 15 = .ok (.bipush 60, 2) := by decide +kernel
theorem dX8_day_17 : decode cX8_day 17 = .ok (.if_icmp .lt 6, 3) := by decide +kernel
theorem dX8_day_20 : decode cX8_day 20 = .ok (.bipush (-5), 2) := by decide +kernel
theorem dX8_day_22 : decode cX8_day 22 = .ok (.ireturn, 1) := by decide +kernel
theorem dX8_day_23 : decode cX8_day 23 = .ok (.aload_n 0, 1) := by decide +kernel
theorem dX8_day_24 : decode cX8_day 24 = .ok (.iload_n 1, 1) := by decide +kernel
theorem dX8_day_25 : decode cX8_day 25 = .ok (.invokevirtual 182, 3) := by decide +kernel
theorem dX8_day_28 : decode cX8_day 28 = .ok (.ifCond .eq 7, 3) := by decide +kernel
theorem dX8_day_31 : decode cX8_day 31 = .ok (.iconst 1, 1) := by decide +kernel
theorem dX8_day_32 : decode cX8_day 32 = .ok (.goto 4, 3) := by decide +kernel
theorem dX8_day_35 : decode cX8_day 35 = .ok (.iconst 0, 1) := by decide +kernel
theorem dX8_day_36 : decode cX8_day 36 = .ok (.ireturn, 1) := by decide +kernel
theorem dX8_days_0 : decode cX8_days 0 = .ok (.iload_n 1, 1) := by decide +kernel
theorem dX8_days_1 : decode cX8_days 1 = .ok (.iconst 1, 1) := by decide +kernel
theorem dX8_days_2 : decode cX8_days 2 = .ok (.if_icmp .lt 9, 3) := by decide +kernel
theorem dX8_days_5 : decode cX8_days 5 = .ok (.iload_n 1, 1) := by decide +kernel
theorem dX8_days_6 : decode cX8_days 6 = .ok (.bipush 60, 2) := by decide +kernel
theorem dX8_days_8 : decode cX8_days 8 = .ok (.if_icmp .le 5, 3) := by decide +kernel
theorem dX8_days_11 : decode cX8_days 11 = .ok (.iconst (-1), 1) := by decide +kernel
theorem dX8_days_12 : decode cX8_days 12 = .ok (.ireturn, 1) := by decide +kernel
theorem dX8_days_13 : decode cX8_days 13 = .ok (.iload_n 1, 1) := by decide +kernel
theorem dX8_days_14 : decode cX8_days 14 = .ok (.bipush 60, 2) := by decide +kernel
theorem dX8_days_16 : decode cX8_days 16 = .ok (.aload_n 0, 1) := by decide +kernel
theorem dX8_days_17 : decode cX8_days 17 = .ok (.getfield 119, 3) := by decide +kernel
theorem dX8_days_20 : decode cX8_days 20 = .ok (.isub, 1) := by decide +kernel
theorem dX8_days_21 : decode cX8_days 21 = .ok (.if_icmp .le 6, 3) := by decide +kernel
theorem dX8_days_24 : decode cX8_days 24 = .ok (.bipush (-5), 2) := by decide +kernel
theorem dX8_days_26 : decode cX8_days 26 = .ok (.ireturn, 1) := by decide +kernel
theorem dX8_days_27 : decode cX8_days 27 = .ok (.iconst 0, 1) := by decide +kernel
theorem dX8_days_28 : decode cX8_days 28 = .ok (.istore_n 2, 1) := by decide +kernel
theorem dX8_days_29 : decode cX8_days 29 = .ok (.iconst 0, 1) := by decide +kernel
theorem dX8_days_30 : decode cX8_days 30 = .ok (.istore_n 3, 1) := by decide +kernel
theorem dX8_days_31 : decode cX8_days 31 = .ok (.iload_n 3, 1) := by decide +kernel
theorem dX8_days_32 : decode cX8_days 32 = .ok (.iload_n 1, 1) := by decide +kernel
theorem dX8_days_33 : decode cX8_days 33 = .ok (.if_icmp .ge 38, 3) := by decide +kernel
theorem dX8_days_36 : decode cX8_days 36 = .ok (.aload_n 0, 1) := by decide +kernel
theorem dX8_days_37 : decode cX8_days 37 = .ok (.aload_n 0, 1) := by decide +kernel
theorem dX8_days_38 : decode cX8_days 38 = .ok (.getfield 40, 3) := by decide +kernel
theorem dX8_days_41 : decode cX8_days 41 = .ok (.aload_n 0, 1) := by decide +kernel
theorem dX8_days_42 : decode cX8_days 42 = .ok (.getfield 10, 3) := by decide +kernel
theorem dX8_days_45 : decode cX8_days 45 = .ok (.aload_n 0, 1) := by decide +kernel
theorem dX8_days_46 : decode cX8_days 46 = .ok (.getfield 19, 3) := by decide +kernel
theorem dX8_days_49 : decode cX8_days 49 = .ok (.aload_n 0, 1) := by decide +kernel
theorem dX8_days_50 : decode cX8_days 50 = .ok (.getfield 119, 3) := by decide +kernel
theorem dX8_days_53 : decode cX8_days 53 = .ok (.invokevirtual 178, 3) := by decide +kernel
theorem dX8_days_56 : decode cX8_days 56 = .ok (.invokevirtual 182, 3) := by decide +kernel
theorem dX8_days_59 : decode cX8_days 59 = .ok (.ifCond .eq 6, 3) := by decide +kernel
theorem dX8_days_62 : decode cX8_days 62 = .ok (.iinc 2 1, 3) := by decide +kernel
theorem dX8_days_65 : decode cX8_days 65 = .ok (.iinc 3 1, 3) := by decide +kernel
theorem dX8_days_68 : decode cX8_days 68 = .ok (.goto (-37), 3) := by decide +kernel
theorem dX8_days_71 : decode cX8_days 71 = .ok (.iload_n 2, 1) := by decide +kernel
theorem dX8_days_72 : decode cX8_days 72 = .ok (.ireturn, 1) := by decide +kernel
theorem dX8_live_0 : decode cX8_live 0 = .ok (.aload_n 0, 1) := by decide +kernel
theorem dX8_live_1 : decode cX8_live 1 = .ok (.getfield 119, 3) := by decide +kernel
theorem dX8_live_4 : decode cX8_live 4 = .ok (.bipush 60, 2) := by decide +kernel
theorem dX8_live_6 : decode cX8_live 6 = .ok (.if_icmp .lt 5, 3) := by decide +kernel
theorem dX8_live_9 : decode cX8_live 9 = .ok (.iconst 0, 1) := by decide +kernel
theorem dX8_live_10 : decode cX8_live 10 = .ok (.ireturn, 1) := by decide +kernel
theorem dX8_live_11 : decode cX8_live 11 = .ok (.aload_n 0, 1) := by decide +kernel
theorem dX8_live_12 : decode cX8_live 12 = .ok (.getfield 19, 3) := by decide +kernel
theorem dX8_live_15 : decode cX8_live 15 = .ok (.aload_n 0, 1) := by decide +kernel
theorem dX8_live_16 : decode cX8_live 16 = .ok (.getfield 10, 3) := by decide +kernel
theorem dX8_live_19 : decode cX8_live 19 = .ok (.aload_n 0, 1) := by decide +kernel
theorem dX8_live_20 : decode cX8_live 20 = .ok (.getfield 119, 3) := by decide +kernel
theorem dX8_live_23 : decode cX8_live 23 = .ok (.iload_n 1, 1) := by decide +kernel
theorem dX8_live_24 : decode cX8_live 24 = .ok (.invokevirtual 185, 3) := by decide +kernel
theorem dX8_live_27 : decode cX8_live 27 = .ok (.istore_n 2, 1) := by decide +kernel
theorem dX8_live_28 : decode cX8_live 28 = .ok (.aload_n 0, 1) := by decide +kernel
theorem dX8_live_29 : decode cX8_live 29 = .ok (.getfield 29, 3) := by decide +kernel
theorem dX8_live_32 : decode cX8_live 32 = .ok (.aload_n 0, 1) := by decide +kernel
theorem dX8_live_33 : decode cX8_live 33 = .ok (.getfield 119, 3) := by decide +kernel
theorem dX8_live_36 : decode cX8_live 36 = .ok (.iload_n 1, 1) := by decide +kernel
theorem dX8_live_37 : decode cX8_live 37 = .ok (.iastore, 1) := by decide +kernel
theorem dX8_live_38 : decode cX8_live 38 = .ok (.aload_n 0, 1) := by decide +kernel
theorem dX8_live_39 : decode cX8_live 39 = .ok (.getfield 33, 3) := by decide +kernel
theorem dX8_live_42 : decode cX8_live 42 = .ok (.aload_n 0, 1) := by decide +kernel
theorem dX8_live_43 : decode cX8_live 43 = .ok (.getfield 119, 3) := by decide +kernel
theorem dX8_live_46 : decode cX8_live 46 = .ok (.iload_n 2, 1) := by decide +kernel
theorem dX8_live_47 : decode cX8_live 47 = .ok (.bastore, 1) := by decide +kernel
theorem dX8_live_48 : decode cX8_live 48 = .ok (.aload_n 0, 1) := by decide +kernel
theorem dX8_live_49 : decode cX8_live 49 = .ok (.dup, 1) := by decide +kernel
theorem dX8_live_50 : decode cX8_live 50 = .ok (.getfield 119, 3) := by decide +kernel
theorem dX8_live_53 : decode cX8_live 53 = .ok (.iconst 1, 1) := by decide +kernel
theorem dX8_live_54 : decode cX8_live 54 = .ok (.iadd, 1) := by decide +kernel
theorem dX8_live_55 : decode cX8_live 55 = .ok (.putfield 119, 3) := by decide +kernel
theorem dX8_live_58 : decode cX8_live 58 = .ok (.iload_n 2, 1) := by decide +kernel
theorem dX8_live_59 : decode cX8_live 59 = .ok (.ireturn, 1) := by decide +kernel
theorem dX8_led_0 : decode cX8_led 0 = .ok (.iload_n 1, 1) := by decide +kernel
theorem dX8_led_1 : decode cX8_led 1 = .ok (.ifCond .lt 25, 3) := by decide +kernel
theorem dX8_led_4 : decode cX8_led 4 = .ok (.iload_n 1, 1) := by decide +kernel
theorem dX8_led_5 : decode cX8_led 5 = .ok (.aload_n 0, 1) := by decide +kernel
theorem dX8_led_6 : decode cX8_led 6 = .ok (.getfield 119, 3) := by decide +kernel
theorem dX8_led_9 : decode cX8_led 9 = .ok (.if_icmp .ge 17, 3) := by decide +kernel
theorem dX8_led_12 : decode cX8_led 12 = .ok (.iload_n 1, 1) := by decide +kernel
theorem dX8_led_13 : decode cX8_led 13 = .ok (.bipush 60, 2) := by decide +kernel
theorem dX8_led_15 : decode cX8_led 15 = .ok (.if_icmp .ge 11, 3) := by decide +kernel
theorem dX8_led_18 : decode cX8_led 18 = .ok (.iload_n 2, 1) := by decide +kernel
theorem dX8_led_19 : decode cX8_led 19 = .ok (.iconst 2, 1) := by decide +kernel
theorem dX8_led_20 : decode cX8_led 20 = .ok (.invokestatic 188, 3) := by decide +kernel
theorem dX8_led_23 : decode cX8_led 23 = .ok (.ifCond .ne 5, 3) := by decide +kernel
theorem dX8_led_26 : decode cX8_led 26 = .ok (.iconst (-1), 1) := by decide +kernel
theorem dX8_led_27 : decode cX8_led 27 = .ok (.ireturn, 1) := by decide +kernel
theorem dX8_led_28 : decode cX8_led 28 = .ok (.iload_n 2, 1) := by decide +kernel
theorem dX8_led_29 : decode cX8_led 29 = .ok (.ifCond .ne 10, 3) := by decide +kernel
theorem dX8_led_32 : decode cX8_led 32 = .ok (.aload_n 0, 1) := by decide +kernel
theorem dX8_led_33 : decode cX8_led 33 = .ok (.getfield 29, 3) := by decide +kernel
theorem dX8_led_36 : decode cX8_led 36 = .ok (.iload_n 1, 1) := by decide +kernel
theorem dX8_led_37 : decode cX8_led 37 = .ok (.iaload, 1) := by decide +kernel
theorem dX8_led_38 : decode cX8_led 38 = .ok (.ireturn, 1) := by decide +kernel
theorem dX8_led_39 : decode cX8_led 39 = .ok (.aload_n 0, 1) := by decide +kernel
theorem dX8_led_40 : decode cX8_led 40 = .ok (.getfield 33, 3) := by decide +kernel
theorem dX8_led_43 : decode cX8_led 43 = .ok (.iload_n 1, 1) := by decide +kernel
theorem dX8_led_44 : decode cX8_led 44 = .ok (.baload, 1) := by decide +kernel
theorem dX8_led_45 : decode cX8_led 45 = .ok (.ifCond .eq 7, 3) := by decide +kernel
theorem dX8_led_48 : decode cX8_led 48 = .ok (.iconst 1, 1) := by decide +kernel
theorem dX8_led_49 : decode cX8_led 49 = .ok (.goto 4, 3) := by decide +kernel
theorem dX8_led_52 : decode cX8_led 52 = .ok (.iconst 0, 1) := by decide +kernel
theorem dX8_led_53 : decode cX8_led 53 = .ok (.ireturn, 1) := by decide +kernel
theorem dX8_run_0 : decode cX8_run 0 = .ok (.iload_n 1, 1) := by decide +kernel
theorem dX8_run_1 : decode cX8_run 1 = .ok (.invokestatic 141, 3) := by decide +kernel
theorem dX8_run_4 : decode cX8_run 4 = .ok (.ifCond .eq 15, 3) := by decide +kernel
theorem dX8_run_7 : decode cX8_run 7 = .ok (.iload_n 2, 1) := by decide +kernel
theorem dX8_run_8 : decode cX8_run 8 = .ok (.ifCond .lt 11, 3) := by decide +kernel
theorem dX8_run_11 : decode cX8_run 11 = .ok (.iload_n 3, 1) := by decide +kernel
theorem dX8_run_12 : decode cX8_run 12 = .ok (.iconst 4, 1) := by decide +kernel
theorem dX8_run_13 : decode cX8_run 13 = .ok (.invokestatic 188, 3) := by decide +kernel
theorem dX8_run_16 : decode cX8_run 16 = .ok (.ifCond .ne 5, 3) := by decide +kernel
theorem dX8_run_19 : decode cX8_run 19 = .ok (.iconst (-1), 1) := by decide +kernel
theorem dX8_run_20 : decode cX8_run 20 = .ok (.ireturn, 1) := by decide +kernel
theorem dX8_run_21 : decode cX8_run 21 = .ok (.aload_n 0, 1) := by decide +kernel
theorem dX8_run_22 : decode cX8_run 22 = .ok (.iload_n 1, 1) := by decide +kernel
theorem dX8_run_23 : decode cX8_run 23 = .ok (.invokevirtual 191, 3) := by decide +kernel
theorem dX8_run_26 : decode cX8_run 26 = .ok (.istore 4, 2) := by decide +kernel
theorem dX8_run_28 : decode cX8_run 28 = .ok (.iload 4, 2) := by decide +kernel
theorem dX8_run_30 : decode cX8_run 30 = .ok (.ifCond .eq 6, 3) := by decide +kernel
theorem dX8_run_33 : decode cX8_run 33 = .ok (.iload 4, 2) := by decide +kernel
theorem dX8_run_35 : decode cX8_run 35 = .ok (.ireturn, 1) := by decide +kernel
theorem dX8_run_36 : decode cX8_run 36 = .ok (.iload_n 2, 1) := by decide +kernel
theorem dX8_run_37 : decode cX8_run 37 = .ok (.aload_n 0, 1) := by decide +kernel
theorem dX8_run_38 : decode cX8_run 38 = .ok (.getfield 67, 3) := by decide +kernel
theorem dX8_run_41 : decode cX8_run 41 = .ok (.iload_n 1, 1) := by decide +kernel
theorem dX8_run_42 : decode cX8_run 42 = .ok (.aaload, 1) := by decide +kernel
theorem dX8_run_43 : decode cX8_run 43 = .ok (.getfield 155, 3) := by decide +kernel
theorem dX8_run_46 : decode cX8_run 46 = .ok (.if_icmp .gt 14, 3) := by decide +kernel
theorem dX8_run_49 : decode cX8_run 49 = .ok (.iload_n 2, 1) := by decide +kernel
theorem dX8_run_50 : decode cX8_run 50 = .ok (.bipush 60, 2) := by decide +kernel
theorem dX8_run_52 : decode cX8_run 52 = .ok (.aload_n 0, 1) := by decide +kernel
theorem dX8_run_53 : decode cX8_run 53 = .ok (.getfield 119, 3) := by decide +kernel
theorem dX8_run_56 : decode cX8_run 56 = .ok (.isub, 1) := by decide +kernel
theorem dX8_run_57 : decode cX8_run 57 = .ok (.if_icmp .le 6, 3) := by decide +kernel
theorem dX8_run_60 : decode cX8_run 60 = .ok (.bipush (-5), 2) := by decide +kernel
theorem dX8_run_62 : decode cX8_run 62 = .ok (.ireturn, 1) := by decide +kernel
theorem dX8_run_63 : decode cX8_run 63 = .ok (.aload_n 0, 1) := by decide +kernel
theorem dX8_run_64 : decode cX8_run 64 = .ok (.getfield 23, 3) := by decide +kernel
theorem dX8_run_67 : decode cX8_run 67 = .ok (.aload_n 0, 1) := by decide +kernel
theorem dX8_run_68 : decode cX8_run 68 = .ok (.getfield 19, 3) := by decide +kernel
theorem dX8_run_71 : decode cX8_run 71 = .ok (.invokevirtual 194, 3) := by decide +kernel
theorem dX8_run_74 : decode cX8_run 74 = .ok (.iconst 0, 1) := by decide +kernel
theorem dX8_run_75 : decode cX8_run 75 = .ok (.istore 5, 2) := by decide +kernel
theorem dX8_run_77 : decode cX8_run 77 = .ok (.iload 5, 2) := by decide +kernel
theorem dX8_run_79 : decode cX8_run 79 = .ok (.iload_n 2, 1) := by decide +kernel
theorem dX8_run_80 : decode cX8_run 80 = .ok (.if_icmp .ge 39, 3) := by decide +kernel
theorem dX8_run_83 : decode cX8_run 83 = .ok (.aload_n 0, 1) := by decide +kernel
theorem dX8_run_84 : decode cX8_run 84 = .ok (.getfield 23, 3) := by decide +kernel
theorem dX8_run_87 : decode cX8_run 87 = .ok (.aload_n 0, 1) := by decide +kernel
theorem dX8_run_88 : decode cX8_run 88 = .ok (.getfield 10, 3) := by decide +kernel
theorem dX8_run_91 : decode cX8_run 91 = .ok (.aload_n 0, 1) := by decide +kernel
theorem dX8_run_92 : decode cX8_run 92 = .ok (.getfield 119, 3) := by decide +kernel
theorem dX8_run_95 : decode cX8_run 95 = .ok (.iload 5, 2) := by decide +kernel
theorem dX8_run_97 : decode cX8_run 97 = .ok (.iadd, 1) := by decide +kernel
theorem dX8_run_98 : decode cX8_run 98 = .ok (.aload_n 0, 1) := by decide +kernel
theorem dX8_run_99 : decode cX8_run 99 = .ok (.getfield 67, 3) := by decide +kernel
theorem dX8_run_102 : decode cX8_run 102 = .ok (.iload_n 1, 1) := by decide +kernel
theorem dX8_run_103 : decode cX8_run 103 = .ok (.aaload, 1) := by decide +kernel
theorem dX8_run_104 : decode cX8_run 104 = .ok (.iload 5, 2) := by decide +kernel
theorem dX8_run_106 : decode cX8_run 106 = .ok (.invokestatic 197, 3) := by decide +kernel
theorem dX8_run_109 : decode cX8_run 109 = .ok (.invokevirtual 185, 3) := by decide +kernel
theorem dX8_run_112 : decode cX8_run 112 = .ok (.pop, 1) := by decide +kernel
theorem dX8_run_113 : decode cX8_run 113 = .ok (.iinc 5 1, 3) := by decide +kernel
theorem dX8_run_116 : decode cX8_run 116 = .ok (.goto (-39), 3) := by decide +kernel
theorem dX8_run_119 : decode cX8_run 119 = .ok (.aload_n 0, 1) := by decide +kernel
theorem dX8_run_120 : decode cX8_run 120 = .ok (.iload_n 3, 1) := by decide +kernel
theorem dX8_run_121 : decode cX8_run 121 = .ok (.invokevirtual 201, 3) := by decide +kernel
theorem dX8_run_124 : decode cX8_run 124 = .ok (.ireturn, 1) := by decide +kernel
theorem dX8_first_0 : decode cX8_first 0 = .ok (.iload_n 1, 1) := by decide +kernel
theorem dX8_first_1 : decode cX8_first 1 = .ok (.invokestatic 141, 3) := by decide +kernel
theorem dX8_first_4 : decode cX8_first 4 = .ok (.ifCond .ne 5, 3) := by decide +kernel
theorem dX8_first_7 : decode cX8_first 7 = .ok (.iconst (-1), 1) := by decide +kernel
theorem dX8_first_8 : decode cX8_first 8 = .ok (.ireturn, 1) := by decide +kernel
theorem dX8_first_9 : decode cX8_first 9 = .ok (.aload_n 0, 1) := by decide +kernel
theorem dX8_first_10 : decode cX8_first 10 = .ok (.iload_n 1, 1) := by decide +kernel
theorem dX8_first_11 : decode cX8_first 11 = .ok (.invokevirtual 191, 3) := by decide +kernel
theorem dX8_first_14 : decode cX8_first 14 = .ok (.istore_n 2, 1) := by decide +kernel
theorem dX8_first_15 : decode cX8_first 15 = .ok (.iload_n 2, 1) := by decide +kernel
theorem dX8_first_16 : decode cX8_first 16 = .ok (.ifCond .eq 5, 3) := by decide +kernel
theorem dX8_first_19 : decode cX8_first 19 = .ok (.iload_n 2, 1) := by decide +kernel
theorem dX8_first_20 : decode cX8_first 20 = .ok (.ireturn, 1) := by decide +kernel
theorem dX8_first_21 : decode cX8_first 21 = .ok (.aload_n 0, 1) := by decide +kernel
theorem dX8_first_22 : decode cX8_first 22 = .ok (.getfield 67, 3) := by decide +kernel
theorem dX8_first_25 : decode cX8_first 25 = .ok (.iload_n 1, 1) := by decide +kernel
theorem dX8_first_26 : decode cX8_first 26 = .ok (.aaload, 1) := by decide +kernel
theorem dX8_first_27 : decode cX8_first 27 = .ok (.getfield 155, 3) := by decide +kernel
theorem dX8_first_30 : decode cX8_first 30 = .ok (.bipush 60, 2) := by decide +kernel
theorem dX8_first_32 : decode cX8_first 32 = .ok (.aload_n 0, 1) := by decide +kernel
theorem dX8_first_33 : decode cX8_first 33 = .ok (.getfield 119, 3) := by decide +kernel
theorem dX8_first_36 : decode cX8_first 36 = .ok (.isub, 1) := by decide +kernel
theorem dX8_first_37 : decode cX8_first 37 = .ok (.invokestatic 204, 3) := by decide +kernel
theorem dX8_first_40 : decode cX8_first 40 = .ok (.istore_n 3, 1) := by decide +kernel
theorem dX8_first_41 : decode cX8_first 41 = .ok (.aload_n 0, 1) := by decide +kernel
theorem dX8_first_42 : decode cX8_first 42 = .ok (.getfield 23, 3) := by decide +kernel
theorem dX8_first_45 : decode cX8_first 45 = .ok (.aload_n 0, 1) := by decide +kernel
theorem dX8_first_46 : decode cX8_first 46 = .ok (.getfield 19, 3) := by decide +kernel
theorem dX8_first_49 : decode cX8_first 49 = .ok (.invokevirtual 194, 3) := by decide +kernel
theorem dX8_first_52 : decode cX8_first 52 = .ok (.iconst 0, 1) := by decide +kernel
theorem dX8_first_53 : decode cX8_first 53 = .ok (.istore 4, 2) := by decide +kernel
theorem dX8_first_55 : decode cX8_first 55 = .ok (.iload 4, 2) := by decide +kernel
theorem dX8_first_57 : decode cX8_first 57 = .ok (.iload_n 3, 1) := by decide +kernel
theorem dX8_first_58 : decode cX8_first 58 = .ok (.if_icmp .ge 44, 3) := by decide +kernel
theorem dX8_first_61 : decode cX8_first 61 = .ok (.aload_n 0, 1) := by decide +kernel
theorem dX8_first_62 : decode cX8_first 62 = .ok (.getfield 23, 3) := by decide +kernel
theorem dX8_first_65 : decode cX8_first 65 = .ok (.aload_n 0, 1) := by decide +kernel
theorem dX8_first_66 : decode cX8_first 66 = .ok (.getfield 10, 3) := by decide +kernel
theorem dX8_first_69 : decode cX8_first 69 = .ok (.aload_n 0, 1) := by decide +kernel
theorem dX8_first_70 : decode cX8_first 70 = .ok (.getfield 119, 3) := by decide +kernel
theorem dX8_first_73 : decode cX8_first 73 = .ok (.iload 4, 2) := by decide +kernel
theorem dX8_first_75 : decode cX8_first 75 = .ok (.iadd, 1) := by decide +kernel
theorem dX8_first_76 : decode cX8_first 76 = .ok (.aload_n 0, 1) := by decide +kernel
theorem dX8_first_77 : decode cX8_first 77 = .ok (.getfield 67, 3) := by decide +kernel
theorem dX8_first_80 : decode cX8_first 80 = .ok (.iload_n 1, 1) := by decide +kernel
theorem dX8_first_81 : decode cX8_first 81 = .ok (.aaload, 1) := by decide +kernel
theorem dX8_first_82 : decode cX8_first 82 = .ok (.iload 4, 2) := by decide +kernel
theorem dX8_first_84 : decode cX8_first 84 = .ok (.invokestatic 197, 3) := by decide +kernel
theorem dX8_first_87 : decode cX8_first 87 = .ok (.invokevirtual 185, 3) := by decide +kernel
theorem dX8_first_90 : decode cX8_first 90 = .ok (.ifCond .ne 6, 3) := by decide +kernel
theorem dX8_first_93 : decode cX8_first 93 = .ok (.iload 4, 2) := by decide +kernel
theorem dX8_first_95 : decode cX8_first 95 = .ok (.ireturn, 1) := by decide +kernel
theorem dX8_first_96 : decode cX8_first 96 = .ok (.iinc 4 1, 3) := by decide +kernel
theorem dX8_first_99 : decode cX8_first 99 = .ok (.goto (-44), 3) := by decide +kernel
theorem dX8_first_102 : decode cX8_first 102 = .ok (.bipush (-2), 2) := by decide +kernel
theorem dX8_first_104 : decode cX8_first 104 = .ok (.ireturn, 1) := by decide +kernel
theorem dX8_orderOn_0 : decode cX8_orderOn 0 = .ok (.aload_n 0, 1) := by decide +kernel
theorem dX8_orderOn_1 : decode cX8_orderOn 1 = .ok (.iload_n 1, 1) := by decide +kernel
theorem dX8_orderOn_2 : decode cX8_orderOn 2 = .ok (.invokevirtual 158, 3) := by decide +kernel
theorem dX8_orderOn_5 : decode cX8_orderOn 5 = .ok (.l2i, 1) := by decide +kernel
theorem dX8_orderOn_6 : decode cX8_orderOn 6 = .ok (.istore_n 2, 1) := by decide +kernel
theorem dX8_orderOn_7 : decode cX8_orderOn 7 = .ok (.iload_n 2, 1) := by decide +kernel
theorem dX8_orderOn_8 : decode cX8_orderOn 8 = .ok (.ifCond .lt 8, 3) := by decide +kernel
theorem dX8_orderOn_11 : decode cX8_orderOn 11 = .ok (.iload_n 2, 1) := by decide +kernel
theorem dX8_orderOn_12 : decode cX8_orderOn 12 = .ok (.iconst 5, 1) := by decide +kernel
theorem dX8_orderOn_13 : decode cX8_orderOn 13 = .ok (.if_icmp .le 7, 3) := by decide +kernel
theorem dX8_orderOn_16 : decode cX8_orderOn 16 = .ok (.iconst 0, 1) := by decide +kernel
theorem dX8_orderOn_17 : decode cX8_orderOn 17 = .ok (.goto 4, 3) := by decide +kernel
theorem dX8_orderOn_20 : decode cX8_orderOn 20 = .ok (.iload_n 2, 1) := by decide +kernel
theorem dX8_orderOn_21 : decode cX8_orderOn 21 = .ok (.ireturn, 1) := by decide +kernel
theorem dX8_thoughtOf_0 : decode cX8_thoughtOf 0 = .ok (.iload_n 1, 1) := by decide +kernel
theorem dX8_thoughtOf_1 : decode cX8_thoughtOf 1 = .ok (.tableswitch 51 0 2 #[27, 35, 43], 27) := by decide +kernel
theorem dX8_thoughtOf_28 : decode cX8_thoughtOf 28 = .ok (.aload_n 0, 1) := by decide +kernel
theorem dX8_thoughtOf_29 : decode cX8_thoughtOf 29 = .ok (.getfield 23, 3) := by decide +kernel
theorem dX8_thoughtOf_32 : decode cX8_thoughtOf 32 = .ok (.getfield 122, 3) := by decide +kernel
theorem dX8_thoughtOf_35 : decode cX8_thoughtOf 35 = .ok (.ireturn, 1) := by decide +kernel
theorem dX8_thoughtOf_36 : decode cX8_thoughtOf 36 = .ok (.aload_n 0, 1) := by decide +kernel
theorem dX8_thoughtOf_37 : decode cX8_thoughtOf 37 = .ok (.getfield 23, 3) := by decide +kernel
theorem dX8_thoughtOf_40 : decode cX8_thoughtOf 40 = .ok (.getfield 125, 3) := by decide +kernel
theorem dX8_thoughtOf_43 : decode cX8_thoughtOf 43 = .ok (.ireturn, 1) := by decide +kernel
theorem dX8_thoughtOf_44 : decode cX8_thoughtOf 44 = .ok (.aload_n 0, 1) := by decide +kernel
theorem dX8_thoughtOf_45 : decode cX8_thoughtOf 45 = .ok (.getfield 23, 3) := by decide +kernel
theorem dX8_thoughtOf_48 : decode cX8_thoughtOf 48 = .ok (.getfield 128, 3) := by decide +kernel
theorem dX8_thoughtOf_51 : decode cX8_thoughtOf 51 = .ok (.ireturn, 1) := by decide +kernel
theorem dX8_thoughtOf_52 : decode cX8_thoughtOf 52 = .ok (.aload_n 0, 1) := by decide +kernel
theorem dX8_thoughtOf_53 : decode cX8_thoughtOf 53 = .ok (.getfield 23, 3) := by decide +kernel
theorem dX8_thoughtOf_56 : decode cX8_thoughtOf 56 = .ok (.getfield 131, 3) := by decide +kernel
theorem dX8_thoughtOf_59 : decode cX8_thoughtOf 59 = .ok (.invokestatic 135, 3) := by decide +kernel
theorem dX8_thoughtOf_62 : decode cX8_thoughtOf 62 = .ok (.aload_n 0, 1) := by decide +kernel
theorem dX8_thoughtOf_63 : decode cX8_thoughtOf 63 = .ok (.getfield 19, 3) := by decide +kernel
theorem dX8_thoughtOf_66 : decode cX8_thoughtOf 66 = .ok (.getfield 131, 3) := by decide +kernel
theorem dX8_thoughtOf_69 : decode cX8_thoughtOf 69 = .ok (.invokestatic 135, 3) := by decide +kernel
theorem dX8_thoughtOf_72 : decode cX8_thoughtOf 72 = .ok (.isub, 1) := by decide +kernel
theorem dX8_thoughtOf_73 : decode cX8_thoughtOf 73 = .ok (.ireturn, 1) := by decide +kernel
theorem dX8_lawful_0 : decode cX8_lawful 0 = .ok (.iload_n 1, 1) := by decide +kernel
theorem dX8_lawful_1 : decode cX8_lawful 1 = .ok (.ifCond .lt 17, 3) := by decide +kernel
theorem dX8_lawful_4 : decode cX8_lawful 4 = .ok (.iload_n 1, 1) := by decide +kernel
theorem dX8_lawful_5 : decode cX8_lawful 5 = .ok (.bipush 60, 2) := by decide +kernel
theorem dX8_lawful_7 : decode cX8_lawful 7 = .ok (.if_icmp .gt 11, 3) := by decide +kernel
theorem dX8_lawful_10 : decode cX8_lawful 10 = .ok (.iload_n 2, 1) := by decide +kernel
theorem dX8_lawful_11 : decode cX8_lawful 11 = .ok (.iconst 4, 1) := by decide +kernel
theorem dX8_lawful_12 : decode cX8_lawful 12 = .ok (.invokestatic 188, 3) := by decide +kernel
theorem dX8_lawful_15 : decode cX8_lawful 15 = .ok (.ifCond .ne 5, 3) := by decide +kernel
theorem dX8_lawful_18 : decode cX8_lawful 18 = .ok (.iconst (-1), 1) := by decide +kernel
theorem dX8_lawful_19 : decode cX8_lawful 19 = .ok (.ireturn, 1) := by decide +kernel
theorem dX8_lawful_20 : decode cX8_lawful 20 = .ok (.iload_n 1, 1) := by decide +kernel
theorem dX8_lawful_21 : decode cX8_lawful 21 = .ok (.bipush 60, 2) := by decide +kernel
theorem dX8_lawful_23 : decode cX8_lawful 23 = .ok (.aload_n 0, 1) := by decide +kernel
theorem dX8_lawful_24 : decode cX8_lawful 24 = .ok (.getfield 119, 3) := by decide +kernel
theorem dX8_lawful_27 : decode cX8_lawful 27 = .ok (.isub, 1) := by decide +kernel
theorem dX8_lawful_28 : decode cX8_lawful 28 = .ok (.if_icmp .le 6, 3) := by decide +kernel
theorem dX8_lawful_31 : decode cX8_lawful 31 = .ok (.bipush (-5), 2) := by decide +kernel
theorem dX8_lawful_33 : decode cX8_lawful 33 = .ok (.ireturn, 1) := by decide +kernel
theorem dX8_lawful_34 : decode cX8_lawful 34 = .ok (.aload_n 0, 1) := by decide +kernel
theorem dX8_lawful_35 : decode cX8_lawful 35 = .ok (.getfield 23, 3) := by decide +kernel
theorem dX8_lawful_38 : decode cX8_lawful 38 = .ok (.aload_n 0, 1) := by decide +kernel
theorem dX8_lawful_39 : decode cX8_lawful 39 = .ok (.getfield 19, 3) := by decide +kernel
theorem dX8_lawful_42 : decode cX8_lawful 42 = .ok (.invokevirtual 194, 3) := by decide +kernel
theorem dX8_lawful_45 : decode cX8_lawful 45 = .ok (.iconst 0, 1) := by decide +kernel
theorem dX8_lawful_46 : decode cX8_lawful 46 = .ok (.istore_n 3, 1) := by decide +kernel
theorem dX8_lawful_47 : decode cX8_lawful 47 = .ok (.iload_n 3, 1) := by decide +kernel
theorem dX8_lawful_48 : decode cX8_lawful 48 = .ok (.iload_n 1, 1) := by decide +kernel
theorem dX8_lawful_49 : decode cX8_lawful 49 = .ok (.if_icmp .ge 48, 3) := by decide +kernel
theorem dX8_lawful_52 : decode cX8_lawful 52 = .ok (.aload_n 0, 1) := by decide +kernel
theorem dX8_lawful_53 : decode cX8_lawful 53 = .ok (.getfield 23, 3) := by decide +kernel
theorem dX8_lawful_56 : decode cX8_lawful 56 = .ok (.aload_n 0, 1) := by decide +kernel
theorem dX8_lawful_57 : decode cX8_lawful 57 = .ok (.getfield 10, 3) := by decide +kernel
theorem dX8_lawful_60 : decode cX8_lawful 60 = .ok (.aload_n 0, 1) := by decide +kernel
theorem dX8_lawful_61 : decode cX8_lawful 61 = .ok (.getfield 119, 3) := by decide +kernel
theorem dX8_lawful_64 : decode cX8_lawful 64 = .ok (.iload_n 3, 1) := by decide +kernel
theorem dX8_lawful_65 : decode cX8_lawful 65 = .ok (.iadd, 1) := by decide +kernel
theorem dX8_lawful_66 : decode cX8_lawful 66 = .ok (.aload_n 0, 1) := by decide +kernel
theorem dX8_lawful_67 : decode cX8_lawful 67 = .ok (.getfield 40, 3) := by decide +kernel
theorem dX8_lawful_70 : decode cX8_lawful 70 = .ok (.aload_n 0, 1) := by decide +kernel
theorem dX8_lawful_71 : decode cX8_lawful 71 = .ok (.getfield 10, 3) := by decide +kernel
theorem dX8_lawful_74 : decode cX8_lawful 74 = .ok (.aload_n 0, 1) := by decide +kernel
theorem dX8_lawful_75 : decode cX8_lawful 75 = .ok (.getfield 23, 3) := by decide +kernel
theorem dX8_lawful_78 : decode cX8_lawful 78 = .ok (.aload_n 0, 1) := by decide +kernel
theorem dX8_lawful_79 : decode cX8_lawful 79 = .ok (.getfield 119, 3) := by decide +kernel
theorem dX8_lawful_82 : decode cX8_lawful 82 = .ok (.iload_n 3, 1) := by decide +kernel
theorem dX8_lawful_83 : decode cX8_lawful 83 = .ok (.iadd, 1) := by decide +kernel
theorem dX8_lawful_84 : decode cX8_lawful 84 = .ok (.invokevirtual 178, 3) := by decide +kernel
theorem dX8_lawful_87 : decode cX8_lawful 87 = .ok (.invokevirtual 185, 3) := by decide +kernel
theorem dX8_lawful_90 : decode cX8_lawful 90 = .ok (.pop, 1) := by decide +kernel
theorem dX8_lawful_91 : decode cX8_lawful 91 = .ok (.iinc 3 1, 3) := by decide +kernel
theorem dX8_lawful_94 : decode cX8_lawful 94 = .ok (.goto (-47), 3) := by decide +kernel
theorem dX8_lawful_97 : decode cX8_lawful 97 = .ok (.aload_n 0, 1) := by decide +kernel
theorem dX8_lawful_98 : decode cX8_lawful 98 = .ok (.iload_n 2, 1) := by decide +kernel
theorem dX8_lawful_99 : decode cX8_lawful 99 = .ok (.invokevirtual 201, 3) := by decide +kernel
theorem dX8_lawful_102 : decode cX8_lawful 102 = .ok (.ireturn, 1) := by decide +kernel
theorem dX8_cheapest_0 : decode cX8_cheapest 0 = .ok (.iload_n 1, 1) := by decide +kernel
theorem dX8_cheapest_1 : decode cX8_cheapest 1 = .ok (.ifCond .lt 31, 3) := by decide +kernel
theorem dX8_cheapest_4 : decode cX8_cheapest 4 = .ok (.iload_n 1, 1) := by decide +kernel
theorem dX8_cheapest_5 : decode cX8_cheapest 5 = .ok (.bipush 100, 2) := by decide +kernel
theorem dX8_cheapest_7 : decode cX8_cheapest 7 = .ok (.idiv, 1) := by decide +kernel
theorem dX8_cheapest_8 : decode cX8_cheapest 8 = .ok (.invokestatic 109, 3) := by decide +kernel
theorem dX8_cheapest_11 : decode cX8_cheapest 11 = .ok (.ifCond .eq 21, 3) := by decide +kernel
theorem dX8_cheapest_14 : decode cX8_cheapest 14 = .ok (.iload_n 1, 1) := by decide +kernel
theorem dX8_cheapest_15 : decode cX8_cheapest 15 = .ok (.bipush 100, 2) := by decide +kernel
theorem dX8_cheapest_17 : decode cX8_cheapest 17 = .ok (.irem, 1) := by decide +kernel
theorem dX8_cheapest_18 : decode cX8_cheapest 18 = .ok (.invokestatic 109, 3) := by decide +kernel
theorem dX8_cheapest_21 : decode cX8_cheapest 21 = .ok (.ifCond .eq 11, 3) := by decide +kernel
theorem dX8_cheapest_24 : decode cX8_cheapest 24 = .ok (.iload_n 2, 1) := by decide +kernel
theorem dX8_cheapest_25 : decode cX8_cheapest 25 = .ok (.iconst 2, 1) := by decide +kernel
theorem dX8_cheapest_26 : decode cX8_cheapest 26 = .ok (.invokestatic 188, 3) := by decide +kernel
theorem dX8_cheapest_29 : decode cX8_cheapest 29 = .ok (.ifCond .ne 5, 3) := by decide +kernel
theorem dX8_cheapest_32 : decode cX8_cheapest 32 = .ok (.iconst (-1), 1) := by decide +kernel
theorem dX8_cheapest_33 : decode cX8_cheapest 33 = .ok (.ireturn, 1) := by decide +kernel
theorem dX8_cheapest_34 : decode cX8_cheapest 34 = .ok (.iload_n 1, 1) := by decide +kernel
theorem dX8_cheapest_35 : decode cX8_cheapest 35 = .ok (.bipush 100, 2) := by decide +kernel
theorem dX8_cheapest_37 : decode cX8_cheapest 37 = .ok (.idiv, 1) := by decide +kernel
theorem dX8_cheapest_38 : decode cX8_cheapest 38 = .ok (.istore_n 3, 1) := by decide +kernel
theorem dX8_cheapest_39 : decode cX8_cheapest 39 = .ok (.aload_n 0, 1) := by decide +kernel
theorem dX8_cheapest_40 : decode cX8_cheapest 40 = .ok (.getfield 47, 3) := by decide +kernel
theorem dX8_cheapest_43 : decode cX8_cheapest 43 = .ok (.aload_n 0, 1) := by decide +kernel
theorem dX8_cheapest_44 : decode cX8_cheapest 44 = .ok (.getfield 10, 3) := by decide +kernel
theorem dX8_cheapest_47 : decode cX8_cheapest 47 = .ok (.iload_n 1, 1) := by decide +kernel
theorem dX8_cheapest_48 : decode cX8_cheapest 48 = .ok (.bipush 100, 2) := by decide +kernel
theorem dX8_cheapest_50 : decode cX8_cheapest 50 = .ok (.irem, 1) := by decide +kernel
theorem dX8_cheapest_51 : decode cX8_cheapest 51 = .ok (.invokevirtual 209, 3) := by decide +kernel
theorem dX8_cheapest_54 : decode cX8_cheapest 54 = .ok (.iload_n 2, 1) := by decide +kernel
theorem dX8_cheapest_55 : decode cX8_cheapest 55 = .ok (.ifCond .ne 12, 3) := by decide +kernel
theorem dX8_cheapest_58 : decode cX8_cheapest 58 = .ok (.aload_n 0, 1) := by decide +kernel
theorem dX8_cheapest_59 : decode cX8_cheapest 59 = .ok (.getfield 47, 3) := by decide +kernel
theorem dX8_cheapest_62 : decode cX8_cheapest 62 = .ok (.iload_n 3, 1) := by decide +kernel
theorem dX8_cheapest_63 : decode cX8_cheapest 63 = .ok (.invokevirtual 213, 3) := by decide +kernel
theorem dX8_cheapest_66 : decode cX8_cheapest 66 = .ok (.ireturn, 1) := by decide +kernel
theorem dX8_cheapest_67 : decode cX8_cheapest 67 = .ok (.aload_n 0, 1) := by decide +kernel
theorem dX8_cheapest_68 : decode cX8_cheapest 68 = .ok (.getfield 47, 3) := by decide +kernel
theorem dX8_cheapest_71 : decode cX8_cheapest 71 = .ok (.aload_n 0, 1) := by decide +kernel
theorem dX8_cheapest_72 : decode cX8_cheapest 72 = .ok (.getfield 10, 3) := by decide +kernel
theorem dX8_cheapest_75 : decode cX8_cheapest 75 = .ok (.iload_n 3, 1) := by decide +kernel
theorem dX8_cheapest_76 : decode cX8_cheapest 76 = .ok (.invokevirtual 216, 3) := by decide +kernel
theorem dX8_cheapest_79 : decode cX8_cheapest 79 = .ok (.istore 4, 2) := by decide +kernel
theorem dX8_cheapest_81 : decode cX8_cheapest 81 = .ok (.iload 4, 2) := by decide +kernel
theorem dX8_cheapest_83 : decode cX8_cheapest 83 = .ok (.ifCond .ge 8, 3) := by decide +kernel
theorem dX8_cheapest_86 : decode cX8_cheapest 86 = .ok (.bipush (-2), 2) := by decide +kernel
theorem dX8_cheapest_88 : decode cX8_cheapest 88 = .ok (.goto 5, 3) := by decide +kernel
theorem dX8_cheapest_91 : decode cX8_cheapest 91 = .ok (.iload 4, 2) := by decide +kernel
theorem dX8_cheapest_93 : decode cX8_cheapest 93 = .ok (.ireturn, 1) := by decide +kernel
theorem dX8_soonest_0 : decode cX8_soonest 0 = .ok (.iload_n 1, 1) := by decide +kernel
theorem dX8_soonest_1 : decode cX8_soonest 1 = .ok (.invokestatic 109, 3) := by decide +kernel
theorem dX8_soonest_4 : decode cX8_soonest 4 = .ok (.ifCond .eq 11, 3) := by decide +kernel
theorem dX8_soonest_7 : decode cX8_soonest 7 = .ok (.iload_n 2, 1) := by decide +kernel
theorem dX8_soonest_8 : decode cX8_soonest 8 = .ok (.iconst 2, 1) := by decide +kernel
theorem dX8_soonest_9 : decode cX8_soonest 9 = .ok (.invokestatic 188, 3) := by decide +kernel
theorem dX8_soonest_12 : decode cX8_soonest 12 = .ok (.ifCond .ne 5, 3) := by decide +kernel
theorem dX8_soonest_15 : decode cX8_soonest 15 = .ok (.iconst (-1), 1) := by decide +kernel
theorem dX8_soonest_16 : decode cX8_soonest 16 = .ok (.ireturn, 1) := by decide +kernel
theorem dX8_soonest_17 : decode cX8_soonest 17 = .ok (.aload_n 0, 1) := by decide +kernel
theorem dX8_soonest_18 : decode cX8_soonest 18 = .ok (.getfield 54, 3) := by decide +kernel
theorem dX8_soonest_21 : decode cX8_soonest 21 = .ok (.aload_n 0, 1) := by decide +kernel
theorem dX8_soonest_22 : decode cX8_soonest 22 = .ok (.getfield 10, 3) := by decide +kernel
theorem dX8_soonest_25 : decode cX8_soonest 25 = .ok (.aload_n 0, 1) := by decide +kernel
theorem dX8_soonest_26 : decode cX8_soonest 26 = .ok (.getfield 19, 3) := by decide +kernel
theorem dX8_soonest_29 : decode cX8_soonest 29 = .ok (.aload_n 0, 1) := by decide +kernel
theorem dX8_soonest_30 : decode cX8_soonest 30 = .ok (.getfield 119, 3) := by decide +kernel
theorem dX8_soonest_33 : decode cX8_soonest 33 = .ok (.iload_n 1, 1) := by decide +kernel
theorem dX8_soonest_34 : decode cX8_soonest 34 = .ok (.invokevirtual 220, 3) := by decide +kernel
theorem dX8_soonest_37 : decode cX8_soonest 37 = .ok (.ifCond .ne 6, 3) := by decide +kernel
theorem dX8_soonest_40 : decode cX8_soonest 40 = .ok (.bipush (-2), 2) := by decide +kernel
theorem dX8_soonest_42 : decode cX8_soonest 42 = .ok (.ireturn, 1) := by decide +kernel
theorem dX8_soonest_43 : decode cX8_soonest 43 = .ok (.iload_n 2, 1) := by decide +kernel
theorem dX8_soonest_44 : decode cX8_soonest 44 = .ok (.ifCond .ne 13, 3) := by decide +kernel
theorem dX8_soonest_47 : decode cX8_soonest 47 = .ok (.aload_n 0, 1) := by decide +kernel
theorem dX8_soonest_48 : decode cX8_soonest 48 = .ok (.getfield 54, 3) := by decide +kernel
theorem dX8_soonest_51 : decode cX8_soonest 51 = .ok (.getfield 224, 3) := by decide +kernel
theorem dX8_soonest_54 : decode cX8_soonest 54 = .ok (.goto 10, 3) := by decide +kernel
theorem dX8_soonest_57 : decode cX8_soonest 57 = .ok (.aload_n 0, 1) := by decide +kernel
theorem dX8_soonest_58 : decode cX8_soonest 58 = .ok (.getfield 54, 3) := by decide +kernel
theorem dX8_soonest_61 : decode cX8_soonest 61 = .ok (.getfield 227, 3) := by decide +kernel
theorem dX8_soonest_64 : decode cX8_soonest 64 = .ok (.ireturn, 1) := by decide +kernel
theorem dX8_round_0 : decode cX8_round 0 = .ok (.iload_n 1, 1) := by decide +kernel
theorem dX8_round_1 : decode cX8_round 1 = .ok (.iconst 2, 1) := by decide +kernel
theorem dX8_round_2 : decode cX8_round 2 = .ok (.invokestatic 188, 3) := by decide +kernel
theorem dX8_round_5 : decode cX8_round 5 = .ok (.ifCond .ne 5, 3) := by decide +kernel
theorem dX8_round_8 : decode cX8_round 8 = .ok (.iconst (-1), 1) := by decide +kernel
theorem dX8_round_9 : decode cX8_round 9 = .ok (.ireturn, 1) := by decide +kernel
theorem dX8_round_10 : decode cX8_round 10 = .ok (.aload_n 0, 1) := by decide +kernel
theorem dX8_round_11 : decode cX8_round 11 = .ok (.getfield 47, 3) := by decide +kernel
theorem dX8_round_14 : decode cX8_round 14 = .ok (.aload_n 0, 1) := by decide +kernel
theorem dX8_round_15 : decode cX8_round 15 = .ok (.getfield 10, 3) := by decide +kernel
theorem dX8_round_18 : decode cX8_round 18 = .ok (.aload_n 0, 1) := by decide +kernel
theorem dX8_round_19 : decode cX8_round 19 = .ok (.getfield 19, 3) := by decide +kernel
theorem dX8_round_22 : decode cX8_round 22 = .ok (.invokevirtual 230, 3) := by decide +kernel
theorem dX8_round_25 : decode cX8_round 25 = .ok (.ifCond .ne 6, 3) := by decide +kernel
theorem dX8_round_28 : decode cX8_round 28 = .ok (.bipush (-5), 2) := by decide +kernel
theorem dX8_round_30 : decode cX8_round 30 = .ok (.ireturn, 1) := by decide +kernel
theorem dX8_round_31 : decode cX8_round 31 = .ok (.iload_n 1, 1) := by decide +kernel
theorem dX8_round_32 : decode cX8_round 32 = .ok (.ifCond .ne 11, 3) := by decide +kernel
theorem dX8_round_35 : decode cX8_round 35 = .ok (.aload_n 0, 1) := by decide +kernel
theorem dX8_round_36 : decode cX8_round 36 = .ok (.getfield 47, 3) := by decide +kernel
theorem dX8_round_39 : decode cX8_round 39 = .ok (.getfield 234, 3) := by decide +kernel
theorem dX8_round_42 : decode cX8_round 42 = .ok (.ireturn, 1) := by decide +kernel
theorem dX8_round_43 : decode cX8_round 43 = .ok (.aload_n 0, 1) := by decide +kernel
theorem dX8_round_44 : decode cX8_round 44 = .ok (.getfield 47, 3) := by decide +kernel
theorem dX8_round_47 : decode cX8_round 47 = .ok (.getfield 237, 3) := by decide +kernel
theorem dX8_round_50 : decode cX8_round 50 = .ok (.ifCond .ge 8, 3) := by decide +kernel
theorem dX8_round_53 : decode cX8_round 53 = .ok (.bipush (-2), 2) := by decide +kernel
theorem dX8_round_55 : decode cX8_round 55 = .ok (.goto 10, 3) := by decide +kernel
theorem dX8_round_58 : decode cX8_round 58 = .ok (.aload_n 0, 1) := by decide +kernel
theorem dX8_round_59 : decode cX8_round 59 = .ok (.getfield 47, 3) := by decide +kernel
theorem dX8_round_62 : decode cX8_round 62 = .ok (.getfield 237, 3) := by decide +kernel
theorem dX8_round_65 : decode cX8_round 65 = .ok (.ireturn, 1) := by decide +kernel
theorem dX8_lasts_0 : decode cX8_lasts 0 = .ok (.iload_n 1, 1) := by decide +kernel
theorem dX8_lasts_1 : decode cX8_lasts 1 = .ok (.ifCond .lt 9, 3) := by decide +kernel
theorem dX8_lasts_4 : decode cX8_lasts 4 = .ok (.iload_n 1, 1) := by decide +kernel
theorem dX8_lasts_5 : decode cX8_lasts 5 = .ok (.bipush 20, 2) := by decide +kernel
theorem dX8_lasts_7 : decode cX8_lasts 7 = .ok (.if_icmp .le 5, 3) := by decide +kernel
theorem dX8_lasts_10 : decode cX8_lasts 10 = .ok (.iconst (-1), 1) := by decide +kernel
theorem dX8_lasts_11 : decode cX8_lasts 11 = .ok (.ireturn, 1) := by decide +kernel
theorem dX8_lasts_12 : decode cX8_lasts 12 = .ok (.aload_n 0, 1) := by decide +kernel
theorem dX8_lasts_13 : decode cX8_lasts 13 = .ok (.getfield 23, 3) := by decide +kernel
theorem dX8_lasts_16 : decode cX8_lasts 16 = .ok (.aload_n 0, 1) := by decide +kernel
theorem dX8_lasts_17 : decode cX8_lasts 17 = .ok (.getfield 19, 3) := by decide +kernel
theorem dX8_lasts_20 : decode cX8_lasts 20 = .ok (.invokevirtual 194, 3) := by decide +kernel
theorem dX8_lasts_23 : decode cX8_lasts 23 = .ok (.aload_n 0, 1) := by decide +kernel
theorem dX8_lasts_24 : decode cX8_lasts 24 = .ok (.getfield 119, 3) := by decide +kernel
theorem dX8_lasts_27 : decode cX8_lasts 27 = .ok (.istore_n 2, 1) := by decide +kernel
theorem dX8_lasts_28 : decode cX8_lasts 28 = .ok (.iload_n 2, 1) := by decide +kernel
theorem dX8_lasts_29 : decode cX8_lasts 29 = .ok (.bipush 60, 2) := by decide +kernel
theorem dX8_lasts_31 : decode cX8_lasts 31 = .ok (.if_icmp .ge 57, 3) := by decide +kernel
theorem dX8_lasts_34 : decode cX8_lasts 34 = .ok (.aload_n 0, 1) := by decide +kernel
theorem dX8_lasts_35 : decode cX8_lasts 35 = .ok (.getfield 23, 3) := by decide +kernel
theorem dX8_lasts_38 : decode cX8_lasts 38 = .ok (.aload_n 0, 1) := by decide +kernel
theorem dX8_lasts_39 : decode cX8_lasts 39 = .ok (.getfield 10, 3) := by decide +kernel
theorem dX8_lasts_42 : decode cX8_lasts 42 = .ok (.iload_n 2, 1) := by decide +kernel
theorem dX8_lasts_43 : decode cX8_lasts 43 = .ok (.iconst 0, 1) := by decide +kernel
theorem dX8_lasts_44 : decode cX8_lasts 44 = .ok (.iconst 0, 1) := by decide +kernel
theorem dX8_lasts_45 : decode cX8_lasts 45 = .ok (.aload_n 0, 1) := by decide +kernel
theorem dX8_lasts_46 : decode cX8_lasts 46 = .ok (.getfield 10, 3) := by decide +kernel
theorem dX8_lasts_49 : decode cX8_lasts 49 = .ok (.iload_n 2, 1) := by decide +kernel
theorem dX8_lasts_50 : decode cX8_lasts 50 = .ok (.invokevirtual 240, 3) := by decide +kernel
theorem dX8_lasts_53 : decode cX8_lasts 53 = .ok (.iload_n 1, 1) := by decide +kernel
theorem dX8_lasts_54 : decode cX8_lasts 54 = .ok (.isub, 1) := by decide +kernel
theorem dX8_lasts_55 : decode cX8_lasts 55 = .ok (.invokestatic 243, 3) := by decide +kernel
theorem dX8_lasts_58 : decode cX8_lasts 58 = .ok (.aload_n 0, 1) := by decide +kernel
theorem dX8_lasts_59 : decode cX8_lasts 59 = .ok (.getfield 10, 3) := by decide +kernel
theorem dX8_lasts_62 : decode cX8_lasts 62 = .ok (.iload_n 2, 1) := by decide +kernel
theorem dX8_lasts_63 : decode cX8_lasts 63 = .ok (.invokevirtual 246, 3) := by decide +kernel
theorem dX8_lasts_66 : decode cX8_lasts 66 = .ok (.invokevirtual 249, 3) := by decide +kernel
theorem dX8_lasts_69 : decode cX8_lasts 69 = .ok (.pop, 1) := by decide +kernel
theorem dX8_lasts_70 : decode cX8_lasts 70 = .ok (.aload_n 0, 1) := by decide +kernel
theorem dX8_lasts_71 : decode cX8_lasts 71 = .ok (.getfield 23, 3) := by decide +kernel
theorem dX8_lasts_74 : decode cX8_lasts 74 = .ok (.getfield 125, 3) := by decide +kernel
theorem dX8_lasts_77 : decode cX8_lasts 77 = .ok (.ifCond .ne 5, 3) := by decide +kernel
theorem dX8_lasts_80 : decode cX8_lasts 80 = .ok (.iload_n 2, 1) := by decide +kernel
theorem dX8_lasts_81 : decode cX8_lasts 81 = .ok (.ireturn, 1) := by decide +kernel
theorem dX8_lasts_82 : decode cX8_lasts 82 = .ok (.iinc 2 1, 3) := by decide +kernel
theorem dX8_lasts_85 : decode cX8_lasts 85 = .ok (.goto (-57), 3) := by decide +kernel
theorem dX8_lasts_88 : decode cX8_lasts 88 = .ok (.bipush (-2), 2) := by decide +kernel
theorem dX8_lasts_90 : decode cX8_lasts 90 = .ok (.ireturn, 1) := by decide +kernel
theorem dX8_clean_0 : decode cX8_clean 0 = .ok (.iload_n 1, 1) := by decide +kernel
theorem dX8_clean_1 : decode cX8_clean 1 = .ok (.ifCond .lt 25, 3) := by decide +kernel
theorem dX8_clean_4 : decode cX8_clean 4 = .ok (.iload_n 1, 1) := by decide +kernel
theorem dX8_clean_5 : decode cX8_clean 5 = .ok (.bipush 8, 2) := by decide +kernel
theorem dX8_clean_7 : decode cX8_clean 7 = .ok (.if_icmp .gt 19, 3) := by decide +kernel
theorem dX8_clean_10 : decode cX8_clean 10 = .ok (.iload_n 2, 1) := by decide +kernel
theorem dX8_clean_11 : decode cX8_clean 11 = .ok (.iconst 2, 1) := by decide +kernel
theorem dX8_clean_12 : decode cX8_clean 12 = .ok (.invokestatic 188, 3) := by decide +kernel
theorem dX8_clean_15 : decode cX8_clean 15 = .ok (.ifCond .eq 11, 3) := by decide +kernel
theorem dX8_clean_18 : decode cX8_clean 18 = .ok (.iload_n 3, 1) := by decide +kernel
theorem dX8_clean_19 : decode cX8_clean 19 = .ok (.iconst 2, 1) := by decide +kernel
theorem dX8_clean_20 : decode cX8_clean 20 = .ok (.invokestatic 188, 3) := by decide +kernel
theorem dX8_clean_23 : decode cX8_clean 23 = .ok (.ifCond .ne 7, 3) := by decide +kernel
theorem dX8_clean_26 : decode cX8_clean 26 = .ok (.ldc2_w 253, 3) := by decide +kernel
theorem dX8_clean_29 : decode cX8_clean 29 = .ok (.lreturn, 1) := by decide +kernel
theorem dX8_clean_30 : decode cX8_clean 30 = .ok (.bipush 12, 2) := by decide +kernel
theorem dX8_clean_32 : decode cX8_clean 32 = .ok (.aload_n 0, 1) := by decide +kernel
theorem dX8_clean_33 : decode cX8_clean 33 = .ok (.getfield 10, 3) := by decide +kernel
theorem dX8_clean_36 : decode cX8_clean 36 = .ok (.invokevirtual 255, 3) := by decide +kernel
theorem dX8_clean_39 : decode cX8_clean 39 = .ok (.isub, 1) := by decide +kernel
theorem dX8_clean_40 : decode cX8_clean 40 = .ok (.i2l, 1) := by decide +kernel
theorem dX8_clean_41 : decode cX8_clean 41 = .ok (.lstore 4, 2) := by decide +kernel
theorem dX8_clean_43 : decode cX8_clean 43 = .ok (.iload_n 2, 1) := by decide +kernel
theorem dX8_clean_44 : decode cX8_clean 44 = .ok (.ifCond .ne 26, 3) := by decide +kernel
theorem dX8_clean_47 : decode cX8_clean 47 = .ok (.ldc2_w 258, 3) := by decide +kernel
theorem dX8_clean_50 : decode cX8_clean 50 = .ok (.iload_n 1, 1) := by decide +kernel
theorem dX8_clean_51 : decode cX8_clean 51 = .ok (.invokestatic 260, 3) := by decide +kernel
theorem dX8_clean_54 : decode cX8_clean 54 = .ok (.lstore 8, 2) := by decide +kernel
theorem dX8_clean_56 : decode cX8_clean 56 = .ok (.lload 8, 2) := by decide +kernel
theorem dX8_clean_58 : decode cX8_clean 58 = .ok (.lload 4, 2) := by decide +kernel
theorem dX8_clean_60 : decode cX8_clean 60 = .ok (.iload_n 1, 1) := by decide +kernel
theorem dX8_clean_61 : decode cX8_clean 61 = .ok (.invokestatic 260, 3) := by decide +kernel
theorem dX8_clean_64 : decode cX8_clean 64 = .ok (.lsub, 1) := by decide +kernel
theorem dX8_clean_65 : decode cX8_clean 65 = .ok (.lstore 6, 2) := by decide +kernel
theorem dX8_clean_67 : decode cX8_clean 67 = .ok (.goto 61, 3) := by decide +kernel
theorem dX8_clean_70 : decode cX8_clean 70 = .ok (.ldc2_w 258, 3) := by decide +kernel
theorem dX8_clean_73 : decode cX8_clean 73 = .ok (.iconst 0, 1) := by decide +kernel
theorem dX8_clean_74 : decode cX8_clean 74 = .ok (.iload_n 1, 1) := by decide +kernel
theorem dX8_clean_75 : decode cX8_clean 75 = .ok (.iconst 1, 1) := by decide +kernel
theorem dX8_clean_76 : decode cX8_clean 76 = .ok (.isub, 1) := by decide +kernel
theorem dX8_clean_77 : decode cX8_clean 77 = .ok (.invokestatic 243, 3) := by decide +kernel
theorem dX8_clean_80 : decode cX8_clean 80 = .ok (.invokestatic 260, 3) := by decide +kernel
theorem dX8_clean_83 : decode cX8_clean 83 = .ok (.lstore 8, 2) := by decide +kernel
theorem dX8_clean_85 : decode cX8_clean 85 = .ok (.lconst 0, 1) := by decide +kernel
theorem dX8_clean_86 : decode cX8_clean 86 = .ok (.lstore 6, 2) := by decide +kernel
theorem dX8_clean_88 : decode cX8_clean 88 = .ok (.iconst 0, 1) := by decide +kernel
theorem dX8_clean_89 : decode cX8_clean 89 = .ok (.istore 10, 2) := by decide +kernel
theorem dX8_clean_91 : decode cX8_clean 91 = .ok (.iload 10, 2) := by decide +kernel
theorem dX8_clean_93 : decode cX8_clean 93 = .ok (.iload_n 1, 1) := by decide +kernel
theorem dX8_clean_94 : decode cX8_clean 94 = .ok (.if_icmp .ge 34, 3) := by decide +kernel
theorem dX8_clean_97 : decode cX8_clean 97 = .ok (.lload 6, 2) := by decide +kernel
theorem dX8_clean_99 : decode cX8_clean 99 = .ok (.lload 4, 2) := by decide +kernel
theorem dX8_clean_101 : decode cX8_clean 101 = .ok (.iload 10, 2) := by decide +kernel
theorem dX8_clean_103 : decode cX8_clean 103 = .ok (.invokestatic 260, 3) := by decide +kernel
theorem dX8_clean_106 : decode cX8_clean 106 = .ok (.ldc2_w 258, 3) := by decide +kernel
theorem dX8_clean_109 : decode cX8_clean 109 = .ok (.iload_n 1, 1) := by decide +kernel
theorem dX8_clean_110 : decode cX8_clean 110 = .ok (.iconst 1, 1) := by decide +kernel
theorem dX8_clean_111 : decode cX8_clean 111 = .ok (.isub, 1) := by decide +kernel
theorem dX8_clean_112 : decode cX8_clean 112 = .ok (.iload 10, 2) := by decide +kernel
theorem dX8_clean_114 : decode cX8_clean 114 = .ok (.isub, 1) := by decide +kernel
theorem dX8_clean_115 : decode cX8_clean 115 = .ok (.invokestatic 260, 3) := by decide +kernel
theorem dX8_clean_118 : decode cX8_clean 118 = .ok (.lmul, 1) := by decide +kernel
theorem dX8_clean_119 : decode cX8_clean 119 = .ok (.ladd, 1) := by decide +kernel
theorem dX8_clean_120 : decode cX8_clean 120 = .ok (.lstore 6, 2) := by decide +kernel
theorem dX8_clean_122 : decode cX8_clean 122 = .ok (.iinc 10 1, 3) := by decide +kernel
theorem dX8_clean_125 : decode cX8_clean 125 = .ok (.goto (-34), 3) := by decide +kernel
theorem dX8_clean_128 : decode cX8_clean 128 = .ok (.lload 6, 2) := by decide +kernel
theorem dX8_clean_130 : decode cX8_clean 130 = .ok (.lload 8, 2) := by decide +kernel
theorem dX8_clean_132 : decode cX8_clean 132 = .ok (.invokestatic 264, 3) := by decide +kernel
theorem dX8_clean_135 : decode cX8_clean 135 = .ok (.lstore 10, 2) := by decide +kernel
theorem dX8_clean_137 : decode cX8_clean 137 = .ok (.lload 10, 2) := by decide +kernel
theorem dX8_clean_139 : decode cX8_clean 139 = .ok (.lconst 0, 1) := by decide +kernel
theorem dX8_clean_140 : decode cX8_clean 140 = .ok (.lcmp, 1) := by decide +kernel
theorem dX8_clean_141 : decode cX8_clean 141 = .ok (.ifCond .ne 7, 3) := by decide +kernel
theorem dX8_clean_144 : decode cX8_clean 144 = .ok (.ldc2_w 253, 3) := by decide +kernel
theorem dX8_clean_147 : decode cX8_clean 147 = .ok (.lreturn, 1) := by decide +kernel
theorem dX8_clean_148 : decode cX8_clean 148 = .ok (.iload_n 3, 1) := by decide +kernel
theorem dX8_clean_149 : decode cX8_clean 149 = .ok (.ifCond .ne 8, 3) := by decide +kernel
theorem dX8_clean_152 : decode cX8_clean 152 = .ok (.lload 6, 2) := by decide +kernel
theorem dX8_clean_154 : decode cX8_clean 154 = .ok (.goto 5, 3) := by decide +kernel
theorem dX8_clean_157 : decode cX8_clean 157 = .ok (.lload 8, 2) := by decide +kernel
theorem dX8_clean_159 : decode cX8_clean 159 = .ok (.lload 10, 2) := by decide +kernel
theorem dX8_clean_161 : decode cX8_clean 161 = .ok (.ldiv, 1) := by decide +kernel
theorem dX8_clean_162 : decode cX8_clean 162 = .ok (.lreturn, 1) := by decide +kernel
theorem dX8_power_0 : decode cX8_power 0 = .ok (.lconst 1, 1) := by decide +kernel
theorem dX8_power_1 : decode cX8_power 1 = .ok (.lstore_n 3, 1) := by decide +kernel
theorem dX8_power_2 : decode cX8_power 2 = .ok (.iconst 0, 1) := by decide +kernel
theorem dX8_power_3 : decode cX8_power 3 = .ok (.istore 5, 2) := by decide +kernel
theorem dX8_power_5 : decode cX8_power 5 = .ok (.iload 5, 2) := by decide +kernel
theorem dX8_power_7 : decode cX8_power 7 = .ok (.iload_n 2, 1) := by decide +kernel
theorem dX8_power_8 : decode cX8_power 8 = .ok (.if_icmp .ge 13, 3) := by decide +kernel
theorem dX8_power_11 : decode cX8_power 11 = .ok (.lload_n 3, 1) := by decide +kernel
theorem dX8_power_12 : decode cX8_power 12 = .ok (.lload_n 0, 1) := by decide +kernel
theorem dX8_power_13 : decode cX8_power 13 = .ok (.lmul, 1) := by decide +kernel
theorem dX8_power_14 : decode cX8_power 14 = .ok (.lstore_n 3, 1) := by decide +kernel
theorem dX8_power_15 : decode cX8_power 15 = .ok (.iinc 5 1, 3) := by decide +kernel
theorem dX8_power_18 : decode cX8_power 18 = .ok (.goto (-13), 3) := by decide +kernel
theorem dX8_power_21 : decode cX8_power 21 = .ok (.lload_n 3, 1) := by decide +kernel
theorem dX8_power_22 : decode cX8_power 22 = .ok (.lreturn, 1) := by decide +kernel
theorem dX8_greatestCommon_0 : decode cX8_greatestCommon 0 = .ok (.lload_n 0, 1) := by decide +kernel
theorem dX8_greatestCommon_1 : decode cX8_greatestCommon 1 = .ok (.lstore 4, 2) := by decide +kernel
theorem dX8_greatestCommon_3 : decode cX8_greatestCommon 3 = .ok (.lload_n 2, 1) := by decide +kernel
theorem dX8_greatestCommon_4 : decode cX8_greatestCommon 4 = .ok (.lstore 6, 2) := by decide +kernel
theorem dX8_greatestCommon_6 : decode cX8_greatestCommon 6 = .ok (.iconst 0, 1) := by decide +kernel
theorem dX8_greatestCommon_7 : decode cX8_greatestCommon 7 = .ok (.istore 8, 2) := by decide +kernel
theorem dX8_greatestCommon_9 : decode cX8_greatestCommon 9 = .ok (.iload 8, 2) := by decide +kernel
theorem dX8_greatestCommon_11 : decode cX8_greatestCommon 11 = .ok (.sipush 200, 3) := by decide +kernel
theorem dX8_greatestCommon_14 : decode cX8_greatestCommon 14 = .ok (.if_icmp .ge 31, 3) := by decide +kernel
theorem dX8_greatestCommon_17 : decode cX8_greatestCommon 17 = .ok (.lload 6, 2) := by decide +kernel
theorem dX8_greatestCommon_19 : decode cX8_greatestCommon 19 = .ok (.lconst 0, 1) := by decide +kernel
theorem dX8_greatestCommon_20 : decode cX8_greatestCommon 20 = .ok (.lcmp, 1) := by decide +kernel
theorem dX8_greatestCommon_21 : decode cX8_greatestCommon 21 = .ok (.ifCond .eq 24, 3) := by decide +kernel
theorem dX8_greatestCommon_24 : decode cX8_greatestCommon 24 = .ok (.lload 4, 2) := by decide +kernel
theorem dX8_greatestCommon_26 : decode cX8_greatestCommon 26 = .ok (.lload 6, 2) := by decide +kernel
theorem dX8_greatestCommon_28 : decode cX8_greatestCommon 28 = .ok (.lrem, 1) := by decide +kernel
theorem dX8_greatestCommon_29 : decode cX8_greatestCommon 29 = .ok (.lstore 9, 2) := by decide +kernel
theorem dX8_greatestCommon_31 : decode cX8_greatestCommon 31 = .ok (.lload 6, 2) := by decide +kernel
theorem dX8_greatestCommon_33 : decode cX8_greatestCommon 33 = .ok (.lstore 4, 2) := by decide +kernel
theorem dX8_greatestCommon_35 : decode cX8_greatestCommon 35 = .ok (.lload 9, 2) := by decide +kernel
theorem dX8_greatestCommon_37 : decode cX8_greatestCommon 37 = .ok (.lstore 6, 2) := by decide +kernel
theorem dX8_greatestCommon_39 : decode cX8_greatestCommon 39 = .ok (.iinc 8 1, 3) := by decide +kernel
theorem dX8_greatestCommon_42 : decode cX8_greatestCommon 42 = .ok (.goto (-33), 3) := by decide +kernel
theorem dX8_greatestCommon_45 : decode cX8_greatestCommon 45 = .ok (.lload 4, 2) := by decide +kernel
theorem dX8_greatestCommon_47 : decode cX8_greatestCommon 47 = .ok (.lreturn, 1) := by decide +kernel
theorem dX8_line_0 : decode cX8_line 0 = .ok (.iload_n 1, 1) := by decide +kernel
theorem dX8_line_1 : decode cX8_line 1 = .ok (.invokestatic 141, 3) := by decide +kernel
theorem dX8_line_4 : decode cX8_line 4 = .ok (.ifCond .eq 23, 3) := by decide +kernel
theorem dX8_line_7 : decode cX8_line 7 = .ok (.iload_n 2, 1) := by decide +kernel
theorem dX8_line_8 : decode cX8_line 8 = .ok (.iconst 2, 1) := by decide +kernel
theorem dX8_line_9 : decode cX8_line 9 = .ok (.invokestatic 188, 3) := by decide +kernel
theorem dX8_line_12 : decode cX8_line 12 = .ok (.ifCond .eq 15, 3) := by decide +kernel
theorem dX8_line_15 : decode cX8_line 15 = .ok (.aload_n 0, 1) := by decide +kernel
theorem dX8_line_16 : decode cX8_line 16 = .ok (.getfield 67, 3) := by decide +kernel
theorem dX8_line_19 : decode cX8_line 19 = .ok (.iload_n 1, 1) := by decide +kernel
theorem dX8_line_20 : decode cX8_line 20 = .ok (.aaload, 1) := by decide +kernel
theorem dX8_line_21 : decode cX8_line 21 = .ok (.invokevirtual 148, 3) := by decide +kernel
theorem dX8_line_24 : decode cX8_line 24 = .ok (.ifCond .ne 7, 3) := by decide +kernel
theorem dX8_line_27 : decode cX8_line 27 = .ok (.ldc2_w 253, 3) := by decide +kernel
theorem dX8_line_30 : decode cX8_line 30 = .ok (.lreturn, 1) := by decide +kernel
theorem dX8_line_31 : decode cX8_line 31 = .ok (.lconst 0, 1) := by decide +kernel
theorem dX8_line_32 : decode cX8_line 32 = .ok (.lstore_n 3, 1) := by decide +kernel
theorem dX8_line_33 : decode cX8_line 33 = .ok (.lconst 0, 1) := by decide +kernel
theorem dX8_line_34 : decode cX8_line 34 = .ok (.lstore 5, 2) := by decide +kernel
theorem dX8_line_36 : decode cX8_line 36 = .ok (.iconst 0, 1) := by decide +kernel
theorem dX8_line_37 : decode cX8_line 37 = .ok (.istore 7, 2) := by decide +kernel
theorem dX8_line_39 : decode cX8_line 39 = .ok (.iload 7, 2) := by decide +kernel
theorem dX8_line_41 : decode cX8_line 41 = .ok (.bipush 36, 2) := by decide +kernel
theorem dX8_line_43 : decode cX8_line 43 = .ok (.if_icmp .ge 43, 3) := by decide +kernel
theorem dX8_line_46 : decode cX8_line 46 = .ok (.aload_n 0, 1) := by decide +kernel
theorem dX8_line_47 : decode cX8_line 47 = .ok (.getfield 67, 3) := by decide +kernel
theorem dX8_line_50 : decode cX8_line 50 = .ok (.iload_n 1, 1) := by decide +kernel
theorem dX8_line_51 : decode cX8_line 51 = .ok (.aaload, 1) := by decide +kernel
theorem dX8_line_52 : decode cX8_line 52 = .ok (.iload 7, 2) := by decide +kernel
theorem dX8_line_54 : decode cX8_line 54 = .ok (.invokestatic 268, 3) := by decide +kernel
theorem dX8_line_57 : decode cX8_line 57 = .ok (.istore 8, 2) := by decide +kernel
theorem dX8_line_59 : decode cX8_line 59 = .ok (.iload 8, 2) := by decide +kernel
theorem dX8_line_61 : decode cX8_line 61 = .ok (.ifCond .lt 19, 3) := by decide +kernel
theorem dX8_line_64 : decode cX8_line 64 = .ok (.lload_n 3, 1) := by decide +kernel
theorem dX8_line_65 : decode cX8_line 65 = .ok (.lconst 1, 1) := by decide +kernel
theorem dX8_line_66 : decode cX8_line 66 = .ok (.iload 7, 2) := by decide +kernel
theorem dX8_line_68 : decode cX8_line 68 = .ok (.lshl, 1) := by decide +kernel
theorem dX8_line_69 : decode cX8_line 69 = .ok (.lor, 1) := by decide +kernel
theorem dX8_line_70 : decode cX8_line 70 = .ok (.lstore_n 3, 1) := by decide +kernel
theorem dX8_line_71 : decode cX8_line 71 = .ok (.lload 5, 2) := by decide +kernel
theorem dX8_line_73 : decode cX8_line 73 = .ok (.lconst 1, 1) := by decide +kernel
theorem dX8_line_74 : decode cX8_line 74 = .ok (.iload 8, 2) := by decide +kernel
theorem dX8_line_76 : decode cX8_line 76 = .ok (.lshl, 1) := by decide +kernel
theorem dX8_line_77 : decode cX8_line 77 = .ok (.lor, 1) := by decide +kernel
theorem dX8_line_78 : decode cX8_line 78 = .ok (.lstore 5, 2) := by decide +kernel
theorem dX8_line_80 : decode cX8_line 80 = .ok (.iinc 7 1, 3) := by decide +kernel
theorem dX8_line_83 : decode cX8_line 83 = .ok (.goto (-44), 3) := by decide +kernel
theorem dX8_line_86 : decode cX8_line 86 = .ok (.iload_n 2, 1) := by decide +kernel
theorem dX8_line_87 : decode cX8_line 87 = .ok (.ifCond .ne 7, 3) := by decide +kernel
theorem dX8_line_90 : decode cX8_line 90 = .ok (.lload_n 3, 1) := by decide +kernel
theorem dX8_line_91 : decode cX8_line 91 = .ok (.goto 5, 3) := by decide +kernel
theorem dX8_line_94 : decode cX8_line 94 = .ok (.lload 5, 2) := by decide +kernel
theorem dX8_line_96 : decode cX8_line 96 = .ok (.lreturn, 1) := by decide +kernel
theorem dX8_endOfLine_0 : decode cX8_endOfLine 0 = .ok (.iload_n 1, 1) := by decide +kernel
theorem dX8_endOfLine_1 : decode cX8_endOfLine 1 = .ok (.istore_n 2, 1) := by decide +kernel
theorem dX8_endOfLine_2 : decode cX8_endOfLine 2 = .ok (.iconst 0, 1) := by decide +kernel
theorem dX8_endOfLine_3 : decode cX8_endOfLine 3 = .ok (.istore_n 3, 1) := by decide +kernel
theorem dX8_endOfLine_4 : decode cX8_endOfLine 4 = .ok (.iload_n 3, 1) := by decide +kernel
theorem dX8_endOfLine_5 : decode cX8_endOfLine 5 = .ok (.aload_n 0, 1) := by decide +kernel
theorem dX8_endOfLine_6 : decode cX8_endOfLine 6 = .ok (.getfield 155, 3) := by decide +kernel
theorem dX8_endOfLine_9 : decode cX8_endOfLine 9 = .ok (.if_icmp .ge 24, 3) := by decide +kernel
theorem dX8_endOfLine_12 : decode cX8_endOfLine 12 = .ok (.iload_n 2, 1) := by decide +kernel
theorem dX8_endOfLine_13 : decode cX8_endOfLine 13 = .ok (.ifCond .lt 20, 3) := by decide +kernel
theorem dX8_endOfLine_16 : decode cX8_endOfLine 16 = .ok (.iload_n 2, 1) := by decide +kernel
theorem dX8_endOfLine_17 : decode cX8_endOfLine 17 = .ok (.aload_n 0, 1) := by decide +kernel
theorem dX8_endOfLine_18 : decode cX8_endOfLine 18 = .ok (.iload_n 3, 1) := by decide +kernel
theorem dX8_endOfLine_19 : decode cX8_endOfLine 19 = .ok (.invokevirtual 158, 3) := by decide +kernel
theorem dX8_endOfLine_22 : decode cX8_endOfLine 22 = .ok (.l2i, 1) := by decide +kernel
theorem dX8_endOfLine_23 : decode cX8_endOfLine 23 = .ok (.invokestatic 172, 3) := by decide +kernel
theorem dX8_endOfLine_26 : decode cX8_endOfLine 26 = .ok (.istore_n 2, 1) := by decide +kernel
theorem dX8_endOfLine_27 : decode cX8_endOfLine 27 = .ok (.iinc 3 1, 3) := by decide +kernel
theorem dX8_endOfLine_30 : decode cX8_endOfLine 30 = .ok (.goto (-26), 3) := by decide +kernel
theorem dX8_endOfLine_33 : decode cX8_endOfLine 33 = .ok (.iload_n 2, 1) := by decide +kernel
theorem dX8_endOfLine_34 : decode cX8_endOfLine 34 = .ok (.ireturn, 1) := by decide +kernel
theorem dX8_drawn_0 : decode cX8_drawn 0 = .ok (.iload_n 2, 1) := by decide +kernel
theorem dX8_drawn_1 : decode cX8_drawn 1 = .ok (.iconst 1, 1) := by decide +kernel
theorem dX8_drawn_2 : decode cX8_drawn 2 = .ok (.if_icmp .lt 17, 3) := by decide +kernel
theorem dX8_drawn_5 : decode cX8_drawn 5 = .ok (.iload_n 2, 1) := by decide +kernel
theorem dX8_drawn_6 : decode cX8_drawn 6 = .ok (.bipush 30, 2) := by decide +kernel
theorem dX8_drawn_8 : decode cX8_drawn 8 = .ok (.if_icmp .gt 11, 3) := by decide +kernel
theorem dX8_drawn_11 : decode cX8_drawn 11 = .ok (.iload_n 3, 1) := by decide +kernel
theorem dX8_drawn_12 : decode cX8_drawn 12 = .ok (.iconst 2, 1) := by decide +kernel
theorem dX8_drawn_13 : decode cX8_drawn 13 = .ok (.invokestatic 188, 3) := by decide +kernel
theorem dX8_drawn_16 : decode cX8_drawn 16 = .ok (.ifCond .ne 5, 3) := by decide +kernel
theorem dX8_drawn_19 : decode cX8_drawn 19 = .ok (.iconst (-1), 1) := by decide +kernel
theorem dX8_drawn_20 : decode cX8_drawn 20 = .ok (.ireturn, 1) := by decide +kernel
theorem dX8_drawn_21 : decode cX8_drawn 21 = .ok (.iload_n 1, 1) := by decide +kernel
theorem dX8_drawn_22 : decode cX8_drawn 22 = .ok (.istore 4, 2) := by decide +kernel
theorem dX8_drawn_24 : decode cX8_drawn 24 = .ok (.iconst 0, 1) := by decide +kernel
theorem dX8_drawn_25 : decode cX8_drawn 25 = .ok (.istore 5, 2) := by decide +kernel
theorem dX8_drawn_27 : decode cX8_drawn 27 = .ok (.iconst 0, 1) := by decide +kernel
theorem dX8_drawn_28 : decode cX8_drawn 28 = .ok (.istore 6, 2) := by decide +kernel
theorem dX8_drawn_30 : decode cX8_drawn 30 = .ok (.iconst 0, 1) := by decide +kernel
theorem dX8_drawn_31 : decode cX8_drawn 31 = .ok (.istore 7, 2) := by decide +kernel
theorem dX8_drawn_33 : decode cX8_drawn 33 = .ok (.iload 7, 2) := by decide +kernel
theorem dX8_drawn_35 : decode cX8_drawn 35 = .ok (.iload_n 2, 1) := by decide +kernel
theorem dX8_drawn_36 : decode cX8_drawn 36 = .ok (.if_icmp .ge 139, 3) := by decide +kernel
theorem dX8_drawn_39 : decode cX8_drawn 39 = .ok (.iconst 0, 1) := by decide +kernel
theorem dX8_drawn_40 : decode cX8_drawn 40 = .ok (.istore 8, 2) := by decide +kernel
theorem dX8_drawn_42 : decode cX8_drawn 42 = .ok (.aload_n 0, 1) := by decide +kernel
theorem dX8_drawn_43 : decode cX8_drawn 43 = .ok (.getfield 23, 3) := by decide +kernel
theorem dX8_drawn_46 : decode cX8_drawn 46 = .ok (.aload_n 0, 1) := by decide +kernel
theorem dX8_drawn_47 : decode cX8_drawn 47 = .ok (.getfield 19, 3) := by decide +kernel
theorem dX8_drawn_50 : decode cX8_drawn 50 = .ok (.invokevirtual 194, 3) := by decide +kernel
theorem dX8_drawn_53 : decode cX8_drawn 53 = .ok (.aload_n 0, 1) := by decide +kernel
theorem dX8_drawn_54 : decode cX8_drawn 54 = .ok (.getfield 119, 3) := by decide +kernel
theorem dX8_drawn_57 : decode cX8_drawn 57 = .ok (.istore 9, 2) := by decide +kernel
theorem dX8_drawn_59 : decode cX8_drawn 59 = .ok (.iload 9, 2) := by decide +kernel
theorem dX8_drawn_61 : decode cX8_drawn 61 = .ok (.bipush 60, 2) := by decide +kernel
theorem dX8_drawn_63 : decode cX8_drawn 63 = .ok (.if_icmp .ge 86, 3) := by decide +kernel
theorem dX8_drawn_66 : decode cX8_drawn 66 = .ok (.iload 4, 2) := by decide +kernel
theorem dX8_drawn_68 : decode cX8_drawn 68 = .ok (.ldc_w 271, 3) := by decide +kernel
theorem dX8_drawn_71 : decode cX8_drawn 71 = .ok (.imul, 1) := by decide +kernel
theorem dX8_drawn_72 : decode cX8_drawn 72 = .ok (.sipush 12345, 3) := by decide +kernel
theorem dX8_drawn_75 : decode cX8_drawn 75 = .ok (.iadd, 1) := by decide +kernel
theorem dX8_drawn_76 : decode cX8_drawn 76 = .ok (.istore 4, 2) := by decide +kernel
theorem dX8_drawn_78 : decode cX8_drawn 78 = .ok (.iload 4, 2) := by decide +kernel
theorem dX8_drawn_80 : decode cX8_drawn 80 = .ok (.bipush 8, 2) := by decide +kernel
theorem dX8_drawn_82 : decode cX8_drawn 82 = .ok (.iushr, 1) := by decide +kernel
theorem dX8_drawn_83 : decode cX8_drawn 83 = .ok (.bipush 12, 2) := by decide +kernel
theorem dX8_drawn_85 : decode cX8_drawn 85 = .ok (.irem, 1) := by decide +kernel
theorem dX8_drawn_86 : decode cX8_drawn 86 = .ok (.aload_n 0, 1) := by decide +kernel
theorem dX8_drawn_87 : decode cX8_drawn 87 = .ok (.getfield 10, 3) := by decide +kernel
theorem dX8_drawn_90 : decode cX8_drawn 90 = .ok (.invokevirtual 255, 3) := by decide +kernel
theorem dX8_drawn_93 : decode cX8_drawn 93 = .ok (.if_icmp .ge 8, 3) := by decide +kernel
theorem dX8_drawn_96 : decode cX8_drawn 96 = .ok (.bipush 9, 2) := by decide +kernel
theorem dX8_drawn_98 : decode cX8_drawn 98 = .ok (.goto 4, 3) := by decide +kernel
theorem dX8_drawn_101 : decode cX8_drawn 101 = .ok (.iconst 0, 1) := by decide +kernel
theorem dX8_drawn_102 : decode cX8_drawn 102 = .ok (.istore 10, 2) := by decide +kernel
theorem dX8_drawn_104 : decode cX8_drawn 104 = .ok (.aload_n 0, 1) := by decide +kernel
theorem dX8_drawn_105 : decode cX8_drawn 105 = .ok (.getfield 23, 3) := by decide +kernel
theorem dX8_drawn_108 : decode cX8_drawn 108 = .ok (.aload_n 0, 1) := by decide +kernel
theorem dX8_drawn_109 : decode cX8_drawn 109 = .ok (.getfield 10, 3) := by decide +kernel
theorem dX8_drawn_112 : decode cX8_drawn 112 = .ok (.iload 9, 2) := by decide +kernel
theorem dX8_drawn_114 : decode cX8_drawn 114 = .ok (.iconst 0, 1) := by decide +kernel
theorem dX8_drawn_115 : decode cX8_drawn 115 = .ok (.aload_n 0, 1) := by decide +kernel
theorem dX8_drawn_116 : decode cX8_drawn 116 = .ok (.getfield 10, 3) := by decide +kernel
theorem dX8_drawn_119 : decode cX8_drawn 119 = .ok (.iload 9, 2) := by decide +kernel
theorem dX8_drawn_121 : decode cX8_drawn 121 = .ok (.invokevirtual 240, 3) := by decide +kernel
theorem dX8_drawn_124 : decode cX8_drawn 124 = .ok (.iload 10, 2) := by decide +kernel
theorem dX8_drawn_126 : decode cX8_drawn 126 = .ok (.invokevirtual 249, 3) := by decide +kernel
theorem dX8_drawn_129 : decode cX8_drawn 129 = .ok (.pop, 1) := by decide +kernel
theorem dX8_drawn_130 : decode cX8_drawn 130 = .ok (.aload_n 0, 1) := by decide +kernel
theorem dX8_drawn_131 : decode cX8_drawn 131 = .ok (.getfield 23, 3) := by decide +kernel
theorem dX8_drawn_134 : decode cX8_drawn 134 = .ok (.getfield 125, 3) := by decide +kernel
theorem dX8_drawn_137 : decode cX8_drawn 137 = .ok (.ifCond .ne 6, 3) := by decide +kernel
theorem dX8_drawn_140 : decode cX8_drawn 140 = .ok (.iconst 1, 1) := by decide +kernel
theorem dX8_drawn_141 : decode cX8_drawn 141 = .ok (.istore 8, 2) := by decide +kernel
theorem dX8_drawn_143 : decode cX8_drawn 143 = .ok (.iinc 9 1, 3) := by decide +kernel
theorem dX8_drawn_146 : decode cX8_drawn 146 = .ok (.goto (-87), 3) := by decide +kernel
theorem dX8_drawn_149 : decode cX8_drawn 149 = .ok (.iload 8, 2) := by decide +kernel
theorem dX8_drawn_151 : decode cX8_drawn 151 = .ok (.ifCond .eq 6, 3) := by decide +kernel
theorem dX8_drawn_154 : decode cX8_drawn 154 = .ok (.iinc 5 1, 3) := by decide +kernel
theorem dX8_drawn_157 : decode cX8_drawn 157 = .ok (.iload 6, 2) := by decide +kernel
theorem dX8_drawn_159 : decode cX8_drawn 159 = .ok (.aload_n 0, 1) := by decide +kernel
theorem dX8_drawn_160 : decode cX8_drawn 160 = .ok (.getfield 23, 3) := by decide +kernel
theorem dX8_drawn_163 : decode cX8_drawn 163 = .ok (.getfield 125, 3) := by decide +kernel
theorem dX8_drawn_166 : decode cX8_drawn 166 = .ok (.iadd, 1) := by decide +kernel
theorem dX8_drawn_167 : decode cX8_drawn 167 = .ok (.istore 6, 2) := by decide +kernel
theorem dX8_drawn_169 : decode cX8_drawn 169 = .ok (.iinc 7 1, 3) := by decide +kernel
theorem dX8_drawn_172 : decode cX8_drawn 172 = .ok (.goto (-139), 3) := by decide +kernel
theorem dX8_drawn_175 : decode cX8_drawn 175 = .ok (.iload_n 3, 1) := by decide +kernel
theorem dX8_drawn_176 : decode cX8_drawn 176 = .ok (.ifCond .ne 8, 3) := by decide +kernel
theorem dX8_drawn_179 : decode cX8_drawn 179 = .ok (.iload 5, 2) := by decide +kernel
theorem dX8_drawn_181 : decode cX8_drawn 181 = .ok (.goto 5, 3) := by decide +kernel
theorem dX8_drawn_184 : decode cX8_drawn 184 = .ok (.iload 6, 2) := by decide +kernel
theorem dX8_drawn_186 : decode cX8_drawn 186 = .ok (.ireturn, 1) := by decide +kernel
theorem dX8_judge_0 : decode cX8_judge 0 = .ok (.iload_n 1, 1) := by decide +kernel
theorem dX8_judge_1 : decode cX8_judge 1 = .ok (.invokestatic 141, 3) := by decide +kernel
theorem dX8_judge_4 : decode cX8_judge 4 = .ok (.ifCond .ne 5, 3) := by decide +kernel
theorem dX8_judge_7 : decode cX8_judge 7 = .ok (.iconst (-1), 1) := by decide +kernel
theorem dX8_judge_8 : decode cX8_judge 8 = .ok (.ireturn, 1) := by decide +kernel
theorem dX8_judge_9 : decode cX8_judge 9 = .ok (.aload_n 0, 1) := by decide +kernel
theorem dX8_judge_10 : decode cX8_judge 10 = .ok (.iload_n 1, 1) := by decide +kernel
theorem dX8_judge_11 : decode cX8_judge 11 = .ok (.invokevirtual 191, 3) := by decide +kernel
theorem dX8_judge_14 : decode cX8_judge 14 = .ok (.istore_n 2, 1) := by decide +kernel
theorem dX8_judge_15 : decode cX8_judge 15 = .ok (.iload_n 2, 1) := by decide +kernel
theorem dX8_judge_16 : decode cX8_judge 16 = .ok (.ifCond .eq 5, 3) := by decide +kernel
theorem dX8_judge_19 : decode cX8_judge 19 = .ok (.iload_n 2, 1) := by decide +kernel
theorem dX8_judge_20 : decode cX8_judge 20 = .ok (.ireturn, 1) := by decide +kernel
theorem dX8_judge_21 : decode cX8_judge 21 = .ok (.aload_n 0, 1) := by decide +kernel
theorem dX8_judge_22 : decode cX8_judge 22 = .ok (.getfield 67, 3) := by decide +kernel
theorem dX8_judge_25 : decode cX8_judge 25 = .ok (.iload_n 1, 1) := by decide +kernel
theorem dX8_judge_26 : decode cX8_judge 26 = .ok (.aaload, 1) := by decide +kernel
theorem dX8_judge_27 : decode cX8_judge 27 = .ok (.getfield 155, 3) := by decide +kernel
theorem dX8_judge_30 : decode cX8_judge 30 = .ok (.bipush 60, 2) := by decide +kernel
theorem dX8_judge_32 : decode cX8_judge 32 = .ok (.aload_n 0, 1) := by decide +kernel
theorem dX8_judge_33 : decode cX8_judge 33 = .ok (.getfield 119, 3) := by decide +kernel
theorem dX8_judge_36 : decode cX8_judge 36 = .ok (.isub, 1) := by decide +kernel
theorem dX8_judge_37 : decode cX8_judge 37 = .ok (.invokestatic 204, 3) := by decide +kernel
theorem dX8_judge_40 : decode cX8_judge 40 = .ok (.istore_n 3, 1) := by decide +kernel
theorem dX8_judge_41 : decode cX8_judge 41 = .ok (.aload_n 0, 1) := by decide +kernel
theorem dX8_judge_42 : decode cX8_judge 42 = .ok (.getfield 23, 3) := by decide +kernel
theorem dX8_judge_45 : decode cX8_judge 45 = .ok (.aload_n 0, 1) := by decide +kernel
theorem dX8_judge_46 : decode cX8_judge 46 = .ok (.getfield 19, 3) := by decide +kernel
theorem dX8_judge_49 : decode cX8_judge 49 = .ok (.invokevirtual 194, 3) := by decide +kernel
theorem dX8_judge_52 : decode cX8_judge 52 = .ok (.iconst 0, 1) := by decide +kernel
theorem dX8_judge_53 : decode cX8_judge 53 = .ok (.istore 4, 2) := by decide +kernel
theorem dX8_judge_55 : decode cX8_judge 55 = .ok (.iload 4, 2) := by decide +kernel
theorem dX8_judge_57 : decode cX8_judge 57 = .ok (.iload_n 3, 1) := by decide +kernel
theorem dX8_judge_58 : decode cX8_judge 58 = .ok (.if_icmp .ge 55, 3) := by decide +kernel
theorem dX8_judge_61 : decode cX8_judge 61 = .ok (.aload_n 0, 1) := by decide +kernel
theorem dX8_judge_62 : decode cX8_judge 62 = .ok (.getfield 23, 3) := by decide +kernel
theorem dX8_judge_65 : decode cX8_judge 65 = .ok (.aload_n 0, 1) := by decide +kernel
theorem dX8_judge_66 : decode cX8_judge 66 = .ok (.getfield 10, 3) := by decide +kernel
theorem dX8_judge_69 : decode cX8_judge 69 = .ok (.aload_n 0, 1) := by decide +kernel
theorem dX8_judge_70 : decode cX8_judge 70 = .ok (.getfield 119, 3) := by decide +kernel
theorem dX8_judge_73 : decode cX8_judge 73 = .ok (.iload 4, 2) := by decide +kernel
theorem dX8_judge_75 : decode cX8_judge 75 = .ok (.iadd, 1) := by decide +kernel
theorem dX8_judge_76 : decode cX8_judge 76 = .ok (.iconst 0, 1) := by decide +kernel
theorem dX8_judge_77 : decode cX8_judge 77 = .ok (.invokevirtual 185, 3) := by decide +kernel
theorem dX8_judge_80 : decode cX8_judge 80 = .ok (.pop, 1) := by decide +kernel
theorem dX8_judge_81 : decode cX8_judge 81 = .ok (.aload_n 0, 1) := by decide +kernel
theorem dX8_judge_82 : decode cX8_judge 82 = .ok (.getfield 67, 3) := by decide +kernel
theorem dX8_judge_85 : decode cX8_judge 85 = .ok (.iload_n 1, 1) := by decide +kernel
theorem dX8_judge_86 : decode cX8_judge 86 = .ok (.aaload, 1) := by decide +kernel
theorem dX8_judge_87 : decode cX8_judge 87 = .ok (.iload 4, 2) := by decide +kernel
theorem dX8_judge_89 : decode cX8_judge 89 = .ok (.invokevirtual 158, 3) := by decide +kernel
theorem dX8_judge_92 : decode cX8_judge 92 = .ok (.aload_n 0, 1) := by decide +kernel
theorem dX8_judge_93 : decode cX8_judge 93 = .ok (.getfield 23, 3) := by decide +kernel
theorem dX8_judge_96 : decode cX8_judge 96 = .ok (.getfield 125, 3) := by decide +kernel
theorem dX8_judge_99 : decode cX8_judge 99 = .ok (.i2l, 1) := by decide +kernel
theorem dX8_judge_100 : decode cX8_judge 100 = .ok (.lcmp, 1) := by decide +kernel
theorem dX8_judge_101 : decode cX8_judge 101 = .ok (.ifCond .eq 6, 3) := by decide +kernel
theorem dX8_judge_104 : decode cX8_judge 104 = .ok (.iload 4, 2) := by decide +kernel
theorem dX8_judge_106 : decode cX8_judge 106 = .ok (.ireturn, 1) := by decide +kernel
theorem dX8_judge_107 : decode cX8_judge 107 = .ok (.iinc 4 1, 3) := by decide +kernel
theorem dX8_judge_110 : decode cX8_judge 110 = .ok (.goto (-55), 3) := by decide +kernel
theorem dX8_judge_113 : decode cX8_judge 113 = .ok (.bipush (-2), 2) := by decide +kernel
theorem dX8_judge_115 : decode cX8_judge 115 = .ok (.ireturn, 1) := by decide +kernel
theorem dX8_image_0 : decode cX8_image 0 = .ok (.aload_n 0, 1) := by decide +kernel
theorem dX8_image_1 : decode cX8_image 1 = .ok (.getfield 26, 3) := by decide +kernel
theorem dX8_image_4 : decode cX8_image 4 = .ok (.aload_n 0, 1) := by decide +kernel
theorem dX8_image_5 : decode cX8_image 5 = .ok (.getfield 19, 3) := by decide +kernel
theorem dX8_image_8 : decode cX8_image 8 = .ok (.invokevirtual 194, 3) := by decide +kernel
theorem dX8_image_11 : decode cX8_image 11 = .ok (.aload_n 0, 1) := by decide +kernel
theorem dX8_image_12 : decode cX8_image 12 = .ok (.aload_n 0, 1) := by decide +kernel
theorem dX8_image_13 : decode cX8_image 13 = .ok (.getfield 119, 3) := by decide +kernel
theorem dX8_image_16 : decode cX8_image 16 = .ok (.putfield 79, 3) := by decide +kernel
theorem dX8_image_19 : decode cX8_image 19 = .ok (.aload_n 0, 1) := by decide +kernel
theorem dX8_image_20 : decode cX8_image 20 = .ok (.getfield 119, 3) := by decide +kernel
theorem dX8_image_23 : decode cX8_image 23 = .ok (.ireturn, 1) := by decide +kernel
theorem dX8_back_0 : decode cX8_back 0 = .ok (.aload_n 0, 1) := by decide +kernel
theorem dX8_back_1 : decode cX8_back 1 = .ok (.getfield 79, 3) := by decide +kernel
theorem dX8_back_4 : decode cX8_back 4 = .ok (.ifCond .ge 6, 3) := by decide +kernel
theorem dX8_back_7 : decode cX8_back 7 = .ok (.bipush (-5), 2) := by decide +kernel
theorem dX8_back_9 : decode cX8_back 9 = .ok (.ireturn, 1) := by decide +kernel
theorem dX8_back_10 : decode cX8_back 10 = .ok (.aload_n 0, 1) := by decide +kernel
theorem dX8_back_11 : decode cX8_back 11 = .ok (.getfield 19, 3) := by decide +kernel
theorem dX8_back_14 : decode cX8_back 14 = .ok (.aload_n 0, 1) := by decide +kernel
theorem dX8_back_15 : decode cX8_back 15 = .ok (.getfield 26, 3) := by decide +kernel
theorem dX8_back_18 : decode cX8_back 18 = .ok (.invokevirtual 194, 3) := by decide +kernel
theorem dX8_back_21 : decode cX8_back 21 = .ok (.aload_n 0, 1) := by decide +kernel
theorem dX8_back_22 : decode cX8_back 22 = .ok (.aload_n 0, 1) := by decide +kernel
theorem dX8_back_23 : decode cX8_back 23 = .ok (.getfield 79, 3) := by decide +kernel
theorem dX8_back_26 : decode cX8_back 26 = .ok (.putfield 119, 3) := by decide +kernel
theorem dX8_back_29 : decode cX8_back 29 = .ok (.aload_n 0, 1) := by decide +kernel
theorem dX8_back_30 : decode cX8_back 30 = .ok (.getfield 119, 3) := by decide +kernel
theorem dX8_back_33 : decode cX8_back 33 = .ok (.ireturn, 1) := by decide +kernel
theorem dX8_undo_0 : decode cX8_undo 0 = .ok (.aload_n 0, 1) := by decide +kernel
theorem dX8_undo_1 : decode cX8_undo 1 = .ok (.getfield 61, 3) := by decide +kernel
theorem dX8_undo_4 : decode cX8_undo 4 = .ok (.aload_n 0, 1) := by decide +kernel
theorem dX8_undo_5 : decode cX8_undo 5 = .ok (.getfield 10, 3) := by decide +kernel
theorem dX8_undo_8 : decode cX8_undo 8 = .ok (.invokevirtual 272, 3) := by decide +kernel
theorem dX8_undo_11 : decode cX8_undo 11 = .ok (.ifCond .eq 13, 3) := by decide +kernel
theorem dX8_undo_14 : decode cX8_undo 14 = .ok (.aload_n 0, 1) := by decide +kernel
theorem dX8_undo_15 : decode cX8_undo 15 = .ok (.getfield 61, 3) := by decide +kernel
theorem dX8_undo_18 : decode cX8_undo 18 = .ok (.getfield 276, 3) := by decide +kernel
theorem dX8_undo_21 : decode cX8_undo 21 = .ok (.goto 5, 3) := by decide +kernel
theorem dX8_undo_24 : decode cX8_undo 24 = .ok (.bipush (-5), 2) := by decide +kernel
theorem dX8_undo_26 : decode cX8_undo 26 = .ok (.ireturn, 1) := by decide +kernel
theorem dX8_redo_0 : decode cX8_redo 0 = .ok (.aload_n 0, 1) := by decide +kernel
theorem dX8_redo_1 : decode cX8_redo 1 = .ok (.getfield 61, 3) := by decide +kernel
theorem dX8_redo_4 : decode cX8_redo 4 = .ok (.aload_n 0, 1) := by decide +kernel
theorem dX8_redo_5 : decode cX8_redo 5 = .ok (.getfield 10, 3) := by decide +kernel
theorem dX8_redo_8 : decode cX8_redo 8 = .ok (.invokevirtual 279, 3) := by decide +kernel
theorem dX8_redo_11 : decode cX8_redo 11 = .ok (.ifCond .eq 21, 3) := by decide +kernel
theorem dX8_redo_14 : decode cX8_redo 14 = .ok (.aload_n 0, 1) := by decide +kernel
theorem dX8_redo_15 : decode cX8_redo 15 = .ok (.getfield 61, 3) := by decide +kernel
theorem dX8_redo_18 : decode cX8_redo 18 = .ok (.getfield 282, 3) := by decide +kernel
theorem dX8_redo_21 : decode cX8_redo 21 = .ok (.aload_n 0, 1) := by decide +kernel
theorem dX8_redo_22 : decode cX8_redo 22 = .ok (.getfield 61, 3) := by decide +kernel
theorem dX8_redo_25 : decode cX8_redo 25 = .ok (.getfield 276, 3) := by decide +kernel
theorem dX8_redo_28 : decode cX8_redo 28 = .ok (.isub, 1) := by decide +kernel
theorem dX8_redo_29 : decode cX8_redo 29 = .ok (.goto 5, 3) := by decide +kernel
theorem dX8_redo_32 : decode cX8_redo 32 = .ok (.bipush (-5), 2) := by decide +kernel
theorem dX8_redo_34 : decode cX8_redo 34 = .ok (.ireturn, 1) := by decide +kernel
theorem dX8_body_0 : decode cX8_body 0 = .ok (.iload_n 1, 1) := by decide +kernel
theorem dX8_body_1 : decode cX8_body 1 = .ok (.invokestatic 285, 3) := by decide +kernel
theorem dX8_body_4 : decode cX8_body 4 = .ok (.ifCond .ne 5, 3) := by decide +kernel
theorem dX8_body_7 : decode cX8_body 7 = .ok (.iconst (-1), 1) := by decide +kernel
theorem dX8_body_8 : decode cX8_body 8 = .ok (.ireturn, 1) := by decide +kernel
theorem dX8_body_9 : decode cX8_body 9 = .ok (.aload_n 0, 1) := by decide +kernel
theorem dX8_body_10 : decode cX8_body 10 = .ok (.getfield 75, 3) := by decide +kernel
theorem dX8_body_13 : decode cX8_body 13 = .ok (.iload_n 1, 1) := by decide +kernel
theorem dX8_body_14 : decode cX8_body 14 = .ok (.invokevirtual 288, 3) := by decide +kernel
theorem dX8_body_17 : decode cX8_body 17 = .ok (.istore_n 2, 1) := by decide +kernel
theorem dX8_body_18 : decode cX8_body 18 = .ok (.iload_n 2, 1) := by decide +kernel
theorem dX8_body_19 : decode cX8_body 19 = .ok (.ifCond .ge 8, 3) := by decide +kernel
theorem dX8_body_22 : decode cX8_body 22 = .ok (.bipush (-3), 2) := by decide +kernel
theorem dX8_body_24 : decode cX8_body 24 = .ok (.goto 4, 3) := by decide +kernel
theorem dX8_body_27 : decode cX8_body 27 = .ok (.iload_n 2, 1) := by decide +kernel
theorem dX8_body_28 : decode cX8_body 28 = .ok (.ireturn, 1) := by decide +kernel
theorem dX8_act_0 : decode cX8_act 0 = .ok (.aload_n 0, 1) := by decide +kernel
theorem dX8_act_1 : decode cX8_act 1 = .ok (.getfield 75, 3) := by decide +kernel
theorem dX8_act_4 : decode cX8_act 4 = .ok (.iload_n 1, 1) := by decide +kernel
theorem dX8_act_5 : decode cX8_act 5 = .ok (.iload_n 2, 1) := by decide +kernel
theorem dX8_act_6 : decode cX8_act 6 = .ok (.iload_n 3, 1) := by decide +kernel
theorem dX8_act_7 : decode cX8_act 7 = .ok (.invokevirtual 291, 3) := by decide +kernel
theorem dX8_act_10 : decode cX8_act 10 = .ok (.ireturn, 1) := by decide +kernel
theorem dX8_trace_0 : decode cX8_trace 0 = .ok (.aload_n 0, 1) := by decide +kernel
theorem dX8_trace_1 : decode cX8_trace 1 = .ok (.getfield 75, 3) := by decide +kernel
theorem dX8_trace_4 : decode cX8_trace 4 = .ok (.iload_n 1, 1) := by decide +kernel
theorem dX8_trace_5 : decode cX8_trace 5 = .ok (.invokevirtual 295, 3) := by decide +kernel
theorem dX8_trace_8 : decode cX8_trace 8 = .ok (.istore_n 2, 1) := by decide +kernel
theorem dX8_trace_9 : decode cX8_trace 9 = .ok (.iload_n 2, 1) := by decide +kernel
theorem dX8_trace_10 : decode cX8_trace 10 = .ok (.ifCond .ge 7, 3) := by decide +kernel
theorem dX8_trace_13 : decode cX8_trace 13 = .ok (.iconst (-1), 1) := by decide +kernel
theorem dX8_trace_14 : decode cX8_trace 14 = .ok (.goto 4, 3) := by decide +kernel
theorem dX8_trace_17 : decode cX8_trace 17 = .ok (.iload_n 2, 1) := by decide +kernel
theorem dX8_trace_18 : decode cX8_trace 18 = .ok (.ireturn, 1) := by decide +kernel
theorem dX8_keep_0 : decode cX8_keep 0 = .ok (.iload_n 1, 1) := by decide +kernel
theorem dX8_keep_1 : decode cX8_keep 1 = .ok (.invokestatic 141, 3) := by decide +kernel
theorem dX8_keep_4 : decode cX8_keep 4 = .ok (.ifCond .eq 19, 3) := by decide +kernel
theorem dX8_keep_7 : decode cX8_keep 7 = .ok (.iload_n 2, 1) := by decide +kernel
theorem dX8_keep_8 : decode cX8_keep 8 = .ok (.iconst (-1), 1) := by decide +kernel
theorem dX8_keep_9 : decode cX8_keep 9 = .ok (.if_icmp .eq 16, 3) := by decide +kernel
theorem dX8_keep_12 : decode cX8_keep 12 = .ok (.aload_n 0, 1) := by decide +kernel
theorem dX8_keep_13 : decode cX8_keep 13 = .ok (.getfield 75, 3) := by decide +kernel
theorem dX8_keep_16 : decode cX8_keep 16 = .ok (.iload_n 2, 1) := by decide +kernel
theorem dX8_keep_17 : decode cX8_keep 17 = .ok (.invokevirtual 298, 3) := by decide +kernel
theorem dX8_keep_20 : decode cX8_keep 20 = .ok (.ifCond .ne 5, 3) := by decide +kernel
theorem dX8_keep_23 : decode cX8_keep 23 = .ok (.iconst (-1), 1) := by decide +kernel
theorem dX8_keep_24 : decode cX8_keep 24 = .ok (.ireturn, 1) := by decide +kernel
theorem dX8_keep_25 : decode cX8_keep 25 = .ok (.iload_n 2, 1) := by decide +kernel
theorem dX8_keep_26 : decode cX8_keep 26 = .ok (.iconst (-1), 1) := by decide +kernel
theorem dX8_keep_27 : decode cX8_keep 27 = .ok (.if_icmp .ne 15, 3) := by decide +kernel
theorem dX8_keep_30 : decode cX8_keep 30 = .ok (.aload_n 0, 1) := by decide +kernel
theorem dX8_keep_31 : decode cX8_keep 31 = .ok (.getfield 67, 3) := by decide +kernel
theorem dX8_keep_34 : decode cX8_keep 34 = .ok (.iload_n 1, 1) := by decide +kernel
theorem dX8_keep_35 : decode cX8_keep 35 = .ok (.aaload, 1) := by decide +kernel
theorem dX8_keep_36 : decode cX8_keep 36 = .ok (.invokevirtual 301, 3) := by decide +kernel
theorem dX8_keep_39 : decode cX8_keep 39 = .ok (.goto 13, 3) := by decide +kernel
theorem dX8_keep_42 : decode cX8_keep 42 = .ok (.aload_n 0, 1) := by decide +kernel
theorem dX8_keep_43 : decode cX8_keep 43 = .ok (.getfield 67, 3) := by decide +kernel
theorem dX8_keep_46 : decode cX8_keep 46 = .ok (.iload_n 1, 1) := by decide +kernel
theorem dX8_keep_47 : decode cX8_keep 47 = .ok (.aaload, 1) := by decide +kernel
theorem dX8_keep_48 : decode cX8_keep 48 = .ok (.iload_n 2, 1) := by decide +kernel
theorem dX8_keep_49 : decode cX8_keep 49 = .ok (.invokevirtual 304, 3) := by decide +kernel
theorem dX8_keep_52 : decode cX8_keep 52 = .ok (.iconst 1, 1) := by decide +kernel
theorem dX8_keep_53 : decode cX8_keep 53 = .ok (.ireturn, 1) := by decide +kernel
theorem dX8_row_0 : decode cX8_row 0 = .ok (.iload_n 1, 1) := by decide +kernel
theorem dX8_row_1 : decode cX8_row 1 = .ok (.invokestatic 141, 3) := by decide +kernel
theorem dX8_row_4 : decode cX8_row 4 = .ok (.ifCond .eq 17, 3) := by decide +kernel
theorem dX8_row_7 : decode cX8_row 7 = .ok (.iload_n 2, 1) := by decide +kernel
theorem dX8_row_8 : decode cX8_row 8 = .ok (.iconst 5, 1) := by decide +kernel
theorem dX8_row_9 : decode cX8_row 9 = .ok (.invokestatic 188, 3) := by decide +kernel
theorem dX8_row_12 : decode cX8_row 12 = .ok (.ifCond .eq 9, 3) := by decide +kernel
theorem dX8_row_15 : decode cX8_row 15 = .ok (.iload_n 3, 1) := by decide +kernel
theorem dX8_row_16 : decode cX8_row 16 = .ok (.bipush 60, 2) := by decide +kernel
theorem dX8_row_18 : decode cX8_row 18 = .ok (.if_icmp .le 5, 3) := by decide +kernel
theorem dX8_row_21 : decode cX8_row 21 = .ok (.iconst (-1), 1) := by decide +kernel
theorem dX8_row_22 : decode cX8_row 22 = .ok (.ireturn, 1) := by decide +kernel
theorem dX8_row_23 : decode cX8_row 23 = .ok (.iload_n 3, 1) := by decide +kernel
theorem dX8_row_24 : decode cX8_row 24 = .ok (.ifCond .ge 6, 3) := by decide +kernel
theorem dX8_row_27 : decode cX8_row 27 = .ok (.bipush (-14), 2) := by decide +kernel
theorem dX8_row_29 : decode cX8_row 29 = .ok (.ireturn, 1) := by decide +kernel
theorem dX8_row_30 : decode cX8_row 30 = .ok (.aload_n 0, 1) := by decide +kernel
theorem dX8_row_31 : decode cX8_row 31 = .ok (.getfield 67, 3) := by decide +kernel
theorem dX8_row_34 : decode cX8_row 34 = .ok (.iload_n 1, 1) := by decide +kernel
theorem dX8_row_35 : decode cX8_row 35 = .ok (.aaload, 1) := by decide +kernel
theorem dX8_row_36 : decode cX8_row 36 = .ok (.iload_n 2, 1) := by decide +kernel
theorem dX8_row_37 : decode cX8_row 37 = .ok (.iload_n 3, 1) := by decide +kernel
theorem dX8_row_38 : decode cX8_row 38 = .ok (.invokevirtual 308, 3) := by decide +kernel
theorem dX8_row_41 : decode cX8_row 41 = .ok (.iconst 1, 1) := by decide +kernel
theorem dX8_row_42 : decode cX8_row 42 = .ok (.ireturn, 1) := by decide +kernel
theorem dX8_put_0 : decode cX8_put 0 = .ok (.iload_n 1, 1) := by decide +kernel
theorem dX8_put_1 : decode cX8_put 1 = .ok (.invokestatic 141, 3) := by decide +kernel
theorem dX8_put_4 : decode cX8_put 4 = .ok (.ifCond .ne 5, 3) := by decide +kernel
theorem dX8_put_7 : decode cX8_put 7 = .ok (.iconst (-1), 1) := by decide +kernel
theorem dX8_put_8 : decode cX8_put 8 = .ok (.ireturn, 1) := by decide +kernel
theorem dX8_put_9 : decode cX8_put 9 = .ok (.aload_n 0, 1) := by decide +kernel
theorem dX8_put_10 : decode cX8_put 10 = .ok (.getfield 67, 3) := by decide +kernel
theorem dX8_put_13 : decode cX8_put 13 = .ok (.iload_n 1, 1) := by decide +kernel
theorem dX8_put_14 : decode cX8_put 14 = .ok (.aaload, 1) := by decide +kernel
theorem dX8_put_15 : decode cX8_put 15 = .ok (.iload_n 2, 1) := by decide +kernel
theorem dX8_put_16 : decode cX8_put 16 = .ok (.invokestatic 311, 3) := by decide +kernel
theorem dX8_put_19 : decode cX8_put 19 = .ok (.istore 5, 2) := by decide +kernel
theorem dX8_put_21 : decode cX8_put 21 = .ok (.iload 5, 2) := by decide +kernel
theorem dX8_put_23 : decode cX8_put 23 = .ok (.ifCond .eq 6, 3) := by decide +kernel
theorem dX8_put_26 : decode cX8_put 26 = .ok (.iload 5, 2) := by decide +kernel
theorem dX8_put_28 : decode cX8_put 28 = .ok (.ireturn, 1) := by decide +kernel
theorem dX8_put_29 : decode cX8_put 29 = .ok (.aload_n 0, 1) := by decide +kernel
theorem dX8_put_30 : decode cX8_put 30 = .ok (.getfield 67, 3) := by decide +kernel
theorem dX8_put_33 : decode cX8_put 33 = .ok (.iload_n 1, 1) := by decide +kernel
theorem dX8_put_34 : decode cX8_put 34 = .ok (.aaload, 1) := by decide +kernel
theorem dX8_put_35 : decode cX8_put 35 = .ok (.iload_n 2, 1) := by decide +kernel
theorem dX8_put_36 : decode cX8_put 36 = .ok (.lload_n 3, 1) := by decide +kernel
theorem dX8_put_37 : decode cX8_put 37 = .ok (.invokevirtual 314, 3) := by decide +kernel
theorem dX8_put_40 : decode cX8_put 40 = .ok (.iconst 1, 1) := by decide +kernel
theorem dX8_put_41 : decode cX8_put 41 = .ok (.ireturn, 1) := by decide +kernel
theorem dX8_element_0 : decode cX8_element 0 = .ok (.iload_n 1, 1) := by decide +kernel
theorem dX8_element_1 : decode cX8_element 1 = .ok (.invokestatic 141, 3) := by decide +kernel
theorem dX8_element_4 : decode cX8_element 4 = .ok (.ifCond .eq 16, 3) := by decide +kernel
theorem dX8_element_7 : decode cX8_element 7 = .ok (.aload_n 0, 1) := by decide +kernel
theorem dX8_element_8 : decode cX8_element 8 = .ok (.getfield 67, 3) := by decide +kernel
theorem dX8_element_11 : decode cX8_element 11 = .ok (.iload_n 1, 1) := by decide +kernel
theorem dX8_element_12 : decode cX8_element 12 = .ok (.aaload, 1) := by decide +kernel
theorem dX8_element_13 : decode cX8_element 13 = .ok (.iload_n 2, 1) := by decide +kernel
theorem dX8_element_14 : decode cX8_element 14 = .ok (.invokestatic 311, 3) := by decide +kernel
theorem dX8_element_17 : decode cX8_element 17 = .ok (.ifCond .eq 7, 3) := by decide +kernel
theorem dX8_element_20 : decode cX8_element 20 = .ok (.ldc2_w 253, 3) := by decide +kernel
theorem dX8_element_23 : decode cX8_element 23 = .ok (.lreturn, 1) := by decide +kernel
theorem dX8_element_24 : decode cX8_element 24 = .ok (.aload_n 0, 1) := by decide +kernel
theorem dX8_element_25 : decode cX8_element 25 = .ok (.getfield 67, 3) := by decide +kernel
theorem dX8_element_28 : decode cX8_element 28 = .ok (.iload_n 1, 1) := by decide +kernel
theorem dX8_element_29 : decode cX8_element 29 = .ok (.aaload, 1) := by decide +kernel
theorem dX8_element_30 : decode cX8_element 30 = .ok (.iload_n 2, 1) := by decide +kernel
theorem dX8_element_31 : decode cX8_element 31 = .ok (.invokevirtual 158, 3) := by decide +kernel
theorem dX8_element_34 : decode cX8_element 34 = .ok (.lreturn, 1) := by decide +kernel
theorem dX8_refusedPlace_0 : decode cX8_refusedPlace 0 = .ok (.aload_n 0, 1) := by decide +kernel
theorem dX8_refusedPlace_1 : decode cX8_refusedPlace 1 = .ok (.invokevirtual 144, 3) := by decide +kernel
theorem dX8_refusedPlace_4 : decode cX8_refusedPlace 4 = .ok (.ifCond .eq 6, 3) := by decide +kernel
theorem dX8_refusedPlace_7 : decode cX8_refusedPlace 7 = .ok (.bipush (-11), 2) := by decide +kernel
theorem dX8_refusedPlace_9 : decode cX8_refusedPlace 9 = .ok (.ireturn, 1) := by decide +kernel
theorem dX8_refusedPlace_10 : decode cX8_refusedPlace 10 = .ok (.aload_n 0, 1) := by decide +kernel
theorem dX8_refusedPlace_11 : decode cX8_refusedPlace 11 = .ok (.invokevirtual 318, 3) := by decide +kernel
theorem dX8_refusedPlace_14 : decode cX8_refusedPlace 14 = .ok (.ifCond .ne 6, 3) := by decide +kernel
theorem dX8_refusedPlace_17 : decode cX8_refusedPlace 17 = .ok (.bipush (-12), 2) := by decide +kernel
theorem dX8_refusedPlace_19 : decode cX8_refusedPlace 19 = .ok (.ireturn, 1) := by decide +kernel
theorem dX8_refusedPlace_20 : decode cX8_refusedPlace 20 = .ok (.aload_n 0, 1) := by decide +kernel
theorem dX8_refusedPlace_21 : decode cX8_refusedPlace 21 = .ok (.iload_n 1, 1) := by decide +kernel
theorem dX8_refusedPlace_22 : decode cX8_refusedPlace 22 = .ok (.iconst 1, 1) := by decide +kernel
theorem dX8_refusedPlace_23 : decode cX8_refusedPlace 23 = .ok (.invokevirtual 321, 3) := by decide +kernel
theorem dX8_refusedPlace_26 : decode cX8_refusedPlace 26 = .ok (.ifCond .eq 7, 3) := by decide +kernel
theorem dX8_refusedPlace_29 : decode cX8_refusedPlace 29 = .ok (.iconst 0, 1) := by decide +kernel
theorem dX8_refusedPlace_30 : decode cX8_refusedPlace 30 = .ok (.goto 5, 3) := by decide +kernel
theorem dX8_refusedPlace_33 : decode cX8_refusedPlace 33 = .ok (.bipush (-13), 2) := by decide +kernel
theorem dX8_refusedPlace_35 : decode cX8_refusedPlace 35 = .ok (.ireturn, 1) := by decide +kernel
theorem dX8_shift_0 : decode cX8_shift 0 = .ok (.iload_n 1, 1) := by decide +kernel
theorem dX8_shift_1 : decode cX8_shift 1 = .ok (.invokestatic 141, 3) := by decide +kernel
theorem dX8_shift_4 : decode cX8_shift 4 = .ok (.ifCond .eq 10, 3) := by decide +kernel
theorem dX8_shift_7 : decode cX8_shift 7 = .ok (.iload_n 3, 1) := by decide +kernel
theorem dX8_shift_8 : decode cX8_shift 8 = .ok (.invokestatic 141, 3) := by decide +kernel
theorem dX8_shift_11 : decode cX8_shift 11 = .ok (.ifCond .ne 5, 3) := by decide +kernel
theorem dX8_shift_14 : decode cX8_shift 14 = .ok (.iconst (-1), 1) := by decide +kernel
theorem dX8_shift_15 : decode cX8_shift 15 = .ok (.ireturn, 1) := by decide +kernel
theorem dX8_shift_16 : decode cX8_shift 16 = .ok (.aload_n 0, 1) := by decide +kernel
theorem dX8_shift_17 : decode cX8_shift 17 = .ok (.getfield 67, 3) := by decide +kernel
theorem dX8_shift_20 : decode cX8_shift 20 = .ok (.iload_n 1, 1) := by decide +kernel
theorem dX8_shift_21 : decode cX8_shift 21 = .ok (.aaload, 1) := by decide +kernel
theorem dX8_shift_22 : decode cX8_shift 22 = .ok (.astore 6, 2) := by decide +kernel
theorem dX8_shift_24 : decode cX8_shift 24 = .ok (.aload_n 0, 1) := by decide +kernel
theorem dX8_shift_25 : decode cX8_shift 25 = .ok (.getfield 67, 3) := by decide +kernel
theorem dX8_shift_28 : decode cX8_shift 28 = .ok (.iload_n 3, 1) := by decide +kernel
theorem dX8_shift_29 : decode cX8_shift 29 = .ok (.aaload, 1) := by decide +kernel
theorem dX8_shift_30 : decode cX8_shift 30 = .ok (.astore 7, 2) := by decide +kernel
theorem dX8_shift_32 : decode cX8_shift 32 = .ok (.aload 6, 2) := by decide +kernel
theorem dX8_shift_34 : decode cX8_shift 34 = .ok (.invokevirtual 144, 3) := by decide +kernel
theorem dX8_shift_37 : decode cX8_shift 37 = .ok (.ifCond .ne 11, 3) := by decide +kernel
theorem dX8_shift_40 : decode cX8_shift 40 = .ok (.aload 7, 2) := by decide +kernel
theorem dX8_shift_42 : decode cX8_shift 42 = .ok (.invokevirtual 144, 3) := by decide +kernel
theorem dX8_shift_45 : decode cX8_shift 45 = .ok (.ifCond .eq 6, 3) := by decide +kernel
theorem dX8_shift_48 : decode cX8_shift 48 = .ok (.bipush (-11), 2) := by decide +kernel
theorem dX8_shift_50 : decode cX8_shift 50 = .ok (.ireturn, 1) := by decide +kernel
theorem dX8_shift_51 : decode cX8_shift 51 = .ok (.aload 6, 2) := by decide +kernel
theorem dX8_shift_53 : decode cX8_shift 53 = .ok (.invokevirtual 318, 3) := by decide +kernel
theorem dX8_shift_56 : decode cX8_shift 56 = .ok (.ifCond .eq 24, 3) := by decide +kernel
theorem dX8_shift_59 : decode cX8_shift 59 = .ok (.aload 7, 2) := by decide +kernel
theorem dX8_shift_61 : decode cX8_shift 61 = .ok (.invokevirtual 318, 3) := by decide +kernel
theorem dX8_shift_64 : decode cX8_shift 64 = .ok (.ifCond .eq 16, 3) := by decide +kernel
theorem dX8_shift_67 : decode cX8_shift 67 = .ok (.aload 6, 2) := by decide +kernel
theorem dX8_shift_69 : decode cX8_shift 69 = .ok (.getfield 324, 3) := by decide +kernel
theorem dX8_shift_72 : decode cX8_shift 72 = .ok (.aload 7, 2) := by decide +kernel
theorem dX8_shift_74 : decode cX8_shift 74 = .ok (.getfield 324, 3) := by decide +kernel
theorem dX8_shift_77 : decode cX8_shift 77 = .ok (.if_icmp .eq 6, 3) := by decide +kernel
theorem dX8_shift_80 : decode cX8_shift 80 = .ok (.bipush (-12), 2) := by decide +kernel
theorem dX8_shift_82 : decode cX8_shift 82 = .ok (.ireturn, 1) := by decide +kernel
theorem dX8_shift_83 : decode cX8_shift 83 = .ok (.aload 6, 2) := by decide +kernel
theorem dX8_shift_85 : decode cX8_shift 85 = .ok (.iload_n 2, 1) := by decide +kernel
theorem dX8_shift_86 : decode cX8_shift 86 = .ok (.iload 5, 2) := by decide +kernel
theorem dX8_shift_88 : decode cX8_shift 88 = .ok (.invokevirtual 321, 3) := by decide +kernel
theorem dX8_shift_91 : decode cX8_shift 91 = .ok (.ifCond .eq 15, 3) := by decide +kernel
theorem dX8_shift_94 : decode cX8_shift 94 = .ok (.aload 7, 2) := by decide +kernel
theorem dX8_shift_96 : decode cX8_shift 96 = .ok (.iload 4, 2) := by decide +kernel
theorem dX8_shift_98 : decode cX8_shift 98 = .ok (.iload 5, 2) := by decide +kernel
theorem dX8_shift_100 : decode cX8_shift 100 = .ok (.invokevirtual 321, 3) := by decide +kernel
theorem dX8_shift_103 : decode cX8_shift 103 = .ok (.ifCond .ne 6, 3) := by decide +kernel
theorem dX8_shift_106 : decode cX8_shift 106 = .ok (.bipush (-13), 2) := by decide +kernel
theorem dX8_shift_108 : decode cX8_shift 108 = .ok (.ireturn, 1) := by decide +kernel
theorem dX8_shift_109 : decode cX8_shift 109 = .ok (.aload 6, 2) := by decide +kernel
theorem dX8_shift_111 : decode cX8_shift 111 = .ok (.getfield 327, 3) := by decide +kernel
theorem dX8_shift_114 : decode cX8_shift 114 = .ok (.iload_n 2, 1) := by decide +kernel
theorem dX8_shift_115 : decode cX8_shift 115 = .ok (.aload 7, 2) := by decide +kernel
theorem dX8_shift_117 : decode cX8_shift 117 = .ok (.getfield 327, 3) := by decide +kernel
theorem dX8_shift_120 : decode cX8_shift 120 = .ok (.iload 4, 2) := by decide +kernel
theorem dX8_shift_122 : decode cX8_shift 122 = .ok (.iload 5, 2) := by decide +kernel
theorem dX8_shift_124 : decode cX8_shift 124 = .ok (.invokestatic 331, 3) := by decide +kernel
theorem dX8_shift_127 : decode cX8_shift 127 = .ok (.iload 5, 2) := by decide +kernel
theorem dX8_shift_129 : decode cX8_shift 129 = .ok (.ireturn, 1) := by decide +kernel
theorem dX8_taken_0 : decode cX8_taken 0 = .ok (.iload_n 1, 1) := by decide +kernel
theorem dX8_taken_1 : decode cX8_taken 1 = .ok (.invokestatic 141, 3) := by decide +kernel
theorem dX8_taken_4 : decode cX8_taken 4 = .ok (.ifCond .eq 10, 3) := by decide +kernel
theorem dX8_taken_7 : decode cX8_taken 7 = .ok (.iload_n 2, 1) := by decide +kernel
theorem dX8_taken_8 : decode cX8_taken 8 = .ok (.invokestatic 285, 3) := by decide +kernel
theorem dX8_taken_11 : decode cX8_taken 11 = .ok (.ifCond .ne 5, 3) := by decide +kernel
theorem dX8_taken_14 : decode cX8_taken 14 = .ok (.iconst (-1), 1) := by decide +kernel
theorem dX8_taken_15 : decode cX8_taken 15 = .ok (.ireturn, 1) := by decide +kernel
theorem dX8_taken_16 : decode cX8_taken 16 = .ok (.aload_n 0, 1) := by decide +kernel
theorem dX8_taken_17 : decode cX8_taken 17 = .ok (.getfield 67, 3) := by decide +kernel
theorem dX8_taken_20 : decode cX8_taken 20 = .ok (.iload_n 1, 1) := by decide +kernel
theorem dX8_taken_21 : decode cX8_taken 21 = .ok (.aaload, 1) := by decide +kernel
theorem dX8_taken_22 : decode cX8_taken 22 = .ok (.invokevirtual 144, 3) := by decide +kernel
theorem dX8_taken_25 : decode cX8_taken 25 = .ok (.ifCond .eq 6, 3) := by decide +kernel
theorem dX8_taken_28 : decode cX8_taken 28 = .ok (.bipush (-11), 2) := by decide +kernel
theorem dX8_taken_30 : decode cX8_taken 30 = .ok (.ireturn, 1) := by decide +kernel
theorem dX8_taken_31 : decode cX8_taken 31 = .ok (.aload_n 0, 1) := by decide +kernel
theorem dX8_taken_32 : decode cX8_taken 32 = .ok (.getfield 67, 3) := by decide +kernel
theorem dX8_taken_35 : decode cX8_taken 35 = .ok (.iload_n 1, 1) := by decide +kernel
theorem dX8_taken_36 : decode cX8_taken 36 = .ok (.aaload, 1) := by decide +kernel
theorem dX8_taken_37 : decode cX8_taken 37 = .ok (.invokevirtual 318, 3) := by decide +kernel
theorem dX8_taken_40 : decode cX8_taken 40 = .ok (.ifCond .eq 6, 3) := by decide +kernel
theorem dX8_taken_43 : decode cX8_taken 43 = .ok (.bipush (-12), 2) := by decide +kernel
theorem dX8_taken_45 : decode cX8_taken 45 = .ok (.ireturn, 1) := by decide +kernel
theorem dX8_taken_46 : decode cX8_taken 46 = .ok (.aload_n 0, 1) := by decide +kernel
theorem dX8_taken_47 : decode cX8_taken 47 = .ok (.getfield 75, 3) := by decide +kernel
theorem dX8_taken_50 : decode cX8_taken 50 = .ok (.aload_n 0, 1) := by decide +kernel
theorem dX8_taken_51 : decode cX8_taken 51 = .ok (.getfield 67, 3) := by decide +kernel
theorem dX8_taken_54 : decode cX8_taken 54 = .ok (.iload_n 1, 1) := by decide +kernel
theorem dX8_taken_55 : decode cX8_taken 55 = .ok (.aaload, 1) := by decide +kernel
theorem dX8_taken_56 : decode cX8_taken 56 = .ok (.getfield 337, 3) := by decide +kernel
theorem dX8_taken_59 : decode cX8_taken 59 = .ok (.invokevirtual 340, 3) := by decide +kernel
theorem dX8_taken_62 : decode cX8_taken 62 = .ok (.istore_n 3, 1) := by decide +kernel
theorem dX8_taken_63 : decode cX8_taken 63 = .ok (.iload_n 3, 1) := by decide +kernel
theorem dX8_taken_64 : decode cX8_taken 64 = .ok (.iload_n 2, 1) := by decide +kernel
theorem dX8_taken_65 : decode cX8_taken 65 = .ok (.invokestatic 343, 3) := by decide +kernel
theorem dX8_taken_68 : decode cX8_taken 68 = .ok (.ifCond .eq 7, 3) := by decide +kernel
theorem dX8_taken_71 : decode cX8_taken 71 = .ok (.iload_n 3, 1) := by decide +kernel
theorem dX8_taken_72 : decode cX8_taken 72 = .ok (.goto 5, 3) := by decide +kernel
theorem dX8_taken_75 : decode cX8_taken 75 = .ok (.bipush (-12), 2) := by decide +kernel
theorem dX8_taken_77 : decode cX8_taken 77 = .ok (.ireturn, 1) := by decide +kernel
theorem dX8_count_0 : decode cX8_count 0 = .ok (.iload_n 1, 1) := by decide +kernel
theorem dX8_count_1 : decode cX8_count 1 = .ok (.tableswitch 87 0 5 #[39, 47, 55, 63, 71, 79], 39) := by decide +kernel
theorem dX8_count_40 : decode cX8_count 40 = .ok (.aload_n 0, 1) := by decide +kernel
theorem dX8_count_41 : decode cX8_count 41 = .ok (.getfield 10, 3) := by decide +kernel
theorem dX8_count_44 : decode cX8_count 44 = .ok (.invokevirtual 346, 3) := by decide +kernel
theorem dX8_count_47 : decode cX8_count 47 = .ok (.ireturn, 1) := by decide +kernel
theorem dX8_count_48 : decode cX8_count 48 = .ok (.aload_n 0, 1) := by decide +kernel
theorem dX8_count_49 : decode cX8_count 49 = .ok (.getfield 10, 3) := by decide +kernel
theorem dX8_count_52 : decode cX8_count 52 = .ok (.invokevirtual 349, 3) := by decide +kernel
theorem dX8_count_55 : decode cX8_count 55 = .ok (.ireturn, 1) := by decide +kernel
theorem dX8_count_56 : decode cX8_count 56 = .ok (.aload_n 0, 1) := by decide +kernel
theorem dX8_count_57 : decode cX8_count 57 = .ok (.getfield 40, 3) := by decide +kernel
theorem dX8_count_60 : decode cX8_count 60 = .ok (.getfield 165, 3) := by decide +kernel
theorem dX8_count_63 : decode cX8_count 63 = .ok (.ireturn, 1) := by decide +kernel
theorem dX8_count_64 : decode cX8_count 64 = .ok (.aload_n 0, 1) := by decide +kernel
theorem dX8_count_65 : decode cX8_count 65 = .ok (.getfield 61, 3) := by decide +kernel
theorem dX8_count_68 : decode cX8_count 68 = .ok (.getfield 276, 3) := by decide +kernel
theorem dX8_count_71 : decode cX8_count 71 = .ok (.ireturn, 1) := by decide +kernel
theorem dX8_count_72 : decode cX8_count 72 = .ok (.aload_n 0, 1) := by decide +kernel
theorem dX8_count_73 : decode cX8_count 73 = .ok (.getfield 75, 3) := by decide +kernel
theorem dX8_count_76 : decode cX8_count 76 = .ok (.getfield 352, 3) := by decide +kernel
theorem dX8_count_79 : decode cX8_count 79 = .ok (.ireturn, 1) := by decide +kernel
theorem dX8_count_80 : decode cX8_count 80 = .ok (.aload_n 0, 1) := by decide +kernel
theorem dX8_count_81 : decode cX8_count 81 = .ok (.getfield 75, 3) := by decide +kernel
theorem dX8_count_84 : decode cX8_count 84 = .ok (.getfield 354, 3) := by decide +kernel
theorem dX8_count_87 : decode cX8_count 87 = .ok (.ireturn, 1) := by decide +kernel
theorem dX8_count_88 : decode cX8_count 88 = .ok (.iconst (-1), 1) := by decide +kernel
theorem dX8_count_89 : decode cX8_count 89 = .ok (.ireturn, 1) := by decide +kernel
theorem dX8_isShelf_0 : decode cX8_isShelf 0 = .ok (.iload_n 0, 1) := by decide +kernel
theorem dX8_isShelf_1 : decode cX8_isShelf 1 = .ok (.ifCond .lt 13, 3) := by decide +kernel
theorem dX8_isShelf_4 : decode cX8_isShelf 4 = .ok (.iload_n 0, 1) := by decide +kernel
theorem dX8_isShelf_5 : decode cX8_isShelf 5 = .ok (.bipush 6, 2) := by decide +kernel
theorem dX8_isShelf_7 : decode cX8_isShelf 7 = .ok (.if_icmp .ge 7, 3) := by decide +kernel
theorem dX8_isShelf_10 : decode cX8_isShelf 10 = .ok (.iconst 1, 1) := by decide +kernel
theorem dX8_isShelf_11 : decode cX8_isShelf 11 = .ok (.goto 4, 3) := by decide +kernel
theorem dX8_isShelf_14 : decode cX8_isShelf 14 = .ok (.iconst 0, 1) := by decide +kernel
theorem dX8_isShelf_15 : decode cX8_isShelf 15 = .ok (.ireturn, 1) := by decide +kernel
theorem dX8_isOneOf_0 : decode cX8_isOneOf 0 = .ok (.iload_n 0, 1) := by decide +kernel
theorem dX8_isOneOf_1 : decode cX8_isOneOf 1 = .ok (.ifCond .lt 12, 3) := by decide +kernel
theorem dX8_isOneOf_4 : decode cX8_isOneOf 4 = .ok (.iload_n 0, 1) := by decide +kernel
theorem dX8_isOneOf_5 : decode cX8_isOneOf 5 = .ok (.iload_n 1, 1) := by decide +kernel
theorem dX8_isOneOf_6 : decode cX8_isOneOf 6 = .ok (.if_icmp .ge 7, 3) := by decide +kernel
theorem dX8_isOneOf_9 : decode cX8_isOneOf 9 = .ok (.iconst 1, 1) := by decide +kernel
theorem dX8_isOneOf_10 : decode cX8_isOneOf 10 = .ok (.goto 4, 3) := by decide +kernel
theorem dX8_isOneOf_13 : decode cX8_isOneOf 13 = .ok (.iconst 0, 1) := by decide +kernel
theorem dX8_isOneOf_14 : decode cX8_isOneOf 14 = .ok (.ireturn, 1) := by decide +kernel
theorem dX8_refusedBytes_0 : decode cX8_refusedBytes 0 = .ok (.aload_n 0, 1) := by decide +kernel
theorem dX8_refusedBytes_1 : decode cX8_refusedBytes 1 = .ok (.getfield 67, 3) := by decide +kernel
theorem dX8_refusedBytes_4 : decode cX8_refusedBytes 4 = .ok (.iload_n 1, 1) := by decide +kernel
theorem dX8_refusedBytes_5 : decode cX8_refusedBytes 5 = .ok (.aaload, 1) := by decide +kernel
theorem dX8_refusedBytes_6 : decode cX8_refusedBytes 6 = .ok (.invokevirtual 144, 3) := by decide +kernel
theorem dX8_refusedBytes_9 : decode cX8_refusedBytes 9 = .ok (.ifCond .eq 6, 3) := by decide +kernel
theorem dX8_refusedBytes_12 : decode cX8_refusedBytes 12 = .ok (.bipush (-11), 2) := by decide +kernel
theorem dX8_refusedBytes_14 : decode cX8_refusedBytes 14 = .ok (.ireturn, 1) := by decide +kernel
theorem dX8_refusedBytes_15 : decode cX8_refusedBytes 15 = .ok (.aload_n 0, 1) := by decide +kernel
theorem dX8_refusedBytes_16 : decode cX8_refusedBytes 16 = .ok (.getfield 67, 3) := by decide +kernel
theorem dX8_refusedBytes_19 : decode cX8_refusedBytes 19 = .ok (.iload_n 1, 1) := by decide +kernel
theorem dX8_refusedBytes_20 : decode cX8_refusedBytes 20 = .ok (.aaload, 1) := by decide +kernel
theorem dX8_refusedBytes_21 : decode cX8_refusedBytes 21 = .ok (.invokevirtual 148, 3) := by decide +kernel
theorem dX8_refusedBytes_24 : decode cX8_refusedBytes 24 = .ok (.ifCond .eq 7, 3) := by decide +kernel
theorem dX8_refusedBytes_27 : decode cX8_refusedBytes 27 = .ok (.iconst 0, 1) := by decide +kernel
theorem dX8_refusedBytes_28 : decode cX8_refusedBytes 28 = .ok (.goto 5, 3) := by decide +kernel
theorem dX8_refusedBytes_31 : decode cX8_refusedBytes 31 = .ok (.bipush (-12), 2) := by decide +kernel
theorem dX8_refusedBytes_33 : decode cX8_refusedBytes 33 = .ok (.ireturn, 1) := by decide +kernel
theorem dX9_init_0 : decode cX9_init 0 = .ok (.aload_n 0, 1) := by decide +kernel
theorem dX9_init_1 : decode cX9_init 1 = .ok (.invokespecial 1, 3) := by decide +kernel
theorem dX9_init_4 : decode cX9_init 4 = .ok (.aload_n 0, 1) := by decide +kernel
theorem dX9_init_5 : decode cX9_init 5 = .ok (.bipush 36, 2) := by decide +kernel
theorem dX9_init_7 : decode cX9_init 7 = .ok (.newarray .int, 2) := by decide +kernel
theorem dX9_init_9 : decode cX9_init 9 = .ok (.putfield 7, 3) := by decide +kernel
theorem dX9_init_12 : decode cX9_init 12 = .ok (.aload_n 0, 1) := by decide +kernel
theorem dX9_init_13 : decode cX9_init 13 = .ok (.bipush 36, 2) := by decide +kernel
theorem dX9_init_15 : decode cX9_init 15 = .ok (.newarray .int, 2) := by decide +kernel
theorem dX9_init_17 : decode cX9_init 17 = .ok (.putfield 13, 3) := by decide +kernel
theorem dX9_init_20 : decode cX9_init 20 = .ok (.aload_n 0, 1) := by decide +kernel
theorem dX9_init_21 : decode cX9_init 21 = .ok (.bipush 60, 2) := by decide +kernel
theorem dX9_init_23 : decode cX9_init 23 = .ok (.newarray .int, 2) := by decide +kernel
theorem dX9_init_25 : decode cX9_init 25 = .ok (.dup, 1) := by decide +kernel
theorem dX9_init_26 : decode cX9_init 26 = .ok (.iconst 0, 1) := by decide +kernel
theorem dX9_init_27 : decode cX9_init 27 = .ok (.bipush 8, 2) := by decide +kernel
theorem dX9_init_29 : decode cX9_init 29 = .ok (.iastore, 1) := by decide +kernel
theorem dX9_init_30 : decode cX9_init 30 = .ok (.dup, 1) := by decide +kernel
theorem dX9_init_31 : decode cX9_init 31 = .ok (.iconst 1, 1) := by decide +kernel
theorem dX9_init_32 : decode cX9_init 32 = .ok (.bipush 8, 2) := by decide +kernel
theorem dX9_init_34 : decode cX9_init 34 = .ok (.iastore, 1) := by decide +kernel
theorem dX9_init_35 : decode cX9_init 35 = .ok (.dup, 1) := by decide +kernel
theorem dX9_init_36 : decode cX9_init 36 = .ok (.iconst 2, 1) := by decide +kernel
theorem dX9_init_37 : decode cX9_init 37 = .ok (.bipush 8, 2) := by decide +kernel
theorem dX9_init_39 : decode cX9_init 39 = .ok (.iastore, 1) := by decide +kernel
theorem dX9_init_40 : decode cX9_init 40 = .ok (.dup, 1) := by decide +kernel
theorem dX9_init_41 : decode cX9_init 41 = .ok (.iconst 3, 1) := by decide +kernel
theorem dX9_init_42 : decode cX9_init 42 = .ok (.bipush 8, 2) := by decide +kernel
theorem dX9_init_44 : decode cX9_init 44 = .ok (.iastore, 1) := by decide +kernel
theorem dX9_init_45 : decode cX9_init 45 = .ok (.dup, 1) := by decide +kernel
theorem dX9_init_46 : decode cX9_init 46 = .ok (.iconst 4, 1) := by decide +kernel
theorem dX9_init_47 : decode cX9_init 47 = .ok (.bipush 8, 2) := by decide +kernel
theorem dX9_init_49 : decode cX9_init 49 = .ok (.iastore, 1) := by decide +kernel
theorem dX9_init_50 : decode cX9_init 50 = .ok (.dup, 1) := by decide +kernel
theorem dX9_init_51 : decode cX9_init 51 = .ok (.iconst 5, 1) := by decide +kernel
theorem dX9_init_52 : decode cX9_init 52 = .ok (.bipush 8, 2) := by decide +kernel
theorem dX9_init_54 : decode cX9_init 54 = .ok (.iastore, 1) := by decide +kernel
theorem dX9_init_55 : decode cX9_init 55 = .ok (.dup, 1) := by decide +kernel
theorem dX9_init_56 : decode cX9_init 56 = .ok (.bipush 6, 2) := by decide +kernel
theorem dX9_init_58 : decode cX9_init 58 = .ok (.bipush 8, 2) := by decide +kernel
theorem dX9_init_60 : decode cX9_init 60 = .ok (.iastore, 1) := by decide +kernel
theorem dX9_init_61 : decode cX9_init 61 = .ok (.dup, 1) := by decide +kernel
theorem dX9_init_62 : decode cX9_init 62 = .ok (.bipush 7, 2) := by decide +kernel
theorem dX9_init_64 : decode cX9_init 64 = .ok (.bipush 8, 2) := by decide +kernel
theorem dX9_init_66 : decode cX9_init 66 = .ok (.iastore, 1) := by decide +kernel
theorem dX9_init_67 : decode cX9_init 67 = .ok (.dup, 1) := by decide +kernel
theorem dX9_init_68 : decode cX9_init 68 = .ok (.bipush 8, 2) := by decide +kernel
theorem dX9_init_70 : decode cX9_init 70 = .ok (.bipush 8, 2) := by decide +kernel
theorem dX9_init_72 : decode cX9_init 72 = .ok (.iastore, 1) := by decide +kernel
theorem dX9_init_73 : decode cX9_init 73 = .ok (.dup, 1) := by decide +kernel
theorem dX9_init_74 : decode cX9_init 74 = .ok (.bipush 9, 2) := by decide +kernel
theorem dX9_init_76 : decode cX9_init 76 = .ok (.bipush 8, 2) := by decide +kernel
theorem dX9_init_78 : decode cX9_init 78 = .ok (.iastore, 1) := by decide +kernel
theorem dX9_init_79 : decode cX9_init 79 = .ok (.dup, 1) := by decide +kernel
theorem dX9_init_80 : decode cX9_init 80 = .ok (.bipush 10, 2) := by decide +kernel
theorem dX9_init_82 : decode cX9_init 82 = .ok (.bipush 8, 2) := by decide +kernel
theorem dX9_init_84 : decode cX9_init 84 = .ok (.iastore, 1) := by decide +kernel
theorem dX9_init_85 : decode cX9_init 85 = .ok (.dup, 1) := by decide +kernel
theorem dX9_init_86 : decode cX9_init 86 = .ok (.bipush 11, 2) := by decide +kernel
theorem dX9_init_88 : decode cX9_init 88 = .ok (.bipush 8, 2) := by decide +kernel
theorem dX9_init_90 : decode cX9_init 90 = .ok (.iastore, 1) := by decide +kernel
theorem dX9_init_91 : decode cX9_init 91 = .ok (.dup, 1) := by decide +kernel
theorem dX9_init_92 : decode cX9_init 92 = .ok (.bipush 12, 2) := by decide +kernel
theorem dX9_init_94 : decode cX9_init 94 = .ok (.bipush 8, 2) := by decide +kernel
theorem dX9_init_96 : decode cX9_init 96 = .ok (.iastore, 1) := by decide +kernel
theorem dX9_init_97 : decode cX9_init 97 = .ok (.dup, 1) := by decide +kernel
theorem dX9_init_98 : decode cX9_init 98 = .ok (.bipush 13, 2) := by decide +kernel
theorem dX9_init_100 : decode cX9_init 100 = .ok (.bipush 8, 2) := by decide +kernel
theorem dX9_init_102 : decode cX9_init 102 = .ok (.iastore, 1) := by decide +kernel
theorem dX9_init_103 : decode cX9_init 103 = .ok (.dup, 1) := by decide +kernel
theorem dX9_init_104 : decode cX9_init 104 = .ok (.bipush 14, 2) := by decide +kernel
theorem dX9_init_106 : decode cX9_init 106 = .ok (.bipush 8, 2) := by decide +kernel
theorem dX9_init_108 : decode cX9_init 108 = .ok (.iastore, 1) := by decide +kernel
theorem dX9_init_109 : decode cX9_init 109 = .ok (.dup, 1) := by decide +kernel
theorem dX9_init_110 : decode cX9_init 110 = .ok (.bipush 15, 2) := by decide +kernel
theorem dX9_init_112 : decode cX9_init 112 = .ok (.bipush 8, 2) := by decide +kernel
theorem dX9_init_114 : decode cX9_init 114 = .ok (.iastore, 1) := by decide +kernel
theorem dX9_init_115 : decode cX9_init 115 = .ok (.dup, 1) := by decide +kernel
theorem dX9_init_116 : decode cX9_init 116 = .ok (.bipush 16, 2) := by decide +kernel
theorem dX9_init_118 : decode cX9_init 118 = .ok (.bipush 8, 2) := by decide +kernel
theorem dX9_init_120 : decode cX9_init 120 = .ok (.iastore, 1) := by decide +kernel
theorem dX9_init_121 : decode cX9_init 121 = .ok (.dup, 1) := by decide +kernel
theorem dX9_init_122 : decode cX9_init 122 = .ok (.bipush 17, 2) := by decide +kernel
theorem dX9_init_124 : decode cX9_init 124 = .ok (.bipush 8, 2) := by decide +kernel
theorem dX9_init_126 : decode cX9_init 126 = .ok (.iastore, 1) := by decide +kernel
theorem dX9_init_127 : decode cX9_init 127 = .ok (.dup, 1) := by decide +kernel
theorem dX9_init_128 : decode cX9_init 128 = .ok (.bipush 18, 2) := by decide +kernel
theorem dX9_init_130 : decode cX9_init 130 = .ok (.bipush 8, 2) := by decide +kernel
theorem dX9_init_132 : decode cX9_init 132 = .ok (.iastore, 1) := by decide +kernel
theorem dX9_init_133 : decode cX9_init 133 = .ok (.dup, 1) := by decide +kernel
theorem dX9_init_134 : decode cX9_init 134 = .ok (.bipush 19, 2) := by decide +kernel
theorem dX9_init_136 : decode cX9_init 136 = .ok (.bipush 8, 2) := by decide +kernel
theorem dX9_init_138 : decode cX9_init 138 = .ok (.iastore, 1) := by decide +kernel
theorem dX9_init_139 : decode cX9_init 139 = .ok (.dup, 1) := by decide +kernel
theorem dX9_init_140 : decode cX9_init 140 = .ok (.bipush 20, 2) := by decide +kernel
theorem dX9_init_142 : decode cX9_init 142 = .ok (.bipush 8, 2) := by decide +kernel
theorem dX9_init_144 : decode cX9_init 144 = .ok (.iastore, 1) := by decide +kernel
theorem dX9_init_145 : decode cX9_init 145 = .ok (.dup, 1) := by decide +kernel
theorem dX9_init_146 : decode cX9_init 146 = .ok (.bipush 21, 2) := by decide +kernel
theorem dX9_init_148 : decode cX9_init 148 = .ok (.bipush 8, 2) := by decide +kernel
theorem dX9_init_150 : decode cX9_init 150 = .ok (.iastore, 1) := by decide +kernel
theorem dX9_init_151 : decode cX9_init 151 = .ok (.dup, 1) := by decide +kernel
theorem dX9_init_152 : decode cX9_init 152 = .ok (.bipush 22, 2) := by decide +kernel
theorem dX9_init_154 : decode cX9_init 154 = .ok (.bipush 8, 2) := by decide +kernel
theorem dX9_init_156 : decode cX9_init 156 = .ok (.iastore, 1) := by decide +kernel
theorem dX9_init_157 : decode cX9_init 157 = .ok (.dup, 1) := by decide +kernel
theorem dX9_init_158 : decode cX9_init 158 = .ok (.bipush 23, 2) := by decide +kernel
theorem dX9_init_160 : decode cX9_init 160 = .ok (.bipush 8, 2) := by decide +kernel
theorem dX9_init_162 : decode cX9_init 162 = .ok (.iastore, 1) := by decide +kernel
theorem dX9_init_163 : decode cX9_init 163 = .ok (.dup, 1) := by decide +kernel
theorem dX9_init_164 : decode cX9_init 164 = .ok (.bipush 24, 2) := by decide +kernel
theorem dX9_init_166 : decode cX9_init 166 = .ok (.bipush 8, 2) := by decide +kernel
theorem dX9_init_168 : decode cX9_init 168 = .ok (.iastore, 1) := by decide +kernel
theorem dX9_init_169 : decode cX9_init 169 = .ok (.dup, 1) := by decide +kernel
theorem dX9_init_170 : decode cX9_init 170 = .ok (.bipush 25, 2) := by decide +kernel
theorem dX9_init_172 : decode cX9_init 172 = .ok (.bipush 8, 2) := by decide +kernel
theorem dX9_init_174 : decode cX9_init 174 = .ok (.iastore, 1) := by decide +kernel
theorem dX9_init_175 : decode cX9_init 175 = .ok (.dup, 1) := by decide +kernel
theorem dX9_init_176 : decode cX9_init 176 = .ok (.bipush 26, 2) := by decide +kernel
theorem dX9_init_178 : decode cX9_init 178 = .ok (.bipush 8, 2) := by decide +kernel
theorem dX9_init_180 : decode cX9_init 180 = .ok (.iastore, 1) := by decide +kernel
theorem dX9_init_181 : decode cX9_init 181 = .ok (.dup, 1) := by decide +kernel
theorem dX9_init_182 : decode cX9_init 182 = .ok (.bipush 27, 2) := by decide +kernel
theorem dX9_init_184 : decode cX9_init 184 = .ok (.bipush 8, 2) := by decide +kernel
theorem dX9_init_186 : decode cX9_init 186 = .ok (.iastore, 1) := by decide +kernel
theorem dX9_init_187 : decode cX9_init 187 = .ok (.dup, 1) := by decide +kernel
theorem dX9_init_188 : decode cX9_init 188 = .ok (.bipush 28, 2) := by decide +kernel
theorem dX9_init_190 : decode cX9_init 190 = .ok (.bipush 8, 2) := by decide +kernel
theorem dX9_init_192 : decode cX9_init 192 = .ok (.iastore, 1) := by decide +kernel
theorem dX9_init_193 : decode cX9_init 193 = .ok (.dup, 1) := by decide +kernel
theorem dX9_init_194 : decode cX9_init 194 = .ok (.bipush 29, 2) := by decide +kernel
theorem dX9_init_196 : decode cX9_init 196 = .ok (.bipush 8, 2) := by decide +kernel
theorem dX9_init_198 : decode cX9_init 198 = .ok (.iastore, 1) := by decide +kernel
theorem dX9_init_199 : decode cX9_init 199 = .ok (.dup, 1) := by decide +kernel
theorem dX9_init_200 : decode cX9_init 200 = .ok (.bipush 30, 2) := by decide +kernel
theorem dX9_init_202 : decode cX9_init 202 = .ok (.bipush 8, 2) := by decide +kernel
theorem dX9_init_204 : decode cX9_init 204 = .ok (.iastore, 1) := by decide +kernel
theorem dX9_init_205 : decode cX9_init 205 = .ok (.dup, 1) := by decide +kernel
theorem dX9_init_206 : decode cX9_init 206 = .ok (.bipush 31, 2) := by decide +kernel
theorem dX9_init_208 : decode cX9_init 208 = .ok (.bipush 8, 2) := by decide +kernel
theorem dX9_init_210 : decode cX9_init 210 = .ok (.iastore, 1) := by decide +kernel
theorem dX9_init_211 : decode cX9_init 211 = .ok (.dup, 1) := by decide +kernel
theorem dX9_init_212 : decode cX9_init 212 = .ok (.bipush 32, 2) := by decide +kernel
theorem dX9_init_214 : decode cX9_init 214 = .ok (.bipush 8, 2) := by decide +kernel
theorem dX9_init_216 : decode cX9_init 216 = .ok (.iastore, 1) := by decide +kernel
theorem dX9_init_217 : decode cX9_init 217 = .ok (.dup, 1) := by decide +kernel
theorem dX9_init_218 : decode cX9_init 218 = .ok (.bipush 33, 2) := by decide +kernel
theorem dX9_init_220 : decode cX9_init 220 = .ok (.bipush 8, 2) := by decide +kernel
theorem dX9_init_222 : decode cX9_init 222 = .ok (.iastore, 1) := by decide +kernel
theorem dX9_init_223 : decode cX9_init 223 = .ok (.dup, 1) := by decide +kernel
theorem dX9_init_224 : decode cX9_init 224 = .ok (.bipush 34, 2) := by decide +kernel
theorem dX9_init_226 : decode cX9_init 226 = .ok (.bipush 8, 2) := by decide +kernel
theorem dX9_init_228 : decode cX9_init 228 = .ok (.iastore, 1) := by decide +kernel
theorem dX9_init_229 : decode cX9_init 229 = .ok (.dup, 1) := by decide +kernel
theorem dX9_init_230 : decode cX9_init 230 = .ok (.bipush 35, 2) := by decide +kernel
theorem dX9_init_232 : decode cX9_init 232 = .ok (.bipush 8, 2) := by decide +kernel
theorem dX9_init_234 : decode cX9_init 234 = .ok (.iastore, 1) := by decide +kernel
theorem dX9_init_235 : decode cX9_init 235 = .ok (.dup, 1) := by decide +kernel
theorem dX9_init_236 : decode cX9_init 236 = .ok (.bipush 36, 2) := by decide +kernel
theorem dX9_init_238 : decode cX9_init 238 = .ok (.bipush 8, 2) := by decide +kernel
theorem dX9_init_240 : decode cX9_init 240 = .ok (.iastore, 1) := by decide +kernel
theorem dX9_init_241 : decode cX9_init 241 = .ok (.dup, 1) := by decide +kernel
theorem dX9_init_242 : decode cX9_init 242 = .ok (.bipush 37, 2) := by decide +kernel
theorem dX9_init_244 : decode cX9_init 244 = .ok (.bipush 8, 2) := by decide +kernel
theorem dX9_init_246 : decode cX9_init 246 = .ok (.iastore, 1) := by decide +kernel
theorem dX9_init_247 : decode cX9_init 247 = .ok (.dup, 1) := by decide +kernel
theorem dX9_init_248 : decode cX9_init 248 = .ok (.bipush 38, 2) := by decide +kernel
theorem dX9_init_250 : decode cX9_init 250 = .ok (.bipush 8, 2) := by decide +kernel
theorem dX9_init_252 : decode cX9_init 252 = .ok (.iastore, 1) := by decide +kernel
theorem dX9_init_253 : decode cX9_init 253 = .ok (.dup, 1) := by decide +kernel
theorem dX9_init_254 : decode cX9_init 254 = .ok (.bipush 39, 2) := by decide +kernel
theorem dX9_init_256 : decode cX9_init 256 = .ok (.bipush 8, 2) := by decide +kernel
theorem dX9_init_258 : decode cX9_init 258 = .ok (.iastore, 1) := by decide +kernel
theorem dX9_init_259 : decode cX9_init 259 = .ok (.dup, 1) := by decide +kernel
theorem dX9_init_260 : decode cX9_init 260 = .ok (.bipush 40, 2) := by decide +kernel
theorem dX9_init_262 : decode cX9_init 262 = .ok (.bipush 8, 2) := by decide +kernel
theorem dX9_init_264 : decode cX9_init 264 = .ok (.iastore, 1) := by decide +kernel
theorem dX9_init_265 : decode cX9_init 265 = .ok (.dup, 1) := by decide +kernel
theorem dX9_init_266 : decode cX9_init 266 = .ok (.bipush 41, 2) := by decide +kernel
theorem dX9_init_268 : decode cX9_init 268 = .ok (.bipush 8, 2) := by decide +kernel
theorem dX9_init_270 : decode cX9_init 270 = .ok (.iastore, 1) := by decide +kernel
theorem dX9_init_271 : decode cX9_init 271 = .ok (.dup, 1) := by decide +kernel
theorem dX9_init_272 : decode cX9_init 272 = .ok (.bipush 42, 2) := by decide +kernel
theorem dX9_init_274 : decode cX9_init 274 = .ok (.bipush 8, 2) := by decide +kernel
theorem dX9_init_276 : decode cX9_init 276 = .ok (.iastore, 1) := by decide +kernel
theorem dX9_init_277 : decode cX9_init 277 = .ok (.dup, 1) := by decide +kernel
theorem dX9_init_278 : decode cX9_init 278 = .ok (.bipush 43, 2) := by decide +kernel
theorem dX9_init_280 : decode cX9_init 280 = .ok (.bipush 8, 2) := by decide +kernel
theorem dX9_init_282 : decode cX9_init 282 = .ok (.iastore, 1) := by decide +kernel
theorem dX9_init_283 : decode cX9_init 283 = .ok (.dup, 1) := by decide +kernel
theorem dX9_init_284 : decode cX9_init 284 = .ok (.bipush 44, 2) := by decide +kernel
theorem dX9_init_286 : decode cX9_init 286 = .ok (.bipush 8, 2) := by decide +kernel
theorem dX9_init_288 : decode cX9_init 288 = .ok (.iastore, 1) := by decide +kernel
theorem dX9_init_289 : decode cX9_init 289 = .ok (.dup, 1) := by decide +kernel
theorem dX9_init_290 : decode cX9_init 290 = .ok (.bipush 45, 2) := by decide +kernel
theorem dX9_init_292 : decode cX9_init 292 = .ok (.bipush 8, 2) := by decide +kernel
theorem dX9_init_294 : decode cX9_init 294 = .ok (.iastore, 1) := by decide +kernel
theorem dX9_init_295 : decode cX9_init 295 = .ok (.dup, 1) := by decide +kernel
theorem dX9_init_296 : decode cX9_init 296 = .ok (.bipush 46, 2) := by decide +kernel
theorem dX9_init_298 : decode cX9_init 298 = .ok (.bipush 8, 2) := by decide +kernel
theorem dX9_init_300 : decode cX9_init 300 = .ok (.iastore, 1) := by decide +kernel
theorem dX9_init_301 : decode cX9_init 301 = .ok (.dup, 1) := by decide +kernel
theorem dX9_init_302 : decode cX9_init 302 = .ok (.bipush 47, 2) := by decide +kernel
theorem dX9_init_304 : decode cX9_init 304 = .ok (.bipush 8, 2) := by decide +kernel
theorem dX9_init_306 : decode cX9_init 306 = .ok (.iastore, 1) := by decide +kernel
theorem dX9_init_307 : decode cX9_init 307 = .ok (.dup, 1) := by decide +kernel
theorem dX9_init_308 : decode cX9_init 308 = .ok (.bipush 48, 2) := by decide +kernel
theorem dX9_init_310 : decode cX9_init 310 = .ok (.bipush 8, 2) := by decide +kernel
theorem dX9_init_312 : decode cX9_init 312 = .ok (.iastore, 1) := by decide +kernel
theorem dX9_init_313 : decode cX9_init 313 = .ok (.dup, 1) := by decide +kernel
theorem dX9_init_314 : decode cX9_init 314 = .ok (.bipush 49, 2) := by decide +kernel
theorem dX9_init_316 : decode cX9_init 316 = .ok (.bipush 8, 2) := by decide +kernel
theorem dX9_init_318 : decode cX9_init 318 = .ok (.iastore, 1) := by decide +kernel
theorem dX9_init_319 : decode cX9_init 319 = .ok (.dup, 1) := by decide +kernel
theorem dX9_init_320 : decode cX9_init 320 = .ok (.bipush 50, 2) := by decide +kernel
theorem dX9_init_322 : decode cX9_init 322 = .ok (.bipush 8, 2) := by decide +kernel
theorem dX9_init_324 : decode cX9_init 324 = .ok (.iastore, 1) := by decide +kernel
theorem dX9_init_325 : decode cX9_init 325 = .ok (.dup, 1) := by decide +kernel
theorem dX9_init_326 : decode cX9_init 326 = .ok (.bipush 51, 2) := by decide +kernel
theorem dX9_init_328 : decode cX9_init 328 = .ok (.bipush 8, 2) := by decide +kernel
theorem dX9_init_330 : decode cX9_init 330 = .ok (.iastore, 1) := by decide +kernel
theorem dX9_init_331 : decode cX9_init 331 = .ok (.dup, 1) := by decide +kernel
theorem dX9_init_332 : decode cX9_init 332 = .ok (.bipush 52, 2) := by decide +kernel
theorem dX9_init_334 : decode cX9_init 334 = .ok (.bipush 8, 2) := by decide +kernel
theorem dX9_init_336 : decode cX9_init 336 = .ok (.iastore, 1) := by decide +kernel
theorem dX9_init_337 : decode cX9_init 337 = .ok (.dup, 1) := by decide +kernel
theorem dX9_init_338 : decode cX9_init 338 = .ok (.bipush 53, 2) := by decide +kernel
theorem dX9_init_340 : decode cX9_init 340 = .ok (.bipush 8, 2) := by decide +kernel
theorem dX9_init_342 : decode cX9_init 342 = .ok (.iastore, 1) := by decide +kernel
theorem dX9_init_343 : decode cX9_init 343 = .ok (.dup, 1) := by decide +kernel
theorem dX9_init_344 : decode cX9_init 344 = .ok (.bipush 54, 2) := by decide +kernel
theorem dX9_init_346 : decode cX9_init 346 = .ok (.bipush 8, 2) := by decide +kernel
theorem dX9_init_348 : decode cX9_init 348 = .ok (.iastore, 1) := by decide +kernel
theorem dX9_init_349 : decode cX9_init 349 = .ok (.dup, 1) := by decide +kernel
theorem dX9_init_350 : decode cX9_init 350 = .ok (.bipush 55, 2) := by decide +kernel
theorem dX9_init_352 : decode cX9_init 352 = .ok (.bipush 8, 2) := by decide +kernel
theorem dX9_init_354 : decode cX9_init 354 = .ok (.iastore, 1) := by decide +kernel
theorem dX9_init_355 : decode cX9_init 355 = .ok (.dup, 1) := by decide +kernel
theorem dX9_init_356 : decode cX9_init 356 = .ok (.bipush 56, 2) := by decide +kernel
theorem dX9_init_358 : decode cX9_init 358 = .ok (.bipush 8, 2) := by decide +kernel
theorem dX9_init_360 : decode cX9_init 360 = .ok (.iastore, 1) := by decide +kernel
theorem dX9_init_361 : decode cX9_init 361 = .ok (.dup, 1) := by decide +kernel
theorem dX9_init_362 : decode cX9_init 362 = .ok (.bipush 57, 2) := by decide +kernel
theorem dX9_init_364 : decode cX9_init 364 = .ok (.bipush 8, 2) := by decide +kernel
theorem dX9_init_366 : decode cX9_init 366 = .ok (.iastore, 1) := by decide +kernel
theorem dX9_init_367 : decode cX9_init 367 = .ok (.dup, 1) := by decide +kernel
theorem dX9_init_368 : decode cX9_init 368 = .ok (.bipush 58, 2) := by decide +kernel
theorem dX9_init_370 : decode cX9_init 370 = .ok (.bipush 8, 2) := by decide +kernel
theorem dX9_init_372 : decode cX9_init 372 = .ok (.iastore, 1) := by decide +kernel
theorem dX9_init_373 : decode cX9_init 373 = .ok (.dup, 1) := by decide +kernel
theorem dX9_init_374 : decode cX9_init 374 = .ok (.bipush 59, 2) := by decide +kernel
theorem dX9_init_376 : decode cX9_init 376 = .ok (.bipush 8, 2) := by decide +kernel
theorem dX9_init_378 : decode cX9_init 378 = .ok (.iastore, 1) := by decide +kernel
theorem dX9_init_379 : decode cX9_init 379 = .ok (.putfield 16, 3) := by decide +kernel
theorem dX9_init_382 : decode cX9_init 382 = .ok (.aload_n 0, 1) := by decide +kernel
theorem dX9_init_383 : decode cX9_init 383 = .ok (.bipush 60, 2) := by decide +kernel
theorem dX9_init_385 : decode cX9_init 385 = .ok (.newarray .int, 2) := by decide +kernel
theorem dX9_init_387 : decode cX9_init 387 = .ok (.dup, 1) := by decide +kernel
theorem dX9_init_388 : decode cX9_init 388 = .ok (.iconst 0, 1) := by decide +kernel
theorem dX9_init_389 : decode cX9_init 389 = .ok (.iconst 3, 1) := by decide +kernel
theorem dX9_init_390 : decode cX9_init 390 = .ok (.iastore, 1) := by decide +kernel
theorem dX9_init_391 : decode cX9_init 391 = .ok (.dup, 1) := by decide +kernel
theorem dX9_init_392 : decode cX9_init 392 = .ok (.iconst 1, 1) := by decide +kernel
theorem dX9_init_393 : decode cX9_init 393 = .ok (.iconst 3, 1) := by decide +kernel
theorem dX9_init_394 : decode cX9_init 394 = .ok (.iastore, 1) := by decide +kernel
theorem dX9_init_395 : decode cX9_init 395 = .ok (.dup, 1) := by decide +kernel
theorem dX9_init_396 : decode cX9_init 396 = .ok (.iconst 2, 1) := by decide +kernel
theorem dX9_init_397 : decode cX9_init 397 = .ok (.iconst 3, 1) := by decide +kernel
theorem dX9_init_398 : decode cX9_init 398 = .ok (.iastore, 1) := by decide +kernel
theorem dX9_init_399 : decode cX9_init 399 = .ok (.dup, 1) := by decide +kernel
theorem dX9_init_400 : decode cX9_init 400 = .ok (.iconst 3, 1) := by decide +kernel
theorem dX9_init_401 : decode cX9_init 401 = .ok (.iconst 3, 1) := by decide +kernel
theorem dX9_init_402 : decode cX9_init 402 = .ok (.iastore, 1) := by decide +kernel
theorem dX9_init_403 : decode cX9_init 403 = .ok (.dup, 1) := by decide +kernel
theorem dX9_init_404 : decode cX9_init 404 = .ok (.iconst 4, 1) := by decide +kernel
theorem dX9_init_405 : decode cX9_init 405 = .ok (.iconst 3, 1) := by decide +kernel
theorem dX9_init_406 : decode cX9_init 406 = .ok (.iastore, 1) := by decide +kernel
theorem dX9_init_407 : decode cX9_init 407 = .ok (.dup, 1) := by decide +kernel
theorem dX9_init_408 : decode cX9_init 408 = .ok (.iconst 5, 1) := by decide +kernel
theorem dX9_init_409 : decode cX9_init 409 = .ok (.iconst 3, 1) := by decide +kernel
theorem dX9_init_410 : decode cX9_init 410 = .ok (.iastore, 1) := by decide +kernel
theorem dX9_init_411 : decode cX9_init 411 = .ok (.dup, 1) := by decide +kernel
theorem dX9_init_412 : decode cX9_init 412 = .ok (.bipush 6, 2) := by decide +kernel
theorem dX9_init_414 : decode cX9_init 414 = .ok (.iconst 3, 1) := by decide +kernel
theorem dX9_init_415 : decode cX9_init 415 = .ok (.iastore, 1) := by decide +kernel
theorem dX9_init_416 : decode cX9_init 416 = .ok (.dup, 1) := by decide +kernel
theorem dX9_init_417 : decode cX9_init 417 = .ok (.bipush 7, 2) := by decide +kernel
theorem dX9_init_419 : decode cX9_init 419 = .ok (.iconst 3, 1) := by decide +kernel
theorem dX9_init_420 : decode cX9_init 420 = .ok (.iastore, 1) := by decide +kernel
theorem dX9_init_421 : decode cX9_init 421 = .ok (.dup, 1) := by decide +kernel
theorem dX9_init_422 : decode cX9_init 422 = .ok (.bipush 8, 2) := by decide +kernel
theorem dX9_init_424 : decode cX9_init 424 = .ok (.iconst 3, 1) := by decide +kernel
theorem dX9_init_425 : decode cX9_init 425 = .ok (.iastore, 1) := by decide +kernel
theorem dX9_init_426 : decode cX9_init 426 = .ok (.dup, 1) := by decide +kernel
theorem dX9_init_427 : decode cX9_init 427 = .ok (.bipush 9, 2) := by decide +kernel
theorem dX9_init_429 : decode cX9_init 429 = .ok (.iconst 3, 1) := by decide +kernel
theorem dX9_init_430 : decode cX9_init 430 = .ok (.iastore, 1) := by decide +kernel
theorem dX9_init_431 : decode cX9_init 431 = .ok (.dup, 1) := by decide +kernel
theorem dX9_init_432 : decode cX9_init 432 = .ok (.bipush 10, 2) := by decide +kernel
theorem dX9_init_434 : decode cX9_init 434 = .ok (.iconst 3, 1) := by decide +kernel
theorem dX9_init_435 : decode cX9_init 435 = .ok (.iastore, 1) := by decide +kernel
theorem dX9_init_436 : decode cX9_init 436 = .ok (.dup, 1) := by decide +kernel
theorem dX9_init_437 : decode cX9_init 437 = .ok (.bipush 11, 2) := by decide +kernel
theorem dX9_init_439 : decode cX9_init 439 = .ok (.iconst 3, 1) := by decide +kernel
theorem dX9_init_440 : decode cX9_init 440 = .ok (.iastore, 1) := by decide +kernel
theorem dX9_init_441 : decode cX9_init 441 = .ok (.dup, 1) := by decide +kernel
theorem dX9_init_442 : decode cX9_init 442 = .ok (.bipush 12, 2) := by decide +kernel
theorem dX9_init_444 : decode cX9_init 444 = .ok (.iconst 3, 1) := by decide +kernel
theorem dX9_init_445 : decode cX9_init 445 = .ok (.iastore, 1) := by decide +kernel
theorem dX9_init_446 : decode cX9_init 446 = .ok (.dup, 1) := by decide +kernel
theorem dX9_init_447 : decode cX9_init 447 = .ok (.bipush 13, 2) := by decide +kernel
theorem dX9_init_449 : decode cX9_init 449 = .ok (.iconst 3, 1) := by decide +kernel
theorem dX9_init_450 : decode cX9_init 450 = .ok (.iastore, 1) := by decide +kernel
theorem dX9_init_451 : decode cX9_init 451 = .ok (.dup, 1) := by decide +kernel
theorem dX9_init_452 : decode cX9_init 452 = .ok (.bipush 14, 2) := by decide +kernel
theorem dX9_init_454 : decode cX9_init 454 = .ok (.iconst 3, 1) := by decide +kernel
theorem dX9_init_455 : decode cX9_init 455 = .ok (.iastore, 1) := by decide +kernel
theorem dX9_init_456 : decode cX9_init 456 = .ok (.dup, 1) := by decide +kernel
theorem dX9_init_457 : decode cX9_init 457 = .ok (.bipush 15, 2) := by decide +kernel
theorem dX9_init_459 : decode cX9_init 459 = .ok (.iconst 3, 1) := by decide +kernel
theorem dX9_init_460 : decode cX9_init 460 = .ok (.iastore, 1) := by decide +kernel
theorem dX9_init_461 : decode cX9_init 461 = .ok (.dup, 1) := by decide +kernel
theorem dX9_init_462 : decode cX9_init 462 = .ok (.bipush 16, 2) := by decide +kernel
theorem dX9_init_464 : decode cX9_init 464 = .ok (.iconst 3, 1) := by decide +kernel
theorem dX9_init_465 : decode cX9_init 465 = .ok (.iastore, 1) := by decide +kernel
theorem dX9_init_466 : decode cX9_init 466 = .ok (.dup, 1) := by decide +kernel
theorem dX9_init_467 : decode cX9_init 467 = .ok (.bipush 17, 2) := by decide +kernel
theorem dX9_init_469 : decode cX9_init 469 = .ok (.iconst 3, 1) := by decide +kernel
theorem dX9_init_470 : decode cX9_init 470 = .ok (.iastore, 1) := by decide +kernel
theorem dX9_init_471 : decode cX9_init 471 = .ok (.dup, 1) := by decide +kernel
theorem dX9_init_472 : decode cX9_init 472 = .ok (.bipush 18, 2) := by decide +kernel
theorem dX9_init_474 : decode cX9_init 474 = .ok (.iconst 3, 1) := by decide +kernel
theorem dX9_init_475 : decode cX9_init 475 = .ok (.iastore, 1) := by decide +kernel
theorem dX9_init_476 : decode cX9_init 476 = .ok (.dup, 1) := by decide +kernel
theorem dX9_init_477 : decode cX9_init 477 = .ok (.bipush 19, 2) := by decide +kernel
theorem dX9_init_479 : decode cX9_init 479 = .ok (.iconst 3, 1) := by decide +kernel
theorem dX9_init_480 : decode cX9_init 480 = .ok (.iastore, 1) := by decide +kernel
theorem dX9_init_481 : decode cX9_init 481 = .ok (.dup, 1) := by decide +kernel
theorem dX9_init_482 : decode cX9_init 482 = .ok (.bipush 20, 2) := by decide +kernel
theorem dX9_init_484 : decode cX9_init 484 = .ok (.iconst 3, 1) := by decide +kernel
theorem dX9_init_485 : decode cX9_init 485 = .ok (.iastore, 1) := by decide +kernel
theorem dX9_init_486 : decode cX9_init 486 = .ok (.dup, 1) := by decide +kernel
theorem dX9_init_487 : decode cX9_init 487 = .ok (.bipush 21, 2) := by decide +kernel
theorem dX9_init_489 : decode cX9_init 489 = .ok (.iconst 3, 1) := by decide +kernel
theorem dX9_init_490 : decode cX9_init 490 = .ok (.iastore, 1) := by decide +kernel
theorem dX9_init_491 : decode cX9_init 491 = .ok (.dup, 1) := by decide +kernel
theorem dX9_init_492 : decode cX9_init 492 = .ok (.bipush 22, 2) := by decide +kernel
theorem dX9_init_494 : decode cX9_init 494 = .ok (.iconst 3, 1) := by decide +kernel
theorem dX9_init_495 : decode cX9_init 495 = .ok (.iastore, 1) := by decide +kernel
theorem dX9_init_496 : decode cX9_init 496 = .ok (.dup, 1) := by decide +kernel
theorem dX9_init_497 : decode cX9_init 497 = .ok (.bipush 23, 2) := by decide +kernel
theorem dX9_init_499 : decode cX9_init 499 = .ok (.iconst 3, 1) := by decide +kernel
theorem dX9_init_500 : decode cX9_init 500 = .ok (.iastore, 1) := by decide +kernel
theorem dX9_init_501 : decode cX9_init 501 = .ok (.dup, 1) := by decide +kernel
theorem dX9_init_502 : decode cX9_init 502 = .ok (.bipush 24, 2) := by decide +kernel
theorem dX9_init_504 : decode cX9_init 504 = .ok (.iconst 3, 1) := by decide +kernel
theorem dX9_init_505 : decode cX9_init 505 = .ok (.iastore, 1) := by decide +kernel
theorem dX9_init_506 : decode cX9_init 506 = .ok (.dup, 1) := by decide +kernel
theorem dX9_init_507 : decode cX9_init 507 = .ok (.bipush 25, 2) := by decide +kernel
theorem dX9_init_509 : decode cX9_init 509 = .ok (.iconst 3, 1) := by decide +kernel
theorem dX9_init_510 : decode cX9_init 510 = .ok (.iastore, 1) := by decide +kernel
theorem dX9_init_511 : decode cX9_init 511 = .ok (.dup, 1) := by decide +kernel
theorem dX9_init_512 : decode cX9_init 512 = .ok (.bipush 26, 2) := by decide +kernel
theorem dX9_init_514 : decode cX9_init 514 = .ok (.iconst 3, 1) := by decide +kernel
theorem dX9_init_515 : decode cX9_init 515 = .ok (.iastore, 1) := by decide +kernel
theorem dX9_init_516 : decode cX9_init 516 = .ok (.dup, 1) := by decide +kernel
theorem dX9_init_517 : decode cX9_init 517 = .ok (.bipush 27, 2) := by decide +kernel
theorem dX9_init_519 : decode cX9_init 519 = .ok (.iconst 3, 1) := by decide +kernel
theorem dX9_init_520 : decode cX9_init 520 = .ok (.iastore, 1) := by decide +kernel
theorem dX9_init_521 : decode cX9_init 521 = .ok (.dup, 1) := by decide +kernel
theorem dX9_init_522 : decode cX9_init 522 = .ok (.bipush 28, 2) := by decide +kernel
theorem dX9_init_524 : decode cX9_init 524 = .ok (.iconst 3, 1) := by decide +kernel
theorem dX9_init_525 : decode cX9_init 525 = .ok (.iastore, 1) := by decide +kernel
theorem dX9_init_526 : decode cX9_init 526 = .ok (.dup, 1) := by decide +kernel
theorem dX9_init_527 : decode cX9_init 527 = .ok (.bipush 29, 2) := by decide +kernel
theorem dX9_init_529 : decode cX9_init 529 = .ok (.iconst 3, 1) := by decide +kernel
theorem dX9_init_530 : decode cX9_init 530 = .ok (.iastore, 1) := by decide +kernel
theorem dX9_init_531 : decode cX9_init 531 = .ok (.dup, 1) := by decide +kernel
theorem dX9_init_532 : decode cX9_init 532 = .ok (.bipush 30, 2) := by decide +kernel
theorem dX9_init_534 : decode cX9_init 534 = .ok (.iconst 3, 1) := by decide +kernel
theorem dX9_init_535 : decode cX9_init 535 = .ok (.iastore, 1) := by decide +kernel
theorem dX9_init_536 : decode cX9_init 536 = .ok (.dup, 1) := by decide +kernel
theorem dX9_init_537 : decode cX9_init 537 = .ok (.bipush 31, 2) := by decide +kernel
theorem dX9_init_539 : decode cX9_init 539 = .ok (.iconst 3, 1) := by decide +kernel
theorem dX9_init_540 : decode cX9_init 540 = .ok (.iastore, 1) := by decide +kernel
theorem dX9_init_541 : decode cX9_init 541 = .ok (.dup, 1) := by decide +kernel
theorem dX9_init_542 : decode cX9_init 542 = .ok (.bipush 32, 2) := by decide +kernel
theorem dX9_init_544 : decode cX9_init 544 = .ok (.iconst 3, 1) := by decide +kernel
theorem dX9_init_545 : decode cX9_init 545 = .ok (.iastore, 1) := by decide +kernel
theorem dX9_init_546 : decode cX9_init 546 = .ok (.dup, 1) := by decide +kernel
theorem dX9_init_547 : decode cX9_init 547 = .ok (.bipush 33, 2) := by decide +kernel
theorem dX9_init_549 : decode cX9_init 549 = .ok (.iconst 3, 1) := by decide +kernel
theorem dX9_init_550 : decode cX9_init 550 = .ok (.iastore, 1) := by decide +kernel
theorem dX9_init_551 : decode cX9_init 551 = .ok (.dup, 1) := by decide +kernel
theorem dX9_init_552 : decode cX9_init 552 = .ok (.bipush 34, 2) := by decide +kernel
theorem dX9_init_554 : decode cX9_init 554 = .ok (.iconst 3, 1) := by decide +kernel
theorem dX9_init_555 : decode cX9_init 555 = .ok (.iastore, 1) := by decide +kernel
theorem dX9_init_556 : decode cX9_init 556 = .ok (.dup, 1) := by decide +kernel
theorem dX9_init_557 : decode cX9_init 557 = .ok (.bipush 35, 2) := by decide +kernel
theorem dX9_init_559 : decode cX9_init 559 = .ok (.iconst 3, 1) := by decide +kernel
theorem dX9_init_560 : decode cX9_init 560 = .ok (.iastore, 1) := by decide +kernel
theorem dX9_init_561 : decode cX9_init 561 = .ok (.dup, 1) := by decide +kernel
theorem dX9_init_562 : decode cX9_init 562 = .ok (.bipush 36, 2) := by decide +kernel
theorem dX9_init_564 : decode cX9_init 564 = .ok (.iconst 3, 1) := by decide +kernel
theorem dX9_init_565 : decode cX9_init 565 = .ok (.iastore, 1) := by decide +kernel
theorem dX9_init_566 : decode cX9_init 566 = .ok (.dup, 1) := by decide +kernel
theorem dX9_init_567 : decode cX9_init 567 = .ok (.bipush 37, 2) := by decide +kernel
theorem dX9_init_569 : decode cX9_init 569 = .ok (.iconst 3, 1) := by decide +kernel
theorem dX9_init_570 : decode cX9_init 570 = .ok (.iastore, 1) := by decide +kernel
theorem dX9_init_571 : decode cX9_init 571 = .ok (.dup, 1) := by decide +kernel
theorem dX9_init_572 : decode cX9_init 572 = .ok (.bipush 38, 2) := by decide +kernel
theorem dX9_init_574 : decode cX9_init 574 = .ok (.iconst 3, 1) := by decide +kernel
theorem dX9_init_575 : decode cX9_init 575 = .ok (.iastore, 1) := by decide +kernel
theorem dX9_init_576 : decode cX9_init 576 = .ok (.dup, 1) := by decide +kernel
theorem dX9_init_577 : decode cX9_init 577 = .ok (.bipush 39, 2) := by decide +kernel
theorem dX9_init_579 : decode cX9_init 579 = .ok (.iconst 3, 1) := by decide +kernel
theorem dX9_init_580 : decode cX9_init 580 = .ok (.iastore, 1) := by decide +kernel
theorem dX9_init_581 : decode cX9_init 581 = .ok (.dup, 1) := by decide +kernel
theorem dX9_init_582 : decode cX9_init 582 = .ok (.bipush 40, 2) := by decide +kernel
theorem dX9_init_584 : decode cX9_init 584 = .ok (.iconst 3, 1) := by decide +kernel
theorem dX9_init_585 : decode cX9_init 585 = .ok (.iastore, 1) := by decide +kernel
theorem dX9_init_586 : decode cX9_init 586 = .ok (.dup, 1) := by decide +kernel
theorem dX9_init_587 : decode cX9_init 587 = .ok (.bipush 41, 2) := by decide +kernel
theorem dX9_init_589 : decode cX9_init 589 = .ok (.iconst 3, 1) := by decide +kernel
theorem dX9_init_590 : decode cX9_init 590 = .ok (.iastore, 1) := by decide +kernel
theorem dX9_init_591 : decode cX9_init 591 = .ok (.dup, 1) := by decide +kernel
theorem dX9_init_592 : decode cX9_init 592 = .ok (.bipush 42, 2) := by decide +kernel
theorem dX9_init_594 : decode cX9_init 594 = .ok (.iconst 3, 1) := by decide +kernel
theorem dX9_init_595 : decode cX9_init 595 = .ok (.iastore, 1) := by decide +kernel
theorem dX9_init_596 : decode cX9_init 596 = .ok (.dup, 1) := by decide +kernel
theorem dX9_init_597 : decode cX9_init 597 = .ok (.bipush 43, 2) := by decide +kernel
theorem dX9_init_599 : decode cX9_init 599 = .ok (.iconst 3, 1) := by decide +kernel
theorem dX9_init_600 : decode cX9_init 600 = .ok (.iastore, 1) := by decide +kernel
theorem dX9_init_601 : decode cX9_init 601 = .ok (.dup, 1) := by decide +kernel
theorem dX9_init_602 : decode cX9_init 602 = .ok (.bipush 44, 2) := by decide +kernel
theorem dX9_init_604 : decode cX9_init 604 = .ok (.iconst 3, 1) := by decide +kernel
theorem dX9_init_605 : decode cX9_init 605 = .ok (.iastore, 1) := by decide +kernel
theorem dX9_init_606 : decode cX9_init 606 = .ok (.dup, 1) := by decide +kernel
theorem dX9_init_607 : decode cX9_init 607 = .ok (.bipush 45, 2) := by decide +kernel
theorem dX9_init_609 : decode cX9_init 609 = .ok (.iconst 3, 1) := by decide +kernel
theorem dX9_init_610 : decode cX9_init 610 = .ok (.iastore, 1) := by decide +kernel
theorem dX9_init_611 : decode cX9_init 611 = .ok (.dup, 1) := by decide +kernel
theorem dX9_init_612 : decode cX9_init 612 = .ok (.bipush 46, 2) := by decide +kernel
theorem dX9_init_614 : decode cX9_init 614 = .ok (.iconst 3, 1) := by decide +kernel
theorem dX9_init_615 : decode cX9_init 615 = .ok (.iastore, 1) := by decide +kernel
theorem dX9_init_616 : decode cX9_init 616 = .ok (.dup, 1) := by decide +kernel
theorem dX9_init_617 : decode cX9_init 617 = .ok (.bipush 47, 2) := by decide +kernel
theorem dX9_init_619 : decode cX9_init 619 = .ok (.iconst 3, 1) := by decide +kernel
theorem dX9_init_620 : decode cX9_init 620 = .ok (.iastore, 1) := by decide +kernel
theorem dX9_init_621 : decode cX9_init 621 = .ok (.dup, 1) := by decide +kernel
theorem dX9_init_622 : decode cX9_init 622 = .ok (.bipush 48, 2) := by decide +kernel
theorem dX9_init_624 : decode cX9_init 624 = .ok (.iconst 3, 1) := by decide +kernel
theorem dX9_init_625 : decode cX9_init 625 = .ok (.iastore, 1) := by decide +kernel
theorem dX9_init_626 : decode cX9_init 626 = .ok (.dup, 1) := by decide +kernel
theorem dX9_init_627 : decode cX9_init 627 = .ok (.bipush 49, 2) := by decide +kernel
theorem dX9_init_629 : decode cX9_init 629 = .ok (.iconst 3, 1) := by decide +kernel
theorem dX9_init_630 : decode cX9_init 630 = .ok (.iastore, 1) := by decide +kernel
theorem dX9_init_631 : decode cX9_init 631 = .ok (.dup, 1) := by decide +kernel
theorem dX9_init_632 : decode cX9_init 632 = .ok (.bipush 50, 2) := by decide +kernel
theorem dX9_init_634 : decode cX9_init 634 = .ok (.iconst 3, 1) := by decide +kernel
theorem dX9_init_635 : decode cX9_init 635 = .ok (.iastore, 1) := by decide +kernel
theorem dX9_init_636 : decode cX9_init 636 = .ok (.dup, 1) := by decide +kernel
theorem dX9_init_637 : decode cX9_init 637 = .ok (.bipush 51, 2) := by decide +kernel
theorem dX9_init_639 : decode cX9_init 639 = .ok (.iconst 3, 1) := by decide +kernel
theorem dX9_init_640 : decode cX9_init 640 = .ok (.iastore, 1) := by decide +kernel
theorem dX9_init_641 : decode cX9_init 641 = .ok (.dup, 1) := by decide +kernel
theorem dX9_init_642 : decode cX9_init 642 = .ok (.bipush 52, 2) := by decide +kernel
theorem dX9_init_644 : decode cX9_init 644 = .ok (.iconst 3, 1) := by decide +kernel
theorem dX9_init_645 : decode cX9_init 645 = .ok (.iastore, 1) := by decide +kernel
theorem dX9_init_646 : decode cX9_init 646 = .ok (.dup, 1) := by decide +kernel
theorem dX9_init_647 : decode cX9_init 647 = .ok (.bipush 53, 2) := by decide +kernel
theorem dX9_init_649 : decode cX9_init 649 = .ok (.iconst 3, 1) := by decide +kernel
theorem dX9_init_650 : decode cX9_init 650 = .ok (.iastore, 1) := by decide +kernel
theorem dX9_init_651 : decode cX9_init 651 = .ok (.dup, 1) := by decide +kernel
theorem dX9_init_652 : decode cX9_init 652 = .ok (.bipush 54, 2) := by decide +kernel
theorem dX9_init_654 : decode cX9_init 654 = .ok (.iconst 3, 1) := by decide +kernel
theorem dX9_init_655 : decode cX9_init 655 = .ok (.iastore, 1) := by decide +kernel
theorem dX9_init_656 : decode cX9_init 656 = .ok (.dup, 1) := by decide +kernel
theorem dX9_init_657 : decode cX9_init 657 = .ok (.bipush 55, 2) := by decide +kernel
theorem dX9_init_659 : decode cX9_init 659 = .ok (.iconst 3, 1) := by decide +kernel
theorem dX9_init_660 : decode cX9_init 660 = .ok (.iastore, 1) := by decide +kernel
theorem dX9_init_661 : decode cX9_init 661 = .ok (.dup, 1) := by decide +kernel
theorem dX9_init_662 : decode cX9_init 662 = .ok (.bipush 56, 2) := by decide +kernel
theorem dX9_init_664 : decode cX9_init 664 = .ok (.iconst 3, 1) := by decide +kernel
theorem dX9_init_665 : decode cX9_init 665 = .ok (.iastore, 1) := by decide +kernel
theorem dX9_init_666 : decode cX9_init 666 = .ok (.dup, 1) := by decide +kernel
theorem dX9_init_667 : decode cX9_init 667 = .ok (.bipush 57, 2) := by decide +kernel
theorem dX9_init_669 : decode cX9_init 669 = .ok (.iconst 3, 1) := by decide +kernel
theorem dX9_init_670 : decode cX9_init 670 = .ok (.iastore, 1) := by decide +kernel
theorem dX9_init_671 : decode cX9_init 671 = .ok (.dup, 1) := by decide +kernel
theorem dX9_init_672 : decode cX9_init 672 = .ok (.bipush 58, 2) := by decide +kernel
theorem dX9_init_674 : decode cX9_init 674 = .ok (.iconst 3, 1) := by decide +kernel
theorem dX9_init_675 : decode cX9_init 675 = .ok (.iastore, 1) := by decide +kernel
theorem dX9_init_676 : decode cX9_init 676 = .ok (.dup, 1) := by decide +kernel
theorem dX9_init_677 : decode cX9_init 677 = .ok (.bipush 59, 2) := by decide +kernel
theorem dX9_init_679 : decode cX9_init 679 = .ok (.iconst 3, 1) := by decide +kernel
theorem dX9_init_680 : decode cX9_init 680 = .ok (.iastore, 1) := by decide +kernel
theorem dX9_init_681 : decode cX9_init 681 = .ok (.putfield 19, 3) := by decide +kernel
theorem dX9_init_684 : decode cX9_init 684 = .ok (.aload_n 0, 1) := by decide +kernel
theorem dX9_init_685 : decode cX9_init 685 = .ok (.bipush 6, 2) := by decide +kernel
theorem dX9_init_687 : decode cX9_init 687 = .ok (.putfield 22, 3) := by decide +kernel
theorem dX9_init_690 : decode cX9_init 690 = .ok (.aload_n 0, 1) := by decide +kernel
theorem dX9_init_691 : decode cX9_init 691 = .ok (.iconst 2, 1) := by decide +kernel
theorem dX9_init_692 : decode cX9_init 692 = .ok (.putfield 26, 3) := by decide +kernel
theorem dX9_init_695 : decode cX9_init 695 = .ok (.aload_n 0, 1) := by decide +kernel
theorem dX9_init_696 : decode cX9_init 696 = .ok (.bipush 50, 2) := by decide +kernel
theorem dX9_init_698 : decode cX9_init 698 = .ok (.putfield 29, 3) := by decide +kernel
theorem dX9_init_701 : decode cX9_init 701 = .ok (.aload_n 0, 1) := by decide +kernel
theorem dX9_init_702 : decode cX9_init 702 = .ok (.bipush 60, 2) := by decide +kernel
theorem dX9_init_704 : decode cX9_init 704 = .ok (.newarray .int, 2) := by decide +kernel
theorem dX9_init_706 : decode cX9_init 706 = .ok (.putfield 32, 3) := by decide +kernel
theorem dX9_init_709 : decode cX9_init 709 = .ok (.aload_n 0, 1) := by decide +kernel
theorem dX9_init_710 : decode cX9_init 710 = .ok (.bipush 60, 2) := by decide +kernel
theorem dX9_init_712 : decode cX9_init 712 = .ok (.newarray .int, 2) := by decide +kernel
theorem dX9_init_714 : decode cX9_init 714 = .ok (.putfield 35, 3) := by decide +kernel
theorem dX9_init_717 : decode cX9_init 717 = .ok (.aload_n 0, 1) := by decide +kernel
theorem dX9_init_718 : decode cX9_init 718 = .ok (.bipush 40, 2) := by decide +kernel
theorem dX9_init_720 : decode cX9_init 720 = .ok (.newarray .int, 2) := by decide +kernel
theorem dX9_init_722 : decode cX9_init 722 = .ok (.putfield 38, 3) := by decide +kernel
theorem dX9_init_725 : decode cX9_init 725 = .ok (.aload_n 0, 1) := by decide +kernel
theorem dX9_init_726 : decode cX9_init 726 = .ok (.bipush 40, 2) := by decide +kernel
theorem dX9_init_728 : decode cX9_init 728 = .ok (.newarray .int, 2) := by decide +kernel
theorem dX9_init_730 : decode cX9_init 730 = .ok (.putfield 41, 3) := by decide +kernel
theorem dX9_init_733 : decode cX9_init 733 = .ok (.aload_n 0, 1) := by decide +kernel
theorem dX9_init_734 : decode cX9_init 734 = .ok (.bipush 40, 2) := by decide +kernel
theorem dX9_init_736 : decode cX9_init 736 = .ok (.newarray .int, 2) := by decide +kernel
theorem dX9_init_738 : decode cX9_init 738 = .ok (.putfield 44, 3) := by decide +kernel
theorem dX9_init_741 : decode cX9_init 741 = .ok (.aload_n 0, 1) := by decide +kernel
theorem dX9_init_742 : decode cX9_init 742 = .ok (.bipush 40, 2) := by decide +kernel
theorem dX9_init_744 : decode cX9_init 744 = .ok (.newarray .int, 2) := by decide +kernel
theorem dX9_init_746 : decode cX9_init 746 = .ok (.putfield 47, 3) := by decide +kernel
theorem dX9_init_749 : decode cX9_init 749 = .ok (.aload_n 0, 1) := by decide +kernel
theorem dX9_init_750 : decode cX9_init 750 = .ok (.bipush 120, 2) := by decide +kernel
theorem dX9_init_752 : decode cX9_init 752 = .ok (.newarray .byte, 2) := by decide +kernel
theorem dX9_init_754 : decode cX9_init 754 = .ok (.putfield 50, 3) := by decide +kernel
theorem dX9_init_757 : decode cX9_init 757 = .ok (.aload_n 0, 1) := by decide +kernel
theorem dX9_init_758 : decode cX9_init 758 = .ok (.sipush 260, 3) := by decide +kernel
theorem dX9_init_761 : decode cX9_init 761 = .ok (.newarray .byte, 2) := by decide +kernel
theorem dX9_init_763 : decode cX9_init 763 = .ok (.putfield 54, 3) := by decide +kernel
theorem dX9_init_766 : decode cX9_init 766 = .ok (.aload_n 0, 1) := by decide +kernel
theorem dX9_init_767 : decode cX9_init 767 = .ok (.sipush 260, 3) := by decide +kernel
theorem dX9_init_770 : decode cX9_init 770 = .ok (.newarray .int, 2) := by decide +kernel
theorem dX9_init_772 : decode cX9_init 772 = .ok (.putfield 57, 3) := by decide +kernel
theorem dX9_init_775 : decode cX9_init 775 = .ok (.aload_n 0, 1) := by decide +kernel
theorem dX9_init_776 : decode cX9_init 776 = .ok (.iconst 2, 1) := by decide +kernel
theorem dX9_init_777 : decode cX9_init 777 = .ok (.newarray .int, 2) := by decide +kernel
theorem dX9_init_779 : decode cX9_init 779 = .ok (.putfield 60, 3) := by decide +kernel
theorem dX9_init_782 : decode cX9_init 782 = .ok (.aload_n 0, 1) := by decide +kernel
theorem dX9_init_783 : decode cX9_init 783 = .ok (.bipush 122, 2) := by decide +kernel
theorem dX9_init_785 : decode cX9_init 785 = .ok (.newarray .short, 2) := by decide +kernel
theorem dX9_init_787 : decode cX9_init 787 = .ok (.putfield 63, 3) := by decide +kernel
theorem dX9_init_790 : decode cX9_init 790 = .ok (.aload_n 0, 1) := by decide +kernel
theorem dX9_init_791 : decode cX9_init 791 = .ok (.bipush 122, 2) := by decide +kernel
theorem dX9_init_793 : decode cX9_init 793 = .ok (.newarray .short, 2) := by decide +kernel
theorem dX9_init_795 : decode cX9_init 795 = .ok (.putfield 67, 3) := by decide +kernel
theorem dX9_init_798 : decode cX9_init 798 = .ok (.aload_n 0, 1) := by decide +kernel
theorem dX9_init_799 : decode cX9_init 799 = .ok (.bipush 7, 2) := by decide +kernel
theorem dX9_init_801 : decode cX9_init 801 = .ok (.newarray .int, 2) := by decide +kernel
theorem dX9_init_803 : decode cX9_init 803 = .ok (.putfield 70, 3) := by decide +kernel
theorem dX9_init_806 : decode cX9_init 806 = .ok (.aload_n 0, 1) := by decide +kernel
theorem dX9_init_807 : decode cX9_init 807 = .ok (.sipush 130, 3) := by decide +kernel
theorem dX9_init_810 : decode cX9_init 810 = .ok (.newarray .int, 2) := by decide +kernel
theorem dX9_init_812 : decode cX9_init 812 = .ok (.putfield 73, 3) := by decide +kernel
theorem dX9_init_815 : decode cX9_init 815 = .ok (.aload_n 0, 1) := by decide +kernel
theorem dX9_init_816 : decode cX9_init 816 = .ok (.bipush 36, 2) := by decide +kernel
theorem dX9_init_818 : decode cX9_init 818 = .ok (.newarray .int, 2) := by decide +kernel
theorem dX9_init_820 : decode cX9_init 820 = .ok (.putfield 76, 3) := by decide +kernel
theorem dX9_init_823 : decode cX9_init 823 = .ok (.aload_n 0, 1) := by decide +kernel
theorem dX9_init_824 : decode cX9_init 824 = .ok (.sipush 360, 3) := by decide +kernel
theorem dX9_init_827 : decode cX9_init 827 = .ok (.newarray .int, 2) := by decide +kernel
theorem dX9_init_829 : decode cX9_init 829 = .ok (.putfield 79, 3) := by decide +kernel
theorem dX9_init_832 : decode cX9_init 832 = .ok (.aload_n 0, 1) := by decide +kernel
theorem dX9_init_833 : decode cX9_init 833 = .ok (.sipush 360, 3) := by decide +kernel
theorem dX9_init_836 : decode cX9_init 836 = .ok (.newarray .int, 2) := by decide +kernel
theorem dX9_init_838 : decode cX9_init 838 = .ok (.putfield 82, 3) := by decide +kernel
theorem dX9_init_841 : decode cX9_init 841 = .ok (.aload_n 0, 1) := by decide +kernel
theorem dX9_init_842 : decode cX9_init 842 = .ok (.iconst 5, 1) := by decide +kernel
theorem dX9_init_843 : decode cX9_init 843 = .ok (.newarray .int, 2) := by decide +kernel
theorem dX9_init_845 : decode cX9_init 845 = .ok (.putfield 85, 3) := by decide +kernel
theorem dX9_init_848 : decode cX9_init 848 = .ok (.aload_n 0, 1) := by decide +kernel
theorem dX9_init_849 : decode cX9_init 849 = .ok (.bipush 30, 2) := by decide +kernel
theorem dX9_init_851 : decode cX9_init 851 = .ok (.newarray .int, 2) := by decide +kernel
theorem dX9_init_853 : decode cX9_init 853 = .ok (.putfield 88, 3) := by decide +kernel
theorem dX9_init_856 : decode cX9_init 856 = .ok (.aload_n 0, 1) := by decide +kernel
theorem dX9_init_857 : decode cX9_init 857 = .ok (.iconst 5, 1) := by decide +kernel
theorem dX9_init_858 : decode cX9_init 858 = .ok (.newarray .int, 2) := by decide +kernel
theorem dX9_init_860 : decode cX9_init 860 = .ok (.putfield 91, 3) := by decide +kernel
theorem dX9_init_863 : decode cX9_init 863 = .ok (.aload_n 0, 1) := by decide +kernel
theorem dX9_init_864 : decode cX9_init 864 = .ok (.bipush 50, 2) := by decide +kernel
theorem dX9_init_866 : decode cX9_init 866 = .ok (.newarray .int, 2) := by decide +kernel
theorem dX9_init_868 : decode cX9_init 868 = .ok (.putfield 94, 3) := by decide +kernel
theorem dX9_init_871 : decode cX9_init 871 = .ok (.aload_n 0, 1) := by decide +kernel
theorem dX9_init_872 : decode cX9_init 872 = .ok (.bipush 24, 2) := by decide +kernel
theorem dX9_init_874 : decode cX9_init 874 = .ok (.newarray .int, 2) := by decide +kernel
theorem dX9_init_876 : decode cX9_init 876 = .ok (.putfield 97, 3) := by decide +kernel
theorem dX9_init_879 : decode cX9_init 879 = .ok (.aload_n 0, 1) := by decide +kernel
theorem dX9_init_880 : decode cX9_init 880 = .ok (.bipush 6, 2) := by decide +kernel
theorem dX9_init_882 : decode cX9_init 882 = .ok (.newarray .int, 2) := by decide +kernel
theorem dX9_init_884 : decode cX9_init 884 = .ok (.dup, 1) := by decide +kernel
theorem dX9_init_885 : decode cX9_init 885 = .ok (.iconst 0, 1) := by decide +kernel
theorem dX9_init_886 : decode cX9_init 886 = .ok (.iconst (-1), 1) := by decide +kernel
theorem dX9_init_887 : decode cX9_init 887 = .ok (.iastore, 1) := by decide +kernel
theorem dX9_init_888 : decode cX9_init 888 = .ok (.dup, 1) := by decide +kernel
theorem dX9_init_889 : decode cX9_init 889 = .ok (.iconst 1, 1) := by decide +kernel
theorem dX9_init_890 : decode cX9_init 890 = .ok (.iconst (-1), 1) := by decide +kernel
theorem dX9_init_891 : decode cX9_init 891 = .ok (.iastore, 1) := by decide +kernel
theorem dX9_init_892 : decode cX9_init 892 = .ok (.dup, 1) := by decide +kernel
theorem dX9_init_893 : decode cX9_init 893 = .ok (.iconst 2, 1) := by decide +kernel
theorem dX9_init_894 : decode cX9_init 894 = .ok (.iconst (-1), 1) := by decide +kernel
theorem dX9_init_895 : decode cX9_init 895 = .ok (.iastore, 1) := by decide +kernel
theorem dX9_init_896 : decode cX9_init 896 = .ok (.dup, 1) := by decide +kernel
theorem dX9_init_897 : decode cX9_init 897 = .ok (.iconst 3, 1) := by decide +kernel
theorem dX9_init_898 : decode cX9_init 898 = .ok (.iconst (-1), 1) := by decide +kernel
theorem dX9_init_899 : decode cX9_init 899 = .ok (.iastore, 1) := by decide +kernel
theorem dX9_init_900 : decode cX9_init 900 = .ok (.dup, 1) := by decide +kernel
theorem dX9_init_901 : decode cX9_init 901 = .ok (.iconst 4, 1) := by decide +kernel
theorem dX9_init_902 : decode cX9_init 902 = .ok (.iconst (-1), 1) := by decide +kernel
theorem dX9_init_903 : decode cX9_init 903 = .ok (.iastore, 1) := by decide +kernel
theorem dX9_init_904 : decode cX9_init 904 = .ok (.dup, 1) := by decide +kernel
theorem dX9_init_905 : decode cX9_init 905 = .ok (.iconst 5, 1) := by decide +kernel
theorem dX9_init_906 : decode cX9_init 906 = .ok (.iconst (-1), 1) := by decide +kernel
theorem dX9_init_907 : decode cX9_init 907 = .ok (.iastore, 1) := by decide +kernel
theorem dX9_init_908 : decode cX9_init 908 = .ok (.putfield 100, 3) := by decide +kernel
theorem dX9_init_911 : decode cX9_init 911 = .ok (.aload_n 0, 1) := by decide +kernel
theorem dX9_init_912 : decode cX9_init 912 = .ok (.bipush 6, 2) := by decide +kernel
theorem dX9_init_914 : decode cX9_init 914 = .ok (.newarray .int, 2) := by decide +kernel
theorem dX9_init_916 : decode cX9_init 916 = .ok (.putfield 103, 3) := by decide +kernel
theorem dX9_init_919 : decode cX9_init 919 = .ok (.aload_n 0, 1) := by decide +kernel
theorem dX9_init_920 : decode cX9_init 920 = .ok (.sipush 360, 3) := by decide +kernel
theorem dX9_init_923 : decode cX9_init 923 = .ok (.newarray .long, 2) := by decide +kernel
theorem dX9_init_925 : decode cX9_init 925 = .ok (.putfield 106, 3) := by decide +kernel
theorem dX9_init_928 : decode cX9_init 928 = .ok (.aload_n 0, 1) := by decide +kernel
theorem dX9_init_929 : decode cX9_init 929 = .ok (.bipush 60, 2) := by decide +kernel
theorem dX9_init_931 : decode cX9_init 931 = .ok (.newarray .long, 2) := by decide +kernel
theorem dX9_init_933 : decode cX9_init 933 = .ok (.putfield 110, 3) := by decide +kernel
theorem dX9_init_936 : decode cX9_init 936 = .ok (.return_, 1) := by decide +kernel
theorem dX9_in_0 : decode cX9_in 0 = .ok (.iload_n 0, 1) := by decide +kernel
theorem dX9_in_1 : decode cX9_in 1 = .ok (.iload_n 1, 1) := by decide +kernel
theorem dX9_in_2 : decode cX9_in 2 = .ok (.if_icmp .lt 12, 3) := by decide +kernel
theorem dX9_in_5 : decode cX9_in 5 = .ok (.iload_n 0, 1) := by decide +kernel
theorem dX9_in_6 : decode cX9_in 6 = .ok (.iload_n 2, 1) := by decide +kernel
theorem dX9_in_7 : decode cX9_in 7 = .ok (.if_icmp .gt 7, 3) := by decide +kernel
theorem dX9_in_10 : decode cX9_in 10 = .ok (.iconst 1, 1) := by decide +kernel
theorem dX9_in_11 : decode cX9_in 11 = .ok (.goto 4, 3) := by decide +kernel
theorem dX9_in_14 : decode cX9_in 14 = .ok (.iconst 0, 1) := by decide +kernel
theorem dX9_in_15 : decode cX9_in 15 = .ok (.ireturn, 1) := by decide +kernel
theorem dX9_isCell_0 : decode cX9_isCell 0 = .ok (.iload_n 0, 1) := by decide +kernel
theorem dX9_isCell_1 : decode cX9_isCell 1 = .ok (.iconst 0, 1) := by decide +kernel
theorem dX9_isCell_2 : decode cX9_isCell 2 = .ok (.bipush 35, 2) := by decide +kernel
theorem dX9_isCell_4 : decode cX9_isCell 4 = .ok (.invokestatic 116, 3) := by decide +kernel
theorem dX9_isCell_7 : decode cX9_isCell 7 = .ok (.ireturn, 1) := by decide +kernel
theorem dX9_isDay_0 : decode cX9_isDay 0 = .ok (.iload_n 0, 1) := by decide +kernel
theorem dX9_isDay_1 : decode cX9_isDay 1 = .ok (.iconst 0, 1) := by decide +kernel
theorem dX9_isDay_2 : decode cX9_isDay 2 = .ok (.bipush 59, 2) := by decide +kernel
theorem dX9_isDay_4 : decode cX9_isDay 4 = .ok (.invokestatic 116, 3) := by decide +kernel
theorem dX9_isDay_7 : decode cX9_isDay 7 = .ok (.ireturn, 1) := by decide +kernel
theorem dX9_beside_0 : decode cX9_beside 0 = .ok (.iload_n 1, 1) := by decide +kernel
theorem dX9_beside_1 : decode cX9_beside 1 = .ok (.iconst 1, 1) := by decide +kernel
theorem dX9_beside_2 : decode cX9_beside 2 = .ok (.if_icmp .ne 18, 3) := by decide +kernel
theorem dX9_beside_5 : decode cX9_beside 5 = .ok (.iload_n 0, 1) := by decide +kernel
theorem dX9_beside_6 : decode cX9_beside 6 = .ok (.bipush 6, 2) := by decide +kernel
theorem dX9_beside_8 : decode cX9_beside 8 = .ok (.if_icmp .ge 7, 3) := by decide +kernel
theorem dX9_beside_11 : decode cX9_beside 11 = .ok (.iconst (-1), 1) := by decide +kernel
theorem dX9_beside_12 : decode cX9_beside 12 = .ok (.goto 7, 3) := by decide +kernel
theorem dX9_beside_15 : decode cX9_beside 15 = .ok (.iload_n 0, 1) := by decide +kernel
theorem dX9_beside_16 : decode cX9_beside 16 = .ok (.bipush 6, 2) := by decide +kernel
theorem dX9_beside_18 : decode cX9_beside 18 = .ok (.isub, 1) := by decide +kernel
theorem dX9_beside_19 : decode cX9_beside 19 = .ok (.ireturn, 1) := by decide +kernel
theorem dX9_beside_20 : decode cX9_beside 20 = .ok (.iload_n 1, 1) := by decide +kernel
theorem dX9_beside_21 : decode cX9_beside 21 = .ok (.iconst 2, 1) := by decide +kernel
theorem dX9_beside_22 : decode cX9_beside 22 = .ok (.if_icmp .ne 19, 3) := by decide +kernel
theorem dX9_beside_25 : decode cX9_beside 25 = .ok (.iload_n 0, 1) := by decide +kernel
theorem dX9_beside_26 : decode cX9_beside 26 = .ok (.bipush 6, 2) := by decide +kernel
theorem dX9_beside_28 : decode cX9_beside 28 = .ok (.irem, 1) := by decide +kernel
theorem dX9_beside_29 : decode cX9_beside 29 = .ok (.iconst 5, 1) := by decide +kernel
theorem dX9_beside_30 : decode cX9_beside 30 = .ok (.if_icmp .ne 7, 3) := by decide +kernel
theorem dX9_beside_33 : decode cX9_beside 33 = .ok (.iconst (-1), 1) := by decide +kernel
theorem dX9_beside_34 : decode cX9_beside 34 = .ok (.goto 6, 3) := by decide +kernel
theorem dX9_beside_37 : decode cX9_beside 37 = .ok (.iload_n 0, 1) := by decide +kernel
theorem dX9_beside_38 : decode cX9_beside 38 = .ok (.iconst 1, 1) := by decide +kernel
theorem dX9_beside_39 : decode cX9_beside 39 = .ok (.iadd, 1) := by decide +kernel
theorem dX9_beside_40 : decode cX9_beside 40 = .ok (.ireturn, 1) := by decide +kernel
theorem dX9_beside_41 : decode cX9_beside 41 = .ok (.iload_n 1, 1) := by decide +kernel
theorem dX9_beside_42 : decode cX9_beside 42 = .ok (.iconst 3, 1) := by decide +kernel
theorem dX9_beside_43 : decode cX9_beside 43 = .ok (.if_icmp .ne 21, 3) := by decide +kernel
theorem dX9_beside_46 : decode cX9_beside 46 = .ok (.iload_n 0, 1) := by decide +kernel
theorem dX9_beside_47 : decode cX9_beside 47 = .ok (.bipush 6, 2) := by decide +kernel
theorem dX9_beside_49 : decode cX9_beside 49 = .ok (.iadd, 1) := by decide +kernel
theorem dX9_beside_50 : decode cX9_beside 50 = .ok (.bipush 36, 2) := by decide +kernel
theorem dX9_beside_52 : decode cX9_beside 52 = .ok (.if_icmp .ge 10, 3) := by decide +kernel
theorem dX9_beside_55 : decode cX9_beside 55 = .ok (.iload_n 0, 1) := by decide +kernel
theorem dX9_beside_56 : decode cX9_beside 56 = .ok (.bipush 6, 2) := by decide +kernel
theorem dX9_beside_58 : decode cX9_beside 58 = .ok (.iadd, 1) := by decide +kernel
theorem dX9_beside_59 : decode cX9_beside 59 = .ok (.goto 4, 3) := by decide +kernel
theorem dX9_beside_62 : decode cX9_beside 62 = .ok (.iconst (-1), 1) := by decide +kernel
theorem dX9_beside_63 : decode cX9_beside 63 = .ok (.ireturn, 1) := by decide +kernel
theorem dX9_beside_64 : decode cX9_beside 64 = .ok (.iload_n 0, 1) := by decide +kernel
theorem dX9_beside_65 : decode cX9_beside 65 = .ok (.bipush 6, 2) := by decide +kernel
theorem dX9_beside_67 : decode cX9_beside 67 = .ok (.irem, 1) := by decide +kernel
theorem dX9_beside_68 : decode cX9_beside 68 = .ok (.ifCond .ne 7, 3) := by decide +kernel
theorem dX9_beside_71 : decode cX9_beside 71 = .ok (.iconst (-1), 1) := by decide +kernel
theorem dX9_beside_72 : decode cX9_beside 72 = .ok (.goto 6, 3) := by decide +kernel
theorem dX9_beside_75 : decode cX9_beside 75 = .ok (.iload_n 0, 1) := by decide +kernel
theorem dX9_beside_76 : decode cX9_beside 76 = .ok (.iconst 1, 1) := by decide +kernel
theorem dX9_beside_77 : decode cX9_beside 77 = .ok (.isub, 1) := by decide +kernel
theorem dX9_beside_78 : decode cX9_beside 78 = .ok (.ireturn, 1) := by decide +kernel
theorem dX9_isHollow_0 : decode cX9_isHollow 0 = .ok (.iconst 1, 1) := by decide +kernel
theorem dX9_isHollow_1 : decode cX9_isHollow 1 = .ok (.istore_n 2, 1) := by decide +kernel
theorem dX9_isHollow_2 : decode cX9_isHollow 2 = .ok (.iload_n 2, 1) := by decide +kernel
theorem dX9_isHollow_3 : decode cX9_isHollow 3 = .ok (.iconst 4, 1) := by decide +kernel
theorem dX9_isHollow_4 : decode cX9_isHollow 4 = .ok (.if_icmp .gt 38, 3) := by decide +kernel
theorem dX9_isHollow_7 : decode cX9_isHollow 7 = .ok (.iload_n 1, 1) := by decide +kernel
theorem dX9_isHollow_8 : decode cX9_isHollow 8 = .ok (.iload_n 2, 1) := by decide +kernel
theorem dX9_isHollow_9 : decode cX9_isHollow 9 = .ok (.invokestatic 120, 3) := by decide +kernel
theorem dX9_isHollow_12 : decode cX9_isHollow 12 = .ok (.ifCond .lt 24, 3) := by decide +kernel
theorem dX9_isHollow_15 : decode cX9_isHollow 15 = .ok (.aload_n 0, 1) := by decide +kernel
theorem dX9_isHollow_16 : decode cX9_isHollow 16 = .ok (.getfield 7, 3) := by decide +kernel
theorem dX9_isHollow_19 : decode cX9_isHollow 19 = .ok (.iload_n 1, 1) := by decide +kernel
theorem dX9_isHollow_20 : decode cX9_isHollow 20 = .ok (.iaload, 1) := by decide +kernel
theorem dX9_isHollow_21 : decode cX9_isHollow 21 = .ok (.aload_n 0, 1) := by decide +kernel
theorem dX9_isHollow_22 : decode cX9_isHollow 22 = .ok (.getfield 7, 3) := by decide +kernel
theorem dX9_isHollow_25 : decode cX9_isHollow 25 = .ok (.iload_n 1, 1) := by decide +kernel
theorem dX9_isHollow_26 : decode cX9_isHollow 26 = .ok (.iload_n 2, 1) := by decide +kernel
theorem dX9_isHollow_27 : decode cX9_isHollow 27 = .ok (.invokestatic 120, 3) := by decide +kernel
theorem dX9_isHollow_30 : decode cX9_isHollow 30 = .ok (.iaload, 1) := by decide +kernel
theorem dX9_isHollow_31 : decode cX9_isHollow 31 = .ok (.if_icmp .lt 5, 3) := by decide +kernel
theorem dX9_isHollow_34 : decode cX9_isHollow 34 = .ok (.iconst 0, 1) := by decide +kernel
theorem dX9_isHollow_35 : decode cX9_isHollow 35 = .ok (.ireturn, 1) := by decide +kernel
theorem dX9_isHollow_36 : decode cX9_isHollow 36 = .ok (.iinc 2 1, 3) := by decide +kernel
theorem dX9_isHollow_39 : decode cX9_isHollow 39 = .ok (.goto (-37), 3) := by decide +kernel
theorem dX9_isHollow_42 : decode cX9_isHollow 42 = .ok (.iconst 1, 1) := by decide +kernel
theorem dX9_isHollow_43 : decode cX9_isHollow 43 = .ok (.ireturn, 1) := by decide +kernel
theorem dX9_costOf_0 : decode cX9_costOf 0 = .ok (.aload_n 0, 1) := by decide +kernel
theorem dX9_costOf_1 : decode cX9_costOf 1 = .ok (.getfield 7, 3) := by decide +kernel
theorem dX9_costOf_4 : decode cX9_costOf 4 = .ok (.iload_n 1, 1) := by decide +kernel
theorem dX9_costOf_5 : decode cX9_costOf 5 = .ok (.iload_n 2, 1) := by decide +kernel
theorem dX9_costOf_6 : decode cX9_costOf 6 = .ok (.invokestatic 120, 3) := by decide +kernel
theorem dX9_costOf_9 : decode cX9_costOf 9 = .ok (.iaload, 1) := by decide +kernel
theorem dX9_costOf_10 : decode cX9_costOf 10 = .ok (.aload_n 0, 1) := by decide +kernel
theorem dX9_costOf_11 : decode cX9_costOf 11 = .ok (.getfield 7, 3) := by decide +kernel
theorem dX9_costOf_14 : decode cX9_costOf 14 = .ok (.iload_n 1, 1) := by decide +kernel
theorem dX9_costOf_15 : decode cX9_costOf 15 = .ok (.iaload, 1) := by decide +kernel
theorem dX9_costOf_16 : decode cX9_costOf 16 = .ok (.isub, 1) := by decide +kernel
theorem dX9_costOf_17 : decode cX9_costOf 17 = .ok (.istore_n 3, 1) := by decide +kernel
theorem dX9_costOf_18 : decode cX9_costOf 18 = .ok (.iconst 3, 1) := by decide +kernel
theorem dX9_costOf_19 : decode cX9_costOf 19 = .ok (.iload_n 3, 1) := by decide +kernel
theorem dX9_costOf_20 : decode cX9_costOf 20 = .ok (.ifCond .le 9, 3) := by decide +kernel
theorem dX9_costOf_23 : decode cX9_costOf 23 = .ok (.iconst 2, 1) := by decide +kernel
theorem dX9_costOf_24 : decode cX9_costOf 24 = .ok (.iload_n 3, 1) := by decide +kernel
theorem dX9_costOf_25 : decode cX9_costOf 25 = .ok (.imul, 1) := by decide +kernel
theorem dX9_costOf_26 : decode cX9_costOf 26 = .ok (.goto 4, 3) := by decide +kernel
theorem dX9_costOf_29 : decode cX9_costOf 29 = .ok (.iconst 0, 1) := by decide +kernel
theorem dX9_costOf_30 : decode cX9_costOf 30 = .ok (.iadd, 1) := by decide +kernel
theorem dX9_costOf_31 : decode cX9_costOf 31 = .ok (.bipush 6, 2) := by decide +kernel
theorem dX9_costOf_33 : decode cX9_costOf 33 = .ok (.iadd, 1) := by decide +kernel
theorem dX9_costOf_34 : decode cX9_costOf 34 = .ok (.aload_n 0, 1) := by decide +kernel
theorem dX9_costOf_35 : decode cX9_costOf 35 = .ok (.getfield 22, 3) := by decide +kernel
theorem dX9_costOf_38 : decode cX9_costOf 38 = .ok (.isub, 1) := by decide +kernel
theorem dX9_costOf_39 : decode cX9_costOf 39 = .ok (.ireturn, 1) := by decide +kernel
theorem dX9_isLooked_0 : decode cX9_isLooked 0 = .ok (.aload_n 0, 1) := by decide +kernel
theorem dX9_isLooked_1 : decode cX9_isLooked 1 = .ok (.getfield 124, 3) := by decide +kernel
theorem dX9_isLooked_4 : decode cX9_isLooked 4 = .ok (.iload_n 1, 1) := by decide +kernel
theorem dX9_isLooked_5 : decode cX9_isLooked 5 = .ok (.lshr, 1) := by decide +kernel
theorem dX9_isLooked_6 : decode cX9_isLooked 6 = .ok (.lconst 1, 1) := by decide +kernel
theorem dX9_isLooked_7 : decode cX9_isLooked 7 = .ok (.land, 1) := by decide +kernel
theorem dX9_isLooked_8 : decode cX9_isLooked 8 = .ok (.lconst 1, 1) := by decide +kernel
theorem dX9_isLooked_9 : decode cX9_isLooked 9 = .ok (.lcmp, 1) := by decide +kernel
theorem dX9_isLooked_10 : decode cX9_isLooked 10 = .ok (.ifCond .ne 7, 3) := by decide +kernel
theorem dX9_isLooked_13 : decode cX9_isLooked 13 = .ok (.iconst 1, 1) := by decide +kernel
theorem dX9_isLooked_14 : decode cX9_isLooked 14 = .ok (.goto 4, 3) := by decide +kernel
theorem dX9_isLooked_17 : decode cX9_isLooked 17 = .ok (.iconst 0, 1) := by decide +kernel
theorem dX9_isLooked_18 : decode cX9_isLooked 18 = .ok (.ireturn, 1) := by decide +kernel
theorem dX9_bitsIn_0 : decode cX9_bitsIn 0 = .ok (.iconst 0, 1) := by decide +kernel
theorem dX9_bitsIn_1 : decode cX9_bitsIn 1 = .ok (.istore_n 2, 1) := by decide +kernel
theorem dX9_bitsIn_2 : decode cX9_bitsIn 2 = .ok (.lload_n 0, 1) := by decide +kernel
theorem dX9_bitsIn_3 : decode cX9_bitsIn 3 = .ok (.lstore_n 3, 1) := by decide +kernel
theorem dX9_bitsIn_4 : decode cX9_bitsIn 4 = .ok (.lload_n 3, 1) := by decide +kernel
theorem dX9_bitsIn_5 : decode cX9_bitsIn 5 = .ok (.lconst 0, 1) := by decide +kernel
theorem dX9_bitsIn_6 : decode cX9_bitsIn 6 = .ok (.lcmp, 1) := by decide +kernel
theorem dX9_bitsIn_7 : decode cX9_bitsIn 7 = .ok (.ifCond .eq 15, 3) := by decide +kernel
theorem dX9_bitsIn_10 : decode cX9_bitsIn 10 = .ok (.iinc 2 1, 3) := by decide +kernel
theorem dX9_bitsIn_13 : decode cX9_bitsIn 13 = .ok (.lload_n 3, 1) := by decide +kernel
theorem dX9_bitsIn_14 : decode cX9_bitsIn 14 = .ok (.lload_n 3, 1) := by decide +kernel
theorem dX9_bitsIn_15 : decode cX9_bitsIn 15 = .ok (.lconst 1, 1) := by decide +kernel
theorem dX9_bitsIn_16 : decode cX9_bitsIn 16 = .ok (.lsub, 1) := by decide +kernel
theorem dX9_bitsIn_17 : decode cX9_bitsIn 17 = .ok (.land, 1) := by decide +kernel
theorem dX9_bitsIn_18 : decode cX9_bitsIn 18 = .ok (.lstore_n 3, 1) := by decide +kernel
theorem dX9_bitsIn_19 : decode cX9_bitsIn 19 = .ok (.goto (-15), 3) := by decide +kernel
theorem dX9_bitsIn_22 : decode cX9_bitsIn 22 = .ok (.iload_n 2, 1) := by decide +kernel
theorem dX9_bitsIn_23 : decode cX9_bitsIn 23 = .ok (.ireturn, 1) := by decide +kernel
theorem dX9_valueAt_0 : decode cX9_valueAt 0 = .ok (.iload_n 1, 1) := by decide +kernel
theorem dX9_valueAt_1 : decode cX9_valueAt 1 = .ok (.tableswitch 68 0 4 #[35, 42, 49, 56, 63], 35) := by decide +kernel
theorem dX9_valueAt_36 : decode cX9_valueAt 36 = .ok (.aload_n 0, 1) := by decide +kernel
theorem dX9_valueAt_37 : decode cX9_valueAt 37 = .ok (.getfield 7, 3) := by decide +kernel
theorem dX9_valueAt_40 : decode cX9_valueAt 40 = .ok (.iload_n 2, 1) := by decide +kernel
theorem dX9_valueAt_41 : decode cX9_valueAt 41 = .ok (.iaload, 1) := by decide +kernel
theorem dX9_valueAt_42 : decode cX9_valueAt 42 = .ok (.ireturn, 1) := by decide +kernel
theorem dX9_valueAt_43 : decode cX9_valueAt 43 = .ok (.aload_n 0, 1) := by decide +kernel
theorem dX9_valueAt_44 : decode cX9_valueAt 44 = .ok (.getfield 13, 3) := by decide +kernel
theorem dX9_valueAt_47 : decode cX9_valueAt 47 = .ok (.iload_n 2, 1) := by decide +kernel
theorem dX9_valueAt_48 : decode cX9_valueAt 48 = .ok (.iaload, 1) := by decide +kernel
end
section
theorem dX9_valueAt_49 : decode cX9_valueAt 49 = .ok (.ireturn, 1) := by decide +kernel
theorem dX9_valueAt_50 : decode cX9_valueAt 50 = .ok (.aload_n 0, 1) := by decide +kernel
theorem dX9_valueAt_51 : decode cX9_valueAt 51 = .ok (.getfield 16, 3) := by decide +kernel
theorem dX9_valueAt_54 : decode cX9_valueAt 54 = .ok (.iload_n 2, 1) := by decide +kernel
theorem dX9_valueAt_55 : decode cX9_valueAt 55 = .ok (.iaload, 1) := by decide +kernel
theorem dX9_valueAt_56 : decode cX9_valueAt 56 = .ok (.ireturn, 1) := by decide +kernel
theorem dX9_valueAt_57 : decode cX9_valueAt 57 = .ok (.aload_n 0, 1) := by decide +kernel
theorem dX9_valueAt_58 : decode cX9_valueAt 58 = .ok (.getfield 19, 3) := by decide +kernel
theorem dX9_valueAt_61 : decode cX9_valueAt 61 = .ok (.iload_n 2, 1) := by decide +kernel
theorem dX9_valueAt_62 : decode cX9_valueAt 62 = .ok (.iaload, 1) := by decide +kernel
theorem dX9_valueAt_63 : decode cX9_valueAt 63 = .ok (.ireturn, 1) := by decide +kernel
theorem dX9_valueAt_64 : decode cX9_valueAt 64 = .ok (.aload_n 0, 1) := by decide +kernel
theorem dX9_valueAt_65 : decode cX9_valueAt 65 = .ok (.getfield 22, 3) := by decide +kernel
theorem dX9_valueAt_68 : decode cX9_valueAt 68 = .ok (.ireturn, 1) := by decide +kernel
theorem dX9_valueAt_69 : decode cX9_valueAt 69 = .ok (.aload_n 0, 1) := by decide +kernel
theorem dX9_valueAt_70 : decode cX9_valueAt 70 = .ok (.getfield 26, 3) := by decide +kernel
theorem dX9_valueAt_73 : decode cX9_valueAt 73 = .ok (.ireturn, 1) := by decide +kernel
theorem dX9_lays_0 : decode cX9_lays 0 = .ok (.iload_n 1, 1) := by decide +kernel
theorem dX9_lays_1 : decode cX9_lays 1 = .ok (.tableswitch 83 0 4 #[35, 45, 55, 65, 75], 35) := by decide +kernel
theorem dX9_lays_36 : decode cX9_lays 36 = .ok (.aload_n 0, 1) := by decide +kernel
theorem dX9_lays_37 : decode cX9_lays 37 = .ok (.getfield 7, 3) := by decide +kernel
theorem dX9_lays_40 : decode cX9_lays 40 = .ok (.iload_n 2, 1) := by decide +kernel
theorem dX9_lays_41 : decode cX9_lays 41 = .ok (.iload_n 3, 1) := by decide +kernel
theorem dX9_lays_42 : decode cX9_lays 42 = .ok (.iastore, 1) := by decide +kernel
theorem dX9_lays_43 : decode cX9_lays 43 = .ok (.goto 46, 3) := by decide +kernel
theorem dX9_lays_46 : decode cX9_lays 46 = .ok (.aload_n 0, 1) := by decide +kernel
theorem dX9_lays_47 : decode cX9_lays 47 = .ok (.getfield 13, 3) := by decide +kernel
theorem dX9_lays_50 : decode cX9_lays 50 = .ok (.iload_n 2, 1) := by decide +kernel
theorem dX9_lays_51 : decode cX9_lays 51 = .ok (.iload_n 3, 1) := by decide +kernel
theorem dX9_lays_52 : decode cX9_lays 52 = .ok (.iastore, 1) := by decide +kernel
theorem dX9_lays_53 : decode cX9_lays 53 = .ok (.goto 36, 3) := by decide +kernel
theorem dX9_lays_56 : decode cX9_lays 56 = .ok (.aload_n 0, 1) := by decide +kernel
theorem dX9_lays_57 : decode cX9_lays 57 = .ok (.getfield 16, 3) := by decide +kernel
theorem dX9_lays_60 : decode cX9_lays 60 = .ok (.iload_n 2, 1) := by decide +kernel
theorem dX9_lays_61 : decode cX9_lays 61 = .ok (.iload_n 3, 1) := by decide +kernel
theorem dX9_lays_62 : decode cX9_lays 62 = .ok (.iastore, 1) := by decide +kernel
theorem dX9_lays_63 : decode cX9_lays 63 = .ok (.goto 26, 3) := by decide +kernel
theorem dX9_lays_66 : decode cX9_lays 66 = .ok (.aload_n 0, 1) := by decide +kernel
theorem dX9_lays_67 : decode cX9_lays 67 = .ok (.getfield 19, 3) := by decide +kernel
theorem dX9_lays_70 : decode cX9_lays 70 = .ok (.iload_n 2, 1) := by decide +kernel
theorem dX9_lays_71 : decode cX9_lays 71 = .ok (.iload_n 3, 1) := by decide +kernel
theorem dX9_lays_72 : decode cX9_lays 72 = .ok (.iastore, 1) := by decide +kernel
theorem dX9_lays_73 : decode cX9_lays 73 = .ok (.goto 16, 3) := by decide +kernel
theorem dX9_lays_76 : decode cX9_lays 76 = .ok (.aload_n 0, 1) := by decide +kernel
theorem dX9_lays_77 : decode cX9_lays 77 = .ok (.iload_n 3, 1) := by decide +kernel
theorem dX9_lays_78 : decode cX9_lays 78 = .ok (.putfield 22, 3) := by decide +kernel
theorem dX9_lays_81 : decode cX9_lays 81 = .ok (.goto 8, 3) := by decide +kernel
theorem dX9_lays_84 : decode cX9_lays 84 = .ok (.aload_n 0, 1) := by decide +kernel
theorem dX9_lays_85 : decode cX9_lays 85 = .ok (.iload_n 3, 1) := by decide +kernel
theorem dX9_lays_86 : decode cX9_lays 86 = .ok (.putfield 26, 3) := by decide +kernel
theorem dX9_lays_89 : decode cX9_lays 89 = .ok (.return_, 1) := by decide +kernel
theorem dX9_changes_0 : decode cX9_changes 0 = .ok (.aload_n 0, 1) := by decide +kernel
theorem dX9_changes_1 : decode cX9_changes 1 = .ok (.iload_n 1, 1) := by decide +kernel
theorem dX9_changes_2 : decode cX9_changes 2 = .ok (.iload_n 2, 1) := by decide +kernel
theorem dX9_changes_3 : decode cX9_changes 3 = .ok (.invokevirtual 128, 3) := by decide +kernel
theorem dX9_changes_6 : decode cX9_changes 6 = .ok (.istore 4, 2) := by decide +kernel
theorem dX9_changes_8 : decode cX9_changes 8 = .ok (.iload 4, 2) := by decide +kernel
theorem dX9_changes_10 : decode cX9_changes 10 = .ok (.iload_n 3, 1) := by decide +kernel
theorem dX9_changes_11 : decode cX9_changes 11 = .ok (.if_icmp .ne 6, 3) := by decide +kernel
theorem dX9_changes_14 : decode cX9_changes 14 = .ok (.iload 4, 2) := by decide +kernel
theorem dX9_changes_16 : decode cX9_changes 16 = .ok (.ireturn, 1) := by decide +kernel
theorem dX9_changes_17 : decode cX9_changes 17 = .ok (.aload_n 0, 1) := by decide +kernel
theorem dX9_changes_18 : decode cX9_changes 18 = .ok (.iconst 0, 1) := by decide +kernel
theorem dX9_changes_19 : decode cX9_changes 19 = .ok (.putfield 131, 3) := by decide +kernel
theorem dX9_changes_22 : decode cX9_changes 22 = .ok (.aload_n 0, 1) := by decide +kernel
theorem dX9_changes_23 : decode cX9_changes 23 = .ok (.getfield 134, 3) := by decide +kernel
theorem dX9_changes_26 : decode cX9_changes 26 = .ok (.bipush 40, 2) := by decide +kernel
theorem dX9_changes_28 : decode cX9_changes 28 = .ok (.if_icmp .ne 93, 3) := by decide +kernel
theorem dX9_changes_31 : decode cX9_changes 31 = .ok (.iconst 1, 1) := by decide +kernel
theorem dX9_changes_32 : decode cX9_changes 32 = .ok (.istore 5, 2) := by decide +kernel
theorem dX9_changes_34 : decode cX9_changes 34 = .ok (.iload 5, 2) := by decide +kernel
theorem dX9_changes_36 : decode cX9_changes 36 = .ok (.bipush 40, 2) := by decide +kernel
theorem dX9_changes_38 : decode cX9_changes 38 = .ok (.if_icmp .ge 73, 3) := by decide +kernel
theorem dX9_changes_41 : decode cX9_changes 41 = .ok (.aload_n 0, 1) := by decide +kernel
theorem dX9_changes_42 : decode cX9_changes 42 = .ok (.getfield 38, 3) := by decide +kernel
theorem dX9_changes_45 : decode cX9_changes 45 = .ok (.iload 5, 2) := by decide +kernel
theorem dX9_changes_47 : decode cX9_changes 47 = .ok (.iconst 1, 1) := by decide +kernel
theorem dX9_changes_48 : decode cX9_changes 48 = .ok (.isub, 1) := by decide +kernel
theorem dX9_changes_49 : decode cX9_changes 49 = .ok (.aload_n 0, 1) := by decide +kernel
theorem dX9_changes_50 : decode cX9_changes 50 = .ok (.getfield 38, 3) := by decide +kernel
theorem dX9_changes_53 : decode cX9_changes 53 = .ok (.iload 5, 2) := by decide +kernel
theorem dX9_changes_55 : decode cX9_changes 55 = .ok (.iaload, 1) := by decide +kernel
theorem dX9_changes_56 : decode cX9_changes 56 = .ok (.iastore, 1) := by decide +kernel
theorem dX9_changes_57 : decode cX9_changes 57 = .ok (.aload_n 0, 1) := by decide +kernel
theorem dX9_changes_58 : decode cX9_changes 58 = .ok (.getfield 41, 3) := by decide +kernel
theorem dX9_changes_61 : decode cX9_changes 61 = .ok (.iload 5, 2) := by decide +kernel
theorem dX9_changes_63 : decode cX9_changes 63 = .ok (.iconst 1, 1) := by decide +kernel
theorem dX9_changes_64 : decode cX9_changes 64 = .ok (.isub, 1) := by decide +kernel
theorem dX9_changes_65 : decode cX9_changes 65 = .ok (.aload_n 0, 1) := by decide +kernel
theorem dX9_changes_66 : decode cX9_changes 66 = .ok (.getfield 41, 3) := by decide +kernel
theorem dX9_changes_69 : decode cX9_changes 69 = .ok (.iload 5, 2) := by decide +kernel
theorem dX9_changes_71 : decode cX9_changes 71 = .ok (.iaload, 1) := by decide +kernel
theorem dX9_changes_72 : decode cX9_changes 72 = .ok (.iastore, 1) := by decide +kernel
theorem dX9_changes_73 : decode cX9_changes 73 = .ok (.aload_n 0, 1) := by decide +kernel
theorem dX9_changes_74 : decode cX9_changes 74 = .ok (.getfield 44, 3) := by decide +kernel
theorem dX9_changes_77 : decode cX9_changes 77 = .ok (.iload 5, 2) := by decide +kernel
theorem dX9_changes_79 : decode cX9_changes 79 = .ok (.iconst 1, 1) := by decide +kernel
theorem dX9_changes_80 : decode cX9_changes 80 = .ok (.isub, 1) := by decide +kernel
theorem dX9_changes_81 : decode cX9_changes 81 = .ok (.aload_n 0, 1) := by decide +kernel
theorem dX9_changes_82 : decode cX9_changes 82 = .ok (.getfield 44, 3) := by decide +kernel
theorem dX9_changes_85 : decode cX9_changes 85 = .ok (.iload 5, 2) := by decide +kernel
theorem dX9_changes_87 : decode cX9_changes 87 = .ok (.iaload, 1) := by decide +kernel
theorem dX9_changes_88 : decode cX9_changes 88 = .ok (.iastore, 1) := by decide +kernel
theorem dX9_changes_89 : decode cX9_changes 89 = .ok (.aload_n 0, 1) := by decide +kernel
theorem dX9_changes_90 : decode cX9_changes 90 = .ok (.getfield 47, 3) := by decide +kernel
theorem dX9_changes_93 : decode cX9_changes 93 = .ok (.iload 5, 2) := by decide +kernel
theorem dX9_changes_95 : decode cX9_changes 95 = .ok (.iconst 1, 1) := by decide +kernel
theorem dX9_changes_96 : decode cX9_changes 96 = .ok (.isub, 1) := by decide +kernel
theorem dX9_changes_97 : decode cX9_changes 97 = .ok (.aload_n 0, 1) := by decide +kernel
theorem dX9_changes_98 : decode cX9_changes 98 = .ok (.getfield 47, 3) := by decide +kernel
theorem dX9_changes_101 : decode cX9_changes 101 = .ok (.iload 5, 2) := by decide +kernel
theorem dX9_changes_103 : decode cX9_changes 103 = .ok (.iaload, 1) := by decide +kernel
theorem dX9_changes_104 : decode cX9_changes 104 = .ok (.iastore, 1) := by decide +kernel
theorem dX9_changes_105 : decode cX9_changes 105 = .ok (.iinc 5 1, 3) := by decide +kernel
theorem dX9_changes_108 : decode cX9_changes 108 = .ok (.goto (-74), 3) := by decide +kernel
theorem dX9_changes_111 : decode cX9_changes 111 = .ok (.aload_n 0, 1) := by decide +kernel
theorem dX9_changes_112 : decode cX9_changes 112 = .ok (.dup, 1) := by decide +kernel
theorem dX9_changes_113 : decode cX9_changes 113 = .ok (.getfield 134, 3) := by decide +kernel
theorem dX9_changes_116 : decode cX9_changes 116 = .ok (.iconst 1, 1) := by decide +kernel
theorem dX9_changes_117 : decode cX9_changes 117 = .ok (.isub, 1) := by decide +kernel
theorem dX9_changes_118 : decode cX9_changes 118 = .ok (.putfield 134, 3) := by decide +kernel
theorem dX9_changes_121 : decode cX9_changes 121 = .ok (.aload_n 0, 1) := by decide +kernel
theorem dX9_changes_122 : decode cX9_changes 122 = .ok (.getfield 38, 3) := by decide +kernel
theorem dX9_changes_125 : decode cX9_changes 125 = .ok (.aload_n 0, 1) := by decide +kernel
theorem dX9_changes_126 : decode cX9_changes 126 = .ok (.getfield 134, 3) := by decide +kernel
theorem dX9_changes_129 : decode cX9_changes 129 = .ok (.iload_n 1, 1) := by decide +kernel
theorem dX9_changes_130 : decode cX9_changes 130 = .ok (.iastore, 1) := by decide +kernel
theorem dX9_changes_131 : decode cX9_changes 131 = .ok (.aload_n 0, 1) := by decide +kernel
theorem dX9_changes_132 : decode cX9_changes 132 = .ok (.getfield 41, 3) := by decide +kernel
theorem dX9_changes_135 : decode cX9_changes 135 = .ok (.aload_n 0, 1) := by decide +kernel
theorem dX9_changes_136 : decode cX9_changes 136 = .ok (.getfield 134, 3) := by decide +kernel
theorem dX9_changes_139 : decode cX9_changes 139 = .ok (.iload_n 2, 1) := by decide +kernel
theorem dX9_changes_140 : decode cX9_changes 140 = .ok (.iastore, 1) := by decide +kernel
theorem dX9_changes_141 : decode cX9_changes 141 = .ok (.aload_n 0, 1) := by decide +kernel
theorem dX9_changes_142 : decode cX9_changes 142 = .ok (.getfield 44, 3) := by decide +kernel
theorem dX9_changes_145 : decode cX9_changes 145 = .ok (.aload_n 0, 1) := by decide +kernel
theorem dX9_changes_146 : decode cX9_changes 146 = .ok (.getfield 134, 3) := by decide +kernel
theorem dX9_changes_149 : decode cX9_changes 149 = .ok (.iload 4, 2) := by decide +kernel
theorem dX9_changes_151 : decode cX9_changes 151 = .ok (.iastore, 1) := by decide +kernel
theorem dX9_changes_152 : decode cX9_changes 152 = .ok (.aload_n 0, 1) := by decide +kernel
theorem dX9_changes_153 : decode cX9_changes 153 = .ok (.getfield 47, 3) := by decide +kernel
theorem dX9_changes_156 : decode cX9_changes 156 = .ok (.aload_n 0, 1) := by decide +kernel
theorem dX9_changes_157 : decode cX9_changes 157 = .ok (.getfield 134, 3) := by decide +kernel
theorem dX9_changes_160 : decode cX9_changes 160 = .ok (.iload_n 3, 1) := by decide +kernel
theorem dX9_changes_161 : decode cX9_changes 161 = .ok (.iastore, 1) := by decide +kernel
theorem dX9_changes_162 : decode cX9_changes 162 = .ok (.aload_n 0, 1) := by decide +kernel
theorem dX9_changes_163 : decode cX9_changes 163 = .ok (.dup, 1) := by decide +kernel
theorem dX9_changes_164 : decode cX9_changes 164 = .ok (.getfield 134, 3) := by decide +kernel
theorem dX9_changes_167 : decode cX9_changes 167 = .ok (.iconst 1, 1) := by decide +kernel
theorem dX9_changes_168 : decode cX9_changes 168 = .ok (.iadd, 1) := by decide +kernel
theorem dX9_changes_169 : decode cX9_changes 169 = .ok (.putfield 134, 3) := by decide +kernel
theorem dX9_changes_172 : decode cX9_changes 172 = .ok (.aload_n 0, 1) := by decide +kernel
theorem dX9_changes_173 : decode cX9_changes 173 = .ok (.iload_n 1, 1) := by decide +kernel
theorem dX9_changes_174 : decode cX9_changes 174 = .ok (.iload_n 2, 1) := by decide +kernel
theorem dX9_changes_175 : decode cX9_changes 175 = .ok (.iload_n 3, 1) := by decide +kernel
theorem dX9_changes_176 : decode cX9_changes 176 = .ok (.invokevirtual 137, 3) := by decide +kernel
theorem dX9_changes_179 : decode cX9_changes 179 = .ok (.iload 4, 2) := by decide +kernel
theorem dX9_changes_181 : decode cX9_changes 181 = .ok (.ireturn, 1) := by decide +kernel
theorem dX9_undo_0 : decode cX9_undo 0 = .ok (.aload_n 0, 1) := by decide +kernel
theorem dX9_undo_1 : decode cX9_undo 1 = .ok (.getfield 134, 3) := by decide +kernel
theorem dX9_undo_4 : decode cX9_undo 4 = .ok (.ifCond .ne 6, 3) := by decide +kernel
theorem dX9_undo_7 : decode cX9_undo 7 = .ok (.bipush (-5), 2) := by decide +kernel
theorem dX9_undo_9 : decode cX9_undo 9 = .ok (.ireturn, 1) := by decide +kernel
theorem dX9_undo_10 : decode cX9_undo 10 = .ok (.aload_n 0, 1) := by decide +kernel
theorem dX9_undo_11 : decode cX9_undo 11 = .ok (.dup, 1) := by decide +kernel
theorem dX9_undo_12 : decode cX9_undo 12 = .ok (.getfield 134, 3) := by decide +kernel
theorem dX9_undo_15 : decode cX9_undo 15 = .ok (.iconst 1, 1) := by decide +kernel
theorem dX9_undo_16 : decode cX9_undo 16 = .ok (.isub, 1) := by decide +kernel
theorem dX9_undo_17 : decode cX9_undo 17 = .ok (.putfield 134, 3) := by decide +kernel
theorem dX9_undo_20 : decode cX9_undo 20 = .ok (.aload_n 0, 1) := by decide +kernel
theorem dX9_undo_21 : decode cX9_undo 21 = .ok (.dup, 1) := by decide +kernel
theorem dX9_undo_22 : decode cX9_undo 22 = .ok (.getfield 131, 3) := by decide +kernel
theorem dX9_undo_25 : decode cX9_undo 25 = .ok (.iconst 1, 1) := by decide +kernel
theorem dX9_undo_26 : decode cX9_undo 26 = .ok (.iadd, 1) := by decide +kernel
theorem dX9_undo_27 : decode cX9_undo 27 = .ok (.putfield 131, 3) := by decide +kernel
theorem dX9_undo_30 : decode cX9_undo 30 = .ok (.aload_n 0, 1) := by decide +kernel
theorem dX9_undo_31 : decode cX9_undo 31 = .ok (.aload_n 0, 1) := by decide +kernel
theorem dX9_undo_32 : decode cX9_undo 32 = .ok (.getfield 38, 3) := by decide +kernel
theorem dX9_undo_35 : decode cX9_undo 35 = .ok (.aload_n 0, 1) := by decide +kernel
theorem dX9_undo_36 : decode cX9_undo 36 = .ok (.getfield 134, 3) := by decide +kernel
theorem dX9_undo_39 : decode cX9_undo 39 = .ok (.iaload, 1) := by decide +kernel
theorem dX9_undo_40 : decode cX9_undo 40 = .ok (.aload_n 0, 1) := by decide +kernel
theorem dX9_undo_41 : decode cX9_undo 41 = .ok (.getfield 41, 3) := by decide +kernel
theorem dX9_undo_44 : decode cX9_undo 44 = .ok (.aload_n 0, 1) := by decide +kernel
theorem dX9_undo_45 : decode cX9_undo 45 = .ok (.getfield 134, 3) := by decide +kernel
theorem dX9_undo_48 : decode cX9_undo 48 = .ok (.iaload, 1) := by decide +kernel
theorem dX9_undo_49 : decode cX9_undo 49 = .ok (.aload_n 0, 1) := by decide +kernel
theorem dX9_undo_50 : decode cX9_undo 50 = .ok (.getfield 44, 3) := by decide +kernel
theorem dX9_undo_53 : decode cX9_undo 53 = .ok (.aload_n 0, 1) := by decide +kernel
theorem dX9_undo_54 : decode cX9_undo 54 = .ok (.getfield 134, 3) := by decide +kernel
theorem dX9_undo_57 : decode cX9_undo 57 = .ok (.iaload, 1) := by decide +kernel
theorem dX9_undo_58 : decode cX9_undo 58 = .ok (.invokevirtual 137, 3) := by decide +kernel
theorem dX9_undo_61 : decode cX9_undo 61 = .ok (.aload_n 0, 1) := by decide +kernel
theorem dX9_undo_62 : decode cX9_undo 62 = .ok (.getfield 134, 3) := by decide +kernel
theorem dX9_undo_65 : decode cX9_undo 65 = .ok (.ireturn, 1) := by decide +kernel
theorem dX9_redo_0 : decode cX9_redo 0 = .ok (.aload_n 0, 1) := by decide +kernel
theorem dX9_redo_1 : decode cX9_redo 1 = .ok (.getfield 131, 3) := by decide +kernel
theorem dX9_redo_4 : decode cX9_redo 4 = .ok (.ifCond .ne 6, 3) := by decide +kernel
theorem dX9_redo_7 : decode cX9_redo 7 = .ok (.bipush (-5), 2) := by decide +kernel
theorem dX9_redo_9 : decode cX9_redo 9 = .ok (.ireturn, 1) := by decide +kernel
theorem dX9_redo_10 : decode cX9_redo 10 = .ok (.aload_n 0, 1) := by decide +kernel
theorem dX9_redo_11 : decode cX9_redo 11 = .ok (.aload_n 0, 1) := by decide +kernel
theorem dX9_redo_12 : decode cX9_redo 12 = .ok (.getfield 38, 3) := by decide +kernel
theorem dX9_redo_15 : decode cX9_redo 15 = .ok (.aload_n 0, 1) := by decide +kernel
theorem dX9_redo_16 : decode cX9_redo 16 = .ok (.getfield 134, 3) := by decide +kernel
theorem dX9_redo_19 : decode cX9_redo 19 = .ok (.iaload, 1) := by decide +kernel
theorem dX9_redo_20 : decode cX9_redo 20 = .ok (.aload_n 0, 1) := by decide +kernel
theorem dX9_redo_21 : decode cX9_redo 21 = .ok (.getfield 41, 3) := by decide +kernel
theorem dX9_redo_24 : decode cX9_redo 24 = .ok (.aload_n 0, 1) := by decide +kernel
theorem dX9_redo_25 : decode cX9_redo 25 = .ok (.getfield 134, 3) := by decide +kernel
theorem dX9_redo_28 : decode cX9_redo 28 = .ok (.iaload, 1) := by decide +kernel
theorem dX9_redo_29 : decode cX9_redo 29 = .ok (.aload_n 0, 1) := by decide +kernel
theorem dX9_redo_30 : decode cX9_redo 30 = .ok (.getfield 47, 3) := by decide +kernel
theorem dX9_redo_33 : decode cX9_redo 33 = .ok (.aload_n 0, 1) := by decide +kernel
theorem dX9_redo_34 : decode cX9_redo 34 = .ok (.getfield 134, 3) := by decide +kernel
theorem dX9_redo_37 : decode cX9_redo 37 = .ok (.iaload, 1) := by decide +kernel
theorem dX9_redo_38 : decode cX9_redo 38 = .ok (.invokevirtual 137, 3) := by decide +kernel
theorem dX9_redo_41 : decode cX9_redo 41 = .ok (.aload_n 0, 1) := by decide +kernel
theorem dX9_redo_42 : decode cX9_redo 42 = .ok (.dup, 1) := by decide +kernel
theorem dX9_redo_43 : decode cX9_redo 43 = .ok (.getfield 134, 3) := by decide +kernel
theorem dX9_redo_46 : decode cX9_redo 46 = .ok (.iconst 1, 1) := by decide +kernel
theorem dX9_redo_47 : decode cX9_redo 47 = .ok (.iadd, 1) := by decide +kernel
theorem dX9_redo_48 : decode cX9_redo 48 = .ok (.putfield 134, 3) := by decide +kernel
theorem dX9_redo_51 : decode cX9_redo 51 = .ok (.aload_n 0, 1) := by decide +kernel
theorem dX9_redo_52 : decode cX9_redo 52 = .ok (.dup, 1) := by decide +kernel
theorem dX9_redo_53 : decode cX9_redo 53 = .ok (.getfield 131, 3) := by decide +kernel
theorem dX9_redo_56 : decode cX9_redo 56 = .ok (.iconst 1, 1) := by decide +kernel
theorem dX9_redo_57 : decode cX9_redo 57 = .ok (.isub, 1) := by decide +kernel
theorem dX9_redo_58 : decode cX9_redo 58 = .ok (.putfield 131, 3) := by decide +kernel
theorem dX9_redo_61 : decode cX9_redo 61 = .ok (.aload_n 0, 1) := by decide +kernel
theorem dX9_redo_62 : decode cX9_redo 62 = .ok (.getfield 131, 3) := by decide +kernel
theorem dX9_redo_65 : decode cX9_redo 65 = .ok (.ireturn, 1) := by decide +kernel
theorem dX9_isThing_0 : decode cX9_isThing 0 = .ok (.iload_n 2, 1) := by decide +kernel
theorem dX9_isThing_1 : decode cX9_isThing 1 = .ok (.iconst 0, 1) := by decide +kernel
theorem dX9_isThing_2 : decode cX9_isThing 2 = .ok (.iconst 1, 1) := by decide +kernel
theorem dX9_isThing_3 : decode cX9_isThing 3 = .ok (.invokestatic 116, 3) := by decide +kernel
theorem dX9_isThing_6 : decode cX9_isThing 6 = .ok (.ifCond .eq 8, 3) := by decide +kernel
theorem dX9_isThing_9 : decode cX9_isThing 9 = .ok (.iload_n 1, 1) := by decide +kernel
theorem dX9_isThing_10 : decode cX9_isThing 10 = .ok (.invokestatic 141, 3) := by decide +kernel
theorem dX9_isThing_13 : decode cX9_isThing 13 = .ok (.ireturn, 1) := by decide +kernel
theorem dX9_isThing_14 : decode cX9_isThing 14 = .ok (.iload_n 2, 1) := by decide +kernel
theorem dX9_isThing_15 : decode cX9_isThing 15 = .ok (.iconst 2, 1) := by decide +kernel
theorem dX9_isThing_16 : decode cX9_isThing 16 = .ok (.iconst 3, 1) := by decide +kernel
theorem dX9_isThing_17 : decode cX9_isThing 17 = .ok (.invokestatic 116, 3) := by decide +kernel
theorem dX9_isThing_20 : decode cX9_isThing 20 = .ok (.ifCond .eq 8, 3) := by decide +kernel
theorem dX9_isThing_23 : decode cX9_isThing 23 = .ok (.iload_n 1, 1) := by decide +kernel
theorem dX9_isThing_24 : decode cX9_isThing 24 = .ok (.invokestatic 145, 3) := by decide +kernel
theorem dX9_isThing_27 : decode cX9_isThing 27 = .ok (.ireturn, 1) := by decide +kernel
theorem dX9_isThing_28 : decode cX9_isThing 28 = .ok (.iload_n 2, 1) := by decide +kernel
theorem dX9_isThing_29 : decode cX9_isThing 29 = .ok (.iconst 4, 1) := by decide +kernel
theorem dX9_isThing_30 : decode cX9_isThing 30 = .ok (.iconst 5, 1) := by decide +kernel
theorem dX9_isThing_31 : decode cX9_isThing 31 = .ok (.invokestatic 116, 3) := by decide +kernel
theorem dX9_isThing_34 : decode cX9_isThing 34 = .ok (.ifCond .eq 11, 3) := by decide +kernel
theorem dX9_isThing_37 : decode cX9_isThing 37 = .ok (.iload_n 1, 1) := by decide +kernel
theorem dX9_isThing_38 : decode cX9_isThing 38 = .ok (.ifCond .ne 7, 3) := by decide +kernel
theorem dX9_isThing_41 : decode cX9_isThing 41 = .ok (.iconst 1, 1) := by decide +kernel
theorem dX9_isThing_42 : decode cX9_isThing 42 = .ok (.goto 4, 3) := by decide +kernel
theorem dX9_isThing_45 : decode cX9_isThing 45 = .ok (.iconst 0, 1) := by decide +kernel
theorem dX9_isThing_46 : decode cX9_isThing 46 = .ok (.ireturn, 1) := by decide +kernel
theorem dX9_mostOf_0 : decode cX9_mostOf 0 = .ok (.iload_n 0, 1) := by decide +kernel
theorem dX9_mostOf_1 : decode cX9_mostOf 1 = .ok (.tableswitch 46 1 5 #[35, 37, 46, 40, 43], 35) := by decide +kernel
theorem dX9_mostOf_36 : decode cX9_mostOf 36 = .ok (.iconst 1, 1) := by decide +kernel
theorem dX9_mostOf_37 : decode cX9_mostOf 37 = .ok (.ireturn, 1) := by decide +kernel
theorem dX9_mostOf_38 : decode cX9_mostOf 38 = .ok (.bipush 20, 2) := by decide +kernel
theorem dX9_mostOf_40 : decode cX9_mostOf 40 = .ok (.ireturn, 1) := by decide +kernel
theorem dX9_mostOf_41 : decode cX9_mostOf 41 = .ok (.bipush 6, 2) := by decide +kernel
theorem dX9_mostOf_43 : decode cX9_mostOf 43 = .ok (.ireturn, 1) := by decide +kernel
theorem dX9_mostOf_44 : decode cX9_mostOf 44 = .ok (.bipush 12, 2) := by decide +kernel
theorem dX9_mostOf_46 : decode cX9_mostOf 46 = .ok (.ireturn, 1) := by decide +kernel
theorem dX9_mostOf_47 : decode cX9_mostOf 47 = .ok (.bipush 9, 2) := by decide +kernel
theorem dX9_mostOf_49 : decode cX9_mostOf 49 = .ok (.ireturn, 1) := by decide +kernel
theorem dX9_mend_0 : decode cX9_mend 0 = .ok (.aload_n 0, 1) := by decide +kernel
theorem dX9_mend_1 : decode cX9_mend 1 = .ok (.iload_n 1, 1) := by decide +kernel
theorem dX9_mend_2 : decode cX9_mend 2 = .ok (.iload_n 2, 1) := by decide +kernel
theorem dX9_mend_3 : decode cX9_mend 3 = .ok (.invokevirtual 148, 3) := by decide +kernel
theorem dX9_mend_6 : decode cX9_mend 6 = .ok (.ifCond .eq 34, 3) := by decide +kernel
theorem dX9_mend_9 : decode cX9_mend 9 = .ok (.iload_n 3, 1) := by decide +kernel
theorem dX9_mend_10 : decode cX9_mend 10 = .ok (.iload_n 2, 1) := by decide +kernel
theorem dX9_mend_11 : decode cX9_mend 11 = .ok (.iconst 4, 1) := by decide +kernel
theorem dX9_mend_12 : decode cX9_mend 12 = .ok (.if_icmp .ne 7, 3) := by decide +kernel
theorem dX9_mend_15 : decode cX9_mend 15 = .ok (.iconst 1, 1) := by decide +kernel
theorem dX9_mend_16 : decode cX9_mend 16 = .ok (.goto 4, 3) := by decide +kernel
theorem dX9_mend_19 : decode cX9_mend 19 = .ok (.iconst 0, 1) := by decide +kernel
theorem dX9_mend_20 : decode cX9_mend 20 = .ok (.iload_n 2, 1) := by decide +kernel
theorem dX9_mend_21 : decode cX9_mend 21 = .ok (.invokestatic 152, 3) := by decide +kernel
theorem dX9_mend_24 : decode cX9_mend 24 = .ok (.invokestatic 116, 3) := by decide +kernel
theorem dX9_mend_27 : decode cX9_mend 27 = .ok (.ifCond .eq 13, 3) := by decide +kernel
theorem dX9_mend_30 : decode cX9_mend 30 = .ok (.aload_n 0, 1) := by decide +kernel
theorem dX9_mend_31 : decode cX9_mend 31 = .ok (.iload_n 2, 1) := by decide +kernel
theorem dX9_mend_32 : decode cX9_mend 32 = .ok (.iload_n 1, 1) := by decide +kernel
theorem dX9_mend_33 : decode cX9_mend 33 = .ok (.iload_n 3, 1) := by decide +kernel
theorem dX9_mend_34 : decode cX9_mend 34 = .ok (.invokevirtual 156, 3) := by decide +kernel
theorem dX9_mend_37 : decode cX9_mend 37 = .ok (.goto 4, 3) := by decide +kernel
theorem dX9_mend_40 : decode cX9_mend 40 = .ok (.iconst (-1), 1) := by decide +kernel
theorem dX9_mend_41 : decode cX9_mend 41 = .ok (.ireturn, 1) := by decide +kernel
theorem dX9_of_0 : decode cX9_of 0 = .ok (.iload_n 2, 1) := by decide +kernel
theorem dX9_of_1 : decode cX9_of 1 = .ok (.iconst 0, 1) := by decide +kernel
theorem dX9_of_2 : decode cX9_of 2 = .ok (.iconst 5, 1) := by decide +kernel
theorem dX9_of_3 : decode cX9_of 3 = .ok (.invokestatic 116, 3) := by decide +kernel
theorem dX9_of_6 : decode cX9_of 6 = .ok (.ifCond .eq 23, 3) := by decide +kernel
theorem dX9_of_9 : decode cX9_of 9 = .ok (.aload_n 0, 1) := by decide +kernel
theorem dX9_of_10 : decode cX9_of 10 = .ok (.iload_n 1, 1) := by decide +kernel
theorem dX9_of_11 : decode cX9_of 11 = .ok (.iload_n 2, 1) := by decide +kernel
theorem dX9_of_12 : decode cX9_of 12 = .ok (.invokevirtual 148, 3) := by decide +kernel
theorem dX9_of_15 : decode cX9_of 15 = .ok (.ifCond .eq 12, 3) := by decide +kernel
theorem dX9_of_18 : decode cX9_of 18 = .ok (.aload_n 0, 1) := by decide +kernel
theorem dX9_of_19 : decode cX9_of 19 = .ok (.iload_n 2, 1) := by decide +kernel
theorem dX9_of_20 : decode cX9_of 20 = .ok (.iload_n 1, 1) := by decide +kernel
theorem dX9_of_21 : decode cX9_of 21 = .ok (.invokevirtual 128, 3) := by decide +kernel
theorem dX9_of_24 : decode cX9_of 24 = .ok (.goto 4, 3) := by decide +kernel
theorem dX9_of_27 : decode cX9_of 27 = .ok (.iconst (-1), 1) := by decide +kernel
theorem dX9_of_28 : decode cX9_of 28 = .ok (.ireturn, 1) := by decide +kernel
theorem dX9_of_29 : decode cX9_of 29 = .ok (.iload_n 2, 1) := by decide +kernel
theorem dX9_of_30 : decode cX9_of 30 = .ok (.bipush 10, 2) := by decide +kernel
theorem dX9_of_32 : decode cX9_of 32 = .ok (.bipush 11, 2) := by decide +kernel
theorem dX9_of_34 : decode cX9_of 34 = .ok (.invokestatic 116, 3) := by decide +kernel
theorem dX9_of_37 : decode cX9_of 37 = .ok (.ifCond .eq 48, 3) := by decide +kernel
theorem dX9_of_40 : decode cX9_of 40 = .ok (.iload_n 1, 1) := by decide +kernel
theorem dX9_of_41 : decode cX9_of 41 = .ok (.invokestatic 141, 3) := by decide +kernel
theorem dX9_of_44 : decode cX9_of 44 = .ok (.ifCond .ne 5, 3) := by decide +kernel
theorem dX9_of_47 : decode cX9_of 47 = .ok (.iconst (-1), 1) := by decide +kernel
theorem dX9_of_48 : decode cX9_of 48 = .ok (.ireturn, 1) := by decide +kernel
theorem dX9_of_49 : decode cX9_of 49 = .ok (.iload_n 2, 1) := by decide +kernel
theorem dX9_of_50 : decode cX9_of 50 = .ok (.bipush 10, 2) := by decide +kernel
theorem dX9_of_52 : decode cX9_of 52 = .ok (.if_icmp .ne 19, 3) := by decide +kernel
theorem dX9_of_55 : decode cX9_of 55 = .ok (.aload_n 0, 1) := by decide +kernel
theorem dX9_of_56 : decode cX9_of 56 = .ok (.iload_n 1, 1) := by decide +kernel
theorem dX9_of_57 : decode cX9_of 57 = .ok (.invokevirtual 160, 3) := by decide +kernel
theorem dX9_of_60 : decode cX9_of 60 = .ok (.ifCond .eq 7, 3) := by decide +kernel
theorem dX9_of_63 : decode cX9_of 63 = .ok (.iconst 1, 1) := by decide +kernel
theorem dX9_of_64 : decode cX9_of 64 = .ok (.goto 20, 3) := by decide +kernel
theorem dX9_of_67 : decode cX9_of 67 = .ok (.iconst 0, 1) := by decide +kernel
theorem dX9_of_68 : decode cX9_of 68 = .ok (.goto 16, 3) := by decide +kernel
theorem dX9_of_71 : decode cX9_of 71 = .ok (.aload_n 0, 1) := by decide +kernel
theorem dX9_of_72 : decode cX9_of 72 = .ok (.iload_n 1, 1) := by decide +kernel
theorem dX9_of_73 : decode cX9_of 73 = .ok (.invokevirtual 163, 3) := by decide +kernel
theorem dX9_of_76 : decode cX9_of 76 = .ok (.ifCond .eq 7, 3) := by decide +kernel
theorem dX9_of_79 : decode cX9_of 79 = .ok (.iconst 1, 1) := by decide +kernel
theorem dX9_of_80 : decode cX9_of 80 = .ok (.goto 4, 3) := by decide +kernel
theorem dX9_of_83 : decode cX9_of 83 = .ok (.iconst 0, 1) := by decide +kernel
theorem dX9_of_84 : decode cX9_of 84 = .ok (.ireturn, 1) := by decide +kernel
theorem dX9_of_85 : decode cX9_of 85 = .ok (.iload_n 1, 1) := by decide +kernel
theorem dX9_of_86 : decode cX9_of 86 = .ok (.ifCond .eq 5, 3) := by decide +kernel
theorem dX9_of_89 : decode cX9_of 89 = .ok (.iconst (-1), 1) := by decide +kernel
theorem dX9_of_90 : decode cX9_of 90 = .ok (.ireturn, 1) := by decide +kernel
theorem dX9_of_91 : decode cX9_of 91 = .ok (.iload_n 2, 1) := by decide +kernel
theorem dX9_of_92 : decode cX9_of 92 = .ok (.tableswitch 64 20 24 #[36, 41, 46, 51, 56], 36) := by decide +kernel
theorem dX9_of_128 : decode cX9_of 128 = .ok (.aload_n 0, 1) := by decide +kernel
theorem dX9_of_129 : decode cX9_of 129 = .ok (.getfield 166, 3) := by decide +kernel
theorem dX9_of_132 : decode cX9_of 132 = .ok (.ireturn, 1) := by decide +kernel
theorem dX9_of_133 : decode cX9_of 133 = .ok (.aload_n 0, 1) := by decide +kernel
theorem dX9_of_134 : decode cX9_of 134 = .ok (.getfield 169, 3) := by decide +kernel
theorem dX9_of_137 : decode cX9_of 137 = .ok (.ireturn, 1) := by decide +kernel
theorem dX9_of_138 : decode cX9_of 138 = .ok (.aload_n 0, 1) := by decide +kernel
theorem dX9_of_139 : decode cX9_of 139 = .ok (.getfield 29, 3) := by decide +kernel
theorem dX9_of_142 : decode cX9_of 142 = .ok (.ireturn, 1) := by decide +kernel
theorem dX9_of_143 : decode cX9_of 143 = .ok (.aload_n 0, 1) := by decide +kernel
theorem dX9_of_144 : decode cX9_of 144 = .ok (.getfield 172, 3) := by decide +kernel
theorem dX9_of_147 : decode cX9_of 147 = .ok (.ireturn, 1) := by decide +kernel
theorem dX9_of_148 : decode cX9_of 148 = .ok (.aload_n 0, 1) := by decide +kernel
theorem dX9_of_149 : decode cX9_of 149 = .ok (.getfield 124, 3) := by decide +kernel
theorem dX9_of_152 : decode cX9_of 152 = .ok (.invokestatic 175, 3) := by decide +kernel
theorem dX9_of_155 : decode cX9_of 155 = .ok (.ireturn, 1) := by decide +kernel
theorem dX9_of_156 : decode cX9_of 156 = .ok (.iconst (-1), 1) := by decide +kernel
theorem dX9_of_157 : decode cX9_of 157 = .ok (.ireturn, 1) := by decide +kernel
theorem dX9_heights_0 : decode cX9_heights 0 = .ok (.iload_n 1, 1) := by decide +kernel
theorem dX9_heights_1 : decode cX9_heights 1 = .ok (.invokestatic 179, 3) := by decide +kernel
theorem dX9_heights_4 : decode cX9_heights 4 = .ok (.ifCond .eq 30, 3) := by decide +kernel
theorem dX9_heights_7 : decode cX9_heights 7 = .ok (.iload_n 3, 1) := by decide +kernel
theorem dX9_heights_8 : decode cX9_heights 8 = .ok (.ifCond .lt 26, 3) := by decide +kernel
theorem dX9_heights_11 : decode cX9_heights 11 = .ok (.iload_n 3, 1) := by decide +kernel
theorem dX9_heights_12 : decode cX9_heights 12 = .ok (.bipush 100, 2) := by decide +kernel
theorem dX9_heights_14 : decode cX9_heights 14 = .ok (.idiv, 1) := by decide +kernel
theorem dX9_heights_15 : decode cX9_heights 15 = .ok (.invokestatic 141, 3) := by decide +kernel
theorem dX9_heights_18 : decode cX9_heights 18 = .ok (.ifCond .eq 16, 3) := by decide +kernel
theorem dX9_heights_21 : decode cX9_heights 21 = .ok (.iload_n 3, 1) := by decide +kernel
theorem dX9_heights_22 : decode cX9_heights 22 = .ok (.bipush 100, 2) := by decide +kernel
theorem dX9_heights_24 : decode cX9_heights 24 = .ok (.irem, 1) := by decide +kernel
theorem dX9_heights_25 : decode cX9_heights 25 = .ok (.iconst 1, 1) := by decide +kernel
theorem dX9_heights_26 : decode cX9_heights 26 = .ok (.bipush 36, 2) := by decide +kernel
theorem dX9_heights_28 : decode cX9_heights 28 = .ok (.invokestatic 116, 3) := by decide +kernel
theorem dX9_heights_31 : decode cX9_heights 31 = .ok (.ifCond .ne 5, 3) := by decide +kernel
theorem dX9_heights_34 : decode cX9_heights 34 = .ok (.iconst (-1), 1) := by decide +kernel
theorem dX9_heights_35 : decode cX9_heights 35 = .ok (.ireturn, 1) := by decide +kernel
theorem dX9_heights_36 : decode cX9_heights 36 = .ok (.aload_n 0, 1) := by decide +kernel
theorem dX9_heights_37 : decode cX9_heights 37 = .ok (.getfield 100, 3) := by decide +kernel
theorem dX9_heights_40 : decode cX9_heights 40 = .ok (.iload_n 1, 1) := by decide +kernel
theorem dX9_heights_41 : decode cX9_heights 41 = .ok (.iaload, 1) := by decide +kernel
theorem dX9_heights_42 : decode cX9_heights 42 = .ok (.iconst (-1), 1) := by decide +kernel
theorem dX9_heights_43 : decode cX9_heights 43 = .ok (.if_icmp .eq 17, 3) := by decide +kernel
theorem dX9_heights_46 : decode cX9_heights 46 = .ok (.aload_n 0, 1) := by decide +kernel
theorem dX9_heights_47 : decode cX9_heights 47 = .ok (.getfield 100, 3) := by decide +kernel
theorem dX9_heights_50 : decode cX9_heights 50 = .ok (.iload_n 1, 1) := by decide +kernel
theorem dX9_heights_51 : decode cX9_heights 51 = .ok (.iaload, 1) := by decide +kernel
theorem dX9_heights_52 : decode cX9_heights 52 = .ok (.bipush (-2), 2) := by decide +kernel
theorem dX9_heights_54 : decode cX9_heights 54 = .ok (.if_icmp .eq 6, 3) := by decide +kernel
theorem dX9_heights_57 : decode cX9_heights 57 = .ok (.bipush (-12), 2) := by decide +kernel
theorem dX9_heights_59 : decode cX9_heights 59 = .ok (.ireturn, 1) := by decide +kernel
theorem dX9_heights_60 : decode cX9_heights 60 = .ok (.aload_n 0, 1) := by decide +kernel
theorem dX9_heights_61 : decode cX9_heights 61 = .ok (.getfield 100, 3) := by decide +kernel
theorem dX9_heights_64 : decode cX9_heights 64 = .ok (.iload_n 1, 1) := by decide +kernel
theorem dX9_heights_65 : decode cX9_heights 65 = .ok (.iaload, 1) := by decide +kernel
theorem dX9_heights_66 : decode cX9_heights 66 = .ok (.iconst (-1), 1) := by decide +kernel
theorem dX9_heights_67 : decode cX9_heights 67 = .ok (.if_icmp .ne 5, 3) := by decide +kernel
theorem dX9_heights_70 : decode cX9_heights 70 = .ok (.iconst 0, 1) := by decide +kernel
theorem dX9_heights_71 : decode cX9_heights 71 = .ok (.ireturn, 1) := by decide +kernel
theorem dX9_heights_72 : decode cX9_heights 72 = .ok (.iconst 0, 1) := by decide +kernel
theorem dX9_heights_73 : decode cX9_heights 73 = .ok (.istore 4, 2) := by decide +kernel
theorem dX9_heights_75 : decode cX9_heights 75 = .ok (.iload 4, 2) := by decide +kernel
theorem dX9_heights_77 : decode cX9_heights 77 = .ok (.iload_n 3, 1) := by decide +kernel
theorem dX9_heights_78 : decode cX9_heights 78 = .ok (.bipush 100, 2) := by decide +kernel
theorem dX9_heights_80 : decode cX9_heights 80 = .ok (.irem, 1) := by decide +kernel
theorem dX9_heights_81 : decode cX9_heights 81 = .ok (.if_icmp .ge 97, 3) := by decide +kernel
theorem dX9_heights_84 : decode cX9_heights 84 = .ok (.iload_n 2, 1) := by decide +kernel
theorem dX9_heights_85 : decode cX9_heights 85 = .ok (.i2l, 1) := by decide +kernel
theorem dX9_heights_86 : decode cX9_heights 86 = .ok (.iload 4, 2) := by decide +kernel
theorem dX9_heights_88 : decode cX9_heights 88 = .ok (.i2l, 1) := by decide +kernel
theorem dX9_heights_89 : decode cX9_heights 89 = .ok (.ladd, 1) := by decide +kernel
theorem dX9_heights_90 : decode cX9_heights 90 = .ok (.lstore 5, 2) := by decide +kernel
theorem dX9_heights_92 : decode cX9_heights 92 = .ok (.lload 5, 2) := by decide +kernel
theorem dX9_heights_94 : decode cX9_heights 94 = .ok (.lconst 0, 1) := by decide +kernel
theorem dX9_heights_95 : decode cX9_heights 95 = .ok (.lcmp, 1) := by decide +kernel
theorem dX9_heights_96 : decode cX9_heights 96 = .ok (.ifCond .lt 29, 3) := by decide +kernel
theorem dX9_heights_99 : decode cX9_heights 99 = .ok (.lload 5, 2) := by decide +kernel
theorem dX9_heights_101 : decode cX9_heights 101 = .ok (.aload_n 0, 1) := by decide +kernel
theorem dX9_heights_102 : decode cX9_heights 102 = .ok (.getfield 103, 3) := by decide +kernel
theorem dX9_heights_105 : decode cX9_heights 105 = .ok (.iload_n 1, 1) := by decide +kernel
theorem dX9_heights_106 : decode cX9_heights 106 = .ok (.iaload, 1) := by decide +kernel
theorem dX9_heights_107 : decode cX9_heights 107 = .ok (.i2l, 1) := by decide +kernel
theorem dX9_heights_108 : decode cX9_heights 108 = .ok (.lcmp, 1) := by decide +kernel
theorem dX9_heights_109 : decode cX9_heights 109 = .ok (.ifCond .ge 16, 3) := by decide +kernel
theorem dX9_heights_112 : decode cX9_heights 112 = .ok (.iload_n 3, 1) := by decide +kernel
theorem dX9_heights_113 : decode cX9_heights 113 = .ok (.bipush 100, 2) := by decide +kernel
theorem dX9_heights_115 : decode cX9_heights 115 = .ok (.idiv, 1) := by decide +kernel
theorem dX9_heights_116 : decode cX9_heights 116 = .ok (.iload 4, 2) := by decide +kernel
theorem dX9_heights_118 : decode cX9_heights 118 = .ok (.iadd, 1) := by decide +kernel
theorem dX9_heights_119 : decode cX9_heights 119 = .ok (.invokestatic 141, 3) := by decide +kernel
theorem dX9_heights_122 : decode cX9_heights 122 = .ok (.ifCond .ne 6, 3) := by decide +kernel
theorem dX9_heights_125 : decode cX9_heights 125 = .ok (.iload 4, 2) := by decide +kernel
theorem dX9_heights_127 : decode cX9_heights 127 = .ok (.ireturn, 1) := by decide +kernel
theorem dX9_heights_128 : decode cX9_heights 128 = .ok (.aload_n 0, 1) := by decide +kernel
theorem dX9_heights_129 : decode cX9_heights 129 = .ok (.getfield 106, 3) := by decide +kernel
theorem dX9_heights_132 : decode cX9_heights 132 = .ok (.bipush 60, 2) := by decide +kernel
theorem dX9_heights_134 : decode cX9_heights 134 = .ok (.iload_n 1, 1) := by decide +kernel
theorem dX9_heights_135 : decode cX9_heights 135 = .ok (.imul, 1) := by decide +kernel
theorem dX9_heights_136 : decode cX9_heights 136 = .ok (.lload 5, 2) := by decide +kernel
theorem dX9_heights_138 : decode cX9_heights 138 = .ok (.l2i, 1) := by decide +kernel
theorem dX9_heights_139 : decode cX9_heights 139 = .ok (.iadd, 1) := by decide +kernel
theorem dX9_heights_140 : decode cX9_heights 140 = .ok (.laload, 1) := by decide +kernel
theorem dX9_heights_141 : decode cX9_heights 141 = .ok (.l2i, 1) := by decide +kernel
theorem dX9_heights_142 : decode cX9_heights 142 = .ok (.istore 7, 2) := by decide +kernel
theorem dX9_heights_144 : decode cX9_heights 144 = .ok (.iload 7, 2) := by decide +kernel
theorem dX9_heights_146 : decode cX9_heights 146 = .ok (.iconst 0, 1) := by decide +kernel
theorem dX9_heights_147 : decode cX9_heights 147 = .ok (.bipush 9, 2) := by decide +kernel
theorem dX9_heights_149 : decode cX9_heights 149 = .ok (.invokestatic 116, 3) := by decide +kernel
theorem dX9_heights_152 : decode cX9_heights 152 = .ok (.ifCond .ne 6, 3) := by decide +kernel
theorem dX9_heights_155 : decode cX9_heights 155 = .ok (.iload 4, 2) := by decide +kernel
theorem dX9_heights_157 : decode cX9_heights 157 = .ok (.ireturn, 1) := by decide +kernel
theorem dX9_heights_158 : decode cX9_heights 158 = .ok (.aload_n 0, 1) := by decide +kernel
theorem dX9_heights_159 : decode cX9_heights 159 = .ok (.getfield 7, 3) := by decide +kernel
theorem dX9_heights_162 : decode cX9_heights 162 = .ok (.iload_n 3, 1) := by decide +kernel
theorem dX9_heights_163 : decode cX9_heights 163 = .ok (.bipush 100, 2) := by decide +kernel
theorem dX9_heights_165 : decode cX9_heights 165 = .ok (.idiv, 1) := by decide +kernel
theorem dX9_heights_166 : decode cX9_heights 166 = .ok (.iload 4, 2) := by decide +kernel
theorem dX9_heights_168 : decode cX9_heights 168 = .ok (.iadd, 1) := by decide +kernel
theorem dX9_heights_169 : decode cX9_heights 169 = .ok (.iload 7, 2) := by decide +kernel
theorem dX9_heights_171 : decode cX9_heights 171 = .ok (.iastore, 1) := by decide +kernel
theorem dX9_heights_172 : decode cX9_heights 172 = .ok (.iinc 4 1, 3) := by decide +kernel
theorem dX9_heights_175 : decode cX9_heights 175 = .ok (.goto (-100), 3) := by decide +kernel
theorem dX9_heights_178 : decode cX9_heights 178 = .ok (.iload_n 3, 1) := by decide +kernel
theorem dX9_heights_179 : decode cX9_heights 179 = .ok (.bipush 100, 2) := by decide +kernel
theorem dX9_heights_181 : decode cX9_heights 181 = .ok (.irem, 1) := by decide +kernel
theorem dX9_heights_182 : decode cX9_heights 182 = .ok (.ireturn, 1) := by decide +kernel
theorem dX9_feed_0 : decode cX9_feed 0 = .ok (.iload_n 1, 1) := by decide +kernel
theorem dX9_feed_1 : decode cX9_feed 1 = .ok (.iconst 0, 1) := by decide +kernel
theorem dX9_feed_2 : decode cX9_feed 2 = .ok (.sipush 255, 3) := by decide +kernel
theorem dX9_feed_5 : decode cX9_feed 5 = .ok (.invokestatic 116, 3) := by decide +kernel
theorem dX9_feed_8 : decode cX9_feed 8 = .ok (.ifCond .ne 5, 3) := by decide +kernel
theorem dX9_feed_11 : decode cX9_feed 11 = .ok (.iconst (-1), 1) := by decide +kernel
theorem dX9_feed_12 : decode cX9_feed 12 = .ok (.ireturn, 1) := by decide +kernel
theorem dX9_feed_13 : decode cX9_feed 13 = .ok (.aload_n 0, 1) := by decide +kernel
theorem dX9_feed_14 : decode cX9_feed 14 = .ok (.getfield 182, 3) := by decide +kernel
theorem dX9_feed_17 : decode cX9_feed 17 = .ok (.bipush 120, 2) := by decide +kernel
theorem dX9_feed_19 : decode cX9_feed 19 = .ok (.if_icmp .ne 6, 3) := by decide +kernel
theorem dX9_feed_22 : decode cX9_feed 22 = .ok (.bipush (-3), 2) := by decide +kernel
theorem dX9_feed_24 : decode cX9_feed 24 = .ok (.ireturn, 1) := by decide +kernel
theorem dX9_feed_25 : decode cX9_feed 25 = .ok (.aload_n 0, 1) := by decide +kernel
theorem dX9_feed_26 : decode cX9_feed 26 = .ok (.getfield 50, 3) := by decide +kernel
theorem dX9_feed_29 : decode cX9_feed 29 = .ok (.aload_n 0, 1) := by decide +kernel
theorem dX9_feed_30 : decode cX9_feed 30 = .ok (.getfield 182, 3) := by decide +kernel
theorem dX9_feed_33 : decode cX9_feed 33 = .ok (.iload_n 1, 1) := by decide +kernel
theorem dX9_feed_34 : decode cX9_feed 34 = .ok (.i2b, 1) := by decide +kernel
theorem dX9_feed_35 : decode cX9_feed 35 = .ok (.bastore, 1) := by decide +kernel
theorem dX9_feed_36 : decode cX9_feed 36 = .ok (.aload_n 0, 1) := by decide +kernel
theorem dX9_feed_37 : decode cX9_feed 37 = .ok (.dup, 1) := by decide +kernel
theorem dX9_feed_38 : decode cX9_feed 38 = .ok (.getfield 182, 3) := by decide +kernel
theorem dX9_feed_41 : decode cX9_feed 41 = .ok (.iconst 1, 1) := by decide +kernel
theorem dX9_feed_42 : decode cX9_feed 42 = .ok (.iadd, 1) := by decide +kernel
theorem dX9_feed_43 : decode cX9_feed 43 = .ok (.putfield 182, 3) := by decide +kernel
theorem dX9_feed_46 : decode cX9_feed 46 = .ok (.aload_n 0, 1) := by decide +kernel
theorem dX9_feed_47 : decode cX9_feed 47 = .ok (.getfield 182, 3) := by decide +kernel
theorem dX9_feed_50 : decode cX9_feed 50 = .ok (.ireturn, 1) := by decide +kernel
theorem dX9_look_0 : decode cX9_look 0 = .ok (.aload_n 0, 1) := by decide +kernel
theorem dX9_look_1 : decode cX9_look 1 = .ok (.getfield 185, 3) := by decide +kernel
theorem dX9_look_4 : decode cX9_look 4 = .ok (.aload_n 0, 1) := by decide +kernel
theorem dX9_look_5 : decode cX9_look 5 = .ok (.getfield 182, 3) := by decide +kernel
theorem dX9_look_8 : decode cX9_look 8 = .ok (.if_icmp .ge 15, 3) := by decide +kernel
theorem dX9_look_11 : decode cX9_look 11 = .ok (.aload_n 0, 1) := by decide +kernel
theorem dX9_look_12 : decode cX9_look 12 = .ok (.getfield 50, 3) := by decide +kernel
theorem dX9_look_15 : decode cX9_look 15 = .ok (.aload_n 0, 1) := by decide +kernel
theorem dX9_look_16 : decode cX9_look 16 = .ok (.getfield 185, 3) := by decide +kernel
theorem dX9_look_19 : decode cX9_look 19 = .ok (.baload, 1) := by decide +kernel
theorem dX9_look_20 : decode cX9_look 20 = .ok (.goto 4, 3) := by decide +kernel
theorem dX9_look_23 : decode cX9_look 23 = .ok (.iconst (-1), 1) := by decide +kernel
theorem dX9_look_24 : decode cX9_look 24 = .ok (.ireturn, 1) := by decide +kernel
theorem dX9_faulty_0 : decode cX9_faulty 0 = .ok (.aload_n 0, 1) := by decide +kernel
theorem dX9_faulty_1 : decode cX9_faulty 1 = .ok (.getfield 188, 3) := by decide +kernel
theorem dX9_faulty_4 : decode cX9_faulty 4 = .ok (.ifCond .ge 11, 3) := by decide +kernel
theorem dX9_faulty_7 : decode cX9_faulty 7 = .ok (.aload_n 0, 1) := by decide +kernel
theorem dX9_faulty_8 : decode cX9_faulty 8 = .ok (.aload_n 0, 1) := by decide +kernel
theorem dX9_faulty_9 : decode cX9_faulty 9 = .ok (.getfield 185, 3) := by decide +kernel
theorem dX9_faulty_12 : decode cX9_faulty 12 = .ok (.putfield 188, 3) := by decide +kernel
theorem dX9_faulty_15 : decode cX9_faulty 15 = .ok (.return_, 1) := by decide +kernel
theorem dX9_addStep_0 : decode cX9_addStep 0 = .ok (.aload_n 0, 1) := by decide +kernel
theorem dX9_addStep_1 : decode cX9_addStep 1 = .ok (.getfield 54, 3) := by decide +kernel
theorem dX9_addStep_4 : decode cX9_addStep 4 = .ok (.sipush 130, 3) := by decide +kernel
theorem dX9_addStep_7 : decode cX9_addStep 7 = .ok (.aload_n 0, 1) := by decide +kernel
theorem dX9_addStep_8 : decode cX9_addStep 8 = .ok (.getfield 191, 3) := by decide +kernel
theorem dX9_addStep_11 : decode cX9_addStep 11 = .ok (.iadd, 1) := by decide +kernel
theorem dX9_addStep_12 : decode cX9_addStep 12 = .ok (.iload_n 1, 1) := by decide +kernel
theorem dX9_addStep_13 : decode cX9_addStep 13 = .ok (.i2b, 1) := by decide +kernel
theorem dX9_addStep_14 : decode cX9_addStep 14 = .ok (.bastore, 1) := by decide +kernel
theorem dX9_addStep_15 : decode cX9_addStep 15 = .ok (.aload_n 0, 1) := by decide +kernel
theorem dX9_addStep_16 : decode cX9_addStep 16 = .ok (.getfield 57, 3) := by decide +kernel
theorem dX9_addStep_19 : decode cX9_addStep 19 = .ok (.sipush 130, 3) := by decide +kernel
theorem dX9_addStep_22 : decode cX9_addStep 22 = .ok (.aload_n 0, 1) := by decide +kernel
theorem dX9_addStep_23 : decode cX9_addStep 23 = .ok (.getfield 191, 3) := by decide +kernel
theorem dX9_addStep_26 : decode cX9_addStep 26 = .ok (.iadd, 1) := by decide +kernel
theorem dX9_addStep_27 : decode cX9_addStep 27 = .ok (.iload_n 2, 1) := by decide +kernel
theorem dX9_addStep_28 : decode cX9_addStep 28 = .ok (.iastore, 1) := by decide +kernel
theorem dX9_addStep_29 : decode cX9_addStep 29 = .ok (.aload_n 0, 1) := by decide +kernel
theorem dX9_addStep_30 : decode cX9_addStep 30 = .ok (.dup, 1) := by decide +kernel
theorem dX9_addStep_31 : decode cX9_addStep 31 = .ok (.getfield 191, 3) := by decide +kernel
theorem dX9_addStep_34 : decode cX9_addStep 34 = .ok (.iconst 1, 1) := by decide +kernel
theorem dX9_addStep_35 : decode cX9_addStep 35 = .ok (.iadd, 1) := by decide +kernel
theorem dX9_addStep_36 : decode cX9_addStep 36 = .ok (.putfield 191, 3) := by decide +kernel
theorem dX9_addStep_39 : decode cX9_addStep 39 = .ok (.return_, 1) := by decide +kernel
theorem dX9_nameOf_0 : decode cX9_nameOf 0 = .ok (.iload_n 0, 1) := by decide +kernel
theorem dX9_nameOf_1 : decode cX9_nameOf 1 = .ok (.tableswitch 114 99 119 #[111, 103, 114, 114, 114, 105, 114, 114, 114, 114, 114, 114, 107, 114, 114, 114, 99, 114, 101, 114, 109], 99) := by decide +kernel
theorem dX9_nameOf_100 : decode cX9_nameOf 100 = .ok (.iconst 0, 1) := by decide +kernel
theorem dX9_nameOf_101 : decode cX9_nameOf 101 = .ok (.ireturn, 1) := by decide +kernel
theorem dX9_nameOf_102 : decode cX9_nameOf 102 = .ok (.iconst 1, 1) := by decide +kernel
theorem dX9_nameOf_103 : decode cX9_nameOf 103 = .ok (.ireturn, 1) := by decide +kernel
theorem dX9_nameOf_104 : decode cX9_nameOf 104 = .ok (.iconst 2, 1) := by decide +kernel
theorem dX9_nameOf_105 : decode cX9_nameOf 105 = .ok (.ireturn, 1) := by decide +kernel
theorem dX9_nameOf_106 : decode cX9_nameOf 106 = .ok (.iconst 3, 1) := by decide +kernel
theorem dX9_nameOf_107 : decode cX9_nameOf 107 = .ok (.ireturn, 1) := by decide +kernel
theorem dX9_nameOf_108 : decode cX9_nameOf 108 = .ok (.iconst 4, 1) := by decide +kernel
theorem dX9_nameOf_109 : decode cX9_nameOf 109 = .ok (.ireturn, 1) := by decide +kernel
theorem dX9_nameOf_110 : decode cX9_nameOf 110 = .ok (.iconst 5, 1) := by decide +kernel
theorem dX9_nameOf_111 : decode cX9_nameOf 111 = .ok (.ireturn, 1) := by decide +kernel
theorem dX9_nameOf_112 : decode cX9_nameOf 112 = .ok (.bipush 6, 2) := by decide +kernel
theorem dX9_nameOf_114 : decode cX9_nameOf 114 = .ok (.ireturn, 1) := by decide +kernel
theorem dX9_nameOf_115 : decode cX9_nameOf 115 = .ok (.iconst (-1), 1) := by decide +kernel
theorem dX9_nameOf_116 : decode cX9_nameOf 116 = .ok (.ireturn, 1) := by decide +kernel
theorem dX9_opens_0 : decode cX9_opens 0 = .ok (.aload_n 0, 1) := by decide +kernel
theorem dX9_opens_1 : decode cX9_opens 1 = .ok (.getfield 194, 3) := by decide +kernel
theorem dX9_opens_4 : decode cX9_opens 4 = .ok (.bipush 6, 2) := by decide +kernel
theorem dX9_opens_6 : decode cX9_opens 6 = .ok (.if_icmp .ne 9, 3) := by decide +kernel
theorem dX9_opens_9 : decode cX9_opens 9 = .ok (.aload_n 0, 1) := by decide +kernel
theorem dX9_opens_10 : decode cX9_opens 10 = .ok (.invokevirtual 197, 3) := by decide +kernel
theorem dX9_opens_13 : decode cX9_opens 13 = .ok (.iconst 0, 1) := by decide +kernel
theorem dX9_opens_14 : decode cX9_opens 14 = .ok (.ireturn, 1) := by decide +kernel
theorem dX9_opens_15 : decode cX9_opens 15 = .ok (.aload_n 0, 1) := by decide +kernel
theorem dX9_opens_16 : decode cX9_opens 16 = .ok (.dup, 1) := by decide +kernel
theorem dX9_opens_17 : decode cX9_opens 17 = .ok (.getfield 194, 3) := by decide +kernel
theorem dX9_opens_20 : decode cX9_opens 20 = .ok (.iconst 1, 1) := by decide +kernel
theorem dX9_opens_21 : decode cX9_opens 21 = .ok (.iadd, 1) := by decide +kernel
theorem dX9_opens_22 : decode cX9_opens 22 = .ok (.putfield 194, 3) := by decide +kernel
theorem dX9_opens_25 : decode cX9_opens 25 = .ok (.aload_n 0, 1) := by decide +kernel
theorem dX9_opens_26 : decode cX9_opens 26 = .ok (.dup, 1) := by decide +kernel
theorem dX9_opens_27 : decode cX9_opens 27 = .ok (.getfield 185, 3) := by decide +kernel
theorem dX9_opens_30 : decode cX9_opens 30 = .ok (.iconst 1, 1) := by decide +kernel
theorem dX9_opens_31 : decode cX9_opens 31 = .ok (.iadd, 1) := by decide +kernel
theorem dX9_opens_32 : decode cX9_opens 32 = .ok (.putfield 185, 3) := by decide +kernel
theorem dX9_opens_35 : decode cX9_opens 35 = .ok (.iconst 1, 1) := by decide +kernel
theorem dX9_opens_36 : decode cX9_opens 36 = .ok (.ireturn, 1) := by decide +kernel
theorem dX9_figure_0 : decode cX9_figure 0 = .ok (.iconst 0, 1) := by decide +kernel
theorem dX9_figure_1 : decode cX9_figure 1 = .ok (.istore_n 1, 1) := by decide +kernel
theorem dX9_figure_2 : decode cX9_figure 2 = .ok (.iconst 0, 1) := by decide +kernel
theorem dX9_figure_3 : decode cX9_figure 3 = .ok (.istore_n 2, 1) := by decide +kernel
theorem dX9_figure_4 : decode cX9_figure 4 = .ok (.iload_n 2, 1) := by decide +kernel
theorem dX9_figure_5 : decode cX9_figure 5 = .ok (.iconst 4, 1) := by decide +kernel
theorem dX9_figure_6 : decode cX9_figure 6 = .ok (.if_icmp .ge 46, 3) := by decide +kernel
theorem dX9_figure_9 : decode cX9_figure 9 = .ok (.aload_n 0, 1) := by decide +kernel
theorem dX9_figure_10 : decode cX9_figure 10 = .ok (.invokevirtual 200, 3) := by decide +kernel
theorem dX9_figure_13 : decode cX9_figure 13 = .ok (.bipush 48, 2) := by decide +kernel
theorem dX9_figure_15 : decode cX9_figure 15 = .ok (.bipush 57, 2) := by decide +kernel
theorem dX9_figure_17 : decode cX9_figure 17 = .ok (.invokestatic 116, 3) := by decide +kernel
theorem dX9_figure_20 : decode cX9_figure 20 = .ok (.ifCond .eq 32, 3) := by decide +kernel
theorem dX9_figure_23 : decode cX9_figure 23 = .ok (.bipush 10, 2) := by decide +kernel
theorem dX9_figure_25 : decode cX9_figure 25 = .ok (.iload_n 1, 1) := by decide +kernel
theorem dX9_figure_26 : decode cX9_figure 26 = .ok (.imul, 1) := by decide +kernel
theorem dX9_figure_27 : decode cX9_figure 27 = .ok (.aload_n 0, 1) := by decide +kernel
theorem dX9_figure_28 : decode cX9_figure 28 = .ok (.invokevirtual 200, 3) := by decide +kernel
theorem dX9_figure_31 : decode cX9_figure 31 = .ok (.iadd, 1) := by decide +kernel
theorem dX9_figure_32 : decode cX9_figure 32 = .ok (.bipush 48, 2) := by decide +kernel
theorem dX9_figure_34 : decode cX9_figure 34 = .ok (.isub, 1) := by decide +kernel
theorem dX9_figure_35 : decode cX9_figure 35 = .ok (.istore_n 1, 1) := by decide +kernel
theorem dX9_figure_36 : decode cX9_figure 36 = .ok (.iinc 2 1, 3) := by decide +kernel
theorem dX9_figure_39 : decode cX9_figure 39 = .ok (.aload_n 0, 1) := by decide +kernel
theorem dX9_figure_40 : decode cX9_figure 40 = .ok (.dup, 1) := by decide +kernel
theorem dX9_figure_41 : decode cX9_figure 41 = .ok (.getfield 185, 3) := by decide +kernel
theorem dX9_figure_44 : decode cX9_figure 44 = .ok (.iconst 1, 1) := by decide +kernel
theorem dX9_figure_45 : decode cX9_figure 45 = .ok (.iadd, 1) := by decide +kernel
theorem dX9_figure_46 : decode cX9_figure 46 = .ok (.putfield 185, 3) := by decide +kernel
theorem dX9_figure_49 : decode cX9_figure 49 = .ok (.goto (-45), 3) := by decide +kernel
theorem dX9_figure_52 : decode cX9_figure 52 = .ok (.iload_n 2, 1) := by decide +kernel
theorem dX9_figure_53 : decode cX9_figure 53 = .ok (.ifCond .eq 17, 3) := by decide +kernel
theorem dX9_figure_56 : decode cX9_figure 56 = .ok (.aload_n 0, 1) := by decide +kernel
theorem dX9_figure_57 : decode cX9_figure 57 = .ok (.invokevirtual 200, 3) := by decide +kernel
theorem dX9_figure_60 : decode cX9_figure 60 = .ok (.bipush 48, 2) := by decide +kernel
theorem dX9_figure_62 : decode cX9_figure 62 = .ok (.bipush 57, 2) := by decide +kernel
theorem dX9_figure_64 : decode cX9_figure 64 = .ok (.invokestatic 116, 3) := by decide +kernel
theorem dX9_figure_67 : decode cX9_figure 67 = .ok (.ifCond .eq 7, 3) := by decide +kernel
theorem dX9_figure_70 : decode cX9_figure 70 = .ok (.aload_n 0, 1) := by decide +kernel
theorem dX9_figure_71 : decode cX9_figure 71 = .ok (.invokevirtual 197, 3) := by decide +kernel
theorem dX9_figure_74 : decode cX9_figure 74 = .ok (.aload_n 0, 1) := by decide +kernel
theorem dX9_figure_75 : decode cX9_figure 75 = .ok (.iconst 1, 1) := by decide +kernel
theorem dX9_figure_76 : decode cX9_figure 76 = .ok (.iload_n 1, 1) := by decide +kernel
theorem dX9_figure_77 : decode cX9_figure 77 = .ok (.invokevirtual 204, 3) := by decide +kernel
theorem dX9_figure_80 : decode cX9_figure 80 = .ok (.return_, 1) := by decide +kernel
theorem dX9_operand_0 : decode cX9_operand 0 = .ok (.aload_n 0, 1) := by decide +kernel
theorem dX9_operand_1 : decode cX9_operand 1 = .ok (.invokevirtual 200, 3) := by decide +kernel
theorem dX9_operand_4 : decode cX9_operand 4 = .ok (.istore_n 1, 1) := by decide +kernel
theorem dX9_operand_5 : decode cX9_operand 5 = .ok (.iload_n 1, 1) := by decide +kernel
theorem dX9_operand_6 : decode cX9_operand 6 = .ok (.invokestatic 208, 3) := by decide +kernel
theorem dX9_operand_9 : decode cX9_operand 9 = .ok (.ifCond .lt 25, 3) := by decide +kernel
theorem dX9_operand_12 : decode cX9_operand 12 = .ok (.aload_n 0, 1) := by decide +kernel
theorem dX9_operand_13 : decode cX9_operand 13 = .ok (.iconst 2, 1) := by decide +kernel
theorem dX9_operand_14 : decode cX9_operand 14 = .ok (.iload_n 1, 1) := by decide +kernel
theorem dX9_operand_15 : decode cX9_operand 15 = .ok (.invokestatic 208, 3) := by decide +kernel
theorem dX9_operand_18 : decode cX9_operand 18 = .ok (.invokevirtual 204, 3) := by decide +kernel
theorem dX9_operand_21 : decode cX9_operand 21 = .ok (.aload_n 0, 1) := by decide +kernel
theorem dX9_operand_22 : decode cX9_operand 22 = .ok (.dup, 1) := by decide +kernel
theorem dX9_operand_23 : decode cX9_operand 23 = .ok (.getfield 185, 3) := by decide +kernel
theorem dX9_operand_26 : decode cX9_operand 26 = .ok (.iconst 1, 1) := by decide +kernel
theorem dX9_operand_27 : decode cX9_operand 27 = .ok (.iadd, 1) := by decide +kernel
theorem dX9_operand_28 : decode cX9_operand 28 = .ok (.putfield 185, 3) := by decide +kernel
theorem dX9_operand_31 : decode cX9_operand 31 = .ok (.goto 123, 3) := by decide +kernel
theorem dX9_operand_34 : decode cX9_operand 34 = .ok (.iload_n 1, 1) := by decide +kernel
theorem dX9_operand_35 : decode cX9_operand 35 = .ok (.bipush 33, 2) := by decide +kernel
theorem dX9_operand_37 : decode cX9_operand 37 = .ok (.if_icmp .eq 9, 3) := by decide +kernel
theorem dX9_operand_40 : decode cX9_operand 40 = .ok (.iload_n 1, 1) := by decide +kernel
theorem dX9_operand_41 : decode cX9_operand 41 = .ok (.bipush 45, 2) := by decide +kernel
theorem dX9_operand_43 : decode cX9_operand 43 = .ok (.if_icmp .ne 44, 3) := by decide +kernel
theorem dX9_operand_46 : decode cX9_operand 46 = .ok (.aload_n 0, 1) := by decide +kernel
theorem dX9_operand_47 : decode cX9_operand 47 = .ok (.invokevirtual 211, 3) := by decide +kernel
theorem dX9_operand_50 : decode cX9_operand 50 = .ok (.ifCond .ne 4, 3) := by decide +kernel
theorem dX9_operand_53 : decode cX9_operand 53 = .ok (.return_, 1) := by decide +kernel
theorem dX9_operand_54 : decode cX9_operand 54 = .ok (.aload_n 0, 1) := by decide +kernel
theorem dX9_operand_55 : decode cX9_operand 55 = .ok (.invokevirtual 215, 3) := by decide +kernel
theorem dX9_operand_58 : decode cX9_operand 58 = .ok (.aload_n 0, 1) := by decide +kernel
theorem dX9_operand_59 : decode cX9_operand 59 = .ok (.dup, 1) := by decide +kernel
theorem dX9_operand_60 : decode cX9_operand 60 = .ok (.getfield 194, 3) := by decide +kernel
theorem dX9_operand_63 : decode cX9_operand 63 = .ok (.iconst 1, 1) := by decide +kernel
theorem dX9_operand_64 : decode cX9_operand 64 = .ok (.isub, 1) := by decide +kernel
theorem dX9_operand_65 : decode cX9_operand 65 = .ok (.putfield 194, 3) := by decide +kernel
theorem dX9_operand_68 : decode cX9_operand 68 = .ok (.aload_n 0, 1) := by decide +kernel
theorem dX9_operand_69 : decode cX9_operand 69 = .ok (.iload_n 1, 1) := by decide +kernel
theorem dX9_operand_70 : decode cX9_operand 70 = .ok (.bipush 33, 2) := by decide +kernel
theorem dX9_operand_72 : decode cX9_operand 72 = .ok (.if_icmp .ne 7, 3) := by decide +kernel
theorem dX9_operand_75 : decode cX9_operand 75 = .ok (.iconst 3, 1) := by decide +kernel
theorem dX9_operand_76 : decode cX9_operand 76 = .ok (.goto 4, 3) := by decide +kernel
theorem dX9_operand_79 : decode cX9_operand 79 = .ok (.iconst 4, 1) := by decide +kernel
theorem dX9_operand_80 : decode cX9_operand 80 = .ok (.iconst 0, 1) := by decide +kernel
theorem dX9_operand_81 : decode cX9_operand 81 = .ok (.invokevirtual 204, 3) := by decide +kernel
theorem dX9_operand_84 : decode cX9_operand 84 = .ok (.goto 70, 3) := by decide +kernel
theorem dX9_operand_87 : decode cX9_operand 87 = .ok (.iload_n 1, 1) := by decide +kernel
theorem dX9_operand_88 : decode cX9_operand 88 = .ok (.bipush 40, 2) := by decide +kernel
theorem dX9_operand_90 : decode cX9_operand 90 = .ok (.if_icmp .ne 60, 3) := by decide +kernel
theorem dX9_operand_93 : decode cX9_operand 93 = .ok (.aload_n 0, 1) := by decide +kernel
theorem dX9_operand_94 : decode cX9_operand 94 = .ok (.invokevirtual 211, 3) := by decide +kernel
theorem dX9_operand_97 : decode cX9_operand 97 = .ok (.ifCond .ne 4, 3) := by decide +kernel
theorem dX9_operand_100 : decode cX9_operand 100 = .ok (.return_, 1) := by decide +kernel
theorem dX9_operand_101 : decode cX9_operand 101 = .ok (.aload_n 0, 1) := by decide +kernel
theorem dX9_operand_102 : decode cX9_operand 102 = .ok (.invokevirtual 218, 3) := by decide +kernel
theorem dX9_operand_105 : decode cX9_operand 105 = .ok (.aload_n 0, 1) := by decide +kernel
theorem dX9_operand_106 : decode cX9_operand 106 = .ok (.getfield 188, 3) := by decide +kernel
theorem dX9_operand_109 : decode cX9_operand 109 = .ok (.ifCond .lt 4, 3) := by decide +kernel
theorem dX9_operand_112 : decode cX9_operand 112 = .ok (.return_, 1) := by decide +kernel
theorem dX9_operand_113 : decode cX9_operand 113 = .ok (.aload_n 0, 1) := by decide +kernel
theorem dX9_operand_114 : decode cX9_operand 114 = .ok (.invokevirtual 200, 3) := by decide +kernel
theorem dX9_operand_117 : decode cX9_operand 117 = .ok (.bipush 41, 2) := by decide +kernel
theorem dX9_operand_119 : decode cX9_operand 119 = .ok (.if_icmp .eq 8, 3) := by decide +kernel
theorem dX9_operand_122 : decode cX9_operand 122 = .ok (.aload_n 0, 1) := by decide +kernel
theorem dX9_operand_123 : decode cX9_operand 123 = .ok (.invokevirtual 197, 3) := by decide +kernel
theorem dX9_operand_126 : decode cX9_operand 126 = .ok (.return_, 1) := by decide +kernel
theorem dX9_operand_127 : decode cX9_operand 127 = .ok (.aload_n 0, 1) := by decide +kernel
theorem dX9_operand_128 : decode cX9_operand 128 = .ok (.dup, 1) := by decide +kernel
theorem dX9_operand_129 : decode cX9_operand 129 = .ok (.getfield 185, 3) := by decide +kernel
theorem dX9_operand_132 : decode cX9_operand 132 = .ok (.iconst 1, 1) := by decide +kernel
theorem dX9_operand_133 : decode cX9_operand 133 = .ok (.iadd, 1) := by decide +kernel
theorem dX9_operand_134 : decode cX9_operand 134 = .ok (.putfield 185, 3) := by decide +kernel
theorem dX9_operand_137 : decode cX9_operand 137 = .ok (.aload_n 0, 1) := by decide +kernel
theorem dX9_operand_138 : decode cX9_operand 138 = .ok (.dup, 1) := by decide +kernel
theorem dX9_operand_139 : decode cX9_operand 139 = .ok (.getfield 194, 3) := by decide +kernel
theorem dX9_operand_142 : decode cX9_operand 142 = .ok (.iconst 1, 1) := by decide +kernel
theorem dX9_operand_143 : decode cX9_operand 143 = .ok (.isub, 1) := by decide +kernel
theorem dX9_operand_144 : decode cX9_operand 144 = .ok (.putfield 194, 3) := by decide +kernel
theorem dX9_operand_147 : decode cX9_operand 147 = .ok (.goto 7, 3) := by decide +kernel
theorem dX9_operand_150 : decode cX9_operand 150 = .ok (.aload_n 0, 1) := by decide +kernel
theorem dX9_operand_151 : decode cX9_operand 151 = .ok (.invokevirtual 221, 3) := by decide +kernel
theorem dX9_operand_154 : decode cX9_operand 154 = .ok (.return_, 1) := by decide +kernel
theorem dX9_product_0 : decode cX9_product 0 = .ok (.aload_n 0, 1) := by decide +kernel
theorem dX9_product_1 : decode cX9_product 1 = .ok (.invokevirtual 215, 3) := by decide +kernel
theorem dX9_product_4 : decode cX9_product 4 = .ok (.aload_n 0, 1) := by decide +kernel
theorem dX9_product_5 : decode cX9_product 5 = .ok (.getfield 188, 3) := by decide +kernel
theorem dX9_product_8 : decode cX9_product 8 = .ok (.ifCond .ge 58, 3) := by decide +kernel
theorem dX9_product_11 : decode cX9_product 11 = .ok (.aload_n 0, 1) := by decide +kernel
theorem dX9_product_12 : decode cX9_product 12 = .ok (.invokevirtual 200, 3) := by decide +kernel
theorem dX9_product_15 : decode cX9_product 15 = .ok (.bipush 42, 2) := by decide +kernel
theorem dX9_product_17 : decode cX9_product 17 = .ok (.if_icmp .eq 21, 3) := by decide +kernel
theorem dX9_product_20 : decode cX9_product 20 = .ok (.aload_n 0, 1) := by decide +kernel
theorem dX9_product_21 : decode cX9_product 21 = .ok (.invokevirtual 200, 3) := by decide +kernel
theorem dX9_product_24 : decode cX9_product 24 = .ok (.bipush 47, 2) := by decide +kernel
theorem dX9_product_26 : decode cX9_product 26 = .ok (.if_icmp .eq 12, 3) := by decide +kernel
theorem dX9_product_29 : decode cX9_product 29 = .ok (.aload_n 0, 1) := by decide +kernel
theorem dX9_product_30 : decode cX9_product 30 = .ok (.invokevirtual 200, 3) := by decide +kernel
theorem dX9_product_33 : decode cX9_product 33 = .ok (.bipush 37, 2) := by decide +kernel
theorem dX9_product_35 : decode cX9_product 35 = .ok (.if_icmp .ne 31, 3) := by decide +kernel
theorem dX9_product_38 : decode cX9_product 38 = .ok (.aload_n 0, 1) := by decide +kernel
theorem dX9_product_39 : decode cX9_product 39 = .ok (.invokevirtual 200, 3) := by decide +kernel
theorem dX9_product_42 : decode cX9_product 42 = .ok (.istore_n 1, 1) := by decide +kernel
theorem dX9_product_43 : decode cX9_product 43 = .ok (.aload_n 0, 1) := by decide +kernel
theorem dX9_product_44 : decode cX9_product 44 = .ok (.dup, 1) := by decide +kernel
theorem dX9_product_45 : decode cX9_product 45 = .ok (.getfield 185, 3) := by decide +kernel
theorem dX9_product_48 : decode cX9_product 48 = .ok (.iconst 1, 1) := by decide +kernel
theorem dX9_product_49 : decode cX9_product 49 = .ok (.iadd, 1) := by decide +kernel
theorem dX9_product_50 : decode cX9_product 50 = .ok (.putfield 185, 3) := by decide +kernel
theorem dX9_product_53 : decode cX9_product 53 = .ok (.aload_n 0, 1) := by decide +kernel
theorem dX9_product_54 : decode cX9_product 54 = .ok (.invokevirtual 215, 3) := by decide +kernel
theorem dX9_product_57 : decode cX9_product 57 = .ok (.aload_n 0, 1) := by decide +kernel
theorem dX9_product_58 : decode cX9_product 58 = .ok (.iload_n 1, 1) := by decide +kernel
theorem dX9_product_59 : decode cX9_product 59 = .ok (.iconst 0, 1) := by decide +kernel
theorem dX9_product_60 : decode cX9_product 60 = .ok (.invokevirtual 204, 3) := by decide +kernel
theorem dX9_product_63 : decode cX9_product 63 = .ok (.goto (-59), 3) := by decide +kernel
theorem dX9_product_66 : decode cX9_product 66 = .ok (.return_, 1) := by decide +kernel
theorem dX9_sum_0 : decode cX9_sum 0 = .ok (.aload_n 0, 1) := by decide +kernel
theorem dX9_sum_1 : decode cX9_sum 1 = .ok (.invokevirtual 224, 3) := by decide +kernel
theorem dX9_sum_4 : decode cX9_sum 4 = .ok (.aload_n 0, 1) := by decide +kernel
theorem dX9_sum_5 : decode cX9_sum 5 = .ok (.getfield 188, 3) := by decide +kernel
theorem dX9_sum_8 : decode cX9_sum 8 = .ok (.ifCond .ge 49, 3) := by decide +kernel
theorem dX9_sum_11 : decode cX9_sum 11 = .ok (.aload_n 0, 1) := by decide +kernel
theorem dX9_sum_12 : decode cX9_sum 12 = .ok (.invokevirtual 200, 3) := by decide +kernel
theorem dX9_sum_15 : decode cX9_sum 15 = .ok (.bipush 43, 2) := by decide +kernel
theorem dX9_sum_17 : decode cX9_sum 17 = .ok (.if_icmp .eq 12, 3) := by decide +kernel
theorem dX9_sum_20 : decode cX9_sum 20 = .ok (.aload_n 0, 1) := by decide +kernel
theorem dX9_sum_21 : decode cX9_sum 21 = .ok (.invokevirtual 200, 3) := by decide +kernel
theorem dX9_sum_24 : decode cX9_sum 24 = .ok (.bipush 45, 2) := by decide +kernel
theorem dX9_sum_26 : decode cX9_sum 26 = .ok (.if_icmp .ne 31, 3) := by decide +kernel
theorem dX9_sum_29 : decode cX9_sum 29 = .ok (.aload_n 0, 1) := by decide +kernel
theorem dX9_sum_30 : decode cX9_sum 30 = .ok (.invokevirtual 200, 3) := by decide +kernel
theorem dX9_sum_33 : decode cX9_sum 33 = .ok (.istore_n 1, 1) := by decide +kernel
theorem dX9_sum_34 : decode cX9_sum 34 = .ok (.aload_n 0, 1) := by decide +kernel
theorem dX9_sum_35 : decode cX9_sum 35 = .ok (.dup, 1) := by decide +kernel
theorem dX9_sum_36 : decode cX9_sum 36 = .ok (.getfield 185, 3) := by decide +kernel
theorem dX9_sum_39 : decode cX9_sum 39 = .ok (.iconst 1, 1) := by decide +kernel
theorem dX9_sum_40 : decode cX9_sum 40 = .ok (.iadd, 1) := by decide +kernel
theorem dX9_sum_41 : decode cX9_sum 41 = .ok (.putfield 185, 3) := by decide +kernel
theorem dX9_sum_44 : decode cX9_sum 44 = .ok (.aload_n 0, 1) := by decide +kernel
theorem dX9_sum_45 : decode cX9_sum 45 = .ok (.invokevirtual 224, 3) := by decide +kernel
theorem dX9_sum_48 : decode cX9_sum 48 = .ok (.aload_n 0, 1) := by decide +kernel
theorem dX9_sum_49 : decode cX9_sum 49 = .ok (.iload_n 1, 1) := by decide +kernel
theorem dX9_sum_50 : decode cX9_sum 50 = .ok (.iconst 0, 1) := by decide +kernel
theorem dX9_sum_51 : decode cX9_sum 51 = .ok (.invokevirtual 204, 3) := by decide +kernel
theorem dX9_sum_54 : decode cX9_sum 54 = .ok (.goto (-50), 3) := by decide +kernel
theorem dX9_sum_57 : decode cX9_sum 57 = .ok (.return_, 1) := by decide +kernel
theorem dX9_compared_0 : decode cX9_compared 0 = .ok (.aload_n 0, 1) := by decide +kernel
theorem dX9_compared_1 : decode cX9_compared 1 = .ok (.invokevirtual 227, 3) := by decide +kernel
theorem dX9_compared_4 : decode cX9_compared 4 = .ok (.aload_n 0, 1) := by decide +kernel
theorem dX9_compared_5 : decode cX9_compared 5 = .ok (.invokevirtual 200, 3) := by decide +kernel
theorem dX9_compared_8 : decode cX9_compared 8 = .ok (.istore_n 1, 1) := by decide +kernel
theorem dX9_compared_9 : decode cX9_compared 9 = .ok (.aload_n 0, 1) := by decide +kernel
theorem dX9_compared_10 : decode cX9_compared 10 = .ok (.getfield 188, 3) := by decide +kernel
theorem dX9_compared_13 : decode cX9_compared 13 = .ok (.ifCond .ge 21, 3) := by decide +kernel
theorem dX9_compared_16 : decode cX9_compared 16 = .ok (.iload_n 1, 1) := by decide +kernel
theorem dX9_compared_17 : decode cX9_compared 17 = .ok (.bipush 60, 2) := by decide +kernel
theorem dX9_compared_19 : decode cX9_compared 19 = .ok (.if_icmp .eq 16, 3) := by decide +kernel
theorem dX9_compared_22 : decode cX9_compared 22 = .ok (.iload_n 1, 1) := by decide +kernel
theorem dX9_compared_23 : decode cX9_compared 23 = .ok (.bipush 61, 2) := by decide +kernel
theorem dX9_compared_25 : decode cX9_compared 25 = .ok (.if_icmp .eq 10, 3) := by decide +kernel
theorem dX9_compared_28 : decode cX9_compared 28 = .ok (.iload_n 1, 1) := by decide +kernel
theorem dX9_compared_29 : decode cX9_compared 29 = .ok (.bipush 62, 2) := by decide +kernel
theorem dX9_compared_31 : decode cX9_compared 31 = .ok (.if_icmp .eq 4, 3) := by decide +kernel
theorem dX9_compared_34 : decode cX9_compared 34 = .ok (.return_, 1) := by decide +kernel
theorem dX9_compared_35 : decode cX9_compared 35 = .ok (.aload_n 0, 1) := by decide +kernel
theorem dX9_compared_36 : decode cX9_compared 36 = .ok (.dup, 1) := by decide +kernel
theorem dX9_compared_37 : decode cX9_compared 37 = .ok (.getfield 185, 3) := by decide +kernel
theorem dX9_compared_40 : decode cX9_compared 40 = .ok (.iconst 1, 1) := by decide +kernel
theorem dX9_compared_41 : decode cX9_compared 41 = .ok (.iadd, 1) := by decide +kernel
theorem dX9_compared_42 : decode cX9_compared 42 = .ok (.putfield 185, 3) := by decide +kernel
theorem dX9_compared_45 : decode cX9_compared 45 = .ok (.aload_n 0, 1) := by decide +kernel
theorem dX9_compared_46 : decode cX9_compared 46 = .ok (.invokevirtual 227, 3) := by decide +kernel
theorem dX9_compared_49 : decode cX9_compared 49 = .ok (.aload_n 0, 1) := by decide +kernel
theorem dX9_compared_50 : decode cX9_compared 50 = .ok (.iload_n 1, 1) := by decide +kernel
theorem dX9_compared_51 : decode cX9_compared 51 = .ok (.iconst 0, 1) := by decide +kernel
theorem dX9_compared_52 : decode cX9_compared 52 = .ok (.invokevirtual 204, 3) := by decide +kernel
theorem dX9_compared_55 : decode cX9_compared 55 = .ok (.return_, 1) := by decide +kernel
theorem dX9_both_0 : decode cX9_both 0 = .ok (.aload_n 0, 1) := by decide +kernel
theorem dX9_both_1 : decode cX9_both 1 = .ok (.invokevirtual 230, 3) := by decide +kernel
theorem dX9_both_4 : decode cX9_both 4 = .ok (.aload_n 0, 1) := by decide +kernel
theorem dX9_both_5 : decode cX9_both 5 = .ok (.getfield 188, 3) := by decide +kernel
theorem dX9_both_8 : decode cX9_both 8 = .ok (.ifCond .ge 36, 3) := by decide +kernel
theorem dX9_both_11 : decode cX9_both 11 = .ok (.aload_n 0, 1) := by decide +kernel
theorem dX9_both_12 : decode cX9_both 12 = .ok (.invokevirtual 200, 3) := by decide +kernel
theorem dX9_both_15 : decode cX9_both 15 = .ok (.bipush 38, 2) := by decide +kernel
theorem dX9_both_17 : decode cX9_both 17 = .ok (.if_icmp .ne 27, 3) := by decide +kernel
theorem dX9_both_20 : decode cX9_both 20 = .ok (.aload_n 0, 1) := by decide +kernel
theorem dX9_both_21 : decode cX9_both 21 = .ok (.dup, 1) := by decide +kernel
theorem dX9_both_22 : decode cX9_both 22 = .ok (.getfield 185, 3) := by decide +kernel
theorem dX9_both_25 : decode cX9_both 25 = .ok (.iconst 1, 1) := by decide +kernel
theorem dX9_both_26 : decode cX9_both 26 = .ok (.iadd, 1) := by decide +kernel
theorem dX9_both_27 : decode cX9_both 27 = .ok (.putfield 185, 3) := by decide +kernel
theorem dX9_both_30 : decode cX9_both 30 = .ok (.aload_n 0, 1) := by decide +kernel
theorem dX9_both_31 : decode cX9_both 31 = .ok (.invokevirtual 230, 3) := by decide +kernel
theorem dX9_both_34 : decode cX9_both 34 = .ok (.aload_n 0, 1) := by decide +kernel
theorem dX9_both_35 : decode cX9_both 35 = .ok (.bipush 38, 2) := by decide +kernel
theorem dX9_both_37 : decode cX9_both 37 = .ok (.iconst 0, 1) := by decide +kernel
theorem dX9_both_38 : decode cX9_both 38 = .ok (.invokevirtual 204, 3) := by decide +kernel
theorem dX9_both_41 : decode cX9_both 41 = .ok (.goto (-37), 3) := by decide +kernel
theorem dX9_both_44 : decode cX9_both 44 = .ok (.return_, 1) := by decide +kernel
theorem dX9_either_0 : decode cX9_either 0 = .ok (.aload_n 0, 1) := by decide +kernel
theorem dX9_either_1 : decode cX9_either 1 = .ok (.invokevirtual 233, 3) := by decide +kernel
theorem dX9_either_4 : decode cX9_either 4 = .ok (.aload_n 0, 1) := by decide +kernel
theorem dX9_either_5 : decode cX9_either 5 = .ok (.getfield 188, 3) := by decide +kernel
theorem dX9_either_8 : decode cX9_either 8 = .ok (.ifCond .ge 36, 3) := by decide +kernel
theorem dX9_either_11 : decode cX9_either 11 = .ok (.aload_n 0, 1) := by decide +kernel
theorem dX9_either_12 : decode cX9_either 12 = .ok (.invokevirtual 200, 3) := by decide +kernel
theorem dX9_either_15 : decode cX9_either 15 = .ok (.bipush 124, 2) := by decide +kernel
theorem dX9_either_17 : decode cX9_either 17 = .ok (.if_icmp .ne 27, 3) := by decide +kernel
theorem dX9_either_20 : decode cX9_either 20 = .ok (.aload_n 0, 1) := by decide +kernel
theorem dX9_either_21 : decode cX9_either 21 = .ok (.dup, 1) := by decide +kernel
theorem dX9_either_22 : decode cX9_either 22 = .ok (.getfield 185, 3) := by decide +kernel
theorem dX9_either_25 : decode cX9_either 25 = .ok (.iconst 1, 1) := by decide +kernel
theorem dX9_either_26 : decode cX9_either 26 = .ok (.iadd, 1) := by decide +kernel
theorem dX9_either_27 : decode cX9_either 27 = .ok (.putfield 185, 3) := by decide +kernel
theorem dX9_either_30 : decode cX9_either 30 = .ok (.aload_n 0, 1) := by decide +kernel
theorem dX9_either_31 : decode cX9_either 31 = .ok (.invokevirtual 233, 3) := by decide +kernel
theorem dX9_either_34 : decode cX9_either 34 = .ok (.aload_n 0, 1) := by decide +kernel
theorem dX9_either_35 : decode cX9_either 35 = .ok (.bipush 124, 2) := by decide +kernel
theorem dX9_either_37 : decode cX9_either 37 = .ok (.iconst 0, 1) := by decide +kernel
theorem dX9_either_38 : decode cX9_either 38 = .ok (.invokevirtual 204, 3) := by decide +kernel
theorem dX9_either_41 : decode cX9_either 41 = .ok (.goto (-37), 3) := by decide +kernel
theorem dX9_either_44 : decode cX9_either 44 = .ok (.return_, 1) := by decide +kernel
theorem dX9_oneLine_0 : decode cX9_oneLine 0 = .ok (.bipush 61, 2) := by decide +kernel
theorem dX9_oneLine_2 : decode cX9_oneLine 2 = .ok (.aload_n 0, 1) := by decide +kernel
theorem dX9_oneLine_3 : decode cX9_oneLine 3 = .ok (.getfield 60, 3) := by decide +kernel
theorem dX9_oneLine_6 : decode cX9_oneLine 6 = .ok (.iconst 1, 1) := by decide +kernel
theorem dX9_oneLine_7 : decode cX9_oneLine 7 = .ok (.iaload, 1) := by decide +kernel
theorem dX9_oneLine_8 : decode cX9_oneLine 8 = .ok (.iadd, 1) := by decide +kernel
theorem dX9_oneLine_9 : decode cX9_oneLine 9 = .ok (.istore_n 1, 1) := by decide +kernel
theorem dX9_oneLine_10 : decode cX9_oneLine 10 = .ok (.aload_n 0, 1) := by decide +kernel
theorem dX9_oneLine_11 : decode cX9_oneLine 11 = .ok (.getfield 63, 3) := by decide +kernel
theorem dX9_oneLine_14 : decode cX9_oneLine 14 = .ok (.iload_n 1, 1) := by decide +kernel
theorem dX9_oneLine_15 : decode cX9_oneLine 15 = .ok (.aload_n 0, 1) := by decide +kernel
theorem dX9_oneLine_16 : decode cX9_oneLine 16 = .ok (.getfield 191, 3) := by decide +kernel
theorem dX9_oneLine_19 : decode cX9_oneLine 19 = .ok (.i2s, 1) := by decide +kernel
theorem dX9_oneLine_20 : decode cX9_oneLine 20 = .ok (.sastore, 1) := by decide +kernel
theorem dX9_oneLine_21 : decode cX9_oneLine 21 = .ok (.aload_n 0, 1) := by decide +kernel
theorem dX9_oneLine_22 : decode cX9_oneLine 22 = .ok (.invokevirtual 218, 3) := by decide +kernel
theorem dX9_oneLine_25 : decode cX9_oneLine 25 = .ok (.aload_n 0, 1) := by decide +kernel
theorem dX9_oneLine_26 : decode cX9_oneLine 26 = .ok (.getfield 188, 3) := by decide +kernel
theorem dX9_oneLine_29 : decode cX9_oneLine 29 = .ok (.ifCond .ge 37, 3) := by decide +kernel
theorem dX9_oneLine_32 : decode cX9_oneLine 32 = .ok (.aload_n 0, 1) := by decide +kernel
theorem dX9_oneLine_33 : decode cX9_oneLine 33 = .ok (.invokevirtual 200, 3) := by decide +kernel
theorem dX9_oneLine_36 : decode cX9_oneLine 36 = .ok (.bipush 63, 2) := by decide +kernel
theorem dX9_oneLine_38 : decode cX9_oneLine 38 = .ok (.if_icmp .ne 28, 3) := by decide +kernel
theorem dX9_oneLine_41 : decode cX9_oneLine 41 = .ok (.aload_n 0, 1) := by decide +kernel
theorem dX9_oneLine_42 : decode cX9_oneLine 42 = .ok (.dup, 1) := by decide +kernel
theorem dX9_oneLine_43 : decode cX9_oneLine 43 = .ok (.getfield 185, 3) := by decide +kernel
theorem dX9_oneLine_46 : decode cX9_oneLine 46 = .ok (.iconst 1, 1) := by decide +kernel
theorem dX9_oneLine_47 : decode cX9_oneLine 47 = .ok (.iadd, 1) := by decide +kernel
theorem dX9_oneLine_48 : decode cX9_oneLine 48 = .ok (.putfield 185, 3) := by decide +kernel
theorem dX9_oneLine_51 : decode cX9_oneLine 51 = .ok (.aload_n 0, 1) := by decide +kernel
theorem dX9_oneLine_52 : decode cX9_oneLine 52 = .ok (.getfield 63, 3) := by decide +kernel
theorem dX9_oneLine_55 : decode cX9_oneLine 55 = .ok (.iload_n 1, 1) := by decide +kernel
theorem dX9_oneLine_56 : decode cX9_oneLine 56 = .ok (.aload_n 0, 1) := by decide +kernel
theorem dX9_oneLine_57 : decode cX9_oneLine 57 = .ok (.getfield 191, 3) := by decide +kernel
theorem dX9_oneLine_60 : decode cX9_oneLine 60 = .ok (.i2s, 1) := by decide +kernel
theorem dX9_oneLine_61 : decode cX9_oneLine 61 = .ok (.sastore, 1) := by decide +kernel
theorem dX9_oneLine_62 : decode cX9_oneLine 62 = .ok (.aload_n 0, 1) := by decide +kernel
theorem dX9_oneLine_63 : decode cX9_oneLine 63 = .ok (.invokevirtual 218, 3) := by decide +kernel
theorem dX9_oneLine_66 : decode cX9_oneLine 66 = .ok (.aload_n 0, 1) := by decide +kernel
theorem dX9_oneLine_67 : decode cX9_oneLine 67 = .ok (.getfield 67, 3) := by decide +kernel
theorem dX9_oneLine_70 : decode cX9_oneLine 70 = .ok (.iload_n 1, 1) := by decide +kernel
theorem dX9_oneLine_71 : decode cX9_oneLine 71 = .ok (.aload_n 0, 1) := by decide +kernel
theorem dX9_oneLine_72 : decode cX9_oneLine 72 = .ok (.getfield 191, 3) := by decide +kernel
theorem dX9_oneLine_75 : decode cX9_oneLine 75 = .ok (.i2s, 1) := by decide +kernel
theorem dX9_oneLine_76 : decode cX9_oneLine 76 = .ok (.sastore, 1) := by decide +kernel
theorem dX9_oneLine_77 : decode cX9_oneLine 77 = .ok (.aload_n 0, 1) := by decide +kernel
theorem dX9_oneLine_78 : decode cX9_oneLine 78 = .ok (.getfield 60, 3) := by decide +kernel
theorem dX9_oneLine_81 : decode cX9_oneLine 81 = .ok (.iconst 1, 1) := by decide +kernel
theorem dX9_oneLine_82 : decode cX9_oneLine 82 = .ok (.dup2, 1) := by decide +kernel
theorem dX9_oneLine_83 : decode cX9_oneLine 83 = .ok (.iaload, 1) := by decide +kernel
theorem dX9_oneLine_84 : decode cX9_oneLine 84 = .ok (.iconst 1, 1) := by decide +kernel
theorem dX9_oneLine_85 : decode cX9_oneLine 85 = .ok (.iadd, 1) := by decide +kernel
theorem dX9_oneLine_86 : decode cX9_oneLine 86 = .ok (.iastore, 1) := by decide +kernel
theorem dX9_oneLine_87 : decode cX9_oneLine 87 = .ok (.return_, 1) := by decide +kernel
theorem dX9_readText_0 : decode cX9_readText 0 = .ok (.aload_n 0, 1) := by decide +kernel
theorem dX9_readText_1 : decode cX9_readText 1 = .ok (.iconst 0, 1) := by decide +kernel
theorem dX9_readText_2 : decode cX9_readText 2 = .ok (.putfield 185, 3) := by decide +kernel
theorem dX9_readText_5 : decode cX9_readText 5 = .ok (.aload_n 0, 1) := by decide +kernel
theorem dX9_readText_6 : decode cX9_readText 6 = .ok (.iconst (-1), 1) := by decide +kernel
theorem dX9_readText_7 : decode cX9_readText 7 = .ok (.putfield 188, 3) := by decide +kernel
theorem dX9_readText_10 : decode cX9_readText 10 = .ok (.aload_n 0, 1) := by decide +kernel
theorem dX9_readText_11 : decode cX9_readText 11 = .ok (.iconst 0, 1) := by decide +kernel
theorem dX9_readText_12 : decode cX9_readText 12 = .ok (.putfield 194, 3) := by decide +kernel
theorem dX9_readText_15 : decode cX9_readText 15 = .ok (.aload_n 0, 1) := by decide +kernel
theorem dX9_readText_16 : decode cX9_readText 16 = .ok (.iconst 0, 1) := by decide +kernel
theorem dX9_readText_17 : decode cX9_readText 17 = .ok (.putfield 191, 3) := by decide +kernel
theorem dX9_readText_20 : decode cX9_readText 20 = .ok (.aload_n 0, 1) := by decide +kernel
theorem dX9_readText_21 : decode cX9_readText 21 = .ok (.getfield 60, 3) := by decide +kernel
theorem dX9_readText_24 : decode cX9_readText 24 = .ok (.iconst 1, 1) := by decide +kernel
theorem dX9_readText_25 : decode cX9_readText 25 = .ok (.iconst 0, 1) := by decide +kernel
theorem dX9_readText_26 : decode cX9_readText 26 = .ok (.iastore, 1) := by decide +kernel
theorem dX9_readText_27 : decode cX9_readText 27 = .ok (.aload_n 0, 1) := by decide +kernel
theorem dX9_readText_28 : decode cX9_readText 28 = .ok (.invokevirtual 236, 3) := by decide +kernel
theorem dX9_readText_31 : decode cX9_readText 31 = .ok (.aload_n 0, 1) := by decide +kernel
theorem dX9_readText_32 : decode cX9_readText 32 = .ok (.getfield 188, 3) := by decide +kernel
theorem dX9_readText_35 : decode cX9_readText 35 = .ok (.ifCond .ge 29, 3) := by decide +kernel
theorem dX9_readText_38 : decode cX9_readText 38 = .ok (.aload_n 0, 1) := by decide +kernel
theorem dX9_readText_39 : decode cX9_readText 39 = .ok (.invokevirtual 200, 3) := by decide +kernel
theorem dX9_readText_42 : decode cX9_readText 42 = .ok (.bipush 59, 2) := by decide +kernel
theorem dX9_readText_44 : decode cX9_readText 44 = .ok (.if_icmp .ne 20, 3) := by decide +kernel
theorem dX9_readText_47 : decode cX9_readText 47 = .ok (.aload_n 0, 1) := by decide +kernel
theorem dX9_readText_48 : decode cX9_readText 48 = .ok (.dup, 1) := by decide +kernel
theorem dX9_readText_49 : decode cX9_readText 49 = .ok (.getfield 185, 3) := by decide +kernel
theorem dX9_readText_52 : decode cX9_readText 52 = .ok (.iconst 1, 1) := by decide +kernel
theorem dX9_readText_53 : decode cX9_readText 53 = .ok (.iadd, 1) := by decide +kernel
theorem dX9_readText_54 : decode cX9_readText 54 = .ok (.putfield 185, 3) := by decide +kernel
theorem dX9_readText_57 : decode cX9_readText 57 = .ok (.aload_n 0, 1) := by decide +kernel
theorem dX9_readText_58 : decode cX9_readText 58 = .ok (.invokevirtual 236, 3) := by decide +kernel
theorem dX9_readText_61 : decode cX9_readText 61 = .ok (.goto (-30), 3) := by decide +kernel
theorem dX9_readText_64 : decode cX9_readText 64 = .ok (.aload_n 0, 1) := by decide +kernel
theorem dX9_readText_65 : decode cX9_readText 65 = .ok (.getfield 188, 3) := by decide +kernel
theorem dX9_readText_68 : decode cX9_readText 68 = .ok (.ifCond .ge 18, 3) := by decide +kernel
theorem dX9_readText_71 : decode cX9_readText 71 = .ok (.aload_n 0, 1) := by decide +kernel
theorem dX9_readText_72 : decode cX9_readText 72 = .ok (.getfield 185, 3) := by decide +kernel
theorem dX9_readText_75 : decode cX9_readText 75 = .ok (.aload_n 0, 1) := by decide +kernel
theorem dX9_readText_76 : decode cX9_readText 76 = .ok (.getfield 182, 3) := by decide +kernel
theorem dX9_readText_79 : decode cX9_readText 79 = .ok (.if_icmp .ge 7, 3) := by decide +kernel
theorem dX9_readText_82 : decode cX9_readText 82 = .ok (.aload_n 0, 1) := by decide +kernel
theorem dX9_readText_83 : decode cX9_readText 83 = .ok (.invokevirtual 197, 3) := by decide +kernel
theorem dX9_readText_86 : decode cX9_readText 86 = .ok (.aload_n 0, 1) := by decide +kernel
theorem dX9_readText_87 : decode cX9_readText 87 = .ok (.iconst 0, 1) := by decide +kernel
theorem dX9_readText_88 : decode cX9_readText 88 = .ok (.putfield 182, 3) := by decide +kernel
theorem dX9_readText_91 : decode cX9_readText 91 = .ok (.aload_n 0, 1) := by decide +kernel
theorem dX9_readText_92 : decode cX9_readText 92 = .ok (.getfield 188, 3) := by decide +kernel
theorem dX9_readText_95 : decode cX9_readText 95 = .ok (.ifCond .lt 8, 3) := by decide +kernel
theorem dX9_readText_98 : decode cX9_readText 98 = .ok (.aload_n 0, 1) := by decide +kernel
theorem dX9_readText_99 : decode cX9_readText 99 = .ok (.getfield 188, 3) := by decide +kernel
theorem dX9_readText_102 : decode cX9_readText 102 = .ok (.ireturn, 1) := by decide +kernel
theorem dX9_readText_103 : decode cX9_readText 103 = .ok (.iconst 0, 1) := by decide +kernel
theorem dX9_readText_104 : decode cX9_readText 104 = .ok (.istore_n 2, 1) := by decide +kernel
theorem dX9_readText_105 : decode cX9_readText 105 = .ok (.iload_n 2, 1) := by decide +kernel
theorem dX9_readText_106 : decode cX9_readText 106 = .ok (.aload_n 0, 1) := by decide +kernel
theorem dX9_readText_107 : decode cX9_readText 107 = .ok (.getfield 191, 3) := by decide +kernel
theorem dX9_readText_110 : decode cX9_readText 110 = .ok (.if_icmp .ge 53, 3) := by decide +kernel
theorem dX9_readText_113 : decode cX9_readText 113 = .ok (.aload_n 0, 1) := by decide +kernel
theorem dX9_readText_114 : decode cX9_readText 114 = .ok (.getfield 54, 3) := by decide +kernel
theorem dX9_readText_117 : decode cX9_readText 117 = .ok (.sipush 130, 3) := by decide +kernel
theorem dX9_readText_120 : decode cX9_readText 120 = .ok (.iload_n 1, 1) := by decide +kernel
theorem dX9_readText_121 : decode cX9_readText 121 = .ok (.imul, 1) := by decide +kernel
theorem dX9_readText_122 : decode cX9_readText 122 = .ok (.iload_n 2, 1) := by decide +kernel
theorem dX9_readText_123 : decode cX9_readText 123 = .ok (.iadd, 1) := by decide +kernel
theorem dX9_readText_124 : decode cX9_readText 124 = .ok (.aload_n 0, 1) := by decide +kernel
theorem dX9_readText_125 : decode cX9_readText 125 = .ok (.getfield 54, 3) := by decide +kernel
theorem dX9_readText_128 : decode cX9_readText 128 = .ok (.sipush 130, 3) := by decide +kernel
theorem dX9_readText_131 : decode cX9_readText 131 = .ok (.iload_n 2, 1) := by decide +kernel
theorem dX9_readText_132 : decode cX9_readText 132 = .ok (.iadd, 1) := by decide +kernel
theorem dX9_readText_133 : decode cX9_readText 133 = .ok (.baload, 1) := by decide +kernel
theorem dX9_readText_134 : decode cX9_readText 134 = .ok (.bastore, 1) := by decide +kernel
theorem dX9_readText_135 : decode cX9_readText 135 = .ok (.aload_n 0, 1) := by decide +kernel
theorem dX9_readText_136 : decode cX9_readText 136 = .ok (.getfield 57, 3) := by decide +kernel
theorem dX9_readText_139 : decode cX9_readText 139 = .ok (.sipush 130, 3) := by decide +kernel
theorem dX9_readText_142 : decode cX9_readText 142 = .ok (.iload_n 1, 1) := by decide +kernel
theorem dX9_readText_143 : decode cX9_readText 143 = .ok (.imul, 1) := by decide +kernel
theorem dX9_readText_144 : decode cX9_readText 144 = .ok (.iload_n 2, 1) := by decide +kernel
theorem dX9_readText_145 : decode cX9_readText 145 = .ok (.iadd, 1) := by decide +kernel
theorem dX9_readText_146 : decode cX9_readText 146 = .ok (.aload_n 0, 1) := by decide +kernel
theorem dX9_readText_147 : decode cX9_readText 147 = .ok (.getfield 57, 3) := by decide +kernel
theorem dX9_readText_150 : decode cX9_readText 150 = .ok (.sipush 130, 3) := by decide +kernel
theorem dX9_readText_153 : decode cX9_readText 153 = .ok (.iload_n 2, 1) := by decide +kernel
theorem dX9_readText_154 : decode cX9_readText 154 = .ok (.iadd, 1) := by decide +kernel
theorem dX9_readText_155 : decode cX9_readText 155 = .ok (.iaload, 1) := by decide +kernel
theorem dX9_readText_156 : decode cX9_readText 156 = .ok (.iastore, 1) := by decide +kernel
theorem dX9_readText_157 : decode cX9_readText 157 = .ok (.iinc 2 1, 3) := by decide +kernel
theorem dX9_readText_160 : decode cX9_readText 160 = .ok (.goto (-55), 3) := by decide +kernel
theorem dX9_readText_163 : decode cX9_readText 163 = .ok (.aload_n 0, 1) := by decide +kernel
theorem dX9_readText_164 : decode cX9_readText 164 = .ok (.getfield 60, 3) := by decide +kernel
theorem dX9_readText_167 : decode cX9_readText 167 = .ok (.iload_n 1, 1) := by decide +kernel
theorem dX9_readText_168 : decode cX9_readText 168 = .ok (.aload_n 0, 1) := by decide +kernel
theorem dX9_readText_169 : decode cX9_readText 169 = .ok (.getfield 60, 3) := by decide +kernel
theorem dX9_readText_172 : decode cX9_readText 172 = .ok (.iconst 1, 1) := by decide +kernel
theorem dX9_readText_173 : decode cX9_readText 173 = .ok (.iaload, 1) := by decide +kernel
theorem dX9_readText_174 : decode cX9_readText 174 = .ok (.iastore, 1) := by decide +kernel
theorem dX9_readText_175 : decode cX9_readText 175 = .ok (.iconst 0, 1) := by decide +kernel
theorem dX9_readText_176 : decode cX9_readText 176 = .ok (.istore_n 2, 1) := by decide +kernel
theorem dX9_readText_177 : decode cX9_readText 177 = .ok (.iload_n 2, 1) := by decide +kernel
theorem dX9_readText_178 : decode cX9_readText 178 = .ok (.aload_n 0, 1) := by decide +kernel
theorem dX9_readText_179 : decode cX9_readText 179 = .ok (.getfield 60, 3) := by decide +kernel
theorem dX9_readText_182 : decode cX9_readText 182 = .ok (.iload_n 1, 1) := by decide +kernel
theorem dX9_readText_183 : decode cX9_readText 183 = .ok (.iaload, 1) := by decide +kernel
theorem dX9_readText_184 : decode cX9_readText 184 = .ok (.if_icmp .ge 49, 3) := by decide +kernel
theorem dX9_readText_187 : decode cX9_readText 187 = .ok (.aload_n 0, 1) := by decide +kernel
theorem dX9_readText_188 : decode cX9_readText 188 = .ok (.getfield 63, 3) := by decide +kernel
theorem dX9_readText_191 : decode cX9_readText 191 = .ok (.bipush 61, 2) := by decide +kernel
theorem dX9_readText_193 : decode cX9_readText 193 = .ok (.iload_n 1, 1) := by decide +kernel
theorem dX9_readText_194 : decode cX9_readText 194 = .ok (.imul, 1) := by decide +kernel
theorem dX9_readText_195 : decode cX9_readText 195 = .ok (.iload_n 2, 1) := by decide +kernel
theorem dX9_readText_196 : decode cX9_readText 196 = .ok (.iadd, 1) := by decide +kernel
theorem dX9_readText_197 : decode cX9_readText 197 = .ok (.aload_n 0, 1) := by decide +kernel
theorem dX9_readText_198 : decode cX9_readText 198 = .ok (.getfield 63, 3) := by decide +kernel
theorem dX9_readText_201 : decode cX9_readText 201 = .ok (.bipush 61, 2) := by decide +kernel
theorem dX9_readText_203 : decode cX9_readText 203 = .ok (.iload_n 2, 1) := by decide +kernel
theorem dX9_readText_204 : decode cX9_readText 204 = .ok (.iadd, 1) := by decide +kernel
theorem dX9_readText_205 : decode cX9_readText 205 = .ok (.saload, 1) := by decide +kernel
theorem dX9_readText_206 : decode cX9_readText 206 = .ok (.sastore, 1) := by decide +kernel
theorem dX9_readText_207 : decode cX9_readText 207 = .ok (.aload_n 0, 1) := by decide +kernel
theorem dX9_readText_208 : decode cX9_readText 208 = .ok (.getfield 67, 3) := by decide +kernel
theorem dX9_readText_211 : decode cX9_readText 211 = .ok (.bipush 61, 2) := by decide +kernel
theorem dX9_readText_213 : decode cX9_readText 213 = .ok (.iload_n 1, 1) := by decide +kernel
theorem dX9_readText_214 : decode cX9_readText 214 = .ok (.imul, 1) := by decide +kernel
theorem dX9_readText_215 : decode cX9_readText 215 = .ok (.iload_n 2, 1) := by decide +kernel
theorem dX9_readText_216 : decode cX9_readText 216 = .ok (.iadd, 1) := by decide +kernel
theorem dX9_readText_217 : decode cX9_readText 217 = .ok (.aload_n 0, 1) := by decide +kernel
theorem dX9_readText_218 : decode cX9_readText 218 = .ok (.getfield 67, 3) := by decide +kernel
theorem dX9_readText_221 : decode cX9_readText 221 = .ok (.bipush 61, 2) := by decide +kernel
theorem dX9_readText_223 : decode cX9_readText 223 = .ok (.iload_n 2, 1) := by decide +kernel
theorem dX9_readText_224 : decode cX9_readText 224 = .ok (.iadd, 1) := by decide +kernel
theorem dX9_readText_225 : decode cX9_readText 225 = .ok (.saload, 1) := by decide +kernel
theorem dX9_readText_226 : decode cX9_readText 226 = .ok (.sastore, 1) := by decide +kernel
theorem dX9_readText_227 : decode cX9_readText 227 = .ok (.iinc 2 1, 3) := by decide +kernel
theorem dX9_readText_230 : decode cX9_readText 230 = .ok (.goto (-53), 3) := by decide +kernel
theorem dX9_readText_233 : decode cX9_readText 233 = .ok (.iconst (-1), 1) := by decide +kernel
theorem dX9_readText_234 : decode cX9_readText 234 = .ok (.ireturn, 1) := by decide +kernel
theorem dX9_twoOf_0 : decode cX9_twoOf 0 = .ok (.iload_n 0, 1) := by decide +kernel
theorem dX9_twoOf_1 : decode cX9_twoOf 1 = .ok (.tableswitch 217 37 62 #[153, 203, 217, 217, 217, 127, 119, 217, 123, 217, 131, 217, 217, 217, 217, 217, 217, 217, 217, 217, 217, 217, 217, 170, 181, 192], 119) := by decide +kernel
theorem dX9_twoOf_120 : decode cX9_twoOf 120 = .ok (.iload_n 1, 1) := by decide +kernel
theorem dX9_twoOf_121 : decode cX9_twoOf 121 = .ok (.iload_n 2, 1) := by decide +kernel
theorem dX9_twoOf_122 : decode cX9_twoOf 122 = .ok (.iadd, 1) := by decide +kernel
theorem dX9_twoOf_123 : decode cX9_twoOf 123 = .ok (.ireturn, 1) := by decide +kernel
theorem dX9_twoOf_124 : decode cX9_twoOf 124 = .ok (.iload_n 1, 1) := by decide +kernel
theorem dX9_twoOf_125 : decode cX9_twoOf 125 = .ok (.iload_n 2, 1) := by decide +kernel
theorem dX9_twoOf_126 : decode cX9_twoOf 126 = .ok (.isub, 1) := by decide +kernel
theorem dX9_twoOf_127 : decode cX9_twoOf 127 = .ok (.ireturn, 1) := by decide +kernel
theorem dX9_twoOf_128 : decode cX9_twoOf 128 = .ok (.iload_n 1, 1) := by decide +kernel
theorem dX9_twoOf_129 : decode cX9_twoOf 129 = .ok (.iload_n 2, 1) := by decide +kernel
theorem dX9_twoOf_130 : decode cX9_twoOf 130 = .ok (.imul, 1) := by decide +kernel
theorem dX9_twoOf_131 : decode cX9_twoOf 131 = .ok (.ireturn, 1) := by decide +kernel
theorem dX9_twoOf_132 : decode cX9_twoOf 132 = .ok (.iload_n 2, 1) := by decide +kernel
theorem dX9_twoOf_133 : decode cX9_twoOf 133 = .ok (.ifCond .ne 7, 3) := by decide +kernel
theorem dX9_twoOf_136 : decode cX9_twoOf 136 = .ok (.iconst 0, 1) := by decide +kernel
theorem dX9_twoOf_137 : decode cX9_twoOf 137 = .ok (.goto 16, 3) := by decide +kernel
theorem dX9_twoOf_140 : decode cX9_twoOf 140 = .ok (.iload_n 2, 1) := by decide +kernel
theorem dX9_twoOf_141 : decode cX9_twoOf 141 = .ok (.iconst (-1), 1) := by decide +kernel
theorem dX9_twoOf_142 : decode cX9_twoOf 142 = .ok (.if_icmp .ne 8, 3) := by decide +kernel
theorem dX9_twoOf_145 : decode cX9_twoOf 145 = .ok (.iload_n 1, 1) := by decide +kernel
theorem dX9_twoOf_146 : decode cX9_twoOf 146 = .ok (.ineg, 1) := by decide +kernel
theorem dX9_twoOf_147 : decode cX9_twoOf 147 = .ok (.goto 6, 3) := by decide +kernel
theorem dX9_twoOf_150 : decode cX9_twoOf 150 = .ok (.iload_n 1, 1) := by decide +kernel
theorem dX9_twoOf_151 : decode cX9_twoOf 151 = .ok (.iload_n 2, 1) := by decide +kernel
theorem dX9_twoOf_152 : decode cX9_twoOf 152 = .ok (.idiv, 1) := by decide +kernel
theorem dX9_twoOf_153 : decode cX9_twoOf 153 = .ok (.ireturn, 1) := by decide +kernel
theorem dX9_twoOf_154 : decode cX9_twoOf 154 = .ok (.iload_n 2, 1) := by decide +kernel
theorem dX9_twoOf_155 : decode cX9_twoOf 155 = .ok (.ifCond .eq 8, 3) := by decide +kernel
theorem dX9_twoOf_158 : decode cX9_twoOf 158 = .ok (.iload_n 2, 1) := by decide +kernel
theorem dX9_twoOf_159 : decode cX9_twoOf 159 = .ok (.iconst (-1), 1) := by decide +kernel
theorem dX9_twoOf_160 : decode cX9_twoOf 160 = .ok (.if_icmp .ne 7, 3) := by decide +kernel
theorem dX9_twoOf_163 : decode cX9_twoOf 163 = .ok (.iconst 0, 1) := by decide +kernel
theorem dX9_twoOf_164 : decode cX9_twoOf 164 = .ok (.goto 6, 3) := by decide +kernel
theorem dX9_twoOf_167 : decode cX9_twoOf 167 = .ok (.iload_n 1, 1) := by decide +kernel
theorem dX9_twoOf_168 : decode cX9_twoOf 168 = .ok (.iload_n 2, 1) := by decide +kernel
theorem dX9_twoOf_169 : decode cX9_twoOf 169 = .ok (.irem, 1) := by decide +kernel
theorem dX9_twoOf_170 : decode cX9_twoOf 170 = .ok (.ireturn, 1) := by decide +kernel
theorem dX9_twoOf_171 : decode cX9_twoOf 171 = .ok (.iload_n 1, 1) := by decide +kernel
theorem dX9_twoOf_172 : decode cX9_twoOf 172 = .ok (.iload_n 2, 1) := by decide +kernel
theorem dX9_twoOf_173 : decode cX9_twoOf 173 = .ok (.if_icmp .ge 7, 3) := by decide +kernel
theorem dX9_twoOf_176 : decode cX9_twoOf 176 = .ok (.iconst 1, 1) := by decide +kernel
theorem dX9_twoOf_177 : decode cX9_twoOf 177 = .ok (.goto 4, 3) := by decide +kernel
theorem dX9_twoOf_180 : decode cX9_twoOf 180 = .ok (.iconst 0, 1) := by decide +kernel
theorem dX9_twoOf_181 : decode cX9_twoOf 181 = .ok (.ireturn, 1) := by decide +kernel
theorem dX9_twoOf_182 : decode cX9_twoOf 182 = .ok (.iload_n 1, 1) := by decide +kernel
theorem dX9_twoOf_183 : decode cX9_twoOf 183 = .ok (.iload_n 2, 1) := by decide +kernel
theorem dX9_twoOf_184 : decode cX9_twoOf 184 = .ok (.if_icmp .ne 7, 3) := by decide +kernel
theorem dX9_twoOf_187 : decode cX9_twoOf 187 = .ok (.iconst 1, 1) := by decide +kernel
theorem dX9_twoOf_188 : decode cX9_twoOf 188 = .ok (.goto 4, 3) := by decide +kernel
theorem dX9_twoOf_191 : decode cX9_twoOf 191 = .ok (.iconst 0, 1) := by decide +kernel
theorem dX9_twoOf_192 : decode cX9_twoOf 192 = .ok (.ireturn, 1) := by decide +kernel
theorem dX9_twoOf_193 : decode cX9_twoOf 193 = .ok (.iload_n 1, 1) := by decide +kernel
theorem dX9_twoOf_194 : decode cX9_twoOf 194 = .ok (.iload_n 2, 1) := by decide +kernel
theorem dX9_twoOf_195 : decode cX9_twoOf 195 = .ok (.if_icmp .le 7, 3) := by decide +kernel
theorem dX9_twoOf_198 : decode cX9_twoOf 198 = .ok (.iconst 1, 1) := by decide +kernel
theorem dX9_twoOf_199 : decode cX9_twoOf 199 = .ok (.goto 4, 3) := by decide +kernel
theorem dX9_twoOf_202 : decode cX9_twoOf 202 = .ok (.iconst 0, 1) := by decide +kernel
theorem dX9_twoOf_203 : decode cX9_twoOf 203 = .ok (.ireturn, 1) := by decide +kernel
theorem dX9_twoOf_204 : decode cX9_twoOf 204 = .ok (.iload_n 1, 1) := by decide +kernel
theorem dX9_twoOf_205 : decode cX9_twoOf 205 = .ok (.ifCond .eq 11, 3) := by decide +kernel
theorem dX9_twoOf_208 : decode cX9_twoOf 208 = .ok (.iload_n 2, 1) := by decide +kernel
theorem dX9_twoOf_209 : decode cX9_twoOf 209 = .ok (.ifCond .eq 7, 3) := by decide +kernel
theorem dX9_twoOf_212 : decode cX9_twoOf 212 = .ok (.iconst 1, 1) := by decide +kernel
theorem dX9_twoOf_213 : decode cX9_twoOf 213 = .ok (.goto 4, 3) := by decide +kernel
theorem dX9_twoOf_216 : decode cX9_twoOf 216 = .ok (.iconst 0, 1) := by decide +kernel
theorem dX9_twoOf_217 : decode cX9_twoOf 217 = .ok (.ireturn, 1) := by decide +kernel
theorem dX9_twoOf_218 : decode cX9_twoOf 218 = .ok (.iload_n 1, 1) := by decide +kernel
theorem dX9_twoOf_219 : decode cX9_twoOf 219 = .ok (.ifCond .ne 7, 3) := by decide +kernel
theorem dX9_twoOf_222 : decode cX9_twoOf 222 = .ok (.iload_n 2, 1) := by decide +kernel
theorem dX9_twoOf_223 : decode cX9_twoOf 223 = .ok (.ifCond .eq 7, 3) := by decide +kernel
theorem dX9_twoOf_226 : decode cX9_twoOf 226 = .ok (.iconst 1, 1) := by decide +kernel
theorem dX9_twoOf_227 : decode cX9_twoOf 227 = .ok (.goto 4, 3) := by decide +kernel
theorem dX9_twoOf_230 : decode cX9_twoOf 230 = .ok (.iconst 0, 1) := by decide +kernel
theorem dX9_twoOf_231 : decode cX9_twoOf 231 = .ok (.ireturn, 1) := by decide +kernel
theorem dX9_worked_0 : decode cX9_worked 0 = .ok (.iconst 0, 1) := by decide +kernel
theorem dX9_worked_1 : decode cX9_worked 1 = .ok (.istore 4, 2) := by decide +kernel
theorem dX9_worked_3 : decode cX9_worked 3 = .ok (.sipush 130, 3) := by decide +kernel
theorem dX9_worked_6 : decode cX9_worked 6 = .ok (.iload_n 1, 1) := by decide +kernel
theorem dX9_worked_7 : decode cX9_worked 7 = .ok (.imul, 1) := by decide +kernel
theorem dX9_worked_8 : decode cX9_worked 8 = .ok (.iload_n 2, 1) := by decide +kernel
theorem dX9_worked_9 : decode cX9_worked 9 = .ok (.iadd, 1) := by decide +kernel
theorem dX9_worked_10 : decode cX9_worked 10 = .ok (.istore 5, 2) := by decide +kernel
theorem dX9_worked_12 : decode cX9_worked 12 = .ok (.iload 5, 2) := by decide +kernel
theorem dX9_worked_14 : decode cX9_worked 14 = .ok (.sipush 130, 3) := by decide +kernel
theorem dX9_worked_17 : decode cX9_worked 17 = .ok (.iload_n 1, 1) := by decide +kernel
theorem dX9_worked_18 : decode cX9_worked 18 = .ok (.imul, 1) := by decide +kernel
theorem dX9_worked_19 : decode cX9_worked 19 = .ok (.iload_n 3, 1) := by decide +kernel
theorem dX9_worked_20 : decode cX9_worked 20 = .ok (.iadd, 1) := by decide +kernel
theorem dX9_worked_21 : decode cX9_worked 21 = .ok (.if_icmp .ge 167, 3) := by decide +kernel
theorem dX9_worked_24 : decode cX9_worked 24 = .ok (.aload_n 0, 1) := by decide +kernel
theorem dX9_worked_25 : decode cX9_worked 25 = .ok (.getfield 54, 3) := by decide +kernel
theorem dX9_worked_28 : decode cX9_worked 28 = .ok (.iload 5, 2) := by decide +kernel
theorem dX9_worked_30 : decode cX9_worked 30 = .ok (.baload, 1) := by decide +kernel
theorem dX9_worked_31 : decode cX9_worked 31 = .ok (.istore 6, 2) := by decide +kernel
theorem dX9_worked_33 : decode cX9_worked 33 = .ok (.iload 6, 2) := by decide +kernel
theorem dX9_worked_35 : decode cX9_worked 35 = .ok (.iconst 1, 1) := by decide +kernel
theorem dX9_worked_36 : decode cX9_worked 36 = .ok (.if_icmp .eq 9, 3) := by decide +kernel
theorem dX9_worked_39 : decode cX9_worked 39 = .ok (.iload 6, 2) := by decide +kernel
theorem dX9_worked_41 : decode cX9_worked 41 = .ok (.iconst 2, 1) := by decide +kernel
theorem dX9_worked_42 : decode cX9_worked 42 = .ok (.if_icmp .ne 44, 3) := by decide +kernel
theorem dX9_worked_45 : decode cX9_worked 45 = .ok (.aload_n 0, 1) := by decide +kernel
theorem dX9_worked_46 : decode cX9_worked 46 = .ok (.getfield 73, 3) := by decide +kernel
theorem dX9_worked_49 : decode cX9_worked 49 = .ok (.iload 4, 2) := by decide +kernel
theorem dX9_worked_51 : decode cX9_worked 51 = .ok (.iload 6, 2) := by decide +kernel
theorem dX9_worked_53 : decode cX9_worked 53 = .ok (.iconst 1, 1) := by decide +kernel
theorem dX9_worked_54 : decode cX9_worked 54 = .ok (.if_icmp .ne 13, 3) := by decide +kernel
theorem dX9_worked_57 : decode cX9_worked 57 = .ok (.aload_n 0, 1) := by decide +kernel
theorem dX9_worked_58 : decode cX9_worked 58 = .ok (.getfield 57, 3) := by decide +kernel
theorem dX9_worked_61 : decode cX9_worked 61 = .ok (.iload 5, 2) := by decide +kernel
theorem dX9_worked_63 : decode cX9_worked 63 = .ok (.iaload, 1) := by decide +kernel
theorem dX9_worked_64 : decode cX9_worked 64 = .ok (.goto 15, 3) := by decide +kernel
theorem dX9_worked_67 : decode cX9_worked 67 = .ok (.aload_n 0, 1) := by decide +kernel
theorem dX9_worked_68 : decode cX9_worked 68 = .ok (.getfield 70, 3) := by decide +kernel
theorem dX9_worked_71 : decode cX9_worked 71 = .ok (.aload_n 0, 1) := by decide +kernel
theorem dX9_worked_72 : decode cX9_worked 72 = .ok (.getfield 57, 3) := by decide +kernel
theorem dX9_worked_75 : decode cX9_worked 75 = .ok (.iload 5, 2) := by decide +kernel
theorem dX9_worked_77 : decode cX9_worked 77 = .ok (.iaload, 1) := by decide +kernel
theorem dX9_worked_78 : decode cX9_worked 78 = .ok (.iaload, 1) := by decide +kernel
theorem dX9_worked_79 : decode cX9_worked 79 = .ok (.iastore, 1) := by decide +kernel
theorem dX9_worked_80 : decode cX9_worked 80 = .ok (.iinc 4 1, 3) := by decide +kernel
theorem dX9_worked_83 : decode cX9_worked 83 = .ok (.goto 99, 3) := by decide +kernel
theorem dX9_worked_86 : decode cX9_worked 86 = .ok (.iload 6, 2) := by decide +kernel
theorem dX9_worked_88 : decode cX9_worked 88 = .ok (.iconst 3, 1) := by decide +kernel
theorem dX9_worked_89 : decode cX9_worked 89 = .ok (.if_icmp .ne 32, 3) := by decide +kernel
theorem dX9_worked_92 : decode cX9_worked 92 = .ok (.aload_n 0, 1) := by decide +kernel
theorem dX9_worked_93 : decode cX9_worked 93 = .ok (.getfield 73, 3) := by decide +kernel
theorem dX9_worked_96 : decode cX9_worked 96 = .ok (.iload 4, 2) := by decide +kernel
theorem dX9_worked_98 : decode cX9_worked 98 = .ok (.iconst 1, 1) := by decide +kernel
theorem dX9_worked_99 : decode cX9_worked 99 = .ok (.isub, 1) := by decide +kernel
theorem dX9_worked_100 : decode cX9_worked 100 = .ok (.aload_n 0, 1) := by decide +kernel
theorem dX9_worked_101 : decode cX9_worked 101 = .ok (.getfield 73, 3) := by decide +kernel
theorem dX9_worked_104 : decode cX9_worked 104 = .ok (.iload 4, 2) := by decide +kernel
theorem dX9_worked_106 : decode cX9_worked 106 = .ok (.iconst 1, 1) := by decide +kernel
theorem dX9_worked_107 : decode cX9_worked 107 = .ok (.isub, 1) := by decide +kernel
theorem dX9_worked_108 : decode cX9_worked 108 = .ok (.iaload, 1) := by decide +kernel
theorem dX9_worked_109 : decode cX9_worked 109 = .ok (.ifCond .ne 7, 3) := by decide +kernel
theorem dX9_worked_112 : decode cX9_worked 112 = .ok (.iconst 1, 1) := by decide +kernel
theorem dX9_worked_113 : decode cX9_worked 113 = .ok (.goto 4, 3) := by decide +kernel
theorem dX9_worked_116 : decode cX9_worked 116 = .ok (.iconst 0, 1) := by decide +kernel
theorem dX9_worked_117 : decode cX9_worked 117 = .ok (.iastore, 1) := by decide +kernel
theorem dX9_worked_118 : decode cX9_worked 118 = .ok (.goto 64, 3) := by decide +kernel
theorem dX9_worked_121 : decode cX9_worked 121 = .ok (.iload 6, 2) := by decide +kernel
theorem dX9_worked_123 : decode cX9_worked 123 = .ok (.iconst 4, 1) := by decide +kernel
theorem dX9_worked_124 : decode cX9_worked 124 = .ok (.if_icmp .ne 25, 3) := by decide +kernel
theorem dX9_worked_127 : decode cX9_worked 127 = .ok (.aload_n 0, 1) := by decide +kernel
theorem dX9_worked_128 : decode cX9_worked 128 = .ok (.getfield 73, 3) := by decide +kernel
theorem dX9_worked_131 : decode cX9_worked 131 = .ok (.iload 4, 2) := by decide +kernel
theorem dX9_worked_133 : decode cX9_worked 133 = .ok (.iconst 1, 1) := by decide +kernel
theorem dX9_worked_134 : decode cX9_worked 134 = .ok (.isub, 1) := by decide +kernel
theorem dX9_worked_135 : decode cX9_worked 135 = .ok (.aload_n 0, 1) := by decide +kernel
theorem dX9_worked_136 : decode cX9_worked 136 = .ok (.getfield 73, 3) := by decide +kernel
theorem dX9_worked_139 : decode cX9_worked 139 = .ok (.iload 4, 2) := by decide +kernel
theorem dX9_worked_141 : decode cX9_worked 141 = .ok (.iconst 1, 1) := by decide +kernel
theorem dX9_worked_142 : decode cX9_worked 142 = .ok (.isub, 1) := by decide +kernel
theorem dX9_worked_143 : decode cX9_worked 143 = .ok (.iaload, 1) := by decide +kernel
theorem dX9_worked_144 : decode cX9_worked 144 = .ok (.ineg, 1) := by decide +kernel
theorem dX9_worked_145 : decode cX9_worked 145 = .ok (.iastore, 1) := by decide +kernel
theorem dX9_worked_146 : decode cX9_worked 146 = .ok (.goto 36, 3) := by decide +kernel
theorem dX9_worked_149 : decode cX9_worked 149 = .ok (.iinc 4 (-1), 3) := by decide +kernel
theorem dX9_worked_152 : decode cX9_worked 152 = .ok (.aload_n 0, 1) := by decide +kernel
theorem dX9_worked_153 : decode cX9_worked 153 = .ok (.getfield 73, 3) := by decide +kernel
theorem dX9_worked_156 : decode cX9_worked 156 = .ok (.iload 4, 2) := by decide +kernel
theorem dX9_worked_158 : decode cX9_worked 158 = .ok (.iconst 1, 1) := by decide +kernel
theorem dX9_worked_159 : decode cX9_worked 159 = .ok (.isub, 1) := by decide +kernel
theorem dX9_worked_160 : decode cX9_worked 160 = .ok (.iload 6, 2) := by decide +kernel
theorem dX9_worked_162 : decode cX9_worked 162 = .ok (.aload_n 0, 1) := by decide +kernel
theorem dX9_worked_163 : decode cX9_worked 163 = .ok (.getfield 73, 3) := by decide +kernel
theorem dX9_worked_166 : decode cX9_worked 166 = .ok (.iload 4, 2) := by decide +kernel
theorem dX9_worked_168 : decode cX9_worked 168 = .ok (.iconst 1, 1) := by decide +kernel
theorem dX9_worked_169 : decode cX9_worked 169 = .ok (.isub, 1) := by decide +kernel
theorem dX9_worked_170 : decode cX9_worked 170 = .ok (.iaload, 1) := by decide +kernel
theorem dX9_worked_171 : decode cX9_worked 171 = .ok (.aload_n 0, 1) := by decide +kernel
theorem dX9_worked_172 : decode cX9_worked 172 = .ok (.getfield 73, 3) := by decide +kernel
theorem dX9_worked_175 : decode cX9_worked 175 = .ok (.iload 4, 2) := by decide +kernel
theorem dX9_worked_177 : decode cX9_worked 177 = .ok (.iaload, 1) := by decide +kernel
theorem dX9_worked_178 : decode cX9_worked 178 = .ok (.invokestatic 239, 3) := by decide +kernel
theorem dX9_worked_181 : decode cX9_worked 181 = .ok (.iastore, 1) := by decide +kernel
theorem dX9_worked_182 : decode cX9_worked 182 = .ok (.iinc 5 1, 3) := by decide +kernel
theorem dX9_worked_185 : decode cX9_worked 185 = .ok (.goto (-173), 3) := by decide +kernel
theorem dX9_worked_188 : decode cX9_worked 188 = .ok (.aload_n 0, 1) := by decide +kernel
theorem dX9_worked_189 : decode cX9_worked 189 = .ok (.getfield 73, 3) := by decide +kernel
theorem dX9_worked_192 : decode cX9_worked 192 = .ok (.iconst 0, 1) := by decide +kernel
theorem dX9_worked_193 : decode cX9_worked 193 = .ok (.iaload, 1) := by decide +kernel
theorem dX9_worked_194 : decode cX9_worked 194 = .ok (.ireturn, 1) := by decide +kernel
theorem dX9_gives_0 : decode cX9_gives 0 = .ok (.iconst 0, 1) := by decide +kernel
theorem dX9_gives_1 : decode cX9_gives 1 = .ok (.istore_n 2, 1) := by decide +kernel
theorem dX9_gives_2 : decode cX9_gives 2 = .ok (.bipush 61, 2) := by decide +kernel
theorem dX9_gives_4 : decode cX9_gives 4 = .ok (.iload_n 1, 1) := by decide +kernel
theorem dX9_gives_5 : decode cX9_gives 5 = .ok (.imul, 1) := by decide +kernel
theorem dX9_gives_6 : decode cX9_gives 6 = .ok (.istore_n 3, 1) := by decide +kernel
theorem dX9_gives_7 : decode cX9_gives 7 = .ok (.iload_n 3, 1) := by decide +kernel
theorem dX9_gives_8 : decode cX9_gives 8 = .ok (.bipush 61, 2) := by decide +kernel
theorem dX9_gives_10 : decode cX9_gives 10 = .ok (.iload_n 1, 1) := by decide +kernel
theorem dX9_gives_11 : decode cX9_gives 11 = .ok (.imul, 1) := by decide +kernel
theorem dX9_gives_12 : decode cX9_gives 12 = .ok (.aload_n 0, 1) := by decide +kernel
theorem dX9_gives_13 : decode cX9_gives 13 = .ok (.getfield 60, 3) := by decide +kernel
theorem dX9_gives_16 : decode cX9_gives 16 = .ok (.iload_n 1, 1) := by decide +kernel
theorem dX9_gives_17 : decode cX9_gives 17 = .ok (.iaload, 1) := by decide +kernel
theorem dX9_gives_18 : decode cX9_gives 18 = .ok (.iadd, 1) := by decide +kernel
theorem dX9_gives_19 : decode cX9_gives 19 = .ok (.if_icmp .ge 59, 3) := by decide +kernel
theorem dX9_gives_22 : decode cX9_gives 22 = .ok (.aload_n 0, 1) := by decide +kernel
theorem dX9_gives_23 : decode cX9_gives 23 = .ok (.getfield 63, 3) := by decide +kernel
theorem dX9_gives_26 : decode cX9_gives 26 = .ok (.iload_n 3, 1) := by decide +kernel
theorem dX9_gives_27 : decode cX9_gives 27 = .ok (.saload, 1) := by decide +kernel
theorem dX9_gives_28 : decode cX9_gives 28 = .ok (.iload_n 2, 1) := by decide +kernel
theorem dX9_gives_29 : decode cX9_gives 29 = .ok (.if_icmp .eq 18, 3) := by decide +kernel
theorem dX9_gives_32 : decode cX9_gives 32 = .ok (.aload_n 0, 1) := by decide +kernel
theorem dX9_gives_33 : decode cX9_gives 33 = .ok (.iload_n 1, 1) := by decide +kernel
theorem dX9_gives_34 : decode cX9_gives 34 = .ok (.iload_n 2, 1) := by decide +kernel
theorem dX9_gives_35 : decode cX9_gives 35 = .ok (.aload_n 0, 1) := by decide +kernel
theorem dX9_gives_36 : decode cX9_gives 36 = .ok (.getfield 63, 3) := by decide +kernel
theorem dX9_gives_39 : decode cX9_gives 39 = .ok (.iload_n 3, 1) := by decide +kernel
theorem dX9_gives_40 : decode cX9_gives 40 = .ok (.saload, 1) := by decide +kernel
theorem dX9_gives_41 : decode cX9_gives 41 = .ok (.invokevirtual 242, 3) := by decide +kernel
theorem dX9_gives_44 : decode cX9_gives 44 = .ok (.ifCond .eq 21, 3) := by decide +kernel
theorem dX9_gives_47 : decode cX9_gives 47 = .ok (.aload_n 0, 1) := by decide +kernel
theorem dX9_gives_48 : decode cX9_gives 48 = .ok (.iload_n 1, 1) := by decide +kernel
theorem dX9_gives_49 : decode cX9_gives 49 = .ok (.aload_n 0, 1) := by decide +kernel
theorem dX9_gives_50 : decode cX9_gives 50 = .ok (.getfield 63, 3) := by decide +kernel
theorem dX9_gives_53 : decode cX9_gives 53 = .ok (.iload_n 3, 1) := by decide +kernel
theorem dX9_gives_54 : decode cX9_gives 54 = .ok (.saload, 1) := by decide +kernel
theorem dX9_gives_55 : decode cX9_gives 55 = .ok (.aload_n 0, 1) := by decide +kernel
theorem dX9_gives_56 : decode cX9_gives 56 = .ok (.getfield 67, 3) := by decide +kernel
theorem dX9_gives_59 : decode cX9_gives 59 = .ok (.iload_n 3, 1) := by decide +kernel
theorem dX9_gives_60 : decode cX9_gives 60 = .ok (.saload, 1) := by decide +kernel
theorem dX9_gives_61 : decode cX9_gives 61 = .ok (.invokevirtual 242, 3) := by decide +kernel
theorem dX9_gives_64 : decode cX9_gives 64 = .ok (.ireturn, 1) := by decide +kernel
theorem dX9_gives_65 : decode cX9_gives 65 = .ok (.aload_n 0, 1) := by decide +kernel
theorem dX9_gives_66 : decode cX9_gives 66 = .ok (.getfield 67, 3) := by decide +kernel
theorem dX9_gives_69 : decode cX9_gives 69 = .ok (.iload_n 3, 1) := by decide +kernel
theorem dX9_gives_70 : decode cX9_gives 70 = .ok (.saload, 1) := by decide +kernel
theorem dX9_gives_71 : decode cX9_gives 71 = .ok (.istore_n 2, 1) := by decide +kernel
theorem dX9_gives_72 : decode cX9_gives 72 = .ok (.iinc 3 1, 3) := by decide +kernel
theorem dX9_gives_75 : decode cX9_gives 75 = .ok (.goto (-68), 3) := by decide +kernel
theorem dX9_gives_78 : decode cX9_gives 78 = .ok (.iconst 0, 1) := by decide +kernel
theorem dX9_gives_79 : decode cX9_gives 79 = .ok (.ireturn, 1) := by decide +kernel
theorem dX9_law_0 : decode cX9_law 0 = .ok (.aload_n 0, 1) := by decide +kernel
theorem dX9_law_1 : decode cX9_law 1 = .ok (.iconst 0, 1) := by decide +kernel
theorem dX9_law_2 : decode cX9_law 2 = .ok (.invokevirtual 245, 3) := by decide +kernel
theorem dX9_law_5 : decode cX9_law 5 = .ok (.istore_n 1, 1) := by decide +kernel
theorem dX9_law_6 : decode cX9_law 6 = .ok (.iload_n 1, 1) := by decide +kernel
theorem dX9_law_7 : decode cX9_law 7 = .ok (.ifCond .lt 8, 3) := by decide +kernel
theorem dX9_law_10 : decode cX9_law 10 = .ok (.bipush (-100), 2) := by decide +kernel
theorem dX9_law_12 : decode cX9_law 12 = .ok (.iload_n 1, 1) := by decide +kernel
theorem dX9_law_13 : decode cX9_law 13 = .ok (.isub, 1) := by decide +kernel
theorem dX9_law_14 : decode cX9_law 14 = .ok (.ireturn, 1) := by decide +kernel
theorem dX9_law_15 : decode cX9_law 15 = .ok (.aload_n 0, 1) := by decide +kernel
theorem dX9_law_16 : decode cX9_law 16 = .ok (.iconst 1, 1) := by decide +kernel
theorem dX9_law_17 : decode cX9_law 17 = .ok (.putfield 248, 3) := by decide +kernel
theorem dX9_law_20 : decode cX9_law 20 = .ok (.iconst 1, 1) := by decide +kernel
theorem dX9_law_21 : decode cX9_law 21 = .ok (.ireturn, 1) := by decide +kernel
theorem dX9_orderOf_0 : decode cX9_orderOf 0 = .ok (.aload_n 0, 1) := by decide +kernel
theorem dX9_orderOf_1 : decode cX9_orderOf 1 = .ok (.getfield 13, 3) := by decide +kernel
theorem dX9_orderOf_4 : decode cX9_orderOf 4 = .ok (.aload_n 0, 1) := by decide +kernel
theorem dX9_orderOf_5 : decode cX9_orderOf 5 = .ok (.getfield 169, 3) := by decide +kernel
theorem dX9_orderOf_8 : decode cX9_orderOf 8 = .ok (.iaload, 1) := by decide +kernel
theorem dX9_orderOf_9 : decode cX9_orderOf 9 = .ok (.iconst 1, 1) := by decide +kernel
theorem dX9_orderOf_10 : decode cX9_orderOf 10 = .ok (.if_icmp .ne 18, 3) := by decide +kernel
theorem dX9_orderOf_13 : decode cX9_orderOf 13 = .ok (.aload_n 0, 1) := by decide +kernel
theorem dX9_orderOf_14 : decode cX9_orderOf 14 = .ok (.aload_n 0, 1) := by decide +kernel
theorem dX9_orderOf_15 : decode cX9_orderOf 15 = .ok (.getfield 169, 3) := by decide +kernel
theorem dX9_orderOf_18 : decode cX9_orderOf 18 = .ok (.invokevirtual 163, 3) := by decide +kernel
theorem dX9_orderOf_21 : decode cX9_orderOf 21 = .ok (.ifCond .ne 7, 3) := by decide +kernel
theorem dX9_orderOf_24 : decode cX9_orderOf 24 = .ok (.iconst 1, 1) := by decide +kernel
theorem dX9_orderOf_25 : decode cX9_orderOf 25 = .ok (.goto 4, 3) := by decide +kernel
theorem dX9_orderOf_28 : decode cX9_orderOf 28 = .ok (.iconst 0, 1) := by decide +kernel
theorem dX9_orderOf_29 : decode cX9_orderOf 29 = .ok (.istore_n 2, 1) := by decide +kernel
theorem dX9_orderOf_30 : decode cX9_orderOf 30 = .ok (.aload_n 0, 1) := by decide +kernel
theorem dX9_orderOf_31 : decode cX9_orderOf 31 = .ok (.getfield 248, 3) := by decide +kernel
theorem dX9_orderOf_34 : decode cX9_orderOf 34 = .ok (.ifCond .ne 13, 3) := by decide +kernel
theorem dX9_orderOf_37 : decode cX9_orderOf 37 = .ok (.iload_n 2, 1) := by decide +kernel
theorem dX9_orderOf_38 : decode cX9_orderOf 38 = .ok (.ifCond .eq 7, 3) := by decide +kernel
theorem dX9_orderOf_41 : decode cX9_orderOf 41 = .ok (.iconst 5, 1) := by decide +kernel
theorem dX9_orderOf_42 : decode cX9_orderOf 42 = .ok (.goto 4, 3) := by decide +kernel
theorem dX9_orderOf_45 : decode cX9_orderOf 45 = .ok (.iconst 0, 1) := by decide +kernel
theorem dX9_orderOf_46 : decode cX9_orderOf 46 = .ok (.ireturn, 1) := by decide +kernel
theorem dX9_orderOf_47 : decode cX9_orderOf 47 = .ok (.aload_n 0, 1) := by decide +kernel
theorem dX9_orderOf_48 : decode cX9_orderOf 48 = .ok (.getfield 70, 3) := by decide +kernel
theorem dX9_orderOf_51 : decode cX9_orderOf 51 = .ok (.iconst 0, 1) := by decide +kernel
theorem dX9_orderOf_52 : decode cX9_orderOf 52 = .ok (.aload_n 0, 1) := by decide +kernel
theorem dX9_orderOf_53 : decode cX9_orderOf 53 = .ok (.getfield 29, 3) := by decide +kernel
theorem dX9_orderOf_56 : decode cX9_orderOf 56 = .ok (.iastore, 1) := by decide +kernel
theorem dX9_orderOf_57 : decode cX9_orderOf 57 = .ok (.aload_n 0, 1) := by decide +kernel
theorem dX9_orderOf_58 : decode cX9_orderOf 58 = .ok (.getfield 70, 3) := by decide +kernel
theorem dX9_orderOf_61 : decode cX9_orderOf 61 = .ok (.iconst 1, 1) := by decide +kernel
theorem dX9_orderOf_62 : decode cX9_orderOf 62 = .ok (.aload_n 0, 1) := by decide +kernel
theorem dX9_orderOf_63 : decode cX9_orderOf 63 = .ok (.getfield 172, 3) := by decide +kernel
theorem dX9_orderOf_66 : decode cX9_orderOf 66 = .ok (.iastore, 1) := by decide +kernel
theorem dX9_orderOf_67 : decode cX9_orderOf 67 = .ok (.aload_n 0, 1) := by decide +kernel
theorem dX9_orderOf_68 : decode cX9_orderOf 68 = .ok (.getfield 70, 3) := by decide +kernel
theorem dX9_orderOf_71 : decode cX9_orderOf 71 = .ok (.iconst 2, 1) := by decide +kernel
theorem dX9_orderOf_72 : decode cX9_orderOf 72 = .ok (.iload_n 1, 1) := by decide +kernel
theorem dX9_orderOf_73 : decode cX9_orderOf 73 = .ok (.iastore, 1) := by decide +kernel
theorem dX9_orderOf_74 : decode cX9_orderOf 74 = .ok (.aload_n 0, 1) := by decide +kernel
theorem dX9_orderOf_75 : decode cX9_orderOf 75 = .ok (.getfield 70, 3) := by decide +kernel
theorem dX9_orderOf_78 : decode cX9_orderOf 78 = .ok (.iconst 3, 1) := by decide +kernel
theorem dX9_orderOf_79 : decode cX9_orderOf 79 = .ok (.aload_n 0, 1) := by decide +kernel
theorem dX9_orderOf_80 : decode cX9_orderOf 80 = .ok (.getfield 7, 3) := by decide +kernel
theorem dX9_orderOf_83 : decode cX9_orderOf 83 = .ok (.aload_n 0, 1) := by decide +kernel
theorem dX9_orderOf_84 : decode cX9_orderOf 84 = .ok (.getfield 169, 3) := by decide +kernel
theorem dX9_orderOf_87 : decode cX9_orderOf 87 = .ok (.iaload, 1) := by decide +kernel
theorem dX9_orderOf_88 : decode cX9_orderOf 88 = .ok (.iastore, 1) := by decide +kernel
theorem dX9_orderOf_89 : decode cX9_orderOf 89 = .ok (.aload_n 0, 1) := by decide +kernel
theorem dX9_orderOf_90 : decode cX9_orderOf 90 = .ok (.getfield 70, 3) := by decide +kernel
theorem dX9_orderOf_93 : decode cX9_orderOf 93 = .ok (.iconst 4, 1) := by decide +kernel
theorem dX9_orderOf_94 : decode cX9_orderOf 94 = .ok (.iload_n 2, 1) := by decide +kernel
theorem dX9_orderOf_95 : decode cX9_orderOf 95 = .ok (.ifCond .eq 7, 3) := by decide +kernel
theorem dX9_orderOf_98 : decode cX9_orderOf 98 = .ok (.iconst 1, 1) := by decide +kernel
theorem dX9_orderOf_99 : decode cX9_orderOf 99 = .ok (.goto 4, 3) := by decide +kernel
theorem dX9_orderOf_102 : decode cX9_orderOf 102 = .ok (.iconst 0, 1) := by decide +kernel
theorem dX9_orderOf_103 : decode cX9_orderOf 103 = .ok (.iastore, 1) := by decide +kernel
theorem dX9_orderOf_104 : decode cX9_orderOf 104 = .ok (.aload_n 0, 1) := by decide +kernel
theorem dX9_orderOf_105 : decode cX9_orderOf 105 = .ok (.getfield 70, 3) := by decide +kernel
theorem dX9_orderOf_108 : decode cX9_orderOf 108 = .ok (.iconst 5, 1) := by decide +kernel
theorem dX9_orderOf_109 : decode cX9_orderOf 109 = .ok (.aload_n 0, 1) := by decide +kernel
theorem dX9_orderOf_110 : decode cX9_orderOf 110 = .ok (.getfield 19, 3) := by decide +kernel
theorem dX9_orderOf_113 : decode cX9_orderOf 113 = .ok (.iload_n 1, 1) := by decide +kernel
theorem dX9_orderOf_114 : decode cX9_orderOf 114 = .ok (.iaload, 1) := by decide +kernel
theorem dX9_orderOf_115 : decode cX9_orderOf 115 = .ok (.iastore, 1) := by decide +kernel
theorem dX9_orderOf_116 : decode cX9_orderOf 116 = .ok (.aload_n 0, 1) := by decide +kernel
theorem dX9_orderOf_117 : decode cX9_orderOf 117 = .ok (.getfield 70, 3) := by decide +kernel
theorem dX9_orderOf_120 : decode cX9_orderOf 120 = .ok (.bipush 6, 2) := by decide +kernel
theorem dX9_orderOf_122 : decode cX9_orderOf 122 = .ok (.aload_n 0, 1) := by decide +kernel
theorem dX9_orderOf_123 : decode cX9_orderOf 123 = .ok (.getfield 169, 3) := by decide +kernel
theorem dX9_orderOf_126 : decode cX9_orderOf 126 = .ok (.iastore, 1) := by decide +kernel
theorem dX9_orderOf_127 : decode cX9_orderOf 127 = .ok (.aload_n 0, 1) := by decide +kernel
theorem dX9_orderOf_128 : decode cX9_orderOf 128 = .ok (.iconst 0, 1) := by decide +kernel
theorem dX9_orderOf_129 : decode cX9_orderOf 129 = .ok (.invokevirtual 252, 3) := by decide +kernel
theorem dX9_orderOf_132 : decode cX9_orderOf 132 = .ok (.istore_n 3, 1) := by decide +kernel
theorem dX9_orderOf_133 : decode cX9_orderOf 133 = .ok (.iload_n 3, 1) := by decide +kernel
theorem dX9_orderOf_134 : decode cX9_orderOf 134 = .ok (.ifCond .ge 7, 3) := by decide +kernel
theorem dX9_orderOf_137 : decode cX9_orderOf 137 = .ok (.iconst 0, 1) := by decide +kernel
theorem dX9_orderOf_138 : decode cX9_orderOf 138 = .ok (.goto 7, 3) := by decide +kernel
theorem dX9_orderOf_141 : decode cX9_orderOf 141 = .ok (.iload_n 3, 1) := by decide +kernel
theorem dX9_orderOf_142 : decode cX9_orderOf 142 = .ok (.bipush 6, 2) := by decide +kernel
theorem dX9_orderOf_144 : decode cX9_orderOf 144 = .ok (.irem, 1) := by decide +kernel
theorem dX9_orderOf_145 : decode cX9_orderOf 145 = .ok (.ireturn, 1) := by decide +kernel
theorem dX9_cost_0 : decode cX9_cost 0 = .ok (.iload_n 1, 1) := by decide +kernel
theorem dX9_cost_1 : decode cX9_cost 1 = .ok (.invokestatic 141, 3) := by decide +kernel
theorem dX9_cost_4 : decode cX9_cost 4 = .ok (.ifCond .eq 12, 3) := by decide +kernel
theorem dX9_cost_7 : decode cX9_cost 7 = .ok (.iload_n 2, 1) := by decide +kernel
theorem dX9_cost_8 : decode cX9_cost 8 = .ok (.iconst 1, 1) := by decide +kernel
theorem dX9_cost_9 : decode cX9_cost 9 = .ok (.iconst 4, 1) := by decide +kernel
theorem dX9_cost_10 : decode cX9_cost 10 = .ok (.invokestatic 116, 3) := by decide +kernel
theorem dX9_cost_13 : decode cX9_cost 13 = .ok (.ifCond .ne 5, 3) := by decide +kernel
theorem dX9_cost_16 : decode cX9_cost 16 = .ok (.iconst (-1), 1) := by decide +kernel
theorem dX9_cost_17 : decode cX9_cost 17 = .ok (.ireturn, 1) := by decide +kernel
theorem dX9_cost_18 : decode cX9_cost 18 = .ok (.iload_n 1, 1) := by decide +kernel
theorem dX9_cost_19 : decode cX9_cost 19 = .ok (.iload_n 2, 1) := by decide +kernel
theorem dX9_cost_20 : decode cX9_cost 20 = .ok (.invokestatic 120, 3) := by decide +kernel
theorem dX9_cost_23 : decode cX9_cost 23 = .ok (.ifCond .ge 8, 3) := by decide +kernel
theorem dX9_cost_26 : decode cX9_cost 26 = .ok (.bipush (-2), 2) := by decide +kernel
theorem dX9_cost_28 : decode cX9_cost 28 = .ok (.goto 9, 3) := by decide +kernel
theorem dX9_cost_31 : decode cX9_cost 31 = .ok (.aload_n 0, 1) := by decide +kernel
theorem dX9_cost_32 : decode cX9_cost 32 = .ok (.iload_n 1, 1) := by decide +kernel
theorem dX9_cost_33 : decode cX9_cost 33 = .ok (.iload_n 2, 1) := by decide +kernel
theorem dX9_cost_34 : decode cX9_cost 34 = .ok (.invokevirtual 255, 3) := by decide +kernel
theorem dX9_cost_37 : decode cX9_cost 37 = .ok (.ireturn, 1) := by decide +kernel
theorem dX9_order_0 : decode cX9_order 0 = .ok (.aload_n 0, 1) := by decide +kernel
theorem dX9_order_1 : decode cX9_order 1 = .ok (.getfield 166, 3) := by decide +kernel
theorem dX9_order_4 : decode cX9_order 4 = .ok (.bipush 60, 2) := by decide +kernel
theorem dX9_order_6 : decode cX9_order 6 = .ok (.if_icmp .ne 8, 3) := by decide +kernel
theorem dX9_order_9 : decode cX9_order 9 = .ok (.bipush (-5), 2) := by decide +kernel
theorem dX9_order_11 : decode cX9_order 11 = .ok (.goto 11, 3) := by decide +kernel
theorem dX9_order_14 : decode cX9_order 14 = .ok (.aload_n 0, 1) := by decide +kernel
theorem dX9_order_15 : decode cX9_order 15 = .ok (.aload_n 0, 1) := by decide +kernel
theorem dX9_order_16 : decode cX9_order 16 = .ok (.getfield 166, 3) := by decide +kernel
theorem dX9_order_19 : decode cX9_order 19 = .ok (.invokevirtual 258, 3) := by decide +kernel
theorem dX9_order_22 : decode cX9_order 22 = .ok (.ireturn, 1) := by decide +kernel
theorem dX9_think_0 : decode cX9_think 0 = .ok (.aload_n 0, 1) := by decide +kernel
theorem dX9_think_1 : decode cX9_think 1 = .ok (.aload_n 0, 1) := by decide +kernel
theorem dX9_think_2 : decode cX9_think 2 = .ok (.getfield 169, 3) := by decide +kernel
theorem dX9_think_5 : decode cX9_think 5 = .ok (.putfield 261, 3) := by decide +kernel
theorem dX9_think_8 : decode cX9_think 8 = .ok (.aload_n 0, 1) := by decide +kernel
theorem dX9_think_9 : decode cX9_think 9 = .ok (.aload_n 0, 1) := by decide +kernel
theorem dX9_think_10 : decode cX9_think 10 = .ok (.getfield 29, 3) := by decide +kernel
theorem dX9_think_13 : decode cX9_think 13 = .ok (.putfield 264, 3) := by decide +kernel
theorem dX9_think_16 : decode cX9_think 16 = .ok (.aload_n 0, 1) := by decide +kernel
theorem dX9_think_17 : decode cX9_think 17 = .ok (.aload_n 0, 1) := by decide +kernel
theorem dX9_think_18 : decode cX9_think 18 = .ok (.getfield 172, 3) := by decide +kernel
theorem dX9_think_21 : decode cX9_think 21 = .ok (.putfield 267, 3) := by decide +kernel
theorem dX9_think_24 : decode cX9_think 24 = .ok (.aload_n 0, 1) := by decide +kernel
theorem dX9_think_25 : decode cX9_think 25 = .ok (.aload_n 0, 1) := by decide +kernel
theorem dX9_think_26 : decode cX9_think 26 = .ok (.getfield 124, 3) := by decide +kernel
theorem dX9_think_29 : decode cX9_think 29 = .ok (.putfield 270, 3) := by decide +kernel
theorem dX9_think_32 : decode cX9_think 32 = .ok (.return_, 1) := by decide +kernel
theorem dX9_unthink_0 : decode cX9_unthink 0 = .ok (.aload_n 0, 1) := by decide +kernel
theorem dX9_unthink_1 : decode cX9_unthink 1 = .ok (.aload_n 0, 1) := by decide +kernel
theorem dX9_unthink_2 : decode cX9_unthink 2 = .ok (.getfield 261, 3) := by decide +kernel
theorem dX9_unthink_5 : decode cX9_unthink 5 = .ok (.putfield 169, 3) := by decide +kernel
theorem dX9_unthink_8 : decode cX9_unthink 8 = .ok (.aload_n 0, 1) := by decide +kernel
theorem dX9_unthink_9 : decode cX9_unthink 9 = .ok (.aload_n 0, 1) := by decide +kernel
theorem dX9_unthink_10 : decode cX9_unthink 10 = .ok (.getfield 264, 3) := by decide +kernel
theorem dX9_unthink_13 : decode cX9_unthink 13 = .ok (.putfield 29, 3) := by decide +kernel
theorem dX9_unthink_16 : decode cX9_unthink 16 = .ok (.aload_n 0, 1) := by decide +kernel
theorem dX9_unthink_17 : decode cX9_unthink 17 = .ok (.aload_n 0, 1) := by decide +kernel
theorem dX9_unthink_18 : decode cX9_unthink 18 = .ok (.getfield 267, 3) := by decide +kernel
theorem dX9_unthink_21 : decode cX9_unthink 21 = .ok (.putfield 172, 3) := by decide +kernel
theorem dX9_unthink_24 : decode cX9_unthink 24 = .ok (.aload_n 0, 1) := by decide +kernel
theorem dX9_unthink_25 : decode cX9_unthink 25 = .ok (.aload_n 0, 1) := by decide +kernel
theorem dX9_unthink_26 : decode cX9_unthink 26 = .ok (.getfield 270, 3) := by decide +kernel
theorem dX9_unthink_29 : decode cX9_unthink 29 = .ok (.putfield 124, 3) := by decide +kernel
theorem dX9_unthink_32 : decode cX9_unthink 32 = .ok (.return_, 1) := by decide +kernel
theorem dX9_obeys_0 : decode cX9_obeys 0 = .ok (.iload_n 1, 1) := by decide +kernel
theorem dX9_obeys_1 : decode cX9_obeys 1 = .ok (.ifCond .ne 5, 3) := by decide +kernel
theorem dX9_obeys_4 : decode cX9_obeys 4 = .ok (.iconst 1, 1) := by decide +kernel
theorem dX9_obeys_5 : decode cX9_obeys 5 = .ok (.ireturn, 1) := by decide +kernel
theorem dX9_obeys_6 : decode cX9_obeys 6 = .ok (.iload_n 1, 1) := by decide +kernel
theorem dX9_obeys_7 : decode cX9_obeys 7 = .ok (.iconst 5, 1) := by decide +kernel
theorem dX9_obeys_8 : decode cX9_obeys 8 = .ok (.if_icmp .ne 63, 3) := by decide +kernel
theorem dX9_obeys_11 : decode cX9_obeys 11 = .ok (.aload_n 0, 1) := by decide +kernel
theorem dX9_obeys_12 : decode cX9_obeys 12 = .ok (.getfield 13, 3) := by decide +kernel
theorem dX9_obeys_15 : decode cX9_obeys 15 = .ok (.aload_n 0, 1) := by decide +kernel
theorem dX9_obeys_16 : decode cX9_obeys 16 = .ok (.getfield 169, 3) := by decide +kernel
theorem dX9_obeys_19 : decode cX9_obeys 19 = .ok (.iaload, 1) := by decide +kernel
theorem dX9_obeys_20 : decode cX9_obeys 20 = .ok (.ifCond .eq 22, 3) := by decide +kernel
theorem dX9_obeys_23 : decode cX9_obeys 23 = .ok (.aload_n 0, 1) := by decide +kernel
theorem dX9_obeys_24 : decode cX9_obeys 24 = .ok (.aload_n 0, 1) := by decide +kernel
theorem dX9_obeys_25 : decode cX9_obeys 25 = .ok (.getfield 169, 3) := by decide +kernel
theorem dX9_obeys_28 : decode cX9_obeys 28 = .ok (.invokevirtual 163, 3) := by decide +kernel
theorem dX9_obeys_31 : decode cX9_obeys 31 = .ok (.ifCond .ne 11, 3) := by decide +kernel
theorem dX9_obeys_34 : decode cX9_obeys 34 = .ok (.aload_n 0, 1) := by decide +kernel
theorem dX9_obeys_35 : decode cX9_obeys 35 = .ok (.getfield 29, 3) := by decide +kernel
theorem dX9_obeys_38 : decode cX9_obeys 38 = .ok (.iconst 2, 1) := by decide +kernel
theorem dX9_obeys_39 : decode cX9_obeys 39 = .ok (.if_icmp .ge 5, 3) := by decide +kernel
theorem dX9_obeys_42 : decode cX9_obeys 42 = .ok (.iconst 0, 1) := by decide +kernel
theorem dX9_obeys_43 : decode cX9_obeys 43 = .ok (.ireturn, 1) := by decide +kernel
theorem dX9_obeys_44 : decode cX9_obeys 44 = .ok (.aload_n 0, 1) := by decide +kernel
theorem dX9_obeys_45 : decode cX9_obeys 45 = .ok (.dup, 1) := by decide +kernel
theorem dX9_obeys_46 : decode cX9_obeys 46 = .ok (.getfield 29, 3) := by decide +kernel
theorem dX9_obeys_49 : decode cX9_obeys 49 = .ok (.iconst 2, 1) := by decide +kernel
theorem dX9_obeys_50 : decode cX9_obeys 50 = .ok (.isub, 1) := by decide +kernel
theorem dX9_obeys_51 : decode cX9_obeys 51 = .ok (.putfield 29, 3) := by decide +kernel
theorem dX9_obeys_54 : decode cX9_obeys 54 = .ok (.aload_n 0, 1) := by decide +kernel
theorem dX9_obeys_55 : decode cX9_obeys 55 = .ok (.dup, 1) := by decide +kernel
theorem dX9_obeys_56 : decode cX9_obeys 56 = .ok (.getfield 124, 3) := by decide +kernel
theorem dX9_obeys_59 : decode cX9_obeys 59 = .ok (.lconst 1, 1) := by decide +kernel
theorem dX9_obeys_60 : decode cX9_obeys 60 = .ok (.aload_n 0, 1) := by decide +kernel
theorem dX9_obeys_61 : decode cX9_obeys 61 = .ok (.getfield 169, 3) := by decide +kernel
theorem dX9_obeys_64 : decode cX9_obeys 64 = .ok (.lshl, 1) := by decide +kernel
theorem dX9_obeys_65 : decode cX9_obeys 65 = .ok (.lor, 1) := by decide +kernel
theorem dX9_obeys_66 : decode cX9_obeys 66 = .ok (.putfield 124, 3) := by decide +kernel
theorem dX9_obeys_69 : decode cX9_obeys 69 = .ok (.iconst 1, 1) := by decide +kernel
theorem dX9_obeys_70 : decode cX9_obeys 70 = .ok (.ireturn, 1) := by decide +kernel
theorem dX9_obeys_71 : decode cX9_obeys 71 = .ok (.aload_n 0, 1) := by decide +kernel
theorem dX9_obeys_72 : decode cX9_obeys 72 = .ok (.getfield 169, 3) := by decide +kernel
theorem dX9_obeys_75 : decode cX9_obeys 75 = .ok (.iload_n 1, 1) := by decide +kernel
theorem dX9_obeys_76 : decode cX9_obeys 76 = .ok (.invokestatic 120, 3) := by decide +kernel
theorem dX9_obeys_79 : decode cX9_obeys 79 = .ok (.ifCond .lt 19, 3) := by decide +kernel
theorem dX9_obeys_82 : decode cX9_obeys 82 = .ok (.aload_n 0, 1) := by decide +kernel
theorem dX9_obeys_83 : decode cX9_obeys 83 = .ok (.getfield 29, 3) := by decide +kernel
theorem dX9_obeys_86 : decode cX9_obeys 86 = .ok (.aload_n 0, 1) := by decide +kernel
theorem dX9_obeys_87 : decode cX9_obeys 87 = .ok (.aload_n 0, 1) := by decide +kernel
theorem dX9_obeys_88 : decode cX9_obeys 88 = .ok (.getfield 169, 3) := by decide +kernel
theorem dX9_obeys_91 : decode cX9_obeys 91 = .ok (.iload_n 1, 1) := by decide +kernel
theorem dX9_obeys_92 : decode cX9_obeys 92 = .ok (.invokevirtual 255, 3) := by decide +kernel
theorem dX9_obeys_95 : decode cX9_obeys 95 = .ok (.if_icmp .ge 5, 3) := by decide +kernel
theorem dX9_obeys_98 : decode cX9_obeys 98 = .ok (.iconst 0, 1) := by decide +kernel
theorem dX9_obeys_99 : decode cX9_obeys 99 = .ok (.ireturn, 1) := by decide +kernel
theorem dX9_obeys_100 : decode cX9_obeys 100 = .ok (.aload_n 0, 1) := by decide +kernel
theorem dX9_obeys_101 : decode cX9_obeys 101 = .ok (.dup, 1) := by decide +kernel
theorem dX9_obeys_102 : decode cX9_obeys 102 = .ok (.getfield 29, 3) := by decide +kernel
theorem dX9_obeys_105 : decode cX9_obeys 105 = .ok (.aload_n 0, 1) := by decide +kernel
theorem dX9_obeys_106 : decode cX9_obeys 106 = .ok (.aload_n 0, 1) := by decide +kernel
theorem dX9_obeys_107 : decode cX9_obeys 107 = .ok (.getfield 169, 3) := by decide +kernel
theorem dX9_obeys_110 : decode cX9_obeys 110 = .ok (.iload_n 1, 1) := by decide +kernel
theorem dX9_obeys_111 : decode cX9_obeys 111 = .ok (.invokevirtual 255, 3) := by decide +kernel
theorem dX9_obeys_114 : decode cX9_obeys 114 = .ok (.isub, 1) := by decide +kernel
theorem dX9_obeys_115 : decode cX9_obeys 115 = .ok (.putfield 29, 3) := by decide +kernel
theorem dX9_obeys_118 : decode cX9_obeys 118 = .ok (.aload_n 0, 1) := by decide +kernel
theorem dX9_obeys_119 : decode cX9_obeys 119 = .ok (.aload_n 0, 1) := by decide +kernel
theorem dX9_obeys_120 : decode cX9_obeys 120 = .ok (.getfield 169, 3) := by decide +kernel
theorem dX9_obeys_123 : decode cX9_obeys 123 = .ok (.iload_n 1, 1) := by decide +kernel
theorem dX9_obeys_124 : decode cX9_obeys 124 = .ok (.invokestatic 120, 3) := by decide +kernel
theorem dX9_obeys_127 : decode cX9_obeys 127 = .ok (.putfield 169, 3) := by decide +kernel
theorem dX9_obeys_130 : decode cX9_obeys 130 = .ok (.iconst 1, 1) := by decide +kernel
theorem dX9_obeys_131 : decode cX9_obeys 131 = .ok (.ireturn, 1) := by decide +kernel
theorem dX9_storeThen_0 : decode cX9_storeThen 0 = .ok (.iload_n 1, 1) := by decide +kernel
theorem dX9_storeThen_1 : decode cX9_storeThen 1 = .ok (.iload_n 2, 1) := by decide +kernel
theorem dX9_storeThen_2 : decode cX9_storeThen 2 = .ok (.iconst 2, 1) := by decide +kernel
theorem dX9_storeThen_3 : decode cX9_storeThen 3 = .ok (.idiv, 1) := by decide +kernel
theorem dX9_storeThen_4 : decode cX9_storeThen 4 = .ok (.isub, 1) := by decide +kernel
theorem dX9_storeThen_5 : decode cX9_storeThen 5 = .ok (.istore 4, 2) := by decide +kernel
theorem dX9_storeThen_7 : decode cX9_storeThen 7 = .ok (.iload_n 0, 1) := by decide +kernel
theorem dX9_storeThen_8 : decode cX9_storeThen 8 = .ok (.iload 4, 2) := by decide +kernel
theorem dX9_storeThen_10 : decode cX9_storeThen 10 = .ok (.ifCond .le 8, 3) := by decide +kernel
theorem dX9_storeThen_13 : decode cX9_storeThen 13 = .ok (.iload 4, 2) := by decide +kernel
theorem dX9_storeThen_15 : decode cX9_storeThen 15 = .ok (.goto 4, 3) := by decide +kernel
theorem dX9_storeThen_18 : decode cX9_storeThen 18 = .ok (.iconst 0, 1) := by decide +kernel
theorem dX9_storeThen_19 : decode cX9_storeThen 19 = .ok (.iadd, 1) := by decide +kernel
theorem dX9_storeThen_20 : decode cX9_storeThen 20 = .ok (.iload_n 3, 1) := by decide +kernel
theorem dX9_storeThen_21 : decode cX9_storeThen 21 = .ok (.ifCond .eq 7, 3) := by decide +kernel
theorem dX9_storeThen_24 : decode cX9_storeThen 24 = .ok (.iconst 2, 1) := by decide +kernel
theorem dX9_storeThen_25 : decode cX9_storeThen 25 = .ok (.goto 4, 3) := by decide +kernel
theorem dX9_storeThen_28 : decode cX9_storeThen 28 = .ok (.iconst 4, 1) := by decide +kernel
theorem dX9_storeThen_29 : decode cX9_storeThen 29 = .ok (.isub, 1) := by decide +kernel
theorem dX9_storeThen_30 : decode cX9_storeThen 30 = .ok (.istore 5, 2) := by decide +kernel
theorem dX9_storeThen_32 : decode cX9_storeThen 32 = .ok (.iload 5, 2) := by decide +kernel
theorem dX9_storeThen_34 : decode cX9_storeThen 34 = .ok (.ifCond .ge 7, 3) := by decide +kernel
theorem dX9_storeThen_37 : decode cX9_storeThen 37 = .ok (.iconst 0, 1) := by decide +kernel
theorem dX9_storeThen_38 : decode cX9_storeThen 38 = .ok (.goto 17, 3) := by decide +kernel
theorem dX9_storeThen_41 : decode cX9_storeThen 41 = .ok (.iload 5, 2) := by decide +kernel
theorem dX9_storeThen_43 : decode cX9_storeThen 43 = .ok (.bipush 99, 2) := by decide +kernel
theorem dX9_storeThen_45 : decode cX9_storeThen 45 = .ok (.if_icmp .le 8, 3) := by decide +kernel
theorem dX9_storeThen_48 : decode cX9_storeThen 48 = .ok (.bipush 99, 2) := by decide +kernel
theorem dX9_storeThen_50 : decode cX9_storeThen 50 = .ok (.goto 5, 3) := by decide +kernel
theorem dX9_storeThen_53 : decode cX9_storeThen 53 = .ok (.iload 5, 2) := by decide +kernel
theorem dX9_storeThen_55 : decode cX9_storeThen 55 = .ok (.ireturn, 1) := by decide +kernel
theorem dX9_dustThen_0 : decode cX9_dustThen 0 = .ok (.iload_n 2, 1) := by decide +kernel
theorem dX9_dustThen_1 : decode cX9_dustThen 1 = .ok (.bipush 7, 2) := by decide +kernel
theorem dX9_dustThen_3 : decode cX9_dustThen 3 = .ok (.if_icmp .lt 9, 3) := by decide +kernel
theorem dX9_dustThen_6 : decode cX9_dustThen 6 = .ok (.iload_n 3, 1) := by decide +kernel
theorem dX9_dustThen_7 : decode cX9_dustThen 7 = .ok (.ifCond .ne 5, 3) := by decide +kernel
theorem dX9_dustThen_10 : decode cX9_dustThen 10 = .ok (.iconst 0, 1) := by decide +kernel
theorem dX9_dustThen_11 : decode cX9_dustThen 11 = .ok (.ireturn, 1) := by decide +kernel
theorem dX9_dustThen_12 : decode cX9_dustThen 12 = .ok (.iload_n 1, 1) := by decide +kernel
theorem dX9_dustThen_13 : decode cX9_dustThen 13 = .ok (.iconst 3, 1) := by decide +kernel
theorem dX9_dustThen_14 : decode cX9_dustThen 14 = .ok (.irem, 1) := by decide +kernel
theorem dX9_dustThen_15 : decode cX9_dustThen 15 = .ok (.ifCond .ne 15, 3) := by decide +kernel
theorem dX9_dustThen_18 : decode cX9_dustThen 18 = .ok (.iload_n 0, 1) := by decide +kernel
theorem dX9_dustThen_19 : decode cX9_dustThen 19 = .ok (.bipush 9, 2) := by decide +kernel
theorem dX9_dustThen_21 : decode cX9_dustThen 21 = .ok (.if_icmp .ge 9, 3) := by decide +kernel
theorem dX9_dustThen_24 : decode cX9_dustThen 24 = .ok (.iload_n 0, 1) := by decide +kernel
theorem dX9_dustThen_25 : decode cX9_dustThen 25 = .ok (.iconst 1, 1) := by decide +kernel
theorem dX9_dustThen_26 : decode cX9_dustThen 26 = .ok (.iadd, 1) := by decide +kernel
theorem dX9_dustThen_27 : decode cX9_dustThen 27 = .ok (.goto 4, 3) := by decide +kernel
theorem dX9_dustThen_30 : decode cX9_dustThen 30 = .ok (.iload_n 0, 1) := by decide +kernel
theorem dX9_dustThen_31 : decode cX9_dustThen 31 = .ok (.ireturn, 1) := by decide +kernel
theorem dX9_goDay_0 : decode cX9_goDay 0 = .ok (.aload_n 0, 1) := by decide +kernel
theorem dX9_goDay_1 : decode cX9_goDay 1 = .ok (.iload_n 1, 1) := by decide +kernel
theorem dX9_goDay_2 : decode cX9_goDay 2 = .ok (.invokevirtual 273, 3) := by decide +kernel
theorem dX9_goDay_5 : decode cX9_goDay 5 = .ok (.istore 5, 2) := by decide +kernel
theorem dX9_goDay_7 : decode cX9_goDay 7 = .ok (.aload_n 0, 1) := by decide +kernel
theorem dX9_goDay_8 : decode cX9_goDay 8 = .ok (.aload_n 0, 1) := by decide +kernel
theorem dX9_goDay_9 : decode cX9_goDay 9 = .ok (.getfield 169, 3) := by decide +kernel
theorem dX9_goDay_12 : decode cX9_goDay 12 = .ok (.invokevirtual 160, 3) := by decide +kernel
theorem dX9_goDay_15 : decode cX9_goDay 15 = .ok (.istore 6, 2) := by decide +kernel
theorem dX9_goDay_17 : decode cX9_goDay 17 = .ok (.aload_n 0, 1) := by decide +kernel
theorem dX9_goDay_18 : decode cX9_goDay 18 = .ok (.aload_n 0, 1) := by decide +kernel
theorem dX9_goDay_19 : decode cX9_goDay 19 = .ok (.getfield 29, 3) := by decide +kernel
theorem dX9_goDay_22 : decode cX9_goDay 22 = .ok (.iload_n 3, 1) := by decide +kernel
theorem dX9_goDay_23 : decode cX9_goDay 23 = .ok (.aload_n 0, 1) := by decide +kernel
theorem dX9_goDay_24 : decode cX9_goDay 24 = .ok (.getfield 172, 3) := by decide +kernel
theorem dX9_goDay_27 : decode cX9_goDay 27 = .ok (.iload 6, 2) := by decide +kernel
theorem dX9_goDay_29 : decode cX9_goDay 29 = .ok (.invokestatic 276, 3) := by decide +kernel
theorem dX9_goDay_32 : decode cX9_goDay 32 = .ok (.putfield 29, 3) := by decide +kernel
theorem dX9_goDay_35 : decode cX9_goDay 35 = .ok (.aload_n 0, 1) := by decide +kernel
theorem dX9_goDay_36 : decode cX9_goDay 36 = .ok (.aload_n 0, 1) := by decide +kernel
theorem dX9_goDay_37 : decode cX9_goDay 37 = .ok (.getfield 172, 3) := by decide +kernel
theorem dX9_goDay_40 : decode cX9_goDay 40 = .ok (.iload_n 2, 1) := by decide +kernel
theorem dX9_goDay_41 : decode cX9_goDay 41 = .ok (.iload 4, 2) := by decide +kernel
theorem dX9_goDay_43 : decode cX9_goDay 43 = .ok (.iload 6, 2) := by decide +kernel
theorem dX9_goDay_45 : decode cX9_goDay 45 = .ok (.invokestatic 280, 3) := by decide +kernel
theorem dX9_goDay_48 : decode cX9_goDay 48 = .ok (.putfield 172, 3) := by decide +kernel
theorem dX9_goDay_51 : decode cX9_goDay 51 = .ok (.iload 5, 2) := by decide +kernel
theorem dX9_goDay_53 : decode cX9_goDay 53 = .ok (.ireturn, 1) := by decide +kernel
theorem dX9_goOwn_0 : decode cX9_goOwn 0 = .ok (.aload_n 0, 1) := by decide +kernel
theorem dX9_goOwn_1 : decode cX9_goOwn 1 = .ok (.iload_n 1, 1) := by decide +kernel
theorem dX9_goOwn_2 : decode cX9_goOwn 2 = .ok (.iload_n 2, 1) := by decide +kernel
theorem dX9_goOwn_3 : decode cX9_goOwn 3 = .ok (.aload_n 0, 1) := by decide +kernel
theorem dX9_goOwn_4 : decode cX9_goOwn 4 = .ok (.getfield 16, 3) := by decide +kernel
theorem dX9_goOwn_7 : decode cX9_goOwn 7 = .ok (.iload_n 2, 1) := by decide +kernel
theorem dX9_goOwn_8 : decode cX9_goOwn 8 = .ok (.iaload, 1) := by decide +kernel
theorem dX9_goOwn_9 : decode cX9_goOwn 9 = .ok (.aload_n 0, 1) := by decide +kernel
theorem dX9_goOwn_10 : decode cX9_goOwn 10 = .ok (.getfield 19, 3) := by decide +kernel
theorem dX9_goOwn_13 : decode cX9_goOwn 13 = .ok (.iload_n 2, 1) := by decide +kernel
theorem dX9_goOwn_14 : decode cX9_goOwn 14 = .ok (.iaload, 1) := by decide +kernel
theorem dX9_goOwn_15 : decode cX9_goOwn 15 = .ok (.invokevirtual 283, 3) := by decide +kernel
theorem dX9_goOwn_18 : decode cX9_goOwn 18 = .ok (.ireturn, 1) := by decide +kernel
theorem dX9_lead_0 : decode cX9_lead 0 = .ok (.aload_n 0, 1) := by decide +kernel
theorem dX9_lead_1 : decode cX9_lead 1 = .ok (.iload_n 1, 1) := by decide +kernel
theorem dX9_lead_2 : decode cX9_lead 2 = .ok (.aload_n 0, 1) := by decide +kernel
theorem dX9_lead_3 : decode cX9_lead 3 = .ok (.getfield 166, 3) := by decide +kernel
theorem dX9_lead_6 : decode cX9_lead 6 = .ok (.invokevirtual 287, 3) := by decide +kernel
theorem dX9_lead_9 : decode cX9_lead 9 = .ok (.istore_n 2, 1) := by decide +kernel
theorem dX9_lead_10 : decode cX9_lead 10 = .ok (.aload_n 0, 1) := by decide +kernel
theorem dX9_lead_11 : decode cX9_lead 11 = .ok (.getfield 32, 3) := by decide +kernel
theorem dX9_lead_14 : decode cX9_lead 14 = .ok (.aload_n 0, 1) := by decide +kernel
theorem dX9_lead_15 : decode cX9_lead 15 = .ok (.getfield 166, 3) := by decide +kernel
theorem dX9_lead_18 : decode cX9_lead 18 = .ok (.iload_n 1, 1) := by decide +kernel
theorem dX9_lead_19 : decode cX9_lead 19 = .ok (.iastore, 1) := by decide +kernel
theorem dX9_lead_20 : decode cX9_lead 20 = .ok (.aload_n 0, 1) := by decide +kernel
theorem dX9_lead_21 : decode cX9_lead 21 = .ok (.getfield 35, 3) := by decide +kernel
theorem dX9_lead_24 : decode cX9_lead 24 = .ok (.aload_n 0, 1) := by decide +kernel
theorem dX9_lead_25 : decode cX9_lead 25 = .ok (.getfield 166, 3) := by decide +kernel
theorem dX9_lead_28 : decode cX9_lead 28 = .ok (.iload_n 2, 1) := by decide +kernel
theorem dX9_lead_29 : decode cX9_lead 29 = .ok (.ifCond .eq 7, 3) := by decide +kernel
theorem dX9_lead_32 : decode cX9_lead 32 = .ok (.iconst 1, 1) := by decide +kernel
theorem dX9_lead_33 : decode cX9_lead 33 = .ok (.goto 4, 3) := by decide +kernel
theorem dX9_lead_36 : decode cX9_lead 36 = .ok (.iconst 0, 1) := by decide +kernel
theorem dX9_lead_37 : decode cX9_lead 37 = .ok (.iastore, 1) := by decide +kernel
theorem dX9_lead_38 : decode cX9_lead 38 = .ok (.aload_n 0, 1) := by decide +kernel
theorem dX9_lead_39 : decode cX9_lead 39 = .ok (.dup, 1) := by decide +kernel
theorem dX9_lead_40 : decode cX9_lead 40 = .ok (.getfield 166, 3) := by decide +kernel
theorem dX9_lead_43 : decode cX9_lead 43 = .ok (.iconst 1, 1) := by decide +kernel
theorem dX9_lead_44 : decode cX9_lead 44 = .ok (.iadd, 1) := by decide +kernel
theorem dX9_lead_45 : decode cX9_lead 45 = .ok (.putfield 166, 3) := by decide +kernel
theorem dX9_lead_48 : decode cX9_lead 48 = .ok (.iload_n 2, 1) := by decide +kernel
theorem dX9_lead_49 : decode cX9_lead 49 = .ok (.ifCond .eq 7, 3) := by decide +kernel
theorem dX9_lead_52 : decode cX9_lead 52 = .ok (.iconst 1, 1) := by decide +kernel
theorem dX9_lead_53 : decode cX9_lead 53 = .ok (.goto 4, 3) := by decide +kernel
theorem dX9_lead_56 : decode cX9_lead 56 = .ok (.iconst 0, 1) := by decide +kernel
theorem dX9_lead_57 : decode cX9_lead 57 = .ok (.ireturn, 1) := by decide +kernel
theorem dX9_day_0 : decode cX9_day 0 = .ok (.iload_n 1, 1) := by decide +kernel
theorem dX9_day_1 : decode cX9_day 1 = .ok (.iconst 0, 1) := by decide +kernel
theorem dX9_day_2 : decode cX9_day 2 = .ok (.iconst 5, 1) := by decide +kernel
theorem dX9_day_3 : decode cX9_day 3 = .ok (.invokestatic 116, 3) := by decide +kernel
theorem dX9_day_6 : decode cX9_day 6 = .ok (.ifCond .ne 5, 3) := by decide +kernel
theorem dX9_day_9 : decode cX9_day 9 = .ok (.iconst (-1), 1) := by decide +kernel
theorem dX9_day_10 : decode cX9_day 10 = .ok (.ireturn, 1) := by decide +kernel
theorem dX9_day_11 : decode cX9_day 11 = .ok (.aload_n 0, 1) := by decide +kernel
theorem dX9_day_12 : decode cX9_day 12 = .ok (.getfield 166, 3) := by decide +kernel
theorem dX9_day_15 : decode cX9_day 15 = .ok (.bipush 60, 2) := by decide +kernel
theorem dX9_day_17 : decode cX9_day 17 = .ok (.if_icmp .ne 8, 3) := by decide +kernel
theorem dX9_day_20 : decode cX9_day 20 = .ok (.bipush (-5), 2) := by decide +kernel
theorem dX9_day_22 : decode cX9_day 22 = .ok (.goto 8, 3) := by decide +kernel
theorem dX9_day_25 : decode cX9_day 25 = .ok (.aload_n 0, 1) := by decide +kernel
theorem dX9_day_26 : decode cX9_day 26 = .ok (.iload_n 1, 1) := by decide +kernel
theorem dX9_day_27 : decode cX9_day 27 = .ok (.invokevirtual 290, 3) := by decide +kernel
theorem dX9_day_30 : decode cX9_day 30 = .ok (.ireturn, 1) := by decide +kernel
theorem dX9_days_0 : decode cX9_days 0 = .ok (.iload_n 1, 1) := by decide +kernel
theorem dX9_days_1 : decode cX9_days 1 = .ok (.iconst 1, 1) := by decide +kernel
theorem dX9_days_2 : decode cX9_days 2 = .ok (.bipush 60, 2) := by decide +kernel
theorem dX9_days_4 : decode cX9_days 4 = .ok (.invokestatic 116, 3) := by decide +kernel
theorem dX9_days_7 : decode cX9_days 7 = .ok (.ifCond .ne 5, 3) := by decide +kernel
theorem dX9_days_10 : decode cX9_days 10 = .ok (.iconst (-1), 1) := by decide +kernel
theorem dX9_days_11 : decode cX9_days 11 = .ok (.ireturn, 1) := by decide +kernel
theorem dX9_days_12 : decode cX9_days 12 = .ok (.aload_n 0, 1) := by decide +kernel
theorem dX9_days_13 : decode cX9_days 13 = .ok (.getfield 166, 3) := by decide +kernel
theorem dX9_days_16 : decode cX9_days 16 = .ok (.iload_n 1, 1) := by decide +kernel
theorem dX9_days_17 : decode cX9_days 17 = .ok (.iadd, 1) := by decide +kernel
theorem dX9_days_18 : decode cX9_days 18 = .ok (.bipush 60, 2) := by decide +kernel
theorem dX9_days_20 : decode cX9_days 20 = .ok (.if_icmp .le 6, 3) := by decide +kernel
theorem dX9_days_23 : decode cX9_days 23 = .ok (.bipush (-5), 2) := by decide +kernel
theorem dX9_days_25 : decode cX9_days 25 = .ok (.ireturn, 1) := by decide +kernel
theorem dX9_days_26 : decode cX9_days 26 = .ok (.iconst 0, 1) := by decide +kernel
theorem dX9_days_27 : decode cX9_days 27 = .ok (.istore_n 2, 1) := by decide +kernel
theorem dX9_days_28 : decode cX9_days 28 = .ok (.iconst 0, 1) := by decide +kernel
theorem dX9_days_29 : decode cX9_days 29 = .ok (.istore_n 3, 1) := by decide +kernel
theorem dX9_days_30 : decode cX9_days 30 = .ok (.iload_n 3, 1) := by decide +kernel
theorem dX9_days_31 : decode cX9_days 31 = .ok (.iload_n 1, 1) := by decide +kernel
theorem dX9_days_32 : decode cX9_days 32 = .ok (.if_icmp .ge 24, 3) := by decide +kernel
theorem dX9_days_35 : decode cX9_days 35 = .ok (.iload_n 2, 1) := by decide +kernel
theorem dX9_days_36 : decode cX9_days 36 = .ok (.aload_n 0, 1) := by decide +kernel
theorem dX9_days_37 : decode cX9_days 37 = .ok (.aload_n 0, 1) := by decide +kernel
theorem dX9_days_38 : decode cX9_days 38 = .ok (.aload_n 0, 1) := by decide +kernel
theorem dX9_days_39 : decode cX9_days 39 = .ok (.getfield 166, 3) := by decide +kernel
theorem dX9_days_42 : decode cX9_days 42 = .ok (.invokevirtual 258, 3) := by decide +kernel
theorem dX9_days_45 : decode cX9_days 45 = .ok (.invokevirtual 290, 3) := by decide +kernel
theorem dX9_days_48 : decode cX9_days 48 = .ok (.iadd, 1) := by decide +kernel
theorem dX9_days_49 : decode cX9_days 49 = .ok (.istore_n 2, 1) := by decide +kernel
theorem dX9_days_50 : decode cX9_days 50 = .ok (.iinc 3 1, 3) := by decide +kernel
theorem dX9_days_53 : decode cX9_days 53 = .ok (.goto (-23), 3) := by decide +kernel
theorem dX9_days_56 : decode cX9_days 56 = .ok (.iload_n 2, 1) := by decide +kernel
theorem dX9_days_57 : decode cX9_days 57 = .ok (.ireturn, 1) := by decide +kernel
theorem dX9_led_0 : decode cX9_led 0 = .ok (.iload_n 1, 1) := by decide +kernel
theorem dX9_led_1 : decode cX9_led 1 = .ok (.iconst 0, 1) := by decide +kernel
theorem dX9_led_2 : decode cX9_led 2 = .ok (.aload_n 0, 1) := by decide +kernel
theorem dX9_led_3 : decode cX9_led 3 = .ok (.getfield 166, 3) := by decide +kernel
theorem dX9_led_6 : decode cX9_led 6 = .ok (.iconst 1, 1) := by decide +kernel
theorem dX9_led_7 : decode cX9_led 7 = .ok (.isub, 1) := by decide +kernel
theorem dX9_led_8 : decode cX9_led 8 = .ok (.invokestatic 116, 3) := by decide +kernel
theorem dX9_led_11 : decode cX9_led 11 = .ok (.ifCond .eq 12, 3) := by decide +kernel
theorem dX9_led_14 : decode cX9_led 14 = .ok (.iload_n 2, 1) := by decide +kernel
theorem dX9_led_15 : decode cX9_led 15 = .ok (.iconst 0, 1) := by decide +kernel
theorem dX9_led_16 : decode cX9_led 16 = .ok (.iconst 1, 1) := by decide +kernel
theorem dX9_led_17 : decode cX9_led 17 = .ok (.invokestatic 116, 3) := by decide +kernel
theorem dX9_led_20 : decode cX9_led 20 = .ok (.ifCond .ne 5, 3) := by decide +kernel
theorem dX9_led_23 : decode cX9_led 23 = .ok (.iconst (-1), 1) := by decide +kernel
theorem dX9_led_24 : decode cX9_led 24 = .ok (.ireturn, 1) := by decide +kernel
theorem dX9_led_25 : decode cX9_led 25 = .ok (.iload_n 2, 1) := by decide +kernel
theorem dX9_led_26 : decode cX9_led 26 = .ok (.ifCond .ne 12, 3) := by decide +kernel
theorem dX9_led_29 : decode cX9_led 29 = .ok (.aload_n 0, 1) := by decide +kernel
theorem dX9_led_30 : decode cX9_led 30 = .ok (.getfield 32, 3) := by decide +kernel
theorem dX9_led_33 : decode cX9_led 33 = .ok (.iload_n 1, 1) := by decide +kernel
theorem dX9_led_34 : decode cX9_led 34 = .ok (.iaload, 1) := by decide +kernel
theorem dX9_led_35 : decode cX9_led 35 = .ok (.goto 9, 3) := by decide +kernel
theorem dX9_led_38 : decode cX9_led 38 = .ok (.aload_n 0, 1) := by decide +kernel
theorem dX9_led_39 : decode cX9_led 39 = .ok (.getfield 35, 3) := by decide +kernel
theorem dX9_led_42 : decode cX9_led 42 = .ok (.iload_n 1, 1) := by decide +kernel
theorem dX9_led_43 : decode cX9_led 43 = .ok (.iaload, 1) := by decide +kernel
theorem dX9_led_44 : decode cX9_led 44 = .ok (.ireturn, 1) := by decide +kernel
theorem dX9_rowFault_0 : decode cX9_rowFault 0 = .ok (.aload_n 0, 1) := by decide +kernel
theorem dX9_rowFault_1 : decode cX9_rowFault 1 = .ok (.getfield 100, 3) := by decide +kernel
theorem dX9_rowFault_4 : decode cX9_rowFault 4 = .ok (.iload_n 1, 1) := by decide +kernel
theorem dX9_rowFault_5 : decode cX9_rowFault 5 = .ok (.iaload, 1) := by decide +kernel
theorem dX9_rowFault_6 : decode cX9_rowFault 6 = .ok (.iconst (-1), 1) := by decide +kernel
theorem dX9_rowFault_7 : decode cX9_rowFault 7 = .ok (.if_icmp .ne 8, 3) := by decide +kernel
theorem dX9_rowFault_10 : decode cX9_rowFault 10 = .ok (.bipush (-11), 2) := by decide +kernel
theorem dX9_rowFault_12 : decode cX9_rowFault 12 = .ok (.goto 20, 3) := by decide +kernel
theorem dX9_rowFault_15 : decode cX9_rowFault 15 = .ok (.aload_n 0, 1) := by decide +kernel
theorem dX9_rowFault_16 : decode cX9_rowFault 16 = .ok (.getfield 100, 3) := by decide +kernel
theorem dX9_rowFault_19 : decode cX9_rowFault 19 = .ok (.iload_n 1, 1) := by decide +kernel
theorem dX9_rowFault_20 : decode cX9_rowFault 20 = .ok (.iaload, 1) := by decide +kernel
theorem dX9_rowFault_21 : decode cX9_rowFault 21 = .ok (.bipush (-2), 2) := by decide +kernel
theorem dX9_rowFault_23 : decode cX9_rowFault 23 = .ok (.if_icmp .ne 7, 3) := by decide +kernel
theorem dX9_rowFault_26 : decode cX9_rowFault 26 = .ok (.iconst 0, 1) := by decide +kernel
theorem dX9_rowFault_27 : decode cX9_rowFault 27 = .ok (.goto 5, 3) := by decide +kernel
theorem dX9_rowFault_30 : decode cX9_rowFault 30 = .ok (.bipush (-12), 2) := by decide +kernel
theorem dX9_rowFault_32 : decode cX9_rowFault 32 = .ok (.ireturn, 1) := by decide +kernel
theorem dX9_byteAt_0 : decode cX9_byteAt 0 = .ok (.aload_n 0, 1) := by decide +kernel
theorem dX9_byteAt_1 : decode cX9_byteAt 1 = .ok (.getfield 106, 3) := by decide +kernel
theorem dX9_byteAt_4 : decode cX9_byteAt 4 = .ok (.bipush 60, 2) := by decide +kernel
theorem dX9_byteAt_6 : decode cX9_byteAt 6 = .ok (.iload_n 1, 1) := by decide +kernel
theorem dX9_byteAt_7 : decode cX9_byteAt 7 = .ok (.imul, 1) := by decide +kernel
theorem dX9_byteAt_8 : decode cX9_byteAt 8 = .ok (.iload_n 2, 1) := by decide +kernel
theorem dX9_byteAt_9 : decode cX9_byteAt 9 = .ok (.iadd, 1) := by decide +kernel
theorem dX9_byteAt_10 : decode cX9_byteAt 10 = .ok (.laload, 1) := by decide +kernel
theorem dX9_byteAt_11 : decode cX9_byteAt 11 = .ok (.l2i, 1) := by decide +kernel
theorem dX9_byteAt_12 : decode cX9_byteAt 12 = .ok (.ireturn, 1) := by decide +kernel
theorem dX9_orderAt_0 : decode cX9_orderAt 0 = .ok (.aload_n 0, 1) := by decide +kernel
theorem dX9_orderAt_1 : decode cX9_orderAt 1 = .ok (.iload_n 1, 1) := by decide +kernel
theorem dX9_orderAt_2 : decode cX9_orderAt 2 = .ok (.iload_n 2, 1) := by decide +kernel
theorem dX9_orderAt_3 : decode cX9_orderAt 3 = .ok (.invokevirtual 293, 3) := by decide +kernel
theorem dX9_orderAt_6 : decode cX9_orderAt 6 = .ok (.iconst 0, 1) := by decide +kernel
theorem dX9_orderAt_7 : decode cX9_orderAt 7 = .ok (.iconst 5, 1) := by decide +kernel
theorem dX9_orderAt_8 : decode cX9_orderAt 8 = .ok (.invokestatic 116, 3) := by decide +kernel
theorem dX9_orderAt_11 : decode cX9_orderAt 11 = .ok (.ifCond .eq 12, 3) := by decide +kernel
theorem dX9_orderAt_14 : decode cX9_orderAt 14 = .ok (.aload_n 0, 1) := by decide +kernel
theorem dX9_orderAt_15 : decode cX9_orderAt 15 = .ok (.iload_n 1, 1) := by decide +kernel
theorem dX9_orderAt_16 : decode cX9_orderAt 16 = .ok (.iload_n 2, 1) := by decide +kernel
theorem dX9_orderAt_17 : decode cX9_orderAt 17 = .ok (.invokevirtual 293, 3) := by decide +kernel
theorem dX9_orderAt_20 : decode cX9_orderAt 20 = .ok (.goto 4, 3) := by decide +kernel
theorem dX9_orderAt_23 : decode cX9_orderAt 23 = .ok (.iconst 0, 1) := by decide +kernel
theorem dX9_orderAt_24 : decode cX9_orderAt 24 = .ok (.ireturn, 1) := by decide +kernel
theorem dX9_tellThought_0 : decode cX9_tellThought 0 = .ok (.iload_n 1, 1) := by decide +kernel
theorem dX9_tellThought_1 : decode cX9_tellThought 1 = .ok (.ifCond .ne 10, 3) := by decide +kernel
theorem dX9_tellThought_4 : decode cX9_tellThought 4 = .ok (.aload_n 0, 1) := by decide +kernel
theorem dX9_tellThought_5 : decode cX9_tellThought 5 = .ok (.getfield 169, 3) := by decide +kernel
theorem dX9_tellThought_8 : decode cX9_tellThought 8 = .ok (.goto 42, 3) := by decide +kernel
theorem dX9_tellThought_11 : decode cX9_tellThought 11 = .ok (.iload_n 1, 1) := by decide +kernel
theorem dX9_tellThought_12 : decode cX9_tellThought 12 = .ok (.iconst 1, 1) := by decide +kernel
theorem dX9_tellThought_13 : decode cX9_tellThought 13 = .ok (.if_icmp .ne 10, 3) := by decide +kernel
theorem dX9_tellThought_16 : decode cX9_tellThought 16 = .ok (.aload_n 0, 1) := by decide +kernel
theorem dX9_tellThought_17 : decode cX9_tellThought 17 = .ok (.getfield 29, 3) := by decide +kernel
theorem dX9_tellThought_20 : decode cX9_tellThought 20 = .ok (.goto 30, 3) := by decide +kernel
theorem dX9_tellThought_23 : decode cX9_tellThought 23 = .ok (.iload_n 1, 1) := by decide +kernel
theorem dX9_tellThought_24 : decode cX9_tellThought 24 = .ok (.iconst 2, 1) := by decide +kernel
theorem dX9_tellThought_25 : decode cX9_tellThought 25 = .ok (.if_icmp .ne 10, 3) := by decide +kernel
theorem dX9_tellThought_28 : decode cX9_tellThought 28 = .ok (.aload_n 0, 1) := by decide +kernel
theorem dX9_tellThought_29 : decode cX9_tellThought 29 = .ok (.getfield 172, 3) := by decide +kernel
theorem dX9_tellThought_32 : decode cX9_tellThought 32 = .ok (.goto 18, 3) := by decide +kernel
theorem dX9_tellThought_35 : decode cX9_tellThought 35 = .ok (.aload_n 0, 1) := by decide +kernel
theorem dX9_tellThought_36 : decode cX9_tellThought 36 = .ok (.getfield 124, 3) := by decide +kernel
theorem dX9_tellThought_39 : decode cX9_tellThought 39 = .ok (.invokestatic 175, 3) := by decide +kernel
theorem dX9_tellThought_42 : decode cX9_tellThought 42 = .ok (.aload_n 0, 1) := by decide +kernel
theorem dX9_tellThought_43 : decode cX9_tellThought 43 = .ok (.getfield 270, 3) := by decide +kernel
theorem dX9_tellThought_46 : decode cX9_tellThought 46 = .ok (.invokestatic 175, 3) := by decide +kernel
theorem dX9_tellThought_49 : decode cX9_tellThought 49 = .ok (.isub, 1) := by decide +kernel
theorem dX9_tellThought_50 : decode cX9_tellThought 50 = .ok (.istore_n 2, 1) := by decide +kernel
theorem dX9_tellThought_51 : decode cX9_tellThought 51 = .ok (.aload_n 0, 1) := by decide +kernel
theorem dX9_tellThought_52 : decode cX9_tellThought 52 = .ok (.invokevirtual 296, 3) := by decide +kernel
theorem dX9_tellThought_55 : decode cX9_tellThought 55 = .ok (.iload_n 2, 1) := by decide +kernel
theorem dX9_tellThought_56 : decode cX9_tellThought 56 = .ok (.ireturn, 1) := by decide +kernel
theorem dX9_run_0 : decode cX9_run 0 = .ok (.iload_n 1, 1) := by decide +kernel
theorem dX9_run_1 : decode cX9_run 1 = .ok (.invokestatic 179, 3) := by decide +kernel
theorem dX9_run_4 : decode cX9_run 4 = .ok (.ifCond .eq 16, 3) := by decide +kernel
theorem dX9_run_7 : decode cX9_run 7 = .ok (.iload_n 2, 1) := by decide +kernel
theorem dX9_run_8 : decode cX9_run 8 = .ok (.ifCond .lt 12, 3) := by decide +kernel
theorem dX9_run_11 : decode cX9_run 11 = .ok (.iload_n 3, 1) := by decide +kernel
theorem dX9_run_12 : decode cX9_run 12 = .ok (.iconst 0, 1) := by decide +kernel
theorem dX9_run_13 : decode cX9_run 13 = .ok (.iconst 3, 1) := by decide +kernel
theorem dX9_run_14 : decode cX9_run 14 = .ok (.invokestatic 116, 3) := by decide +kernel
theorem dX9_run_17 : decode cX9_run 17 = .ok (.ifCond .ne 5, 3) := by decide +kernel
theorem dX9_run_20 : decode cX9_run 20 = .ok (.iconst (-1), 1) := by decide +kernel
theorem dX9_run_21 : decode cX9_run 21 = .ok (.ireturn, 1) := by decide +kernel
theorem dX9_run_22 : decode cX9_run 22 = .ok (.aload_n 0, 1) := by decide +kernel
theorem dX9_run_23 : decode cX9_run 23 = .ok (.iload_n 1, 1) := by decide +kernel
theorem dX9_run_24 : decode cX9_run 24 = .ok (.invokevirtual 299, 3) := by decide +kernel
theorem dX9_run_27 : decode cX9_run 27 = .ok (.ifCond .ge 9, 3) := by decide +kernel
theorem dX9_run_30 : decode cX9_run 30 = .ok (.aload_n 0, 1) := by decide +kernel
theorem dX9_run_31 : decode cX9_run 31 = .ok (.iload_n 1, 1) := by decide +kernel
theorem dX9_run_32 : decode cX9_run 32 = .ok (.invokevirtual 299, 3) := by decide +kernel
theorem dX9_run_35 : decode cX9_run 35 = .ok (.ireturn, 1) := by decide +kernel
theorem dX9_run_36 : decode cX9_run 36 = .ok (.iload_n 2, 1) := by decide +kernel
theorem dX9_run_37 : decode cX9_run 37 = .ok (.aload_n 0, 1) := by decide +kernel
theorem dX9_run_38 : decode cX9_run 38 = .ok (.getfield 103, 3) := by decide +kernel
theorem dX9_run_41 : decode cX9_run 41 = .ok (.iload_n 1, 1) := by decide +kernel
theorem dX9_run_42 : decode cX9_run 42 = .ok (.iaload, 1) := by decide +kernel
theorem dX9_run_43 : decode cX9_run 43 = .ok (.if_icmp .gt 14, 3) := by decide +kernel
theorem dX9_run_46 : decode cX9_run 46 = .ok (.iload_n 2, 1) := by decide +kernel
theorem dX9_run_47 : decode cX9_run 47 = .ok (.bipush 60, 2) := by decide +kernel
theorem dX9_run_49 : decode cX9_run 49 = .ok (.aload_n 0, 1) := by decide +kernel
theorem dX9_run_50 : decode cX9_run 50 = .ok (.getfield 166, 3) := by decide +kernel
theorem dX9_run_53 : decode cX9_run 53 = .ok (.isub, 1) := by decide +kernel
theorem dX9_run_54 : decode cX9_run 54 = .ok (.if_icmp .le 6, 3) := by decide +kernel
theorem dX9_run_57 : decode cX9_run 57 = .ok (.bipush (-5), 2) := by decide +kernel
theorem dX9_run_59 : decode cX9_run 59 = .ok (.ireturn, 1) := by decide +kernel
theorem dX9_run_60 : decode cX9_run 60 = .ok (.aload_n 0, 1) := by decide +kernel
theorem dX9_run_61 : decode cX9_run 61 = .ok (.invokevirtual 302, 3) := by decide +kernel
theorem dX9_run_64 : decode cX9_run 64 = .ok (.iconst 0, 1) := by decide +kernel
theorem dX9_run_65 : decode cX9_run 65 = .ok (.istore 4, 2) := by decide +kernel
theorem dX9_run_67 : decode cX9_run 67 = .ok (.iload 4, 2) := by decide +kernel
theorem dX9_run_69 : decode cX9_run 69 = .ok (.iload_n 2, 1) := by decide +kernel
theorem dX9_run_70 : decode cX9_run 70 = .ok (.if_icmp .ge 28, 3) := by decide +kernel
theorem dX9_run_73 : decode cX9_run 73 = .ok (.aload_n 0, 1) := by decide +kernel
theorem dX9_run_74 : decode cX9_run 74 = .ok (.aload_n 0, 1) := by decide +kernel
theorem dX9_run_75 : decode cX9_run 75 = .ok (.iload_n 1, 1) := by decide +kernel
theorem dX9_run_76 : decode cX9_run 76 = .ok (.iload 4, 2) := by decide +kernel
theorem dX9_run_78 : decode cX9_run 78 = .ok (.invokevirtual 305, 3) := by decide +kernel
theorem dX9_run_81 : decode cX9_run 81 = .ok (.aload_n 0, 1) := by decide +kernel
theorem dX9_run_82 : decode cX9_run 82 = .ok (.getfield 166, 3) := by decide +kernel
theorem dX9_run_85 : decode cX9_run 85 = .ok (.iload 4, 2) := by decide +kernel
theorem dX9_run_87 : decode cX9_run 87 = .ok (.iadd, 1) := by decide +kernel
theorem dX9_run_88 : decode cX9_run 88 = .ok (.invokevirtual 287, 3) := by decide +kernel
theorem dX9_run_91 : decode cX9_run 91 = .ok (.pop, 1) := by decide +kernel
theorem dX9_run_92 : decode cX9_run 92 = .ok (.iinc 4 1, 3) := by decide +kernel
theorem dX9_run_95 : decode cX9_run 95 = .ok (.goto (-28), 3) := by decide +kernel
theorem dX9_run_98 : decode cX9_run 98 = .ok (.aload_n 0, 1) := by decide +kernel
theorem dX9_run_99 : decode cX9_run 99 = .ok (.iload_n 3, 1) := by decide +kernel
theorem dX9_run_100 : decode cX9_run 100 = .ok (.invokevirtual 308, 3) := by decide +kernel
theorem dX9_run_103 : decode cX9_run 103 = .ok (.ireturn, 1) := by decide +kernel
theorem dX9_first_0 : decode cX9_first 0 = .ok (.iload_n 1, 1) := by decide +kernel
theorem dX9_first_1 : decode cX9_first 1 = .ok (.invokestatic 179, 3) := by decide +kernel
theorem dX9_first_4 : decode cX9_first 4 = .ok (.ifCond .ne 5, 3) := by decide +kernel
theorem dX9_first_7 : decode cX9_first 7 = .ok (.iconst (-1), 1) := by decide +kernel
theorem dX9_first_8 : decode cX9_first 8 = .ok (.ireturn, 1) := by decide +kernel
theorem dX9_first_9 : decode cX9_first 9 = .ok (.aload_n 0, 1) := by decide +kernel
theorem dX9_first_10 : decode cX9_first 10 = .ok (.iload_n 1, 1) := by decide +kernel
theorem dX9_first_11 : decode cX9_first 11 = .ok (.invokevirtual 299, 3) := by decide +kernel
theorem dX9_first_14 : decode cX9_first 14 = .ok (.ifCond .ge 9, 3) := by decide +kernel
theorem dX9_first_17 : decode cX9_first 17 = .ok (.aload_n 0, 1) := by decide +kernel
theorem dX9_first_18 : decode cX9_first 18 = .ok (.iload_n 1, 1) := by decide +kernel
theorem dX9_first_19 : decode cX9_first 19 = .ok (.invokevirtual 299, 3) := by decide +kernel
theorem dX9_first_22 : decode cX9_first 22 = .ok (.ireturn, 1) := by decide +kernel
theorem dX9_first_23 : decode cX9_first 23 = .ok (.aload_n 0, 1) := by decide +kernel
theorem dX9_first_24 : decode cX9_first 24 = .ok (.invokevirtual 302, 3) := by decide +kernel
theorem dX9_first_27 : decode cX9_first 27 = .ok (.bipush (-2), 2) := by decide +kernel
theorem dX9_first_29 : decode cX9_first 29 = .ok (.istore_n 2, 1) := by decide +kernel
theorem dX9_first_30 : decode cX9_first 30 = .ok (.iconst 0, 1) := by decide +kernel
theorem dX9_first_31 : decode cX9_first 31 = .ok (.istore_n 3, 1) := by decide +kernel
theorem dX9_first_32 : decode cX9_first 32 = .ok (.iload_n 3, 1) := by decide +kernel
theorem dX9_first_33 : decode cX9_first 33 = .ok (.aload_n 0, 1) := by decide +kernel
theorem dX9_first_34 : decode cX9_first 34 = .ok (.getfield 103, 3) := by decide +kernel
theorem dX9_first_37 : decode cX9_first 37 = .ok (.iload_n 1, 1) := by decide +kernel
theorem dX9_first_38 : decode cX9_first 38 = .ok (.iaload, 1) := by decide +kernel
theorem dX9_first_39 : decode cX9_first 39 = .ok (.if_icmp .ge 45, 3) := by decide +kernel
theorem dX9_first_42 : decode cX9_first 42 = .ok (.aload_n 0, 1) := by decide +kernel
theorem dX9_first_43 : decode cX9_first 43 = .ok (.getfield 166, 3) := by decide +kernel
theorem dX9_first_46 : decode cX9_first 46 = .ok (.iload_n 3, 1) := by decide +kernel
theorem dX9_first_47 : decode cX9_first 47 = .ok (.iadd, 1) := by decide +kernel
theorem dX9_first_48 : decode cX9_first 48 = .ok (.bipush 60, 2) := by decide +kernel
theorem dX9_first_50 : decode cX9_first 50 = .ok (.if_icmp .ge 34, 3) := by decide +kernel
theorem dX9_first_53 : decode cX9_first 53 = .ok (.iload_n 2, 1) := by decide +kernel
theorem dX9_first_54 : decode cX9_first 54 = .ok (.ifCond .ge 30, 3) := by decide +kernel
theorem dX9_first_57 : decode cX9_first 57 = .ok (.aload_n 0, 1) := by decide +kernel
theorem dX9_first_58 : decode cX9_first 58 = .ok (.aload_n 0, 1) := by decide +kernel
theorem dX9_first_59 : decode cX9_first 59 = .ok (.iload_n 1, 1) := by decide +kernel
theorem dX9_first_60 : decode cX9_first 60 = .ok (.iload_n 3, 1) := by decide +kernel
theorem dX9_first_61 : decode cX9_first 61 = .ok (.invokevirtual 305, 3) := by decide +kernel
theorem dX9_first_64 : decode cX9_first 64 = .ok (.aload_n 0, 1) := by decide +kernel
theorem dX9_first_65 : decode cX9_first 65 = .ok (.getfield 166, 3) := by decide +kernel
theorem dX9_first_68 : decode cX9_first 68 = .ok (.iload_n 3, 1) := by decide +kernel
theorem dX9_first_69 : decode cX9_first 69 = .ok (.iadd, 1) := by decide +kernel
theorem dX9_first_70 : decode cX9_first 70 = .ok (.invokevirtual 287, 3) := by decide +kernel
theorem dX9_first_73 : decode cX9_first 73 = .ok (.ifCond .ne 5, 3) := by decide +kernel
theorem dX9_first_76 : decode cX9_first 76 = .ok (.iload_n 3, 1) := by decide +kernel
theorem dX9_first_77 : decode cX9_first 77 = .ok (.istore_n 2, 1) := by decide +kernel
theorem dX9_first_78 : decode cX9_first 78 = .ok (.iinc 3 1, 3) := by decide +kernel
theorem dX9_first_81 : decode cX9_first 81 = .ok (.goto (-49), 3) := by decide +kernel
theorem dX9_first_84 : decode cX9_first 84 = .ok (.aload_n 0, 1) := by decide +kernel
theorem dX9_first_85 : decode cX9_first 85 = .ok (.invokevirtual 296, 3) := by decide +kernel
theorem dX9_first_88 : decode cX9_first 88 = .ok (.iload_n 2, 1) := by decide +kernel
theorem dX9_first_89 : decode cX9_first 89 = .ok (.ireturn, 1) := by decide +kernel
theorem dX9_lawful_0 : decode cX9_lawful 0 = .ok (.iload_n 1, 1) := by decide +kernel
theorem dX9_lawful_1 : decode cX9_lawful 1 = .ok (.iconst 0, 1) := by decide +kernel
theorem dX9_lawful_2 : decode cX9_lawful 2 = .ok (.bipush 60, 2) := by decide +kernel
theorem dX9_lawful_4 : decode cX9_lawful 4 = .ok (.invokestatic 116, 3) := by decide +kernel
theorem dX9_lawful_7 : decode cX9_lawful 7 = .ok (.ifCond .eq 12, 3) := by decide +kernel
theorem dX9_lawful_10 : decode cX9_lawful 10 = .ok (.iload_n 2, 1) := by decide +kernel
theorem dX9_lawful_11 : decode cX9_lawful 11 = .ok (.iconst 0, 1) := by decide +kernel
theorem dX9_lawful_12 : decode cX9_lawful 12 = .ok (.iconst 3, 1) := by decide +kernel
theorem dX9_lawful_13 : decode cX9_lawful 13 = .ok (.invokestatic 116, 3) := by decide +kernel
theorem dX9_lawful_16 : decode cX9_lawful 16 = .ok (.ifCond .ne 5, 3) := by decide +kernel
theorem dX9_lawful_19 : decode cX9_lawful 19 = .ok (.iconst (-1), 1) := by decide +kernel
theorem dX9_lawful_20 : decode cX9_lawful 20 = .ok (.ireturn, 1) := by decide +kernel
theorem dX9_lawful_21 : decode cX9_lawful 21 = .ok (.iload_n 1, 1) := by decide +kernel
theorem dX9_lawful_22 : decode cX9_lawful 22 = .ok (.bipush 60, 2) := by decide +kernel
theorem dX9_lawful_24 : decode cX9_lawful 24 = .ok (.aload_n 0, 1) := by decide +kernel
theorem dX9_lawful_25 : decode cX9_lawful 25 = .ok (.getfield 166, 3) := by decide +kernel
theorem dX9_lawful_28 : decode cX9_lawful 28 = .ok (.isub, 1) := by decide +kernel
theorem dX9_lawful_29 : decode cX9_lawful 29 = .ok (.if_icmp .le 6, 3) := by decide +kernel
theorem dX9_lawful_32 : decode cX9_lawful 32 = .ok (.bipush (-5), 2) := by decide +kernel
theorem dX9_lawful_34 : decode cX9_lawful 34 = .ok (.ireturn, 1) := by decide +kernel
theorem dX9_lawful_35 : decode cX9_lawful 35 = .ok (.aload_n 0, 1) := by decide +kernel
theorem dX9_lawful_36 : decode cX9_lawful 36 = .ok (.invokevirtual 302, 3) := by decide +kernel
theorem dX9_lawful_39 : decode cX9_lawful 39 = .ok (.iconst 0, 1) := by decide +kernel
theorem dX9_lawful_40 : decode cX9_lawful 40 = .ok (.istore_n 3, 1) := by decide +kernel
theorem dX9_lawful_41 : decode cX9_lawful 41 = .ok (.iload_n 3, 1) := by decide +kernel
theorem dX9_lawful_42 : decode cX9_lawful 42 = .ok (.iload_n 1, 1) := by decide +kernel
theorem dX9_lawful_43 : decode cX9_lawful 43 = .ok (.if_icmp .ge 30, 3) := by decide +kernel
theorem dX9_lawful_46 : decode cX9_lawful 46 = .ok (.aload_n 0, 1) := by decide +kernel
theorem dX9_lawful_47 : decode cX9_lawful 47 = .ok (.aload_n 0, 1) := by decide +kernel
theorem dX9_lawful_48 : decode cX9_lawful 48 = .ok (.aload_n 0, 1) := by decide +kernel
theorem dX9_lawful_49 : decode cX9_lawful 49 = .ok (.getfield 166, 3) := by decide +kernel
theorem dX9_lawful_52 : decode cX9_lawful 52 = .ok (.iload_n 3, 1) := by decide +kernel
theorem dX9_lawful_53 : decode cX9_lawful 53 = .ok (.iadd, 1) := by decide +kernel
theorem dX9_lawful_54 : decode cX9_lawful 54 = .ok (.invokevirtual 258, 3) := by decide +kernel
theorem dX9_lawful_57 : decode cX9_lawful 57 = .ok (.aload_n 0, 1) := by decide +kernel
theorem dX9_lawful_58 : decode cX9_lawful 58 = .ok (.getfield 166, 3) := by decide +kernel
theorem dX9_lawful_61 : decode cX9_lawful 61 = .ok (.iload_n 3, 1) := by decide +kernel
theorem dX9_lawful_62 : decode cX9_lawful 62 = .ok (.iadd, 1) := by decide +kernel
theorem dX9_lawful_63 : decode cX9_lawful 63 = .ok (.invokevirtual 287, 3) := by decide +kernel
theorem dX9_lawful_66 : decode cX9_lawful 66 = .ok (.pop, 1) := by decide +kernel
theorem dX9_lawful_67 : decode cX9_lawful 67 = .ok (.iinc 3 1, 3) := by decide +kernel
theorem dX9_lawful_70 : decode cX9_lawful 70 = .ok (.goto (-29), 3) := by decide +kernel
theorem dX9_lawful_73 : decode cX9_lawful 73 = .ok (.aload_n 0, 1) := by decide +kernel
theorem dX9_lawful_74 : decode cX9_lawful 74 = .ok (.iload_n 2, 1) := by decide +kernel
theorem dX9_lawful_75 : decode cX9_lawful 75 = .ok (.invokevirtual 308, 3) := by decide +kernel
theorem dX9_lawful_78 : decode cX9_lawful 78 = .ok (.ireturn, 1) := by decide +kernel
theorem dX9_findFar_0 : decode cX9_findFar 0 = .ok (.iconst 0, 1) := by decide +kernel
theorem dX9_findFar_1 : decode cX9_findFar 1 = .ok (.istore_n 2, 1) := by decide +kernel
theorem dX9_findFar_2 : decode cX9_findFar 2 = .ok (.iload_n 2, 1) := by decide +kernel
theorem dX9_findFar_3 : decode cX9_findFar 3 = .ok (.bipush 36, 2) := by decide +kernel
theorem dX9_findFar_5 : decode cX9_findFar 5 = .ok (.if_icmp .ge 27, 3) := by decide +kernel
theorem dX9_findFar_8 : decode cX9_findFar 8 = .ok (.aload_n 0, 1) := by decide +kernel
theorem dX9_findFar_9 : decode cX9_findFar 9 = .ok (.getfield 76, 3) := by decide +kernel
theorem dX9_findFar_12 : decode cX9_findFar 12 = .ok (.iload_n 2, 1) := by decide +kernel
theorem dX9_findFar_13 : decode cX9_findFar 13 = .ok (.iload_n 2, 1) := by decide +kernel
theorem dX9_findFar_14 : decode cX9_findFar 14 = .ok (.iload_n 1, 1) := by decide +kernel
theorem dX9_findFar_15 : decode cX9_findFar 15 = .ok (.if_icmp .ne 7, 3) := by decide +kernel
theorem dX9_findFar_18 : decode cX9_findFar 18 = .ok (.iconst 0, 1) := by decide +kernel
theorem dX9_findFar_19 : decode cX9_findFar 19 = .ok (.goto 6, 3) := by decide +kernel
theorem dX9_findFar_22 : decode cX9_findFar 22 = .ok (.ldc_w 311, 3) := by decide +kernel
theorem dX9_findFar_25 : decode cX9_findFar 25 = .ok (.iastore, 1) := by decide +kernel
theorem dX9_findFar_26 : decode cX9_findFar 26 = .ok (.iinc 2 1, 3) := by decide +kernel
theorem dX9_findFar_29 : decode cX9_findFar 29 = .ok (.goto (-27), 3) := by decide +kernel
theorem dX9_findFar_32 : decode cX9_findFar 32 = .ok (.iconst 1, 1) := by decide +kernel
theorem dX9_findFar_33 : decode cX9_findFar 33 = .ok (.istore_n 2, 1) := by decide +kernel
theorem dX9_findFar_34 : decode cX9_findFar 34 = .ok (.iload_n 2, 1) := by decide +kernel
theorem dX9_findFar_35 : decode cX9_findFar 35 = .ok (.ifCond .eq 113, 3) := by decide +kernel
theorem dX9_findFar_38 : decode cX9_findFar 38 = .ok (.iconst 0, 1) := by decide +kernel
theorem dX9_findFar_39 : decode cX9_findFar 39 = .ok (.istore_n 2, 1) := by decide +kernel
theorem dX9_findFar_40 : decode cX9_findFar 40 = .ok (.iconst 0, 1) := by decide +kernel
theorem dX9_findFar_41 : decode cX9_findFar 41 = .ok (.istore_n 3, 1) := by decide +kernel
theorem dX9_findFar_42 : decode cX9_findFar 42 = .ok (.iload_n 3, 1) := by decide +kernel
theorem dX9_findFar_43 : decode cX9_findFar 43 = .ok (.bipush 36, 2) := by decide +kernel
theorem dX9_findFar_45 : decode cX9_findFar 45 = .ok (.if_icmp .ge 100, 3) := by decide +kernel
theorem dX9_findFar_48 : decode cX9_findFar 48 = .ok (.iconst 1, 1) := by decide +kernel
theorem dX9_findFar_49 : decode cX9_findFar 49 = .ok (.istore 4, 2) := by decide +kernel
theorem dX9_findFar_51 : decode cX9_findFar 51 = .ok (.iload 4, 2) := by decide +kernel
theorem dX9_findFar_53 : decode cX9_findFar 53 = .ok (.iconst 4, 1) := by decide +kernel
theorem dX9_findFar_54 : decode cX9_findFar 54 = .ok (.if_icmp .gt 85, 3) := by decide +kernel
theorem dX9_findFar_57 : decode cX9_findFar 57 = .ok (.iload_n 3, 1) := by decide +kernel
theorem dX9_findFar_58 : decode cX9_findFar 58 = .ok (.iload 4, 2) := by decide +kernel
theorem dX9_findFar_60 : decode cX9_findFar 60 = .ok (.invokestatic 120, 3) := by decide +kernel
theorem dX9_findFar_63 : decode cX9_findFar 63 = .ok (.istore 5, 2) := by decide +kernel
theorem dX9_findFar_65 : decode cX9_findFar 65 = .ok (.iload 5, 2) := by decide +kernel
theorem dX9_findFar_67 : decode cX9_findFar 67 = .ok (.ifCond .lt 66, 3) := by decide +kernel
theorem dX9_findFar_70 : decode cX9_findFar 70 = .ok (.aload_n 0, 1) := by decide +kernel
theorem dX9_findFar_71 : decode cX9_findFar 71 = .ok (.getfield 76, 3) := by decide +kernel
theorem dX9_findFar_74 : decode cX9_findFar 74 = .ok (.iload 5, 2) := by decide +kernel
theorem dX9_findFar_76 : decode cX9_findFar 76 = .ok (.iaload, 1) := by decide +kernel
theorem dX9_findFar_77 : decode cX9_findFar 77 = .ok (.ldc_w 311, 3) := by decide +kernel
theorem dX9_findFar_80 : decode cX9_findFar 80 = .ok (.if_icmp .eq 53, 3) := by decide +kernel
theorem dX9_findFar_83 : decode cX9_findFar 83 = .ok (.aload_n 0, 1) := by decide +kernel
theorem dX9_findFar_84 : decode cX9_findFar 84 = .ok (.getfield 76, 3) := by decide +kernel
theorem dX9_findFar_87 : decode cX9_findFar 87 = .ok (.iload 5, 2) := by decide +kernel
theorem dX9_findFar_89 : decode cX9_findFar 89 = .ok (.iaload, 1) := by decide +kernel
theorem dX9_findFar_90 : decode cX9_findFar 90 = .ok (.aload_n 0, 1) := by decide +kernel
theorem dX9_findFar_91 : decode cX9_findFar 91 = .ok (.iload_n 3, 1) := by decide +kernel
theorem dX9_findFar_92 : decode cX9_findFar 92 = .ok (.iload 4, 2) := by decide +kernel
theorem dX9_findFar_94 : decode cX9_findFar 94 = .ok (.invokevirtual 255, 3) := by decide +kernel
theorem dX9_findFar_97 : decode cX9_findFar 97 = .ok (.iadd, 1) := by decide +kernel
theorem dX9_findFar_98 : decode cX9_findFar 98 = .ok (.aload_n 0, 1) := by decide +kernel
theorem dX9_findFar_99 : decode cX9_findFar 99 = .ok (.getfield 76, 3) := by decide +kernel
theorem dX9_findFar_102 : decode cX9_findFar 102 = .ok (.iload_n 3, 1) := by decide +kernel
theorem dX9_findFar_103 : decode cX9_findFar 103 = .ok (.iaload, 1) := by decide +kernel
theorem dX9_findFar_104 : decode cX9_findFar 104 = .ok (.if_icmp .lt 6, 3) := by decide +kernel
theorem dX9_findFar_107 : decode cX9_findFar 107 = .ok (.goto 26, 3) := by decide +kernel
theorem dX9_findFar_110 : decode cX9_findFar 110 = .ok (.aload_n 0, 1) := by decide +kernel
theorem dX9_findFar_111 : decode cX9_findFar 111 = .ok (.getfield 76, 3) := by decide +kernel
theorem dX9_findFar_114 : decode cX9_findFar 114 = .ok (.iload_n 3, 1) := by decide +kernel
theorem dX9_findFar_115 : decode cX9_findFar 115 = .ok (.aload_n 0, 1) := by decide +kernel
theorem dX9_findFar_116 : decode cX9_findFar 116 = .ok (.getfield 76, 3) := by decide +kernel
theorem dX9_findFar_119 : decode cX9_findFar 119 = .ok (.iload 5, 2) := by decide +kernel
theorem dX9_findFar_121 : decode cX9_findFar 121 = .ok (.iaload, 1) := by decide +kernel
theorem dX9_findFar_122 : decode cX9_findFar 122 = .ok (.aload_n 0, 1) := by decide +kernel
theorem dX9_findFar_123 : decode cX9_findFar 123 = .ok (.iload_n 3, 1) := by decide +kernel
theorem dX9_findFar_124 : decode cX9_findFar 124 = .ok (.iload 4, 2) := by decide +kernel
theorem dX9_findFar_126 : decode cX9_findFar 126 = .ok (.invokevirtual 255, 3) := by decide +kernel
theorem dX9_findFar_129 : decode cX9_findFar 129 = .ok (.iadd, 1) := by decide +kernel
theorem dX9_findFar_130 : decode cX9_findFar 130 = .ok (.iastore, 1) := by decide +kernel
theorem dX9_findFar_131 : decode cX9_findFar 131 = .ok (.iconst 1, 1) := by decide +kernel
theorem dX9_findFar_132 : decode cX9_findFar 132 = .ok (.istore_n 2, 1) := by decide +kernel
theorem dX9_findFar_133 : decode cX9_findFar 133 = .ok (.iinc 4 1, 3) := by decide +kernel
theorem dX9_findFar_136 : decode cX9_findFar 136 = .ok (.goto (-85), 3) := by decide +kernel
theorem dX9_findFar_139 : decode cX9_findFar 139 = .ok (.iinc 3 1, 3) := by decide +kernel
theorem dX9_findFar_142 : decode cX9_findFar 142 = .ok (.goto (-100), 3) := by decide +kernel
theorem dX9_findFar_145 : decode cX9_findFar 145 = .ok (.goto (-111), 3) := by decide +kernel
theorem dX9_findFar_148 : decode cX9_findFar 148 = .ok (.return_, 1) := by decide +kernel
theorem dX9_cheapest_0 : decode cX9_cheapest 0 = .ok (.iload_n 1, 1) := by decide +kernel
theorem dX9_cheapest_1 : decode cX9_cheapest 1 = .ok (.ifCond .lt 32, 3) := by decide +kernel
theorem dX9_cheapest_4 : decode cX9_cheapest 4 = .ok (.iload_n 1, 1) := by decide +kernel
theorem dX9_cheapest_5 : decode cX9_cheapest 5 = .ok (.bipush 100, 2) := by decide +kernel
theorem dX9_cheapest_7 : decode cX9_cheapest 7 = .ok (.idiv, 1) := by decide +kernel
theorem dX9_cheapest_8 : decode cX9_cheapest 8 = .ok (.invokestatic 141, 3) := by decide +kernel
theorem dX9_cheapest_11 : decode cX9_cheapest 11 = .ok (.ifCond .eq 22, 3) := by decide +kernel
theorem dX9_cheapest_14 : decode cX9_cheapest 14 = .ok (.iload_n 1, 1) := by decide +kernel
theorem dX9_cheapest_15 : decode cX9_cheapest 15 = .ok (.bipush 100, 2) := by decide +kernel
theorem dX9_cheapest_17 : decode cX9_cheapest 17 = .ok (.irem, 1) := by decide +kernel
theorem dX9_cheapest_18 : decode cX9_cheapest 18 = .ok (.invokestatic 141, 3) := by decide +kernel
theorem dX9_cheapest_21 : decode cX9_cheapest 21 = .ok (.ifCond .eq 12, 3) := by decide +kernel
theorem dX9_cheapest_24 : decode cX9_cheapest 24 = .ok (.iload_n 2, 1) := by decide +kernel
theorem dX9_cheapest_25 : decode cX9_cheapest 25 = .ok (.iconst 0, 1) := by decide +kernel
theorem dX9_cheapest_26 : decode cX9_cheapest 26 = .ok (.iconst 1, 1) := by decide +kernel
theorem dX9_cheapest_27 : decode cX9_cheapest 27 = .ok (.invokestatic 116, 3) := by decide +kernel
theorem dX9_cheapest_30 : decode cX9_cheapest 30 = .ok (.ifCond .ne 5, 3) := by decide +kernel
theorem dX9_cheapest_33 : decode cX9_cheapest 33 = .ok (.iconst (-1), 1) := by decide +kernel
theorem dX9_cheapest_34 : decode cX9_cheapest 34 = .ok (.ireturn, 1) := by decide +kernel
theorem dX9_cheapest_35 : decode cX9_cheapest 35 = .ok (.aload_n 0, 1) := by decide +kernel
theorem dX9_cheapest_36 : decode cX9_cheapest 36 = .ok (.iload_n 1, 1) := by decide +kernel
theorem dX9_cheapest_37 : decode cX9_cheapest 37 = .ok (.bipush 100, 2) := by decide +kernel
theorem dX9_cheapest_39 : decode cX9_cheapest 39 = .ok (.irem, 1) := by decide +kernel
theorem dX9_cheapest_40 : decode cX9_cheapest 40 = .ok (.invokevirtual 312, 3) := by decide +kernel
theorem dX9_cheapest_43 : decode cX9_cheapest 43 = .ok (.iload_n 1, 1) := by decide +kernel
theorem dX9_cheapest_44 : decode cX9_cheapest 44 = .ok (.bipush 100, 2) := by decide +kernel
theorem dX9_cheapest_46 : decode cX9_cheapest 46 = .ok (.idiv, 1) := by decide +kernel
theorem dX9_cheapest_47 : decode cX9_cheapest 47 = .ok (.istore_n 3, 1) := by decide +kernel
theorem dX9_cheapest_48 : decode cX9_cheapest 48 = .ok (.iload_n 2, 1) := by decide +kernel
theorem dX9_cheapest_49 : decode cX9_cheapest 49 = .ok (.ifCond .ne 10, 3) := by decide +kernel
theorem dX9_cheapest_52 : decode cX9_cheapest 52 = .ok (.aload_n 0, 1) := by decide +kernel
theorem dX9_cheapest_53 : decode cX9_cheapest 53 = .ok (.getfield 76, 3) := by decide +kernel
theorem dX9_cheapest_56 : decode cX9_cheapest 56 = .ok (.iload_n 3, 1) := by decide +kernel
theorem dX9_cheapest_57 : decode cX9_cheapest 57 = .ok (.iaload, 1) := by decide +kernel
theorem dX9_cheapest_58 : decode cX9_cheapest 58 = .ok (.ireturn, 1) := by decide +kernel
theorem dX9_cheapest_59 : decode cX9_cheapest 59 = .ok (.iload_n 3, 1) := by decide +kernel
theorem dX9_cheapest_60 : decode cX9_cheapest 60 = .ok (.iload_n 1, 1) := by decide +kernel
theorem dX9_cheapest_61 : decode cX9_cheapest 61 = .ok (.bipush 100, 2) := by decide +kernel
theorem dX9_cheapest_63 : decode cX9_cheapest 63 = .ok (.irem, 1) := by decide +kernel
theorem dX9_cheapest_64 : decode cX9_cheapest 64 = .ok (.if_icmp .ne 6, 3) := by decide +kernel
theorem dX9_cheapest_67 : decode cX9_cheapest 67 = .ok (.bipush (-2), 2) := by decide +kernel
theorem dX9_cheapest_69 : decode cX9_cheapest 69 = .ok (.ireturn, 1) := by decide +kernel
theorem dX9_cheapest_70 : decode cX9_cheapest 70 = .ok (.iconst 1, 1) := by decide +kernel
theorem dX9_cheapest_71 : decode cX9_cheapest 71 = .ok (.istore 4, 2) := by decide +kernel
theorem dX9_cheapest_73 : decode cX9_cheapest 73 = .ok (.iload_n 3, 1) := by decide +kernel
theorem dX9_cheapest_74 : decode cX9_cheapest 74 = .ok (.iload 4, 2) := by decide +kernel
theorem dX9_cheapest_76 : decode cX9_cheapest 76 = .ok (.invokestatic 120, 3) := by decide +kernel
theorem dX9_cheapest_79 : decode cX9_cheapest 79 = .ok (.ifCond .lt 31, 3) := by decide +kernel
theorem dX9_cheapest_82 : decode cX9_cheapest 82 = .ok (.aload_n 0, 1) := by decide +kernel
theorem dX9_cheapest_83 : decode cX9_cheapest 83 = .ok (.getfield 76, 3) := by decide +kernel
theorem dX9_cheapest_86 : decode cX9_cheapest 86 = .ok (.iload_n 3, 1) := by decide +kernel
theorem dX9_cheapest_87 : decode cX9_cheapest 87 = .ok (.iload 4, 2) := by decide +kernel
theorem dX9_cheapest_89 : decode cX9_cheapest 89 = .ok (.invokestatic 120, 3) := by decide +kernel
theorem dX9_cheapest_92 : decode cX9_cheapest 92 = .ok (.iaload, 1) := by decide +kernel
theorem dX9_cheapest_93 : decode cX9_cheapest 93 = .ok (.aload_n 0, 1) := by decide +kernel
theorem dX9_cheapest_94 : decode cX9_cheapest 94 = .ok (.iload_n 3, 1) := by decide +kernel
theorem dX9_cheapest_95 : decode cX9_cheapest 95 = .ok (.iload 4, 2) := by decide +kernel
theorem dX9_cheapest_97 : decode cX9_cheapest 97 = .ok (.invokevirtual 255, 3) := by decide +kernel
theorem dX9_cheapest_100 : decode cX9_cheapest 100 = .ok (.iadd, 1) := by decide +kernel
theorem dX9_cheapest_101 : decode cX9_cheapest 101 = .ok (.aload_n 0, 1) := by decide +kernel
theorem dX9_cheapest_102 : decode cX9_cheapest 102 = .ok (.getfield 76, 3) := by decide +kernel
theorem dX9_cheapest_105 : decode cX9_cheapest 105 = .ok (.iload_n 3, 1) := by decide +kernel
theorem dX9_cheapest_106 : decode cX9_cheapest 106 = .ok (.iaload, 1) := by decide +kernel
theorem dX9_cheapest_107 : decode cX9_cheapest 107 = .ok (.if_icmp .eq 9, 3) := by decide +kernel
theorem dX9_cheapest_110 : decode cX9_cheapest 110 = .ok (.iinc 4 1, 3) := by decide +kernel
theorem dX9_cheapest_113 : decode cX9_cheapest 113 = .ok (.goto (-40), 3) := by decide +kernel
theorem dX9_cheapest_116 : decode cX9_cheapest 116 = .ok (.iload_n 3, 1) := by decide +kernel
theorem dX9_cheapest_117 : decode cX9_cheapest 117 = .ok (.iload 4, 2) := by decide +kernel
theorem dX9_cheapest_119 : decode cX9_cheapest 119 = .ok (.invokestatic 120, 3) := by decide +kernel
theorem dX9_cheapest_122 : decode cX9_cheapest 122 = .ok (.ireturn, 1) := by decide +kernel
theorem dX9_come_0 : decode cX9_come 0 = .ok (.aload_n 0, 1) := by decide +kernel
theorem dX9_come_1 : decode cX9_come 1 = .ok (.iload_n 1, 1) := by decide +kernel
theorem dX9_come_2 : decode cX9_come 2 = .ok (.invokevirtual 160, 3) := by decide +kernel
theorem dX9_come_5 : decode cX9_come 5 = .ok (.istore 5, 2) := by decide +kernel
theorem dX9_come_7 : decode cX9_come 7 = .ok (.bipush 10, 2) := by decide +kernel
theorem dX9_come_9 : decode cX9_come 9 = .ok (.iload_n 1, 1) := by decide +kernel
theorem dX9_come_10 : decode cX9_come 10 = .ok (.imul, 1) := by decide +kernel
theorem dX9_come_11 : decode cX9_come 11 = .ok (.iload_n 3, 1) := by decide +kernel
theorem dX9_come_12 : decode cX9_come 12 = .ok (.iload 4, 2) := by decide +kernel
theorem dX9_come_14 : decode cX9_come 14 = .ok (.aload_n 0, 1) := by decide +kernel
theorem dX9_come_15 : decode cX9_come 15 = .ok (.getfield 19, 3) := by decide +kernel
theorem dX9_come_18 : decode cX9_come 18 = .ok (.iload 4, 2) := by decide +kernel
theorem dX9_come_20 : decode cX9_come 20 = .ok (.iaload, 1) := by decide +kernel
theorem dX9_come_21 : decode cX9_come 21 = .ok (.iload 5, 2) := by decide +kernel
theorem dX9_come_23 : decode cX9_come 23 = .ok (.invokestatic 280, 3) := by decide +kernel
theorem dX9_come_26 : decode cX9_come 26 = .ok (.iadd, 1) := by decide +kernel
theorem dX9_come_27 : decode cX9_come 27 = .ok (.istore 6, 2) := by decide +kernel
theorem dX9_come_29 : decode cX9_come 29 = .ok (.iload_n 2, 1) := by decide +kernel
theorem dX9_come_30 : decode cX9_come 30 = .ok (.aload_n 0, 1) := by decide +kernel
theorem dX9_come_31 : decode cX9_come 31 = .ok (.getfield 16, 3) := by decide +kernel
theorem dX9_come_34 : decode cX9_come 34 = .ok (.iload 4, 2) := by decide +kernel
theorem dX9_come_36 : decode cX9_come 36 = .ok (.iaload, 1) := by decide +kernel
theorem dX9_come_37 : decode cX9_come 37 = .ok (.iload_n 3, 1) := by decide +kernel
theorem dX9_come_38 : decode cX9_come 38 = .ok (.iload 5, 2) := by decide +kernel
theorem dX9_come_40 : decode cX9_come 40 = .ok (.invokestatic 276, 3) := by decide +kernel
theorem dX9_come_43 : decode cX9_come 43 = .ok (.istore 7, 2) := by decide +kernel
theorem dX9_come_45 : decode cX9_come 45 = .ok (.iload 7, 2) := by decide +kernel
theorem dX9_come_47 : decode cX9_come 47 = .ok (.aload_n 0, 1) := by decide +kernel
theorem dX9_come_48 : decode cX9_come 48 = .ok (.getfield 82, 3) := by decide +kernel
theorem dX9_come_51 : decode cX9_come 51 = .ok (.iload 6, 2) := by decide +kernel
theorem dX9_come_53 : decode cX9_come 53 = .ok (.iaload, 1) := by decide +kernel
theorem dX9_come_54 : decode cX9_come 54 = .ok (.if_icmp .le 12, 3) := by decide +kernel
theorem dX9_come_57 : decode cX9_come 57 = .ok (.aload_n 0, 1) := by decide +kernel
theorem dX9_come_58 : decode cX9_come 58 = .ok (.getfield 82, 3) := by decide +kernel
theorem dX9_come_61 : decode cX9_come 61 = .ok (.iload 6, 2) := by decide +kernel
theorem dX9_come_63 : decode cX9_come 63 = .ok (.iload 7, 2) := by decide +kernel
theorem dX9_come_65 : decode cX9_come 65 = .ok (.iastore, 1) := by decide +kernel
theorem dX9_come_66 : decode cX9_come 66 = .ok (.return_, 1) := by decide +kernel
theorem dX9_goOn_0 : decode cX9_goOn 0 = .ok (.iconst 0, 1) := by decide +kernel
theorem dX9_goOn_1 : decode cX9_goOn 1 = .ok (.istore_n 2, 1) := by decide +kernel
theorem dX9_goOn_2 : decode cX9_goOn 2 = .ok (.iload_n 2, 1) := by decide +kernel
theorem dX9_goOn_3 : decode cX9_goOn 3 = .ok (.sipush 360, 3) := by decide +kernel
theorem dX9_goOn_6 : decode cX9_goOn 6 = .ok (.if_icmp .ge 16, 3) := by decide +kernel
theorem dX9_goOn_9 : decode cX9_goOn 9 = .ok (.aload_n 0, 1) := by decide +kernel
theorem dX9_goOn_10 : decode cX9_goOn 10 = .ok (.getfield 82, 3) := by decide +kernel
theorem dX9_goOn_13 : decode cX9_goOn 13 = .ok (.iload_n 2, 1) := by decide +kernel
theorem dX9_goOn_14 : decode cX9_goOn 14 = .ok (.iconst (-1), 1) := by decide +kernel
theorem dX9_goOn_15 : decode cX9_goOn 15 = .ok (.iastore, 1) := by decide +kernel
theorem dX9_goOn_16 : decode cX9_goOn 16 = .ok (.iinc 2 1, 3) := by decide +kernel
theorem dX9_goOn_19 : decode cX9_goOn 19 = .ok (.goto (-17), 3) := by decide +kernel
theorem dX9_goOn_22 : decode cX9_goOn 22 = .ok (.iconst 0, 1) := by decide +kernel
theorem dX9_goOn_23 : decode cX9_goOn 23 = .ok (.istore_n 2, 1) := by decide +kernel
theorem dX9_goOn_24 : decode cX9_goOn 24 = .ok (.iload_n 2, 1) := by decide +kernel
theorem dX9_goOn_25 : decode cX9_goOn 25 = .ok (.sipush 360, 3) := by decide +kernel
theorem dX9_goOn_28 : decode cX9_goOn 28 = .ok (.if_icmp .ge 111, 3) := by decide +kernel
theorem dX9_goOn_31 : decode cX9_goOn 31 = .ok (.aload_n 0, 1) := by decide +kernel
theorem dX9_goOn_32 : decode cX9_goOn 32 = .ok (.getfield 79, 3) := by decide +kernel
theorem dX9_goOn_35 : decode cX9_goOn 35 = .ok (.iload_n 2, 1) := by decide +kernel
theorem dX9_goOn_36 : decode cX9_goOn 36 = .ok (.iaload, 1) := by decide +kernel
theorem dX9_goOn_37 : decode cX9_goOn 37 = .ok (.ifCond .ge 6, 3) := by decide +kernel
theorem dX9_goOn_40 : decode cX9_goOn 40 = .ok (.goto 93, 3) := by decide +kernel
theorem dX9_goOn_43 : decode cX9_goOn 43 = .ok (.iload_n 2, 1) := by decide +kernel
theorem dX9_goOn_44 : decode cX9_goOn 44 = .ok (.bipush 10, 2) := by decide +kernel
theorem dX9_goOn_46 : decode cX9_goOn 46 = .ok (.idiv, 1) := by decide +kernel
theorem dX9_goOn_47 : decode cX9_goOn 47 = .ok (.istore_n 3, 1) := by decide +kernel
theorem dX9_goOn_48 : decode cX9_goOn 48 = .ok (.aload_n 0, 1) := by decide +kernel
theorem dX9_goOn_49 : decode cX9_goOn 49 = .ok (.iload_n 3, 1) := by decide +kernel
theorem dX9_goOn_50 : decode cX9_goOn 50 = .ok (.aload_n 0, 1) := by decide +kernel
theorem dX9_goOn_51 : decode cX9_goOn 51 = .ok (.getfield 79, 3) := by decide +kernel
theorem dX9_goOn_54 : decode cX9_goOn 54 = .ok (.iload_n 2, 1) := by decide +kernel
theorem dX9_goOn_55 : decode cX9_goOn 55 = .ok (.iaload, 1) := by decide +kernel
theorem dX9_goOn_56 : decode cX9_goOn 56 = .ok (.iload_n 2, 1) := by decide +kernel
theorem dX9_goOn_57 : decode cX9_goOn 57 = .ok (.bipush 10, 2) := by decide +kernel
theorem dX9_goOn_59 : decode cX9_goOn 59 = .ok (.irem, 1) := by decide +kernel
theorem dX9_goOn_60 : decode cX9_goOn 60 = .ok (.iload_n 1, 1) := by decide +kernel
theorem dX9_goOn_61 : decode cX9_goOn 61 = .ok (.invokevirtual 316, 3) := by decide +kernel
theorem dX9_goOn_64 : decode cX9_goOn 64 = .ok (.iconst 1, 1) := by decide +kernel
theorem dX9_goOn_65 : decode cX9_goOn 65 = .ok (.istore 4, 2) := by decide +kernel
theorem dX9_goOn_67 : decode cX9_goOn 67 = .ok (.iload 4, 2) := by decide +kernel
theorem dX9_goOn_69 : decode cX9_goOn 69 = .ok (.iconst 4, 1) := by decide +kernel
theorem dX9_goOn_70 : decode cX9_goOn 70 = .ok (.if_icmp .gt 63, 3) := by decide +kernel
theorem dX9_goOn_73 : decode cX9_goOn 73 = .ok (.iload_n 3, 1) := by decide +kernel
theorem dX9_goOn_74 : decode cX9_goOn 74 = .ok (.iload 4, 2) := by decide +kernel
theorem dX9_goOn_76 : decode cX9_goOn 76 = .ok (.invokestatic 120, 3) := by decide +kernel
theorem dX9_goOn_79 : decode cX9_goOn 79 = .ok (.ifCond .lt 48, 3) := by decide +kernel
theorem dX9_goOn_82 : decode cX9_goOn 82 = .ok (.aload_n 0, 1) := by decide +kernel
theorem dX9_goOn_83 : decode cX9_goOn 83 = .ok (.getfield 79, 3) := by decide +kernel
theorem dX9_goOn_86 : decode cX9_goOn 86 = .ok (.iload_n 2, 1) := by decide +kernel
theorem dX9_goOn_87 : decode cX9_goOn 87 = .ok (.iaload, 1) := by decide +kernel
theorem dX9_goOn_88 : decode cX9_goOn 88 = .ok (.aload_n 0, 1) := by decide +kernel
theorem dX9_goOn_89 : decode cX9_goOn 89 = .ok (.iload_n 3, 1) := by decide +kernel
theorem dX9_goOn_90 : decode cX9_goOn 90 = .ok (.iload 4, 2) := by decide +kernel
theorem dX9_goOn_92 : decode cX9_goOn 92 = .ok (.invokevirtual 255, 3) := by decide +kernel
theorem dX9_goOn_95 : decode cX9_goOn 95 = .ok (.if_icmp .lt 32, 3) := by decide +kernel
theorem dX9_goOn_98 : decode cX9_goOn 98 = .ok (.aload_n 0, 1) := by decide +kernel
theorem dX9_goOn_99 : decode cX9_goOn 99 = .ok (.iload_n 3, 1) := by decide +kernel
theorem dX9_goOn_100 : decode cX9_goOn 100 = .ok (.iload 4, 2) := by decide +kernel
theorem dX9_goOn_102 : decode cX9_goOn 102 = .ok (.invokestatic 120, 3) := by decide +kernel
theorem dX9_goOn_105 : decode cX9_goOn 105 = .ok (.aload_n 0, 1) := by decide +kernel
theorem dX9_goOn_106 : decode cX9_goOn 106 = .ok (.getfield 79, 3) := by decide +kernel
theorem dX9_goOn_109 : decode cX9_goOn 109 = .ok (.iload_n 2, 1) := by decide +kernel
theorem dX9_goOn_110 : decode cX9_goOn 110 = .ok (.iaload, 1) := by decide +kernel
theorem dX9_goOn_111 : decode cX9_goOn 111 = .ok (.aload_n 0, 1) := by decide +kernel
theorem dX9_goOn_112 : decode cX9_goOn 112 = .ok (.iload_n 3, 1) := by decide +kernel
theorem dX9_goOn_113 : decode cX9_goOn 113 = .ok (.iload 4, 2) := by decide +kernel
theorem dX9_goOn_115 : decode cX9_goOn 115 = .ok (.invokevirtual 255, 3) := by decide +kernel
theorem dX9_goOn_118 : decode cX9_goOn 118 = .ok (.isub, 1) := by decide +kernel
theorem dX9_goOn_119 : decode cX9_goOn 119 = .ok (.iload_n 2, 1) := by decide +kernel
theorem dX9_goOn_120 : decode cX9_goOn 120 = .ok (.bipush 10, 2) := by decide +kernel
theorem dX9_goOn_122 : decode cX9_goOn 122 = .ok (.irem, 1) := by decide +kernel
theorem dX9_goOn_123 : decode cX9_goOn 123 = .ok (.iload_n 1, 1) := by decide +kernel
theorem dX9_goOn_124 : decode cX9_goOn 124 = .ok (.invokevirtual 316, 3) := by decide +kernel
theorem dX9_goOn_127 : decode cX9_goOn 127 = .ok (.iinc 4 1, 3) := by decide +kernel
theorem dX9_goOn_130 : decode cX9_goOn 130 = .ok (.goto (-63), 3) := by decide +kernel
theorem dX9_goOn_133 : decode cX9_goOn 133 = .ok (.iinc 2 1, 3) := by decide +kernel
theorem dX9_goOn_136 : decode cX9_goOn 136 = .ok (.goto (-112), 3) := by decide +kernel
theorem dX9_goOn_139 : decode cX9_goOn 139 = .ok (.iconst 0, 1) := by decide +kernel
theorem dX9_goOn_140 : decode cX9_goOn 140 = .ok (.istore_n 2, 1) := by decide +kernel
theorem dX9_goOn_141 : decode cX9_goOn 141 = .ok (.iload_n 2, 1) := by decide +kernel
theorem dX9_goOn_142 : decode cX9_goOn 142 = .ok (.sipush 360, 3) := by decide +kernel
theorem dX9_goOn_145 : decode cX9_goOn 145 = .ok (.if_icmp .ge 21, 3) := by decide +kernel
theorem dX9_goOn_148 : decode cX9_goOn 148 = .ok (.aload_n 0, 1) := by decide +kernel
theorem dX9_goOn_149 : decode cX9_goOn 149 = .ok (.getfield 79, 3) := by decide +kernel
theorem dX9_goOn_152 : decode cX9_goOn 152 = .ok (.iload_n 2, 1) := by decide +kernel
theorem dX9_goOn_153 : decode cX9_goOn 153 = .ok (.aload_n 0, 1) := by decide +kernel
theorem dX9_goOn_154 : decode cX9_goOn 154 = .ok (.getfield 82, 3) := by decide +kernel
theorem dX9_goOn_157 : decode cX9_goOn 157 = .ok (.iload_n 2, 1) := by decide +kernel
theorem dX9_goOn_158 : decode cX9_goOn 158 = .ok (.iaload, 1) := by decide +kernel
theorem dX9_goOn_159 : decode cX9_goOn 159 = .ok (.iastore, 1) := by decide +kernel
theorem dX9_goOn_160 : decode cX9_goOn 160 = .ok (.iinc 2 1, 3) := by decide +kernel
theorem dX9_goOn_163 : decode cX9_goOn 163 = .ok (.goto (-22), 3) := by decide +kernel
theorem dX9_goOn_166 : decode cX9_goOn 166 = .ok (.return_, 1) := by decide +kernel
theorem dX9_mostIn_0 : decode cX9_mostIn 0 = .ok (.iconst (-1), 1) := by decide +kernel
theorem dX9_mostIn_1 : decode cX9_mostIn 1 = .ok (.istore_n 2, 1) := by decide +kernel
theorem dX9_mostIn_2 : decode cX9_mostIn 2 = .ok (.iconst 0, 1) := by decide +kernel
theorem dX9_mostIn_3 : decode cX9_mostIn 3 = .ok (.istore_n 3, 1) := by decide +kernel
theorem dX9_mostIn_4 : decode cX9_mostIn 4 = .ok (.iload_n 3, 1) := by decide +kernel
theorem dX9_mostIn_5 : decode cX9_mostIn 5 = .ok (.bipush 10, 2) := by decide +kernel
theorem dX9_mostIn_7 : decode cX9_mostIn 7 = .ok (.if_icmp .ge 36, 3) := by decide +kernel
theorem dX9_mostIn_10 : decode cX9_mostIn 10 = .ok (.aload_n 0, 1) := by decide +kernel
theorem dX9_mostIn_11 : decode cX9_mostIn 11 = .ok (.getfield 79, 3) := by decide +kernel
theorem dX9_mostIn_14 : decode cX9_mostIn 14 = .ok (.bipush 10, 2) := by decide +kernel
theorem dX9_mostIn_16 : decode cX9_mostIn 16 = .ok (.iload_n 1, 1) := by decide +kernel
theorem dX9_mostIn_17 : decode cX9_mostIn 17 = .ok (.imul, 1) := by decide +kernel
theorem dX9_mostIn_18 : decode cX9_mostIn 18 = .ok (.iload_n 3, 1) := by decide +kernel
theorem dX9_mostIn_19 : decode cX9_mostIn 19 = .ok (.iadd, 1) := by decide +kernel
theorem dX9_mostIn_20 : decode cX9_mostIn 20 = .ok (.iaload, 1) := by decide +kernel
theorem dX9_mostIn_21 : decode cX9_mostIn 21 = .ok (.iload_n 2, 1) := by decide +kernel
theorem dX9_mostIn_22 : decode cX9_mostIn 22 = .ok (.if_icmp .le 15, 3) := by decide +kernel
theorem dX9_mostIn_25 : decode cX9_mostIn 25 = .ok (.aload_n 0, 1) := by decide +kernel
theorem dX9_mostIn_26 : decode cX9_mostIn 26 = .ok (.getfield 79, 3) := by decide +kernel
theorem dX9_mostIn_29 : decode cX9_mostIn 29 = .ok (.bipush 10, 2) := by decide +kernel
theorem dX9_mostIn_31 : decode cX9_mostIn 31 = .ok (.iload_n 1, 1) := by decide +kernel
theorem dX9_mostIn_32 : decode cX9_mostIn 32 = .ok (.imul, 1) := by decide +kernel
theorem dX9_mostIn_33 : decode cX9_mostIn 33 = .ok (.iload_n 3, 1) := by decide +kernel
theorem dX9_mostIn_34 : decode cX9_mostIn 34 = .ok (.iadd, 1) := by decide +kernel
theorem dX9_mostIn_35 : decode cX9_mostIn 35 = .ok (.iaload, 1) := by decide +kernel
theorem dX9_mostIn_36 : decode cX9_mostIn 36 = .ok (.istore_n 2, 1) := by decide +kernel
theorem dX9_mostIn_37 : decode cX9_mostIn 37 = .ok (.iinc 3 1, 3) := by decide +kernel
theorem dX9_mostIn_40 : decode cX9_mostIn 40 = .ok (.goto (-36), 3) := by decide +kernel
theorem dX9_mostIn_43 : decode cX9_mostIn 43 = .ok (.iload_n 2, 1) := by decide +kernel
theorem dX9_mostIn_44 : decode cX9_mostIn 44 = .ok (.ireturn, 1) := by decide +kernel
theorem dX9_soonest_0 : decode cX9_soonest 0 = .ok (.iload_n 1, 1) := by decide +kernel
theorem dX9_soonest_1 : decode cX9_soonest 1 = .ok (.invokestatic 141, 3) := by decide +kernel
theorem dX9_soonest_4 : decode cX9_soonest 4 = .ok (.ifCond .eq 12, 3) := by decide +kernel
theorem dX9_soonest_7 : decode cX9_soonest 7 = .ok (.iload_n 2, 1) := by decide +kernel
theorem dX9_soonest_8 : decode cX9_soonest 8 = .ok (.iconst 0, 1) := by decide +kernel
theorem dX9_soonest_9 : decode cX9_soonest 9 = .ok (.iconst 1, 1) := by decide +kernel
theorem dX9_soonest_10 : decode cX9_soonest 10 = .ok (.invokestatic 116, 3) := by decide +kernel
theorem dX9_soonest_13 : decode cX9_soonest 13 = .ok (.ifCond .ne 5, 3) := by decide +kernel
theorem dX9_soonest_16 : decode cX9_soonest 16 = .ok (.iconst (-1), 1) := by decide +kernel
theorem dX9_soonest_17 : decode cX9_soonest 17 = .ok (.ireturn, 1) := by decide +kernel
theorem dX9_soonest_18 : decode cX9_soonest 18 = .ok (.iconst 0, 1) := by decide +kernel
theorem dX9_soonest_19 : decode cX9_soonest 19 = .ok (.istore_n 3, 1) := by decide +kernel
theorem dX9_soonest_20 : decode cX9_soonest 20 = .ok (.iload_n 3, 1) := by decide +kernel
theorem dX9_soonest_21 : decode cX9_soonest 21 = .ok (.sipush 360, 3) := by decide +kernel
theorem dX9_soonest_24 : decode cX9_soonest 24 = .ok (.if_icmp .ge 16, 3) := by decide +kernel
theorem dX9_soonest_27 : decode cX9_soonest 27 = .ok (.aload_n 0, 1) := by decide +kernel
theorem dX9_soonest_28 : decode cX9_soonest 28 = .ok (.getfield 79, 3) := by decide +kernel
theorem dX9_soonest_31 : decode cX9_soonest 31 = .ok (.iload_n 3, 1) := by decide +kernel
theorem dX9_soonest_32 : decode cX9_soonest 32 = .ok (.iconst (-1), 1) := by decide +kernel
theorem dX9_soonest_33 : decode cX9_soonest 33 = .ok (.iastore, 1) := by decide +kernel
theorem dX9_soonest_34 : decode cX9_soonest 34 = .ok (.iinc 3 1, 3) := by decide +kernel
theorem dX9_soonest_37 : decode cX9_soonest 37 = .ok (.goto (-17), 3) := by decide +kernel
theorem dX9_soonest_40 : decode cX9_soonest 40 = .ok (.aload_n 0, 1) := by decide +kernel
theorem dX9_soonest_41 : decode cX9_soonest 41 = .ok (.getfield 79, 3) := by decide +kernel
theorem dX9_soonest_44 : decode cX9_soonest 44 = .ok (.bipush 10, 2) := by decide +kernel
theorem dX9_soonest_46 : decode cX9_soonest 46 = .ok (.aload_n 0, 1) := by decide +kernel
theorem dX9_soonest_47 : decode cX9_soonest 47 = .ok (.getfield 169, 3) := by decide +kernel
theorem dX9_soonest_50 : decode cX9_soonest 50 = .ok (.imul, 1) := by decide +kernel
theorem dX9_soonest_51 : decode cX9_soonest 51 = .ok (.aload_n 0, 1) := by decide +kernel
theorem dX9_soonest_52 : decode cX9_soonest 52 = .ok (.getfield 172, 3) := by decide +kernel
theorem dX9_soonest_55 : decode cX9_soonest 55 = .ok (.iadd, 1) := by decide +kernel
theorem dX9_soonest_56 : decode cX9_soonest 56 = .ok (.aload_n 0, 1) := by decide +kernel
theorem dX9_soonest_57 : decode cX9_soonest 57 = .ok (.getfield 29, 3) := by decide +kernel
theorem dX9_soonest_60 : decode cX9_soonest 60 = .ok (.iastore, 1) := by decide +kernel
theorem dX9_soonest_61 : decode cX9_soonest 61 = .ok (.iconst 0, 1) := by decide +kernel
theorem dX9_soonest_62 : decode cX9_soonest 62 = .ok (.istore_n 3, 1) := by decide +kernel
theorem dX9_soonest_63 : decode cX9_soonest 63 = .ok (.iload_n 3, 1) := by decide +kernel
theorem dX9_soonest_64 : decode cX9_soonest 64 = .ok (.bipush 20, 2) := by decide +kernel
theorem dX9_soonest_66 : decode cX9_soonest 66 = .ok (.if_icmp .gt 55, 3) := by decide +kernel
theorem dX9_soonest_69 : decode cX9_soonest 69 = .ok (.aload_n 0, 1) := by decide +kernel
theorem dX9_soonest_70 : decode cX9_soonest 70 = .ok (.iload_n 1, 1) := by decide +kernel
theorem dX9_soonest_71 : decode cX9_soonest 71 = .ok (.invokevirtual 320, 3) := by decide +kernel
theorem dX9_soonest_74 : decode cX9_soonest 74 = .ok (.ifCond .lt 17, 3) := by decide +kernel
theorem dX9_soonest_77 : decode cX9_soonest 77 = .ok (.iload_n 2, 1) := by decide +kernel
theorem dX9_soonest_78 : decode cX9_soonest 78 = .ok (.ifCond .ne 7, 3) := by decide +kernel
theorem dX9_soonest_81 : decode cX9_soonest 81 = .ok (.iload_n 3, 1) := by decide +kernel
theorem dX9_soonest_82 : decode cX9_soonest 82 = .ok (.goto 8, 3) := by decide +kernel
theorem dX9_soonest_85 : decode cX9_soonest 85 = .ok (.aload_n 0, 1) := by decide +kernel
theorem dX9_soonest_86 : decode cX9_soonest 86 = .ok (.iload_n 1, 1) := by decide +kernel
theorem dX9_soonest_87 : decode cX9_soonest 87 = .ok (.invokevirtual 320, 3) := by decide +kernel
theorem dX9_soonest_90 : decode cX9_soonest 90 = .ok (.ireturn, 1) := by decide +kernel
theorem dX9_soonest_91 : decode cX9_soonest 91 = .ok (.aload_n 0, 1) := by decide +kernel
theorem dX9_soonest_92 : decode cX9_soonest 92 = .ok (.getfield 166, 3) := by decide +kernel
theorem dX9_soonest_95 : decode cX9_soonest 95 = .ok (.iload_n 3, 1) := by decide +kernel
theorem dX9_soonest_96 : decode cX9_soonest 96 = .ok (.iadd, 1) := by decide +kernel
theorem dX9_soonest_97 : decode cX9_soonest 97 = .ok (.bipush 60, 2) := by decide +kernel
theorem dX9_soonest_99 : decode cX9_soonest 99 = .ok (.if_icmp .lt 6, 3) := by decide +kernel
theorem dX9_soonest_102 : decode cX9_soonest 102 = .ok (.bipush (-2), 2) := by decide +kernel
theorem dX9_soonest_104 : decode cX9_soonest 104 = .ok (.ireturn, 1) := by decide +kernel
theorem dX9_soonest_105 : decode cX9_soonest 105 = .ok (.aload_n 0, 1) := by decide +kernel
theorem dX9_soonest_106 : decode cX9_soonest 106 = .ok (.aload_n 0, 1) := by decide +kernel
theorem dX9_soonest_107 : decode cX9_soonest 107 = .ok (.getfield 166, 3) := by decide +kernel
theorem dX9_soonest_110 : decode cX9_soonest 110 = .ok (.iload_n 3, 1) := by decide +kernel
theorem dX9_soonest_111 : decode cX9_soonest 111 = .ok (.iadd, 1) := by decide +kernel
theorem dX9_soonest_112 : decode cX9_soonest 112 = .ok (.invokevirtual 323, 3) := by decide +kernel
theorem dX9_soonest_115 : decode cX9_soonest 115 = .ok (.iinc 3 1, 3) := by decide +kernel
theorem dX9_soonest_118 : decode cX9_soonest 118 = .ok (.goto (-55), 3) := by decide +kernel
theorem dX9_soonest_121 : decode cX9_soonest 121 = .ok (.bipush (-2), 2) := by decide +kernel
theorem dX9_soonest_123 : decode cX9_soonest 123 = .ok (.ireturn, 1) := by decide +kernel
theorem dX9_toNorth_0 : decode cX9_toNorth 0 = .ok (.ldc_w 311, 3) := by decide +kernel
theorem dX9_toNorth_3 : decode cX9_toNorth 3 = .ok (.istore_n 2, 1) := by decide +kernel
theorem dX9_toNorth_4 : decode cX9_toNorth 4 = .ok (.iconst 0, 1) := by decide +kernel
theorem dX9_toNorth_5 : decode cX9_toNorth 5 = .ok (.istore_n 3, 1) := by decide +kernel
theorem dX9_toNorth_6 : decode cX9_toNorth 6 = .ok (.iload_n 3, 1) := by decide +kernel
theorem dX9_toNorth_7 : decode cX9_toNorth 7 = .ok (.bipush 6, 2) := by decide +kernel
theorem dX9_toNorth_9 : decode cX9_toNorth 9 = .ok (.if_icmp .ge 31, 3) := by decide +kernel
theorem dX9_toNorth_12 : decode cX9_toNorth 12 = .ok (.aload_n 0, 1) := by decide +kernel
theorem dX9_toNorth_13 : decode cX9_toNorth 13 = .ok (.iload_n 3, 1) := by decide +kernel
theorem dX9_toNorth_14 : decode cX9_toNorth 14 = .ok (.invokevirtual 312, 3) := by decide +kernel
theorem dX9_toNorth_17 : decode cX9_toNorth 17 = .ok (.aload_n 0, 1) := by decide +kernel
theorem dX9_toNorth_18 : decode cX9_toNorth 18 = .ok (.getfield 76, 3) := by decide +kernel
theorem dX9_toNorth_21 : decode cX9_toNorth 21 = .ok (.iload_n 1, 1) := by decide +kernel
theorem dX9_toNorth_22 : decode cX9_toNorth 22 = .ok (.iaload, 1) := by decide +kernel
theorem dX9_toNorth_23 : decode cX9_toNorth 23 = .ok (.iload_n 2, 1) := by decide +kernel
theorem dX9_toNorth_24 : decode cX9_toNorth 24 = .ok (.if_icmp .ge 10, 3) := by decide +kernel
theorem dX9_toNorth_27 : decode cX9_toNorth 27 = .ok (.aload_n 0, 1) := by decide +kernel
theorem dX9_toNorth_28 : decode cX9_toNorth 28 = .ok (.getfield 76, 3) := by decide +kernel
theorem dX9_toNorth_31 : decode cX9_toNorth 31 = .ok (.iload_n 1, 1) := by decide +kernel
theorem dX9_toNorth_32 : decode cX9_toNorth 32 = .ok (.iaload, 1) := by decide +kernel
theorem dX9_toNorth_33 : decode cX9_toNorth 33 = .ok (.istore_n 2, 1) := by decide +kernel
theorem dX9_toNorth_34 : decode cX9_toNorth 34 = .ok (.iinc 3 1, 3) := by decide +kernel
theorem dX9_toNorth_37 : decode cX9_toNorth 37 = .ok (.goto (-31), 3) := by decide +kernel
theorem dX9_toNorth_40 : decode cX9_toNorth 40 = .ok (.iload_n 2, 1) := by decide +kernel
theorem dX9_toNorth_41 : decode cX9_toNorth 41 = .ok (.ireturn, 1) := by decide +kernel
theorem dX9_goRound_0 : decode cX9_goRound 0 = .ok (.iload_n 2, 1) := by decide +kernel
theorem dX9_goRound_1 : decode cX9_goRound 1 = .ok (.iconst 1, 1) := by decide +kernel
theorem dX9_goRound_2 : decode cX9_goRound 2 = .ok (.iload_n 1, 1) := by decide +kernel
theorem dX9_goRound_3 : decode cX9_goRound 3 = .ok (.ishl, 1) := by decide +kernel
theorem dX9_goRound_4 : decode cX9_goRound 4 = .ok (.iconst 1, 1) := by decide +kernel
theorem dX9_goRound_5 : decode cX9_goRound 5 = .ok (.isub, 1) := by decide +kernel
theorem dX9_goRound_6 : decode cX9_goRound 6 = .ok (.if_icmp .ne 55, 3) := by decide +kernel
theorem dX9_goRound_9 : decode cX9_goRound 9 = .ok (.iload 4, 2) := by decide +kernel
theorem dX9_goRound_11 : decode cX9_goRound 11 = .ok (.aload_n 0, 1) := by decide +kernel
theorem dX9_goRound_12 : decode cX9_goRound 12 = .ok (.getfield 91, 3) := by decide +kernel
theorem dX9_goRound_15 : decode cX9_goRound 15 = .ok (.iload_n 3, 1) := by decide +kernel
theorem dX9_goRound_16 : decode cX9_goRound 16 = .ok (.iaload, 1) := by decide +kernel
theorem dX9_goRound_17 : decode cX9_goRound 17 = .ok (.iadd, 1) := by decide +kernel
theorem dX9_goRound_18 : decode cX9_goRound 18 = .ok (.istore 6, 2) := by decide +kernel
theorem dX9_goRound_20 : decode cX9_goRound 20 = .ok (.iload 6, 2) := by decide +kernel
theorem dX9_goRound_22 : decode cX9_goRound 22 = .ok (.aload_n 0, 1) := by decide +kernel
theorem dX9_goRound_23 : decode cX9_goRound 23 = .ok (.getfield 326, 3) := by decide +kernel
theorem dX9_goRound_26 : decode cX9_goRound 26 = .ok (.if_icmp .gt 21, 3) := by decide +kernel
theorem dX9_goRound_29 : decode cX9_goRound 29 = .ok (.iload 6, 2) := by decide +kernel
theorem dX9_goRound_31 : decode cX9_goRound 31 = .ok (.aload_n 0, 1) := by decide +kernel
theorem dX9_goRound_32 : decode cX9_goRound 32 = .ok (.getfield 326, 3) := by decide +kernel
end
section
theorem dX9_goRound_35 : decode cX9_goRound 35 = .ok (.if_icmp .ne 13, 3) := by decide +kernel
theorem dX9_goRound_38 : decode cX9_goRound 38 = .ok (.iload 5, 2) := by decide +kernel
theorem dX9_goRound_40 : decode cX9_goRound 40 = .ok (.aload_n 0, 1) := by decide +kernel
theorem dX9_goRound_41 : decode cX9_goRound 41 = .ok (.getfield 329, 3) := by decide +kernel
theorem dX9_goRound_44 : decode cX9_goRound 44 = .ok (.if_icmp .le 4, 3) := by decide +kernel
theorem dX9_goRound_47 : decode cX9_goRound 47 = .ok (.return_, 1) := by decide +kernel
theorem dX9_goRound_48 : decode cX9_goRound 48 = .ok (.aload_n 0, 1) := by decide +kernel
theorem dX9_goRound_49 : decode cX9_goRound 49 = .ok (.iload 6, 2) := by decide +kernel
theorem dX9_goRound_51 : decode cX9_goRound 51 = .ok (.putfield 326, 3) := by decide +kernel
theorem dX9_goRound_54 : decode cX9_goRound 54 = .ok (.aload_n 0, 1) := by decide +kernel
theorem dX9_goRound_55 : decode cX9_goRound 55 = .ok (.iload 5, 2) := by decide +kernel
theorem dX9_goRound_57 : decode cX9_goRound 57 = .ok (.putfield 329, 3) := by decide +kernel
theorem dX9_goRound_60 : decode cX9_goRound 60 = .ok (.return_, 1) := by decide +kernel
theorem dX9_goRound_61 : decode cX9_goRound 61 = .ok (.iconst 0, 1) := by decide +kernel
theorem dX9_goRound_62 : decode cX9_goRound 62 = .ok (.istore 6, 2) := by decide +kernel
theorem dX9_goRound_64 : decode cX9_goRound 64 = .ok (.iload 6, 2) := by decide +kernel
theorem dX9_goRound_66 : decode cX9_goRound 66 = .ok (.iload_n 1, 1) := by decide +kernel
theorem dX9_goRound_67 : decode cX9_goRound 67 = .ok (.if_icmp .ge 70, 3) := by decide +kernel
theorem dX9_goRound_70 : decode cX9_goRound 70 = .ok (.iload_n 2, 1) := by decide +kernel
theorem dX9_goRound_71 : decode cX9_goRound 71 = .ok (.iload 6, 2) := by decide +kernel
theorem dX9_goRound_73 : decode cX9_goRound 73 = .ok (.ishr, 1) := by decide +kernel
theorem dX9_goRound_74 : decode cX9_goRound 74 = .ok (.iconst 1, 1) := by decide +kernel
theorem dX9_goRound_75 : decode cX9_goRound 75 = .ok (.iand, 1) := by decide +kernel
theorem dX9_goRound_76 : decode cX9_goRound 76 = .ok (.ifCond .ne 55, 3) := by decide +kernel
theorem dX9_goRound_79 : decode cX9_goRound 79 = .ok (.aload_n 0, 1) := by decide +kernel
theorem dX9_goRound_80 : decode cX9_goRound 80 = .ok (.iload_n 1, 1) := by decide +kernel
theorem dX9_goRound_81 : decode cX9_goRound 81 = .ok (.iload_n 2, 1) := by decide +kernel
theorem dX9_goRound_82 : decode cX9_goRound 82 = .ok (.iconst 1, 1) := by decide +kernel
theorem dX9_goRound_83 : decode cX9_goRound 83 = .ok (.iload 6, 2) := by decide +kernel
theorem dX9_goRound_85 : decode cX9_goRound 85 = .ok (.ishl, 1) := by decide +kernel
theorem dX9_goRound_86 : decode cX9_goRound 86 = .ok (.ior, 1) := by decide +kernel
theorem dX9_goRound_87 : decode cX9_goRound 87 = .ok (.iload 6, 2) := by decide +kernel
theorem dX9_goRound_89 : decode cX9_goRound 89 = .ok (.iload 4, 2) := by decide +kernel
theorem dX9_goRound_91 : decode cX9_goRound 91 = .ok (.aload_n 0, 1) := by decide +kernel
theorem dX9_goRound_92 : decode cX9_goRound 92 = .ok (.getfield 88, 3) := by decide +kernel
theorem dX9_goRound_95 : decode cX9_goRound 95 = .ok (.iconst 5, 1) := by decide +kernel
theorem dX9_goRound_96 : decode cX9_goRound 96 = .ok (.iload_n 3, 1) := by decide +kernel
theorem dX9_goRound_97 : decode cX9_goRound 97 = .ok (.ifCond .ge 7, 3) := by decide +kernel
theorem dX9_goRound_100 : decode cX9_goRound 100 = .ok (.iconst 5, 1) := by decide +kernel
theorem dX9_goRound_101 : decode cX9_goRound 101 = .ok (.goto 4, 3) := by decide +kernel
theorem dX9_goRound_104 : decode cX9_goRound 104 = .ok (.iload_n 3, 1) := by decide +kernel
theorem dX9_goRound_105 : decode cX9_goRound 105 = .ok (.imul, 1) := by decide +kernel
theorem dX9_goRound_106 : decode cX9_goRound 106 = .ok (.iload 6, 2) := by decide +kernel
theorem dX9_goRound_108 : decode cX9_goRound 108 = .ok (.iadd, 1) := by decide +kernel
theorem dX9_goRound_109 : decode cX9_goRound 109 = .ok (.iaload, 1) := by decide +kernel
theorem dX9_goRound_110 : decode cX9_goRound 110 = .ok (.iadd, 1) := by decide +kernel
theorem dX9_goRound_111 : decode cX9_goRound 111 = .ok (.iload 5, 2) := by decide +kernel
theorem dX9_goRound_113 : decode cX9_goRound 113 = .ok (.ifCond .ge 13, 3) := by decide +kernel
theorem dX9_goRound_116 : decode cX9_goRound 116 = .ok (.aload_n 0, 1) := by decide +kernel
theorem dX9_goRound_117 : decode cX9_goRound 117 = .ok (.getfield 85, 3) := by decide +kernel
theorem dX9_goRound_120 : decode cX9_goRound 120 = .ok (.iload 6, 2) := by decide +kernel
theorem dX9_goRound_122 : decode cX9_goRound 122 = .ok (.iaload, 1) := by decide +kernel
theorem dX9_goRound_123 : decode cX9_goRound 123 = .ok (.goto 5, 3) := by decide +kernel
theorem dX9_goRound_126 : decode cX9_goRound 126 = .ok (.iload 5, 2) := by decide +kernel
theorem dX9_goRound_128 : decode cX9_goRound 128 = .ok (.invokevirtual 332, 3) := by decide +kernel
theorem dX9_goRound_131 : decode cX9_goRound 131 = .ok (.iinc 6 1, 3) := by decide +kernel
theorem dX9_goRound_134 : decode cX9_goRound 134 = .ok (.goto (-70), 3) := by decide +kernel
theorem dX9_goRound_137 : decode cX9_goRound 137 = .ok (.return_, 1) := by decide +kernel
theorem dX9_round_0 : decode cX9_round 0 = .ok (.iload_n 1, 1) := by decide +kernel
theorem dX9_round_1 : decode cX9_round 1 = .ok (.iconst 0, 1) := by decide +kernel
theorem dX9_round_2 : decode cX9_round 2 = .ok (.iconst 1, 1) := by decide +kernel
theorem dX9_round_3 : decode cX9_round 3 = .ok (.invokestatic 116, 3) := by decide +kernel
theorem dX9_round_6 : decode cX9_round 6 = .ok (.ifCond .ne 5, 3) := by decide +kernel
theorem dX9_round_9 : decode cX9_round 9 = .ok (.iconst (-1), 1) := by decide +kernel
theorem dX9_round_10 : decode cX9_round 10 = .ok (.ireturn, 1) := by decide +kernel
theorem dX9_round_11 : decode cX9_round 11 = .ok (.iconst 0, 1) := by decide +kernel
theorem dX9_round_12 : decode cX9_round 12 = .ok (.istore_n 2, 1) := by decide +kernel
theorem dX9_round_13 : decode cX9_round 13 = .ok (.iconst 0, 1) := by decide +kernel
theorem dX9_round_14 : decode cX9_round 14 = .ok (.istore_n 3, 1) := by decide +kernel
theorem dX9_round_15 : decode cX9_round 15 = .ok (.iload_n 3, 1) := by decide +kernel
theorem dX9_round_16 : decode cX9_round 16 = .ok (.bipush 36, 2) := by decide +kernel
theorem dX9_round_18 : decode cX9_round 18 = .ok (.if_icmp .ge 47, 3) := by decide +kernel
theorem dX9_round_21 : decode cX9_round 21 = .ok (.aload_n 0, 1) := by decide +kernel
theorem dX9_round_22 : decode cX9_round 22 = .ok (.getfield 13, 3) := by decide +kernel
theorem dX9_round_25 : decode cX9_round 25 = .ok (.iload_n 3, 1) := by decide +kernel
theorem dX9_round_26 : decode cX9_round 26 = .ok (.iaload, 1) := by decide +kernel
theorem dX9_round_27 : decode cX9_round 27 = .ok (.ifCond .eq 32, 3) := by decide +kernel
theorem dX9_round_30 : decode cX9_round 30 = .ok (.aload_n 0, 1) := by decide +kernel
theorem dX9_round_31 : decode cX9_round 31 = .ok (.iload_n 3, 1) := by decide +kernel
theorem dX9_round_32 : decode cX9_round 32 = .ok (.invokevirtual 163, 3) := by decide +kernel
theorem dX9_round_35 : decode cX9_round 35 = .ok (.ifCond .eq 6, 3) := by decide +kernel
theorem dX9_round_38 : decode cX9_round 38 = .ok (.goto 21, 3) := by decide +kernel
theorem dX9_round_41 : decode cX9_round 41 = .ok (.iload_n 2, 1) := by decide +kernel
theorem dX9_round_42 : decode cX9_round 42 = .ok (.iconst 5, 1) := by decide +kernel
theorem dX9_round_43 : decode cX9_round 43 = .ok (.if_icmp .ne 6, 3) := by decide +kernel
theorem dX9_round_46 : decode cX9_round 46 = .ok (.bipush (-5), 2) := by decide +kernel
theorem dX9_round_48 : decode cX9_round 48 = .ok (.ireturn, 1) := by decide +kernel
theorem dX9_round_49 : decode cX9_round 49 = .ok (.aload_n 0, 1) := by decide +kernel
theorem dX9_round_50 : decode cX9_round 50 = .ok (.getfield 85, 3) := by decide +kernel
theorem dX9_round_53 : decode cX9_round 53 = .ok (.iload_n 2, 1) := by decide +kernel
theorem dX9_round_54 : decode cX9_round 54 = .ok (.iload_n 3, 1) := by decide +kernel
theorem dX9_round_55 : decode cX9_round 55 = .ok (.iastore, 1) := by decide +kernel
theorem dX9_round_56 : decode cX9_round 56 = .ok (.iinc 2 1, 3) := by decide +kernel
theorem dX9_round_59 : decode cX9_round 59 = .ok (.iinc 3 1, 3) := by decide +kernel
theorem dX9_round_62 : decode cX9_round 62 = .ok (.goto (-47), 3) := by decide +kernel
theorem dX9_round_65 : decode cX9_round 65 = .ok (.iload_n 2, 1) := by decide +kernel
theorem dX9_round_66 : decode cX9_round 66 = .ok (.ifCond .ne 21, 3) := by decide +kernel
theorem dX9_round_69 : decode cX9_round 69 = .ok (.iload_n 1, 1) := by decide +kernel
theorem dX9_round_70 : decode cX9_round 70 = .ok (.ifCond .ne 14, 3) := by decide +kernel
theorem dX9_round_73 : decode cX9_round 73 = .ok (.aload_n 0, 1) := by decide +kernel
theorem dX9_round_74 : decode cX9_round 74 = .ok (.aload_n 0, 1) := by decide +kernel
theorem dX9_round_75 : decode cX9_round 75 = .ok (.getfield 169, 3) := by decide +kernel
theorem dX9_round_78 : decode cX9_round 78 = .ok (.invokevirtual 336, 3) := by decide +kernel
theorem dX9_round_81 : decode cX9_round 81 = .ok (.goto 5, 3) := by decide +kernel
theorem dX9_round_84 : decode cX9_round 84 = .ok (.bipush (-2), 2) := by decide +kernel
theorem dX9_round_86 : decode cX9_round 86 = .ok (.ireturn, 1) := by decide +kernel
theorem dX9_round_87 : decode cX9_round 87 = .ok (.iconst 0, 1) := by decide +kernel
theorem dX9_round_88 : decode cX9_round 88 = .ok (.istore_n 3, 1) := by decide +kernel
theorem dX9_round_89 : decode cX9_round 89 = .ok (.iload_n 3, 1) := by decide +kernel
theorem dX9_round_90 : decode cX9_round 90 = .ok (.iload_n 2, 1) := by decide +kernel
theorem dX9_round_91 : decode cX9_round 91 = .ok (.if_icmp .ge 75, 3) := by decide +kernel
theorem dX9_round_94 : decode cX9_round 94 = .ok (.aload_n 0, 1) := by decide +kernel
theorem dX9_round_95 : decode cX9_round 95 = .ok (.aload_n 0, 1) := by decide +kernel
theorem dX9_round_96 : decode cX9_round 96 = .ok (.getfield 85, 3) := by decide +kernel
theorem dX9_round_99 : decode cX9_round 99 = .ok (.iload_n 3, 1) := by decide +kernel
theorem dX9_round_100 : decode cX9_round 100 = .ok (.iaload, 1) := by decide +kernel
theorem dX9_round_101 : decode cX9_round 101 = .ok (.invokevirtual 312, 3) := by decide +kernel
theorem dX9_round_104 : decode cX9_round 104 = .ok (.iconst 0, 1) := by decide +kernel
theorem dX9_round_105 : decode cX9_round 105 = .ok (.istore 4, 2) := by decide +kernel
theorem dX9_round_107 : decode cX9_round 107 = .ok (.iload 4, 2) := by decide +kernel
theorem dX9_round_109 : decode cX9_round 109 = .ok (.iload_n 2, 1) := by decide +kernel
theorem dX9_round_110 : decode cX9_round 110 = .ok (.if_icmp .ge 32, 3) := by decide +kernel
theorem dX9_round_113 : decode cX9_round 113 = .ok (.aload_n 0, 1) := by decide +kernel
theorem dX9_round_114 : decode cX9_round 114 = .ok (.getfield 88, 3) := by decide +kernel
theorem dX9_round_117 : decode cX9_round 117 = .ok (.iconst 5, 1) := by decide +kernel
theorem dX9_round_118 : decode cX9_round 118 = .ok (.iload 4, 2) := by decide +kernel
theorem dX9_round_120 : decode cX9_round 120 = .ok (.imul, 1) := by decide +kernel
theorem dX9_round_121 : decode cX9_round 121 = .ok (.iload_n 3, 1) := by decide +kernel
theorem dX9_round_122 : decode cX9_round 122 = .ok (.iadd, 1) := by decide +kernel
theorem dX9_round_123 : decode cX9_round 123 = .ok (.aload_n 0, 1) := by decide +kernel
theorem dX9_round_124 : decode cX9_round 124 = .ok (.getfield 76, 3) := by decide +kernel
theorem dX9_round_127 : decode cX9_round 127 = .ok (.aload_n 0, 1) := by decide +kernel
theorem dX9_round_128 : decode cX9_round 128 = .ok (.getfield 85, 3) := by decide +kernel
theorem dX9_round_131 : decode cX9_round 131 = .ok (.iload 4, 2) := by decide +kernel
theorem dX9_round_133 : decode cX9_round 133 = .ok (.iaload, 1) := by decide +kernel
theorem dX9_round_134 : decode cX9_round 134 = .ok (.iaload, 1) := by decide +kernel
theorem dX9_round_135 : decode cX9_round 135 = .ok (.iastore, 1) := by decide +kernel
theorem dX9_round_136 : decode cX9_round 136 = .ok (.iinc 4 1, 3) := by decide +kernel
theorem dX9_round_139 : decode cX9_round 139 = .ok (.goto (-32), 3) := by decide +kernel
theorem dX9_round_142 : decode cX9_round 142 = .ok (.aload_n 0, 1) := by decide +kernel
theorem dX9_round_143 : decode cX9_round 143 = .ok (.getfield 88, 3) := by decide +kernel
theorem dX9_round_146 : decode cX9_round 146 = .ok (.bipush 25, 2) := by decide +kernel
theorem dX9_round_148 : decode cX9_round 148 = .ok (.iload_n 3, 1) := by decide +kernel
theorem dX9_round_149 : decode cX9_round 149 = .ok (.iadd, 1) := by decide +kernel
theorem dX9_round_150 : decode cX9_round 150 = .ok (.aload_n 0, 1) := by decide +kernel
theorem dX9_round_151 : decode cX9_round 151 = .ok (.getfield 76, 3) := by decide +kernel
theorem dX9_round_154 : decode cX9_round 154 = .ok (.aload_n 0, 1) := by decide +kernel
theorem dX9_round_155 : decode cX9_round 155 = .ok (.getfield 169, 3) := by decide +kernel
theorem dX9_round_158 : decode cX9_round 158 = .ok (.iaload, 1) := by decide +kernel
theorem dX9_round_159 : decode cX9_round 159 = .ok (.iastore, 1) := by decide +kernel
theorem dX9_round_160 : decode cX9_round 160 = .ok (.iinc 3 1, 3) := by decide +kernel
theorem dX9_round_163 : decode cX9_round 163 = .ok (.goto (-74), 3) := by decide +kernel
theorem dX9_round_166 : decode cX9_round 166 = .ok (.iconst 0, 1) := by decide +kernel
theorem dX9_round_167 : decode cX9_round 167 = .ok (.istore_n 3, 1) := by decide +kernel
theorem dX9_round_168 : decode cX9_round 168 = .ok (.iload_n 3, 1) := by decide +kernel
theorem dX9_round_169 : decode cX9_round 169 = .ok (.iload_n 2, 1) := by decide +kernel
theorem dX9_round_170 : decode cX9_round 170 = .ok (.if_icmp .ge 25, 3) := by decide +kernel
theorem dX9_round_173 : decode cX9_round 173 = .ok (.aload_n 0, 1) := by decide +kernel
theorem dX9_round_174 : decode cX9_round 174 = .ok (.getfield 91, 3) := by decide +kernel
theorem dX9_round_177 : decode cX9_round 177 = .ok (.iload_n 3, 1) := by decide +kernel
theorem dX9_round_178 : decode cX9_round 178 = .ok (.aload_n 0, 1) := by decide +kernel
theorem dX9_round_179 : decode cX9_round 179 = .ok (.aload_n 0, 1) := by decide +kernel
theorem dX9_round_180 : decode cX9_round 180 = .ok (.getfield 85, 3) := by decide +kernel
theorem dX9_round_183 : decode cX9_round 183 = .ok (.iload_n 3, 1) := by decide +kernel
theorem dX9_round_184 : decode cX9_round 184 = .ok (.iaload, 1) := by decide +kernel
theorem dX9_round_185 : decode cX9_round 185 = .ok (.invokevirtual 336, 3) := by decide +kernel
theorem dX9_round_188 : decode cX9_round 188 = .ok (.iastore, 1) := by decide +kernel
theorem dX9_round_189 : decode cX9_round 189 = .ok (.iinc 3 1, 3) := by decide +kernel
theorem dX9_round_192 : decode cX9_round 192 = .ok (.goto (-24), 3) := by decide +kernel
theorem dX9_round_195 : decode cX9_round 195 = .ok (.aload_n 0, 1) := by decide +kernel
theorem dX9_round_196 : decode cX9_round 196 = .ok (.ldc_w 311, 3) := by decide +kernel
theorem dX9_round_199 : decode cX9_round 199 = .ok (.putfield 326, 3) := by decide +kernel
theorem dX9_round_202 : decode cX9_round 202 = .ok (.aload_n 0, 1) := by decide +kernel
theorem dX9_round_203 : decode cX9_round 203 = .ok (.bipush 36, 2) := by decide +kernel
theorem dX9_round_205 : decode cX9_round 205 = .ok (.putfield 329, 3) := by decide +kernel
theorem dX9_round_208 : decode cX9_round 208 = .ok (.aload_n 0, 1) := by decide +kernel
theorem dX9_round_209 : decode cX9_round 209 = .ok (.iload_n 2, 1) := by decide +kernel
theorem dX9_round_210 : decode cX9_round 210 = .ok (.iconst 0, 1) := by decide +kernel
theorem dX9_round_211 : decode cX9_round 211 = .ok (.iconst (-1), 1) := by decide +kernel
theorem dX9_round_212 : decode cX9_round 212 = .ok (.iconst 0, 1) := by decide +kernel
theorem dX9_round_213 : decode cX9_round 213 = .ok (.iconst (-1), 1) := by decide +kernel
theorem dX9_round_214 : decode cX9_round 214 = .ok (.invokevirtual 332, 3) := by decide +kernel
theorem dX9_round_217 : decode cX9_round 217 = .ok (.iload_n 1, 1) := by decide +kernel
theorem dX9_round_218 : decode cX9_round 218 = .ok (.ifCond .ne 10, 3) := by decide +kernel
theorem dX9_round_221 : decode cX9_round 221 = .ok (.aload_n 0, 1) := by decide +kernel
theorem dX9_round_222 : decode cX9_round 222 = .ok (.getfield 326, 3) := by decide +kernel
theorem dX9_round_225 : decode cX9_round 225 = .ok (.goto 7, 3) := by decide +kernel
theorem dX9_round_228 : decode cX9_round 228 = .ok (.aload_n 0, 1) := by decide +kernel
theorem dX9_round_229 : decode cX9_round 229 = .ok (.getfield 329, 3) := by decide +kernel
theorem dX9_round_232 : decode cX9_round 232 = .ok (.ireturn, 1) := by decide +kernel
theorem dX9_lasts_0 : decode cX9_lasts 0 = .ok (.iload_n 1, 1) := by decide +kernel
theorem dX9_lasts_1 : decode cX9_lasts 1 = .ok (.iconst 0, 1) := by decide +kernel
theorem dX9_lasts_2 : decode cX9_lasts 2 = .ok (.bipush 20, 2) := by decide +kernel
theorem dX9_lasts_4 : decode cX9_lasts 4 = .ok (.invokestatic 116, 3) := by decide +kernel
theorem dX9_lasts_7 : decode cX9_lasts 7 = .ok (.ifCond .ne 5, 3) := by decide +kernel
theorem dX9_lasts_10 : decode cX9_lasts 10 = .ok (.iconst (-1), 1) := by decide +kernel
theorem dX9_lasts_11 : decode cX9_lasts 11 = .ok (.ireturn, 1) := by decide +kernel
theorem dX9_lasts_12 : decode cX9_lasts 12 = .ok (.aload_n 0, 1) := by decide +kernel
theorem dX9_lasts_13 : decode cX9_lasts 13 = .ok (.invokevirtual 302, 3) := by decide +kernel
theorem dX9_lasts_16 : decode cX9_lasts 16 = .ok (.bipush (-2), 2) := by decide +kernel
theorem dX9_lasts_18 : decode cX9_lasts 18 = .ok (.istore_n 2, 1) := by decide +kernel
theorem dX9_lasts_19 : decode cX9_lasts 19 = .ok (.aload_n 0, 1) := by decide +kernel
theorem dX9_lasts_20 : decode cX9_lasts 20 = .ok (.getfield 166, 3) := by decide +kernel
theorem dX9_lasts_23 : decode cX9_lasts 23 = .ok (.istore_n 3, 1) := by decide +kernel
theorem dX9_lasts_24 : decode cX9_lasts 24 = .ok (.iload_n 3, 1) := by decide +kernel
theorem dX9_lasts_25 : decode cX9_lasts 25 = .ok (.bipush 60, 2) := by decide +kernel
theorem dX9_lasts_27 : decode cX9_lasts 27 = .ok (.if_icmp .ge 57, 3) := by decide +kernel
theorem dX9_lasts_30 : decode cX9_lasts 30 = .ok (.iload_n 2, 1) := by decide +kernel
theorem dX9_lasts_31 : decode cX9_lasts 31 = .ok (.ifCond .ge 53, 3) := by decide +kernel
theorem dX9_lasts_34 : decode cX9_lasts 34 = .ok (.aload_n 0, 1) := by decide +kernel
theorem dX9_lasts_35 : decode cX9_lasts 35 = .ok (.iconst 0, 1) := by decide +kernel
theorem dX9_lasts_36 : decode cX9_lasts 36 = .ok (.iload_n 3, 1) := by decide +kernel
theorem dX9_lasts_37 : decode cX9_lasts 37 = .ok (.aload_n 0, 1) := by decide +kernel
theorem dX9_lasts_38 : decode cX9_lasts 38 = .ok (.getfield 16, 3) := by decide +kernel
theorem dX9_lasts_41 : decode cX9_lasts 41 = .ok (.iload_n 3, 1) := by decide +kernel
theorem dX9_lasts_42 : decode cX9_lasts 42 = .ok (.iaload, 1) := by decide +kernel
theorem dX9_lasts_43 : decode cX9_lasts 43 = .ok (.iload_n 1, 1) := by decide +kernel
theorem dX9_lasts_44 : decode cX9_lasts 44 = .ok (.if_icmp .le 14, 3) := by decide +kernel
theorem dX9_lasts_47 : decode cX9_lasts 47 = .ok (.aload_n 0, 1) := by decide +kernel
theorem dX9_lasts_48 : decode cX9_lasts 48 = .ok (.getfield 16, 3) := by decide +kernel
theorem dX9_lasts_51 : decode cX9_lasts 51 = .ok (.iload_n 3, 1) := by decide +kernel
theorem dX9_lasts_52 : decode cX9_lasts 52 = .ok (.iaload, 1) := by decide +kernel
theorem dX9_lasts_53 : decode cX9_lasts 53 = .ok (.iload_n 1, 1) := by decide +kernel
theorem dX9_lasts_54 : decode cX9_lasts 54 = .ok (.isub, 1) := by decide +kernel
theorem dX9_lasts_55 : decode cX9_lasts 55 = .ok (.goto 4, 3) := by decide +kernel
theorem dX9_lasts_58 : decode cX9_lasts 58 = .ok (.iconst 0, 1) := by decide +kernel
theorem dX9_lasts_59 : decode cX9_lasts 59 = .ok (.aload_n 0, 1) := by decide +kernel
theorem dX9_lasts_60 : decode cX9_lasts 60 = .ok (.getfield 19, 3) := by decide +kernel
theorem dX9_lasts_63 : decode cX9_lasts 63 = .ok (.iload_n 3, 1) := by decide +kernel
theorem dX9_lasts_64 : decode cX9_lasts 64 = .ok (.iaload, 1) := by decide +kernel
theorem dX9_lasts_65 : decode cX9_lasts 65 = .ok (.invokevirtual 283, 3) := by decide +kernel
theorem dX9_lasts_68 : decode cX9_lasts 68 = .ok (.pop, 1) := by decide +kernel
theorem dX9_lasts_69 : decode cX9_lasts 69 = .ok (.aload_n 0, 1) := by decide +kernel
theorem dX9_lasts_70 : decode cX9_lasts 70 = .ok (.getfield 29, 3) := by decide +kernel
theorem dX9_lasts_73 : decode cX9_lasts 73 = .ok (.ifCond .ne 5, 3) := by decide +kernel
theorem dX9_lasts_76 : decode cX9_lasts 76 = .ok (.iload_n 3, 1) := by decide +kernel
theorem dX9_lasts_77 : decode cX9_lasts 77 = .ok (.istore_n 2, 1) := by decide +kernel
theorem dX9_lasts_78 : decode cX9_lasts 78 = .ok (.iinc 3 1, 3) := by decide +kernel
theorem dX9_lasts_81 : decode cX9_lasts 81 = .ok (.goto (-57), 3) := by decide +kernel
theorem dX9_lasts_84 : decode cX9_lasts 84 = .ok (.aload_n 0, 1) := by decide +kernel
theorem dX9_lasts_85 : decode cX9_lasts 85 = .ok (.invokevirtual 296, 3) := by decide +kernel
theorem dX9_lasts_88 : decode cX9_lasts 88 = .ok (.iload_n 2, 1) := by decide +kernel
theorem dX9_lasts_89 : decode cX9_lasts 89 = .ok (.ireturn, 1) := by decide +kernel
theorem dX9_power_0 : decode cX9_power 0 = .ok (.lconst 1, 1) := by decide +kernel
theorem dX9_power_1 : decode cX9_power 1 = .ok (.lstore_n 2, 1) := by decide +kernel
theorem dX9_power_2 : decode cX9_power 2 = .ok (.iconst 0, 1) := by decide +kernel
theorem dX9_power_3 : decode cX9_power 3 = .ok (.istore 4, 2) := by decide +kernel
theorem dX9_power_5 : decode cX9_power 5 = .ok (.iload 4, 2) := by decide +kernel
theorem dX9_power_7 : decode cX9_power 7 = .ok (.iload_n 1, 1) := by decide +kernel
theorem dX9_power_8 : decode cX9_power 8 = .ok (.if_icmp .ge 14, 3) := by decide +kernel
theorem dX9_power_11 : decode cX9_power 11 = .ok (.lload_n 2, 1) := by decide +kernel
theorem dX9_power_12 : decode cX9_power 12 = .ok (.iload_n 0, 1) := by decide +kernel
theorem dX9_power_13 : decode cX9_power 13 = .ok (.i2l, 1) := by decide +kernel
theorem dX9_power_14 : decode cX9_power 14 = .ok (.lmul, 1) := by decide +kernel
theorem dX9_power_15 : decode cX9_power 15 = .ok (.lstore_n 2, 1) := by decide +kernel
theorem dX9_power_16 : decode cX9_power 16 = .ok (.iinc 4 1, 3) := by decide +kernel
theorem dX9_power_19 : decode cX9_power 19 = .ok (.goto (-14), 3) := by decide +kernel
theorem dX9_power_22 : decode cX9_power 22 = .ok (.lload_n 2, 1) := by decide +kernel
theorem dX9_power_23 : decode cX9_power 23 = .ok (.lreturn, 1) := by decide +kernel
theorem dX9_part_0 : decode cX9_part 0 = .ok (.lload_n 0, 1) := by decide +kernel
theorem dX9_part_1 : decode cX9_part 1 = .ok (.lstore 5, 2) := by decide +kernel
theorem dX9_part_3 : decode cX9_part 3 = .ok (.lload_n 2, 1) := by decide +kernel
theorem dX9_part_4 : decode cX9_part 4 = .ok (.lstore 7, 2) := by decide +kernel
theorem dX9_part_6 : decode cX9_part 6 = .ok (.lload 7, 2) := by decide +kernel
theorem dX9_part_8 : decode cX9_part 8 = .ok (.lconst 0, 1) := by decide +kernel
theorem dX9_part_9 : decode cX9_part 9 = .ok (.lcmp, 1) := by decide +kernel
theorem dX9_part_10 : decode cX9_part 10 = .ok (.ifCond .eq 21, 3) := by decide +kernel
theorem dX9_part_13 : decode cX9_part 13 = .ok (.lload 5, 2) := by decide +kernel
theorem dX9_part_15 : decode cX9_part 15 = .ok (.lload 7, 2) := by decide +kernel
theorem dX9_part_17 : decode cX9_part 17 = .ok (.lrem, 1) := by decide +kernel
theorem dX9_part_18 : decode cX9_part 18 = .ok (.lstore 9, 2) := by decide +kernel
theorem dX9_part_20 : decode cX9_part 20 = .ok (.lload 7, 2) := by decide +kernel
theorem dX9_part_22 : decode cX9_part 22 = .ok (.lstore 5, 2) := by decide +kernel
theorem dX9_part_24 : decode cX9_part 24 = .ok (.lload 9, 2) := by decide +kernel
theorem dX9_part_26 : decode cX9_part 26 = .ok (.lstore 7, 2) := by decide +kernel
theorem dX9_part_28 : decode cX9_part 28 = .ok (.goto (-22), 3) := by decide +kernel
theorem dX9_part_31 : decode cX9_part 31 = .ok (.iload 4, 2) := by decide +kernel
theorem dX9_part_33 : decode cX9_part 33 = .ok (.ifCond .ne 10, 3) := by decide +kernel
theorem dX9_part_36 : decode cX9_part 36 = .ok (.lload_n 0, 1) := by decide +kernel
theorem dX9_part_37 : decode cX9_part 37 = .ok (.lload 5, 2) := by decide +kernel
theorem dX9_part_39 : decode cX9_part 39 = .ok (.ldiv, 1) := by decide +kernel
theorem dX9_part_40 : decode cX9_part 40 = .ok (.goto 7, 3) := by decide +kernel
theorem dX9_part_43 : decode cX9_part 43 = .ok (.lload_n 2, 1) := by decide +kernel
theorem dX9_part_44 : decode cX9_part 44 = .ok (.lload 5, 2) := by decide +kernel
theorem dX9_part_46 : decode cX9_part 46 = .ok (.ldiv, 1) := by decide +kernel
theorem dX9_part_47 : decode cX9_part 47 = .ok (.lreturn, 1) := by decide +kernel
theorem dX9_clean_0 : decode cX9_clean 0 = .ok (.iload_n 1, 1) := by decide +kernel
theorem dX9_clean_1 : decode cX9_clean 1 = .ok (.iconst 0, 1) := by decide +kernel
theorem dX9_clean_2 : decode cX9_clean 2 = .ok (.bipush 8, 2) := by decide +kernel
theorem dX9_clean_4 : decode cX9_clean 4 = .ok (.invokestatic 116, 3) := by decide +kernel
theorem dX9_clean_7 : decode cX9_clean 7 = .ok (.ifCond .eq 21, 3) := by decide +kernel
theorem dX9_clean_10 : decode cX9_clean 10 = .ok (.iload_n 2, 1) := by decide +kernel
theorem dX9_clean_11 : decode cX9_clean 11 = .ok (.iconst 0, 1) := by decide +kernel
theorem dX9_clean_12 : decode cX9_clean 12 = .ok (.iconst 1, 1) := by decide +kernel
theorem dX9_clean_13 : decode cX9_clean 13 = .ok (.invokestatic 116, 3) := by decide +kernel
theorem dX9_clean_16 : decode cX9_clean 16 = .ok (.ifCond .eq 12, 3) := by decide +kernel
theorem dX9_clean_19 : decode cX9_clean 19 = .ok (.iload_n 3, 1) := by decide +kernel
theorem dX9_clean_20 : decode cX9_clean 20 = .ok (.iconst 0, 1) := by decide +kernel
theorem dX9_clean_21 : decode cX9_clean 21 = .ok (.iconst 1, 1) := by decide +kernel
theorem dX9_clean_22 : decode cX9_clean 22 = .ok (.invokestatic 116, 3) := by decide +kernel
theorem dX9_clean_25 : decode cX9_clean 25 = .ok (.ifCond .ne 7, 3) := by decide +kernel
theorem dX9_clean_28 : decode cX9_clean 28 = .ok (.ldc2_w 341, 3) := by decide +kernel
theorem dX9_clean_31 : decode cX9_clean 31 = .ok (.lreturn, 1) := by decide +kernel
theorem dX9_clean_32 : decode cX9_clean 32 = .ok (.bipush 12, 2) := by decide +kernel
theorem dX9_clean_34 : decode cX9_clean 34 = .ok (.iload_n 1, 1) := by decide +kernel
theorem dX9_clean_35 : decode cX9_clean 35 = .ok (.invokestatic 343, 3) := by decide +kernel
theorem dX9_clean_38 : decode cX9_clean 38 = .ok (.lstore 4, 2) := by decide +kernel
theorem dX9_clean_40 : decode cX9_clean 40 = .ok (.iload_n 2, 1) := by decide +kernel
theorem dX9_clean_41 : decode cX9_clean 41 = .ok (.ifCond .ne 24, 3) := by decide +kernel
theorem dX9_clean_44 : decode cX9_clean 44 = .ok (.lload 4, 2) := by decide +kernel
theorem dX9_clean_46 : decode cX9_clean 46 = .ok (.bipush 12, 2) := by decide +kernel
theorem dX9_clean_48 : decode cX9_clean 48 = .ok (.aload_n 0, 1) := by decide +kernel
theorem dX9_clean_49 : decode cX9_clean 49 = .ok (.getfield 26, 3) := by decide +kernel
theorem dX9_clean_52 : decode cX9_clean 52 = .ok (.isub, 1) := by decide +kernel
theorem dX9_clean_53 : decode cX9_clean 53 = .ok (.iload_n 1, 1) := by decide +kernel
theorem dX9_clean_54 : decode cX9_clean 54 = .ok (.invokestatic 343, 3) := by decide +kernel
theorem dX9_clean_57 : decode cX9_clean 57 = .ok (.lsub, 1) := by decide +kernel
theorem dX9_clean_58 : decode cX9_clean 58 = .ok (.lload 4, 2) := by decide +kernel
theorem dX9_clean_60 : decode cX9_clean 60 = .ok (.iload_n 3, 1) := by decide +kernel
theorem dX9_clean_61 : decode cX9_clean 61 = .ok (.invokestatic 347, 3) := by decide +kernel
theorem dX9_clean_64 : decode cX9_clean 64 = .ok (.lreturn, 1) := by decide +kernel
theorem dX9_clean_65 : decode cX9_clean 65 = .ok (.lconst 0, 1) := by decide +kernel
theorem dX9_clean_66 : decode cX9_clean 66 = .ok (.lstore 6, 2) := by decide +kernel
theorem dX9_clean_68 : decode cX9_clean 68 = .ok (.iconst 0, 1) := by decide +kernel
theorem dX9_clean_69 : decode cX9_clean 69 = .ok (.istore 8, 2) := by decide +kernel
theorem dX9_clean_71 : decode cX9_clean 71 = .ok (.iload 8, 2) := by decide +kernel
theorem dX9_clean_73 : decode cX9_clean 73 = .ok (.iload_n 1, 1) := by decide +kernel
theorem dX9_clean_74 : decode cX9_clean 74 = .ok (.if_icmp .ge 36, 3) := by decide +kernel
theorem dX9_clean_77 : decode cX9_clean 77 = .ok (.lload 6, 2) := by decide +kernel
theorem dX9_clean_79 : decode cX9_clean 79 = .ok (.bipush 12, 2) := by decide +kernel
theorem dX9_clean_81 : decode cX9_clean 81 = .ok (.aload_n 0, 1) := by decide +kernel
theorem dX9_clean_82 : decode cX9_clean 82 = .ok (.getfield 26, 3) := by decide +kernel
theorem dX9_clean_85 : decode cX9_clean 85 = .ok (.isub, 1) := by decide +kernel
theorem dX9_clean_86 : decode cX9_clean 86 = .ok (.iload 8, 2) := by decide +kernel
theorem dX9_clean_88 : decode cX9_clean 88 = .ok (.invokestatic 343, 3) := by decide +kernel
theorem dX9_clean_91 : decode cX9_clean 91 = .ok (.bipush 12, 2) := by decide +kernel
theorem dX9_clean_93 : decode cX9_clean 93 = .ok (.iload_n 1, 1) := by decide +kernel
theorem dX9_clean_94 : decode cX9_clean 94 = .ok (.iload 8, 2) := by decide +kernel
theorem dX9_clean_96 : decode cX9_clean 96 = .ok (.isub, 1) := by decide +kernel
theorem dX9_clean_97 : decode cX9_clean 97 = .ok (.invokestatic 343, 3) := by decide +kernel
theorem dX9_clean_100 : decode cX9_clean 100 = .ok (.lmul, 1) := by decide +kernel
theorem dX9_clean_101 : decode cX9_clean 101 = .ok (.ladd, 1) := by decide +kernel
theorem dX9_clean_102 : decode cX9_clean 102 = .ok (.lstore 6, 2) := by decide +kernel
theorem dX9_clean_104 : decode cX9_clean 104 = .ok (.iinc 8 1, 3) := by decide +kernel
theorem dX9_clean_107 : decode cX9_clean 107 = .ok (.goto (-36), 3) := by decide +kernel
theorem dX9_clean_110 : decode cX9_clean 110 = .ok (.lload 6, 2) := by decide +kernel
theorem dX9_clean_112 : decode cX9_clean 112 = .ok (.lload 4, 2) := by decide +kernel
theorem dX9_clean_114 : decode cX9_clean 114 = .ok (.iload_n 3, 1) := by decide +kernel
theorem dX9_clean_115 : decode cX9_clean 115 = .ok (.invokestatic 347, 3) := by decide +kernel
theorem dX9_clean_118 : decode cX9_clean 118 = .ok (.lreturn, 1) := by decide +kernel
theorem dX9_endOf_0 : decode cX9_endOf 0 = .ok (.iload_n 2, 1) := by decide +kernel
theorem dX9_endOf_1 : decode cX9_endOf 1 = .ok (.istore_n 3, 1) := by decide +kernel
theorem dX9_endOf_2 : decode cX9_endOf 2 = .ok (.iconst 0, 1) := by decide +kernel
theorem dX9_endOf_3 : decode cX9_endOf 3 = .ok (.istore 4, 2) := by decide +kernel
theorem dX9_endOf_5 : decode cX9_endOf 5 = .ok (.iload 4, 2) := by decide +kernel
theorem dX9_endOf_7 : decode cX9_endOf 7 = .ok (.aload_n 0, 1) := by decide +kernel
theorem dX9_endOf_8 : decode cX9_endOf 8 = .ok (.getfield 103, 3) := by decide +kernel
theorem dX9_endOf_11 : decode cX9_endOf 11 = .ok (.iload_n 1, 1) := by decide +kernel
theorem dX9_endOf_12 : decode cX9_endOf 12 = .ok (.iaload, 1) := by decide +kernel
theorem dX9_endOf_13 : decode cX9_endOf 13 = .ok (.if_icmp .ge 44, 3) := by decide +kernel
theorem dX9_endOf_16 : decode cX9_endOf 16 = .ok (.iload_n 3, 1) := by decide +kernel
theorem dX9_endOf_17 : decode cX9_endOf 17 = .ok (.ifCond .lt 40, 3) := by decide +kernel
theorem dX9_endOf_20 : decode cX9_endOf 20 = .ok (.aload_n 0, 1) := by decide +kernel
theorem dX9_endOf_21 : decode cX9_endOf 21 = .ok (.iload_n 1, 1) := by decide +kernel
theorem dX9_endOf_22 : decode cX9_endOf 22 = .ok (.iload 4, 2) := by decide +kernel
theorem dX9_endOf_24 : decode cX9_endOf 24 = .ok (.invokevirtual 293, 3) := by decide +kernel
theorem dX9_endOf_27 : decode cX9_endOf 27 = .ok (.iconst 1, 1) := by decide +kernel
theorem dX9_endOf_28 : decode cX9_endOf 28 = .ok (.iconst 4, 1) := by decide +kernel
theorem dX9_endOf_29 : decode cX9_endOf 29 = .ok (.invokestatic 116, 3) := by decide +kernel
theorem dX9_endOf_32 : decode cX9_endOf 32 = .ok (.ifCond .eq 17, 3) := by decide +kernel
theorem dX9_endOf_35 : decode cX9_endOf 35 = .ok (.iload_n 3, 1) := by decide +kernel
theorem dX9_endOf_36 : decode cX9_endOf 36 = .ok (.aload_n 0, 1) := by decide +kernel
theorem dX9_endOf_37 : decode cX9_endOf 37 = .ok (.iload_n 1, 1) := by decide +kernel
theorem dX9_endOf_38 : decode cX9_endOf 38 = .ok (.iload 4, 2) := by decide +kernel
theorem dX9_endOf_40 : decode cX9_endOf 40 = .ok (.invokevirtual 293, 3) := by decide +kernel
theorem dX9_endOf_43 : decode cX9_endOf 43 = .ok (.invokestatic 120, 3) := by decide +kernel
theorem dX9_endOf_46 : decode cX9_endOf 46 = .ok (.goto 4, 3) := by decide +kernel
theorem dX9_endOf_49 : decode cX9_endOf 49 = .ok (.iconst (-1), 1) := by decide +kernel
theorem dX9_endOf_50 : decode cX9_endOf 50 = .ok (.istore_n 3, 1) := by decide +kernel
theorem dX9_endOf_51 : decode cX9_endOf 51 = .ok (.iinc 4 1, 3) := by decide +kernel
theorem dX9_endOf_54 : decode cX9_endOf 54 = .ok (.goto (-49), 3) := by decide +kernel
theorem dX9_endOf_57 : decode cX9_endOf 57 = .ok (.iload_n 3, 1) := by decide +kernel
theorem dX9_endOf_58 : decode cX9_endOf 58 = .ok (.ireturn, 1) := by decide +kernel
theorem dX9_line_0 : decode cX9_line 0 = .ok (.iload_n 1, 1) := by decide +kernel
theorem dX9_line_1 : decode cX9_line 1 = .ok (.invokestatic 179, 3) := by decide +kernel
theorem dX9_line_4 : decode cX9_line 4 = .ok (.ifCond .eq 20, 3) := by decide +kernel
theorem dX9_line_7 : decode cX9_line 7 = .ok (.iload_n 2, 1) := by decide +kernel
theorem dX9_line_8 : decode cX9_line 8 = .ok (.iconst 0, 1) := by decide +kernel
theorem dX9_line_9 : decode cX9_line 9 = .ok (.iconst 1, 1) := by decide +kernel
theorem dX9_line_10 : decode cX9_line 10 = .ok (.invokestatic 116, 3) := by decide +kernel
theorem dX9_line_13 : decode cX9_line 13 = .ok (.ifCond .eq 11, 3) := by decide +kernel
theorem dX9_line_16 : decode cX9_line 16 = .ok (.aload_n 0, 1) := by decide +kernel
theorem dX9_line_17 : decode cX9_line 17 = .ok (.iload_n 1, 1) := by decide +kernel
theorem dX9_line_18 : decode cX9_line 18 = .ok (.invokevirtual 299, 3) := by decide +kernel
theorem dX9_line_21 : decode cX9_line 21 = .ok (.ifCond .ge 7, 3) := by decide +kernel
theorem dX9_line_24 : decode cX9_line 24 = .ok (.ldc2_w 341, 3) := by decide +kernel
theorem dX9_line_27 : decode cX9_line 27 = .ok (.lreturn, 1) := by decide +kernel
theorem dX9_line_28 : decode cX9_line 28 = .ok (.lconst 0, 1) := by decide +kernel
theorem dX9_line_29 : decode cX9_line 29 = .ok (.lstore_n 3, 1) := by decide +kernel
theorem dX9_line_30 : decode cX9_line 30 = .ok (.iconst 0, 1) := by decide +kernel
theorem dX9_line_31 : decode cX9_line 31 = .ok (.istore 5, 2) := by decide +kernel
theorem dX9_line_33 : decode cX9_line 33 = .ok (.iload 5, 2) := by decide +kernel
theorem dX9_line_35 : decode cX9_line 35 = .ok (.bipush 36, 2) := by decide +kernel
theorem dX9_line_37 : decode cX9_line 37 = .ok (.if_icmp .ge 40, 3) := by decide +kernel
theorem dX9_line_40 : decode cX9_line 40 = .ok (.aload_n 0, 1) := by decide +kernel
theorem dX9_line_41 : decode cX9_line 41 = .ok (.iload_n 1, 1) := by decide +kernel
theorem dX9_line_42 : decode cX9_line 42 = .ok (.iload 5, 2) := by decide +kernel
theorem dX9_line_44 : decode cX9_line 44 = .ok (.invokevirtual 351, 3) := by decide +kernel
theorem dX9_line_47 : decode cX9_line 47 = .ok (.ifCond .lt 24, 3) := by decide +kernel
theorem dX9_line_50 : decode cX9_line 50 = .ok (.lload_n 3, 1) := by decide +kernel
theorem dX9_line_51 : decode cX9_line 51 = .ok (.lconst 1, 1) := by decide +kernel
theorem dX9_line_52 : decode cX9_line 52 = .ok (.iload_n 2, 1) := by decide +kernel
theorem dX9_line_53 : decode cX9_line 53 = .ok (.ifCond .ne 8, 3) := by decide +kernel
theorem dX9_line_56 : decode cX9_line 56 = .ok (.iload 5, 2) := by decide +kernel
theorem dX9_line_58 : decode cX9_line 58 = .ok (.goto 10, 3) := by decide +kernel
theorem dX9_line_61 : decode cX9_line 61 = .ok (.aload_n 0, 1) := by decide +kernel
theorem dX9_line_62 : decode cX9_line 62 = .ok (.iload_n 1, 1) := by decide +kernel
theorem dX9_line_63 : decode cX9_line 63 = .ok (.iload 5, 2) := by decide +kernel
theorem dX9_line_65 : decode cX9_line 65 = .ok (.invokevirtual 351, 3) := by decide +kernel
theorem dX9_line_68 : decode cX9_line 68 = .ok (.lshl, 1) := by decide +kernel
theorem dX9_line_69 : decode cX9_line 69 = .ok (.lor, 1) := by decide +kernel
theorem dX9_line_70 : decode cX9_line 70 = .ok (.lstore_n 3, 1) := by decide +kernel
theorem dX9_line_71 : decode cX9_line 71 = .ok (.iinc 5 1, 3) := by decide +kernel
theorem dX9_line_74 : decode cX9_line 74 = .ok (.goto (-41), 3) := by decide +kernel
theorem dX9_line_77 : decode cX9_line 77 = .ok (.lload_n 3, 1) := by decide +kernel
theorem dX9_line_78 : decode cX9_line 78 = .ok (.lreturn, 1) := by decide +kernel
theorem dX9_drawn_0 : decode cX9_drawn 0 = .ok (.iload_n 2, 1) := by decide +kernel
theorem dX9_drawn_1 : decode cX9_drawn 1 = .ok (.iconst 1, 1) := by decide +kernel
theorem dX9_drawn_2 : decode cX9_drawn 2 = .ok (.bipush 30, 2) := by decide +kernel
theorem dX9_drawn_4 : decode cX9_drawn 4 = .ok (.invokestatic 116, 3) := by decide +kernel
theorem dX9_drawn_7 : decode cX9_drawn 7 = .ok (.ifCond .eq 12, 3) := by decide +kernel
theorem dX9_drawn_10 : decode cX9_drawn 10 = .ok (.iload_n 3, 1) := by decide +kernel
theorem dX9_drawn_11 : decode cX9_drawn 11 = .ok (.iconst 0, 1) := by decide +kernel
theorem dX9_drawn_12 : decode cX9_drawn 12 = .ok (.iconst 1, 1) := by decide +kernel
theorem dX9_drawn_13 : decode cX9_drawn 13 = .ok (.invokestatic 116, 3) := by decide +kernel
theorem dX9_drawn_16 : decode cX9_drawn 16 = .ok (.ifCond .ne 5, 3) := by decide +kernel
theorem dX9_drawn_19 : decode cX9_drawn 19 = .ok (.iconst (-1), 1) := by decide +kernel
theorem dX9_drawn_20 : decode cX9_drawn 20 = .ok (.ireturn, 1) := by decide +kernel
theorem dX9_drawn_21 : decode cX9_drawn 21 = .ok (.iload_n 1, 1) := by decide +kernel
theorem dX9_drawn_22 : decode cX9_drawn 22 = .ok (.istore 4, 2) := by decide +kernel
theorem dX9_drawn_24 : decode cX9_drawn 24 = .ok (.iconst 0, 1) := by decide +kernel
theorem dX9_drawn_25 : decode cX9_drawn 25 = .ok (.istore 5, 2) := by decide +kernel
theorem dX9_drawn_27 : decode cX9_drawn 27 = .ok (.iconst 0, 1) := by decide +kernel
theorem dX9_drawn_28 : decode cX9_drawn 28 = .ok (.istore 6, 2) := by decide +kernel
theorem dX9_drawn_30 : decode cX9_drawn 30 = .ok (.aload_n 0, 1) := by decide +kernel
theorem dX9_drawn_31 : decode cX9_drawn 31 = .ok (.invokevirtual 302, 3) := by decide +kernel
theorem dX9_drawn_34 : decode cX9_drawn 34 = .ok (.iconst 0, 1) := by decide +kernel
theorem dX9_drawn_35 : decode cX9_drawn 35 = .ok (.istore 7, 2) := by decide +kernel
theorem dX9_drawn_37 : decode cX9_drawn 37 = .ok (.iload 7, 2) := by decide +kernel
theorem dX9_drawn_39 : decode cX9_drawn 39 = .ok (.iload_n 2, 1) := by decide +kernel
theorem dX9_drawn_40 : decode cX9_drawn 40 = .ok (.if_icmp .ge 119, 3) := by decide +kernel
theorem dX9_drawn_43 : decode cX9_drawn 43 = .ok (.iconst 0, 1) := by decide +kernel
theorem dX9_drawn_44 : decode cX9_drawn 44 = .ok (.istore 8, 2) := by decide +kernel
theorem dX9_drawn_46 : decode cX9_drawn 46 = .ok (.aload_n 0, 1) := by decide +kernel
theorem dX9_drawn_47 : decode cX9_drawn 47 = .ok (.getfield 166, 3) := by decide +kernel
theorem dX9_drawn_50 : decode cX9_drawn 50 = .ok (.istore 9, 2) := by decide +kernel
theorem dX9_drawn_52 : decode cX9_drawn 52 = .ok (.iload 9, 2) := by decide +kernel
theorem dX9_drawn_54 : decode cX9_drawn 54 = .ok (.bipush 60, 2) := by decide +kernel
theorem dX9_drawn_56 : decode cX9_drawn 56 = .ok (.if_icmp .ge 76, 3) := by decide +kernel
theorem dX9_drawn_59 : decode cX9_drawn 59 = .ok (.iload 4, 2) := by decide +kernel
theorem dX9_drawn_61 : decode cX9_drawn 61 = .ok (.ldc_w 354, 3) := by decide +kernel
theorem dX9_drawn_64 : decode cX9_drawn 64 = .ok (.imul, 1) := by decide +kernel
theorem dX9_drawn_65 : decode cX9_drawn 65 = .ok (.sipush 12345, 3) := by decide +kernel
theorem dX9_drawn_68 : decode cX9_drawn 68 = .ok (.iadd, 1) := by decide +kernel
theorem dX9_drawn_69 : decode cX9_drawn 69 = .ok (.istore 4, 2) := by decide +kernel
theorem dX9_drawn_71 : decode cX9_drawn 71 = .ok (.aload_n 0, 1) := by decide +kernel
theorem dX9_drawn_72 : decode cX9_drawn 72 = .ok (.iconst 0, 1) := by decide +kernel
theorem dX9_drawn_73 : decode cX9_drawn 73 = .ok (.iload 9, 2) := by decide +kernel
theorem dX9_drawn_75 : decode cX9_drawn 75 = .ok (.aload_n 0, 1) := by decide +kernel
theorem dX9_drawn_76 : decode cX9_drawn 76 = .ok (.getfield 16, 3) := by decide +kernel
theorem dX9_drawn_79 : decode cX9_drawn 79 = .ok (.iload 9, 2) := by decide +kernel
theorem dX9_drawn_81 : decode cX9_drawn 81 = .ok (.iaload, 1) := by decide +kernel
theorem dX9_drawn_82 : decode cX9_drawn 82 = .ok (.iload 4, 2) := by decide +kernel
theorem dX9_drawn_84 : decode cX9_drawn 84 = .ok (.bipush 8, 2) := by decide +kernel
theorem dX9_drawn_86 : decode cX9_drawn 86 = .ok (.iushr, 1) := by decide +kernel
theorem dX9_drawn_87 : decode cX9_drawn 87 = .ok (.bipush 12, 2) := by decide +kernel
theorem dX9_drawn_89 : decode cX9_drawn 89 = .ok (.irem, 1) := by decide +kernel
theorem dX9_drawn_90 : decode cX9_drawn 90 = .ok (.aload_n 0, 1) := by decide +kernel
theorem dX9_drawn_91 : decode cX9_drawn 91 = .ok (.getfield 26, 3) := by decide +kernel
theorem dX9_drawn_94 : decode cX9_drawn 94 = .ok (.if_icmp .ge 8, 3) := by decide +kernel
theorem dX9_drawn_97 : decode cX9_drawn 97 = .ok (.bipush 9, 2) := by decide +kernel
theorem dX9_drawn_99 : decode cX9_drawn 99 = .ok (.goto 4, 3) := by decide +kernel
theorem dX9_drawn_102 : decode cX9_drawn 102 = .ok (.iconst 0, 1) := by decide +kernel
theorem dX9_drawn_103 : decode cX9_drawn 103 = .ok (.invokevirtual 283, 3) := by decide +kernel
theorem dX9_drawn_106 : decode cX9_drawn 106 = .ok (.pop, 1) := by decide +kernel
theorem dX9_drawn_107 : decode cX9_drawn 107 = .ok (.iload 8, 2) := by decide +kernel
theorem dX9_drawn_109 : decode cX9_drawn 109 = .ok (.ifCond .ne 10, 3) := by decide +kernel
theorem dX9_drawn_112 : decode cX9_drawn 112 = .ok (.aload_n 0, 1) := by decide +kernel
theorem dX9_drawn_113 : decode cX9_drawn 113 = .ok (.getfield 29, 3) := by decide +kernel
theorem dX9_drawn_116 : decode cX9_drawn 116 = .ok (.ifCond .ne 7, 3) := by decide +kernel
theorem dX9_drawn_119 : decode cX9_drawn 119 = .ok (.iconst 1, 1) := by decide +kernel
theorem dX9_drawn_120 : decode cX9_drawn 120 = .ok (.goto 4, 3) := by decide +kernel
theorem dX9_drawn_123 : decode cX9_drawn 123 = .ok (.iconst 0, 1) := by decide +kernel
theorem dX9_drawn_124 : decode cX9_drawn 124 = .ok (.istore 8, 2) := by decide +kernel
theorem dX9_drawn_126 : decode cX9_drawn 126 = .ok (.iinc 9 1, 3) := by decide +kernel
theorem dX9_drawn_129 : decode cX9_drawn 129 = .ok (.goto (-77), 3) := by decide +kernel
theorem dX9_drawn_132 : decode cX9_drawn 132 = .ok (.iload 8, 2) := by decide +kernel
theorem dX9_drawn_134 : decode cX9_drawn 134 = .ok (.ifCond .eq 6, 3) := by decide +kernel
theorem dX9_drawn_137 : decode cX9_drawn 137 = .ok (.iinc 5 1, 3) := by decide +kernel
theorem dX9_drawn_140 : decode cX9_drawn 140 = .ok (.iload 6, 2) := by decide +kernel
theorem dX9_drawn_142 : decode cX9_drawn 142 = .ok (.aload_n 0, 1) := by decide +kernel
theorem dX9_drawn_143 : decode cX9_drawn 143 = .ok (.getfield 29, 3) := by decide +kernel
theorem dX9_drawn_146 : decode cX9_drawn 146 = .ok (.iadd, 1) := by decide +kernel
theorem dX9_drawn_147 : decode cX9_drawn 147 = .ok (.istore 6, 2) := by decide +kernel
theorem dX9_drawn_149 : decode cX9_drawn 149 = .ok (.aload_n 0, 1) := by decide +kernel
theorem dX9_drawn_150 : decode cX9_drawn 150 = .ok (.invokevirtual 296, 3) := by decide +kernel
theorem dX9_drawn_153 : decode cX9_drawn 153 = .ok (.iinc 7 1, 3) := by decide +kernel
theorem dX9_drawn_156 : decode cX9_drawn 156 = .ok (.goto (-119), 3) := by decide +kernel
theorem dX9_drawn_159 : decode cX9_drawn 159 = .ok (.iload_n 3, 1) := by decide +kernel
theorem dX9_drawn_160 : decode cX9_drawn 160 = .ok (.ifCond .ne 8, 3) := by decide +kernel
theorem dX9_drawn_163 : decode cX9_drawn 163 = .ok (.iload 5, 2) := by decide +kernel
theorem dX9_drawn_165 : decode cX9_drawn 165 = .ok (.goto 5, 3) := by decide +kernel
theorem dX9_drawn_168 : decode cX9_drawn 168 = .ok (.iload 6, 2) := by decide +kernel
theorem dX9_drawn_170 : decode cX9_drawn 170 = .ok (.ireturn, 1) := by decide +kernel
theorem dX9_judge_0 : decode cX9_judge 0 = .ok (.iload_n 1, 1) := by decide +kernel
theorem dX9_judge_1 : decode cX9_judge 1 = .ok (.invokestatic 179, 3) := by decide +kernel
theorem dX9_judge_4 : decode cX9_judge 4 = .ok (.ifCond .ne 5, 3) := by decide +kernel
theorem dX9_judge_7 : decode cX9_judge 7 = .ok (.iconst (-1), 1) := by decide +kernel
theorem dX9_judge_8 : decode cX9_judge 8 = .ok (.ireturn, 1) := by decide +kernel
theorem dX9_judge_9 : decode cX9_judge 9 = .ok (.aload_n 0, 1) := by decide +kernel
theorem dX9_judge_10 : decode cX9_judge 10 = .ok (.iload_n 1, 1) := by decide +kernel
theorem dX9_judge_11 : decode cX9_judge 11 = .ok (.invokevirtual 299, 3) := by decide +kernel
theorem dX9_judge_14 : decode cX9_judge 14 = .ok (.ifCond .ge 9, 3) := by decide +kernel
theorem dX9_judge_17 : decode cX9_judge 17 = .ok (.aload_n 0, 1) := by decide +kernel
theorem dX9_judge_18 : decode cX9_judge 18 = .ok (.iload_n 1, 1) := by decide +kernel
theorem dX9_judge_19 : decode cX9_judge 19 = .ok (.invokevirtual 299, 3) := by decide +kernel
theorem dX9_judge_22 : decode cX9_judge 22 = .ok (.ireturn, 1) := by decide +kernel
theorem dX9_judge_23 : decode cX9_judge 23 = .ok (.aload_n 0, 1) := by decide +kernel
theorem dX9_judge_24 : decode cX9_judge 24 = .ok (.invokevirtual 302, 3) := by decide +kernel
theorem dX9_judge_27 : decode cX9_judge 27 = .ok (.bipush (-2), 2) := by decide +kernel
theorem dX9_judge_29 : decode cX9_judge 29 = .ok (.istore_n 2, 1) := by decide +kernel
theorem dX9_judge_30 : decode cX9_judge 30 = .ok (.iconst 0, 1) := by decide +kernel
theorem dX9_judge_31 : decode cX9_judge 31 = .ok (.istore_n 3, 1) := by decide +kernel
theorem dX9_judge_32 : decode cX9_judge 32 = .ok (.iload_n 3, 1) := by decide +kernel
theorem dX9_judge_33 : decode cX9_judge 33 = .ok (.aload_n 0, 1) := by decide +kernel
theorem dX9_judge_34 : decode cX9_judge 34 = .ok (.getfield 103, 3) := by decide +kernel
theorem dX9_judge_37 : decode cX9_judge 37 = .ok (.iload_n 1, 1) := by decide +kernel
theorem dX9_judge_38 : decode cX9_judge 38 = .ok (.iaload, 1) := by decide +kernel
theorem dX9_judge_39 : decode cX9_judge 39 = .ok (.if_icmp .ge 51, 3) := by decide +kernel
theorem dX9_judge_42 : decode cX9_judge 42 = .ok (.aload_n 0, 1) := by decide +kernel
theorem dX9_judge_43 : decode cX9_judge 43 = .ok (.getfield 166, 3) := by decide +kernel
theorem dX9_judge_46 : decode cX9_judge 46 = .ok (.iload_n 3, 1) := by decide +kernel
theorem dX9_judge_47 : decode cX9_judge 47 = .ok (.iadd, 1) := by decide +kernel
theorem dX9_judge_48 : decode cX9_judge 48 = .ok (.bipush 60, 2) := by decide +kernel
theorem dX9_judge_50 : decode cX9_judge 50 = .ok (.if_icmp .ge 40, 3) := by decide +kernel
theorem dX9_judge_53 : decode cX9_judge 53 = .ok (.iload_n 2, 1) := by decide +kernel
theorem dX9_judge_54 : decode cX9_judge 54 = .ok (.ifCond .ge 36, 3) := by decide +kernel
theorem dX9_judge_57 : decode cX9_judge 57 = .ok (.aload_n 0, 1) := by decide +kernel
theorem dX9_judge_58 : decode cX9_judge 58 = .ok (.iconst 0, 1) := by decide +kernel
theorem dX9_judge_59 : decode cX9_judge 59 = .ok (.aload_n 0, 1) := by decide +kernel
theorem dX9_judge_60 : decode cX9_judge 60 = .ok (.getfield 166, 3) := by decide +kernel
theorem dX9_judge_63 : decode cX9_judge 63 = .ok (.iload_n 3, 1) := by decide +kernel
theorem dX9_judge_64 : decode cX9_judge 64 = .ok (.iadd, 1) := by decide +kernel
theorem dX9_judge_65 : decode cX9_judge 65 = .ok (.invokevirtual 287, 3) := by decide +kernel
theorem dX9_judge_68 : decode cX9_judge 68 = .ok (.pop, 1) := by decide +kernel
theorem dX9_judge_69 : decode cX9_judge 69 = .ok (.aload_n 0, 1) := by decide +kernel
theorem dX9_judge_70 : decode cX9_judge 70 = .ok (.iload_n 1, 1) := by decide +kernel
theorem dX9_judge_71 : decode cX9_judge 71 = .ok (.iload_n 3, 1) := by decide +kernel
theorem dX9_judge_72 : decode cX9_judge 72 = .ok (.invokevirtual 293, 3) := by decide +kernel
theorem dX9_judge_75 : decode cX9_judge 75 = .ok (.aload_n 0, 1) := by decide +kernel
theorem dX9_judge_76 : decode cX9_judge 76 = .ok (.getfield 29, 3) := by decide +kernel
theorem dX9_judge_79 : decode cX9_judge 79 = .ok (.if_icmp .eq 5, 3) := by decide +kernel
theorem dX9_judge_82 : decode cX9_judge 82 = .ok (.iload_n 3, 1) := by decide +kernel
theorem dX9_judge_83 : decode cX9_judge 83 = .ok (.istore_n 2, 1) := by decide +kernel
theorem dX9_judge_84 : decode cX9_judge 84 = .ok (.iinc 3 1, 3) := by decide +kernel
theorem dX9_judge_87 : decode cX9_judge 87 = .ok (.goto (-55), 3) := by decide +kernel
theorem dX9_judge_90 : decode cX9_judge 90 = .ok (.aload_n 0, 1) := by decide +kernel
theorem dX9_judge_91 : decode cX9_judge 91 = .ok (.invokevirtual 296, 3) := by decide +kernel
theorem dX9_judge_94 : decode cX9_judge 94 = .ok (.iload_n 2, 1) := by decide +kernel
theorem dX9_judge_95 : decode cX9_judge 95 = .ok (.ireturn, 1) := by decide +kernel
theorem dX9_image_0 : decode cX9_image 0 = .ok (.aload_n 0, 1) := by decide +kernel
theorem dX9_image_1 : decode cX9_image 1 = .ok (.iconst 1, 1) := by decide +kernel
theorem dX9_image_2 : decode cX9_image 2 = .ok (.putfield 355, 3) := by decide +kernel
theorem dX9_image_5 : decode cX9_image 5 = .ok (.aload_n 0, 1) := by decide +kernel
theorem dX9_image_6 : decode cX9_image 6 = .ok (.aload_n 0, 1) := by decide +kernel
theorem dX9_image_7 : decode cX9_image 7 = .ok (.getfield 166, 3) := by decide +kernel
theorem dX9_image_10 : decode cX9_image 10 = .ok (.putfield 358, 3) := by decide +kernel
theorem dX9_image_13 : decode cX9_image 13 = .ok (.aload_n 0, 1) := by decide +kernel
theorem dX9_image_14 : decode cX9_image 14 = .ok (.aload_n 0, 1) := by decide +kernel
theorem dX9_image_15 : decode cX9_image 15 = .ok (.getfield 169, 3) := by decide +kernel
theorem dX9_image_18 : decode cX9_image 18 = .ok (.putfield 361, 3) := by decide +kernel
theorem dX9_image_21 : decode cX9_image 21 = .ok (.aload_n 0, 1) := by decide +kernel
theorem dX9_image_22 : decode cX9_image 22 = .ok (.aload_n 0, 1) := by decide +kernel
theorem dX9_image_23 : decode cX9_image 23 = .ok (.getfield 29, 3) := by decide +kernel
theorem dX9_image_26 : decode cX9_image 26 = .ok (.putfield 364, 3) := by decide +kernel
theorem dX9_image_29 : decode cX9_image 29 = .ok (.aload_n 0, 1) := by decide +kernel
theorem dX9_image_30 : decode cX9_image 30 = .ok (.aload_n 0, 1) := by decide +kernel
theorem dX9_image_31 : decode cX9_image 31 = .ok (.getfield 172, 3) := by decide +kernel
theorem dX9_image_34 : decode cX9_image 34 = .ok (.putfield 367, 3) := by decide +kernel
theorem dX9_image_37 : decode cX9_image 37 = .ok (.aload_n 0, 1) := by decide +kernel
theorem dX9_image_38 : decode cX9_image 38 = .ok (.aload_n 0, 1) := by decide +kernel
theorem dX9_image_39 : decode cX9_image 39 = .ok (.getfield 124, 3) := by decide +kernel
theorem dX9_image_42 : decode cX9_image 42 = .ok (.putfield 370, 3) := by decide +kernel
theorem dX9_image_45 : decode cX9_image 45 = .ok (.aload_n 0, 1) := by decide +kernel
theorem dX9_image_46 : decode cX9_image 46 = .ok (.getfield 166, 3) := by decide +kernel
theorem dX9_image_49 : decode cX9_image 49 = .ok (.ireturn, 1) := by decide +kernel
theorem dX9_back_0 : decode cX9_back 0 = .ok (.aload_n 0, 1) := by decide +kernel
theorem dX9_back_1 : decode cX9_back 1 = .ok (.getfield 355, 3) := by decide +kernel
theorem dX9_back_4 : decode cX9_back 4 = .ok (.ifCond .ne 6, 3) := by decide +kernel
theorem dX9_back_7 : decode cX9_back 7 = .ok (.bipush (-5), 2) := by decide +kernel
theorem dX9_back_9 : decode cX9_back 9 = .ok (.ireturn, 1) := by decide +kernel
theorem dX9_back_10 : decode cX9_back 10 = .ok (.aload_n 0, 1) := by decide +kernel
theorem dX9_back_11 : decode cX9_back 11 = .ok (.aload_n 0, 1) := by decide +kernel
theorem dX9_back_12 : decode cX9_back 12 = .ok (.getfield 358, 3) := by decide +kernel
theorem dX9_back_15 : decode cX9_back 15 = .ok (.putfield 166, 3) := by decide +kernel
theorem dX9_back_18 : decode cX9_back 18 = .ok (.aload_n 0, 1) := by decide +kernel
theorem dX9_back_19 : decode cX9_back 19 = .ok (.aload_n 0, 1) := by decide +kernel
theorem dX9_back_20 : decode cX9_back 20 = .ok (.getfield 361, 3) := by decide +kernel
theorem dX9_back_23 : decode cX9_back 23 = .ok (.putfield 169, 3) := by decide +kernel
theorem dX9_back_26 : decode cX9_back 26 = .ok (.aload_n 0, 1) := by decide +kernel
theorem dX9_back_27 : decode cX9_back 27 = .ok (.aload_n 0, 1) := by decide +kernel
theorem dX9_back_28 : decode cX9_back 28 = .ok (.getfield 364, 3) := by decide +kernel
theorem dX9_back_31 : decode cX9_back 31 = .ok (.putfield 29, 3) := by decide +kernel
theorem dX9_back_34 : decode cX9_back 34 = .ok (.aload_n 0, 1) := by decide +kernel
theorem dX9_back_35 : decode cX9_back 35 = .ok (.aload_n 0, 1) := by decide +kernel
theorem dX9_back_36 : decode cX9_back 36 = .ok (.getfield 367, 3) := by decide +kernel
theorem dX9_back_39 : decode cX9_back 39 = .ok (.putfield 172, 3) := by decide +kernel
theorem dX9_back_42 : decode cX9_back 42 = .ok (.aload_n 0, 1) := by decide +kernel
theorem dX9_back_43 : decode cX9_back 43 = .ok (.aload_n 0, 1) := by decide +kernel
theorem dX9_back_44 : decode cX9_back 44 = .ok (.getfield 370, 3) := by decide +kernel
theorem dX9_back_47 : decode cX9_back 47 = .ok (.putfield 124, 3) := by decide +kernel
theorem dX9_back_50 : decode cX9_back 50 = .ok (.aload_n 0, 1) := by decide +kernel
theorem dX9_back_51 : decode cX9_back 51 = .ok (.getfield 166, 3) := by decide +kernel
theorem dX9_back_54 : decode cX9_back 54 = .ok (.ireturn, 1) := by decide +kernel
theorem dX9_stones_0 : decode cX9_stones 0 = .ok (.iconst 0, 1) := by decide +kernel
theorem dX9_stones_1 : decode cX9_stones 1 = .ok (.istore_n 1, 1) := by decide +kernel
theorem dX9_stones_2 : decode cX9_stones 2 = .ok (.iconst 0, 1) := by decide +kernel
theorem dX9_stones_3 : decode cX9_stones 3 = .ok (.istore_n 2, 1) := by decide +kernel
theorem dX9_stones_4 : decode cX9_stones 4 = .ok (.iload_n 2, 1) := by decide +kernel
theorem dX9_stones_5 : decode cX9_stones 5 = .ok (.bipush 36, 2) := by decide +kernel
theorem dX9_stones_7 : decode cX9_stones 7 = .ok (.if_icmp .ge 18, 3) := by decide +kernel
theorem dX9_stones_10 : decode cX9_stones 10 = .ok (.iload_n 1, 1) := by decide +kernel
theorem dX9_stones_11 : decode cX9_stones 11 = .ok (.aload_n 0, 1) := by decide +kernel
theorem dX9_stones_12 : decode cX9_stones 12 = .ok (.getfield 13, 3) := by decide +kernel
theorem dX9_stones_15 : decode cX9_stones 15 = .ok (.iload_n 2, 1) := by decide +kernel
theorem dX9_stones_16 : decode cX9_stones 16 = .ok (.iaload, 1) := by decide +kernel
theorem dX9_stones_17 : decode cX9_stones 17 = .ok (.iadd, 1) := by decide +kernel
theorem dX9_stones_18 : decode cX9_stones 18 = .ok (.istore_n 1, 1) := by decide +kernel
theorem dX9_stones_19 : decode cX9_stones 19 = .ok (.iinc 2 1, 3) := by decide +kernel
theorem dX9_stones_22 : decode cX9_stones 22 = .ok (.goto (-18), 3) := by decide +kernel
theorem dX9_stones_25 : decode cX9_stones 25 = .ok (.iload_n 1, 1) := by decide +kernel
theorem dX9_stones_26 : decode cX9_stones 26 = .ok (.ireturn, 1) := by decide +kernel
theorem dX9_hollows_0 : decode cX9_hollows 0 = .ok (.iconst 0, 1) := by decide +kernel
theorem dX9_hollows_1 : decode cX9_hollows 1 = .ok (.istore_n 1, 1) := by decide +kernel
theorem dX9_hollows_2 : decode cX9_hollows 2 = .ok (.iconst 0, 1) := by decide +kernel
theorem dX9_hollows_3 : decode cX9_hollows 3 = .ok (.istore_n 2, 1) := by decide +kernel
theorem dX9_hollows_4 : decode cX9_hollows 4 = .ok (.iload_n 2, 1) := by decide +kernel
theorem dX9_hollows_5 : decode cX9_hollows 5 = .ok (.bipush 36, 2) := by decide +kernel
theorem dX9_hollows_7 : decode cX9_hollows 7 = .ok (.if_icmp .ge 20, 3) := by decide +kernel
theorem dX9_hollows_10 : decode cX9_hollows 10 = .ok (.aload_n 0, 1) := by decide +kernel
theorem dX9_hollows_11 : decode cX9_hollows 11 = .ok (.iload_n 2, 1) := by decide +kernel
theorem dX9_hollows_12 : decode cX9_hollows 12 = .ok (.invokevirtual 160, 3) := by decide +kernel
theorem dX9_hollows_15 : decode cX9_hollows 15 = .ok (.ifCond .eq 6, 3) := by decide +kernel
theorem dX9_hollows_18 : decode cX9_hollows 18 = .ok (.iinc 1 1, 3) := by decide +kernel
theorem dX9_hollows_21 : decode cX9_hollows 21 = .ok (.iinc 2 1, 3) := by decide +kernel
theorem dX9_hollows_24 : decode cX9_hollows 24 = .ok (.goto (-20), 3) := by decide +kernel
theorem dX9_hollows_27 : decode cX9_hollows 27 = .ok (.iload_n 1, 1) := by decide +kernel
theorem dX9_hollows_28 : decode cX9_hollows 28 = .ok (.ireturn, 1) := by decide +kernel
theorem dX9_isBody_0 : decode cX9_isBody 0 = .ok (.iload_n 1, 1) := by decide +kernel
theorem dX9_isBody_1 : decode cX9_isBody 1 = .ok (.iconst 0, 1) := by decide +kernel
theorem dX9_isBody_2 : decode cX9_isBody 2 = .ok (.aload_n 0, 1) := by decide +kernel
theorem dX9_isBody_3 : decode cX9_isBody 3 = .ok (.getfield 373, 3) := by decide +kernel
theorem dX9_isBody_6 : decode cX9_isBody 6 = .ok (.iconst 1, 1) := by decide +kernel
theorem dX9_isBody_7 : decode cX9_isBody 7 = .ok (.isub, 1) := by decide +kernel
theorem dX9_isBody_8 : decode cX9_isBody 8 = .ok (.invokestatic 116, 3) := by decide +kernel
theorem dX9_isBody_11 : decode cX9_isBody 11 = .ok (.ireturn, 1) := by decide +kernel
theorem dX9_ran_0 : decode cX9_ran 0 = .ok (.aload_n 0, 1) := by decide +kernel
theorem dX9_ran_1 : decode cX9_ran 1 = .ok (.getfield 376, 3) := by decide +kernel
theorem dX9_ran_4 : decode cX9_ran 4 = .ok (.bipush 24, 2) := by decide +kernel
theorem dX9_ran_6 : decode cX9_ran 6 = .ok (.if_icmp .ge 13, 3) := by decide +kernel
theorem dX9_ran_9 : decode cX9_ran 9 = .ok (.aload_n 0, 1) := by decide +kernel
theorem dX9_ran_10 : decode cX9_ran 10 = .ok (.getfield 97, 3) := by decide +kernel
theorem dX9_ran_13 : decode cX9_ran 13 = .ok (.aload_n 0, 1) := by decide +kernel
theorem dX9_ran_14 : decode cX9_ran 14 = .ok (.getfield 376, 3) := by decide +kernel
theorem dX9_ran_17 : decode cX9_ran 17 = .ok (.iload_n 1, 1) := by decide +kernel
theorem dX9_ran_18 : decode cX9_ran 18 = .ok (.iastore, 1) := by decide +kernel
theorem dX9_ran_19 : decode cX9_ran 19 = .ok (.aload_n 0, 1) := by decide +kernel
theorem dX9_ran_20 : decode cX9_ran 20 = .ok (.dup, 1) := by decide +kernel
theorem dX9_ran_21 : decode cX9_ran 21 = .ok (.getfield 376, 3) := by decide +kernel
theorem dX9_ran_24 : decode cX9_ran 24 = .ok (.iconst 1, 1) := by decide +kernel
theorem dX9_ran_25 : decode cX9_ran 25 = .ok (.iadd, 1) := by decide +kernel
theorem dX9_ran_26 : decode cX9_ran 26 = .ok (.putfield 376, 3) := by decide +kernel
theorem dX9_ran_29 : decode cX9_ran 29 = .ok (.return_, 1) := by decide +kernel
theorem dX9_trace_0 : decode cX9_trace 0 = .ok (.iload_n 1, 1) := by decide +kernel
theorem dX9_trace_1 : decode cX9_trace 1 = .ok (.ifCond .lt 26, 3) := by decide +kernel
theorem dX9_trace_4 : decode cX9_trace 4 = .ok (.iload_n 1, 1) := by decide +kernel
theorem dX9_trace_5 : decode cX9_trace 5 = .ok (.aload_n 0, 1) := by decide +kernel
theorem dX9_trace_6 : decode cX9_trace 6 = .ok (.getfield 376, 3) := by decide +kernel
theorem dX9_trace_9 : decode cX9_trace 9 = .ok (.if_icmp .ge 18, 3) := by decide +kernel
theorem dX9_trace_12 : decode cX9_trace 12 = .ok (.iload_n 1, 1) := by decide +kernel
theorem dX9_trace_13 : decode cX9_trace 13 = .ok (.bipush 24, 2) := by decide +kernel
theorem dX9_trace_15 : decode cX9_trace 15 = .ok (.if_icmp .ge 12, 3) := by decide +kernel
theorem dX9_trace_18 : decode cX9_trace 18 = .ok (.aload_n 0, 1) := by decide +kernel
theorem dX9_trace_19 : decode cX9_trace 19 = .ok (.getfield 97, 3) := by decide +kernel
theorem dX9_trace_22 : decode cX9_trace 22 = .ok (.iload_n 1, 1) := by decide +kernel
theorem dX9_trace_23 : decode cX9_trace 23 = .ok (.iaload, 1) := by decide +kernel
theorem dX9_trace_24 : decode cX9_trace 24 = .ok (.goto 4, 3) := by decide +kernel
theorem dX9_trace_27 : decode cX9_trace 27 = .ok (.iconst (-1), 1) := by decide +kernel
theorem dX9_trace_28 : decode cX9_trace 28 = .ok (.ireturn, 1) := by decide +kernel
theorem dX9_body_0 : decode cX9_body 0 = .ok (.iload_n 1, 1) := by decide +kernel
theorem dX9_body_1 : decode cX9_body 1 = .ok (.iconst 0, 1) := by decide +kernel
theorem dX9_body_2 : decode cX9_body 2 = .ok (.bipush 7, 2) := by decide +kernel
theorem dX9_body_4 : decode cX9_body 4 = .ok (.invokestatic 116, 3) := by decide +kernel
theorem dX9_body_7 : decode cX9_body 7 = .ok (.ifCond .ne 5, 3) := by decide +kernel
theorem dX9_body_10 : decode cX9_body 10 = .ok (.iconst (-1), 1) := by decide +kernel
theorem dX9_body_11 : decode cX9_body 11 = .ok (.ireturn, 1) := by decide +kernel
theorem dX9_body_12 : decode cX9_body 12 = .ok (.aload_n 0, 1) := by decide +kernel
theorem dX9_body_13 : decode cX9_body 13 = .ok (.getfield 373, 3) := by decide +kernel
theorem dX9_body_16 : decode cX9_body 16 = .ok (.bipush 50, 2) := by decide +kernel
theorem dX9_body_18 : decode cX9_body 18 = .ok (.if_icmp .ne 6, 3) := by decide +kernel
theorem dX9_body_21 : decode cX9_body 21 = .ok (.bipush (-3), 2) := by decide +kernel
theorem dX9_body_23 : decode cX9_body 23 = .ok (.ireturn, 1) := by decide +kernel
theorem dX9_body_24 : decode cX9_body 24 = .ok (.aload_n 0, 1) := by decide +kernel
theorem dX9_body_25 : decode cX9_body 25 = .ok (.getfield 94, 3) := by decide +kernel
theorem dX9_body_28 : decode cX9_body 28 = .ok (.aload_n 0, 1) := by decide +kernel
theorem dX9_body_29 : decode cX9_body 29 = .ok (.getfield 373, 3) := by decide +kernel
theorem dX9_body_32 : decode cX9_body 32 = .ok (.iload_n 1, 1) := by decide +kernel
theorem dX9_body_33 : decode cX9_body 33 = .ok (.iastore, 1) := by decide +kernel
theorem dX9_body_34 : decode cX9_body 34 = .ok (.aload_n 0, 1) := by decide +kernel
theorem dX9_body_35 : decode cX9_body 35 = .ok (.dup, 1) := by decide +kernel
theorem dX9_body_36 : decode cX9_body 36 = .ok (.getfield 373, 3) := by decide +kernel
theorem dX9_body_39 : decode cX9_body 39 = .ok (.iconst 1, 1) := by decide +kernel
theorem dX9_body_40 : decode cX9_body 40 = .ok (.iadd, 1) := by decide +kernel
theorem dX9_body_41 : decode cX9_body 41 = .ok (.putfield 373, 3) := by decide +kernel
theorem dX9_body_44 : decode cX9_body 44 = .ok (.aload_n 0, 1) := by decide +kernel
theorem dX9_body_45 : decode cX9_body 45 = .ok (.getfield 373, 3) := by decide +kernel
theorem dX9_body_48 : decode cX9_body 48 = .ok (.iconst 1, 1) := by decide +kernel
theorem dX9_body_49 : decode cX9_body 49 = .ok (.isub, 1) := by decide +kernel
theorem dX9_body_50 : decode cX9_body 50 = .ok (.ireturn, 1) := by decide +kernel
theorem dX9_isUnder_0 : decode cX9_isUnder 0 = .ok (.iload_n 1, 1) := by decide +kernel
theorem dX9_isUnder_1 : decode cX9_isUnder 1 = .ok (.ifCond .eq 55, 3) := by decide +kernel
theorem dX9_isUnder_4 : decode cX9_isUnder 4 = .ok (.iload_n 0, 1) := by decide +kernel
theorem dX9_isUnder_5 : decode cX9_isUnder 5 = .ok (.iload_n 1, 1) := by decide +kernel
theorem dX9_isUnder_6 : decode cX9_isUnder 6 = .ok (.if_icmp .eq 50, 3) := by decide +kernel
theorem dX9_isUnder_9 : decode cX9_isUnder 9 = .ok (.iload_n 1, 1) := by decide +kernel
theorem dX9_isUnder_10 : decode cX9_isUnder 10 = .ok (.iconst 1, 1) := by decide +kernel
theorem dX9_isUnder_11 : decode cX9_isUnder 11 = .ok (.if_icmp .ne 8, 3) := by decide +kernel
theorem dX9_isUnder_14 : decode cX9_isUnder 14 = .ok (.iload_n 0, 1) := by decide +kernel
theorem dX9_isUnder_15 : decode cX9_isUnder 15 = .ok (.iconst 4, 1) := by decide +kernel
theorem dX9_isUnder_16 : decode cX9_isUnder 16 = .ok (.if_icmp .eq 40, 3) := by decide +kernel
theorem dX9_isUnder_19 : decode cX9_isUnder 19 = .ok (.iload_n 1, 1) := by decide +kernel
theorem dX9_isUnder_20 : decode cX9_isUnder 20 = .ok (.iconst 2, 1) := by decide +kernel
theorem dX9_isUnder_21 : decode cX9_isUnder 21 = .ok (.if_icmp .ne 13, 3) := by decide +kernel
theorem dX9_isUnder_24 : decode cX9_isUnder 24 = .ok (.iload_n 0, 1) := by decide +kernel
theorem dX9_isUnder_25 : decode cX9_isUnder 25 = .ok (.iconst 3, 1) := by decide +kernel
theorem dX9_isUnder_26 : decode cX9_isUnder 26 = .ok (.if_icmp .eq 30, 3) := by decide +kernel
theorem dX9_isUnder_29 : decode cX9_isUnder 29 = .ok (.iload_n 0, 1) := by decide +kernel
theorem dX9_isUnder_30 : decode cX9_isUnder 30 = .ok (.iconst 5, 1) := by decide +kernel
theorem dX9_isUnder_31 : decode cX9_isUnder 31 = .ok (.if_icmp .eq 25, 3) := by decide +kernel
theorem dX9_isUnder_34 : decode cX9_isUnder 34 = .ok (.iload_n 1, 1) := by decide +kernel
theorem dX9_isUnder_35 : decode cX9_isUnder 35 = .ok (.iconst 3, 1) := by decide +kernel
theorem dX9_isUnder_36 : decode cX9_isUnder 36 = .ok (.if_icmp .ne 8, 3) := by decide +kernel
theorem dX9_isUnder_39 : decode cX9_isUnder 39 = .ok (.iload_n 0, 1) := by decide +kernel
theorem dX9_isUnder_40 : decode cX9_isUnder 40 = .ok (.iconst 5, 1) := by decide +kernel
theorem dX9_isUnder_41 : decode cX9_isUnder 41 = .ok (.if_icmp .eq 15, 3) := by decide +kernel
theorem dX9_isUnder_44 : decode cX9_isUnder 44 = .ok (.iload_n 1, 1) := by decide +kernel
theorem dX9_isUnder_45 : decode cX9_isUnder 45 = .ok (.bipush 6, 2) := by decide +kernel
theorem dX9_isUnder_47 : decode cX9_isUnder 47 = .ok (.if_icmp .ne 13, 3) := by decide +kernel
theorem dX9_isUnder_50 : decode cX9_isUnder 50 = .ok (.iload_n 0, 1) := by decide +kernel
theorem dX9_isUnder_51 : decode cX9_isUnder 51 = .ok (.bipush 7, 2) := by decide +kernel
theorem dX9_isUnder_53 : decode cX9_isUnder 53 = .ok (.if_icmp .ne 7, 3) := by decide +kernel
theorem dX9_isUnder_56 : decode cX9_isUnder 56 = .ok (.iconst 1, 1) := by decide +kernel
theorem dX9_isUnder_57 : decode cX9_isUnder 57 = .ok (.goto 4, 3) := by decide +kernel
theorem dX9_isUnder_60 : decode cX9_isUnder 60 = .ok (.iconst 0, 1) := by decide +kernel
theorem dX9_isUnder_61 : decode cX9_isUnder 61 = .ok (.ireturn, 1) := by decide +kernel
theorem dX9_plainTurns_0 : decode cX9_plainTurns 0 = .ok (.aload_n 0, 1) := by decide +kernel
theorem dX9_plainTurns_1 : decode cX9_plainTurns 1 = .ok (.iconst 1, 1) := by decide +kernel
theorem dX9_plainTurns_2 : decode cX9_plainTurns 2 = .ok (.invokevirtual 379, 3) := by decide +kernel
theorem dX9_plainTurns_5 : decode cX9_plainTurns 5 = .ok (.iload_n 2, 1) := by decide +kernel
theorem dX9_plainTurns_6 : decode cX9_plainTurns 6 = .ok (.iload_n 1, 1) := by decide +kernel
theorem dX9_plainTurns_7 : decode cX9_plainTurns 7 = .ok (.iadd, 1) := by decide +kernel
theorem dX9_plainTurns_8 : decode cX9_plainTurns 8 = .ok (.ireturn, 1) := by decide +kernel
theorem dX9_northTurns_0 : decode cX9_northTurns 0 = .ok (.aload_n 0, 1) := by decide +kernel
theorem dX9_northTurns_1 : decode cX9_northTurns 1 = .ok (.bipush 70, 2) := by decide +kernel
theorem dX9_northTurns_3 : decode cX9_northTurns 3 = .ok (.invokevirtual 379, 3) := by decide +kernel
theorem dX9_northTurns_6 : decode cX9_northTurns 6 = .ok (.aload_n 0, 1) := by decide +kernel
theorem dX9_northTurns_7 : decode cX9_northTurns 7 = .ok (.iload_n 1, 1) := by decide +kernel
theorem dX9_northTurns_8 : decode cX9_northTurns 8 = .ok (.iload_n 2, 1) := by decide +kernel
theorem dX9_northTurns_9 : decode cX9_northTurns 9 = .ok (.invokevirtual 382, 3) := by decide +kernel
theorem dX9_northTurns_12 : decode cX9_northTurns 12 = .ok (.iconst 2, 1) := by decide +kernel
theorem dX9_northTurns_13 : decode cX9_northTurns 13 = .ok (.imul, 1) := by decide +kernel
theorem dX9_northTurns_14 : decode cX9_northTurns 14 = .ok (.ireturn, 1) := by decide +kernel
theorem dX9_turning_0 : decode cX9_turning 0 = .ok (.aload_n 0, 1) := by decide +kernel
theorem dX9_turning_1 : decode cX9_turning 1 = .ok (.getfield 94, 3) := by decide +kernel
theorem dX9_turning_4 : decode cX9_turning 4 = .ok (.iload_n 1, 1) := by decide +kernel
theorem dX9_turning_5 : decode cX9_turning 5 = .ok (.iaload, 1) := by decide +kernel
theorem dX9_turning_6 : decode cX9_turning 6 = .ok (.iconst 1, 1) := by decide +kernel
theorem dX9_turning_7 : decode cX9_turning 7 = .ok (.invokestatic 385, 3) := by decide +kernel
theorem dX9_turning_10 : decode cX9_turning 10 = .ok (.ifCond .eq 18, 3) := by decide +kernel
theorem dX9_turning_13 : decode cX9_turning 13 = .ok (.aload_n 0, 1) := by decide +kernel
theorem dX9_turning_14 : decode cX9_turning 14 = .ok (.bipush 20, 2) := by decide +kernel
theorem dX9_turning_16 : decode cX9_turning 16 = .ok (.invokevirtual 379, 3) := by decide +kernel
theorem dX9_turning_19 : decode cX9_turning 19 = .ok (.aload_n 0, 1) := by decide +kernel
theorem dX9_turning_20 : decode cX9_turning 20 = .ok (.iload_n 1, 1) := by decide +kernel
theorem dX9_turning_21 : decode cX9_turning 21 = .ok (.iload_n 2, 1) := by decide +kernel
theorem dX9_turning_22 : decode cX9_turning 22 = .ok (.invokevirtual 382, 3) := by decide +kernel
theorem dX9_turning_25 : decode cX9_turning 25 = .ok (.iconst 3, 1) := by decide +kernel
theorem dX9_turning_26 : decode cX9_turning 26 = .ok (.iadd, 1) := by decide +kernel
theorem dX9_turning_27 : decode cX9_turning 27 = .ok (.ireturn, 1) := by decide +kernel
theorem dX9_turning_28 : decode cX9_turning 28 = .ok (.aload_n 0, 1) := by decide +kernel
theorem dX9_turning_29 : decode cX9_turning 29 = .ok (.getfield 94, 3) := by decide +kernel
theorem dX9_turning_32 : decode cX9_turning 32 = .ok (.iload_n 1, 1) := by decide +kernel
theorem dX9_turning_33 : decode cX9_turning 33 = .ok (.iaload, 1) := by decide +kernel
theorem dX9_turning_34 : decode cX9_turning 34 = .ok (.bipush 7, 2) := by decide +kernel
theorem dX9_turning_36 : decode cX9_turning 36 = .ok (.if_icmp .ne 18, 3) := by decide +kernel
theorem dX9_turning_39 : decode cX9_turning 39 = .ok (.aload_n 0, 1) := by decide +kernel
theorem dX9_turning_40 : decode cX9_turning 40 = .ok (.bipush 81, 2) := by decide +kernel
theorem dX9_turning_42 : decode cX9_turning 42 = .ok (.invokevirtual 379, 3) := by decide +kernel
theorem dX9_turning_45 : decode cX9_turning 45 = .ok (.aload_n 0, 1) := by decide +kernel
theorem dX9_turning_46 : decode cX9_turning 46 = .ok (.iload_n 1, 1) := by decide +kernel
theorem dX9_turning_47 : decode cX9_turning 47 = .ok (.iload_n 2, 1) := by decide +kernel
theorem dX9_turning_48 : decode cX9_turning 48 = .ok (.invokevirtual 388, 3) := by decide +kernel
theorem dX9_turning_51 : decode cX9_turning 51 = .ok (.iconst 1, 1) := by decide +kernel
theorem dX9_turning_52 : decode cX9_turning 52 = .ok (.isub, 1) := by decide +kernel
theorem dX9_turning_53 : decode cX9_turning 53 = .ok (.ireturn, 1) := by decide +kernel
theorem dX9_turning_54 : decode cX9_turning 54 = .ok (.aload_n 0, 1) := by decide +kernel
theorem dX9_turning_55 : decode cX9_turning 55 = .ok (.getfield 94, 3) := by decide +kernel
theorem dX9_turning_58 : decode cX9_turning 58 = .ok (.iload_n 1, 1) := by decide +kernel
theorem dX9_turning_59 : decode cX9_turning 59 = .ok (.iaload, 1) := by decide +kernel
theorem dX9_turning_60 : decode cX9_turning 60 = .ok (.bipush 6, 2) := by decide +kernel
theorem dX9_turning_62 : decode cX9_turning 62 = .ok (.if_icmp .ne 12, 3) := by decide +kernel
theorem dX9_turning_65 : decode cX9_turning 65 = .ok (.aload_n 0, 1) := by decide +kernel
theorem dX9_turning_66 : decode cX9_turning 66 = .ok (.iload_n 1, 1) := by decide +kernel
theorem dX9_turning_67 : decode cX9_turning 67 = .ok (.iload_n 2, 1) := by decide +kernel
theorem dX9_turning_68 : decode cX9_turning 68 = .ok (.invokevirtual 388, 3) := by decide +kernel
theorem dX9_turning_71 : decode cX9_turning 71 = .ok (.goto 9, 3) := by decide +kernel
theorem dX9_turning_74 : decode cX9_turning 74 = .ok (.aload_n 0, 1) := by decide +kernel
theorem dX9_turning_75 : decode cX9_turning 75 = .ok (.iload_n 1, 1) := by decide +kernel
theorem dX9_turning_76 : decode cX9_turning 76 = .ok (.iload_n 2, 1) := by decide +kernel
theorem dX9_turning_77 : decode cX9_turning 77 = .ok (.invokevirtual 382, 3) := by decide +kernel
theorem dX9_turning_80 : decode cX9_turning 80 = .ok (.ireturn, 1) := by decide +kernel
theorem dX9_plainMoves_0 : decode cX9_plainMoves 0 = .ok (.aload_n 0, 1) := by decide +kernel
theorem dX9_plainMoves_1 : decode cX9_plainMoves 1 = .ok (.bipush 10, 2) := by decide +kernel
theorem dX9_plainMoves_3 : decode cX9_plainMoves 3 = .ok (.invokevirtual 379, 3) := by decide +kernel
theorem dX9_plainMoves_6 : decode cX9_plainMoves 6 = .ok (.aload_n 0, 1) := by decide +kernel
theorem dX9_plainMoves_7 : decode cX9_plainMoves 7 = .ok (.iload_n 1, 1) := by decide +kernel
theorem dX9_plainMoves_8 : decode cX9_plainMoves 8 = .ok (.iload_n 2, 1) := by decide +kernel
theorem dX9_plainMoves_9 : decode cX9_plainMoves 9 = .ok (.invokevirtual 391, 3) := by decide +kernel
theorem dX9_plainMoves_12 : decode cX9_plainMoves 12 = .ok (.iconst 2, 1) := by decide +kernel
theorem dX9_plainMoves_13 : decode cX9_plainMoves 13 = .ok (.imul, 1) := by decide +kernel
theorem dX9_plainMoves_14 : decode cX9_plainMoves 14 = .ok (.ireturn, 1) := by decide +kernel
theorem dX9_dustyMoves_0 : decode cX9_dustyMoves 0 = .ok (.aload_n 0, 1) := by decide +kernel
theorem dX9_dustyMoves_1 : decode cX9_dustyMoves 1 = .ok (.bipush 30, 2) := by decide +kernel
theorem dX9_dustyMoves_3 : decode cX9_dustyMoves 3 = .ok (.invokevirtual 379, 3) := by decide +kernel
theorem dX9_dustyMoves_6 : decode cX9_dustyMoves 6 = .ok (.aload_n 0, 1) := by decide +kernel
theorem dX9_dustyMoves_7 : decode cX9_dustyMoves 7 = .ok (.iload_n 1, 1) := by decide +kernel
theorem dX9_dustyMoves_8 : decode cX9_dustyMoves 8 = .ok (.iload_n 2, 1) := by decide +kernel
theorem dX9_dustyMoves_9 : decode cX9_dustyMoves 9 = .ok (.invokevirtual 394, 3) := by decide +kernel
theorem dX9_dustyMoves_12 : decode cX9_dustyMoves 12 = .ok (.ineg, 1) := by decide +kernel
theorem dX9_dustyMoves_13 : decode cX9_dustyMoves 13 = .ok (.ireturn, 1) := by decide +kernel
theorem dX9_moving_0 : decode cX9_moving 0 = .ok (.aload_n 0, 1) := by decide +kernel
theorem dX9_moving_1 : decode cX9_moving 1 = .ok (.getfield 94, 3) := by decide +kernel
theorem dX9_moving_4 : decode cX9_moving 4 = .ok (.iload_n 1, 1) := by decide +kernel
theorem dX9_moving_5 : decode cX9_moving 5 = .ok (.iaload, 1) := by decide +kernel
theorem dX9_moving_6 : decode cX9_moving 6 = .ok (.iconst 3, 1) := by decide +kernel
theorem dX9_moving_7 : decode cX9_moving 7 = .ok (.invokestatic 385, 3) := by decide +kernel
theorem dX9_moving_10 : decode cX9_moving 10 = .ok (.ifCond .eq 18, 3) := by decide +kernel
theorem dX9_moving_13 : decode cX9_moving 13 = .ok (.aload_n 0, 1) := by decide +kernel
theorem dX9_moving_14 : decode cX9_moving 14 = .ok (.bipush 41, 2) := by decide +kernel
theorem dX9_moving_16 : decode cX9_moving 16 = .ok (.invokevirtual 379, 3) := by decide +kernel
theorem dX9_moving_19 : decode cX9_moving 19 = .ok (.aload_n 0, 1) := by decide +kernel
theorem dX9_moving_20 : decode cX9_moving 20 = .ok (.iload_n 1, 1) := by decide +kernel
theorem dX9_moving_21 : decode cX9_moving 21 = .ok (.iload_n 2, 1) := by decide +kernel
theorem dX9_moving_22 : decode cX9_moving 22 = .ok (.iconst 1, 1) := by decide +kernel
theorem dX9_moving_23 : decode cX9_moving 23 = .ok (.iadd, 1) := by decide +kernel
theorem dX9_moving_24 : decode cX9_moving 24 = .ok (.invokevirtual 397, 3) := by decide +kernel
theorem dX9_moving_27 : decode cX9_moving 27 = .ok (.ireturn, 1) := by decide +kernel
theorem dX9_moving_28 : decode cX9_moving 28 = .ok (.aload_n 0, 1) := by decide +kernel
theorem dX9_moving_29 : decode cX9_moving 29 = .ok (.getfield 94, 3) := by decide +kernel
theorem dX9_moving_32 : decode cX9_moving 32 = .ok (.iload_n 1, 1) := by decide +kernel
theorem dX9_moving_33 : decode cX9_moving 33 = .ok (.iaload, 1) := by decide +kernel
theorem dX9_moving_34 : decode cX9_moving 34 = .ok (.bipush 7, 2) := by decide +kernel
theorem dX9_moving_36 : decode cX9_moving 36 = .ok (.if_icmp .ne 25, 3) := by decide +kernel
theorem dX9_moving_39 : decode cX9_moving 39 = .ok (.aload_n 0, 1) := by decide +kernel
theorem dX9_moving_40 : decode cX9_moving 40 = .ok (.bipush 80, 2) := by decide +kernel
theorem dX9_moving_42 : decode cX9_moving 42 = .ok (.invokevirtual 379, 3) := by decide +kernel
theorem dX9_moving_45 : decode cX9_moving 45 = .ok (.aload_n 0, 1) := by decide +kernel
theorem dX9_moving_46 : decode cX9_moving 46 = .ok (.iload_n 1, 1) := by decide +kernel
theorem dX9_moving_47 : decode cX9_moving 47 = .ok (.iload_n 2, 1) := by decide +kernel
theorem dX9_moving_48 : decode cX9_moving 48 = .ok (.invokevirtual 394, 3) := by decide +kernel
theorem dX9_moving_51 : decode cX9_moving 51 = .ok (.istore_n 3, 1) := by decide +kernel
theorem dX9_moving_52 : decode cX9_moving 52 = .ok (.iload_n 3, 1) := by decide +kernel
theorem dX9_moving_53 : decode cX9_moving 53 = .ok (.aload_n 0, 1) := by decide +kernel
theorem dX9_moving_54 : decode cX9_moving 54 = .ok (.iload_n 1, 1) := by decide +kernel
theorem dX9_moving_55 : decode cX9_moving 55 = .ok (.iconst 2, 1) := by decide +kernel
theorem dX9_moving_56 : decode cX9_moving 56 = .ok (.invokevirtual 400, 3) := by decide +kernel
theorem dX9_moving_59 : decode cX9_moving 59 = .ok (.iadd, 1) := by decide +kernel
theorem dX9_moving_60 : decode cX9_moving 60 = .ok (.ireturn, 1) := by decide +kernel
theorem dX9_moving_61 : decode cX9_moving 61 = .ok (.aload_n 0, 1) := by decide +kernel
theorem dX9_moving_62 : decode cX9_moving 62 = .ok (.getfield 94, 3) := by decide +kernel
theorem dX9_moving_65 : decode cX9_moving 65 = .ok (.iload_n 1, 1) := by decide +kernel
theorem dX9_moving_66 : decode cX9_moving 66 = .ok (.iaload, 1) := by decide +kernel
theorem dX9_moving_67 : decode cX9_moving 67 = .ok (.iconst 2, 1) := by decide +kernel
theorem dX9_moving_68 : decode cX9_moving 68 = .ok (.if_icmp .ne 12, 3) := by decide +kernel
theorem dX9_moving_71 : decode cX9_moving 71 = .ok (.aload_n 0, 1) := by decide +kernel
theorem dX9_moving_72 : decode cX9_moving 72 = .ok (.iload_n 1, 1) := by decide +kernel
theorem dX9_moving_73 : decode cX9_moving 73 = .ok (.iload_n 2, 1) := by decide +kernel
theorem dX9_moving_74 : decode cX9_moving 74 = .ok (.invokevirtual 397, 3) := by decide +kernel
theorem dX9_moving_77 : decode cX9_moving 77 = .ok (.goto 9, 3) := by decide +kernel
theorem dX9_moving_80 : decode cX9_moving 80 = .ok (.aload_n 0, 1) := by decide +kernel
theorem dX9_moving_81 : decode cX9_moving 81 = .ok (.iload_n 1, 1) := by decide +kernel
theorem dX9_moving_82 : decode cX9_moving 82 = .ok (.iload_n 2, 1) := by decide +kernel
theorem dX9_moving_83 : decode cX9_moving 83 = .ok (.invokevirtual 394, 3) := by decide +kernel
theorem dX9_moving_86 : decode cX9_moving 86 = .ok (.ireturn, 1) := by decide +kernel
theorem dX9_plainLooks_0 : decode cX9_plainLooks 0 = .ok (.aload_n 0, 1) := by decide +kernel
theorem dX9_plainLooks_1 : decode cX9_plainLooks 1 = .ok (.bipush 11, 2) := by decide +kernel
theorem dX9_plainLooks_3 : decode cX9_plainLooks 3 = .ok (.invokevirtual 379, 3) := by decide +kernel
theorem dX9_plainLooks_6 : decode cX9_plainLooks 6 = .ok (.iload_n 2, 1) := by decide +kernel
theorem dX9_plainLooks_7 : decode cX9_plainLooks 7 = .ok (.iload_n 1, 1) := by decide +kernel
theorem dX9_plainLooks_8 : decode cX9_plainLooks 8 = .ok (.ixor, 1) := by decide +kernel
theorem dX9_plainLooks_9 : decode cX9_plainLooks 9 = .ok (.ireturn, 1) := by decide +kernel
theorem dX9_cleanLooks_0 : decode cX9_cleanLooks 0 = .ok (.aload_n 0, 1) := by decide +kernel
theorem dX9_cleanLooks_1 : decode cX9_cleanLooks 1 = .ok (.bipush 40, 2) := by decide +kernel
theorem dX9_cleanLooks_3 : decode cX9_cleanLooks 3 = .ok (.invokevirtual 379, 3) := by decide +kernel
theorem dX9_cleanLooks_6 : decode cX9_cleanLooks 6 = .ok (.aload_n 0, 1) := by decide +kernel
theorem dX9_cleanLooks_7 : decode cX9_cleanLooks 7 = .ok (.iload_n 1, 1) := by decide +kernel
theorem dX9_cleanLooks_8 : decode cX9_cleanLooks 8 = .ok (.iload_n 2, 1) := by decide +kernel
theorem dX9_cleanLooks_9 : decode cX9_cleanLooks 9 = .ok (.invokevirtual 403, 3) := by decide +kernel
theorem dX9_cleanLooks_12 : decode cX9_cleanLooks 12 = .ok (.iconst 3, 1) := by decide +kernel
theorem dX9_cleanLooks_13 : decode cX9_cleanLooks 13 = .ok (.imul, 1) := by decide +kernel
theorem dX9_cleanLooks_14 : decode cX9_cleanLooks 14 = .ok (.ireturn, 1) := by decide +kernel
theorem dX9_looking_0 : decode cX9_looking 0 = .ok (.aload_n 0, 1) := by decide +kernel
theorem dX9_looking_1 : decode cX9_looking 1 = .ok (.getfield 94, 3) := by decide +kernel
theorem dX9_looking_4 : decode cX9_looking 4 = .ok (.iload_n 1, 1) := by decide +kernel
theorem dX9_looking_5 : decode cX9_looking 5 = .ok (.iaload, 1) := by decide +kernel
theorem dX9_looking_6 : decode cX9_looking 6 = .ok (.iconst 5, 1) := by decide +kernel
theorem dX9_looking_7 : decode cX9_looking 7 = .ok (.if_icmp .ne 25, 3) := by decide +kernel
theorem dX9_looking_10 : decode cX9_looking 10 = .ok (.aload_n 0, 1) := by decide +kernel
theorem dX9_looking_11 : decode cX9_looking 11 = .ok (.bipush 60, 2) := by decide +kernel
theorem dX9_looking_13 : decode cX9_looking 13 = .ok (.invokevirtual 379, 3) := by decide +kernel
theorem dX9_looking_16 : decode cX9_looking 16 = .ok (.aload_n 0, 1) := by decide +kernel
theorem dX9_looking_17 : decode cX9_looking 17 = .ok (.iload_n 1, 1) := by decide +kernel
theorem dX9_looking_18 : decode cX9_looking 18 = .ok (.iload_n 2, 1) := by decide +kernel
theorem dX9_looking_19 : decode cX9_looking 19 = .ok (.invokevirtual 406, 3) := by decide +kernel
theorem dX9_looking_22 : decode cX9_looking 22 = .ok (.istore_n 3, 1) := by decide +kernel
theorem dX9_looking_23 : decode cX9_looking 23 = .ok (.iload_n 3, 1) := by decide +kernel
theorem dX9_looking_24 : decode cX9_looking 24 = .ok (.aload_n 0, 1) := by decide +kernel
theorem dX9_looking_25 : decode cX9_looking 25 = .ok (.iload_n 1, 1) := by decide +kernel
theorem dX9_looking_26 : decode cX9_looking 26 = .ok (.iconst 2, 1) := by decide +kernel
theorem dX9_looking_27 : decode cX9_looking 27 = .ok (.invokevirtual 391, 3) := by decide +kernel
theorem dX9_looking_30 : decode cX9_looking 30 = .ok (.isub, 1) := by decide +kernel
theorem dX9_looking_31 : decode cX9_looking 31 = .ok (.ireturn, 1) := by decide +kernel
theorem dX9_looking_32 : decode cX9_looking 32 = .ok (.aload_n 0, 1) := by decide +kernel
theorem dX9_looking_33 : decode cX9_looking 33 = .ok (.getfield 94, 3) := by decide +kernel
theorem dX9_looking_36 : decode cX9_looking 36 = .ok (.iload_n 1, 1) := by decide +kernel
theorem dX9_looking_37 : decode cX9_looking 37 = .ok (.iaload, 1) := by decide +kernel
theorem dX9_looking_38 : decode cX9_looking 38 = .ok (.iconst 3, 1) := by decide +kernel
theorem dX9_looking_39 : decode cX9_looking 39 = .ok (.if_icmp .ne 12, 3) := by decide +kernel
theorem dX9_looking_42 : decode cX9_looking 42 = .ok (.aload_n 0, 1) := by decide +kernel
theorem dX9_looking_43 : decode cX9_looking 43 = .ok (.iload_n 1, 1) := by decide +kernel
theorem dX9_looking_44 : decode cX9_looking 44 = .ok (.iload_n 2, 1) := by decide +kernel
theorem dX9_looking_45 : decode cX9_looking 45 = .ok (.invokevirtual 406, 3) := by decide +kernel
theorem dX9_looking_48 : decode cX9_looking 48 = .ok (.goto 9, 3) := by decide +kernel
theorem dX9_looking_51 : decode cX9_looking 51 = .ok (.aload_n 0, 1) := by decide +kernel
theorem dX9_looking_52 : decode cX9_looking 52 = .ok (.iload_n 1, 1) := by decide +kernel
theorem dX9_looking_53 : decode cX9_looking 53 = .ok (.iload_n 2, 1) := by decide +kernel
theorem dX9_looking_54 : decode cX9_looking 54 = .ok (.invokevirtual 403, 3) := by decide +kernel
theorem dX9_looking_57 : decode cX9_looking 57 = .ok (.ireturn, 1) := by decide +kernel
theorem dX9_plainTells_0 : decode cX9_plainTells 0 = .ok (.aload_n 0, 1) := by decide +kernel
theorem dX9_plainTells_1 : decode cX9_plainTells 1 = .ok (.iconst 2, 1) := by decide +kernel
theorem dX9_plainTells_2 : decode cX9_plainTells 2 = .ok (.invokevirtual 379, 3) := by decide +kernel
theorem dX9_plainTells_5 : decode cX9_plainTells 5 = .ok (.aload_n 0, 1) := by decide +kernel
theorem dX9_plainTells_6 : decode cX9_plainTells 6 = .ok (.iload_n 1, 1) := by decide +kernel
theorem dX9_plainTells_7 : decode cX9_plainTells 7 = .ok (.iload_n 2, 1) := by decide +kernel
theorem dX9_plainTells_8 : decode cX9_plainTells 8 = .ok (.invokevirtual 409, 3) := by decide +kernel
theorem dX9_plainTells_11 : decode cX9_plainTells 11 = .ok (.istore_n 3, 1) := by decide +kernel
theorem dX9_plainTells_12 : decode cX9_plainTells 12 = .ok (.iload_n 3, 1) := by decide +kernel
theorem dX9_plainTells_13 : decode cX9_plainTells 13 = .ok (.aload_n 0, 1) := by decide +kernel
theorem dX9_plainTells_14 : decode cX9_plainTells 14 = .ok (.iload_n 1, 1) := by decide +kernel
theorem dX9_plainTells_15 : decode cX9_plainTells 15 = .ok (.iconst 1, 1) := by decide +kernel
theorem dX9_plainTells_16 : decode cX9_plainTells 16 = .ok (.invokevirtual 400, 3) := by decide +kernel
theorem dX9_plainTells_19 : decode cX9_plainTells 19 = .ok (.isub, 1) := by decide +kernel
theorem dX9_plainTells_20 : decode cX9_plainTells 20 = .ok (.ireturn, 1) := by decide +kernel
theorem dX9_telling_0 : decode cX9_telling 0 = .ok (.aload_n 0, 1) := by decide +kernel
theorem dX9_telling_1 : decode cX9_telling 1 = .ok (.getfield 94, 3) := by decide +kernel
theorem dX9_telling_4 : decode cX9_telling 4 = .ok (.iload_n 1, 1) := by decide +kernel
theorem dX9_telling_5 : decode cX9_telling 5 = .ok (.iaload, 1) := by decide +kernel
theorem dX9_telling_6 : decode cX9_telling 6 = .ok (.iconst 4, 1) := by decide +kernel
theorem dX9_telling_7 : decode cX9_telling 7 = .ok (.if_icmp .ne 18, 3) := by decide +kernel
theorem dX9_telling_10 : decode cX9_telling 10 = .ok (.aload_n 0, 1) := by decide +kernel
theorem dX9_telling_11 : decode cX9_telling 11 = .ok (.bipush 50, 2) := by decide +kernel
theorem dX9_telling_13 : decode cX9_telling 13 = .ok (.invokevirtual 379, 3) := by decide +kernel
theorem dX9_telling_16 : decode cX9_telling 16 = .ok (.aload_n 0, 1) := by decide +kernel
theorem dX9_telling_17 : decode cX9_telling 17 = .ok (.iload_n 1, 1) := by decide +kernel
theorem dX9_telling_18 : decode cX9_telling 18 = .ok (.iload_n 2, 1) := by decide +kernel
theorem dX9_telling_19 : decode cX9_telling 19 = .ok (.invokevirtual 412, 3) := by decide +kernel
theorem dX9_telling_22 : decode cX9_telling 22 = .ok (.iconst 5, 1) := by decide +kernel
theorem dX9_telling_23 : decode cX9_telling 23 = .ok (.ixor, 1) := by decide +kernel
theorem dX9_telling_24 : decode cX9_telling 24 = .ok (.ireturn, 1) := by decide +kernel
theorem dX9_telling_25 : decode cX9_telling 25 = .ok (.aload_n 0, 1) := by decide +kernel
theorem dX9_telling_26 : decode cX9_telling 26 = .ok (.getfield 94, 3) := by decide +kernel
theorem dX9_telling_29 : decode cX9_telling 29 = .ok (.iload_n 1, 1) := by decide +kernel
theorem dX9_telling_30 : decode cX9_telling 30 = .ok (.iaload, 1) := by decide +kernel
theorem dX9_telling_31 : decode cX9_telling 31 = .ok (.iconst 5, 1) := by decide +kernel
theorem dX9_telling_32 : decode cX9_telling 32 = .ok (.if_icmp .ne 18, 3) := by decide +kernel
theorem dX9_telling_35 : decode cX9_telling 35 = .ok (.aload_n 0, 1) := by decide +kernel
theorem dX9_telling_36 : decode cX9_telling 36 = .ok (.bipush 61, 2) := by decide +kernel
theorem dX9_telling_38 : decode cX9_telling 38 = .ok (.invokevirtual 379, 3) := by decide +kernel
theorem dX9_telling_41 : decode cX9_telling 41 = .ok (.aload_n 0, 1) := by decide +kernel
theorem dX9_telling_42 : decode cX9_telling 42 = .ok (.iload_n 1, 1) := by decide +kernel
theorem dX9_telling_43 : decode cX9_telling 43 = .ok (.iload_n 2, 1) := by decide +kernel
theorem dX9_telling_44 : decode cX9_telling 44 = .ok (.invokevirtual 412, 3) := by decide +kernel
theorem dX9_telling_47 : decode cX9_telling 47 = .ok (.iconst 1, 1) := by decide +kernel
theorem dX9_telling_48 : decode cX9_telling 48 = .ok (.iadd, 1) := by decide +kernel
theorem dX9_telling_49 : decode cX9_telling 49 = .ok (.ireturn, 1) := by decide +kernel
theorem dX9_telling_50 : decode cX9_telling 50 = .ok (.aload_n 0, 1) := by decide +kernel
theorem dX9_telling_51 : decode cX9_telling 51 = .ok (.iload_n 1, 1) := by decide +kernel
theorem dX9_telling_52 : decode cX9_telling 52 = .ok (.iload_n 2, 1) := by decide +kernel
theorem dX9_telling_53 : decode cX9_telling 53 = .ok (.invokevirtual 412, 3) := by decide +kernel
theorem dX9_telling_56 : decode cX9_telling 56 = .ok (.ireturn, 1) := by decide +kernel
theorem dX9_act_0 : decode cX9_act 0 = .ok (.aload_n 0, 1) := by decide +kernel
theorem dX9_act_1 : decode cX9_act 1 = .ok (.iconst 0, 1) := by decide +kernel
theorem dX9_act_2 : decode cX9_act 2 = .ok (.putfield 376, 3) := by decide +kernel
theorem dX9_act_5 : decode cX9_act 5 = .ok (.aload_n 0, 1) := by decide +kernel
theorem dX9_act_6 : decode cX9_act 6 = .ok (.iload_n 1, 1) := by decide +kernel
theorem dX9_act_7 : decode cX9_act 7 = .ok (.invokevirtual 415, 3) := by decide +kernel
theorem dX9_act_10 : decode cX9_act 10 = .ok (.ifCond .eq 12, 3) := by decide +kernel
theorem dX9_act_13 : decode cX9_act 13 = .ok (.iload_n 2, 1) := by decide +kernel
theorem dX9_act_14 : decode cX9_act 14 = .ok (.iconst 0, 1) := by decide +kernel
theorem dX9_act_15 : decode cX9_act 15 = .ok (.iconst 3, 1) := by decide +kernel
theorem dX9_act_16 : decode cX9_act 16 = .ok (.invokestatic 116, 3) := by decide +kernel
theorem dX9_act_19 : decode cX9_act 19 = .ok (.ifCond .ne 5, 3) := by decide +kernel
theorem dX9_act_22 : decode cX9_act 22 = .ok (.iconst 0, 1) := by decide +kernel
theorem dX9_act_23 : decode cX9_act 23 = .ok (.ireturn, 1) := by decide +kernel
theorem dX9_act_24 : decode cX9_act 24 = .ok (.iload_n 2, 1) := by decide +kernel
theorem dX9_act_25 : decode cX9_act 25 = .ok (.ifCond .ne 12, 3) := by decide +kernel
theorem dX9_act_28 : decode cX9_act 28 = .ok (.aload_n 0, 1) := by decide +kernel
theorem dX9_act_29 : decode cX9_act 29 = .ok (.iload_n 1, 1) := by decide +kernel
theorem dX9_act_30 : decode cX9_act 30 = .ok (.iload_n 3, 1) := by decide +kernel
theorem dX9_act_31 : decode cX9_act 31 = .ok (.invokevirtual 391, 3) := by decide +kernel
theorem dX9_act_34 : decode cX9_act 34 = .ok (.goto 37, 3) := by decide +kernel
theorem dX9_act_37 : decode cX9_act 37 = .ok (.iload_n 2, 1) := by decide +kernel
theorem dX9_act_38 : decode cX9_act 38 = .ok (.iconst 1, 1) := by decide +kernel
theorem dX9_act_39 : decode cX9_act 39 = .ok (.if_icmp .ne 12, 3) := by decide +kernel
theorem dX9_act_42 : decode cX9_act 42 = .ok (.aload_n 0, 1) := by decide +kernel
theorem dX9_act_43 : decode cX9_act 43 = .ok (.iload_n 1, 1) := by decide +kernel
theorem dX9_act_44 : decode cX9_act 44 = .ok (.iload_n 3, 1) := by decide +kernel
theorem dX9_act_45 : decode cX9_act 45 = .ok (.invokevirtual 409, 3) := by decide +kernel
theorem dX9_act_48 : decode cX9_act 48 = .ok (.goto 23, 3) := by decide +kernel
theorem dX9_act_51 : decode cX9_act 51 = .ok (.iload_n 2, 1) := by decide +kernel
theorem dX9_act_52 : decode cX9_act 52 = .ok (.iconst 2, 1) := by decide +kernel
theorem dX9_act_53 : decode cX9_act 53 = .ok (.if_icmp .ne 12, 3) := by decide +kernel
theorem dX9_act_56 : decode cX9_act 56 = .ok (.aload_n 0, 1) := by decide +kernel
theorem dX9_act_57 : decode cX9_act 57 = .ok (.iload_n 1, 1) := by decide +kernel
theorem dX9_act_58 : decode cX9_act 58 = .ok (.iload_n 3, 1) := by decide +kernel
theorem dX9_act_59 : decode cX9_act 59 = .ok (.invokevirtual 400, 3) := by decide +kernel
theorem dX9_act_62 : decode cX9_act 62 = .ok (.goto 9, 3) := by decide +kernel
theorem dX9_act_65 : decode cX9_act 65 = .ok (.aload_n 0, 1) := by decide +kernel
theorem dX9_act_66 : decode cX9_act 66 = .ok (.iload_n 1, 1) := by decide +kernel
theorem dX9_act_67 : decode cX9_act 67 = .ok (.iload_n 3, 1) := by decide +kernel
theorem dX9_act_68 : decode cX9_act 68 = .ok (.invokevirtual 418, 3) := by decide +kernel
theorem dX9_act_71 : decode cX9_act 71 = .ok (.ireturn, 1) := by decide +kernel
theorem dX9_count_0 : decode cX9_count 0 = .ok (.iload_n 1, 1) := by decide +kernel
theorem dX9_count_1 : decode cX9_count 1 = .ok (.tableswitch 69 0 5 #[39, 44, 49, 54, 59, 64], 39) := by decide +kernel
theorem dX9_count_40 : decode cX9_count 40 = .ok (.aload_n 0, 1) := by decide +kernel
theorem dX9_count_41 : decode cX9_count 41 = .ok (.invokevirtual 421, 3) := by decide +kernel
theorem dX9_count_44 : decode cX9_count 44 = .ok (.ireturn, 1) := by decide +kernel
theorem dX9_count_45 : decode cX9_count 45 = .ok (.aload_n 0, 1) := by decide +kernel
theorem dX9_count_46 : decode cX9_count 46 = .ok (.invokevirtual 424, 3) := by decide +kernel
theorem dX9_count_49 : decode cX9_count 49 = .ok (.ireturn, 1) := by decide +kernel
theorem dX9_count_50 : decode cX9_count 50 = .ok (.aload_n 0, 1) := by decide +kernel
theorem dX9_count_51 : decode cX9_count 51 = .ok (.getfield 182, 3) := by decide +kernel
theorem dX9_count_54 : decode cX9_count 54 = .ok (.ireturn, 1) := by decide +kernel
theorem dX9_count_55 : decode cX9_count 55 = .ok (.aload_n 0, 1) := by decide +kernel
theorem dX9_count_56 : decode cX9_count 56 = .ok (.getfield 134, 3) := by decide +kernel
theorem dX9_count_59 : decode cX9_count 59 = .ok (.ireturn, 1) := by decide +kernel
theorem dX9_count_60 : decode cX9_count 60 = .ok (.aload_n 0, 1) := by decide +kernel
theorem dX9_count_61 : decode cX9_count 61 = .ok (.getfield 373, 3) := by decide +kernel
theorem dX9_count_64 : decode cX9_count 64 = .ok (.ireturn, 1) := by decide +kernel
theorem dX9_count_65 : decode cX9_count 65 = .ok (.aload_n 0, 1) := by decide +kernel
theorem dX9_count_66 : decode cX9_count 66 = .ok (.getfield 376, 3) := by decide +kernel
theorem dX9_count_69 : decode cX9_count 69 = .ok (.ireturn, 1) := by decide +kernel
theorem dX9_count_70 : decode cX9_count 70 = .ok (.iconst (-1), 1) := by decide +kernel
theorem dX9_count_71 : decode cX9_count 71 = .ok (.ireturn, 1) := by decide +kernel
theorem dX9_isShelf_0 : decode cX9_isShelf 0 = .ok (.iload_n 0, 1) := by decide +kernel
theorem dX9_isShelf_1 : decode cX9_isShelf 1 = .ok (.iconst 0, 1) := by decide +kernel
theorem dX9_isShelf_2 : decode cX9_isShelf 2 = .ok (.iconst 5, 1) := by decide +kernel
theorem dX9_isShelf_3 : decode cX9_isShelf 3 = .ok (.invokestatic 116, 3) := by decide +kernel
theorem dX9_isShelf_6 : decode cX9_isShelf 6 = .ok (.ireturn, 1) := by decide +kernel
theorem dX9_keep_0 : decode cX9_keep 0 = .ok (.iload_n 1, 1) := by decide +kernel
theorem dX9_keep_1 : decode cX9_keep 1 = .ok (.invokestatic 179, 3) := by decide +kernel
theorem dX9_keep_4 : decode cX9_keep 4 = .ok (.ifCond .eq 16, 3) := by decide +kernel
theorem dX9_keep_7 : decode cX9_keep 7 = .ok (.iload_n 2, 1) := by decide +kernel
theorem dX9_keep_8 : decode cX9_keep 8 = .ok (.iconst (-1), 1) := by decide +kernel
theorem dX9_keep_9 : decode cX9_keep 9 = .ok (.if_icmp .eq 13, 3) := by decide +kernel
theorem dX9_keep_12 : decode cX9_keep 12 = .ok (.aload_n 0, 1) := by decide +kernel
theorem dX9_keep_13 : decode cX9_keep 13 = .ok (.iload_n 2, 1) := by decide +kernel
theorem dX9_keep_14 : decode cX9_keep 14 = .ok (.invokevirtual 415, 3) := by decide +kernel
theorem dX9_keep_17 : decode cX9_keep 17 = .ok (.ifCond .ne 5, 3) := by decide +kernel
theorem dX9_keep_20 : decode cX9_keep 20 = .ok (.iconst (-1), 1) := by decide +kernel
theorem dX9_keep_21 : decode cX9_keep 21 = .ok (.ireturn, 1) := by decide +kernel
theorem dX9_keep_22 : decode cX9_keep 22 = .ok (.aload_n 0, 1) := by decide +kernel
theorem dX9_keep_23 : decode cX9_keep 23 = .ok (.getfield 100, 3) := by decide +kernel
theorem dX9_keep_26 : decode cX9_keep 26 = .ok (.iload_n 1, 1) := by decide +kernel
theorem dX9_keep_27 : decode cX9_keep 27 = .ok (.iload_n 2, 1) := by decide +kernel
theorem dX9_keep_28 : decode cX9_keep 28 = .ok (.iastore, 1) := by decide +kernel
theorem dX9_keep_29 : decode cX9_keep 29 = .ok (.iconst 1, 1) := by decide +kernel
theorem dX9_keep_30 : decode cX9_keep 30 = .ok (.ireturn, 1) := by decide +kernel
theorem dX9_row_0 : decode cX9_row 0 = .ok (.iload_n 1, 1) := by decide +kernel
theorem dX9_row_1 : decode cX9_row 1 = .ok (.invokestatic 179, 3) := by decide +kernel
theorem dX9_row_4 : decode cX9_row 4 = .ok (.ifCond .eq 18, 3) := by decide +kernel
theorem dX9_row_7 : decode cX9_row 7 = .ok (.iload_n 2, 1) := by decide +kernel
theorem dX9_row_8 : decode cX9_row 8 = .ok (.iconst 0, 1) := by decide +kernel
theorem dX9_row_9 : decode cX9_row 9 = .ok (.iconst 4, 1) := by decide +kernel
theorem dX9_row_10 : decode cX9_row 10 = .ok (.invokestatic 116, 3) := by decide +kernel
theorem dX9_row_13 : decode cX9_row 13 = .ok (.ifCond .eq 9, 3) := by decide +kernel
theorem dX9_row_16 : decode cX9_row 16 = .ok (.iload_n 3, 1) := by decide +kernel
theorem dX9_row_17 : decode cX9_row 17 = .ok (.bipush 60, 2) := by decide +kernel
theorem dX9_row_19 : decode cX9_row 19 = .ok (.if_icmp .le 5, 3) := by decide +kernel
theorem dX9_row_22 : decode cX9_row 22 = .ok (.iconst (-1), 1) := by decide +kernel
theorem dX9_row_23 : decode cX9_row 23 = .ok (.ireturn, 1) := by decide +kernel
theorem dX9_row_24 : decode cX9_row 24 = .ok (.iload_n 3, 1) := by decide +kernel
theorem dX9_row_25 : decode cX9_row 25 = .ok (.ifCond .ge 6, 3) := by decide +kernel
theorem dX9_row_28 : decode cX9_row 28 = .ok (.bipush (-14), 2) := by decide +kernel
theorem dX9_row_30 : decode cX9_row 30 = .ok (.ireturn, 1) := by decide +kernel
theorem dX9_row_31 : decode cX9_row 31 = .ok (.aload_n 0, 1) := by decide +kernel
theorem dX9_row_32 : decode cX9_row 32 = .ok (.getfield 100, 3) := by decide +kernel
theorem dX9_row_35 : decode cX9_row 35 = .ok (.iload_n 1, 1) := by decide +kernel
theorem dX9_row_36 : decode cX9_row 36 = .ok (.bipush (-2), 2) := by decide +kernel
theorem dX9_row_38 : decode cX9_row 38 = .ok (.iload_n 2, 1) := by decide +kernel
theorem dX9_row_39 : decode cX9_row 39 = .ok (.isub, 1) := by decide +kernel
theorem dX9_row_40 : decode cX9_row 40 = .ok (.iastore, 1) := by decide +kernel
theorem dX9_row_41 : decode cX9_row 41 = .ok (.aload_n 0, 1) := by decide +kernel
theorem dX9_row_42 : decode cX9_row 42 = .ok (.getfield 103, 3) := by decide +kernel
theorem dX9_row_45 : decode cX9_row 45 = .ok (.iload_n 1, 1) := by decide +kernel
theorem dX9_row_46 : decode cX9_row 46 = .ok (.iload_n 3, 1) := by decide +kernel
theorem dX9_row_47 : decode cX9_row 47 = .ok (.iastore, 1) := by decide +kernel
theorem dX9_row_48 : decode cX9_row 48 = .ok (.bipush 60, 2) := by decide +kernel
theorem dX9_row_50 : decode cX9_row 50 = .ok (.iload_n 1, 1) := by decide +kernel
theorem dX9_row_51 : decode cX9_row 51 = .ok (.imul, 1) := by decide +kernel
theorem dX9_row_52 : decode cX9_row 52 = .ok (.istore 4, 2) := by decide +kernel
theorem dX9_row_54 : decode cX9_row 54 = .ok (.iload 4, 2) := by decide +kernel
theorem dX9_row_56 : decode cX9_row 56 = .ok (.bipush 60, 2) := by decide +kernel
theorem dX9_row_58 : decode cX9_row 58 = .ok (.iload_n 1, 1) := by decide +kernel
theorem dX9_row_59 : decode cX9_row 59 = .ok (.imul, 1) := by decide +kernel
theorem dX9_row_60 : decode cX9_row 60 = .ok (.bipush 60, 2) := by decide +kernel
theorem dX9_row_62 : decode cX9_row 62 = .ok (.iadd, 1) := by decide +kernel
theorem dX9_row_63 : decode cX9_row 63 = .ok (.if_icmp .ge 17, 3) := by decide +kernel
theorem dX9_row_66 : decode cX9_row 66 = .ok (.aload_n 0, 1) := by decide +kernel
theorem dX9_row_67 : decode cX9_row 67 = .ok (.getfield 106, 3) := by decide +kernel
theorem dX9_row_70 : decode cX9_row 70 = .ok (.iload 4, 2) := by decide +kernel
theorem dX9_row_72 : decode cX9_row 72 = .ok (.lconst 0, 1) := by decide +kernel
theorem dX9_row_73 : decode cX9_row 73 = .ok (.lastore, 1) := by decide +kernel
theorem dX9_row_74 : decode cX9_row 74 = .ok (.iinc 4 1, 3) := by decide +kernel
theorem dX9_row_77 : decode cX9_row 77 = .ok (.goto (-23), 3) := by decide +kernel
theorem dX9_row_80 : decode cX9_row 80 = .ok (.iconst 1, 1) := by decide +kernel
theorem dX9_row_81 : decode cX9_row 81 = .ok (.ireturn, 1) := by decide +kernel
theorem dX9_whyNoPlace_0 : decode cX9_whyNoPlace 0 = .ok (.iload_n 1, 1) := by decide +kernel
theorem dX9_whyNoPlace_1 : decode cX9_whyNoPlace 1 = .ok (.invokestatic 179, 3) := by decide +kernel
theorem dX9_whyNoPlace_4 : decode cX9_whyNoPlace 4 = .ok (.ifCond .ne 5, 3) := by decide +kernel
theorem dX9_whyNoPlace_7 : decode cX9_whyNoPlace 7 = .ok (.iconst (-1), 1) := by decide +kernel
theorem dX9_whyNoPlace_8 : decode cX9_whyNoPlace 8 = .ok (.ireturn, 1) := by decide +kernel
theorem dX9_whyNoPlace_9 : decode cX9_whyNoPlace 9 = .ok (.aload_n 0, 1) := by decide +kernel
theorem dX9_whyNoPlace_10 : decode cX9_whyNoPlace 10 = .ok (.getfield 100, 3) := by decide +kernel
theorem dX9_whyNoPlace_13 : decode cX9_whyNoPlace 13 = .ok (.iload_n 1, 1) := by decide +kernel
theorem dX9_whyNoPlace_14 : decode cX9_whyNoPlace 14 = .ok (.iaload, 1) := by decide +kernel
theorem dX9_whyNoPlace_15 : decode cX9_whyNoPlace 15 = .ok (.iconst (-1), 1) := by decide +kernel
theorem dX9_whyNoPlace_16 : decode cX9_whyNoPlace 16 = .ok (.if_icmp .ne 6, 3) := by decide +kernel
theorem dX9_whyNoPlace_19 : decode cX9_whyNoPlace 19 = .ok (.bipush (-11), 2) := by decide +kernel
theorem dX9_whyNoPlace_21 : decode cX9_whyNoPlace 21 = .ok (.ireturn, 1) := by decide +kernel
theorem dX9_whyNoPlace_22 : decode cX9_whyNoPlace 22 = .ok (.aload_n 0, 1) := by decide +kernel
theorem dX9_whyNoPlace_23 : decode cX9_whyNoPlace 23 = .ok (.getfield 100, 3) := by decide +kernel
theorem dX9_whyNoPlace_26 : decode cX9_whyNoPlace 26 = .ok (.iload_n 1, 1) := by decide +kernel
theorem dX9_whyNoPlace_27 : decode cX9_whyNoPlace 27 = .ok (.iaload, 1) := by decide +kernel
theorem dX9_whyNoPlace_28 : decode cX9_whyNoPlace 28 = .ok (.ifCond .lt 6, 3) := by decide +kernel
theorem dX9_whyNoPlace_31 : decode cX9_whyNoPlace 31 = .ok (.bipush (-12), 2) := by decide +kernel
theorem dX9_whyNoPlace_33 : decode cX9_whyNoPlace 33 = .ok (.ireturn, 1) := by decide +kernel
theorem dX9_whyNoPlace_34 : decode cX9_whyNoPlace 34 = .ok (.iload_n 2, 1) := by decide +kernel
theorem dX9_whyNoPlace_35 : decode cX9_whyNoPlace 35 = .ok (.iconst 0, 1) := by decide +kernel
theorem dX9_whyNoPlace_36 : decode cX9_whyNoPlace 36 = .ok (.aload_n 0, 1) := by decide +kernel
theorem dX9_whyNoPlace_37 : decode cX9_whyNoPlace 37 = .ok (.getfield 103, 3) := by decide +kernel
theorem dX9_whyNoPlace_40 : decode cX9_whyNoPlace 40 = .ok (.iload_n 1, 1) := by decide +kernel
theorem dX9_whyNoPlace_41 : decode cX9_whyNoPlace 41 = .ok (.iaload, 1) := by decide +kernel
theorem dX9_whyNoPlace_42 : decode cX9_whyNoPlace 42 = .ok (.iconst 1, 1) := by decide +kernel
theorem dX9_whyNoPlace_43 : decode cX9_whyNoPlace 43 = .ok (.isub, 1) := by decide +kernel
theorem dX9_whyNoPlace_44 : decode cX9_whyNoPlace 44 = .ok (.invokestatic 116, 3) := by decide +kernel
theorem dX9_whyNoPlace_47 : decode cX9_whyNoPlace 47 = .ok (.ifCond .eq 7, 3) := by decide +kernel
theorem dX9_whyNoPlace_50 : decode cX9_whyNoPlace 50 = .ok (.iconst 0, 1) := by decide +kernel
theorem dX9_whyNoPlace_51 : decode cX9_whyNoPlace 51 = .ok (.goto 5, 3) := by decide +kernel
theorem dX9_whyNoPlace_54 : decode cX9_whyNoPlace 54 = .ok (.bipush (-13), 2) := by decide +kernel
theorem dX9_whyNoPlace_56 : decode cX9_whyNoPlace 56 = .ok (.ireturn, 1) := by decide +kernel
theorem dX9_put_0 : decode cX9_put 0 = .ok (.aload_n 0, 1) := by decide +kernel
theorem dX9_put_1 : decode cX9_put 1 = .ok (.iload_n 1, 1) := by decide +kernel
theorem dX9_put_2 : decode cX9_put 2 = .ok (.iload_n 2, 1) := by decide +kernel
theorem dX9_put_3 : decode cX9_put 3 = .ok (.invokevirtual 427, 3) := by decide +kernel
theorem dX9_put_6 : decode cX9_put 6 = .ok (.istore 5, 2) := by decide +kernel
theorem dX9_put_8 : decode cX9_put 8 = .ok (.iload 5, 2) := by decide +kernel
theorem dX9_put_10 : decode cX9_put 10 = .ok (.ifCond .ge 6, 3) := by decide +kernel
theorem dX9_put_13 : decode cX9_put 13 = .ok (.iload 5, 2) := by decide +kernel
theorem dX9_put_15 : decode cX9_put 15 = .ok (.ireturn, 1) := by decide +kernel
theorem dX9_put_16 : decode cX9_put 16 = .ok (.bipush (-2), 2) := by decide +kernel
theorem dX9_put_18 : decode cX9_put 18 = .ok (.aload_n 0, 1) := by decide +kernel
theorem dX9_put_19 : decode cX9_put 19 = .ok (.getfield 100, 3) := by decide +kernel
theorem dX9_put_22 : decode cX9_put 22 = .ok (.iload_n 1, 1) := by decide +kernel
theorem dX9_put_23 : decode cX9_put 23 = .ok (.iaload, 1) := by decide +kernel
theorem dX9_put_24 : decode cX9_put 24 = .ok (.isub, 1) := by decide +kernel
theorem dX9_put_25 : decode cX9_put 25 = .ok (.istore 6, 2) := by decide +kernel
theorem dX9_put_27 : decode cX9_put 27 = .ok (.aload_n 0, 1) := by decide +kernel
theorem dX9_put_28 : decode cX9_put 28 = .ok (.getfield 106, 3) := by decide +kernel
theorem dX9_put_31 : decode cX9_put 31 = .ok (.bipush 60, 2) := by decide +kernel
theorem dX9_put_33 : decode cX9_put 33 = .ok (.iload_n 1, 1) := by decide +kernel
theorem dX9_put_34 : decode cX9_put 34 = .ok (.imul, 1) := by decide +kernel
theorem dX9_put_35 : decode cX9_put 35 = .ok (.iload_n 2, 1) := by decide +kernel
theorem dX9_put_36 : decode cX9_put 36 = .ok (.iadd, 1) := by decide +kernel
theorem dX9_put_37 : decode cX9_put 37 = .ok (.iload 6, 2) := by decide +kernel
theorem dX9_put_39 : decode cX9_put 39 = .ok (.ifCond .ne 10, 3) := by decide +kernel
theorem dX9_put_42 : decode cX9_put 42 = .ok (.lload_n 3, 1) := by decide +kernel
theorem dX9_put_43 : decode cX9_put 43 = .ok (.l2i, 1) := by decide +kernel
theorem dX9_put_44 : decode cX9_put 44 = .ok (.i2b, 1) := by decide +kernel
theorem dX9_put_45 : decode cX9_put 45 = .ok (.i2l, 1) := by decide +kernel
theorem dX9_put_46 : decode cX9_put 46 = .ok (.goto 49, 3) := by decide +kernel
theorem dX9_put_49 : decode cX9_put 49 = .ok (.iload 6, 2) := by decide +kernel
theorem dX9_put_51 : decode cX9_put 51 = .ok (.iconst 1, 1) := by decide +kernel
theorem dX9_put_52 : decode cX9_put 52 = .ok (.if_icmp .ne 10, 3) := by decide +kernel
theorem dX9_put_55 : decode cX9_put 55 = .ok (.lload_n 3, 1) := by decide +kernel
theorem dX9_put_56 : decode cX9_put 56 = .ok (.l2i, 1) := by decide +kernel
theorem dX9_put_57 : decode cX9_put 57 = .ok (.i2s, 1) := by decide +kernel
theorem dX9_put_58 : decode cX9_put 58 = .ok (.i2l, 1) := by decide +kernel
theorem dX9_put_59 : decode cX9_put 59 = .ok (.goto 36, 3) := by decide +kernel
theorem dX9_put_62 : decode cX9_put 62 = .ok (.iload 6, 2) := by decide +kernel
theorem dX9_put_64 : decode cX9_put 64 = .ok (.iconst 2, 1) := by decide +kernel
theorem dX9_put_65 : decode cX9_put 65 = .ok (.if_icmp .ne 9, 3) := by decide +kernel
theorem dX9_put_68 : decode cX9_put 68 = .ok (.lload_n 3, 1) := by decide +kernel
theorem dX9_put_69 : decode cX9_put 69 = .ok (.l2i, 1) := by decide +kernel
theorem dX9_put_70 : decode cX9_put 70 = .ok (.i2l, 1) := by decide +kernel
theorem dX9_put_71 : decode cX9_put 71 = .ok (.goto 24, 3) := by decide +kernel
theorem dX9_put_74 : decode cX9_put 74 = .ok (.iload 6, 2) := by decide +kernel
theorem dX9_put_76 : decode cX9_put 76 = .ok (.iconst 3, 1) := by decide +kernel
theorem dX9_put_77 : decode cX9_put 77 = .ok (.if_icmp .ne 7, 3) := by decide +kernel
theorem dX9_put_80 : decode cX9_put 80 = .ok (.lload_n 3, 1) := by decide +kernel
theorem dX9_put_81 : decode cX9_put 81 = .ok (.goto 14, 3) := by decide +kernel
theorem dX9_put_84 : decode cX9_put 84 = .ok (.lload_n 3, 1) := by decide +kernel
theorem dX9_put_85 : decode cX9_put 85 = .ok (.lconst 0, 1) := by decide +kernel
theorem dX9_put_86 : decode cX9_put 86 = .ok (.lcmp, 1) := by decide +kernel
theorem dX9_put_87 : decode cX9_put 87 = .ok (.ifCond .eq 7, 3) := by decide +kernel
theorem dX9_put_90 : decode cX9_put 90 = .ok (.lconst 1, 1) := by decide +kernel
theorem dX9_put_91 : decode cX9_put 91 = .ok (.goto 4, 3) := by decide +kernel
theorem dX9_put_94 : decode cX9_put 94 = .ok (.lconst 0, 1) := by decide +kernel
theorem dX9_put_95 : decode cX9_put 95 = .ok (.lastore, 1) := by decide +kernel
theorem dX9_put_96 : decode cX9_put 96 = .ok (.iconst 1, 1) := by decide +kernel
theorem dX9_put_97 : decode cX9_put 97 = .ok (.ireturn, 1) := by decide +kernel
theorem dX9_element_0 : decode cX9_element 0 = .ok (.aload_n 0, 1) := by decide +kernel
theorem dX9_element_1 : decode cX9_element 1 = .ok (.iload_n 1, 1) := by decide +kernel
theorem dX9_element_2 : decode cX9_element 2 = .ok (.iload_n 2, 1) := by decide +kernel
theorem dX9_element_3 : decode cX9_element 3 = .ok (.invokevirtual 427, 3) := by decide +kernel
theorem dX9_element_6 : decode cX9_element 6 = .ok (.ifCond .ge 9, 3) := by decide +kernel
theorem dX9_element_9 : decode cX9_element 9 = .ok (.ldc2_w 341, 3) := by decide +kernel
theorem dX9_element_12 : decode cX9_element 12 = .ok (.goto 14, 3) := by decide +kernel
theorem dX9_element_15 : decode cX9_element 15 = .ok (.aload_n 0, 1) := by decide +kernel
theorem dX9_element_16 : decode cX9_element 16 = .ok (.getfield 106, 3) := by decide +kernel
theorem dX9_element_19 : decode cX9_element 19 = .ok (.bipush 60, 2) := by decide +kernel
theorem dX9_element_21 : decode cX9_element 21 = .ok (.iload_n 1, 1) := by decide +kernel
theorem dX9_element_22 : decode cX9_element 22 = .ok (.imul, 1) := by decide +kernel
theorem dX9_element_23 : decode cX9_element 23 = .ok (.iload_n 2, 1) := by decide +kernel
theorem dX9_element_24 : decode cX9_element 24 = .ok (.iadd, 1) := by decide +kernel
theorem dX9_element_25 : decode cX9_element 25 = .ok (.laload, 1) := by decide +kernel
theorem dX9_element_26 : decode cX9_element 26 = .ok (.lreturn, 1) := by decide +kernel
theorem dX9_shift_0 : decode cX9_shift 0 = .ok (.iload_n 1, 1) := by decide +kernel
theorem dX9_shift_1 : decode cX9_shift 1 = .ok (.invokestatic 179, 3) := by decide +kernel
theorem dX9_shift_4 : decode cX9_shift 4 = .ok (.ifCond .eq 10, 3) := by decide +kernel
theorem dX9_shift_7 : decode cX9_shift 7 = .ok (.iload_n 3, 1) := by decide +kernel
theorem dX9_shift_8 : decode cX9_shift 8 = .ok (.invokestatic 179, 3) := by decide +kernel
theorem dX9_shift_11 : decode cX9_shift 11 = .ok (.ifCond .ne 5, 3) := by decide +kernel
theorem dX9_shift_14 : decode cX9_shift 14 = .ok (.iconst (-1), 1) := by decide +kernel
theorem dX9_shift_15 : decode cX9_shift 15 = .ok (.ireturn, 1) := by decide +kernel
theorem dX9_shift_16 : decode cX9_shift 16 = .ok (.aload_n 0, 1) := by decide +kernel
theorem dX9_shift_17 : decode cX9_shift 17 = .ok (.getfield 100, 3) := by decide +kernel
theorem dX9_shift_20 : decode cX9_shift 20 = .ok (.iload_n 1, 1) := by decide +kernel
theorem dX9_shift_21 : decode cX9_shift 21 = .ok (.iaload, 1) := by decide +kernel
theorem dX9_shift_22 : decode cX9_shift 22 = .ok (.iconst (-1), 1) := by decide +kernel
theorem dX9_shift_23 : decode cX9_shift 23 = .ok (.if_icmp .eq 13, 3) := by decide +kernel
theorem dX9_shift_26 : decode cX9_shift 26 = .ok (.aload_n 0, 1) := by decide +kernel
theorem dX9_shift_27 : decode cX9_shift 27 = .ok (.getfield 100, 3) := by decide +kernel
theorem dX9_shift_30 : decode cX9_shift 30 = .ok (.iload_n 3, 1) := by decide +kernel
theorem dX9_shift_31 : decode cX9_shift 31 = .ok (.iaload, 1) := by decide +kernel
theorem dX9_shift_32 : decode cX9_shift 32 = .ok (.iconst (-1), 1) := by decide +kernel
theorem dX9_shift_33 : decode cX9_shift 33 = .ok (.if_icmp .ne 6, 3) := by decide +kernel
theorem dX9_shift_36 : decode cX9_shift 36 = .ok (.bipush (-11), 2) := by decide +kernel
theorem dX9_shift_38 : decode cX9_shift 38 = .ok (.ireturn, 1) := by decide +kernel
theorem dX9_shift_39 : decode cX9_shift 39 = .ok (.aload_n 0, 1) := by decide +kernel
theorem dX9_shift_40 : decode cX9_shift 40 = .ok (.getfield 100, 3) := by decide +kernel
theorem dX9_shift_43 : decode cX9_shift 43 = .ok (.iload_n 1, 1) := by decide +kernel
theorem dX9_shift_44 : decode cX9_shift 44 = .ok (.iaload, 1) := by decide +kernel
theorem dX9_shift_45 : decode cX9_shift 45 = .ok (.ifCond .ge 18, 3) := by decide +kernel
theorem dX9_shift_48 : decode cX9_shift 48 = .ok (.aload_n 0, 1) := by decide +kernel
theorem dX9_shift_49 : decode cX9_shift 49 = .ok (.getfield 100, 3) := by decide +kernel
theorem dX9_shift_52 : decode cX9_shift 52 = .ok (.iload_n 1, 1) := by decide +kernel
theorem dX9_shift_53 : decode cX9_shift 53 = .ok (.iaload, 1) := by decide +kernel
theorem dX9_shift_54 : decode cX9_shift 54 = .ok (.aload_n 0, 1) := by decide +kernel
theorem dX9_shift_55 : decode cX9_shift 55 = .ok (.getfield 100, 3) := by decide +kernel
theorem dX9_shift_58 : decode cX9_shift 58 = .ok (.iload_n 3, 1) := by decide +kernel
theorem dX9_shift_59 : decode cX9_shift 59 = .ok (.iaload, 1) := by decide +kernel
theorem dX9_shift_60 : decode cX9_shift 60 = .ok (.if_icmp .eq 6, 3) := by decide +kernel
theorem dX9_shift_63 : decode cX9_shift 63 = .ok (.bipush (-12), 2) := by decide +kernel
theorem dX9_shift_65 : decode cX9_shift 65 = .ok (.ireturn, 1) := by decide +kernel
theorem dX9_shift_66 : decode cX9_shift 66 = .ok (.iload 5, 2) := by decide +kernel
theorem dX9_shift_68 : decode cX9_shift 68 = .ok (.ifCond .lt 39, 3) := by decide +kernel
theorem dX9_shift_71 : decode cX9_shift 71 = .ok (.iload_n 2, 1) := by decide +kernel
theorem dX9_shift_72 : decode cX9_shift 72 = .ok (.ifCond .lt 35, 3) := by decide +kernel
theorem dX9_shift_75 : decode cX9_shift 75 = .ok (.iload 4, 2) := by decide +kernel
theorem dX9_shift_77 : decode cX9_shift 77 = .ok (.ifCond .lt 30, 3) := by decide +kernel
theorem dX9_shift_80 : decode cX9_shift 80 = .ok (.iload_n 2, 1) := by decide +kernel
theorem dX9_shift_81 : decode cX9_shift 81 = .ok (.aload_n 0, 1) := by decide +kernel
theorem dX9_shift_82 : decode cX9_shift 82 = .ok (.getfield 103, 3) := by decide +kernel
theorem dX9_shift_85 : decode cX9_shift 85 = .ok (.iload_n 1, 1) := by decide +kernel
theorem dX9_shift_86 : decode cX9_shift 86 = .ok (.iaload, 1) := by decide +kernel
theorem dX9_shift_87 : decode cX9_shift 87 = .ok (.iload 5, 2) := by decide +kernel
theorem dX9_shift_89 : decode cX9_shift 89 = .ok (.isub, 1) := by decide +kernel
theorem dX9_shift_90 : decode cX9_shift 90 = .ok (.if_icmp .gt 17, 3) := by decide +kernel
theorem dX9_shift_93 : decode cX9_shift 93 = .ok (.iload 4, 2) := by decide +kernel
theorem dX9_shift_95 : decode cX9_shift 95 = .ok (.aload_n 0, 1) := by decide +kernel
theorem dX9_shift_96 : decode cX9_shift 96 = .ok (.getfield 103, 3) := by decide +kernel
theorem dX9_shift_99 : decode cX9_shift 99 = .ok (.iload_n 3, 1) := by decide +kernel
theorem dX9_shift_100 : decode cX9_shift 100 = .ok (.iaload, 1) := by decide +kernel
theorem dX9_shift_101 : decode cX9_shift 101 = .ok (.iload 5, 2) := by decide +kernel
theorem dX9_shift_103 : decode cX9_shift 103 = .ok (.isub, 1) := by decide +kernel
theorem dX9_shift_104 : decode cX9_shift 104 = .ok (.if_icmp .le 6, 3) := by decide +kernel
theorem dX9_shift_107 : decode cX9_shift 107 = .ok (.bipush (-13), 2) := by decide +kernel
theorem dX9_shift_109 : decode cX9_shift 109 = .ok (.ireturn, 1) := by decide +kernel
theorem dX9_shift_110 : decode cX9_shift 110 = .ok (.iconst 0, 1) := by decide +kernel
theorem dX9_shift_111 : decode cX9_shift 111 = .ok (.istore 6, 2) := by decide +kernel
theorem dX9_shift_113 : decode cX9_shift 113 = .ok (.iload 6, 2) := by decide +kernel
theorem dX9_shift_115 : decode cX9_shift 115 = .ok (.iload 5, 2) := by decide +kernel
theorem dX9_shift_117 : decode cX9_shift 117 = .ok (.if_icmp .ge 30, 3) := by decide +kernel
theorem dX9_shift_120 : decode cX9_shift 120 = .ok (.aload_n 0, 1) := by decide +kernel
theorem dX9_shift_121 : decode cX9_shift 121 = .ok (.getfield 110, 3) := by decide +kernel
theorem dX9_shift_124 : decode cX9_shift 124 = .ok (.iload 6, 2) := by decide +kernel
theorem dX9_shift_126 : decode cX9_shift 126 = .ok (.aload_n 0, 1) := by decide +kernel
theorem dX9_shift_127 : decode cX9_shift 127 = .ok (.getfield 106, 3) := by decide +kernel
theorem dX9_shift_130 : decode cX9_shift 130 = .ok (.bipush 60, 2) := by decide +kernel
theorem dX9_shift_132 : decode cX9_shift 132 = .ok (.iload_n 1, 1) := by decide +kernel
theorem dX9_shift_133 : decode cX9_shift 133 = .ok (.imul, 1) := by decide +kernel
theorem dX9_shift_134 : decode cX9_shift 134 = .ok (.iload_n 2, 1) := by decide +kernel
theorem dX9_shift_135 : decode cX9_shift 135 = .ok (.iadd, 1) := by decide +kernel
theorem dX9_shift_136 : decode cX9_shift 136 = .ok (.iload 6, 2) := by decide +kernel
theorem dX9_shift_138 : decode cX9_shift 138 = .ok (.iadd, 1) := by decide +kernel
theorem dX9_shift_139 : decode cX9_shift 139 = .ok (.laload, 1) := by decide +kernel
theorem dX9_shift_140 : decode cX9_shift 140 = .ok (.lastore, 1) := by decide +kernel
theorem dX9_shift_141 : decode cX9_shift 141 = .ok (.iinc 6 1, 3) := by decide +kernel
theorem dX9_shift_144 : decode cX9_shift 144 = .ok (.goto (-31), 3) := by decide +kernel
theorem dX9_shift_147 : decode cX9_shift 147 = .ok (.iconst 0, 1) := by decide +kernel
theorem dX9_shift_148 : decode cX9_shift 148 = .ok (.istore 6, 2) := by decide +kernel
theorem dX9_shift_150 : decode cX9_shift 150 = .ok (.iload 6, 2) := by decide +kernel
theorem dX9_shift_152 : decode cX9_shift 152 = .ok (.iload 5, 2) := by decide +kernel
theorem dX9_shift_154 : decode cX9_shift 154 = .ok (.if_icmp .ge 31, 3) := by decide +kernel
theorem dX9_shift_157 : decode cX9_shift 157 = .ok (.aload_n 0, 1) := by decide +kernel
theorem dX9_shift_158 : decode cX9_shift 158 = .ok (.getfield 106, 3) := by decide +kernel
theorem dX9_shift_161 : decode cX9_shift 161 = .ok (.bipush 60, 2) := by decide +kernel
theorem dX9_shift_163 : decode cX9_shift 163 = .ok (.iload_n 3, 1) := by decide +kernel
theorem dX9_shift_164 : decode cX9_shift 164 = .ok (.imul, 1) := by decide +kernel
theorem dX9_shift_165 : decode cX9_shift 165 = .ok (.iload 4, 2) := by decide +kernel
theorem dX9_shift_167 : decode cX9_shift 167 = .ok (.iadd, 1) := by decide +kernel
theorem dX9_shift_168 : decode cX9_shift 168 = .ok (.iload 6, 2) := by decide +kernel
theorem dX9_shift_170 : decode cX9_shift 170 = .ok (.iadd, 1) := by decide +kernel
theorem dX9_shift_171 : decode cX9_shift 171 = .ok (.aload_n 0, 1) := by decide +kernel
theorem dX9_shift_172 : decode cX9_shift 172 = .ok (.getfield 110, 3) := by decide +kernel
theorem dX9_shift_175 : decode cX9_shift 175 = .ok (.iload 6, 2) := by decide +kernel
theorem dX9_shift_177 : decode cX9_shift 177 = .ok (.laload, 1) := by decide +kernel
theorem dX9_shift_178 : decode cX9_shift 178 = .ok (.lastore, 1) := by decide +kernel
theorem dX9_shift_179 : decode cX9_shift 179 = .ok (.iinc 6 1, 3) := by decide +kernel
theorem dX9_shift_182 : decode cX9_shift 182 = .ok (.goto (-32), 3) := by decide +kernel
theorem dX9_shift_185 : decode cX9_shift 185 = .ok (.iload 5, 2) := by decide +kernel
theorem dX9_shift_187 : decode cX9_shift 187 = .ok (.ireturn, 1) := by decide +kernel
theorem dX9_taken_0 : decode cX9_taken 0 = .ok (.iload_n 1, 1) := by decide +kernel
theorem dX9_taken_1 : decode cX9_taken 1 = .ok (.invokestatic 179, 3) := by decide +kernel
theorem dX9_taken_4 : decode cX9_taken 4 = .ok (.ifCond .eq 13, 3) := by decide +kernel
theorem dX9_taken_7 : decode cX9_taken 7 = .ok (.iload_n 2, 1) := by decide +kernel
theorem dX9_taken_8 : decode cX9_taken 8 = .ok (.iconst 0, 1) := by decide +kernel
theorem dX9_taken_9 : decode cX9_taken 9 = .ok (.bipush 7, 2) := by decide +kernel
theorem dX9_taken_11 : decode cX9_taken 11 = .ok (.invokestatic 116, 3) := by decide +kernel
theorem dX9_taken_14 : decode cX9_taken 14 = .ok (.ifCond .ne 5, 3) := by decide +kernel
theorem dX9_taken_17 : decode cX9_taken 17 = .ok (.iconst (-1), 1) := by decide +kernel
theorem dX9_taken_18 : decode cX9_taken 18 = .ok (.ireturn, 1) := by decide +kernel
theorem dX9_taken_19 : decode cX9_taken 19 = .ok (.aload_n 0, 1) := by decide +kernel
theorem dX9_taken_20 : decode cX9_taken 20 = .ok (.getfield 100, 3) := by decide +kernel
theorem dX9_taken_23 : decode cX9_taken 23 = .ok (.iload_n 1, 1) := by decide +kernel
theorem dX9_taken_24 : decode cX9_taken 24 = .ok (.iaload, 1) := by decide +kernel
theorem dX9_taken_25 : decode cX9_taken 25 = .ok (.iconst (-1), 1) := by decide +kernel
theorem dX9_taken_26 : decode cX9_taken 26 = .ok (.if_icmp .ne 6, 3) := by decide +kernel
theorem dX9_taken_29 : decode cX9_taken 29 = .ok (.bipush (-11), 2) := by decide +kernel
theorem dX9_taken_31 : decode cX9_taken 31 = .ok (.ireturn, 1) := by decide +kernel
theorem dX9_taken_32 : decode cX9_taken 32 = .ok (.aload_n 0, 1) := by decide +kernel
theorem dX9_taken_33 : decode cX9_taken 33 = .ok (.getfield 100, 3) := by decide +kernel
theorem dX9_taken_36 : decode cX9_taken 36 = .ok (.iload_n 1, 1) := by decide +kernel
theorem dX9_taken_37 : decode cX9_taken 37 = .ok (.iaload, 1) := by decide +kernel
theorem dX9_taken_38 : decode cX9_taken 38 = .ok (.ifCond .lt 35, 3) := by decide +kernel
theorem dX9_taken_41 : decode cX9_taken 41 = .ok (.aload_n 0, 1) := by decide +kernel
theorem dX9_taken_42 : decode cX9_taken 42 = .ok (.getfield 94, 3) := by decide +kernel
theorem dX9_taken_45 : decode cX9_taken 45 = .ok (.aload_n 0, 1) := by decide +kernel
theorem dX9_taken_46 : decode cX9_taken 46 = .ok (.getfield 100, 3) := by decide +kernel
theorem dX9_taken_49 : decode cX9_taken 49 = .ok (.iload_n 1, 1) := by decide +kernel
theorem dX9_taken_50 : decode cX9_taken 50 = .ok (.iaload, 1) := by decide +kernel
theorem dX9_taken_51 : decode cX9_taken 51 = .ok (.iaload, 1) := by decide +kernel
theorem dX9_taken_52 : decode cX9_taken 52 = .ok (.iload_n 2, 1) := by decide +kernel
theorem dX9_taken_53 : decode cX9_taken 53 = .ok (.invokestatic 385, 3) := by decide +kernel
theorem dX9_taken_56 : decode cX9_taken 56 = .ok (.ifCond .eq 17, 3) := by decide +kernel
theorem dX9_taken_59 : decode cX9_taken 59 = .ok (.aload_n 0, 1) := by decide +kernel
theorem dX9_taken_60 : decode cX9_taken 60 = .ok (.getfield 94, 3) := by decide +kernel
theorem dX9_taken_63 : decode cX9_taken 63 = .ok (.aload_n 0, 1) := by decide +kernel
theorem dX9_taken_64 : decode cX9_taken 64 = .ok (.getfield 100, 3) := by decide +kernel
theorem dX9_taken_67 : decode cX9_taken 67 = .ok (.iload_n 1, 1) := by decide +kernel
theorem dX9_taken_68 : decode cX9_taken 68 = .ok (.iaload, 1) := by decide +kernel
theorem dX9_taken_69 : decode cX9_taken 69 = .ok (.iaload, 1) := by decide +kernel
theorem dX9_taken_70 : decode cX9_taken 70 = .ok (.goto 5, 3) := by decide +kernel
theorem dX9_taken_73 : decode cX9_taken 73 = .ok (.bipush (-12), 2) := by decide +kernel
theorem dX9_taken_75 : decode cX9_taken 75 = .ok (.ireturn, 1) := by decide +kernel
theorem dJ13_bitCount_95d88_0 : decode cJ13_bitCount_95d88 0 = .ok (.lload_n 0, 1) := by decide +kernel
theorem dJ13_bitCount_95d88_1 : decode cJ13_bitCount_95d88 1 = .ok (.lload_n 0, 1) := by decide +kernel
theorem dJ13_bitCount_95d88_2 : decode cJ13_bitCount_95d88 2 = .ok (.iconst 1, 1) := by decide +kernel
theorem dJ13_bitCount_95d88_3 : decode cJ13_bitCount_95d88 3 = .ok (.lushr, 1) := by decide +kernel
theorem dJ13_bitCount_95d88_4 : decode cJ13_bitCount_95d88 4 = .ok (.ldc2_w 314, 3) := by decide +kernel
theorem dJ13_bitCount_95d88_7 : decode cJ13_bitCount_95d88 7 = .ok (.land, 1) := by decide +kernel
theorem dJ13_bitCount_95d88_8 : decode cJ13_bitCount_95d88 8 = .ok (.lsub, 1) := by decide +kernel
theorem dJ13_bitCount_95d88_9 : decode cJ13_bitCount_95d88 9 = .ok (.lstore_n 0, 1) := by decide +kernel
theorem dJ13_bitCount_95d88_10 : decode cJ13_bitCount_95d88 10 = .ok (.lload_n 0, 1) := by decide +kernel
theorem dJ13_bitCount_95d88_11 : decode cJ13_bitCount_95d88 11 = .ok (.ldc2_w 316, 3) := by decide +kernel
theorem dJ13_bitCount_95d88_14 : decode cJ13_bitCount_95d88 14 = .ok (.land, 1) := by decide +kernel
theorem dJ13_bitCount_95d88_15 : decode cJ13_bitCount_95d88 15 = .ok (.lload_n 0, 1) := by decide +kernel
theorem dJ13_bitCount_95d88_16 : decode cJ13_bitCount_95d88 16 = .ok (.iconst 2, 1) := by decide +kernel
theorem dJ13_bitCount_95d88_17 : decode cJ13_bitCount_95d88 17 = .ok (.lushr, 1) := by decide +kernel
theorem dJ13_bitCount_95d88_18 : decode cJ13_bitCount_95d88 18 = .ok (.ldc2_w 316, 3) := by decide +kernel
theorem dJ13_bitCount_95d88_21 : decode cJ13_bitCount_95d88 21 = .ok (.land, 1) := by decide +kernel
theorem dJ13_bitCount_95d88_22 : decode cJ13_bitCount_95d88 22 = .ok (.ladd, 1) := by decide +kernel
theorem dJ13_bitCount_95d88_23 : decode cJ13_bitCount_95d88 23 = .ok (.lstore_n 0, 1) := by decide +kernel
theorem dJ13_bitCount_95d88_24 : decode cJ13_bitCount_95d88 24 = .ok (.lload_n 0, 1) := by decide +kernel
theorem dJ13_bitCount_95d88_25 : decode cJ13_bitCount_95d88 25 = .ok (.lload_n 0, 1) := by decide +kernel
theorem dJ13_bitCount_95d88_26 : decode cJ13_bitCount_95d88 26 = .ok (.iconst 4, 1) := by decide +kernel
theorem dJ13_bitCount_95d88_27 : decode cJ13_bitCount_95d88 27 = .ok (.lushr, 1) := by decide +kernel
theorem dJ13_bitCount_95d88_28 : decode cJ13_bitCount_95d88 28 = .ok (.ladd, 1) := by decide +kernel
theorem dJ13_bitCount_95d88_29 : decode cJ13_bitCount_95d88 29 = .ok (.ldc2_w 318, 3) := by decide +kernel
theorem dJ13_bitCount_95d88_32 : decode cJ13_bitCount_95d88 32 = .ok (.land, 1) := by decide +kernel
theorem dJ13_bitCount_95d88_33 : decode cJ13_bitCount_95d88 33 = .ok (.lstore_n 0, 1) := by decide +kernel
theorem dJ13_bitCount_95d88_34 : decode cJ13_bitCount_95d88 34 = .ok (.lload_n 0, 1) := by decide +kernel
theorem dJ13_bitCount_95d88_35 : decode cJ13_bitCount_95d88 35 = .ok (.lload_n 0, 1) := by decide +kernel
theorem dJ13_bitCount_95d88_36 : decode cJ13_bitCount_95d88 36 = .ok (.bipush 8, 2) := by decide +kernel
theorem dJ13_bitCount_95d88_38 : decode cJ13_bitCount_95d88 38 = .ok (.lushr, 1) := by decide +kernel
theorem dJ13_bitCount_95d88_39 : decode cJ13_bitCount_95d88 39 = .ok (.ladd, 1) := by decide +kernel
theorem dJ13_bitCount_95d88_40 : decode cJ13_bitCount_95d88 40 = .ok (.lstore_n 0, 1) := by decide +kernel
theorem dJ13_bitCount_95d88_41 : decode cJ13_bitCount_95d88 41 = .ok (.lload_n 0, 1) := by decide +kernel
theorem dJ13_bitCount_95d88_42 : decode cJ13_bitCount_95d88 42 = .ok (.lload_n 0, 1) := by decide +kernel
theorem dJ13_bitCount_95d88_43 : decode cJ13_bitCount_95d88 43 = .ok (.bipush 16, 2) := by decide +kernel
theorem dJ13_bitCount_95d88_45 : decode cJ13_bitCount_95d88 45 = .ok (.lushr, 1) := by decide +kernel
theorem dJ13_bitCount_95d88_46 : decode cJ13_bitCount_95d88 46 = .ok (.ladd, 1) := by decide +kernel
theorem dJ13_bitCount_95d88_47 : decode cJ13_bitCount_95d88 47 = .ok (.lstore_n 0, 1) := by decide +kernel
theorem dJ13_bitCount_95d88_48 : decode cJ13_bitCount_95d88 48 = .ok (.lload_n 0, 1) := by decide +kernel
theorem dJ13_bitCount_95d88_49 : decode cJ13_bitCount_95d88 49 = .ok (.lload_n 0, 1) := by decide +kernel
theorem dJ13_bitCount_95d88_50 : decode cJ13_bitCount_95d88 50 = .ok (.bipush 32, 2) := by decide +kernel
theorem dJ13_bitCount_95d88_52 : decode cJ13_bitCount_95d88 52 = .ok (.lushr, 1) := by decide +kernel
theorem dJ13_bitCount_95d88_53 : decode cJ13_bitCount_95d88 53 = .ok (.ladd, 1) := by decide +kernel
theorem dJ13_bitCount_95d88_54 : decode cJ13_bitCount_95d88 54 = .ok (.lstore_n 0, 1) := by decide +kernel
theorem dJ13_bitCount_95d88_55 : decode cJ13_bitCount_95d88 55 = .ok (.lload_n 0, 1) := by decide +kernel
theorem dJ13_bitCount_95d88_56 : decode cJ13_bitCount_95d88 56 = .ok (.l2i, 1) := by decide +kernel
theorem dJ13_bitCount_95d88_57 : decode cJ13_bitCount_95d88 57 = .ok (.bipush 127, 2) := by decide +kernel
theorem dJ13_bitCount_95d88_59 : decode cJ13_bitCount_95d88 59 = .ok (.iand, 1) := by decide +kernel
theorem dJ13_bitCount_95d88_60 : decode cJ13_bitCount_95d88 60 = .ok (.ireturn, 1) := by decide +kernel
theorem dJ9_max_7cf53_0 : decode cJ9_max_7cf53 0 = .ok (.iload_n 0, 1) := by decide +kernel
theorem dJ9_max_7cf53_1 : decode cJ9_max_7cf53 1 = .ok (.iload_n 1, 1) := by decide +kernel
theorem dJ9_max_7cf53_2 : decode cJ9_max_7cf53 2 = .ok (.if_icmp .lt 7, 3) := by decide +kernel
theorem dJ9_max_7cf53_5 : decode cJ9_max_7cf53 5 = .ok (.iload_n 0, 1) := by decide +kernel
theorem dJ9_max_7cf53_6 : decode cJ9_max_7cf53 6 = .ok (.goto 4, 3) := by decide +kernel
theorem dJ9_max_7cf53_9 : decode cJ9_max_7cf53 9 = .ok (.iload_n 1, 1) := by decide +kernel
theorem dJ9_max_7cf53_10 : decode cJ9_max_7cf53 10 = .ok (.ireturn, 1) := by decide +kernel
theorem dJ9_min_7cf53_0 : decode cJ9_min_7cf53 0 = .ok (.iload_n 0, 1) := by decide +kernel
theorem dJ9_min_7cf53_1 : decode cJ9_min_7cf53 1 = .ok (.iload_n 1, 1) := by decide +kernel
theorem dJ9_min_7cf53_2 : decode cJ9_min_7cf53 2 = .ok (.if_icmp .gt 7, 3) := by decide +kernel
theorem dJ9_min_7cf53_5 : decode cJ9_min_7cf53 5 = .ok (.iload_n 0, 1) := by decide +kernel
theorem dJ9_min_7cf53_6 : decode cJ9_min_7cf53 6 = .ok (.goto 4, 3) := by decide +kernel
theorem dJ9_min_7cf53_9 : decode cJ9_min_7cf53 9 = .ok (.iload_n 1, 1) := by decide +kernel
theorem dJ9_min_7cf53_10 : decode cJ9_min_7cf53 10 = .ok (.ireturn, 1) := by decide +kernel
theorem dJ7_fill_d0a16_0 : decode cJ7_fill_d0a16 0 = .ok (.iconst 0, 1) := by decide +kernel
theorem dJ7_fill_d0a16_1 : decode cJ7_fill_d0a16 1 = .ok (.istore_n 3, 1) := by decide +kernel
theorem dJ7_fill_d0a16_2 : decode cJ7_fill_d0a16 2 = .ok (.aload_n 0, 1) := by decide +kernel
theorem dJ7_fill_d0a16_3 : decode cJ7_fill_d0a16 3 = .ok (.arraylength, 1) := by decide +kernel
theorem dJ7_fill_d0a16_4 : decode cJ7_fill_d0a16 4 = .ok (.istore 4, 2) := by decide +kernel
theorem dJ7_fill_d0a16_6 : decode cJ7_fill_d0a16 6 = .ok (.iload_n 3, 1) := by decide +kernel
theorem dJ7_fill_d0a16_7 : decode cJ7_fill_d0a16 7 = .ok (.iload 4, 2) := by decide +kernel
theorem dJ7_fill_d0a16_9 : decode cJ7_fill_d0a16 9 = .ok (.if_icmp .ge 13, 3) := by decide +kernel
theorem dJ7_fill_d0a16_12 : decode cJ7_fill_d0a16 12 = .ok (.aload_n 0, 1) := by decide +kernel
theorem dJ7_fill_d0a16_13 : decode cJ7_fill_d0a16 13 = .ok (.iload_n 3, 1) := by decide +kernel
theorem dJ7_fill_d0a16_14 : decode cJ7_fill_d0a16 14 = .ok (.lload_n 1, 1) := by decide +kernel
theorem dJ7_fill_d0a16_15 : decode cJ7_fill_d0a16 15 = .ok (.lastore, 1) := by decide +kernel
theorem dJ7_fill_d0a16_16 : decode cJ7_fill_d0a16 16 = .ok (.iinc 3 1, 3) := by decide +kernel
theorem dJ7_fill_d0a16_19 : decode cJ7_fill_d0a16 19 = .ok (.goto (-13), 3) := by decide +kernel
theorem dJ7_fill_d0a16_22 : decode cJ7_fill_d0a16 22 = .ok (.return_, 1) := by decide +kernel
theorem dJ7_fill_53178_0 : decode cJ7_fill_53178 0 = .ok (.iconst 0, 1) := by decide +kernel
theorem dJ7_fill_53178_1 : decode cJ7_fill_53178 1 = .ok (.istore_n 2, 1) := by decide +kernel
theorem dJ7_fill_53178_2 : decode cJ7_fill_53178 2 = .ok (.aload_n 0, 1) := by decide +kernel
theorem dJ7_fill_53178_3 : decode cJ7_fill_53178 3 = .ok (.arraylength, 1) := by decide +kernel
theorem dJ7_fill_53178_4 : decode cJ7_fill_53178 4 = .ok (.istore_n 3, 1) := by decide +kernel
theorem dJ7_fill_53178_5 : decode cJ7_fill_53178 5 = .ok (.iload_n 2, 1) := by decide +kernel
theorem dJ7_fill_53178_6 : decode cJ7_fill_53178 6 = .ok (.iload_n 3, 1) := by decide +kernel
theorem dJ7_fill_53178_7 : decode cJ7_fill_53178 7 = .ok (.if_icmp .ge 13, 3) := by decide +kernel
theorem dJ7_fill_53178_10 : decode cJ7_fill_53178 10 = .ok (.aload_n 0, 1) := by decide +kernel
theorem dJ7_fill_53178_11 : decode cJ7_fill_53178 11 = .ok (.iload_n 2, 1) := by decide +kernel
theorem dJ7_fill_53178_12 : decode cJ7_fill_53178 12 = .ok (.iload_n 1, 1) := by decide +kernel
theorem dJ7_fill_53178_13 : decode cJ7_fill_53178 13 = .ok (.iastore, 1) := by decide +kernel
theorem dJ7_fill_53178_14 : decode cJ7_fill_53178 14 = .ok (.iinc 2 1, 3) := by decide +kernel
theorem dJ7_fill_53178_17 : decode cJ7_fill_53178 17 = .ok (.goto (-12), 3) := by decide +kernel
theorem dJ7_fill_53178_20 : decode cJ7_fill_53178 20 = .ok (.return_, 1) := by decide +kernel
theorem dL_law_0 : decode cL_law 0 = .ok (.new 7, 3) := by decide +kernel
theorem dL_law_3 : decode cL_law 3 = .ok (.dup, 1) := by decide +kernel
theorem dL_law_4 : decode cL_law 4 = .ok (.invokespecial 9, 3) := by decide +kernel
theorem dL_law_7 : decode cL_law 7 = .ok (.astore_n 1, 1) := by decide +kernel
theorem dL_law_8 : decode cL_law 8 = .ok (.new 10, 3) := by decide +kernel
theorem dL_law_11 : decode cL_law 11 = .ok (.dup, 1) := by decide +kernel
theorem dL_law_12 : decode cL_law 12 = .ok (.invokespecial 12, 3) := by decide +kernel
theorem dL_law_15 : decode cL_law 15 = .ok (.astore_n 2, 1) := by decide +kernel
theorem dL_law_16 : decode cL_law 16 = .ok (.iconst 0, 1) := by decide +kernel
theorem dL_law_17 : decode cL_law 17 = .ok (.istore_n 3, 1) := by decide +kernel
theorem dL_law_18 : decode cL_law 18 = .ok (.iload_n 3, 1) := by decide +kernel
theorem dL_law_19 : decode cL_law 19 = .ok (.aload_n 0, 1) := by decide +kernel
theorem dL_law_20 : decode cL_law 20 = .ok (.arraylength, 1) := by decide +kernel
theorem dL_law_21 : decode cL_law 21 = .ok (.bipush 6, 2) := by decide +kernel
theorem dL_law_23 : decode cL_law 23 = .ok (.isub, 1) := by decide +kernel
theorem dL_law_24 : decode cL_law 24 = .ok (.if_icmp .gt 1248, 3) := by decide +kernel
theorem dL_law_27 : decode cL_law 27 = .ok (.aload_n 0, 1) := by decide +kernel
theorem dL_law_28 : decode cL_law 28 = .ok (.iload_n 3, 1) := by decide +kernel
theorem dL_law_29 : decode cL_law 29 = .ok (.iaload, 1) := by decide +kernel
theorem dL_law_30 : decode cL_law 30 = .ok (.bipush 63, 2) := by decide +kernel
theorem dL_law_32 : decode cL_law 32 = .ok (.iand, 1) := by decide +kernel
theorem dL_law_33 : decode cL_law 33 = .ok (.tableswitch 1233 0 34 #[155, 198, 231, 274, 297, 310, 343, 356, 379, 402, 435, 478, 501, 534, 567, 600, 623, 646, 690, 724, 767, 790, 803, 816, 829, 842, 865, 908, 931, 964, 1007, 1080, 1114, 1177, 1210], 155) := by decide +kernel
theorem dL_law_188 : decode cL_law 188 = .ok (.aload_n 1, 1) := by decide +kernel
theorem dL_law_189 : decode cL_law 189 = .ok (.aload_n 0, 1) := by decide +kernel
theorem dL_law_190 : decode cL_law 190 = .ok (.iload_n 3, 1) := by decide +kernel
theorem dL_law_191 : decode cL_law 191 = .ok (.iconst 1, 1) := by decide +kernel
theorem dL_law_192 : decode cL_law 192 = .ok (.iadd, 1) := by decide +kernel
theorem dL_law_193 : decode cL_law 193 = .ok (.iaload, 1) := by decide +kernel
theorem dL_law_194 : decode cL_law 194 = .ok (.aload_n 0, 1) := by decide +kernel
theorem dL_law_195 : decode cL_law 195 = .ok (.iload_n 3, 1) := by decide +kernel
theorem dL_law_196 : decode cL_law 196 = .ok (.iconst 2, 1) := by decide +kernel
theorem dL_law_197 : decode cL_law 197 = .ok (.iadd, 1) := by decide +kernel
theorem dL_law_198 : decode cL_law 198 = .ok (.iaload, 1) := by decide +kernel
theorem dL_law_199 : decode cL_law 199 = .ok (.aload_n 0, 1) := by decide +kernel
theorem dL_law_200 : decode cL_law 200 = .ok (.iload_n 3, 1) := by decide +kernel
theorem dL_law_201 : decode cL_law 201 = .ok (.iconst 3, 1) := by decide +kernel
theorem dL_law_202 : decode cL_law 202 = .ok (.iadd, 1) := by decide +kernel
theorem dL_law_203 : decode cL_law 203 = .ok (.iaload, 1) := by decide +kernel
theorem dL_law_204 : decode cL_law 204 = .ok (.invokevirtual 13, 3) := by decide +kernel
theorem dL_law_207 : decode cL_law 207 = .ok (.aload_n 2, 1) := by decide +kernel
theorem dL_law_208 : decode cL_law 208 = .ok (.aload_n 0, 1) := by decide +kernel
theorem dL_law_209 : decode cL_law 209 = .ok (.iload_n 3, 1) := by decide +kernel
theorem dL_law_210 : decode cL_law 210 = .ok (.iconst 1, 1) := by decide +kernel
theorem dL_law_211 : decode cL_law 211 = .ok (.iadd, 1) := by decide +kernel
theorem dL_law_212 : decode cL_law 212 = .ok (.iaload, 1) := by decide +kernel
theorem dL_law_213 : decode cL_law 213 = .ok (.aload_n 0, 1) := by decide +kernel
theorem dL_law_214 : decode cL_law 214 = .ok (.iload_n 3, 1) := by decide +kernel
theorem dL_law_215 : decode cL_law 215 = .ok (.iconst 2, 1) := by decide +kernel
theorem dL_law_216 : decode cL_law 216 = .ok (.iadd, 1) := by decide +kernel
theorem dL_law_217 : decode cL_law 217 = .ok (.iaload, 1) := by decide +kernel
theorem dL_law_218 : decode cL_law 218 = .ok (.aload_n 0, 1) := by decide +kernel
theorem dL_law_219 : decode cL_law 219 = .ok (.iload_n 3, 1) := by decide +kernel
theorem dL_law_220 : decode cL_law 220 = .ok (.iconst 3, 1) := by decide +kernel
theorem dL_law_221 : decode cL_law 221 = .ok (.iadd, 1) := by decide +kernel
theorem dL_law_222 : decode cL_law 222 = .ok (.iaload, 1) := by decide +kernel
theorem dL_law_223 : decode cL_law 223 = .ok (.invokevirtual 17, 3) := by decide +kernel
theorem dL_law_226 : decode cL_law 226 = .ok (.if_icmp .eq 1040, 3) := by decide +kernel
theorem dL_law_229 : decode cL_law 229 = .ok (.iconst 0, 1) := by decide +kernel
theorem dL_law_230 : decode cL_law 230 = .ok (.ireturn, 1) := by decide +kernel
theorem dL_law_231 : decode cL_law 231 = .ok (.aload_n 1, 1) := by decide +kernel
theorem dL_law_232 : decode cL_law 232 = .ok (.aload_n 0, 1) := by decide +kernel
theorem dL_law_233 : decode cL_law 233 = .ok (.iload_n 3, 1) := by decide +kernel
theorem dL_law_234 : decode cL_law 234 = .ok (.iconst 1, 1) := by decide +kernel
theorem dL_law_235 : decode cL_law 235 = .ok (.iadd, 1) := by decide +kernel
theorem dL_law_236 : decode cL_law 236 = .ok (.iaload, 1) := by decide +kernel
theorem dL_law_237 : decode cL_law 237 = .ok (.aload_n 0, 1) := by decide +kernel
theorem dL_law_238 : decode cL_law 238 = .ok (.iload_n 3, 1) := by decide +kernel
theorem dL_law_239 : decode cL_law 239 = .ok (.iconst 2, 1) := by decide +kernel
theorem dL_law_240 : decode cL_law 240 = .ok (.iadd, 1) := by decide +kernel
theorem dL_law_241 : decode cL_law 241 = .ok (.iaload, 1) := by decide +kernel
theorem dL_law_242 : decode cL_law 242 = .ok (.invokevirtual 18, 3) := by decide +kernel
theorem dL_law_245 : decode cL_law 245 = .ok (.aload_n 2, 1) := by decide +kernel
theorem dL_law_246 : decode cL_law 246 = .ok (.aload_n 0, 1) := by decide +kernel
theorem dL_law_247 : decode cL_law 247 = .ok (.iload_n 3, 1) := by decide +kernel
theorem dL_law_248 : decode cL_law 248 = .ok (.iconst 1, 1) := by decide +kernel
theorem dL_law_249 : decode cL_law 249 = .ok (.iadd, 1) := by decide +kernel
theorem dL_law_250 : decode cL_law 250 = .ok (.iaload, 1) := by decide +kernel
theorem dL_law_251 : decode cL_law 251 = .ok (.aload_n 0, 1) := by decide +kernel
theorem dL_law_252 : decode cL_law 252 = .ok (.iload_n 3, 1) := by decide +kernel
theorem dL_law_253 : decode cL_law 253 = .ok (.iconst 2, 1) := by decide +kernel
theorem dL_law_254 : decode cL_law 254 = .ok (.iadd, 1) := by decide +kernel
theorem dL_law_255 : decode cL_law 255 = .ok (.iaload, 1) := by decide +kernel
theorem dL_law_256 : decode cL_law 256 = .ok (.invokevirtual 22, 3) := by decide +kernel
theorem dL_law_259 : decode cL_law 259 = .ok (.if_icmp .eq 1007, 3) := by decide +kernel
theorem dL_law_262 : decode cL_law 262 = .ok (.iconst 0, 1) := by decide +kernel
theorem dL_law_263 : decode cL_law 263 = .ok (.ireturn, 1) := by decide +kernel
theorem dL_law_264 : decode cL_law 264 = .ok (.aload_n 1, 1) := by decide +kernel
theorem dL_law_265 : decode cL_law 265 = .ok (.aload_n 0, 1) := by decide +kernel
theorem dL_law_266 : decode cL_law 266 = .ok (.iload_n 3, 1) := by decide +kernel
theorem dL_law_267 : decode cL_law 267 = .ok (.iconst 1, 1) := by decide +kernel
theorem dL_law_268 : decode cL_law 268 = .ok (.iadd, 1) := by decide +kernel
theorem dL_law_269 : decode cL_law 269 = .ok (.iaload, 1) := by decide +kernel
theorem dL_law_270 : decode cL_law 270 = .ok (.aload_n 0, 1) := by decide +kernel
theorem dL_law_271 : decode cL_law 271 = .ok (.iload_n 3, 1) := by decide +kernel
theorem dL_law_272 : decode cL_law 272 = .ok (.iconst 2, 1) := by decide +kernel
theorem dL_law_273 : decode cL_law 273 = .ok (.iadd, 1) := by decide +kernel
theorem dL_law_274 : decode cL_law 274 = .ok (.iaload, 1) := by decide +kernel
theorem dL_law_275 : decode cL_law 275 = .ok (.aload_n 0, 1) := by decide +kernel
theorem dL_law_276 : decode cL_law 276 = .ok (.iload_n 3, 1) := by decide +kernel
theorem dL_law_277 : decode cL_law 277 = .ok (.iconst 3, 1) := by decide +kernel
theorem dL_law_278 : decode cL_law 278 = .ok (.iadd, 1) := by decide +kernel
theorem dL_law_279 : decode cL_law 279 = .ok (.iaload, 1) := by decide +kernel
theorem dL_law_280 : decode cL_law 280 = .ok (.invokevirtual 23, 3) := by decide +kernel
theorem dL_law_283 : decode cL_law 283 = .ok (.aload_n 2, 1) := by decide +kernel
theorem dL_law_284 : decode cL_law 284 = .ok (.aload_n 0, 1) := by decide +kernel
theorem dL_law_285 : decode cL_law 285 = .ok (.iload_n 3, 1) := by decide +kernel
theorem dL_law_286 : decode cL_law 286 = .ok (.iconst 1, 1) := by decide +kernel
theorem dL_law_287 : decode cL_law 287 = .ok (.iadd, 1) := by decide +kernel
theorem dL_law_288 : decode cL_law 288 = .ok (.iaload, 1) := by decide +kernel
theorem dL_law_289 : decode cL_law 289 = .ok (.aload_n 0, 1) := by decide +kernel
theorem dL_law_290 : decode cL_law 290 = .ok (.iload_n 3, 1) := by decide +kernel
theorem dL_law_291 : decode cL_law 291 = .ok (.iconst 2, 1) := by decide +kernel
theorem dL_law_292 : decode cL_law 292 = .ok (.iadd, 1) := by decide +kernel
theorem dL_law_293 : decode cL_law 293 = .ok (.iaload, 1) := by decide +kernel
theorem dL_law_294 : decode cL_law 294 = .ok (.aload_n 0, 1) := by decide +kernel
theorem dL_law_295 : decode cL_law 295 = .ok (.iload_n 3, 1) := by decide +kernel
theorem dL_law_296 : decode cL_law 296 = .ok (.iconst 3, 1) := by decide +kernel
theorem dL_law_297 : decode cL_law 297 = .ok (.iadd, 1) := by decide +kernel
theorem dL_law_298 : decode cL_law 298 = .ok (.iaload, 1) := by decide +kernel
theorem dL_law_299 : decode cL_law 299 = .ok (.invokevirtual 26, 3) := by decide +kernel
theorem dL_law_302 : decode cL_law 302 = .ok (.if_icmp .eq 964, 3) := by decide +kernel
theorem dL_law_305 : decode cL_law 305 = .ok (.iconst 0, 1) := by decide +kernel
theorem dL_law_306 : decode cL_law 306 = .ok (.ireturn, 1) := by decide +kernel
theorem dL_law_307 : decode cL_law 307 = .ok (.aload_n 1, 1) := by decide +kernel
theorem dL_law_308 : decode cL_law 308 = .ok (.aload_n 0, 1) := by decide +kernel
theorem dL_law_309 : decode cL_law 309 = .ok (.iload_n 3, 1) := by decide +kernel
theorem dL_law_310 : decode cL_law 310 = .ok (.iconst 1, 1) := by decide +kernel
theorem dL_law_311 : decode cL_law 311 = .ok (.iadd, 1) := by decide +kernel
theorem dL_law_312 : decode cL_law 312 = .ok (.iaload, 1) := by decide +kernel
theorem dL_law_313 : decode cL_law 313 = .ok (.invokevirtual 27, 3) := by decide +kernel
theorem dL_law_316 : decode cL_law 316 = .ok (.aload_n 2, 1) := by decide +kernel
theorem dL_law_317 : decode cL_law 317 = .ok (.aload_n 0, 1) := by decide +kernel
theorem dL_law_318 : decode cL_law 318 = .ok (.iload_n 3, 1) := by decide +kernel
theorem dL_law_319 : decode cL_law 319 = .ok (.iconst 1, 1) := by decide +kernel
theorem dL_law_320 : decode cL_law 320 = .ok (.iadd, 1) := by decide +kernel
theorem dL_law_321 : decode cL_law 321 = .ok (.iaload, 1) := by decide +kernel
theorem dL_law_322 : decode cL_law 322 = .ok (.invokevirtual 31, 3) := by decide +kernel
theorem dL_law_325 : decode cL_law 325 = .ok (.if_icmp .eq 941, 3) := by decide +kernel
theorem dL_law_328 : decode cL_law 328 = .ok (.iconst 0, 1) := by decide +kernel
theorem dL_law_329 : decode cL_law 329 = .ok (.ireturn, 1) := by decide +kernel
theorem dL_law_330 : decode cL_law 330 = .ok (.aload_n 1, 1) := by decide +kernel
theorem dL_law_331 : decode cL_law 331 = .ok (.invokevirtual 32, 3) := by decide +kernel
theorem dL_law_334 : decode cL_law 334 = .ok (.aload_n 2, 1) := by decide +kernel
theorem dL_law_335 : decode cL_law 335 = .ok (.invokevirtual 36, 3) := by decide +kernel
theorem dL_law_338 : decode cL_law 338 = .ok (.if_icmp .eq 928, 3) := by decide +kernel
theorem dL_law_341 : decode cL_law 341 = .ok (.iconst 0, 1) := by decide +kernel
theorem dL_law_342 : decode cL_law 342 = .ok (.ireturn, 1) := by decide +kernel
theorem dL_law_343 : decode cL_law 343 = .ok (.aload_n 1, 1) := by decide +kernel
theorem dL_law_344 : decode cL_law 344 = .ok (.aload_n 0, 1) := by decide +kernel
theorem dL_law_345 : decode cL_law 345 = .ok (.iload_n 3, 1) := by decide +kernel
theorem dL_law_346 : decode cL_law 346 = .ok (.iconst 1, 1) := by decide +kernel
theorem dL_law_347 : decode cL_law 347 = .ok (.iadd, 1) := by decide +kernel
theorem dL_law_348 : decode cL_law 348 = .ok (.iaload, 1) := by decide +kernel
theorem dL_law_349 : decode cL_law 349 = .ok (.aload_n 0, 1) := by decide +kernel
theorem dL_law_350 : decode cL_law 350 = .ok (.iload_n 3, 1) := by decide +kernel
theorem dL_law_351 : decode cL_law 351 = .ok (.iconst 2, 1) := by decide +kernel
theorem dL_law_352 : decode cL_law 352 = .ok (.iadd, 1) := by decide +kernel
theorem dL_law_353 : decode cL_law 353 = .ok (.iaload, 1) := by decide +kernel
theorem dL_law_354 : decode cL_law 354 = .ok (.invokevirtual 37, 3) := by decide +kernel
theorem dL_law_357 : decode cL_law 357 = .ok (.aload_n 2, 1) := by decide +kernel
theorem dL_law_358 : decode cL_law 358 = .ok (.aload_n 0, 1) := by decide +kernel
theorem dL_law_359 : decode cL_law 359 = .ok (.iload_n 3, 1) := by decide +kernel
theorem dL_law_360 : decode cL_law 360 = .ok (.iconst 1, 1) := by decide +kernel
theorem dL_law_361 : decode cL_law 361 = .ok (.iadd, 1) := by decide +kernel
theorem dL_law_362 : decode cL_law 362 = .ok (.iaload, 1) := by decide +kernel
theorem dL_law_363 : decode cL_law 363 = .ok (.aload_n 0, 1) := by decide +kernel
theorem dL_law_364 : decode cL_law 364 = .ok (.iload_n 3, 1) := by decide +kernel
theorem dL_law_365 : decode cL_law 365 = .ok (.iconst 2, 1) := by decide +kernel
theorem dL_law_366 : decode cL_law 366 = .ok (.iadd, 1) := by decide +kernel
theorem dL_law_367 : decode cL_law 367 = .ok (.iaload, 1) := by decide +kernel
theorem dL_law_368 : decode cL_law 368 = .ok (.invokevirtual 40, 3) := by decide +kernel
theorem dL_law_371 : decode cL_law 371 = .ok (.if_icmp .eq 895, 3) := by decide +kernel
theorem dL_law_374 : decode cL_law 374 = .ok (.iconst 0, 1) := by decide +kernel
theorem dL_law_375 : decode cL_law 375 = .ok (.ireturn, 1) := by decide +kernel
theorem dL_law_376 : decode cL_law 376 = .ok (.aload_n 1, 1) := by decide +kernel
theorem dL_law_377 : decode cL_law 377 = .ok (.invokevirtual 41, 3) := by decide +kernel
theorem dL_law_380 : decode cL_law 380 = .ok (.aload_n 2, 1) := by decide +kernel
theorem dL_law_381 : decode cL_law 381 = .ok (.invokevirtual 44, 3) := by decide +kernel
theorem dL_law_384 : decode cL_law 384 = .ok (.if_icmp .eq 882, 3) := by decide +kernel
theorem dL_law_387 : decode cL_law 387 = .ok (.iconst 0, 1) := by decide +kernel
theorem dL_law_388 : decode cL_law 388 = .ok (.ireturn, 1) := by decide +kernel
theorem dL_law_389 : decode cL_law 389 = .ok (.aload_n 1, 1) := by decide +kernel
theorem dL_law_390 : decode cL_law 390 = .ok (.aload_n 0, 1) := by decide +kernel
theorem dL_law_391 : decode cL_law 391 = .ok (.iload_n 3, 1) := by decide +kernel
theorem dL_law_392 : decode cL_law 392 = .ok (.iconst 1, 1) := by decide +kernel
theorem dL_law_393 : decode cL_law 393 = .ok (.iadd, 1) := by decide +kernel
theorem dL_law_394 : decode cL_law 394 = .ok (.iaload, 1) := by decide +kernel
theorem dL_law_395 : decode cL_law 395 = .ok (.invokevirtual 45, 3) := by decide +kernel
theorem dL_law_398 : decode cL_law 398 = .ok (.aload_n 2, 1) := by decide +kernel
theorem dL_law_399 : decode cL_law 399 = .ok (.aload_n 0, 1) := by decide +kernel
theorem dL_law_400 : decode cL_law 400 = .ok (.iload_n 3, 1) := by decide +kernel
theorem dL_law_401 : decode cL_law 401 = .ok (.iconst 1, 1) := by decide +kernel
theorem dL_law_402 : decode cL_law 402 = .ok (.iadd, 1) := by decide +kernel
theorem dL_law_403 : decode cL_law 403 = .ok (.iaload, 1) := by decide +kernel
theorem dL_law_404 : decode cL_law 404 = .ok (.invokevirtual 48, 3) := by decide +kernel
theorem dL_law_407 : decode cL_law 407 = .ok (.if_icmp .eq 859, 3) := by decide +kernel
theorem dL_law_410 : decode cL_law 410 = .ok (.iconst 0, 1) := by decide +kernel
theorem dL_law_411 : decode cL_law 411 = .ok (.ireturn, 1) := by decide +kernel
theorem dL_law_412 : decode cL_law 412 = .ok (.aload_n 1, 1) := by decide +kernel
theorem dL_law_413 : decode cL_law 413 = .ok (.aload_n 0, 1) := by decide +kernel
theorem dL_law_414 : decode cL_law 414 = .ok (.iload_n 3, 1) := by decide +kernel
theorem dL_law_415 : decode cL_law 415 = .ok (.iconst 1, 1) := by decide +kernel
theorem dL_law_416 : decode cL_law 416 = .ok (.iadd, 1) := by decide +kernel
theorem dL_law_417 : decode cL_law 417 = .ok (.iaload, 1) := by decide +kernel
theorem dL_law_418 : decode cL_law 418 = .ok (.invokevirtual 49, 3) := by decide +kernel
theorem dL_law_421 : decode cL_law 421 = .ok (.aload_n 2, 1) := by decide +kernel
theorem dL_law_422 : decode cL_law 422 = .ok (.aload_n 0, 1) := by decide +kernel
theorem dL_law_423 : decode cL_law 423 = .ok (.iload_n 3, 1) := by decide +kernel
theorem dL_law_424 : decode cL_law 424 = .ok (.iconst 1, 1) := by decide +kernel
theorem dL_law_425 : decode cL_law 425 = .ok (.iadd, 1) := by decide +kernel
theorem dL_law_426 : decode cL_law 426 = .ok (.iaload, 1) := by decide +kernel
theorem dL_law_427 : decode cL_law 427 = .ok (.invokevirtual 52, 3) := by decide +kernel
theorem dL_law_430 : decode cL_law 430 = .ok (.if_icmp .eq 836, 3) := by decide +kernel
theorem dL_law_433 : decode cL_law 433 = .ok (.iconst 0, 1) := by decide +kernel
theorem dL_law_434 : decode cL_law 434 = .ok (.ireturn, 1) := by decide +kernel
theorem dL_law_435 : decode cL_law 435 = .ok (.aload_n 1, 1) := by decide +kernel
theorem dL_law_436 : decode cL_law 436 = .ok (.aload_n 0, 1) := by decide +kernel
theorem dL_law_437 : decode cL_law 437 = .ok (.iload_n 3, 1) := by decide +kernel
theorem dL_law_438 : decode cL_law 438 = .ok (.iconst 1, 1) := by decide +kernel
theorem dL_law_439 : decode cL_law 439 = .ok (.iadd, 1) := by decide +kernel
theorem dL_law_440 : decode cL_law 440 = .ok (.iaload, 1) := by decide +kernel
theorem dL_law_441 : decode cL_law 441 = .ok (.aload_n 0, 1) := by decide +kernel
theorem dL_law_442 : decode cL_law 442 = .ok (.iload_n 3, 1) := by decide +kernel
theorem dL_law_443 : decode cL_law 443 = .ok (.iconst 2, 1) := by decide +kernel
theorem dL_law_444 : decode cL_law 444 = .ok (.iadd, 1) := by decide +kernel
theorem dL_law_445 : decode cL_law 445 = .ok (.iaload, 1) := by decide +kernel
theorem dL_law_446 : decode cL_law 446 = .ok (.invokevirtual 53, 3) := by decide +kernel
theorem dL_law_449 : decode cL_law 449 = .ok (.aload_n 2, 1) := by decide +kernel
theorem dL_law_450 : decode cL_law 450 = .ok (.aload_n 0, 1) := by decide +kernel
theorem dL_law_451 : decode cL_law 451 = .ok (.iload_n 3, 1) := by decide +kernel
theorem dL_law_452 : decode cL_law 452 = .ok (.iconst 1, 1) := by decide +kernel
theorem dL_law_453 : decode cL_law 453 = .ok (.iadd, 1) := by decide +kernel
theorem dL_law_454 : decode cL_law 454 = .ok (.iaload, 1) := by decide +kernel
theorem dL_law_455 : decode cL_law 455 = .ok (.aload_n 0, 1) := by decide +kernel
theorem dL_law_456 : decode cL_law 456 = .ok (.iload_n 3, 1) := by decide +kernel
theorem dL_law_457 : decode cL_law 457 = .ok (.iconst 2, 1) := by decide +kernel
theorem dL_law_458 : decode cL_law 458 = .ok (.iadd, 1) := by decide +kernel
theorem dL_law_459 : decode cL_law 459 = .ok (.iaload, 1) := by decide +kernel
theorem dL_law_460 : decode cL_law 460 = .ok (.invokevirtual 56, 3) := by decide +kernel
theorem dL_law_463 : decode cL_law 463 = .ok (.if_icmp .eq 803, 3) := by decide +kernel
theorem dL_law_466 : decode cL_law 466 = .ok (.iconst 0, 1) := by decide +kernel
theorem dL_law_467 : decode cL_law 467 = .ok (.ireturn, 1) := by decide +kernel
theorem dL_law_468 : decode cL_law 468 = .ok (.aload_n 1, 1) := by decide +kernel
theorem dL_law_469 : decode cL_law 469 = .ok (.aload_n 0, 1) := by decide +kernel
theorem dL_law_470 : decode cL_law 470 = .ok (.iload_n 3, 1) := by decide +kernel
theorem dL_law_471 : decode cL_law 471 = .ok (.iconst 1, 1) := by decide +kernel
theorem dL_law_472 : decode cL_law 472 = .ok (.iadd, 1) := by decide +kernel
theorem dL_law_473 : decode cL_law 473 = .ok (.iaload, 1) := by decide +kernel
theorem dL_law_474 : decode cL_law 474 = .ok (.aload_n 0, 1) := by decide +kernel
theorem dL_law_475 : decode cL_law 475 = .ok (.iload_n 3, 1) := by decide +kernel
theorem dL_law_476 : decode cL_law 476 = .ok (.iconst 2, 1) := by decide +kernel
theorem dL_law_477 : decode cL_law 477 = .ok (.iadd, 1) := by decide +kernel
theorem dL_law_478 : decode cL_law 478 = .ok (.iaload, 1) := by decide +kernel
theorem dL_law_479 : decode cL_law 479 = .ok (.aload_n 0, 1) := by decide +kernel
theorem dL_law_480 : decode cL_law 480 = .ok (.iload_n 3, 1) := by decide +kernel
theorem dL_law_481 : decode cL_law 481 = .ok (.iconst 3, 1) := by decide +kernel
theorem dL_law_482 : decode cL_law 482 = .ok (.iadd, 1) := by decide +kernel
theorem dL_law_483 : decode cL_law 483 = .ok (.iaload, 1) := by decide +kernel
theorem dL_law_484 : decode cL_law 484 = .ok (.invokevirtual 57, 3) := by decide +kernel
theorem dL_law_487 : decode cL_law 487 = .ok (.aload_n 2, 1) := by decide +kernel
theorem dL_law_488 : decode cL_law 488 = .ok (.aload_n 0, 1) := by decide +kernel
theorem dL_law_489 : decode cL_law 489 = .ok (.iload_n 3, 1) := by decide +kernel
theorem dL_law_490 : decode cL_law 490 = .ok (.iconst 1, 1) := by decide +kernel
theorem dL_law_491 : decode cL_law 491 = .ok (.iadd, 1) := by decide +kernel
theorem dL_law_492 : decode cL_law 492 = .ok (.iaload, 1) := by decide +kernel
theorem dL_law_493 : decode cL_law 493 = .ok (.aload_n 0, 1) := by decide +kernel
theorem dL_law_494 : decode cL_law 494 = .ok (.iload_n 3, 1) := by decide +kernel
theorem dL_law_495 : decode cL_law 495 = .ok (.iconst 2, 1) := by decide +kernel
theorem dL_law_496 : decode cL_law 496 = .ok (.iadd, 1) := by decide +kernel
theorem dL_law_497 : decode cL_law 497 = .ok (.iaload, 1) := by decide +kernel
theorem dL_law_498 : decode cL_law 498 = .ok (.aload_n 0, 1) := by decide +kernel
theorem dL_law_499 : decode cL_law 499 = .ok (.iload_n 3, 1) := by decide +kernel
theorem dL_law_500 : decode cL_law 500 = .ok (.iconst 3, 1) := by decide +kernel
theorem dL_law_501 : decode cL_law 501 = .ok (.iadd, 1) := by decide +kernel
theorem dL_law_502 : decode cL_law 502 = .ok (.iaload, 1) := by decide +kernel
theorem dL_law_503 : decode cL_law 503 = .ok (.invokevirtual 60, 3) := by decide +kernel
theorem dL_law_506 : decode cL_law 506 = .ok (.if_icmp .eq 760, 3) := by decide +kernel
theorem dL_law_509 : decode cL_law 509 = .ok (.iconst 0, 1) := by decide +kernel
theorem dL_law_510 : decode cL_law 510 = .ok (.ireturn, 1) := by decide +kernel
theorem dL_law_511 : decode cL_law 511 = .ok (.aload_n 1, 1) := by decide +kernel
theorem dL_law_512 : decode cL_law 512 = .ok (.aload_n 0, 1) := by decide +kernel
theorem dL_law_513 : decode cL_law 513 = .ok (.iload_n 3, 1) := by decide +kernel
theorem dL_law_514 : decode cL_law 514 = .ok (.iconst 1, 1) := by decide +kernel
theorem dL_law_515 : decode cL_law 515 = .ok (.iadd, 1) := by decide +kernel
theorem dL_law_516 : decode cL_law 516 = .ok (.iaload, 1) := by decide +kernel
theorem dL_law_517 : decode cL_law 517 = .ok (.invokevirtual 61, 3) := by decide +kernel
theorem dL_law_520 : decode cL_law 520 = .ok (.aload_n 2, 1) := by decide +kernel
theorem dL_law_521 : decode cL_law 521 = .ok (.aload_n 0, 1) := by decide +kernel
theorem dL_law_522 : decode cL_law 522 = .ok (.iload_n 3, 1) := by decide +kernel
theorem dL_law_523 : decode cL_law 523 = .ok (.iconst 1, 1) := by decide +kernel
theorem dL_law_524 : decode cL_law 524 = .ok (.iadd, 1) := by decide +kernel
theorem dL_law_525 : decode cL_law 525 = .ok (.iaload, 1) := by decide +kernel
theorem dL_law_526 : decode cL_law 526 = .ok (.invokevirtual 64, 3) := by decide +kernel
theorem dL_law_529 : decode cL_law 529 = .ok (.if_icmp .eq 737, 3) := by decide +kernel
theorem dL_law_532 : decode cL_law 532 = .ok (.iconst 0, 1) := by decide +kernel
theorem dL_law_533 : decode cL_law 533 = .ok (.ireturn, 1) := by decide +kernel
theorem dL_law_534 : decode cL_law 534 = .ok (.aload_n 1, 1) := by decide +kernel
theorem dL_law_535 : decode cL_law 535 = .ok (.aload_n 0, 1) := by decide +kernel
theorem dL_law_536 : decode cL_law 536 = .ok (.iload_n 3, 1) := by decide +kernel
theorem dL_law_537 : decode cL_law 537 = .ok (.iconst 1, 1) := by decide +kernel
theorem dL_law_538 : decode cL_law 538 = .ok (.iadd, 1) := by decide +kernel
theorem dL_law_539 : decode cL_law 539 = .ok (.iaload, 1) := by decide +kernel
theorem dL_law_540 : decode cL_law 540 = .ok (.aload_n 0, 1) := by decide +kernel
theorem dL_law_541 : decode cL_law 541 = .ok (.iload_n 3, 1) := by decide +kernel
theorem dL_law_542 : decode cL_law 542 = .ok (.iconst 2, 1) := by decide +kernel
theorem dL_law_543 : decode cL_law 543 = .ok (.iadd, 1) := by decide +kernel
theorem dL_law_544 : decode cL_law 544 = .ok (.iaload, 1) := by decide +kernel
theorem dL_law_545 : decode cL_law 545 = .ok (.invokevirtual 65, 3) := by decide +kernel
theorem dL_law_548 : decode cL_law 548 = .ok (.aload_n 2, 1) := by decide +kernel
theorem dL_law_549 : decode cL_law 549 = .ok (.aload_n 0, 1) := by decide +kernel
theorem dL_law_550 : decode cL_law 550 = .ok (.iload_n 3, 1) := by decide +kernel
theorem dL_law_551 : decode cL_law 551 = .ok (.iconst 1, 1) := by decide +kernel
theorem dL_law_552 : decode cL_law 552 = .ok (.iadd, 1) := by decide +kernel
theorem dL_law_553 : decode cL_law 553 = .ok (.iaload, 1) := by decide +kernel
theorem dL_law_554 : decode cL_law 554 = .ok (.aload_n 0, 1) := by decide +kernel
theorem dL_law_555 : decode cL_law 555 = .ok (.iload_n 3, 1) := by decide +kernel
theorem dL_law_556 : decode cL_law 556 = .ok (.iconst 2, 1) := by decide +kernel
theorem dL_law_557 : decode cL_law 557 = .ok (.iadd, 1) := by decide +kernel
theorem dL_law_558 : decode cL_law 558 = .ok (.iaload, 1) := by decide +kernel
theorem dL_law_559 : decode cL_law 559 = .ok (.invokevirtual 68, 3) := by decide +kernel
theorem dL_law_562 : decode cL_law 562 = .ok (.if_icmp .eq 704, 3) := by decide +kernel
theorem dL_law_565 : decode cL_law 565 = .ok (.iconst 0, 1) := by decide +kernel
theorem dL_law_566 : decode cL_law 566 = .ok (.ireturn, 1) := by decide +kernel
theorem dL_law_567 : decode cL_law 567 = .ok (.aload_n 1, 1) := by decide +kernel
theorem dL_law_568 : decode cL_law 568 = .ok (.aload_n 0, 1) := by decide +kernel
theorem dL_law_569 : decode cL_law 569 = .ok (.iload_n 3, 1) := by decide +kernel
theorem dL_law_570 : decode cL_law 570 = .ok (.iconst 1, 1) := by decide +kernel
theorem dL_law_571 : decode cL_law 571 = .ok (.iadd, 1) := by decide +kernel
theorem dL_law_572 : decode cL_law 572 = .ok (.iaload, 1) := by decide +kernel
theorem dL_law_573 : decode cL_law 573 = .ok (.aload_n 0, 1) := by decide +kernel
theorem dL_law_574 : decode cL_law 574 = .ok (.iload_n 3, 1) := by decide +kernel
theorem dL_law_575 : decode cL_law 575 = .ok (.iconst 2, 1) := by decide +kernel
theorem dL_law_576 : decode cL_law 576 = .ok (.iadd, 1) := by decide +kernel
theorem dL_law_577 : decode cL_law 577 = .ok (.iaload, 1) := by decide +kernel
theorem dL_law_578 : decode cL_law 578 = .ok (.invokevirtual 69, 3) := by decide +kernel
theorem dL_law_581 : decode cL_law 581 = .ok (.aload_n 2, 1) := by decide +kernel
theorem dL_law_582 : decode cL_law 582 = .ok (.aload_n 0, 1) := by decide +kernel
theorem dL_law_583 : decode cL_law 583 = .ok (.iload_n 3, 1) := by decide +kernel
theorem dL_law_584 : decode cL_law 584 = .ok (.iconst 1, 1) := by decide +kernel
theorem dL_law_585 : decode cL_law 585 = .ok (.iadd, 1) := by decide +kernel
theorem dL_law_586 : decode cL_law 586 = .ok (.iaload, 1) := by decide +kernel
theorem dL_law_587 : decode cL_law 587 = .ok (.aload_n 0, 1) := by decide +kernel
theorem dL_law_588 : decode cL_law 588 = .ok (.iload_n 3, 1) := by decide +kernel
theorem dL_law_589 : decode cL_law 589 = .ok (.iconst 2, 1) := by decide +kernel
theorem dL_law_590 : decode cL_law 590 = .ok (.iadd, 1) := by decide +kernel
theorem dL_law_591 : decode cL_law 591 = .ok (.iaload, 1) := by decide +kernel
theorem dL_law_592 : decode cL_law 592 = .ok (.invokevirtual 72, 3) := by decide +kernel
theorem dL_law_595 : decode cL_law 595 = .ok (.if_icmp .eq 671, 3) := by decide +kernel
theorem dL_law_598 : decode cL_law 598 = .ok (.iconst 0, 1) := by decide +kernel
theorem dL_law_599 : decode cL_law 599 = .ok (.ireturn, 1) := by decide +kernel
theorem dL_law_600 : decode cL_law 600 = .ok (.aload_n 1, 1) := by decide +kernel
theorem dL_law_601 : decode cL_law 601 = .ok (.aload_n 0, 1) := by decide +kernel
theorem dL_law_602 : decode cL_law 602 = .ok (.iload_n 3, 1) := by decide +kernel
theorem dL_law_603 : decode cL_law 603 = .ok (.iconst 1, 1) := by decide +kernel
theorem dL_law_604 : decode cL_law 604 = .ok (.iadd, 1) := by decide +kernel
theorem dL_law_605 : decode cL_law 605 = .ok (.iaload, 1) := by decide +kernel
theorem dL_law_606 : decode cL_law 606 = .ok (.aload_n 0, 1) := by decide +kernel
theorem dL_law_607 : decode cL_law 607 = .ok (.iload_n 3, 1) := by decide +kernel
theorem dL_law_608 : decode cL_law 608 = .ok (.iconst 2, 1) := by decide +kernel
theorem dL_law_609 : decode cL_law 609 = .ok (.iadd, 1) := by decide +kernel
theorem dL_law_610 : decode cL_law 610 = .ok (.iaload, 1) := by decide +kernel
theorem dL_law_611 : decode cL_law 611 = .ok (.invokevirtual 73, 3) := by decide +kernel
theorem dL_law_614 : decode cL_law 614 = .ok (.aload_n 2, 1) := by decide +kernel
theorem dL_law_615 : decode cL_law 615 = .ok (.aload_n 0, 1) := by decide +kernel
theorem dL_law_616 : decode cL_law 616 = .ok (.iload_n 3, 1) := by decide +kernel
theorem dL_law_617 : decode cL_law 617 = .ok (.iconst 1, 1) := by decide +kernel
theorem dL_law_618 : decode cL_law 618 = .ok (.iadd, 1) := by decide +kernel
theorem dL_law_619 : decode cL_law 619 = .ok (.iaload, 1) := by decide +kernel
theorem dL_law_620 : decode cL_law 620 = .ok (.aload_n 0, 1) := by decide +kernel
theorem dL_law_621 : decode cL_law 621 = .ok (.iload_n 3, 1) := by decide +kernel
theorem dL_law_622 : decode cL_law 622 = .ok (.iconst 2, 1) := by decide +kernel
theorem dL_law_623 : decode cL_law 623 = .ok (.iadd, 1) := by decide +kernel
theorem dL_law_624 : decode cL_law 624 = .ok (.iaload, 1) := by decide +kernel
theorem dL_law_625 : decode cL_law 625 = .ok (.invokevirtual 76, 3) := by decide +kernel
theorem dL_law_628 : decode cL_law 628 = .ok (.if_icmp .eq 638, 3) := by decide +kernel
theorem dL_law_631 : decode cL_law 631 = .ok (.iconst 0, 1) := by decide +kernel
theorem dL_law_632 : decode cL_law 632 = .ok (.ireturn, 1) := by decide +kernel
theorem dL_law_633 : decode cL_law 633 = .ok (.aload_n 1, 1) := by decide +kernel
theorem dL_law_634 : decode cL_law 634 = .ok (.aload_n 0, 1) := by decide +kernel
theorem dL_law_635 : decode cL_law 635 = .ok (.iload_n 3, 1) := by decide +kernel
theorem dL_law_636 : decode cL_law 636 = .ok (.iconst 1, 1) := by decide +kernel
theorem dL_law_637 : decode cL_law 637 = .ok (.iadd, 1) := by decide +kernel
theorem dL_law_638 : decode cL_law 638 = .ok (.iaload, 1) := by decide +kernel
theorem dL_law_639 : decode cL_law 639 = .ok (.invokevirtual 77, 3) := by decide +kernel
theorem dL_law_642 : decode cL_law 642 = .ok (.aload_n 2, 1) := by decide +kernel
theorem dL_law_643 : decode cL_law 643 = .ok (.aload_n 0, 1) := by decide +kernel
theorem dL_law_644 : decode cL_law 644 = .ok (.iload_n 3, 1) := by decide +kernel
theorem dL_law_645 : decode cL_law 645 = .ok (.iconst 1, 1) := by decide +kernel
theorem dL_law_646 : decode cL_law 646 = .ok (.iadd, 1) := by decide +kernel
theorem dL_law_647 : decode cL_law 647 = .ok (.iaload, 1) := by decide +kernel
theorem dL_law_648 : decode cL_law 648 = .ok (.invokevirtual 80, 3) := by decide +kernel
theorem dL_law_651 : decode cL_law 651 = .ok (.if_icmp .eq 615, 3) := by decide +kernel
theorem dL_law_654 : decode cL_law 654 = .ok (.iconst 0, 1) := by decide +kernel
theorem dL_law_655 : decode cL_law 655 = .ok (.ireturn, 1) := by decide +kernel
theorem dL_law_656 : decode cL_law 656 = .ok (.aload_n 1, 1) := by decide +kernel
theorem dL_law_657 : decode cL_law 657 = .ok (.aload_n 0, 1) := by decide +kernel
theorem dL_law_658 : decode cL_law 658 = .ok (.iload_n 3, 1) := by decide +kernel
theorem dL_law_659 : decode cL_law 659 = .ok (.iconst 1, 1) := by decide +kernel
theorem dL_law_660 : decode cL_law 660 = .ok (.iadd, 1) := by decide +kernel
theorem dL_law_661 : decode cL_law 661 = .ok (.iaload, 1) := by decide +kernel
theorem dL_law_662 : decode cL_law 662 = .ok (.invokevirtual 81, 3) := by decide +kernel
theorem dL_law_665 : decode cL_law 665 = .ok (.aload_n 2, 1) := by decide +kernel
theorem dL_law_666 : decode cL_law 666 = .ok (.aload_n 0, 1) := by decide +kernel
theorem dL_law_667 : decode cL_law 667 = .ok (.iload_n 3, 1) := by decide +kernel
theorem dL_law_668 : decode cL_law 668 = .ok (.iconst 1, 1) := by decide +kernel
theorem dL_law_669 : decode cL_law 669 = .ok (.iadd, 1) := by decide +kernel
theorem dL_law_670 : decode cL_law 670 = .ok (.iaload, 1) := by decide +kernel
theorem dL_law_671 : decode cL_law 671 = .ok (.invokevirtual 84, 3) := by decide +kernel
theorem dL_law_674 : decode cL_law 674 = .ok (.if_icmp .eq 592, 3) := by decide +kernel
theorem dL_law_677 : decode cL_law 677 = .ok (.iconst 0, 1) := by decide +kernel
theorem dL_law_678 : decode cL_law 678 = .ok (.ireturn, 1) := by decide +kernel
theorem dL_law_679 : decode cL_law 679 = .ok (.aload_n 1, 1) := by decide +kernel
theorem dL_law_680 : decode cL_law 680 = .ok (.aload_n 0, 1) := by decide +kernel
theorem dL_law_681 : decode cL_law 681 = .ok (.iload_n 3, 1) := by decide +kernel
theorem dL_law_682 : decode cL_law 682 = .ok (.iconst 1, 1) := by decide +kernel
theorem dL_law_683 : decode cL_law 683 = .ok (.iadd, 1) := by decide +kernel
theorem dL_law_684 : decode cL_law 684 = .ok (.iaload, 1) := by decide +kernel
theorem dL_law_685 : decode cL_law 685 = .ok (.aload_n 0, 1) := by decide +kernel
theorem dL_law_686 : decode cL_law 686 = .ok (.iload_n 3, 1) := by decide +kernel
theorem dL_law_687 : decode cL_law 687 = .ok (.iconst 2, 1) := by decide +kernel
theorem dL_law_688 : decode cL_law 688 = .ok (.iadd, 1) := by decide +kernel
theorem dL_law_689 : decode cL_law 689 = .ok (.iaload, 1) := by decide +kernel
theorem dL_law_690 : decode cL_law 690 = .ok (.aload_n 0, 1) := by decide +kernel
theorem dL_law_691 : decode cL_law 691 = .ok (.iload_n 3, 1) := by decide +kernel
theorem dL_law_692 : decode cL_law 692 = .ok (.iconst 3, 1) := by decide +kernel
theorem dL_law_693 : decode cL_law 693 = .ok (.iadd, 1) := by decide +kernel
theorem dL_law_694 : decode cL_law 694 = .ok (.iaload, 1) := by decide +kernel
theorem dL_law_695 : decode cL_law 695 = .ok (.invokevirtual 85, 3) := by decide +kernel
theorem dL_law_698 : decode cL_law 698 = .ok (.aload_n 2, 1) := by decide +kernel
theorem dL_law_699 : decode cL_law 699 = .ok (.aload_n 0, 1) := by decide +kernel
theorem dL_law_700 : decode cL_law 700 = .ok (.iload_n 3, 1) := by decide +kernel
theorem dL_law_701 : decode cL_law 701 = .ok (.iconst 1, 1) := by decide +kernel
theorem dL_law_702 : decode cL_law 702 = .ok (.iadd, 1) := by decide +kernel
theorem dL_law_703 : decode cL_law 703 = .ok (.iaload, 1) := by decide +kernel
theorem dL_law_704 : decode cL_law 704 = .ok (.aload_n 0, 1) := by decide +kernel
theorem dL_law_705 : decode cL_law 705 = .ok (.iload_n 3, 1) := by decide +kernel
theorem dL_law_706 : decode cL_law 706 = .ok (.iconst 2, 1) := by decide +kernel
theorem dL_law_707 : decode cL_law 707 = .ok (.iadd, 1) := by decide +kernel
theorem dL_law_708 : decode cL_law 708 = .ok (.iaload, 1) := by decide +kernel
theorem dL_law_709 : decode cL_law 709 = .ok (.aload_n 0, 1) := by decide +kernel
theorem dL_law_710 : decode cL_law 710 = .ok (.iload_n 3, 1) := by decide +kernel
theorem dL_law_711 : decode cL_law 711 = .ok (.iconst 3, 1) := by decide +kernel
theorem dL_law_712 : decode cL_law 712 = .ok (.iadd, 1) := by decide +kernel
theorem dL_law_713 : decode cL_law 713 = .ok (.iaload, 1) := by decide +kernel
theorem dL_law_714 : decode cL_law 714 = .ok (.invokevirtual 89, 3) := by decide +kernel
theorem dL_law_717 : decode cL_law 717 = .ok (.lcmp, 1) := by decide +kernel
theorem dL_law_718 : decode cL_law 718 = .ok (.ifCond .eq 548, 3) := by decide +kernel
theorem dL_law_721 : decode cL_law 721 = .ok (.iconst 0, 1) := by decide +kernel
theorem dL_law_722 : decode cL_law 722 = .ok (.ireturn, 1) := by decide +kernel
theorem dL_law_723 : decode cL_law 723 = .ok (.aload_n 1, 1) := by decide +kernel
theorem dL_law_724 : decode cL_law 724 = .ok (.aload_n 0, 1) := by decide +kernel
theorem dL_law_725 : decode cL_law 725 = .ok (.iload_n 3, 1) := by decide +kernel
theorem dL_law_726 : decode cL_law 726 = .ok (.iconst 1, 1) := by decide +kernel
theorem dL_law_727 : decode cL_law 727 = .ok (.iadd, 1) := by decide +kernel
theorem dL_law_728 : decode cL_law 728 = .ok (.iaload, 1) := by decide +kernel
theorem dL_law_729 : decode cL_law 729 = .ok (.aload_n 0, 1) := by decide +kernel
theorem dL_law_730 : decode cL_law 730 = .ok (.iload_n 3, 1) := by decide +kernel
theorem dL_law_731 : decode cL_law 731 = .ok (.iconst 2, 1) := by decide +kernel
theorem dL_law_732 : decode cL_law 732 = .ok (.iadd, 1) := by decide +kernel
theorem dL_law_733 : decode cL_law 733 = .ok (.iaload, 1) := by decide +kernel
theorem dL_law_734 : decode cL_law 734 = .ok (.invokevirtual 90, 3) := by decide +kernel
theorem dL_law_737 : decode cL_law 737 = .ok (.aload_n 2, 1) := by decide +kernel
theorem dL_law_738 : decode cL_law 738 = .ok (.aload_n 0, 1) := by decide +kernel
theorem dL_law_739 : decode cL_law 739 = .ok (.iload_n 3, 1) := by decide +kernel
theorem dL_law_740 : decode cL_law 740 = .ok (.iconst 1, 1) := by decide +kernel
theorem dL_law_741 : decode cL_law 741 = .ok (.iadd, 1) := by decide +kernel
theorem dL_law_742 : decode cL_law 742 = .ok (.iaload, 1) := by decide +kernel
theorem dL_law_743 : decode cL_law 743 = .ok (.aload_n 0, 1) := by decide +kernel
theorem dL_law_744 : decode cL_law 744 = .ok (.iload_n 3, 1) := by decide +kernel
theorem dL_law_745 : decode cL_law 745 = .ok (.iconst 2, 1) := by decide +kernel
theorem dL_law_746 : decode cL_law 746 = .ok (.iadd, 1) := by decide +kernel
theorem dL_law_747 : decode cL_law 747 = .ok (.iaload, 1) := by decide +kernel
theorem dL_law_748 : decode cL_law 748 = .ok (.invokevirtual 94, 3) := by decide +kernel
theorem dL_law_751 : decode cL_law 751 = .ok (.lcmp, 1) := by decide +kernel
theorem dL_law_752 : decode cL_law 752 = .ok (.ifCond .eq 514, 3) := by decide +kernel
theorem dL_law_755 : decode cL_law 755 = .ok (.iconst 0, 1) := by decide +kernel
theorem dL_law_756 : decode cL_law 756 = .ok (.ireturn, 1) := by decide +kernel
theorem dL_law_757 : decode cL_law 757 = .ok (.aload_n 1, 1) := by decide +kernel
theorem dL_law_758 : decode cL_law 758 = .ok (.aload_n 0, 1) := by decide +kernel
theorem dL_law_759 : decode cL_law 759 = .ok (.iload_n 3, 1) := by decide +kernel
theorem dL_law_760 : decode cL_law 760 = .ok (.iconst 1, 1) := by decide +kernel
theorem dL_law_761 : decode cL_law 761 = .ok (.iadd, 1) := by decide +kernel
theorem dL_law_762 : decode cL_law 762 = .ok (.iaload, 1) := by decide +kernel
theorem dL_law_763 : decode cL_law 763 = .ok (.aload_n 0, 1) := by decide +kernel
theorem dL_law_764 : decode cL_law 764 = .ok (.iload_n 3, 1) := by decide +kernel
theorem dL_law_765 : decode cL_law 765 = .ok (.iconst 2, 1) := by decide +kernel
theorem dL_law_766 : decode cL_law 766 = .ok (.iadd, 1) := by decide +kernel
theorem dL_law_767 : decode cL_law 767 = .ok (.iaload, 1) := by decide +kernel
theorem dL_law_768 : decode cL_law 768 = .ok (.aload_n 0, 1) := by decide +kernel
theorem dL_law_769 : decode cL_law 769 = .ok (.iload_n 3, 1) := by decide +kernel
theorem dL_law_770 : decode cL_law 770 = .ok (.iconst 3, 1) := by decide +kernel
theorem dL_law_771 : decode cL_law 771 = .ok (.iadd, 1) := by decide +kernel
theorem dL_law_772 : decode cL_law 772 = .ok (.iaload, 1) := by decide +kernel
theorem dL_law_773 : decode cL_law 773 = .ok (.invokevirtual 95, 3) := by decide +kernel
theorem dL_law_776 : decode cL_law 776 = .ok (.aload_n 2, 1) := by decide +kernel
theorem dL_law_777 : decode cL_law 777 = .ok (.aload_n 0, 1) := by decide +kernel
theorem dL_law_778 : decode cL_law 778 = .ok (.iload_n 3, 1) := by decide +kernel
theorem dL_law_779 : decode cL_law 779 = .ok (.iconst 1, 1) := by decide +kernel
theorem dL_law_780 : decode cL_law 780 = .ok (.iadd, 1) := by decide +kernel
theorem dL_law_781 : decode cL_law 781 = .ok (.iaload, 1) := by decide +kernel
theorem dL_law_782 : decode cL_law 782 = .ok (.aload_n 0, 1) := by decide +kernel
theorem dL_law_783 : decode cL_law 783 = .ok (.iload_n 3, 1) := by decide +kernel
theorem dL_law_784 : decode cL_law 784 = .ok (.iconst 2, 1) := by decide +kernel
theorem dL_law_785 : decode cL_law 785 = .ok (.iadd, 1) := by decide +kernel
theorem dL_law_786 : decode cL_law 786 = .ok (.iaload, 1) := by decide +kernel
theorem dL_law_787 : decode cL_law 787 = .ok (.aload_n 0, 1) := by decide +kernel
theorem dL_law_788 : decode cL_law 788 = .ok (.iload_n 3, 1) := by decide +kernel
theorem dL_law_789 : decode cL_law 789 = .ok (.iconst 3, 1) := by decide +kernel
theorem dL_law_790 : decode cL_law 790 = .ok (.iadd, 1) := by decide +kernel
theorem dL_law_791 : decode cL_law 791 = .ok (.iaload, 1) := by decide +kernel
theorem dL_law_792 : decode cL_law 792 = .ok (.invokevirtual 98, 3) := by decide +kernel
theorem dL_law_795 : decode cL_law 795 = .ok (.if_icmp .eq 471, 3) := by decide +kernel
theorem dL_law_798 : decode cL_law 798 = .ok (.iconst 0, 1) := by decide +kernel
theorem dL_law_799 : decode cL_law 799 = .ok (.ireturn, 1) := by decide +kernel
theorem dL_law_800 : decode cL_law 800 = .ok (.aload_n 1, 1) := by decide +kernel
theorem dL_law_801 : decode cL_law 801 = .ok (.aload_n 0, 1) := by decide +kernel
theorem dL_law_802 : decode cL_law 802 = .ok (.iload_n 3, 1) := by decide +kernel
theorem dL_law_803 : decode cL_law 803 = .ok (.iconst 1, 1) := by decide +kernel
theorem dL_law_804 : decode cL_law 804 = .ok (.iadd, 1) := by decide +kernel
theorem dL_law_805 : decode cL_law 805 = .ok (.iaload, 1) := by decide +kernel
theorem dL_law_806 : decode cL_law 806 = .ok (.invokevirtual 99, 3) := by decide +kernel
theorem dL_law_809 : decode cL_law 809 = .ok (.aload_n 2, 1) := by decide +kernel
theorem dL_law_810 : decode cL_law 810 = .ok (.aload_n 0, 1) := by decide +kernel
theorem dL_law_811 : decode cL_law 811 = .ok (.iload_n 3, 1) := by decide +kernel
theorem dL_law_812 : decode cL_law 812 = .ok (.iconst 1, 1) := by decide +kernel
theorem dL_law_813 : decode cL_law 813 = .ok (.iadd, 1) := by decide +kernel
theorem dL_law_814 : decode cL_law 814 = .ok (.iaload, 1) := by decide +kernel
theorem dL_law_815 : decode cL_law 815 = .ok (.invokevirtual 102, 3) := by decide +kernel
theorem dL_law_818 : decode cL_law 818 = .ok (.if_icmp .eq 448, 3) := by decide +kernel
theorem dL_law_821 : decode cL_law 821 = .ok (.iconst 0, 1) := by decide +kernel
theorem dL_law_822 : decode cL_law 822 = .ok (.ireturn, 1) := by decide +kernel
theorem dL_law_823 : decode cL_law 823 = .ok (.aload_n 1, 1) := by decide +kernel
theorem dL_law_824 : decode cL_law 824 = .ok (.invokevirtual 103, 3) := by decide +kernel
theorem dL_law_827 : decode cL_law 827 = .ok (.aload_n 2, 1) := by decide +kernel
theorem dL_law_828 : decode cL_law 828 = .ok (.invokevirtual 106, 3) := by decide +kernel
theorem dL_law_831 : decode cL_law 831 = .ok (.if_icmp .eq 435, 3) := by decide +kernel
theorem dL_law_834 : decode cL_law 834 = .ok (.iconst 0, 1) := by decide +kernel
theorem dL_law_835 : decode cL_law 835 = .ok (.ireturn, 1) := by decide +kernel
theorem dL_law_836 : decode cL_law 836 = .ok (.aload_n 1, 1) := by decide +kernel
theorem dL_law_837 : decode cL_law 837 = .ok (.invokevirtual 107, 3) := by decide +kernel
theorem dL_law_840 : decode cL_law 840 = .ok (.aload_n 2, 1) := by decide +kernel
theorem dL_law_841 : decode cL_law 841 = .ok (.invokevirtual 110, 3) := by decide +kernel
theorem dL_law_844 : decode cL_law 844 = .ok (.if_icmp .eq 422, 3) := by decide +kernel
theorem dL_law_847 : decode cL_law 847 = .ok (.iconst 0, 1) := by decide +kernel
theorem dL_law_848 : decode cL_law 848 = .ok (.ireturn, 1) := by decide +kernel
theorem dL_law_849 : decode cL_law 849 = .ok (.aload_n 1, 1) := by decide +kernel
theorem dL_law_850 : decode cL_law 850 = .ok (.invokevirtual 111, 3) := by decide +kernel
theorem dL_law_853 : decode cL_law 853 = .ok (.aload_n 2, 1) := by decide +kernel
theorem dL_law_854 : decode cL_law 854 = .ok (.invokevirtual 114, 3) := by decide +kernel
theorem dL_law_857 : decode cL_law 857 = .ok (.if_icmp .eq 409, 3) := by decide +kernel
theorem dL_law_860 : decode cL_law 860 = .ok (.iconst 0, 1) := by decide +kernel
theorem dL_law_861 : decode cL_law 861 = .ok (.ireturn, 1) := by decide +kernel
theorem dL_law_862 : decode cL_law 862 = .ok (.aload_n 1, 1) := by decide +kernel
theorem dL_law_863 : decode cL_law 863 = .ok (.invokevirtual 115, 3) := by decide +kernel
theorem dL_law_866 : decode cL_law 866 = .ok (.aload_n 2, 1) := by decide +kernel
theorem dL_law_867 : decode cL_law 867 = .ok (.invokevirtual 118, 3) := by decide +kernel
theorem dL_law_870 : decode cL_law 870 = .ok (.if_icmp .eq 396, 3) := by decide +kernel
theorem dL_law_873 : decode cL_law 873 = .ok (.iconst 0, 1) := by decide +kernel
theorem dL_law_874 : decode cL_law 874 = .ok (.ireturn, 1) := by decide +kernel
theorem dL_law_875 : decode cL_law 875 = .ok (.aload_n 1, 1) := by decide +kernel
theorem dL_law_876 : decode cL_law 876 = .ok (.aload_n 0, 1) := by decide +kernel
theorem dL_law_877 : decode cL_law 877 = .ok (.iload_n 3, 1) := by decide +kernel
theorem dL_law_878 : decode cL_law 878 = .ok (.iconst 1, 1) := by decide +kernel
theorem dL_law_879 : decode cL_law 879 = .ok (.iadd, 1) := by decide +kernel
theorem dL_law_880 : decode cL_law 880 = .ok (.iaload, 1) := by decide +kernel
theorem dL_law_881 : decode cL_law 881 = .ok (.invokevirtual 119, 3) := by decide +kernel
theorem dL_law_884 : decode cL_law 884 = .ok (.aload_n 2, 1) := by decide +kernel
theorem dL_law_885 : decode cL_law 885 = .ok (.aload_n 0, 1) := by decide +kernel
theorem dL_law_886 : decode cL_law 886 = .ok (.iload_n 3, 1) := by decide +kernel
theorem dL_law_887 : decode cL_law 887 = .ok (.iconst 1, 1) := by decide +kernel
theorem dL_law_888 : decode cL_law 888 = .ok (.iadd, 1) := by decide +kernel
theorem dL_law_889 : decode cL_law 889 = .ok (.iaload, 1) := by decide +kernel
theorem dL_law_890 : decode cL_law 890 = .ok (.invokevirtual 122, 3) := by decide +kernel
theorem dL_law_893 : decode cL_law 893 = .ok (.if_icmp .eq 373, 3) := by decide +kernel
theorem dL_law_896 : decode cL_law 896 = .ok (.iconst 0, 1) := by decide +kernel
theorem dL_law_897 : decode cL_law 897 = .ok (.ireturn, 1) := by decide +kernel
theorem dL_law_898 : decode cL_law 898 = .ok (.aload_n 1, 1) := by decide +kernel
theorem dL_law_899 : decode cL_law 899 = .ok (.aload_n 0, 1) := by decide +kernel
theorem dL_law_900 : decode cL_law 900 = .ok (.iload_n 3, 1) := by decide +kernel
theorem dL_law_901 : decode cL_law 901 = .ok (.iconst 1, 1) := by decide +kernel
theorem dL_law_902 : decode cL_law 902 = .ok (.iadd, 1) := by decide +kernel
theorem dL_law_903 : decode cL_law 903 = .ok (.iaload, 1) := by decide +kernel
theorem dL_law_904 : decode cL_law 904 = .ok (.aload_n 0, 1) := by decide +kernel
theorem dL_law_905 : decode cL_law 905 = .ok (.iload_n 3, 1) := by decide +kernel
theorem dL_law_906 : decode cL_law 906 = .ok (.iconst 2, 1) := by decide +kernel
theorem dL_law_907 : decode cL_law 907 = .ok (.iadd, 1) := by decide +kernel
theorem dL_law_908 : decode cL_law 908 = .ok (.iaload, 1) := by decide +kernel
theorem dL_law_909 : decode cL_law 909 = .ok (.aload_n 0, 1) := by decide +kernel
theorem dL_law_910 : decode cL_law 910 = .ok (.iload_n 3, 1) := by decide +kernel
theorem dL_law_911 : decode cL_law 911 = .ok (.iconst 3, 1) := by decide +kernel
theorem dL_law_912 : decode cL_law 912 = .ok (.iadd, 1) := by decide +kernel
theorem dL_law_913 : decode cL_law 913 = .ok (.iaload, 1) := by decide +kernel
theorem dL_law_914 : decode cL_law 914 = .ok (.invokevirtual 123, 3) := by decide +kernel
theorem dL_law_917 : decode cL_law 917 = .ok (.aload_n 2, 1) := by decide +kernel
theorem dL_law_918 : decode cL_law 918 = .ok (.aload_n 0, 1) := by decide +kernel
theorem dL_law_919 : decode cL_law 919 = .ok (.iload_n 3, 1) := by decide +kernel
theorem dL_law_920 : decode cL_law 920 = .ok (.iconst 1, 1) := by decide +kernel
theorem dL_law_921 : decode cL_law 921 = .ok (.iadd, 1) := by decide +kernel
theorem dL_law_922 : decode cL_law 922 = .ok (.iaload, 1) := by decide +kernel
theorem dL_law_923 : decode cL_law 923 = .ok (.aload_n 0, 1) := by decide +kernel
theorem dL_law_924 : decode cL_law 924 = .ok (.iload_n 3, 1) := by decide +kernel
theorem dL_law_925 : decode cL_law 925 = .ok (.iconst 2, 1) := by decide +kernel
theorem dL_law_926 : decode cL_law 926 = .ok (.iadd, 1) := by decide +kernel
theorem dL_law_927 : decode cL_law 927 = .ok (.iaload, 1) := by decide +kernel
theorem dL_law_928 : decode cL_law 928 = .ok (.aload_n 0, 1) := by decide +kernel
theorem dL_law_929 : decode cL_law 929 = .ok (.iload_n 3, 1) := by decide +kernel
theorem dL_law_930 : decode cL_law 930 = .ok (.iconst 3, 1) := by decide +kernel
theorem dL_law_931 : decode cL_law 931 = .ok (.iadd, 1) := by decide +kernel
theorem dL_law_932 : decode cL_law 932 = .ok (.iaload, 1) := by decide +kernel
theorem dL_law_933 : decode cL_law 933 = .ok (.invokevirtual 126, 3) := by decide +kernel
theorem dL_law_936 : decode cL_law 936 = .ok (.if_icmp .eq 330, 3) := by decide +kernel
theorem dL_law_939 : decode cL_law 939 = .ok (.iconst 0, 1) := by decide +kernel
theorem dL_law_940 : decode cL_law 940 = .ok (.ireturn, 1) := by decide +kernel
theorem dL_law_941 : decode cL_law 941 = .ok (.aload_n 1, 1) := by decide +kernel
theorem dL_law_942 : decode cL_law 942 = .ok (.aload_n 0, 1) := by decide +kernel
theorem dL_law_943 : decode cL_law 943 = .ok (.iload_n 3, 1) := by decide +kernel
theorem dL_law_944 : decode cL_law 944 = .ok (.iconst 1, 1) := by decide +kernel
theorem dL_law_945 : decode cL_law 945 = .ok (.iadd, 1) := by decide +kernel
theorem dL_law_946 : decode cL_law 946 = .ok (.iaload, 1) := by decide +kernel
theorem dL_law_947 : decode cL_law 947 = .ok (.invokevirtual 127, 3) := by decide +kernel
theorem dL_law_950 : decode cL_law 950 = .ok (.aload_n 2, 1) := by decide +kernel
theorem dL_law_951 : decode cL_law 951 = .ok (.aload_n 0, 1) := by decide +kernel
theorem dL_law_952 : decode cL_law 952 = .ok (.iload_n 3, 1) := by decide +kernel
theorem dL_law_953 : decode cL_law 953 = .ok (.iconst 1, 1) := by decide +kernel
theorem dL_law_954 : decode cL_law 954 = .ok (.iadd, 1) := by decide +kernel
theorem dL_law_955 : decode cL_law 955 = .ok (.iaload, 1) := by decide +kernel
theorem dL_law_956 : decode cL_law 956 = .ok (.invokevirtual 130, 3) := by decide +kernel
theorem dL_law_959 : decode cL_law 959 = .ok (.if_icmp .eq 307, 3) := by decide +kernel
theorem dL_law_962 : decode cL_law 962 = .ok (.iconst 0, 1) := by decide +kernel
theorem dL_law_963 : decode cL_law 963 = .ok (.ireturn, 1) := by decide +kernel
theorem dL_law_964 : decode cL_law 964 = .ok (.aload_n 1, 1) := by decide +kernel
theorem dL_law_965 : decode cL_law 965 = .ok (.aload_n 0, 1) := by decide +kernel
theorem dL_law_966 : decode cL_law 966 = .ok (.iload_n 3, 1) := by decide +kernel
theorem dL_law_967 : decode cL_law 967 = .ok (.iconst 1, 1) := by decide +kernel
theorem dL_law_968 : decode cL_law 968 = .ok (.iadd, 1) := by decide +kernel
theorem dL_law_969 : decode cL_law 969 = .ok (.iaload, 1) := by decide +kernel
theorem dL_law_970 : decode cL_law 970 = .ok (.aload_n 0, 1) := by decide +kernel
theorem dL_law_971 : decode cL_law 971 = .ok (.iload_n 3, 1) := by decide +kernel
theorem dL_law_972 : decode cL_law 972 = .ok (.iconst 2, 1) := by decide +kernel
theorem dL_law_973 : decode cL_law 973 = .ok (.iadd, 1) := by decide +kernel
theorem dL_law_974 : decode cL_law 974 = .ok (.iaload, 1) := by decide +kernel
theorem dL_law_975 : decode cL_law 975 = .ok (.invokevirtual 131, 3) := by decide +kernel
theorem dL_law_978 : decode cL_law 978 = .ok (.aload_n 2, 1) := by decide +kernel
theorem dL_law_979 : decode cL_law 979 = .ok (.aload_n 0, 1) := by decide +kernel
theorem dL_law_980 : decode cL_law 980 = .ok (.iload_n 3, 1) := by decide +kernel
theorem dL_law_981 : decode cL_law 981 = .ok (.iconst 1, 1) := by decide +kernel
theorem dL_law_982 : decode cL_law 982 = .ok (.iadd, 1) := by decide +kernel
theorem dL_law_983 : decode cL_law 983 = .ok (.iaload, 1) := by decide +kernel
theorem dL_law_984 : decode cL_law 984 = .ok (.aload_n 0, 1) := by decide +kernel
theorem dL_law_985 : decode cL_law 985 = .ok (.iload_n 3, 1) := by decide +kernel
theorem dL_law_986 : decode cL_law 986 = .ok (.iconst 2, 1) := by decide +kernel
theorem dL_law_987 : decode cL_law 987 = .ok (.iadd, 1) := by decide +kernel
theorem dL_law_988 : decode cL_law 988 = .ok (.iaload, 1) := by decide +kernel
theorem dL_law_989 : decode cL_law 989 = .ok (.invokevirtual 134, 3) := by decide +kernel
theorem dL_law_992 : decode cL_law 992 = .ok (.if_icmp .eq 274, 3) := by decide +kernel
theorem dL_law_995 : decode cL_law 995 = .ok (.iconst 0, 1) := by decide +kernel
theorem dL_law_996 : decode cL_law 996 = .ok (.ireturn, 1) := by decide +kernel
theorem dL_law_997 : decode cL_law 997 = .ok (.aload_n 1, 1) := by decide +kernel
theorem dL_law_998 : decode cL_law 998 = .ok (.aload_n 0, 1) := by decide +kernel
theorem dL_law_999 : decode cL_law 999 = .ok (.iload_n 3, 1) := by decide +kernel
theorem dL_law_1000 : decode cL_law 1000 = .ok (.iconst 1, 1) := by decide +kernel
theorem dL_law_1001 : decode cL_law 1001 = .ok (.iadd, 1) := by decide +kernel
theorem dL_law_1002 : decode cL_law 1002 = .ok (.iaload, 1) := by decide +kernel
theorem dL_law_1003 : decode cL_law 1003 = .ok (.aload_n 0, 1) := by decide +kernel
theorem dL_law_1004 : decode cL_law 1004 = .ok (.iload_n 3, 1) := by decide +kernel
theorem dL_law_1005 : decode cL_law 1005 = .ok (.iconst 2, 1) := by decide +kernel
theorem dL_law_1006 : decode cL_law 1006 = .ok (.iadd, 1) := by decide +kernel
theorem dL_law_1007 : decode cL_law 1007 = .ok (.iaload, 1) := by decide +kernel
theorem dL_law_1008 : decode cL_law 1008 = .ok (.aload_n 0, 1) := by decide +kernel
theorem dL_law_1009 : decode cL_law 1009 = .ok (.iload_n 3, 1) := by decide +kernel
theorem dL_law_1010 : decode cL_law 1010 = .ok (.iconst 3, 1) := by decide +kernel
theorem dL_law_1011 : decode cL_law 1011 = .ok (.iadd, 1) := by decide +kernel
theorem dL_law_1012 : decode cL_law 1012 = .ok (.iaload, 1) := by decide +kernel
theorem dL_law_1013 : decode cL_law 1013 = .ok (.invokevirtual 135, 3) := by decide +kernel
theorem dL_law_1016 : decode cL_law 1016 = .ok (.aload_n 2, 1) := by decide +kernel
theorem dL_law_1017 : decode cL_law 1017 = .ok (.aload_n 0, 1) := by decide +kernel
theorem dL_law_1018 : decode cL_law 1018 = .ok (.iload_n 3, 1) := by decide +kernel
theorem dL_law_1019 : decode cL_law 1019 = .ok (.iconst 1, 1) := by decide +kernel
theorem dL_law_1020 : decode cL_law 1020 = .ok (.iadd, 1) := by decide +kernel
theorem dL_law_1021 : decode cL_law 1021 = .ok (.iaload, 1) := by decide +kernel
theorem dL_law_1022 : decode cL_law 1022 = .ok (.aload_n 0, 1) := by decide +kernel
theorem dL_law_1023 : decode cL_law 1023 = .ok (.iload_n 3, 1) := by decide +kernel
theorem dL_law_1024 : decode cL_law 1024 = .ok (.iconst 2, 1) := by decide +kernel
theorem dL_law_1025 : decode cL_law 1025 = .ok (.iadd, 1) := by decide +kernel
theorem dL_law_1026 : decode cL_law 1026 = .ok (.iaload, 1) := by decide +kernel
theorem dL_law_1027 : decode cL_law 1027 = .ok (.aload_n 0, 1) := by decide +kernel
theorem dL_law_1028 : decode cL_law 1028 = .ok (.iload_n 3, 1) := by decide +kernel
theorem dL_law_1029 : decode cL_law 1029 = .ok (.iconst 3, 1) := by decide +kernel
theorem dL_law_1030 : decode cL_law 1030 = .ok (.iadd, 1) := by decide +kernel
theorem dL_law_1031 : decode cL_law 1031 = .ok (.iaload, 1) := by decide +kernel
theorem dL_law_1032 : decode cL_law 1032 = .ok (.invokevirtual 138, 3) := by decide +kernel
theorem dL_law_1035 : decode cL_law 1035 = .ok (.if_icmp .eq 231, 3) := by decide +kernel
theorem dL_law_1038 : decode cL_law 1038 = .ok (.iconst 0, 1) := by decide +kernel
theorem dL_law_1039 : decode cL_law 1039 = .ok (.ireturn, 1) := by decide +kernel
theorem dL_law_1040 : decode cL_law 1040 = .ok (.aload_n 1, 1) := by decide +kernel
theorem dL_law_1041 : decode cL_law 1041 = .ok (.aload_n 0, 1) := by decide +kernel
theorem dL_law_1042 : decode cL_law 1042 = .ok (.iload_n 3, 1) := by decide +kernel
theorem dL_law_1043 : decode cL_law 1043 = .ok (.iconst 1, 1) := by decide +kernel
theorem dL_law_1044 : decode cL_law 1044 = .ok (.iadd, 1) := by decide +kernel
theorem dL_law_1045 : decode cL_law 1045 = .ok (.iaload, 1) := by decide +kernel
theorem dL_law_1046 : decode cL_law 1046 = .ok (.aload_n 0, 1) := by decide +kernel
theorem dL_law_1047 : decode cL_law 1047 = .ok (.iload_n 3, 1) := by decide +kernel
theorem dL_law_1048 : decode cL_law 1048 = .ok (.iconst 2, 1) := by decide +kernel
theorem dL_law_1049 : decode cL_law 1049 = .ok (.iadd, 1) := by decide +kernel
theorem dL_law_1050 : decode cL_law 1050 = .ok (.iaload, 1) := by decide +kernel
theorem dL_law_1051 : decode cL_law 1051 = .ok (.aload_n 0, 1) := by decide +kernel
theorem dL_law_1052 : decode cL_law 1052 = .ok (.iload_n 3, 1) := by decide +kernel
theorem dL_law_1053 : decode cL_law 1053 = .ok (.iconst 3, 1) := by decide +kernel
theorem dL_law_1054 : decode cL_law 1054 = .ok (.iadd, 1) := by decide +kernel
theorem dL_law_1055 : decode cL_law 1055 = .ok (.iaload, 1) := by decide +kernel
theorem dL_law_1056 : decode cL_law 1056 = .ok (.i2l, 1) := by decide +kernel
theorem dL_law_1057 : decode cL_law 1057 = .ok (.bipush 32, 2) := by decide +kernel
theorem dL_law_1059 : decode cL_law 1059 = .ok (.lshl, 1) := by decide +kernel
theorem dL_law_1060 : decode cL_law 1060 = .ok (.aload_n 0, 1) := by decide +kernel
theorem dL_law_1061 : decode cL_law 1061 = .ok (.iload_n 3, 1) := by decide +kernel
theorem dL_law_1062 : decode cL_law 1062 = .ok (.iconst 4, 1) := by decide +kernel
theorem dL_law_1063 : decode cL_law 1063 = .ok (.iadd, 1) := by decide +kernel
theorem dL_law_1064 : decode cL_law 1064 = .ok (.iaload, 1) := by decide +kernel
theorem dL_law_1065 : decode cL_law 1065 = .ok (.i2l, 1) := by decide +kernel
theorem dL_law_1066 : decode cL_law 1066 = .ok (.ldc2_w 139, 3) := by decide +kernel
theorem dL_law_1069 : decode cL_law 1069 = .ok (.land, 1) := by decide +kernel
theorem dL_law_1070 : decode cL_law 1070 = .ok (.lor, 1) := by decide +kernel
theorem dL_law_1071 : decode cL_law 1071 = .ok (.invokevirtual 141, 3) := by decide +kernel
theorem dL_law_1074 : decode cL_law 1074 = .ok (.aload_n 2, 1) := by decide +kernel
theorem dL_law_1075 : decode cL_law 1075 = .ok (.aload_n 0, 1) := by decide +kernel
theorem dL_law_1076 : decode cL_law 1076 = .ok (.iload_n 3, 1) := by decide +kernel
theorem dL_law_1077 : decode cL_law 1077 = .ok (.iconst 1, 1) := by decide +kernel
theorem dL_law_1078 : decode cL_law 1078 = .ok (.iadd, 1) := by decide +kernel
theorem dL_law_1079 : decode cL_law 1079 = .ok (.iaload, 1) := by decide +kernel
theorem dL_law_1080 : decode cL_law 1080 = .ok (.aload_n 0, 1) := by decide +kernel
theorem dL_law_1081 : decode cL_law 1081 = .ok (.iload_n 3, 1) := by decide +kernel
theorem dL_law_1082 : decode cL_law 1082 = .ok (.iconst 2, 1) := by decide +kernel
theorem dL_law_1083 : decode cL_law 1083 = .ok (.iadd, 1) := by decide +kernel
theorem dL_law_1084 : decode cL_law 1084 = .ok (.iaload, 1) := by decide +kernel
theorem dL_law_1085 : decode cL_law 1085 = .ok (.aload_n 0, 1) := by decide +kernel
theorem dL_law_1086 : decode cL_law 1086 = .ok (.iload_n 3, 1) := by decide +kernel
theorem dL_law_1087 : decode cL_law 1087 = .ok (.iconst 3, 1) := by decide +kernel
theorem dL_law_1088 : decode cL_law 1088 = .ok (.iadd, 1) := by decide +kernel
theorem dL_law_1089 : decode cL_law 1089 = .ok (.iaload, 1) := by decide +kernel
theorem dL_law_1090 : decode cL_law 1090 = .ok (.i2l, 1) := by decide +kernel
theorem dL_law_1091 : decode cL_law 1091 = .ok (.bipush 32, 2) := by decide +kernel
theorem dL_law_1093 : decode cL_law 1093 = .ok (.lshl, 1) := by decide +kernel
theorem dL_law_1094 : decode cL_law 1094 = .ok (.aload_n 0, 1) := by decide +kernel
theorem dL_law_1095 : decode cL_law 1095 = .ok (.iload_n 3, 1) := by decide +kernel
theorem dL_law_1096 : decode cL_law 1096 = .ok (.iconst 4, 1) := by decide +kernel
theorem dL_law_1097 : decode cL_law 1097 = .ok (.iadd, 1) := by decide +kernel
theorem dL_law_1098 : decode cL_law 1098 = .ok (.iaload, 1) := by decide +kernel
theorem dL_law_1099 : decode cL_law 1099 = .ok (.i2l, 1) := by decide +kernel
theorem dL_law_1100 : decode cL_law 1100 = .ok (.ldc2_w 139, 3) := by decide +kernel
theorem dL_law_1103 : decode cL_law 1103 = .ok (.land, 1) := by decide +kernel
theorem dL_law_1104 : decode cL_law 1104 = .ok (.lor, 1) := by decide +kernel
theorem dL_law_1105 : decode cL_law 1105 = .ok (.invokevirtual 145, 3) := by decide +kernel
theorem dL_law_1108 : decode cL_law 1108 = .ok (.if_icmp .eq 158, 3) := by decide +kernel
theorem dL_law_1111 : decode cL_law 1111 = .ok (.iconst 0, 1) := by decide +kernel
theorem dL_law_1112 : decode cL_law 1112 = .ok (.ireturn, 1) := by decide +kernel
theorem dL_law_1113 : decode cL_law 1113 = .ok (.aload_n 1, 1) := by decide +kernel
theorem dL_law_1114 : decode cL_law 1114 = .ok (.aload_n 0, 1) := by decide +kernel
theorem dL_law_1115 : decode cL_law 1115 = .ok (.iload_n 3, 1) := by decide +kernel
theorem dL_law_1116 : decode cL_law 1116 = .ok (.iconst 1, 1) := by decide +kernel
theorem dL_law_1117 : decode cL_law 1117 = .ok (.iadd, 1) := by decide +kernel
theorem dL_law_1118 : decode cL_law 1118 = .ok (.iaload, 1) := by decide +kernel
theorem dL_law_1119 : decode cL_law 1119 = .ok (.aload_n 0, 1) := by decide +kernel
theorem dL_law_1120 : decode cL_law 1120 = .ok (.iload_n 3, 1) := by decide +kernel
theorem dL_law_1121 : decode cL_law 1121 = .ok (.iconst 2, 1) := by decide +kernel
theorem dL_law_1122 : decode cL_law 1122 = .ok (.iadd, 1) := by decide +kernel
theorem dL_law_1123 : decode cL_law 1123 = .ok (.iaload, 1) := by decide +kernel
theorem dL_law_1124 : decode cL_law 1124 = .ok (.invokevirtual 146, 3) := by decide +kernel
theorem dL_law_1127 : decode cL_law 1127 = .ok (.aload_n 2, 1) := by decide +kernel
theorem dL_law_1128 : decode cL_law 1128 = .ok (.aload_n 0, 1) := by decide +kernel
theorem dL_law_1129 : decode cL_law 1129 = .ok (.iload_n 3, 1) := by decide +kernel
theorem dL_law_1130 : decode cL_law 1130 = .ok (.iconst 1, 1) := by decide +kernel
theorem dL_law_1131 : decode cL_law 1131 = .ok (.iadd, 1) := by decide +kernel
theorem dL_law_1132 : decode cL_law 1132 = .ok (.iaload, 1) := by decide +kernel
theorem dL_law_1133 : decode cL_law 1133 = .ok (.aload_n 0, 1) := by decide +kernel
theorem dL_law_1134 : decode cL_law 1134 = .ok (.iload_n 3, 1) := by decide +kernel
theorem dL_law_1135 : decode cL_law 1135 = .ok (.iconst 2, 1) := by decide +kernel
theorem dL_law_1136 : decode cL_law 1136 = .ok (.iadd, 1) := by decide +kernel
theorem dL_law_1137 : decode cL_law 1137 = .ok (.iaload, 1) := by decide +kernel
theorem dL_law_1138 : decode cL_law 1138 = .ok (.invokevirtual 149, 3) := by decide +kernel
theorem dL_law_1141 : decode cL_law 1141 = .ok (.lcmp, 1) := by decide +kernel
theorem dL_law_1142 : decode cL_law 1142 = .ok (.ifCond .eq 124, 3) := by decide +kernel
theorem dL_law_1145 : decode cL_law 1145 = .ok (.iconst 0, 1) := by decide +kernel
theorem dL_law_1146 : decode cL_law 1146 = .ok (.ireturn, 1) := by decide +kernel
theorem dL_law_1147 : decode cL_law 1147 = .ok (.aload_n 1, 1) := by decide +kernel
theorem dL_law_1148 : decode cL_law 1148 = .ok (.aload_n 0, 1) := by decide +kernel
theorem dL_law_1149 : decode cL_law 1149 = .ok (.iload_n 3, 1) := by decide +kernel
theorem dL_law_1150 : decode cL_law 1150 = .ok (.iconst 1, 1) := by decide +kernel
theorem dL_law_1151 : decode cL_law 1151 = .ok (.iadd, 1) := by decide +kernel
theorem dL_law_1152 : decode cL_law 1152 = .ok (.iaload, 1) := by decide +kernel
theorem dL_law_1153 : decode cL_law 1153 = .ok (.aload_n 0, 1) := by decide +kernel
theorem dL_law_1154 : decode cL_law 1154 = .ok (.iload_n 3, 1) := by decide +kernel
theorem dL_law_1155 : decode cL_law 1155 = .ok (.iconst 2, 1) := by decide +kernel
theorem dL_law_1156 : decode cL_law 1156 = .ok (.iadd, 1) := by decide +kernel
theorem dL_law_1157 : decode cL_law 1157 = .ok (.iaload, 1) := by decide +kernel
theorem dL_law_1158 : decode cL_law 1158 = .ok (.aload_n 0, 1) := by decide +kernel
theorem dL_law_1159 : decode cL_law 1159 = .ok (.iload_n 3, 1) := by decide +kernel
theorem dL_law_1160 : decode cL_law 1160 = .ok (.iconst 3, 1) := by decide +kernel
theorem dL_law_1161 : decode cL_law 1161 = .ok (.iadd, 1) := by decide +kernel
theorem dL_law_1162 : decode cL_law 1162 = .ok (.iaload, 1) := by decide +kernel
theorem dL_law_1163 : decode cL_law 1163 = .ok (.aload_n 0, 1) := by decide +kernel
theorem dL_law_1164 : decode cL_law 1164 = .ok (.iload_n 3, 1) := by decide +kernel
theorem dL_law_1165 : decode cL_law 1165 = .ok (.iconst 4, 1) := by decide +kernel
theorem dL_law_1166 : decode cL_law 1166 = .ok (.iadd, 1) := by decide +kernel
theorem dL_law_1167 : decode cL_law 1167 = .ok (.iaload, 1) := by decide +kernel
theorem dL_law_1168 : decode cL_law 1168 = .ok (.aload_n 0, 1) := by decide +kernel
theorem dL_law_1169 : decode cL_law 1169 = .ok (.iload_n 3, 1) := by decide +kernel
theorem dL_law_1170 : decode cL_law 1170 = .ok (.iconst 5, 1) := by decide +kernel
theorem dL_law_1171 : decode cL_law 1171 = .ok (.iadd, 1) := by decide +kernel
theorem dL_law_1172 : decode cL_law 1172 = .ok (.iaload, 1) := by decide +kernel
theorem dL_law_1173 : decode cL_law 1173 = .ok (.invokevirtual 150, 3) := by decide +kernel
theorem dL_law_1176 : decode cL_law 1176 = .ok (.aload_n 2, 1) := by decide +kernel
theorem dL_law_1177 : decode cL_law 1177 = .ok (.aload_n 0, 1) := by decide +kernel
theorem dL_law_1178 : decode cL_law 1178 = .ok (.iload_n 3, 1) := by decide +kernel
theorem dL_law_1179 : decode cL_law 1179 = .ok (.iconst 1, 1) := by decide +kernel
theorem dL_law_1180 : decode cL_law 1180 = .ok (.iadd, 1) := by decide +kernel
theorem dL_law_1181 : decode cL_law 1181 = .ok (.iaload, 1) := by decide +kernel
theorem dL_law_1182 : decode cL_law 1182 = .ok (.aload_n 0, 1) := by decide +kernel
theorem dL_law_1183 : decode cL_law 1183 = .ok (.iload_n 3, 1) := by decide +kernel
theorem dL_law_1184 : decode cL_law 1184 = .ok (.iconst 2, 1) := by decide +kernel
theorem dL_law_1185 : decode cL_law 1185 = .ok (.iadd, 1) := by decide +kernel
theorem dL_law_1186 : decode cL_law 1186 = .ok (.iaload, 1) := by decide +kernel
theorem dL_law_1187 : decode cL_law 1187 = .ok (.aload_n 0, 1) := by decide +kernel
theorem dL_law_1188 : decode cL_law 1188 = .ok (.iload_n 3, 1) := by decide +kernel
theorem dL_law_1189 : decode cL_law 1189 = .ok (.iconst 3, 1) := by decide +kernel
theorem dL_law_1190 : decode cL_law 1190 = .ok (.iadd, 1) := by decide +kernel
theorem dL_law_1191 : decode cL_law 1191 = .ok (.iaload, 1) := by decide +kernel
theorem dL_law_1192 : decode cL_law 1192 = .ok (.aload_n 0, 1) := by decide +kernel
theorem dL_law_1193 : decode cL_law 1193 = .ok (.iload_n 3, 1) := by decide +kernel
theorem dL_law_1194 : decode cL_law 1194 = .ok (.iconst 4, 1) := by decide +kernel
theorem dL_law_1195 : decode cL_law 1195 = .ok (.iadd, 1) := by decide +kernel
theorem dL_law_1196 : decode cL_law 1196 = .ok (.iaload, 1) := by decide +kernel
theorem dL_law_1197 : decode cL_law 1197 = .ok (.aload_n 0, 1) := by decide +kernel
theorem dL_law_1198 : decode cL_law 1198 = .ok (.iload_n 3, 1) := by decide +kernel
theorem dL_law_1199 : decode cL_law 1199 = .ok (.iconst 5, 1) := by decide +kernel
theorem dL_law_1200 : decode cL_law 1200 = .ok (.iadd, 1) := by decide +kernel
theorem dL_law_1201 : decode cL_law 1201 = .ok (.iaload, 1) := by decide +kernel
theorem dL_law_1202 : decode cL_law 1202 = .ok (.invokevirtual 154, 3) := by decide +kernel
theorem dL_law_1205 : decode cL_law 1205 = .ok (.if_icmp .eq 61, 3) := by decide +kernel
theorem dL_law_1208 : decode cL_law 1208 = .ok (.iconst 0, 1) := by decide +kernel
theorem dL_law_1209 : decode cL_law 1209 = .ok (.ireturn, 1) := by decide +kernel
theorem dL_law_1210 : decode cL_law 1210 = .ok (.aload_n 1, 1) := by decide +kernel
theorem dL_law_1211 : decode cL_law 1211 = .ok (.aload_n 0, 1) := by decide +kernel
theorem dL_law_1212 : decode cL_law 1212 = .ok (.iload_n 3, 1) := by decide +kernel
theorem dL_law_1213 : decode cL_law 1213 = .ok (.iconst 1, 1) := by decide +kernel
theorem dL_law_1214 : decode cL_law 1214 = .ok (.iadd, 1) := by decide +kernel
theorem dL_law_1215 : decode cL_law 1215 = .ok (.iaload, 1) := by decide +kernel
theorem dL_law_1216 : decode cL_law 1216 = .ok (.aload_n 0, 1) := by decide +kernel
theorem dL_law_1217 : decode cL_law 1217 = .ok (.iload_n 3, 1) := by decide +kernel
theorem dL_law_1218 : decode cL_law 1218 = .ok (.iconst 2, 1) := by decide +kernel
theorem dL_law_1219 : decode cL_law 1219 = .ok (.iadd, 1) := by decide +kernel
theorem dL_law_1220 : decode cL_law 1220 = .ok (.iaload, 1) := by decide +kernel
theorem dL_law_1221 : decode cL_law 1221 = .ok (.invokevirtual 155, 3) := by decide +kernel
theorem dL_law_1224 : decode cL_law 1224 = .ok (.aload_n 2, 1) := by decide +kernel
theorem dL_law_1225 : decode cL_law 1225 = .ok (.aload_n 0, 1) := by decide +kernel
theorem dL_law_1226 : decode cL_law 1226 = .ok (.iload_n 3, 1) := by decide +kernel
theorem dL_law_1227 : decode cL_law 1227 = .ok (.iconst 1, 1) := by decide +kernel
theorem dL_law_1228 : decode cL_law 1228 = .ok (.iadd, 1) := by decide +kernel
theorem dL_law_1229 : decode cL_law 1229 = .ok (.iaload, 1) := by decide +kernel
theorem dL_law_1230 : decode cL_law 1230 = .ok (.aload_n 0, 1) := by decide +kernel
theorem dL_law_1231 : decode cL_law 1231 = .ok (.iload_n 3, 1) := by decide +kernel
theorem dL_law_1232 : decode cL_law 1232 = .ok (.iconst 2, 1) := by decide +kernel
theorem dL_law_1233 : decode cL_law 1233 = .ok (.iadd, 1) := by decide +kernel
theorem dL_law_1234 : decode cL_law 1234 = .ok (.iaload, 1) := by decide +kernel
theorem dL_law_1235 : decode cL_law 1235 = .ok (.invokevirtual 158, 3) := by decide +kernel
theorem dL_law_1238 : decode cL_law 1238 = .ok (.if_icmp .eq 28, 3) := by decide +kernel
theorem dL_law_1241 : decode cL_law 1241 = .ok (.iconst 0, 1) := by decide +kernel
theorem dL_law_1242 : decode cL_law 1242 = .ok (.ireturn, 1) := by decide +kernel
theorem dL_law_1243 : decode cL_law 1243 = .ok (.aload_n 1, 1) := by decide +kernel
theorem dL_law_1244 : decode cL_law 1244 = .ok (.aload_n 0, 1) := by decide +kernel
theorem dL_law_1245 : decode cL_law 1245 = .ok (.iload_n 3, 1) := by decide +kernel
theorem dL_law_1246 : decode cL_law 1246 = .ok (.iconst 1, 1) := by decide +kernel
theorem dL_law_1247 : decode cL_law 1247 = .ok (.iadd, 1) := by decide +kernel
theorem dL_law_1248 : decode cL_law 1248 = .ok (.iaload, 1) := by decide +kernel
theorem dL_law_1249 : decode cL_law 1249 = .ok (.invokevirtual 159, 3) := by decide +kernel
theorem dL_law_1252 : decode cL_law 1252 = .ok (.aload_n 2, 1) := by decide +kernel
theorem dL_law_1253 : decode cL_law 1253 = .ok (.aload_n 0, 1) := by decide +kernel
theorem dL_law_1254 : decode cL_law 1254 = .ok (.iload_n 3, 1) := by decide +kernel
theorem dL_law_1255 : decode cL_law 1255 = .ok (.iconst 1, 1) := by decide +kernel
theorem dL_law_1256 : decode cL_law 1256 = .ok (.iadd, 1) := by decide +kernel
theorem dL_law_1257 : decode cL_law 1257 = .ok (.iaload, 1) := by decide +kernel
theorem dL_law_1258 : decode cL_law 1258 = .ok (.invokevirtual 162, 3) := by decide +kernel
theorem dL_law_1261 : decode cL_law 1261 = .ok (.if_icmp .eq 5, 3) := by decide +kernel
theorem dL_law_1264 : decode cL_law 1264 = .ok (.iconst 0, 1) := by decide +kernel
theorem dL_law_1265 : decode cL_law 1265 = .ok (.ireturn, 1) := by decide +kernel
theorem dL_law_1266 : decode cL_law 1266 = .ok (.iinc 3 6, 3) := by decide +kernel
theorem dL_law_1269 : decode cL_law 1269 = .ok (.goto (-1251), 3) := by decide +kernel
theorem dL_law_1272 : decode cL_law 1272 = .ok (.iconst 1, 1) := by decide +kernel
theorem dL_law_1273 : decode cL_law 1273 = .ok (.ireturn, 1) := by decide +kernel
end
