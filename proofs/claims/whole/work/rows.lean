section
/-- a private method of a class that the tables say can be made, by its rows of tables_1 -/
def lw_okq (q : MethodName × Nat) : Prop := (q.1.cls ≠ "java/lang/invoke/MethodHandle" ∧ q.1.cls ≠ "java/lang/invoke/VarHandle") ∧ Cond.instantiable q.1.cls q.2 ∈ tables_1 ∧ Cond.privateMethod q.1 ∈ tables_1 ∧ Cond.instanceMethod q.1 ∈ tables_1
theorem lw_p0 : lw_okq (⟨"FlowMixer$Flow", "makeEmpty", "(II)V"⟩, 14) := ⟨⟨by decide +kernel, by decide +kernel⟩, List.mem_of_getElem? (i := 69) (by decide +kernel), List.mem_of_getElem? (i := 75) (by decide +kernel), List.mem_of_getElem? (i := 76) (by decide +kernel)⟩
theorem lw_p1 : lw_okq (⟨"FlowMixer$Flow", "setJump", "(III)V"⟩, 14) := ⟨⟨by decide +kernel, by decide +kernel⟩, List.mem_of_getElem? (i := 69) (by decide +kernel), List.mem_of_getElem? (i := 79) (by decide +kernel), List.mem_of_getElem? (i := 80) (by decide +kernel)⟩
theorem lw_p2 : lw_okq (⟨"FlowMixer$Flow", "jumpStep", "(I)I"⟩, 14) := ⟨⟨by decide +kernel, by decide +kernel⟩, List.mem_of_getElem? (i := 69) (by decide +kernel), List.mem_of_getElem? (i := 83) (by decide +kernel), List.mem_of_getElem? (i := 84) (by decide +kernel)⟩
theorem lw_p3 : lw_okq (⟨"FlowMixer$Flow", "setTargets", "(III)V"⟩, 14) := ⟨⟨by decide +kernel, by decide +kernel⟩, List.mem_of_getElem? (i := 69) (by decide +kernel), List.mem_of_getElem? (i := 87) (by decide +kernel), List.mem_of_getElem? (i := 88) (by decide +kernel)⟩
theorem lw_p4 : lw_okq (⟨"FlowMixer$Nodes", "canBe", "(III)Z"⟩, 7) := ⟨⟨by decide +kernel, by decide +kernel⟩, List.mem_of_getElem? (i := 32) (by decide +kernel), List.mem_of_getElem? (i := 327) (by decide +kernel), List.mem_of_getElem? (i := 328) (by decide +kernel)⟩
theorem lw_p5 : lw_okq (⟨"FlowMixer$Nodes", "has", "(I)Z"⟩, 7) := ⟨⟨by decide +kernel, by decide +kernel⟩, List.mem_of_getElem? (i := 32) (by decide +kernel), List.mem_of_getElem? (i := 334) (by decide +kernel), List.mem_of_getElem? (i := 335) (by decide +kernel)⟩
theorem lw_p6 : lw_okq (⟨"java/lang/Throwable", "fillInStackTrace", "(I)Ljava/lang/Throwable;"⟩, 6) := ⟨⟨by decide +kernel, by decide +kernel⟩, List.mem_of_getElem? (i := 376) (by decide +kernel), List.mem_of_getElem? (i := 374) (by decide +kernel), List.mem_of_getElem? (i := 375) (by decide +kernel)⟩
theorem lw_p7 : lw_okq (⟨"FlowMixer$Nodes", "sizeWith", "(III)I"⟩, 7) := ⟨⟨by decide +kernel, by decide +kernel⟩, List.mem_of_getElem? (i := 32) (by decide +kernel), List.mem_of_getElem? (i := 406) (by decide +kernel), List.mem_of_getElem? (i := 407) (by decide +kernel)⟩
theorem lw_p8 : lw_okq (⟨"FlowMixer$Nodes", "add", "(III)I"⟩, 7) := ⟨⟨by decide +kernel, by decide +kernel⟩, List.mem_of_getElem? (i := 32) (by decide +kernel), List.mem_of_getElem? (i := 426) (by decide +kernel), List.mem_of_getElem? (i := 427) (by decide +kernel)⟩
theorem lw_p9 : lw_okq (⟨"FlowMixer$Nodes", "variablesWith", "(III)I"⟩, 7) := ⟨⟨by decide +kernel, by decide +kernel⟩, List.mem_of_getElem? (i := 32) (by decide +kernel), List.mem_of_getElem? (i := 431) (by decide +kernel), List.mem_of_getElem? (i := 432) (by decide +kernel)⟩
theorem lw_p10 : lw_okq (⟨"FlowMixer$Flow", "append", "(III)I"⟩, 14) := ⟨⟨by decide +kernel, by decide +kernel⟩, List.mem_of_getElem? (i := 69) (by decide +kernel), List.mem_of_getElem? (i := 452) (by decide +kernel), List.mem_of_getElem? (i := 453) (by decide +kernel)⟩
theorem lw_p11 : lw_okq (⟨"FlowMixer", "canJump", "(IIII)Z"⟩, 10) := ⟨⟨by decide +kernel, by decide +kernel⟩, List.mem_of_getElem? (i := 24) (by decide +kernel), List.mem_of_getElem? (i := 463) (by decide +kernel), List.mem_of_getElem? (i := 464) (by decide +kernel)⟩
theorem lw_p12 : lw_okq (⟨"FlowMixer$Machine", "travel", "(LFlowMixer$Nodes;LFlowMixer$Flow;[II)Z"⟩, 4) := ⟨⟨by decide +kernel, by decide +kernel⟩, List.mem_of_getElem? (i := 198) (by decide +kernel), List.mem_of_getElem? (i := 514) (by decide +kernel), List.mem_of_getElem? (i := 515) (by decide +kernel)⟩
theorem lw_p13 : lw_okq (⟨"FlowMixer$Machine", "doAssignments", "(LFlowMixer$Nodes;LFlowMixer$Flow;I)V"⟩, 4) := ⟨⟨by decide +kernel, by decide +kernel⟩, List.mem_of_getElem? (i := 198) (by decide +kernel), List.mem_of_getElem? (i := 521) (by decide +kernel), List.mem_of_getElem? (i := 522) (by decide +kernel)⟩
theorem lw_p14 : lw_okq (⟨"FlowMixer$Flow", "thaw", "(I[I)V"⟩, 14) := ⟨⟨by decide +kernel, by decide +kernel⟩, List.mem_of_getElem? (i := 69) (by decide +kernel), List.mem_of_getElem? (i := 525) (by decide +kernel), List.mem_of_getElem? (i := 526) (by decide +kernel)⟩
theorem lw_p15 : lw_okq (⟨"FlowMixer$Nodes", "valueOf", "(I[II)I"⟩, 7) := ⟨⟨by decide +kernel, by decide +kernel⟩, List.mem_of_getElem? (i := 32) (by decide +kernel), List.mem_of_getElem? (i := 529) (by decide +kernel), List.mem_of_getElem? (i := 530) (by decide +kernel)⟩
def lw_privs_1 : List (MethodName × Nat) := [(⟨"FlowMixer$Flow", "makeEmpty", "(II)V"⟩, 14), (⟨"FlowMixer$Flow", "setJump", "(III)V"⟩, 14), (⟨"FlowMixer$Flow", "jumpStep", "(I)I"⟩, 14), (⟨"FlowMixer$Flow", "setTargets", "(III)V"⟩, 14), (⟨"FlowMixer$Nodes", "canBe", "(III)Z"⟩, 7), (⟨"FlowMixer$Nodes", "has", "(I)Z"⟩, 7), (⟨"java/lang/Throwable", "fillInStackTrace", "(I)Ljava/lang/Throwable;"⟩, 6), (⟨"FlowMixer$Nodes", "sizeWith", "(III)I"⟩, 7), (⟨"FlowMixer$Nodes", "add", "(III)I"⟩, 7), (⟨"FlowMixer$Nodes", "variablesWith", "(III)I"⟩, 7), (⟨"FlowMixer$Flow", "append", "(III)I"⟩, 14), (⟨"FlowMixer", "canJump", "(IIII)Z"⟩, 10), (⟨"FlowMixer$Machine", "travel", "(LFlowMixer$Nodes;LFlowMixer$Flow;[II)Z"⟩, 4), (⟨"FlowMixer$Machine", "doAssignments", "(LFlowMixer$Nodes;LFlowMixer$Flow;I)V"⟩, 4), (⟨"FlowMixer$Flow", "thaw", "(I[I)V"⟩, 14), (⟨"FlowMixer$Nodes", "valueOf", "(I[II)I"⟩, 7)]
theorem lw_r1 : ∀ q ∈ lw_privs_1, lw_okq q := List.forall_mem_cons.mpr ⟨lw_p0, List.forall_mem_cons.mpr ⟨lw_p1, List.forall_mem_cons.mpr ⟨lw_p2, List.forall_mem_cons.mpr ⟨lw_p3, List.forall_mem_cons.mpr ⟨lw_p4, List.forall_mem_cons.mpr ⟨lw_p5, List.forall_mem_cons.mpr ⟨lw_p6, List.forall_mem_cons.mpr ⟨lw_p7, List.forall_mem_cons.mpr ⟨lw_p8, List.forall_mem_cons.mpr ⟨lw_p9, List.forall_mem_cons.mpr ⟨lw_p10, List.forall_mem_cons.mpr ⟨lw_p11, List.forall_mem_cons.mpr ⟨lw_p12, List.forall_mem_cons.mpr ⟨lw_p13, List.forall_mem_cons.mpr ⟨lw_p14, List.forall_mem_cons.mpr ⟨lw_p15, fun _ h => absurd h List.not_mem_nil⟩⟩⟩⟩⟩⟩⟩⟩⟩⟩⟩⟩⟩⟩⟩⟩
theorem lw_p16 : lw_okq (⟨"FlowMixer$Machine", "doJump", "(LFlowMixer$Nodes;LFlowMixer$Flow;)Z"⟩, 4) := ⟨⟨by decide +kernel, by decide +kernel⟩, List.mem_of_getElem? (i := 198) (by decide +kernel), List.mem_of_getElem? (i := 537) (by decide +kernel), List.mem_of_getElem? (i := 538) (by decide +kernel)⟩
theorem lw_p17 : lw_okq (⟨"FlowMixer$Analysis", "findStatics", "(LFlowMixer$Nodes;LFlowMixer$Flow;I)I"⟩, 1) := ⟨⟨by decide +kernel, by decide +kernel⟩, List.mem_of_getElem? (i := 187) (by decide +kernel), List.mem_of_getElem? (i := 569) (by decide +kernel), List.mem_of_getElem? (i := 570) (by decide +kernel)⟩
theorem lw_p18 : lw_okq (⟨"FlowMixer$Analysis", "findLives", "(LFlowMixer$Nodes;LFlowMixer$Flow;)V"⟩, 1) := ⟨⟨by decide +kernel, by decide +kernel⟩, List.mem_of_getElem? (i := 187) (by decide +kernel), List.mem_of_getElem? (i := 583) (by decide +kernel), List.mem_of_getElem? (i := 584) (by decide +kernel)⟩
theorem lw_p19 : lw_okq (⟨"FlowMixer$Analysis", "livesOf", "(LFlowMixer$Nodes;LFlowMixer$Flow;I)I"⟩, 1) := ⟨⟨by decide +kernel, by decide +kernel⟩, List.mem_of_getElem? (i := 187) (by decide +kernel), List.mem_of_getElem? (i := 590) (by decide +kernel), List.mem_of_getElem? (i := 591) (by decide +kernel)⟩
theorem lw_p20 : lw_okq (⟨"FlowMixer$Analysis", "livesAt", "(I)I"⟩, 1) := ⟨⟨by decide +kernel, by decide +kernel⟩, List.mem_of_getElem? (i := 187) (by decide +kernel), List.mem_of_getElem? (i := 595) (by decide +kernel), List.mem_of_getElem? (i := 596) (by decide +kernel)⟩
theorem lw_p21 : lw_okq (⟨"FlowMixer$Mixer", "work", "(LFlowMixer$Nodes;LFlowMixer$Flow;[I[ILFlowMixer$Flow;)Z"⟩, 7) := ⟨⟨by decide +kernel, by decide +kernel⟩, List.mem_of_getElem? (i := 220) (by decide +kernel), List.mem_of_getElem? (i := 606) (by decide +kernel), List.mem_of_getElem? (i := 607) (by decide +kernel)⟩
theorem lw_p22 : lw_okq (⟨"FlowMixer$Mixer", "comeTo", "(I)I"⟩, 7) := ⟨⟨by decide +kernel, by decide +kernel⟩, List.mem_of_getElem? (i := 220) (by decide +kernel), List.mem_of_getElem? (i := 611) (by decide +kernel), List.mem_of_getElem? (i := 612) (by decide +kernel)⟩
theorem lw_p23 : lw_okq (⟨"FlowMixer$Mixer", "isWanted", "(II)Z"⟩, 7) := ⟨⟨by decide +kernel, by decide +kernel⟩, List.mem_of_getElem? (i := 220) (by decide +kernel), List.mem_of_getElem? (i := 615) (by decide +kernel), List.mem_of_getElem? (i := 616) (by decide +kernel)⟩
theorem lw_p24 : lw_okq (⟨"FlowMixer$Mixer", "mixAssignments", "(LFlowMixer$Nodes;LFlowMixer$Flow;LFlowMixer$Flow;I)V"⟩, 7) := ⟨⟨by decide +kernel, by decide +kernel⟩, List.mem_of_getElem? (i := 220) (by decide +kernel), List.mem_of_getElem? (i := 620) (by decide +kernel), List.mem_of_getElem? (i := 621) (by decide +kernel)⟩
theorem lw_p25 : lw_okq (⟨"FlowMixer$Flow", "freeze", "(I[I)V"⟩, 14) := ⟨⟨by decide +kernel, by decide +kernel⟩, List.mem_of_getElem? (i := 69) (by decide +kernel), List.mem_of_getElem? (i := 626) (by decide +kernel), List.mem_of_getElem? (i := 627) (by decide +kernel)⟩
theorem lw_p26 : lw_okq (⟨"FlowMixer$Mixer", "mixJump", "(LFlowMixer$Nodes;LFlowMixer$Flow;LFlowMixer$Flow;I)V"⟩, 7) := ⟨⟨by decide +kernel, by decide +kernel⟩, List.mem_of_getElem? (i := 220) (by decide +kernel), List.mem_of_getElem? (i := 631) (by decide +kernel), List.mem_of_getElem? (i := 632) (by decide +kernel)⟩
theorem lw_p27 : lw_okq (⟨"FlowMixer$Compressor", "work", "(LFlowMixer$Flow;)V"⟩, 3) := ⟨⟨by decide +kernel, by decide +kernel⟩, List.mem_of_getElem? (i := 248) (by decide +kernel), List.mem_of_getElem? (i := 645) (by decide +kernel), List.mem_of_getElem? (i := 646) (by decide +kernel)⟩
theorem lw_p28 : lw_okq (⟨"FlowMixer$Compressor", "findArrivals", "(LFlowMixer$Flow;)V"⟩, 3) := ⟨⟨by decide +kernel, by decide +kernel⟩, List.mem_of_getElem? (i := 248) (by decide +kernel), List.mem_of_getElem? (i := 650) (by decide +kernel), List.mem_of_getElem? (i := 651) (by decide +kernel)⟩
theorem lw_p29 : lw_okq (⟨"FlowMixer$Compressor", "lowestToMove", "(LFlowMixer$Flow;)I"⟩, 3) := ⟨⟨by decide +kernel, by decide +kernel⟩, List.mem_of_getElem? (i := 248) (by decide +kernel), List.mem_of_getElem? (i := 654) (by decide +kernel), List.mem_of_getElem? (i := 655) (by decide +kernel)⟩
theorem lw_p30 : lw_okq (⟨"FlowMixer$Flow", "join", "(II)V"⟩, 14) := ⟨⟨by decide +kernel, by decide +kernel⟩, List.mem_of_getElem? (i := 69) (by decide +kernel), List.mem_of_getElem? (i := 658) (by decide +kernel), List.mem_of_getElem? (i := 659) (by decide +kernel)⟩
theorem lw_p31 : lw_okq (⟨"FlowMixer$Compressor", "numberAnew", "(LFlowMixer$Flow;)V"⟩, 3) := ⟨⟨by decide +kernel, by decide +kernel⟩, List.mem_of_getElem? (i := 248) (by decide +kernel), List.mem_of_getElem? (i := 662) (by decide +kernel), List.mem_of_getElem? (i := 663) (by decide +kernel)⟩
def lw_privs_2 : List (MethodName × Nat) := [(⟨"FlowMixer$Machine", "doJump", "(LFlowMixer$Nodes;LFlowMixer$Flow;)Z"⟩, 4), (⟨"FlowMixer$Analysis", "findStatics", "(LFlowMixer$Nodes;LFlowMixer$Flow;I)I"⟩, 1), (⟨"FlowMixer$Analysis", "findLives", "(LFlowMixer$Nodes;LFlowMixer$Flow;)V"⟩, 1), (⟨"FlowMixer$Analysis", "livesOf", "(LFlowMixer$Nodes;LFlowMixer$Flow;I)I"⟩, 1), (⟨"FlowMixer$Analysis", "livesAt", "(I)I"⟩, 1), (⟨"FlowMixer$Mixer", "work", "(LFlowMixer$Nodes;LFlowMixer$Flow;[I[ILFlowMixer$Flow;)Z"⟩, 7), (⟨"FlowMixer$Mixer", "comeTo", "(I)I"⟩, 7), (⟨"FlowMixer$Mixer", "isWanted", "(II)Z"⟩, 7), (⟨"FlowMixer$Mixer", "mixAssignments", "(LFlowMixer$Nodes;LFlowMixer$Flow;LFlowMixer$Flow;I)V"⟩, 7), (⟨"FlowMixer$Flow", "freeze", "(I[I)V"⟩, 14), (⟨"FlowMixer$Mixer", "mixJump", "(LFlowMixer$Nodes;LFlowMixer$Flow;LFlowMixer$Flow;I)V"⟩, 7), (⟨"FlowMixer$Compressor", "work", "(LFlowMixer$Flow;)V"⟩, 3), (⟨"FlowMixer$Compressor", "findArrivals", "(LFlowMixer$Flow;)V"⟩, 3), (⟨"FlowMixer$Compressor", "lowestToMove", "(LFlowMixer$Flow;)I"⟩, 3), (⟨"FlowMixer$Flow", "join", "(II)V"⟩, 14), (⟨"FlowMixer$Compressor", "numberAnew", "(LFlowMixer$Flow;)V"⟩, 3)]
theorem lw_r2 : ∀ q ∈ lw_privs_2, lw_okq q := List.forall_mem_cons.mpr ⟨lw_p16, List.forall_mem_cons.mpr ⟨lw_p17, List.forall_mem_cons.mpr ⟨lw_p18, List.forall_mem_cons.mpr ⟨lw_p19, List.forall_mem_cons.mpr ⟨lw_p20, List.forall_mem_cons.mpr ⟨lw_p21, List.forall_mem_cons.mpr ⟨lw_p22, List.forall_mem_cons.mpr ⟨lw_p23, List.forall_mem_cons.mpr ⟨lw_p24, List.forall_mem_cons.mpr ⟨lw_p25, List.forall_mem_cons.mpr ⟨lw_p26, List.forall_mem_cons.mpr ⟨lw_p27, List.forall_mem_cons.mpr ⟨lw_p28, List.forall_mem_cons.mpr ⟨lw_p29, List.forall_mem_cons.mpr ⟨lw_p30, List.forall_mem_cons.mpr ⟨lw_p31, fun _ h => absurd h List.not_mem_nil⟩⟩⟩⟩⟩⟩⟩⟩⟩⟩⟩⟩⟩⟩⟩⟩
theorem lw_p32 : lw_okq (⟨"FlowMixer$Compressor", "numberOf", "(I)I"⟩, 3) := ⟨⟨by decide +kernel, by decide +kernel⟩, List.mem_of_getElem? (i := 248) (by decide +kernel), List.mem_of_getElem? (i := 666) (by decide +kernel), List.mem_of_getElem? (i := 667) (by decide +kernel)⟩
theorem lw_p33 : lw_okq (⟨"FlowMixer$Flow", "renumber", "(II)V"⟩, 14) := ⟨⟨by decide +kernel, by decide +kernel⟩, List.mem_of_getElem? (i := 69) (by decide +kernel), List.mem_of_getElem? (i := 671) (by decide +kernel), List.mem_of_getElem? (i := 672) (by decide +kernel)⟩
theorem lw_p34 : lw_okq (⟨"FlowMixer$Text", "refresh", "(LFlowMixer$Nodes;LFlowMixer$Flow;)V"⟩, 4) := ⟨⟨by decide +kernel, by decide +kernel⟩, List.mem_of_getElem? (i := 264) (by decide +kernel), List.mem_of_getElem? (i := 691) (by decide +kernel), List.mem_of_getElem? (i := 692) (by decide +kernel)⟩
theorem lw_p35 : lw_okq (⟨"FlowMixer$Text", "putNumber", "(I)V"⟩, 4) := ⟨⟨by decide +kernel, by decide +kernel⟩, List.mem_of_getElem? (i := 264) (by decide +kernel), List.mem_of_getElem? (i := 695) (by decide +kernel), List.mem_of_getElem? (i := 696) (by decide +kernel)⟩
theorem lw_p36 : lw_okq (⟨"FlowMixer$Text", "put", "(C)V"⟩, 4) := ⟨⟨by decide +kernel, by decide +kernel⟩, List.mem_of_getElem? (i := 264) (by decide +kernel), List.mem_of_getElem? (i := 699) (by decide +kernel), List.mem_of_getElem? (i := 700) (by decide +kernel)⟩
theorem lw_p37 : lw_okq (⟨"FlowMixer$Text", "putAssignments", "(LFlowMixer$Nodes;LFlowMixer$Flow;I)V"⟩, 4) := ⟨⟨by decide +kernel, by decide +kernel⟩, List.mem_of_getElem? (i := 264) (by decide +kernel), List.mem_of_getElem? (i := 705) (by decide +kernel), List.mem_of_getElem? (i := 706) (by decide +kernel)⟩
theorem lw_p38 : lw_okq (⟨"FlowMixer$Text", "putLetter", "(I)V"⟩, 4) := ⟨⟨by decide +kernel, by decide +kernel⟩, List.mem_of_getElem? (i := 264) (by decide +kernel), List.mem_of_getElem? (i := 709) (by decide +kernel), List.mem_of_getElem? (i := 710) (by decide +kernel)⟩
theorem lw_p39 : lw_okq (⟨"FlowMixer$Text", "putNodeOf", "(LFlowMixer$Nodes;LFlowMixer$Flow;I)V"⟩, 4) := ⟨⟨by decide +kernel, by decide +kernel⟩, List.mem_of_getElem? (i := 264) (by decide +kernel), List.mem_of_getElem? (i := 713) (by decide +kernel), List.mem_of_getElem? (i := 714) (by decide +kernel)⟩
theorem lw_p40 : lw_okq (⟨"FlowMixer$Text", "putPart", "(LFlowMixer$Nodes;III)V"⟩, 4) := ⟨⟨by decide +kernel, by decide +kernel⟩, List.mem_of_getElem? (i := 264) (by decide +kernel), List.mem_of_getElem? (i := 718) (by decide +kernel), List.mem_of_getElem? (i := 719) (by decide +kernel)⟩
theorem lw_p41 : lw_okq (⟨"FlowMixer$Text", "putJump", "(LFlowMixer$Nodes;LFlowMixer$Flow;I)V"⟩, 4) := ⟨⟨by decide +kernel, by decide +kernel⟩, List.mem_of_getElem? (i := 264) (by decide +kernel), List.mem_of_getElem? (i := 764) (by decide +kernel), List.mem_of_getElem? (i := 765) (by decide +kernel)⟩
theorem lw_p42 : lw_okq (⟨"FlowMixerModel", "plain", "(I)V"⟩, 45) := ⟨⟨by decide +kernel, by decide +kernel⟩, List.mem_of_getElem? (i := 778) (by decide +kernel), List.mem_of_getElem? (i := 784) (by decide +kernel), List.mem_of_getElem? (i := 785) (by decide +kernel)⟩
theorem lw_p43 : lw_okq (⟨"FlowMixerModel", "isNode", "(I)Z"⟩, 45) := ⟨⟨by decide +kernel, by decide +kernel⟩, List.mem_of_getElem? (i := 778) (by decide +kernel), List.mem_of_getElem? (i := 939) (by decide +kernel), List.mem_of_getElem? (i := 940) (by decide +kernel)⟩
theorem lw_p44 : lw_okq (⟨"FlowMixerModel", "goes", "(ZZ)Z"⟩, 45) := ⟨⟨by decide +kernel, by decide +kernel⟩, List.mem_of_getElem? (i := 778) (by decide +kernel), List.mem_of_getElem? (i := 943) (by decide +kernel), List.mem_of_getElem? (i := 944) (by decide +kernel)⟩
theorem lw_p45 : lw_okq (⟨"FlowMixerModel", "begin", "()V"⟩, 45) := ⟨⟨by decide +kernel, by decide +kernel⟩, List.mem_of_getElem? (i := 778) (by decide +kernel), List.mem_of_getElem? (i := 970) (by decide +kernel), List.mem_of_getElem? (i := 971) (by decide +kernel)⟩
theorem lw_p46 : lw_okq (⟨"FlowMixerModel", "worth", "(I)I"⟩, 45) := ⟨⟨by decide +kernel, by decide +kernel⟩, List.mem_of_getElem? (i := 778) (by decide +kernel), List.mem_of_getElem? (i := 974) (by decide +kernel), List.mem_of_getElem? (i := 975) (by decide +kernel)⟩
theorem lw_p47 : lw_okq (⟨"FlowMixerModel", "dynamics", "(I)I"⟩, 45) := ⟨⟨by decide +kernel, by decide +kernel⟩, List.mem_of_getElem? (i := 778) (by decide +kernel), List.mem_of_getElem? (i := 986) (by decide +kernel), List.mem_of_getElem? (i := 987) (by decide +kernel)⟩
def lw_privs_3 : List (MethodName × Nat) := [(⟨"FlowMixer$Compressor", "numberOf", "(I)I"⟩, 3), (⟨"FlowMixer$Flow", "renumber", "(II)V"⟩, 14), (⟨"FlowMixer$Text", "refresh", "(LFlowMixer$Nodes;LFlowMixer$Flow;)V"⟩, 4), (⟨"FlowMixer$Text", "putNumber", "(I)V"⟩, 4), (⟨"FlowMixer$Text", "put", "(C)V"⟩, 4), (⟨"FlowMixer$Text", "putAssignments", "(LFlowMixer$Nodes;LFlowMixer$Flow;I)V"⟩, 4), (⟨"FlowMixer$Text", "putLetter", "(I)V"⟩, 4), (⟨"FlowMixer$Text", "putNodeOf", "(LFlowMixer$Nodes;LFlowMixer$Flow;I)V"⟩, 4), (⟨"FlowMixer$Text", "putPart", "(LFlowMixer$Nodes;III)V"⟩, 4), (⟨"FlowMixer$Text", "putJump", "(LFlowMixer$Nodes;LFlowMixer$Flow;I)V"⟩, 4), (⟨"FlowMixerModel", "plain", "(I)V"⟩, 45), (⟨"FlowMixerModel", "isNode", "(I)Z"⟩, 45), (⟨"FlowMixerModel", "goes", "(ZZ)Z"⟩, 45), (⟨"FlowMixerModel", "begin", "()V"⟩, 45), (⟨"FlowMixerModel", "worth", "(I)I"⟩, 45), (⟨"FlowMixerModel", "dynamics", "(I)I"⟩, 45)]
theorem lw_r3 : ∀ q ∈ lw_privs_3, lw_okq q := List.forall_mem_cons.mpr ⟨lw_p32, List.forall_mem_cons.mpr ⟨lw_p33, List.forall_mem_cons.mpr ⟨lw_p34, List.forall_mem_cons.mpr ⟨lw_p35, List.forall_mem_cons.mpr ⟨lw_p36, List.forall_mem_cons.mpr ⟨lw_p37, List.forall_mem_cons.mpr ⟨lw_p38, List.forall_mem_cons.mpr ⟨lw_p39, List.forall_mem_cons.mpr ⟨lw_p40, List.forall_mem_cons.mpr ⟨lw_p41, List.forall_mem_cons.mpr ⟨lw_p42, List.forall_mem_cons.mpr ⟨lw_p43, List.forall_mem_cons.mpr ⟨lw_p44, List.forall_mem_cons.mpr ⟨lw_p45, List.forall_mem_cons.mpr ⟨lw_p46, List.forall_mem_cons.mpr ⟨lw_p47, fun _ h => absurd h List.not_mem_nil⟩⟩⟩⟩⟩⟩⟩⟩⟩⟩⟩⟩⟩⟩⟩⟩
theorem lw_p48 : lw_okq (⟨"FlowMixerModel", "allLive", "()V"⟩, 45) := ⟨⟨by decide +kernel, by decide +kernel⟩, List.mem_of_getElem? (i := 778) (by decide +kernel), List.mem_of_getElem? (i := 994) (by decide +kernel), List.mem_of_getElem? (i := 995) (by decide +kernel)⟩
theorem lw_p49 : lw_okq (⟨"FlowMixerModel", "state", "(I)I"⟩, 45) := ⟨⟨by decide +kernel, by decide +kernel⟩, List.mem_of_getElem? (i := 778) (by decide +kernel), List.mem_of_getElem? (i := 1005) (by decide +kernel), List.mem_of_getElem? (i := 1006) (by decide +kernel)⟩
theorem lw_p50 : lw_okq (⟨"FlowMixerModel", "work", "(IZ)V"⟩, 45) := ⟨⟨by decide +kernel, by decide +kernel⟩, List.mem_of_getElem? (i := 778) (by decide +kernel), List.mem_of_getElem? (i := 1009) (by decide +kernel), List.mem_of_getElem? (i := 1010) (by decide +kernel)⟩
theorem lw_p51 : lw_okq (⟨"FlowMixerModel", "part", "(II)I"⟩, 45) := ⟨⟨by decide +kernel, by decide +kernel⟩, List.mem_of_getElem? (i := 778) (by decide +kernel), List.mem_of_getElem? (i := 1013) (by decide +kernel), List.mem_of_getElem? (i := 1014) (by decide +kernel)⟩
theorem lw_p52 : lw_okq (⟨"FlowMixerModel", "append", "(II)V"⟩, 45) := ⟨⟨by decide +kernel, by decide +kernel⟩, List.mem_of_getElem? (i := 778) (by decide +kernel), List.mem_of_getElem? (i := 1017) (by decide +kernel), List.mem_of_getElem? (i := 1018) (by decide +kernel)⟩
theorem lw_p53 : lw_okq (⟨"FlowMixerModel", "write", "()V"⟩, 45) := ⟨⟨by decide +kernel, by decide +kernel⟩, List.mem_of_getElem? (i := 778) (by decide +kernel), List.mem_of_getElem? (i := 1021) (by decide +kernel), List.mem_of_getElem? (i := 1022) (by decide +kernel)⟩
theorem lw_p54 : lw_okq (⟨"FlowMixerModel", "number", "(I)V"⟩, 45) := ⟨⟨by decide +kernel, by decide +kernel⟩, List.mem_of_getElem? (i := 778) (by decide +kernel), List.mem_of_getElem? (i := 1025) (by decide +kernel), List.mem_of_getElem? (i := 1026) (by decide +kernel)⟩
theorem lw_p55 : lw_okq (⟨"FlowMixerModel", "put", "(I)V"⟩, 45) := ⟨⟨by decide +kernel, by decide +kernel⟩, List.mem_of_getElem? (i := 778) (by decide +kernel), List.mem_of_getElem? (i := 1029) (by decide +kernel), List.mem_of_getElem? (i := 1030) (by decide +kernel)⟩
theorem lw_p56 : lw_okq (⟨"FlowMixerModel", "spell", "(I)V"⟩, 45) := ⟨⟨by decide +kernel, by decide +kernel⟩, List.mem_of_getElem? (i := 778) (by decide +kernel), List.mem_of_getElem? (i := 1034) (by decide +kernel), List.mem_of_getElem? (i := 1035) (by decide +kernel)⟩
theorem lw_p57 : lw_okq (⟨"FlowMixerModel", "worthOf", "(I)I"⟩, 45) := ⟨⟨by decide +kernel, by decide +kernel⟩, List.mem_of_getElem? (i := 778) (by decide +kernel), List.mem_of_getElem? (i := 1038) (by decide +kernel), List.mem_of_getElem? (i := 1039) (by decide +kernel)⟩
theorem lw_p58 : lw_okq (⟨"FlowMixerModel", "jumpsTo", "(I)I"⟩, 45) := ⟨⟨by decide +kernel, by decide +kernel⟩, List.mem_of_getElem? (i := 778) (by decide +kernel), List.mem_of_getElem? (i := 1050) (by decide +kernel), List.mem_of_getElem? (i := 1051) (by decide +kernel)⟩
theorem lw_p59 : lw_okq (⟨"FlowMixerModel", "goesTo", "(I)I"⟩, 45) := ⟨⟨by decide +kernel, by decide +kernel⟩, List.mem_of_getElem? (i := 778) (by decide +kernel), List.mem_of_getElem? (i := 1054) (by decide +kernel), List.mem_of_getElem? (i := 1055) (by decide +kernel)⟩
theorem lw_p60 : lw_okq (⟨"FlowMixerModel", "join", "(II)V"⟩, 45) := ⟨⟨by decide +kernel, by decide +kernel⟩, List.mem_of_getElem? (i := 778) (by decide +kernel), List.mem_of_getElem? (i := 1058) (by decide +kernel), List.mem_of_getElem? (i := 1059) (by decide +kernel)⟩
theorem lw_p61 : lw_okq (⟨"FlowMixerModel", "copyBlock", "(II)V"⟩, 45) := ⟨⟨by decide +kernel, by decide +kernel⟩, List.mem_of_getElem? (i := 778) (by decide +kernel), List.mem_of_getElem? (i := 1062) (by decide +kernel), List.mem_of_getElem? (i := 1063) (by decide +kernel)⟩
def lw_privs_4 : List (MethodName × Nat) := [(⟨"FlowMixerModel", "allLive", "()V"⟩, 45), (⟨"FlowMixerModel", "state", "(I)I"⟩, 45), (⟨"FlowMixerModel", "work", "(IZ)V"⟩, 45), (⟨"FlowMixerModel", "part", "(II)I"⟩, 45), (⟨"FlowMixerModel", "append", "(II)V"⟩, 45), (⟨"FlowMixerModel", "write", "()V"⟩, 45), (⟨"FlowMixerModel", "number", "(I)V"⟩, 45), (⟨"FlowMixerModel", "put", "(I)V"⟩, 45), (⟨"FlowMixerModel", "spell", "(I)V"⟩, 45), (⟨"FlowMixerModel", "worthOf", "(I)I"⟩, 45), (⟨"FlowMixerModel", "jumpsTo", "(I)I"⟩, 45), (⟨"FlowMixerModel", "goesTo", "(I)I"⟩, 45), (⟨"FlowMixerModel", "join", "(II)V"⟩, 45), (⟨"FlowMixerModel", "copyBlock", "(II)V"⟩, 45)]
theorem lw_r4 : ∀ q ∈ lw_privs_4, lw_okq q := List.forall_mem_cons.mpr ⟨lw_p48, List.forall_mem_cons.mpr ⟨lw_p49, List.forall_mem_cons.mpr ⟨lw_p50, List.forall_mem_cons.mpr ⟨lw_p51, List.forall_mem_cons.mpr ⟨lw_p52, List.forall_mem_cons.mpr ⟨lw_p53, List.forall_mem_cons.mpr ⟨lw_p54, List.forall_mem_cons.mpr ⟨lw_p55, List.forall_mem_cons.mpr ⟨lw_p56, List.forall_mem_cons.mpr ⟨lw_p57, List.forall_mem_cons.mpr ⟨lw_p58, List.forall_mem_cons.mpr ⟨lw_p59, List.forall_mem_cons.mpr ⟨lw_p60, List.forall_mem_cons.mpr ⟨lw_p61, fun _ h => absurd h List.not_mem_nil⟩⟩⟩⟩⟩⟩⟩⟩⟩⟩⟩⟩⟩⟩
def lw_privs : List (MethodName × Nat) := lw_privs_1 ++ (lw_privs_2 ++ (lw_privs_3 ++ (lw_privs_4)))
def lw_tbl : List Cond := k2_sels lw_privs ++ tables_1
theorem lw_privs_ok : ∀ q ∈ lw_privs, lw_okq q := by
  show ∀ q ∈ lw_privs_1 ++ (lw_privs_2 ++ (lw_privs_3 ++ (lw_privs_4))), lw_okq q
  exact List.forall_mem_append.mpr ⟨lw_r1, List.forall_mem_append.mpr ⟨lw_r2, List.forall_mem_append.mpr ⟨lw_r3, lw_r4⟩⟩⟩
end
section
/-! The abstract memory: cell i of the world lies at address b + i; its row M i holds its ints (an array's elements, an object's fields), L i its longs. -/
abbrev mc_M : Type := Nat → Nat → Int32
abbrev mc_L : Type := Nat → Nat → Int64
/-- what a cell is: an array (its type's number: 0 int, 1 long, 2 char, 3 boolean; its length), or an object (its class's number; its fields: 0 int, 1 a reference that M tells, 2 boolean, r + 3 the reference to cell r) -/
abbrev mc_D : Type := (Nat × Nat) ⊕ (Nat × List Nat)
def mc_ga (b : Nat) (v : Value) : Value := match v with
  | .ref i => .ref (b + i)
  | w => w
theorem mc_ga_cat (b : Nat) (v : Value) : (mc_ga b v).category = v.category := by cases v <;> rfl
def mc_fv (md : Bool) (M : mc_M) (i k : Nat) (fd : Nat) : Value := match fd with
  | 0 => .int (M i k)
  | 1 => if M i k = 0 then .null else .ref (M i k).toNatClampNeg
  | 2 => .int (M i k)
  | r + 3 => if md = true then .ref r else if M i k = 0 then .null else .ref r
def mc_cell (md : Bool) (M : mc_M) (L : mc_L) (i : Nat) (d : mc_D) : va_E := match d with
  | .inl (t, n) => if t = 1 then .inl (t, n, .inr (.inl (L i))) else .inl (t, n, .inl (M i))
  | .inr (ci, fds) => .inr (ci, fds.mapIdx (fun k fd => mc_fv md M i k fd))
def mc_gE (b : Nat) (cA : Nat → ClassId) (x : va_E) : va_E := match x with
  | .inl (t, a) => .inl (cA t, a)
  | .inr (ci, fs) => .inr (ci, fs.map (mc_ga b))
def mc_wd (b : Nat) (cA : Nat → ClassId) (md : Bool) (tab : List mc_D) (n : Nat) (M : mc_M) (L : mc_L) : va_W :=
  (tab.take n).mapIdx (fun i d => (b + i, mc_gE b cA (mc_cell md M L i d)))
def mc_set (M : mc_M) (i : Nat) (f : Nat → Int32) : mc_M := fun j => if j = i then f else M j
def mc_put (M : mc_M) (i k : Nat) (x : Int32) : mc_M := mc_set M i (upd (M i) k x)
def mc_setL (L : mc_L) (i : Nat) (f : Nat → Int64) : mc_L := fun j => if j = i then f else L j
def mc_putL (L : mc_L) (i k : Nat) (x : Int64) : mc_L := mc_setL L i (vp_updL (L i) k x)
def mc_A (md : Bool) (b N : Nat) : Nat → Prop := fun q => b ≤ q ∧ (md = true → q < b + N)
/-- how many slots the first n cells take (a cell behind the world is a thrown object: 6) -/
def mc_sz (d : mc_D) : Nat := match d with
  | .inl (_, n) => n
  | .inr (_, fds) => fds.length
def mc_sl : List mc_D → Nat → Nat
  | _, 0 => 0
  | [], n + 1 => 6 + mc_sl [] n
  | d :: r, n + 1 => mc_sz d + mc_sl r n
section MCW
variable {b : Nat} {cA : Nat → ClassId} {md : Bool} {tab : List mc_D} {n : Nat} {M M' : mc_M} {L L' : mc_L} {i : Nat}
theorem mc_set_s {f : Nat → Int32} : mc_set M i f i = f := by simp [mc_set]
theorem mc_set_n {f : Nat → Int32} {j : Nat} (h : j ≠ i) : mc_set M i f j = M j := by simp [mc_set, h]
theorem mc_setL_s {f : Nat → Int64} : mc_setL L i f i = f := by simp [mc_setL]
theorem mc_setL_n {f : Nat → Int64} {j : Nat} (h : j ≠ i) : mc_setL L i f j = L j := by simp [mc_setL, h]
theorem mc_fv_congr {k fd : Nat} (h : M i k = M' i k) : mc_fv md M i k fd = mc_fv md M' i k fd := by
  unfold mc_fv
  split <;> simp [h]
theorem mc_cell_congr {d : mc_D} (h : M i = M' i) (hL : L i = L' i) : mc_cell md M L i d = mc_cell md M' L' i d := by
  unfold mc_cell
  split
  · rw [h, hL]
  · congr 2
    apply List.ext_getElem?
    intro j
    rw [List.getElem?_mapIdx, List.getElem?_mapIdx]
    congr 1
    funext fd
    exact mc_fv_congr (by rw [h])
theorem mc_wd_at (i : Nat) : (mc_wd b cA md tab n M L)[i]? = if i < n then (tab[i]?).map (fun d => (b + i, mc_gE b cA (mc_cell md M L i d))) else none := by
  unfold mc_wd
  rw [List.getElem?_mapIdx, List.getElem?_take]
  split <;> rfl
theorem mc_wd_some {q : Nat × va_E} (h : (mc_wd b cA md tab n M L)[i]? = some q) : i < n ∧ ∃ d, tab[i]? = some d ∧ q = (b + i, mc_gE b cA (mc_cell md M L i d)) := by
  rw [mc_wd_at] at h
  split at h
  · next hi =>
    cases hd : tab[i]? with
    | none => rw [hd] at h; cases h
    | some d =>
      rw [hd] at h
      exact ⟨hi, d, rfl, (Option.some.inj h).symm⟩
  · cases h
theorem mc_wd_in {d : mc_D} (hi : i < n) (hd : tab[i]? = some d) : (mc_wd b cA md tab n M L)[i]? = some (b + i, mc_gE b cA (mc_cell md M L i d)) := by
  rw [mc_wd_at, if_pos hi, hd]
  rfl
theorem mc_wd_D : va_D (mc_A md b tab.length) (mc_wd b cA md tab n M L) := by
  refine ⟨fun i j p q hp hq e => ?_, fun k q hq => ?_⟩
  · obtain ⟨-, d, -, rfl⟩ := mc_wd_some hp
    obtain ⟨-, d', -, rfl⟩ := mc_wd_some hq
    have e' : b + i = b + j := e
    omega
  · obtain ⟨-, d, hd, rfl⟩ := mc_wd_some hq
    have hl : k < tab.length := (List.getElem?_eq_some_iff.mp hd).1
    exact ⟨Nat.le_add_right _ _, fun _ => Nat.add_lt_add_left hl _⟩
theorem mc_wd_full {n' : Nat} (h : tab.length ≤ n) (h' : tab.length ≤ n') : mc_wd b cA md tab n M L = mc_wd b cA md tab n' M L := by
  unfold mc_wd
  rw [List.take_of_length_le h, List.take_of_length_le h']
theorem mc_wd_set {d : mc_D} {x : va_E} (hi : i < n) (hd : tab[i]? = some d) (hx : mc_gE b cA (mc_cell md M' L' i d) = x) (hM : ∀ j, j ≠ i → M' j = M j) (hL : ∀ j, j ≠ i → L' j = L j) :
    (mc_wd b cA md tab n M L).set i (b + i, x) = mc_wd b cA md tab n M' L' := by
  apply List.ext_getElem?
  intro j
  rw [List.getElem?_set]
  by_cases hj : i = j
  · subst hj
    have hlen : i < (mc_wd b cA md tab n M L).length := (List.getElem?_eq_some_iff.mp (mc_wd_in hi hd)).1
    rw [if_pos rfl, if_pos hlen, mc_wd_in hi hd, hx]
  · rw [if_neg hj, mc_wd_at, mc_wd_at]
    by_cases hn : j < n
    · rw [if_pos hn, if_pos hn]
      congr 1
      funext d'
      rw [mc_cell_congr (hM j (Ne.symm hj)).symm (hL j (Ne.symm hj)).symm]
    · rw [if_neg hn, if_neg hn]
theorem mc_set_arr {t len : Nat} {f : Nat → Int32} (hi : i < n) (hd : tab[i]? = some (.inl (t, len))) (ht : t ≠ 1) : (mc_wd b cA md tab n M L).set i (b + i, .inl (cA t, len, .inl f)) = mc_wd b cA md tab n (mc_set M i f) L :=
  mc_wd_set hi hd (by simp [mc_cell, ht, mc_gE, mc_set_s]) (fun j hj => mc_set_n hj) (fun _ _ => rfl)
theorem mc_set_arrL {len : Nat} {f : Nat → Int64} (hi : i < n) (hd : tab[i]? = some (.inl (1, len))) : (mc_wd b cA md tab n M L).set i (b + i, .inl (cA 1, len, .inr (.inl f))) = mc_wd b cA md tab n M (mc_setL L i f) :=
  mc_wd_set hi hd (by simp [mc_cell, mc_gE, mc_setL_s]) (fun _ _ => rfl) (fun j hj => mc_setL_n hj)
theorem mc_set_fld {ci k fd : Nat} {fds : List Nat} {x : Int32} {v : Value} (hi : i < n) (hd : tab[i]? = some (.inr (ci, fds))) (hk : fds[k]? = some fd) (hv : mc_fv md (mc_put M i k x) i k fd = v) :
    (mc_wd b cA md tab n M L).set i (b + i, .inr (ci, ((fds.mapIdx (fun k fd => mc_fv md M i k fd)).map (mc_ga b)).set k (mc_ga b v))) = mc_wd b cA md tab n (mc_put M i k x) L := by
  refine mc_wd_set hi hd ?_ (fun j hj => mc_set_n hj) (fun _ _ => rfl)
  show (Sum.inr (ci, ((fds.mapIdx (fun j fd => mc_fv md (mc_put M i k x) i j fd)).map (mc_ga b))) : va_E) = _
  congr 2
  apply List.ext_getElem?
  intro j
  rw [List.getElem?_set]
  have hkl : k < fds.length := (List.getElem?_eq_some_iff.mp hk).1
  by_cases hj : k = j
  · subst hj
    rw [if_pos rfl, if_pos (by simpa using hkl), List.getElem?_map, List.getElem?_mapIdx, hk]
    simp [hv]
  · rw [if_neg hj, List.getElem?_map, List.getElem?_mapIdx, List.getElem?_map, List.getElem?_mapIdx]
    congr 2
    funext fd'
    refine mc_fv_congr ?_
    show mc_set M i (upd (M i) k x) i j = M i j
    rw [mc_set_s, pk_un (Ne.symm hj)]
end MCW
/-! locals -/
def mc_at {α : Type} : List α → Nat → Option α
  | [], _ => none
  | a :: _, 0 => some a
  | _ :: r, i + 1 => mc_at r i
theorem mc_at_eq {α : Type} : ∀ (l : List α) (i : Nat), mc_at l i = l[i]?
  | [], i => by simp [mc_at]
  | a :: r, 0 => by simp [mc_at]
  | a :: r, i + 1 => by simp [mc_at, mc_at_eq r i]
def mc_k (o : Option Value) : Option Value := match o with
  | some (.long _) => none
  | some (.double _) => none
  | o => o
theorem mc_k_some {o : Option Value} {w : Value} (h : mc_k o = some w) : o = some w ∧ w.category = 1 := by
  unfold mc_k at h
  split at h
  · cases h
  · cases h
  · subst h
    refine ⟨rfl, ?_⟩
    cases w with
    | long x => next h1 h2 => exact absurd rfl (h1 x)
    | double x => next h1 h2 => exact absurd rfl (h2 x)
    | _ => rfl
def mc_st1 : List (Option Value) → Nat → Value → List (Option Value)
  | [], _, _ => []
  | _ :: r, 0, v => some v :: r
  | o :: r, 1, v => mc_k o :: mc_st1 r 0 v
  | o :: r, i + 2, v => o :: mc_st1 r (i + 1) v
def mc_st2 : List (Option Value) → Nat → Value → List (Option Value)
  | [], _, _ => []
  | [_], 0, v => [some v]
  | _ :: _ :: r, 0, v => some v :: none :: r
  | o :: r, 1, v => mc_k o :: mc_st2 r 0 v
  | o :: r, i + 2, v => o :: mc_st2 r (i + 1) v
theorem mc_st1_at : ∀ (ls : List (Option Value)) (i : Nat) (v : Value) (j : Nat) (w : Value), (mc_st1 ls i v)[j]? = some (some w) → (j = i ∧ w = v) ∨ (j ≠ i ∧ ls[j]? = some (some w) ∧ ¬ (j + 1 = i ∧ w.category = 2))
  | [], i, v, j, w, h => by simp [mc_st1] at h
  | o :: r, 0, v, 0, w, h => by
    simp [mc_st1] at h
    exact Or.inl ⟨rfl, h.symm⟩
  | o :: r, 0, v, j + 1, w, h => by
    simp [mc_st1] at h
    exact Or.inr ⟨by omega, by simpa using h, by omega⟩
  | o :: r, 1, v, 0, w, h => by
    simp [mc_st1] at h
    obtain ⟨h1, h2⟩ := mc_k_some h
    exact Or.inr ⟨by omega, by simp [h1], fun h => by omega⟩
  | o :: r, 1, v, j + 1, w, h => by
    simp only [mc_st1, List.getElem?_cons_succ] at h
    rcases mc_st1_at r 0 v j w h with ⟨h1, h2⟩ | ⟨h1, h2, h3⟩
    · exact Or.inl ⟨by omega, h2⟩
    · exact Or.inr ⟨by omega, by simpa using h2, by omega⟩
  | o :: r, i + 2, v, 0, w, h => by
    simp [mc_st1] at h
    exact Or.inr ⟨by omega, by simp [h], by omega⟩
  | o :: r, i + 2, v, j + 1, w, h => by
    simp only [mc_st1, List.getElem?_cons_succ] at h
    rcases mc_st1_at r (i + 1) v j w h with ⟨h1, h2⟩ | ⟨h1, h2, h3⟩
    · exact Or.inl ⟨by omega, h2⟩
    · exact Or.inr ⟨by omega, by simpa using h2, by omega⟩
theorem mc_st2_at : ∀ (ls : List (Option Value)) (i : Nat) (v : Value) (j : Nat) (w : Value), (mc_st2 ls i v)[j]? = some (some w) → (j = i ∧ w = v) ∨ (j ≠ i ∧ j ≠ i + 1 ∧ ls[j]? = some (some w) ∧ ¬ (j + 1 = i ∧ w.category = 2))
  | [], i, v, j, w, h => by simp [mc_st2] at h
  | [o], 0, v, 0, w, h => by
    simp [mc_st2] at h
    exact Or.inl ⟨rfl, h.symm⟩
  | [o], 0, v, j + 1, w, h => by simp [mc_st2] at h
  | o :: o2 :: r, 0, v, 0, w, h => by
    simp [mc_st2] at h
    exact Or.inl ⟨rfl, h.symm⟩
  | o :: o2 :: r, 0, v, 1, w, h => by simp [mc_st2] at h
  | o :: o2 :: r, 0, v, j + 2, w, h => by
    simp [mc_st2] at h
    exact Or.inr ⟨by omega, by omega, by simpa using h, by omega⟩
  | o :: r, 1, v, 0, w, h => by
    simp [mc_st2] at h
    obtain ⟨h1, h2⟩ := mc_k_some h
    exact Or.inr ⟨by omega, by omega, by simp [h1], fun h => by omega⟩
  | o :: r, 1, v, j + 1, w, h => by
    simp only [mc_st2, List.getElem?_cons_succ] at h
    rcases mc_st2_at r 0 v j w h with ⟨h1, h2⟩ | ⟨h1, h2, h3, h4⟩
    · exact Or.inl ⟨by omega, h2⟩
    · exact Or.inr ⟨by omega, by omega, by simpa using h3, by omega⟩
  | o :: r, i + 2, v, 0, w, h => by
    simp [mc_st2] at h
    exact Or.inr ⟨by omega, by omega, by simp [h], by omega⟩
  | o :: r, i + 2, v, j + 1, w, h => by
    simp only [mc_st2, List.getElem?_cons_succ] at h
    rcases mc_st2_at r (i + 1) v j w h with ⟨h1, h2⟩ | ⟨h1, h2, h3, h4⟩
    · exact Or.inl ⟨by omega, h2⟩
    · exact Or.inr ⟨by omega, by omega, by simpa using h3, by omega⟩
def mc_lst (b : Nat) (ls : List (Option Value)) : List (Nat × Value) := ls.zipIdx.filterMap (fun q => q.1.map (fun v => (q.2, mc_ga b v)))
theorem mc_lst_mem {b : Nat} {ls : List (Option Value)} {q : Nat × Value} : q ∈ mc_lst b ls ↔ ∃ v, ls[q.1]? = some (some v) ∧ q.2 = mc_ga b v := by
  unfold mc_lst
  rw [List.mem_filterMap]
  constructor
  · rintro ⟨⟨o, i⟩, hm, hq⟩
    have hi := List.mem_zipIdx_iff_getElem?.mp hm
    cases o with
    | none => cases hq
    | some v =>
      have hq' := Option.some.inj hq
      subst hq'
      exact ⟨v, hi, rfl⟩
  · rintro ⟨v, h1, h2⟩
    refine ⟨(some v, q.1), List.mem_zipIdx_iff_getElem?.mpr h1, ?_⟩
    show some (q.1, mc_ga b v) = some q
    rw [← h2]
def mc_lv (b nL : Nat) (ls : List (Option Value)) (lsC : Array Slot) : Prop := lv_has lsC nL (mc_lst b ls)
theorem mc_lv_at {b nL i : Nat} {ls : List (Option Value)} {lsC : Array Slot} {v : Value} (h : mc_lv b nL ls lsC) (hi : mc_at ls i = some (some v)) : lsC[i]? = some (.val (mc_ga b v)) :=
  h.2.2 (i, mc_ga b v) (mc_lst_mem.mpr ⟨v, by rw [← mc_at_eq]; exact hi, rfl⟩)
theorem mc_lv_st1 {b nL i : Nat} {ls : List (Option Value)} {lsC : Array Slot} {v : Value} (h : lv_has lsC nL ((i, mc_ga b v) :: (mc_lst b ls).filter (fun q => !(q.1 == i) && !(q.1 + 1 == i && q.2.category == 2)))) : mc_lv b nL (mc_st1 ls i v) lsC := by
  refine ⟨h.1, h.2.1, fun q hq => ?_⟩
  obtain ⟨w, h1, h2⟩ := mc_lst_mem.mp hq
  rcases mc_st1_at ls i v q.1 w h1 with ⟨e1, e2⟩ | ⟨e1, e2, e3⟩
  · rw [e1, h2, e2]
    exact h.2.2 _ List.mem_cons_self
  · refine h.2.2 q (List.mem_cons_of_mem _ (List.mem_filter.mpr ⟨mc_lst_mem.mpr ⟨w, e2, h2⟩, ?_⟩))
    have hc : q.2.category = w.category := by rw [h2, mc_ga_cat]
    rw [hc]
    by_cases hx : q.1 + 1 = i
    · have : ¬ w.category = 2 := fun z => e3 ⟨hx, z⟩
      simp [e1, this]
    · simp [e1, hx]
theorem mc_lv_st2 {b nL i : Nat} {ls : List (Option Value)} {lsC : Array Slot} {v : Value} (h : lv_has lsC nL ((i, mc_ga b v) :: (mc_lst b ls).filter (fun q => !(q.1 == i) && (!(q.1 == i + 1) && !(q.1 + 1 == i && q.2.category == 2))))) : mc_lv b nL (mc_st2 ls i v) lsC := by
  refine ⟨h.1, h.2.1, fun q hq => ?_⟩
  obtain ⟨w, h1, h2⟩ := mc_lst_mem.mp hq
  rcases mc_st2_at ls i v q.1 w h1 with ⟨e1, e2⟩ | ⟨e1, e0, e2, e3⟩
  · rw [e1, h2, e2]
    exact h.2.2 _ List.mem_cons_self
  · refine h.2.2 q (List.mem_cons_of_mem _ (List.mem_filter.mpr ⟨mc_lst_mem.mpr ⟨w, e2, h2⟩, ?_⟩))
    have hc : q.2.category = w.category := by rw [h2, mc_ga_cat]
    rw [hc]
    by_cases hx : q.1 + 1 = i
    · have : ¬ w.category = 2 := fun z => e3 ⟨hx, z⟩
      simp [e1, e0, this]
    · simp [e1, e0, hx]
/-- fewer locals: what is not kept is forgotten -/
def mc_kp : List Bool → List (Option Value) → List (Option Value)
  | true :: ks, o :: r => o :: mc_kp ks r
  | false :: ks, _ :: r => none :: mc_kp ks r
  | _, _ => []
theorem mc_kp_at : ∀ (ks : List Bool) (ls : List (Option Value)) (i : Nat) (v : Value), (mc_kp ks ls)[i]? = some (some v) → ls[i]? = some (some v)
  | true :: ks, o :: r, 0, v, h => by simpa [mc_kp] using h
  | true :: ks, o :: r, i + 1, v, h => by
    simp only [mc_kp, List.getElem?_cons_succ] at h ⊢
    exact mc_kp_at ks r i v h
  | false :: ks, _ :: r, 0, v, h => by simp [mc_kp] at h
  | false :: ks, _ :: r, i + 1, v, h => by
    simp only [mc_kp, List.getElem?_cons_succ] at h ⊢
    exact mc_kp_at ks r i v h
  | [], _, i, v, h => by simp [mc_kp] at h
  | true :: _, [], i, v, h => by simp [mc_kp] at h
  | false :: _, [], i, v, h => by simp [mc_kp] at h
theorem mc_lv_kp {b nL : Nat} {ls : List (Option Value)} {lsC : Array Slot} (ks : List Bool) (h : mc_lv b nL ls lsC) : mc_lv b nL (mc_kp ks ls) lsC := by
  refine ⟨h.1, h.2.1, fun q hq => h.2.2 q ?_⟩
  obtain ⟨w, h1, h2⟩ := mc_lst_mem.mp hq
  exact mc_lst_mem.mpr ⟨w, mc_kp_at ks ls _ _ h1, h2⟩
/-- the locals with which a method begins -/
def mc_args : List Value → Nat → List (Option Value)
  | [], n => List.replicate n none
  | .long x :: vs, n => some (.long x) :: none :: mc_args vs (n - 2)
  | .double x :: vs, n => some (.double x) :: none :: mc_args vs (n - 2)
  | v :: vs, n => some v :: mc_args vs (n - 1)
theorem mc_args_at (b : Nat) : ∀ (av : List Value) (k o i : Nat) (v : Value), (mc_args av k)[i]? = some (some v) → (o + i, mc_ga b v) ∈ lv_args o (av.map (mc_ga b))
  | [], k, o, i, v, h => by
    simp [mc_args, List.getElem?_replicate] at h
  | w :: vs, k, o, i, v, h => by
    by_cases hw : ∃ x, w = .long x
    · obtain ⟨x, rfl⟩ := hw
      show (o + i, mc_ga b v) ∈ (o, Value.long x) :: lv_args (if (Value.long x).category = 2 then o + 2 else o + 1) (vs.map (mc_ga b))
      rw [if_pos (show (Value.long x).category = 2 from rfl)]
      match i, h with
      | 0, h =>
        have h' : some (some (Value.long x)) = some (some v) := h
        cases h'
        exact List.mem_cons_self
      | 1, h =>
        have h' : some (none : Option Value) = some (some v) := h
        cases h'
      | i + 2, h =>
        have h' : (mc_args vs (k - 2))[i]? = some (some v) := h
        have := mc_args_at b vs (k - 2) (o + 2) i v h'
        rw [show o + (i + 2) = o + 2 + i by omega]
        exact List.mem_cons_of_mem _ this
    · by_cases hd : ∃ x, w = .double x
      · obtain ⟨x, rfl⟩ := hd
        show (o + i, mc_ga b v) ∈ (o, Value.double x) :: lv_args (if (Value.double x).category = 2 then o + 2 else o + 1) (vs.map (mc_ga b))
        rw [if_pos (show (Value.double x).category = 2 from rfl)]
        match i, h with
        | 0, h =>
          have h' : some (some (Value.double x)) = some (some v) := h
          cases h'
          exact List.mem_cons_self
        | 1, h =>
          have h' : some (none : Option Value) = some (some v) := h
          cases h'
        | i + 2, h =>
          have h' : (mc_args vs (k - 2))[i]? = some (some v) := h
          have := mc_args_at b vs (k - 2) (o + 2) i v h'
          rw [show o + (i + 2) = o + 2 + i by omega]
          exact List.mem_cons_of_mem _ this
      · have hc : (mc_ga b w).category = 1 := by
          rw [mc_ga_cat]
          cases w with
          | long x => exact absurd ⟨x, rfl⟩ hw
          | double x => exact absurd ⟨x, rfl⟩ hd
          | _ => rfl
        have e : mc_args (w :: vs) k = some w :: mc_args vs (k - 1) := by
          cases w with
          | long x => exact absurd ⟨x, rfl⟩ hw
          | double x => exact absurd ⟨x, rfl⟩ hd
          | _ => rfl
        rw [e] at h
        show (o + i, mc_ga b v) ∈ (o, mc_ga b w) :: lv_args (if (mc_ga b w).category = 2 then o + 2 else o + 1) (vs.map (mc_ga b))
        rw [if_neg (by omega)]
        match i, h with
        | 0, h =>
          have h' : some (some w) = some (some v) := h
          cases h'
          exact List.mem_cons_self
        | i + 1, h =>
          have h' : (mc_args vs (k - 1))[i]? = some (some v) := h
          have := mc_args_at b vs (k - 1) (o + 1) i v h'
          rw [show o + (i + 1) = o + 1 + i by omega]
          exact List.mem_cons_of_mem _ this
theorem mc_lv_entry {b nL : Nat} {av : List Value} {lsC : Array Slot} (h : lv_has lsC nL (lv_args 0 (av.map (mc_ga b)))) : mc_lv b nL (mc_args av nL) lsC := by
  refine ⟨h.1, h.2.1, fun q hq => h.2.2 q ?_⟩
  obtain ⟨w, h1, h2⟩ := mc_lst_mem.mp hq
  have := mc_args_at b av nL 0 q.1 w h1
  rw [Nat.zero_add, ← h2] at this
  exact this
end
section
/-! The machine over the abstract memory: a state of a walk is a place, the known locals, the stack, how many cells the world has, and the memory. -/
abbrev mc_K : Type := Nat → List (Option Value) → List Value → Nat → mc_M → mc_L → Prop
abbrev mc_PT : Type := List Value → Nat → mc_M → mc_L → (Option Value → mc_M → mc_L → Prop) → Prop
def mc_ty (cA : Nat → ClassId) : List (ClassId × FieldType) := [(cA 0, .int), (cA 1, .long), (cA 2, .char), (cA 3, .boolean)]
def mc_V (p : Program) (l : Launch) (e : Env) (R : Room) (s : State) (m : MethodId) (args : Array Value) (below : List Frame) (meth : Method) (c : Code) (Q : State → Prop) (D : va_G) (cl : List vw_C) (b : Nat) (cA : Nat → ClassId) (md : Bool) (tab : List mc_D) (nL n0 dn : Nat) : mc_K := fun pc ls st n M L =>
  (n0 ≤ n ∧ n ≤ n0 + dn) → (md = true → tab.length ≤ n) → ∀ (H : Heap) (locs : List Loc) (lsC : Array Slot), va_P D cl (mc_wd b cA md tab n M L) H → (md = false → H.size = b + n) → va_S (mc_A md b tab.length) s.heap H locs → mc_lv b nL ls lsC →
    W p l e R s m args below meth c H locs (n - n0) (mc_sl tab n - mc_sl tab n0) Q (F0 m pc lsC (st.map (mc_ga b)))
def mc_lk {α : Type} : List (Nat × α) → Nat → Option α
  | [], _ => none
  | (k, a) :: r, i => match Nat.beq k i with
    | true => some a
    | false => mc_lk r i
theorem mc_lk_mem {α : Type} : ∀ {l : List (Nat × α)} {i : Nat} {a : α}, mc_lk l i = some a → (i, a) ∈ l
  | [], i, a, h => by cases h
  | (k, x) :: r, i, a, h => by
    unfold mc_lk at h
    split at h
    · next hk =>
      have hk' := Nat.eq_of_beq_eq_true hk
      subst hk'
      cases h
      exact List.mem_cons_self
    · exact List.mem_cons_of_mem _ (mc_lk_mem h)
/-! taking values from the stack -/
def mc_pi (st : List Value) (k : Int32 → List Value → Prop) : Prop := match st with
  | .int x :: r => k x r
  | _ => False
def mc_pii (st : List Value) (k : Int32 → Int32 → List Value → Prop) : Prop := match st with
  | .int y :: .int x :: r => k x y r
  | _ => False
def mc_pl (st : List Value) (k : Int64 → List Value → Prop) : Prop := match st with
  | .long x :: r => k x r
  | _ => False
def mc_pll (st : List Value) (k : Int64 → Int64 → List Value → Prop) : Prop := match st with
  | .long y :: .long x :: r => k x y r
  | _ => False
def mc_pr (st : List Value) (k : Nat → List Value → Prop) : Prop := match st with
  | .ref a :: r => k a r
  | _ => False
def mc_pir (st : List Value) (k : Int32 → Nat → List Value → Prop) : Prop := match st with
  | .int i :: .ref a :: r => k i a r
  | _ => False
def mc_piir (st : List Value) (k : Int32 → Int32 → Nat → List Value → Prop) : Prop := match st with
  | .int x :: .int i :: .ref a :: r => k x i a r
  | _ => False
def mc_plir (st : List Value) (k : Int64 → Int32 → Nat → List Value → Prop) : Prop := match st with
  | .long x :: .int i :: .ref a :: r => k x i a r
  | _ => False
def mc_pvr (st : List Value) (k : Value → Nat → List Value → Prop) : Prop := match st with
  | v :: .ref a :: r => k v a r
  | _ => False
theorem mc_pi_e {st : List Value} {k : Int32 → List Value → Prop} (h : mc_pi st k) : ∃ x r, st = .int x :: r ∧ k x r := by
  unfold mc_pi at h; split at h
  · exact ⟨_, _, rfl, h⟩
  · exact h.elim
theorem mc_pii_e {st : List Value} {k : Int32 → Int32 → List Value → Prop} (h : mc_pii st k) : ∃ x y r, st = .int y :: .int x :: r ∧ k x y r := by
  unfold mc_pii at h; split at h
  · exact ⟨_, _, _, rfl, h⟩
  · exact h.elim
theorem mc_pl_e {st : List Value} {k : Int64 → List Value → Prop} (h : mc_pl st k) : ∃ x r, st = .long x :: r ∧ k x r := by
  unfold mc_pl at h; split at h
  · exact ⟨_, _, rfl, h⟩
  · exact h.elim
theorem mc_pll_e {st : List Value} {k : Int64 → Int64 → List Value → Prop} (h : mc_pll st k) : ∃ x y r, st = .long y :: .long x :: r ∧ k x y r := by
  unfold mc_pll at h; split at h
  · exact ⟨_, _, _, rfl, h⟩
  · exact h.elim
theorem mc_pr_e {st : List Value} {k : Nat → List Value → Prop} (h : mc_pr st k) : ∃ a r, st = .ref a :: r ∧ k a r := by
  unfold mc_pr at h; split at h
  · exact ⟨_, _, rfl, h⟩
  · exact h.elim
theorem mc_pir_e {st : List Value} {k : Int32 → Nat → List Value → Prop} (h : mc_pir st k) : ∃ i a r, st = .int i :: .ref a :: r ∧ k i a r := by
  unfold mc_pir at h; split at h
  · exact ⟨_, _, _, rfl, h⟩
  · exact h.elim
theorem mc_piir_e {st : List Value} {k : Int32 → Int32 → Nat → List Value → Prop} (h : mc_piir st k) : ∃ x i a r, st = .int x :: .int i :: .ref a :: r ∧ k x i a r := by
  unfold mc_piir at h; split at h
  · exact ⟨_, _, _, _, rfl, h⟩
  · exact h.elim
theorem mc_plir_e {st : List Value} {k : Int64 → Int32 → Nat → List Value → Prop} (h : mc_plir st k) : ∃ x i a r, st = .long x :: .int i :: .ref a :: r ∧ k x i a r := by
  unfold mc_plir at h; split at h
  · exact ⟨_, _, _, _, rfl, h⟩
  · exact h.elim
theorem mc_pvr_e {st : List Value} {k : Value → Nat → List Value → Prop} (h : mc_pvr st k) : ∃ v a r, st = v :: .ref a :: r ∧ k v a r := by
  unfold mc_pvr at h; split at h
  · exact ⟨_, _, _, rfl, h⟩
  · exact h.elim
/-- a local -/
def mc_li (ls : List (Option Value)) (i : Nat) (k : Int32 → Prop) : Prop := match mc_at ls i with
  | some (some (.int x)) => k x
  | _ => False
def mc_ll (ls : List (Option Value)) (i : Nat) (k : Int64 → Prop) : Prop := match mc_at ls i with
  | some (some (.long x)) => k x
  | _ => False
def mc_lr (ls : List (Option Value)) (i : Nat) (k : Nat → Prop) : Prop := match mc_at ls i with
  | some (some (.ref x)) => k x
  | _ => False
theorem mc_li_e {ls : List (Option Value)} {i : Nat} {k : Int32 → Prop} (h : mc_li ls i k) : ∃ x, mc_at ls i = some (some (.int x)) ∧ k x := by
  unfold mc_li at h; split at h
  · next hx => exact ⟨_, hx, h⟩
  · exact h.elim
theorem mc_ll_e {ls : List (Option Value)} {i : Nat} {k : Int64 → Prop} (h : mc_ll ls i k) : ∃ x, mc_at ls i = some (some (.long x)) ∧ k x := by
  unfold mc_ll at h; split at h
  · next hx => exact ⟨_, hx, h⟩
  · exact h.elim
theorem mc_lr_e {ls : List (Option Value)} {i : Nat} {k : Nat → Prop} (h : mc_lr ls i k) : ∃ x, mc_at ls i = some (some (.ref x)) ∧ k x := by
  unfold mc_lr at h; split at h
  · next hx => exact ⟨_, hx, h⟩
  · exact h.elim
/-- a cell that is there -/
def mc_in (md : Bool) (a n : Nat) (P : Prop) : Prop := match md with
  | true => P
  | false => a < n ∧ P
theorem mc_in_e {md : Bool} {a n : Nat} {P : Prop} {tab : List mc_D} {d : mc_D} (h : mc_in md a n P) (hf : md = true → tab.length ≤ n) (hd : tab[a]? = some d) : a < n ∧ P := by
  have hl : a < tab.length := (List.getElem?_eq_some_iff.mp hd).1
  cases md with
  | true => exact ⟨Nat.lt_of_lt_of_le hl (hf rfl), h⟩
  | false => exact h
/-- an array; an object of a class -/
def mc_ar (md : Bool) (tab : List mc_D) (a n t : Nat) (k : Nat → Prop) : Prop := match mc_at tab a with
  | some (.inl (t', len)) => match Nat.beq t t' with
    | true => mc_in md a n (k len)
    | false => False
  | _ => False
theorem mc_ar_e {md : Bool} {tab : List mc_D} {a n t : Nat} {k : Nat → Prop} (h : mc_ar md tab a n t k) (hf : md = true → tab.length ≤ n) : ∃ len, tab[a]? = some (.inl (t, len)) ∧ a < n ∧ k len := by
  unfold mc_ar at h; split at h
  · next t' len hd =>
    rw [mc_at_eq] at hd
    split at h
    · next hb =>
      have := Nat.eq_of_beq_eq_true hb
      subst this
      obtain ⟨h1, h2⟩ := mc_in_e h hf hd
      exact ⟨len, hd, h1, h2⟩
    · exact h.elim
  · exact h.elim
def mc_ob (md : Bool) (tab : List mc_D) (a n ci k : Nat) (kk : Nat → Prop) : Prop := match mc_at tab a with
  | some (.inr (ci', fds)) => match Nat.beq ci ci' with
    | true => match mc_at fds k with
      | some fd => mc_in md a n (kk fd)
      | none => False
    | false => False
  | _ => False
theorem mc_ob_e {md : Bool} {tab : List mc_D} {a n ci k : Nat} {kk : Nat → Prop} (h : mc_ob md tab a n ci k kk) (hf : md = true → tab.length ≤ n) : ∃ fds fd, tab[a]? = some (.inr (ci, fds)) ∧ fds[k]? = some fd ∧ a < n ∧ kk fd := by
  unfold mc_ob at h; split at h
  · next ci' fds hd =>
    rw [mc_at_eq] at hd
    split at h
    · next hb =>
      have := Nat.eq_of_beq_eq_true hb
      subst this
      split at h
      · next fd hk =>
        rw [mc_at_eq] at hk
        obtain ⟨h1, h2⟩ := mc_in_e h hf hd
        exact ⟨fds, fd, hd, hk, h1, h2⟩
      · exact h.elim
    · exact h.elim
  · exact h.elim
/-- what a field gives -/
def mc_gf (md : Bool) (M : mc_M) (i k fd : Nat) (kk : Value → Prop) : Prop := match fd with
  | 0 => kk (.int (M i k))
  | 1 => M i k ≠ 0 ∧ kk (.ref (M i k).toNatClampNeg)
  | 2 => kk (.int (M i k))
  | r + 3 => match md with
    | true => kk (.ref r)
    | false => M i k ≠ 0 ∧ kk (.ref r)
theorem mc_gf_e {md : Bool} {M : mc_M} {i k fd : Nat} {kk : Value → Prop} (h : mc_gf md M i k fd kk) : kk (mc_fv md M i k fd) := by
  match fd, h with
  | 0, h => exact h
  | 1, h =>
    show kk (if M i k = 0 then .null else .ref (M i k).toNatClampNeg)
    rw [if_neg h.1]
    exact h.2
  | 2, h => exact h
  | r + 3, h =>
    show kk (if md = true then .ref r else if M i k = 0 then .null else .ref r)
    cases md with
    | true => exact h
    | false =>
      rw [if_neg (by decide), if_neg h.1]
      exact h.2
/-- what a field takes: an int; a reference to a cell, as its number; a boolean; the one reference that it may hold -/
def mc_pf (M : mc_M) (i k fd : Nat) (v : Value) (kk : Int32 → Prop) : Prop := match fd with
  | 0 => match v with
    | .int x => kk x
    | _ => False
  | 1 => match v with
    | .ref r => Int32.ofNat r ≠ 0 ∧ (Int32.ofNat r).toNatClampNeg = r ∧ kk (Int32.ofNat r)
    | _ => False
  | 2 => match v with
    | .int x => (x = 0 ∨ x = 1) ∧ kk x
    | _ => False
  | r + 3 => match v with
    | .ref r' => match Nat.beq r r' with
      | true => kk 1
      | false => False
    | _ => False
theorem mc_pf_e {md : Bool} {M : mc_M} {i k fd : Nat} {v : Value} {kk : Int32 → Prop} (h : mc_pf M i k fd v kk) : ∃ x, kk x ∧ mc_fv md (mc_put M i k x) i k fd = v ∧ ((∃ z, v = .int z ∧ (fd = 0 ∨ (fd = 2 ∧ (z = 0 ∨ z = 1)))) ∨ (∃ r, v = .ref r ∧ fd ≠ 0 ∧ fd ≠ 2)) := by
  have hp : ∀ x, mc_put M i k x i k = x := fun x => by
    show mc_set M i (upd (M i) k x) i k = x
    rw [mc_set_s, pk_us]
  match fd, h with
  | 0, h =>
    cases v with
    | int x => exact ⟨x, h, by show Value.int _ = _; rw [hp], Or.inl ⟨x, rfl, Or.inl rfl⟩⟩
    | _ => exact False.elim h
  | 1, h =>
    cases v with
    | ref r =>
      obtain ⟨h1, h2, h3⟩ : Int32.ofNat r ≠ 0 ∧ (Int32.ofNat r).toNatClampNeg = r ∧ kk (Int32.ofNat r) := h
      refine ⟨Int32.ofNat r, h3, ?_, Or.inr ⟨r, rfl, by decide, by decide⟩⟩
      show (if mc_put M i k (Int32.ofNat r) i k = 0 then Value.null else .ref (mc_put M i k (Int32.ofNat r) i k).toNatClampNeg) = _
      rw [hp, if_neg h1, h2]
    | _ => exact False.elim h
  | 2, h =>
    cases v with
    | int x =>
      obtain ⟨h1, h2⟩ : (x = 0 ∨ x = 1) ∧ kk x := h
      exact ⟨x, h2, by show Value.int _ = _; rw [hp], Or.inl ⟨x, rfl, Or.inr ⟨rfl, h1⟩⟩⟩
    | _ => exact False.elim h
  | r + 3, h =>
    cases v with
    | ref r' =>
      have h' : (match Nat.beq r r' with
        | true => kk 1
        | false => False) := h
      split at h'
      · next hb =>
        have := Nat.eq_of_beq_eq_true hb
        subst this
        refine ⟨1, h', ?_, Or.inr ⟨r, rfl, by omega, by omega⟩⟩
        show (if md = true then Value.ref r else if mc_put M i k 1 i k = 0 then .null else .ref r) = _
        rw [hp]
        split
        · rfl
        · rw [if_neg (by decide)]
      · exact h'.elim
    | _ => exact False.elim h
/-- the arguments of a call -/
def mc_tk : Nat → List Value → List Value → Option (List Value × List Value)
  | 0, st, acc => some (acc, st)
  | k + 1, v :: r, acc => mc_tk k r (v :: acc)
  | _ + 1, [], _ => none
theorem mc_tk_e : ∀ (k : Nat) (st acc av r : List Value), mc_tk k st acc = some (av, r) → ∃ a1, av = a1 ++ acc ∧ st = a1.reverse ++ r ∧ a1.length = k
  | 0, st, acc, av, r, h => by
    cases h
    exact ⟨[], rfl, rfl, rfl⟩
  | k + 1, v :: r0, acc, av, r, h => by
    obtain ⟨a1, h1, h2, h3⟩ := mc_tk_e k r0 (v :: acc) av r h
    exact ⟨a1 ++ [v], by simp [h1], by simp [h2], by simp [h3]⟩
  | k + 1, [], acc, av, r, h => by cases h
def mc_w (st : List Value) : Nat := match st with
  | [] => 0
  | v :: r => v.category + mc_w r
theorem mc_w_eq (b : Nat) : ∀ st : List Value, ((st.map (mc_ga b)).map fun v => v.category).sum = mc_w st
  | [] => rfl
  | v :: r => by
    have h := mc_w_eq b r
    simp only [List.map_cons, List.sum_cons, mc_w, mc_ga_cat, h]
/-- a switch -/
def mc_sw (x : Int32) (cs : List (Int32 × Nat)) (d : Nat) (k : Nat → Prop) : Prop := match cs with
  | [] => k d
  | (v, t) :: r => (x = v → k t) ∧ (¬ x = v → mc_sw x r d k)
def mc_fi (x : Int32) (cs : List (Int32 × Nat)) (d : Nat) : Nat := match cs with
  | [] => d
  | (v, t) :: r => if x = v then t else mc_fi x r d
theorem mc_sw_e {x : Int32} {d : Nat} {k : Nat → Prop} : ∀ {cs : List (Int32 × Nat)}, mc_sw x cs d k → k (mc_fi x cs d)
  | [], h => h
  | (v, t) :: r, h => by
    unfold mc_fi
    split
    · next e => exact h.1 e
    · next e => exact mc_sw_e (h.2 e)
end
section
/-- a method's table: place, instruction, its length, the target of a jump, the constant -/
abbrev mc_R : Type := Nat × Instr × Nat × Nat × Int32
/-- a class's sheet: fields read and fields written (pool number: class, slot); calls (pool number: 0 virtual, 1 static, 2 special; how many values it takes, how many cells it makes, what it does); classes made; classes thrown; int and long constants; switches by their place -/
abbrev mc_SH : Type := (List (Nat × Nat × Nat) × List (Nat × Nat × Nat)) × List (Nat × Nat × Nat × Nat × mc_PT) × List (Nat × Nat) × List (Nat × Nat) × List (Nat × Int32) × List (Nat × Int64) × List (Nat × List (Int32 × Nat) × Nat)
def mc_ri (ret : Option FieldType) (x : Int32) (P : Prop) : Prop := match ret with
  | some .int => P
  | some .boolean => (x = 0 ∨ x = 1) ∧ P
  | _ => False
def mc_en (md : Bool) (n n0 dn : Nat) (P : Prop) : Prop := match md with
  | true => n ≤ n0 + dn ∧ P
  | false => n = n0 + dn ∧ P
def mc_cd (cd : Jvm.ClassFile.Cond) (x y : Int32) (kt kf : Prop) : Prop := match cd with
  | .eq => (x = y → kt) ∧ (¬ x = y → kf)
  | .ne => (¬ x = y → kt) ∧ (x = y → kf)
  | .lt => (x < y → kt) ∧ (¬ x < y → kf)
  | .ge => (y ≤ x → kt) ∧ (¬ y ≤ x → kf)
  | .gt => (y < x → kt) ∧ (¬ y < x → kf)
  | .le => (x ≤ y → kt) ∧ (¬ x ≤ y → kf)
def mc_rm (n n0 dn dn' : Nat) (P : Prop) : Prop := match dn' with
  | 0 => P
  | k + 1 => n + (k + 1) ≤ n0 + dn ∧ P
theorem mc_rm_e {n n0 dn dn' : Nat} {P : Prop} (h : mc_rm n n0 dn dn' P) (hn : n ≤ n0 + dn) : n + dn' ≤ n0 + dn ∧ P := by
  cases dn' with
  | zero => exact ⟨hn, h⟩
  | succ k => exact h
def mc_call (kd n0 dn : Nat) (cal : List (Nat × Nat × Nat × Nat × mc_PT)) (idx : Nat) (st : List Value) (n : Nat) (M : mc_M) (L : mc_L) (k : List Value → Nat → mc_M → mc_L → Prop) : Prop := match mc_lk cal idx with
  | some (kd', a, dn', F) => match mc_tk a st [] with
    | some (av, r) => match Nat.beq kd kd' && Nat.ble (mc_w r) 8 with
      | true => mc_rm n n0 dn dn' (F av n M L (fun rv M' L' => k (rv.toList ++ r) (n + dn') M' L'))
      | false => False
    | none => False
  | none => False
def mc_step (md : Bool) (tab : List mc_D) (n0 dn : Nat) (ret : Option FieldType) (sh : mc_SH) (Qr : Option Value → mc_M → mc_L → Prop) (Qt : Nat → mc_M → mc_L → Prop) (K : mc_K) (x : Instr) (tgt : Nat) (v : Int32) (pc : Nat) (ls : List (Option Value)) (st : List Value) (n : Nat) (M : mc_M) (L : mc_L) : Prop := match x with
  | .aload i => mc_lr ls i fun a => K (pc + 2) ls (.ref a :: st) n M L
  | .aload_n i => mc_lr ls i fun a => K (pc + 1) ls (.ref a :: st) n M L
  | .iload i => mc_li ls i fun a => K (pc + 2) ls (.int a :: st) n M L
  | .iload_n i => mc_li ls i fun a => K (pc + 1) ls (.int a :: st) n M L
  | .lload i => mc_ll ls i fun a => K (pc + 2) ls (.long a :: st) n M L
  | .lload_n i => mc_ll ls i fun a => K (pc + 1) ls (.long a :: st) n M L
  | .istore i => mc_pi st fun a r => K (pc + 2) (mc_st1 ls i (.int a)) r n M L
  | .istore_n i => mc_pi st fun a r => K (pc + 1) (mc_st1 ls i (.int a)) r n M L
  | .astore i => mc_pr st fun a r => K (pc + 2) (mc_st1 ls i (.ref a)) r n M L
  | .astore_n i => mc_pr st fun a r => K (pc + 1) (mc_st1 ls i (.ref a)) r n M L
  | .lstore i => mc_pl st fun a r => K (pc + 2) (mc_st2 ls i (.long a)) r n M L
  | .lstore_n i => mc_pl st fun a r => K (pc + 1) (mc_st2 ls i (.long a)) r n M L
  | .iinc i _ => mc_li ls i fun a => K (pc + 3) (mc_st1 ls i (.int (a + v))) st n M L
  | .iconst _ => K (pc + 1) ls (.int v :: st) n M L
  | .bipush _ => K (pc + 2) ls (.int v :: st) n M L
  | .sipush _ => K (pc + 3) ls (.int v :: st) n M L
  | .lconst i => match i.val with
    | 0 => K (pc + 1) ls (.long 0 :: st) n M L
    | _ => K (pc + 1) ls (.long 1 :: st) n M L
  | .ldc i => match mc_lk sh.2.2.2.2.1 i with
    | some w => K (pc + 2) ls (.int w :: st) n M L
    | none => False
  | .ldc2_w i => match mc_lk sh.2.2.2.2.2.1 i with
    | some w => K (pc + 3) ls (.long w :: st) n M L
    | none => False
  | .iadd => mc_pii st fun x y r => K (pc + 1) ls (.int (x + y) :: r) n M L
  | .isub => mc_pii st fun x y r => K (pc + 1) ls (.int (x - y) :: r) n M L
  | .imul => mc_pii st fun x y r => K (pc + 1) ls (.int (x * y) :: r) n M L
  | .iand => mc_pii st fun x y r => K (pc + 1) ls (.int (x &&& y) :: r) n M L
  | .ior => mc_pii st fun x y r => K (pc + 1) ls (.int (x ||| y) :: r) n M L
  | .ixor => mc_pii st fun x y r => K (pc + 1) ls (.int (x ^^^ y) :: r) n M L
  | .ishl => mc_pii st fun x y r => K (pc + 1) ls (.int (x <<< (y &&& 31)) :: r) n M L
  | .ishr => mc_pii st fun x y r => K (pc + 1) ls (.int (x >>> (y &&& 31)) :: r) n M L
  | .idiv => mc_pii st fun x y r => ¬ y = 0 ∧ K (pc + 1) ls (.int (x / y) :: r) n M L
  | .irem => mc_pii st fun x y r => ¬ y = 0 ∧ K (pc + 1) ls (.int (x - x / y * y) :: r) n M L
  | .ineg => mc_pi st fun x r => K (pc + 1) ls (.int (-x) :: r) n M L
  | .ladd => mc_pll st fun x y r => K (pc + 1) ls (.long (x + y) :: r) n M L
  | .lsub => mc_pll st fun x y r => K (pc + 1) ls (.long (x - y) :: r) n M L
  | .lmul => mc_pll st fun x y r => K (pc + 1) ls (.long (x * y) :: r) n M L
  | .ldiv => mc_pll st fun x y r => ¬ y = 0 ∧ K (pc + 1) ls (.long (x / y) :: r) n M L
  | .lrem => mc_pll st fun x y r => ¬ y = 0 ∧ K (pc + 1) ls (.long (x - x / y * y) :: r) n M L
  | .lneg => mc_pl st fun x r => K (pc + 1) ls (.long (-x) :: r) n M L
  | .lcmp => mc_pll st fun x y r => K (pc + 1) ls (.int (lg_cmp x y) :: r) n M L
  | .i2l => mc_pi st fun x r => K (pc + 1) ls (.long x.toInt64 :: r) n M L
  | .l2i => mc_pl st fun x r => K (pc + 1) ls (.int x.toInt32 :: r) n M L
  | .i2c => mc_pi st fun x r => K (pc + 1) ls (.int (x.toUInt32 % 65536).toInt32 :: r) n M L
  | .dup => match st with
    | .int x :: r => K (pc + 1) ls (.int x :: .int x :: r) n M L
    | .ref x :: r => K (pc + 1) ls (.ref x :: .ref x :: r) n M L
    | _ => False
  | .dup2 => match st with
    | .int x :: .ref y :: r => K (pc + 1) ls (.int x :: .ref y :: .int x :: .ref y :: r) n M L
    | .long x :: r => K (pc + 1) ls (.long x :: .long x :: r) n M L
    | _ => False
  | .dup_x1 => match st with
    | .int x :: .ref y :: r => K (pc + 1) ls (.int x :: .ref y :: .int x :: r) n M L
    | _ => False
  | .pop => match st with
    | .int _ :: r => K (pc + 1) ls r n M L
    | .ref _ :: r => K (pc + 1) ls r n M L
    | _ => False
  | .ifCond cd _ => mc_pi st fun x r => mc_cd cd x 0 (K tgt ls r n M L) (K (pc + 3) ls r n M L)
  | .if_icmp cd _ => mc_pii st fun x y r => mc_cd cd x y (K tgt ls r n M L) (K (pc + 3) ls r n M L)
  | .goto _ => K tgt ls st n M L
  | .tableswitch .. => match mc_lk sh.2.2.2.2.2.2 pc with
    | some (cs, d) => mc_pi st fun x r => mc_sw x cs d fun t => K t ls r n M L
    | none => False
  | .lookupswitch .. => match mc_lk sh.2.2.2.2.2.2 pc with
    | some (cs, d) => mc_pi st fun x r => mc_sw x cs d fun t => K t ls r n M L
    | none => False
  | .getfield i => match mc_lk sh.1.1 i with
    | some (ci, k) => mc_pr st fun a r => mc_ob md tab a n ci k fun fd => mc_gf md M a k fd fun w => K (pc + 3) ls (w :: r) n M L
    | none => False
  | .putfield i => match mc_lk sh.1.2 i with
    | some (ci, k) => mc_pvr st fun w a r => mc_ob md tab a n ci k fun fd => mc_pf M a k fd w fun x => K (pc + 3) ls r n (mc_put M a k x) L
    | none => False
  | .iaload => mc_pir st fun i a r => mc_ar md tab a n 0 fun len => vp_in i len ∧ K (pc + 1) ls (.int (M a i.toNatClampNeg) :: r) n M L
  | .caload => mc_pir st fun i a r => mc_ar md tab a n 2 fun len => vp_in i len ∧ K (pc + 1) ls (.int (M a i.toNatClampNeg) :: r) n M L
  | .baload => mc_pir st fun i a r => mc_ar md tab a n 3 fun len => vp_in i len ∧ K (pc + 1) ls (.int (M a i.toNatClampNeg) :: r) n M L
  | .laload => mc_pir st fun i a r => mc_ar md tab a n 1 fun len => vp_in i len ∧ K (pc + 1) ls (.long (L a i.toNatClampNeg) :: r) n M L
  | .iastore => mc_piir st fun x i a r => mc_ar md tab a n 0 fun len => vp_in i len ∧ K (pc + 1) ls r n (mc_put M a i.toNatClampNeg x) L
  | .castore => mc_piir st fun x i a r => mc_ar md tab a n 2 fun len => vp_in i len ∧ K (pc + 1) ls r n (mc_put M a i.toNatClampNeg (vp_nar .char x)) L
  | .bastore => mc_piir st fun x i a r => mc_ar md tab a n 3 fun len => vp_in i len ∧ K (pc + 1) ls r n (mc_put M a i.toNatClampNeg (vp_nar .boolean x)) L
  | .lastore => mc_plir st fun x i a r => mc_ar md tab a n 1 fun len => vp_in i len ∧ K (pc + 1) ls r n M (mc_putL L a i.toNatClampNeg x)
  | .invokevirtual i => mc_call 0 n0 dn sh.2.1 i st n M L fun st' n' M' L' => K (pc + 3) ls st' n' M' L'
  | .invokestatic i => mc_call 1 n0 dn sh.2.1 i st n M L fun st' n' M' L' => K (pc + 3) ls st' n' M' L'
  | .invokespecial i => mc_call 2 n0 dn sh.2.1 i st n M L fun st' n' M' L' => K (pc + 3) ls st' n' M' L'
  | .ireturn => match st with
    | [.int x] => mc_ri ret x (mc_en md n n0 dn (Qr (some (.int x)) M L))
    | _ => False
  | .return_ => match st, ret with
    | [], none => mc_en md n n0 dn (Qr none M L)
    | _, _ => False
  | .new i => match mc_lk sh.2.2.1 i with
    | some ci => match md with
      | true => False
      | false => match mc_at tab n with
        | some (.inr (ci', _)) => match Nat.beq ci ci' with
          | true => n < n0 + dn ∧ K (pc + 3) ls (.ref n :: st) (n + 1) (mc_set M n (fun _ => 0)) L
          | false => False
        | _ => False
    | none => match mc_lk sh.2.2.2.1 i with
      | some k => match md, st with
        | true, [] => n < n0 + dn ∧ Qt k M L
        | _, _ => False
      | none => False
  | .newarray _ => mc_pi st fun x r => match md with
    | true => False
    | false => match mc_at tab n with
      | some (.inl (t, len)) => match Nat.beq t tgt with
        | true => x = Int32.ofNat len ∧ n < n0 + dn ∧ K (pc + 2) ls (.ref n :: r) (n + 1) (mc_set M n (fun _ => 0)) (mc_setL L n (fun _ => 0))
        | false => False
      | _ => False
  | _ => False
theorem mc_call_e {kd n0 dn : Nat} {cal : List (Nat × Nat × Nat × Nat × mc_PT)} {idx : Nat} {st : List Value} {n : Nat} {M : mc_M} {L : mc_L} {k : List Value → Nat → mc_M → mc_L → Prop} (h : mc_call kd n0 dn cal idx st n M L k) (hn : n ≤ n0 + dn) :
    ∃ a dn' F av r, mc_lk cal idx = some (kd, a, dn', F) ∧ st = av.reverse ++ r ∧ av.length = a ∧ mc_w r ≤ 8 ∧ n + dn' ≤ n0 + dn ∧ F av n M L (fun rv M' L' => k (rv.toList ++ r) (n + dn') M' L') := by
  unfold mc_call at h
  split at h
  · next kd' a dn' F hk =>
    split at h
    · next av r ht =>
      split at h
      · next hb =>
        obtain ⟨h1, h2⟩ := (Bool.and_eq_true _ _).mp hb
        have h1 := Nat.eq_of_beq_eq_true h1
        subst h1
        obtain ⟨a1, e1, e2, e3⟩ := mc_tk_e a st [] av r ht
        rw [List.append_nil] at e1
        subst e1
        obtain ⟨h3, h4⟩ := mc_rm_e h hn
        exact ⟨a, dn', F, av, r, hk, e2, e3, Nat.le_of_ble_eq_true h2, h3, h4⟩
      · exact h.elim
    · exact h.elim
  · exact h.elim
end
section
section MVS
variable {p : Program} {l : Launch} {e : Env} {R : Room} {s : State} {m : MethodId} {args : Array Value} {below : List Frame} {meth : Method} {c : Code} {Q : State → Prop}
variable {D : va_G} {cl : List vw_C} {b : Nat} {cA : Nat → ClassId} {md : Bool} {tab : List mc_D} {nL n0 dn : Nat}
variable {cc : ByteArray} {pc : Nat} {ls : List (Option Value)} {st r : List Value} {n : Nat} {M : mc_M} {L : mc_L}
theorem mv_go {pc' : Nat} {st' : List Value} (h : ∀ (H : Heap) (locs : List Loc) (lsC : Array Slot) (x y : Nat), mc_lv b nL ls lsC → W p l e R s m args below meth c H locs x y Q (F0 m pc' lsC (st'.map (mc_ga b))) → W p l e R s m args below meth c H locs x y Q (F0 m pc lsC (st.map (mc_ga b)))) (k : mc_V p l e R s m args below meth c Q D cl b cA md tab nL n0 dn pc' ls st' n M L) : mc_V p l e R s m args below meth c Q D cl b cA md tab nL n0 dn pc ls st n M L :=
  fun h0 hf H locs lsC hP hz hS hl => h H locs lsC _ _ hl (k h0 hf H locs lsC hP hz hS hl)
theorem mv_br {P1 P2 : Prop} {pc1 pc2 : Nat} {st' : List Value} (h : ∀ (H : Heap) (locs : List Loc) (lsC : Array Slot) (x y : Nat), (P1 → W p l e R s m args below meth c H locs x y Q (F0 m pc1 lsC (st'.map (mc_ga b)))) → (P2 → W p l e R s m args below meth c H locs x y Q (F0 m pc2 lsC (st'.map (mc_ga b)))) → W p l e R s m args below meth c H locs x y Q (F0 m pc lsC (st.map (mc_ga b)))) (k : (P1 → mc_V p l e R s m args below meth c Q D cl b cA md tab nL n0 dn pc1 ls st' n M L) ∧ (P2 → mc_V p l e R s m args below meth c Q D cl b cA md tab nL n0 dn pc2 ls st' n M L)) : mc_V p l e R s m args below meth c Q D cl b cA md tab nL n0 dn pc ls st n M L :=
  fun h0 hf H locs lsC hP hz hS hl => h H locs lsC _ _ (fun z => k.1 z h0 hf H locs lsC hP hz hS hl) (fun z => k.2 z h0 hf H locs lsC hP hz hS hl)
theorem mv_kp (ks : List Bool) (k : mc_V p l e R s m args below meth c Q D cl b cA md tab nL n0 dn pc (mc_kp ks ls) st n M L) : mc_V p l e R s m args below meth c Q D cl b cA md tab nL n0 dn pc ls st n M L :=
  fun h0 hf H locs lsC hP hz hS hl => k h0 hf H locs lsC hP hz hS (mc_lv_kp ks hl)
theorem mv_st1 {pc' i : Nat} {v : Value} (h : ∀ (H : Heap) (locs : List Loc) (lsC : Array Slot) (x y : Nat), mc_lv b nL ls lsC → (∀ lsC', lv_has lsC' nL ((i, mc_ga b v) :: (mc_lst b ls).filter (fun q => !(q.1 == i) && !(q.1 + 1 == i && q.2.category == 2))) → W p l e R s m args below meth c H locs x y Q (F0 m pc' lsC' (r.map (mc_ga b)))) → W p l e R s m args below meth c H locs x y Q (F0 m pc lsC (st.map (mc_ga b)))) (k : mc_V p l e R s m args below meth c Q D cl b cA md tab nL n0 dn pc' (mc_st1 ls i v) r n M L) : mc_V p l e R s m args below meth c Q D cl b cA md tab nL n0 dn pc ls st n M L :=
  fun h0 hf H locs lsC hP hz hS hl => h H locs lsC _ _ hl (fun lsC' h' => k h0 hf H locs lsC' hP hz hS (mc_lv_st1 h'))
theorem mv_st2 {pc' i : Nat} {v : Value} (h : ∀ (H : Heap) (locs : List Loc) (lsC : Array Slot) (x y : Nat), mc_lv b nL ls lsC → (∀ lsC', lv_has lsC' nL ((i, mc_ga b v) :: (mc_lst b ls).filter (fun q => !(q.1 == i) && (!(q.1 == i + 1) && !(q.1 + 1 == i && q.2.category == 2)))) → W p l e R s m args below meth c H locs x y Q (F0 m pc' lsC' (r.map (mc_ga b)))) → W p l e R s m args below meth c H locs x y Q (F0 m pc lsC (st.map (mc_ga b)))) (k : mc_V p l e R s m args below meth c Q D cl b cA md tab nL n0 dn pc' (mc_st2 ls i v) r n M L) : mc_V p l e R s m args below meth c Q D cl b cA md tab nL n0 dn pc ls st n M L :=
  fun h0 hf H locs lsC hP hz hS hl => h H locs lsC _ _ hl (fun lsC' h' => k h0 hf H locs lsC' hP hz hS (mc_lv_st2 h'))
theorem mv_iinc (hx : p.tables.exec = Jvm.exec) (hb : c.code = cc) {i : Nat} {z : Int} {a v : Int32} (hdg : decode cc pc = .ok (.iinc i z, 3)) (hi : i < nL) (ha : mc_at ls i = some (some (.int a))) (hv : Int32.ofInt z = v) (k : mc_V p l e R s m args below meth c Q D cl b cA md tab nL n0 dn (pc + 3) (mc_st1 ls i (.int (a + v))) st n M L) : mc_V p l e R s m args below meth c Q D cl b cA md tab nL n0 dn pc ls st n M L := by
  refine mv_st1 (fun H locs lsC x y hl kk => ?_) k
  have hm : (i, Value.int a) ∈ mc_lst b ls := mc_lst_mem.mpr ⟨.int a, by rw [← mc_at_eq]; exact ha, rfl⟩
  obtain ⟨q, hq⟩ := List.getElem?_of_mem hm
  exact lv_iinc hx hb hdg hl hq (by rw [hv]) hi rfl kk
theorem mv_if (hx : p.tables.exec = Jvm.exec) (hb : c.code = cc) {cd : Jvm.ClassFile.Cond} {off : Int} {tgt : Nat} {x : Int32} (hdg : decode cc pc = .ok (.ifCond cd off, 3)) (ht : (pc : Int) + off = (tgt : Int)) (k : mc_cd cd x 0 (mc_V p l e R s m args below meth c Q D cl b cA md tab nL n0 dn tgt ls r n M L) (mc_V p l e R s m args below meth c Q D cl b cA md tab nL n0 dn (pc + 3) ls r n M L)) : mc_V p l e R s m args below meth c Q D cl b cA md tab nL n0 dn pc ls (.int x :: r) n M L := by
  cases cd with
  | eq => exact mv_br (fun H locs lsC _ _ kt kf => lv_if_eq hx hb hdg ht kt kf) k
  | ne => exact mv_br (fun H locs lsC _ _ kt kf => lv_if_ne hx hb hdg ht kt kf) k
  | lt => exact mv_br (fun H locs lsC _ _ kt kf => lv_if_lt hx hb hdg ht kt kf) k
  | ge => exact mv_br (fun H locs lsC _ _ kt kf => lv_if_ge hx hb hdg ht kt kf) k
  | gt => exact mv_br (fun H locs lsC _ _ kt kf => lv_if_gt hx hb hdg ht kt kf) k
  | le => exact mv_br (fun H locs lsC _ _ kt kf => lv_if_le hx hb hdg ht kt kf) k
theorem mv_ifi (hx : p.tables.exec = Jvm.exec) (hb : c.code = cc) {cd : Jvm.ClassFile.Cond} {off : Int} {tgt : Nat} {x y : Int32} (hdg : decode cc pc = .ok (.if_icmp cd off, 3)) (ht : (pc : Int) + off = (tgt : Int)) (k : mc_cd cd x y (mc_V p l e R s m args below meth c Q D cl b cA md tab nL n0 dn tgt ls r n M L) (mc_V p l e R s m args below meth c Q D cl b cA md tab nL n0 dn (pc + 3) ls r n M L)) : mc_V p l e R s m args below meth c Q D cl b cA md tab nL n0 dn pc ls (.int y :: .int x :: r) n M L := by
  cases cd with
  | eq => exact mv_br (fun H locs lsC _ _ kt kf => lv_icmp_eq hx hb hdg ht kt kf) k
  | ne => exact mv_br (fun H locs lsC _ _ kt kf => lv_icmp_ne hx hb hdg ht kt kf) k
  | lt => exact mv_br (fun H locs lsC _ _ kt kf => lv_icmp_lt hx hb hdg ht kt kf) k
  | ge => exact mv_br (fun H locs lsC _ _ kt kf => lv_icmp_ge hx hb hdg ht kt kf) k
  | gt => exact mv_br (fun H locs lsC _ _ kt kf => lv_icmp_gt hx hb hdg ht kt kf) k
  | le => exact mv_br (fun H locs lsC _ _ kt kf => lv_icmp_le hx hb hdg ht kt kf) k
/-! fields -/
def mc_lnk (own : String) (idx : Nat) (t : String × String × String × Bool) (args : Array Value) (s : State) : Prop :=
  (Cond.fieldLink own idx t.1 t.2.1 t.2.2.1).before args s = true ∨ ∃ host, (Cond.fieldLinkNest own idx t.1 t.2.1 t.2.2.1 host).before args s = true
theorem mv_get (hx : p.tables.exec = Jvm.exec) (hb : c.code = cc) {own : String} {Ts : List Cond} (hts : ∀ w ∈ Ts, w.before args s = true) (hown : s.vm.findClass own = some m.cls) (hK : va_K D cl (mc_ty cA) s)
    {C : String} {T : u_T} {N ci k idx : Nat} (hin : ∀ w ∈ u_ws C T N, w ∈ Ts) (hc : cl[ci]? = some (C, T, N)) (hk : k < N) (hlink : mc_lnk own idx (T k) args s)
    {a fd : Nat} {fds : List Nat} (ha : tab[a]? = some (.inr (ci, fds))) (hfd : fds[k]? = some fd) (hdg : decode cc pc = .ok (.getfield idx, 3)) (hn : a < n)
    (kk : mc_V p l e R s m args below meth c Q D cl b cA md tab nL n0 dn (pc + 3) ls (mc_fv md M a k fd :: r) n M L) : mc_V p l e R s m args below meth c Q D cl b cA md tab nL n0 dn pc ls (.ref a :: r) n M L := by
  intro h0 hf H locs lsC hP hz hS hl
  have he : (mc_wd b cA md tab n M L)[a]? = some (b + a, .inr (ci, (fds.mapIdx (fun k fd => mc_fv md M a k fd)).map (mc_ga b))) := mc_wd_in hn ha
  have hv : ((fds.mapIdx (fun k fd => mc_fv md M a k fd)).map (mc_ga b))[k]? = some (mc_ga b (mc_fv md M a k fd)) := by
    rw [List.getElem?_map, List.getElem?_mapIdx, hfd]
    rfl
  rcases hlink with h1 | ⟨host, h1⟩
  · exact va_get hx hb hts hin hown hK hP a he hc k hk h1 (fun _ h => h) hv hdg (kk h0 hf H locs lsC hP hz hS hl)
  · exact va_getN hx hb hts hin hown hK hP a he hc k hk h1 (fun _ h => h) hv hdg (kk h0 hf H locs lsC hP hz hS hl)
theorem mv_put (hx : p.tables.exec = Jvm.exec) (hb : c.code = cc) {own : String} {Ts : List Cond} (hts : ∀ w ∈ Ts, w.before args s = true) (hown : s.vm.findClass own = some m.cls) (hK : va_K D cl (mc_ty cA) s)
    {C : String} {T : u_T} {N ci k idx : Nat} (hin : ∀ w ∈ u_ws C T N, w ∈ Ts) (hc : cl[ci]? = some (C, T, N)) (hk : k < N)
    (ty0 : Nat → FieldType) (hty : ∀ k, k < N → parseFieldDescriptor (T k).2.2.1 = some (ty0 k)) (hnm : ∀ a, a < N → ∀ b, b < N → a ≠ b → (T a).2.1 ≠ (T b).2.1)
    (hlink : ((T k).2.2.2 = false ∧ mc_lnk own idx (T k) args s) ∨ ((T k).2.2.2 = true ∧ (T k).1 = own ∧ meth.name = "<init>" ∧ (Cond.fieldLink own idx (T k).1 (T k).2.1 (T k).2.2.1).before args s = true))
    {a fd : Nat} {fds : List Nat} (ha : tab[a]? = some (.inr (ci, fds))) (hfd : fds[k]? = some fd) (hdg : decode cc pc = .ok (.putfield idx, 3)) (hn : a < n)
    {v : Value} {x : Int32} (hv : mc_fv md (mc_put M a k x) a k fd = v) (hna : narrow (ty0 k) (mc_ga b v) = mc_ga b v) (hfit : fits (ty0 k) (mc_ga b v) = true)
    (kk : mc_V p l e R s m args below meth c Q D cl b cA md tab nL n0 dn (pc + 3) ls r n (mc_put M a k x) L) : mc_V p l e R s m args below meth c Q D cl b cA md tab nL n0 dn pc ls (v :: .ref a :: r) n M L := by
  intro h0 hf H locs lsC hP hz hS hl
  have he : (mc_wd b cA md tab n M L)[a]? = some (b + a, .inr (ci, (fds.mapIdx (fun k fd => mc_fv md M a k fd)).map (mc_ga b))) := mc_wd_in hn ha
  have hD : va_D (mc_A md b tab.length) (mc_wd b cA md tab n M L) := mc_wd_D
  have hkl : k < ((fds.mapIdx (fun k fd => mc_fv md M a k fd)).map (mc_ga b)).length := by
    rw [List.length_map, List.length_mapIdx]
    exact (List.getElem?_eq_some_iff.mp hfd).1
  have hap := va_apart (own := own) hts hin ty0 hty hnm hK hc
  obtain ⟨w, h1, cell, q1, q2, q3, q4⟩ := hP a _ he
  have hr : w = (C, T, N) := Option.some.inj (h1.symm.trans hc)
  subst hr
  obtain ⟨hSl, hfc, kC, hkC, hkind⟩ := hK.1 ci _ hc
  obtain ⟨cf, kf, fi, f, hi, hsl⟩ := hSl k hk
  have hlay := hts _ (hin _ (u_in_lay hk))
  have hst := (u_facts hfc hkC (u_lays hts hin hk) hi).1
  have hd := hty k hk
  have fin : ∀ H' : Heap, H'[b + a]? = some (cell.setSlot f.slot (mc_ga b v)) → H'.size = H.size → (∀ q, q ≠ b + a → H'[q]? = H[q]?) → W p l e R s m args below meth c H' (locs ++ [⟨b + a, f.slot⟩]) (n - n0) (mc_sl tab n - mc_sl tab n0) Q (F0 m (pc + 3) lsC (r.map (mc_ga b))) := by
    intro H' e1 e2 e3
    rw [hsl] at e1 ⊢
    have hat : va_at D cl (b + a, .inr (ci, ((fds.mapIdx (fun k fd => mc_fv md M a k fd)).map (mc_ga b)).set k (mc_ga b v))) H' := ⟨_, hc, t_OB.to (V := updV (vp_V ((fds.mapIdx (fun k fd => mc_fv md M a k fd)).map (mc_ga b))) k (mc_ga b v)) ⟨_, e1, q2, q3, t_set q4 hap hk (mc_ga b v)⟩ (fun j _ => vp_updV_set hkl (mc_ga b v) j)⟩
    have hP' := hP.set hD he hat e3
    rw [mc_set_fld hn ha hfd hv] at hP'
    exact kk h0 hf H' _ lsC hP' (fun h => by rw [e2]; exact hz h) (hS.put e2 e3 (hD.2 a _ he)) hl
  unfold u_lay at hlay
  rcases hlink with ⟨hfin, hl1⟩ | ⟨hfin, hdecl, hin2, hl1⟩
  · rw [if_neg (by rw [hfin]; decide)] at hlay
    have h6 := u_store hfc hkC hkind hlay hi hd hna hfit
    rcases hl1 with hl1 | ⟨host, hl1⟩
    · exact W.putK hx hb (f := f) ⟨hown, hl1, ⟨_, _, _, hi⟩, hst⟩ (by rw [q2]; exact h6) q1 q3 (by rw [hsl]; exact k2_hasslot (q4 k hk)) rfl rfl hdg fin
    · exact va_WputK hx hb (f := f) hown hl1 hi hst (by rw [q2]; exact h6) q1 q3 (by rw [hsl]; exact k2_hasslot (q4 k hk)) rfl rfl hdg fin
  · rw [if_pos hfin] at hlay
    have hcf : m.cls = cf := by
      obtain ⟨_, _, c', _, _, _, -, -, hf', -, -, -, hown2, -⟩ := Cond.laysFinal_spec hlay
      have e1 : c' = cf := by have := hi.symm.trans hf'; simp at this; exact this.1.symm
      rw [hdecl] at hown2
      rw [← e1]; exact Option.some.inj (hown.symm.trans hown2)
    have h6 := u_fits hfc hkC hkind (Or.inr hlay) hi hd hna hfit
    exact W.putFinK hx hb hown hl1 hi hst hcf hin2 (by rw [q2]; exact h6) q1 q3 (by rw [hsl]; exact k2_hasslot (q4 k hk)) rfl rfl hdg fin
/-! arrays -/
theorem mv_iald (hx : p.tables.exec = Jvm.exec) (hb : c.code = cc) (hK : va_K D cl (mc_ty cA) s) {a len : Nat} {i : Int32} (ha : tab[a]? = some (.inl (0, len))) (hn : a < n) (hin : vp_in i len) (hdg : decode cc pc = .ok (.iaload, 1)) (kk : mc_V p l e R s m args below meth c Q D cl b cA md tab nL n0 dn (pc + 1) ls (.int (M a i.toNatClampNeg) :: r) n M L) : mc_V p l e R s m args below meth c Q D cl b cA md tab nL n0 dn pc ls (.int i :: .ref a :: r) n M L := by
  intro h0 hf H locs lsC hP hz hS hl
  have he : (mc_wd b cA md tab n M L)[a]? = some (b + a, .inl (cA 0, len, .inl (M a))) := mc_wd_in hn ha
  exact va_iald hx hb hK hP a 0 he rfl hin hdg (kk h0 hf H locs lsC hP hz hS hl)
theorem mv_cald (hx : p.tables.exec = Jvm.exec) (hb : c.code = cc) (hK : va_K D cl (mc_ty cA) s) {a len : Nat} {i : Int32} (ha : tab[a]? = some (.inl (2, len))) (hn : a < n) (hin : vp_in i len) (hdg : decode cc pc = .ok (.caload, 1)) (kk : mc_V p l e R s m args below meth c Q D cl b cA md tab nL n0 dn (pc + 1) ls (.int (M a i.toNatClampNeg) :: r) n M L) : mc_V p l e R s m args below meth c Q D cl b cA md tab nL n0 dn pc ls (.int i :: .ref a :: r) n M L := by
  intro h0 hf H locs lsC hP hz hS hl
  have he : (mc_wd b cA md tab n M L)[a]? = some (b + a, .inl (cA 2, len, .inl (M a))) := mc_wd_in hn ha
  exact va_cald hx hb hK hP a 2 he rfl hin hdg (kk h0 hf H locs lsC hP hz hS hl)
theorem mv_zald (hx : p.tables.exec = Jvm.exec) (hb : c.code = cc) (hK : va_K D cl (mc_ty cA) s) {a len : Nat} {i : Int32} (ha : tab[a]? = some (.inl (3, len))) (hn : a < n) (hin : vp_in i len) (hdg : decode cc pc = .ok (.baload, 1)) (kk : mc_V p l e R s m args below meth c Q D cl b cA md tab nL n0 dn (pc + 1) ls (.int (M a i.toNatClampNeg) :: r) n M L) : mc_V p l e R s m args below meth c Q D cl b cA md tab nL n0 dn pc ls (.int i :: .ref a :: r) n M L := by
  intro h0 hf H locs lsC hP hz hS hl
  have he : (mc_wd b cA md tab n M L)[a]? = some (b + a, .inl (cA 3, len, .inl (M a))) := mc_wd_in hn ha
  exact va_zald hx hb hK hP a 3 he rfl hin hdg (kk h0 hf H locs lsC hP hz hS hl)
theorem mv_lald (hx : p.tables.exec = Jvm.exec) (hb : c.code = cc) (hK : va_K D cl (mc_ty cA) s) {a len : Nat} {i : Int32} (ha : tab[a]? = some (.inl (1, len))) (hn : a < n) (hin : vp_in i len) (hdg : decode cc pc = .ok (.laload, 1)) (kk : mc_V p l e R s m args below meth c Q D cl b cA md tab nL n0 dn (pc + 1) ls (.long (L a i.toNatClampNeg) :: r) n M L) : mc_V p l e R s m args below meth c Q D cl b cA md tab nL n0 dn pc ls (.int i :: .ref a :: r) n M L := by
  intro h0 hf H locs lsC hP hz hS hl
  have he : (mc_wd b cA md tab n M L)[a]? = some (b + a, .inl (cA 1, len, .inr (.inl (L a)))) := mc_wd_in hn ha
  exact va_lald hx hb hK hP a 1 he rfl hin hdg (kk h0 hf H locs lsC hP hz hS hl)
theorem mv_ast {a len t : Nat} {j : Int32} {x : Int32} {H H1 : Heap} {locs : List Loc} (ha : tab[a]? = some (.inl (t, len))) (ht : t ≠ 1) (hn : a < n) (hP : va_P D cl (mc_wd b cA md tab n M L) H) (hS : va_S (mc_A md b tab.length) s.heap H locs)
    (e1 : H1[b + a]? = some ((arrV (cA t) len (fun q => .int (M a q))).setSlot j.toNatClampNeg (.int x))) (z : H1.size = H.size) (oq : ∀ q : Nat, q ≠ b + a → H1[q]? = H[q]?) :
    va_P D cl (mc_wd b cA md tab n (mc_put M a j.toNatClampNeg x) L) H1 ∧ va_S (mc_A md b tab.length) s.heap H1 (locs ++ [⟨b + a, j.toNatClampNeg⟩]) := by
  have he : (mc_wd b cA md tab n M L)[a]? = some (b + a, .inl (cA t, len, .inl (M a))) := by
    rw [mc_wd_in hn ha]
    simp [mc_cell, ht, mc_gE]
  have hD : va_D (mc_A md b tab.length) (mc_wd b cA md tab n M L) := mc_wd_D
  have hat : va_at D cl (b + a, .inl (cA t, len, .inl (upd (M a) j.toNatClampNeg x))) H1 := by
    show H1[b + a]? = some (vp_cell _ _)
    rw [e1, vp_cell_i, arrV_store]
    congr 2
    funext q
    by_cases hq : q = j.toNatClampNeg
    · subst hq
      simp [updV, upd]
    · simp [updV, upd, hq]
  have h := hP.set hD he hat oq
  rw [mc_set_arr hn ha ht] at h
  exact ⟨h, hS.put z oq (hD.2 a _ he)⟩
theorem mv_iast (hx : p.tables.exec = Jvm.exec) (hb : c.code = cc) (hK : va_K D cl (mc_ty cA) s) {a len : Nat} {i x : Int32} (ha : tab[a]? = some (.inl (0, len))) (hn : a < n) (hin : vp_in i len) (hdg : decode cc pc = .ok (.iastore, 1)) (kk : mc_V p l e R s m args below meth c Q D cl b cA md tab nL n0 dn (pc + 1) ls r n (mc_put M a i.toNatClampNeg x) L) : mc_V p l e R s m args below meth c Q D cl b cA md tab nL n0 dn pc ls (.int x :: .int i :: .ref a :: r) n M L := by
  intro h0 hf H locs lsC hP hz hS hl
  have he : (mc_wd b cA md tab n M L)[a]? = some (b + a, .inl (cA 0, len, .inl (M a))) := mc_wd_in hn ha
  refine W.iast hx hb (hP a _ he) ((hK.2 0 _ rfl).1 len (fun j => .int (M a j))) (fun q => by cases q) (by show ¬ (i < 0 ∨ (arrV _ _ _).slots.size ≤ _); rw [arrV_size]; exact hin) rfl rfl hdg fun H1 e1 z oq => ?_
  obtain ⟨h1, h2⟩ := mv_ast ha (by decide) hn hP hS e1 z oq
  exact kk h0 hf H1 _ lsC h1 (fun h => by rw [z]; exact hz h) h2 hl
theorem mv_cast (hx : p.tables.exec = Jvm.exec) (hb : c.code = cc) (hK : va_K D cl (mc_ty cA) s) {a len : Nat} {i x : Int32} (ha : tab[a]? = some (.inl (2, len))) (hn : a < n) (hin : vp_in i len) (hdg : decode cc pc = .ok (.castore, 1)) (kk : mc_V p l e R s m args below meth c Q D cl b cA md tab nL n0 dn (pc + 1) ls r n (mc_put M a i.toNatClampNeg (vp_nar .char x)) L) : mc_V p l e R s m args below meth c Q D cl b cA md tab nL n0 dn pc ls (.int x :: .int i :: .ref a :: r) n M L := by
  intro h0 hf H locs lsC hP hz hS hl
  have he : (mc_wd b cA md tab n M L)[a]? = some (b + a, .inl (cA 2, len, .inl (M a))) := mc_wd_in hn ha
  refine W.cast hx hb (hP a _ he) ((hK.2 2 _ rfl).1 len (fun j => .int (M a j))) (fun q => by cases q) (by show ¬ (i < 0 ∨ (arrV _ _ _).slots.size ≤ _); rw [arrV_size]; exact hin) rfl rfl hdg fun H1 e1 z oq => ?_
  obtain ⟨h1, h2⟩ := mv_ast (x := vp_nar .char x) ha (by decide) hn hP hS e1 z oq
  exact kk h0 hf H1 _ lsC h1 (fun h => by rw [z]; exact hz h) h2 hl
theorem mv_zast (hx : p.tables.exec = Jvm.exec) (hb : c.code = cc) (hK : va_K D cl (mc_ty cA) s) {a len : Nat} {i x : Int32} (ha : tab[a]? = some (.inl (3, len))) (hn : a < n) (hin : vp_in i len) (hdg : decode cc pc = .ok (.bastore, 1)) (kk : mc_V p l e R s m args below meth c Q D cl b cA md tab nL n0 dn (pc + 1) ls r n (mc_put M a i.toNatClampNeg (vp_nar .boolean x)) L) : mc_V p l e R s m args below meth c Q D cl b cA md tab nL n0 dn pc ls (.int x :: .int i :: .ref a :: r) n M L := by
  intro h0 hf H locs lsC hP hz hS hl
  have he : (mc_wd b cA md tab n M L)[a]? = some (b + a, .inl (cA 3, len, .inl (M a))) := mc_wd_in hn ha
  refine W.zast hx hb (hP a _ he) ((hK.2 3 _ rfl).1 len (fun j => .int (M a j))) (fun q => by cases q) (by show ¬ (i < 0 ∨ (arrV _ _ _).slots.size ≤ _); rw [arrV_size]; exact hin) rfl rfl hdg fun H1 e1 z oq => ?_
  obtain ⟨h1, h2⟩ := mv_ast (x := vp_nar .boolean x) ha (by decide) hn hP hS e1 z oq
  exact kk h0 hf H1 _ lsC h1 (fun h => by rw [z]; exact hz h) h2 hl
theorem mv_last (hx : p.tables.exec = Jvm.exec) (hb : c.code = cc) (hK : va_K D cl (mc_ty cA) s) {a len : Nat} {i : Int32} {x : Int64} (ha : tab[a]? = some (.inl (1, len))) (hn : a < n) (hin : vp_in i len) (hdg : decode cc pc = .ok (.lastore, 1)) (kk : mc_V p l e R s m args below meth c Q D cl b cA md tab nL n0 dn (pc + 1) ls r n M (mc_putL L a i.toNatClampNeg x)) : mc_V p l e R s m args below meth c Q D cl b cA md tab nL n0 dn pc ls (.long x :: .int i :: .ref a :: r) n M L := by
  intro h0 hf H locs lsC hP hz hS hl
  have he : (mc_wd b cA md tab n M L)[a]? = some (b + a, .inl (cA 1, len, .inr (.inl (L a)))) := mc_wd_in hn ha
  have hD : va_D (mc_A md b tab.length) (mc_wd b cA md tab n M L) := mc_wd_D
  refine W.last hx hb (hP a _ he) ((hK.2 1 _ rfl).1 len (fun j => .long (L a j))) (fun q => by cases q) (by show ¬ (i < 0 ∨ (arrV _ _ _).slots.size ≤ _); rw [arrV_size]; exact hin) rfl rfl hdg fun H1 e1 z oq => ?_
  have hat : va_at D cl (b + a, .inl (cA 1, len, .inr (.inl (vp_updL (L a) i.toNatClampNeg x)))) H1 := by
    show H1[b + a]? = some (vp_cell _ _)
    rw [e1]
    rw [vp_cell_l, vp_cell_l, arrV_store]
    congr 2
    funext q
    by_cases hq : q = i.toNatClampNeg
    · subst hq
      simp [updV, vp_updL]
    · simp [updV, vp_updL, hq]
  have h := hP.set hD he hat oq
  rw [mc_set_arrL hn ha] at h
  exact kk h0 hf H1 _ lsC h (fun h => by rw [z]; exact hz h) (hS.put z oq (hD.2 a _ he)) hl
end MVS
end
section
theorem mc_sl_mono : ∀ (n : Nat) (tab : List mc_D) (k : Nat), mc_sl tab n ≤ mc_sl tab (n + k)
  | 0, tab, k => by
    have : mc_sl tab 0 = 0 := by cases tab <;> rfl
    rw [this]
    exact Nat.zero_le _
  | n + 1, [], k => by
    rw [show n + 1 + k = (n + k) + 1 by omega]
    show 6 + mc_sl [] n ≤ 6 + mc_sl [] (n + k)
    exact Nat.add_le_add_left (mc_sl_mono n [] k) _
  | n + 1, d :: t, k => by
    rw [show n + 1 + k = (n + k) + 1 by omega]
    show mc_sz d + mc_sl t n ≤ mc_sz d + mc_sl t (n + k)
    exact Nat.add_le_add_left (mc_sl_mono n t k) _
theorem mc_sl_le {tab : List mc_D} {n n' : Nat} (h : n ≤ n') : mc_sl tab n ≤ mc_sl tab n' := by
  have := mc_sl_mono n tab (n' - n)
  rwa [show n + (n' - n) = n' by omega] at this
theorem mc_sl_next : ∀ (n : Nat) (tab : List mc_D) (d : mc_D), tab[n]? = some d → mc_sl tab (n + 1) = mc_sl tab n + mc_sz d
  | n, [], d, h => by simp at h
  | 0, x :: t, d, h => by
    have : x = d := by simpa using h
    subst this
    show mc_sz x + mc_sl t 0 = 0 + mc_sz x
    have : mc_sl t 0 = 0 := by cases t <;> rfl
    omega
  | n + 1, x :: t, d, h => by
    show mc_sz x + mc_sl t (n + 1) = mc_sz x + mc_sl t n + mc_sz d
    rw [mc_sl_next n t d (by simpa using h)]
    omega
/-- a thrown object: its class -/
def mc_ec (exn : Nat → String) (s t : State) (a k : Nat) : Prop := ∃ ce : Cell, t.heap[a]? = some ce ∧ s.vm.findClass (exn k) = some ce.cls ∧ ce.vm.isStatics = false
/-- a method's end -/
def mc_Q (below : List Frame) (s : State) (D : va_G) (cl : List vw_C) (b : Nat) (cA : Nat → ClassId) (md : Bool) (tab : List mc_D) (n0 dn : Nat) (exn : Nat → String) (Qr : Option Value → mc_M → mc_L → Prop) (Qt : Nat → mc_M → mc_L → Prop) : State → Prop := fun t =>
  ∃ o, t.status = .running ∧ Ended t below o ∧ s.WarmedH t.vm ∧ va_F (mc_A md b tab.length) s t ∧ (∃ Lc, s.sameButNew ({ t with vm := s.vm } : State) Lc dn (mc_sl tab (n0 + dn) - mc_sl tab n0) ∧ ∀ q ∈ Lc, mc_A md b tab.length q.base) ∧
  ∃ M L, va_P D cl (mc_wd b cA md tab (n0 + dn) M L) t.heap ∧ (md = false → t.heap.size = b + (n0 + dn)) ∧
    ((∃ rv : Option Value, o = .returned (rv.map (mc_ga b)) ∧ Qr rv M L) ∨ (∃ a k, o = .threw a ∧ Qt k M L ∧ mc_ec exn s t a k))
section MVE
variable {p : Program} {l : Launch} {e : Env} {R : Room} {s : State} {m : MethodId} {args : Array Value} {below : List Frame} {meth : Method} {c : Code} {Q : State → Prop}
variable {D : va_G} {cl : List vw_C} {b : Nat} {cA : Nat → ClassId} {md : Bool} {tab : List mc_D} {nL n0 dn : Nat}
variable {cc : ByteArray} {pc : Nat} {ls : List (Option Value)} {st r : List Value} {n : Nat} {M : mc_M} {L : mc_L}
theorem mw_mono {H : Heap} {locs : List Loc} {cells slots : Nat} {Q' : State → Prop} {g : JFrame} (h : ∀ t, Q t → Q' t) (k : W p l e R s m args below meth c H locs cells slots Q g) : W p l e R s m args below meth c H locs cells slots Q' g := fun T hT X => by
  obtain ⟨t, a, q⟩ := k T hT X
  exact ⟨t, a, h t q⟩
variable {exn : Nat → String} {Qr : Option Value → mc_M → mc_L → Prop} {Qt : Nat → mc_M → mc_L → Prop} {ret : Option FieldType}
theorem mc_en_e {P : Prop} (h : mc_en md n n0 dn P) (hf : md = true → tab.length ≤ n) (h0 : n0 ≤ n) : n ≤ n0 + dn ∧ mc_wd b cA md tab n M L = mc_wd b cA md tab (n0 + dn) M L ∧ (md = false → n = n0 + dn) ∧ P := by
  unfold mc_en at h
  cases md with
  | true => exact ⟨h.1, mc_wd_full (hf rfl) (Nat.le_trans (hf rfl) h.1), fun z => (by cases z), h.2⟩
  | false => exact ⟨Nat.le_of_eq h.1, by rw [h.1], fun _ => h.1, h.2⟩
theorem mc_ri_e {x : Int32} {P : Prop} (h : mc_ri ret x P) : ∃ ty, ret = some ty ∧ narrow ty (.int x) = .int x ∧ P := by
  unfold mc_ri at h
  split at h
  · exact ⟨.int, rfl, vp_nar_int x, h⟩
  · refine ⟨.boolean, rfl, ?_, h.2⟩
    rcases h.1 with rfl | rfl <;> rfl
  · exact h.elim
theorem mv_iret (hx : p.tables.exec = Jvm.exec) (hb : c.code = cc) (hret : meth.sig.returnType = ret) (hlk : meth.locks = false) {x : Int32} (hdg : decode cc pc = .ok (.ireturn, 1))
    (h : mc_ri ret x (mc_en md n n0 dn (Qr (some (.int x)) M L))) : mc_V p l e R s m args below meth c (mc_Q below s D cl b cA md tab n0 dn exn Qr Qt) D cl b cA md tab nL n0 dn pc ls [.int x] n M L := by
  obtain ⟨ty, hty, hnar, h⟩ := mc_ri_e h
  intro h0 hf H locs lsC hP hz hS hl
  obtain ⟨e1, e2, e3, hq⟩ := mc_en_e (b := b) (cA := cA) (tab := tab) (M := M) (L := L) h hf h0.1
  refine W.widen (k := dn) (n := mc_sl tab (n0 + dn) - mc_sl tab n0) (by omega) (Nat.sub_le_sub_right (mc_sl_le e1) _) ?_
  refine mw_mono ?_ (W.zret (Qc := fun _ _ o t => o = .returned (some (.int x)) ∧ t.heap = H ∧ s.WarmedH t.vm) (free := mc_A md b tab.length) hx hb (by rw [hret, hty]) hnar (fun t ht hW => ⟨rfl, ht, hW⟩) hS.2.2 hdg hlk)
  rintro t ⟨o, h1, h2, ⟨h3, h4, h5⟩, Lc, ⟨-, -, h6⟩, h7⟩
  exact ⟨o, h1, h2, h5, hS.F h4, ⟨Lc, h6, h7⟩, M, L, by rw [h4, ← e2]; exact hP, fun z => by rw [h4, ← e3 z]; exact hz z, Or.inl ⟨some (.int x), h3, hq⟩⟩
theorem mv_vret (hx : p.tables.exec = Jvm.exec) (hb : c.code = cc) (hret : meth.sig.returnType = none) (hlk : meth.locks = false) (hdg : decode cc pc = .ok (.return_, 1))
    (h : mc_en md n n0 dn (Qr none M L)) : mc_V p l e R s m args below meth c (mc_Q below s D cl b cA md tab n0 dn exn Qr Qt) D cl b cA md tab nL n0 dn pc ls [] n M L := by
  intro h0 hf H locs lsC hP hz hS hl
  obtain ⟨e1, e2, e3, hq⟩ := mc_en_e (b := b) (cA := cA) (tab := tab) (M := M) (L := L) h hf h0.1
  refine W.widen (k := dn) (n := mc_sl tab (n0 + dn) - mc_sl tab n0) (by omega) (Nat.sub_le_sub_right (mc_sl_le e1) _) ?_
  refine mw_mono ?_ (W.vret (Qc := fun _ _ o t => o = .returned none ∧ t.heap = H ∧ s.WarmedH t.vm) (free := mc_A md b tab.length) hx hb hret (fun t ht hW => ⟨rfl, ht, hW⟩) hS.2.2 hdg hlk)
  rintro t ⟨o, h1, h2, ⟨h3, h4, h5⟩, Lc, ⟨-, -, h6⟩, h7⟩
  exact ⟨o, h1, h2, h5, hS.F h4, ⟨Lc, h6, h7⟩, M, L, by rw [h4, ← e2]; exact hP, fun z => by rw [h4, ← e3 z]; exact hz z, Or.inl ⟨none, h3, hq⟩⟩
/-- what a contract says at its end -/
def mc_Qc (D : va_G) (cl : List vw_C) (b : Nat) (cA : Nat → ClassId) (md : Bool) (tab : List mc_D) (n : Nat) (Qr : Option Value → mc_M → mc_L → Prop) : Array Value → State → Outcome → State → Prop := fun _ st oc t =>
  (∃ (rv : Option Value) (M : mc_M) (L : mc_L), oc = .returned (rv.map (mc_ga b)) ∧ Qr rv M L ∧ va_P D cl (mc_wd b cA md tab n M L) t.heap ∧ (md = false → t.heap.size = b + n)) ∧ va_F (mc_A md b tab.length) st t
/-- behind a call -/
theorem mv_call {dn' : Nat} {st0 : List Value} {a : Array Value} (h1 : n + dn' ≤ n0 + dn)
    (hr : ∀ (H : Heap) (locs : List Loc) (lsC : Array Slot), va_P D cl (mc_wd b cA md tab n M L) H → (md = false → H.size = b + n) → va_S (mc_A md b tab.length) s.heap H locs → lsC.size = nL → va_Run p l e R s m args below meth c H locs (n - n0) (mc_sl tab n - mc_sl tab n0) dn' (mc_sl tab (n + dn') - mc_sl tab n) (F0 m pc lsC (st0.map (mc_ga b))) (r.map (mc_ga b)) (mc_Qc D cl b cA md tab (n + dn') Qr a) (mc_A md b tab.length))
    (kk : ∀ rv M' L', Qr rv M' L' → mc_V p l e R s m args below meth c Q D cl b cA md tab nL n0 dn (pc + 3) ls (rv.toList ++ r) (n + dn') M' L') : mc_V p l e R s m args below meth c Q D cl b cA md tab nL n0 dn pc ls st0 n M L := by
  intro h0 hf H locs lsC hP hz hS hl T hT X
  obtain ⟨v, st₀, t, T', Lc, e0, X', hL, e1, e2, ⟨⟨rv, M', L', hv, hq, hP', hz'⟩, hz2, hk2⟩, go⟩ := hr H locs lsC hP hz hS hl.1 T hT X
  have hv' : v = rv.map (mc_ga b) := Outcome.returned.inj hv
  subst hv'
  rw [e0] at hz2 hk2
  have c1 : n - n0 + dn' = n + dn' - n0 := by omega
  have c2 : mc_sl tab n - mc_sl tab n0 + (mc_sl tab (n + dn') - mc_sl tab n) = mc_sl tab (n + dn') - mc_sl tab n0 := by
    have h2 := mc_sl_le (tab := tab) h0.1
    have h3 := mc_sl_mono n tab dn'
    omega
  rw [c1, c2] at X'
  obtain ⟨t2, a1, b1⟩ := kk rv M' L' hq ⟨by omega, h1⟩ (fun z => Nat.le_trans (hf z) (Nat.le_add_right _ _)) T'.heap (locs ++ Lc) lsC (by rw [e1]; exact hP') (fun z => by rw [e1]; exact hz' z)
    ⟨Nat.le_trans hS.1 (by rw [e1]; exact hz2), fun q g1 g2 => by rw [e1, hk2 q (Nat.lt_of_lt_of_le g1 hS.1) g2]; exact hS.2.1 q g1 g2, fun q hq => by
      rcases List.mem_append.mp hq with h | h
      · exact hS.2.2 q h
      · exact hL q h⟩ hl T' rfl X'
  refine ⟨t2, go t2 ?_, b1⟩
  have e4 : ((rv.toList ++ r).map (mc_ga b)) = (rv.map (mc_ga b)).toList ++ r.map (mc_ga b) := by
    cases rv <;> simp
  rw [e4] at a1
  exact a1
end MVE
end
section
/-- a row of a method's table is right: its length, its target, its constant -/
def mc_tt (t : Nat) : FieldType := match t with
  | 0 => .int
  | 1 => .long
  | 2 => .char
  | _ => .boolean
def mc_ok (nL pc : Nat) (x : Instr) (len tgt : Nat) (v : Int32) : Bool := match x with
  | .aload _ => len == 2
  | .iload _ => len == 2
  | .lload _ => len == 2
  | .istore i => len == 2 && decide (i < nL)
  | .astore i => len == 2 && decide (i < nL)
  | .lstore i => len == 2 && decide (i + 1 < nL)
  | .istore_n i => len == 1 && decide (i.val < nL)
  | .astore_n i => len == 1 && decide (i.val < nL)
  | .lstore_n i => len == 1 && decide (i.val + 1 < nL)
  | .iinc i z => len == 3 && decide (i < nL) && decide (Int32.ofInt z = v)
  | .iconst z => len == 1 && decide (Int32.ofInt z = v)
  | .bipush z => len == 2 && decide ((Int8.ofInt z).toInt32 = v)
  | .sipush z => len == 3 && decide ((Int16.ofInt z).toInt32 = v)
  | .ldc _ => len == 2
  | .ldc2_w _ => len == 3
  | .ifCond _ off => len == 3 && decide ((pc : Int) + off = (tgt : Int))
  | .if_icmp _ off => len == 3 && decide ((pc : Int) + off = (tgt : Int))
  | .goto off => len == 3 && decide ((pc : Int) + off = (tgt : Int))
  | .tableswitch .. => true
  | .lookupswitch .. => true
  | .getfield _ => len == 3
  | .putfield _ => len == 3
  | .invokevirtual _ => len == 3
  | .invokestatic _ => len == 3
  | .invokespecial _ => len == 3
  | .new _ => len == 3
  | .newarray a => len == 2 && decide (tgt < 4) && decide (newarray.typeOf a = mc_tt tgt)
  | _ => len == 1
/-- a switch's row is right -/
def mc_swT (pc : Nat) (cs : List (Int32 × Nat)) (d : Nat) (dflt lo hi : Int) (offs : Array Int) : Bool :=
  decide ((pc : Int) + dflt = (d : Int)) && decide (hi = lo + cs.length - 1) && (List.range cs.length).all (fun k => match cs[k]?, offs[k]? with
    | some (v, t), some off => decide (v.toInt = lo + k) && decide ((pc : Int) + off = (t : Int))
    | _, _ => false)
theorem mc_fi_at {x : Int32} {d : Nat} : ∀ (cs : List (Int32 × Nat)) (lo : Int) (_ : ∀ (k : Nat) (v : Int32) (t : Nat), cs[k]? = some (v, t) → v.toInt = lo + (k : Int)), (∀ (k t : Nat), cs[k]? = some (x, t) → mc_fi x cs d = t) ∧ ((∀ (k : Nat) (v : Int32) (t : Nat), cs[k]? = some (v, t) → x ≠ v) → mc_fi x cs d = d)
  | [], lo, h => ⟨fun k t hk => by simp at hk, fun _ => rfl⟩
  | (v, t) :: r, lo, h => by
    have hr : ∀ (k : Nat) (v : Int32) (t : Nat), r[k]? = some (v, t) → v.toInt = (lo + 1) + (k : Int) := fun k v' t' hk => by
      have := h (k + 1) v' t' (by simpa using hk)
      omega
    obtain ⟨i1, i2⟩ := mc_fi_at (x := x) (d := d) r (lo + 1) hr
    refine ⟨fun k t' hk => ?_, fun hne => ?_⟩
    · cases k with
      | zero =>
        have : (v, t) = (x, t') := by simpa using hk
        cases this
        simp [mc_fi]
      | succ k =>
        have hk' : r[k]? = some (x, t') := by simpa using hk
        have e1 := hr k x t' hk'
        have e2 := h 0 v t (by simp)
        have hv : ¬ x = v := fun z => by
          rw [z] at e1
          omega
        unfold mc_fi
        rw [if_neg hv]
        exact i1 k t' hk'
    · unfold mc_fi
      rw [if_neg (hne 0 v t (by simp))]
      exact i2 (fun k v' t' hk => hne (k + 1) v' t' (by simpa using hk))
theorem mc_sw_mono {x : Int32} {d : Nat} {k k' : Nat → Prop} (hk : ∀ t, k t → k' t) : ∀ {cs : List (Int32 × Nat)}, mc_sw x cs d k → mc_sw x cs d k'
  | [], h => hk _ h
  | (_, _) :: _, h => ⟨fun z => hk _ (h.1 z), fun z => mc_sw_mono hk (h.2 z)⟩
def mc_swL (pc : Nat) (d : Nat) (dflt : Int) : List (Int32 × Nat) → List (Int × Int) → Bool
  | [], [] => decide ((pc : Int) + dflt = (d : Int))
  | (v, t) :: cs, (a, o) :: ps => decide (v.toInt = a) && decide ((pc : Int) + o = (t : Int)) && mc_swL pc d dflt cs ps
  | _, _ => false
theorem mc_swL_e {pc d : Nat} {dflt : Int} {x : Int32} : ∀ (cs : List (Int32 × Nat)) (ps : List (Int × Int)), mc_swL pc d dflt cs ps = true → (pc : Int) + Op.lookupswitch.offset ps dflt x.toInt = (mc_fi x cs d : Int)
  | [], [], h => by
    simp only [mc_swL, decide_eq_true_eq] at h
    exact h
  | (v, t) :: cs, (a, o) :: ps, h => by
    simp only [mc_swL, Bool.and_eq_true, decide_eq_true_eq] at h
    obtain ⟨⟨h1, h2⟩, h3⟩ := h
    unfold mc_fi
    by_cases hv : x = v
    · subst hv
      rw [if_pos rfl, Op.lookupswitch.offset_cons, if_pos h1.symm]
      exact h2
    · rw [if_neg hv, lv_osw hv h1]
      exact mc_swL_e cs ps h3
  | [], _ :: _, h => by simp [mc_swL] at h
  | _ :: _, [], h => by simp [mc_swL] at h
section MVT
variable {p : Program} {l : Launch} {e : Env} {R : Room} {s : State} {m : MethodId} {args : Array Value} {below : List Frame} {meth : Method} {c : Code} {Q : State → Prop}
variable {D : va_G} {cl : List vw_C} {b : Nat} {cA : Nat → ClassId} {md : Bool} {tab : List mc_D} {nL n0 dn : Nat}
variable {cc : ByteArray} {pc : Nat} {ls : List (Option Value)} {st r : List Value} {n : Nat} {M : mc_M} {L : mc_L}
theorem mv_tsw (hx : p.tables.exec = Jvm.exec) (hb : c.code = cc) {cs : List (Int32 × Nat)} {d len : Nat} {dflt lo hi : Int} {offs : Array Int} {x : Int32} (hdg : decode cc pc = .ok (.tableswitch dflt lo hi offs, len)) (hw : mc_swT pc cs d dflt lo hi offs = true) (k : mc_sw x cs d fun t => mc_V p l e R s m args below meth c Q D cl b cA md tab nL n0 dn t ls r n M L) : mc_V p l e R s m args below meth c Q D cl b cA md tab nL n0 dn pc ls (.int x :: r) n M L := by
  have hk := mc_sw_e k
  unfold mc_swT at hw
  simp only [Bool.and_eq_true, decide_eq_true_eq, List.all_eq_true, List.mem_range] at hw
  obtain ⟨⟨w1, w2⟩, w3⟩ := hw
  have at' : ∀ (j : Nat) (v : Int32) (t : Nat), cs[j]? = some (v, t) → ∃ off, offs[j]? = some off ∧ v.toInt = lo + (j : Int) ∧ (pc : Int) + off = (t : Int) := by
    intro j v t hj
    have hjl : j < cs.length := (List.getElem?_eq_some_iff.mp hj).1
    have h3 := w3 j hjl
    rw [hj] at h3
    cases ho : offs[j]? with
    | none => rw [ho] at h3; simp at h3
    | some off =>
      rw [ho] at h3
      simp only [Bool.and_eq_true, decide_eq_true_eq] at h3
      exact ⟨off, rfl, h3.1, h3.2⟩
  obtain ⟨i1, i2⟩ := mc_fi_at (x := x) (d := d) cs lo (fun j v t hj => by obtain ⟨_, _, h, _⟩ := at' j v t hj; exact h)
  by_cases hr : x.toInt < lo ∨ hi < x.toInt
  · have e : mc_fi x cs d = d := i2 (fun j v t hj z => by
      obtain ⟨_, _, h, _⟩ := at' j v t hj
      have hjl : j < cs.length := (List.getElem?_eq_some_iff.mp hj).1
      rw [← z] at h
      omega)
    rw [e] at hk
    exact mv_go (fun H locs lsC _ _ _ kk => lv_tableOut hx hb hdg hr w1 kk) hk
  · have hjl : (x.toInt - lo).toNat < cs.length := by omega
    obtain ⟨⟨v, t⟩, hj⟩ : ∃ q, cs[(x.toInt - lo).toNat]? = some q := ⟨_, List.getElem?_eq_getElem hjl⟩
    obtain ⟨off, ho, h1, h2⟩ := at' _ v t hj
    have hv : v = x := Int32.toInt_inj.mp (by rw [h1]; omega)
    subst hv
    rw [i1 _ t hj] at hk
    exact mv_go (fun H locs lsC _ _ _ kk => lv_tableIn hx hb hdg (by omega) (by omega) ho h2 kk) hk
theorem mv_lsw (hx : p.tables.exec = Jvm.exec) (hb : c.code = cc) {cs : List (Int32 × Nat)} {d len : Nat} {dflt : Int} {ps : Array (Int × Int)} {x : Int32} (hdg : decode cc pc = .ok (.lookupswitch dflt ps, len)) (hp : (ps.toList.zip (ps.toList.drop 1)).all (fun (a, next) => a.1 < next.1) = true) (hw : mc_swL pc d dflt cs ps.toList = true) (k : mc_sw x cs d fun t => mc_V p l e R s m args below meth c Q D cl b cA md tab nL n0 dn t ls r n M L) : mc_V p l e R s m args below meth c Q D cl b cA md tab nL n0 dn pc ls (.int x :: r) n M L :=
  mv_go (fun H locs lsC _ _ _ kk => lv_lookup hx hb hdg hp rfl (mc_swL_e cs ps.toList hw) kk) (mc_sw_e k)
end MVT
/-- the world's cells are of their classes' shapes -/
def mc_fok (fd : Nat) (ty : FieldType) : Bool := match fd, ty with
  | 0, .int => true
  | 2, .boolean => true
  | 1, .object _ => true
  | _ + 3, .object _ => true
  | _ + 3, .array _ => true
  | _, _ => false
def mc_tok (cl : List vw_C) (tab : List mc_D) : Bool := tab.all fun d => match d with
  | .inl _ => true
  | .inr (ci, fds) => match cl[ci]? with
    | some (_, T, N) => fds.length == N && (List.range N).all (fun k => match fds[k]?, parseFieldDescriptor (T k).2.2.1 with
      | some fd, some ty => mc_fok fd ty
      | _, _ => false)
    | none => false
def mc_t0 (T : u_T) (k : Nat) : FieldType := (parseFieldDescriptor (T k).2.2.1).getD .int
theorem mc_tok_e {cl : List vw_C} {tab : List mc_D} (h : mc_tok cl tab = true) {a ci : Nat} {fds : List Nat} (ha : tab[a]? = some (.inr (ci, fds))) {C : String} {T : u_T} {N : Nat} (hc : cl[ci]? = some (C, T, N)) :
    fds.length = N ∧ (∀ k, k < N → parseFieldDescriptor (T k).2.2.1 = some (mc_t0 T k)) ∧ ∀ k fd, fds[k]? = some fd → mc_fok fd (mc_t0 T k) = true := by
  have h1 := List.all_eq_true.mp h _ (List.mem_of_getElem? ha)
  simp only [hc, Bool.and_eq_true, beq_iff_eq, List.all_eq_true, List.mem_range] at h1
  obtain ⟨h2, h3⟩ := h1
  have h4 : ∀ k, k < N → ∃ fd, fds[k]? = some fd ∧ parseFieldDescriptor (T k).2.2.1 = some (mc_t0 T k) ∧ mc_fok fd (mc_t0 T k) = true := by
    intro k hk
    have h5 := h3 k hk
    cases hf : fds[k]? with
    | none => rw [hf] at h5; simp at h5
    | some fd =>
      cases hp : parseFieldDescriptor (T k).2.2.1 with
      | none => rw [hf, hp] at h5; simp at h5
      | some ty =>
        rw [hf, hp] at h5
        have e : mc_t0 T k = ty := by unfold mc_t0; rw [hp]; rfl
        exact ⟨fd, rfl, by rw [e], by rw [e]; exact h5⟩
  refine ⟨h2, fun k hk => ?_, fun k fd hk => ?_⟩
  · obtain ⟨_, _, h6, _⟩ := h4 k hk
    exact h6
  · have hkN : k < N := by rw [← h2]; exact (List.getElem?_eq_some_iff.mp hk).1
    obtain ⟨fd', h6, _, h7⟩ := h4 k hkN
    rw [hk] at h6
    cases h6
    exact h7
theorem mc_fok_int {fd : Nat} {ty : FieldType} {b : Nat} {z : Int32} (h : mc_fok fd ty = true) (hz : fd = 0 ∨ (fd = 2 ∧ (z = 0 ∨ z = 1))) : narrow ty (mc_ga b (.int z)) = mc_ga b (.int z) ∧ fits ty (mc_ga b (.int z)) = true := by
  rcases hz with rfl | ⟨rfl, hz⟩
  · cases ty <;> first | exact ⟨vp_nar_int z, rfl⟩ | (simp [mc_fok] at h)
  · cases ty <;> first | (rcases hz with rfl | rfl <;> exact ⟨rfl, rfl⟩) | (simp [mc_fok] at h)
theorem mc_fok_ref {fd : Nat} {ty : FieldType} {b r : Nat} (h : mc_fok fd ty = true) (h0 : fd ≠ 0) (h2 : fd ≠ 2) : narrow ty (mc_ga b (.ref r)) = mc_ga b (.ref r) ∧ fits ty (mc_ga b (.ref r)) = true := by
  match fd, h0, h2, h with
  | 1, _, _, h => cases ty <;> first | exact ⟨rfl, rfl⟩ | (simp [mc_fok] at h)
  | k + 3, _, _, h => cases ty <;> first | exact ⟨rfl, rfl⟩ | (simp [mc_fok] at h)
section MVM
variable {p : Program} {l : Launch} {e : Env} {R : Room} {s : State} {m : MethodId} {args : Array Value} {below : List Frame} {meth : Method} {c : Code}
variable {D : va_G} {cl : List vw_C} {b : Nat} {cA : Nat → ClassId} {md : Bool} {tab : List mc_D} {nL n0 dn : Nat}
variable {cc : ByteArray} {exn : Nat → String} {Qr : Option Value → mc_M → mc_L → Prop} {Qt : Nat → mc_M → mc_L → Prop} {ret : Option FieldType} {sh : mc_SH} {own : String} {Ts : List Cond}
theorem mc_sound (hx : p.tables.exec = Jvm.exec) (hb : c.code = cc) (hown : s.vm.findClass own = some m.cls) (hts : ∀ w ∈ Ts, w.before args s = true) (hK : va_K D cl (mc_ty cA) s) (hret : meth.sig.returnType = ret) (hlk : meth.locks = false) (htk : mc_tok cl tab = true)
    (hcl : ∀ (ci : Nat) (C : String) (T : u_T) (N : Nat), cl[ci]? = some (C, T, N) → (∀ w ∈ u_ws C T N, w ∈ Ts) ∧ ∀ a, a < N → ∀ b, b < N → a ≠ b → (T a).2.1 ≠ (T b).2.1)
    (hfg : ∀ idx ci k : Nat, mc_lk sh.1.1 idx = some (ci, k) → ∃ (C : String) (T : u_T) (N : Nat), cl[ci]? = some (C, T, N) ∧ k < N ∧ mc_lnk own idx (T k) args s)
    (hfp : ∀ idx ci k : Nat, mc_lk sh.1.2 idx = some (ci, k) → ∃ (C : String) (T : u_T) (N : Nat), cl[ci]? = some (C, T, N) ∧ k < N ∧ (((T k).2.2.2 = false ∧ mc_lnk own idx (T k) args s) ∨ ((T k).2.2.2 = true ∧ (T k).1 = own ∧ meth.name = "<init>" ∧ (Cond.fieldLink own idx (T k).1 (T k).2.1 (T k).2.2.1).before args s = true)))
    (hkc : ∀ i w, mc_lk sh.2.2.2.2.1 i = some w → (Cond.constant own i w).before args s = true)
    (hkl : ∀ i w, mc_lk sh.2.2.2.2.2.1 i = some w → (Cond.constantLong own i w).before args s = true)
    {K : mc_K} (hKV : ∀ pc ls st n M L, K pc ls st n M L → mc_V p l e R s m args below meth c (mc_Q below s D cl b cA md tab n0 dn exn Qr Qt) D cl b cA md tab nL n0 dn pc ls st n M L)
    (hcal : ∀ idx kd a dn' F, mc_lk sh.2.1 idx = some (kd, a, dn', F) → ∀ (x : Instr), (kd = 0 ∧ x = .invokevirtual idx) ∨ (kd = 1 ∧ x = .invokestatic idx) ∨ (kd = 2 ∧ x = .invokespecial idx) → ∀ pc ls av r n M L, decode cc pc = .ok (x, 3) → mc_w r ≤ 8 → av.length = a → n + dn' ≤ n0 + dn → F av n M L (fun rv M' L' => K (pc + 3) ls (rv.toList ++ r) (n + dn') M' L') → mc_V p l e R s m args below meth c (mc_Q below s D cl b cA md tab n0 dn exn Qr Qt) D cl b cA md tab nL n0 dn pc ls (av.reverse ++ r) n M L)
    (hnw : ∀ i ci, mc_lk sh.2.2.1 i = some ci → md = false → ∀ (pc : Nat) ls st (n : Nat) M L fds, decode cc pc = .ok (.new i, 3) → tab[n]? = some (.inr (ci, fds)) → n < n0 + dn → K (pc + 3) ls (.ref n :: st) (n + 1) (mc_set M n (fun _ => 0)) L → mc_V p l e R s m args below meth c (mc_Q below s D cl b cA md tab n0 dn exn Qr Qt) D cl b cA md tab nL n0 dn pc ls st n M L)
    (hna : md = false → ∀ a (t len pc : Nat) ls r (n : Nat) M L, decode cc pc = .ok (.newarray a, 2) → t < 4 → newarray.typeOf a = mc_tt t → tab[n]? = some (.inl (t, len)) → n < n0 + dn → K (pc + 2) ls (.ref n :: r) (n + 1) (mc_set M n (fun _ => 0)) (mc_setL L n (fun _ => 0)) → mc_V p l e R s m args below meth c (mc_Q below s D cl b cA md tab n0 dn exn Qr Qt) D cl b cA md tab nL n0 dn pc ls (.int (Int32.ofNat len) :: r) n M L)
    (hex : ∀ i k, mc_lk sh.2.2.2.1 i = some k → md = true → ∀ pc ls n M L, decode cc pc = .ok (.new i, 3) → n < n0 + dn → Qt k M L → mc_V p l e R s m args below meth c (mc_Q below s D cl b cA md tab n0 dn exn Qr Qt) D cl b cA md tab nL n0 dn pc ls [] n M L)
    {x : Instr} {len tgt : Nat} {v : Int32} {pc : Nat} {ls : List (Option Value)} {st : List Value} {n : Nat} {M : mc_M} {L : mc_L} (hdg : decode cc pc = .ok (x, len)) (hok : mc_ok nL pc x len tgt v = true)
    (hsw : ∀ cs d dflt lo hi offs, x = .tableswitch dflt lo hi offs → mc_lk sh.2.2.2.2.2.2 pc = some (cs, d) → mc_swT pc cs d dflt lo hi offs = true)
    (hswL : ∀ cs d dflt ps, x = .lookupswitch dflt ps → mc_lk sh.2.2.2.2.2.2 pc = some (cs, d) → (ps.toList.zip (ps.toList.drop 1)).all (fun (a, next) => a.1 < next.1) = true ∧ mc_swL pc d dflt cs ps.toList = true)
    (h : mc_step md tab n0 dn ret sh Qr Qt K x tgt v pc ls st n M L) : mc_V p l e R s m args below meth c (mc_Q below s D cl b cA md tab n0 dn exn Qr Qt) D cl b cA md tab nL n0 dn pc ls st n M L := by
  cases x with
  | aload i =>
    simp only [mc_ok, beq_iff_eq] at hok
    subst hok
    obtain ⟨a, ha, k⟩ := mc_lr_e h
    exact mv_go (fun H locs lsC _ _ hl kk => lv_aload hx hb hdg (mc_lv_at hl ha) kk) (hKV _ _ _ _ _ _ k)
  | aload_n i =>
    simp only [mc_ok, beq_iff_eq] at hok
    subst hok
    obtain ⟨a, ha, k⟩ := mc_lr_e h
    exact mv_go (fun H locs lsC _ _ hl kk => lv_aload_n hx hb hdg rfl (mc_lv_at hl ha) kk) (hKV _ _ _ _ _ _ k)
  | iload i =>
    simp only [mc_ok, beq_iff_eq] at hok
    subst hok
    obtain ⟨a, ha, k⟩ := mc_li_e h
    exact mv_go (fun H locs lsC _ _ hl kk => lv_iload hx hb hdg (mc_lv_at hl ha) kk) (hKV _ _ _ _ _ _ k)
  | iload_n i =>
    simp only [mc_ok, beq_iff_eq] at hok
    subst hok
    obtain ⟨a, ha, k⟩ := mc_li_e h
    exact mv_go (fun H locs lsC _ _ hl kk => lv_iload_n hx hb hdg rfl (mc_lv_at hl ha) kk) (hKV _ _ _ _ _ _ k)
  | lload i =>
    simp only [mc_ok, beq_iff_eq] at hok
    subst hok
    obtain ⟨a, ha, k⟩ := mc_ll_e h
    exact mv_go (fun H locs lsC _ _ hl kk => lv_lload hx hb hdg (mc_lv_at hl ha) kk) (hKV _ _ _ _ _ _ k)
  | lload_n i =>
    simp only [mc_ok, beq_iff_eq] at hok
    subst hok
    obtain ⟨a, ha, k⟩ := mc_ll_e h
    exact mv_go (fun H locs lsC _ _ hl kk => lv_lload_n hx hb hdg rfl (mc_lv_at hl ha) kk) (hKV _ _ _ _ _ _ k)
  | istore i =>
    simp only [mc_ok, Bool.and_eq_true, beq_iff_eq, decide_eq_true_eq] at hok
    obtain ⟨rfl, hi⟩ := hok
    obtain ⟨a, r, rfl, k⟩ := mc_pi_e h
    exact mv_st1 (fun H locs lsC _ _ hl kk => lv_istore hx hb hdg hl hi rfl kk) (hKV _ _ _ _ _ _ k)
  | istore_n i =>
    simp only [mc_ok, Bool.and_eq_true, beq_iff_eq, decide_eq_true_eq] at hok
    obtain ⟨rfl, hi⟩ := hok
    obtain ⟨a, r, rfl, k⟩ := mc_pi_e h
    exact mv_st1 (fun H locs lsC _ _ hl kk => lv_istore_n hx hb hdg rfl hl hi rfl kk) (hKV _ _ _ _ _ _ k)
  | astore i =>
    simp only [mc_ok, Bool.and_eq_true, beq_iff_eq, decide_eq_true_eq] at hok
    obtain ⟨rfl, hi⟩ := hok
    obtain ⟨a, r, rfl, k⟩ := mc_pr_e h
    exact mv_st1 (fun H locs lsC _ _ hl kk => lv_astore hx hb hdg hl hi rfl kk) (hKV _ _ _ _ _ _ k)
  | astore_n i =>
    simp only [mc_ok, Bool.and_eq_true, beq_iff_eq, decide_eq_true_eq] at hok
    obtain ⟨rfl, hi⟩ := hok
    obtain ⟨a, r, rfl, k⟩ := mc_pr_e h
    exact mv_st1 (fun H locs lsC _ _ hl kk => lv_astore_n hx hb hdg rfl hl hi rfl kk) (hKV _ _ _ _ _ _ k)
  | lstore i =>
    simp only [mc_ok, Bool.and_eq_true, beq_iff_eq, decide_eq_true_eq] at hok
    obtain ⟨rfl, hi⟩ := hok
    obtain ⟨a, r, rfl, k⟩ := mc_pl_e h
    exact mv_st2 (fun H locs lsC _ _ hl kk => lv_lstore hx hb hdg hl hi rfl kk) (hKV _ _ _ _ _ _ k)
  | lstore_n i =>
    simp only [mc_ok, Bool.and_eq_true, beq_iff_eq, decide_eq_true_eq] at hok
    obtain ⟨rfl, hi⟩ := hok
    obtain ⟨a, r, rfl, k⟩ := mc_pl_e h
    exact mv_st2 (fun H locs lsC _ _ hl kk => lv_lstore_n hx hb hdg rfl hl hi rfl kk) (hKV _ _ _ _ _ _ k)
  | iinc i z =>
    simp only [mc_ok, Bool.and_eq_true, beq_iff_eq, decide_eq_true_eq] at hok
    obtain ⟨⟨rfl, hi⟩, hv⟩ := hok
    obtain ⟨a, ha, k⟩ := mc_li_e h
    exact mv_iinc hx hb hdg hi ha hv (hKV _ _ _ _ _ _ k)
  | iconst z =>
    simp only [mc_ok, Bool.and_eq_true, beq_iff_eq, decide_eq_true_eq] at hok
    obtain ⟨rfl, hv⟩ := hok
    exact mv_go (fun H locs lsC _ _ hl kk => lv_iconst hx hb hdg hv kk) (hKV _ _ _ _ _ _ h)
  | bipush z =>
    simp only [mc_ok, Bool.and_eq_true, beq_iff_eq, decide_eq_true_eq] at hok
    obtain ⟨rfl, hv⟩ := hok
    exact mv_go (fun H locs lsC _ _ hl kk => lv_bipush hx hb hdg hv kk) (hKV _ _ _ _ _ _ h)
  | sipush z =>
    simp only [mc_ok, Bool.and_eq_true, beq_iff_eq, decide_eq_true_eq] at hok
    obtain ⟨rfl, hv⟩ := hok
    exact mv_go (fun H locs lsC _ _ hl kk => lv_sipush hx hb hdg hv kk) (hKV _ _ _ _ _ _ h)
  | lconst i =>
    simp only [mc_ok, beq_iff_eq] at hok
    subst hok
    match i, hdg, h with
    | 0, hdg, h => exact mv_go (fun H locs lsC _ _ hl kk => lv_lconst (v := 0) hx hb hdg rfl kk) (hKV _ _ _ _ _ _ h)
    | 1, hdg, h => exact mv_go (fun H locs lsC _ _ hl kk => lv_lconst (v := 1) hx hb hdg rfl kk) (hKV _ _ _ _ _ _ h)
  | ldc i =>
    simp only [mc_ok, beq_iff_eq] at hok
    subst hok
    simp only [mc_step] at h
    split at h
    · next w hw => exact mv_go (fun H locs lsC _ _ hl kk => lv_ldc hx hb hown (hkc i w hw) hdg kk) (hKV _ _ _ _ _ _ h)
    · exact h.elim
  | ldc2_w i =>
    simp only [mc_ok, beq_iff_eq] at hok
    subst hok
    simp only [mc_step] at h
    split at h
    · next w hw => exact mv_go (fun H locs lsC _ _ hl kk => lv_ldc2 hx hb hown (hkl i w hw) hdg kk) (hKV _ _ _ _ _ _ h)
    · exact h.elim
  | iadd =>
    simp only [mc_ok, beq_iff_eq] at hok
    subst hok
    obtain ⟨x, y, r, rfl, k⟩ := mc_pii_e h
    exact mv_go (fun H locs lsC _ _ hl kk => lv_iadd hx hb hdg kk) (hKV _ _ _ _ _ _ k)
  | isub =>
    simp only [mc_ok, beq_iff_eq] at hok
    subst hok
    obtain ⟨x, y, r, rfl, k⟩ := mc_pii_e h
    exact mv_go (fun H locs lsC _ _ hl kk => lv_isub hx hb hdg kk) (hKV _ _ _ _ _ _ k)
  | imul =>
    simp only [mc_ok, beq_iff_eq] at hok
    subst hok
    obtain ⟨x, y, r, rfl, k⟩ := mc_pii_e h
    exact mv_go (fun H locs lsC _ _ hl kk => lv_imul hx hb hdg kk) (hKV _ _ _ _ _ _ k)
  | iand =>
    simp only [mc_ok, beq_iff_eq] at hok
    subst hok
    obtain ⟨x, y, r, rfl, k⟩ := mc_pii_e h
    exact mv_go (fun H locs lsC _ _ hl kk => lv_iand hx hb hdg kk) (hKV _ _ _ _ _ _ k)
  | ior =>
    simp only [mc_ok, beq_iff_eq] at hok
    subst hok
    obtain ⟨x, y, r, rfl, k⟩ := mc_pii_e h
    exact mv_go (fun H locs lsC _ _ hl kk => lv_ior hx hb hdg kk) (hKV _ _ _ _ _ _ k)
  | ixor =>
    simp only [mc_ok, beq_iff_eq] at hok
    subst hok
    obtain ⟨x, y, r, rfl, k⟩ := mc_pii_e h
    exact mv_go (fun H locs lsC _ _ hl kk => lv_ixor hx hb hdg kk) (hKV _ _ _ _ _ _ k)
  | ishl =>
    simp only [mc_ok, beq_iff_eq] at hok
    subst hok
    obtain ⟨x, y, r, rfl, k⟩ := mc_pii_e h
    exact mv_go (fun H locs lsC _ _ hl kk => lv_ishl hx hb hdg kk) (hKV _ _ _ _ _ _ k)
  | ishr =>
    simp only [mc_ok, beq_iff_eq] at hok
    subst hok
    obtain ⟨x, y, r, rfl, k⟩ := mc_pii_e h
    exact mv_go (fun H locs lsC _ _ hl kk => lv_ishr hx hb hdg kk) (hKV _ _ _ _ _ _ k)
  | idiv =>
    simp only [mc_ok, beq_iff_eq] at hok
    subst hok
    obtain ⟨x, y, r, rfl, hy, k⟩ := mc_pii_e h
    exact mv_go (fun H locs lsC _ _ hl kk => lv_idiv hx hb hdg hy kk) (hKV _ _ _ _ _ _ k)
  | irem =>
    simp only [mc_ok, beq_iff_eq] at hok
    subst hok
    obtain ⟨x, y, r, rfl, hy, k⟩ := mc_pii_e h
    exact mv_go (fun H locs lsC _ _ hl kk => lv_irem hx hb hdg hy kk) (hKV _ _ _ _ _ _ k)
  | ineg =>
    simp only [mc_ok, beq_iff_eq] at hok
    subst hok
    obtain ⟨x, r, rfl, k⟩ := mc_pi_e h
    exact mv_go (fun H locs lsC _ _ hl kk => lv_ineg hx hb hdg kk) (hKV _ _ _ _ _ _ k)
  | ladd =>
    simp only [mc_ok, beq_iff_eq] at hok
    subst hok
    obtain ⟨x, y, r, rfl, k⟩ := mc_pll_e h
    exact mv_go (fun H locs lsC _ _ hl kk => lv_ladd hx hb hdg kk) (hKV _ _ _ _ _ _ k)
  | lsub =>
    simp only [mc_ok, beq_iff_eq] at hok
    subst hok
    obtain ⟨x, y, r, rfl, k⟩ := mc_pll_e h
    exact mv_go (fun H locs lsC _ _ hl kk => lv_lsub hx hb hdg kk) (hKV _ _ _ _ _ _ k)
  | lmul =>
    simp only [mc_ok, beq_iff_eq] at hok
    subst hok
    obtain ⟨x, y, r, rfl, k⟩ := mc_pll_e h
    exact mv_go (fun H locs lsC _ _ hl kk => lv_lmul hx hb hdg kk) (hKV _ _ _ _ _ _ k)
  | ldiv =>
    simp only [mc_ok, beq_iff_eq] at hok
    subst hok
    obtain ⟨x, y, r, rfl, hy, k⟩ := mc_pll_e h
    exact mv_go (fun H locs lsC _ _ hl kk => lv_ldiv hx hb hdg hy kk) (hKV _ _ _ _ _ _ k)
  | lrem =>
    simp only [mc_ok, beq_iff_eq] at hok
    subst hok
    obtain ⟨x, y, r, rfl, hy, k⟩ := mc_pll_e h
    exact mv_go (fun H locs lsC _ _ hl kk => lv_lrem hx hb hdg hy kk) (hKV _ _ _ _ _ _ k)
  | lneg =>
    simp only [mc_ok, beq_iff_eq] at hok
    subst hok
    obtain ⟨x, r, rfl, k⟩ := mc_pl_e h
    exact mv_go (fun H locs lsC _ _ hl kk => lv_lneg hx hb hdg kk) (hKV _ _ _ _ _ _ k)
  | lcmp =>
    simp only [mc_ok, beq_iff_eq] at hok
    subst hok
    obtain ⟨x, y, r, rfl, k⟩ := mc_pll_e h
    exact mv_go (fun H locs lsC _ _ hl kk => W.lcmp hx hb hdg kk) (hKV _ _ _ _ _ _ k)
  | i2l =>
    simp only [mc_ok, beq_iff_eq] at hok
    subst hok
    obtain ⟨x, r, rfl, k⟩ := mc_pi_e h
    exact mv_go (fun H locs lsC _ _ hl kk => lv_i2l hx hb hdg rfl kk) (hKV _ _ _ _ _ _ k)
  | l2i =>
    simp only [mc_ok, beq_iff_eq] at hok
    subst hok
    obtain ⟨x, r, rfl, k⟩ := mc_pl_e h
    exact mv_go (fun H locs lsC _ _ hl kk => lv_l2i hx hb hdg rfl kk) (hKV _ _ _ _ _ _ k)
  | i2c =>
    simp only [mc_ok, beq_iff_eq] at hok
    subst hok
    obtain ⟨x, r, rfl, k⟩ := mc_pi_e h
    exact mv_go (fun H locs lsC _ _ hl kk => lv_i2c hx hb hdg rfl kk) (hKV _ _ _ _ _ _ k)
  | dup =>
    simp only [mc_ok, beq_iff_eq] at hok
    subst hok
    simp only [mc_step] at h
    split at h
    · exact mv_go (fun H locs lsC _ _ hl kk => lv_dup hx hb hdg rfl kk) (hKV _ _ _ _ _ _ h)
    · exact mv_go (fun H locs lsC _ _ hl kk => lv_dup hx hb hdg rfl kk) (hKV _ _ _ _ _ _ h)
    · exact h.elim
  | dup2 =>
    simp only [mc_ok, beq_iff_eq] at hok
    subst hok
    simp only [mc_step] at h
    split at h
    · exact mv_go (fun H locs lsC _ _ hl kk => lv_dup2_11 hx hb hdg rfl rfl kk) (hKV _ _ _ _ _ _ h)
    · exact mv_go (fun H locs lsC _ _ hl kk => lv_dup2_2 hx hb hdg rfl kk) (hKV _ _ _ _ _ _ h)
    · exact h.elim
  | dup_x1 =>
    simp only [mc_ok, beq_iff_eq] at hok
    subst hok
    simp only [mc_step] at h
    split at h
    · exact mv_go (fun H locs lsC _ _ hl kk => lv_dup_x1 hx hb hdg rfl rfl kk) (hKV _ _ _ _ _ _ h)
    · exact h.elim
  | pop =>
    simp only [mc_ok, beq_iff_eq] at hok
    subst hok
    simp only [mc_step] at h
    split at h
    · exact mv_go (fun H locs lsC _ _ hl kk => lv_pop (va := .int _) hx hb hdg rfl kk) (hKV _ _ _ _ _ _ h)
    · exact mv_go (fun H locs lsC _ _ hl kk => lv_pop (va := .ref _) hx hb hdg rfl kk) (hKV _ _ _ _ _ _ h)
    · exact h.elim
  | ifCond cd off =>
    simp only [mc_ok, Bool.and_eq_true, beq_iff_eq, decide_eq_true_eq] at hok
    obtain ⟨rfl, ht⟩ := hok
    obtain ⟨x, r, rfl, k⟩ := mc_pi_e h
    refine mv_if hx hb hdg ht ?_
    cases cd <;> exact ⟨fun z => hKV _ _ _ _ _ _ (k.1 z), fun z => hKV _ _ _ _ _ _ (k.2 z)⟩
  | if_icmp cd off =>
    simp only [mc_ok, Bool.and_eq_true, beq_iff_eq, decide_eq_true_eq] at hok
    obtain ⟨rfl, ht⟩ := hok
    obtain ⟨x, y, r, rfl, k⟩ := mc_pii_e h
    refine mv_ifi hx hb hdg ht ?_
    cases cd <;> exact ⟨fun z => hKV _ _ _ _ _ _ (k.1 z), fun z => hKV _ _ _ _ _ _ (k.2 z)⟩
  | goto off =>
    simp only [mc_ok, Bool.and_eq_true, beq_iff_eq, decide_eq_true_eq] at hok
    obtain ⟨rfl, ht⟩ := hok
    exact mv_go (fun H locs lsC _ _ hl kk => lv_goto hx hb hdg ht kk) (hKV _ _ _ _ _ _ h)
  | tableswitch dflt lo hi offs =>
    simp only [mc_step] at h
    split at h
    · next cs d hw =>
      obtain ⟨x, r, rfl, k⟩ := mc_pi_e h
      refine mv_tsw hx hb hdg (hsw cs d dflt lo hi offs rfl hw) ?_
      exact mc_sw_mono (fun t z => hKV _ _ _ _ _ _ z) k
    · exact h.elim
  | lookupswitch dflt ps =>
    simp only [mc_step] at h
    split at h
    · next cs d hw =>
      obtain ⟨x, r, rfl, k⟩ := mc_pi_e h
      obtain ⟨w1, w2⟩ := hswL cs d dflt ps rfl hw
      exact mv_lsw hx hb hdg w1 w2 (mc_sw_mono (fun t z => hKV _ _ _ _ _ _ z) k)
    · exact h.elim
  | getfield i =>
    simp only [mc_ok, beq_iff_eq] at hok
    subst hok
    simp only [mc_step] at h
    split at h
    · next ci k hw =>
      obtain ⟨a, r, rfl, h⟩ := mc_pr_e h
      obtain ⟨C, T, N, hc, hk, hlink⟩ := hfg i ci k hw
      intro h0 hf
      obtain ⟨fds, fd, h1, h2, h3, h4⟩ := mc_ob_e h hf
      exact mv_get hx hb hts hown hK (hcl ci C T N hc).1 hc hk hlink h1 h2 hdg h3 (hKV _ _ _ _ _ _ (mc_gf_e (kk := fun w => K (pc + 3) ls (w :: r) n M L) h4)) h0 hf
    · exact h.elim
  | putfield i =>
    simp only [mc_ok, beq_iff_eq] at hok
    subst hok
    simp only [mc_step] at h
    split at h
    · next ci k hw =>
      obtain ⟨w, a, r, rfl, h⟩ := mc_pvr_e h
      obtain ⟨C, T, N, hc, hk, hlink⟩ := hfp i ci k hw
      intro h0 hf
      obtain ⟨fds, fd, h1, h2, h3, h4⟩ := mc_ob_e h hf
      obtain ⟨t1, t2, t3⟩ := mc_tok_e htk h1 hc
      obtain ⟨x, k1, k2, k3⟩ := mc_pf_e (md := md) h4
      have t4 := t3 k fd h2
      have hnf : narrow (mc_t0 T k) (mc_ga b w) = mc_ga b w ∧ fits (mc_t0 T k) (mc_ga b w) = true := by
        rcases k3 with ⟨z, rfl, hz⟩ | ⟨r', rfl, z0, z2⟩
        · exact mc_fok_int t4 hz
        · exact mc_fok_ref t4 z0 z2
      exact mv_put hx hb hts hown hK (hcl ci C T N hc).1 hc hk (mc_t0 T) t2 (hcl ci C T N hc).2 hlink h1 h2 hdg h3 k2 hnf.1 hnf.2 (hKV _ _ _ _ _ _ k1) h0 hf
    · exact h.elim
  | iaload =>
    simp only [mc_ok, beq_iff_eq] at hok
    subst hok
    obtain ⟨i, a, r, rfl, h⟩ := mc_pir_e h
    intro h0 hf
    obtain ⟨len, h1, h2, h3, h4⟩ := mc_ar_e h hf
    exact mv_iald hx hb hK h1 h2 h3 hdg (hKV _ _ _ _ _ _ h4) h0 hf
  | caload =>
    simp only [mc_ok, beq_iff_eq] at hok
    subst hok
    obtain ⟨i, a, r, rfl, h⟩ := mc_pir_e h
    intro h0 hf
    obtain ⟨len, h1, h2, h3, h4⟩ := mc_ar_e h hf
    exact mv_cald hx hb hK h1 h2 h3 hdg (hKV _ _ _ _ _ _ h4) h0 hf
  | baload =>
    simp only [mc_ok, beq_iff_eq] at hok
    subst hok
    obtain ⟨i, a, r, rfl, h⟩ := mc_pir_e h
    intro h0 hf
    obtain ⟨len, h1, h2, h3, h4⟩ := mc_ar_e h hf
    exact mv_zald hx hb hK h1 h2 h3 hdg (hKV _ _ _ _ _ _ h4) h0 hf
  | laload =>
    simp only [mc_ok, beq_iff_eq] at hok
    subst hok
    obtain ⟨i, a, r, rfl, h⟩ := mc_pir_e h
    intro h0 hf
    obtain ⟨len, h1, h2, h3, h4⟩ := mc_ar_e h hf
    exact mv_lald hx hb hK h1 h2 h3 hdg (hKV _ _ _ _ _ _ h4) h0 hf
  | iastore =>
    simp only [mc_ok, beq_iff_eq] at hok
    subst hok
    obtain ⟨x, i, a, r, rfl, h⟩ := mc_piir_e h
    intro h0 hf
    obtain ⟨len, h1, h2, h3, h4⟩ := mc_ar_e h hf
    exact mv_iast hx hb hK h1 h2 h3 hdg (hKV _ _ _ _ _ _ h4) h0 hf
  | castore =>
    simp only [mc_ok, beq_iff_eq] at hok
    subst hok
    obtain ⟨x, i, a, r, rfl, h⟩ := mc_piir_e h
    intro h0 hf
    obtain ⟨len, h1, h2, h3, h4⟩ := mc_ar_e h hf
    exact mv_cast hx hb hK h1 h2 h3 hdg (hKV _ _ _ _ _ _ h4) h0 hf
  | bastore =>
    simp only [mc_ok, beq_iff_eq] at hok
    subst hok
    obtain ⟨x, i, a, r, rfl, h⟩ := mc_piir_e h
    intro h0 hf
    obtain ⟨len, h1, h2, h3, h4⟩ := mc_ar_e h hf
    exact mv_zast hx hb hK h1 h2 h3 hdg (hKV _ _ _ _ _ _ h4) h0 hf
  | lastore =>
    simp only [mc_ok, beq_iff_eq] at hok
    subst hok
    obtain ⟨x, i, a, r, rfl, h⟩ := mc_plir_e h
    intro h0 hf
    obtain ⟨len, h1, h2, h3, h4⟩ := mc_ar_e h hf
    exact mv_last hx hb hK h1 h2 h3 hdg (hKV _ _ _ _ _ _ h4) h0 hf
  | invokevirtual i =>
    simp only [mc_ok, beq_iff_eq] at hok
    subst hok
    intro h0
    obtain ⟨a, dn', F, av, r, h1, rfl, h3, h4, h5, h6⟩ := mc_call_e h h0.2
    exact hcal i 0 a dn' F h1 _ (Or.inl ⟨rfl, rfl⟩) pc ls av r n M L hdg h4 h3 h5 h6 h0
  | invokestatic i =>
    simp only [mc_ok, beq_iff_eq] at hok
    subst hok
    intro h0
    obtain ⟨a, dn', F, av, r, h1, rfl, h3, h4, h5, h6⟩ := mc_call_e h h0.2
    exact hcal i 1 a dn' F h1 _ (Or.inr (Or.inl ⟨rfl, rfl⟩)) pc ls av r n M L hdg h4 h3 h5 h6 h0
  | invokespecial i =>
    simp only [mc_ok, beq_iff_eq] at hok
    subst hok
    intro h0
    obtain ⟨a, dn', F, av, r, h1, rfl, h3, h4, h5, h6⟩ := mc_call_e h h0.2
    exact hcal i 2 a dn' F h1 _ (Or.inr (Or.inr ⟨rfl, rfl⟩)) pc ls av r n M L hdg h4 h3 h5 h6 h0
  | ireturn =>
    simp only [mc_ok, beq_iff_eq] at hok
    subst hok
    simp only [mc_step] at h
    split at h
    · exact mv_iret hx hb hret hlk hdg h
    · exact h.elim
  | return_ =>
    simp only [mc_ok, beq_iff_eq] at hok
    subst hok
    simp only [mc_step] at h
    split at h
    · exact mv_vret hx hb hret hlk hdg h
    · exact h.elim
  | new i =>
    simp only [mc_ok, beq_iff_eq] at hok
    subst hok
    simp only [mc_step] at h
    split at h
    · next ci hw =>
      cases hm : md with
      | true => rw [hm] at h; exact h.elim
      | false =>
        subst hm
        simp only at h
        split at h
        · next ci' fds hd =>
          rw [mc_at_eq] at hd
          split at h
          · next hbq =>
            have := Nat.eq_of_beq_eq_true hbq
            subst this
            exact hnw i ci hw rfl pc ls st n M L fds hdg hd h.1 h.2
          · exact h.elim
        · exact h.elim
    · split at h
      · next k hw =>
        split at h
        · exact hex i k hw rfl pc ls n M L hdg h.1 h.2
        · exact h.elim
      · exact h.elim
  | newarray a =>
    simp only [mc_ok, Bool.and_eq_true, beq_iff_eq, decide_eq_true_eq] at hok
    obtain ⟨⟨rfl, ht⟩, hty⟩ := hok
    obtain ⟨x, r, rfl, hh⟩ := mc_pi_e h
    clear h
    cases hm : md with
    | true => rw [hm] at hh; exact hh.elim
    | false =>
      subst hm
      simp only at hh
      split at hh
      · next t len hd =>
        rw [mc_at_eq] at hd
        split at hh
        · next hbq =>
          have := Nat.eq_of_beq_eq_true hbq
          subst this
          obtain ⟨h1, h2, h3⟩ := hh
          subst h1
          exact hna rfl a t len pc ls r n M L hdg ht hty hd h2 h3
        · exact hh.elim
      · exact hh.elim
  | _ => exact h.elim
end MVM
end
section
/-! contracts -/
def mc_isN (w : Cond) : Bool := match w with
  | .fieldLinkNest .. => true
  | .methodLinkNest .. => true
  | _ => false
def mc_NW (NW : List Cond) (U : State) : Prop := ∀ w ∈ NW, va_Nw w U
theorem mc_NW_same {NW : List Cond} (hN : NW.all mc_isN = true) {u U : State} (h : u.vm = U.vm) (hZ : mc_NW NW u) : mc_NW NW U := by
  intro w hw
  have h1 := List.all_eq_true.mp hN w hw
  have h2 := hZ w hw
  cases w <;> first | exact va_Nw.same rfl h h2 | (simp [mc_isN] at h1)
theorem mc_NW_warm {NW : List Cond} (hN : NW.all mc_isN = true) {s U : State} (hW : s.WarmedH U.vm) (hZ : mc_NW NW s) : mc_NW NW U := by
  intro w hw
  have h1 := List.all_eq_true.mp hN w hw
  have h2 := hZ w hw
  cases w <;> first | exact va_Nw.warmF hW h2 | exact va_Nw.warmM hW h2 | (simp [mc_isN] at h1)
/-- since the start s0 the tables have only been warmed, and nothing below b has changed -/
def mc_O (s0 : State) (b : Nat) (U : State) : Prop := s0.WarmedH U.vm ∧ b ≤ U.heap.size ∧ ∀ q : Nat, q < b → U.heap[q]? = s0.heap[q]?
theorem mc_O_to {s0 s U : State} {b N : Nat} {md : Bool} {H : Heap} {locs : List Loc} (h : mc_O s0 b s) (hS : va_S (mc_A md b N) s.heap H locs) (hU : U.heap = H) (hW : s.WarmedH U.vm) : mc_O s0 b U :=
  ⟨State.WarmedH.trans h.1 hW, by rw [hU]; exact Nat.le_trans h.2.1 hS.1, fun q hq => by
    rw [hU, hS.2.1 q (Nat.lt_of_lt_of_le hq h.2.1) (fun z => absurd z.1 (Nat.not_le.mpr hq))]
    exact h.2.2 q hq⟩
def mc_B (s0 : State) (D : va_G) (cl : List vw_C) (b : Nat) (cA : Nat → ClassId) (md : Bool) (tab : List mc_D) (NW : List Cond) (n : Nat) (M : mc_M) (L : mc_L) : State → Prop := fun U =>
  va_P D cl (mc_wd b cA md tab n M L) U.heap ∧ (md = false → U.heap.size = b + n) ∧ va_K D cl (mc_ty cA) U ∧ mc_NW NW U ∧ mc_O s0 b U
def mc_rmd (tab : List mc_D) (d dn n : Nat) : Room := { frames := d, cells := dn, slots := mc_sl tab (n + dn) - mc_sl tab n, locals := 40 * d }
/-- the contract of a method that doesn't throw -/
def mc_CT (s0 : State) (l : Launch) (D : va_G) (cl : List vw_C) (b : Nat) (cA : Nat → ClassId) (md : Bool) (tab : List mc_D) (WL NW : List Cond) (y : MethodName) (cc : ByteArray) (maxL : Nat) (ret : Option FieldType) (d dn : Nat) : mc_PT := fun av n M L Qr =>
  (md = true → tab.length ≤ n) → Met l y (.code y cc maxL ret :: WL) (mc_rmd tab d dn n) (va_Pc (av.map (mc_ga b)) (mc_B s0 D cl b cA md tab NW n M L)) (mc_Qc D cl b cA md tab (n + dn) Qr) dn (mc_sl tab (n + dn) - mc_sl tab n) (mc_A md b tab.length)
theorem mc_met_mono {l : Launch} {y : MethodName} {ws : List Cond} {rm : Room} {Pc : Array Value → State → Prop} {Qc Qc' : Array Value → State → Outcome → State → Prop} {mc ms : Nat} {free : Addr → Prop} (h : ∀ a st o t, Qc a st o t → Qc' a st o t) (hM : Met l y ws rm Pc Qc mc ms free) : Met l y ws rm Pc Qc' mc ms free := by
  intro p e ha hc hk s m args below hf happ hP hK
  obtain ⟨n, o, h1, h2, h3, h4, h5⟩ := hM p e ha hc hk s m args below hf happ hP hK
  exact ⟨n, o, h1, h2, h3, h _ _ _ _ h4, h5⟩
theorem mc_CT_mono {s0 : State} {l : Launch} {D : va_G} {cl : List vw_C} {b : Nat} {cA : Nat → ClassId} {md : Bool} {tab : List mc_D} {WL NW : List Cond} {y : MethodName} {cc : ByteArray} {maxL : Nat} {ret : Option FieldType} {d dn : Nat} {av : List Value} {n : Nat} {M : mc_M} {L : mc_L} {Q Q' : Option Value → mc_M → mc_L → Prop} (h : ∀ r M L, Q r M L → Q' r M L) (k : mc_CT s0 l D cl b cA md tab WL NW y cc maxL ret d dn av n M L Q) : mc_CT s0 l D cl b cA md tab WL NW y cc maxL ret d dn av n M L Q' :=
  fun hf => mc_met_mono (fun a st o t hq => by
    obtain ⟨⟨rv, M', L', h1, h2, h3, h4⟩, h5⟩ := hq
    exact ⟨⟨rv, M', L', h1, h _ _ _ h2, h3, h4⟩, h5⟩) (k hf)
theorem mc_blind {s0 : State} {D : va_G} {cl : List vw_C} {b : Nat} {cA : Nat → ClassId} {md : Bool} {tab : List mc_D} {NW : List Cond} (hN : NW.all mc_isN = true) {n : Nat} {M : mc_M} {L : mc_L} {av : List Value} : FrameBlind (va_Pc av (mc_B s0 D cl b cA md tab NW n M L)) := by
  intro a U g mk q
  obtain ⟨q0, q1, q2, q3, q4, q5⟩ := q
  exact ⟨q0, q1, q2, va_K.moved (u := U) (U := U.calling g mk a) (Vm.Alike.refl U.vm) q3, mc_NW_same hN (u := U) (U := U.calling g mk a) rfl q4, q5⟩
/-- a call of F at the pool number idx of the class own is sound, in every walk of that class's methods at the level d -/
def mc_CO (s0 : State) (l : Launch) (D : va_G) (cl : List vw_C) (b : Nat) (cA : Nat → ClassId) (md : Bool) (tab : List mc_D) (WL NW : List Cond) (d : Nat) (own : String) (idx kd a dn' : Nat) (F : mc_PT) : Prop :=
  (∀ av n M L Q Q', (∀ r M L, Q r M L → Q' r M L) → F av n M L Q → F av n M L Q') ∧
  ∀ (p : Program) (e : Env) (R : Room) (s : State) (m : MethodId) (args : Array Value) (below : List Frame) (meth : Method) (c : Code) (Q : State → Prop) (nL n0 dn : Nat) (cc : ByteArray) (c0 : Cond),
    p.tables.exec = Jvm.exec → c.code = cc → c.maxLocals = nL → s.vm.findClass own = some m.cls → (∀ w ∈ c0 :: WL, w.before args s = true) → va_K D cl (mc_ty cA) s → mc_NW NW s → mc_O s0 b s → R = mc_rmd tab d dn n0 →
    ∀ (x : Instr), (kd = 0 ∧ x = .invokevirtual idx) ∨ (kd = 1 ∧ x = .invokestatic idx) ∨ (kd = 2 ∧ x = .invokespecial idx) → ∀ pc ls av r n M L, decode cc pc = .ok (x, 3) → mc_w r ≤ 8 → av.length = a → n + dn' ≤ n0 + dn →
      F av n M L (fun rv M' L' => mc_V p l e R s m args below meth c Q D cl b cA md tab nL n0 dn (pc + 3) ls (rv.toList ++ r) (n + dn') M' L') → mc_V p l e R s m args below meth c Q D cl b cA md tab nL n0 dn pc ls (av.reverse ++ r) n M L
theorem mc_ob_mono {md : Bool} {tab : List mc_D} {a n ci k : Nat} {kk kk' : Nat → Prop} (hk : ∀ fd, kk fd → kk' fd) (h : mc_ob md tab a n ci k kk) : mc_ob md tab a n ci k kk' := by
  unfold mc_ob at h ⊢
  revert h
  cases mc_at tab a with
  | none => exact fun h => h
  | some d =>
    cases d with
    | inl q => exact fun h => h
    | inr q =>
      obtain ⟨ci', fds⟩ := q
      dsimp only
      cases Nat.beq ci ci' with
      | false => exact fun h => h
      | true =>
        dsimp only
        cases mc_at fds k with
        | none => exact fun h => h
        | some fd =>
          dsimp only
          cases md with
          | true => exact fun h => hk _ h
          | false => exact fun h => ⟨h.1, hk _ h.2⟩
section MCO
variable {s0 : State} {l : Launch} {D : va_G} {cl : List vw_C} {b : Nat} {cA : Nat → ClassId} {md : Bool} {tab : List mc_D} {WL NW : List Cond} {d : Nat} {own : String} {idx a dn' : Nat} {y : MethodName} {bytes : ByteArray} {maxL : Nat} {ret : Option FieldType} {d' : Nat}
theorem mc_good (hW : WL.all goodWord = true) (hc : Cond.code y bytes maxL ret ∈ WL) (c0 : Cond) : GoodIn (c0 :: WL) (Cond.code y bytes maxL ret :: WL) := by
  intro w hw
  rcases List.mem_cons.mp hw with rfl | hw
  · exact ⟨List.mem_cons_of_mem _ hc, Or.inl rfl⟩
  · exact ⟨List.mem_cons_of_mem _ hw, good_of_word (List.all_eq_true.mp hW w hw)⟩
theorem mc_roomle {n n0 dn : Nat} (h0 : n0 ≤ n) (h1 : n + dn' ≤ n0 + dn) : (n - n0) + dn' ≤ (mc_rmd tab d dn n0).cells ∧ (mc_sl tab n - mc_sl tab n0) + (mc_sl tab (n + dn') - mc_sl tab n) ≤ (mc_rmd tab d dn n0).slots := by
  have h2 := mc_sl_le (tab := tab) h0
  have h3 := mc_sl_mono n tab dn'
  have h4 := mc_sl_le (tab := tab) h1
  refine ⟨?_, ?_⟩
  · show n - n0 + dn' ≤ dn
    omega
  · show _ ≤ mc_sl tab (n0 + dn) - mc_sl tab n0
    omega
/-- a private method of an object, called by a nest mate (or by its own class) through a nest link -/
theorem co_VN (hN : NW.all mc_isN = true) (hW : WL.all goodWord = true) (hc : Cond.code y bytes maxL ret ∈ WL) {host : String} (hl : Cond.methodLinkNest own idx y host ∈ NW) (hini : Cond.initialized y.cls ∈ WL) (hinst : Cond.instanceMethod y ∈ WL) (hsel : Cond.selects y.cls y y ∈ WL)
    (hd : y.cls ≠ "java/lang/invoke/MethodHandle" ∧ y.cls ≠ "java/lang/invoke/VarHandle" ∧ (parseMethodDescriptor y.desc).map (fun d => d.parameters.length) = some a) (hlev : d' + 1 ≤ d ∧ maxL ≤ 21)
    {ci : Nat} {T : u_T} {N : Nat} (hcl : cl[ci]? = some (y.cls, T, N)) :
    mc_CO s0 l D cl b cA md tab WL NW d own idx 0 (a + 1) dn' (fun av n M L Q => match av with
      | .ref q :: as => mc_ob md tab q n ci 0 (fun _ => mc_CT s0 l D cl b cA md tab WL NW y bytes maxL ret d' dn' (.ref q :: as) n M L Q)
      | _ => False) := by
  refine ⟨fun av n M L Q Q' hQ h => ?_, ?_⟩
  · match av, h with
    | .ref q :: as, h => exact mc_ob_mono (fun fd z => mc_CT_mono hQ z) h
  · intro p e R s m args below meth c Q nL n0 dn cc c0 hx hb hml hown hts hK hZ hO hR x hxk pc ls av r n M L hdg hw8 hlen hroom h
    have hxe : x = .invokevirtual idx := by
      rcases hxk with ⟨_, h⟩ | ⟨h, _⟩ | ⟨h, _⟩
      · exact h
      · cases h
      · cases h
    subst hxe
    have hRe : R = mc_rmd tab d dn n0 := hR
    match av, hlen, h with
    | .ref q :: as, hlen, h =>
      intro h0 hf
      obtain ⟨fds, fd, g1, g2, g3, g4⟩ := mc_ob_e h hf
      have hG := mc_good hW hc c0
      have hM := g4 hf
      refine mv_call (dn' := dn') (Qr := fun rv M' L' => mc_V p l e R s m args below meth c Q D cl b cA md tab nL n0 dn (pc + 3) ls (rv.toList ++ r) (n + dn') M' L') (a := (((Value.ref q :: as).map (mc_ga b))).toArray) hroom (fun H locs lsC hP hz hS hls => ?_) (fun rv M' L' hq => hq) h0 hf
      have he : (mc_wd b cA md tab n M L)[q]? = some (b + q, .inr (ci, (fds.mapIdx (fun k fd => mc_fv md M q k fd)).map (mc_ga b))) := mc_wd_in g3 g1
      have hrecv := va_recv hK hP hcl he
      refine va_runVN (As := as.map (mc_ga b)) (C := y.cls) (b := b + q) (rest := r.map (mc_ga b)) ⟨hx, hb, hml, hown, hts⟩ hM ⟨va_cnB a hts hG rfl rfl rfl (hZ _ hl) (hts _ (List.mem_cons_of_mem _ hini)) hd ⟨?_, ?_⟩, hts _ (List.mem_cons_of_mem _ hinst), hts _ (List.mem_cons_of_mem _ hsel)⟩ ⟨mc_blind hN, hrecv, fun U hU hWm => ⟨rfl, by rw [hU]; exact hP, fun z => by rw [hU]; exact hz z, va_K.moved hWm.alike hK, mc_NW_warm hN hWm hZ, mc_O_to hO hS hU hWm⟩⟩ rfl ?_ hls ?_ ?_ hdg (by rw [hRe]; exact mc_roomle h0.1 hroom)
      · rw [hRe]
        show d' + 1 ≤ d
        exact hlev.1
      · rw [hRe]
        show 8 + (maxL + 11) + 40 * d' ≤ 40 * d
        omega
      · rw [List.length_map]
        simpa using hlen
      · show ((Value.ref q :: as).reverse ++ r).map (mc_ga b) = _
        simp [mc_ga]
      · show 2 * 0 + _ ≤ 8
        rw [mc_w_eq b r]
        omega
/-- a private method of an object, called by its own class through a plain link -/
theorem co_V (hN : NW.all mc_isN = true) (hW : WL.all goodWord = true) (hc : Cond.code y bytes maxL ret ∈ WL) (hl : Cond.methodLink own idx y ∈ WL) (hini : Cond.initialized y.cls ∈ WL) (hinst : Cond.instanceMethod y ∈ WL) (hsel : Cond.selects y.cls y y ∈ WL)
    (hd : y.cls ≠ "java/lang/invoke/MethodHandle" ∧ y.cls ≠ "java/lang/invoke/VarHandle" ∧ (parseMethodDescriptor y.desc).map (fun d => d.parameters.length) = some a) (hlev : d' + 1 ≤ d ∧ maxL ≤ 21)
    {ci : Nat} {T : u_T} {N : Nat} (hcl : cl[ci]? = some (y.cls, T, N)) :
    mc_CO s0 l D cl b cA md tab WL NW d own idx 0 (a + 1) dn' (fun av n M L Q => match av with
      | .ref q :: as => mc_ob md tab q n ci 0 (fun _ => mc_CT s0 l D cl b cA md tab WL NW y bytes maxL ret d' dn' (.ref q :: as) n M L Q)
      | _ => False) := by
  refine ⟨fun av n M L Q Q' hQ h => ?_, ?_⟩
  · match av, h with
    | .ref q :: as, h => exact mc_ob_mono (fun fd z => mc_CT_mono hQ z) h
  · intro p e R s m args below meth c Q nL n0 dn cc c0 hx hb hml hown hts hK hZ hO hR x hxk pc ls av r n M L hdg hw8 hlen hroom h
    have hxe : x = .invokevirtual idx := by
      rcases hxk with ⟨_, h⟩ | ⟨h, _⟩ | ⟨h, _⟩
      · exact h
      · cases h
      · cases h
    subst hxe
    have hRe : R = mc_rmd tab d dn n0 := hR
    match av, hlen, h with
    | .ref q :: as, hlen, h =>
      intro h0 hf
      obtain ⟨fds, fd, g1, g2, g3, g4⟩ := mc_ob_e h hf
      have hG := mc_good hW hc c0
      have hM := g4 hf
      refine mv_call (dn' := dn') (Qr := fun rv M' L' => mc_V p l e R s m args below meth c Q D cl b cA md tab nL n0 dn (pc + 3) ls (rv.toList ++ r) (n + dn') M' L') (a := (((Value.ref q :: as).map (mc_ga b))).toArray) hroom (fun H locs lsC hP hz hS hls => ?_) (fun rv M' L' hq => hq) h0 hf
      have he : (mc_wd b cA md tab n M L)[q]? = some (b + q, .inr (ci, (fds.mapIdx (fun k fd => mc_fv md M q k fd)).map (mc_ga b))) := mc_wd_in g3 g1
      have hrecv := va_recv hK hP hcl he
      refine va_runV (As := as.map (mc_ga b)) (C := y.cls) (b := b + q) (rest := r.map (mc_ga b)) ⟨hx, hb, hml, hown, hts⟩ hM ⟨callB_of a hts hG rfl rfl rfl (hts _ (List.mem_cons_of_mem _ hini)) (hts _ (List.mem_cons_of_mem _ hl)) hd ⟨?_, ?_⟩, hts _ (List.mem_cons_of_mem _ hinst), hts _ (List.mem_cons_of_mem _ hsel)⟩ ⟨mc_blind hN, hrecv, fun U hU hWm => ⟨rfl, by rw [hU]; exact hP, fun z => by rw [hU]; exact hz z, va_K.moved hWm.alike hK, mc_NW_warm hN hWm hZ, mc_O_to hO hS hU hWm⟩⟩ rfl ?_ hls ?_ ?_ hdg (by rw [hRe]; exact mc_roomle h0.1 hroom)
      · rw [hRe]
        show d' + 1 ≤ d
        exact hlev.1
      · rw [hRe]
        show 8 + (maxL + 11) + 40 * d' ≤ 40 * d
        omega
      · rw [List.length_map]
        simpa using hlen
      · show ((Value.ref q :: as).reverse ++ r).map (mc_ga b) = _
        simp [mc_ga]
      · show 2 * 0 + _ ≤ 8
        rw [mc_w_eq b r]
        omega
/-- a static method, through a nest link -/
theorem co_SN (hN : NW.all mc_isN = true) (hW : WL.all goodWord = true) (hc : Cond.code y bytes maxL ret ∈ WL) {host : String} (hl : Cond.methodLinkNest own idx y host ∈ NW) (hini : Cond.initialized y.cls ∈ WL) (hst : Cond.static y ∈ WL)
    (hd : y.cls ≠ "java/lang/invoke/MethodHandle" ∧ y.cls ≠ "java/lang/invoke/VarHandle" ∧ (parseMethodDescriptor y.desc).map (fun d => d.parameters.length) = some a) (hlev : d' + 1 ≤ d ∧ maxL ≤ 21) :
    mc_CO s0 l D cl b cA md tab WL NW d own idx 1 a dn' (mc_CT s0 l D cl b cA md tab WL NW y bytes maxL ret d' dn') := by
  refine ⟨fun av n M L Q Q' hQ h => mc_CT_mono hQ h, ?_⟩
  intro p e R s m args below meth c Q nL n0 dn cc c0 hx hb hml hown hts hK hZ hO hR x hxk pc ls av r n M L hdg hw8 hlen hroom h
  have hxe : x = .invokestatic idx := by
    rcases hxk with ⟨h, _⟩ | ⟨_, h⟩ | ⟨h, _⟩
    · cases h
    · exact h
    · cases h
  subst hxe
  have hRe : R = mc_rmd tab d dn n0 := hR
  intro h0 hf
  have hG := mc_good hW hc c0
  have hM := h hf
  refine mv_call (dn' := dn') (Qr := fun rv M' L' => mc_V p l e R s m args below meth c Q D cl b cA md tab nL n0 dn (pc + 3) ls (rv.toList ++ r) (n + dn') M' L') (a := (av.map (mc_ga b)).toArray) hroom (fun H locs lsC hP hz hS hls => ?_) (fun rv M' L' hq => hq) h0 hf
  refine va_runSN (As := av.map (mc_ga b)) (rest := r.map (mc_ga b)) ⟨hx, hb, hml, hown, hts⟩ hM ⟨va_cnB a hts hG rfl rfl rfl (hZ _ hl) (hts _ (List.mem_cons_of_mem _ hini)) hd ⟨?_, ?_⟩, hts _ (List.mem_cons_of_mem _ hst), trivial⟩ ⟨mc_blind hN, fun U hU hWm => ⟨rfl, by rw [hU]; exact hP, fun z => by rw [hU]; exact hz z, va_K.moved hWm.alike hK, mc_NW_warm hN hWm hZ, mc_O_to hO hS hU hWm⟩⟩ rfl ?_ hls ?_ ?_ hdg (by rw [hRe]; exact mc_roomle h0.1 hroom)
  · rw [hRe]
    show d' + 1 ≤ d
    exact hlev.1
  · rw [hRe]
    show 8 + (maxL + 11) + 40 * d' ≤ 40 * d
    omega
  · rw [List.length_map]
    exact hlen
  · show (av.reverse ++ r).map (mc_ga b) = _
    simp
  · show 2 * 0 + _ ≤ 8
    rw [mc_w_eq b r]
    omega
/-- a static method of the own class -/
theorem co_S (hN : NW.all mc_isN = true) (hW : WL.all goodWord = true) (hc : Cond.code y bytes maxL ret ∈ WL) (hl : Cond.methodLink own idx y ∈ WL) (hini : Cond.initialized y.cls ∈ WL) (hst : Cond.static y ∈ WL)
    (hd : y.cls ≠ "java/lang/invoke/MethodHandle" ∧ y.cls ≠ "java/lang/invoke/VarHandle" ∧ (parseMethodDescriptor y.desc).map (fun d => d.parameters.length) = some a) (hlev : d' + 1 ≤ d ∧ maxL ≤ 21) :
    mc_CO s0 l D cl b cA md tab WL NW d own idx 1 a dn' (mc_CT s0 l D cl b cA md tab WL NW y bytes maxL ret d' dn') := by
  refine ⟨fun av n M L Q Q' hQ h => mc_CT_mono hQ h, ?_⟩
  intro p e R s m args below meth c Q nL n0 dn cc c0 hx hb hml hown hts hK hZ hO hR x hxk pc ls av r n M L hdg hw8 hlen hroom h
  have hxe : x = .invokestatic idx := by
    rcases hxk with ⟨h, _⟩ | ⟨_, h⟩ | ⟨h, _⟩
    · cases h
    · exact h
    · cases h
  subst hxe
  have hRe : R = mc_rmd tab d dn n0 := hR
  intro h0 hf
  have hG := mc_good hW hc c0
  have hM := h hf
  refine mv_call (dn' := dn') (Qr := fun rv M' L' => mc_V p l e R s m args below meth c Q D cl b cA md tab nL n0 dn (pc + 3) ls (rv.toList ++ r) (n + dn') M' L') (a := (av.map (mc_ga b)).toArray) hroom (fun H locs lsC hP hz hS hls => ?_) (fun rv M' L' hq => hq) h0 hf
  refine va_runS (As := av.map (mc_ga b)) (rest := r.map (mc_ga b)) ⟨hx, hb, hml, hown, hts⟩ hM ⟨callB_of a hts hG rfl rfl rfl (hts _ (List.mem_cons_of_mem _ hini)) (hts _ (List.mem_cons_of_mem _ hl)) hd ⟨?_, ?_⟩, hts _ (List.mem_cons_of_mem _ hst)⟩ ⟨mc_blind hN, fun U hU hWm => ⟨rfl, by rw [hU]; exact hP, fun z => by rw [hU]; exact hz z, va_K.moved hWm.alike hK, mc_NW_warm hN hWm hZ, mc_O_to hO hS hU hWm⟩⟩ rfl ?_ hls ?_ ?_ hdg (by rw [hRe]; exact mc_roomle h0.1 hroom)
  · rw [hRe]
    show d' + 1 ≤ d
    exact hlev.1
  · rw [hRe]
    show 8 + (maxL + 11) + 40 * d' ≤ 40 * d
    omega
  · rw [List.length_map]
    exact hlen
  · show (av.reverse ++ r).map (mc_ga b) = _
    simp
  · show 2 * 0 + _ ≤ 8
    rw [mc_w_eq b r]
    omega
end MCO
end
section
/-! throwing: new X; dup; ldc text; X.<init>(String); athrow, with no stack traces -/
def mx_RE : String := "java/lang/RuntimeException"
def mx_atoms (own : String) (ic : Nat) (X : String) (ix : Nat) (bts : ByteArray) : List Cond :=
  Bundle.throwableAtoms ++ Bundle.throwableSAtoms ++ Bundle.passSAtoms X mx_RE ix bts ++ Bundle.chainSAtoms mx_RE ["java/lang/Exception"] ++
  [.methodLink own ic (Bundle.initS X), .instantiable X 6, .selects X Bundle.tFill0 Bundle.tFill0, .selects X Bundle.tFill Bundle.tFill,
   .lays X Bundle.tN "cause" "Ljava/lang/Throwable;", .lays X Bundle.tN "stackTrace" Bundle.steD, .lays X Bundle.tN "suppressedExceptions" Bundle.listD, .lays X Bundle.tN "detailMessage" "Ljava/lang/String;",
   .fieldLink Bundle.tN 198 Bundle.tN "backtrace" "Ljava/lang/Object;", .lays Bundle.tN Bundle.tN "backtrace" "Ljava/lang/Object;", .lays X Bundle.tN "backtrace" "Ljava/lang/Object;"]
section MXT
variable {p : Program} {l : Launch} {e : Env} {R : Room} {s : State} {m : MethodId} {args : Array Value} {below : List Frame} {meth : Method} {c : Code} {W : State} {locs : List Loc} {cells slots : Nat}
set_option maxHeartbeats 4000000 in
theorem mx_throwS (X : Stand p l e R s m args below meth c W locs cells slots) (hexec : p.tables.exec = Jvm.exec) (htr : e.platform.stackTraces = false) {own cls : String} {ic ix : Nat} {bts : ByteArray}
    (hown : s.vm.findClass own = some m.cls) (hcls : Bundle.fit cls = true) (hb0 : decode bts 0 = .ok (.aload_n 0, 1)) (hb1 : decode bts 1 = .ok (.aload_n 1, 1)) (hb2 : decode bts 2 = .ok (.invokespecial ix, 3)) (hb5 : decode bts 5 = .ok (.return_, 1))
    (h : ∀ a ∈ mx_atoms own ic cls ix bts, a.before args s = true)
    (hsU : (Cond.isRef (.static Bundle.tN "UNASSIGNED_STACK" Bundle.steD)).before args s = true) (hsS : (Cond.isRef (.static Bundle.tN "SUPPRESSED_SENTINEL" Bundle.listD)).before args s = true)
    (hlocs : ∀ x ∈ locs, ∀ cell, s.heap[x.base]? = some cell → cell.vm.isStatics = false)
    {a : Addr} {cX : ClassId} {kX : Class} (hfoundX : s.vm.findClass cls = some cX) (hkX : s.vm.classes[cX]? = some kX) (hcell : W.heap[a]? = some (freshCell cX kX)) (hnew : s.heap.size ≤ a)
    {msg : Value} (hmsg : msg.isRef = true)
    {g : JFrame} (hg : g.method = m) (hsize : g.locals.size = c.maxLocals) (hlocked : g.locked = none) (hentered : g.entered = []) {rest : List Value} (hstack : g.stack = msg :: .ref a :: .ref a :: rest)
    (hd6 : decode c.code g.pc = .ok (.invokespecial ic, 3)) (hd9 : decode c.code (g.pc + 3) = .ok (.athrow, 1)) (hout : ∀ x ∈ c.exceptionTable.toList, covers x (g.pc + 3) = false)
    (hRframes : 5 < R.frames) (hRlocals : 2 * g.monitorRoom + ((Value.ref a :: rest).map fun v => v.category).sum + 81 ≤ R.locals) (hlocks : meth.locks = false) :
    ∃ (U : State) (ce : Cell), Steps p.tables e below (W.setTop g) U ∧ U.status = .running ∧ Ended U below (.threw a) ∧ s.WarmedH U.vm ∧ s.sameButNew ({ U with vm := s.vm } : State) locs cells slots ∧
      U.heap = W.heap.setIfInBounds a ce ∧ ce.cls = cX ∧ ce.vm = .none := by
  have howns : e.platform.frameOwnsMonitors = true := by rw [X.admits.platform]
  have hfin : e.platform.finalization = false := by rw [X.admits.platform]
  have hpl : e.platform.magicAccessors = ({} : Platform).magicAccessors := by rw [X.admits.platform]
  have a' : ∀ x, x ∈ mx_atoms own ic cls ix bts → x.holds args s none s [] = true := fun x hx => h x hx
  obtain ⟨T, Z0, L, -, Y⟩ := ThrowableC.of_atoms (args := args) howns hfin hpl (fun x hx => h x (by simp [mx_atoms, hx]))
  obtain ⟨Z, M, LZ, LM, hnZ⟩ := Init0T.ofS_atoms (args := args) hpl L Y (fun x hx => h x (by simp [mx_atoms, hx]))
  obtain ⟨P2, Ps2, hlen2, L2, hL2, hP2m, hlink2, hpass2⟩ := Bundle.chainS (args := args) hpl hnZ ["java/lang/Exception"] mx_RE (by decide) (by decide) (fun x hx => h x (by simp [mx_atoms, hx]))
  obtain ⟨P1, L1, hP1m, hs1⟩ := PassC.ofS_atoms (args := args) (s := s) hpl (X := cls) (Y := mx_RE) (Bundle.fit_spec hcls).1 (by decide) hb0 hb1 hb2 hb5 (fun x hx => h x (by simp [mx_atoms, hx]))
  have hfound : s.vm.findClass cls = some P1.m.cls := findClass_of_methodNamed hP1m
  cases Option.some.inj (hfoundX.symm.trans hfound)
  obtain ⟨c1, kX', hc1, hk, hord, -, -, hn6⟩ := Cond.instantiable_spec (a' (.instantiable cls 6) (by simp [mx_atoms]))
  cases Option.some.inj (hc1.symm.trans hfound)
  cases Option.some.inj (hkX.symm.trans hk)
  have hlink1 : P1.sup = firstOf (Z.m T.toThrowableT) ((P2 :: Ps2).map (·.toPassT)) := by
    have e1 := Option.some.inj (hs1.symm.trans hP2m)
    rw [e1]
    rfl
  have hsel0 : selectMethod e.platform s.vm P1.m.cls T.fill0 = .method T.fill0 := by
    obtain ⟨c2, r2, m2, q1, q2, q3, q4, -⟩ := Cond.selects_spec (a' (.selects cls Bundle.tFill0 Bundle.tFill0) (by simp [mx_atoms]))
    cases Option.some.inj (q1.symm.trans hfound)
    cases Option.some.inj (q2.symm.trans (State.methodFound?_of_named Y.fill0 (by decide)))
    cases Option.some.inj (q3.symm.trans Y.fill0)
    rw [Launch.admits_selectMethod X.admits]; exact q4
  have hselF : selectMethod e.platform s.vm P1.m.cls T.fill = .method T.fill := by
    obtain ⟨c2, r2, m2, q1, q2, q3, q4, -⟩ := Cond.selects_spec (a' (.selects cls Bundle.tFill Bundle.tFill) (by simp [mx_atoms]))
    cases Option.some.inj (q1.symm.trans hfound)
    cases Option.some.inj (q2.symm.trans (State.methodFound?_of_named Y.fill (by decide)))
    cases Option.some.inj (q3.symm.trans Y.fill)
    rw [Launch.admits_selectMethod X.admits]; exact q4
  obtain ⟨cellS0, hcS0, hiss⟩ := Y.statics
  obtain ⟨u0, hu0⟩ := Cond.staticRefV Y.unassigned L.unassignedStatic L.statics hcS0 hiss hsU
  obtain ⟨sen, hsen⟩ := Cond.staticRefV Y.sentinel L.sentinelStatic L.statics hcS0 hiss hsS
  obtain ⟨ci198, i198, fB, hk198, hg198, ha198, hsB, -, hnB, htB, hffB⟩ := Cond.ownField (t := .object "java/lang/Object") Y.found L.cls (by decide +kernel) (a' (.fieldLink Bundle.tN 198 Bundle.tN "backtrace" "Ljava/lang/Object;") (by simp [mx_atoms])) (a' (.lays Bundle.tN Bundle.tN "backtrace" "Ljava/lang/Object;") (by simp [mx_atoms])) e.platform hpl
  obtain ⟨cellS, hcS', heS, -, hkeep⟩ := X.same.2.2.2.2.2 T.aS cellS0 hcS0
  have hcellS : W.heap[T.aS]? = some cellS := hcS'
  have hout' : ∀ i, (⟨T.aS, i⟩ : Loc) ∉ locs := fun i hmem => by
    have := hlocs _ hmem cellS0 hcS0
    rw [hiss] at this; cases this
  have hknownS : cellS.vm ≠ .unknown := by
    rw [heS]; intro hu
    rw [show cellS0.vm = .unknown from hu] at hiss
    cases hiss
  have hneS : T.aS ≠ a := Nat.ne_of_lt (Nat.lt_of_lt_of_le (Array.getElem?_eq_some_iff.mp hcS0).1 hnew)
  obtain ⟨iM, hffM⟩ := Y.msg
  obtain ⟨tyC, dC, hdC, hdnC⟩ := Cond.laysAt hfound hk Y.cause (a' (.lays cls Bundle.tN "cause" "Ljava/lang/Throwable;") (by simp [mx_atoms]))
  obtain ⟨tyS, dS, hdS, hdnS⟩ := Cond.laysAt hfound hk Y.stack (a' (.lays cls Bundle.tN "stackTrace" Bundle.steD) (by simp [mx_atoms]))
  obtain ⟨tyP, dP, hdP, hdnP⟩ := Cond.laysAt hfound hk Y.supp (a' (.lays cls Bundle.tN "suppressedExceptions" Bundle.listD) (by simp [mx_atoms]))
  obtain ⟨tyM, dM, hdM, hdnM⟩ := Cond.laysAt hfound hk hffM (a' (.lays cls Bundle.tN "detailMessage" "Ljava/lang/String;") (by simp [mx_atoms]))
  obtain ⟨tyB, dB, hdB, hdnB⟩ := Cond.laysAt hfound hk hffB (a' (.lays cls Bundle.tN "backtrace" "Ljava/lang/Object;") (by simp [mx_atoms]))
  have bC := Cond.laysApart hdB hdC hdnB hdnC (by rw [hnB, Y.causeName]; decide)
  have bS := Cond.laysApart hdB hdS hdnB hdnS (by rw [hnB, Y.stackName]; decide)
  have bP := Cond.laysApart hdB hdP hdnB hdnP (by rw [hnB, Y.suppName]; decide)
  have hskip : SkipFacts T e.platform s (fun u => u) u0 ((preparedCellV T.toThrowableT (freshCell P1.m.cls kX) a u0 sen).withEntry W.cur) :=
    ⟨{ ci198 := ci198, i198 := i198, fBack := fB }, ⟨hk198, hg198, ha198, hsB⟩, by
      have := fresh_default (c := P1.m.cls) tyB
      rw [htB] at this
      simpa [preparedCellV, Cell.setSlot, Cell.withEntry, Array.getElem?_setIfInBounds, bC, bS, bP, bC.symm, bS.symm, bP.symm, defaultValue] using this, fun _ _ => rfl⟩
  obtain ⟨tm, methC, cdC, kC, vm₁, hnC, -, -, -, -, -, -, -, hW₁, st1⟩ := Steps.initColdS (tb := p.tables) (e := e) (below := below) (s := s) (U := W) X.here hexec X.warmed hpl hown (t := Bundle.initS cls) rfl rfl (Bundle.fit_spec hcls).2
    (a' (.methodLink own ic (Bundle.initS cls)) (by simp [mx_atoms])) (h (.instanceMethod (Bundle.initS cls)) (by simp [mx_atoms, Bundle.passSAtoms])) (bytes := bts) (maxL := 2) (h (.code (Bundle.initS cls) bts 2 none) (by simp [mx_atoms, Bundle.passSAtoms]))
    (f := g) hg (a := a) (msg := msg) (rest := .ref a :: rest) hstack hd6
  cases Option.some.inj (hnC.symm.trans hP1m)
  have X₁ := X.noted hW₁
  have hlen3 : (P1 :: P2 :: Ps2).length = 3 := by simp [hlen2]
  obtain ⟨vm₂, X₂, st2⟩ := X₁.ctorMessageOffV hexec (g := { g with stack := .ref a :: rest }) hg hsize T L Z LZ M LM (P1 :: P2 :: Ps2)
    (fun P hP => by
      rcases List.mem_cons.mp hP with rfl | hP
      · exact L1
      · rcases List.mem_cons.mp hP with rfl | hP
        · exact L2
        · exact hL2 P hP) ⟨hlink1, hlink2, hpass2⟩ (u0 := u0) (sen := sen) (self := a) hmsg (cell := freshCell P1.m.cls kX) (cellS := cellS)
    hcell (fun _ => by simp) (by simp) rfl rfl hsel0 hselF hcellS hneS hknownS (by rw [hkeep _ (hout' _)]; exact hu0) (by rw [hkeep _ (hout' _)]; exact hsen)
    (Takes.of_laid hk hord tyC (by rw [Y.causeType]; rfl)) (Takes.of_laid hk hord tyS (by rw [Y.stackType]; exact fits_refV_array _ u0)) (Takes.of_laid hk hord tyP (by rw [Y.suppType]; exact fits_refV_object _ sen))
    (Takes.of_laid hk hord tyM (by rw [Y.msgType]; exact fits_refV_object _ ⟨msg, hmsg⟩)) Y.objLocals hskip htr [] hd6
    (by rw [hlen3]; omega) (by rw [hlen3]; exact hRlocals)
  obtain ⟨hwalk, hrun, hended, hWU, hsame⟩ := X₂.athrowLeaves hexec (g := { g with stack := .ref a :: rest, pc := g.pc + 3 }) hg hlocked hentered hout (a := a) (rest := rest) rfl hd9 (hlocks := hlocks)
  refine ⟨_, _, st1 _ (fun acts => ?_), hrun, hended, hWU, hsame.weaken (fun y hy hlt' => ?_) (Nat.le_refl _) (Nat.le_refl _), rfl, rfl, rfl⟩
  · rw [doInvoke_state]
    exact st2 _ hwalk
  · rcases List.mem_append.mp hy with h1 | h1
    · exact h1
    · exfalso
      have hb : y.base = a := by
        simp only [List.mem_cons, List.not_mem_nil, or_false] at h1
        rcases h1 with rfl | rfl | rfl | rfl | rfl <;> rfl
      rw [hb] at hlt'
      exact Nat.not_lt.mpr hnew hlt'
end MXT
theorem mc_sl_out : ∀ (n : Nat) (tab : List mc_D), tab.length ≤ n → mc_sl tab (n + 1) = mc_sl tab n + 6
  | 0, [], _ => rfl
  | n + 1, [], h => by
    show 6 + mc_sl [] (n + 1) = 6 + mc_sl [] n + 6
    rw [mc_sl_out n [] (Nat.zero_le _)]
    omega
  | 0, d :: t, h => by simp at h
  | n + 1, d :: t, h => by
    show mc_sz d + mc_sl t (n + 1) = mc_sz d + mc_sl t n + 6
    rw [mc_sl_out n t (by simpa using h)]
    omega
theorem mc_at_none {D : va_G} {cl : List vw_C} {b : Nat} {cA : Nat → ClassId} {md : Bool} {M : mc_M} {L : mc_L} {i a : Nat} {d : mc_D} {H : Heap} (h : va_at D cl (a, mc_gE b cA (mc_cell md M L i d)) H) : ∃ cell : Cell, H[a]? = some cell ∧ cell.vm = .none := by
  cases d with
  | inl q =>
    obtain ⟨t, n⟩ := q
    by_cases ht : t = 1
    · subst ht
      exact ⟨_, h, rfl⟩
    · have h2 : H[a]? = some (vp_cell (cA t) (n, .inl (M i))) := by simpa [mc_cell, ht, mc_gE, va_at] using h
      exact ⟨_, h2, rfl⟩
  | inr q =>
    obtain ⟨r, z1, cell', z2, z3, z4, z5⟩ := h
    exact ⟨cell', z2, z4⟩
/-- a throw, as the machine's walk sees it -/
theorem mv_throw {p : Program} {l : Launch} {e : Env} {R : Room} {s : State} {m : MethodId} {args : Array Value} {below : List Frame} {meth : Method} {c : Code} {D : va_G} {cl : List vw_C} {b : Nat} {cA : Nat → ClassId} {tab : List mc_D} {nL n0 dn d : Nat} {cc : ByteArray} {pc : Nat} {ls : List (Option Value)} {n : Nat} {M : mc_M} {L : mc_L} {exn : Nat → String} {Qr : Option Value → mc_M → mc_L → Prop} {Qt : Nat → mc_M → mc_L → Prop}
    (hx : p.tables.exec = Jvm.exec) (hb : c.code = cc) (hml : c.maxLocals = nL) (hlocks : meth.locks = false) (htab : c.exceptionTable.isEmpty = true) (hfl : l.flags = flags0) {own tx : String} {i ks ic ix k q : Nat} {bts : ByteArray}
    (hown : s.vm.findClass own = some m.cls) (hcls : Bundle.fit (exn k) = true) (hb0 : decode bts 0 = .ok (.aload_n 0, 1)) (hb1 : decode bts 1 = .ok (.aload_n 1, 1)) (hb2 : decode bts 2 = .ok (.invokespecial ix, 3)) (hb5 : decode bts 5 = .ok (.return_, 1))
    (hat : ∀ a ∈ mx_atoms own ic (exn k) ix bts, a.before args s = true) (hcl : (Cond.classLink own i (exn k)).before args s = true) (hini : (Cond.initialized (exn k)).before args s = true) (hstr : vk_R own ks tx q s)
    (hsU : (Cond.isRef (.static Bundle.tN "UNASSIGNED_STACK" Bundle.steD)).before args s = true) (hsS : (Cond.isRef (.static Bundle.tN "SUPPRESSED_SENTINEL" Bundle.listD)).before args s = true)
    (hR : R = mc_rmd tab d dn n0) (hd : 6 ≤ d) (hw0 : ∃ M0 L0, va_P D cl (mc_wd b cA true tab n0 M0 L0) s.heap)
    (hd0 : decode cc pc = .ok (.new i, 3)) (hd3 : decode cc (pc + 3) = .ok (.dup, 1)) (hd4 : decode cc (pc + 4) = .ok (.ldc ks, 2)) (hd6 : decode cc (pc + 6) = .ok (.invokespecial ic, 3)) (hd9 : decode cc (pc + 9) = .ok (.athrow, 1))
    (hn : n < n0 + dn) (hf0 : tab.length ≤ n0) (hq : Qt k M L) : mc_V p l e R s m args below meth c (mc_Q below s D cl b cA true tab n0 dn exn Qr Qt) D cl b cA true tab nL n0 dn pc ls [] n M L := by
  intro h0 hf H locs lsC hP hz hS hl
  have hle1 : mc_sl tab (n + 1) = mc_sl tab n + 6 := mc_sl_out n tab (hf rfl)
  have hle2 : mc_sl tab (n + 1) ≤ mc_sl tab (n0 + dn) := mc_sl_le hn
  have hle0 : mc_sl tab n0 ≤ mc_sl tab n := mc_sl_le h0.1
  have hRc : R.cells = dn := by rw [hR]; rfl
  have hRs : R.slots = mc_sl tab (n0 + dn) - mc_sl tab n0 := by rw [hR]; rfl
  have hins : (Cond.instantiable (exn k) 6).before args s = true := hat _ (by simp [mx_atoms])
  refine W.newc hx hb hown hcl hins hini rfl hd0 (by rw [hRc]; omega) (by rw [hRs]; omega) fun cC kC g1 g2 g3 g4 => ?_
  refine W.eq (g2 := F0 m (pc + 3) lsC [.ref H.size]) rfl ?_
  refine lv_dup hx hb hd3 rfl ?_
  refine va_ldcS hx hb hown hstr hd4 ?_
  intro T hT X
  have hcellT : T.heap[H.size]? = some (freshCell cC kC) := by rw [hT]; simp
  obtain ⟨M0, L0, hP0⟩ := hw0
  have hlocs : ∀ x ∈ locs, ∀ cell, s.heap[x.base]? = some cell → cell.vm.isStatics = false := by
    intro x hx' cell hc
    have hA := hS.2.2 x hx'
    have key : ∀ z : Nat, b ≤ z → z < b + tab.length → z - b < tab.length ∧ b + (z - b) = z := by
      intro z z1 z2
      omega
    obtain ⟨hi, hbx⟩ := key x.base hA.1 (hA.2 rfl)
    have he := mc_wd_in (b := b) (cA := cA) (md := true) (n := n0) (M := M0) (L := L0) (Nat.lt_of_lt_of_le hi hf0) (List.getElem?_eq_getElem hi)
    have hw := hP0 _ _ he
    obtain ⟨cell', z1, z2⟩ := mc_at_none hw
    rw [hbx, hc] at z1
    cases z1
    rw [z2]
    rfl
  have htr : e.platform.stackTraces = false := Jvm.D.Launch.traces_off hfl X.admits
  obtain ⟨U, ce, u1, u2, u3, u4, u5, u6, u7, u8⟩ := mx_throwS X hx htr hown hcls hb0 hb1 hb2 hb5 hat hsU hsS hlocs (a := H.size) g1 g2 hcellT hS.1 (msg := .ref q) rfl (g := F0 m (pc + 4 + 2) lsC (.ref q :: .ref H.size :: .ref H.size :: [])) rfl (by rw [hml]; exact hl.1) rfl rfl (rest := []) rfl (by rw [hb]; exact hd6) (by rw [hb]; exact hd9)
    (fun x hx' => by
      have : c.exceptionTable = #[] := by simpa using htab
      rw [this] at hx'
      simp at hx') (by rw [hR]; show 5 < d; omega) (by rw [hR]; show 2 * 0 + _ + 81 ≤ 40 * d; simp [Value.category]; omega) hlocks
  have hUh : ∀ q : Nat, q < H.size → U.heap[q]? = H[q]? := by
    intro q hq'
    rw [u6, hT]
    rw [Array.getElem?_setIfInBounds_ne (by omega), Array.getElem?_push, if_neg (by omega)]
  refine ⟨U, u1, .threw H.size, u2, u3, u4, ⟨?_, fun q g5 g6 => ?_⟩, ⟨locs, u5.mono (by omega) (by omega), hS.2.2⟩, M, L, ?_, (fun z => by cases z), Or.inr ⟨H.size, k, rfl, hq, ce, ?_, ?_, ?_⟩⟩
  · rw [u6, hT]
    simp
    have := hS.1
    omega
  · rw [hUh q (Nat.lt_of_lt_of_le g5 hS.1)]
    exact hS.2.1 q g5 g6
  · rw [mc_wd_full (n' := n) (Nat.le_trans hf0 (Nat.le_add_right _ _)) (hf rfl)]
    exact hP.kept (fun k' q' hk' => hUh _ (hP k' q' hk').lt)
  · rw [u6, hT]
    simp
  · rw [u7]
    exact g1
  · rw [u8]
    rfl
end
section
/-! new objects and arrays: the next cell of the world -/
def mc_small (tab : List mc_D) : Bool := tab.all fun d => match d with
  | .inl (t, n) => decide (n ≤ 10000) && decide (t < 4)
  | _ => true
theorem mc_fok_def {fd : Nat} {ty : FieldType} {M : mc_M} {i k b : Nat} (h : mc_fok fd ty = true) (hM : M i k = 0) : defaultValue ty = mc_ga b (mc_fv false M i k fd) := by
  match fd, h with
  | 0, h => cases ty <;> first | (show _ = Value.int (M i k); rw [hM]; rfl) | (simp [mc_fok] at h)
  | 2, h => cases ty <;> first | (show _ = Value.int (M i k); rw [hM]; rfl) | (simp [mc_fok] at h)
  | 1, h => cases ty <;> first | (show _ = mc_ga b (if M i k = 0 then Value.null else .ref (M i k).toNatClampNeg); rw [if_pos hM]; rfl) | (simp [mc_fok] at h)
  | r + 3, h => cases ty <;> first | (show _ = mc_ga b (if false = true then Value.ref r else if M i k = 0 then Value.null else .ref r); rw [if_neg (by decide), if_pos hM]; rfl) | (simp [mc_fok] at h)
section MVN
variable {p : Program} {l : Launch} {e : Env} {R : Room} {s : State} {m : MethodId} {args : Array Value} {below : List Frame} {meth : Method} {c : Code} {Q : State → Prop}
variable {D : va_G} {cl : List vw_C} {b : Nat} {cA : Nat → ClassId} {tab : List mc_D} {nL n0 dn d : Nat}
variable {cc : ByteArray} {pc : Nat} {ls : List (Option Value)} {st r : List Value} {n : Nat} {M : mc_M} {L : mc_L}
theorem mc_grow {H H1 : Heap} {M' : mc_M} {L' : mc_L} {dd : mc_D} (hP : va_P D cl (mc_wd b cA false tab n M L) H) (hd : tab[n]? = some dd) (o1 : ∀ q, q < b + n → H1[q]? = H[q]?) (hM : ∀ j, j ≠ n → M' j = M j) (hL : ∀ j, j ≠ n → L' j = L j) (hnew : va_at D cl (b + n, mc_gE b cA (mc_cell false M' L' n dd)) H1) : va_P D cl (mc_wd b cA false tab (n + 1) M' L') H1 := by
  intro k q hk
  obtain ⟨hk1, d', hd', rfl⟩ := mc_wd_some hk
  by_cases hkn : k = n
  · subst hkn
    rw [hd] at hd'
    cases hd'
    exact hnew
  · have hlt : k < n := by omega
    rw [← mc_cell_congr (M := M) (L := L) (hM k hkn).symm (hL k hkn).symm]
    exact (hP k _ (mc_wd_in hlt hd')).kept (o1 _ (Nat.add_lt_add_left hlt _))
theorem mv_new (hx : p.tables.exec = Jvm.exec) (hb : c.code = cc) {own : String} {Ts : List Cond} (hts : ∀ w ∈ Ts, w.before args s = true) (hown : s.vm.findClass own = some m.cls) (hK : va_K D cl (mc_ty cA) s) (htk : mc_tok cl tab = true) (hR : R = mc_rmd tab d dn n0)
    {C : String} {T : u_T} {N ci i : Nat} (hin : ∀ w ∈ u_ws C T N, w ∈ Ts) (hc : cl[ci]? = some (C, T, N)) (hcl : (Cond.classLink own i C).before args s = true) (hins : (Cond.instantiable C N).before args s = true) (hini : (Cond.initialized C).before args s = true) {fds : List Nat}
    (hdg : decode cc pc = .ok (.new i, 3)) (hd : tab[n]? = some (.inr (ci, fds))) (hn : n < n0 + dn) (kk : mc_V p l e R s m args below meth c Q D cl b cA false tab nL n0 dn (pc + 3) ls (.ref n :: st) (n + 1) (mc_set M n (fun _ => 0)) L) : mc_V p l e R s m args below meth c Q D cl b cA false tab nL n0 dn pc ls st n M L := by
  intro h0 hf H locs lsC hP hz hS hl
  have hH : H.size = b + n := hz rfl
  have hKn := hK.1 ci _ hc
  obtain ⟨t1, t2, t3⟩ := mc_tok_e htk hd hc
  have hsl := mc_sl_next n tab _ hd
  have hsz : mc_sz (.inr (ci, fds)) = N := t1
  have hle2 : mc_sl tab (n + 1) ≤ mc_sl tab (n0 + dn) := mc_sl_le hn
  have hle0 : mc_sl tab n0 ≤ mc_sl tab n := mc_sl_le h0.1
  have c1 : n - n0 + 1 = n + 1 - n0 := by omega
  have c2 : mc_sl tab n - mc_sl tab n0 + N = mc_sl tab (n + 1) - mc_sl tab n0 := by omega
  refine W.newcK hx hb hown hcl hins hini rfl hdg (by rw [hR]; show _ ≤ dn; omega) (by rw [hR]; show _ ≤ mc_sl tab (n0 + dn) - mc_sl tab n0; omega) hKn.2.1 (h := b + n) hH fun H1 kC hkC e1 z1 o1 => ?_
  rw [c1, c2]
  refine kk ⟨by omega, hn⟩ (fun z => by cases z) H1 locs lsC (mc_grow hP hd o1 (fun j hj => mc_set_n hj) (fun _ _ => rfl) ?_) (fun _ => by rw [z1]; omega) ⟨Nat.le_trans hS.1 (by omega), fun q g1 g2 => (o1 q (by have := hS.1; omega)).trans (hS.2.1 q g1 g2), hS.2.2⟩ hl
  refine ⟨_, hc, (u_born (mc_t0 T) hts hin hKn hkC e1 t2).to (fun j hj => ?_)⟩
  obtain ⟨fd, hfd⟩ : ∃ fd, fds[j]? = some fd := ⟨_, List.getElem?_eq_getElem (by rw [t1]; exact hj)⟩
  show defaultValue (mc_t0 T j) = ((fds.mapIdx (fun k fd => mc_fv false (mc_set M n (fun _ => 0)) n k fd)).map (mc_ga b)).getD j .null
  rw [List.getD_eq_getElem?_getD, List.getElem?_map, List.getElem?_mapIdx, hfd]
  exact mc_fok_def (t3 j fd hfd) (by rw [mc_set_s])
theorem mv_newarr (hx : p.tables.exec = Jvm.exec) (hb : c.code = cc) (hK : va_K D cl (mc_ty cA) s) (hsm : mc_small tab = true) (hR : R = mc_rmd tab d dn n0)
    {a : ArrayType} {t len : Nat} (harr : (Cond.arrayClass (newarray.typeOf a)).before args s = true) (hdg : decode cc pc = .ok (.newarray a, 2)) (ht : t < 4) (hty : newarray.typeOf a = mc_tt t) (hd : tab[n]? = some (.inl (t, len))) (hn : n < n0 + dn)
    (kk : mc_V p l e R s m args below meth c Q D cl b cA false tab nL n0 dn (pc + 2) ls (.ref n :: r) (n + 1) (mc_set M n (fun _ => 0)) (mc_setL L n (fun _ => 0))) : mc_V p l e R s m args below meth c Q D cl b cA false tab nL n0 dn pc ls (.int (Int32.ofNat len) :: r) n M L := by
  intro h0 hf H locs lsC hP hz hS hl
  have hH : H.size = b + n := hz rfl
  have h10 : len ≤ 10000 := by
    have := List.all_eq_true.mp hsm _ (List.mem_of_getElem? hd)
    simp only [Bool.and_eq_true, decide_eq_true_eq] at this
    exact this.1
  have hsl := mc_sl_next n tab _ hd
  have hsz : mc_sz (.inl (t, len)) = len := rfl
  have hle2 : mc_sl tab (n + 1) ≤ mc_sl tab (n0 + dn) := mc_sl_le hn
  have hle0 : mc_sl tab n0 ≤ mc_sl tab n := mc_sl_le h0.1
  have c1 : n - n0 + 1 = n + 1 - n0 := by omega
  have c2 : mc_sl tab n - mc_sl tab n0 + len = mc_sl tab (n + 1) - mc_sl tab n0 := by omega
  have hcb : componentBytes (newarray.typeOf a) ≤ 8 := by
    cases a <;> decide
  refine va_newaK hx hb harr rfl hdg rfl (n := Int32.ofNat len) (N := len) (nI_pos (by omega)) (nI_clamp (by omega)) (by
    have := Nat.mul_le_mul h10 hcb
    omega) (by rw [hR]; show _ ≤ dn; omega) (by rw [hR]; show _ ≤ mc_sl tab (n0 + dn) - mc_sl tab n0; omega) (h := b + n) hH fun H1 cA' e1 z1 o1 hAr hNm => ?_
  rw [c1, c2]
  refine kk ⟨by omega, hn⟩ (fun z => by cases z) H1 locs lsC (mc_grow hP hd o1 (fun j hj => mc_set_n hj) (fun j hj => mc_setL_n hj) ?_) (fun _ => by rw [z1]; omega) ⟨Nat.le_trans hS.1 (by omega), fun q g1 g2 => (o1 q (by have := hS.1; omega)).trans (hS.2.1 q g1 g2), hS.2.2⟩ hl
  rw [hty] at e1 hNm
  match t, ht, hNm, e1 with
  | 0, _, hNm, e1 =>
    have hc0 : s.vm.findClass ("[" ++ FieldType.int.toString) = some (cA 0) := (hK.2 0 (cA 0, .int) rfl).2
    cases hc0.symm.trans hNm
    show H1[b + n]? = some (vp_cell (cA 0) (len, .inl (mc_set M n (fun _ => 0) n)))
    rw [mc_set_s, e1]
    rfl
  | 1, _, hNm, e1 =>
    have hc0 : s.vm.findClass ("[" ++ FieldType.long.toString) = some (cA 1) := (hK.2 1 (cA 1, .long) rfl).2
    cases hc0.symm.trans hNm
    show H1[b + n]? = some (vp_cell (cA 1) (len, .inr (.inl (mc_setL L n (fun _ => 0) n))))
    rw [mc_setL_s, e1]
    rfl
  | 2, _, hNm, e1 =>
    have hc0 : s.vm.findClass ("[" ++ FieldType.char.toString) = some (cA 2) := (hK.2 2 (cA 2, .char) rfl).2
    cases hc0.symm.trans hNm
    show H1[b + n]? = some (vp_cell (cA 2) (len, .inl (mc_set M n (fun _ => 0) n)))
    rw [mc_set_s, e1]
    rfl
  | 3, _, hNm, e1 =>
    have hc0 : s.vm.findClass ("[" ++ FieldType.boolean.toString) = some (cA 3) := (hK.2 3 (cA 3, .boolean) rfl).2
    cases hc0.symm.trans hNm
    show H1[b + n]? = some (vp_cell (cA 3) (len, .inl (mc_set M n (fun _ => 0) n)))
    rw [mc_set_s, e1]
    rfl
end MVN
end
section
/-! running a stretch: up to a place of 'cut', or for f instructions -/
def mc_has : List Nat → Nat → Bool
  | [], _ => false
  | k :: r, i => match Nat.beq k i with
    | true => true
    | false => mc_has r i
def mc_wp (md : Bool) (tab : List mc_D) (n0 dn : Nat) (ret : Option FieldType) (sh : mc_SH) (Qr : Option Value → mc_M → mc_L → Prop) (Qt : Nat → mc_M → mc_L → Prop) (tb : List mc_R) (cut : List Nat) (K : mc_K) : Nat → mc_K
  | 0 => K
  | f + 1 => fun pc ls st n M L => match mc_has cut pc with
    | true => K pc ls st n M L
    | false => match mc_lk tb pc with
      | some (x, _, tgt, v) => mc_step md tab n0 dn ret sh Qr Qt (mc_wp md tab n0 dn ret sh Qr Qt tb cut K f) x tgt v pc ls st n M L
      | none => False
def mc_run (md : Bool) (tab : List mc_D) (n0 dn : Nat) (ret : Option FieldType) (sh : mc_SH) (Qr : Option Value → mc_M → mc_L → Prop) (Qt : Nat → mc_M → mc_L → Prop) (tb : List mc_R) (cut : List Nat) (K : mc_K) (f : Nat) : mc_K := fun pc ls st n M L => match mc_lk tb pc with
  | some (x, _, tgt, v) => mc_step md tab n0 dn ret sh Qr Qt (mc_wp md tab n0 dn ret sh Qr Qt tb cut K f) x tgt v pc ls st n M L
  | none => False
def mc_tbok (cc : ByteArray) (nL : Nat) (tb : List mc_R) : Bool := tb.all fun q => decide (decode cc q.1 = .ok (q.2.1, q.2.2.1)) && mc_ok nL q.1 q.2.1 q.2.2.1 q.2.2.2.1 q.2.2.2.2
def mc_swok (tb : List mc_R) (sw : List (Nat × List (Int32 × Nat) × Nat)) : Bool := tb.all fun q => match q.2.1, mc_lk sw q.1 with
  | .tableswitch dflt lo hi offs, some (cs, d) => mc_swT q.1 cs d dflt lo hi offs
  | .tableswitch .., none => false
  | _, _ => true
def mc_swokL (tb : List mc_R) (sw : List (Nat × List (Int32 × Nat) × Nat)) : Bool := tb.all fun q => match q.2.1, mc_lk sw q.1 with
  | .lookupswitch dflt ps, some (cs, d) => (ps.toList.zip (ps.toList.drop 1)).all (fun (a, next) => a.1 < next.1) && mc_swL q.1 d dflt cs ps.toList
  | .lookupswitch .., none => false
  | _, _ => true
def mc_closed (md : Bool) (tab : List mc_D) (n0 dn : Nat) (ret : Option FieldType) (sh : mc_SH) (Qr : Option Value → mc_M → mc_L → Prop) (Qt : Nat → mc_M → mc_L → Prop) (tb : List mc_R) (K : mc_K) : Prop :=
  (∀ cut f pc ls st n M L, mc_run md tab n0 dn ret sh Qr Qt tb cut K f pc ls st n M L → K pc ls st n M L) ∧ ∀ ks pc ls st n M L, K pc (mc_kp ks ls) st n M L → K pc ls st n M L
/-- the words behind a field's pool number -/
def mc_fw (WL NW : List Cond) (own : String) (idx : Nat) (t : String × String × String × Bool) : Prop := Cond.fieldLink own idx t.1 t.2.1 t.2.2.1 ∈ WL ∨ ∃ host, Cond.fieldLinkNest own idx t.1 t.2.1 t.2.2.1 host ∈ NW
def mc_fgP (cl : List vw_C) (WL NW : List Cond) (own : String) (q : Nat × Nat × Nat) : Prop := ∃ (C : String) (T : u_T) (N : Nat), cl[q.2.1]? = some (C, T, N) ∧ q.2.2 < N ∧ mc_fw WL NW own q.1 (T q.2.2)
def mc_fpP (cl : List vw_C) (WL NW : List Cond) (own mname : String) (q : Nat × Nat × Nat) : Prop := ∃ (C : String) (T : u_T) (N : Nat), cl[q.2.1]? = some (C, T, N) ∧ q.2.2 < N ∧ (((T q.2.2).2.2.2 = false ∧ mc_fw WL NW own q.1 (T q.2.2)) ∨ ((T q.2.2).2.2.2 = true ∧ (T q.2.2).1 = own ∧ mname = "<init>" ∧ Cond.fieldLink own q.1 (T q.2.2).1 (T q.2.2).2.1 (T q.2.2).2.2.1 ∈ WL))
/-- the throws of a class's methods are sound -/
def mc_EO (s0 : State) (l : Launch) (D : va_G) (cl : List vw_C) (b : Nat) (cA : Nat → ClassId) (tab : List mc_D) (WL NW : List Cond) (exn : Nat → String) (d : Nat) (own : String) (cc : ByteArray) (ex : List (Nat × Nat)) : Prop :=
  ∀ (p : Program) (e : Env) (R : Room) (s : State) (m : MethodId) (args : Array Value) (below : List Frame) (meth : Method) (c : Code) (Qr : Option Value → mc_M → mc_L → Prop) (Qt : Nat → mc_M → mc_L → Prop) (nL n0 dn : Nat) (c0 : Cond),
    p.tables.exec = Jvm.exec → c.code = cc → c.maxLocals = nL → s.vm.findClass own = some m.cls → (∀ w ∈ c0 :: WL, w.before args s = true) → mc_O s0 b s → R = mc_rmd tab d dn n0 → meth.locks = false → c.exceptionTable.isEmpty = true → (∃ M0 L0, va_P D cl (mc_wd b cA true tab n0 M0 L0) s.heap) → tab.length ≤ n0 →
    ∀ i k, mc_lk ex i = some k → ∀ pc ls n M L, decode cc pc = .ok (.new i, 3) → n < n0 + dn → Qt k M L → mc_V p l e R s m args below meth c (mc_Q below s D cl b cA true tab n0 dn exn Qr Qt) D cl b cA true tab nL n0 dn pc ls [] n M L
/-- what is so behind a method that may throw -/
def mc_Q1 (D : va_G) (cl : List vw_C) (b : Nat) (cA : Nat → ClassId) (tab : List mc_D) (n0 dn : Nat) (exn : Nat → String) (Qr : Option Value → mc_M → mc_L → Prop) (Qt : Nat → mc_M → mc_L → Prop) : Array Value → State → Outcome → State → Prop := fun _ s o t =>
  s.WarmedH t.vm ∧ va_F (mc_A true b tab.length) s t ∧ (∃ Lc, s.sameButNew ({ t with vm := s.vm } : State) Lc dn (mc_sl tab (n0 + dn) - mc_sl tab n0) ∧ ∀ q ∈ Lc, mc_A true b tab.length q.base) ∧
  ∃ M L, va_P D cl (mc_wd b cA true tab (n0 + dn) M L) t.heap ∧ (true = false → t.heap.size = b + (n0 + dn)) ∧
    ((∃ rv : Option Value, o = .returned (rv.map (mc_ga b)) ∧ Qr rv M L) ∨ (∃ a k, o = .threw a ∧ Qt k M L ∧ mc_ec exn s t a k))
/-- the contract of a method that may throw -/
def mc_CX (s0 : State) (l : Launch) (D : va_G) (cl : List vw_C) (b : Nat) (cA : Nat → ClassId) (tab : List mc_D) (WL NW : List Cond) (exn : Nat → String) (y : MethodName) (cc : ByteArray) (maxL : Nat) (ret : Option FieldType) (d dn : Nat) (av : List Value) (n : Nat) (M : mc_M) (L : mc_L) (Qr : Option Value → mc_M → mc_L → Prop) (Qt : Nat → mc_M → mc_L → Prop) : Prop :=
  tab.length ≤ n → MetFree l y (headSpec (.code y cc maxL ret :: WL) (mc_rmd tab d dn n)) (va_Pc (av.map (mc_ga b)) (mc_B s0 D cl b cA true tab NW n M L)) (fun _ _ _ _ _ => True) (mc_Q1 D cl b cA tab n dn exn Qr Qt)
def mc_nwP (cl : List vw_C) (WL : List Cond) (own : String) (q : Nat × Nat) : Prop := ∃ (C : String) (T : u_T) (N : Nat), cl[q.2]? = some (C, T, N) ∧ Cond.classLink own q.1 C ∈ WL ∧ Cond.instantiable C N ∈ WL ∧ Cond.initialized C ∈ WL
section MIN
variable {md : Bool} {s0 : State} {l : Launch} {D : va_G} {cl : List vw_C} {b : Nat} {cA : Nat → ClassId} {tab : List mc_D} {WL NW : List Cond} {d dn : Nat} {own : String} {y : MethodName} {cc : ByteArray} {maxL : Nat} {ret : Option FieldType} {tb : List mc_R} {sh : mc_SH} {av : List Value} {n : Nat} {M : mc_M} {L : mc_L} {Qr : Option Value → mc_M → mc_L → Prop}
variable {Qt : Nat → mc_M → mc_L → Prop} {exn : Nat → String}
theorem mc_core (hyo : y.cls = own) (hN : NW.all mc_isN = true) (htk : mc_tok cl tab = true)
    (hcl : ∀ (ci : Nat) (C : String) (T : u_T) (N : Nat), cl[ci]? = some (C, T, N) → (∀ w ∈ u_ws C T N, w ∈ WL) ∧ ∀ a, a < N → ∀ b, b < N → a ≠ b → (T a).2.1 ≠ (T b).2.1)
    (htb : mc_tbok cc maxL tb = true) (hsw : mc_swok tb sh.2.2.2.2.2.2 = true) (hswL : mc_swokL tb sh.2.2.2.2.2.2 = true)
    (hfg : ∀ q ∈ sh.1.1, mc_fgP cl WL NW own q) (hfp : ∀ q ∈ sh.1.2, mc_fpP cl WL NW own y.name q)
    (hkc : ∀ q ∈ sh.2.2.2.2.1, Cond.constant own q.1 q.2 ∈ WL) (hkl : ∀ q ∈ sh.2.2.2.2.2.1, Cond.constantLong own q.1 q.2 ∈ WL)
    (hcal : ∀ q ∈ sh.2.1, mc_CO s0 l D cl b cA md tab WL NW d own q.1 q.2.1 q.2.2.1 q.2.2.2.1 q.2.2.2.2) (hexo : mc_EO s0 l D cl b cA tab WL NW exn d own cc sh.2.2.2.1)
    (hnwP : md = false → (∀ q ∈ sh.2.2.1, mc_nwP cl WL own q) ∧ mc_small tab = true ∧ ∀ t, t < 4 → Cond.arrayClass (mc_tt t) ∈ WL)
    (hlen : (lg_sl (av.map (mc_ga b))).length ≤ maxL)
    (body : ∀ K, mc_closed md tab n dn ret sh Qr Qt tb K → K 0 (mc_args av maxL) [] n M L) (hf : md = true → tab.length ≤ n) {p : Program} {e : Env} {s : State} {m : MethodId} {args : Array Value} {below : List Frame} {meth : Method} {c : Code} {s₁ : State} (B : BodyLoose p l y (headSpec (.code y cc maxL ret :: WL) (mc_rmd tab d dn n)) cc maxL ret e s m args below meth c s₁) (hml : c.maxLocals = maxL) (hv : va_Pc (av.map (mc_ga b)) (mc_B s0 D cl b cA md tab NW n M L) args s) :
    W p l e (mc_rmd tab d dn n) s m args below meth c s.heap [] 0 0 (mc_Q below s D cl b cA md tab n dn exn Qr Qt) (entryFrame m args maxL) := by
  obtain ⟨rfl, hP, hz, hK, hZ, hO⟩ := hv
  have hts := atoms_spec (ws := .code y cc maxL ret :: WL) B.pre
  have hown : s.vm.findClass own = some m.cls := hyo ▸ findClass_of_methodNamed B.named
  have hnm : meth.name = y.name := (name_of_methodNamed B.named B.method).1
  have hlnk : ∀ idx (t : String × String × String × Bool), mc_fw WL NW own idx t → mc_lnk own idx t (av.map (mc_ga b)).toArray s := by
    intro idx t h
    rcases h with h | ⟨host, h⟩
    · exact Or.inl (hts _ (List.mem_cons_of_mem _ h))
    · exact Or.inr ⟨host, va_Nw.use rfl (hZ _ h)⟩
  have hsd : ∀ {K : mc_K} (hKV : ∀ pc ls st n' M L, K pc ls st n' M L → mc_V p l e (mc_rmd tab d dn n) s m (av.map (mc_ga b)).toArray below meth c (mc_Q below s D cl b cA md tab n dn exn Qr Qt) D cl b cA md tab maxL n dn pc ls st n' M L)
      {x : Instr} {len tgt : Nat} {v : Int32} {pc : Nat} {ls : List (Option Value)} {st : List Value} {n' : Nat} {M : mc_M} {L : mc_L}, mc_lk tb pc = some (x, len, tgt, v) → mc_step md tab n dn ret sh Qr Qt K x tgt v pc ls st n' M L → mc_V p l e (mc_rmd tab d dn n) s m (av.map (mc_ga b)).toArray below meth c (mc_Q below s D cl b cA md tab n dn exn Qr Qt) D cl b cA md tab maxL n dn pc ls st n' M L := by
    intro K hKV x len tgt v pc ls st n' M L hlk h
    have hrow := List.all_eq_true.mp htb _ (mc_lk_mem hlk)
    simp only [Bool.and_eq_true, decide_eq_true_eq] at hrow
    refine mc_sound (own := own) (Ts := .code y cc maxL ret :: WL) (sh := sh) (ret := ret) B.exec B.bytes hown hts hK B.returns B.notSynchronized htk (fun ci C T N hc => ⟨fun w hw => List.mem_cons_of_mem _ ((hcl ci C T N hc).1 w hw), (hcl ci C T N hc).2⟩)
      (fun idx ci k hq => ?_) (fun idx ci k hq => ?_) (fun i w hq => hts _ (List.mem_cons_of_mem _ (hkc _ (mc_lk_mem hq)))) (fun i w hq => hts _ (List.mem_cons_of_mem _ (hkl _ (mc_lk_mem hq)))) hKV (fun idx kd a dn' F hq x hx pc ls av2 r n2 M2 L2 hdg h1 h2 h3 h4 => ?_) (fun i ci hq hmd pc2 ls2 st2 n2 M2 L2 fds hdg hd2 hn2 h2 => ?_) (fun hmd a2 t2 len2 pc2 ls2 r2 n2 M2 L2 hdg ht2 hty2 hd2 hn2 h2 => ?_) (fun i k hq => ?_) hrow.1 hrow.2 (fun cs d2 dflt lo hi offs hxe hq => ?_) (fun cs d2 dflt ps hxe hq => ?_) h
    · obtain ⟨C, T, N, g1, g2, g3⟩ := hfg _ (mc_lk_mem hq)
      exact ⟨C, T, N, g1, g2, hlnk _ _ g3⟩
    · obtain ⟨C, T, N, g1, g2, g3⟩ := hfp _ (mc_lk_mem hq)
      refine ⟨C, T, N, g1, g2, ?_⟩
      rcases g3 with ⟨g4, g5⟩ | ⟨g4, g5, g6, g7⟩
      · exact Or.inl ⟨g4, hlnk _ _ g5⟩
      · exact Or.inr ⟨g4, g5, by rw [hnm]; exact g6, hts _ (List.mem_cons_of_mem _ g7)⟩
    · obtain ⟨g1, g2⟩ := hcal _ (mc_lk_mem hq)
      exact g2 p e _ s m _ below meth c _ maxL _ dn cc (.code y cc maxL ret) B.exec B.bytes hml hown hts hK hZ hO rfl x hx pc ls _ r _ _ _ hdg h1 h2 h3 (g1 _ _ _ _ _ _ (fun rv M L z => hKV _ _ _ _ _ _ z) h4)
    · subst hmd
      obtain ⟨C, T, N, g1, g2, g3, g4⟩ := (hnwP rfl).1 _ (mc_lk_mem hq)
      exact mv_new B.exec B.bytes hts hown hK htk rfl (fun w hw => List.mem_cons_of_mem _ ((hcl _ C T N g1).1 w hw)) g1 (hts _ (List.mem_cons_of_mem _ g2)) (hts _ (List.mem_cons_of_mem _ g3)) (hts _ (List.mem_cons_of_mem _ g4)) hdg hd2 hn2 (hKV _ _ _ _ _ _ h2)
    · subst hmd
      exact mv_newarr B.exec B.bytes hK (hnwP rfl).2.1 rfl (by rw [hty2]; exact hts _ (List.mem_cons_of_mem _ ((hnwP rfl).2.2 t2 ht2))) hdg ht2 hty2 hd2 hn2 (hKV _ _ _ _ _ _ h2)
    · intro hmd pc2 ls2 n2 M2 L2 hdg h1 h2
      subst hmd
      exact hexo p e _ s m _ below meth c Qr Qt maxL n dn (.code y cc maxL ret) B.exec B.bytes hml hown hts hO rfl B.notSynchronized (B.noHandlers (hts _ List.mem_cons_self)) ⟨_, _, hP⟩ (hf rfl) i k hq pc2 ls2 n2 M2 L2 hdg h1 h2
    · have h5 := List.all_eq_true.mp hsw _ (mc_lk_mem hlk)
      subst hxe
      rw [hq] at h5
      exact h5
    · have h5 := List.all_eq_true.mp hswL _ (mc_lk_mem hlk)
      subst hxe
      rw [hq] at h5
      exact (Bool.and_eq_true _ _).mp h5
  have hwp : ∀ (cut : List Nat) (f : Nat) (pc : Nat) ls st n' M L, mc_wp md tab n dn ret sh Qr Qt tb cut (mc_V p l e (mc_rmd tab d dn n) s m (av.map (mc_ga b)).toArray below meth c (mc_Q below s D cl b cA md tab n dn exn Qr Qt) D cl b cA md tab maxL n dn) f pc ls st n' M L → mc_V p l e (mc_rmd tab d dn n) s m (av.map (mc_ga b)).toArray below meth c (mc_Q below s D cl b cA md tab n dn exn Qr Qt) D cl b cA md tab maxL n dn pc ls st n' M L := by
    intro cut f
    induction f with
    | zero => exact fun pc ls st n' M L h => h
    | succ f ih =>
      intro pc ls st n' M L h
      unfold mc_wp at h
      split at h
      · exact h
      · split at h
        · next x len tgt v hlk => exact hsd ih hlk h
        · exact h.elim
  have hV := body (mc_V p l e (mc_rmd tab d dn n) s m (av.map (mc_ga b)).toArray below meth c (mc_Q below s D cl b cA md tab n dn exn Qr Qt) D cl b cA md tab maxL n dn) ⟨fun cut f pc ls st n' M L h => by
    unfold mc_run at h
    split at h
    · next x len tgt v hlk => exact hsd (hwp cut f) hlk h
    · exact h.elim, fun ks pc ls st n' M L h => mv_kp ks h⟩
  have hl := lv_entry (av.map (mc_ga b)) (n := maxL) hlen
  rw [lg_entry_eq]
  have hW := hV ⟨Nat.le_refl _, Nat.le_add_right _ _⟩ hf s.heap [] _ hP hz va_S.rf (mc_lv_entry hl)
  rw [Nat.sub_self, Nat.sub_self] at hW
  exact hW
theorem mc_intro (hy : plainName y.cls = true) (hyo : y.cls = own) (hN : NW.all mc_isN = true) (htk : mc_tok cl tab = true)
    (hcl : ∀ (ci : Nat) (C : String) (T : u_T) (N : Nat), cl[ci]? = some (C, T, N) → (∀ w ∈ u_ws C T N, w ∈ WL) ∧ ∀ a, a < N → ∀ b, b < N → a ≠ b → (T a).2.1 ≠ (T b).2.1)
    (htb : mc_tbok cc maxL tb = true) (hsw : mc_swok tb sh.2.2.2.2.2.2 = true) (hswL : mc_swokL tb sh.2.2.2.2.2.2 = true)
    (hfg : ∀ q ∈ sh.1.1, mc_fgP cl WL NW own q) (hfp : ∀ q ∈ sh.1.2, mc_fpP cl WL NW own y.name q)
    (hkc : ∀ q ∈ sh.2.2.2.2.1, Cond.constant own q.1 q.2 ∈ WL) (hkl : ∀ q ∈ sh.2.2.2.2.2.1, Cond.constantLong own q.1 q.2 ∈ WL)
    (hcal : ∀ q ∈ sh.2.1, mc_CO s0 l D cl b cA true tab WL NW d own q.1 q.2.1 q.2.2.1 q.2.2.2.1 q.2.2.2.2) (hex : sh.2.2.2.1 = [])
    (hlen : (lg_sl (av.map (mc_ga b))).length ≤ maxL)
    (body : ∀ K, mc_closed true tab n dn ret sh Qr (fun _ _ _ => False) tb K → K 0 (mc_args av maxL) [] n M L) : mc_CT s0 l D cl b cA true tab WL NW y cc maxL ret d dn av n M L Qr := by
  intro hf
  refine Met.ofW (cc := cc) (maxL := maxL) (ret := ret) hy rfl ?_
  intro p e s m args below meth c s₁ B hml hv
  refine mw_mono ?_ (mc_core (Qt := fun _ _ _ => False) (exn := fun _ => "") hyo hN htk hcl htb hsw hswL hfg hfp hkc hkl hcal (fun p e R s m args below meth c Qr Qt nL n0 dn c0 _ _ _ _ _ _ _ _ _ _ _ i k hq => by rw [hex] at hq; cases hq) (fun z => by cases z) hlen body hf B hml hv)
  rintro t ⟨o, t1, t2, t3, t4, ⟨Lc, t5, t6⟩, M', L', t7, t8, t9⟩
  rcases t9 with ⟨rv, t10, t11⟩ | ⟨a, k, t10, t11, t12⟩
  · exact ⟨o, t1, t2, ⟨⟨rv, M', L', t10, t11, t7, t8⟩, t4⟩, Lc, ⟨⟨_, t10⟩, t3, t5⟩, t6⟩
  · exact t11.elim
theorem mc_introB (hy : plainName y.cls = true) (hyo : y.cls = own) (hN : NW.all mc_isN = true) (htk : mc_tok cl tab = true)
    (hcl : ∀ (ci : Nat) (C : String) (T : u_T) (N : Nat), cl[ci]? = some (C, T, N) → (∀ w ∈ u_ws C T N, w ∈ WL) ∧ ∀ a, a < N → ∀ b, b < N → a ≠ b → (T a).2.1 ≠ (T b).2.1)
    (htb : mc_tbok cc maxL tb = true) (hsw : mc_swok tb sh.2.2.2.2.2.2 = true) (hswL : mc_swokL tb sh.2.2.2.2.2.2 = true)
    (hfg : ∀ q ∈ sh.1.1, mc_fgP cl WL NW own q) (hfp : ∀ q ∈ sh.1.2, mc_fpP cl WL NW own y.name q)
    (hkc : ∀ q ∈ sh.2.2.2.2.1, Cond.constant own q.1 q.2 ∈ WL) (hkl : ∀ q ∈ sh.2.2.2.2.2.1, Cond.constantLong own q.1 q.2 ∈ WL)
    (hcal : ∀ q ∈ sh.2.1, mc_CO s0 l D cl b cA false tab WL NW d own q.1 q.2.1 q.2.2.1 q.2.2.2.1 q.2.2.2.2) (hex : sh.2.2.2.1 = [])
    (hnwP : (∀ q ∈ sh.2.2.1, mc_nwP cl WL own q) ∧ mc_small tab = true ∧ ∀ t, t < 4 → Cond.arrayClass (mc_tt t) ∈ WL)
    (hlen : (lg_sl (av.map (mc_ga b))).length ≤ maxL)
    (body : ∀ K, mc_closed false tab n dn ret sh Qr (fun _ _ _ => False) tb K → K 0 (mc_args av maxL) [] n M L) : mc_CT s0 l D cl b cA false tab WL NW y cc maxL ret d dn av n M L Qr := by
  intro hf
  refine Met.ofW (cc := cc) (maxL := maxL) (ret := ret) hy rfl ?_
  intro p e s m args below meth c s₁ B hml hv
  refine mw_mono ?_ (mc_core (Qt := fun _ _ _ => False) (exn := fun _ => "") hyo hN htk hcl htb hsw hswL hfg hfp hkc hkl hcal (fun p e R s m args below meth c Qr Qt nL n0 dn c0 _ _ _ _ _ _ _ _ _ _ _ i k hq => by rw [hex] at hq; cases hq) (fun _ => hnwP) hlen body hf B hml hv)
  rintro t ⟨o, t1, t2, t3, t4, ⟨Lc, t5, t6⟩, M', L', t7, t8, t9⟩
  rcases t9 with ⟨rv, t10, t11⟩ | ⟨a, k, t10, t11, t12⟩
  · exact ⟨o, t1, t2, ⟨⟨rv, M', L', t10, t11, t7, t8⟩, t4⟩, Lc, ⟨⟨_, t10⟩, t3, t5⟩, t6⟩
  · exact t11.elim
theorem mc_introX (hy : plainName y.cls = true) (hyo : y.cls = own) (hN : NW.all mc_isN = true) (htk : mc_tok cl tab = true)
    (hcl : ∀ (ci : Nat) (C : String) (T : u_T) (N : Nat), cl[ci]? = some (C, T, N) → (∀ w ∈ u_ws C T N, w ∈ WL) ∧ ∀ a, a < N → ∀ b, b < N → a ≠ b → (T a).2.1 ≠ (T b).2.1)
    (htb : mc_tbok cc maxL tb = true) (hsw : mc_swok tb sh.2.2.2.2.2.2 = true) (hswL : mc_swokL tb sh.2.2.2.2.2.2 = true)
    (hfg : ∀ q ∈ sh.1.1, mc_fgP cl WL NW own q) (hfp : ∀ q ∈ sh.1.2, mc_fpP cl WL NW own y.name q)
    (hkc : ∀ q ∈ sh.2.2.2.2.1, Cond.constant own q.1 q.2 ∈ WL) (hkl : ∀ q ∈ sh.2.2.2.2.2.1, Cond.constantLong own q.1 q.2 ∈ WL)
    (hcal : ∀ q ∈ sh.2.1, mc_CO s0 l D cl b cA true tab WL NW d own q.1 q.2.1 q.2.2.1 q.2.2.2.1 q.2.2.2.2) (hexo : mc_EO s0 l D cl b cA tab WL NW exn d own cc sh.2.2.2.1)
    (hlen : (lg_sl (av.map (mc_ga b))).length ≤ maxL)
    (body : ∀ K, mc_closed true tab n dn ret sh Qr Qt tb K → K 0 (mc_args av maxL) [] n M L) : mc_CX s0 l D cl b cA tab WL NW exn y cc maxL ret d dn av n M L Qr Qt := by
  intro hf
  refine MetFree.of_bodyS (code := cc) (maxLocals := maxL) (ret := ret) hy ?_ ?_
  · intro args s m h hn
    obtain ⟨meth, c, h1, h2, h3, h4, h5, h6, -, -⟩ := Cond.code_spec hn (atoms_spec (ws := .code y cc maxL ret :: WL) h _ List.mem_cons_self)
    exact ⟨meth, c, h1, h2, h3, h4, h5, h6⟩
  · intro p e s m args below meth c s₁ B hml hP _
    have hh0 : s₁.heap = s.heap := by rw [B.state]; rfl
    obtain ⟨t, a1, o, b1, b2, b3⟩ := mc_core hyo hN htk hcl htb hsw hswL hfg hfp hkc hkl hcal hexo (fun z => by cases z) hlen body (fun _ => hf) B hml hP s₁ hh0 (Stand.of_body B)
    exact ⟨t, o, a1, b1, b2, b3⟩
end MIN
end
section
/-! a call that may throw, and the handlers of the walked method -/
section MXC
variable {p : Program} {l : Launch} {e : Env} {R : Room} {s : State} {m : MethodId} {args : Array Value} {below : List Frame} {meth : Method} {c : Code} {T : State} {locs : List Loc} {cells slots : Nat}
theorem mx_callX (X : Stand p l e R s m args below meth c T locs cells slots) (hexec : p.tables.exec = Jvm.exec) {own C : String} {index : Nat} {y : MethodName} {bytes : ByteArray} {maxL : Nat} {ret : Option FieldType} {ws : List Cond} {rm : Room} {Pc : Array Value → State → Prop} {Qc : Array Value → State → Outcome → State → Prop} {dn ds : Nat} {free : Addr → Prop}
    (hM : MetFree l y (headSpec ws rm) Pc (fun _ _ _ _ _ => True) Qc) (hbl : FrameBlind Pc) (hrf : rm.frames + 1 ≤ R.frames) (hrl : 8 + (maxL + 11) + rm.locals ≤ R.locals) (hrc : cells + rm.cells ≤ R.cells) (hrs : slots + rm.slots ≤ R.slots)
    (hws : ∀ w ∈ ws, ∀ (a' : Array Value) (U : State), s.WarmedH U.vm → w.before a' U = true) (hcw : Cond.code y bytes maxL ret ∈ ws)
    (hQ : ∀ a st o t, Qc a st o t → st.WarmedH t.vm ∧ ∃ L, st.sameButNew ({ t with vm := st.vm } : State) L dn ds ∧ ∀ q ∈ L, free q.base)
    (hown : s.vm.findClass own = some m.cls) (hlink : (Cond.methodLink own index y).before args s = true) (hinst : (Cond.instanceMethod y).before args s = true) (hsel : (Cond.selects C y y).before args s = true)
    (hcode : (Cond.code y bytes maxL ret).before args s = true) (hini : (Cond.initialized y.cls).before args s = true) (hy : y.cls ≠ "java/lang/invoke/MethodHandle" ∧ y.cls ≠ "java/lang/invoke/VarHandle")
    {b : Addr} {cellB : Cell} (hcell : T.heap[b]? = some cellB) (hobj : cellB.vm.isStatics = false) (hcls : s.vm.findClass C = some cellB.cls)
    {g : JFrame} (hg : g.method = m) (hsize : g.locals.size = c.maxLocals) {argsL rest : List Value} (hlen : ∀ sig, parseMethodDescriptor y.desc = some sig → argsL.length = sig.parameters.length)
    (hstack : g.stack = argsL.reverse ++ .ref b :: rest) (hW : 2 * g.monitorRoom + (rest.map fun v => v.category).sum ≤ 8) (hdg : decode c.code g.pc = .ok (.invokevirtual index, 3))
    (hPc : ∀ U : State, U.heap = T.heap → s.WarmedH U.vm → Pc (Value.ref b :: argsL).toArray U) :
    ∃ (o : Outcome) (st₀ t T' : State) (L : List Loc), st₀.heap = T.heap ∧ s.WarmedH st₀.vm ∧ Qc (Value.ref b :: argsL).toArray st₀ o t ∧ (∀ q ∈ L, free q.base) ∧ Stand p l e R s m args below meth c T' (locs ++ L) (cells + dn) (slots + ds) ∧ T'.heap = t.heap ∧ T'.vm = t.vm ∧
      ((∃ v, o = .returned v ∧ ∀ target, Steps p.tables e below (T'.setTop { g with pc := g.pc + 3, stack := v.toList ++ rest }) target → Steps p.tables e below (T.setTop g) target) ∨
       (∃ x, o = .threw x ∧ ∀ target, Steps p.tables e below ((T'.setTop { g with stack := rest }).pushFrame (.throwing x)) target → Steps p.tables e below (T.setTop g) target)) := by
  obtain ⟨mk, methM, hnamed, hmethM, hstM, habM⟩ := Cond.instanceMethod_spec hinst
  obtain ⟨methM', cM, hmethM', hcM, -, hlM, -, -, -, hsigM⟩ := Cond.code_spec hnamed hcode
  cases hmethM.symm.trans hmethM'
  obtain ⟨c2, r2, m2, q1, q2, q3, q4, kP, hkP, hkPi⟩ := Cond.selects_spec hsel
  cases hcls.symm.trans q1
  cases (State.methodFound?_of_named hnamed hy).symm.trans q2
  cases hnamed.symm.trans q3
  have hselP : selectMethod e.platform s.vm cellB.cls mk = .method mk := by rw [Launch.admits_selectMethod X.admits]; exact q4
  obtain ⟨vm₁, X₁, hstep₁⟩ := X.invokevirtual hexec hown hlink hnamed hmethM hstM hkP hkPi hy (a := b) (cell := cellB) hcell
    (fun z h => by rw [h] at hobj; cases hobj) hselP hmethM habM hkP hkPi (g := g) hg (argsL := argsL) (rest := rest) (hlen _ hsigM) hstack hdg
  have hW₁ : s.WarmedH (T.setVm vm₁).vm := X₁.warmed
  have hn₁ : (T.setVm vm₁).methodNamed? y = some mk := X₁.named hnamed
  have hc₁ : (Cond.code y bytes maxL ret).before (Value.ref b :: argsL).toArray (T.setVm vm₁) = true := hws _ hcw _ _ hW₁
  obtain ⟨methY, cY, hmY, hcY, -, hlY, -, -, -, -⟩ := Cond.code_spec hn₁ hc₁
  obtain ⟨kY, hkY, -⟩ := className_of_methodNamed hn₁
  have hini₁ : (Cond.initialized y.cls).before (Value.ref b :: argsL).toArray (T.setVm vm₁) = true := word_at hW₁ (Or.inl (by first | rfl | simp [Cond.onTables, Cond.keeps, Cond.steady])) hini
  have hinitY : kY.init = .initialized := Cond.initialized_spec (findClass_of_methodNamed hn₁) hkY hini₁
  subst hg
  have h : At (T.setVm vm₁) g.method c below := X₁.here
  have happ : (headSpec ws rm).appliesLoose y e.platform ((T.setVm vm₁).calling { g with stack := rest } mk (Value.ref b :: argsL).toArray) = true :=
    Spec.appliesLoose_calling (g := { g with stack := rest }) h hdg hn₁ hkY hinitY
      (X₁.room_calling (g := { g with stack := rest }) (R' := rm) hsize hmY hcY hrf (by rw [hlY]; dsimp only; omega) hrc hrs) (atoms_intro fun w hw => hws w hw _ _ hW₁)
  obtain ⟨mid, hmid⟩ := h.above
  have hfr : ((T.setVm vm₁).setTop { g with stack := rest }).frames = (.java { g with stack := rest } :: mid) ++ below := by rw [State.frames_setTop' _ h.top, hmid]; rfl
  obtain ⟨o, s₂, hsteps, -, hend, hq⟩ := Steps.callFree hM p X₁.admits X₁.cas X₁.clock (acts := []) hfr happ (hbl _ _ _ _ (hPc _ rfl hW₁)) trivial
  have hq' : Qc (Value.ref b :: argsL).toArray ((T.setVm vm₁).calling { g with stack := rest } mk (Value.ref b :: argsL).toArray) o s₂ := hq
  obtain ⟨w1, L, w2, w3⟩ := hQ _ _ _ _ hq'
  rw [State.frames_setTop' _ h.top, X₁.tail] at hend
  cases o with
  | returned v =>
    obtain ⟨T', Y1, Y2, Y3, Y4⟩ := X₁.outOf (g := { g with stack := rest }) rfl hdg hend w1 w2
    refine ⟨.returned v, ((T.setVm vm₁).calling { g with stack := rest } mk (Value.ref b :: argsL).toArray), s₂, T', L, rfl, hW₁, hq', w3, Y1, ?_, ?_, Or.inl ⟨v, rfl, fun target hrest => hstep₁ _ fun acts => ?_⟩⟩
    · rw [Y4]
      simp [State.setFrames, State.setTop, State.modifyTopJava]
    · rw [Y4]
      simp [State.setFrames, State.setTop, State.modifyTopJava]
    · rw [doInvoke_state]
      rw [Y4] at hsteps
      exact hsteps.trans hrest
  | threw x =>
    obtain ⟨T', Y1, Y2, Y3, Y4⟩ := X₁.outOfThrown (g := { g with stack := rest }) rfl hend w1 w2
    refine ⟨.threw x, ((T.setVm vm₁).calling { g with stack := rest } mk (Value.ref b :: argsL).toArray), s₂, T', L, rfl, hW₁, hq', w3, Y1, ?_, ?_, Or.inr ⟨x, rfl, fun target hrest => hstep₁ _ fun acts => ?_⟩⟩
    · rw [Y4]
      simp [State.pushFrame, State.setFrames, State.setTop, State.modifyTopJava]
    · rw [Y4]
      simp [State.pushFrame, State.setFrames, State.setTop, State.modifyTopJava]
    · rw [doInvoke_state]
      rw [Y4] at hsteps
      exact hsteps.trans hrest
end MXC
/-! the search for a handler: each row that covers the place names a class by a link; the first one whose class takes the object catches it -/
def mx_FT (e : Env) (s : State) (f : JFrame) (a : Addr) (h : Handler) (vm' : Vm) : Prop := ∀ (Q : Handler → Pre) (E : CtlPost) (d : Bool) (acts : List Action), wp (findHandler f a) Q E e d acts s ↔ Q h d acts (s.setVm vm')
section MXH
variable {Q : Handler → Pre} {E : CtlPost} {e : Env} {d : Bool} {acts : List Action} {s : State} {f : JFrame} {a : Addr}
theorem mx_go {x : ExceptionTableEntry} {t : List ExceptionTableEntry} {c : ClassId} {cell : Cell} (hx : covers x f.pc = true) (h0 : x.catchType ≠ 0)
    (hl : s.vm.ClassLinks e.platform f.method.cls x.catchType c) (hcell : s.heap[a]? = some cell) (hobj : ∀ k, cell.vm ≠ .statics k)
    (hk : ∃ k, s.vm.classes[cell.cls]? = some k) (hc : ∃ k, s.vm.classes[c]? = some k) :
    wp (findHandler.go f a (x :: t)) Q E e d acts s ↔ (if s.vm.assignable cell.cls c = true then Q (.found x.handlerPc) d acts (s.setVm (s.vm.noted f.method.cls x.catchType (.cls c))) else wp (findHandler.go f a t) Q E e d acts (s.setVm (s.vm.noted f.method.cls x.catchType (.cls c)))) := by
  simp only [covers] at hx
  obtain ⟨ha, ht⟩ := (resolveClass_links e.toSetting hl).op (op := VmOp.resolveClass f.method.cls x.catchType) rfl
  have hal : s.vm.Alike (s.vm.noted f.method.cls x.catchType (.cls c)) := (Vm.Alike.refl s.vm).noted _ _ _
  obtain ⟨k1, hk1⟩ := hk
  obtain ⟨k2, hk2⟩ := hc
  obtain ⟨k1', hk1', -⟩ := hal.2.2 _ _ hk1
  obtain ⟨k2', hk2', -⟩ := hal.2.2 _ _ hk2
  have hfe : (s.vm.noted f.method.cls x.catchType (.cls c)).assignable cell.cls c = s.vm.assignable cell.cls c := by rw [hal.assignable]
  by_cases hfit : s.vm.assignable cell.cls c = true
  · rw [if_pos hfit]
    rw [hfit] at hfe
    simp [findHandler.go, hx, h0, ha, ht, hcell, hobj, hk1', hk2', hfe, VmOp.dirties, VmOp.acts]
  · rw [if_neg hfit]
    have hno : s.vm.assignable cell.cls c = false := by simpa using hfit
    rw [hno] at hfe
    simp [findHandler.go, hx, h0, ha, ht, hcell, hobj, hk1', hk2', hfe, VmOp.dirties, VmOp.acts]
end MXH
theorem mx_search {e : Env} {s0 : State} {f : JFrame} {a : Addr} {cell : Cell} (hobj : ∀ k, cell.vm ≠ .statics k) (hk0 : ∃ k, s0.vm.classes[cell.cls]? = some k) (x : ExceptionTableEntry) (rest : List ExceptionTableEntry) :
    ∀ (pre : List ExceptionTableEntry) (S : State), s0.WarmedH S.vm → S.heap[a]? = some cell → (∀ y ∈ pre ++ [x], covers y f.pc = true ∧ y.catchType ≠ 0 ∧ ∃ c, s0.vm.ClassLinks e.platform f.method.cls y.catchType c ∧ s0.vm.assignable cell.cls c = decide (y = x)) → x ∉ pre →
      ∃ vm', s0.WarmedH vm' ∧ ∀ (Q : Handler → Pre) (E : CtlPost) (d : Bool) (acts : List Action), wp (findHandler.go f a (pre ++ x :: rest)) Q E e d acts S ↔ Q (.found x.handlerPc) d acts (S.setVm vm') := by
  obtain ⟨k0, hk0⟩ := hk0
  intro pre
  induction pre with
  | nil =>
    intro S hW hcell hall _
    obtain ⟨h1, h2, c, hl, hfit⟩ := hall x (by simp)
    obtain ⟨k0', hk0', -⟩ := hW.alike.2.2 _ _ hk0
    obtain ⟨dk, _, _, kt, hd, _, _, _, _, hkt, _, hopen⟩ := hl.here
    obtain ⟨kt', hkt', -⟩ := hW.alike.2.2 _ _ hkt
    refine ⟨_, hW.noted hd hopen (State.rightAt_cls hl), fun Q E d acts => ?_⟩
    rw [List.nil_append, mx_go h1 h2 (hW.classLinks hl) hcell hobj ⟨k0', hk0'⟩ ⟨kt', hkt'⟩, hW.alike.assignable, hfit, if_pos (by simp)]
  | cons y ys ih =>
    intro S hW hcell hall hne
    obtain ⟨h1, h2, c, hl, hfit⟩ := hall y (by simp)
    have hyx : ¬ y = x := fun z => hne (by simp [z])
    obtain ⟨k0', hk0', -⟩ := hW.alike.2.2 _ _ hk0
    obtain ⟨dk, _, _, kt, hd, _, _, _, _, hkt, _, hopen⟩ := hl.here
    obtain ⟨kt', hkt', -⟩ := hW.alike.2.2 _ _ hkt
    obtain ⟨vm', hW', hq⟩ := ih (S.setVm (S.vm.noted f.method.cls y.catchType (.cls c))) (hW.noted hd hopen (State.rightAt_cls hl)) hcell (fun z hz => hall z (by simp only [List.cons_append, List.mem_cons]; exact Or.inr hz)) (fun z => hne (List.mem_cons_of_mem _ z))
    refine ⟨vm', hW', fun Q E d acts => ?_⟩
    rw [List.cons_append, mx_go h1 h2 (hW.classLinks hl) hcell hobj ⟨k0', hk0'⟩ ⟨kt', hkt'⟩, hW.alike.assignable, hfit, if_neg (by simp [hyx])]
    exact hq Q E d acts
theorem mx_step {e : Env} {s : State} {a : Addr} {f : JFrame} {r : List Frame} {pc : Nat} {vm' : Vm} (hfind : mx_FT e s f a (.found pc) vm') :
    (stepThrowing e s a (.java f :: r)).Is ((s.setVm vm').setFrames (.java { f with pc := pc, stack := [.ref a] } :: r)) [] := by
  simp only [stepThrowing, searchFrame, vmDo]
  generalize hr : Sem.go _ e false [] s = res
  obtain ⟨as, rfl, ha⟩ := Sem.eq_ok_of hr (a := Handler.found pc) (s' := s.setVm vm') (acts' := []) (by simp [hfind _ _ _ _])
  exact ⟨rfl, ha⟩
theorem mx_caught {tb : Tables} {e : Env} {s target : State} {g : JFrame} {c : Code} {below : List Frame} {a : Addr} (h : At s g.method c below) {pc : Nat} {vm' : Vm}
    (hfind : mx_FT e ((s.setTop g).pushFrame (.throwing a)) g a (.found pc) vm') (hrest : Steps tb e below ((s.setVm vm').setTop { g with pc := pc, stack := [.ref a] }) target) :
    Steps tb e below ((s.setTop g).pushFrame (.throwing a)) target := by
  obtain ⟨hgo, hw⟩ := h.throwing a
  refine Steps.head hgo hw ?_
  rw [stepThread_throwing (frames_entered h.top _), (mx_step (s := (s.setTop g).pushFrame (.throwing a)) hfind).1]
  obtain ⟨g₀, hg⟩ := Option.isSome_iff_exists.mp h.top
  obtain ⟨r, hr⟩ := State.topJava?_eq_some.mp hg
  have hr' : (s.setVm vm').frames = .java g₀ :: r := hr
  have sv : ∀ (u : State) (F G : List Frame), ((u.setFrames F).setVm vm').setFrames G = (u.setVm vm').setFrames G := by
    intro u F G
    have h1 : (u.setFrames F).setVm vm' = (u.setVm vm').setFrames F := rfl
    rw [h1, State.setFrames_setFrames]
  rw [State.setTop_of_frames _ hr'] at hrest
  rw [hr, List.tail_cons, State.pushFrame, sv, State.setTop_of_frames _ hr, sv]
  exact hrest
end
section
/-- whether an object of the class t can be taken for one of the class c -/
def mx_as (s : State) (t c : String) (r : Bool) : Prop := ∃ (ct cc : ClassId), s.vm.findClass t = some ct ∧ s.vm.findClass c = some cc ∧ s.vm.assignable ct cc = r ∧ ∃ k, s.vm.classes[ct]? = some k
theorem mx_as.moved {s U : State} {t c : String} {r : Bool} (h : s.vm.Alike U.vm) (k : mx_as s t c r) : mx_as U t c r := by
  obtain ⟨ct, cc, h1, h2, h3, kk, h4⟩ := k
  obtain ⟨k', hk', -⟩ := h.2.2 _ _ h4
  exact ⟨ct, cc, by rw [h.findClass]; exact h1, by rw [h.findClass]; exact h2, by rw [h.assignable]; exact h3, k', hk'⟩
/-- a handler: it stores the object and returns a constant -/
def mx_hd (cc : ByteArray) (nL hpc : Nat) (val : Int32) : Prop :=
  (∃ (j : Nat) (z : Int), decode cc hpc = .ok (.astore j, 2) ∧ j < nL ∧ decode cc (hpc + 2) = .ok (.iconst z, 1) ∧ Int32.ofInt z = val ∧ decode cc (hpc + 2 + 1) = .ok (.ireturn, 1)) ∨
  (∃ (j : Fin 4) (z : Int), decode cc hpc = .ok (.astore_n j, 1) ∧ j.val < nL ∧ decode cc (hpc + 1) = .ok (.iconst z, 1) ∧ Int32.ofInt z = val ∧ decode cc (hpc + 1 + 1) = .ok (.ireturn, 1))
/-- which row catches an object of the kind k: the rows ahead of it don't take it -/
def mx_row (s : State) (own : String) (exn : Nat → String) (WL : List Cond) (hs : List ExceptionTableEntry) (pc k : Nat) (x : ExceptionTableEntry) : Prop :=
  ∃ pre rest, hs = pre ++ x :: rest ∧ x ∉ pre ∧ ∀ y ∈ pre ++ [x], covers y pc = true ∧ y.catchType ≠ 0 ∧ ∃ nm, Cond.classLink own y.catchType nm ∈ WL ∧ mx_as s (exn k) nm (decide (y = x))
section MTR
variable {p : Program} {l : Launch} {e : Env} {R : Room} {s : State} {m : MethodId} {args : Array Value} {below : List Frame} {meth : Method} {c : Code}
variable {D : va_G} {cl : List vw_C} {b : Nat} {cA : Nat → ClassId} {tab : List mc_D} {nL n0 dn : Nat}
variable {cc : ByteArray} {pc : Nat} {ls : List (Option Value)} {r as : List Value} {n : Nat} {M : mc_M} {L : mc_L} {exn : Nat → String} {Qr : Option Value → mc_M → mc_L → Prop} {Qt : Nat → mc_M → mc_L → Prop} {WL NW : List Cond} {s0 : State} {d d' : Nat}
theorem mv_try {own : String} {idx q a ci maxL : Nat} {y : MethodName} {bytes : ByteArray} {ret : Option FieldType} {T : u_T} {N : Nat} {fds : List Nat} {c0 : Cond} {hs : List ExceptionTableEntry}
    (hx : p.tables.exec = Jvm.exec) (hb : c.code = cc) (hml : c.maxLocals = nL) (hret : meth.sig.returnType = some .int) (hlk : meth.locks = false) (hown : s.vm.findClass own = some m.cls) (hts : ∀ w ∈ c0 :: WL, w.before args s = true) (hK : va_K D cl (mc_ty cA) s) (hZ : mc_NW NW s) (hO : mc_O s0 b s) (hR : R = mc_rmd tab d dn n0)
    (hhs : c.exceptionTable.toList = hs) (hN : NW.all mc_isN = true) (hW : WL.all goodWord = true) (hc : Cond.code y bytes maxL ret ∈ WL) (hl : Cond.methodLink own idx y ∈ WL) (hini : Cond.initialized y.cls ∈ WL) (hinst : Cond.instanceMethod y ∈ WL) (hsel : Cond.selects y.cls y y ∈ WL)
    (hd : y.cls ≠ "java/lang/invoke/MethodHandle" ∧ y.cls ≠ "java/lang/invoke/VarHandle" ∧ (parseMethodDescriptor y.desc).map (fun d => d.parameters.length) = some a) (hlev : d' + 1 ≤ d ∧ maxL ≤ 21) (hcl : cl[ci]? = some (y.cls, T, N)) (hq : tab[q]? = some (.inr (ci, fds))) (hal : as.length = a) (hdg : decode cc pc = .ok (.invokevirtual idx, 3)) (hw8 : mc_w r ≤ 8) (hroom : n + 1 ≤ n0 + dn)
    (h : mc_CX s0 l D cl b cA tab WL NW exn y bytes maxL ret d' 1 (.ref q :: as) n M L (fun rv M' L' => mc_V p l e R s m args below meth c (mc_Q below s D cl b cA true tab n0 dn exn Qr Qt) D cl b cA true tab nL n0 dn (pc + 3) ls (rv.toList ++ r) (n + 1) M' L')
      (fun k M' L' => ∃ x val, mx_row s own exn WL hs pc k x ∧ mx_hd cc nL x.handlerPc val ∧ Qr (some (.int val)) M' L')) : mc_V p l e R s m args below meth c (mc_Q below s D cl b cA true tab n0 dn exn Qr Qt) D cl b cA true tab nL n0 dn pc ls ((.ref q :: as).reverse ++ r) n M L := by
  intro h0 hf H locs lsC hP hz hS hl0 T0 hT X
  have hle : tab.length ≤ n := hf rfl
  have hqn : q < n := Nat.lt_of_lt_of_le (List.getElem?_eq_some_iff.mp hq).1 hle
  have hG := mc_good hW hc c0
  have he : (mc_wd b cA true tab n M L)[q]? = some (b + q, .inr (ci, (fds.mapIdx (fun k fd => mc_fv true M q k fd)).map (mc_ga b))) := mc_wd_in hqn hq
  obtain ⟨cellB, r1, r2, r3⟩ := va_recv hK hP hcl he
  obtain ⟨g1, g2⟩ := mc_roomle (tab := tab) (d := d) (dn' := 1) h0.1 hroom
  obtain ⟨o, st₀, t, T', Lc, e0, w0, hq1, hfr, X', e1, e2, hout⟩ := mx_callX X hx (free := mc_A true b tab.length) (own := own) (C := y.cls) (index := idx) (h hle) (mc_blind hN) (by rw [hR]; exact hlev.1) (by rw [hR]; show 8 + (maxL + 11) + 40 * d' ≤ 40 * d; omega) (by rw [hR]; exact g1) (by rw [hR]; exact g2) (pay_in hts hG) List.mem_cons_self
    (fun a st o t hh => ⟨hh.1, by obtain ⟨Lc, z1, z2⟩ := hh.2.2.1; exact ⟨Lc, z1, z2⟩⟩)
    hown (hts _ (List.mem_cons_of_mem _ hl)) (hts _ (List.mem_cons_of_mem _ hinst)) (hts _ (List.mem_cons_of_mem _ hsel)) (hts _ (List.mem_cons_of_mem _ hc)) (hts _ (List.mem_cons_of_mem _ hini)) ⟨hd.1, hd.2.1⟩ (b := b + q) (cellB := cellB) (by rw [hT]; exact r1) r2 r3
    (g := F0 m pc lsC (((Value.ref q :: as).reverse ++ r).map (mc_ga b))) rfl (by rw [hml]; exact hl0.1) (argsL := as.map (mc_ga b)) (rest := r.map (mc_ga b)) (fun sig hsg => by
      have h2 := hd.2.2
      rw [hsg] at h2
      rw [List.length_map, hal]
      exact (Option.some.inj h2).symm) (by show ((Value.ref q :: as).reverse ++ r).map (mc_ga b) = _; simp [mc_ga]) (by show 2 * 0 + _ ≤ 8; rw [mc_w_eq b r]; omega) (by rw [hb]; exact hdg)
    (fun U hU hWm => ⟨rfl, by rw [hU, hT]; exact hP, fun z => (by cases z), va_K.moved hWm.alike hK, mc_NW_warm hN hWm hZ, mc_O_to hO hS (by rw [hU, hT]) hWm⟩)
  obtain ⟨q1, ⟨q2, q3⟩, -, M', L', q4, q5, q6⟩ := hq1
  rw [e0, hT] at q2 q3
  have hS' : va_S (mc_A true b tab.length) s.heap t.heap (locs ++ Lc) := ⟨Nat.le_trans hS.1 q2, fun z z1 z2 => by rw [q3 z (Nat.lt_of_lt_of_le z1 hS.1) z2]; exact hS.2.1 z z1 z2, fun z hz' => by
    rcases List.mem_append.mp hz' with h | h
    · exact hS.2.2 z h
    · exact hfr z h⟩
  have c1 : n - n0 + 1 = n + 1 - n0 := by omega
  have c2 : mc_sl tab n - mc_sl tab n0 + (mc_sl tab (n + 1) - mc_sl tab n) = mc_sl tab (n + 1) - mc_sl tab n0 := by
    have h2 := mc_sl_le (tab := tab) h0.1
    have h3 := mc_sl_mono n tab 1
    omega
  rw [c1, c2] at X'
  rcases hout with ⟨v, ho, go⟩ | ⟨x, ho, go⟩
  · subst ho
    rcases q6 with ⟨rv, z1, z2⟩ | ⟨a', k, z1, z2, z3⟩
    · have hv' : v = rv.map (mc_ga b) := Outcome.returned.inj z1
      subst hv'
      obtain ⟨t2, a1, b1⟩ := z2 ⟨by omega, hroom⟩ (fun _ => Nat.le_trans hle (Nat.le_add_right _ _)) t.heap (locs ++ Lc) lsC q4 q5 hS' hl0 T' e1 X'
      refine ⟨t2, go t2 ?_, b1⟩
      have e4 : ((rv.toList ++ r).map (mc_ga b)) = (rv.map (mc_ga b)).toList ++ r.map (mc_ga b) := by cases rv <;> simp
      rw [e4] at a1
      exact a1
    · cases z1
  · subst ho
    rcases q6 with ⟨rv, z1, z2⟩ | ⟨a', k, z1, z2, z3⟩
    · cases z1
    · cases z1
      obtain ⟨xe, val, ⟨pre, rest, hsp, hnp, hrows⟩, hhd, hqr⟩ := z2
      obtain ⟨ce, y1, y2, y3⟩ := z3
      have hst : s.vm.findClass (exn k) = some ce.cls := by rw [← w0.alike.findClass]; exact y2
      have hpl : e.platform.magicAccessors = ({} : Platform).magicAccessors := by rw [X.admits.platform]
      have hk0 : ∃ kk, s.vm.classes[ce.cls]? = some kk := by
        obtain ⟨-, -, nm, -, ct, cc', u1, u2, u3, kk, u4⟩ := hrows xe (by simp)
        rw [hst] at u1
        cases u1
        exact ⟨kk, u4⟩
      obtain ⟨vm', hW', hsearch⟩ := mx_search (e := e) (s0 := s) (f := F0 m pc lsC (r.map (mc_ga b))) (a := x) (cell := ce) (fun kk hh => by rw [hh] at y3; cases y3) hk0 xe rest pre ((T'.setTop (F0 m pc lsC (r.map (mc_ga b)))).pushFrame (.throwing x)) (by rw [Stand.throwing_vm]; exact X'.warmed) (by rw [Stand.throwing_heap, e1]; exact y1)
        (fun y' hy' => by
          obtain ⟨u1, u2, nm, u3, ct, cc', u4, u5, u6, -⟩ := hrows y' hy'
          rw [hst] at u4
          cases u4
          obtain ⟨c', v1, v2⟩ := Cond.classLink_spec hown (hts _ (List.mem_cons_of_mem _ u3)) e.platform hpl
          rw [u5] at v1
          cases v1
          exact ⟨u1, u2, _, v2, u6⟩) hnp
      have hFT : mx_FT e ((T'.setTop (F0 m pc lsC (r.map (mc_ga b)))).pushFrame (.throwing x)) (F0 m pc lsC (r.map (mc_ga b))) x (.found xe.handlerPc) vm' := by
        intro Q' E' dd acts
        rw [W.findHandler_eq (meth := meth) (code := c) (by rw [Stand.throwing_vm]; exact X'.method') X'.code, hhs, hsp]
        exact hsearch Q' E' dd acts
      have hWh : W p l e R s m args below meth c t.heap (locs ++ Lc) (n + 1 - n0) (mc_sl tab (n + 1) - mc_sl tab n0) (mc_Q below s D cl b cA true tab n0 dn exn Qr Qt) (F0 m xe.handlerPc lsC [.ref x]) := by
        have fin : ∀ (pc3 : Nat) (ls' : Array Slot), lv_has ls' nL [] → decode cc pc3 = .ok (.ireturn, 1) → W p l e R s m args below meth c t.heap (locs ++ Lc) (n + 1 - n0) (mc_sl tab (n + 1) - mc_sl tab n0) (mc_Q below s D cl b cA true tab n0 dn exn Qr Qt) (F0 m pc3 ls' [.int val]) := by
          intro pc3 ls' hls' hd3
          have hV := mv_iret (l := l) (e := e) (R := R) (s := s) (m := m) (args := args) (below := below) (D := D) (cl := cl) (b := b) (cA := cA) (md := true) (tab := tab) (nL := nL) (n0 := n0) (dn := dn) (ls := []) (n := n + 1) (M := M') (L := L') (exn := exn) (Qr := Qr) (Qt := Qt) (ret := some .int) hx hb hret hlk hd3 (x := val) ⟨hroom, hqr⟩
          exact hV ⟨by omega, hroom⟩ (fun _ => Nat.le_trans hle (Nat.le_add_right _ _)) t.heap (locs ++ Lc) ls' q4 q5 hS' ⟨hls'.1, hls'.2.1, fun z hz' => by
            obtain ⟨w, w1, -⟩ := mc_lst_mem.mp hz'
            simp at w1⟩
        have hl1 : lv_has lsC nL [] := ⟨hl0.1, hl0.2.1, fun z hz' => by cases hz'⟩
        rcases hhd with ⟨j, z, d1, d2, d3, d4, d5⟩ | ⟨j, z, d1, d2, d3, d4, d5⟩
        · exact lv_astore hx hb d1 hl1 d2 rfl (fun ls' hls' => lv_iconst hx hb d3 d4 (fin _ ls' ⟨hls'.1, hls'.2.1, fun z hz' => by cases hz'⟩ d5))
        · exact lv_astore_n hx hb d1 rfl hl1 d2 rfl (fun ls' hls' => lv_iconst hx hb d3 d4 (fin _ ls' ⟨hls'.1, hls'.2.1, fun z hz' => by cases hz'⟩ d5))
      obtain ⟨t2, a1, b1⟩ := hWh (T'.setVm vm') e1 (X'.noted hW')
      exact ⟨t2, go t2 (mx_caught (g := F0 m pc lsC (r.map (mc_ga b))) X'.here hFT a1), b1⟩
end MTR
end
