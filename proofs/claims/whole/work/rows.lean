section
/-- a private method of a class that the tables say can be made, by its rows of tables_1 -/
def lw_okq (q : MethodName × Nat) : Prop := (q.1.cls ≠ "java/lang/invoke/MethodHandle" ∧ q.1.cls ≠ "java/lang/invoke/VarHandle") ∧ Cond.instantiable q.1.cls q.2 ∈ tables_1 ∧ Cond.privateMethod q.1 ∈ tables_1 ∧ Cond.instanceMethod q.1 ∈ tables_1
theorem lw_p0 : lw_okq (⟨"FlowMixer$Flow", "makeEmpty", "(II)V"⟩, 14) := ⟨⟨by decide +kernel, by decide +kernel⟩, List.mem_of_getElem? (i := 69) (by decide +kernel), List.mem_of_getElem? (i := 75) (by decide +kernel), List.mem_of_getElem? (i := 76) (by decide +kernel)⟩
theorem lw_p1 : lw_okq (⟨"FlowMixer$Flow", "setJump", "(III)V"⟩, 14) := ⟨⟨by decide +kernel, by decide +kernel⟩, List.mem_of_getElem? (i := 69) (by decide +kernel), List.mem_of_getElem? (i := 79) (by decide +kernel), List.mem_of_getElem? (i := 80) (by decide +kernel)⟩
theorem lw_p2 : lw_okq (⟨"FlowMixer$Flow", "jumpStep", "(I)I"⟩, 14) := ⟨⟨by decide +kernel, by decide +kernel⟩, List.mem_of_getElem? (i := 69) (by decide +kernel), List.mem_of_getElem? (i := 83) (by decide +kernel), List.mem_of_getElem? (i := 84) (by decide +kernel)⟩
theorem lw_p3 : lw_okq (⟨"FlowMixer$Flow", "setTargets", "(III)V"⟩, 14) := ⟨⟨by decide +kernel, by decide +kernel⟩, List.mem_of_getElem? (i := 69) (by decide +kernel), List.mem_of_getElem? (i := 87) (by decide +kernel), List.mem_of_getElem? (i := 88) (by decide +kernel)⟩
theorem lw_p4 : lw_okq (⟨"FlowMixer$Nodes", "canBe", "(III)Z"⟩, 7) := ⟨⟨by decide +kernel, by decide +kernel⟩, List.mem_of_getElem? (i := 32) (by decide +kernel), List.mem_of_getElem? (i := 327) (by decide +kernel), List.mem_of_getElem? (i := 328) (by decide +kernel)⟩
theorem lw_p5 : lw_okq (⟨"FlowMixer$Nodes", "has", "(I)Z"⟩, 7) := ⟨⟨by decide +kernel, by decide +kernel⟩, List.mem_of_getElem? (i := 32) (by decide +kernel), List.mem_of_getElem? (i := 334) (by decide +kernel), List.mem_of_getElem? (i := 335) (by decide +kernel)⟩
theorem lw_p6 : lw_okq (⟨"java/lang/Throwable", "fillInStackTrace", "(I)Ljava/lang/Throwable;"⟩, 6) := ⟨⟨by decide +kernel, by decide +kernel⟩, List.mem_of_getElem? (i := 376) (by decide +kernel), List.mem_of_getElem? (i := 374) (by decide +kernel), List.mem_of_getElem? (i := 375) (by decide +kernel)⟩
theorem lw_p7 : lw_okq (⟨"FlowMixer$Nodes", "sizeWith", "(III)I"⟩, 7) := ⟨⟨by decide +kernel, by decide +kernel⟩, List.mem_of_getElem? (i := 32) (by decide +kernel), List.mem_of_getElem? (i := 406) (by decide +kernel), List.mem_of_getElem? (i := 407) (by decide +kernel)⟩
theorem lw_p8 : lw_okq (⟨"FlowMixer$Nodes", "add", "(III)I"⟩, 7) := ⟨⟨by decide +kernel, by decide +kernel⟩, List.mem_of_getElem? (i := 32) (by decide +kernel), List.mem_of_getElem? (i := 426) (by decide +kernel), List.mem_of_getElem? (i := 427) (by decide +kernel)⟩
theorem lw_p9 : lw_okq (⟨"FlowMixer$Nodes", "variablesWith", "(III)I"⟩, 7) := ⟨⟨by decide +kernel, by decide +kernel⟩, List.mem_of_getElem? (i := 32) (by decide +kernel), List.mem_of_getElem? (i := 431) (by decide +kernel), List.mem_of_getElem? (i := 432) (by decide +kernel)⟩
theorem lw_p10 : lw_okq (⟨"FlowMixer$Flow", "append", "(III)I"⟩, 14) := ⟨⟨by decide +kernel, by decide +kernel⟩, List.mem_of_getElem? (i := 69) (by decide +kernel), List.mem_of_getElem? (i := 452) (by decide +kernel), List.mem_of_getElem? (i := 453) (by decide +kernel)⟩
theorem lw_p11 : lw_okq (⟨"FlowMixer", "canJump", "(IIII)Z"⟩, 10) := ⟨⟨by decide +kernel, by decide +kernel⟩, List.mem_of_getElem? (i := 24) (by decide +kernel), List.mem_of_getElem? (i := 463) (by decide +kernel), List.mem_of_getElem? (i := 464) (by decide +kernel)⟩
theorem lw_p12 : lw_okq (⟨"FlowMixer$Machine", "travel", "(LFlowMixer$Nodes;LFlowMixer$Flow;[II)Z"⟩, 4) := ⟨⟨by decide +kernel, by decide +kernel⟩, List.mem_of_getElem? (i := 198) (by decide +kernel), List.mem_of_getElem? (i := 514) (by decide +kernel), List.mem_of_getElem? (i := 515) (by decide +kernel)⟩
theorem lw_p13 : lw_okq (⟨"FlowMixer$Machine", "doAssignments", "(LFlowMixer$Nodes;LFlowMixer$Flow;I)V"⟩, 4) := ⟨⟨by decide +kernel, by decide +kernel⟩, List.mem_of_getElem? (i := 198) (by decide +kernel), List.mem_of_getElem? (i := 521) (by decide +kernel), List.mem_of_getElem? (i := 522) (by decide +kernel)⟩
theorem lw_p14 : lw_okq (⟨"FlowMixer$Flow", "thaw", "(I[I)V"⟩, 14) := ⟨⟨by decide +kernel, by decide +kernel⟩, List.mem_of_getElem? (i := 69) (by decide +kernel), List.mem_of_getElem? (i := 525) (by decide +kernel), List.mem_of_getElem? (i := 526) (by decide +kernel)⟩
theorem lw_p15 : lw_okq (⟨"FlowMixer$Nodes", "valueOf", "(I[II)I"⟩, 7) := ⟨⟨by decide +kernel, by decide +kernel⟩, List.mem_of_getElem? (i := 32) (by decide +kernel), List.mem_of_getElem? (i := 529) (by decide +kernel), List.mem_of_getElem? (i := 530) (by decide +kernel)⟩
def lw_privs_1 : List (MethodName × Nat) := [(⟨"FlowMixer$Flow", "makeEmpty", "(II)V"⟩, 14), (⟨"FlowMixer$Flow", "setJump", "(III)V"⟩, 14), (⟨"FlowMixer$Flow", "jumpStep", "(I)I"⟩, 14), (⟨"FlowMixer$Flow", "setTargets", "(III)V"⟩, 14), (⟨"FlowMixer$Nodes", "canBe", "(III)Z"⟩, 7), (⟨"FlowMixer$Nodes", "has", "(I)Z"⟩, 7), (⟨"java/lang/Throwable", "fillInStackTrace", "(I)Ljava/lang/Throwable;"⟩, 6), (⟨"FlowMixer$Nodes", "sizeWith", "(III)I"⟩, 7), (⟨"FlowMixer$Nodes", "add", "(III)I"⟩, 7), (⟨"FlowMixer$Nodes", "variablesWith", "(III)I"⟩, 7), (⟨"FlowMixer$Flow", "append", "(III)I"⟩, 14), (⟨"FlowMixer", "canJump", "(IIII)Z"⟩, 10), (⟨"FlowMixer$Machine", "travel", "(LFlowMixer$Nodes;LFlowMixer$Flow;[II)Z"⟩, 4), (⟨"FlowMixer$Machine", "doAssignments", "(LFlowMixer$Nodes;LFlowMixer$Flow;I)V"⟩, 4), (⟨"FlowMixer$Flow", "thaw", "(I[I)V"⟩, 14), (⟨"FlowMixer$Nodes", "valueOf", "(I[II)I"⟩, 7)]
theorem lw_r1 : ∀ q ∈ lw_privs_1, lw_okq q := List.forall_mem_cons.mpr ⟨lw_p0, List.forall_mem_cons.mpr ⟨lw_p1, List.forall_mem_cons.mpr ⟨lw_p2, List.forall_mem_cons.mpr ⟨lw_p3, List.forall_mem_cons.mpr ⟨lw_p4, List.forall_mem_cons.mpr ⟨lw_p5, List.forall_mem_cons.mpr ⟨lw_p6, List.forall_mem_cons.mpr ⟨lw_p7, List.forall_mem_cons.mpr ⟨lw_p8, List.forall_mem_cons.mpr ⟨lw_p9, List.forall_mem_cons.mpr ⟨lw_p10, List.forall_mem_cons.mpr ⟨lw_p11, List.forall_mem_cons.mpr ⟨lw_p12, List.forall_mem_cons.mpr ⟨lw_p13, List.forall_mem_cons.mpr ⟨lw_p14, List.forall_mem_cons.mpr ⟨lw_p15, fun _ h => absurd h List.not_mem_nil⟩⟩⟩⟩⟩⟩⟩⟩⟩⟩⟩⟩⟩⟩⟩⟩
theorem lw_p16 : lw_okq (⟨"FlowMixer$Machine", "doJump", "(LFlowMixer$Nodes;LFlowMixer$Flow;)Z"⟩, 4) := ⟨⟨by decide +kernel, by decide +kernel⟩, List.mem_of_getElem? (i := 198) (by decide +kernel), List.mem_of_getElem? (i := 537) (by decide +kernel), List.mem_of_getElem? (i := 538) (by decide +kernel)⟩
theorem lw_p17 : lw_okq (⟨"FlowMixer$Analysis", "findStatics", "(LFlowMixer$Nodes;LFlowMixer$Flow;I)I"⟩, 1) := ⟨⟨by decide +kernel, by decide +kernel⟩, List.mem_of_getElem? (i := 187) (by decide +kernel), List.mem_of_getElem? (i := 569) (by decide +kernel), List.mem_of_getElem? (i := 570) (by decide +kernel)⟩
theorem lw_p18 : lw_okq (⟨"FlowMixer$Analysis", "findLives", "(LFlowMixer$Nodes;LFlowMixer$Flow;)V"⟩, 1) := ⟨⟨by decide +kernel, by decide +kernel⟩, List.mem_of_getElem? (i := 187) (by decide +kernel), List.mem_of_getElem? (i := 583) (by decide +kernel), List.mem_of_getElem? (i := 584) (by decide +kernel)⟩
theorem lw_p19 : lw_okq (⟨"FlowMixer$Analysis", "livesOf", "(LFlowMixer$Nodes;LFlowMixer$Flow;I)I"⟩, 1) := ⟨⟨by decide +kernel, by decide +kernel⟩, List.mem_of_getElem? (i := 187) (by decide +kernel), List.mem_of_getElem? (i := 590) (by decide +kernel), List.mem_of_getElem? (i := 591) (by decide +kernel)⟩
theorem lw_p20 : lw_okq (⟨"FlowMixer$Analysis", "livesAt", "(I)I"⟩, 1) := ⟨⟨by decide +kernel, by decide +kernel⟩, List.mem_of_getElem? (i := 187) (by decide +kernel), List.mem_of_getElem? (i := 595) (by decide +kernel), List.mem_of_getElem? (i := 596) (by decide +kernel)⟩
theorem lw_p21 : lw_okq (⟨"FlowMixer$Mixer", "work", "(LFlowMixer$Nodes;LFlowMixer$Flow;[I[ILFlowMixer$Flow;)Z"⟩, 7) := ⟨⟨by decide +kernel, by decide +kernel⟩, List.mem_of_getElem? (i := 220) (by decide +kernel), List.mem_of_getElem? (i := 606) (by decide +kernel), List.mem_of_getElem? (i := 607) (by decide +kernel)⟩
theorem lw_p22 : lw_okq (⟨"FlowMixer$Mixer", "comeTo", "(I)I"⟩, 7) := ⟨⟨by decide +kernel, by decide +kernel⟩, List.mem_of_getElem? (i := 220) (by decide +kernel), List.mem_of_getElem? (i := 611) (by decide +kernel), List.mem_of_getElem? (i := 612) (by decide +kernel)⟩
theorem lw_p23 : lw_okq (⟨"FlowMixer$Mixer", "isWanted", "(II)Z"⟩, 7) := ⟨⟨by decide +kernel, by decide +kernel⟩, List.mem_of_getElem? (i := 220) (by decide +kernel), List.mem_of_getElem? (i := 615) (by decide +kernel), List.mem_of_getElem? (i := 616) (by decide +kernel)⟩
theorem lw_p24 : lw_okq (⟨"FlowMixer$Mixer", "mixAssignments", "(LFlowMixer$Nodes;LFlowMixer$Flow;LFlowMixer$Flow;I)V"⟩, 7) := ⟨⟨by decide +kernel, by decide +kernel⟩, List.mem_of_getElem? (i := 220) (by decide +kernel), List.mem_of_getElem? (i := 620) (by decide +kernel), List.mem_of_getElem? (i := 621) (by decide +kernel)⟩
theorem lw_p25 : lw_okq (⟨"FlowMixer$Flow", "freeze", "(I[I)V"⟩, 14) := ⟨⟨by decide +kernel, by decide +kernel⟩, List.mem_of_getElem? (i := 69) (by decide +kernel), List.mem_of_getElem? (i := 626) (by decide +kernel), List.mem_of_getElem? (i := 627) (by decide +kernel)⟩
theorem lw_p26 : lw_okq (⟨"FlowMixer$Mixer", "mixJump", "(LFlowMixer$Nodes;LFlowMixer$Flow;LFlowMixer$Flow;I)V"⟩, 7) := ⟨⟨by decide +kernel, by decide +kernel⟩, List.mem_of_getElem? (i := 220) (by decide +kernel), List.mem_of_getElem? (i := 631) (by decide +kernel), List.mem_of_getElem? (i := 632) (by decide +kernel)⟩
theorem lw_p27 : lw_okq (⟨"FlowMixer$Compressor", "work", "(LFlowMixer$Flow;)V"⟩, 3) := ⟨⟨by decide +kernel, by decide +kernel⟩, List.mem_of_getElem? (i := 248) (by decide +kernel), List.mem_of_getElem? (i := 645) (by decide +kernel), List.mem_of_getElem? (i := 646) (by decide +kernel)⟩
theorem lw_p28 : lw_okq (⟨"FlowMixer$Compressor", "findArrivals", "(LFlowMixer$Flow;)V"⟩, 3) := ⟨⟨by decide +kernel, by decide +kernel⟩, List.mem_of_getElem? (i := 248) (by decide +kernel), List.mem_of_getElem? (i := 650) (by decide +kernel), List.mem_of_getElem? (i := 651) (by decide +kernel)⟩
theorem lw_p29 : lw_okq (⟨"FlowMixer$Compressor", "lowestToMove", "(LFlowMixer$Flow;)I"⟩, 3) := ⟨⟨by decide +kernel, by decide +kernel⟩, List.mem_of_getElem? (i := 248) (by decide +kernel), List.mem_of_getElem? (i := 654) (by decide +kernel), List.mem_of_getElem? (i := 655) (by decide +kernel)⟩
theorem lw_p30 : lw_okq (⟨"FlowMixer$Flow", "join", "(II)V"⟩, 14) := ⟨⟨by decide +kernel, by decide +kernel⟩, List.mem_of_getElem? (i := 69) (by decide +kernel), List.mem_of_getElem? (i := 658) (by decide +kernel), List.mem_of_getElem? (i := 659) (by decide +kernel)⟩
theorem lw_p31 : lw_okq (⟨"FlowMixer$Compressor", "numberAnew", "(LFlowMixer$Flow;)V"⟩, 3) := ⟨⟨by decide +kernel, by decide +kernel⟩, List.mem_of_getElem? (i := 248) (by decide +kernel), List.mem_of_getElem? (i := 662) (by decide +kernel), List.mem_of_getElem? (i := 663) (by decide +kernel)⟩
def lw_privs_2 : List (MethodName × Nat) := [(⟨"FlowMixer$Machine", "doJump", "(LFlowMixer$Nodes;LFlowMixer$Flow;)Z"⟩, 4), (⟨"FlowMixer$Analysis", "findStatics", "(LFlowMixer$Nodes;LFlowMixer$Flow;I)I"⟩, 1), (⟨"FlowMixer$Analysis", "findLives", "(LFlowMixer$Nodes;LFlowMixer$Flow;)V"⟩, 1), (⟨"FlowMixer$Analysis", "livesOf", "(LFlowMixer$Nodes;LFlowMixer$Flow;I)I"⟩, 1), (⟨"FlowMixer$Analysis", "livesAt", "(I)I"⟩, 1), (⟨"FlowMixer$Mixer", "work", "(LFlowMixer$Nodes;LFlowMixer$Flow;[I[ILFlowMixer$Flow;)Z"⟩, 7), (⟨"FlowMixer$Mixer", "comeTo", "(I)I"⟩, 7), (⟨"FlowMixer$Mixer", "isWanted", "(II)Z"⟩, 7), (⟨"FlowMixer$Mixer", "mixAssignments", "(LFlowMixer$Nodes;LFlowMixer$Flow;LFlowMixer$Flow;I)V"⟩, 7), (⟨"FlowMixer$Flow", "freeze", "(I[I)V"⟩, 14), (⟨"FlowMixer$Mixer", "mixJump", "(LFlowMixer$Nodes;LFlowMixer$Flow;LFlowMixer$Flow;I)V"⟩, 7), (⟨"FlowMixer$Compressor", "work", "(LFlowMixer$Flow;)V"⟩, 3), (⟨"FlowMixer$Compressor", "findArrivals", "(LFlowMixer$Flow;)V"⟩, 3), (⟨"FlowMixer$Compressor", "lowestToMove", "(LFlowMixer$Flow;)I"⟩, 3), (⟨"FlowMixer$Flow", "join", "(II)V"⟩, 14), (⟨"FlowMixer$Compressor", "numberAnew", "(LFlowMixer$Flow;)V"⟩, 3)]
theorem lw_r2 : ∀ q ∈ lw_privs_2, lw_okq q := List.forall_mem_cons.mpr ⟨lw_p16, List.forall_mem_cons.mpr ⟨lw_p17, List.forall_mem_cons.mpr ⟨lw_p18, List.forall_mem_cons.mpr ⟨lw_p19, List.forall_mem_cons.mpr ⟨lw_p20, List.forall_mem_cons.mpr ⟨lw_p21, List.forall_mem_cons.mpr ⟨lw_p22, List.forall_mem_cons.mpr ⟨lw_p23, List.forall_mem_cons.mpr ⟨lw_p24, List.forall_mem_cons.mpr ⟨lw_p25, List.forall_mem_cons.mpr ⟨lw_p26, List.forall_mem_cons.mpr ⟨lw_p27, List.forall_mem_cons.mpr ⟨lw_p28, List.forall_mem_cons.mpr ⟨lw_p29, List.forall_mem_cons.mpr ⟨lw_p30, List.forall_mem_cons.mpr ⟨lw_p31, fun _ h => absurd h List.not_mem_nil⟩⟩⟩⟩⟩⟩⟩⟩⟩⟩⟩⟩⟩⟩⟩⟩
theorem lw_p32 : lw_okq (⟨"FlowMixer$Compressor", "numberOf", "(I)I"⟩, 3) := ⟨⟨by decide +kernel, by decide +kernel⟩, List.mem_of_getElem? (i := 248) (by decide +kernel), List.mem_of_getElem? (i := 666) (by decide +kernel), List.mem_of_getElem? (i := 667) (by decide +kernel)⟩
theorem lw_p33 : lw_okq (⟨"FlowMixer$Flow", "renumber", "(II)V"⟩, 14) := ⟨⟨by decide +kernel, by decide +kernel⟩, List.mem_of_getElem? (i := 69) (by decide +kernel), List.mem_of_getElem? (i := 671) (by decide +kernel), List.mem_of_getElem? (i := 672) (by decide +kernel)⟩
theorem lw_p34 : lw_okq (⟨"FlowMixer$Text", "refresh", "(LFlowMixer$Nodes;LFlowMixer$Flow;)V"⟩, 4) := ⟨⟨by decide +kernel, by decide +kernel⟩, List.mem_of_getElem? (i := 264) (by decide +kernel), List.mem_of_getElem? (i := 691) (by decide +kernel), List.mem_of_getElem? (i := 692) (by decide +kernel)⟩
theorem lw_p35 : lw_okq (⟨"FlowMixer$Text", "putNumber", "(I)V"⟩, 4) := ⟨⟨by decide +kernel, by decide +kernel⟩, List.mem_of_getElem? (i := 264) (by decide +kernel), List.mem_of_getElem? (i := 695) (by decide +kernel), List.mem_of_getElem? (i := 696) (by decide +kernel)⟩
theorem lw_p36 : lw_okq (⟨"FlowMixer$Text", "put", "(C)V"⟩, 4) := ⟨⟨by decide +kernel, by decide +kernel⟩, List.mem_of_getElem? (i := 264) (by decide +kernel), List.mem_of_getElem? (i := 699) (by decide +kernel), List.mem_of_getElem? (i := 700) (by decide +kernel)⟩
theorem lw_p37 : lw_okq (⟨"FlowMixer$Text", "putAssignments", "(LFlowMixer$Nodes;LFlowMixer$Flow;I)V"⟩, 4) := ⟨⟨by decide +kernel, by decide +kernel⟩, List.mem_of_getElem? (i := 264) (by decide +kernel), List.mem_of_getElem? (i := 705) (by decide +kernel), List.mem_of_getElem? (i := 706) (by decide +kernel)⟩
theorem lw_p38 : lw_okq (⟨"FlowMixer$Text", "putLetter", "(I)V"⟩, 4) := ⟨⟨by decide +kernel, by decide +kernel⟩, List.mem_of_getElem? (i := 264) (by decide +kernel), List.mem_of_getElem? (i := 709) (by decide +kernel), List.mem_of_getElem? (i := 710) (by decide +kernel)⟩
theorem lw_p39 : lw_okq (⟨"FlowMixer$Text", "putNodeOf", "(LFlowMixer$Nodes;LFlowMixer$Flow;I)V"⟩, 4) := ⟨⟨by decide +kernel, by decide +kernel⟩, List.mem_of_getElem? (i := 264) (by decide +kernel), List.mem_of_getElem? (i := 713) (by decide +kernel), List.mem_of_getElem? (i := 714) (by decide +kernel)⟩
theorem lw_p40 : lw_okq (⟨"FlowMixer$Text", "putPart", "(LFlowMixer$Nodes;III)V"⟩, 4) := ⟨⟨by decide +kernel, by decide +kernel⟩, List.mem_of_getElem? (i := 264) (by decide +kernel), List.mem_of_getElem? (i := 718) (by decide +kernel), List.mem_of_getElem? (i := 719) (by decide +kernel)⟩
theorem lw_p41 : lw_okq (⟨"FlowMixer$Text", "putJump", "(LFlowMixer$Nodes;LFlowMixer$Flow;I)V"⟩, 4) := ⟨⟨by decide +kernel, by decide +kernel⟩, List.mem_of_getElem? (i := 264) (by decide +kernel), List.mem_of_getElem? (i := 764) (by decide +kernel), List.mem_of_getElem? (i := 765) (by decide +kernel)⟩
theorem lw_p42 : lw_okq (⟨"FlowMixerModel", "plain", "(I)V"⟩, 45) := ⟨⟨by decide +kernel, by decide +kernel⟩, List.mem_of_getElem? (i := 778) (by decide +kernel), List.mem_of_getElem? (i := 784) (by decide +kernel), List.mem_of_getElem? (i := 785) (by decide +kernel)⟩
theorem lw_p43 : lw_okq (⟨"FlowMixerModel", "isNode", "(I)Z"⟩, 45) := ⟨⟨by decide +kernel, by decide +kernel⟩, List.mem_of_getElem? (i := 778) (by decide +kernel), List.mem_of_getElem? (i := 939) (by decide +kernel), List.mem_of_getElem? (i := 940) (by decide +kernel)⟩
theorem lw_p44 : lw_okq (⟨"FlowMixerModel", "goes", "(ZZ)Z"⟩, 45) := ⟨⟨by decide +kernel, by decide +kernel⟩, List.mem_of_getElem? (i := 778) (by decide +kernel), List.mem_of_getElem? (i := 943) (by decide +kernel), List.mem_of_getElem? (i := 944) (by decide +kernel)⟩
theorem lw_p45 : lw_okq (⟨"FlowMixerModel", "begin", "()V"⟩, 45) := ⟨⟨by decide +kernel, by decide +kernel⟩, List.mem_of_getElem? (i := 778) (by decide +kernel), List.mem_of_getElem? (i := 970) (by decide +kernel), List.mem_of_getElem? (i := 971) (by decide +kernel)⟩
theorem lw_p46 : lw_okq (⟨"FlowMixerModel", "worth", "(I)I"⟩, 45) := ⟨⟨by decide +kernel, by decide +kernel⟩, List.mem_of_getElem? (i := 778) (by decide +kernel), List.mem_of_getElem? (i := 974) (by decide +kernel), List.mem_of_getElem? (i := 975) (by decide +kernel)⟩
theorem lw_p47 : lw_okq (⟨"FlowMixerModel", "dynamics", "(I)I"⟩, 45) := ⟨⟨by decide +kernel, by decide +kernel⟩, List.mem_of_getElem? (i := 778) (by decide +kernel), List.mem_of_getElem? (i := 986) (by decide +kernel), List.mem_of_getElem? (i := 987) (by decide +kernel)⟩
def lw_privs_3 : List (MethodName × Nat) := [(⟨"FlowMixer$Compressor", "numberOf", "(I)I"⟩, 3), (⟨"FlowMixer$Flow", "renumber", "(II)V"⟩, 14), (⟨"FlowMixer$Text", "refresh", "(LFlowMixer$Nodes;LFlowMixer$Flow;)V"⟩, 4), (⟨"FlowMixer$Text", "putNumber", "(I)V"⟩, 4), (⟨"FlowMixer$Text", "put", "(C)V"⟩, 4), (⟨"FlowMixer$Text", "putAssignments", "(LFlowMixer$Nodes;LFlowMixer$Flow;I)V"⟩, 4), (⟨"FlowMixer$Text", "putLetter", "(I)V"⟩, 4), (⟨"FlowMixer$Text", "putNodeOf", "(LFlowMixer$Nodes;LFlowMixer$Flow;I)V"⟩, 4), (⟨"FlowMixer$Text", "putPart", "(LFlowMixer$Nodes;III)V"⟩, 4), (⟨"FlowMixer$Text", "putJump", "(LFlowMixer$Nodes;LFlowMixer$Flow;I)V"⟩, 4), (⟨"FlowMixerModel", "plain", "(I)V"⟩, 45), (⟨"FlowMixerModel", "isNode", "(I)Z"⟩, 45), (⟨"FlowMixerModel", "goes", "(ZZ)Z"⟩, 45), (⟨"FlowMixerModel", "begin", "()V"⟩, 45), (⟨"FlowMixerModel", "worth", "(I)I"⟩, 45), (⟨"FlowMixerModel", "dynamics", "(I)I"⟩, 45)]
theorem lw_r3 : ∀ q ∈ lw_privs_3, lw_okq q := List.forall_mem_cons.mpr ⟨lw_p32, List.forall_mem_cons.mpr ⟨lw_p33, List.forall_mem_cons.mpr ⟨lw_p34, List.forall_mem_cons.mpr ⟨lw_p35, List.forall_mem_cons.mpr ⟨lw_p36, List.forall_mem_cons.mpr ⟨lw_p37, List.forall_mem_cons.mpr ⟨lw_p38, List.forall_mem_cons.mpr ⟨lw_p39, List.forall_mem_cons.mpr ⟨lw_p40, List.forall_mem_cons.mpr ⟨lw_p41, List.forall_mem_cons.mpr ⟨lw_p42, List.forall_mem_cons.mpr ⟨lw_p43, List.forall_mem_cons.mpr ⟨lw_p44, List.forall_mem_cons.mpr ⟨lw_p45, List.forall_mem_cons.mpr ⟨lw_p46, List.forall_mem_cons.mpr ⟨lw_p47, fun _ h => absurd h List.not_mem_nil⟩⟩⟩⟩⟩⟩⟩⟩⟩⟩⟩⟩⟩⟩⟩⟩
theorem lw_p48 : lw_okq (⟨"FlowMixerModel", "allLive", "()V"⟩, 45) := ⟨⟨by decide +kernel, by decide +kernel⟩, List.mem_of_getElem? (i := 778) (by decide +kernel), List.mem_of_getElem? (i := 994) (by decide +kernel), List.mem_of_getElem? (i := 995) (by decide +kernel)⟩
theorem lw_p49 : lw_okq (⟨"FlowMixerModel", "state", "(I)I"⟩, 45) := ⟨⟨by decide +kernel, by decide +kernel⟩, List.mem_of_getElem? (i := 778) (by decide +kernel), List.mem_of_getElem? (i := 1005) (by decide +kernel), List.mem_of_getElem? (i := 1006) (by decide +kernel)⟩
theorem lw_p50 : lw_okq (⟨"FlowMixerModel", "work", "(IZ)V"⟩, 45) := ⟨⟨by decide +kernel, by decide +kernel⟩, List.mem_of_getElem? (i := 778) (by decide +kernel), List.mem_of_getElem? (i := 1009) (by decide +kernel), List.mem_of_getElem? (i := 1010) (by decide +kernel)⟩
theorem lw_p51 : lw_okq (⟨"FlowMixerModel", "part", "(II)I"⟩, 45) := ⟨⟨by decide +kernel, by decide +kernel⟩, List.mem_of_getElem? (i := 778) (by decide +kernel), List.mem_of_getElem? (i := 1013) (by decide +kernel), List.mem_of_getElem? (i := 1014) (by decide +kernel)⟩
theorem lw_p52 : lw_okq (⟨"FlowMixerModel", "append", "(II)V"⟩, 45) := ⟨⟨by decide +kernel, by decide +kernel⟩, List.mem_of_getElem? (i := 778) (by decide +kernel), List.mem_of_getElem? (i := 1017) (by decide +kernel), List.mem_of_getElem? (i := 1018) (by decide +kernel)⟩
theorem lw_p53 : lw_okq (⟨"FlowMixerModel", "write", "()V"⟩, 45) := ⟨⟨by decide +kernel, by decide +kernel⟩, List.mem_of_getElem? (i := 778) (by decide +kernel), List.mem_of_getElem? (i := 1021) (by decide +kernel), List.mem_of_getElem? (i := 1022) (by decide +kernel)⟩
theorem lw_p54 : lw_okq (⟨"FlowMixerModel", "number", "(I)V"⟩, 45) := ⟨⟨by decide +kernel, by decide +kernel⟩, List.mem_of_getElem? (i := 778) (by decide +kernel), List.mem_of_getElem? (i := 1025) (by decide +kernel), List.mem_of_getElem? (i := 1026) (by decide +kernel)⟩
theorem lw_p55 : lw_okq (⟨"FlowMixerModel", "put", "(I)V"⟩, 45) := ⟨⟨by decide +kernel, by decide +kernel⟩, List.mem_of_getElem? (i := 778) (by decide +kernel), List.mem_of_getElem? (i := 1029) (by decide +kernel), List.mem_of_getElem? (i := 1030) (by decide +kernel)⟩
theorem lw_p56 : lw_okq (⟨"FlowMixerModel", "spell", "(I)V"⟩, 45) := ⟨⟨by decide +kernel, by decide +kernel⟩, List.mem_of_getElem? (i := 778) (by decide +kernel), List.mem_of_getElem? (i := 1034) (by decide +kernel), List.mem_of_getElem? (i := 1035) (by decide +kernel)⟩
theorem lw_p57 : lw_okq (⟨"FlowMixerModel", "worthOf", "(I)I"⟩, 45) := ⟨⟨by decide +kernel, by decide +kernel⟩, List.mem_of_getElem? (i := 778) (by decide +kernel), List.mem_of_getElem? (i := 1038) (by decide +kernel), List.mem_of_getElem? (i := 1039) (by decide +kernel)⟩
theorem lw_p58 : lw_okq (⟨"FlowMixerModel", "jumpsTo", "(I)I"⟩, 45) := ⟨⟨by decide +kernel, by decide +kernel⟩, List.mem_of_getElem? (i := 778) (by decide +kernel), List.mem_of_getElem? (i := 1050) (by decide +kernel), List.mem_of_getElem? (i := 1051) (by decide +kernel)⟩
theorem lw_p59 : lw_okq (⟨"FlowMixerModel", "goesTo", "(I)I"⟩, 45) := ⟨⟨by decide +kernel, by decide +kernel⟩, List.mem_of_getElem? (i := 778) (by decide +kernel), List.mem_of_getElem? (i := 1054) (by decide +kernel), List.mem_of_getElem? (i := 1055) (by decide +kernel)⟩
theorem lw_p60 : lw_okq (⟨"FlowMixerModel", "join", "(II)V"⟩, 45) := ⟨⟨by decide +kernel, by decide +kernel⟩, List.mem_of_getElem? (i := 778) (by decide +kernel), List.mem_of_getElem? (i := 1058) (by decide +kernel), List.mem_of_getElem? (i := 1059) (by decide +kernel)⟩
theorem lw_p61 : lw_okq (⟨"FlowMixerModel", "copyBlock", "(II)V"⟩, 45) := ⟨⟨by decide +kernel, by decide +kernel⟩, List.mem_of_getElem? (i := 778) (by decide +kernel), List.mem_of_getElem? (i := 1062) (by decide +kernel), List.mem_of_getElem? (i := 1063) (by decide +kernel)⟩
def lw_privs_4 : List (MethodName × Nat) := [(⟨"FlowMixerModel", "allLive", "()V"⟩, 45), (⟨"FlowMixerModel", "state", "(I)I"⟩, 45), (⟨"FlowMixerModel", "work", "(IZ)V"⟩, 45), (⟨"FlowMixerModel", "part", "(II)I"⟩, 45), (⟨"FlowMixerModel", "append", "(II)V"⟩, 45), (⟨"FlowMixerModel", "write", "()V"⟩, 45), (⟨"FlowMixerModel", "number", "(I)V"⟩, 45), (⟨"FlowMixerModel", "put", "(I)V"⟩, 45), (⟨"FlowMixerModel", "spell", "(I)V"⟩, 45), (⟨"FlowMixerModel", "worthOf", "(I)I"⟩, 45), (⟨"FlowMixerModel", "jumpsTo", "(I)I"⟩, 45), (⟨"FlowMixerModel", "goesTo", "(I)I"⟩, 45), (⟨"FlowMixerModel", "join", "(II)V"⟩, 45), (⟨"FlowMixerModel", "copyBlock", "(II)V"⟩, 45)]
theorem lw_r4 : ∀ q ∈ lw_privs_4, lw_okq q := List.forall_mem_cons.mpr ⟨lw_p48, List.forall_mem_cons.mpr ⟨lw_p49, List.forall_mem_cons.mpr ⟨lw_p50, List.forall_mem_cons.mpr ⟨lw_p51, List.forall_mem_cons.mpr ⟨lw_p52, List.forall_mem_cons.mpr ⟨lw_p53, List.forall_mem_cons.mpr ⟨lw_p54, List.forall_mem_cons.mpr ⟨lw_p55, List.forall_mem_cons.mpr ⟨lw_p56, List.forall_mem_cons.mpr ⟨lw_p57, List.forall_mem_cons.mpr ⟨lw_p58, List.forall_mem_cons.mpr ⟨lw_p59, List.forall_mem_cons.mpr ⟨lw_p60, List.forall_mem_cons.mpr ⟨lw_p61, fun _ h => absurd h List.not_mem_nil⟩⟩⟩⟩⟩⟩⟩⟩⟩⟩⟩⟩⟩⟩
def lw_privs : List (MethodName × Nat) := lw_privs_1 ++ (lw_privs_2 ++ (lw_privs_3 ++ (lw_privs_4)))
def lw_tbl : List Cond := k2_sels lw_privs ++ tables_1
theorem lw_privs_ok : ∀ q ∈ lw_privs, lw_okq q := by
  show ∀ q ∈ lw_privs_1 ++ (lw_privs_2 ++ (lw_privs_3 ++ (lw_privs_4))), lw_okq q
  exact List.forall_mem_append.mpr ⟨lw_r1, List.forall_mem_append.mpr ⟨lw_r2, List.forall_mem_append.mpr ⟨lw_r3, lw_r4⟩⟩⟩
end
section
/-! The abstract memory: cell i of the world lies at address b + i; its row M i holds its ints (an array's elements, an object's fields), L i its longs. -/
abbrev mc_M : Type := Nat → Nat → Int32
abbrev mc_L : Type := Nat → Nat → Int64
/-- what a cell is: an array (its type's number: 0 int, 1 long, 2 char, 3 boolean; its length), or an object (its class's number; its fields: 0 int, 1 a reference that M tells, 2 boolean, r + 3 the reference to cell r) -/
abbrev mc_D : Type := (Nat × Nat) ⊕ (Nat × List Nat)
/-- .ref i is cell i of the world; .retAddr a stands for the reference a itself (an array outside the world: the script) -/
def mc_ga (b : Nat) (v : Value) : Value := match v with
  | .ref i => .ref (b + i)
  | .retAddr a => .ref a
  | w => w
theorem mc_ga_cat (b : Nat) (v : Value) : (mc_ga b v).category = v.category := by cases v <;> rfl
def mc_fv (md : Bool) (M : mc_M) (i k : Nat) (fd : Nat) : Value := match fd with
  | 0 => .int (M i k)
  | 1 => if M i k = 0 then .null else .ref (M i k).toNatClampNeg
  | 2 => .int (M i k)
  | r + 3 => if md = true then .ref r else if M i k = 0 then .null else .ref r
def mc_cell (md : Bool) (M : mc_M) (L : mc_L) (i : Nat) (d : mc_D) : va_E := match d with
  | .inl (t, n) => if t = 1 then .inl (t, n, .inr (.inl (L i))) else .inl (t, n, .inl (M i))
  | .inr (ci, fds) => .inr (ci, fds.mapIdx (fun k fd => mc_fv md M i k fd))
def mc_gE (b : Nat) (cA : Nat → ClassId) (x : va_E) : va_E := match x with
  | .inl (t, a) => .inl (cA t, a)
  | .inr (ci, fs) => .inr (ci, fs.map (mc_ga b))
def mc_wd (b : Nat) (cA : Nat → ClassId) (md : Bool) (tab : List mc_D) (n : Nat) (M : mc_M) (L : mc_L) : va_W :=
  (tab.take n).mapIdx (fun i d => (b + i, mc_gE b cA (mc_cell md M L i d)))
def mc_set (M : mc_M) (i : Nat) (f : Nat → Int32) : mc_M := fun j => if j = i then f else M j
def mc_put (M : mc_M) (i k : Nat) (x : Int32) : mc_M := mc_set M i (upd (M i) k x)
def mc_setL (L : mc_L) (i : Nat) (f : Nat → Int64) : mc_L := fun j => if j = i then f else L j
def mc_putL (L : mc_L) (i k : Nat) (x : Int64) : mc_L := mc_setL L i (vp_updL (L i) k x)
def mc_A (md : Bool) (b N : Nat) : Nat → Prop := fun q => b ≤ q ∧ (md = true → q < b + N)
/-- how many slots the first n cells take (a cell behind the world is a thrown object: 6) -/
def mc_sz (d : mc_D) : Nat := match d with
  | .inl (_, n) => n
  | .inr (_, fds) => fds.length
def mc_sl : List mc_D → Nat → Nat
  | _, 0 => 0
  | [], n + 1 => 6 + mc_sl [] n
  | d :: r, n + 1 => mc_sz d + mc_sl r n
section MCW
variable {b : Nat} {cA : Nat → ClassId} {md : Bool} {tab : List mc_D} {n : Nat} {M M' : mc_M} {L L' : mc_L} {i : Nat}
theorem mc_set_s {f : Nat → Int32} : mc_set M i f i = f := by simp [mc_set]
theorem mc_set_n {f : Nat → Int32} {j : Nat} (h : j ≠ i) : mc_set M i f j = M j := by simp [mc_set, h]
theorem mc_setL_s {f : Nat → Int64} : mc_setL L i f i = f := by simp [mc_setL]
theorem mc_setL_n {f : Nat → Int64} {j : Nat} (h : j ≠ i) : mc_setL L i f j = L j := by simp [mc_setL, h]
theorem mc_fv_congr {k fd : Nat} (h : M i k = M' i k) : mc_fv md M i k fd = mc_fv md M' i k fd := by
  unfold mc_fv
  split <;> simp [h]
theorem mc_cell_congr {d : mc_D} (h : M i = M' i) (hL : L i = L' i) : mc_cell md M L i d = mc_cell md M' L' i d := by
  unfold mc_cell
  split
  · rw [h, hL]
  · congr 2
    apply List.ext_getElem?
    intro j
    rw [List.getElem?_mapIdx, List.getElem?_mapIdx]
    congr 1
    funext fd
    exact mc_fv_congr (by rw [h])
theorem mc_wd_at (i : Nat) : (mc_wd b cA md tab n M L)[i]? = if i < n then (tab[i]?).map (fun d => (b + i, mc_gE b cA (mc_cell md M L i d))) else none := by
  unfold mc_wd
  rw [List.getElem?_mapIdx, List.getElem?_take]
  split <;> rfl
theorem mc_wd_some {q : Nat × va_E} (h : (mc_wd b cA md tab n M L)[i]? = some q) : i < n ∧ ∃ d, tab[i]? = some d ∧ q = (b + i, mc_gE b cA (mc_cell md M L i d)) := by
  rw [mc_wd_at] at h
  split at h
  · next hi =>
    cases hd : tab[i]? with
    | none => rw [hd] at h; cases h
    | some d =>
      rw [hd] at h
      exact ⟨hi, d, rfl, (Option.some.inj h).symm⟩
  · cases h
theorem mc_wd_in {d : mc_D} (hi : i < n) (hd : tab[i]? = some d) : (mc_wd b cA md tab n M L)[i]? = some (b + i, mc_gE b cA (mc_cell md M L i d)) := by
  rw [mc_wd_at, if_pos hi, hd]
  rfl
theorem mc_wd_D : va_D (mc_A md b tab.length) (mc_wd b cA md tab n M L) := by
  refine ⟨fun i j p q hp hq e => ?_, fun k q hq => ?_⟩
  · obtain ⟨-, d, -, rfl⟩ := mc_wd_some hp
    obtain ⟨-, d', -, rfl⟩ := mc_wd_some hq
    have e' : b + i = b + j := e
    omega
  · obtain ⟨-, d, hd, rfl⟩ := mc_wd_some hq
    have hl : k < tab.length := (List.getElem?_eq_some_iff.mp hd).1
    exact ⟨Nat.le_add_right _ _, fun _ => Nat.add_lt_add_left hl _⟩
theorem mc_wd_full {n' : Nat} (h : tab.length ≤ n) (h' : tab.length ≤ n') : mc_wd b cA md tab n M L = mc_wd b cA md tab n' M L := by
  unfold mc_wd
  rw [List.take_of_length_le h, List.take_of_length_le h']
theorem mc_wd_set {d : mc_D} {x : va_E} (hi : i < n) (hd : tab[i]? = some d) (hx : mc_gE b cA (mc_cell md M' L' i d) = x) (hM : ∀ j, j ≠ i → M' j = M j) (hL : ∀ j, j ≠ i → L' j = L j) :
    (mc_wd b cA md tab n M L).set i (b + i, x) = mc_wd b cA md tab n M' L' := by
  apply List.ext_getElem?
  intro j
  rw [List.getElem?_set]
  by_cases hj : i = j
  · subst hj
    have hlen : i < (mc_wd b cA md tab n M L).length := (List.getElem?_eq_some_iff.mp (mc_wd_in hi hd)).1
    rw [if_pos rfl, if_pos hlen, mc_wd_in hi hd, hx]
  · rw [if_neg hj, mc_wd_at, mc_wd_at]
    by_cases hn : j < n
    · rw [if_pos hn, if_pos hn]
      congr 1
      funext d'
      rw [mc_cell_congr (hM j (Ne.symm hj)).symm (hL j (Ne.symm hj)).symm]
    · rw [if_neg hn, if_neg hn]
theorem mc_set_arr {t len : Nat} {f : Nat → Int32} (hi : i < n) (hd : tab[i]? = some (.inl (t, len))) (ht : t ≠ 1) : (mc_wd b cA md tab n M L).set i (b + i, .inl (cA t, len, .inl f)) = mc_wd b cA md tab n (mc_set M i f) L :=
  mc_wd_set hi hd (by simp [mc_cell, ht, mc_gE, mc_set_s]) (fun j hj => mc_set_n hj) (fun _ _ => rfl)
theorem mc_set_arrL {len : Nat} {f : Nat → Int64} (hi : i < n) (hd : tab[i]? = some (.inl (1, len))) : (mc_wd b cA md tab n M L).set i (b + i, .inl (cA 1, len, .inr (.inl f))) = mc_wd b cA md tab n M (mc_setL L i f) :=
  mc_wd_set hi hd (by simp [mc_cell, mc_gE, mc_setL_s]) (fun _ _ => rfl) (fun j hj => mc_setL_n hj)
theorem mc_set_fld {ci k fd : Nat} {fds : List Nat} {x : Int32} {v : Value} (hi : i < n) (hd : tab[i]? = some (.inr (ci, fds))) (hk : fds[k]? = some fd) (hv : mc_fv md (mc_put M i k x) i k fd = v) :
    (mc_wd b cA md tab n M L).set i (b + i, .inr (ci, ((fds.mapIdx (fun k fd => mc_fv md M i k fd)).map (mc_ga b)).set k (mc_ga b v))) = mc_wd b cA md tab n (mc_put M i k x) L := by
  refine mc_wd_set hi hd ?_ (fun j hj => mc_set_n hj) (fun _ _ => rfl)
  show (Sum.inr (ci, ((fds.mapIdx (fun j fd => mc_fv md (mc_put M i k x) i j fd)).map (mc_ga b))) : va_E) = _
  congr 2
  apply List.ext_getElem?
  intro j
  rw [List.getElem?_set]
  have hkl : k < fds.length := (List.getElem?_eq_some_iff.mp hk).1
  by_cases hj : k = j
  · subst hj
    rw [if_pos rfl, if_pos (by simpa using hkl), List.getElem?_map, List.getElem?_mapIdx, hk]
    simp [hv]
  · rw [if_neg hj, List.getElem?_map, List.getElem?_mapIdx, List.getElem?_map, List.getElem?_mapIdx]
    congr 2
    funext fd'
    refine mc_fv_congr ?_
    show mc_set M i (upd (M i) k x) i j = M i j
    rw [mc_set_s, pk_un (Ne.symm hj)]
end MCW
/-! locals -/
def mc_at {α : Type} : List α → Nat → Option α
  | [], _ => none
  | a :: _, 0 => some a
  | _ :: r, i + 1 => mc_at r i
theorem mc_at_eq {α : Type} : ∀ (l : List α) (i : Nat), mc_at l i = l[i]?
  | [], i => by simp [mc_at]
  | a :: r, 0 => by simp [mc_at]
  | a :: r, i + 1 => by simp [mc_at, mc_at_eq r i]
def mc_k (o : Option Value) : Option Value := match o with
  | some (.long _) => none
  | some (.double _) => none
  | o => o
theorem mc_k_some {o : Option Value} {w : Value} (h : mc_k o = some w) : o = some w ∧ w.category = 1 := by
  unfold mc_k at h
  split at h
  · cases h
  · cases h
  · subst h
    refine ⟨rfl, ?_⟩
    cases w with
    | long x => next h1 h2 => exact absurd rfl (h1 x)
    | double x => next h1 h2 => exact absurd rfl (h2 x)
    | _ => rfl
def mc_st1 : List (Option Value) → Nat → Value → List (Option Value)
  | [], _, _ => []
  | _ :: r, 0, v => some v :: r
  | o :: r, 1, v => mc_k o :: mc_st1 r 0 v
  | o :: r, i + 2, v => o :: mc_st1 r (i + 1) v
def mc_st2 : List (Option Value) → Nat → Value → List (Option Value)
  | [], _, _ => []
  | [_], 0, v => [some v]
  | _ :: _ :: r, 0, v => some v :: none :: r
  | o :: r, 1, v => mc_k o :: mc_st2 r 0 v
  | o :: r, i + 2, v => o :: mc_st2 r (i + 1) v
theorem mc_st1_at : ∀ (ls : List (Option Value)) (i : Nat) (v : Value) (j : Nat) (w : Value), (mc_st1 ls i v)[j]? = some (some w) → (j = i ∧ w = v) ∨ (j ≠ i ∧ ls[j]? = some (some w) ∧ ¬ (j + 1 = i ∧ w.category = 2))
  | [], i, v, j, w, h => by simp [mc_st1] at h
  | o :: r, 0, v, 0, w, h => by
    simp [mc_st1] at h
    exact Or.inl ⟨rfl, h.symm⟩
  | o :: r, 0, v, j + 1, w, h => by
    simp [mc_st1] at h
    exact Or.inr ⟨by omega, by simpa using h, by omega⟩
  | o :: r, 1, v, 0, w, h => by
    simp [mc_st1] at h
    obtain ⟨h1, h2⟩ := mc_k_some h
    exact Or.inr ⟨by omega, by simp [h1], fun h => by omega⟩
  | o :: r, 1, v, j + 1, w, h => by
    simp only [mc_st1, List.getElem?_cons_succ] at h
    rcases mc_st1_at r 0 v j w h with ⟨h1, h2⟩ | ⟨h1, h2, h3⟩
    · exact Or.inl ⟨by omega, h2⟩
    · exact Or.inr ⟨by omega, by simpa using h2, by omega⟩
  | o :: r, i + 2, v, 0, w, h => by
    simp [mc_st1] at h
    exact Or.inr ⟨by omega, by simp [h], by omega⟩
  | o :: r, i + 2, v, j + 1, w, h => by
    simp only [mc_st1, List.getElem?_cons_succ] at h
    rcases mc_st1_at r (i + 1) v j w h with ⟨h1, h2⟩ | ⟨h1, h2, h3⟩
    · exact Or.inl ⟨by omega, h2⟩
    · exact Or.inr ⟨by omega, by simpa using h2, by omega⟩
theorem mc_st2_at : ∀ (ls : List (Option Value)) (i : Nat) (v : Value) (j : Nat) (w : Value), (mc_st2 ls i v)[j]? = some (some w) → (j = i ∧ w = v) ∨ (j ≠ i ∧ j ≠ i + 1 ∧ ls[j]? = some (some w) ∧ ¬ (j + 1 = i ∧ w.category = 2))
  | [], i, v, j, w, h => by simp [mc_st2] at h
  | [o], 0, v, 0, w, h => by
    simp [mc_st2] at h
    exact Or.inl ⟨rfl, h.symm⟩
  | [o], 0, v, j + 1, w, h => by simp [mc_st2] at h
  | o :: o2 :: r, 0, v, 0, w, h => by
    simp [mc_st2] at h
    exact Or.inl ⟨rfl, h.symm⟩
  | o :: o2 :: r, 0, v, 1, w, h => by simp [mc_st2] at h
  | o :: o2 :: r, 0, v, j + 2, w, h => by
    simp [mc_st2] at h
    exact Or.inr ⟨by omega, by omega, by simpa using h, by omega⟩
  | o :: r, 1, v, 0, w, h => by
    simp [mc_st2] at h
    obtain ⟨h1, h2⟩ := mc_k_some h
    exact Or.inr ⟨by omega, by omega, by simp [h1], fun h => by omega⟩
  | o :: r, 1, v, j + 1, w, h => by
    simp only [mc_st2, List.getElem?_cons_succ] at h
    rcases mc_st2_at r 0 v j w h with ⟨h1, h2⟩ | ⟨h1, h2, h3, h4⟩
    · exact Or.inl ⟨by omega, h2⟩
    · exact Or.inr ⟨by omega, by omega, by simpa using h3, by omega⟩
  | o :: r, i + 2, v, 0, w, h => by
    simp [mc_st2] at h
    exact Or.inr ⟨by omega, by omega, by simp [h], by omega⟩
  | o :: r, i + 2, v, j + 1, w, h => by
    simp only [mc_st2, List.getElem?_cons_succ] at h
    rcases mc_st2_at r (i + 1) v j w h with ⟨h1, h2⟩ | ⟨h1, h2, h3, h4⟩
    · exact Or.inl ⟨by omega, h2⟩
    · exact Or.inr ⟨by omega, by omega, by simpa using h3, by omega⟩
def mc_lst (b : Nat) (ls : List (Option Value)) : List (Nat × Value) := ls.zipIdx.filterMap (fun q => q.1.map (fun v => (q.2, mc_ga b v)))
theorem mc_lst_mem {b : Nat} {ls : List (Option Value)} {q : Nat × Value} : q ∈ mc_lst b ls ↔ ∃ v, ls[q.1]? = some (some v) ∧ q.2 = mc_ga b v := by
  unfold mc_lst
  rw [List.mem_filterMap]
  constructor
  · rintro ⟨⟨o, i⟩, hm, hq⟩
    have hi := List.mem_zipIdx_iff_getElem?.mp hm
    cases o with
    | none => cases hq
    | some v =>
      have hq' := Option.some.inj hq
      subst hq'
      exact ⟨v, hi, rfl⟩
  · rintro ⟨v, h1, h2⟩
    refine ⟨(some v, q.1), List.mem_zipIdx_iff_getElem?.mpr h1, ?_⟩
    show some (q.1, mc_ga b v) = some q
    rw [← h2]
def mc_lv (b nL : Nat) (ls : List (Option Value)) (lsC : Array Slot) : Prop := lv_has lsC nL (mc_lst b ls)
theorem mc_lv_at {b nL i : Nat} {ls : List (Option Value)} {lsC : Array Slot} {v : Value} (h : mc_lv b nL ls lsC) (hi : mc_at ls i = some (some v)) : lsC[i]? = some (.val (mc_ga b v)) :=
  h.2.2 (i, mc_ga b v) (mc_lst_mem.mpr ⟨v, by rw [← mc_at_eq]; exact hi, rfl⟩)
theorem mc_lv_st1 {b nL i : Nat} {ls : List (Option Value)} {lsC : Array Slot} {v : Value} (h : lv_has lsC nL ((i, mc_ga b v) :: (mc_lst b ls).filter (fun q => !(q.1 == i) && !(q.1 + 1 == i && q.2.category == 2)))) : mc_lv b nL (mc_st1 ls i v) lsC := by
  refine ⟨h.1, h.2.1, fun q hq => ?_⟩
  obtain ⟨w, h1, h2⟩ := mc_lst_mem.mp hq
  rcases mc_st1_at ls i v q.1 w h1 with ⟨e1, e2⟩ | ⟨e1, e2, e3⟩
  · rw [e1, h2, e2]
    exact h.2.2 _ List.mem_cons_self
  · refine h.2.2 q (List.mem_cons_of_mem _ (List.mem_filter.mpr ⟨mc_lst_mem.mpr ⟨w, e2, h2⟩, ?_⟩))
    have hc : q.2.category = w.category := by rw [h2, mc_ga_cat]
    rw [hc]
    by_cases hx : q.1 + 1 = i
    · have : ¬ w.category = 2 := fun z => e3 ⟨hx, z⟩
      simp [e1, this]
    · simp [e1, hx]
theorem mc_lv_st2 {b nL i : Nat} {ls : List (Option Value)} {lsC : Array Slot} {v : Value} (h : lv_has lsC nL ((i, mc_ga b v) :: (mc_lst b ls).filter (fun q => !(q.1 == i) && (!(q.1 == i + 1) && !(q.1 + 1 == i && q.2.category == 2))))) : mc_lv b nL (mc_st2 ls i v) lsC := by
  refine ⟨h.1, h.2.1, fun q hq => ?_⟩
  obtain ⟨w, h1, h2⟩ := mc_lst_mem.mp hq
  rcases mc_st2_at ls i v q.1 w h1 with ⟨e1, e2⟩ | ⟨e1, e0, e2, e3⟩
  · rw [e1, h2, e2]
    exact h.2.2 _ List.mem_cons_self
  · refine h.2.2 q (List.mem_cons_of_mem _ (List.mem_filter.mpr ⟨mc_lst_mem.mpr ⟨w, e2, h2⟩, ?_⟩))
    have hc : q.2.category = w.category := by rw [h2, mc_ga_cat]
    rw [hc]
    by_cases hx : q.1 + 1 = i
    · have : ¬ w.category = 2 := fun z => e3 ⟨hx, z⟩
      simp [e1, e0, this]
    · simp [e1, e0, hx]
/-- fewer locals: what is not kept is forgotten -/
def mc_kp : List Bool → List (Option Value) → List (Option Value)
  | true :: ks, o :: r => o :: mc_kp ks r
  | false :: ks, _ :: r => none :: mc_kp ks r
  | _, _ => []
theorem mc_kp_at : ∀ (ks : List Bool) (ls : List (Option Value)) (i : Nat) (v : Value), (mc_kp ks ls)[i]? = some (some v) → ls[i]? = some (some v)
  | true :: ks, o :: r, 0, v, h => by simpa [mc_kp] using h
  | true :: ks, o :: r, i + 1, v, h => by
    simp only [mc_kp, List.getElem?_cons_succ] at h ⊢
    exact mc_kp_at ks r i v h
  | false :: ks, _ :: r, 0, v, h => by simp [mc_kp] at h
  | false :: ks, _ :: r, i + 1, v, h => by
    simp only [mc_kp, List.getElem?_cons_succ] at h ⊢
    exact mc_kp_at ks r i v h
  | [], _, i, v, h => by simp [mc_kp] at h
  | true :: _, [], i, v, h => by simp [mc_kp] at h
  | false :: _, [], i, v, h => by simp [mc_kp] at h
theorem mc_lv_kp {b nL : Nat} {ls : List (Option Value)} {lsC : Array Slot} (ks : List Bool) (h : mc_lv b nL ls lsC) : mc_lv b nL (mc_kp ks ls) lsC := by
  refine ⟨h.1, h.2.1, fun q hq => h.2.2 q ?_⟩
  obtain ⟨w, h1, h2⟩ := mc_lst_mem.mp hq
  exact mc_lst_mem.mpr ⟨w, mc_kp_at ks ls _ _ h1, h2⟩
/-- the locals with which a method begins -/
def mc_args : List Value → Nat → List (Option Value)
  | [], n => List.replicate n none
  | .long x :: vs, n => some (.long x) :: none :: mc_args vs (n - 2)
  | .double x :: vs, n => some (.double x) :: none :: mc_args vs (n - 2)
  | v :: vs, n => some v :: mc_args vs (n - 1)
theorem mc_args_at (b : Nat) : ∀ (av : List Value) (k o i : Nat) (v : Value), (mc_args av k)[i]? = some (some v) → (o + i, mc_ga b v) ∈ lv_args o (av.map (mc_ga b))
  | [], k, o, i, v, h => by
    simp [mc_args, List.getElem?_replicate] at h
  | w :: vs, k, o, i, v, h => by
    by_cases hw : ∃ x, w = .long x
    · obtain ⟨x, rfl⟩ := hw
      show (o + i, mc_ga b v) ∈ (o, Value.long x) :: lv_args (if (Value.long x).category = 2 then o + 2 else o + 1) (vs.map (mc_ga b))
      rw [if_pos (show (Value.long x).category = 2 from rfl)]
      match i, h with
      | 0, h =>
        have h' : some (some (Value.long x)) = some (some v) := h
        cases h'
        exact List.mem_cons_self
      | 1, h =>
        have h' : some (none : Option Value) = some (some v) := h
        cases h'
      | i + 2, h =>
        have h' : (mc_args vs (k - 2))[i]? = some (some v) := h
        have := mc_args_at b vs (k - 2) (o + 2) i v h'
        rw [show o + (i + 2) = o + 2 + i by omega]
        exact List.mem_cons_of_mem _ this
    · by_cases hd : ∃ x, w = .double x
      · obtain ⟨x, rfl⟩ := hd
        show (o + i, mc_ga b v) ∈ (o, Value.double x) :: lv_args (if (Value.double x).category = 2 then o + 2 else o + 1) (vs.map (mc_ga b))
        rw [if_pos (show (Value.double x).category = 2 from rfl)]
        match i, h with
        | 0, h =>
          have h' : some (some (Value.double x)) = some (some v) := h
          cases h'
          exact List.mem_cons_self
        | 1, h =>
          have h' : some (none : Option Value) = some (some v) := h
          cases h'
        | i + 2, h =>
          have h' : (mc_args vs (k - 2))[i]? = some (some v) := h
          have := mc_args_at b vs (k - 2) (o + 2) i v h'
          rw [show o + (i + 2) = o + 2 + i by omega]
          exact List.mem_cons_of_mem _ this
      · have hc : (mc_ga b w).category = 1 := by
          rw [mc_ga_cat]
          cases w with
          | long x => exact absurd ⟨x, rfl⟩ hw
          | double x => exact absurd ⟨x, rfl⟩ hd
          | _ => rfl
        have e : mc_args (w :: vs) k = some w :: mc_args vs (k - 1) := by
          cases w with
          | long x => exact absurd ⟨x, rfl⟩ hw
          | double x => exact absurd ⟨x, rfl⟩ hd
          | _ => rfl
        rw [e] at h
        show (o + i, mc_ga b v) ∈ (o, mc_ga b w) :: lv_args (if (mc_ga b w).category = 2 then o + 2 else o + 1) (vs.map (mc_ga b))
        rw [if_neg (by omega)]
        match i, h with
        | 0, h =>
          have h' : some (some w) = some (some v) := h
          cases h'
          exact List.mem_cons_self
        | i + 1, h =>
          have h' : (mc_args vs (k - 1))[i]? = some (some v) := h
          have := mc_args_at b vs (k - 1) (o + 1) i v h'
          rw [show o + (i + 1) = o + 1 + i by omega]
          exact List.mem_cons_of_mem _ this
theorem mc_lv_entry {b nL : Nat} {av : List Value} {lsC : Array Slot} (h : lv_has lsC nL (lv_args 0 (av.map (mc_ga b)))) : mc_lv b nL (mc_args av nL) lsC := by
  refine ⟨h.1, h.2.1, fun q hq => h.2.2 q ?_⟩
  obtain ⟨w, h1, h2⟩ := mc_lst_mem.mp hq
  have := mc_args_at b av nL 0 q.1 w h1
  rw [Nat.zero_add, ← h2] at this
  exact this
end
section
/-! The machine over the abstract memory: a state of a walk is a place, the known locals, the stack, how many cells the world has, and the memory. -/
abbrev mc_K : Type := Nat → List (Option Value) → List Value → Nat → mc_M → mc_L → Prop
abbrev mc_PT : Type := List Value → Nat → mc_M → mc_L → (Option Value → mc_M → mc_L → Prop) → Prop
def mc_ty (cA : Nat → ClassId) : List (ClassId × FieldType) := [(cA 0, .int), (cA 1, .long), (cA 2, .char), (cA 3, .boolean)]
def mc_V (p : Program) (l : Launch) (e : Env) (R : Room) (s : State) (m : MethodId) (args : Array Value) (below : List Frame) (meth : Method) (c : Code) (Q : State → Prop) (D : va_G) (cl : List vw_C) (b : Nat) (cA : Nat → ClassId) (md : Bool) (tab : List mc_D) (nL n0 dn : Nat) : mc_K := fun pc ls st n M L =>
  (n0 ≤ n ∧ n ≤ n0 + dn) → (md = true → tab.length ≤ n) → ∀ (H : Heap) (locs : List Loc) (lsC : Array Slot), va_P D cl (mc_wd b cA md tab n M L) H → (md = false → H.size = b + n) → va_S (mc_A md b tab.length) s.heap H locs → mc_lv b nL ls lsC →
    W p l e R s m args below meth c H locs (n - n0) (mc_sl tab n - mc_sl tab n0) Q (F0 m pc lsC (st.map (mc_ga b)))
def mc_lk {α : Type} : List (Nat × α) → Nat → Option α
  | [], _ => none
  | (k, a) :: r, i => match Nat.beq k i with
    | true => some a
    | false => mc_lk r i
theorem mc_lk_mem {α : Type} : ∀ {l : List (Nat × α)} {i : Nat} {a : α}, mc_lk l i = some a → (i, a) ∈ l
  | [], i, a, h => by cases h
  | (k, x) :: r, i, a, h => by
    unfold mc_lk at h
    split at h
    · next hk =>
      have hk' := Nat.eq_of_beq_eq_true hk
      subst hk'
      cases h
      exact List.mem_cons_self
    · exact List.mem_cons_of_mem _ (mc_lk_mem h)
/-! taking values from the stack -/
def mc_pi (st : List Value) (k : Int32 → List Value → Prop) : Prop := match st with
  | .int x :: r => k x r
  | _ => False
def mc_pii (st : List Value) (k : Int32 → Int32 → List Value → Prop) : Prop := match st with
  | .int y :: .int x :: r => k x y r
  | _ => False
def mc_pl (st : List Value) (k : Int64 → List Value → Prop) : Prop := match st with
  | .long x :: r => k x r
  | _ => False
def mc_pll (st : List Value) (k : Int64 → Int64 → List Value → Prop) : Prop := match st with
  | .long y :: .long x :: r => k x y r
  | _ => False
def mc_pr (st : List Value) (k : Nat → List Value → Prop) : Prop := match st with
  | .ref a :: r => k a r
  | _ => False
def mc_pir (st : List Value) (k : Int32 → Nat → List Value → Prop) : Prop := match st with
  | .int i :: .ref a :: r => k i a r
  | _ => False
def mc_piir (st : List Value) (k : Int32 → Int32 → Nat → List Value → Prop) : Prop := match st with
  | .int x :: .int i :: .ref a :: r => k x i a r
  | _ => False
def mc_plir (st : List Value) (k : Int64 → Int32 → Nat → List Value → Prop) : Prop := match st with
  | .long x :: .int i :: .ref a :: r => k x i a r
  | _ => False
def mc_pvr (st : List Value) (k : Value → Nat → List Value → Prop) : Prop := match st with
  | v :: .ref a :: r => k v a r
  | _ => False
theorem mc_pi_e {st : List Value} {k : Int32 → List Value → Prop} (h : mc_pi st k) : ∃ x r, st = .int x :: r ∧ k x r := by
  unfold mc_pi at h; split at h
  · exact ⟨_, _, rfl, h⟩
  · exact h.elim
theorem mc_pii_e {st : List Value} {k : Int32 → Int32 → List Value → Prop} (h : mc_pii st k) : ∃ x y r, st = .int y :: .int x :: r ∧ k x y r := by
  unfold mc_pii at h; split at h
  · exact ⟨_, _, _, rfl, h⟩
  · exact h.elim
theorem mc_pl_e {st : List Value} {k : Int64 → List Value → Prop} (h : mc_pl st k) : ∃ x r, st = .long x :: r ∧ k x r := by
  unfold mc_pl at h; split at h
  · exact ⟨_, _, rfl, h⟩
  · exact h.elim
theorem mc_pll_e {st : List Value} {k : Int64 → Int64 → List Value → Prop} (h : mc_pll st k) : ∃ x y r, st = .long y :: .long x :: r ∧ k x y r := by
  unfold mc_pll at h; split at h
  · exact ⟨_, _, _, rfl, h⟩
  · exact h.elim
theorem mc_pr_e {st : List Value} {k : Nat → List Value → Prop} (h : mc_pr st k) : ∃ a r, st = .ref a :: r ∧ k a r := by
  unfold mc_pr at h; split at h
  · exact ⟨_, _, rfl, h⟩
  · exact h.elim
theorem mc_pir_e {st : List Value} {k : Int32 → Nat → List Value → Prop} (h : mc_pir st k) : ∃ i a r, st = .int i :: .ref a :: r ∧ k i a r := by
  unfold mc_pir at h; split at h
  · exact ⟨_, _, _, rfl, h⟩
  · exact h.elim
theorem mc_piir_e {st : List Value} {k : Int32 → Int32 → Nat → List Value → Prop} (h : mc_piir st k) : ∃ x i a r, st = .int x :: .int i :: .ref a :: r ∧ k x i a r := by
  unfold mc_piir at h; split at h
  · exact ⟨_, _, _, _, rfl, h⟩
  · exact h.elim
theorem mc_plir_e {st : List Value} {k : Int64 → Int32 → Nat → List Value → Prop} (h : mc_plir st k) : ∃ x i a r, st = .long x :: .int i :: .ref a :: r ∧ k x i a r := by
  unfold mc_plir at h; split at h
  · exact ⟨_, _, _, _, rfl, h⟩
  · exact h.elim
theorem mc_pvr_e {st : List Value} {k : Value → Nat → List Value → Prop} (h : mc_pvr st k) : ∃ v a r, st = v :: .ref a :: r ∧ k v a r := by
  unfold mc_pvr at h; split at h
  · exact ⟨_, _, _, rfl, h⟩
  · exact h.elim
/-- a local -/
def mc_li (ls : List (Option Value)) (i : Nat) (k : Int32 → Prop) : Prop := match mc_at ls i with
  | some (some (.int x)) => k x
  | _ => False
def mc_ll (ls : List (Option Value)) (i : Nat) (k : Int64 → Prop) : Prop := match mc_at ls i with
  | some (some (.long x)) => k x
  | _ => False
def mc_lr (ls : List (Option Value)) (i : Nat) (k : Value → Prop) : Prop := match mc_at ls i with
  | some (some (.ref x)) => k (.ref x)
  | some (some (.retAddr x)) => k (.retAddr x)
  | _ => False
theorem mc_li_e {ls : List (Option Value)} {i : Nat} {k : Int32 → Prop} (h : mc_li ls i k) : ∃ x, mc_at ls i = some (some (.int x)) ∧ k x := by
  unfold mc_li at h; split at h
  · next hx => exact ⟨_, hx, h⟩
  · exact h.elim
theorem mc_ll_e {ls : List (Option Value)} {i : Nat} {k : Int64 → Prop} (h : mc_ll ls i k) : ∃ x, mc_at ls i = some (some (.long x)) ∧ k x := by
  unfold mc_ll at h; split at h
  · next hx => exact ⟨_, hx, h⟩
  · exact h.elim
theorem mc_lr_e {ls : List (Option Value)} {i : Nat} {k : Value → Prop} (h : mc_lr ls i k) (b : Nat) : ∃ v x, mc_at ls i = some (some v) ∧ mc_ga b v = .ref x ∧ k v := by
  unfold mc_lr at h; split at h
  · next x hx => exact ⟨.ref x, b + x, hx, rfl, h⟩
  · next x hx => exact ⟨.retAddr x, x, hx, rfl, h⟩
  · exact h.elim
/-- a cell that is there -/
def mc_in (md : Bool) (a n : Nat) (P : Prop) : Prop := match md with
  | true => P
  | false => a < n ∧ P
theorem mc_in_e {md : Bool} {a n : Nat} {P : Prop} {tab : List mc_D} {d : mc_D} (h : mc_in md a n P) (hf : md = true → tab.length ≤ n) (hd : tab[a]? = some d) : a < n ∧ P := by
  have hl : a < tab.length := (List.getElem?_eq_some_iff.mp hd).1
  cases md with
  | true => exact ⟨Nat.lt_of_lt_of_le hl (hf rfl), h⟩
  | false => exact h
/-- an array; an object of a class -/
def mc_ar (md : Bool) (tab : List mc_D) (a n t : Nat) (k : Nat → Prop) : Prop := match mc_at tab a with
  | some (.inl (t', len)) => match Nat.beq t t' with
    | true => mc_in md a n (k len)
    | false => False
  | _ => False
theorem mc_ar_e {md : Bool} {tab : List mc_D} {a n t : Nat} {k : Nat → Prop} (h : mc_ar md tab a n t k) (hf : md = true → tab.length ≤ n) : ∃ len, tab[a]? = some (.inl (t, len)) ∧ a < n ∧ k len := by
  unfold mc_ar at h; split at h
  · next t' len hd =>
    rw [mc_at_eq] at hd
    split at h
    · next hb =>
      have := Nat.eq_of_beq_eq_true hb
      subst this
      obtain ⟨h1, h2⟩ := mc_in_e h hf hd
      exact ⟨len, hd, h1, h2⟩
    · exact h.elim
  · exact h.elim
def mc_ob (md : Bool) (tab : List mc_D) (a n ci k : Nat) (kk : Nat → Prop) : Prop := match mc_at tab a with
  | some (.inr (ci', fds)) => match Nat.beq ci ci' with
    | true => match mc_at fds k with
      | some fd => mc_in md a n (kk fd)
      | none => False
    | false => False
  | _ => False
theorem mc_ob_e {md : Bool} {tab : List mc_D} {a n ci k : Nat} {kk : Nat → Prop} (h : mc_ob md tab a n ci k kk) (hf : md = true → tab.length ≤ n) : ∃ fds fd, tab[a]? = some (.inr (ci, fds)) ∧ fds[k]? = some fd ∧ a < n ∧ kk fd := by
  unfold mc_ob at h; split at h
  · next ci' fds hd =>
    rw [mc_at_eq] at hd
    split at h
    · next hb =>
      have := Nat.eq_of_beq_eq_true hb
      subst this
      split at h
      · next fd hk =>
        rw [mc_at_eq] at hk
        obtain ⟨h1, h2⟩ := mc_in_e h hf hd
        exact ⟨fds, fd, hd, hk, h1, h2⟩
      · exact h.elim
    · exact h.elim
  · exact h.elim
/-- what a field gives -/
def mc_gf (md : Bool) (M : mc_M) (i k fd : Nat) (kk : Value → Prop) : Prop := match fd with
  | 0 => kk (.int (M i k))
  | 1 => M i k ≠ 0 ∧ kk (.ref (M i k).toNatClampNeg)
  | 2 => kk (.int (M i k))
  | r + 3 => match md with
    | true => kk (.ref r)
    | false => M i k ≠ 0 ∧ kk (.ref r)
theorem mc_gf_e {md : Bool} {M : mc_M} {i k fd : Nat} {kk : Value → Prop} (h : mc_gf md M i k fd kk) : kk (mc_fv md M i k fd) := by
  match fd, h with
  | 0, h => exact h
  | 1, h =>
    show kk (if M i k = 0 then .null else .ref (M i k).toNatClampNeg)
    rw [if_neg h.1]
    exact h.2
  | 2, h => exact h
  | r + 3, h =>
    show kk (if md = true then .ref r else if M i k = 0 then .null else .ref r)
    cases md with
    | true => exact h
    | false =>
      rw [if_neg (by decide), if_neg h.1]
      exact h.2
/-- what a field takes: an int; a reference to a cell, as its number; a boolean; the one reference that it may hold -/
def mc_pf (M : mc_M) (i k fd : Nat) (v : Value) (kk : Int32 → Prop) : Prop := match fd with
  | 0 => match v with
    | .int x => kk x
    | _ => False
  | 1 => match v with
    | .ref r => Int32.ofNat r ≠ 0 ∧ (Int32.ofNat r).toNatClampNeg = r ∧ kk (Int32.ofNat r)
    | _ => False
  | 2 => match v with
    | .int x => (x = 0 ∨ x = 1) ∧ kk x
    | _ => False
  | r + 3 => match v with
    | .ref r' => match Nat.beq r r' with
      | true => kk 1
      | false => False
    | _ => False
theorem mc_pf_e {md : Bool} {M : mc_M} {i k fd : Nat} {v : Value} {kk : Int32 → Prop} (h : mc_pf M i k fd v kk) : ∃ x, kk x ∧ mc_fv md (mc_put M i k x) i k fd = v ∧ ((∃ z, v = .int z ∧ (fd = 0 ∨ (fd = 2 ∧ (z = 0 ∨ z = 1)))) ∨ (∃ r, v = .ref r ∧ fd ≠ 0 ∧ fd ≠ 2)) := by
  have hp : ∀ x, mc_put M i k x i k = x := fun x => by
    show mc_set M i (upd (M i) k x) i k = x
    rw [mc_set_s, pk_us]
  match fd, h with
  | 0, h =>
    cases v with
    | int x => exact ⟨x, h, by show Value.int _ = _; rw [hp], Or.inl ⟨x, rfl, Or.inl rfl⟩⟩
    | _ => exact False.elim h
  | 1, h =>
    cases v with
    | ref r =>
      obtain ⟨h1, h2, h3⟩ : Int32.ofNat r ≠ 0 ∧ (Int32.ofNat r).toNatClampNeg = r ∧ kk (Int32.ofNat r) := h
      refine ⟨Int32.ofNat r, h3, ?_, Or.inr ⟨r, rfl, by decide, by decide⟩⟩
      show (if mc_put M i k (Int32.ofNat r) i k = 0 then Value.null else .ref (mc_put M i k (Int32.ofNat r) i k).toNatClampNeg) = _
      rw [hp, if_neg h1, h2]
    | _ => exact False.elim h
  | 2, h =>
    cases v with
    | int x =>
      obtain ⟨h1, h2⟩ : (x = 0 ∨ x = 1) ∧ kk x := h
      exact ⟨x, h2, by show Value.int _ = _; rw [hp], Or.inl ⟨x, rfl, Or.inr ⟨rfl, h1⟩⟩⟩
    | _ => exact False.elim h
  | r + 3, h =>
    cases v with
    | ref r' =>
      have h' : (match Nat.beq r r' with
        | true => kk 1
        | false => False) := h
      split at h'
      · next hb =>
        have := Nat.eq_of_beq_eq_true hb
        subst this
        refine ⟨1, h', ?_, Or.inr ⟨r, rfl, by omega, by omega⟩⟩
        show (if md = true then Value.ref r else if mc_put M i k 1 i k = 0 then .null else .ref r) = _
        rw [hp]
        split
        · rfl
        · rw [if_neg (by decide)]
      · exact h'.elim
    | _ => exact False.elim h
/-- the arguments of a call -/
def mc_tk : Nat → List Value → List Value → Option (List Value × List Value)
  | 0, st, acc => some (acc, st)
  | k + 1, v :: r, acc => mc_tk k r (v :: acc)
  | _ + 1, [], _ => none
theorem mc_tk_e : ∀ (k : Nat) (st acc av r : List Value), mc_tk k st acc = some (av, r) → ∃ a1, av = a1 ++ acc ∧ st = a1.reverse ++ r ∧ a1.length = k
  | 0, st, acc, av, r, h => by
    cases h
    exact ⟨[], rfl, rfl, rfl⟩
  | k + 1, v :: r0, acc, av, r, h => by
    obtain ⟨a1, h1, h2, h3⟩ := mc_tk_e k r0 (v :: acc) av r h
    exact ⟨a1 ++ [v], by simp [h1], by simp [h2], by simp [h3]⟩
  | k + 1, [], acc, av, r, h => by cases h
def mc_w (st : List Value) : Nat := match st with
  | [] => 0
  | v :: r => v.category + mc_w r
theorem mc_w_eq (b : Nat) : ∀ st : List Value, ((st.map (mc_ga b)).map fun v => v.category).sum = mc_w st
  | [] => rfl
  | v :: r => by
    have h := mc_w_eq b r
    simp only [List.map_cons, List.sum_cons, mc_w, mc_ga_cat, h]
/-- a switch -/
def mc_sw (x : Int32) (cs : List (Int32 × Nat)) (d : Nat) (k : Nat → Prop) : Prop := match cs with
  | [] => True ∧ k d
  | (v, t) :: r => (x = v → k t) ∧ (¬ x = v → mc_sw x r d k)
def mc_fi (x : Int32) (cs : List (Int32 × Nat)) (d : Nat) : Nat := match cs with
  | [] => d
  | (v, t) :: r => if x = v then t else mc_fi x r d
theorem mc_sw_e {x : Int32} {d : Nat} {k : Nat → Prop} : ∀ {cs : List (Int32 × Nat)}, mc_sw x cs d k → k (mc_fi x cs d)
  | [], h => h.2
  | (v, t) :: r, h => by
    unfold mc_fi
    split
    · next e => exact h.1 e
    · next e => exact mc_sw_e (h.2 e)
end
section
/-- a method's table: place, instruction, its length, the target of a jump, the constant -/
abbrev mc_R : Type := Nat × Instr × Nat × Nat × Int32
/-- a class's sheet: fields read and fields written (pool number: class, slot); calls (pool number: 0 virtual, 1 static, 2 special; how many values it takes, how many cells it makes, what it does); classes made; classes thrown; int and long constants; switches by their place; the law's script: where it is, its length, its ints -/
abbrev mc_SH : Type := (List (Nat × Nat × Nat) × List (Nat × Nat × Nat)) × List (Nat × Nat × Nat × Nat × mc_PT) × List (Nat × Nat) × List (Nat × Nat) × List (Nat × Int32) × List (Nat × Int64) × List (Nat × List (Int32 × Nat) × Nat) × Option (Nat × Nat × (Nat → Int32))
def mc_ri (ret : Option FieldType) (x : Int32) (P : Prop) : Prop := match ret with
  | some .int => P
  | some .boolean => (x = 0 ∨ x = 1) ∧ P
  | _ => False
def mc_en (md : Bool) (n n0 dn : Nat) (P : Prop) : Prop := match md with
  | true => n ≤ n0 + dn ∧ P
  | false => n = n0 + dn ∧ P
def mc_cd (cd : Jvm.ClassFile.Cond) (x y : Int32) (kt kf : Prop) : Prop := match cd with
  | .eq => (x = y → kt) ∧ (¬ x = y → kf)
  | .ne => (¬ x = y → kt) ∧ (x = y → kf)
  | .lt => (x < y → kt) ∧ (¬ x < y → kf)
  | .ge => (y ≤ x → kt) ∧ (¬ y ≤ x → kf)
  | .gt => (y < x → kt) ∧ (¬ y < x → kf)
  | .le => (x ≤ y → kt) ∧ (¬ x ≤ y → kf)
def mc_rm (n n0 dn dn' : Nat) (P : Prop) : Prop := match dn' with
  | 0 => P
  | k + 1 => n + (k + 1) ≤ n0 + dn ∧ P
theorem mc_rm_e {n n0 dn dn' : Nat} {P : Prop} (h : mc_rm n n0 dn dn' P) (hn : n ≤ n0 + dn) : n + dn' ≤ n0 + dn ∧ P := by
  cases dn' with
  | zero => exact ⟨hn, h⟩
  | succ k => exact h
def mc_call (kd n0 dn : Nat) (cal : List (Nat × Nat × Nat × Nat × mc_PT)) (idx : Nat) (st : List Value) (n : Nat) (M : mc_M) (L : mc_L) (k : List Value → Nat → mc_M → mc_L → Prop) : Prop := match mc_lk cal idx with
  | some (kd', a, dn', F) => match mc_tk a st [] with
    | some (av, r) => match Nat.beq kd kd' && Nat.ble (mc_w r) 8 with
      | true => mc_rm n n0 dn dn' (F av n M L (fun rv M' L' => k (rv.toList ++ r) (n + dn') M' L'))
      | false => False
    | none => False
  | none => False
def mc_step (md : Bool) (tab : List mc_D) (n0 dn : Nat) (ret : Option FieldType) (sh : mc_SH) (Qr : Option Value → mc_M → mc_L → Prop) (Qt : Nat → mc_M → mc_L → Prop) (K : mc_K) (x : Instr) (tgt : Nat) (v : Int32) (pc : Nat) (ls : List (Option Value)) (st : List Value) (n : Nat) (M : mc_M) (L : mc_L) : Prop := match x with
  | .aload i => mc_lr ls i fun a => K (pc + 2) ls (a :: st) n M L
  | .aload_n i => mc_lr ls i fun a => K (pc + 1) ls (a :: st) n M L
  | .iload i => mc_li ls i fun a => K (pc + 2) ls (.int a :: st) n M L
  | .iload_n i => mc_li ls i fun a => K (pc + 1) ls (.int a :: st) n M L
  | .lload i => mc_ll ls i fun a => K (pc + 2) ls (.long a :: st) n M L
  | .lload_n i => mc_ll ls i fun a => K (pc + 1) ls (.long a :: st) n M L
  | .istore i => mc_pi st fun a r => K (pc + 2) (mc_st1 ls i (.int a)) r n M L
  | .istore_n i => mc_pi st fun a r => K (pc + 1) (mc_st1 ls i (.int a)) r n M L
  | .astore i => mc_pr st fun a r => K (pc + 2) (mc_st1 ls i (.ref a)) r n M L
  | .astore_n i => mc_pr st fun a r => K (pc + 1) (mc_st1 ls i (.ref a)) r n M L
  | .lstore i => mc_pl st fun a r => K (pc + 2) (mc_st2 ls i (.long a)) r n M L
  | .lstore_n i => mc_pl st fun a r => K (pc + 1) (mc_st2 ls i (.long a)) r n M L
  | .iinc i _ => mc_li ls i fun a => K (pc + 3) (mc_st1 ls i (.int (a + v))) st n M L
  | .iconst _ => K (pc + 1) ls (.int v :: st) n M L
  | .bipush _ => K (pc + 2) ls (.int v :: st) n M L
  | .sipush _ => K (pc + 3) ls (.int v :: st) n M L
  | .lconst i => match i.val with
    | 0 => K (pc + 1) ls (.long 0 :: st) n M L
    | _ => K (pc + 1) ls (.long 1 :: st) n M L
  | .ldc i => match mc_lk sh.2.2.2.2.1 i with
    | some w => K (pc + 2) ls (.int w :: st) n M L
    | none => False
  | .ldc2_w i => match mc_lk sh.2.2.2.2.2.1 i with
    | some w => K (pc + 3) ls (.long w :: st) n M L
    | none => False
  | .iadd => mc_pii st fun x y r => K (pc + 1) ls (.int (x + y) :: r) n M L
  | .isub => mc_pii st fun x y r => K (pc + 1) ls (.int (x - y) :: r) n M L
  | .imul => mc_pii st fun x y r => K (pc + 1) ls (.int (x * y) :: r) n M L
  | .iand => mc_pii st fun x y r => K (pc + 1) ls (.int (x &&& y) :: r) n M L
  | .ior => mc_pii st fun x y r => K (pc + 1) ls (.int (x ||| y) :: r) n M L
  | .ixor => mc_pii st fun x y r => K (pc + 1) ls (.int (x ^^^ y) :: r) n M L
  | .ishl => mc_pii st fun x y r => K (pc + 1) ls (.int (x <<< (y &&& 31)) :: r) n M L
  | .ishr => mc_pii st fun x y r => K (pc + 1) ls (.int (x >>> (y &&& 31)) :: r) n M L
  | .idiv => mc_pii st fun x y r => ¬ y = 0 ∧ K (pc + 1) ls (.int (x / y) :: r) n M L
  | .irem => mc_pii st fun x y r => ¬ y = 0 ∧ K (pc + 1) ls (.int (x - x / y * y) :: r) n M L
  | .ineg => mc_pi st fun x r => K (pc + 1) ls (.int (-x) :: r) n M L
  | .ladd => mc_pll st fun x y r => K (pc + 1) ls (.long (x + y) :: r) n M L
  | .lsub => mc_pll st fun x y r => K (pc + 1) ls (.long (x - y) :: r) n M L
  | .lmul => mc_pll st fun x y r => K (pc + 1) ls (.long (x * y) :: r) n M L
  | .ldiv => mc_pll st fun x y r => ¬ y = 0 ∧ K (pc + 1) ls (.long (x / y) :: r) n M L
  | .lrem => mc_pll st fun x y r => ¬ y = 0 ∧ K (pc + 1) ls (.long (x - x / y * y) :: r) n M L
  | .lneg => mc_pl st fun x r => K (pc + 1) ls (.long (-x) :: r) n M L
  | .lcmp => mc_pll st fun x y r => K (pc + 1) ls (.int (lg_cmp x y) :: r) n M L
  | .i2l => mc_pi st fun x r => K (pc + 1) ls (.long x.toInt64 :: r) n M L
  | .l2i => mc_pl st fun x r => K (pc + 1) ls (.int x.toInt32 :: r) n M L
  | .i2c => mc_pi st fun x r => K (pc + 1) ls (.int (x.toUInt32 % 65536).toInt32 :: r) n M L
  | .dup => match st with
    | .int x :: r => K (pc + 1) ls (.int x :: .int x :: r) n M L
    | .ref x :: r => K (pc + 1) ls (.ref x :: .ref x :: r) n M L
    | _ => False
  | .dup2 => match st with
    | .int x :: .ref y :: r => K (pc + 1) ls (.int x :: .ref y :: .int x :: .ref y :: r) n M L
    | .long x :: r => K (pc + 1) ls (.long x :: .long x :: r) n M L
    | _ => False
  | .dup_x1 => match st with
    | .int x :: .ref y :: r => K (pc + 1) ls (.int x :: .ref y :: .int x :: r) n M L
    | _ => False
  | .pop => match st with
    | .int _ :: r => K (pc + 1) ls r n M L
    | .ref _ :: r => K (pc + 1) ls r n M L
    | _ => False
  | .ifCond cd _ => mc_pi st fun x r => mc_cd cd x 0 (K tgt ls r n M L) (K (pc + 3) ls r n M L)
  | .if_icmp cd _ => mc_pii st fun x y r => mc_cd cd x y (K tgt ls r n M L) (K (pc + 3) ls r n M L)
  | .goto _ => K tgt ls st n M L
  | .tableswitch .. => match mc_lk sh.2.2.2.2.2.2.1 pc with
    | some (cs, d) => mc_pi st fun x r => mc_sw x cs d fun t => K t ls r n M L
    | none => False
  | .lookupswitch .. => match mc_lk sh.2.2.2.2.2.2.1 pc with
    | some (cs, d) => mc_pi st fun x r => mc_sw x cs d fun t => K t ls r n M L
    | none => False
  | .getfield i => match mc_lk sh.1.1 i with
    | some (ci, k) => mc_pr st fun a r => mc_ob md tab a n ci k fun fd => mc_gf md M a k fd fun w => K (pc + 3) ls (w :: r) n M L
    | none => False
  | .putfield i => match mc_lk sh.1.2 i with
    | some (ci, k) => mc_pvr st fun w a r => mc_ob md tab a n ci k fun fd => mc_pf M a k fd w fun x => K (pc + 3) ls r n (mc_put M a k x) L
    | none => False
  | .arraylength => match st with
    | .retAddr a :: r => match sh.2.2.2.2.2.2.2 with
      | some (sa, len, _) => a = sa ∧ K (pc + 1) ls (.int (Int32.ofNat len) :: r) n M L
      | none => False
    | .ref a :: r => match mc_at tab a with
      | some (.inl (_, len)) => mc_in md a n (K (pc + 1) ls (.int (Int32.ofNat len) :: r) n M L)
      | _ => False
    | _ => False
  | .iaload => match st with
    | .int i :: .retAddr a :: r => match sh.2.2.2.2.2.2.2 with
      | some (sa, len, xs) => a = sa ∧ vp_in i len ∧ K (pc + 1) ls (.int (xs i.toNatClampNeg) :: r) n M L
      | none => False
    | st => mc_pir st fun i a r => mc_ar md tab a n 0 fun len => vp_in i len ∧ K (pc + 1) ls (.int (M a i.toNatClampNeg) :: r) n M L
  | .caload => mc_pir st fun i a r => mc_ar md tab a n 2 fun len => vp_in i len ∧ K (pc + 1) ls (.int (M a i.toNatClampNeg) :: r) n M L
  | .baload => mc_pir st fun i a r => mc_ar md tab a n 3 fun len => vp_in i len ∧ K (pc + 1) ls (.int (M a i.toNatClampNeg) :: r) n M L
  | .laload => mc_pir st fun i a r => mc_ar md tab a n 1 fun len => vp_in i len ∧ K (pc + 1) ls (.long (L a i.toNatClampNeg) :: r) n M L
  | .iastore => mc_piir st fun x i a r => mc_ar md tab a n 0 fun len => vp_in i len ∧ K (pc + 1) ls r n (mc_put M a i.toNatClampNeg x) L
  | .castore => mc_piir st fun x i a r => mc_ar md tab a n 2 fun len => vp_in i len ∧ K (pc + 1) ls r n (mc_put M a i.toNatClampNeg (vp_nar .char x)) L
  | .bastore => mc_piir st fun x i a r => mc_ar md tab a n 3 fun len => vp_in i len ∧ K (pc + 1) ls r n (mc_put M a i.toNatClampNeg (vp_nar .boolean x)) L
  | .lastore => mc_plir st fun x i a r => mc_ar md tab a n 1 fun len => vp_in i len ∧ K (pc + 1) ls r n M (mc_putL L a i.toNatClampNeg x)
  | .invokevirtual i => mc_call 0 n0 dn sh.2.1 i st n M L fun st' n' M' L' => K (pc + 3) ls st' n' M' L'
  | .invokestatic i => mc_call 1 n0 dn sh.2.1 i st n M L fun st' n' M' L' => K (pc + 3) ls st' n' M' L'
  | .invokespecial i => mc_call 2 n0 dn sh.2.1 i st n M L fun st' n' M' L' => K (pc + 3) ls st' n' M' L'
  | .ireturn => match st with
    | [.int x] => mc_ri ret x (mc_en md n n0 dn (Qr (some (.int x)) M L))
    | _ => False
  | .return_ => match st, ret with
    | [], none => mc_en md n n0 dn (Qr none M L)
    | _, _ => False
  | .new i => match mc_lk sh.2.2.1 i with
    | some ci => match md with
      | true => False
      | false => match mc_at tab n with
        | some (.inr (ci', _)) => match Nat.beq ci ci' with
          | true => n < n0 + dn ∧ K (pc + 3) ls (.ref n :: st) (n + 1) (mc_set M n (fun _ => 0)) L
          | false => False
        | _ => False
    | none => match mc_lk sh.2.2.2.1 i with
      | some k => match md, st with
        | true, [] => n < n0 + dn ∧ Qt k M L
        | _, _ => False
      | none => False
  | .newarray _ => mc_pi st fun x r => match md with
    | true => False
    | false => match mc_at tab n with
      | some (.inl (t, len)) => match Nat.beq t tgt with
        | true => x = Int32.ofNat len ∧ n < n0 + dn ∧ K (pc + 2) ls (.ref n :: r) (n + 1) (mc_set M n (fun _ => 0)) (mc_setL L n (fun _ => 0))
        | false => False
      | _ => False
  | _ => False
theorem mc_call_e {kd n0 dn : Nat} {cal : List (Nat × Nat × Nat × Nat × mc_PT)} {idx : Nat} {st : List Value} {n : Nat} {M : mc_M} {L : mc_L} {k : List Value → Nat → mc_M → mc_L → Prop} (h : mc_call kd n0 dn cal idx st n M L k) (hn : n ≤ n0 + dn) :
    ∃ a dn' F av r, mc_lk cal idx = some (kd, a, dn', F) ∧ st = av.reverse ++ r ∧ av.length = a ∧ mc_w r ≤ 8 ∧ n + dn' ≤ n0 + dn ∧ F av n M L (fun rv M' L' => k (rv.toList ++ r) (n + dn') M' L') := by
  unfold mc_call at h
  split at h
  · next kd' a dn' F hk =>
    split at h
    · next av r ht =>
      split at h
      · next hb =>
        obtain ⟨h1, h2⟩ := (Bool.and_eq_true _ _).mp hb
        have h1 := Nat.eq_of_beq_eq_true h1
        subst h1
        obtain ⟨a1, e1, e2, e3⟩ := mc_tk_e a st [] av r ht
        rw [List.append_nil] at e1
        subst e1
        obtain ⟨h3, h4⟩ := mc_rm_e h hn
        exact ⟨a, dn', F, av, r, hk, e2, e3, Nat.le_of_ble_eq_true h2, h3, h4⟩
      · exact h.elim
    · exact h.elim
  · exact h.elim
end
section
section MVS
variable {p : Program} {l : Launch} {e : Env} {R : Room} {s : State} {m : MethodId} {args : Array Value} {below : List Frame} {meth : Method} {c : Code} {Q : State → Prop}
variable {D : va_G} {cl : List vw_C} {b : Nat} {cA : Nat → ClassId} {md : Bool} {tab : List mc_D} {nL n0 dn : Nat}
variable {cc : ByteArray} {pc : Nat} {ls : List (Option Value)} {st r : List Value} {n : Nat} {M : mc_M} {L : mc_L}
theorem mv_go {pc' : Nat} {st' : List Value} (h : ∀ (H : Heap) (locs : List Loc) (lsC : Array Slot) (x y : Nat), mc_lv b nL ls lsC → W p l e R s m args below meth c H locs x y Q (F0 m pc' lsC (st'.map (mc_ga b))) → W p l e R s m args below meth c H locs x y Q (F0 m pc lsC (st.map (mc_ga b)))) (k : mc_V p l e R s m args below meth c Q D cl b cA md tab nL n0 dn pc' ls st' n M L) : mc_V p l e R s m args below meth c Q D cl b cA md tab nL n0 dn pc ls st n M L :=
  fun h0 hf H locs lsC hP hz hS hl => h H locs lsC _ _ hl (k h0 hf H locs lsC hP hz hS hl)
theorem mv_br {P1 P2 : Prop} {pc1 pc2 : Nat} {st' : List Value} (h : ∀ (H : Heap) (locs : List Loc) (lsC : Array Slot) (x y : Nat), (P1 → W p l e R s m args below meth c H locs x y Q (F0 m pc1 lsC (st'.map (mc_ga b)))) → (P2 → W p l e R s m args below meth c H locs x y Q (F0 m pc2 lsC (st'.map (mc_ga b)))) → W p l e R s m args below meth c H locs x y Q (F0 m pc lsC (st.map (mc_ga b)))) (k : (P1 → mc_V p l e R s m args below meth c Q D cl b cA md tab nL n0 dn pc1 ls st' n M L) ∧ (P2 → mc_V p l e R s m args below meth c Q D cl b cA md tab nL n0 dn pc2 ls st' n M L)) : mc_V p l e R s m args below meth c Q D cl b cA md tab nL n0 dn pc ls st n M L :=
  fun h0 hf H locs lsC hP hz hS hl => h H locs lsC _ _ (fun z => k.1 z h0 hf H locs lsC hP hz hS hl) (fun z => k.2 z h0 hf H locs lsC hP hz hS hl)
theorem mv_kp (ks : List Bool) (k : mc_V p l e R s m args below meth c Q D cl b cA md tab nL n0 dn pc (mc_kp ks ls) st n M L) : mc_V p l e R s m args below meth c Q D cl b cA md tab nL n0 dn pc ls st n M L :=
  fun h0 hf H locs lsC hP hz hS hl => k h0 hf H locs lsC hP hz hS (mc_lv_kp ks hl)
theorem mv_st1 {pc' i : Nat} {v : Value} (h : ∀ (H : Heap) (locs : List Loc) (lsC : Array Slot) (x y : Nat), mc_lv b nL ls lsC → (∀ lsC', lv_has lsC' nL ((i, mc_ga b v) :: (mc_lst b ls).filter (fun q => !(q.1 == i) && !(q.1 + 1 == i && q.2.category == 2))) → W p l e R s m args below meth c H locs x y Q (F0 m pc' lsC' (r.map (mc_ga b)))) → W p l e R s m args below meth c H locs x y Q (F0 m pc lsC (st.map (mc_ga b)))) (k : mc_V p l e R s m args below meth c Q D cl b cA md tab nL n0 dn pc' (mc_st1 ls i v) r n M L) : mc_V p l e R s m args below meth c Q D cl b cA md tab nL n0 dn pc ls st n M L :=
  fun h0 hf H locs lsC hP hz hS hl => h H locs lsC _ _ hl (fun lsC' h' => k h0 hf H locs lsC' hP hz hS (mc_lv_st1 h'))
theorem mv_st2 {pc' i : Nat} {v : Value} (h : ∀ (H : Heap) (locs : List Loc) (lsC : Array Slot) (x y : Nat), mc_lv b nL ls lsC → (∀ lsC', lv_has lsC' nL ((i, mc_ga b v) :: (mc_lst b ls).filter (fun q => !(q.1 == i) && (!(q.1 == i + 1) && !(q.1 + 1 == i && q.2.category == 2)))) → W p l e R s m args below meth c H locs x y Q (F0 m pc' lsC' (r.map (mc_ga b)))) → W p l e R s m args below meth c H locs x y Q (F0 m pc lsC (st.map (mc_ga b)))) (k : mc_V p l e R s m args below meth c Q D cl b cA md tab nL n0 dn pc' (mc_st2 ls i v) r n M L) : mc_V p l e R s m args below meth c Q D cl b cA md tab nL n0 dn pc ls st n M L :=
  fun h0 hf H locs lsC hP hz hS hl => h H locs lsC _ _ hl (fun lsC' h' => k h0 hf H locs lsC' hP hz hS (mc_lv_st2 h'))
theorem mv_iinc (hx : p.tables.exec = Jvm.exec) (hb : c.code = cc) {i : Nat} {z : Int} {a v : Int32} (hdg : decode cc pc = .ok (.iinc i z, 3)) (hi : i < nL) (ha : mc_at ls i = some (some (.int a))) (hv : Int32.ofInt z = v) (k : mc_V p l e R s m args below meth c Q D cl b cA md tab nL n0 dn (pc + 3) (mc_st1 ls i (.int (a + v))) st n M L) : mc_V p l e R s m args below meth c Q D cl b cA md tab nL n0 dn pc ls st n M L := by
  refine mv_st1 (fun H locs lsC x y hl kk => ?_) k
  have hm : (i, Value.int a) ∈ mc_lst b ls := mc_lst_mem.mpr ⟨.int a, by rw [← mc_at_eq]; exact ha, rfl⟩
  obtain ⟨q, hq⟩ := List.getElem?_of_mem hm
  exact lv_iinc hx hb hdg hl hq (by rw [hv]) hi rfl kk
theorem mv_if (hx : p.tables.exec = Jvm.exec) (hb : c.code = cc) {cd : Jvm.ClassFile.Cond} {off : Int} {tgt : Nat} {x : Int32} (hdg : decode cc pc = .ok (.ifCond cd off, 3)) (ht : (pc : Int) + off = (tgt : Int)) (k : mc_cd cd x 0 (mc_V p l e R s m args below meth c Q D cl b cA md tab nL n0 dn tgt ls r n M L) (mc_V p l e R s m args below meth c Q D cl b cA md tab nL n0 dn (pc + 3) ls r n M L)) : mc_V p l e R s m args below meth c Q D cl b cA md tab nL n0 dn pc ls (.int x :: r) n M L := by
  cases cd with
  | eq => exact mv_br (fun H locs lsC _ _ kt kf => lv_if_eq hx hb hdg ht kt kf) k
  | ne => exact mv_br (fun H locs lsC _ _ kt kf => lv_if_ne hx hb hdg ht kt kf) k
  | lt => exact mv_br (fun H locs lsC _ _ kt kf => lv_if_lt hx hb hdg ht kt kf) k
  | ge => exact mv_br (fun H locs lsC _ _ kt kf => lv_if_ge hx hb hdg ht kt kf) k
  | gt => exact mv_br (fun H locs lsC _ _ kt kf => lv_if_gt hx hb hdg ht kt kf) k
  | le => exact mv_br (fun H locs lsC _ _ kt kf => lv_if_le hx hb hdg ht kt kf) k
theorem mv_ifi (hx : p.tables.exec = Jvm.exec) (hb : c.code = cc) {cd : Jvm.ClassFile.Cond} {off : Int} {tgt : Nat} {x y : Int32} (hdg : decode cc pc = .ok (.if_icmp cd off, 3)) (ht : (pc : Int) + off = (tgt : Int)) (k : mc_cd cd x y (mc_V p l e R s m args below meth c Q D cl b cA md tab nL n0 dn tgt ls r n M L) (mc_V p l e R s m args below meth c Q D cl b cA md tab nL n0 dn (pc + 3) ls r n M L)) : mc_V p l e R s m args below meth c Q D cl b cA md tab nL n0 dn pc ls (.int y :: .int x :: r) n M L := by
  cases cd with
  | eq => exact mv_br (fun H locs lsC _ _ kt kf => lv_icmp_eq hx hb hdg ht kt kf) k
  | ne => exact mv_br (fun H locs lsC _ _ kt kf => lv_icmp_ne hx hb hdg ht kt kf) k
  | lt => exact mv_br (fun H locs lsC _ _ kt kf => lv_icmp_lt hx hb hdg ht kt kf) k
  | ge => exact mv_br (fun H locs lsC _ _ kt kf => lv_icmp_ge hx hb hdg ht kt kf) k
  | gt => exact mv_br (fun H locs lsC _ _ kt kf => lv_icmp_gt hx hb hdg ht kt kf) k
  | le => exact mv_br (fun H locs lsC _ _ kt kf => lv_icmp_le hx hb hdg ht kt kf) k
/-! fields -/
def mc_lnk (own : String) (idx : Nat) (t : String × String × String × Bool) (args : Array Value) (s : State) : Prop :=
  (Cond.fieldLink own idx t.1 t.2.1 t.2.2.1).before args s = true ∨ ∃ host, (Cond.fieldLinkNest own idx t.1 t.2.1 t.2.2.1 host).before args s = true
theorem mv_get (hx : p.tables.exec = Jvm.exec) (hb : c.code = cc) {own : String} {Ts : List Cond} (hts : ∀ w ∈ Ts, w.before args s = true) (hown : s.vm.findClass own = some m.cls) (hK : va_K D cl (mc_ty cA) s)
    {C : String} {T : u_T} {N ci k idx : Nat} (hin : ∀ w ∈ u_ws C T N, w ∈ Ts) (hc : cl[ci]? = some (C, T, N)) (hk : k < N) (hlink : mc_lnk own idx (T k) args s)
    {a fd : Nat} {fds : List Nat} (ha : tab[a]? = some (.inr (ci, fds))) (hfd : fds[k]? = some fd) (hdg : decode cc pc = .ok (.getfield idx, 3)) (hn : a < n)
    (kk : mc_V p l e R s m args below meth c Q D cl b cA md tab nL n0 dn (pc + 3) ls (mc_fv md M a k fd :: r) n M L) : mc_V p l e R s m args below meth c Q D cl b cA md tab nL n0 dn pc ls (.ref a :: r) n M L := by
  intro h0 hf H locs lsC hP hz hS hl
  have he : (mc_wd b cA md tab n M L)[a]? = some (b + a, .inr (ci, (fds.mapIdx (fun k fd => mc_fv md M a k fd)).map (mc_ga b))) := mc_wd_in hn ha
  have hv : ((fds.mapIdx (fun k fd => mc_fv md M a k fd)).map (mc_ga b))[k]? = some (mc_ga b (mc_fv md M a k fd)) := by
    rw [List.getElem?_map, List.getElem?_mapIdx, hfd]
    rfl
  rcases hlink with h1 | ⟨host, h1⟩
  · exact va_get hx hb hts hin hown hK hP a he hc k hk h1 (fun _ h => h) hv hdg (kk h0 hf H locs lsC hP hz hS hl)
  · exact va_getN hx hb hts hin hown hK hP a he hc k hk h1 (fun _ h => h) hv hdg (kk h0 hf H locs lsC hP hz hS hl)
theorem mv_put (hx : p.tables.exec = Jvm.exec) (hb : c.code = cc) {own : String} {Ts : List Cond} (hts : ∀ w ∈ Ts, w.before args s = true) (hown : s.vm.findClass own = some m.cls) (hK : va_K D cl (mc_ty cA) s)
    {C : String} {T : u_T} {N ci k idx : Nat} (hin : ∀ w ∈ u_ws C T N, w ∈ Ts) (hc : cl[ci]? = some (C, T, N)) (hk : k < N)
    (ty0 : Nat → FieldType) (hty : ∀ k, k < N → parseFieldDescriptor (T k).2.2.1 = some (ty0 k)) (hnm : ∀ a, a < N → ∀ b, b < N → a ≠ b → (T a).2.1 ≠ (T b).2.1)
    (hlink : ((T k).2.2.2 = false ∧ mc_lnk own idx (T k) args s) ∨ ((T k).2.2.2 = true ∧ (T k).1 = own ∧ meth.name = "<init>" ∧ (Cond.fieldLink own idx (T k).1 (T k).2.1 (T k).2.2.1).before args s = true))
    {a fd : Nat} {fds : List Nat} (ha : tab[a]? = some (.inr (ci, fds))) (hfd : fds[k]? = some fd) (hdg : decode cc pc = .ok (.putfield idx, 3)) (hn : a < n)
    {v : Value} {x : Int32} (hv : mc_fv md (mc_put M a k x) a k fd = v) (hna : narrow (ty0 k) (mc_ga b v) = mc_ga b v) (hfit : fits (ty0 k) (mc_ga b v) = true)
    (kk : mc_V p l e R s m args below meth c Q D cl b cA md tab nL n0 dn (pc + 3) ls r n (mc_put M a k x) L) : mc_V p l e R s m args below meth c Q D cl b cA md tab nL n0 dn pc ls (v :: .ref a :: r) n M L := by
  intro h0 hf H locs lsC hP hz hS hl
  have he : (mc_wd b cA md tab n M L)[a]? = some (b + a, .inr (ci, (fds.mapIdx (fun k fd => mc_fv md M a k fd)).map (mc_ga b))) := mc_wd_in hn ha
  have hD : va_D (mc_A md b tab.length) (mc_wd b cA md tab n M L) := mc_wd_D
  have hkl : k < ((fds.mapIdx (fun k fd => mc_fv md M a k fd)).map (mc_ga b)).length := by
    rw [List.length_map, List.length_mapIdx]
    exact (List.getElem?_eq_some_iff.mp hfd).1
  have hap := va_apart (own := own) hts hin ty0 hty hnm hK hc
  obtain ⟨w, h1, cell, q1, q2, q3, q4⟩ := hP a _ he
  have hr : w = (C, T, N) := Option.some.inj (h1.symm.trans hc)
  subst hr
  obtain ⟨hSl, hfc, kC, hkC, hkind⟩ := hK.1 ci _ hc
  obtain ⟨cf, kf, fi, f, hi, hsl⟩ := hSl k hk
  have hlay := hts _ (hin _ (u_in_lay hk))
  have hst := (u_facts hfc hkC (u_lays hts hin hk) hi).1
  have hd := hty k hk
  have fin : ∀ H' : Heap, H'[b + a]? = some (cell.setSlot f.slot (mc_ga b v)) → H'.size = H.size → (∀ q, q ≠ b + a → H'[q]? = H[q]?) → W p l e R s m args below meth c H' (locs ++ [⟨b + a, f.slot⟩]) (n - n0) (mc_sl tab n - mc_sl tab n0) Q (F0 m (pc + 3) lsC (r.map (mc_ga b))) := by
    intro H' e1 e2 e3
    rw [hsl] at e1 ⊢
    have hat : va_at D cl (b + a, .inr (ci, ((fds.mapIdx (fun k fd => mc_fv md M a k fd)).map (mc_ga b)).set k (mc_ga b v))) H' := ⟨_, hc, t_OB.to (V := updV (vp_V ((fds.mapIdx (fun k fd => mc_fv md M a k fd)).map (mc_ga b))) k (mc_ga b v)) ⟨_, e1, q2, q3, t_set q4 hap hk (mc_ga b v)⟩ (fun j _ => vp_updV_set hkl (mc_ga b v) j)⟩
    have hP' := hP.set hD he hat e3
    rw [mc_set_fld hn ha hfd hv] at hP'
    exact kk h0 hf H' _ lsC hP' (fun h => by rw [e2]; exact hz h) (hS.put e2 e3 (hD.2 a _ he)) hl
  unfold u_lay at hlay
  rcases hlink with ⟨hfin, hl1⟩ | ⟨hfin, hdecl, hin2, hl1⟩
  · rw [if_neg (by rw [hfin]; decide)] at hlay
    have h6 := u_store hfc hkC hkind hlay hi hd hna hfit
    rcases hl1 with hl1 | ⟨host, hl1⟩
    · exact W.putK hx hb (f := f) ⟨hown, hl1, ⟨_, _, _, hi⟩, hst⟩ (by rw [q2]; exact h6) q1 q3 (by rw [hsl]; exact k2_hasslot (q4 k hk)) rfl rfl hdg fin
    · exact va_WputK hx hb (f := f) hown hl1 hi hst (by rw [q2]; exact h6) q1 q3 (by rw [hsl]; exact k2_hasslot (q4 k hk)) rfl rfl hdg fin
  · rw [if_pos hfin] at hlay
    have hcf : m.cls = cf := by
      obtain ⟨_, _, c', _, _, _, -, -, hf', -, -, -, hown2, -⟩ := Cond.laysFinal_spec hlay
      have e1 : c' = cf := by have := hi.symm.trans hf'; simp at this; exact this.1.symm
      rw [hdecl] at hown2
      rw [← e1]; exact Option.some.inj (hown.symm.trans hown2)
    have h6 := u_fits hfc hkC hkind (Or.inr hlay) hi hd hna hfit
    exact W.putFinK hx hb hown hl1 hi hst hcf hin2 (by rw [q2]; exact h6) q1 q3 (by rw [hsl]; exact k2_hasslot (q4 k hk)) rfl rfl hdg fin
/-! arrays -/
theorem mv_alen (hx : p.tables.exec = Jvm.exec) (hb : c.code = cc) (hK : va_K D cl (mc_ty cA) s) {a t len : Nat} (ht : t < 4) (ha : tab[a]? = some (.inl (t, len))) (hn : a < n) (hdg : decode cc pc = .ok (.arraylength, 1)) (kk : mc_V p l e R s m args below meth c Q D cl b cA md tab nL n0 dn (pc + 1) ls (.int (Int32.ofNat len) :: r) n M L) : mc_V p l e R s m args below meth c Q D cl b cA md tab nL n0 dn pc ls (.ref a :: r) n M L := by
  intro h0 hf H locs lsC hP hz hS hl
  have he := mc_wd_in (b := b) (cA := cA) (md := md) (n := n) (M := M) (L := L) hn ha
  match t, ht, he with
  | 0, _, he => exact va_alen hx hb hK hP a 0 (x := (len, .inl (M a))) he rfl rfl hdg (kk h0 hf H locs lsC hP hz hS hl)
  | 1, _, he => exact va_alen hx hb hK hP a 1 (x := (len, .inr (.inl (L a)))) he rfl rfl hdg (kk h0 hf H locs lsC hP hz hS hl)
  | 2, _, he => exact va_alen hx hb hK hP a 2 (x := (len, .inl (M a))) he rfl rfl hdg (kk h0 hf H locs lsC hP hz hS hl)
  | 3, _, he => exact va_alen hx hb hK hP a 3 (x := (len, .inl (M a))) he rfl rfl hdg (kk h0 hf H locs lsC hP hz hS hl)
theorem mv_iald (hx : p.tables.exec = Jvm.exec) (hb : c.code = cc) (hK : va_K D cl (mc_ty cA) s) {a len : Nat} {i : Int32} (ha : tab[a]? = some (.inl (0, len))) (hn : a < n) (hin : vp_in i len) (hdg : decode cc pc = .ok (.iaload, 1)) (kk : mc_V p l e R s m args below meth c Q D cl b cA md tab nL n0 dn (pc + 1) ls (.int (M a i.toNatClampNeg) :: r) n M L) : mc_V p l e R s m args below meth c Q D cl b cA md tab nL n0 dn pc ls (.int i :: .ref a :: r) n M L := by
  intro h0 hf H locs lsC hP hz hS hl
  have he : (mc_wd b cA md tab n M L)[a]? = some (b + a, .inl (cA 0, len, .inl (M a))) := mc_wd_in hn ha
  exact va_iald hx hb hK hP a 0 he rfl hin hdg (kk h0 hf H locs lsC hP hz hS hl)
theorem mv_cald (hx : p.tables.exec = Jvm.exec) (hb : c.code = cc) (hK : va_K D cl (mc_ty cA) s) {a len : Nat} {i : Int32} (ha : tab[a]? = some (.inl (2, len))) (hn : a < n) (hin : vp_in i len) (hdg : decode cc pc = .ok (.caload, 1)) (kk : mc_V p l e R s m args below meth c Q D cl b cA md tab nL n0 dn (pc + 1) ls (.int (M a i.toNatClampNeg) :: r) n M L) : mc_V p l e R s m args below meth c Q D cl b cA md tab nL n0 dn pc ls (.int i :: .ref a :: r) n M L := by
  intro h0 hf H locs lsC hP hz hS hl
  have he : (mc_wd b cA md tab n M L)[a]? = some (b + a, .inl (cA 2, len, .inl (M a))) := mc_wd_in hn ha
  exact va_cald hx hb hK hP a 2 he rfl hin hdg (kk h0 hf H locs lsC hP hz hS hl)
theorem mv_zald (hx : p.tables.exec = Jvm.exec) (hb : c.code = cc) (hK : va_K D cl (mc_ty cA) s) {a len : Nat} {i : Int32} (ha : tab[a]? = some (.inl (3, len))) (hn : a < n) (hin : vp_in i len) (hdg : decode cc pc = .ok (.baload, 1)) (kk : mc_V p l e R s m args below meth c Q D cl b cA md tab nL n0 dn (pc + 1) ls (.int (M a i.toNatClampNeg) :: r) n M L) : mc_V p l e R s m args below meth c Q D cl b cA md tab nL n0 dn pc ls (.int i :: .ref a :: r) n M L := by
  intro h0 hf H locs lsC hP hz hS hl
  have he : (mc_wd b cA md tab n M L)[a]? = some (b + a, .inl (cA 3, len, .inl (M a))) := mc_wd_in hn ha
  exact va_zald hx hb hK hP a 3 he rfl hin hdg (kk h0 hf H locs lsC hP hz hS hl)
theorem mv_lald (hx : p.tables.exec = Jvm.exec) (hb : c.code = cc) (hK : va_K D cl (mc_ty cA) s) {a len : Nat} {i : Int32} (ha : tab[a]? = some (.inl (1, len))) (hn : a < n) (hin : vp_in i len) (hdg : decode cc pc = .ok (.laload, 1)) (kk : mc_V p l e R s m args below meth c Q D cl b cA md tab nL n0 dn (pc + 1) ls (.long (L a i.toNatClampNeg) :: r) n M L) : mc_V p l e R s m args below meth c Q D cl b cA md tab nL n0 dn pc ls (.int i :: .ref a :: r) n M L := by
  intro h0 hf H locs lsC hP hz hS hl
  have he : (mc_wd b cA md tab n M L)[a]? = some (b + a, .inl (cA 1, len, .inr (.inl (L a)))) := mc_wd_in hn ha
  exact va_lald hx hb hK hP a 1 he rfl hin hdg (kk h0 hf H locs lsC hP hz hS hl)
theorem mv_ast {a len t : Nat} {j : Int32} {x : Int32} {H H1 : Heap} {locs : List Loc} (ha : tab[a]? = some (.inl (t, len))) (ht : t ≠ 1) (hn : a < n) (hP : va_P D cl (mc_wd b cA md tab n M L) H) (hS : va_S (mc_A md b tab.length) s.heap H locs)
    (e1 : H1[b + a]? = some ((arrV (cA t) len (fun q => .int (M a q))).setSlot j.toNatClampNeg (.int x))) (z : H1.size = H.size) (oq : ∀ q : Nat, q ≠ b + a → H1[q]? = H[q]?) :
    va_P D cl (mc_wd b cA md tab n (mc_put M a j.toNatClampNeg x) L) H1 ∧ va_S (mc_A md b tab.length) s.heap H1 (locs ++ [⟨b + a, j.toNatClampNeg⟩]) := by
  have he : (mc_wd b cA md tab n M L)[a]? = some (b + a, .inl (cA t, len, .inl (M a))) := by
    rw [mc_wd_in hn ha]
    simp [mc_cell, ht, mc_gE]
  have hD : va_D (mc_A md b tab.length) (mc_wd b cA md tab n M L) := mc_wd_D
  have hat : va_at D cl (b + a, .inl (cA t, len, .inl (upd (M a) j.toNatClampNeg x))) H1 := by
    show H1[b + a]? = some (vp_cell _ _)
    rw [e1, vp_cell_i, arrV_store]
    congr 2
    funext q
    by_cases hq : q = j.toNatClampNeg
    · subst hq
      simp [updV, upd]
    · simp [updV, upd, hq]
  have h := hP.set hD he hat oq
  rw [mc_set_arr hn ha ht] at h
  exact ⟨h, hS.put z oq (hD.2 a _ he)⟩
theorem mv_iast (hx : p.tables.exec = Jvm.exec) (hb : c.code = cc) (hK : va_K D cl (mc_ty cA) s) {a len : Nat} {i x : Int32} (ha : tab[a]? = some (.inl (0, len))) (hn : a < n) (hin : vp_in i len) (hdg : decode cc pc = .ok (.iastore, 1)) (kk : mc_V p l e R s m args below meth c Q D cl b cA md tab nL n0 dn (pc + 1) ls r n (mc_put M a i.toNatClampNeg x) L) : mc_V p l e R s m args below meth c Q D cl b cA md tab nL n0 dn pc ls (.int x :: .int i :: .ref a :: r) n M L := by
  intro h0 hf H locs lsC hP hz hS hl
  have he : (mc_wd b cA md tab n M L)[a]? = some (b + a, .inl (cA 0, len, .inl (M a))) := mc_wd_in hn ha
  refine W.iast hx hb (hP a _ he) ((hK.2 0 _ rfl).1 len (fun j => .int (M a j))) (fun q => by cases q) (by show ¬ (i < 0 ∨ (arrV _ _ _).slots.size ≤ _); rw [arrV_size]; exact hin) rfl rfl hdg fun H1 e1 z oq => ?_
  obtain ⟨h1, h2⟩ := mv_ast ha (by decide) hn hP hS e1 z oq
  exact kk h0 hf H1 _ lsC h1 (fun h => by rw [z]; exact hz h) h2 hl
theorem mv_cast (hx : p.tables.exec = Jvm.exec) (hb : c.code = cc) (hK : va_K D cl (mc_ty cA) s) {a len : Nat} {i x : Int32} (ha : tab[a]? = some (.inl (2, len))) (hn : a < n) (hin : vp_in i len) (hdg : decode cc pc = .ok (.castore, 1)) (kk : mc_V p l e R s m args below meth c Q D cl b cA md tab nL n0 dn (pc + 1) ls r n (mc_put M a i.toNatClampNeg (vp_nar .char x)) L) : mc_V p l e R s m args below meth c Q D cl b cA md tab nL n0 dn pc ls (.int x :: .int i :: .ref a :: r) n M L := by
  intro h0 hf H locs lsC hP hz hS hl
  have he : (mc_wd b cA md tab n M L)[a]? = some (b + a, .inl (cA 2, len, .inl (M a))) := mc_wd_in hn ha
  refine W.cast hx hb (hP a _ he) ((hK.2 2 _ rfl).1 len (fun j => .int (M a j))) (fun q => by cases q) (by show ¬ (i < 0 ∨ (arrV _ _ _).slots.size ≤ _); rw [arrV_size]; exact hin) rfl rfl hdg fun H1 e1 z oq => ?_
  obtain ⟨h1, h2⟩ := mv_ast (x := vp_nar .char x) ha (by decide) hn hP hS e1 z oq
  exact kk h0 hf H1 _ lsC h1 (fun h => by rw [z]; exact hz h) h2 hl
theorem mv_zast (hx : p.tables.exec = Jvm.exec) (hb : c.code = cc) (hK : va_K D cl (mc_ty cA) s) {a len : Nat} {i x : Int32} (ha : tab[a]? = some (.inl (3, len))) (hn : a < n) (hin : vp_in i len) (hdg : decode cc pc = .ok (.bastore, 1)) (kk : mc_V p l e R s m args below meth c Q D cl b cA md tab nL n0 dn (pc + 1) ls r n (mc_put M a i.toNatClampNeg (vp_nar .boolean x)) L) : mc_V p l e R s m args below meth c Q D cl b cA md tab nL n0 dn pc ls (.int x :: .int i :: .ref a :: r) n M L := by
  intro h0 hf H locs lsC hP hz hS hl
  have he : (mc_wd b cA md tab n M L)[a]? = some (b + a, .inl (cA 3, len, .inl (M a))) := mc_wd_in hn ha
  refine W.zast hx hb (hP a _ he) ((hK.2 3 _ rfl).1 len (fun j => .int (M a j))) (fun q => by cases q) (by show ¬ (i < 0 ∨ (arrV _ _ _).slots.size ≤ _); rw [arrV_size]; exact hin) rfl rfl hdg fun H1 e1 z oq => ?_
  obtain ⟨h1, h2⟩ := mv_ast (x := vp_nar .boolean x) ha (by decide) hn hP hS e1 z oq
  exact kk h0 hf H1 _ lsC h1 (fun h => by rw [z]; exact hz h) h2 hl
theorem mv_last (hx : p.tables.exec = Jvm.exec) (hb : c.code = cc) (hK : va_K D cl (mc_ty cA) s) {a len : Nat} {i : Int32} {x : Int64} (ha : tab[a]? = some (.inl (1, len))) (hn : a < n) (hin : vp_in i len) (hdg : decode cc pc = .ok (.lastore, 1)) (kk : mc_V p l e R s m args below meth c Q D cl b cA md tab nL n0 dn (pc + 1) ls r n M (mc_putL L a i.toNatClampNeg x)) : mc_V p l e R s m args below meth c Q D cl b cA md tab nL n0 dn pc ls (.long x :: .int i :: .ref a :: r) n M L := by
  intro h0 hf H locs lsC hP hz hS hl
  have he : (mc_wd b cA md tab n M L)[a]? = some (b + a, .inl (cA 1, len, .inr (.inl (L a)))) := mc_wd_in hn ha
  have hD : va_D (mc_A md b tab.length) (mc_wd b cA md tab n M L) := mc_wd_D
  refine W.last hx hb (hP a _ he) ((hK.2 1 _ rfl).1 len (fun j => .long (L a j))) (fun q => by cases q) (by show ¬ (i < 0 ∨ (arrV _ _ _).slots.size ≤ _); rw [arrV_size]; exact hin) rfl rfl hdg fun H1 e1 z oq => ?_
  have hat : va_at D cl (b + a, .inl (cA 1, len, .inr (.inl (vp_updL (L a) i.toNatClampNeg x)))) H1 := by
    show H1[b + a]? = some (vp_cell _ _)
    rw [e1]
    rw [vp_cell_l, vp_cell_l, arrV_store]
    congr 2
    funext q
    by_cases hq : q = i.toNatClampNeg
    · subst hq
      simp [updV, vp_updL]
    · simp [updV, vp_updL, hq]
  have h := hP.set hD he hat oq
  rw [mc_set_arrL hn ha] at h
  exact kk h0 hf H1 _ lsC h (fun h => by rw [z]; exact hz h) (hS.put z oq (hD.2 a _ he)) hl
end MVS
end
section
theorem mc_sl_mono : ∀ (n : Nat) (tab : List mc_D) (k : Nat), mc_sl tab n ≤ mc_sl tab (n + k)
  | 0, tab, k => by
    have : mc_sl tab 0 = 0 := by cases tab <;> rfl
    rw [this]
    exact Nat.zero_le _
  | n + 1, [], k => by
    rw [show n + 1 + k = (n + k) + 1 by omega]
    show 6 + mc_sl [] n ≤ 6 + mc_sl [] (n + k)
    exact Nat.add_le_add_left (mc_sl_mono n [] k) _
  | n + 1, d :: t, k => by
    rw [show n + 1 + k = (n + k) + 1 by omega]
    show mc_sz d + mc_sl t n ≤ mc_sz d + mc_sl t (n + k)
    exact Nat.add_le_add_left (mc_sl_mono n t k) _
theorem mc_sl_le {tab : List mc_D} {n n' : Nat} (h : n ≤ n') : mc_sl tab n ≤ mc_sl tab n' := by
  have := mc_sl_mono n tab (n' - n)
  rwa [show n + (n' - n) = n' by omega] at this
theorem mc_sl_next : ∀ (n : Nat) (tab : List mc_D) (d : mc_D), tab[n]? = some d → mc_sl tab (n + 1) = mc_sl tab n + mc_sz d
  | n, [], d, h => by simp at h
  | 0, x :: t, d, h => by
    have : x = d := by simpa using h
    subst this
    show mc_sz x + mc_sl t 0 = 0 + mc_sz x
    have : mc_sl t 0 = 0 := by cases t <;> rfl
    omega
  | n + 1, x :: t, d, h => by
    show mc_sz x + mc_sl t (n + 1) = mc_sz x + mc_sl t n + mc_sz d
    rw [mc_sl_next n t d (by simpa using h)]
    omega
/-- a thrown object: its class -/
def mc_ec (exn : Nat → String) (s t : State) (a k : Nat) : Prop := ∃ ce : Cell, t.heap[a]? = some ce ∧ s.vm.findClass (exn k) = some ce.cls ∧ ce.vm.isStatics = false
/-- a method's end -/
def mc_Q (below : List Frame) (s : State) (D : va_G) (cl : List vw_C) (b : Nat) (cA : Nat → ClassId) (md : Bool) (tab : List mc_D) (n0 dn : Nat) (exn : Nat → String) (Qr : Option Value → mc_M → mc_L → Prop) (Qt : Nat → mc_M → mc_L → Prop) : State → Prop := fun t =>
  ∃ o, t.status = .running ∧ Ended t below o ∧ s.WarmedH t.vm ∧ va_F (mc_A md b tab.length) s t ∧ (∃ Lc, s.sameButNew ({ t with vm := s.vm } : State) Lc dn (mc_sl tab (n0 + dn) - mc_sl tab n0) ∧ ∀ q ∈ Lc, mc_A md b tab.length q.base) ∧
  ∃ M L, va_P D cl (mc_wd b cA md tab (n0 + dn) M L) t.heap ∧ (md = false → t.heap.size = b + (n0 + dn)) ∧
    ((∃ rv : Option Value, o = .returned (rv.map (mc_ga b)) ∧ Qr rv M L) ∨ (∃ a k, o = .threw a ∧ Qt k M L ∧ mc_ec exn s t a k))
section MVE
variable {p : Program} {l : Launch} {e : Env} {R : Room} {s : State} {m : MethodId} {args : Array Value} {below : List Frame} {meth : Method} {c : Code} {Q : State → Prop}
variable {D : va_G} {cl : List vw_C} {b : Nat} {cA : Nat → ClassId} {md : Bool} {tab : List mc_D} {nL n0 dn : Nat}
variable {cc : ByteArray} {pc : Nat} {ls : List (Option Value)} {st r : List Value} {n : Nat} {M : mc_M} {L : mc_L}
theorem mw_mono {H : Heap} {locs : List Loc} {cells slots : Nat} {Q' : State → Prop} {g : JFrame} (h : ∀ t, Q t → Q' t) (k : W p l e R s m args below meth c H locs cells slots Q g) : W p l e R s m args below meth c H locs cells slots Q' g := fun T hT X => by
  obtain ⟨t, a, q⟩ := k T hT X
  exact ⟨t, a, h t q⟩
variable {exn : Nat → String} {Qr : Option Value → mc_M → mc_L → Prop} {Qt : Nat → mc_M → mc_L → Prop} {ret : Option FieldType}
theorem mc_en_e {P : Prop} (h : mc_en md n n0 dn P) (hf : md = true → tab.length ≤ n) (h0 : n0 ≤ n) : n ≤ n0 + dn ∧ mc_wd b cA md tab n M L = mc_wd b cA md tab (n0 + dn) M L ∧ (md = false → n = n0 + dn) ∧ P := by
  unfold mc_en at h
  cases md with
  | true => exact ⟨h.1, mc_wd_full (hf rfl) (Nat.le_trans (hf rfl) h.1), fun z => (by cases z), h.2⟩
  | false => exact ⟨Nat.le_of_eq h.1, by rw [h.1], fun _ => h.1, h.2⟩
theorem mc_ri_e {x : Int32} {P : Prop} (h : mc_ri ret x P) : ∃ ty, ret = some ty ∧ narrow ty (.int x) = .int x ∧ P := by
  unfold mc_ri at h
  split at h
  · exact ⟨.int, rfl, vp_nar_int x, h⟩
  · refine ⟨.boolean, rfl, ?_, h.2⟩
    rcases h.1 with rfl | rfl <;> rfl
  · exact h.elim
theorem mv_iret (hx : p.tables.exec = Jvm.exec) (hb : c.code = cc) (hret : meth.sig.returnType = ret) (hlk : meth.locks = false) {x : Int32} (hdg : decode cc pc = .ok (.ireturn, 1))
    (h : mc_ri ret x (mc_en md n n0 dn (Qr (some (.int x)) M L))) : mc_V p l e R s m args below meth c (mc_Q below s D cl b cA md tab n0 dn exn Qr Qt) D cl b cA md tab nL n0 dn pc ls [.int x] n M L := by
  obtain ⟨ty, hty, hnar, h⟩ := mc_ri_e h
  intro h0 hf H locs lsC hP hz hS hl
  obtain ⟨e1, e2, e3, hq⟩ := mc_en_e (b := b) (cA := cA) (tab := tab) (M := M) (L := L) h hf h0.1
  refine W.widen (k := dn) (n := mc_sl tab (n0 + dn) - mc_sl tab n0) (by omega) (Nat.sub_le_sub_right (mc_sl_le e1) _) ?_
  refine mw_mono ?_ (W.zret (Qc := fun _ _ o t => o = .returned (some (.int x)) ∧ t.heap = H ∧ s.WarmedH t.vm) (free := mc_A md b tab.length) hx hb (by rw [hret, hty]) hnar (fun t ht hW => ⟨rfl, ht, hW⟩) hS.2.2 hdg hlk)
  rintro t ⟨o, h1, h2, ⟨h3, h4, h5⟩, Lc, ⟨-, -, h6⟩, h7⟩
  exact ⟨o, h1, h2, h5, hS.F h4, ⟨Lc, h6, h7⟩, M, L, by rw [h4, ← e2]; exact hP, fun z => by rw [h4, ← e3 z]; exact hz z, Or.inl ⟨some (.int x), h3, hq⟩⟩
theorem mv_vret (hx : p.tables.exec = Jvm.exec) (hb : c.code = cc) (hret : meth.sig.returnType = none) (hlk : meth.locks = false) (hdg : decode cc pc = .ok (.return_, 1))
    (h : mc_en md n n0 dn (Qr none M L)) : mc_V p l e R s m args below meth c (mc_Q below s D cl b cA md tab n0 dn exn Qr Qt) D cl b cA md tab nL n0 dn pc ls [] n M L := by
  intro h0 hf H locs lsC hP hz hS hl
  obtain ⟨e1, e2, e3, hq⟩ := mc_en_e (b := b) (cA := cA) (tab := tab) (M := M) (L := L) h hf h0.1
  refine W.widen (k := dn) (n := mc_sl tab (n0 + dn) - mc_sl tab n0) (by omega) (Nat.sub_le_sub_right (mc_sl_le e1) _) ?_
  refine mw_mono ?_ (W.vret (Qc := fun _ _ o t => o = .returned none ∧ t.heap = H ∧ s.WarmedH t.vm) (free := mc_A md b tab.length) hx hb hret (fun t ht hW => ⟨rfl, ht, hW⟩) hS.2.2 hdg hlk)
  rintro t ⟨o, h1, h2, ⟨h3, h4, h5⟩, Lc, ⟨-, -, h6⟩, h7⟩
  exact ⟨o, h1, h2, h5, hS.F h4, ⟨Lc, h6, h7⟩, M, L, by rw [h4, ← e2]; exact hP, fun z => by rw [h4, ← e3 z]; exact hz z, Or.inl ⟨none, h3, hq⟩⟩
/-- what a contract says at its end -/
def mc_Qc (D : va_G) (cl : List vw_C) (b : Nat) (cA : Nat → ClassId) (md : Bool) (tab : List mc_D) (n : Nat) (Qr : Option Value → mc_M → mc_L → Prop) : Array Value → State → Outcome → State → Prop := fun _ st oc t =>
  (∃ (rv : Option Value) (M : mc_M) (L : mc_L), oc = .returned (rv.map (mc_ga b)) ∧ Qr rv M L ∧ va_P D cl (mc_wd b cA md tab n M L) t.heap ∧ (md = false → t.heap.size = b + n)) ∧ va_F (mc_A md b tab.length) st t
/-- behind a call -/
theorem mv_call {dn' : Nat} {st0 : List Value} {a : Array Value} (h1 : n + dn' ≤ n0 + dn)
    (hr : ∀ (H : Heap) (locs : List Loc) (lsC : Array Slot), va_P D cl (mc_wd b cA md tab n M L) H → (md = false → H.size = b + n) → va_S (mc_A md b tab.length) s.heap H locs → lsC.size = nL → va_Run p l e R s m args below meth c H locs (n - n0) (mc_sl tab n - mc_sl tab n0) dn' (mc_sl tab (n + dn') - mc_sl tab n) (F0 m pc lsC (st0.map (mc_ga b))) (r.map (mc_ga b)) (mc_Qc D cl b cA md tab (n + dn') Qr a) (mc_A md b tab.length))
    (kk : ∀ rv M' L', Qr rv M' L' → mc_V p l e R s m args below meth c Q D cl b cA md tab nL n0 dn (pc + 3) ls (rv.toList ++ r) (n + dn') M' L') : mc_V p l e R s m args below meth c Q D cl b cA md tab nL n0 dn pc ls st0 n M L := by
  intro h0 hf H locs lsC hP hz hS hl T hT X
  obtain ⟨v, st₀, t, T', Lc, e0, X', hL, e1, e2, ⟨⟨rv, M', L', hv, hq, hP', hz'⟩, hz2, hk2⟩, go⟩ := hr H locs lsC hP hz hS hl.1 T hT X
  have hv' : v = rv.map (mc_ga b) := Outcome.returned.inj hv
  subst hv'
  rw [e0] at hz2 hk2
  have c1 : n - n0 + dn' = n + dn' - n0 := by omega
  have c2 : mc_sl tab n - mc_sl tab n0 + (mc_sl tab (n + dn') - mc_sl tab n) = mc_sl tab (n + dn') - mc_sl tab n0 := by
    have h2 := mc_sl_le (tab := tab) h0.1
    have h3 := mc_sl_mono n tab dn'
    omega
  rw [c1, c2] at X'
  obtain ⟨t2, a1, b1⟩ := kk rv M' L' hq ⟨by omega, h1⟩ (fun z => Nat.le_trans (hf z) (Nat.le_add_right _ _)) T'.heap (locs ++ Lc) lsC (by rw [e1]; exact hP') (fun z => by rw [e1]; exact hz' z)
    ⟨Nat.le_trans hS.1 (by rw [e1]; exact hz2), fun q g1 g2 => by rw [e1, hk2 q (Nat.lt_of_lt_of_le g1 hS.1) g2]; exact hS.2.1 q g1 g2, fun q hq => by
      rcases List.mem_append.mp hq with h | h
      · exact hS.2.2 q h
      · exact hL q h⟩ hl T' rfl X'
  refine ⟨t2, go t2 ?_, b1⟩
  have e4 : ((rv.toList ++ r).map (mc_ga b)) = (rv.map (mc_ga b)).toList ++ r.map (mc_ga b) := by
    cases rv <;> simp
  rw [e4] at a1
  exact a1
end MVE
end
section
/-- a row of a method's table is right: its length, its target, its constant -/
def mc_tt (t : Nat) : FieldType := match t with
  | 0 => .int
  | 1 => .long
  | 2 => .char
  | _ => .boolean
def mc_ok (nL pc : Nat) (x : Instr) (len tgt : Nat) (v : Int32) : Bool := match x with
  | .aload _ => len == 2
  | .iload _ => len == 2
  | .lload _ => len == 2
  | .istore i => len == 2 && decide (i < nL)
  | .astore i => len == 2 && decide (i < nL)
  | .lstore i => len == 2 && decide (i + 1 < nL)
  | .istore_n i => len == 1 && decide (i.val < nL)
  | .astore_n i => len == 1 && decide (i.val < nL)
  | .lstore_n i => len == 1 && decide (i.val + 1 < nL)
  | .iinc i z => len == 3 && decide (i < nL) && decide (Int32.ofInt z = v)
  | .iconst z => len == 1 && decide (Int32.ofInt z = v)
  | .bipush z => len == 2 && decide ((Int8.ofInt z).toInt32 = v)
  | .sipush z => len == 3 && decide ((Int16.ofInt z).toInt32 = v)
  | .ldc _ => len == 2
  | .ldc2_w _ => len == 3
  | .ifCond _ off => len == 3 && decide ((pc : Int) + off = (tgt : Int))
  | .if_icmp _ off => len == 3 && decide ((pc : Int) + off = (tgt : Int))
  | .goto off => len == 3 && decide ((pc : Int) + off = (tgt : Int))
  | .tableswitch .. => true
  | .lookupswitch .. => true
  | .getfield _ => len == 3
  | .putfield _ => len == 3
  | .invokevirtual _ => len == 3
  | .invokestatic _ => len == 3
  | .invokespecial _ => len == 3
  | .new _ => len == 3
  | .newarray a => len == 2 && decide (tgt < 4) && decide (newarray.typeOf a = mc_tt tgt)
  | _ => len == 1
/-- a switch's row is right -/
def mc_swT (pc : Nat) (cs : List (Int32 × Nat)) (d : Nat) (dflt lo hi : Int) (offs : Array Int) : Bool :=
  decide ((pc : Int) + dflt = (d : Int)) && decide (hi = lo + cs.length - 1) && (List.range cs.length).all (fun k => match cs[k]?, offs[k]? with
    | some (v, t), some off => decide (v.toInt = lo + k) && decide ((pc : Int) + off = (t : Int))
    | _, _ => false)
theorem mc_fi_at {x : Int32} {d : Nat} : ∀ (cs : List (Int32 × Nat)) (lo : Int) (_ : ∀ (k : Nat) (v : Int32) (t : Nat), cs[k]? = some (v, t) → v.toInt = lo + (k : Int)), (∀ (k t : Nat), cs[k]? = some (x, t) → mc_fi x cs d = t) ∧ ((∀ (k : Nat) (v : Int32) (t : Nat), cs[k]? = some (v, t) → x ≠ v) → mc_fi x cs d = d)
  | [], lo, h => ⟨fun k t hk => by simp at hk, fun _ => rfl⟩
  | (v, t) :: r, lo, h => by
    have hr : ∀ (k : Nat) (v : Int32) (t : Nat), r[k]? = some (v, t) → v.toInt = (lo + 1) + (k : Int) := fun k v' t' hk => by
      have := h (k + 1) v' t' (by simpa using hk)
      omega
    obtain ⟨i1, i2⟩ := mc_fi_at (x := x) (d := d) r (lo + 1) hr
    refine ⟨fun k t' hk => ?_, fun hne => ?_⟩
    · cases k with
      | zero =>
        have : (v, t) = (x, t') := by simpa using hk
        cases this
        simp [mc_fi]
      | succ k =>
        have hk' : r[k]? = some (x, t') := by simpa using hk
        have e1 := hr k x t' hk'
        have e2 := h 0 v t (by simp)
        have hv : ¬ x = v := fun z => by
          rw [z] at e1
          omega
        unfold mc_fi
        rw [if_neg hv]
        exact i1 k t' hk'
    · unfold mc_fi
      rw [if_neg (hne 0 v t (by simp))]
      exact i2 (fun k v' t' hk => hne (k + 1) v' t' (by simpa using hk))
theorem mc_sw_mono {x : Int32} {d : Nat} {k k' : Nat → Prop} (hk : ∀ t, k t → k' t) : ∀ {cs : List (Int32 × Nat)}, mc_sw x cs d k → mc_sw x cs d k'
  | [], h => ⟨trivial, hk _ h.2⟩
  | (_, _) :: _, h => ⟨fun z => hk _ (h.1 z), fun z => mc_sw_mono hk (h.2 z)⟩
def mc_swL (pc : Nat) (d : Nat) (dflt : Int) : List (Int32 × Nat) → List (Int × Int) → Bool
  | [], [] => decide ((pc : Int) + dflt = (d : Int))
  | (v, t) :: cs, (a, o) :: ps => decide (v.toInt = a) && decide ((pc : Int) + o = (t : Int)) && mc_swL pc d dflt cs ps
  | _, _ => false
theorem mc_swL_e {pc d : Nat} {dflt : Int} {x : Int32} : ∀ (cs : List (Int32 × Nat)) (ps : List (Int × Int)), mc_swL pc d dflt cs ps = true → (pc : Int) + Op.lookupswitch.offset ps dflt x.toInt = (mc_fi x cs d : Int)
  | [], [], h => by
    simp only [mc_swL, decide_eq_true_eq] at h
    exact h
  | (v, t) :: cs, (a, o) :: ps, h => by
    simp only [mc_swL, Bool.and_eq_true, decide_eq_true_eq] at h
    obtain ⟨⟨h1, h2⟩, h3⟩ := h
    unfold mc_fi
    by_cases hv : x = v
    · subst hv
      rw [if_pos rfl, Op.lookupswitch.offset_cons, if_pos h1.symm]
      exact h2
    · rw [if_neg hv, lv_osw hv h1]
      exact mc_swL_e cs ps h3
  | [], _ :: _, h => by simp [mc_swL] at h
  | _ :: _, [], h => by simp [mc_swL] at h
section MVT
variable {p : Program} {l : Launch} {e : Env} {R : Room} {s : State} {m : MethodId} {args : Array Value} {below : List Frame} {meth : Method} {c : Code} {Q : State → Prop}
variable {D : va_G} {cl : List vw_C} {b : Nat} {cA : Nat → ClassId} {md : Bool} {tab : List mc_D} {nL n0 dn : Nat}
variable {cc : ByteArray} {pc : Nat} {ls : List (Option Value)} {st r : List Value} {n : Nat} {M : mc_M} {L : mc_L}
theorem mv_tsw (hx : p.tables.exec = Jvm.exec) (hb : c.code = cc) {cs : List (Int32 × Nat)} {d len : Nat} {dflt lo hi : Int} {offs : Array Int} {x : Int32} (hdg : decode cc pc = .ok (.tableswitch dflt lo hi offs, len)) (hw : mc_swT pc cs d dflt lo hi offs = true) (k : mc_sw x cs d fun t => mc_V p l e R s m args below meth c Q D cl b cA md tab nL n0 dn t ls r n M L) : mc_V p l e R s m args below meth c Q D cl b cA md tab nL n0 dn pc ls (.int x :: r) n M L := by
  have hk := mc_sw_e k
  unfold mc_swT at hw
  simp only [Bool.and_eq_true, decide_eq_true_eq, List.all_eq_true, List.mem_range] at hw
  obtain ⟨⟨w1, w2⟩, w3⟩ := hw
  have at' : ∀ (j : Nat) (v : Int32) (t : Nat), cs[j]? = some (v, t) → ∃ off, offs[j]? = some off ∧ v.toInt = lo + (j : Int) ∧ (pc : Int) + off = (t : Int) := by
    intro j v t hj
    have hjl : j < cs.length := (List.getElem?_eq_some_iff.mp hj).1
    have h3 := w3 j hjl
    rw [hj] at h3
    cases ho : offs[j]? with
    | none => rw [ho] at h3; simp at h3
    | some off =>
      rw [ho] at h3
      simp only [Bool.and_eq_true, decide_eq_true_eq] at h3
      exact ⟨off, rfl, h3.1, h3.2⟩
  obtain ⟨i1, i2⟩ := mc_fi_at (x := x) (d := d) cs lo (fun j v t hj => by obtain ⟨_, _, h, _⟩ := at' j v t hj; exact h)
  by_cases hr : x.toInt < lo ∨ hi < x.toInt
  · have e : mc_fi x cs d = d := i2 (fun j v t hj z => by
      obtain ⟨_, _, h, _⟩ := at' j v t hj
      have hjl : j < cs.length := (List.getElem?_eq_some_iff.mp hj).1
      rw [← z] at h
      omega)
    rw [e] at hk
    exact mv_go (fun H locs lsC _ _ _ kk => lv_tableOut hx hb hdg hr w1 kk) hk
  · have hjl : (x.toInt - lo).toNat < cs.length := by omega
    obtain ⟨⟨v, t⟩, hj⟩ : ∃ q, cs[(x.toInt - lo).toNat]? = some q := ⟨_, List.getElem?_eq_getElem hjl⟩
    obtain ⟨off, ho, h1, h2⟩ := at' _ v t hj
    have hv : v = x := Int32.toInt_inj.mp (by rw [h1]; omega)
    subst hv
    rw [i1 _ t hj] at hk
    exact mv_go (fun H locs lsC _ _ _ kk => lv_tableIn hx hb hdg (by omega) (by omega) ho h2 kk) hk
theorem mv_lsw (hx : p.tables.exec = Jvm.exec) (hb : c.code = cc) {cs : List (Int32 × Nat)} {d len : Nat} {dflt : Int} {ps : Array (Int × Int)} {x : Int32} (hdg : decode cc pc = .ok (.lookupswitch dflt ps, len)) (hp : (ps.toList.zip (ps.toList.drop 1)).all (fun (a, next) => a.1 < next.1) = true) (hw : mc_swL pc d dflt cs ps.toList = true) (k : mc_sw x cs d fun t => mc_V p l e R s m args below meth c Q D cl b cA md tab nL n0 dn t ls r n M L) : mc_V p l e R s m args below meth c Q D cl b cA md tab nL n0 dn pc ls (.int x :: r) n M L :=
  mv_go (fun H locs lsC _ _ _ kk => lv_lookup hx hb hdg hp rfl (mc_swL_e cs ps.toList hw) kk) (mc_sw_e k)
end MVT
/-- the world's cells are of their classes' shapes -/
def mc_fok (fd : Nat) (ty : FieldType) : Bool := match fd, ty with
  | 0, .int => true
  | 2, .boolean => true
  | 1, .object _ => true
  | _ + 3, .object _ => true
  | _ + 3, .array _ => true
  | _, _ => false
def mc_tok (cl : List vw_C) (tab : List mc_D) : Bool := tab.all fun d => match d with
  | .inl (t, _) => decide (t < 4)
  | .inr (ci, fds) => match cl[ci]? with
    | some (_, T, N) => fds.length == N && (List.range N).all (fun k => match fds[k]?, parseFieldDescriptor (T k).2.2.1 with
      | some fd, some ty => mc_fok fd ty
      | _, _ => false)
    | none => false
def mc_t0 (T : u_T) (k : Nat) : FieldType := (parseFieldDescriptor (T k).2.2.1).getD .int
theorem mc_tok_e {cl : List vw_C} {tab : List mc_D} (h : mc_tok cl tab = true) {a ci : Nat} {fds : List Nat} (ha : tab[a]? = some (.inr (ci, fds))) {C : String} {T : u_T} {N : Nat} (hc : cl[ci]? = some (C, T, N)) :
    fds.length = N ∧ (∀ k, k < N → parseFieldDescriptor (T k).2.2.1 = some (mc_t0 T k)) ∧ ∀ k fd, fds[k]? = some fd → mc_fok fd (mc_t0 T k) = true := by
  have h1 := List.all_eq_true.mp h _ (List.mem_of_getElem? ha)
  simp only [hc, Bool.and_eq_true, beq_iff_eq, List.all_eq_true, List.mem_range] at h1
  obtain ⟨h2, h3⟩ := h1
  have h4 : ∀ k, k < N → ∃ fd, fds[k]? = some fd ∧ parseFieldDescriptor (T k).2.2.1 = some (mc_t0 T k) ∧ mc_fok fd (mc_t0 T k) = true := by
    intro k hk
    have h5 := h3 k hk
    cases hf : fds[k]? with
    | none => rw [hf] at h5; simp at h5
    | some fd =>
      cases hp : parseFieldDescriptor (T k).2.2.1 with
      | none => rw [hf, hp] at h5; simp at h5
      | some ty =>
        rw [hf, hp] at h5
        have e : mc_t0 T k = ty := by unfold mc_t0; rw [hp]; rfl
        exact ⟨fd, rfl, by rw [e], by rw [e]; exact h5⟩
  refine ⟨h2, fun k hk => ?_, fun k fd hk => ?_⟩
  · obtain ⟨_, _, h6, _⟩ := h4 k hk
    exact h6
  · have hkN : k < N := by rw [← h2]; exact (List.getElem?_eq_some_iff.mp hk).1
    obtain ⟨fd', h6, _, h7⟩ := h4 k hkN
    rw [hk] at h6
    cases h6
    exact h7
theorem mc_tok_a {cl : List vw_C} {tab : List mc_D} (h : mc_tok cl tab = true) {a t len : Nat} (ha : tab[a]? = some (.inl (t, len))) : t < 4 := by
  have h1 := List.all_eq_true.mp h _ (List.mem_of_getElem? ha)
  simpa using h1
theorem mc_fok_int {fd : Nat} {ty : FieldType} {b : Nat} {z : Int32} (h : mc_fok fd ty = true) (hz : fd = 0 ∨ (fd = 2 ∧ (z = 0 ∨ z = 1))) : narrow ty (mc_ga b (.int z)) = mc_ga b (.int z) ∧ fits ty (mc_ga b (.int z)) = true := by
  rcases hz with rfl | ⟨rfl, hz⟩
  · cases ty <;> first | exact ⟨vp_nar_int z, rfl⟩ | (simp [mc_fok] at h)
  · cases ty <;> first | (rcases hz with rfl | rfl <;> exact ⟨rfl, rfl⟩) | (simp [mc_fok] at h)
theorem mc_fok_ref {fd : Nat} {ty : FieldType} {b r : Nat} (h : mc_fok fd ty = true) (h0 : fd ≠ 0) (h2 : fd ≠ 2) : narrow ty (mc_ga b (.ref r)) = mc_ga b (.ref r) ∧ fits ty (mc_ga b (.ref r)) = true := by
  match fd, h0, h2, h with
  | 1, _, _, h => cases ty <;> first | exact ⟨rfl, rfl⟩ | (simp [mc_fok] at h)
  | k + 3, _, _, h => cases ty <;> first | exact ⟨rfl, rfl⟩ | (simp [mc_fok] at h)
section MVM
variable {p : Program} {l : Launch} {e : Env} {R : Room} {s : State} {m : MethodId} {args : Array Value} {below : List Frame} {meth : Method} {c : Code} {Q : State → Prop}
variable {D : va_G} {cl : List vw_C} {b : Nat} {cA : Nat → ClassId} {md : Bool} {tab : List mc_D} {nL n0 dn : Nat}
variable {cc : ByteArray} {exn : Nat → String} {Qr : Option Value → mc_M → mc_L → Prop} {Qt : Nat → mc_M → mc_L → Prop} {ret : Option FieldType} {sh : mc_SH} {own : String} {Ts : List Cond}
theorem mc_sound (hx : p.tables.exec = Jvm.exec) (hb : c.code = cc) (hown : s.vm.findClass own = some m.cls) (hts : ∀ w ∈ Ts, w.before args s = true) (hK : va_K D cl (mc_ty cA) s) (htk : mc_tok cl tab = true)
    (hcl : ∀ (ci : Nat) (C : String) (T : u_T) (N : Nat), cl[ci]? = some (C, T, N) → (∀ w ∈ u_ws C T N, w ∈ Ts) ∧ ∀ a, a < N → ∀ b, b < N → a ≠ b → (T a).2.1 ≠ (T b).2.1)
    (hfg : ∀ idx ci k : Nat, mc_lk sh.1.1 idx = some (ci, k) → ∃ (C : String) (T : u_T) (N : Nat), cl[ci]? = some (C, T, N) ∧ k < N ∧ mc_lnk own idx (T k) args s)
    (hfp : ∀ idx ci k : Nat, mc_lk sh.1.2 idx = some (ci, k) → ∃ (C : String) (T : u_T) (N : Nat), cl[ci]? = some (C, T, N) ∧ k < N ∧ (((T k).2.2.2 = false ∧ mc_lnk own idx (T k) args s) ∨ ((T k).2.2.2 = true ∧ (T k).1 = own ∧ meth.name = "<init>" ∧ (Cond.fieldLink own idx (T k).1 (T k).2.1 (T k).2.2.1).before args s = true)))
    (hkc : ∀ i w, mc_lk sh.2.2.2.2.1 i = some w → (Cond.constant own i w).before args s = true)
    (hkl : ∀ i w, mc_lk sh.2.2.2.2.2.1 i = some w → (Cond.constantLong own i w).before args s = true)
    (hscr : ∀ sa len xs, sh.2.2.2.2.2.2.2 = some (sa, len, xs) → va_X sa len xs s s.heap ∧ sa < s.heap.size ∧ ¬ mc_A md b tab.length sa)
    (hri : ∀ pc ls x n M L, decode cc pc = .ok (.ireturn, 1) → mc_ri ret x (mc_en md n n0 dn (Qr (some (.int x)) M L)) → mc_V p l e R s m args below meth c Q D cl b cA md tab nL n0 dn pc ls [.int x] n M L)
    (hrv : ∀ pc ls n M L, decode cc pc = .ok (.return_, 1) → ret = none → mc_en md n n0 dn (Qr none M L) → mc_V p l e R s m args below meth c Q D cl b cA md tab nL n0 dn pc ls [] n M L)
    {K : mc_K} (hKV : ∀ pc ls st n M L, K pc ls st n M L → mc_V p l e R s m args below meth c Q D cl b cA md tab nL n0 dn pc ls st n M L)
    (hcal : ∀ idx kd a dn' F, mc_lk sh.2.1 idx = some (kd, a, dn', F) → ∀ (x : Instr), (kd = 0 ∧ x = .invokevirtual idx) ∨ (kd = 1 ∧ x = .invokestatic idx) ∨ (kd = 2 ∧ x = .invokespecial idx) → ∀ pc ls av r n M L, decode cc pc = .ok (x, 3) → mc_w r ≤ 8 → av.length = a → n + dn' ≤ n0 + dn → F av n M L (fun rv M' L' => K (pc + 3) ls (rv.toList ++ r) (n + dn') M' L') → mc_V p l e R s m args below meth c Q D cl b cA md tab nL n0 dn pc ls (av.reverse ++ r) n M L)
    (hnw : ∀ i ci, mc_lk sh.2.2.1 i = some ci → md = false → ∀ (pc : Nat) ls st (n : Nat) M L fds, decode cc pc = .ok (.new i, 3) → tab[n]? = some (.inr (ci, fds)) → n < n0 + dn → K (pc + 3) ls (.ref n :: st) (n + 1) (mc_set M n (fun _ => 0)) L → mc_V p l e R s m args below meth c Q D cl b cA md tab nL n0 dn pc ls st n M L)
    (hna : md = false → ∀ a (t len pc : Nat) ls r (n : Nat) M L, decode cc pc = .ok (.newarray a, 2) → t < 4 → newarray.typeOf a = mc_tt t → tab[n]? = some (.inl (t, len)) → n < n0 + dn → K (pc + 2) ls (.ref n :: r) (n + 1) (mc_set M n (fun _ => 0)) (mc_setL L n (fun _ => 0)) → mc_V p l e R s m args below meth c Q D cl b cA md tab nL n0 dn pc ls (.int (Int32.ofNat len) :: r) n M L)
    {x : Instr} {len tgt : Nat} {v : Int32} {pc : Nat} {ls : List (Option Value)} {st : List Value} {n : Nat} {M : mc_M} {L : mc_L} (hdg : decode cc pc = .ok (x, len)) (hok : mc_ok nL pc x len tgt v = true)
    (hex : ∀ i k, x = .new i → mc_lk sh.2.2.2.1 i = some k → md = true → n < n0 + dn → Qt k M L → mc_V p l e R s m args below meth c Q D cl b cA md tab nL n0 dn pc ls [] n M L)
    (hsw : ∀ cs d dflt lo hi offs, x = .tableswitch dflt lo hi offs → mc_lk sh.2.2.2.2.2.2.1 pc = some (cs, d) → mc_swT pc cs d dflt lo hi offs = true)
    (hswL : ∀ cs d dflt ps, x = .lookupswitch dflt ps → mc_lk sh.2.2.2.2.2.2.1 pc = some (cs, d) → (ps.toList.zip (ps.toList.drop 1)).all (fun (a, next) => a.1 < next.1) = true ∧ mc_swL pc d dflt cs ps.toList = true)
    (h : mc_step md tab n0 dn ret sh Qr Qt K x tgt v pc ls st n M L) : mc_V p l e R s m args below meth c Q D cl b cA md tab nL n0 dn pc ls st n M L := by
  cases x with
  | aload i =>
    simp only [mc_ok, beq_iff_eq] at hok
    subst hok
    simp only [mc_step] at h
    obtain ⟨w, a, ha, hv, k⟩ := mc_lr_e h b
    refine mv_go (fun H locs lsC _ _ hl kk => lv_aload hx hb hdg (x := a) (by rw [← hv]; exact mc_lv_at hl ha) ?_) (hKV _ _ _ _ _ _ k)
    rw [← hv]
    exact kk
  | aload_n i =>
    simp only [mc_ok, beq_iff_eq] at hok
    subst hok
    simp only [mc_step] at h
    obtain ⟨w, a, ha, hv, k⟩ := mc_lr_e h b
    refine mv_go (fun H locs lsC _ _ hl kk => lv_aload_n hx hb hdg rfl (x := a) (by rw [← hv]; exact mc_lv_at hl ha) ?_) (hKV _ _ _ _ _ _ k)
    rw [← hv]
    exact kk
  | iload i =>
    simp only [mc_ok, beq_iff_eq] at hok
    subst hok
    obtain ⟨a, ha, k⟩ := mc_li_e h
    exact mv_go (fun H locs lsC _ _ hl kk => lv_iload hx hb hdg (mc_lv_at hl ha) kk) (hKV _ _ _ _ _ _ k)
  | iload_n i =>
    simp only [mc_ok, beq_iff_eq] at hok
    subst hok
    obtain ⟨a, ha, k⟩ := mc_li_e h
    exact mv_go (fun H locs lsC _ _ hl kk => lv_iload_n hx hb hdg rfl (mc_lv_at hl ha) kk) (hKV _ _ _ _ _ _ k)
  | lload i =>
    simp only [mc_ok, beq_iff_eq] at hok
    subst hok
    obtain ⟨a, ha, k⟩ := mc_ll_e h
    exact mv_go (fun H locs lsC _ _ hl kk => lv_lload hx hb hdg (mc_lv_at hl ha) kk) (hKV _ _ _ _ _ _ k)
  | lload_n i =>
    simp only [mc_ok, beq_iff_eq] at hok
    subst hok
    obtain ⟨a, ha, k⟩ := mc_ll_e h
    exact mv_go (fun H locs lsC _ _ hl kk => lv_lload_n hx hb hdg rfl (mc_lv_at hl ha) kk) (hKV _ _ _ _ _ _ k)
  | istore i =>
    simp only [mc_ok, Bool.and_eq_true, beq_iff_eq, decide_eq_true_eq] at hok
    obtain ⟨rfl, hi⟩ := hok
    obtain ⟨a, r, rfl, k⟩ := mc_pi_e h
    exact mv_st1 (fun H locs lsC _ _ hl kk => lv_istore hx hb hdg hl hi rfl kk) (hKV _ _ _ _ _ _ k)
  | istore_n i =>
    simp only [mc_ok, Bool.and_eq_true, beq_iff_eq, decide_eq_true_eq] at hok
    obtain ⟨rfl, hi⟩ := hok
    obtain ⟨a, r, rfl, k⟩ := mc_pi_e h
    exact mv_st1 (fun H locs lsC _ _ hl kk => lv_istore_n hx hb hdg rfl hl hi rfl kk) (hKV _ _ _ _ _ _ k)
  | astore i =>
    simp only [mc_ok, Bool.and_eq_true, beq_iff_eq, decide_eq_true_eq] at hok
    obtain ⟨rfl, hi⟩ := hok
    obtain ⟨a, r, rfl, k⟩ := mc_pr_e h
    exact mv_st1 (fun H locs lsC _ _ hl kk => lv_astore hx hb hdg hl hi rfl kk) (hKV _ _ _ _ _ _ k)
  | astore_n i =>
    simp only [mc_ok, Bool.and_eq_true, beq_iff_eq, decide_eq_true_eq] at hok
    obtain ⟨rfl, hi⟩ := hok
    obtain ⟨a, r, rfl, k⟩ := mc_pr_e h
    exact mv_st1 (fun H locs lsC _ _ hl kk => lv_astore_n hx hb hdg rfl hl hi rfl kk) (hKV _ _ _ _ _ _ k)
  | lstore i =>
    simp only [mc_ok, Bool.and_eq_true, beq_iff_eq, decide_eq_true_eq] at hok
    obtain ⟨rfl, hi⟩ := hok
    obtain ⟨a, r, rfl, k⟩ := mc_pl_e h
    exact mv_st2 (fun H locs lsC _ _ hl kk => lv_lstore hx hb hdg hl hi rfl kk) (hKV _ _ _ _ _ _ k)
  | lstore_n i =>
    simp only [mc_ok, Bool.and_eq_true, beq_iff_eq, decide_eq_true_eq] at hok
    obtain ⟨rfl, hi⟩ := hok
    obtain ⟨a, r, rfl, k⟩ := mc_pl_e h
    exact mv_st2 (fun H locs lsC _ _ hl kk => lv_lstore_n hx hb hdg rfl hl hi rfl kk) (hKV _ _ _ _ _ _ k)
  | iinc i z =>
    simp only [mc_ok, Bool.and_eq_true, beq_iff_eq, decide_eq_true_eq] at hok
    obtain ⟨⟨rfl, hi⟩, hv⟩ := hok
    obtain ⟨a, ha, k⟩ := mc_li_e h
    exact mv_iinc hx hb hdg hi ha hv (hKV _ _ _ _ _ _ k)
  | iconst z =>
    simp only [mc_ok, Bool.and_eq_true, beq_iff_eq, decide_eq_true_eq] at hok
    obtain ⟨rfl, hv⟩ := hok
    exact mv_go (fun H locs lsC _ _ hl kk => lv_iconst hx hb hdg hv kk) (hKV _ _ _ _ _ _ h)
  | bipush z =>
    simp only [mc_ok, Bool.and_eq_true, beq_iff_eq, decide_eq_true_eq] at hok
    obtain ⟨rfl, hv⟩ := hok
    exact mv_go (fun H locs lsC _ _ hl kk => lv_bipush hx hb hdg hv kk) (hKV _ _ _ _ _ _ h)
  | sipush z =>
    simp only [mc_ok, Bool.and_eq_true, beq_iff_eq, decide_eq_true_eq] at hok
    obtain ⟨rfl, hv⟩ := hok
    exact mv_go (fun H locs lsC _ _ hl kk => lv_sipush hx hb hdg hv kk) (hKV _ _ _ _ _ _ h)
  | lconst i =>
    simp only [mc_ok, beq_iff_eq] at hok
    subst hok
    match i, hdg, h with
    | 0, hdg, h => exact mv_go (fun H locs lsC _ _ hl kk => lv_lconst (v := 0) hx hb hdg rfl kk) (hKV _ _ _ _ _ _ h)
    | 1, hdg, h => exact mv_go (fun H locs lsC _ _ hl kk => lv_lconst (v := 1) hx hb hdg rfl kk) (hKV _ _ _ _ _ _ h)
  | ldc i =>
    simp only [mc_ok, beq_iff_eq] at hok
    subst hok
    simp only [mc_step] at h
    split at h
    · next w hw => exact mv_go (fun H locs lsC _ _ hl kk => lv_ldc hx hb hown (hkc i w hw) hdg kk) (hKV _ _ _ _ _ _ h)
    · exact h.elim
  | ldc2_w i =>
    simp only [mc_ok, beq_iff_eq] at hok
    subst hok
    simp only [mc_step] at h
    split at h
    · next w hw => exact mv_go (fun H locs lsC _ _ hl kk => lv_ldc2 hx hb hown (hkl i w hw) hdg kk) (hKV _ _ _ _ _ _ h)
    · exact h.elim
  | iadd =>
    simp only [mc_ok, beq_iff_eq] at hok
    subst hok
    obtain ⟨x, y, r, rfl, k⟩ := mc_pii_e h
    exact mv_go (fun H locs lsC _ _ hl kk => lv_iadd hx hb hdg kk) (hKV _ _ _ _ _ _ k)
  | isub =>
    simp only [mc_ok, beq_iff_eq] at hok
    subst hok
    obtain ⟨x, y, r, rfl, k⟩ := mc_pii_e h
    exact mv_go (fun H locs lsC _ _ hl kk => lv_isub hx hb hdg kk) (hKV _ _ _ _ _ _ k)
  | imul =>
    simp only [mc_ok, beq_iff_eq] at hok
    subst hok
    obtain ⟨x, y, r, rfl, k⟩ := mc_pii_e h
    exact mv_go (fun H locs lsC _ _ hl kk => lv_imul hx hb hdg kk) (hKV _ _ _ _ _ _ k)
  | iand =>
    simp only [mc_ok, beq_iff_eq] at hok
    subst hok
    obtain ⟨x, y, r, rfl, k⟩ := mc_pii_e h
    exact mv_go (fun H locs lsC _ _ hl kk => lv_iand hx hb hdg kk) (hKV _ _ _ _ _ _ k)
  | ior =>
    simp only [mc_ok, beq_iff_eq] at hok
    subst hok
    obtain ⟨x, y, r, rfl, k⟩ := mc_pii_e h
    exact mv_go (fun H locs lsC _ _ hl kk => lv_ior hx hb hdg kk) (hKV _ _ _ _ _ _ k)
  | ixor =>
    simp only [mc_ok, beq_iff_eq] at hok
    subst hok
    obtain ⟨x, y, r, rfl, k⟩ := mc_pii_e h
    exact mv_go (fun H locs lsC _ _ hl kk => lv_ixor hx hb hdg kk) (hKV _ _ _ _ _ _ k)
  | ishl =>
    simp only [mc_ok, beq_iff_eq] at hok
    subst hok
    obtain ⟨x, y, r, rfl, k⟩ := mc_pii_e h
    exact mv_go (fun H locs lsC _ _ hl kk => lv_ishl hx hb hdg kk) (hKV _ _ _ _ _ _ k)
  | ishr =>
    simp only [mc_ok, beq_iff_eq] at hok
    subst hok
    obtain ⟨x, y, r, rfl, k⟩ := mc_pii_e h
    exact mv_go (fun H locs lsC _ _ hl kk => lv_ishr hx hb hdg kk) (hKV _ _ _ _ _ _ k)
  | idiv =>
    simp only [mc_ok, beq_iff_eq] at hok
    subst hok
    obtain ⟨x, y, r, rfl, hy, k⟩ := mc_pii_e h
    exact mv_go (fun H locs lsC _ _ hl kk => lv_idiv hx hb hdg hy kk) (hKV _ _ _ _ _ _ k)
  | irem =>
    simp only [mc_ok, beq_iff_eq] at hok
    subst hok
    obtain ⟨x, y, r, rfl, hy, k⟩ := mc_pii_e h
    exact mv_go (fun H locs lsC _ _ hl kk => lv_irem hx hb hdg hy kk) (hKV _ _ _ _ _ _ k)
  | ineg =>
    simp only [mc_ok, beq_iff_eq] at hok
    subst hok
    obtain ⟨x, r, rfl, k⟩ := mc_pi_e h
    exact mv_go (fun H locs lsC _ _ hl kk => lv_ineg hx hb hdg kk) (hKV _ _ _ _ _ _ k)
  | ladd =>
    simp only [mc_ok, beq_iff_eq] at hok
    subst hok
    obtain ⟨x, y, r, rfl, k⟩ := mc_pll_e h
    exact mv_go (fun H locs lsC _ _ hl kk => lv_ladd hx hb hdg kk) (hKV _ _ _ _ _ _ k)
  | lsub =>
    simp only [mc_ok, beq_iff_eq] at hok
    subst hok
    obtain ⟨x, y, r, rfl, k⟩ := mc_pll_e h
    exact mv_go (fun H locs lsC _ _ hl kk => lv_lsub hx hb hdg kk) (hKV _ _ _ _ _ _ k)
  | lmul =>
    simp only [mc_ok, beq_iff_eq] at hok
    subst hok
    obtain ⟨x, y, r, rfl, k⟩ := mc_pll_e h
    exact mv_go (fun H locs lsC _ _ hl kk => lv_lmul hx hb hdg kk) (hKV _ _ _ _ _ _ k)
  | ldiv =>
    simp only [mc_ok, beq_iff_eq] at hok
    subst hok
    obtain ⟨x, y, r, rfl, hy, k⟩ := mc_pll_e h
    exact mv_go (fun H locs lsC _ _ hl kk => lv_ldiv hx hb hdg hy kk) (hKV _ _ _ _ _ _ k)
  | lrem =>
    simp only [mc_ok, beq_iff_eq] at hok
    subst hok
    obtain ⟨x, y, r, rfl, hy, k⟩ := mc_pll_e h
    exact mv_go (fun H locs lsC _ _ hl kk => lv_lrem hx hb hdg hy kk) (hKV _ _ _ _ _ _ k)
  | lneg =>
    simp only [mc_ok, beq_iff_eq] at hok
    subst hok
    obtain ⟨x, r, rfl, k⟩ := mc_pl_e h
    exact mv_go (fun H locs lsC _ _ hl kk => lv_lneg hx hb hdg kk) (hKV _ _ _ _ _ _ k)
  | lcmp =>
    simp only [mc_ok, beq_iff_eq] at hok
    subst hok
    obtain ⟨x, y, r, rfl, k⟩ := mc_pll_e h
    exact mv_go (fun H locs lsC _ _ hl kk => W.lcmp hx hb hdg kk) (hKV _ _ _ _ _ _ k)
  | i2l =>
    simp only [mc_ok, beq_iff_eq] at hok
    subst hok
    obtain ⟨x, r, rfl, k⟩ := mc_pi_e h
    exact mv_go (fun H locs lsC _ _ hl kk => lv_i2l hx hb hdg rfl kk) (hKV _ _ _ _ _ _ k)
  | l2i =>
    simp only [mc_ok, beq_iff_eq] at hok
    subst hok
    obtain ⟨x, r, rfl, k⟩ := mc_pl_e h
    exact mv_go (fun H locs lsC _ _ hl kk => lv_l2i hx hb hdg rfl kk) (hKV _ _ _ _ _ _ k)
  | i2c =>
    simp only [mc_ok, beq_iff_eq] at hok
    subst hok
    obtain ⟨x, r, rfl, k⟩ := mc_pi_e h
    exact mv_go (fun H locs lsC _ _ hl kk => lv_i2c hx hb hdg rfl kk) (hKV _ _ _ _ _ _ k)
  | dup =>
    simp only [mc_ok, beq_iff_eq] at hok
    subst hok
    simp only [mc_step] at h
    split at h
    · exact mv_go (fun H locs lsC _ _ hl kk => lv_dup hx hb hdg rfl kk) (hKV _ _ _ _ _ _ h)
    · exact mv_go (fun H locs lsC _ _ hl kk => lv_dup hx hb hdg rfl kk) (hKV _ _ _ _ _ _ h)
    · exact h.elim
  | dup2 =>
    simp only [mc_ok, beq_iff_eq] at hok
    subst hok
    simp only [mc_step] at h
    split at h
    · exact mv_go (fun H locs lsC _ _ hl kk => lv_dup2_11 hx hb hdg rfl rfl kk) (hKV _ _ _ _ _ _ h)
    · exact mv_go (fun H locs lsC _ _ hl kk => lv_dup2_2 hx hb hdg rfl kk) (hKV _ _ _ _ _ _ h)
    · exact h.elim
  | dup_x1 =>
    simp only [mc_ok, beq_iff_eq] at hok
    subst hok
    simp only [mc_step] at h
    split at h
    · exact mv_go (fun H locs lsC _ _ hl kk => lv_dup_x1 hx hb hdg rfl rfl kk) (hKV _ _ _ _ _ _ h)
    · exact h.elim
  | pop =>
    simp only [mc_ok, beq_iff_eq] at hok
    subst hok
    simp only [mc_step] at h
    split at h
    · exact mv_go (fun H locs lsC _ _ hl kk => lv_pop (va := .int _) hx hb hdg rfl kk) (hKV _ _ _ _ _ _ h)
    · exact mv_go (fun H locs lsC _ _ hl kk => lv_pop (va := .ref _) hx hb hdg rfl kk) (hKV _ _ _ _ _ _ h)
    · exact h.elim
  | ifCond cd off =>
    simp only [mc_ok, Bool.and_eq_true, beq_iff_eq, decide_eq_true_eq] at hok
    obtain ⟨rfl, ht⟩ := hok
    obtain ⟨x, r, rfl, k⟩ := mc_pi_e h
    refine mv_if hx hb hdg ht ?_
    cases cd <;> exact ⟨fun z => hKV _ _ _ _ _ _ (k.1 z), fun z => hKV _ _ _ _ _ _ (k.2 z)⟩
  | if_icmp cd off =>
    simp only [mc_ok, Bool.and_eq_true, beq_iff_eq, decide_eq_true_eq] at hok
    obtain ⟨rfl, ht⟩ := hok
    obtain ⟨x, y, r, rfl, k⟩ := mc_pii_e h
    refine mv_ifi hx hb hdg ht ?_
    cases cd <;> exact ⟨fun z => hKV _ _ _ _ _ _ (k.1 z), fun z => hKV _ _ _ _ _ _ (k.2 z)⟩
  | goto off =>
    simp only [mc_ok, Bool.and_eq_true, beq_iff_eq, decide_eq_true_eq] at hok
    obtain ⟨rfl, ht⟩ := hok
    exact mv_go (fun H locs lsC _ _ hl kk => lv_goto hx hb hdg ht kk) (hKV _ _ _ _ _ _ h)
  | tableswitch dflt lo hi offs =>
    simp only [mc_step] at h
    split at h
    · next cs d hw =>
      obtain ⟨x, r, rfl, k⟩ := mc_pi_e h
      refine mv_tsw hx hb hdg (hsw cs d dflt lo hi offs rfl hw) ?_
      exact mc_sw_mono (fun t z => hKV _ _ _ _ _ _ z) k
    · exact h.elim
  | lookupswitch dflt ps =>
    simp only [mc_step] at h
    split at h
    · next cs d hw =>
      obtain ⟨x, r, rfl, k⟩ := mc_pi_e h
      obtain ⟨w1, w2⟩ := hswL cs d dflt ps rfl hw
      exact mv_lsw hx hb hdg w1 w2 (mc_sw_mono (fun t z => hKV _ _ _ _ _ _ z) k)
    · exact h.elim
  | getfield i =>
    simp only [mc_ok, beq_iff_eq] at hok
    subst hok
    simp only [mc_step] at h
    split at h
    · next ci k hw =>
      obtain ⟨a, r, rfl, h⟩ := mc_pr_e h
      obtain ⟨C, T, N, hc, hk, hlink⟩ := hfg i ci k hw
      intro h0 hf
      obtain ⟨fds, fd, h1, h2, h3, h4⟩ := mc_ob_e h hf
      exact mv_get hx hb hts hown hK (hcl ci C T N hc).1 hc hk hlink h1 h2 hdg h3 (hKV _ _ _ _ _ _ (mc_gf_e (kk := fun w => K (pc + 3) ls (w :: r) n M L) h4)) h0 hf
    · exact h.elim
  | putfield i =>
    simp only [mc_ok, beq_iff_eq] at hok
    subst hok
    simp only [mc_step] at h
    split at h
    · next ci k hw =>
      obtain ⟨w, a, r, rfl, h⟩ := mc_pvr_e h
      obtain ⟨C, T, N, hc, hk, hlink⟩ := hfp i ci k hw
      intro h0 hf
      obtain ⟨fds, fd, h1, h2, h3, h4⟩ := mc_ob_e h hf
      obtain ⟨t1, t2, t3⟩ := mc_tok_e htk h1 hc
      obtain ⟨x, k1, k2, k3⟩ := mc_pf_e (md := md) h4
      have t4 := t3 k fd h2
      have hnf : narrow (mc_t0 T k) (mc_ga b w) = mc_ga b w ∧ fits (mc_t0 T k) (mc_ga b w) = true := by
        rcases k3 with ⟨z, rfl, hz⟩ | ⟨r', rfl, z0, z2⟩
        · exact mc_fok_int t4 hz
        · exact mc_fok_ref t4 z0 z2
      exact mv_put hx hb hts hown hK (hcl ci C T N hc).1 hc hk (mc_t0 T) t2 (hcl ci C T N hc).2 hlink h1 h2 hdg h3 k2 hnf.1 hnf.2 (hKV _ _ _ _ _ _ k1) h0 hf
    · exact h.elim
  | arraylength =>
    simp only [mc_ok, beq_iff_eq] at hok
    subst hok
    simp only [mc_step] at h
    split at h
    · next a r =>
      split at h
      · next sa len xs hsc =>
        obtain ⟨rfl, h⟩ := h
        obtain ⟨z1, z2, z3⟩ := hscr _ _ _ hsc
        intro h0 hf H locs lsC hP hz hS hl
        exact va_slen hx hb z1 z2 z3 hS hdg (hKV _ _ _ _ _ _ h h0 hf H locs lsC hP hz hS hl)
      · exact h.elim
    · next a r =>
      split at h
      · next t len hd =>
        rw [mc_at_eq] at hd
        intro h0 hf
        obtain ⟨h1, h2⟩ := mc_in_e h hf hd
        exact mv_alen hx hb hK (mc_tok_a htk hd) hd h1 hdg (hKV _ _ _ _ _ _ h2) h0 hf
      · exact h.elim
    · exact h.elim
  | iaload =>
    simp only [mc_ok, beq_iff_eq] at hok
    subst hok
    simp only [mc_step] at h
    split at h
    · next i a r =>
      split at h
      · next sa len xs hsc =>
        obtain ⟨rfl, hin, h⟩ := h
        obtain ⟨z1, z2, z3⟩ := hscr _ _ _ hsc
        intro h0 hf H locs lsC hP hz hS hl
        exact va_sld hx hb z1 z2 z3 hS hin hdg (hKV _ _ _ _ _ _ h h0 hf H locs lsC hP hz hS hl)
      · exact h.elim
    · obtain ⟨i, a, r, rfl, h⟩ := mc_pir_e h
      intro h0 hf
      obtain ⟨len, h1, h2, h3, h4⟩ := mc_ar_e h hf
      exact mv_iald hx hb hK h1 h2 h3 hdg (hKV _ _ _ _ _ _ h4) h0 hf
  | caload =>
    simp only [mc_ok, beq_iff_eq] at hok
    subst hok
    obtain ⟨i, a, r, rfl, h⟩ := mc_pir_e h
    intro h0 hf
    obtain ⟨len, h1, h2, h3, h4⟩ := mc_ar_e h hf
    exact mv_cald hx hb hK h1 h2 h3 hdg (hKV _ _ _ _ _ _ h4) h0 hf
  | baload =>
    simp only [mc_ok, beq_iff_eq] at hok
    subst hok
    obtain ⟨i, a, r, rfl, h⟩ := mc_pir_e h
    intro h0 hf
    obtain ⟨len, h1, h2, h3, h4⟩ := mc_ar_e h hf
    exact mv_zald hx hb hK h1 h2 h3 hdg (hKV _ _ _ _ _ _ h4) h0 hf
  | laload =>
    simp only [mc_ok, beq_iff_eq] at hok
    subst hok
    obtain ⟨i, a, r, rfl, h⟩ := mc_pir_e h
    intro h0 hf
    obtain ⟨len, h1, h2, h3, h4⟩ := mc_ar_e h hf
    exact mv_lald hx hb hK h1 h2 h3 hdg (hKV _ _ _ _ _ _ h4) h0 hf
  | iastore =>
    simp only [mc_ok, beq_iff_eq] at hok
    subst hok
    obtain ⟨x, i, a, r, rfl, h⟩ := mc_piir_e h
    intro h0 hf
    obtain ⟨len, h1, h2, h3, h4⟩ := mc_ar_e h hf
    exact mv_iast hx hb hK h1 h2 h3 hdg (hKV _ _ _ _ _ _ h4) h0 hf
  | castore =>
    simp only [mc_ok, beq_iff_eq] at hok
    subst hok
    obtain ⟨x, i, a, r, rfl, h⟩ := mc_piir_e h
    intro h0 hf
    obtain ⟨len, h1, h2, h3, h4⟩ := mc_ar_e h hf
    exact mv_cast hx hb hK h1 h2 h3 hdg (hKV _ _ _ _ _ _ h4) h0 hf
  | bastore =>
    simp only [mc_ok, beq_iff_eq] at hok
    subst hok
    obtain ⟨x, i, a, r, rfl, h⟩ := mc_piir_e h
    intro h0 hf
    obtain ⟨len, h1, h2, h3, h4⟩ := mc_ar_e h hf
    exact mv_zast hx hb hK h1 h2 h3 hdg (hKV _ _ _ _ _ _ h4) h0 hf
  | lastore =>
    simp only [mc_ok, beq_iff_eq] at hok
    subst hok
    obtain ⟨x, i, a, r, rfl, h⟩ := mc_plir_e h
    intro h0 hf
    obtain ⟨len, h1, h2, h3, h4⟩ := mc_ar_e h hf
    exact mv_last hx hb hK h1 h2 h3 hdg (hKV _ _ _ _ _ _ h4) h0 hf
  | invokevirtual i =>
    simp only [mc_ok, beq_iff_eq] at hok
    subst hok
    intro h0
    obtain ⟨a, dn', F, av, r, h1, rfl, h3, h4, h5, h6⟩ := mc_call_e h h0.2
    exact hcal i 0 a dn' F h1 _ (Or.inl ⟨rfl, rfl⟩) pc ls av r n M L hdg h4 h3 h5 h6 h0
  | invokestatic i =>
    simp only [mc_ok, beq_iff_eq] at hok
    subst hok
    intro h0
    obtain ⟨a, dn', F, av, r, h1, rfl, h3, h4, h5, h6⟩ := mc_call_e h h0.2
    exact hcal i 1 a dn' F h1 _ (Or.inr (Or.inl ⟨rfl, rfl⟩)) pc ls av r n M L hdg h4 h3 h5 h6 h0
  | invokespecial i =>
    simp only [mc_ok, beq_iff_eq] at hok
    subst hok
    intro h0
    obtain ⟨a, dn', F, av, r, h1, rfl, h3, h4, h5, h6⟩ := mc_call_e h h0.2
    exact hcal i 2 a dn' F h1 _ (Or.inr (Or.inr ⟨rfl, rfl⟩)) pc ls av r n M L hdg h4 h3 h5 h6 h0
  | ireturn =>
    simp only [mc_ok, beq_iff_eq] at hok
    subst hok
    simp only [mc_step] at h
    split at h
    · exact hri _ _ _ _ _ _ hdg h
    · exact h.elim
  | return_ =>
    simp only [mc_ok, beq_iff_eq] at hok
    subst hok
    simp only [mc_step] at h
    split at h
    · exact hrv _ _ _ _ _ hdg rfl h
    · exact h.elim
  | new i =>
    simp only [mc_ok, beq_iff_eq] at hok
    subst hok
    simp only [mc_step] at h
    split at h
    · next ci hw =>
      cases hm : md with
      | true => rw [hm] at h; exact h.elim
      | false =>
        subst hm
        simp only at h
        split at h
        · next ci' fds hd =>
          rw [mc_at_eq] at hd
          split at h
          · next hbq =>
            have := Nat.eq_of_beq_eq_true hbq
            subst this
            exact hnw i ci hw rfl pc ls st n M L fds hdg hd h.1 h.2
          · exact h.elim
        · exact h.elim
    · split at h
      · next k hw =>
        split at h
        · exact hex i k rfl hw rfl h.1 h.2
        · exact h.elim
      · exact h.elim
  | newarray a =>
    simp only [mc_ok, Bool.and_eq_true, beq_iff_eq, decide_eq_true_eq] at hok
    obtain ⟨⟨rfl, ht⟩, hty⟩ := hok
    obtain ⟨x, r, rfl, hh⟩ := mc_pi_e h
    clear h
    cases hm : md with
    | true => rw [hm] at hh; exact hh.elim
    | false =>
      subst hm
      simp only at hh
      split at hh
      · next t len hd =>
        rw [mc_at_eq] at hd
        split at hh
        · next hbq =>
          have := Nat.eq_of_beq_eq_true hbq
          subst this
          obtain ⟨h1, h2, h3⟩ := hh
          subst h1
          exact hna rfl a t len pc ls r n M L hdg ht hty hd h2 h3
        · exact hh.elim
      · exact hh.elim
  | _ => exact h.elim
end MVM
end
section
/-! contracts -/
def mc_isN (w : Cond) : Bool := match w with
  | .fieldLinkNest .. => true
  | .methodLinkNest .. => true
  | _ => false
def mc_NW (NW : List Cond) (U : State) : Prop := ∀ w ∈ NW, va_Nw w U
theorem mc_NW_same {NW : List Cond} (hN : NW.all mc_isN = true) {u U : State} (h : u.vm = U.vm) (hZ : mc_NW NW u) : mc_NW NW U := by
  intro w hw
  have h1 := List.all_eq_true.mp hN w hw
  have h2 := hZ w hw
  cases w <;> first | exact va_Nw.same rfl h h2 | (simp [mc_isN] at h1)
theorem mc_NW_warm {NW : List Cond} (hN : NW.all mc_isN = true) {s U : State} (hW : s.WarmedH U.vm) (hZ : mc_NW NW s) : mc_NW NW U := by
  intro w hw
  have h1 := List.all_eq_true.mp hN w hw
  have h2 := hZ w hw
  cases w <;> first | exact va_Nw.warmF hW h2 | exact va_Nw.warmM hW h2 | (simp [mc_isN] at h1)
/-- since the start s0 the tables have only been warmed, and nothing below b has changed -/
def mc_O (s0 : State) (b : Nat) (U : State) : Prop := s0.WarmedH U.vm ∧ b ≤ U.heap.size ∧ ∀ q : Nat, q < b → U.heap[q]? = s0.heap[q]?
theorem mc_O_to {s0 s U : State} {b N : Nat} {md : Bool} {H : Heap} {locs : List Loc} (h : mc_O s0 b s) (hS : va_S (mc_A md b N) s.heap H locs) (hU : U.heap = H) (hW : s.WarmedH U.vm) : mc_O s0 b U :=
  ⟨State.WarmedH.trans h.1 hW, by rw [hU]; exact Nat.le_trans h.2.1 hS.1, fun q hq => by
    rw [hU, hS.2.1 q (Nat.lt_of_lt_of_le hq h.2.1) (fun z => absurd z.1 (Nat.not_le.mpr hq))]
    exact h.2.2 q hq⟩
def mc_B (s0 : State) (D : va_G) (cl : List vw_C) (b : Nat) (cA : Nat → ClassId) (md : Bool) (tab : List mc_D) (NW : List Cond) (n : Nat) (M : mc_M) (L : mc_L) : State → Prop := fun U =>
  va_P D cl (mc_wd b cA md tab n M L) U.heap ∧ (md = false → U.heap.size = b + n) ∧ va_K D cl (mc_ty cA) U ∧ mc_NW NW U ∧ mc_O s0 b U
def mc_rmd (tab : List mc_D) (d dn n : Nat) : Room := { frames := d, cells := dn, slots := mc_sl tab (n + dn) - mc_sl tab n, locals := 40 * d }
/-- the contract of a method that doesn't throw -/
def mc_CT (s0 : State) (l : Launch) (D : va_G) (cl : List vw_C) (b : Nat) (cA : Nat → ClassId) (md : Bool) (tab : List mc_D) (WL NW : List Cond) (y : MethodName) (cc : ByteArray) (maxL : Nat) (ret : Option FieldType) (d dn : Nat) : mc_PT := fun av n M L Qr =>
  (md = true → tab.length ≤ n) → Met l y (.code y cc maxL ret :: WL) (mc_rmd tab d dn n) (va_Pc (av.map (mc_ga b)) (mc_B s0 D cl b cA md tab NW n M L)) (mc_Qc D cl b cA md tab (n + dn) Qr) dn (mc_sl tab (n + dn) - mc_sl tab n) (mc_A md b tab.length)
theorem mc_met_mono {l : Launch} {y : MethodName} {ws : List Cond} {rm : Room} {Pc : Array Value → State → Prop} {Qc Qc' : Array Value → State → Outcome → State → Prop} {mc ms : Nat} {free : Addr → Prop} (h : ∀ a st o t, Qc a st o t → Qc' a st o t) (hM : Met l y ws rm Pc Qc mc ms free) : Met l y ws rm Pc Qc' mc ms free := by
  intro p e ha hc hk s m args below hf happ hP hK
  obtain ⟨n, o, h1, h2, h3, h4, h5⟩ := hM p e ha hc hk s m args below hf happ hP hK
  exact ⟨n, o, h1, h2, h3, h _ _ _ _ h4, h5⟩
theorem mc_CT_mono {s0 : State} {l : Launch} {D : va_G} {cl : List vw_C} {b : Nat} {cA : Nat → ClassId} {md : Bool} {tab : List mc_D} {WL NW : List Cond} {y : MethodName} {cc : ByteArray} {maxL : Nat} {ret : Option FieldType} {d dn : Nat} {av : List Value} {n : Nat} {M : mc_M} {L : mc_L} {Q Q' : Option Value → mc_M → mc_L → Prop} (h : ∀ r M L, Q r M L → Q' r M L) (k : mc_CT s0 l D cl b cA md tab WL NW y cc maxL ret d dn av n M L Q) : mc_CT s0 l D cl b cA md tab WL NW y cc maxL ret d dn av n M L Q' :=
  fun hf => mc_met_mono (fun a st o t hq => by
    obtain ⟨⟨rv, M', L', h1, h2, h3, h4⟩, h5⟩ := hq
    exact ⟨⟨rv, M', L', h1, h _ _ _ h2, h3, h4⟩, h5⟩) (k hf)
theorem mc_blind {s0 : State} {D : va_G} {cl : List vw_C} {b : Nat} {cA : Nat → ClassId} {md : Bool} {tab : List mc_D} {NW : List Cond} (hN : NW.all mc_isN = true) {n : Nat} {M : mc_M} {L : mc_L} {av : List Value} : FrameBlind (va_Pc av (mc_B s0 D cl b cA md tab NW n M L)) := by
  intro a U g mk q
  obtain ⟨q0, q1, q2, q3, q4, q5⟩ := q
  exact ⟨q0, q1, q2, va_K.moved (u := U) (U := U.calling g mk a) (Vm.Alike.refl U.vm) q3, mc_NW_same hN (u := U) (U := U.calling g mk a) rfl q4, q5⟩
/-- a call of F at the pool number idx of the class own is sound, in every walk of that class's methods at the level d -/
def mc_CO (s0 : State) (l : Launch) (D : va_G) (cl : List vw_C) (b : Nat) (cA : Nat → ClassId) (md : Bool) (tab : List mc_D) (WL NW : List Cond) (d : Nat) (own : String) (idx kd a dn' : Nat) (F : mc_PT) : Prop :=
  (∀ av n M L Q Q', (∀ r M L, Q r M L → Q' r M L) → F av n M L Q → F av n M L Q') ∧
  ∀ (p : Program) (e : Env) (R : Room) (s : State) (m : MethodId) (args : Array Value) (below : List Frame) (meth : Method) (c : Code) (Q : State → Prop) (nL n0 dn : Nat) (cc : ByteArray) (c0 : Cond),
    p.tables.exec = Jvm.exec → c.code = cc → c.maxLocals = nL → s.vm.findClass own = some m.cls → (∀ w ∈ c0 :: WL, w.before args s = true) → va_K D cl (mc_ty cA) s → mc_NW NW s → mc_O s0 b s → R = mc_rmd tab d dn n0 →
    ∀ (x : Instr), (kd = 0 ∧ x = .invokevirtual idx) ∨ (kd = 1 ∧ x = .invokestatic idx) ∨ (kd = 2 ∧ x = .invokespecial idx) → ∀ pc ls av r n M L, decode cc pc = .ok (x, 3) → mc_w r ≤ 8 → av.length = a → n + dn' ≤ n0 + dn →
      F av n M L (fun rv M' L' => mc_V p l e R s m args below meth c Q D cl b cA md tab nL n0 dn (pc + 3) ls (rv.toList ++ r) (n + dn') M' L') → mc_V p l e R s m args below meth c Q D cl b cA md tab nL n0 dn pc ls (av.reverse ++ r) n M L
theorem mc_ob_mono {md : Bool} {tab : List mc_D} {a n ci k : Nat} {kk kk' : Nat → Prop} (hk : ∀ fd, kk fd → kk' fd) (h : mc_ob md tab a n ci k kk) : mc_ob md tab a n ci k kk' := by
  unfold mc_ob at h ⊢
  revert h
  cases mc_at tab a with
  | none => exact fun h => h
  | some d =>
    cases d with
    | inl q => exact fun h => h
    | inr q =>
      obtain ⟨ci', fds⟩ := q
      dsimp only
      cases Nat.beq ci ci' with
      | false => exact fun h => h
      | true =>
        dsimp only
        cases mc_at fds k with
        | none => exact fun h => h
        | some fd =>
          dsimp only
          cases md with
          | true => exact fun h => hk _ h
          | false => exact fun h => ⟨h.1, hk _ h.2⟩
section MCO
variable {s0 : State} {l : Launch} {D : va_G} {cl : List vw_C} {b : Nat} {cA : Nat → ClassId} {md : Bool} {tab : List mc_D} {WL NW : List Cond} {d : Nat} {own : String} {idx a dn' : Nat} {y : MethodName} {bytes : ByteArray} {maxL : Nat} {ret : Option FieldType} {d' : Nat}
theorem mc_good (hW : WL.all goodWord = true) (hc : Cond.code y bytes maxL ret ∈ WL) (c0 : Cond) : GoodIn (c0 :: WL) (Cond.code y bytes maxL ret :: WL) := by
  intro w hw
  rcases List.mem_cons.mp hw with rfl | hw
  · exact ⟨List.mem_cons_of_mem _ hc, Or.inl rfl⟩
  · exact ⟨List.mem_cons_of_mem _ hw, good_of_word (List.all_eq_true.mp hW w hw)⟩
theorem mc_roomle {n n0 dn : Nat} (h0 : n0 ≤ n) (h1 : n + dn' ≤ n0 + dn) : (n - n0) + dn' ≤ (mc_rmd tab d dn n0).cells ∧ (mc_sl tab n - mc_sl tab n0) + (mc_sl tab (n + dn') - mc_sl tab n) ≤ (mc_rmd tab d dn n0).slots := by
  have h2 := mc_sl_le (tab := tab) h0
  have h3 := mc_sl_mono n tab dn'
  have h4 := mc_sl_le (tab := tab) h1
  refine ⟨?_, ?_⟩
  · show n - n0 + dn' ≤ dn
    omega
  · show _ ≤ mc_sl tab (n0 + dn) - mc_sl tab n0
    omega
/-- a private method of an object, called by a nest mate (or by its own class) through a nest link -/
theorem co_VN (hN : NW.all mc_isN = true) (hW : WL.all goodWord = true) (hc : Cond.code y bytes maxL ret ∈ WL) {host : String} (hl : Cond.methodLinkNest own idx y host ∈ NW) (hini : Cond.initialized y.cls ∈ WL) (hinst : Cond.instanceMethod y ∈ WL) (hsel : Cond.selects y.cls y y ∈ WL)
    (hd : y.cls ≠ "java/lang/invoke/MethodHandle" ∧ y.cls ≠ "java/lang/invoke/VarHandle" ∧ (parseMethodDescriptor y.desc).map (fun d => d.parameters.length) = some a) (hlev : d' + 1 ≤ d ∧ maxL ≤ 21)
    {ci : Nat} {T : u_T} {N : Nat} (hcl : cl[ci]? = some (y.cls, T, N)) :
    mc_CO s0 l D cl b cA md tab WL NW d own idx 0 (a + 1) dn' (fun av n M L Q => match av with
      | .ref q :: as => mc_ob md tab q n ci 0 (fun _ => mc_CT s0 l D cl b cA md tab WL NW y bytes maxL ret d' dn' (.ref q :: as) n M L Q)
      | _ => False) := by
  refine ⟨fun av n M L Q Q' hQ h => ?_, ?_⟩
  · match av, h with
    | .ref q :: as, h => exact mc_ob_mono (fun fd z => mc_CT_mono hQ z) h
  · intro p e R s m args below meth c Q nL n0 dn cc c0 hx hb hml hown hts hK hZ hO hR x hxk pc ls av r n M L hdg hw8 hlen hroom h
    have hxe : x = .invokevirtual idx := by
      rcases hxk with ⟨_, h⟩ | ⟨h, _⟩ | ⟨h, _⟩
      · exact h
      · cases h
      · cases h
    subst hxe
    have hRe : R = mc_rmd tab d dn n0 := hR
    match av, hlen, h with
    | .ref q :: as, hlen, h =>
      intro h0 hf
      obtain ⟨fds, fd, g1, g2, g3, g4⟩ := mc_ob_e h hf
      have hG := mc_good hW hc c0
      have hM := g4 hf
      refine mv_call (dn' := dn') (Qr := fun rv M' L' => mc_V p l e R s m args below meth c Q D cl b cA md tab nL n0 dn (pc + 3) ls (rv.toList ++ r) (n + dn') M' L') (a := (((Value.ref q :: as).map (mc_ga b))).toArray) hroom (fun H locs lsC hP hz hS hls => ?_) (fun rv M' L' hq => hq) h0 hf
      have he : (mc_wd b cA md tab n M L)[q]? = some (b + q, .inr (ci, (fds.mapIdx (fun k fd => mc_fv md M q k fd)).map (mc_ga b))) := mc_wd_in g3 g1
      have hrecv := va_recv hK hP hcl he
      refine va_runVN (As := as.map (mc_ga b)) (C := y.cls) (b := b + q) (rest := r.map (mc_ga b)) ⟨hx, hb, hml, hown, hts⟩ hM ⟨va_cnB a hts hG rfl rfl rfl (hZ _ hl) (hts _ (List.mem_cons_of_mem _ hini)) hd ⟨?_, ?_⟩, hts _ (List.mem_cons_of_mem _ hinst), hts _ (List.mem_cons_of_mem _ hsel)⟩ ⟨mc_blind hN, hrecv, fun U hU hWm => ⟨rfl, by rw [hU]; exact hP, fun z => by rw [hU]; exact hz z, va_K.moved hWm.alike hK, mc_NW_warm hN hWm hZ, mc_O_to hO hS hU hWm⟩⟩ rfl ?_ hls ?_ ?_ hdg (by rw [hRe]; exact mc_roomle h0.1 hroom)
      · rw [hRe]
        show d' + 1 ≤ d
        exact hlev.1
      · rw [hRe]
        show 8 + (maxL + 11) + 40 * d' ≤ 40 * d
        omega
      · rw [List.length_map]
        simpa using hlen
      · show ((Value.ref q :: as).reverse ++ r).map (mc_ga b) = _
        simp [mc_ga]
      · show 2 * 0 + _ ≤ 8
        rw [mc_w_eq b r]
        omega
/-- a private method of an object, called by its own class through a plain link -/
theorem co_V (hN : NW.all mc_isN = true) (hW : WL.all goodWord = true) (hc : Cond.code y bytes maxL ret ∈ WL) (hl : Cond.methodLink own idx y ∈ WL) (hini : Cond.initialized y.cls ∈ WL) (hinst : Cond.instanceMethod y ∈ WL) (hsel : Cond.selects y.cls y y ∈ WL)
    (hd : y.cls ≠ "java/lang/invoke/MethodHandle" ∧ y.cls ≠ "java/lang/invoke/VarHandle" ∧ (parseMethodDescriptor y.desc).map (fun d => d.parameters.length) = some a) (hlev : d' + 1 ≤ d ∧ maxL ≤ 21)
    {ci : Nat} {T : u_T} {N : Nat} (hcl : cl[ci]? = some (y.cls, T, N)) :
    mc_CO s0 l D cl b cA md tab WL NW d own idx 0 (a + 1) dn' (fun av n M L Q => match av with
      | .ref q :: as => mc_ob md tab q n ci 0 (fun _ => mc_CT s0 l D cl b cA md tab WL NW y bytes maxL ret d' dn' (.ref q :: as) n M L Q)
      | _ => False) := by
  refine ⟨fun av n M L Q Q' hQ h => ?_, ?_⟩
  · match av, h with
    | .ref q :: as, h => exact mc_ob_mono (fun fd z => mc_CT_mono hQ z) h
  · intro p e R s m args below meth c Q nL n0 dn cc c0 hx hb hml hown hts hK hZ hO hR x hxk pc ls av r n M L hdg hw8 hlen hroom h
    have hxe : x = .invokevirtual idx := by
      rcases hxk with ⟨_, h⟩ | ⟨h, _⟩ | ⟨h, _⟩
      · exact h
      · cases h
      · cases h
    subst hxe
    have hRe : R = mc_rmd tab d dn n0 := hR
    match av, hlen, h with
    | .ref q :: as, hlen, h =>
      intro h0 hf
      obtain ⟨fds, fd, g1, g2, g3, g4⟩ := mc_ob_e h hf
      have hG := mc_good hW hc c0
      have hM := g4 hf
      refine mv_call (dn' := dn') (Qr := fun rv M' L' => mc_V p l e R s m args below meth c Q D cl b cA md tab nL n0 dn (pc + 3) ls (rv.toList ++ r) (n + dn') M' L') (a := (((Value.ref q :: as).map (mc_ga b))).toArray) hroom (fun H locs lsC hP hz hS hls => ?_) (fun rv M' L' hq => hq) h0 hf
      have he : (mc_wd b cA md tab n M L)[q]? = some (b + q, .inr (ci, (fds.mapIdx (fun k fd => mc_fv md M q k fd)).map (mc_ga b))) := mc_wd_in g3 g1
      have hrecv := va_recv hK hP hcl he
      refine va_runV (As := as.map (mc_ga b)) (C := y.cls) (b := b + q) (rest := r.map (mc_ga b)) ⟨hx, hb, hml, hown, hts⟩ hM ⟨callB_of a hts hG rfl rfl rfl (hts _ (List.mem_cons_of_mem _ hini)) (hts _ (List.mem_cons_of_mem _ hl)) hd ⟨?_, ?_⟩, hts _ (List.mem_cons_of_mem _ hinst), hts _ (List.mem_cons_of_mem _ hsel)⟩ ⟨mc_blind hN, hrecv, fun U hU hWm => ⟨rfl, by rw [hU]; exact hP, fun z => by rw [hU]; exact hz z, va_K.moved hWm.alike hK, mc_NW_warm hN hWm hZ, mc_O_to hO hS hU hWm⟩⟩ rfl ?_ hls ?_ ?_ hdg (by rw [hRe]; exact mc_roomle h0.1 hroom)
      · rw [hRe]
        show d' + 1 ≤ d
        exact hlev.1
      · rw [hRe]
        show 8 + (maxL + 11) + 40 * d' ≤ 40 * d
        omega
      · rw [List.length_map]
        simpa using hlen
      · show ((Value.ref q :: as).reverse ++ r).map (mc_ga b) = _
        simp [mc_ga]
      · show 2 * 0 + _ ≤ 8
        rw [mc_w_eq b r]
        omega
/-- a static method, through a nest link -/
theorem co_SN (hN : NW.all mc_isN = true) (hW : WL.all goodWord = true) (hc : Cond.code y bytes maxL ret ∈ WL) {host : String} (hl : Cond.methodLinkNest own idx y host ∈ NW) (hini : Cond.initialized y.cls ∈ WL) (hst : Cond.static y ∈ WL)
    (hd : y.cls ≠ "java/lang/invoke/MethodHandle" ∧ y.cls ≠ "java/lang/invoke/VarHandle" ∧ (parseMethodDescriptor y.desc).map (fun d => d.parameters.length) = some a) (hlev : d' + 1 ≤ d ∧ maxL ≤ 21) :
    mc_CO s0 l D cl b cA md tab WL NW d own idx 1 a dn' (mc_CT s0 l D cl b cA md tab WL NW y bytes maxL ret d' dn') := by
  refine ⟨fun av n M L Q Q' hQ h => mc_CT_mono hQ h, ?_⟩
  intro p e R s m args below meth c Q nL n0 dn cc c0 hx hb hml hown hts hK hZ hO hR x hxk pc ls av r n M L hdg hw8 hlen hroom h
  have hxe : x = .invokestatic idx := by
    rcases hxk with ⟨h, _⟩ | ⟨_, h⟩ | ⟨h, _⟩
    · cases h
    · exact h
    · cases h
  subst hxe
  have hRe : R = mc_rmd tab d dn n0 := hR
  intro h0 hf
  have hG := mc_good hW hc c0
  have hM := h hf
  refine mv_call (dn' := dn') (Qr := fun rv M' L' => mc_V p l e R s m args below meth c Q D cl b cA md tab nL n0 dn (pc + 3) ls (rv.toList ++ r) (n + dn') M' L') (a := (av.map (mc_ga b)).toArray) hroom (fun H locs lsC hP hz hS hls => ?_) (fun rv M' L' hq => hq) h0 hf
  refine va_runSN (As := av.map (mc_ga b)) (rest := r.map (mc_ga b)) ⟨hx, hb, hml, hown, hts⟩ hM ⟨va_cnB a hts hG rfl rfl rfl (hZ _ hl) (hts _ (List.mem_cons_of_mem _ hini)) hd ⟨?_, ?_⟩, hts _ (List.mem_cons_of_mem _ hst), trivial⟩ ⟨mc_blind hN, fun U hU hWm => ⟨rfl, by rw [hU]; exact hP, fun z => by rw [hU]; exact hz z, va_K.moved hWm.alike hK, mc_NW_warm hN hWm hZ, mc_O_to hO hS hU hWm⟩⟩ rfl ?_ hls ?_ ?_ hdg (by rw [hRe]; exact mc_roomle h0.1 hroom)
  · rw [hRe]
    show d' + 1 ≤ d
    exact hlev.1
  · rw [hRe]
    show 8 + (maxL + 11) + 40 * d' ≤ 40 * d
    omega
  · rw [List.length_map]
    exact hlen
  · show (av.reverse ++ r).map (mc_ga b) = _
    simp
  · show 2 * 0 + _ ≤ 8
    rw [mc_w_eq b r]
    omega
/-- a static method of the own class -/
theorem co_S (hN : NW.all mc_isN = true) (hW : WL.all goodWord = true) (hc : Cond.code y bytes maxL ret ∈ WL) (hl : Cond.methodLink own idx y ∈ WL) (hini : Cond.initialized y.cls ∈ WL) (hst : Cond.static y ∈ WL)
    (hd : y.cls ≠ "java/lang/invoke/MethodHandle" ∧ y.cls ≠ "java/lang/invoke/VarHandle" ∧ (parseMethodDescriptor y.desc).map (fun d => d.parameters.length) = some a) (hlev : d' + 1 ≤ d ∧ maxL ≤ 21) :
    mc_CO s0 l D cl b cA md tab WL NW d own idx 1 a dn' (mc_CT s0 l D cl b cA md tab WL NW y bytes maxL ret d' dn') := by
  refine ⟨fun av n M L Q Q' hQ h => mc_CT_mono hQ h, ?_⟩
  intro p e R s m args below meth c Q nL n0 dn cc c0 hx hb hml hown hts hK hZ hO hR x hxk pc ls av r n M L hdg hw8 hlen hroom h
  have hxe : x = .invokestatic idx := by
    rcases hxk with ⟨h, _⟩ | ⟨_, h⟩ | ⟨h, _⟩
    · cases h
    · exact h
    · cases h
  subst hxe
  have hRe : R = mc_rmd tab d dn n0 := hR
  intro h0 hf
  have hG := mc_good hW hc c0
  have hM := h hf
  refine mv_call (dn' := dn') (Qr := fun rv M' L' => mc_V p l e R s m args below meth c Q D cl b cA md tab nL n0 dn (pc + 3) ls (rv.toList ++ r) (n + dn') M' L') (a := (av.map (mc_ga b)).toArray) hroom (fun H locs lsC hP hz hS hls => ?_) (fun rv M' L' hq => hq) h0 hf
  refine va_runS (As := av.map (mc_ga b)) (rest := r.map (mc_ga b)) ⟨hx, hb, hml, hown, hts⟩ hM ⟨callB_of a hts hG rfl rfl rfl (hts _ (List.mem_cons_of_mem _ hini)) (hts _ (List.mem_cons_of_mem _ hl)) hd ⟨?_, ?_⟩, hts _ (List.mem_cons_of_mem _ hst)⟩ ⟨mc_blind hN, fun U hU hWm => ⟨rfl, by rw [hU]; exact hP, fun z => by rw [hU]; exact hz z, va_K.moved hWm.alike hK, mc_NW_warm hN hWm hZ, mc_O_to hO hS hU hWm⟩⟩ rfl ?_ hls ?_ ?_ hdg (by rw [hRe]; exact mc_roomle h0.1 hroom)
  · rw [hRe]
    show d' + 1 ≤ d
    exact hlev.1
  · rw [hRe]
    show 8 + (maxL + 11) + 40 * d' ≤ 40 * d
    omega
  · rw [List.length_map]
    exact hlen
  · show (av.reverse ++ r).map (mc_ga b) = _
    simp
  · show 2 * 0 + _ ≤ 8
    rw [mc_w_eq b r]
    omega
end MCO
end
section
/-! throwing: new X; dup; ldc text; X.<init>(String); athrow, with no stack traces -/
def mx_RE : String := "java/lang/RuntimeException"
def mx_atoms (own : String) (ic : Nat) (X : String) (ix : Nat) (bts : ByteArray) : List Cond :=
  Bundle.throwableAtoms ++ Bundle.throwableSAtoms ++ Bundle.passSAtoms X mx_RE ix bts ++ Bundle.chainSAtoms mx_RE ["java/lang/Exception"] ++
  [.methodLink own ic (Bundle.initS X), .instantiable X 6, .selects X Bundle.tFill0 Bundle.tFill0, .selects X Bundle.tFill Bundle.tFill,
   .lays X Bundle.tN "cause" "Ljava/lang/Throwable;", .lays X Bundle.tN "stackTrace" Bundle.steD, .lays X Bundle.tN "suppressedExceptions" Bundle.listD, .lays X Bundle.tN "detailMessage" "Ljava/lang/String;",
   .fieldLink Bundle.tN 198 Bundle.tN "backtrace" "Ljava/lang/Object;", .lays Bundle.tN Bundle.tN "backtrace" "Ljava/lang/Object;", .lays X Bundle.tN "backtrace" "Ljava/lang/Object;"]
section MXT
variable {p : Program} {l : Launch} {e : Env} {R : Room} {s : State} {m : MethodId} {args : Array Value} {below : List Frame} {meth : Method} {c : Code} {W : State} {locs : List Loc} {cells slots : Nat}
set_option maxHeartbeats 4000000 in
theorem mx_throwS (X : Stand p l e R s m args below meth c W locs cells slots) (hexec : p.tables.exec = Jvm.exec) (htr : e.platform.stackTraces = false) {own cls : String} {ic ix : Nat} {bts : ByteArray}
    (hown : s.vm.findClass own = some m.cls) (hcls : Bundle.fit cls = true) (hb0 : decode bts 0 = .ok (.aload_n 0, 1)) (hb1 : decode bts 1 = .ok (.aload_n 1, 1)) (hb2 : decode bts 2 = .ok (.invokespecial ix, 3)) (hb5 : decode bts 5 = .ok (.return_, 1))
    (h : ∀ a ∈ mx_atoms own ic cls ix bts, a.before args s = true)
    (hsU : (Cond.isRef (.static Bundle.tN "UNASSIGNED_STACK" Bundle.steD)).before args s = true) (hsS : (Cond.isRef (.static Bundle.tN "SUPPRESSED_SENTINEL" Bundle.listD)).before args s = true)
    (hlocs : ∀ x ∈ locs, ∀ cell, s.heap[x.base]? = some cell → cell.vm.isStatics = false)
    {a : Addr} {cX : ClassId} {kX : Class} (hfoundX : s.vm.findClass cls = some cX) (hkX : s.vm.classes[cX]? = some kX) (hcell : W.heap[a]? = some (freshCell cX kX)) (hnew : s.heap.size ≤ a)
    {msg : Value} (hmsg : msg.isRef = true)
    {g : JFrame} (hg : g.method = m) (hsize : g.locals.size = c.maxLocals) (hlocked : g.locked = none) (hentered : g.entered = []) {rest : List Value} (hstack : g.stack = msg :: .ref a :: .ref a :: rest)
    (hd6 : decode c.code g.pc = .ok (.invokespecial ic, 3)) (hd9 : decode c.code (g.pc + 3) = .ok (.athrow, 1)) (hout : ∀ x ∈ c.exceptionTable.toList, covers x (g.pc + 3) = false)
    (hRframes : 5 < R.frames) (hRlocals : 2 * g.monitorRoom + ((Value.ref a :: rest).map fun v => v.category).sum + 81 ≤ R.locals) (hlocks : meth.locks = false) :
    ∃ (U : State) (ce : Cell), Steps p.tables e below (W.setTop g) U ∧ U.status = .running ∧ Ended U below (.threw a) ∧ s.WarmedH U.vm ∧ s.sameButNew ({ U with vm := s.vm } : State) locs cells slots ∧
      U.heap = W.heap.setIfInBounds a ce ∧ ce.cls = cX ∧ ce.vm = .none := by
  have howns : e.platform.frameOwnsMonitors = true := by rw [X.admits.platform]
  have hfin : e.platform.finalization = false := by rw [X.admits.platform]
  have hpl : e.platform.magicAccessors = ({} : Platform).magicAccessors := by rw [X.admits.platform]
  have a' : ∀ x, x ∈ mx_atoms own ic cls ix bts → x.holds args s none s [] = true := fun x hx => h x hx
  obtain ⟨T, Z0, L, -, Y⟩ := ThrowableC.of_atoms (args := args) howns hfin hpl (fun x hx => h x (by simp [mx_atoms, hx]))
  obtain ⟨Z, M, LZ, LM, hnZ⟩ := Init0T.ofS_atoms (args := args) hpl L Y (fun x hx => h x (by simp [mx_atoms, hx]))
  obtain ⟨P2, Ps2, hlen2, L2, hL2, hP2m, hlink2, hpass2⟩ := Bundle.chainS (args := args) hpl hnZ ["java/lang/Exception"] mx_RE (by decide) (by decide) (fun x hx => h x (by simp [mx_atoms, hx]))
  obtain ⟨P1, L1, hP1m, hs1⟩ := PassC.ofS_atoms (args := args) (s := s) hpl (X := cls) (Y := mx_RE) (Bundle.fit_spec hcls).1 (by decide) hb0 hb1 hb2 hb5 (fun x hx => h x (by simp [mx_atoms, hx]))
  have hfound : s.vm.findClass cls = some P1.m.cls := findClass_of_methodNamed hP1m
  cases Option.some.inj (hfoundX.symm.trans hfound)
  obtain ⟨c1, kX', hc1, hk, hord, -, -, hn6⟩ := Cond.instantiable_spec (a' (.instantiable cls 6) (by simp [mx_atoms]))
  cases Option.some.inj (hc1.symm.trans hfound)
  cases Option.some.inj (hkX.symm.trans hk)
  have hlink1 : P1.sup = firstOf (Z.m T.toThrowableT) ((P2 :: Ps2).map (·.toPassT)) := by
    have e1 := Option.some.inj (hs1.symm.trans hP2m)
    rw [e1]
    rfl
  have hsel0 : selectMethod e.platform s.vm P1.m.cls T.fill0 = .method T.fill0 := by
    obtain ⟨c2, r2, m2, q1, q2, q3, q4, -⟩ := Cond.selects_spec (a' (.selects cls Bundle.tFill0 Bundle.tFill0) (by simp [mx_atoms]))
    cases Option.some.inj (q1.symm.trans hfound)
    cases Option.some.inj (q2.symm.trans (State.methodFound?_of_named Y.fill0 (by decide)))
    cases Option.some.inj (q3.symm.trans Y.fill0)
    rw [Launch.admits_selectMethod X.admits]; exact q4
  have hselF : selectMethod e.platform s.vm P1.m.cls T.fill = .method T.fill := by
    obtain ⟨c2, r2, m2, q1, q2, q3, q4, -⟩ := Cond.selects_spec (a' (.selects cls Bundle.tFill Bundle.tFill) (by simp [mx_atoms]))
    cases Option.some.inj (q1.symm.trans hfound)
    cases Option.some.inj (q2.symm.trans (State.methodFound?_of_named Y.fill (by decide)))
    cases Option.some.inj (q3.symm.trans Y.fill)
    rw [Launch.admits_selectMethod X.admits]; exact q4
  obtain ⟨cellS0, hcS0, hiss⟩ := Y.statics
  obtain ⟨u0, hu0⟩ := Cond.staticRefV Y.unassigned L.unassignedStatic L.statics hcS0 hiss hsU
  obtain ⟨sen, hsen⟩ := Cond.staticRefV Y.sentinel L.sentinelStatic L.statics hcS0 hiss hsS
  obtain ⟨ci198, i198, fB, hk198, hg198, ha198, hsB, -, hnB, htB, hffB⟩ := Cond.ownField (t := .object "java/lang/Object") Y.found L.cls (by decide +kernel) (a' (.fieldLink Bundle.tN 198 Bundle.tN "backtrace" "Ljava/lang/Object;") (by simp [mx_atoms])) (a' (.lays Bundle.tN Bundle.tN "backtrace" "Ljava/lang/Object;") (by simp [mx_atoms])) e.platform hpl
  obtain ⟨cellS, hcS', heS, -, hkeep⟩ := X.same.2.2.2.2.2 T.aS cellS0 hcS0
  have hcellS : W.heap[T.aS]? = some cellS := hcS'
  have hout' : ∀ i, (⟨T.aS, i⟩ : Loc) ∉ locs := fun i hmem => by
    have := hlocs _ hmem cellS0 hcS0
    rw [hiss] at this; cases this
  have hknownS : cellS.vm ≠ .unknown := by
    rw [heS]; intro hu
    rw [show cellS0.vm = .unknown from hu] at hiss
    cases hiss
  have hneS : T.aS ≠ a := Nat.ne_of_lt (Nat.lt_of_lt_of_le (Array.getElem?_eq_some_iff.mp hcS0).1 hnew)
  obtain ⟨iM, hffM⟩ := Y.msg
  obtain ⟨tyC, dC, hdC, hdnC⟩ := Cond.laysAt hfound hk Y.cause (a' (.lays cls Bundle.tN "cause" "Ljava/lang/Throwable;") (by simp [mx_atoms]))
  obtain ⟨tyS, dS, hdS, hdnS⟩ := Cond.laysAt hfound hk Y.stack (a' (.lays cls Bundle.tN "stackTrace" Bundle.steD) (by simp [mx_atoms]))
  obtain ⟨tyP, dP, hdP, hdnP⟩ := Cond.laysAt hfound hk Y.supp (a' (.lays cls Bundle.tN "suppressedExceptions" Bundle.listD) (by simp [mx_atoms]))
  obtain ⟨tyM, dM, hdM, hdnM⟩ := Cond.laysAt hfound hk hffM (a' (.lays cls Bundle.tN "detailMessage" "Ljava/lang/String;") (by simp [mx_atoms]))
  obtain ⟨tyB, dB, hdB, hdnB⟩ := Cond.laysAt hfound hk hffB (a' (.lays cls Bundle.tN "backtrace" "Ljava/lang/Object;") (by simp [mx_atoms]))
  have bC := Cond.laysApart hdB hdC hdnB hdnC (by rw [hnB, Y.causeName]; decide)
  have bS := Cond.laysApart hdB hdS hdnB hdnS (by rw [hnB, Y.stackName]; decide)
  have bP := Cond.laysApart hdB hdP hdnB hdnP (by rw [hnB, Y.suppName]; decide)
  have hskip : SkipFacts T e.platform s (fun u => u) u0 ((preparedCellV T.toThrowableT (freshCell P1.m.cls kX) a u0 sen).withEntry W.cur) :=
    ⟨{ ci198 := ci198, i198 := i198, fBack := fB }, ⟨hk198, hg198, ha198, hsB⟩, by
      have := fresh_default (c := P1.m.cls) tyB
      rw [htB] at this
      simpa [preparedCellV, Cell.setSlot, Cell.withEntry, Array.getElem?_setIfInBounds, bC, bS, bP, bC.symm, bS.symm, bP.symm, defaultValue] using this, fun _ _ => rfl⟩
  obtain ⟨tm, methC, cdC, kC, vm₁, hnC, -, -, -, -, -, -, -, hW₁, st1⟩ := Steps.initColdS (tb := p.tables) (e := e) (below := below) (s := s) (U := W) X.here hexec X.warmed hpl hown (t := Bundle.initS cls) rfl rfl (Bundle.fit_spec hcls).2
    (a' (.methodLink own ic (Bundle.initS cls)) (by simp [mx_atoms])) (h (.instanceMethod (Bundle.initS cls)) (by simp [mx_atoms, Bundle.passSAtoms])) (bytes := bts) (maxL := 2) (h (.code (Bundle.initS cls) bts 2 none) (by simp [mx_atoms, Bundle.passSAtoms]))
    (f := g) hg (a := a) (msg := msg) (rest := .ref a :: rest) hstack hd6
  cases Option.some.inj (hnC.symm.trans hP1m)
  have X₁ := X.noted hW₁
  have hlen3 : (P1 :: P2 :: Ps2).length = 3 := by simp [hlen2]
  obtain ⟨vm₂, X₂, st2⟩ := X₁.ctorMessageOffV hexec (g := { g with stack := .ref a :: rest }) hg hsize T L Z LZ M LM (P1 :: P2 :: Ps2)
    (fun P hP => by
      rcases List.mem_cons.mp hP with rfl | hP
      · exact L1
      · rcases List.mem_cons.mp hP with rfl | hP
        · exact L2
        · exact hL2 P hP) ⟨hlink1, hlink2, hpass2⟩ (u0 := u0) (sen := sen) (self := a) hmsg (cell := freshCell P1.m.cls kX) (cellS := cellS)
    hcell (fun _ => by simp) (by simp) rfl rfl hsel0 hselF hcellS hneS hknownS (by rw [hkeep _ (hout' _)]; exact hu0) (by rw [hkeep _ (hout' _)]; exact hsen)
    (Takes.of_laid hk hord tyC (by rw [Y.causeType]; rfl)) (Takes.of_laid hk hord tyS (by rw [Y.stackType]; exact fits_refV_array _ u0)) (Takes.of_laid hk hord tyP (by rw [Y.suppType]; exact fits_refV_object _ sen))
    (Takes.of_laid hk hord tyM (by rw [Y.msgType]; exact fits_refV_object _ ⟨msg, hmsg⟩)) Y.objLocals hskip htr [] hd6
    (by rw [hlen3]; omega) (by rw [hlen3]; exact hRlocals)
  obtain ⟨hwalk, hrun, hended, hWU, hsame⟩ := X₂.athrowLeaves hexec (g := { g with stack := .ref a :: rest, pc := g.pc + 3 }) hg hlocked hentered hout (a := a) (rest := rest) rfl hd9 (hlocks := hlocks)
  refine ⟨_, _, st1 _ (fun acts => ?_), hrun, hended, hWU, hsame.weaken (fun y hy hlt' => ?_) (Nat.le_refl _) (Nat.le_refl _), rfl, rfl, rfl⟩
  · rw [doInvoke_state]
    exact st2 _ hwalk
  · rcases List.mem_append.mp hy with h1 | h1
    · exact h1
    · exfalso
      have hb : y.base = a := by
        simp only [List.mem_cons, List.not_mem_nil, or_false] at h1
        rcases h1 with rfl | rfl | rfl | rfl | rfl <;> rfl
      rw [hb] at hlt'
      exact Nat.not_lt.mpr hnew hlt'
end MXT
theorem mc_sl_out : ∀ (n : Nat) (tab : List mc_D), tab.length ≤ n → mc_sl tab (n + 1) = mc_sl tab n + 6
  | 0, [], _ => rfl
  | n + 1, [], h => by
    show 6 + mc_sl [] (n + 1) = 6 + mc_sl [] n + 6
    rw [mc_sl_out n [] (Nat.zero_le _)]
    omega
  | 0, d :: t, h => by simp at h
  | n + 1, d :: t, h => by
    show mc_sz d + mc_sl t (n + 1) = mc_sz d + mc_sl t n + 6
    rw [mc_sl_out n t (by simpa using h)]
    omega
theorem mc_at_none {D : va_G} {cl : List vw_C} {b : Nat} {cA : Nat → ClassId} {md : Bool} {M : mc_M} {L : mc_L} {i a : Nat} {d : mc_D} {H : Heap} (h : va_at D cl (a, mc_gE b cA (mc_cell md M L i d)) H) : ∃ cell : Cell, H[a]? = some cell ∧ cell.vm = .none := by
  cases d with
  | inl q =>
    obtain ⟨t, n⟩ := q
    by_cases ht : t = 1
    · subst ht
      exact ⟨_, h, rfl⟩
    · have h2 : H[a]? = some (vp_cell (cA t) (n, .inl (M i))) := by simpa [mc_cell, ht, mc_gE, va_at] using h
      exact ⟨_, h2, rfl⟩
  | inr q =>
    obtain ⟨r, z1, cell', z2, z3, z4, z5⟩ := h
    exact ⟨cell', z2, z4⟩
/-- a throw, as the machine's walk sees it -/
theorem mv_throw {p : Program} {l : Launch} {e : Env} {R : Room} {s : State} {m : MethodId} {args : Array Value} {below : List Frame} {meth : Method} {c : Code} {D : va_G} {cl : List vw_C} {b : Nat} {cA : Nat → ClassId} {tab : List mc_D} {nL n0 dn d : Nat} {cc : ByteArray} {pc : Nat} {ls : List (Option Value)} {n : Nat} {M : mc_M} {L : mc_L} {exn : Nat → String} {Qr : Option Value → mc_M → mc_L → Prop} {Qt : Nat → mc_M → mc_L → Prop}
    (hx : p.tables.exec = Jvm.exec) (hb : c.code = cc) (hml : c.maxLocals = nL) (hlocks : meth.locks = false) (htab : c.exceptionTable.isEmpty = true) (hfl : l.flags = flags0) {own tx : String} {i ks ic ix k q : Nat} {bts : ByteArray}
    (hown : s.vm.findClass own = some m.cls) (hcls : Bundle.fit (exn k) = true) (hb0 : decode bts 0 = .ok (.aload_n 0, 1)) (hb1 : decode bts 1 = .ok (.aload_n 1, 1)) (hb2 : decode bts 2 = .ok (.invokespecial ix, 3)) (hb5 : decode bts 5 = .ok (.return_, 1))
    (hat : ∀ a ∈ mx_atoms own ic (exn k) ix bts, a.before args s = true) (hcl : (Cond.classLink own i (exn k)).before args s = true) (hini : (Cond.initialized (exn k)).before args s = true) (hstr : vk_R own ks tx q s)
    (hsU : (Cond.isRef (.static Bundle.tN "UNASSIGNED_STACK" Bundle.steD)).before args s = true) (hsS : (Cond.isRef (.static Bundle.tN "SUPPRESSED_SENTINEL" Bundle.listD)).before args s = true)
    (hR : R = mc_rmd tab d dn n0) (hd : 6 ≤ d) (hw0 : ∃ M0 L0, va_P D cl (mc_wd b cA true tab n0 M0 L0) s.heap)
    (hd0 : decode cc pc = .ok (.new i, 3)) (hd3 : decode cc (pc + 3) = .ok (.dup, 1)) (hd4 : decode cc (pc + 4) = .ok (.ldc ks, 2)) (hd6 : decode cc (pc + 6) = .ok (.invokespecial ic, 3)) (hd9 : decode cc (pc + 9) = .ok (.athrow, 1))
    (hn : n < n0 + dn) (hf0 : tab.length ≤ n0) (hq : Qt k M L) : mc_V p l e R s m args below meth c (mc_Q below s D cl b cA true tab n0 dn exn Qr Qt) D cl b cA true tab nL n0 dn pc ls [] n M L := by
  intro h0 hf H locs lsC hP hz hS hl
  have hle1 : mc_sl tab (n + 1) = mc_sl tab n + 6 := mc_sl_out n tab (hf rfl)
  have hle2 : mc_sl tab (n + 1) ≤ mc_sl tab (n0 + dn) := mc_sl_le hn
  have hle0 : mc_sl tab n0 ≤ mc_sl tab n := mc_sl_le h0.1
  have hRc : R.cells = dn := by rw [hR]; rfl
  have hRs : R.slots = mc_sl tab (n0 + dn) - mc_sl tab n0 := by rw [hR]; rfl
  have hins : (Cond.instantiable (exn k) 6).before args s = true := hat _ (by simp [mx_atoms])
  refine W.newc hx hb hown hcl hins hini rfl hd0 (by rw [hRc]; omega) (by rw [hRs]; omega) fun cC kC g1 g2 g3 g4 => ?_
  refine W.eq (g2 := F0 m (pc + 3) lsC [.ref H.size]) rfl ?_
  refine lv_dup hx hb hd3 rfl ?_
  refine va_ldcS hx hb hown hstr hd4 ?_
  intro T hT X
  have hcellT : T.heap[H.size]? = some (freshCell cC kC) := by rw [hT]; simp
  obtain ⟨M0, L0, hP0⟩ := hw0
  have hlocs : ∀ x ∈ locs, ∀ cell, s.heap[x.base]? = some cell → cell.vm.isStatics = false := by
    intro x hx' cell hc
    have hA := hS.2.2 x hx'
    have key : ∀ z : Nat, b ≤ z → z < b + tab.length → z - b < tab.length ∧ b + (z - b) = z := by
      intro z z1 z2
      omega
    obtain ⟨hi, hbx⟩ := key x.base hA.1 (hA.2 rfl)
    have he := mc_wd_in (b := b) (cA := cA) (md := true) (n := n0) (M := M0) (L := L0) (Nat.lt_of_lt_of_le hi hf0) (List.getElem?_eq_getElem hi)
    have hw := hP0 _ _ he
    obtain ⟨cell', z1, z2⟩ := mc_at_none hw
    rw [hbx, hc] at z1
    cases z1
    rw [z2]
    rfl
  have htr : e.platform.stackTraces = false := Jvm.D.Launch.traces_off hfl X.admits
  obtain ⟨U, ce, u1, u2, u3, u4, u5, u6, u7, u8⟩ := mx_throwS X hx htr hown hcls hb0 hb1 hb2 hb5 hat hsU hsS hlocs (a := H.size) g1 g2 hcellT hS.1 (msg := .ref q) rfl (g := F0 m (pc + 4 + 2) lsC (.ref q :: .ref H.size :: .ref H.size :: [])) rfl (by rw [hml]; exact hl.1) rfl rfl (rest := []) rfl (by rw [hb]; exact hd6) (by rw [hb]; exact hd9)
    (fun x hx' => by
      have : c.exceptionTable = #[] := by simpa using htab
      rw [this] at hx'
      simp at hx') (by rw [hR]; show 5 < d; omega) (by rw [hR]; show 2 * 0 + _ + 81 ≤ 40 * d; simp [Value.category]; omega) hlocks
  have hUh : ∀ q : Nat, q < H.size → U.heap[q]? = H[q]? := by
    intro q hq'
    rw [u6, hT]
    rw [Array.getElem?_setIfInBounds_ne (by omega), Array.getElem?_push, if_neg (by omega)]
  refine ⟨U, u1, .threw H.size, u2, u3, u4, ⟨?_, fun q g5 g6 => ?_⟩, ⟨locs, u5.mono (by omega) (by omega), hS.2.2⟩, M, L, ?_, (fun z => by cases z), Or.inr ⟨H.size, k, rfl, hq, ce, ?_, ?_, ?_⟩⟩
  · rw [u6, hT]
    simp
    have := hS.1
    omega
  · rw [hUh q (Nat.lt_of_lt_of_le g5 hS.1)]
    exact hS.2.1 q g5 g6
  · rw [mc_wd_full (n' := n) (Nat.le_trans hf0 (Nat.le_add_right _ _)) (hf rfl)]
    exact hP.kept (fun k' q' hk' => hUh _ (hP k' q' hk').lt)
  · rw [u6, hT]
    simp
  · rw [u7]
    exact g1
  · rw [u8]
    rfl
end
section
/-! new objects and arrays: the next cell of the world -/
def mc_small (tab : List mc_D) : Bool := tab.all fun d => match d with
  | .inl (t, n) => decide (n ≤ 10000) && decide (t < 4)
  | _ => true
theorem mc_fok_def {fd : Nat} {ty : FieldType} {M : mc_M} {i k b : Nat} (h : mc_fok fd ty = true) (hM : M i k = 0) : defaultValue ty = mc_ga b (mc_fv false M i k fd) := by
  match fd, h with
  | 0, h => cases ty <;> first | (show _ = Value.int (M i k); rw [hM]; rfl) | (simp [mc_fok] at h)
  | 2, h => cases ty <;> first | (show _ = Value.int (M i k); rw [hM]; rfl) | (simp [mc_fok] at h)
  | 1, h => cases ty <;> first | (show _ = mc_ga b (if M i k = 0 then Value.null else .ref (M i k).toNatClampNeg); rw [if_pos hM]; rfl) | (simp [mc_fok] at h)
  | r + 3, h => cases ty <;> first | (show _ = mc_ga b (if false = true then Value.ref r else if M i k = 0 then Value.null else .ref r); rw [if_neg (by decide), if_pos hM]; rfl) | (simp [mc_fok] at h)
section MVN
variable {p : Program} {l : Launch} {e : Env} {R : Room} {s : State} {m : MethodId} {args : Array Value} {below : List Frame} {meth : Method} {c : Code} {Q : State → Prop}
variable {D : va_G} {cl : List vw_C} {b : Nat} {cA : Nat → ClassId} {tab : List mc_D} {nL n0 dn d : Nat}
variable {cc : ByteArray} {pc : Nat} {ls : List (Option Value)} {st r : List Value} {n : Nat} {M : mc_M} {L : mc_L}
theorem mc_grow {H H1 : Heap} {M' : mc_M} {L' : mc_L} {dd : mc_D} (hP : va_P D cl (mc_wd b cA false tab n M L) H) (hd : tab[n]? = some dd) (o1 : ∀ q, q < b + n → H1[q]? = H[q]?) (hM : ∀ j, j ≠ n → M' j = M j) (hL : ∀ j, j ≠ n → L' j = L j) (hnew : va_at D cl (b + n, mc_gE b cA (mc_cell false M' L' n dd)) H1) : va_P D cl (mc_wd b cA false tab (n + 1) M' L') H1 := by
  intro k q hk
  obtain ⟨hk1, d', hd', rfl⟩ := mc_wd_some hk
  by_cases hkn : k = n
  · subst hkn
    rw [hd] at hd'
    cases hd'
    exact hnew
  · have hlt : k < n := by omega
    rw [← mc_cell_congr (M := M) (L := L) (hM k hkn).symm (hL k hkn).symm]
    exact (hP k _ (mc_wd_in hlt hd')).kept (o1 _ (Nat.add_lt_add_left hlt _))
theorem mv_new (hx : p.tables.exec = Jvm.exec) (hb : c.code = cc) {own : String} {Ts : List Cond} (hts : ∀ w ∈ Ts, w.before args s = true) (hown : s.vm.findClass own = some m.cls) (hK : va_K D cl (mc_ty cA) s) (htk : mc_tok cl tab = true) (hR : R = mc_rmd tab d dn n0)
    {C : String} {T : u_T} {N ci i : Nat} (hin : ∀ w ∈ u_ws C T N, w ∈ Ts) (hc : cl[ci]? = some (C, T, N)) (hcl : (Cond.classLink own i C).before args s = true) (hins : (Cond.instantiable C N).before args s = true) (hini : (Cond.initialized C).before args s = true) {fds : List Nat}
    (hdg : decode cc pc = .ok (.new i, 3)) (hd : tab[n]? = some (.inr (ci, fds))) (hn : n < n0 + dn) (kk : mc_V p l e R s m args below meth c Q D cl b cA false tab nL n0 dn (pc + 3) ls (.ref n :: st) (n + 1) (mc_set M n (fun _ => 0)) L) : mc_V p l e R s m args below meth c Q D cl b cA false tab nL n0 dn pc ls st n M L := by
  intro h0 hf H locs lsC hP hz hS hl
  have hH : H.size = b + n := hz rfl
  have hKn := hK.1 ci _ hc
  obtain ⟨t1, t2, t3⟩ := mc_tok_e htk hd hc
  have hsl := mc_sl_next n tab _ hd
  have hsz : mc_sz (.inr (ci, fds)) = N := t1
  have hle2 : mc_sl tab (n + 1) ≤ mc_sl tab (n0 + dn) := mc_sl_le hn
  have hle0 : mc_sl tab n0 ≤ mc_sl tab n := mc_sl_le h0.1
  have c1 : n - n0 + 1 = n + 1 - n0 := by omega
  have c2 : mc_sl tab n - mc_sl tab n0 + N = mc_sl tab (n + 1) - mc_sl tab n0 := by omega
  refine W.newcK hx hb hown hcl hins hini rfl hdg (by rw [hR]; show _ ≤ dn; omega) (by rw [hR]; show _ ≤ mc_sl tab (n0 + dn) - mc_sl tab n0; omega) hKn.2.1 (h := b + n) hH fun H1 kC hkC e1 z1 o1 => ?_
  rw [c1, c2]
  refine kk ⟨by omega, hn⟩ (fun z => by cases z) H1 locs lsC (mc_grow hP hd o1 (fun j hj => mc_set_n hj) (fun _ _ => rfl) ?_) (fun _ => by rw [z1]; omega) ⟨Nat.le_trans hS.1 (by omega), fun q g1 g2 => (o1 q (by have := hS.1; omega)).trans (hS.2.1 q g1 g2), hS.2.2⟩ hl
  refine ⟨_, hc, (u_born (mc_t0 T) hts hin hKn hkC e1 t2).to (fun j hj => ?_)⟩
  obtain ⟨fd, hfd⟩ : ∃ fd, fds[j]? = some fd := ⟨_, List.getElem?_eq_getElem (by rw [t1]; exact hj)⟩
  show defaultValue (mc_t0 T j) = ((fds.mapIdx (fun k fd => mc_fv false (mc_set M n (fun _ => 0)) n k fd)).map (mc_ga b)).getD j .null
  rw [List.getD_eq_getElem?_getD, List.getElem?_map, List.getElem?_mapIdx, hfd]
  exact mc_fok_def (t3 j fd hfd) (by rw [mc_set_s])
theorem mv_newarr (hx : p.tables.exec = Jvm.exec) (hb : c.code = cc) (hK : va_K D cl (mc_ty cA) s) (hsm : mc_small tab = true) (hR : R = mc_rmd tab d dn n0)
    {a : ArrayType} {t len : Nat} (harr : (Cond.arrayClass (newarray.typeOf a)).before args s = true) (hdg : decode cc pc = .ok (.newarray a, 2)) (ht : t < 4) (hty : newarray.typeOf a = mc_tt t) (hd : tab[n]? = some (.inl (t, len))) (hn : n < n0 + dn)
    (kk : mc_V p l e R s m args below meth c Q D cl b cA false tab nL n0 dn (pc + 2) ls (.ref n :: r) (n + 1) (mc_set M n (fun _ => 0)) (mc_setL L n (fun _ => 0))) : mc_V p l e R s m args below meth c Q D cl b cA false tab nL n0 dn pc ls (.int (Int32.ofNat len) :: r) n M L := by
  intro h0 hf H locs lsC hP hz hS hl
  have hH : H.size = b + n := hz rfl
  have h10 : len ≤ 10000 := by
    have := List.all_eq_true.mp hsm _ (List.mem_of_getElem? hd)
    simp only [Bool.and_eq_true, decide_eq_true_eq] at this
    exact this.1
  have hsl := mc_sl_next n tab _ hd
  have hsz : mc_sz (.inl (t, len)) = len := rfl
  have hle2 : mc_sl tab (n + 1) ≤ mc_sl tab (n0 + dn) := mc_sl_le hn
  have hle0 : mc_sl tab n0 ≤ mc_sl tab n := mc_sl_le h0.1
  have c1 : n - n0 + 1 = n + 1 - n0 := by omega
  have c2 : mc_sl tab n - mc_sl tab n0 + len = mc_sl tab (n + 1) - mc_sl tab n0 := by omega
  have hcb : componentBytes (newarray.typeOf a) ≤ 8 := by
    cases a <;> decide
  refine va_newaK hx hb harr rfl hdg rfl (n := Int32.ofNat len) (N := len) (nI_pos (by omega)) (nI_clamp (by omega)) (by
    have := Nat.mul_le_mul h10 hcb
    omega) (by rw [hR]; show _ ≤ dn; omega) (by rw [hR]; show _ ≤ mc_sl tab (n0 + dn) - mc_sl tab n0; omega) (h := b + n) hH fun H1 cA' e1 z1 o1 hAr hNm => ?_
  rw [c1, c2]
  refine kk ⟨by omega, hn⟩ (fun z => by cases z) H1 locs lsC (mc_grow hP hd o1 (fun j hj => mc_set_n hj) (fun j hj => mc_setL_n hj) ?_) (fun _ => by rw [z1]; omega) ⟨Nat.le_trans hS.1 (by omega), fun q g1 g2 => (o1 q (by have := hS.1; omega)).trans (hS.2.1 q g1 g2), hS.2.2⟩ hl
  rw [hty] at e1 hNm
  match t, ht, hNm, e1 with
  | 0, _, hNm, e1 =>
    have hc0 : s.vm.findClass ("[" ++ FieldType.int.toString) = some (cA 0) := (hK.2 0 (cA 0, .int) rfl).2
    cases hc0.symm.trans hNm
    show H1[b + n]? = some (vp_cell (cA 0) (len, .inl (mc_set M n (fun _ => 0) n)))
    rw [mc_set_s, e1]
    rfl
  | 1, _, hNm, e1 =>
    have hc0 : s.vm.findClass ("[" ++ FieldType.long.toString) = some (cA 1) := (hK.2 1 (cA 1, .long) rfl).2
    cases hc0.symm.trans hNm
    show H1[b + n]? = some (vp_cell (cA 1) (len, .inr (.inl (mc_setL L n (fun _ => 0) n))))
    rw [mc_setL_s, e1]
    rfl
  | 2, _, hNm, e1 =>
    have hc0 : s.vm.findClass ("[" ++ FieldType.char.toString) = some (cA 2) := (hK.2 2 (cA 2, .char) rfl).2
    cases hc0.symm.trans hNm
    show H1[b + n]? = some (vp_cell (cA 2) (len, .inl (mc_set M n (fun _ => 0) n)))
    rw [mc_set_s, e1]
    rfl
  | 3, _, hNm, e1 =>
    have hc0 : s.vm.findClass ("[" ++ FieldType.boolean.toString) = some (cA 3) := (hK.2 3 (cA 3, .boolean) rfl).2
    cases hc0.symm.trans hNm
    show H1[b + n]? = some (vp_cell (cA 3) (len, .inl (mc_set M n (fun _ => 0) n)))
    rw [mc_set_s, e1]
    rfl
end MVN
end
section
/-! calls of the JDK that are rows of the kit: Object's constructor, System.arraycopy -/
section MCJ
variable {s0 : State} {l : Launch} {D : va_G} {cl : List vw_C} {b : Nat} {cA : Nat → ClassId} {md : Bool} {tab : List mc_D} {WL NW : List Cond} {d : Nat} {own : String} {idx : Nat}
def mc_fobj : mc_PT := fun av _ M L Q => match av with
  | [.ref _] => Q none M L
  | _ => False
theorem co_obj (hl : Cond.methodLink own idx Lib.objectInit ∈ WL) (hinst : Cond.instanceMethod Lib.objectInit ∈ WL) (hcode : Cond.code Lib.objectInit ⟨#[0xb1]⟩ 1 none ∈ WL) (hd : 1 ≤ d) : mc_CO s0 l D cl b cA md tab WL NW d own idx 2 1 0 mc_fobj := by
  refine ⟨fun av n M L Q Q' hQ h => ?_, ?_⟩
  · match av, h with
    | [.ref _], h => exact hQ _ _ _ h
  · intro p e R s m args below meth c Q nL n0 dn cc c0 hx hb hml hown hts hK hZ hO hR x hxk pc ls av r n M L hdg hw8 hlen hroom h
    have hxe : x = .invokespecial idx := by
      rcases hxk with ⟨h, _⟩ | ⟨h, _⟩ | ⟨_, h⟩
      · cases h
      · cases h
      · exact h
    subst hxe
    match av, hlen, h with
    | [.ref q], hlen, h =>
      intro h0 hf H locs lsC hP hz hS hl0
      refine W.objInit hx hb hown (hts _ (List.mem_cons_of_mem _ hl)) (hts _ (List.mem_cons_of_mem _ hinst)) (hts _ (List.mem_cons_of_mem _ hcode)) rfl (by rw [hml]; exact hl0.1) (a := b + q) (rest := r.map (mc_ga b)) rfl hdg (by rw [hR]; exact hd) (by rw [hR, mc_w_eq b r]; show 2 * 0 + _ + 12 ≤ 40 * d; omega) ?_
      exact h h0 hf H locs lsC hP hz hS hl0
def mc_fcopy (tab : List mc_D) : mc_PT := fun av n M L Q => match av with
  | [.ref a0, .int sp, .ref a1, .int dp, .int k] => mc_ar true tab a0 n 0 fun l0 => mc_ar true tab a1 n 0 fun l1 => ¬ sp < 0 ∧ ¬ dp < 0 ∧ ¬ k < 0 ∧ sp.toNatClampNeg + k.toNatClampNeg ≤ l0 ∧ dp.toNatClampNeg + k.toNatClampNeg ≤ l1 ∧ Q none (mc_set M a1 (va_cpy (M a0) (M a1) sp.toNatClampNeg dp.toNatClampNeg k.toNatClampNeg)) L
  | _ => False
theorem mc_ar_mono {md : Bool} {tab : List mc_D} {a n t : Nat} {k k' : Nat → Prop} (hk : ∀ l, k l → k' l) (h : mc_ar md tab a n t k) : mc_ar md tab a n t k' := by
  unfold mc_ar at h ⊢
  revert h
  cases mc_at tab a with
  | none => exact fun h => h
  | some d =>
    cases d with
    | inr q => exact fun h => h
    | inl q =>
      obtain ⟨t', len⟩ := q
      dsimp only
      cases Nat.beq t t' with
      | false => exact fun h => h
      | true =>
        cases md with
        | true => exact fun h => hk _ h
        | false => exact fun h => ⟨h.1, hk _ h.2⟩
theorem co_copy (hl : Cond.methodLink own idx arraycopyName ∈ WL) (hnat : Cond.native arraycopyName ∈ WL) (hst : Cond.static arraycopyName ∈ WL) (hini : Cond.initialized "java/lang/System" ∈ WL) (hd : 1 ≤ d) : mc_CO s0 l D cl b cA true tab WL NW d own idx 1 5 0 (mc_fcopy tab) := by
  refine ⟨fun av n M L Q Q' hQ h => ?_, ?_⟩
  · match av, h with
    | [.ref a0, .int sp, .ref a1, .int dp, .int k], h => exact mc_ar_mono (fun l0 h => mc_ar_mono (fun l1 h => ⟨h.1, h.2.1, h.2.2.1, h.2.2.2.1, h.2.2.2.2.1, hQ _ _ _ h.2.2.2.2.2⟩) h) h
  · intro p e R s m args below meth c Q nL n0 dn cc c0 hx hb hml hown hts hK hZ hO hR x hxk pc ls av r n M L hdg hw8 hlen hroom h
    have hxe : x = .invokestatic idx := by
      rcases hxk with ⟨h, _⟩ | ⟨_, h⟩ | ⟨h, _⟩
      · cases h
      · exact h
      · cases h
    subst hxe
    match av, hlen, h with
    | [.ref a0, .int sp, .ref a1, .int dp, .int k], hlen, h =>
      intro h0 hf H locs lsC hP hz hS hl0
      obtain ⟨l0, g1, g2, h⟩ := mc_ar_e h hf
      obtain ⟨l1, g3, g4, i1, i2, i3, i4, i5, i6⟩ := mc_ar_e h hf
      have he0 : (mc_wd b cA true tab n M L)[a0]? = some (b + a0, .inl (cA 0, l0, .inl (M a0))) := mc_wd_in g2 g1
      have he1 : (mc_wd b cA true tab n M L)[a1]? = some (b + a1, .inl (cA 0, l1, .inl (M a1))) := mc_wd_in g4 g3
      refine va_copyi (ls := lsC) (rest := r.map (mc_ga b)) (ty := .int) hx hb (by rw [hml]; exact hl0.1.symm) hown (hts _ (List.mem_cons_of_mem _ hl)) (hts _ (List.mem_cons_of_mem _ hnat)) (hts _ (List.mem_cons_of_mem _ hst)) (hts _ (List.mem_cons_of_mem _ hini)) hK hP mc_wd_D hS a0 a1 0 0 he0 he1 rfl rfl rfl i1 i2 i3 i4 i5 (fun _ _ => rfl) (by rw [hR]; exact hd) (by rw [hR, mc_w_eq b r]; show mc_w r + (_ + 11) ≤ 40 * d; have : nativeFrameWords "java/lang/System" "arraycopy" 5 ≤ 20 := (by decide +kernel); omega) hdg (fun H1 locs1 hP1 hD1 hS1 => ?_)
      rw [mc_set_arr g4 g3 (by decide)] at hP1
      exact i6 h0 hf H1 locs1 lsC hP1 (fun z => by cases z) hS1 hl0
def mc_fmax : mc_PT := fun av _ M L Q => match av with
  | [.int x, .int y] => Q (some (.int (if x < y then y else x))) M L
  | _ => False
theorem co_max (hl : Cond.methodLink own idx Lib.Math.max.name ∈ WL) (hst : Cond.static Lib.Math.max.name ∈ WL) (hini : Cond.initialized "java/lang/Math" ∈ WL) (hcode : Cond.code Lib.Math.max.name Lib.Math.max.code 2 (some .int) ∈ WL) (hd : 1 ≤ d) : mc_CO s0 l D cl b cA md tab WL NW d own idx 1 2 0 mc_fmax := by
  refine ⟨fun av n M L Q Q' hQ h => ?_, ?_⟩
  · match av, h with
    | [.int x, .int y], h => exact hQ _ _ _ h
  · intro p e R s m args below meth c Q nL n0 dn cc c0 hx hb hml hown hts hK hZ hO hR x hxk pc ls av r n M L hdg hw8 hlen hroom h
    have hxe : x = .invokestatic idx := by
      rcases hxk with ⟨h, _⟩ | ⟨_, h⟩ | ⟨h, _⟩
      · cases h
      · exact h
      · cases h
    subst hxe
    match av, hlen, h with
    | [.int x, .int y], hlen, h =>
      intro h0 hf H locs lsC hP hz hS hl0
      obtain ⟨r1, r2⟩ := mc_roomle (tab := tab) (d := d) (dn' := 0) h0.1 (by omega)
      exact va_mmax (ls := lsC) (rest := r.map (mc_ga b)) hx hb (by rw [hml]; exact hl0.1.symm) hown (hts _ (List.mem_cons_of_mem _ hl)) (hts _ (List.mem_cons_of_mem _ hst)) (hts _ (List.mem_cons_of_mem _ hini)) (hts _ (List.mem_cons_of_mem _ hcode)) (by rw [hR]; exact hd) (by rw [hR, mc_w_eq b r]; show mc_w r + 13 ≤ 40 * d; omega) (by rw [hR]; exact Nat.le_trans (Nat.le_add_right _ _) r1) (by rw [hR]; exact Nat.le_trans (Nat.le_add_right _ _) r2) hdg (h h0 hf H locs lsC hP hz hS hl0)
end MCJ
end
section
/-! running a stretch: up to a place of 'cut', or for f instructions -/
def mc_has : List Nat → Nat → Bool
  | [], _ => false
  | k :: r, i => match Nat.beq k i with
    | true => true
    | false => mc_has r i
def mc_wp (md : Bool) (tab : List mc_D) (n0 dn : Nat) (ret : Option FieldType) (sh : mc_SH) (Qr : Option Value → mc_M → mc_L → Prop) (Qt : Nat → mc_M → mc_L → Prop) (tb : List mc_R) (cut : List Nat) (K : mc_K) : Nat → mc_K
  | 0 => K
  | f + 1 => fun pc ls st n M L => match mc_has cut pc with
    | true => K pc ls st n M L
    | false => match mc_lk tb pc with
      | some (x, _, tgt, v) => mc_step md tab n0 dn ret sh Qr Qt (mc_wp md tab n0 dn ret sh Qr Qt tb cut K f) x tgt v pc ls st n M L
      | none => False
def mc_run (md : Bool) (tab : List mc_D) (n0 dn : Nat) (ret : Option FieldType) (sh : mc_SH) (Qr : Option Value → mc_M → mc_L → Prop) (Qt : Nat → mc_M → mc_L → Prop) (tb : List mc_R) (cut : List Nat) (K : mc_K) (f : Nat) : mc_K := fun pc ls st n M L => match mc_lk tb pc with
  | some (x, _, tgt, v) => mc_step md tab n0 dn ret sh Qr Qt (mc_wp md tab n0 dn ret sh Qr Qt tb cut K f) x tgt v pc ls st n M L
  | none => False
def mc_tbok (cc : ByteArray) (nL : Nat) (tb : List mc_R) : Bool := tb.all fun q => decide (decode cc q.1 = .ok (q.2.1, q.2.2.1)) && mc_ok nL q.1 q.2.1 q.2.2.1 q.2.2.2.1 q.2.2.2.2
def mc_swok (tb : List mc_R) (sw : List (Nat × List (Int32 × Nat) × Nat)) : Bool := tb.all fun q => match q.2.1, mc_lk sw q.1 with
  | .tableswitch dflt lo hi offs, some (cs, d) => mc_swT q.1 cs d dflt lo hi offs
  | .tableswitch .., none => false
  | _, _ => true
def mc_swokL (tb : List mc_R) (sw : List (Nat × List (Int32 × Nat) × Nat)) : Bool := tb.all fun q => match q.2.1, mc_lk sw q.1 with
  | .lookupswitch dflt ps, some (cs, d) => (ps.toList.zip (ps.toList.drop 1)).all (fun (a, next) => a.1 < next.1) && mc_swL q.1 d dflt cs ps.toList
  | .lookupswitch .., none => false
  | _, _ => true
def mc_closed (md : Bool) (tab : List mc_D) (n0 dn : Nat) (ret : Option FieldType) (sh : mc_SH) (Qr : Option Value → mc_M → mc_L → Prop) (Qt : Nat → mc_M → mc_L → Prop) (tb : List mc_R) (K : mc_K) : Prop :=
  (∀ cut f pc ls st n M L, mc_run md tab n0 dn ret sh Qr Qt tb cut K f pc ls st n M L → K pc ls st n M L) ∧ ∀ ks pc ls st n M L, K pc (mc_kp ks ls) st n M L → K pc ls st n M L
/-- the words behind a field's pool number -/
def mc_fw (WL NW : List Cond) (own : String) (idx : Nat) (t : String × String × String × Bool) : Prop := Cond.fieldLink own idx t.1 t.2.1 t.2.2.1 ∈ WL ∨ ∃ host, Cond.fieldLinkNest own idx t.1 t.2.1 t.2.2.1 host ∈ NW
def mc_fgP (cl : List vw_C) (WL NW : List Cond) (own : String) (q : Nat × Nat × Nat) : Prop := ∃ (C : String) (T : u_T) (N : Nat), cl[q.2.1]? = some (C, T, N) ∧ q.2.2 < N ∧ mc_fw WL NW own q.1 (T q.2.2)
def mc_fpP (cl : List vw_C) (WL NW : List Cond) (own mname : String) (q : Nat × Nat × Nat) : Prop := ∃ (C : String) (T : u_T) (N : Nat), cl[q.2.1]? = some (C, T, N) ∧ q.2.2 < N ∧ (((T q.2.2).2.2.2 = false ∧ mc_fw WL NW own q.1 (T q.2.2)) ∨ ((T q.2.2).2.2.2 = true ∧ (T q.2.2).1 = own ∧ mname = "<init>" ∧ Cond.fieldLink own q.1 (T q.2.2).1 (T q.2.2).2.1 (T q.2.2).2.2.1 ∈ WL))
/-- the throws of a class's methods are sound -/
def mc_EO (s0 : State) (l : Launch) (D : va_G) (cl : List vw_C) (b : Nat) (cA : Nat → ClassId) (tab : List mc_D) (WL NW : List Cond) (exn : Nat → String) (d : Nat) (own : String) (cc : ByteArray) (tb : List mc_R) (ex : List (Nat × Nat)) : Prop :=
  ∀ (p : Program) (e : Env) (R : Room) (s : State) (m : MethodId) (args : Array Value) (below : List Frame) (meth : Method) (c : Code) (Qr : Option Value → mc_M → mc_L → Prop) (Qt : Nat → mc_M → mc_L → Prop) (nL n0 dn : Nat) (c0 : Cond),
    p.tables.exec = Jvm.exec → c.code = cc → c.maxLocals = nL → s.vm.findClass own = some m.cls → (∀ w ∈ c0 :: WL, w.before args s = true) → mc_O s0 b s → R = mc_rmd tab d dn n0 → meth.locks = false → c.exceptionTable.isEmpty = true → (∃ M0 L0, va_P D cl (mc_wd b cA true tab n0 M0 L0) s.heap) → tab.length ≤ n0 →
    ∀ i k, mc_lk ex i = some k → ∀ pc len tgt v ls n M L, mc_lk tb pc = some (.new i, len, tgt, v) → n < n0 + dn → Qt k M L → mc_V p l e R s m args below meth c (mc_Q below s D cl b cA true tab n0 dn exn Qr Qt) D cl b cA true tab nL n0 dn pc ls [] n M L
/-- what is so behind a method that may throw -/
def mc_Q1 (D : va_G) (cl : List vw_C) (b : Nat) (cA : Nat → ClassId) (tab : List mc_D) (n0 dn : Nat) (exn : Nat → String) (Qr : Option Value → mc_M → mc_L → Prop) (Qt : Nat → mc_M → mc_L → Prop) : Array Value → State → Outcome → State → Prop := fun _ s o t =>
  s.WarmedH t.vm ∧ va_F (mc_A true b tab.length) s t ∧ (∃ Lc, s.sameButNew ({ t with vm := s.vm } : State) Lc dn (mc_sl tab (n0 + dn) - mc_sl tab n0) ∧ ∀ q ∈ Lc, mc_A true b tab.length q.base) ∧
  ∃ M L, va_P D cl (mc_wd b cA true tab (n0 + dn) M L) t.heap ∧ (true = false → t.heap.size = b + (n0 + dn)) ∧
    ((∃ rv : Option Value, o = .returned (rv.map (mc_ga b)) ∧ Qr rv M L) ∨ (∃ a k, o = .threw a ∧ Qt k M L ∧ mc_ec exn s t a k))
/-- the contract of a method that may throw -/
def mc_CX (s0 : State) (l : Launch) (D : va_G) (cl : List vw_C) (b : Nat) (cA : Nat → ClassId) (tab : List mc_D) (WL NW : List Cond) (exn : Nat → String) (y : MethodName) (cc : ByteArray) (maxL : Nat) (ret : Option FieldType) (d dn : Nat) (av : List Value) (n : Nat) (M : mc_M) (L : mc_L) (Qr : Option Value → mc_M → mc_L → Prop) (Qt : Nat → mc_M → mc_L → Prop) : Prop :=
  tab.length ≤ n → MetFree l y (headSpec (.code y cc maxL ret :: WL) (mc_rmd tab d dn n)) (va_Pc (av.map (mc_ga b)) (mc_B s0 D cl b cA true tab NW n M L)) (fun _ _ _ _ _ => True) (mc_Q1 D cl b cA tab n dn exn Qr Qt)
def mc_nwP (cl : List vw_C) (WL : List Cond) (own : String) (q : Nat × Nat) : Prop := ∃ (C : String) (T : u_T) (N : Nat), cl[q.2]? = some (C, T, N) ∧ Cond.classLink own q.1 C ∈ WL ∧ Cond.instantiable C N ∈ WL ∧ Cond.initialized C ∈ WL
section MIN
variable {md : Bool} {s0 : State} {l : Launch} {D : va_G} {cl : List vw_C} {b : Nat} {cA : Nat → ClassId} {tab : List mc_D} {WL NW : List Cond} {d dn : Nat} {own : String} {y : MethodName} {cc : ByteArray} {maxL : Nat} {ret : Option FieldType} {tb : List mc_R} {sh : mc_SH} {av : List Value} {n : Nat} {M : mc_M} {L : mc_L} {Qr : Option Value → mc_M → mc_L → Prop}
variable {Qt : Nat → mc_M → mc_L → Prop} {exn : Nat → String}
theorem mc_core (hyo : y.cls = own) (hN : NW.all mc_isN = true) (htk : mc_tok cl tab = true)
    (hcl : ∀ (ci : Nat) (C : String) (T : u_T) (N : Nat), cl[ci]? = some (C, T, N) → (∀ w ∈ u_ws C T N, w ∈ WL) ∧ ∀ a, a < N → ∀ b, b < N → a ≠ b → (T a).2.1 ≠ (T b).2.1)
    (htb : mc_tbok cc maxL tb = true) (hsw : mc_swok tb sh.2.2.2.2.2.2.1 = true) (hswL : mc_swokL tb sh.2.2.2.2.2.2.1 = true)
    (hfg : ∀ q ∈ sh.1.1, mc_fgP cl WL NW own q) (hfp : ∀ q ∈ sh.1.2, mc_fpP cl WL NW own y.name q)
    (hkc : ∀ q ∈ sh.2.2.2.2.1, Cond.constant own q.1 q.2 ∈ WL) (hkl : ∀ q ∈ sh.2.2.2.2.2.1, Cond.constantLong own q.1 q.2 ∈ WL)
    (hcal : ∀ q ∈ sh.2.1, mc_CO s0 l D cl b cA md tab WL NW d own q.1 q.2.1 q.2.2.1 q.2.2.2.1 q.2.2.2.2) (hexo : mc_EO s0 l D cl b cA tab WL NW exn d own cc tb sh.2.2.2.1)
    (hnwP : md = false → (∀ q ∈ sh.2.2.1, mc_nwP cl WL own q) ∧ mc_small tab = true ∧ ∀ t, t < 4 → Cond.arrayClass (mc_tt t) ∈ WL)
    (hsc0 : sh.2.2.2.2.2.2.2 = none) (hlen : (lg_sl (av.map (mc_ga b))).length ≤ maxL)
    (body : ∀ K, mc_closed md tab n dn ret sh Qr Qt tb K → K 0 (mc_args av maxL) [] n M L) (hf : md = true → tab.length ≤ n) {p : Program} {e : Env} {s : State} {m : MethodId} {args : Array Value} {below : List Frame} {meth : Method} {c : Code} {s₁ : State} (B : BodyLoose p l y (headSpec (.code y cc maxL ret :: WL) (mc_rmd tab d dn n)) cc maxL ret e s m args below meth c s₁) (hml : c.maxLocals = maxL) (hv : va_Pc (av.map (mc_ga b)) (mc_B s0 D cl b cA md tab NW n M L) args s) :
    W p l e (mc_rmd tab d dn n) s m args below meth c s.heap [] 0 0 (mc_Q below s D cl b cA md tab n dn exn Qr Qt) (entryFrame m args maxL) := by
  obtain ⟨rfl, hP, hz, hK, hZ, hO⟩ := hv
  have hts := atoms_spec (ws := .code y cc maxL ret :: WL) B.pre
  have hown : s.vm.findClass own = some m.cls := hyo ▸ findClass_of_methodNamed B.named
  have hnm : meth.name = y.name := (name_of_methodNamed B.named B.method).1
  have hlnk : ∀ idx (t : String × String × String × Bool), mc_fw WL NW own idx t → mc_lnk own idx t (av.map (mc_ga b)).toArray s := by
    intro idx t h
    rcases h with h | ⟨host, h⟩
    · exact Or.inl (hts _ (List.mem_cons_of_mem _ h))
    · exact Or.inr ⟨host, va_Nw.use rfl (hZ _ h)⟩
  have hsd : ∀ {K : mc_K} (hKV : ∀ pc ls st n' M L, K pc ls st n' M L → mc_V p l e (mc_rmd tab d dn n) s m (av.map (mc_ga b)).toArray below meth c (mc_Q below s D cl b cA md tab n dn exn Qr Qt) D cl b cA md tab maxL n dn pc ls st n' M L)
      {x : Instr} {len tgt : Nat} {v : Int32} {pc : Nat} {ls : List (Option Value)} {st : List Value} {n' : Nat} {M : mc_M} {L : mc_L}, mc_lk tb pc = some (x, len, tgt, v) → mc_step md tab n dn ret sh Qr Qt K x tgt v pc ls st n' M L → mc_V p l e (mc_rmd tab d dn n) s m (av.map (mc_ga b)).toArray below meth c (mc_Q below s D cl b cA md tab n dn exn Qr Qt) D cl b cA md tab maxL n dn pc ls st n' M L := by
    intro K hKV x len tgt v pc ls st n' M L hlk h
    have hrow := List.all_eq_true.mp htb _ (mc_lk_mem hlk)
    simp only [Bool.and_eq_true, decide_eq_true_eq] at hrow
    refine mc_sound (own := own) (Ts := .code y cc maxL ret :: WL) (sh := sh) (ret := ret) B.exec B.bytes hown hts hK htk (fun ci C T N hc => ⟨fun w hw => List.mem_cons_of_mem _ ((hcl ci C T N hc).1 w hw), (hcl ci C T N hc).2⟩)
      (fun idx ci k hq => ?_) (fun idx ci k hq => ?_) (fun i w hq => hts _ (List.mem_cons_of_mem _ (hkc _ (mc_lk_mem hq)))) (fun i w hq => hts _ (List.mem_cons_of_mem _ (hkl _ (mc_lk_mem hq)))) (fun sa len xs hsc => by rw [hsc0] at hsc; cases hsc) (fun pc ls x n M L hdg h => mv_iret B.exec B.bytes B.returns B.notSynchronized hdg h) (fun pc ls n M L hdg hrn h => mv_vret B.exec B.bytes (B.returns.trans hrn) B.notSynchronized hdg h) hKV (fun idx kd a dn' F hq x hx pc ls av2 r n2 M2 L2 hdg h1 h2 h3 h4 => ?_) (fun i ci hq hmd pc2 ls2 st2 n2 M2 L2 fds hdg hd2 hn2 h2 => ?_) (fun hmd a2 t2 len2 pc2 ls2 r2 n2 M2 L2 hdg ht2 hty2 hd2 hn2 h2 => ?_) hrow.1 hrow.2 (fun i k hxe hq => ?_) (fun cs d2 dflt lo hi offs hxe hq => ?_) (fun cs d2 dflt ps hxe hq => ?_) h
    · obtain ⟨C, T, N, g1, g2, g3⟩ := hfg _ (mc_lk_mem hq)
      exact ⟨C, T, N, g1, g2, hlnk _ _ g3⟩
    · obtain ⟨C, T, N, g1, g2, g3⟩ := hfp _ (mc_lk_mem hq)
      refine ⟨C, T, N, g1, g2, ?_⟩
      rcases g3 with ⟨g4, g5⟩ | ⟨g4, g5, g6, g7⟩
      · exact Or.inl ⟨g4, hlnk _ _ g5⟩
      · exact Or.inr ⟨g4, g5, by rw [hnm]; exact g6, hts _ (List.mem_cons_of_mem _ g7)⟩
    · obtain ⟨g1, g2⟩ := hcal _ (mc_lk_mem hq)
      exact g2 p e _ s m _ below meth c _ maxL _ dn cc (.code y cc maxL ret) B.exec B.bytes hml hown hts hK hZ hO rfl x hx pc ls _ r _ _ _ hdg h1 h2 h3 (g1 _ _ _ _ _ _ (fun rv M L z => hKV _ _ _ _ _ _ z) h4)
    · subst hmd
      obtain ⟨C, T, N, g1, g2, g3, g4⟩ := (hnwP rfl).1 _ (mc_lk_mem hq)
      exact mv_new B.exec B.bytes hts hown hK htk rfl (fun w hw => List.mem_cons_of_mem _ ((hcl _ C T N g1).1 w hw)) g1 (hts _ (List.mem_cons_of_mem _ g2)) (hts _ (List.mem_cons_of_mem _ g3)) (hts _ (List.mem_cons_of_mem _ g4)) hdg hd2 hn2 (hKV _ _ _ _ _ _ h2)
    · subst hmd
      exact mv_newarr B.exec B.bytes hK (hnwP rfl).2.1 rfl (by rw [hty2]; exact hts _ (List.mem_cons_of_mem _ ((hnwP rfl).2.2 t2 ht2))) hdg ht2 hty2 hd2 hn2 (hKV _ _ _ _ _ _ h2)
    · intro hmd h1 h2
      subst hmd
      subst hxe
      exact hexo p e _ s m _ below meth c Qr Qt maxL n dn (.code y cc maxL ret) B.exec B.bytes hml hown hts hO rfl B.notSynchronized (B.noHandlers (hts _ List.mem_cons_self)) ⟨_, _, hP⟩ (hf rfl) i k hq pc _ _ _ ls _ _ _ hlk h1 h2
    · have h5 := List.all_eq_true.mp hsw _ (mc_lk_mem hlk)
      subst hxe
      rw [hq] at h5
      exact h5
    · have h5 := List.all_eq_true.mp hswL _ (mc_lk_mem hlk)
      subst hxe
      rw [hq] at h5
      exact (Bool.and_eq_true _ _).mp h5
  have hwp : ∀ (cut : List Nat) (f : Nat) (pc : Nat) ls st n' M L, mc_wp md tab n dn ret sh Qr Qt tb cut (mc_V p l e (mc_rmd tab d dn n) s m (av.map (mc_ga b)).toArray below meth c (mc_Q below s D cl b cA md tab n dn exn Qr Qt) D cl b cA md tab maxL n dn) f pc ls st n' M L → mc_V p l e (mc_rmd tab d dn n) s m (av.map (mc_ga b)).toArray below meth c (mc_Q below s D cl b cA md tab n dn exn Qr Qt) D cl b cA md tab maxL n dn pc ls st n' M L := by
    intro cut f
    induction f with
    | zero => exact fun pc ls st n' M L h => h
    | succ f ih =>
      intro pc ls st n' M L h
      unfold mc_wp at h
      split at h
      · exact h
      · split at h
        · next x len tgt v hlk => exact hsd ih hlk h
        · exact h.elim
  have hV := body (mc_V p l e (mc_rmd tab d dn n) s m (av.map (mc_ga b)).toArray below meth c (mc_Q below s D cl b cA md tab n dn exn Qr Qt) D cl b cA md tab maxL n dn) ⟨fun cut f pc ls st n' M L h => by
    unfold mc_run at h
    split at h
    · next x len tgt v hlk => exact hsd (hwp cut f) hlk h
    · exact h.elim, fun ks pc ls st n' M L h => mv_kp ks h⟩
  have hl := lv_entry (av.map (mc_ga b)) (n := maxL) hlen
  rw [lg_entry_eq]
  have hW := hV ⟨Nat.le_refl _, Nat.le_add_right _ _⟩ hf s.heap [] _ hP hz va_S.rf (mc_lv_entry hl)
  rw [Nat.sub_self, Nat.sub_self] at hW
  exact hW
theorem mc_intro (hy : plainName y.cls = true) (hyo : y.cls = own) (hN : NW.all mc_isN = true) (htk : mc_tok cl tab = true)
    (hcl : ∀ (ci : Nat) (C : String) (T : u_T) (N : Nat), cl[ci]? = some (C, T, N) → (∀ w ∈ u_ws C T N, w ∈ WL) ∧ ∀ a, a < N → ∀ b, b < N → a ≠ b → (T a).2.1 ≠ (T b).2.1)
    (htb : mc_tbok cc maxL tb = true) (hsw : mc_swok tb sh.2.2.2.2.2.2.1 = true) (hswL : mc_swokL tb sh.2.2.2.2.2.2.1 = true)
    (hfg : ∀ q ∈ sh.1.1, mc_fgP cl WL NW own q) (hfp : ∀ q ∈ sh.1.2, mc_fpP cl WL NW own y.name q)
    (hkc : ∀ q ∈ sh.2.2.2.2.1, Cond.constant own q.1 q.2 ∈ WL) (hkl : ∀ q ∈ sh.2.2.2.2.2.1, Cond.constantLong own q.1 q.2 ∈ WL)
    (hcal : ∀ q ∈ sh.2.1, mc_CO s0 l D cl b cA true tab WL NW d own q.1 q.2.1 q.2.2.1 q.2.2.2.1 q.2.2.2.2) (hex : sh.2.2.2.1 = [])
    (hsc0 : sh.2.2.2.2.2.2.2 = none) (hlen : (lg_sl (av.map (mc_ga b))).length ≤ maxL)
    (body : ∀ K, mc_closed true tab n dn ret sh Qr (fun _ _ _ => False) tb K → K 0 (mc_args av maxL) [] n M L) : mc_CT s0 l D cl b cA true tab WL NW y cc maxL ret d dn av n M L Qr := by
  intro hf
  refine Met.ofW (cc := cc) (maxL := maxL) (ret := ret) hy rfl ?_
  intro p e s m args below meth c s₁ B hml hv
  refine mw_mono ?_ (mc_core (Qt := fun _ _ _ => False) (exn := fun _ => "") hyo hN htk hcl htb hsw hswL hfg hfp hkc hkl hcal (fun p e R s m args below meth c Qr Qt nL n0 dn c0 _ _ _ _ _ _ _ _ _ _ _ i k hq => by rw [hex] at hq; cases hq) (fun z => by cases z) hsc0 hlen body hf B hml hv)
  rintro t ⟨o, t1, t2, t3, t4, ⟨Lc, t5, t6⟩, M', L', t7, t8, t9⟩
  rcases t9 with ⟨rv, t10, t11⟩ | ⟨a, k, t10, t11, t12⟩
  · exact ⟨o, t1, t2, ⟨⟨rv, M', L', t10, t11, t7, t8⟩, t4⟩, Lc, ⟨⟨_, t10⟩, t3, t5⟩, t6⟩
  · exact t11.elim
theorem mc_introB (hy : plainName y.cls = true) (hyo : y.cls = own) (hN : NW.all mc_isN = true) (htk : mc_tok cl tab = true)
    (hcl : ∀ (ci : Nat) (C : String) (T : u_T) (N : Nat), cl[ci]? = some (C, T, N) → (∀ w ∈ u_ws C T N, w ∈ WL) ∧ ∀ a, a < N → ∀ b, b < N → a ≠ b → (T a).2.1 ≠ (T b).2.1)
    (htb : mc_tbok cc maxL tb = true) (hsw : mc_swok tb sh.2.2.2.2.2.2.1 = true) (hswL : mc_swokL tb sh.2.2.2.2.2.2.1 = true)
    (hfg : ∀ q ∈ sh.1.1, mc_fgP cl WL NW own q) (hfp : ∀ q ∈ sh.1.2, mc_fpP cl WL NW own y.name q)
    (hkc : ∀ q ∈ sh.2.2.2.2.1, Cond.constant own q.1 q.2 ∈ WL) (hkl : ∀ q ∈ sh.2.2.2.2.2.1, Cond.constantLong own q.1 q.2 ∈ WL)
    (hcal : ∀ q ∈ sh.2.1, mc_CO s0 l D cl b cA false tab WL NW d own q.1 q.2.1 q.2.2.1 q.2.2.2.1 q.2.2.2.2) (hex : sh.2.2.2.1 = [])
    (hnwP : (∀ q ∈ sh.2.2.1, mc_nwP cl WL own q) ∧ mc_small tab = true ∧ ∀ t, t < 4 → Cond.arrayClass (mc_tt t) ∈ WL)
    (hsc0 : sh.2.2.2.2.2.2.2 = none) (hlen : (lg_sl (av.map (mc_ga b))).length ≤ maxL)
    (body : ∀ K, mc_closed false tab n dn ret sh Qr (fun _ _ _ => False) tb K → K 0 (mc_args av maxL) [] n M L) : mc_CT s0 l D cl b cA false tab WL NW y cc maxL ret d dn av n M L Qr := by
  intro hf
  refine Met.ofW (cc := cc) (maxL := maxL) (ret := ret) hy rfl ?_
  intro p e s m args below meth c s₁ B hml hv
  refine mw_mono ?_ (mc_core (Qt := fun _ _ _ => False) (exn := fun _ => "") hyo hN htk hcl htb hsw hswL hfg hfp hkc hkl hcal (fun p e R s m args below meth c Qr Qt nL n0 dn c0 _ _ _ _ _ _ _ _ _ _ _ i k hq => by rw [hex] at hq; cases hq) (fun _ => hnwP) hsc0 hlen body hf B hml hv)
  rintro t ⟨o, t1, t2, t3, t4, ⟨Lc, t5, t6⟩, M', L', t7, t8, t9⟩
  rcases t9 with ⟨rv, t10, t11⟩ | ⟨a, k, t10, t11, t12⟩
  · exact ⟨o, t1, t2, ⟨⟨rv, M', L', t10, t11, t7, t8⟩, t4⟩, Lc, ⟨⟨_, t10⟩, t3, t5⟩, t6⟩
  · exact t11.elim
theorem mc_introX (hy : plainName y.cls = true) (hyo : y.cls = own) (hN : NW.all mc_isN = true) (htk : mc_tok cl tab = true)
    (hcl : ∀ (ci : Nat) (C : String) (T : u_T) (N : Nat), cl[ci]? = some (C, T, N) → (∀ w ∈ u_ws C T N, w ∈ WL) ∧ ∀ a, a < N → ∀ b, b < N → a ≠ b → (T a).2.1 ≠ (T b).2.1)
    (htb : mc_tbok cc maxL tb = true) (hsw : mc_swok tb sh.2.2.2.2.2.2.1 = true) (hswL : mc_swokL tb sh.2.2.2.2.2.2.1 = true)
    (hfg : ∀ q ∈ sh.1.1, mc_fgP cl WL NW own q) (hfp : ∀ q ∈ sh.1.2, mc_fpP cl WL NW own y.name q)
    (hkc : ∀ q ∈ sh.2.2.2.2.1, Cond.constant own q.1 q.2 ∈ WL) (hkl : ∀ q ∈ sh.2.2.2.2.2.1, Cond.constantLong own q.1 q.2 ∈ WL)
    (hcal : ∀ q ∈ sh.2.1, mc_CO s0 l D cl b cA true tab WL NW d own q.1 q.2.1 q.2.2.1 q.2.2.2.1 q.2.2.2.2) (hexo : mc_EO s0 l D cl b cA tab WL NW exn d own cc tb sh.2.2.2.1)
    (hsc0 : sh.2.2.2.2.2.2.2 = none) (hlen : (lg_sl (av.map (mc_ga b))).length ≤ maxL)
    (body : ∀ K, mc_closed true tab n dn ret sh Qr Qt tb K → K 0 (mc_args av maxL) [] n M L) : mc_CX s0 l D cl b cA tab WL NW exn y cc maxL ret d dn av n M L Qr Qt := by
  intro hf
  refine MetFree.of_bodyS (code := cc) (maxLocals := maxL) (ret := ret) hy ?_ ?_
  · intro args s m h hn
    obtain ⟨meth, c, h1, h2, h3, h4, h5, h6, -, -⟩ := Cond.code_spec hn (atoms_spec (ws := .code y cc maxL ret :: WL) h _ List.mem_cons_self)
    exact ⟨meth, c, h1, h2, h3, h4, h5, h6⟩
  · intro p e s m args below meth c s₁ B hml hP _
    have hh0 : s₁.heap = s.heap := by rw [B.state]; rfl
    obtain ⟨t, a1, o, b1, b2, b3⟩ := mc_core hyo hN htk hcl htb hsw hswL hfg hfp hkc hkl hcal hexo (fun z => by cases z) hsc0 hlen body (fun _ => hf) B hml hP s₁ hh0 (Stand.of_body B)
    exact ⟨t, o, a1, b1, b2, b3⟩
end MIN
end
section
/-! a call that may throw, and the handlers of the walked method -/
section MXC
variable {p : Program} {l : Launch} {e : Env} {R : Room} {s : State} {m : MethodId} {args : Array Value} {below : List Frame} {meth : Method} {c : Code} {T : State} {locs : List Loc} {cells slots : Nat}
theorem mx_callX (X : Stand p l e R s m args below meth c T locs cells slots) (hexec : p.tables.exec = Jvm.exec) {own C : String} {index : Nat} {y : MethodName} {bytes : ByteArray} {maxL : Nat} {ret : Option FieldType} {ws : List Cond} {rm : Room} {Pc : Array Value → State → Prop} {Qc : Array Value → State → Outcome → State → Prop} {dn ds : Nat} {free : Addr → Prop}
    (hM : MetFree l y (headSpec ws rm) Pc (fun _ _ _ _ _ => True) Qc) (hbl : FrameBlind Pc) (hrf : rm.frames + 1 ≤ R.frames) (hrl : 8 + (maxL + 11) + rm.locals ≤ R.locals) (hrc : cells + rm.cells ≤ R.cells) (hrs : slots + rm.slots ≤ R.slots)
    (hws : ∀ w ∈ ws, ∀ (a' : Array Value) (U : State), s.WarmedH U.vm → w.before a' U = true) (hcw : Cond.code y bytes maxL ret ∈ ws)
    (hQ : ∀ a st o t, Qc a st o t → st.WarmedH t.vm ∧ ∃ L, st.sameButNew ({ t with vm := st.vm } : State) L dn ds ∧ ∀ q ∈ L, free q.base)
    (hown : s.vm.findClass own = some m.cls) (hlink : (Cond.methodLink own index y).before args s = true) (hinst : (Cond.instanceMethod y).before args s = true) (hsel : (Cond.selects C y y).before args s = true)
    (hcode : (Cond.code y bytes maxL ret).before args s = true) (hini : (Cond.initialized y.cls).before args s = true) (hy : y.cls ≠ "java/lang/invoke/MethodHandle" ∧ y.cls ≠ "java/lang/invoke/VarHandle")
    {b : Addr} {cellB : Cell} (hcell : T.heap[b]? = some cellB) (hobj : cellB.vm.isStatics = false) (hcls : s.vm.findClass C = some cellB.cls)
    {g : JFrame} (hg : g.method = m) (hsize : g.locals.size = c.maxLocals) {argsL rest : List Value} (hlen : ∀ sig, parseMethodDescriptor y.desc = some sig → argsL.length = sig.parameters.length)
    (hstack : g.stack = argsL.reverse ++ .ref b :: rest) (hW : 2 * g.monitorRoom + (rest.map fun v => v.category).sum ≤ 8) (hdg : decode c.code g.pc = .ok (.invokevirtual index, 3))
    (hPc : ∀ U : State, U.heap = T.heap → s.WarmedH U.vm → Pc (Value.ref b :: argsL).toArray U) :
    ∃ (o : Outcome) (st₀ t T' : State) (L : List Loc), st₀.heap = T.heap ∧ s.WarmedH st₀.vm ∧ Qc (Value.ref b :: argsL).toArray st₀ o t ∧ (∀ q ∈ L, free q.base) ∧ Stand p l e R s m args below meth c T' (locs ++ L) (cells + dn) (slots + ds) ∧ T'.heap = t.heap ∧ T'.vm = t.vm ∧
      ((∃ v, o = .returned v ∧ ∀ target, Steps p.tables e below (T'.setTop { g with pc := g.pc + 3, stack := v.toList ++ rest }) target → Steps p.tables e below (T.setTop g) target) ∨
       (∃ x, o = .threw x ∧ ∀ target, Steps p.tables e below ((T'.setTop { g with stack := rest }).pushFrame (.throwing x)) target → Steps p.tables e below (T.setTop g) target)) := by
  obtain ⟨mk, methM, hnamed, hmethM, hstM, habM⟩ := Cond.instanceMethod_spec hinst
  obtain ⟨methM', cM, hmethM', hcM, -, hlM, -, -, -, hsigM⟩ := Cond.code_spec hnamed hcode
  cases hmethM.symm.trans hmethM'
  obtain ⟨c2, r2, m2, q1, q2, q3, q4, kP, hkP, hkPi⟩ := Cond.selects_spec hsel
  cases hcls.symm.trans q1
  cases (State.methodFound?_of_named hnamed hy).symm.trans q2
  cases hnamed.symm.trans q3
  have hselP : selectMethod e.platform s.vm cellB.cls mk = .method mk := by rw [Launch.admits_selectMethod X.admits]; exact q4
  obtain ⟨vm₁, X₁, hstep₁⟩ := X.invokevirtual hexec hown hlink hnamed hmethM hstM hkP hkPi hy (a := b) (cell := cellB) hcell
    (fun z h => by rw [h] at hobj; cases hobj) hselP hmethM habM hkP hkPi (g := g) hg (argsL := argsL) (rest := rest) (hlen _ hsigM) hstack hdg
  have hW₁ : s.WarmedH (T.setVm vm₁).vm := X₁.warmed
  have hn₁ : (T.setVm vm₁).methodNamed? y = some mk := X₁.named hnamed
  have hc₁ : (Cond.code y bytes maxL ret).before (Value.ref b :: argsL).toArray (T.setVm vm₁) = true := hws _ hcw _ _ hW₁
  obtain ⟨methY, cY, hmY, hcY, -, hlY, -, -, -, -⟩ := Cond.code_spec hn₁ hc₁
  obtain ⟨kY, hkY, -⟩ := className_of_methodNamed hn₁
  have hini₁ : (Cond.initialized y.cls).before (Value.ref b :: argsL).toArray (T.setVm vm₁) = true := word_at hW₁ (Or.inl (by first | rfl | simp [Cond.onTables, Cond.keeps, Cond.steady])) hini
  have hinitY : kY.init = .initialized := Cond.initialized_spec (findClass_of_methodNamed hn₁) hkY hini₁
  subst hg
  have h : At (T.setVm vm₁) g.method c below := X₁.here
  have happ : (headSpec ws rm).appliesLoose y e.platform ((T.setVm vm₁).calling { g with stack := rest } mk (Value.ref b :: argsL).toArray) = true :=
    Spec.appliesLoose_calling (g := { g with stack := rest }) h hdg hn₁ hkY hinitY
      (X₁.room_calling (g := { g with stack := rest }) (R' := rm) hsize hmY hcY hrf (by rw [hlY]; dsimp only; omega) hrc hrs) (atoms_intro fun w hw => hws w hw _ _ hW₁)
  obtain ⟨mid, hmid⟩ := h.above
  have hfr : ((T.setVm vm₁).setTop { g with stack := rest }).frames = (.java { g with stack := rest } :: mid) ++ below := by rw [State.frames_setTop' _ h.top, hmid]; rfl
  obtain ⟨o, s₂, hsteps, -, hend, hq⟩ := Steps.callFree hM p X₁.admits X₁.cas X₁.clock (acts := []) hfr happ (hbl _ _ _ _ (hPc _ rfl hW₁)) trivial
  have hq' : Qc (Value.ref b :: argsL).toArray ((T.setVm vm₁).calling { g with stack := rest } mk (Value.ref b :: argsL).toArray) o s₂ := hq
  obtain ⟨w1, L, w2, w3⟩ := hQ _ _ _ _ hq'
  rw [State.frames_setTop' _ h.top, X₁.tail] at hend
  cases o with
  | returned v =>
    obtain ⟨T', Y1, Y2, Y3, Y4⟩ := X₁.outOf (g := { g with stack := rest }) rfl hdg hend w1 w2
    refine ⟨.returned v, ((T.setVm vm₁).calling { g with stack := rest } mk (Value.ref b :: argsL).toArray), s₂, T', L, rfl, hW₁, hq', w3, Y1, ?_, ?_, Or.inl ⟨v, rfl, fun target hrest => hstep₁ _ fun acts => ?_⟩⟩
    · rw [Y4]
      simp [State.setFrames, State.setTop, State.modifyTopJava]
    · rw [Y4]
      simp [State.setFrames, State.setTop, State.modifyTopJava]
    · rw [doInvoke_state]
      rw [Y4] at hsteps
      exact hsteps.trans hrest
  | threw x =>
    obtain ⟨T', Y1, Y2, Y3, Y4⟩ := X₁.outOfThrown (g := { g with stack := rest }) rfl hend w1 w2
    refine ⟨.threw x, ((T.setVm vm₁).calling { g with stack := rest } mk (Value.ref b :: argsL).toArray), s₂, T', L, rfl, hW₁, hq', w3, Y1, ?_, ?_, Or.inr ⟨x, rfl, fun target hrest => hstep₁ _ fun acts => ?_⟩⟩
    · rw [Y4]
      simp [State.pushFrame, State.setFrames, State.setTop, State.modifyTopJava]
    · rw [Y4]
      simp [State.pushFrame, State.setFrames, State.setTop, State.modifyTopJava]
    · rw [doInvoke_state]
      rw [Y4] at hsteps
      exact hsteps.trans hrest
end MXC
/-! the search for a handler: each row that covers the place names a class by a link; the first one whose class takes the object catches it -/
def mx_FT (e : Env) (s : State) (f : JFrame) (a : Addr) (h : Handler) (vm' : Vm) : Prop := ∀ (Q : Handler → Pre) (E : CtlPost) (d : Bool) (acts : List Action), wp (findHandler f a) Q E e d acts s ↔ Q h d acts (s.setVm vm')
section MXH
variable {Q : Handler → Pre} {E : CtlPost} {e : Env} {d : Bool} {acts : List Action} {s : State} {f : JFrame} {a : Addr}
theorem mx_go {x : ExceptionTableEntry} {t : List ExceptionTableEntry} {c : ClassId} {cell : Cell} (hx : covers x f.pc = true) (h0 : x.catchType ≠ 0)
    (hl : s.vm.ClassLinks e.platform f.method.cls x.catchType c) (hcell : s.heap[a]? = some cell) (hobj : ∀ k, cell.vm ≠ .statics k)
    (hk : ∃ k, s.vm.classes[cell.cls]? = some k) (hc : ∃ k, s.vm.classes[c]? = some k) :
    wp (findHandler.go f a (x :: t)) Q E e d acts s ↔ (if s.vm.assignable cell.cls c = true then Q (.found x.handlerPc) d acts (s.setVm (s.vm.noted f.method.cls x.catchType (.cls c))) else wp (findHandler.go f a t) Q E e d acts (s.setVm (s.vm.noted f.method.cls x.catchType (.cls c)))) := by
  simp only [covers] at hx
  obtain ⟨ha, ht⟩ := (resolveClass_links e.toSetting hl).op (op := VmOp.resolveClass f.method.cls x.catchType) rfl
  have hal : s.vm.Alike (s.vm.noted f.method.cls x.catchType (.cls c)) := (Vm.Alike.refl s.vm).noted _ _ _
  obtain ⟨k1, hk1⟩ := hk
  obtain ⟨k2, hk2⟩ := hc
  obtain ⟨k1', hk1', -⟩ := hal.2.2 _ _ hk1
  obtain ⟨k2', hk2', -⟩ := hal.2.2 _ _ hk2
  have hfe : (s.vm.noted f.method.cls x.catchType (.cls c)).assignable cell.cls c = s.vm.assignable cell.cls c := by rw [hal.assignable]
  by_cases hfit : s.vm.assignable cell.cls c = true
  · rw [if_pos hfit]
    rw [hfit] at hfe
    simp [findHandler.go, hx, h0, ha, ht, hcell, hobj, hk1', hk2', hfe, VmOp.dirties, VmOp.acts]
  · rw [if_neg hfit]
    have hno : s.vm.assignable cell.cls c = false := by simpa using hfit
    rw [hno] at hfe
    simp [findHandler.go, hx, h0, ha, ht, hcell, hobj, hk1', hk2', hfe, VmOp.dirties, VmOp.acts]
end MXH
theorem mx_search {e : Env} {s0 : State} {f : JFrame} {a : Addr} {cell : Cell} (hobj : ∀ k, cell.vm ≠ .statics k) (hk0 : ∃ k, s0.vm.classes[cell.cls]? = some k) (x : ExceptionTableEntry) (rest : List ExceptionTableEntry) :
    ∀ (pre : List ExceptionTableEntry) (S : State), s0.WarmedH S.vm → S.heap[a]? = some cell → (∀ y ∈ pre ++ [x], covers y f.pc = true ∧ y.catchType ≠ 0 ∧ ∃ c, s0.vm.ClassLinks e.platform f.method.cls y.catchType c ∧ s0.vm.assignable cell.cls c = decide (y = x)) → x ∉ pre →
      ∃ vm', s0.WarmedH vm' ∧ ∀ (Q : Handler → Pre) (E : CtlPost) (d : Bool) (acts : List Action), wp (findHandler.go f a (pre ++ x :: rest)) Q E e d acts S ↔ Q (.found x.handlerPc) d acts (S.setVm vm') := by
  obtain ⟨k0, hk0⟩ := hk0
  intro pre
  induction pre with
  | nil =>
    intro S hW hcell hall _
    obtain ⟨h1, h2, c, hl, hfit⟩ := hall x (by simp)
    obtain ⟨k0', hk0', -⟩ := hW.alike.2.2 _ _ hk0
    obtain ⟨dk, _, _, kt, hd, _, _, _, _, hkt, _, hopen⟩ := hl.here
    obtain ⟨kt', hkt', -⟩ := hW.alike.2.2 _ _ hkt
    refine ⟨_, hW.noted hd hopen (State.rightAt_cls hl), fun Q E d acts => ?_⟩
    rw [List.nil_append, mx_go h1 h2 (hW.classLinks hl) hcell hobj ⟨k0', hk0'⟩ ⟨kt', hkt'⟩, hW.alike.assignable, hfit, if_pos (by simp)]
  | cons y ys ih =>
    intro S hW hcell hall hne
    obtain ⟨h1, h2, c, hl, hfit⟩ := hall y (by simp)
    have hyx : ¬ y = x := fun z => hne (by simp [z])
    obtain ⟨k0', hk0', -⟩ := hW.alike.2.2 _ _ hk0
    obtain ⟨dk, _, _, kt, hd, _, _, _, _, hkt, _, hopen⟩ := hl.here
    obtain ⟨kt', hkt', -⟩ := hW.alike.2.2 _ _ hkt
    obtain ⟨vm', hW', hq⟩ := ih (S.setVm (S.vm.noted f.method.cls y.catchType (.cls c))) (hW.noted hd hopen (State.rightAt_cls hl)) hcell (fun z hz => hall z (by simp only [List.cons_append, List.mem_cons]; exact Or.inr hz)) (fun z => hne (List.mem_cons_of_mem _ z))
    refine ⟨vm', hW', fun Q E d acts => ?_⟩
    rw [List.cons_append, mx_go h1 h2 (hW.classLinks hl) hcell hobj ⟨k0', hk0'⟩ ⟨kt', hkt'⟩, hW.alike.assignable, hfit, if_neg (by simp [hyx])]
    exact hq Q E d acts
theorem mx_step {e : Env} {s : State} {a : Addr} {f : JFrame} {r : List Frame} {pc : Nat} {vm' : Vm} (hfind : mx_FT e s f a (.found pc) vm') :
    (stepThrowing e s a (.java f :: r)).Is ((s.setVm vm').setFrames (.java { f with pc := pc, stack := [.ref a] } :: r)) [] := by
  simp only [stepThrowing, searchFrame, vmDo]
  generalize hr : Sem.go _ e false [] s = res
  obtain ⟨as, rfl, ha⟩ := Sem.eq_ok_of hr (a := Handler.found pc) (s' := s.setVm vm') (acts' := []) (by simp [hfind _ _ _ _])
  exact ⟨rfl, ha⟩
theorem mx_caught {tb : Tables} {e : Env} {s target : State} {g : JFrame} {c : Code} {below : List Frame} {a : Addr} (h : At s g.method c below) {pc : Nat} {vm' : Vm}
    (hfind : mx_FT e ((s.setTop g).pushFrame (.throwing a)) g a (.found pc) vm') (hrest : Steps tb e below ((s.setVm vm').setTop { g with pc := pc, stack := [.ref a] }) target) :
    Steps tb e below ((s.setTop g).pushFrame (.throwing a)) target := by
  obtain ⟨hgo, hw⟩ := h.throwing a
  refine Steps.head hgo hw ?_
  rw [stepThread_throwing (frames_entered h.top _), (mx_step (s := (s.setTop g).pushFrame (.throwing a)) hfind).1]
  obtain ⟨g₀, hg⟩ := Option.isSome_iff_exists.mp h.top
  obtain ⟨r, hr⟩ := State.topJava?_eq_some.mp hg
  have hr' : (s.setVm vm').frames = .java g₀ :: r := hr
  have sv : ∀ (u : State) (F G : List Frame), ((u.setFrames F).setVm vm').setFrames G = (u.setVm vm').setFrames G := by
    intro u F G
    have h1 : (u.setFrames F).setVm vm' = (u.setVm vm').setFrames F := rfl
    rw [h1, State.setFrames_setFrames]
  rw [State.setTop_of_frames _ hr'] at hrest
  rw [hr, List.tail_cons, State.pushFrame, sv, State.setTop_of_frames _ hr, sv]
  exact hrest
end
section
/-- whether an object of the class t can be taken for one of the class c -/
def mx_as (s : State) (t c : String) (r : Bool) : Prop := ∃ (ct cc : ClassId), s.vm.findClass t = some ct ∧ s.vm.findClass c = some cc ∧ s.vm.assignable ct cc = r ∧ ∃ k, s.vm.classes[ct]? = some k
theorem mx_as.moved {s U : State} {t c : String} {r : Bool} (h : s.vm.Alike U.vm) (k : mx_as s t c r) : mx_as U t c r := by
  obtain ⟨ct, cc, h1, h2, h3, kk, h4⟩ := k
  obtain ⟨k', hk', -⟩ := h.2.2 _ _ h4
  exact ⟨ct, cc, by rw [h.findClass]; exact h1, by rw [h.findClass]; exact h2, by rw [h.assignable]; exact h3, k', hk'⟩
/-- a handler: it stores the object and returns a constant -/
def mx_hd (cc : ByteArray) (nL hpc : Nat) (val : Int32) : Prop :=
  (∃ (j : Nat) (z : Int), decode cc hpc = .ok (.astore j, 2) ∧ j < nL ∧ decode cc (hpc + 2) = .ok (.iconst z, 1) ∧ Int32.ofInt z = val ∧ decode cc (hpc + 2 + 1) = .ok (.ireturn, 1)) ∨
  (∃ (j : Fin 4) (z : Int), decode cc hpc = .ok (.astore_n j, 1) ∧ j.val < nL ∧ decode cc (hpc + 1) = .ok (.iconst z, 1) ∧ Int32.ofInt z = val ∧ decode cc (hpc + 1 + 1) = .ok (.ireturn, 1))
/-- which row catches an object of the kind k: the rows ahead of it don't take it -/
def mx_row (s : State) (own : String) (exn : Nat → String) (WL : List Cond) (hs : List ExceptionTableEntry) (pc k : Nat) (x : ExceptionTableEntry) : Prop :=
  ∃ pre rest, hs = pre ++ x :: rest ∧ x ∉ pre ∧ ∀ y ∈ pre ++ [x], covers y pc = true ∧ y.catchType ≠ 0 ∧ ∃ nm, Cond.classLink own y.catchType nm ∈ WL ∧ mx_as s (exn k) nm (decide (y = x))
section MTR
variable {p : Program} {l : Launch} {e : Env} {R : Room} {s : State} {m : MethodId} {args : Array Value} {below : List Frame} {meth : Method} {c : Code}
variable {D : va_G} {cl : List vw_C} {b : Nat} {cA : Nat → ClassId} {tab : List mc_D} {nL n0 dn : Nat}
variable {cc : ByteArray} {pc : Nat} {ls : List (Option Value)} {r as : List Value} {n : Nat} {M : mc_M} {L : mc_L} {exn : Nat → String} {Qr : Option Value → mc_M → mc_L → Prop} {Qt : Nat → mc_M → mc_L → Prop} {WL NW : List Cond} {s0 : State} {d d' : Nat}
theorem mv_try {own : String} {idx q a ci maxL : Nat} {y : MethodName} {bytes : ByteArray} {ret : Option FieldType} {T : u_T} {N : Nat} {fds : List Nat} {c0 : Cond} {hs : List ExceptionTableEntry}
    (hx : p.tables.exec = Jvm.exec) (hb : c.code = cc) (hml : c.maxLocals = nL) (hret : meth.sig.returnType = some .int) (hlk : meth.locks = false) (hown : s.vm.findClass own = some m.cls) (hts : ∀ w ∈ c0 :: WL, w.before args s = true) (hK : va_K D cl (mc_ty cA) s) (hZ : mc_NW NW s) (hO : mc_O s0 b s) (hR : R = mc_rmd tab d dn n0)
    (hhs : c.exceptionTable.toList = hs) (hN : NW.all mc_isN = true) (hW : WL.all goodWord = true) (hc : Cond.code y bytes maxL ret ∈ WL) (hl : Cond.methodLink own idx y ∈ WL) (hini : Cond.initialized y.cls ∈ WL) (hinst : Cond.instanceMethod y ∈ WL) (hsel : Cond.selects y.cls y y ∈ WL)
    (hd : y.cls ≠ "java/lang/invoke/MethodHandle" ∧ y.cls ≠ "java/lang/invoke/VarHandle" ∧ (parseMethodDescriptor y.desc).map (fun d => d.parameters.length) = some a) (hlev : d' + 1 ≤ d ∧ maxL ≤ 21) (hcl : cl[ci]? = some (y.cls, T, N)) (hq : tab[q]? = some (.inr (ci, fds))) (hal : as.length = a) (hdg : decode cc pc = .ok (.invokevirtual idx, 3)) (hw8 : mc_w r ≤ 8) (hroom : n + 1 ≤ n0 + dn)
    (h : mc_CX s0 l D cl b cA tab WL NW exn y bytes maxL ret d' 1 (.ref q :: as) n M L (fun rv M' L' => mc_V p l e R s m args below meth c (mc_Q below s D cl b cA true tab n0 dn exn Qr Qt) D cl b cA true tab nL n0 dn (pc + 3) ls (rv.toList ++ r) (n + 1) M' L')
      (fun k M' L' => ∃ x val, mx_row s own exn WL hs pc k x ∧ mx_hd cc nL x.handlerPc val ∧ Qr (some (.int val)) M' L')) : mc_V p l e R s m args below meth c (mc_Q below s D cl b cA true tab n0 dn exn Qr Qt) D cl b cA true tab nL n0 dn pc ls ((.ref q :: as).reverse ++ r) n M L := by
  intro h0 hf H locs lsC hP hz hS hl0 T0 hT X
  have hle : tab.length ≤ n := hf rfl
  have hqn : q < n := Nat.lt_of_lt_of_le (List.getElem?_eq_some_iff.mp hq).1 hle
  have hG := mc_good hW hc c0
  have he : (mc_wd b cA true tab n M L)[q]? = some (b + q, .inr (ci, (fds.mapIdx (fun k fd => mc_fv true M q k fd)).map (mc_ga b))) := mc_wd_in hqn hq
  obtain ⟨cellB, r1, r2, r3⟩ := va_recv hK hP hcl he
  obtain ⟨g1, g2⟩ := mc_roomle (tab := tab) (d := d) (dn' := 1) h0.1 hroom
  obtain ⟨o, st₀, t, T', Lc, e0, w0, hq1, hfr, X', e1, e2, hout⟩ := mx_callX X hx (free := mc_A true b tab.length) (own := own) (C := y.cls) (index := idx) (h hle) (mc_blind hN) (by rw [hR]; exact hlev.1) (by rw [hR]; show 8 + (maxL + 11) + 40 * d' ≤ 40 * d; omega) (by rw [hR]; exact g1) (by rw [hR]; exact g2) (pay_in hts hG) List.mem_cons_self
    (fun a st o t hh => ⟨hh.1, by obtain ⟨Lc, z1, z2⟩ := hh.2.2.1; exact ⟨Lc, z1, z2⟩⟩)
    hown (hts _ (List.mem_cons_of_mem _ hl)) (hts _ (List.mem_cons_of_mem _ hinst)) (hts _ (List.mem_cons_of_mem _ hsel)) (hts _ (List.mem_cons_of_mem _ hc)) (hts _ (List.mem_cons_of_mem _ hini)) ⟨hd.1, hd.2.1⟩ (b := b + q) (cellB := cellB) (by rw [hT]; exact r1) r2 r3
    (g := F0 m pc lsC (((Value.ref q :: as).reverse ++ r).map (mc_ga b))) rfl (by rw [hml]; exact hl0.1) (argsL := as.map (mc_ga b)) (rest := r.map (mc_ga b)) (fun sig hsg => by
      have h2 := hd.2.2
      rw [hsg] at h2
      rw [List.length_map, hal]
      exact (Option.some.inj h2).symm) (by show ((Value.ref q :: as).reverse ++ r).map (mc_ga b) = _; simp [mc_ga]) (by show 2 * 0 + _ ≤ 8; rw [mc_w_eq b r]; omega) (by rw [hb]; exact hdg)
    (fun U hU hWm => ⟨rfl, by rw [hU, hT]; exact hP, fun z => (by cases z), va_K.moved hWm.alike hK, mc_NW_warm hN hWm hZ, mc_O_to hO hS (by rw [hU, hT]) hWm⟩)
  obtain ⟨q1, ⟨q2, q3⟩, -, M', L', q4, q5, q6⟩ := hq1
  rw [e0, hT] at q2 q3
  have hS' : va_S (mc_A true b tab.length) s.heap t.heap (locs ++ Lc) := ⟨Nat.le_trans hS.1 q2, fun z z1 z2 => by rw [q3 z (Nat.lt_of_lt_of_le z1 hS.1) z2]; exact hS.2.1 z z1 z2, fun z hz' => by
    rcases List.mem_append.mp hz' with h | h
    · exact hS.2.2 z h
    · exact hfr z h⟩
  have c1 : n - n0 + 1 = n + 1 - n0 := by omega
  have c2 : mc_sl tab n - mc_sl tab n0 + (mc_sl tab (n + 1) - mc_sl tab n) = mc_sl tab (n + 1) - mc_sl tab n0 := by
    have h2 := mc_sl_le (tab := tab) h0.1
    have h3 := mc_sl_mono n tab 1
    omega
  rw [c1, c2] at X'
  rcases hout with ⟨v, ho, go⟩ | ⟨x, ho, go⟩
  · subst ho
    rcases q6 with ⟨rv, z1, z2⟩ | ⟨a', k, z1, z2, z3⟩
    · have hv' : v = rv.map (mc_ga b) := Outcome.returned.inj z1
      subst hv'
      obtain ⟨t2, a1, b1⟩ := z2 ⟨by omega, hroom⟩ (fun _ => Nat.le_trans hle (Nat.le_add_right _ _)) t.heap (locs ++ Lc) lsC q4 q5 hS' hl0 T' e1 X'
      refine ⟨t2, go t2 ?_, b1⟩
      have e4 : ((rv.toList ++ r).map (mc_ga b)) = (rv.map (mc_ga b)).toList ++ r.map (mc_ga b) := by cases rv <;> simp
      rw [e4] at a1
      exact a1
    · cases z1
  · subst ho
    rcases q6 with ⟨rv, z1, z2⟩ | ⟨a', k, z1, z2, z3⟩
    · cases z1
    · cases z1
      obtain ⟨xe, val, ⟨pre, rest, hsp, hnp, hrows⟩, hhd, hqr⟩ := z2
      obtain ⟨ce, y1, y2, y3⟩ := z3
      have hst : s.vm.findClass (exn k) = some ce.cls := by rw [← w0.alike.findClass]; exact y2
      have hpl : e.platform.magicAccessors = ({} : Platform).magicAccessors := by rw [X.admits.platform]
      have hk0 : ∃ kk, s.vm.classes[ce.cls]? = some kk := by
        obtain ⟨-, -, nm, -, ct, cc', u1, u2, u3, kk, u4⟩ := hrows xe (by simp)
        rw [hst] at u1
        cases u1
        exact ⟨kk, u4⟩
      obtain ⟨vm', hW', hsearch⟩ := mx_search (e := e) (s0 := s) (f := F0 m pc lsC (r.map (mc_ga b))) (a := x) (cell := ce) (fun kk hh => by rw [hh] at y3; cases y3) hk0 xe rest pre ((T'.setTop (F0 m pc lsC (r.map (mc_ga b)))).pushFrame (.throwing x)) (by rw [Stand.throwing_vm]; exact X'.warmed) (by rw [Stand.throwing_heap, e1]; exact y1)
        (fun y' hy' => by
          obtain ⟨u1, u2, nm, u3, ct, cc', u4, u5, u6, -⟩ := hrows y' hy'
          rw [hst] at u4
          cases u4
          obtain ⟨c', v1, v2⟩ := Cond.classLink_spec hown (hts _ (List.mem_cons_of_mem _ u3)) e.platform hpl
          rw [u5] at v1
          cases v1
          exact ⟨u1, u2, _, v2, u6⟩) hnp
      have hFT : mx_FT e ((T'.setTop (F0 m pc lsC (r.map (mc_ga b)))).pushFrame (.throwing x)) (F0 m pc lsC (r.map (mc_ga b))) x (.found xe.handlerPc) vm' := by
        intro Q' E' dd acts
        rw [W.findHandler_eq (meth := meth) (code := c) (by rw [Stand.throwing_vm]; exact X'.method') X'.code, hhs, hsp]
        exact hsearch Q' E' dd acts
      have hWh : W p l e R s m args below meth c t.heap (locs ++ Lc) (n + 1 - n0) (mc_sl tab (n + 1) - mc_sl tab n0) (mc_Q below s D cl b cA true tab n0 dn exn Qr Qt) (F0 m xe.handlerPc lsC [.ref x]) := by
        have fin : ∀ (pc3 : Nat) (ls' : Array Slot), lv_has ls' nL [] → decode cc pc3 = .ok (.ireturn, 1) → W p l e R s m args below meth c t.heap (locs ++ Lc) (n + 1 - n0) (mc_sl tab (n + 1) - mc_sl tab n0) (mc_Q below s D cl b cA true tab n0 dn exn Qr Qt) (F0 m pc3 ls' [.int val]) := by
          intro pc3 ls' hls' hd3
          have hV := mv_iret (l := l) (e := e) (R := R) (s := s) (m := m) (args := args) (below := below) (D := D) (cl := cl) (b := b) (cA := cA) (md := true) (tab := tab) (nL := nL) (n0 := n0) (dn := dn) (ls := []) (n := n + 1) (M := M') (L := L') (exn := exn) (Qr := Qr) (Qt := Qt) (ret := some .int) hx hb hret hlk hd3 (x := val) ⟨hroom, hqr⟩
          exact hV ⟨by omega, hroom⟩ (fun _ => Nat.le_trans hle (Nat.le_add_right _ _)) t.heap (locs ++ Lc) ls' q4 q5 hS' ⟨hls'.1, hls'.2.1, fun z hz' => by
            obtain ⟨w, w1, -⟩ := mc_lst_mem.mp hz'
            simp at w1⟩
        have hl1 : lv_has lsC nL [] := ⟨hl0.1, hl0.2.1, fun z hz' => by cases hz'⟩
        rcases hhd with ⟨j, z, d1, d2, d3, d4, d5⟩ | ⟨j, z, d1, d2, d3, d4, d5⟩
        · exact lv_astore hx hb d1 hl1 d2 rfl (fun ls' hls' => lv_iconst hx hb d3 d4 (fin _ ls' ⟨hls'.1, hls'.2.1, fun z hz' => by cases hz'⟩ d5))
        · exact lv_astore_n hx hb d1 rfl hl1 d2 rfl (fun ls' hls' => lv_iconst hx hb d3 d4 (fin _ ls' ⟨hls'.1, hls'.2.1, fun z hz' => by cases hz'⟩ d5))
      obtain ⟨t2, a1, b1⟩ := hWh (T'.setVm vm') e1 (X'.noted hW')
      exact ⟨t2, go t2 (mx_caught (g := F0 m pc lsC (r.map (mc_ga b))) X'.here hFT a1), b1⟩
end MTR
end
section
/-! Names, fields, instruction tables, the layout of the world: written by wip/whole/names.py out of the claim. -/
def RA : String := "FlowMixer"
def TA : u_T := fun k => match k with
  | 0 => ("FlowMixer", "nodes", "LFlowMixer$Nodes;", true)
  | 1 => ("FlowMixer", "program", "LFlowMixer$Flow;", true)
  | 2 => ("FlowMixer", "inputs", "[I", true)
  | 3 => ("FlowMixer", "analysis", "LFlowMixer$Analysis;", true)
  | 4 => ("FlowMixer", "machine", "LFlowMixer$Machine;", true)
  | 5 => ("FlowMixer", "mixer", "LFlowMixer$Mixer;", true)
  | 6 => ("FlowMixer", "compressor", "LFlowMixer$Compressor;", true)
  | 7 => ("FlowMixer", "text", "LFlowMixer$Text;", true)
  | 8 => ("FlowMixer", "residual", "LFlowMixer$Flow;", false)
  | _ => ("FlowMixer", "spare", "LFlowMixer$Flow;", false)
def RN : String := "FlowMixer$Nodes"
def TN : u_T := fun k => match k with
  | 0 => ("FlowMixer$Nodes", "kinds", "[I", true)
  | 1 => ("FlowMixer$Nodes", "firsts", "[I", true)
  | 2 => ("FlowMixer$Nodes", "seconds", "[I", true)
  | 3 => ("FlowMixer$Nodes", "sizes", "[I", true)
  | 4 => ("FlowMixer$Nodes", "variables", "[I", true)
  | 5 => ("FlowMixer$Nodes", "made", "I", false)
  | _ => ("FlowMixer$Nodes", "greatest", "I", false)
def RF : String := "FlowMixer$Flow"
def TF : u_T := fun k => match k with
  | 0 => ("FlowMixer$Flow", "size", "I", false)
  | 1 => ("FlowMixer$Flow", "statics", "I", false)
  | 2 => ("FlowMixer$Flow", "origins", "[I", true)
  | 3 => ("FlowMixer$Flow", "counts", "[I", true)
  | 4 => ("FlowMixer$Flow", "firsts", "[I", true)
  | 5 => ("FlowMixer$Flow", "lasts", "[I", true)
  | 6 => ("FlowMixer$Flow", "jumps", "[I", true)
  | 7 => ("FlowMixer$Flow", "kinds", "[I", true)
  | 8 => ("FlowMixer$Flow", "ones", "[I", true)
  | 9 => ("FlowMixer$Flow", "others", "[I", true)
  | 10 => ("FlowMixer$Flow", "variables", "[I", true)
  | 11 => ("FlowMixer$Flow", "nodes", "[I", true)
  | 12 => ("FlowMixer$Flow", "nexts", "[I", true)
  | _ => ("FlowMixer$Flow", "frozen", "[I", true)
def RY : String := "FlowMixer$Analysis"
def TY : u_T := fun k => match k with
  | _ => ("FlowMixer$Analysis", "lives", "[I", true)
def RM : String := "FlowMixer$Machine"
def TM : u_T := fun k => match k with
  | 0 => ("FlowMixer$Machine", "values", "[I", true)
  | 1 => ("FlowMixer$Machine", "returned", "I", false)
  | 2 => ("FlowMixer$Machine", "steps", "I", false)
  | _ => ("FlowMixer$Machine", "block", "I", false)
def RX : String := "FlowMixer$Mixer"
def TX : u_T := fun k => match k with
  | 0 => ("FlowMixer$Mixer", "stateBlocks", "[I", true)
  | 1 => ("FlowMixer$Mixer", "stateValues", "[I", true)
  | 2 => ("FlowMixer$Mixer", "kept", "[I", true)
  | 3 => ("FlowMixer$Mixer", "values", "[I", true)
  | 4 => ("FlowMixer$Mixer", "wanted", "[I", true)
  | 5 => ("FlowMixer$Mixer", "states", "I", false)
  | _ => ("FlowMixer$Mixer", "overflown", "Z", false)
def RC : String := "FlowMixer$Compressor"
def TC : u_T := fun k => match k with
  | 0 => ("FlowMixer$Compressor", "arrivals", "[I", true)
  | 1 => ("FlowMixer$Compressor", "goers", "[I", true)
  | _ => ("FlowMixer$Compressor", "numbers", "[I", true)
def RT : String := "FlowMixer$Text"
def TT : u_T := fun k => match k with
  | 0 => ("FlowMixer$Text", "signs", "[C", true)
  | 1 => ("FlowMixer$Text", "values", "[I", true)
  | 2 => ("FlowMixer$Text", "length", "I", false)
  | _ => ("FlowMixer$Text", "stale", "Z", false)
def RR : String := "FlowMixerModel"
def TR : u_T := fun k => match k with
  | 0 => ("FlowMixerModel", "thrown", "I", false)
  | 1 => ("FlowMixerModel", "nodes", "I", false)
  | 2 => ("FlowMixerModel", "kinds", "[I", true)
  | 3 => ("FlowMixerModel", "as", "[I", true)
  | 4 => ("FlowMixerModel", "bs", "[I", true)
  | 5 => ("FlowMixerModel", "sizes", "[I", true)
  | 6 => ("FlowMixerModel", "sets", "[I", true)
  | 7 => ("FlowMixerModel", "greatest", "I", false)
  | 8 => ("FlowMixerModel", "many", "[I", true)
  | 9 => ("FlowMixerModel", "variables", "[I", true)
  | 10 => ("FlowMixerModel", "assigned", "[I", true)
  | 11 => ("FlowMixerModel", "jumps", "[I", true)
  | 12 => ("FlowMixerModel", "jumpNodes", "[I", true)
  | 13 => ("FlowMixerModel", "ones", "[I", true)
  | 14 => ("FlowMixerModel", "others", "[I", true)
  | 15 => ("FlowMixerModel", "inputs", "[I", true)
  | 16 => ("FlowMixerModel", "now", "[I", true)
  | 17 => ("FlowMixerModel", "worked", "[I", true)
  | 18 => ("FlowMixerModel", "states", "I", false)
  | 19 => ("FlowMixerModel", "stateBlocks", "[I", true)
  | 20 => ("FlowMixerModel", "stateValues", "[I", true)
  | 21 => ("FlowMixerModel", "dynamic", "I", false)
  | 22 => ("FlowMixerModel", "lives", "[I", true)
  | 23 => ("FlowMixerModel", "left", "I", false)
  | 24 => ("FlowMixerModel", "leftDynamic", "I", false)
  | 25 => ("FlowMixerModel", "leftBlocks", "[I", true)
  | 26 => ("FlowMixerModel", "gone", "[Z", true)
  | 27 => ("FlowMixerModel", "firsts", "[I", true)
  | 28 => ("FlowMixerModel", "lasts", "[I", true)
  | 29 => ("FlowMixerModel", "leftJumps", "[I", true)
  | 30 => ("FlowMixerModel", "leftOnes", "[I", true)
  | 31 => ("FlowMixerModel", "leftOthers", "[I", true)
  | 32 => ("FlowMixerModel", "jumpParts", "[I", true)
  | 33 => ("FlowMixerModel", "parts", "I", false)
  | 34 => ("FlowMixerModel", "behind", "[I", true)
  | 35 => ("FlowMixerModel", "partVariables", "[I", true)
  | 36 => ("FlowMixerModel", "partNodes", "[I", true)
  | 37 => ("FlowMixerModel", "partValues", "[I", true)
  | 38 => ("FlowMixerModel", "newNumbers", "[I", true)
  | 39 => ("FlowMixerModel", "answer", "I", false)
  | 40 => ("FlowMixerModel", "steps", "I", false)
  | 41 => ("FlowMixerModel", "last", "I", false)
  | 42 => ("FlowMixerModel", "length", "I", false)
  | 43 => ("FlowMixerModel", "text", "[I", true)
  | _ => ("FlowMixerModel", "pile", "[I", true)
def cl0 : List vw_C := [(RA, TA, 10), (RN, TN, 7), (RF, TF, 14), (RY, TY, 1), (RM, TM, 4), (RX, TX, 7), (RC, TC, 3), (RT, TT, 4), (RR, TR, 45)]
def tab0 : List mc_D := [.inr (0, [4, 10, 23, 24, 26, 28, 34, 38, 1, 1]), .inr (1, [5, 6, 7, 8, 9, 0, 0]), .inl (0, 151), .inl (0, 151), .inl (0, 151), .inl (0, 151), .inl (0, 151), .inr (2, [0, 0, 11, 12, 13, 14, 15, 16, 17, 18, 19, 20, 21, 22]), .inl (0, 16), .inl (0, 16), .inl (0, 16), .inl (0, 16), .inl (0, 16), .inl (0, 16), .inl (0, 16), .inl (0, 16), .inl (0, 176), .inl (0, 176), .inl (0, 176), .inl (0, 1408), .inl (0, 8), .inr (3, [25]), .inl (0, 16), .inr (4, [27, 0, 0, 0]), .inl (0, 8), .inr (5, [29, 30, 31, 32, 33, 0, 2]), .inl (0, 100), .inl (0, 800), .inl (0, 16), .inl (0, 8), .inl (0, 8), .inr (6, [35, 36, 37]), .inl (0, 100), .inl (0, 100), .inl (0, 100), .inr (7, [39, 40, 0, 2]), .inl (2, 3000), .inl (0, 8), .inr (2, [0, 0, 42, 43, 44, 45, 46, 47, 48, 49, 50, 51, 52, 53]), .inl (0, 100), .inl (0, 100), .inl (0, 100), .inl (0, 100), .inl (0, 100), .inl (0, 100), .inl (0, 100), .inl (0, 100), .inl (0, 1100), .inl (0, 1100), .inl (0, 1100), .inl (0, 8800), .inr (2, [0, 0, 55, 56, 57, 58, 59, 60, 61, 62, 63, 64, 65, 66]), .inl (0, 100), .inl (0, 100), .inl (0, 100), .inl (0, 100), .inl (0, 100), .inl (0, 100), .inl (0, 100), .inl (0, 100), .inl (0, 1100), .inl (0, 1100), .inl (0, 1100), .inl (0, 8800), .inr (8, [0, 0, 68, 69, 70, 71, 72, 0, 73, 74, 75, 76, 77, 78, 79, 80, 81, 82, 0, 83, 84, 0, 85, 0, 0, 86, 87, 88, 89, 90, 91, 92, 93, 0, 94, 95, 96, 97, 98, 0, 0, 0, 0, 99, 100]), .inl (0, 150), .inl (0, 150), .inl (0, 150), .inl (0, 150), .inl (0, 150), .inl (0, 16), .inl (0, 160), .inl (0, 160), .inl (0, 16), .inl (0, 16), .inl (0, 16), .inl (0, 16), .inl (0, 8), .inl (0, 8), .inl (0, 150), .inl (0, 101), .inl (0, 808), .inl (0, 16), .inl (0, 100), .inl (3, 100), .inl (0, 100), .inl (0, 100), .inl (0, 100), .inl (0, 100), .inl (0, 100), .inl (0, 100), .inl (0, 1100), .inl (0, 1100), .inl (0, 1100), .inl (0, 8800), .inl (0, 100), .inl (0, 3000), .inl (0, 200), .inl (1, 1)]
def RJa : String := "java/util/Arrays"
def yA_init : MethodName := ⟨"FlowMixer", "<init>", "()V"⟩
def tbA_init : List mc_R := [(0, .aload_n 0, 1, 0, 0), (1, .invokespecial 3, 3, 0, 0), (4, .aload_n 0, 1, 0, 0), (5, .new 9, 3, 0, 0), (8, .dup, 1, 0, 0), (9, .invokespecial 11, 3, 0, 0), (12, .putfield 12, 3, 0, 0), (15, .aload_n 0, 1, 0, 0), (16, .new 16, 3, 0, 0), (19, .dup, 1, 0, 0), (20, .bipush 16, 2, 0, 16), (22, .bipush 16, 2, 0, 16), (24, .invokespecial 18, 3, 0, 0), (27, .putfield 21, 3, 0, 0), (30, .aload_n 0, 1, 0, 0), (31, .bipush 8, 2, 0, 8), (33, .newarray .int, 2, 0, 0), (35, .putfield 25, 3, 0, 0), (38, .aload_n 0, 1, 0, 0), (39, .new 29, 3, 0, 0), (42, .dup, 1, 0, 0), (43, .invokespecial 31, 3, 0, 0), (46, .putfield 32, 3, 0, 0), (49, .aload_n 0, 1, 0, 0), (50, .new 36, 3, 0, 0), (53, .dup, 1, 0, 0), (54, .invokespecial 38, 3, 0, 0), (57, .putfield 39, 3, 0, 0), (60, .aload_n 0, 1, 0, 0), (61, .new 43, 3, 0, 0), (64, .dup, 1, 0, 0), (65, .invokespecial 45, 3, 0, 0), (68, .putfield 46, 3, 0, 0), (71, .aload_n 0, 1, 0, 0), (72, .new 50, 3, 0, 0), (75, .dup, 1, 0, 0), (76, .invokespecial 52, 3, 0, 0), (79, .putfield 53, 3, 0, 0), (82, .aload_n 0, 1, 0, 0), (83, .new 57, 3, 0, 0), (86, .dup, 1, 0, 0), (87, .invokespecial 59, 3, 0, 0), (90, .putfield 60, 3, 0, 0), (93, .aload_n 0, 1, 0, 0), (94, .new 16, 3, 0, 0), (97, .dup, 1, 0, 0), (98, .bipush 100, 2, 0, 100), (100, .iconst 0, 1, 0, 0), (101, .invokespecial 18, 3, 0, 0), (104, .putfield 64, 3, 0, 0), (107, .aload_n 0, 1, 0, 0), (108, .new 16, 3, 0, 0), (111, .dup, 1, 0, 0), (112, .bipush 100, 2, 0, 100), (114, .iconst 0, 1, 0, 0), (115, .invokespecial 18, 3, 0, 0), (118, .putfield 67, 3, 0, 0), (121, .return_, 1, 0, 0)]
def yA_node : MethodName := ⟨"FlowMixer", "node", "(III)I"⟩
def tbA_node : List mc_R := [(0, .aload_n 0, 1, 0, 0), (1, .getfield 12, 3, 0, 0), (4, .iload_n 1, 1, 0, 0), (5, .iload_n 2, 1, 0, 0), (6, .iload_n 3, 1, 0, 0), (7, .invokevirtual 70, 3, 0, 0), (10, .ifCond .ne 13, 3, 23, 0), (13, .new 74, 3, 0, 0), (16, .dup, 1, 0, 0), (17, .ldc 76, 2, 0, 0), (19, .invokespecial 78, 3, 0, 0), (22, .athrow, 1, 0, 0), (23, .aload_n 0, 1, 0, 0), (24, .getfield 12, 3, 0, 0), (27, .getfield 81, 3, 0, 0), (30, .sipush 150, 3, 0, 150), (33, .if_icmp .ge 18, 3, 51, 0), (36, .aload_n 0, 1, 0, 0), (37, .getfield 12, 3, 0, 0), (40, .iload_n 1, 1, 0, 0), (41, .iload_n 2, 1, 0, 0), (42, .iload_n 3, 1, 0, 0), (43, .invokevirtual 85, 3, 0, 0), (46, .bipush 60, 2, 0, 60), (48, .if_icmp .le 13, 3, 61, 0), (51, .new 89, 3, 0, 0), (54, .dup, 1, 0, 0), (55, .ldc 91, 2, 0, 0), (57, .invokespecial 93, 3, 0, 0), (60, .athrow, 1, 0, 0), (61, .aload_n 0, 1, 0, 0), (62, .getfield 12, 3, 0, 0), (65, .iload_n 1, 1, 0, 0), (66, .iload_n 2, 1, 0, 0), (67, .iload_n 3, 1, 0, 0), (68, .invokevirtual 94, 3, 0, 0), (71, .ireturn, 1, 0, 0)]
def yA_assign : MethodName := ⟨"FlowMixer", "assign", "(III)I"⟩
def tbA_assign : List mc_R := [(0, .iload_n 1, 1, 0, 0), (1, .invokestatic 97, 3, 0, 0), (4, .ifCond .eq 21, 3, 25, 0), (7, .iload_n 2, 1, 0, 0), (8, .invokestatic 101, 3, 0, 0), (11, .ifCond .eq 14, 3, 25, 0), (14, .aload_n 0, 1, 0, 0), (15, .getfield 12, 3, 0, 0), (18, .iload_n 3, 1, 0, 0), (19, .invokevirtual 104, 3, 0, 0), (22, .ifCond .ne 13, 3, 35, 0), (25, .new 74, 3, 0, 0), (28, .dup, 1, 0, 0), (29, .ldc 107, 2, 0, 0), (31, .invokespecial 78, 3, 0, 0), (34, .athrow, 1, 0, 0), (35, .aload_n 0, 1, 0, 0), (36, .getfield 21, 3, 0, 0), (39, .getfield 109, 3, 0, 0), (42, .iload_n 1, 1, 0, 0), (43, .iaload, 1, 0, 0), (44, .bipush 10, 2, 0, 10), (46, .if_icmp .lt 13, 3, 59, 0), (49, .new 89, 3, 0, 0), (52, .dup, 1, 0, 0), (53, .ldc 112, 2, 0, 0), (55, .invokespecial 93, 3, 0, 0), (58, .athrow, 1, 0, 0), (59, .aload_n 0, 1, 0, 0), (60, .getfield 21, 3, 0, 0), (63, .iload_n 1, 1, 0, 0), (64, .iload_n 2, 1, 0, 0), (65, .iload_n 3, 1, 0, 0), (66, .invokevirtual 114, 3, 0, 0), (69, .pop, 1, 0, 0), (70, .aload_n 0, 1, 0, 0), (71, .getfield 21, 3, 0, 0), (74, .getfield 109, 3, 0, 0), (77, .iload_n 1, 1, 0, 0), (78, .iaload, 1, 0, 0), (79, .ireturn, 1, 0, 0)]
def yA_jump : MethodName := ⟨"FlowMixer", "jump", "(IIIII)V"⟩
def tbA_jump : List mc_R := [(0, .iload_n 1, 1, 0, 0), (1, .invokestatic 97, 3, 0, 0), (4, .ifCond .eq 16, 3, 20, 0), (7, .aload_n 0, 1, 0, 0), (8, .iload_n 2, 1, 0, 0), (9, .iload_n 3, 1, 0, 0), (10, .iload 4, 2, 0, 0), (12, .iload 5, 2, 0, 0), (14, .invokevirtual 117, 3, 0, 0), (17, .ifCond .ne 13, 3, 30, 0), (20, .new 74, 3, 0, 0), (23, .dup, 1, 0, 0), (24, .ldc 121, 2, 0, 0), (26, .invokespecial 78, 3, 0, 0), (29, .athrow, 1, 0, 0), (30, .aload_n 0, 1, 0, 0), (31, .getfield 21, 3, 0, 0), (34, .iload_n 1, 1, 0, 0), (35, .iload_n 2, 1, 0, 0), (36, .iload_n 2, 1, 0, 0), (37, .ifCond .ne 9, 3, 46, 0), (40, .sipush 150, 3, 0, 150), (43, .goto 4, 3, 47, 0), (46, .iload_n 3, 1, 0, 0), (47, .invokevirtual 123, 3, 0, 0), (50, .aload_n 0, 1, 0, 0), (51, .getfield 21, 3, 0, 0), (54, .iload_n 1, 1, 0, 0), (55, .iload_n 2, 1, 0, 0), (56, .iconst 2, 1, 0, 2), (57, .if_icmp .ne 7, 3, 64, 0), (60, .iconst (-1), 1, 0, (-1)), (61, .goto 5, 3, 66, 0), (64, .iload 4, 2, 0, 0), (66, .iload_n 2, 1, 0, 0), (67, .iconst 1, 1, 0, 1), (68, .if_icmp .ne 8, 3, 76, 0), (71, .iload 5, 2, 0, 0), (73, .goto 4, 3, 77, 0), (76, .iconst (-1), 1, 0, (-1)), (77, .invokevirtual 127, 3, 0, 0), (80, .return_, 1, 0, 0)]
def yA_clear : MethodName := ⟨"FlowMixer", "clear", "(I)I"⟩
def tbA_clear : List mc_R := [(0, .iload_n 1, 1, 0, 0), (1, .invokestatic 97, 3, 0, 0), (4, .ifCond .ne 13, 3, 17, 0), (7, .new 74, 3, 0, 0), (10, .dup, 1, 0, 0), (11, .ldc 130, 2, 0, 0), (13, .invokespecial 78, 3, 0, 0), (16, .athrow, 1, 0, 0), (17, .aload_n 0, 1, 0, 0), (18, .getfield 21, 3, 0, 0), (21, .getfield 109, 3, 0, 0), (24, .iload_n 1, 1, 0, 0), (25, .iaload, 1, 0, 0), (26, .istore_n 2, 1, 0, 0), (27, .aload_n 0, 1, 0, 0), (28, .getfield 21, 3, 0, 0), (31, .iload_n 1, 1, 0, 0), (32, .iload_n 1, 1, 0, 0), (33, .invokevirtual 132, 3, 0, 0), (36, .iload_n 2, 1, 0, 0), (37, .ireturn, 1, 0, 0)]
def yA_input : MethodName := ⟨"FlowMixer", "input", "(II)I"⟩
def tbA_input : List mc_R := [(0, .iload_n 1, 1, 0, 0), (1, .invokestatic 101, 3, 0, 0), (4, .ifCond .ne 13, 3, 17, 0), (7, .new 74, 3, 0, 0), (10, .dup, 1, 0, 0), (11, .ldc 135, 2, 0, 0), (13, .invokespecial 78, 3, 0, 0), (16, .athrow, 1, 0, 0), (17, .aload_n 0, 1, 0, 0), (18, .getfield 25, 3, 0, 0), (21, .iload_n 1, 1, 0, 0), (22, .iaload, 1, 0, 0), (23, .istore_n 3, 1, 0, 0), (24, .aload_n 0, 1, 0, 0), (25, .getfield 25, 3, 0, 0), (28, .iload_n 1, 1, 0, 0), (29, .iload_n 2, 1, 0, 0), (30, .iastore, 1, 0, 0), (31, .iload_n 3, 1, 0, 0), (32, .ireturn, 1, 0, 0)]
def yA_run : MethodName := ⟨"FlowMixer", "run", "(I)Z"⟩
def tbA_run : List mc_R := [(0, .iload_n 1, 1, 0, 0), (1, .invokestatic 137, 3, 0, 0), (4, .ifCond .ne 13, 3, 17, 0), (7, .new 140, 3, 0, 0), (10, .dup, 1, 0, 0), (11, .ldc 142, 2, 0, 0), (13, .invokespecial 144, 3, 0, 0), (16, .athrow, 1, 0, 0), (17, .aload_n 0, 1, 0, 0), (18, .getfield 39, 3, 0, 0), (21, .aload_n 0, 1, 0, 0), (22, .getfield 12, 3, 0, 0), (25, .aload_n 0, 1, 0, 0), (26, .getfield 21, 3, 0, 0), (29, .aload_n 0, 1, 0, 0), (30, .getfield 25, 3, 0, 0), (33, .iload_n 1, 1, 0, 0), (34, .invokevirtual 145, 3, 0, 0), (37, .ireturn, 1, 0, 0)]
def yA_follow : MethodName := ⟨"FlowMixer", "follow", "(I)Z"⟩
def tbA_follow : List mc_R := [(0, .iload_n 1, 1, 0, 0), (1, .invokestatic 137, 3, 0, 0), (4, .ifCond .ne 13, 3, 17, 0), (7, .new 140, 3, 0, 0), (10, .dup, 1, 0, 0), (11, .ldc 142, 2, 0, 0), (13, .invokespecial 144, 3, 0, 0), (16, .athrow, 1, 0, 0), (17, .aload_n 0, 1, 0, 0), (18, .getfield 64, 3, 0, 0), (21, .getfield 149, 3, 0, 0), (24, .ifCond .ne 13, 3, 37, 0), (27, .new 89, 3, 0, 0), (30, .dup, 1, 0, 0), (31, .ldc 152, 2, 0, 0), (33, .invokespecial 93, 3, 0, 0), (36, .athrow, 1, 0, 0), (37, .aload_n 0, 1, 0, 0), (38, .getfield 39, 3, 0, 0), (41, .aload_n 0, 1, 0, 0), (42, .getfield 12, 3, 0, 0), (45, .aload_n 0, 1, 0, 0), (46, .getfield 64, 3, 0, 0), (49, .aload_n 0, 1, 0, 0), (50, .getfield 25, 3, 0, 0), (53, .iload_n 1, 1, 0, 0), (54, .invokevirtual 145, 3, 0, 0), (57, .ireturn, 1, 0, 0)]
def yA_result : MethodName := ⟨"FlowMixer", "result", "(I)I"⟩
def tbA_result : List mc_R := [(0, .iload_n 1, 1, 0, 0), (1, .tableswitch 51 0 2 #[27, 35, 43], 27, 0, 0), (28, .aload_n 0, 1, 0, 0), (29, .getfield 39, 3, 0, 0), (32, .getfield 154, 3, 0, 0), (35, .ireturn, 1, 0, 0), (36, .aload_n 0, 1, 0, 0), (37, .getfield 39, 3, 0, 0), (40, .getfield 157, 3, 0, 0), (43, .ireturn, 1, 0, 0), (44, .aload_n 0, 1, 0, 0), (45, .getfield 39, 3, 0, 0), (48, .getfield 160, 3, 0, 0), (51, .ireturn, 1, 0, 0), (52, .new 140, 3, 0, 0), (55, .dup, 1, 0, 0), (56, .ldc 163, 2, 0, 0), (58, .invokespecial 144, 3, 0, 0), (61, .athrow, 1, 0, 0)]
def yA_divide : MethodName := ⟨"FlowMixer", "divide", "(I)I"⟩
def tbA_divide : List mc_R := [(0, .iload_n 1, 1, 0, 0), (1, .invokestatic 165, 3, 0, 0), (4, .ifCond .ne 13, 3, 17, 0), (7, .new 140, 3, 0, 0), (10, .dup, 1, 0, 0), (11, .ldc 168, 2, 0, 0), (13, .invokespecial 144, 3, 0, 0), (16, .athrow, 1, 0, 0), (17, .aload_n 0, 1, 0, 0), (18, .getfield 32, 3, 0, 0), (21, .aload_n 0, 1, 0, 0), (22, .getfield 12, 3, 0, 0), (25, .aload_n 0, 1, 0, 0), (26, .getfield 21, 3, 0, 0), (29, .iload_n 1, 1, 0, 0), (30, .invokevirtual 170, 3, 0, 0), (33, .ireturn, 1, 0, 0)]
def yA_live : MethodName := ⟨"FlowMixer", "live", "(I)I"⟩
def tbA_live : List mc_R := [(0, .iload_n 1, 1, 0, 0), (1, .invokestatic 97, 3, 0, 0), (4, .ifCond .ne 13, 3, 17, 0), (7, .new 74, 3, 0, 0), (10, .dup, 1, 0, 0), (11, .ldc 130, 2, 0, 0), (13, .invokespecial 78, 3, 0, 0), (16, .athrow, 1, 0, 0), (17, .aload_n 0, 1, 0, 0), (18, .getfield 32, 3, 0, 0), (21, .aload_n 0, 1, 0, 0), (22, .getfield 12, 3, 0, 0), (25, .aload_n 0, 1, 0, 0), (26, .getfield 21, 3, 0, 0), (29, .invokevirtual 174, 3, 0, 0), (32, .aload_n 0, 1, 0, 0), (33, .getfield 32, 3, 0, 0), (36, .getfield 178, 3, 0, 0), (39, .iload_n 1, 1, 0, 0), (40, .iaload, 1, 0, 0), (41, .ireturn, 1, 0, 0)]
def yA_mix : MethodName := ⟨"FlowMixer", "mix", "(I)I"⟩
def tbA_mix : List mc_R := [(0, .iload_n 1, 1, 0, 0), (1, .invokestatic 165, 3, 0, 0), (4, .ifCond .ne 13, 3, 17, 0), (7, .new 140, 3, 0, 0), (10, .dup, 1, 0, 0), (11, .ldc 168, 2, 0, 0), (13, .invokespecial 144, 3, 0, 0), (16, .athrow, 1, 0, 0), (17, .aload_n 0, 1, 0, 0), (18, .getfield 32, 3, 0, 0), (21, .aload_n 0, 1, 0, 0), (22, .getfield 12, 3, 0, 0), (25, .aload_n 0, 1, 0, 0), (26, .getfield 21, 3, 0, 0), (29, .invokevirtual 174, 3, 0, 0), (32, .aload_n 0, 1, 0, 0), (33, .getfield 67, 3, 0, 0), (36, .aload_n 0, 1, 0, 0), (37, .getfield 32, 3, 0, 0), (40, .aload_n 0, 1, 0, 0), (41, .getfield 12, 3, 0, 0), (44, .aload_n 0, 1, 0, 0), (45, .getfield 21, 3, 0, 0), (48, .iload_n 1, 1, 0, 0), (49, .invokevirtual 170, 3, 0, 0), (52, .putfield 181, 3, 0, 0), (55, .aload_n 0, 1, 0, 0), (56, .getfield 46, 3, 0, 0), (59, .aload_n 0, 1, 0, 0), (60, .getfield 12, 3, 0, 0), (63, .aload_n 0, 1, 0, 0), (64, .getfield 21, 3, 0, 0), (67, .aload_n 0, 1, 0, 0), (68, .getfield 32, 3, 0, 0), (71, .getfield 178, 3, 0, 0), (74, .aload_n 0, 1, 0, 0), (75, .getfield 25, 3, 0, 0), (78, .aload_n 0, 1, 0, 0), (79, .getfield 67, 3, 0, 0), (82, .invokevirtual 184, 3, 0, 0), (85, .ifCond .ne 5, 3, 90, 0), (88, .iconst (-1), 1, 0, (-1)), (89, .ireturn, 1, 0, 0), (90, .aload_n 0, 1, 0, 0), (91, .getfield 64, 3, 0, 0), (94, .astore_n 2, 1, 0, 0), (95, .aload_n 0, 1, 0, 0), (96, .aload_n 0, 1, 0, 0), (97, .getfield 67, 3, 0, 0), (100, .putfield 64, 3, 0, 0), (103, .aload_n 0, 1, 0, 0), (104, .aload_n 2, 1, 0, 0), (105, .putfield 67, 3, 0, 0), (108, .aload_n 0, 1, 0, 0), (109, .getfield 60, 3, 0, 0), (112, .iconst 1, 1, 0, 1), (113, .putfield 188, 3, 0, 0), (116, .aload_n 0, 1, 0, 0), (117, .getfield 64, 3, 0, 0), (120, .getfield 149, 3, 0, 0), (123, .ireturn, 1, 0, 0)]
def yA_compress : MethodName := ⟨"FlowMixer", "compress", "()I"⟩
def tbA_compress : List mc_R := [(0, .aload_n 0, 1, 0, 0), (1, .getfield 64, 3, 0, 0), (4, .getfield 149, 3, 0, 0), (7, .ifCond .ne 13, 3, 20, 0), (10, .new 89, 3, 0, 0), (13, .dup, 1, 0, 0), (14, .ldc 152, 2, 0, 0), (16, .invokespecial 93, 3, 0, 0), (19, .athrow, 1, 0, 0), (20, .aload_n 0, 1, 0, 0), (21, .getfield 53, 3, 0, 0), (24, .aload_n 0, 1, 0, 0), (25, .getfield 64, 3, 0, 0), (28, .invokevirtual 192, 3, 0, 0), (31, .aload_n 0, 1, 0, 0), (32, .getfield 60, 3, 0, 0), (35, .iconst 1, 1, 0, 1), (36, .putfield 188, 3, 0, 0), (39, .aload_n 0, 1, 0, 0), (40, .getfield 64, 3, 0, 0), (43, .getfield 149, 3, 0, 0), (46, .ireturn, 1, 0, 0)]
def yA_about : MethodName := ⟨"FlowMixer", "about", "(II)I"⟩
def tbA_about : List mc_R := [(0, .iload_n 1, 1, 0, 0), (1, .ifCond .lt 14, 3, 15, 0), (4, .iload_n 1, 1, 0, 0), (5, .aload_n 0, 1, 0, 0), (6, .getfield 64, 3, 0, 0), (9, .getfield 149, 3, 0, 0), (12, .if_icmp .lt 13, 3, 25, 0), (15, .new 74, 3, 0, 0), (18, .dup, 1, 0, 0), (19, .ldc 195, 2, 0, 0), (21, .invokespecial 78, 3, 0, 0), (24, .athrow, 1, 0, 0), (25, .aload_n 0, 1, 0, 0), (26, .getfield 64, 3, 0, 0), (29, .getfield 197, 3, 0, 0), (32, .iload_n 1, 1, 0, 0), (33, .iaload, 1, 0, 0), (34, .istore_n 3, 1, 0, 0), (35, .iload_n 2, 1, 0, 0), (36, .tableswitch 86 0 4 #[36, 46, 56, 66, 76], 36, 0, 0), (72, .aload_n 0, 1, 0, 0), (73, .getfield 64, 3, 0, 0), (76, .getfield 200, 3, 0, 0), (79, .iload_n 1, 1, 0, 0), (80, .iaload, 1, 0, 0), (81, .ireturn, 1, 0, 0), (82, .aload_n 0, 1, 0, 0), (83, .getfield 64, 3, 0, 0), (86, .getfield 109, 3, 0, 0), (89, .iload_n 1, 1, 0, 0), (90, .iaload, 1, 0, 0), (91, .ireturn, 1, 0, 0), (92, .aload_n 0, 1, 0, 0), (93, .getfield 64, 3, 0, 0), (96, .getfield 203, 3, 0, 0), (99, .iload_n 3, 1, 0, 0), (100, .iaload, 1, 0, 0), (101, .ireturn, 1, 0, 0), (102, .aload_n 0, 1, 0, 0), (103, .getfield 64, 3, 0, 0), (106, .getfield 206, 3, 0, 0), (109, .iload_n 3, 1, 0, 0), (110, .iaload, 1, 0, 0), (111, .ireturn, 1, 0, 0), (112, .aload_n 0, 1, 0, 0), (113, .getfield 64, 3, 0, 0), (116, .getfield 209, 3, 0, 0), (119, .iload_n 3, 1, 0, 0), (120, .iaload, 1, 0, 0), (121, .ireturn, 1, 0, 0), (122, .new 140, 3, 0, 0), (125, .dup, 1, 0, 0), (126, .ldc 212, 2, 0, 0), (128, .invokespecial 144, 3, 0, 0), (131, .athrow, 1, 0, 0)]
def yA_sign : MethodName := ⟨"FlowMixer", "sign", "(I)I"⟩
def tbA_sign : List mc_R := [(0, .aload_n 0, 1, 0, 0), (1, .getfield 60, 3, 0, 0), (4, .aload_n 0, 1, 0, 0), (5, .getfield 12, 3, 0, 0), (8, .aload_n 0, 1, 0, 0), (9, .getfield 64, 3, 0, 0), (12, .invokevirtual 214, 3, 0, 0), (15, .iload_n 1, 1, 0, 0), (16, .ifCond .lt 21, 3, 37, 0), (19, .iload_n 1, 1, 0, 0), (20, .aload_n 0, 1, 0, 0), (21, .getfield 60, 3, 0, 0), (24, .getfield 217, 3, 0, 0), (27, .if_icmp .ge 10, 3, 37, 0), (30, .iload_n 1, 1, 0, 0), (31, .sipush 3000, 3, 0, 3000), (34, .if_icmp .lt 13, 3, 47, 0), (37, .new 74, 3, 0, 0), (40, .dup, 1, 0, 0), (41, .ldc 220, 2, 0, 0), (43, .invokespecial 78, 3, 0, 0), (46, .athrow, 1, 0, 0), (47, .aload_n 0, 1, 0, 0), (48, .getfield 60, 3, 0, 0), (51, .getfield 222, 3, 0, 0), (54, .iload_n 1, 1, 0, 0), (55, .caload, 1, 0, 0), (56, .ireturn, 1, 0, 0)]
def yA_count : MethodName := ⟨"FlowMixer", "count", "(I)I"⟩
def tbA_count : List mc_R := [(0, .iload_n 1, 1, 0, 0), (1, .tableswitch 78 0 3 #[31, 39, 47, 70], 31, 0, 0), (32, .aload_n 0, 1, 0, 0), (33, .getfield 12, 3, 0, 0), (36, .getfield 81, 3, 0, 0), (39, .ireturn, 1, 0, 0), (40, .aload_n 0, 1, 0, 0), (41, .getfield 64, 3, 0, 0), (44, .getfield 149, 3, 0, 0), (47, .ireturn, 1, 0, 0), (48, .aload_n 0, 1, 0, 0), (49, .getfield 60, 3, 0, 0), (52, .aload_n 0, 1, 0, 0), (53, .getfield 12, 3, 0, 0), (56, .aload_n 0, 1, 0, 0), (57, .getfield 64, 3, 0, 0), (60, .invokevirtual 214, 3, 0, 0), (63, .aload_n 0, 1, 0, 0), (64, .getfield 60, 3, 0, 0), (67, .getfield 217, 3, 0, 0), (70, .ireturn, 1, 0, 0), (71, .aload_n 0, 1, 0, 0), (72, .getfield 12, 3, 0, 0), (75, .getfield 226, 3, 0, 0), (78, .ireturn, 1, 0, 0), (79, .new 140, 3, 0, 0), (82, .dup, 1, 0, 0), (83, .ldc 229, 2, 0, 0), (85, .invokespecial 144, 3, 0, 0), (88, .athrow, 1, 0, 0)]
def yA_canJump : MethodName := ⟨"FlowMixer", "canJump", "(IIII)Z"⟩
def tbA_canJump : List mc_R := [(0, .iload_n 1, 1, 0, 0), (1, .tableswitch 73 0 2 #[27, 32, 64], 27, 0, 0), (28, .iload_n 3, 1, 0, 0), (29, .invokestatic 97, 3, 0, 0), (32, .ireturn, 1, 0, 0), (33, .aload_n 0, 1, 0, 0), (34, .getfield 12, 3, 0, 0), (37, .iload_n 2, 1, 0, 0), (38, .invokevirtual 104, 3, 0, 0), (41, .ifCond .eq 22, 3, 63, 0), (44, .iload_n 3, 1, 0, 0), (45, .invokestatic 97, 3, 0, 0), (48, .ifCond .eq 15, 3, 63, 0), (51, .iload 4, 2, 0, 0), (53, .invokestatic 97, 3, 0, 0), (56, .ifCond .eq 7, 3, 63, 0), (59, .iconst 1, 1, 0, 1), (60, .goto 4, 3, 64, 0), (63, .iconst 0, 1, 0, 0), (64, .ireturn, 1, 0, 0), (65, .aload_n 0, 1, 0, 0), (66, .getfield 12, 3, 0, 0), (69, .iload_n 2, 1, 0, 0), (70, .invokevirtual 104, 3, 0, 0), (73, .ireturn, 1, 0, 0), (74, .iconst 0, 1, 0, 0), (75, .ireturn, 1, 0, 0)]
def yA_isBlock : MethodName := ⟨"FlowMixer", "isBlock", "(I)Z"⟩
def tbA_isBlock : List mc_R := [(0, .iload_n 0, 1, 0, 0), (1, .ifCond .lt 13, 3, 14, 0), (4, .iload_n 0, 1, 0, 0), (5, .bipush 16, 2, 0, 16), (7, .if_icmp .ge 7, 3, 14, 0), (10, .iconst 1, 1, 0, 1), (11, .goto 4, 3, 15, 0), (14, .iconst 0, 1, 0, 0), (15, .ireturn, 1, 0, 0)]
def yA_isVariable : MethodName := ⟨"FlowMixer", "isVariable", "(I)Z"⟩
def tbA_isVariable : List mc_R := [(0, .iload_n 0, 1, 0, 0), (1, .ifCond .lt 13, 3, 14, 0), (4, .iload_n 0, 1, 0, 0), (5, .bipush 8, 2, 0, 8), (7, .if_icmp .ge 7, 3, 14, 0), (10, .iconst 1, 1, 0, 1), (11, .goto 4, 3, 15, 0), (14, .iconst 0, 1, 0, 0), (15, .ireturn, 1, 0, 0)]
def yA_isVariableSet : MethodName := ⟨"FlowMixer", "isVariableSet", "(I)Z"⟩
def tbA_isVariableSet : List mc_R := [(0, .iload_n 0, 1, 0, 0), (1, .ifCond .lt 14, 3, 15, 0), (4, .iload_n 0, 1, 0, 0), (5, .sipush 255, 3, 0, 255), (8, .if_icmp .gt 7, 3, 15, 0), (11, .iconst 1, 1, 0, 1), (12, .goto 4, 3, 16, 0), (15, .iconst 0, 1, 0, 0), (16, .ireturn, 1, 0, 0)]
def yA_isStepLimit : MethodName := ⟨"FlowMixer", "isStepLimit", "(I)Z"⟩
def tbA_isStepLimit : List mc_R := [(0, .iload_n 0, 1, 0, 0), (1, .ifCond .lt 14, 3, 15, 0), (4, .iload_n 0, 1, 0, 0), (5, .sipush 5000, 3, 0, 5000), (8, .if_icmp .gt 7, 3, 15, 0), (11, .iconst 1, 1, 0, 1), (12, .goto 4, 3, 16, 0), (15, .iconst 0, 1, 0, 0), (16, .ireturn, 1, 0, 0)]
def yN_init : MethodName := ⟨"FlowMixer$Nodes", "<init>", "()V"⟩
def tbN_init : List mc_R := [(0, .aload_n 0, 1, 0, 0), (1, .invokespecial 3, 3, 0, 0), (4, .aload_n 0, 1, 0, 0), (5, .sipush 151, 3, 0, 151), (8, .newarray .int, 2, 0, 0), (10, .putfield 9, 3, 0, 0), (13, .aload_n 0, 1, 0, 0), (14, .sipush 151, 3, 0, 151), (17, .newarray .int, 2, 0, 0), (19, .putfield 15, 3, 0, 0), (22, .aload_n 0, 1, 0, 0), (23, .sipush 151, 3, 0, 151), (26, .newarray .int, 2, 0, 0), (28, .putfield 18, 3, 0, 0), (31, .aload_n 0, 1, 0, 0), (32, .sipush 151, 3, 0, 151), (35, .newarray .int, 2, 0, 0), (37, .putfield 21, 3, 0, 0), (40, .aload_n 0, 1, 0, 0), (41, .sipush 151, 3, 0, 151), (44, .newarray .int, 2, 0, 0), (46, .putfield 24, 3, 0, 0), (49, .return_, 1, 0, 0)]
def yN_has : MethodName := ⟨"FlowMixer$Nodes", "has", "(I)Z"⟩
def tbN_has : List mc_R := [(0, .iload_n 1, 1, 0, 0), (1, .ifCond .lt 15, 3, 16, 0), (4, .iload_n 1, 1, 0, 0), (5, .aload_n 0, 1, 0, 0), (6, .getfield 27, 3, 0, 0), (9, .if_icmp .ge 7, 3, 16, 0), (12, .iconst 1, 1, 0, 1), (13, .goto 4, 3, 17, 0), (16, .iconst 0, 1, 0, 0), (17, .ireturn, 1, 0, 0)]
def yN_canBe : MethodName := ⟨"FlowMixer$Nodes", "canBe", "(III)Z"⟩
def tbN_canBe : List mc_R := [(0, .iload_n 1, 1, 0, 0), (1, .ifCond .ne 5, 3, 6, 0), (4, .iconst 1, 1, 0, 1), (5, .ireturn, 1, 0, 0), (6, .iload_n 1, 1, 0, 0), (7, .iconst 1, 1, 0, 1), (8, .if_icmp .ne 8, 3, 16, 0), (11, .iload_n 2, 1, 0, 0), (12, .invokestatic 31, 3, 0, 0), (15, .ireturn, 1, 0, 0), (16, .iload_n 1, 1, 0, 0), (17, .iconst 2, 1, 0, 2), (18, .if_icmp .lt 29, 3, 47, 0), (21, .iload_n 1, 1, 0, 0), (22, .bipush 6, 2, 0, 6), (24, .if_icmp .gt 23, 3, 47, 0), (27, .aload_n 0, 1, 0, 0), (28, .iload_n 2, 1, 0, 0), (29, .invokevirtual 35, 3, 0, 0), (32, .ifCond .eq 15, 3, 47, 0), (35, .aload_n 0, 1, 0, 0), (36, .iload_n 3, 1, 0, 0), (37, .invokevirtual 35, 3, 0, 0), (40, .ifCond .eq 7, 3, 47, 0), (43, .iconst 1, 1, 0, 1), (44, .goto 4, 3, 48, 0), (47, .iconst 0, 1, 0, 0), (48, .ireturn, 1, 0, 0)]
def yN_sizeWith : MethodName := ⟨"FlowMixer$Nodes", "sizeWith", "(III)I"⟩
def tbN_sizeWith : List mc_R := [(0, .iload_n 1, 1, 0, 0), (1, .iconst 1, 1, 0, 1), (2, .if_icmp .gt 7, 3, 9, 0), (5, .iconst 1, 1, 0, 1), (6, .goto 18, 3, 24, 0), (9, .iconst 1, 1, 0, 1), (10, .aload_n 0, 1, 0, 0), (11, .getfield 21, 3, 0, 0), (14, .iload_n 2, 1, 0, 0), (15, .iaload, 1, 0, 0), (16, .iadd, 1, 0, 0), (17, .aload_n 0, 1, 0, 0), (18, .getfield 21, 3, 0, 0), (21, .iload_n 3, 1, 0, 0), (22, .iaload, 1, 0, 0), (23, .iadd, 1, 0, 0), (24, .ireturn, 1, 0, 0)]
def yN_variablesWith : MethodName := ⟨"FlowMixer$Nodes", "variablesWith", "(III)I"⟩
def tbN_variablesWith : List mc_R := [(0, .iload_n 1, 1, 0, 0), (1, .ifCond .ne 5, 3, 6, 0), (4, .iconst 0, 1, 0, 0), (5, .ireturn, 1, 0, 0), (6, .iload_n 1, 1, 0, 0), (7, .iconst 1, 1, 0, 1), (8, .if_icmp .ne 9, 3, 17, 0), (11, .iconst 1, 1, 0, 1), (12, .iload_n 2, 1, 0, 0), (13, .ishl, 1, 0, 0), (14, .goto 16, 3, 30, 0), (17, .aload_n 0, 1, 0, 0), (18, .getfield 24, 3, 0, 0), (21, .iload_n 2, 1, 0, 0), (22, .iaload, 1, 0, 0), (23, .aload_n 0, 1, 0, 0), (24, .getfield 24, 3, 0, 0), (27, .iload_n 3, 1, 0, 0), (28, .iaload, 1, 0, 0), (29, .ior, 1, 0, 0), (30, .ireturn, 1, 0, 0)]
def yN_add : MethodName := ⟨"FlowMixer$Nodes", "add", "(III)I"⟩
def tbN_add : List mc_R := [(0, .aload_n 0, 1, 0, 0), (1, .getfield 27, 3, 0, 0), (4, .istore 4, 2, 0, 0), (6, .aload_n 0, 1, 0, 0), (7, .getfield 9, 3, 0, 0), (10, .iload 4, 2, 0, 0), (12, .iload_n 1, 1, 0, 0), (13, .iastore, 1, 0, 0), (14, .aload_n 0, 1, 0, 0), (15, .getfield 15, 3, 0, 0), (18, .iload 4, 2, 0, 0), (20, .iload_n 2, 1, 0, 0), (21, .iastore, 1, 0, 0), (22, .aload_n 0, 1, 0, 0), (23, .getfield 18, 3, 0, 0), (26, .iload 4, 2, 0, 0), (28, .iload_n 3, 1, 0, 0), (29, .iastore, 1, 0, 0), (30, .aload_n 0, 1, 0, 0), (31, .getfield 21, 3, 0, 0), (34, .iload 4, 2, 0, 0), (36, .aload_n 0, 1, 0, 0), (37, .iload_n 1, 1, 0, 0), (38, .iload_n 2, 1, 0, 0), (39, .iload_n 3, 1, 0, 0), (40, .invokevirtual 38, 3, 0, 0), (43, .iastore, 1, 0, 0), (44, .aload_n 0, 1, 0, 0), (45, .getfield 24, 3, 0, 0), (48, .iload 4, 2, 0, 0), (50, .aload_n 0, 1, 0, 0), (51, .iload_n 1, 1, 0, 0), (52, .iload_n 2, 1, 0, 0), (53, .iload_n 3, 1, 0, 0), (54, .invokevirtual 42, 3, 0, 0), (57, .iastore, 1, 0, 0), (58, .aload_n 0, 1, 0, 0), (59, .aload_n 0, 1, 0, 0), (60, .getfield 45, 3, 0, 0), (63, .aload_n 0, 1, 0, 0), (64, .getfield 21, 3, 0, 0), (67, .iload 4, 2, 0, 0), (69, .iaload, 1, 0, 0), (70, .invokestatic 48, 3, 0, 0), (73, .putfield 45, 3, 0, 0), (76, .aload_n 0, 1, 0, 0), (77, .iload 4, 2, 0, 0), (79, .iconst 1, 1, 0, 1), (80, .iadd, 1, 0, 0), (81, .putfield 27, 3, 0, 0), (84, .iload 4, 2, 0, 0), (86, .ireturn, 1, 0, 0)]
def yN_valueOf : MethodName := ⟨"FlowMixer$Nodes", "valueOf", "(I[II)I"⟩
def tbN_valueOf : List mc_R := [(0, .aload_n 0, 1, 0, 0), (1, .getfield 9, 3, 0, 0), (4, .iload_n 1, 1, 0, 0), (5, .iaload, 1, 0, 0), (6, .istore 4, 2, 0, 0), (8, .iload 4, 2, 0, 0), (10, .ifCond .ne 10, 3, 20, 0), (13, .aload_n 0, 1, 0, 0), (14, .getfield 15, 3, 0, 0), (17, .iload_n 1, 1, 0, 0), (18, .iaload, 1, 0, 0), (19, .ireturn, 1, 0, 0), (20, .iload 4, 2, 0, 0), (22, .iconst 1, 1, 0, 1), (23, .if_icmp .ne 12, 3, 35, 0), (26, .aload_n 2, 1, 0, 0), (27, .aload_n 0, 1, 0, 0), (28, .getfield 15, 3, 0, 0), (31, .iload_n 1, 1, 0, 0), (32, .iaload, 1, 0, 0), (33, .iaload, 1, 0, 0), (34, .ireturn, 1, 0, 0), (35, .iload_n 3, 1, 0, 0), (36, .bipush 40, 2, 0, 40), (38, .if_icmp .le 5, 3, 43, 0), (41, .iconst 0, 1, 0, 0), (42, .ireturn, 1, 0, 0), (43, .aload_n 0, 1, 0, 0), (44, .aload_n 0, 1, 0, 0), (45, .getfield 15, 3, 0, 0), (48, .iload_n 1, 1, 0, 0), (49, .iaload, 1, 0, 0), (50, .aload_n 2, 1, 0, 0), (51, .iload_n 3, 1, 0, 0), (52, .iconst 1, 1, 0, 1), (53, .iadd, 1, 0, 0), (54, .invokevirtual 54, 3, 0, 0), (57, .istore 5, 2, 0, 0), (59, .aload_n 0, 1, 0, 0), (60, .aload_n 0, 1, 0, 0), (61, .getfield 18, 3, 0, 0), (64, .iload_n 1, 1, 0, 0), (65, .iaload, 1, 0, 0), (66, .aload_n 2, 1, 0, 0), (67, .iload_n 3, 1, 0, 0), (68, .iconst 1, 1, 0, 1), (69, .iadd, 1, 0, 0), (70, .invokevirtual 54, 3, 0, 0), (73, .istore 6, 2, 0, 0), (75, .iload 4, 2, 0, 0), (77, .iload 5, 2, 0, 0), (79, .iload 6, 2, 0, 0), (81, .invokestatic 58, 3, 0, 0), (84, .ireturn, 1, 0, 0)]
def yN_combine : MethodName := ⟨"FlowMixer$Nodes", "combine", "(III)I"⟩
def tbN_combine : List mc_R := [(0, .iload_n 0, 1, 0, 0), (1, .tableswitch 54 2 5 #[31, 35, 39, 43], 31, 0, 0), (32, .iload_n 1, 1, 0, 0), (33, .iload_n 2, 1, 0, 0), (34, .iadd, 1, 0, 0), (35, .ireturn, 1, 0, 0), (36, .iload_n 1, 1, 0, 0), (37, .iload_n 2, 1, 0, 0), (38, .isub, 1, 0, 0), (39, .ireturn, 1, 0, 0), (40, .iload_n 1, 1, 0, 0), (41, .iload_n 2, 1, 0, 0), (42, .imul, 1, 0, 0), (43, .ireturn, 1, 0, 0), (44, .iload_n 1, 1, 0, 0), (45, .iload_n 2, 1, 0, 0), (46, .if_icmp .ne 7, 3, 53, 0), (49, .iconst 1, 1, 0, 1), (50, .goto 4, 3, 54, 0), (53, .iconst 0, 1, 0, 0), (54, .ireturn, 1, 0, 0), (55, .iload_n 1, 1, 0, 0), (56, .iload_n 2, 1, 0, 0), (57, .if_icmp .ge 7, 3, 64, 0), (60, .iconst 1, 1, 0, 1), (61, .goto 4, 3, 65, 0), (64, .iconst 0, 1, 0, 0), (65, .ireturn, 1, 0, 0)]
def yF_init : MethodName := ⟨"FlowMixer$Flow", "<init>", "(II)V"⟩
def tbF_init : List mc_R := [(0, .aload_n 0, 1, 0, 0), (1, .invokespecial 3, 3, 0, 0), (4, .aload_n 0, 1, 0, 0), (5, .iload_n 1, 1, 0, 0), (6, .newarray .int, 2, 0, 0), (8, .putfield 9, 3, 0, 0), (11, .aload_n 0, 1, 0, 0), (12, .iload_n 1, 1, 0, 0), (13, .newarray .int, 2, 0, 0), (15, .putfield 15, 3, 0, 0), (18, .aload_n 0, 1, 0, 0), (19, .iload_n 1, 1, 0, 0), (20, .newarray .int, 2, 0, 0), (22, .putfield 18, 3, 0, 0), (25, .aload_n 0, 1, 0, 0), (26, .iload_n 1, 1, 0, 0), (27, .newarray .int, 2, 0, 0), (29, .putfield 21, 3, 0, 0), (32, .aload_n 0, 1, 0, 0), (33, .iload_n 1, 1, 0, 0), (34, .newarray .int, 2, 0, 0), (36, .putfield 24, 3, 0, 0), (39, .aload_n 0, 1, 0, 0), (40, .iload_n 1, 1, 0, 0), (41, .newarray .int, 2, 0, 0), (43, .putfield 27, 3, 0, 0), (46, .aload_n 0, 1, 0, 0), (47, .iload_n 1, 1, 0, 0), (48, .newarray .int, 2, 0, 0), (50, .putfield 30, 3, 0, 0), (53, .aload_n 0, 1, 0, 0), (54, .iload_n 1, 1, 0, 0), (55, .newarray .int, 2, 0, 0), (57, .putfield 33, 3, 0, 0), (60, .aload_n 0, 1, 0, 0), (61, .iload_n 1, 1, 0, 0), (62, .bipush 11, 2, 0, 11), (64, .imul, 1, 0, 0), (65, .newarray .int, 2, 0, 0), (67, .putfield 36, 3, 0, 0), (70, .aload_n 0, 1, 0, 0), (71, .iload_n 1, 1, 0, 0), (72, .bipush 11, 2, 0, 11), (74, .imul, 1, 0, 0), (75, .newarray .int, 2, 0, 0), (77, .putfield 39, 3, 0, 0), (80, .aload_n 0, 1, 0, 0), (81, .iload_n 1, 1, 0, 0), (82, .bipush 11, 2, 0, 11), (84, .imul, 1, 0, 0), (85, .newarray .int, 2, 0, 0), (87, .putfield 42, 3, 0, 0), (90, .aload_n 0, 1, 0, 0), (91, .iload_n 1, 1, 0, 0), (92, .bipush 11, 2, 0, 11), (94, .imul, 1, 0, 0), (95, .bipush 8, 2, 0, 8), (97, .imul, 1, 0, 0), (98, .newarray .int, 2, 0, 0), (100, .putfield 45, 3, 0, 0), (103, .aload_n 0, 1, 0, 0), (104, .iload_n 2, 1, 0, 0), (105, .putfield 48, 3, 0, 0), (108, .iconst 0, 1, 0, 0), (109, .istore_n 3, 1, 0, 0), (110, .iload_n 3, 1, 0, 0), (111, .iload_n 2, 1, 0, 0), (112, .if_icmp .ge 15, 3, 127, 0), (115, .aload_n 0, 1, 0, 0), (116, .iload_n 3, 1, 0, 0), (117, .iload_n 3, 1, 0, 0), (118, .invokevirtual 52, 3, 0, 0), (121, .iinc 3 1, 3, 0, 1), (124, .goto (-14), 3, 110, 0), (127, .return_, 1, 0, 0)]
def yF_makeEmpty : MethodName := ⟨"FlowMixer$Flow", "makeEmpty", "(II)V"⟩
def tbF_makeEmpty : List mc_R := [(0, .aload_n 0, 1, 0, 0), (1, .getfield 9, 3, 0, 0), (4, .iload_n 1, 1, 0, 0), (5, .iload_n 2, 1, 0, 0), (6, .iastore, 1, 0, 0), (7, .aload_n 0, 1, 0, 0), (8, .getfield 15, 3, 0, 0), (11, .iload_n 1, 1, 0, 0), (12, .iconst 0, 1, 0, 0), (13, .iastore, 1, 0, 0), (14, .aload_n 0, 1, 0, 0), (15, .getfield 24, 3, 0, 0), (18, .iload_n 1, 1, 0, 0), (19, .iload_n 1, 1, 0, 0), (20, .iastore, 1, 0, 0), (21, .aload_n 0, 1, 0, 0), (22, .iload_n 1, 1, 0, 0), (23, .iconst 2, 1, 0, 2), (24, .sipush 150, 3, 0, 150), (27, .invokevirtual 56, 3, 0, 0), (30, .aload_n 0, 1, 0, 0), (31, .iload_n 1, 1, 0, 0), (32, .iconst (-1), 1, 0, (-1)), (33, .iconst (-1), 1, 0, (-1)), (34, .invokevirtual 60, 3, 0, 0), (37, .return_, 1, 0, 0)]
def yF_append : MethodName := ⟨"FlowMixer$Flow", "append", "(III)I"⟩
def tbF_append : List mc_R := [(0, .iload_n 1, 1, 0, 0), (1, .bipush 11, 2, 0, 11), (3, .imul, 1, 0, 0), (4, .aload_n 0, 1, 0, 0), (5, .getfield 15, 3, 0, 0), (8, .iload_n 1, 1, 0, 0), (9, .iaload, 1, 0, 0), (10, .iadd, 1, 0, 0), (11, .istore 4, 2, 0, 0), (13, .aload_n 0, 1, 0, 0), (14, .getfield 36, 3, 0, 0), (17, .iload 4, 2, 0, 0), (19, .iload_n 2, 1, 0, 0), (20, .iastore, 1, 0, 0), (21, .aload_n 0, 1, 0, 0), (22, .getfield 39, 3, 0, 0), (25, .iload 4, 2, 0, 0), (27, .iload_n 3, 1, 0, 0), (28, .iastore, 1, 0, 0), (29, .aload_n 0, 1, 0, 0), (30, .getfield 15, 3, 0, 0), (33, .iload_n 1, 1, 0, 0), (34, .iaload, 1, 0, 0), (35, .ifCond .ne 14, 3, 49, 0), (38, .aload_n 0, 1, 0, 0), (39, .getfield 18, 3, 0, 0), (42, .iload_n 1, 1, 0, 0), (43, .iload 4, 2, 0, 0), (45, .iastore, 1, 0, 0), (46, .goto 16, 3, 62, 0), (49, .aload_n 0, 1, 0, 0), (50, .getfield 42, 3, 0, 0), (53, .aload_n 0, 1, 0, 0), (54, .getfield 21, 3, 0, 0), (57, .iload_n 1, 1, 0, 0), (58, .iaload, 1, 0, 0), (59, .iload 4, 2, 0, 0), (61, .iastore, 1, 0, 0), (62, .aload_n 0, 1, 0, 0), (63, .getfield 21, 3, 0, 0), (66, .iload_n 1, 1, 0, 0), (67, .iload 4, 2, 0, 0), (69, .iastore, 1, 0, 0), (70, .aload_n 0, 1, 0, 0), (71, .getfield 15, 3, 0, 0), (74, .iload_n 1, 1, 0, 0), (75, .dup2, 1, 0, 0), (76, .iaload, 1, 0, 0), (77, .iconst 1, 1, 0, 1), (78, .iadd, 1, 0, 0), (79, .iastore, 1, 0, 0), (80, .iload 4, 2, 0, 0), (82, .ireturn, 1, 0, 0)]
def yF_setJump : MethodName := ⟨"FlowMixer$Flow", "setJump", "(III)V"⟩
def tbF_setJump : List mc_R := [(0, .aload_n 0, 1, 0, 0), (1, .getfield 27, 3, 0, 0), (4, .aload_n 0, 1, 0, 0), (5, .getfield 24, 3, 0, 0), (8, .iload_n 1, 1, 0, 0), (9, .iaload, 1, 0, 0), (10, .iload_n 2, 1, 0, 0), (11, .iastore, 1, 0, 0), (12, .aload_n 0, 1, 0, 0), (13, .getfield 39, 3, 0, 0), (16, .aload_n 0, 1, 0, 0), (17, .iload_n 1, 1, 0, 0), (18, .invokevirtual 63, 3, 0, 0), (21, .iload_n 3, 1, 0, 0), (22, .iastore, 1, 0, 0), (23, .return_, 1, 0, 0)]
def yF_setTargets : MethodName := ⟨"FlowMixer$Flow", "setTargets", "(III)V"⟩
def tbF_setTargets : List mc_R := [(0, .aload_n 0, 1, 0, 0), (1, .getfield 30, 3, 0, 0), (4, .aload_n 0, 1, 0, 0), (5, .getfield 24, 3, 0, 0), (8, .iload_n 1, 1, 0, 0), (9, .iaload, 1, 0, 0), (10, .iload_n 2, 1, 0, 0), (11, .iastore, 1, 0, 0), (12, .aload_n 0, 1, 0, 0), (13, .getfield 33, 3, 0, 0), (16, .aload_n 0, 1, 0, 0), (17, .getfield 24, 3, 0, 0), (20, .iload_n 1, 1, 0, 0), (21, .iaload, 1, 0, 0), (22, .iload_n 3, 1, 0, 0), (23, .iastore, 1, 0, 0), (24, .return_, 1, 0, 0)]
def yF_jumpStep : MethodName := ⟨"FlowMixer$Flow", "jumpStep", "(I)I"⟩
def tbF_jumpStep : List mc_R := [(0, .aload_n 0, 1, 0, 0), (1, .getfield 24, 3, 0, 0), (4, .iload_n 1, 1, 0, 0), (5, .iaload, 1, 0, 0), (6, .bipush 11, 2, 0, 11), (8, .imul, 1, 0, 0), (9, .bipush 10, 2, 0, 10), (11, .iadd, 1, 0, 0), (12, .ireturn, 1, 0, 0)]
def yF_freeze : MethodName := ⟨"FlowMixer$Flow", "freeze", "(I[I)V"⟩
def tbF_freeze : List mc_R := [(0, .aload_n 2, 1, 0, 0), (1, .iconst 0, 1, 0, 0), (2, .aload_n 0, 1, 0, 0), (3, .getfield 45, 3, 0, 0), (6, .iload_n 1, 1, 0, 0), (7, .bipush 8, 2, 0, 8), (9, .imul, 1, 0, 0), (10, .bipush 8, 2, 0, 8), (12, .invokestatic 67, 3, 0, 0), (15, .return_, 1, 0, 0)]
def yF_thaw : MethodName := ⟨"FlowMixer$Flow", "thaw", "(I[I)V"⟩
def tbF_thaw : List mc_R := [(0, .aload_n 0, 1, 0, 0), (1, .getfield 73, 3, 0, 0), (4, .ifCond .ne 4, 3, 8, 0), (7, .return_, 1, 0, 0), (8, .iconst 0, 1, 0, 0), (9, .istore_n 3, 1, 0, 0), (10, .iload_n 3, 1, 0, 0), (11, .bipush 8, 2, 0, 8), (13, .if_icmp .ge 34, 3, 47, 0), (16, .aload_n 0, 1, 0, 0), (17, .getfield 73, 3, 0, 0), (20, .iload_n 3, 1, 0, 0), (21, .ishr, 1, 0, 0), (22, .iconst 1, 1, 0, 1), (23, .iand, 1, 0, 0), (24, .ifCond .eq 17, 3, 41, 0), (27, .aload_n 2, 1, 0, 0), (28, .iload_n 3, 1, 0, 0), (29, .aload_n 0, 1, 0, 0), (30, .getfield 45, 3, 0, 0), (33, .iload_n 1, 1, 0, 0), (34, .bipush 8, 2, 0, 8), (36, .imul, 1, 0, 0), (37, .iload_n 3, 1, 0, 0), (38, .iadd, 1, 0, 0), (39, .iaload, 1, 0, 0), (40, .iastore, 1, 0, 0), (41, .iinc 3 1, 3, 0, 1), (44, .goto (-34), 3, 10, 0), (47, .return_, 1, 0, 0)]
def yF_join : MethodName := ⟨"FlowMixer$Flow", "join", "(II)V"⟩
def tbF_join : List mc_R := [(0, .aload_n 0, 1, 0, 0), (1, .getfield 15, 3, 0, 0), (4, .iload_n 2, 1, 0, 0), (5, .iaload, 1, 0, 0), (6, .ifCond .le 71, 3, 77, 0), (9, .aload_n 0, 1, 0, 0), (10, .getfield 15, 3, 0, 0), (13, .iload_n 1, 1, 0, 0), (14, .iaload, 1, 0, 0), (15, .ifCond .ne 18, 3, 33, 0), (18, .aload_n 0, 1, 0, 0), (19, .getfield 18, 3, 0, 0), (22, .iload_n 1, 1, 0, 0), (23, .aload_n 0, 1, 0, 0), (24, .getfield 18, 3, 0, 0), (27, .iload_n 2, 1, 0, 0), (28, .iaload, 1, 0, 0), (29, .iastore, 1, 0, 0), (30, .goto 20, 3, 50, 0), (33, .aload_n 0, 1, 0, 0), (34, .getfield 42, 3, 0, 0), (37, .aload_n 0, 1, 0, 0), (38, .getfield 21, 3, 0, 0), (41, .iload_n 1, 1, 0, 0), (42, .iaload, 1, 0, 0), (43, .aload_n 0, 1, 0, 0), (44, .getfield 18, 3, 0, 0), (47, .iload_n 2, 1, 0, 0), (48, .iaload, 1, 0, 0), (49, .iastore, 1, 0, 0), (50, .aload_n 0, 1, 0, 0), (51, .getfield 21, 3, 0, 0), (54, .iload_n 1, 1, 0, 0), (55, .aload_n 0, 1, 0, 0), (56, .getfield 21, 3, 0, 0), (59, .iload_n 2, 1, 0, 0), (60, .iaload, 1, 0, 0), (61, .iastore, 1, 0, 0), (62, .aload_n 0, 1, 0, 0), (63, .getfield 15, 3, 0, 0), (66, .iload_n 1, 1, 0, 0), (67, .dup2, 1, 0, 0), (68, .iaload, 1, 0, 0), (69, .aload_n 0, 1, 0, 0), (70, .getfield 15, 3, 0, 0), (73, .iload_n 2, 1, 0, 0), (74, .iaload, 1, 0, 0), (75, .iadd, 1, 0, 0), (76, .iastore, 1, 0, 0), (77, .aload_n 0, 1, 0, 0), (78, .getfield 24, 3, 0, 0), (81, .iload_n 1, 1, 0, 0), (82, .aload_n 0, 1, 0, 0), (83, .getfield 24, 3, 0, 0), (86, .iload_n 2, 1, 0, 0), (87, .iaload, 1, 0, 0), (88, .iastore, 1, 0, 0), (89, .return_, 1, 0, 0)]
def yF_renumber : MethodName := ⟨"FlowMixer$Flow", "renumber", "(II)V"⟩
def tbF_renumber : List mc_R := [(0, .aload_n 0, 1, 0, 0), (1, .getfield 9, 3, 0, 0), (4, .iload_n 2, 1, 0, 0), (5, .aload_n 0, 1, 0, 0), (6, .getfield 9, 3, 0, 0), (9, .iload_n 1, 1, 0, 0), (10, .iaload, 1, 0, 0), (11, .iastore, 1, 0, 0), (12, .aload_n 0, 1, 0, 0), (13, .getfield 15, 3, 0, 0), (16, .iload_n 2, 1, 0, 0), (17, .aload_n 0, 1, 0, 0), (18, .getfield 15, 3, 0, 0), (21, .iload_n 1, 1, 0, 0), (22, .iaload, 1, 0, 0), (23, .iastore, 1, 0, 0), (24, .aload_n 0, 1, 0, 0), (25, .getfield 18, 3, 0, 0), (28, .iload_n 2, 1, 0, 0), (29, .aload_n 0, 1, 0, 0), (30, .getfield 18, 3, 0, 0), (33, .iload_n 1, 1, 0, 0), (34, .iaload, 1, 0, 0), (35, .iastore, 1, 0, 0), (36, .aload_n 0, 1, 0, 0), (37, .getfield 21, 3, 0, 0), (40, .iload_n 2, 1, 0, 0), (41, .aload_n 0, 1, 0, 0), (42, .getfield 21, 3, 0, 0), (45, .iload_n 1, 1, 0, 0), (46, .iaload, 1, 0, 0), (47, .iastore, 1, 0, 0), (48, .aload_n 0, 1, 0, 0), (49, .getfield 24, 3, 0, 0), (52, .iload_n 2, 1, 0, 0), (53, .aload_n 0, 1, 0, 0), (54, .getfield 24, 3, 0, 0), (57, .iload_n 1, 1, 0, 0), (58, .iaload, 1, 0, 0), (59, .iastore, 1, 0, 0), (60, .return_, 1, 0, 0)]
def yY_init : MethodName := ⟨"FlowMixer$Analysis", "<init>", "()V"⟩
def tbY_init : List mc_R := [(0, .aload_n 0, 1, 0, 0), (1, .invokespecial 3, 3, 0, 0), (4, .aload_n 0, 1, 0, 0), (5, .bipush 16, 2, 0, 16), (7, .newarray .int, 2, 0, 0), (9, .putfield 9, 3, 0, 0), (12, .return_, 1, 0, 0)]
def yY_findStatics : MethodName := ⟨"FlowMixer$Analysis", "findStatics", "(LFlowMixer$Nodes;LFlowMixer$Flow;I)I"⟩
def tbY_findStatics : List mc_R := [(0, .sipush 255, 3, 0, 255), (3, .iload_n 3, 1, 0, 0), (4, .iconst (-1), 1, 0, (-1)), (5, .ixor, 1, 0, 0), (6, .iand, 1, 0, 0), (7, .istore 4, 2, 0, 0), (9, .iconst 0, 1, 0, 0), (10, .istore 5, 2, 0, 0), (12, .iload 5, 2, 0, 0), (14, .bipush 8, 2, 0, 8), (16, .if_icmp .ge 52, 3, 68, 0), (19, .iload 4, 2, 0, 0), (21, .istore 6, 2, 0, 0), (23, .iconst 0, 1, 0, 0), (24, .istore 7, 2, 0, 0), (26, .iload 7, 2, 0, 0), (28, .aload_n 2, 1, 0, 0), (29, .getfield 15, 3, 0, 0), (32, .if_icmp .ge 20, 3, 52, 0), (35, .aload_n 1, 1, 0, 0), (36, .aload_n 2, 1, 0, 0), (37, .iload 7, 2, 0, 0), (39, .iload 4, 2, 0, 0), (41, .invokestatic 21, 3, 0, 0), (44, .istore 4, 2, 0, 0), (46, .iinc 7 1, 3, 0, 1), (49, .goto (-23), 3, 26, 0), (52, .iload 4, 2, 0, 0), (54, .iload 6, 2, 0, 0), (56, .if_icmp .ne 6, 3, 62, 0), (59, .goto 9, 3, 68, 0), (62, .iinc 5 1, 3, 0, 1), (65, .goto (-53), 3, 12, 0), (68, .sipush 255, 3, 0, 255), (71, .iload 4, 2, 0, 0), (73, .iconst (-1), 1, 0, (-1)), (74, .ixor, 1, 0, 0), (75, .iand, 1, 0, 0), (76, .ireturn, 1, 0, 0)]
def yY_withDynamicsOf : MethodName := ⟨"FlowMixer$Analysis", "withDynamicsOf", "(LFlowMixer$Nodes;LFlowMixer$Flow;II)I"⟩
def tbY_withDynamicsOf : List mc_R := [(0, .iload_n 3, 1, 0, 0), (1, .istore 4, 2, 0, 0), (3, .aload_n 1, 1, 0, 0), (4, .getfield 25, 3, 0, 0), (7, .iload_n 2, 1, 0, 0), (8, .iaload, 1, 0, 0), (9, .istore 5, 2, 0, 0), (11, .iconst 0, 1, 0, 0), (12, .istore 6, 2, 0, 0), (14, .iload 6, 2, 0, 0), (16, .aload_n 1, 1, 0, 0), (17, .getfield 28, 3, 0, 0), (20, .iload_n 2, 1, 0, 0), (21, .iaload, 1, 0, 0), (22, .if_icmp .ge 50, 3, 72, 0), (25, .aload_n 0, 1, 0, 0), (26, .getfield 31, 3, 0, 0), (29, .aload_n 1, 1, 0, 0), (30, .getfield 36, 3, 0, 0), (33, .iload 5, 2, 0, 0), (35, .iaload, 1, 0, 0), (36, .iaload, 1, 0, 0), (37, .iload 4, 2, 0, 0), (39, .iand, 1, 0, 0), (40, .ifCond .eq 17, 3, 57, 0), (43, .iload 4, 2, 0, 0), (45, .iconst 1, 1, 0, 1), (46, .aload_n 1, 1, 0, 0), (47, .getfield 39, 3, 0, 0), (50, .iload 5, 2, 0, 0), (52, .iaload, 1, 0, 0), (53, .ishl, 1, 0, 0), (54, .ior, 1, 0, 0), (55, .istore 4, 2, 0, 0), (57, .aload_n 1, 1, 0, 0), (58, .getfield 40, 3, 0, 0), (61, .iload 5, 2, 0, 0), (63, .iaload, 1, 0, 0), (64, .istore 5, 2, 0, 0), (66, .iinc 6 1, 3, 0, 1), (69, .goto (-55), 3, 14, 0), (72, .iload 4, 2, 0, 0), (74, .ireturn, 1, 0, 0)]
def yY_findLives : MethodName := ⟨"FlowMixer$Analysis", "findLives", "(LFlowMixer$Nodes;LFlowMixer$Flow;)V"⟩
def tbY_findLives : List mc_R := [(0, .aload_n 0, 1, 0, 0), (1, .getfield 9, 3, 0, 0), (4, .iconst 0, 1, 0, 0), (5, .invokestatic 43, 3, 0, 0), (8, .iconst 0, 1, 0, 0), (9, .istore_n 3, 1, 0, 0), (10, .iload_n 3, 1, 0, 0), (11, .bipush 16, 2, 0, 16), (13, .if_icmp .ge 78, 3, 91, 0), (16, .iconst 0, 1, 0, 0), (17, .istore 4, 2, 0, 0), (19, .bipush 15, 2, 0, 15), (21, .istore 5, 2, 0, 0), (23, .iload 5, 2, 0, 0), (25, .ifCond .lt 52, 3, 77, 0), (28, .aload_n 0, 1, 0, 0), (29, .aload_n 1, 1, 0, 0), (30, .aload_n 2, 1, 0, 0), (31, .iload 5, 2, 0, 0), (33, .invokevirtual 49, 3, 0, 0), (36, .istore 6, 2, 0, 0), (38, .iload 4, 2, 0, 0), (40, .ifCond .ne 15, 3, 55, 0), (43, .iload 6, 2, 0, 0), (45, .aload_n 0, 1, 0, 0), (46, .getfield 9, 3, 0, 0), (49, .iload 5, 2, 0, 0), (51, .iaload, 1, 0, 0), (52, .if_icmp .eq 7, 3, 59, 0), (55, .iconst 1, 1, 0, 1), (56, .goto 4, 3, 60, 0), (59, .iconst 0, 1, 0, 0), (60, .istore 4, 2, 0, 0), (62, .aload_n 0, 1, 0, 0), (63, .getfield 9, 3, 0, 0), (66, .iload 5, 2, 0, 0), (68, .iload 6, 2, 0, 0), (70, .iastore, 1, 0, 0), (71, .iinc 5 (-1), 3, 0, (-1)), (74, .goto (-51), 3, 23, 0), (77, .iload 4, 2, 0, 0), (79, .ifCond .ne 6, 3, 85, 0), (82, .goto 9, 3, 91, 0), (85, .iinc 3 1, 3, 0, 1), (88, .goto (-78), 3, 10, 0), (91, .return_, 1, 0, 0)]
def yY_livesOf : MethodName := ⟨"FlowMixer$Analysis", "livesOf", "(LFlowMixer$Nodes;LFlowMixer$Flow;I)I"⟩
def tbY_livesOf : List mc_R := [(0, .iconst 0, 1, 0, 0), (1, .istore 4, 2, 0, 0), (3, .iconst 0, 1, 0, 0), (4, .istore 5, 2, 0, 0), (6, .aload_n 2, 1, 0, 0), (7, .getfield 25, 3, 0, 0), (10, .iload_n 3, 1, 0, 0), (11, .iaload, 1, 0, 0), (12, .istore 6, 2, 0, 0), (14, .iconst 0, 1, 0, 0), (15, .istore 7, 2, 0, 0), (17, .iload 7, 2, 0, 0), (19, .aload_n 2, 1, 0, 0), (20, .getfield 28, 3, 0, 0), (23, .iload_n 3, 1, 0, 0), (24, .iaload, 1, 0, 0), (25, .if_icmp .ge 54, 3, 79, 0), (28, .iload 5, 2, 0, 0), (30, .aload_n 1, 1, 0, 0), (31, .getfield 31, 3, 0, 0), (34, .aload_n 2, 1, 0, 0), (35, .getfield 36, 3, 0, 0), (38, .iload 6, 2, 0, 0), (40, .iaload, 1, 0, 0), (41, .iaload, 1, 0, 0), (42, .iload 4, 2, 0, 0), (44, .iconst (-1), 1, 0, (-1)), (45, .ixor, 1, 0, 0), (46, .iand, 1, 0, 0), (47, .ior, 1, 0, 0), (48, .istore 5, 2, 0, 0), (50, .iload 4, 2, 0, 0), (52, .iconst 1, 1, 0, 1), (53, .aload_n 2, 1, 0, 0), (54, .getfield 39, 3, 0, 0), (57, .iload 6, 2, 0, 0), (59, .iaload, 1, 0, 0), (60, .ishl, 1, 0, 0), (61, .ior, 1, 0, 0), (62, .istore 4, 2, 0, 0), (64, .aload_n 2, 1, 0, 0), (65, .getfield 40, 3, 0, 0), (68, .iload 6, 2, 0, 0), (70, .iaload, 1, 0, 0), (71, .istore 6, 2, 0, 0), (73, .iinc 7 1, 3, 0, 1), (76, .goto (-59), 3, 17, 0), (79, .aload_n 1, 1, 0, 0), (80, .getfield 31, 3, 0, 0), (83, .aload_n 2, 1, 0, 0), (84, .getfield 36, 3, 0, 0), (87, .aload_n 2, 1, 0, 0), (88, .iload_n 3, 1, 0, 0), (89, .invokevirtual 53, 3, 0, 0), (92, .iaload, 1, 0, 0), (93, .iaload, 1, 0, 0), (94, .aload_n 0, 1, 0, 0), (95, .aload_n 2, 1, 0, 0), (96, .getfield 57, 3, 0, 0), (99, .aload_n 2, 1, 0, 0), (100, .getfield 60, 3, 0, 0), (103, .iload_n 3, 1, 0, 0), (104, .iaload, 1, 0, 0), (105, .iaload, 1, 0, 0), (106, .invokevirtual 63, 3, 0, 0), (109, .ior, 1, 0, 0), (110, .aload_n 0, 1, 0, 0), (111, .aload_n 2, 1, 0, 0), (112, .getfield 66, 3, 0, 0), (115, .aload_n 2, 1, 0, 0), (116, .getfield 60, 3, 0, 0), (119, .iload_n 3, 1, 0, 0), (120, .iaload, 1, 0, 0), (121, .iaload, 1, 0, 0), (122, .invokevirtual 63, 3, 0, 0), (125, .ior, 1, 0, 0), (126, .istore 7, 2, 0, 0), (128, .iload 5, 2, 0, 0), (130, .iload 7, 2, 0, 0), (132, .iload 4, 2, 0, 0), (134, .iconst (-1), 1, 0, (-1)), (135, .ixor, 1, 0, 0), (136, .iand, 1, 0, 0), (137, .ior, 1, 0, 0), (138, .ireturn, 1, 0, 0)]
def yY_livesAt : MethodName := ⟨"FlowMixer$Analysis", "livesAt", "(I)I"⟩
def tbY_livesAt : List mc_R := [(0, .iload_n 1, 1, 0, 0), (1, .iconst (-1), 1, 0, (-1)), (2, .if_icmp .ne 7, 3, 9, 0), (5, .iconst 0, 1, 0, 0), (6, .goto 9, 3, 15, 0), (9, .aload_n 0, 1, 0, 0), (10, .getfield 9, 3, 0, 0), (13, .iload_n 1, 1, 0, 0), (14, .iaload, 1, 0, 0), (15, .ireturn, 1, 0, 0)]
def yM_init : MethodName := ⟨"FlowMixer$Machine", "<init>", "()V"⟩
def tbM_init : List mc_R := [(0, .aload_n 0, 1, 0, 0), (1, .invokespecial 3, 3, 0, 0), (4, .aload_n 0, 1, 0, 0), (5, .bipush 8, 2, 0, 8), (7, .newarray .int, 2, 0, 0), (9, .putfield 9, 3, 0, 0), (12, .return_, 1, 0, 0)]
def yM_travel : MethodName := ⟨"FlowMixer$Machine", "travel", "(LFlowMixer$Nodes;LFlowMixer$Flow;[II)Z"⟩
def tbM_travel : List mc_R := [(0, .aload_n 3, 1, 0, 0), (1, .iconst 0, 1, 0, 0), (2, .aload_n 0, 1, 0, 0), (3, .getfield 9, 3, 0, 0), (6, .iconst 0, 1, 0, 0), (7, .bipush 8, 2, 0, 8), (9, .invokestatic 15, 3, 0, 0), (12, .aload_n 0, 1, 0, 0), (13, .iconst 0, 1, 0, 0), (14, .putfield 21, 3, 0, 0), (17, .aload_n 0, 1, 0, 0), (18, .iconst 0, 1, 0, 0), (19, .putfield 25, 3, 0, 0), (22, .aload_n 0, 1, 0, 0), (23, .iconst 0, 1, 0, 0), (24, .putfield 28, 3, 0, 0), (27, .iconst 0, 1, 0, 0), (28, .istore 5, 2, 0, 0), (30, .iload 5, 2, 0, 0), (32, .iload 4, 2, 0, 0), (34, .if_icmp .ge 49, 3, 83, 0), (37, .aload_n 0, 1, 0, 0), (38, .aload_n 1, 1, 0, 0), (39, .aload_n 2, 1, 0, 0), (40, .iload 4, 2, 0, 0), (42, .invokevirtual 31, 3, 0, 0), (45, .aload_n 0, 1, 0, 0), (46, .getfield 25, 3, 0, 0), (49, .iload 4, 2, 0, 0), (51, .if_icmp .lt 5, 3, 56, 0), (54, .iconst 0, 1, 0, 0), (55, .ireturn, 1, 0, 0), (56, .aload_n 0, 1, 0, 0), (57, .dup, 1, 0, 0), (58, .getfield 25, 3, 0, 0), (61, .iconst 1, 1, 0, 1), (62, .iadd, 1, 0, 0), (63, .putfield 25, 3, 0, 0), (66, .aload_n 0, 1, 0, 0), (67, .aload_n 1, 1, 0, 0), (68, .aload_n 2, 1, 0, 0), (69, .invokevirtual 35, 3, 0, 0), (72, .ifCond .eq 5, 3, 77, 0), (75, .iconst 1, 1, 0, 1), (76, .ireturn, 1, 0, 0), (77, .iinc 5 1, 3, 0, 1), (80, .goto (-50), 3, 30, 0), (83, .iconst 0, 1, 0, 0), (84, .ireturn, 1, 0, 0)]
def yM_doAssignments : MethodName := ⟨"FlowMixer$Machine", "doAssignments", "(LFlowMixer$Nodes;LFlowMixer$Flow;I)V"⟩
def tbM_doAssignments : List mc_R := [(0, .aload_n 2, 1, 0, 0), (1, .getfield 39, 3, 0, 0), (4, .aload_n 0, 1, 0, 0), (5, .getfield 28, 3, 0, 0), (8, .iaload, 1, 0, 0), (9, .istore 4, 2, 0, 0), (11, .iconst 0, 1, 0, 0), (12, .istore 5, 2, 0, 0), (14, .iload 5, 2, 0, 0), (16, .aload_n 2, 1, 0, 0), (17, .getfield 44, 3, 0, 0), (20, .aload_n 0, 1, 0, 0), (21, .getfield 28, 3, 0, 0), (24, .iaload, 1, 0, 0), (25, .if_icmp .ge 74, 3, 99, 0), (28, .aload_n 0, 1, 0, 0), (29, .getfield 25, 3, 0, 0), (32, .iload_n 3, 1, 0, 0), (33, .if_icmp .ge 66, 3, 99, 0), (36, .aload_n 2, 1, 0, 0), (37, .iload 4, 2, 0, 0), (39, .aload_n 0, 1, 0, 0), (40, .getfield 9, 3, 0, 0), (43, .invokevirtual 47, 3, 0, 0), (46, .aload_n 0, 1, 0, 0), (47, .getfield 9, 3, 0, 0), (50, .aload_n 2, 1, 0, 0), (51, .getfield 51, 3, 0, 0), (54, .iload 4, 2, 0, 0), (56, .iaload, 1, 0, 0), (57, .aload_n 1, 1, 0, 0), (58, .aload_n 2, 1, 0, 0), (59, .getfield 54, 3, 0, 0), (62, .iload 4, 2, 0, 0), (64, .iaload, 1, 0, 0), (65, .aload_n 0, 1, 0, 0), (66, .getfield 9, 3, 0, 0), (69, .iconst 0, 1, 0, 0), (70, .invokevirtual 57, 3, 0, 0), (73, .iastore, 1, 0, 0), (74, .aload_n 2, 1, 0, 0), (75, .getfield 63, 3, 0, 0), (78, .iload 4, 2, 0, 0), (80, .iaload, 1, 0, 0), (81, .istore 4, 2, 0, 0), (83, .aload_n 0, 1, 0, 0), (84, .dup, 1, 0, 0), (85, .getfield 25, 3, 0, 0), (88, .iconst 1, 1, 0, 1), (89, .iadd, 1, 0, 0), (90, .putfield 25, 3, 0, 0), (93, .iinc 5 1, 3, 0, 1), (96, .goto (-82), 3, 14, 0), (99, .return_, 1, 0, 0)]
def yM_doJump : MethodName := ⟨"FlowMixer$Machine", "doJump", "(LFlowMixer$Nodes;LFlowMixer$Flow;)Z"⟩
def tbM_doJump : List mc_R := [(0, .aload_n 2, 1, 0, 0), (1, .getfield 66, 3, 0, 0), (4, .aload_n 0, 1, 0, 0), (5, .getfield 28, 3, 0, 0), (8, .iaload, 1, 0, 0), (9, .istore_n 3, 1, 0, 0), (10, .aload_n 2, 1, 0, 0), (11, .aload_n 0, 1, 0, 0), (12, .getfield 28, 3, 0, 0), (15, .invokevirtual 69, 3, 0, 0), (18, .istore 4, 2, 0, 0), (20, .aload_n 2, 1, 0, 0), (21, .iload 4, 2, 0, 0), (23, .aload_n 0, 1, 0, 0), (24, .getfield 9, 3, 0, 0), (27, .invokevirtual 47, 3, 0, 0), (30, .aload_n 1, 1, 0, 0), (31, .aload_n 2, 1, 0, 0), (32, .getfield 54, 3, 0, 0), (35, .iload 4, 2, 0, 0), (37, .iaload, 1, 0, 0), (38, .aload_n 0, 1, 0, 0), (39, .getfield 9, 3, 0, 0), (42, .iconst 0, 1, 0, 0), (43, .invokevirtual 57, 3, 0, 0), (46, .istore 5, 2, 0, 0), (48, .aload_n 2, 1, 0, 0), (49, .getfield 73, 3, 0, 0), (52, .iload_n 3, 1, 0, 0), (53, .iaload, 1, 0, 0), (54, .iconst 2, 1, 0, 2), (55, .if_icmp .ne 11, 3, 66, 0), (58, .aload_n 0, 1, 0, 0), (59, .iload 5, 2, 0, 0), (61, .putfield 21, 3, 0, 0), (64, .iconst 1, 1, 0, 1), (65, .ireturn, 1, 0, 0), (66, .aload_n 0, 1, 0, 0), (67, .aload_n 2, 1, 0, 0), (68, .getfield 73, 3, 0, 0), (71, .iload_n 3, 1, 0, 0), (72, .iaload, 1, 0, 0), (73, .ifCond .eq 8, 3, 81, 0), (76, .iload 5, 2, 0, 0), (78, .ifCond .eq 12, 3, 90, 0), (81, .aload_n 2, 1, 0, 0), (82, .getfield 76, 3, 0, 0), (85, .iload_n 3, 1, 0, 0), (86, .iaload, 1, 0, 0), (87, .goto 9, 3, 96, 0), (90, .aload_n 2, 1, 0, 0), (91, .getfield 79, 3, 0, 0), (94, .iload_n 3, 1, 0, 0), (95, .iaload, 1, 0, 0), (96, .putfield 28, 3, 0, 0), (99, .iconst 0, 1, 0, 0), (100, .ireturn, 1, 0, 0)]
def yX_init : MethodName := ⟨"FlowMixer$Mixer", "<init>", "()V"⟩
def tbX_init : List mc_R := [(0, .aload_n 0, 1, 0, 0), (1, .invokespecial 3, 3, 0, 0), (4, .aload_n 0, 1, 0, 0), (5, .bipush 100, 2, 0, 100), (7, .newarray .int, 2, 0, 0), (9, .putfield 9, 3, 0, 0), (12, .aload_n 0, 1, 0, 0), (13, .sipush 800, 3, 0, 800), (16, .newarray .int, 2, 0, 0), (18, .putfield 15, 3, 0, 0), (21, .aload_n 0, 1, 0, 0), (22, .bipush 16, 2, 0, 16), (24, .newarray .int, 2, 0, 0), (26, .putfield 18, 3, 0, 0), (29, .aload_n 0, 1, 0, 0), (30, .bipush 8, 2, 0, 8), (32, .newarray .int, 2, 0, 0), (34, .putfield 21, 3, 0, 0), (37, .aload_n 0, 1, 0, 0), (38, .bipush 8, 2, 0, 8), (40, .newarray .int, 2, 0, 0), (42, .putfield 24, 3, 0, 0), (45, .return_, 1, 0, 0)]
def yX_work : MethodName := ⟨"FlowMixer$Mixer", "work", "(LFlowMixer$Nodes;LFlowMixer$Flow;[I[ILFlowMixer$Flow;)Z"⟩
def tbX_work : List mc_R := [(0, .iconst 0, 1, 0, 0), (1, .istore 6, 2, 0, 0), (3, .iload 6, 2, 0, 0), (5, .bipush 16, 2, 0, 16), (7, .if_icmp .ge 26, 3, 33, 0), (10, .aload_n 0, 1, 0, 0), (11, .getfield 18, 3, 0, 0), (14, .iload 6, 2, 0, 0), (16, .aload 5, 2, 0, 0), (18, .getfield 27, 3, 0, 0), (21, .aload_n 3, 1, 0, 0), (22, .iload 6, 2, 0, 0), (24, .iaload, 1, 0, 0), (25, .iand, 1, 0, 0), (26, .iastore, 1, 0, 0), (27, .iinc 6 1, 3, 0, 1), (30, .goto (-27), 3, 3, 0), (33, .aload 4, 2, 0, 0), (35, .iconst 0, 1, 0, 0), (36, .aload_n 0, 1, 0, 0), (37, .getfield 21, 3, 0, 0), (40, .iconst 0, 1, 0, 0), (41, .bipush 8, 2, 0, 8), (43, .invokestatic 33, 3, 0, 0), (46, .aload_n 0, 1, 0, 0), (47, .iconst 0, 1, 0, 0), (48, .putfield 39, 3, 0, 0), (51, .aload_n 0, 1, 0, 0), (52, .iconst 0, 1, 0, 0), (53, .putfield 42, 3, 0, 0), (56, .aload_n 0, 1, 0, 0), (57, .iconst 0, 1, 0, 0), (58, .invokevirtual 46, 3, 0, 0), (61, .pop, 1, 0, 0), (62, .iconst 0, 1, 0, 0), (63, .istore 6, 2, 0, 0), (65, .iload 6, 2, 0, 0), (67, .aload_n 0, 1, 0, 0), (68, .getfield 39, 3, 0, 0), (71, .if_icmp .ge 76, 3, 147, 0), (74, .iload 6, 2, 0, 0), (76, .bipush 100, 2, 0, 100), (78, .if_icmp .ge 69, 3, 147, 0), (81, .aload_n 0, 1, 0, 0), (82, .getfield 42, 3, 0, 0), (85, .ifCond .ne 62, 3, 147, 0), (88, .aload 5, 2, 0, 0), (90, .iload 6, 2, 0, 0), (92, .aload_n 0, 1, 0, 0), (93, .getfield 9, 3, 0, 0), (96, .iload 6, 2, 0, 0), (98, .iaload, 1, 0, 0), (99, .invokevirtual 50, 3, 0, 0), (102, .aload_n 0, 1, 0, 0), (103, .getfield 15, 3, 0, 0), (106, .iload 6, 2, 0, 0), (108, .bipush 8, 2, 0, 8), (110, .imul, 1, 0, 0), (111, .aload_n 0, 1, 0, 0), (112, .getfield 21, 3, 0, 0), (115, .iconst 0, 1, 0, 0), (116, .bipush 8, 2, 0, 8), (118, .invokestatic 33, 3, 0, 0), (121, .aload_n 0, 1, 0, 0), (122, .aload_n 1, 1, 0, 0), (123, .aload_n 2, 1, 0, 0), (124, .aload 5, 2, 0, 0), (126, .iload 6, 2, 0, 0), (128, .invokevirtual 54, 3, 0, 0), (131, .aload_n 0, 1, 0, 0), (132, .aload_n 1, 1, 0, 0), (133, .aload_n 2, 1, 0, 0), (134, .aload 5, 2, 0, 0), (136, .iload 6, 2, 0, 0), (138, .invokevirtual 58, 3, 0, 0), (141, .iinc 6 1, 3, 0, 1), (144, .goto (-79), 3, 65, 0), (147, .aload 5, 2, 0, 0), (149, .aload_n 0, 1, 0, 0), (150, .getfield 39, 3, 0, 0), (153, .putfield 61, 3, 0, 0), (156, .aload_n 0, 1, 0, 0), (157, .getfield 42, 3, 0, 0), (160, .ifCond .ne 7, 3, 167, 0), (163, .iconst 1, 1, 0, 1), (164, .goto 4, 3, 168, 0), (167, .iconst 0, 1, 0, 0), (168, .ireturn, 1, 0, 0)]
def yX_mixAssignments : MethodName := ⟨"FlowMixer$Mixer", "mixAssignments", "(LFlowMixer$Nodes;LFlowMixer$Flow;LFlowMixer$Flow;I)V"⟩
def tbX_mixAssignments : List mc_R := [(0, .aload_n 0, 1, 0, 0), (1, .getfield 9, 3, 0, 0), (4, .iload 4, 2, 0, 0), (6, .iaload, 1, 0, 0), (7, .istore 5, 2, 0, 0), (9, .aload_n 2, 1, 0, 0), (10, .getfield 64, 3, 0, 0), (13, .iload 5, 2, 0, 0), (15, .iaload, 1, 0, 0), (16, .istore 6, 2, 0, 0), (18, .iconst 0, 1, 0, 0), (19, .istore 7, 2, 0, 0), (21, .iload 7, 2, 0, 0), (23, .aload_n 2, 1, 0, 0), (24, .getfield 67, 3, 0, 0), (27, .iload 5, 2, 0, 0), (29, .iaload, 1, 0, 0), (30, .if_icmp .ge 87, 3, 117, 0), (33, .aload_n 2, 1, 0, 0), (34, .getfield 70, 3, 0, 0), (37, .iload 6, 2, 0, 0), (39, .iaload, 1, 0, 0), (40, .istore 8, 2, 0, 0), (42, .aload_n 2, 1, 0, 0), (43, .getfield 73, 3, 0, 0), (46, .iload 6, 2, 0, 0), (48, .iaload, 1, 0, 0), (49, .istore 9, 2, 0, 0), (51, .aload_n 3, 1, 0, 0), (52, .getfield 27, 3, 0, 0), (55, .iload 8, 2, 0, 0), (57, .ishr, 1, 0, 0), (58, .iconst 1, 1, 0, 1), (59, .iand, 1, 0, 0), (60, .ifCond .eq 24, 3, 84, 0), (63, .aload_n 0, 1, 0, 0), (64, .getfield 21, 3, 0, 0), (67, .iload 8, 2, 0, 0), (69, .aload_n 1, 1, 0, 0), (70, .iload 9, 2, 0, 0), (72, .aload_n 0, 1, 0, 0), (73, .getfield 21, 3, 0, 0), (76, .iconst 0, 1, 0, 0), (77, .invokevirtual 76, 3, 0, 0), (80, .iastore, 1, 0, 0), (81, .goto 21, 3, 102, 0), (84, .aload_n 3, 1, 0, 0), (85, .aload_n 3, 1, 0, 0), (86, .iload 4, 2, 0, 0), (88, .iload 8, 2, 0, 0), (90, .iload 9, 2, 0, 0), (92, .invokevirtual 82, 3, 0, 0), (95, .aload_n 0, 1, 0, 0), (96, .getfield 21, 3, 0, 0), (99, .invokevirtual 86, 3, 0, 0), (102, .aload_n 2, 1, 0, 0), (103, .getfield 90, 3, 0, 0), (106, .iload 6, 2, 0, 0), (108, .iaload, 1, 0, 0), (109, .istore 6, 2, 0, 0), (111, .iinc 7 1, 3, 0, 1), (114, .goto (-93), 3, 21, 0), (117, .return_, 1, 0, 0)]
def yX_mixJump : MethodName := ⟨"FlowMixer$Mixer", "mixJump", "(LFlowMixer$Nodes;LFlowMixer$Flow;LFlowMixer$Flow;I)V"⟩
def tbX_mixJump : List mc_R := [(0, .aload_n 0, 1, 0, 0), (1, .getfield 9, 3, 0, 0), (4, .iload 4, 2, 0, 0), (6, .iaload, 1, 0, 0), (7, .istore 5, 2, 0, 0), (9, .aload_n 2, 1, 0, 0), (10, .getfield 93, 3, 0, 0), (13, .iload 5, 2, 0, 0), (15, .iaload, 1, 0, 0), (16, .istore 6, 2, 0, 0), (18, .aload_n 2, 1, 0, 0), (19, .getfield 96, 3, 0, 0), (22, .iload 6, 2, 0, 0), (24, .iaload, 1, 0, 0), (25, .istore 7, 2, 0, 0), (27, .aload_n 2, 1, 0, 0), (28, .getfield 73, 3, 0, 0), (31, .aload_n 2, 1, 0, 0), (32, .iload 5, 2, 0, 0), (34, .invokevirtual 99, 3, 0, 0), (37, .iaload, 1, 0, 0), (38, .istore 8, 2, 0, 0), (40, .aload_n 1, 1, 0, 0), (41, .getfield 102, 3, 0, 0), (44, .iload 8, 2, 0, 0), (46, .iaload, 1, 0, 0), (47, .aload_n 3, 1, 0, 0), (48, .getfield 27, 3, 0, 0), (51, .iconst (-1), 1, 0, (-1)), (52, .ixor, 1, 0, 0), (53, .iand, 1, 0, 0), (54, .ifCond .ne 7, 3, 61, 0), (57, .iconst 1, 1, 0, 1), (58, .goto 4, 3, 62, 0), (61, .iconst 0, 1, 0, 0), (62, .istore 9, 2, 0, 0), (64, .aload_n 3, 1, 0, 0), (65, .aload_n 3, 1, 0, 0), (66, .iload 4, 2, 0, 0), (68, .invokevirtual 99, 3, 0, 0), (71, .aload_n 0, 1, 0, 0), (72, .getfield 21, 3, 0, 0), (75, .invokevirtual 86, 3, 0, 0), (78, .iload 7, 2, 0, 0), (80, .iconst 2, 1, 0, 2), (81, .if_icmp .ne 15, 3, 96, 0), (84, .aload_n 3, 1, 0, 0), (85, .iload 4, 2, 0, 0), (87, .iconst 2, 1, 0, 2), (88, .iload 8, 2, 0, 0), (90, .invokevirtual 103, 3, 0, 0), (93, .goto 131, 3, 224, 0), (96, .iload 7, 2, 0, 0), (98, .iconst 1, 1, 0, 1), (99, .if_icmp .ne 56, 3, 155, 0), (102, .iload 9, 2, 0, 0), (104, .ifCond .ne 51, 3, 155, 0), (107, .aload_n 3, 1, 0, 0), (108, .iload 4, 2, 0, 0), (110, .iconst 1, 1, 0, 1), (111, .iload 8, 2, 0, 0), (113, .invokevirtual 103, 3, 0, 0), (116, .aload_n 0, 1, 0, 0), (117, .aload_n 2, 1, 0, 0), (118, .getfield 107, 3, 0, 0), (121, .iload 6, 2, 0, 0), (123, .iaload, 1, 0, 0), (124, .invokevirtual 46, 3, 0, 0), (127, .istore 10, 2, 0, 0), (129, .aload_n 0, 1, 0, 0), (130, .aload_n 2, 1, 0, 0), (131, .getfield 110, 3, 0, 0), (134, .iload 6, 2, 0, 0), (136, .iaload, 1, 0, 0), (137, .invokevirtual 46, 3, 0, 0), (140, .istore 11, 2, 0, 0), (142, .aload_n 3, 1, 0, 0), (143, .iload 4, 2, 0, 0), (145, .iload 10, 2, 0, 0), (147, .iload 11, 2, 0, 0), (149, .invokevirtual 113, 3, 0, 0), (152, .goto 72, 3, 224, 0), (155, .iload 7, 2, 0, 0), (157, .ifCond .eq 17, 3, 174, 0), (160, .aload_n 1, 1, 0, 0), (161, .iload 8, 2, 0, 0), (163, .aload_n 0, 1, 0, 0), (164, .getfield 21, 3, 0, 0), (167, .iconst 0, 1, 0, 0), (168, .invokevirtual 76, 3, 0, 0), (171, .ifCond .eq 7, 3, 178, 0), (174, .iconst 1, 1, 0, 1), (175, .goto 4, 3, 179, 0), (178, .iconst 0, 1, 0, 0), (179, .istore 10, 2, 0, 0), (181, .aload_n 3, 1, 0, 0), (182, .iload 4, 2, 0, 0), (184, .iconst 0, 1, 0, 0), (185, .sipush 150, 3, 0, 150), (188, .invokevirtual 103, 3, 0, 0), (191, .aload_n 3, 1, 0, 0), (192, .iload 4, 2, 0, 0), (194, .aload_n 0, 1, 0, 0), (195, .iload 10, 2, 0, 0), (197, .ifCond .eq 13, 3, 210, 0), (200, .aload_n 2, 1, 0, 0), (201, .getfield 107, 3, 0, 0), (204, .iload 6, 2, 0, 0), (206, .iaload, 1, 0, 0), (207, .goto 10, 3, 217, 0), (210, .aload_n 2, 1, 0, 0), (211, .getfield 110, 3, 0, 0), (214, .iload 6, 2, 0, 0), (216, .iaload, 1, 0, 0), (217, .invokevirtual 46, 3, 0, 0), (220, .iconst (-1), 1, 0, (-1)), (221, .invokevirtual 113, 3, 0, 0), (224, .return_, 1, 0, 0)]
def yX_comeTo : MethodName := ⟨"FlowMixer$Mixer", "comeTo", "(I)I"⟩
def tbX_comeTo : List mc_R := [(0, .iconst 0, 1, 0, 0), (1, .istore_n 2, 1, 0, 0), (2, .iload_n 2, 1, 0, 0), (3, .bipush 8, 2, 0, 8), (5, .if_icmp .ge 38, 3, 43, 0), (8, .aload_n 0, 1, 0, 0), (9, .getfield 24, 3, 0, 0), (12, .iload_n 2, 1, 0, 0), (13, .aload_n 0, 1, 0, 0), (14, .getfield 18, 3, 0, 0), (17, .iload_n 1, 1, 0, 0), (18, .iaload, 1, 0, 0), (19, .iload_n 2, 1, 0, 0), (20, .ishr, 1, 0, 0), (21, .iconst 1, 1, 0, 1), (22, .iand, 1, 0, 0), (23, .ifCond .eq 12, 3, 35, 0), (26, .aload_n 0, 1, 0, 0), (27, .getfield 21, 3, 0, 0), (30, .iload_n 2, 1, 0, 0), (31, .iaload, 1, 0, 0), (32, .goto 4, 3, 36, 0), (35, .iconst 0, 1, 0, 0), (36, .iastore, 1, 0, 0), (37, .iinc 2 1, 3, 0, 1), (40, .goto (-38), 3, 2, 0), (43, .iconst 0, 1, 0, 0), (44, .istore_n 2, 1, 0, 0), (45, .iload_n 2, 1, 0, 0), (46, .aload_n 0, 1, 0, 0), (47, .getfield 39, 3, 0, 0), (50, .if_icmp .ge 20, 3, 70, 0), (53, .aload_n 0, 1, 0, 0), (54, .iload_n 2, 1, 0, 0), (55, .iload_n 1, 1, 0, 0), (56, .invokevirtual 116, 3, 0, 0), (59, .ifCond .eq 5, 3, 64, 0), (62, .iload_n 2, 1, 0, 0), (63, .ireturn, 1, 0, 0), (64, .iinc 2 1, 3, 0, 1), (67, .goto (-22), 3, 45, 0), (70, .aload_n 0, 1, 0, 0), (71, .getfield 39, 3, 0, 0), (74, .bipush 100, 2, 0, 100), (76, .if_icmp .lt 10, 3, 86, 0), (79, .aload_n 0, 1, 0, 0), (80, .iconst 1, 1, 0, 1), (81, .putfield 42, 3, 0, 0), (84, .iconst (-1), 1, 0, (-1)), (85, .ireturn, 1, 0, 0), (86, .aload_n 0, 1, 0, 0), (87, .getfield 9, 3, 0, 0), (90, .aload_n 0, 1, 0, 0), (91, .getfield 39, 3, 0, 0), (94, .iload_n 1, 1, 0, 0), (95, .iastore, 1, 0, 0), (96, .aload_n 0, 1, 0, 0), (97, .getfield 24, 3, 0, 0), (100, .iconst 0, 1, 0, 0), (101, .aload_n 0, 1, 0, 0), (102, .getfield 15, 3, 0, 0), (105, .aload_n 0, 1, 0, 0), (106, .getfield 39, 3, 0, 0), (109, .bipush 8, 2, 0, 8), (111, .imul, 1, 0, 0), (112, .bipush 8, 2, 0, 8), (114, .invokestatic 33, 3, 0, 0), (117, .aload_n 0, 1, 0, 0), (118, .dup, 1, 0, 0), (119, .getfield 39, 3, 0, 0), (122, .iconst 1, 1, 0, 1), (123, .iadd, 1, 0, 0), (124, .putfield 39, 3, 0, 0), (127, .aload_n 0, 1, 0, 0), (128, .getfield 39, 3, 0, 0), (131, .iconst 1, 1, 0, 1), (132, .isub, 1, 0, 0), (133, .ireturn, 1, 0, 0)]
def yX_isWanted : MethodName := ⟨"FlowMixer$Mixer", "isWanted", "(II)Z"⟩
def tbX_isWanted : List mc_R := [(0, .aload_n 0, 1, 0, 0), (1, .getfield 9, 3, 0, 0), (4, .iload_n 1, 1, 0, 0), (5, .iaload, 1, 0, 0), (6, .iload_n 2, 1, 0, 0), (7, .if_icmp .eq 5, 3, 12, 0), (10, .iconst 0, 1, 0, 0), (11, .ireturn, 1, 0, 0), (12, .iconst 0, 1, 0, 0), (13, .istore_n 3, 1, 0, 0), (14, .iload_n 3, 1, 0, 0), (15, .bipush 8, 2, 0, 8), (17, .if_icmp .ge 31, 3, 48, 0), (20, .aload_n 0, 1, 0, 0), (21, .getfield 15, 3, 0, 0), (24, .iload_n 1, 1, 0, 0), (25, .bipush 8, 2, 0, 8), (27, .imul, 1, 0, 0), (28, .iload_n 3, 1, 0, 0), (29, .iadd, 1, 0, 0), (30, .iaload, 1, 0, 0), (31, .aload_n 0, 1, 0, 0), (32, .getfield 24, 3, 0, 0), (35, .iload_n 3, 1, 0, 0), (36, .iaload, 1, 0, 0), (37, .if_icmp .eq 5, 3, 42, 0), (40, .iconst 0, 1, 0, 0), (41, .ireturn, 1, 0, 0), (42, .iinc 3 1, 3, 0, 1), (45, .goto (-31), 3, 14, 0), (48, .iconst 1, 1, 0, 1), (49, .ireturn, 1, 0, 0)]
def yC_init : MethodName := ⟨"FlowMixer$Compressor", "<init>", "()V"⟩
def tbC_init : List mc_R := [(0, .aload_n 0, 1, 0, 0), (1, .invokespecial 3, 3, 0, 0), (4, .aload_n 0, 1, 0, 0), (5, .bipush 100, 2, 0, 100), (7, .newarray .int, 2, 0, 0), (9, .putfield 9, 3, 0, 0), (12, .aload_n 0, 1, 0, 0), (13, .bipush 100, 2, 0, 100), (15, .newarray .int, 2, 0, 0), (17, .putfield 15, 3, 0, 0), (20, .aload_n 0, 1, 0, 0), (21, .bipush 100, 2, 0, 100), (23, .newarray .int, 2, 0, 0), (25, .putfield 18, 3, 0, 0), (28, .return_, 1, 0, 0)]
def yC_work : MethodName := ⟨"FlowMixer$Compressor", "work", "(LFlowMixer$Flow;)V"⟩
def tbC_work : List mc_R := [(0, .aload_n 0, 1, 0, 0), (1, .getfield 18, 3, 0, 0), (4, .iconst 0, 1, 0, 0), (5, .invokestatic 21, 3, 0, 0), (8, .iconst 0, 1, 0, 0), (9, .istore_n 2, 1, 0, 0), (10, .iload_n 2, 1, 0, 0), (11, .aload_n 1, 1, 0, 0), (12, .getfield 27, 3, 0, 0), (15, .if_icmp .ge 46, 3, 61, 0), (18, .aload_n 0, 1, 0, 0), (19, .aload_n 1, 1, 0, 0), (20, .invokevirtual 33, 3, 0, 0), (23, .aload_n 0, 1, 0, 0), (24, .aload_n 1, 1, 0, 0), (25, .invokevirtual 37, 3, 0, 0), (28, .istore_n 3, 1, 0, 0), (29, .iload_n 3, 1, 0, 0), (30, .iconst (-1), 1, 0, (-1)), (31, .if_icmp .ne 6, 3, 37, 0), (34, .goto 27, 3, 61, 0), (37, .aload_n 1, 1, 0, 0), (38, .aload_n 0, 1, 0, 0), (39, .getfield 15, 3, 0, 0), (42, .iload_n 3, 1, 0, 0), (43, .iaload, 1, 0, 0), (44, .iload_n 3, 1, 0, 0), (45, .invokevirtual 41, 3, 0, 0), (48, .aload_n 0, 1, 0, 0), (49, .getfield 18, 3, 0, 0), (52, .iload_n 3, 1, 0, 0), (53, .iconst (-1), 1, 0, (-1)), (54, .iastore, 1, 0, 0), (55, .iinc 2 1, 3, 0, 1), (58, .goto (-48), 3, 10, 0), (61, .aload_n 0, 1, 0, 0), (62, .aload_n 1, 1, 0, 0), (63, .invokevirtual 45, 3, 0, 0), (66, .return_, 1, 0, 0)]
def yC_findArrivals : MethodName := ⟨"FlowMixer$Compressor", "findArrivals", "(LFlowMixer$Flow;)V"⟩
def tbC_findArrivals : List mc_R := [(0, .aload_n 0, 1, 0, 0), (1, .getfield 9, 3, 0, 0), (4, .iconst 0, 1, 0, 0), (5, .invokestatic 21, 3, 0, 0), (8, .aload_n 0, 1, 0, 0), (9, .getfield 15, 3, 0, 0), (12, .iconst (-1), 1, 0, (-1)), (13, .invokestatic 21, 3, 0, 0), (16, .iconst 0, 1, 0, 0), (17, .istore_n 2, 1, 0, 0), (18, .iload_n 2, 1, 0, 0), (19, .aload_n 1, 1, 0, 0), (20, .getfield 27, 3, 0, 0), (23, .if_icmp .ge 94, 3, 117, 0), (26, .aload_n 1, 1, 0, 0), (27, .getfield 48, 3, 0, 0), (30, .iload_n 2, 1, 0, 0), (31, .iaload, 1, 0, 0), (32, .istore_n 3, 1, 0, 0), (33, .aload_n 0, 1, 0, 0), (34, .getfield 18, 3, 0, 0), (37, .iload_n 2, 1, 0, 0), (38, .iaload, 1, 0, 0), (39, .iconst (-1), 1, 0, (-1)), (40, .if_icmp .eq 71, 3, 111, 0), (43, .aload_n 1, 1, 0, 0), (44, .getfield 51, 3, 0, 0), (47, .iload_n 3, 1, 0, 0), (48, .iaload, 1, 0, 0), (49, .iconst 2, 1, 0, 2), (50, .if_icmp .ne 6, 3, 56, 0), (53, .goto 58, 3, 111, 0), (56, .aload_n 0, 1, 0, 0), (57, .getfield 9, 3, 0, 0), (60, .aload_n 1, 1, 0, 0), (61, .getfield 54, 3, 0, 0), (64, .iload_n 3, 1, 0, 0), (65, .iaload, 1, 0, 0), (66, .dup2, 1, 0, 0), (67, .iaload, 1, 0, 0), (68, .iconst 1, 1, 0, 1), (69, .iadd, 1, 0, 0), (70, .iastore, 1, 0, 0), (71, .aload_n 1, 1, 0, 0), (72, .getfield 51, 3, 0, 0), (75, .iload_n 3, 1, 0, 0), (76, .iaload, 1, 0, 0), (77, .iconst 1, 1, 0, 1), (78, .if_icmp .ne 21, 3, 99, 0), (81, .aload_n 0, 1, 0, 0), (82, .getfield 9, 3, 0, 0), (85, .aload_n 1, 1, 0, 0), (86, .getfield 57, 3, 0, 0), (89, .iload_n 3, 1, 0, 0), (90, .iaload, 1, 0, 0), (91, .dup2, 1, 0, 0), (92, .iaload, 1, 0, 0), (93, .iconst 1, 1, 0, 1), (94, .iadd, 1, 0, 0), (95, .iastore, 1, 0, 0), (96, .goto 15, 3, 111, 0), (99, .aload_n 0, 1, 0, 0), (100, .getfield 15, 3, 0, 0), (103, .aload_n 1, 1, 0, 0), (104, .getfield 54, 3, 0, 0), (107, .iload_n 3, 1, 0, 0), (108, .iaload, 1, 0, 0), (109, .iload_n 2, 1, 0, 0), (110, .iastore, 1, 0, 0), (111, .iinc 2 1, 3, 0, 1), (114, .goto (-96), 3, 18, 0), (117, .return_, 1, 0, 0)]
def yC_lowestToMove : MethodName := ⟨"FlowMixer$Compressor", "lowestToMove", "(LFlowMixer$Flow;)I"⟩
def tbC_lowestToMove : List mc_R := [(0, .iconst 1, 1, 0, 1), (1, .istore_n 2, 1, 0, 0), (2, .iload_n 2, 1, 0, 0), (3, .aload_n 1, 1, 0, 0), (4, .getfield 27, 3, 0, 0), (7, .if_icmp .ge 61, 3, 68, 0), (10, .aload_n 0, 1, 0, 0), (11, .getfield 18, 3, 0, 0), (14, .iload_n 2, 1, 0, 0), (15, .iaload, 1, 0, 0), (16, .iconst (-1), 1, 0, (-1)), (17, .if_icmp .eq 7, 3, 24, 0), (20, .iconst 1, 1, 0, 1), (21, .goto 4, 3, 25, 0), (24, .iconst 0, 1, 0, 0), (25, .istore_n 3, 1, 0, 0), (26, .iload_n 3, 1, 0, 0), (27, .ifCond .eq 35, 3, 62, 0), (30, .aload_n 0, 1, 0, 0), (31, .getfield 9, 3, 0, 0), (34, .iload_n 2, 1, 0, 0), (35, .iaload, 1, 0, 0), (36, .iconst 1, 1, 0, 1), (37, .if_icmp .ne 25, 3, 62, 0), (40, .aload_n 0, 1, 0, 0), (41, .getfield 15, 3, 0, 0), (44, .iload_n 2, 1, 0, 0), (45, .iaload, 1, 0, 0), (46, .iconst (-1), 1, 0, (-1)), (47, .if_icmp .eq 15, 3, 62, 0), (50, .aload_n 0, 1, 0, 0), (51, .getfield 15, 3, 0, 0), (54, .iload_n 2, 1, 0, 0), (55, .iaload, 1, 0, 0), (56, .iload_n 2, 1, 0, 0), (57, .if_icmp .eq 5, 3, 62, 0), (60, .iload_n 2, 1, 0, 0), (61, .ireturn, 1, 0, 0), (62, .iinc 2 1, 3, 0, 1), (65, .goto (-63), 3, 2, 0), (68, .iconst (-1), 1, 0, (-1)), (69, .ireturn, 1, 0, 0)]
def yC_numberAnew : MethodName := ⟨"FlowMixer$Compressor", "numberAnew", "(LFlowMixer$Flow;)V"⟩
def tbC_numberAnew : List mc_R := [(0, .iconst 0, 1, 0, 0), (1, .istore_n 2, 1, 0, 0), (2, .iconst 0, 1, 0, 0), (3, .istore_n 3, 1, 0, 0), (4, .iload_n 3, 1, 0, 0), (5, .aload_n 1, 1, 0, 0), (6, .getfield 27, 3, 0, 0), (9, .if_icmp .ge 29, 3, 38, 0), (12, .aload_n 0, 1, 0, 0), (13, .getfield 18, 3, 0, 0), (16, .iload_n 3, 1, 0, 0), (17, .iaload, 1, 0, 0), (18, .iconst (-1), 1, 0, (-1)), (19, .if_icmp .eq 13, 3, 32, 0), (22, .aload_n 0, 1, 0, 0), (23, .getfield 18, 3, 0, 0), (26, .iload_n 3, 1, 0, 0), (27, .iload_n 2, 1, 0, 0), (28, .iastore, 1, 0, 0), (29, .iinc 2 1, 3, 0, 1), (32, .iinc 3 1, 3, 0, 1), (35, .goto (-31), 3, 4, 0), (38, .iconst 0, 1, 0, 0), (39, .istore_n 3, 1, 0, 0), (40, .iload_n 3, 1, 0, 0), (41, .aload_n 1, 1, 0, 0), (42, .getfield 27, 3, 0, 0), (45, .if_icmp .ge 65, 3, 110, 0), (48, .aload_n 0, 1, 0, 0), (49, .getfield 18, 3, 0, 0), (52, .iload_n 3, 1, 0, 0), (53, .iaload, 1, 0, 0), (54, .iconst (-1), 1, 0, (-1)), (55, .if_icmp .eq 49, 3, 104, 0), (58, .aload_n 1, 1, 0, 0), (59, .getfield 48, 3, 0, 0), (62, .iload_n 3, 1, 0, 0), (63, .iaload, 1, 0, 0), (64, .istore 4, 2, 0, 0), (66, .aload_n 1, 1, 0, 0), (67, .iload_n 3, 1, 0, 0), (68, .aload_n 0, 1, 0, 0), (69, .aload_n 1, 1, 0, 0), (70, .getfield 54, 3, 0, 0), (73, .iload 4, 2, 0, 0), (75, .iaload, 1, 0, 0), (76, .invokevirtual 60, 3, 0, 0), (79, .aload_n 0, 1, 0, 0), (80, .aload_n 1, 1, 0, 0), (81, .getfield 57, 3, 0, 0), (84, .iload 4, 2, 0, 0), (86, .iaload, 1, 0, 0), (87, .invokevirtual 60, 3, 0, 0), (90, .invokevirtual 64, 3, 0, 0), (93, .aload_n 1, 1, 0, 0), (94, .iload_n 3, 1, 0, 0), (95, .aload_n 0, 1, 0, 0), (96, .getfield 18, 3, 0, 0), (99, .iload_n 3, 1, 0, 0), (100, .iaload, 1, 0, 0), (101, .invokevirtual 68, 3, 0, 0), (104, .iinc 3 1, 3, 0, 1), (107, .goto (-67), 3, 40, 0), (110, .aload_n 1, 1, 0, 0), (111, .iload_n 2, 1, 0, 0), (112, .putfield 27, 3, 0, 0), (115, .return_, 1, 0, 0)]
def yC_numberOf : MethodName := ⟨"FlowMixer$Compressor", "numberOf", "(I)I"⟩
def tbC_numberOf : List mc_R := [(0, .iload_n 1, 1, 0, 0), (1, .iconst (-1), 1, 0, (-1)), (2, .if_icmp .ne 7, 3, 9, 0), (5, .iconst (-1), 1, 0, (-1)), (6, .goto 9, 3, 15, 0), (9, .aload_n 0, 1, 0, 0), (10, .getfield 18, 3, 0, 0), (13, .iload_n 1, 1, 0, 0), (14, .iaload, 1, 0, 0), (15, .ireturn, 1, 0, 0)]
def yT_init : MethodName := ⟨"FlowMixer$Text", "<init>", "()V"⟩
def tbT_init : List mc_R := [(0, .aload_n 0, 1, 0, 0), (1, .invokespecial 3, 3, 0, 0), (4, .aload_n 0, 1, 0, 0), (5, .sipush 3000, 3, 0, 3000), (8, .newarray .char, 2, 2, 0), (10, .putfield 9, 3, 0, 0), (13, .aload_n 0, 1, 0, 0), (14, .bipush 8, 2, 0, 8), (16, .newarray .int, 2, 0, 0), (18, .putfield 15, 3, 0, 0), (21, .return_, 1, 0, 0)]
def yT_refresh : MethodName := ⟨"FlowMixer$Text", "refresh", "(LFlowMixer$Nodes;LFlowMixer$Flow;)V"⟩
def tbT_refresh : List mc_R := [(0, .aload_n 0, 1, 0, 0), (1, .getfield 19, 3, 0, 0), (4, .ifCond .ne 4, 3, 8, 0), (7, .return_, 1, 0, 0), (8, .aload_n 0, 1, 0, 0), (9, .iconst 0, 1, 0, 0), (10, .putfield 23, 3, 0, 0), (13, .iconst 0, 1, 0, 0), (14, .istore_n 3, 1, 0, 0), (15, .iload_n 3, 1, 0, 0), (16, .aload_n 2, 1, 0, 0), (17, .getfield 27, 3, 0, 0), (20, .if_icmp .ge 40, 3, 60, 0), (23, .aload_n 0, 1, 0, 0), (24, .iload_n 3, 1, 0, 0), (25, .invokevirtual 32, 3, 0, 0), (28, .aload_n 0, 1, 0, 0), (29, .bipush 58, 2, 0, 58), (31, .invokevirtual 36, 3, 0, 0), (34, .aload_n 0, 1, 0, 0), (35, .aload_n 1, 1, 0, 0), (36, .aload_n 2, 1, 0, 0), (37, .iload_n 3, 1, 0, 0), (38, .invokevirtual 40, 3, 0, 0), (41, .aload_n 0, 1, 0, 0), (42, .aload_n 1, 1, 0, 0), (43, .aload_n 2, 1, 0, 0), (44, .iload_n 3, 1, 0, 0), (45, .invokevirtual 44, 3, 0, 0), (48, .aload_n 0, 1, 0, 0), (49, .bipush 59, 2, 0, 59), (51, .invokevirtual 36, 3, 0, 0), (54, .iinc 3 1, 3, 0, 1), (57, .goto (-42), 3, 15, 0), (60, .aload_n 0, 1, 0, 0), (61, .iconst 0, 1, 0, 0), (62, .putfield 19, 3, 0, 0), (65, .return_, 1, 0, 0)]
def yT_putAssignments : MethodName := ⟨"FlowMixer$Text", "putAssignments", "(LFlowMixer$Nodes;LFlowMixer$Flow;I)V"⟩
def tbT_putAssignments : List mc_R := [(0, .aload_n 2, 1, 0, 0), (1, .getfield 47, 3, 0, 0), (4, .iload_n 3, 1, 0, 0), (5, .iaload, 1, 0, 0), (6, .istore 4, 2, 0, 0), (8, .iconst 0, 1, 0, 0), (9, .istore 5, 2, 0, 0), (11, .iload 5, 2, 0, 0), (13, .aload_n 2, 1, 0, 0), (14, .getfield 50, 3, 0, 0), (17, .iload_n 3, 1, 0, 0), (18, .iaload, 1, 0, 0), (19, .if_icmp .ge 49, 3, 68, 0), (22, .aload_n 0, 1, 0, 0), (23, .aload_n 2, 1, 0, 0), (24, .getfield 53, 3, 0, 0), (27, .iload 4, 2, 0, 0), (29, .iaload, 1, 0, 0), (30, .invokevirtual 56, 3, 0, 0), (33, .aload_n 0, 1, 0, 0), (34, .bipush 61, 2, 0, 61), (36, .invokevirtual 36, 3, 0, 0), (39, .aload_n 0, 1, 0, 0), (40, .aload_n 1, 1, 0, 0), (41, .aload_n 2, 1, 0, 0), (42, .iload 4, 2, 0, 0), (44, .invokevirtual 59, 3, 0, 0), (47, .aload_n 0, 1, 0, 0), (48, .bipush 59, 2, 0, 59), (50, .invokevirtual 36, 3, 0, 0), (53, .aload_n 2, 1, 0, 0), (54, .getfield 62, 3, 0, 0), (57, .iload 4, 2, 0, 0), (59, .iaload, 1, 0, 0), (60, .istore 4, 2, 0, 0), (62, .iinc 5 1, 3, 0, 1), (65, .goto (-54), 3, 11, 0), (68, .return_, 1, 0, 0)]
def yT_putJump : MethodName := ⟨"FlowMixer$Text", "putJump", "(LFlowMixer$Nodes;LFlowMixer$Flow;I)V"⟩
def tbT_putJump : List mc_R := [(0, .aload_n 2, 1, 0, 0), (1, .getfield 65, 3, 0, 0), (4, .iload_n 3, 1, 0, 0), (5, .iaload, 1, 0, 0), (6, .istore 4, 2, 0, 0), (8, .aload_n 2, 1, 0, 0), (9, .getfield 68, 3, 0, 0), (12, .iload 4, 2, 0, 0), (14, .iaload, 1, 0, 0), (15, .lookupswitch 99 #[(0, 25), (1, 45)], 25, 0, 0), (40, .aload_n 0, 1, 0, 0), (41, .bipush 94, 2, 0, 94), (43, .invokevirtual 36, 3, 0, 0), (46, .aload_n 0, 1, 0, 0), (47, .aload_n 2, 1, 0, 0), (48, .getfield 71, 3, 0, 0), (51, .iload 4, 2, 0, 0), (53, .iaload, 1, 0, 0), (54, .invokevirtual 32, 3, 0, 0), (57, .goto 74, 3, 131, 0), (60, .aload_n 0, 1, 0, 0), (61, .bipush 63, 2, 0, 63), (63, .invokevirtual 36, 3, 0, 0), (66, .aload_n 0, 1, 0, 0), (67, .aload_n 1, 1, 0, 0), (68, .aload_n 2, 1, 0, 0), (69, .aload_n 2, 1, 0, 0), (70, .iload_n 3, 1, 0, 0), (71, .invokevirtual 74, 3, 0, 0), (74, .invokevirtual 59, 3, 0, 0), (77, .aload_n 0, 1, 0, 0), (78, .bipush 44, 2, 0, 44), (80, .invokevirtual 36, 3, 0, 0), (83, .aload_n 0, 1, 0, 0), (84, .aload_n 2, 1, 0, 0), (85, .getfield 71, 3, 0, 0), (88, .iload 4, 2, 0, 0), (90, .iaload, 1, 0, 0), (91, .invokevirtual 32, 3, 0, 0), (94, .aload_n 0, 1, 0, 0), (95, .bipush 44, 2, 0, 44), (97, .invokevirtual 36, 3, 0, 0), (100, .aload_n 0, 1, 0, 0), (101, .aload_n 2, 1, 0, 0), (102, .getfield 78, 3, 0, 0), (105, .iload 4, 2, 0, 0), (107, .iaload, 1, 0, 0), (108, .invokevirtual 32, 3, 0, 0), (111, .goto 20, 3, 131, 0), (114, .aload_n 0, 1, 0, 0), (115, .bipush 33, 2, 0, 33), (117, .invokevirtual 36, 3, 0, 0), (120, .aload_n 0, 1, 0, 0), (121, .aload_n 1, 1, 0, 0), (122, .aload_n 2, 1, 0, 0), (123, .aload_n 2, 1, 0, 0), (124, .iload_n 3, 1, 0, 0), (125, .invokevirtual 74, 3, 0, 0), (128, .invokevirtual 59, 3, 0, 0), (131, .return_, 1, 0, 0)]
def yT_putNodeOf : MethodName := ⟨"FlowMixer$Text", "putNodeOf", "(LFlowMixer$Nodes;LFlowMixer$Flow;I)V"⟩
def tbT_putNodeOf : List mc_R := [(0, .aload_n 2, 1, 0, 0), (1, .iload_n 3, 1, 0, 0), (2, .aload_n 0, 1, 0, 0), (3, .getfield 15, 3, 0, 0), (6, .invokevirtual 81, 3, 0, 0), (9, .aload_n 0, 1, 0, 0), (10, .aload_n 1, 1, 0, 0), (11, .aload_n 2, 1, 0, 0), (12, .getfield 85, 3, 0, 0), (15, .iload_n 3, 1, 0, 0), (16, .iaload, 1, 0, 0), (17, .aload_n 2, 1, 0, 0), (18, .getfield 88, 3, 0, 0), (21, .iconst 0, 1, 0, 0), (22, .invokevirtual 91, 3, 0, 0), (25, .return_, 1, 0, 0)]
def yT_putPart : MethodName := ⟨"FlowMixer$Text", "putPart", "(LFlowMixer$Nodes;III)V"⟩
def tbT_putPart : List mc_R := [(0, .aload_n 1, 1, 0, 0), (1, .getfield 95, 3, 0, 0), (4, .iload_n 2, 1, 0, 0), (5, .iaload, 1, 0, 0), (6, .iload_n 3, 1, 0, 0), (7, .iconst (-1), 1, 0, (-1)), (8, .ixor, 1, 0, 0), (9, .iand, 1, 0, 0), (10, .ifCond .eq 10, 3, 20, 0), (13, .iload 4, 2, 0, 0), (15, .bipush 40, 2, 0, 40), (17, .if_icmp .le 20, 3, 37, 0), (20, .aload_n 0, 1, 0, 0), (21, .aload_n 1, 1, 0, 0), (22, .iload_n 2, 1, 0, 0), (23, .aload_n 0, 1, 0, 0), (24, .getfield 15, 3, 0, 0), (27, .iconst 0, 1, 0, 0), (28, .invokevirtual 98, 3, 0, 0), (31, .invokevirtual 32, 3, 0, 0), (34, .goto 87, 3, 121, 0), (37, .aload_n 1, 1, 0, 0), (38, .getfield 102, 3, 0, 0), (41, .iload_n 2, 1, 0, 0), (42, .iaload, 1, 0, 0), (43, .iconst 1, 1, 0, 1), (44, .if_icmp .ne 16, 3, 60, 0), (47, .aload_n 0, 1, 0, 0), (48, .aload_n 1, 1, 0, 0), (49, .getfield 103, 3, 0, 0), (52, .iload_n 2, 1, 0, 0), (53, .iaload, 1, 0, 0), (54, .invokevirtual 56, 3, 0, 0), (57, .goto 64, 3, 121, 0), (60, .aload_n 0, 1, 0, 0), (61, .bipush 40, 2, 0, 40), (63, .invokevirtual 36, 3, 0, 0), (66, .aload_n 0, 1, 0, 0), (67, .aload_n 1, 1, 0, 0), (68, .aload_n 1, 1, 0, 0), (69, .getfield 103, 3, 0, 0), (72, .iload_n 2, 1, 0, 0), (73, .iaload, 1, 0, 0), (74, .iload_n 3, 1, 0, 0), (75, .iload 4, 2, 0, 0), (77, .iconst 1, 1, 0, 1), (78, .iadd, 1, 0, 0), (79, .invokevirtual 91, 3, 0, 0), (82, .aload_n 0, 1, 0, 0), (83, .ldc 104, 2, 0, 0), (85, .aload_n 1, 1, 0, 0), (86, .getfield 102, 3, 0, 0), (89, .iload_n 2, 1, 0, 0), (90, .iaload, 1, 0, 0), (91, .iconst 2, 1, 0, 2), (92, .isub, 1, 0, 0), (93, .invokevirtual 106, 3, 0, 0), (96, .invokevirtual 36, 3, 0, 0), (99, .aload_n 0, 1, 0, 0), (100, .aload_n 1, 1, 0, 0), (101, .aload_n 1, 1, 0, 0), (102, .getfield 112, 3, 0, 0), (105, .iload_n 2, 1, 0, 0), (106, .iaload, 1, 0, 0), (107, .iload_n 3, 1, 0, 0), (108, .iload 4, 2, 0, 0), (110, .iconst 1, 1, 0, 1), (111, .iadd, 1, 0, 0), (112, .invokevirtual 91, 3, 0, 0), (115, .aload_n 0, 1, 0, 0), (116, .bipush 41, 2, 0, 41), (118, .invokevirtual 36, 3, 0, 0), (121, .return_, 1, 0, 0)]
def yT_putLetter : MethodName := ⟨"FlowMixer$Text", "putLetter", "(I)V"⟩
def tbT_putLetter : List mc_R := [(0, .aload_n 0, 1, 0, 0), (1, .bipush 97, 2, 0, 97), (3, .iload_n 1, 1, 0, 0), (4, .iadd, 1, 0, 0), (5, .i2c, 1, 0, 0), (6, .invokevirtual 36, 3, 0, 0), (9, .return_, 1, 0, 0)]
def yT_putNumber : MethodName := ⟨"FlowMixer$Text", "putNumber", "(I)V"⟩
def tbT_putNumber : List mc_R := [(0, .iload_n 1, 1, 0, 0), (1, .i2l, 1, 0, 0), (2, .lstore_n 2, 1, 0, 0), (3, .lload_n 2, 1, 0, 0), (4, .lconst 0, 1, 0, 0), (5, .lcmp, 1, 0, 0), (6, .ifCond .ge 12, 3, 18, 0), (9, .aload_n 0, 1, 0, 0), (10, .bipush 45, 2, 0, 45), (12, .invokevirtual 36, 3, 0, 0), (15, .lload_n 2, 1, 0, 0), (16, .lneg, 1, 0, 0), (17, .lstore_n 2, 1, 0, 0), (18, .lconst 1, 1, 0, 0), (19, .lstore 4, 2, 0, 0), (21, .iconst 0, 1, 0, 0), (22, .istore 6, 2, 0, 0), (24, .iload 6, 2, 0, 0), (26, .bipush 9, 2, 0, 9), (28, .if_icmp .ge 28, 3, 56, 0), (31, .lload_n 2, 1, 0, 0), (32, .lload 4, 2, 0, 0), (34, .ldiv, 1, 0, 0), (35, .ldc2_w 115, 3, 0, 0), (38, .lcmp, 1, 0, 0), (39, .ifCond .lt 17, 3, 56, 0), (42, .lload 4, 2, 0, 0), (44, .ldc2_w 115, 3, 0, 0), (47, .lmul, 1, 0, 0), (48, .lstore 4, 2, 0, 0), (50, .iinc 6 1, 3, 0, 1), (53, .goto (-29), 3, 24, 0), (56, .iconst 0, 1, 0, 0), (57, .istore 6, 2, 0, 0), (59, .iload 6, 2, 0, 0), (61, .bipush 10, 2, 0, 10), (63, .if_icmp .ge 42, 3, 105, 0), (66, .lload 4, 2, 0, 0), (68, .lconst 0, 1, 0, 0), (69, .lcmp, 1, 0, 0), (70, .ifCond .le 35, 3, 105, 0), (73, .aload_n 0, 1, 0, 0), (74, .ldc2_w 117, 3, 0, 0), (77, .lload_n 2, 1, 0, 0), (78, .lload 4, 2, 0, 0), (80, .ldiv, 1, 0, 0), (81, .ldc2_w 115, 3, 0, 0), (84, .lrem, 1, 0, 0), (85, .ladd, 1, 0, 0), (86, .l2i, 1, 0, 0), (87, .i2c, 1, 0, 0), (88, .invokevirtual 36, 3, 0, 0), (91, .lload 4, 2, 0, 0), (93, .ldc2_w 115, 3, 0, 0), (96, .ldiv, 1, 0, 0), (97, .lstore 4, 2, 0, 0), (99, .iinc 6 1, 3, 0, 1), (102, .goto (-43), 3, 59, 0), (105, .return_, 1, 0, 0)]
def yT_put : MethodName := ⟨"FlowMixer$Text", "put", "(C)V"⟩
def tbT_put : List mc_R := [(0, .aload_n 0, 1, 0, 0), (1, .getfield 23, 3, 0, 0), (4, .sipush 3000, 3, 0, 3000), (7, .if_icmp .ge 13, 3, 20, 0), (10, .aload_n 0, 1, 0, 0), (11, .getfield 9, 3, 0, 0), (14, .aload_n 0, 1, 0, 0), (15, .getfield 23, 3, 0, 0), (18, .iload_n 1, 1, 0, 0), (19, .castore, 1, 0, 0), (20, .aload_n 0, 1, 0, 0), (21, .dup, 1, 0, 0), (22, .getfield 23, 3, 0, 0), (25, .iconst 1, 1, 0, 1), (26, .iadd, 1, 0, 0), (27, .putfield 23, 3, 0, 0), (30, .return_, 1, 0, 0)]
def yR_init : MethodName := ⟨"FlowMixerModel", "<init>", "()V"⟩
def tbR_init : List mc_R := [(0, .aload_n 0, 1, 0, 0), (1, .invokespecial 1, 3, 0, 0), (4, .aload_n 0, 1, 0, 0), (5, .sipush 150, 3, 0, 150), (8, .newarray .int, 2, 0, 0), (10, .putfield 7, 3, 0, 0), (13, .aload_n 0, 1, 0, 0), (14, .sipush 150, 3, 0, 150), (17, .newarray .int, 2, 0, 0), (19, .putfield 13, 3, 0, 0), (22, .aload_n 0, 1, 0, 0), (23, .sipush 150, 3, 0, 150), (26, .newarray .int, 2, 0, 0), (28, .putfield 16, 3, 0, 0), (31, .aload_n 0, 1, 0, 0), (32, .sipush 150, 3, 0, 150), (35, .newarray .int, 2, 0, 0), (37, .putfield 19, 3, 0, 0), (40, .aload_n 0, 1, 0, 0), (41, .sipush 150, 3, 0, 150), (44, .newarray .int, 2, 0, 0), (46, .putfield 22, 3, 0, 0), (49, .aload_n 0, 1, 0, 0), (50, .bipush 16, 2, 0, 16), (52, .newarray .int, 2, 0, 0), (54, .putfield 25, 3, 0, 0), (57, .aload_n 0, 1, 0, 0), (58, .sipush 160, 3, 0, 160), (61, .newarray .int, 2, 0, 0), (63, .putfield 28, 3, 0, 0), (66, .aload_n 0, 1, 0, 0), (67, .sipush 160, 3, 0, 160), (70, .newarray .int, 2, 0, 0), (72, .putfield 31, 3, 0, 0), (75, .aload_n 0, 1, 0, 0), (76, .bipush 16, 2, 0, 16), (78, .newarray .int, 2, 0, 0), (80, .putfield 34, 3, 0, 0), (83, .aload_n 0, 1, 0, 0), (84, .bipush 16, 2, 0, 16), (86, .newarray .int, 2, 0, 0), (88, .putfield 37, 3, 0, 0), (91, .aload_n 0, 1, 0, 0), (92, .bipush 16, 2, 0, 16), (94, .newarray .int, 2, 0, 0), (96, .putfield 40, 3, 0, 0), (99, .aload_n 0, 1, 0, 0), (100, .bipush 16, 2, 0, 16), (102, .newarray .int, 2, 0, 0), (104, .putfield 43, 3, 0, 0), (107, .aload_n 0, 1, 0, 0), (108, .bipush 8, 2, 0, 8), (110, .newarray .int, 2, 0, 0), (112, .putfield 46, 3, 0, 0), (115, .aload_n 0, 1, 0, 0), (116, .bipush 8, 2, 0, 8), (118, .newarray .int, 2, 0, 0), (120, .putfield 49, 3, 0, 0), (123, .aload_n 0, 1, 0, 0), (124, .sipush 150, 3, 0, 150), (127, .newarray .int, 2, 0, 0), (129, .putfield 52, 3, 0, 0), (132, .aload_n 0, 1, 0, 0), (133, .bipush 101, 2, 0, 101), (135, .newarray .int, 2, 0, 0), (137, .putfield 55, 3, 0, 0), (140, .aload_n 0, 1, 0, 0), (141, .sipush 808, 3, 0, 808), (144, .newarray .int, 2, 0, 0), (146, .putfield 58, 3, 0, 0), (149, .aload_n 0, 1, 0, 0), (150, .bipush 16, 2, 0, 16), (152, .newarray .int, 2, 0, 0), (154, .putfield 61, 3, 0, 0), (157, .aload_n 0, 1, 0, 0), (158, .bipush 100, 2, 0, 100), (160, .newarray .int, 2, 0, 0), (162, .putfield 64, 3, 0, 0), (165, .aload_n 0, 1, 0, 0), (166, .bipush 100, 2, 0, 100), (168, .newarray .boolean, 2, 3, 0), (170, .putfield 67, 3, 0, 0), (173, .aload_n 0, 1, 0, 0), (174, .bipush 100, 2, 0, 100), (176, .newarray .int, 2, 0, 0), (178, .putfield 71, 3, 0, 0), (181, .aload_n 0, 1, 0, 0), (182, .bipush 100, 2, 0, 100), (184, .newarray .int, 2, 0, 0), (186, .putfield 74, 3, 0, 0), (189, .aload_n 0, 1, 0, 0), (190, .bipush 100, 2, 0, 100), (192, .newarray .int, 2, 0, 0), (194, .putfield 77, 3, 0, 0), (197, .aload_n 0, 1, 0, 0), (198, .bipush 100, 2, 0, 100), (200, .newarray .int, 2, 0, 0), (202, .putfield 80, 3, 0, 0), (205, .aload_n 0, 1, 0, 0), (206, .bipush 100, 2, 0, 100), (208, .newarray .int, 2, 0, 0), (210, .putfield 83, 3, 0, 0), (213, .aload_n 0, 1, 0, 0), (214, .bipush 100, 2, 0, 100), (216, .newarray .int, 2, 0, 0), (218, .putfield 86, 3, 0, 0), (221, .aload_n 0, 1, 0, 0), (222, .sipush 1100, 3, 0, 1100), (225, .newarray .int, 2, 0, 0), (227, .putfield 89, 3, 0, 0), (230, .aload_n 0, 1, 0, 0), (231, .sipush 1100, 3, 0, 1100), (234, .newarray .int, 2, 0, 0), (236, .putfield 92, 3, 0, 0), (239, .aload_n 0, 1, 0, 0), (240, .sipush 1100, 3, 0, 1100), (243, .newarray .int, 2, 0, 0), (245, .putfield 95, 3, 0, 0), (248, .aload_n 0, 1, 0, 0), (249, .sipush 8800, 3, 0, 8800), (252, .newarray .int, 2, 0, 0), (254, .putfield 98, 3, 0, 0), (257, .aload_n 0, 1, 0, 0), (258, .bipush 100, 2, 0, 100), (260, .newarray .int, 2, 0, 0), (262, .putfield 101, 3, 0, 0), (265, .aload_n 0, 1, 0, 0), (266, .sipush 3000, 3, 0, 3000), (269, .newarray .int, 2, 0, 0), (271, .putfield 104, 3, 0, 0), (274, .aload_n 0, 1, 0, 0), (275, .sipush 200, 3, 0, 200), (278, .newarray .int, 2, 0, 0), (280, .putfield 107, 3, 0, 0), (283, .iconst 0, 1, 0, 0), (284, .istore_n 1, 1, 0, 0), (285, .iload_n 1, 1, 0, 0), (286, .bipush 16, 2, 0, 16), (288, .if_icmp .ge 14, 3, 302, 0), (291, .aload_n 0, 1, 0, 0), (292, .iload_n 1, 1, 0, 0), (293, .invokevirtual 110, 3, 0, 0), (296, .iinc 1 1, 3, 0, 1), (299, .goto (-14), 3, 285, 0), (302, .return_, 1, 0, 0)]
def yR_thrown : MethodName := ⟨"FlowMixerModel", "thrown", "()I"⟩
def tbR_thrown : List mc_R := [(0, .aload_n 0, 1, 0, 0), (1, .getfield 114, 3, 0, 0), (4, .ireturn, 1, 0, 0)]
def yR_goes : MethodName := ⟨"FlowMixerModel", "goes", "(ZZ)Z"⟩
def tbR_goes : List mc_R := [(0, .aload_n 0, 1, 0, 0), (1, .iload_n 1, 1, 0, 0), (2, .ifCond .ne 7, 3, 9, 0), (5, .iconst 1, 1, 0, 1), (6, .goto 12, 3, 18, 0), (9, .iload_n 2, 1, 0, 0), (10, .ifCond .ne 7, 3, 17, 0), (13, .iconst 2, 1, 0, 2), (14, .goto 4, 3, 18, 0), (17, .iconst 0, 1, 0, 0), (18, .putfield 114, 3, 0, 0), (21, .aload_n 0, 1, 0, 0), (22, .getfield 114, 3, 0, 0), (25, .ifCond .ne 7, 3, 32, 0), (28, .iconst 1, 1, 0, 1), (29, .goto 4, 3, 33, 0), (32, .iconst 0, 1, 0, 0), (33, .ireturn, 1, 0, 0)]
def yR_within : MethodName := ⟨"FlowMixerModel", "within", "(III)Z"⟩
def tbR_within : List mc_R := [(0, .iload_n 0, 1, 0, 0), (1, .iload_n 1, 1, 0, 0), (2, .if_icmp .lt 12, 3, 14, 0), (5, .iload_n 0, 1, 0, 0), (6, .iload_n 2, 1, 0, 0), (7, .if_icmp .gt 7, 3, 14, 0), (10, .iconst 1, 1, 0, 1), (11, .goto 4, 3, 15, 0), (14, .iconst 0, 1, 0, 0), (15, .ireturn, 1, 0, 0)]
def yR_isNode : MethodName := ⟨"FlowMixerModel", "isNode", "(I)Z"⟩
def tbR_isNode : List mc_R := [(0, .iload_n 1, 1, 0, 0), (1, .ifCond .lt 15, 3, 16, 0), (4, .iload_n 1, 1, 0, 0), (5, .aload_n 0, 1, 0, 0), (6, .getfield 118, 3, 0, 0), (9, .if_icmp .ge 7, 3, 16, 0), (12, .iconst 1, 1, 0, 1), (13, .goto 4, 3, 17, 0), (16, .iconst 0, 1, 0, 0), (17, .ireturn, 1, 0, 0)]
def yR_isVariable : MethodName := ⟨"FlowMixerModel", "isVariable", "(I)Z"⟩
def tbR_isVariable : List mc_R := [(0, .iload_n 0, 1, 0, 0), (1, .ifCond .lt 13, 3, 14, 0), (4, .iload_n 0, 1, 0, 0), (5, .bipush 8, 2, 0, 8), (7, .if_icmp .ge 7, 3, 14, 0), (10, .iconst 1, 1, 0, 1), (11, .goto 4, 3, 15, 0), (14, .iconst 0, 1, 0, 0), (15, .ireturn, 1, 0, 0)]
def yR_isBlock : MethodName := ⟨"FlowMixerModel", "isBlock", "(I)Z"⟩
def tbR_isBlock : List mc_R := [(0, .iload_n 0, 1, 0, 0), (1, .ifCond .lt 13, 3, 14, 0), (4, .iload_n 0, 1, 0, 0), (5, .bipush 16, 2, 0, 16), (7, .if_icmp .ge 7, 3, 14, 0), (10, .iconst 1, 1, 0, 1), (11, .goto 4, 3, 15, 0), (14, .iconst 0, 1, 0, 0), (15, .ireturn, 1, 0, 0)]
def yR_plain : MethodName := ⟨"FlowMixerModel", "plain", "(I)V"⟩
def tbR_plain : List mc_R := [(0, .aload_n 0, 1, 0, 0), (1, .getfield 25, 3, 0, 0), (4, .iload_n 1, 1, 0, 0), (5, .iconst 0, 1, 0, 0), (6, .iastore, 1, 0, 0), (7, .aload_n 0, 1, 0, 0), (8, .getfield 34, 3, 0, 0), (11, .iload_n 1, 1, 0, 0), (12, .iconst 2, 1, 0, 2), (13, .iastore, 1, 0, 0), (14, .aload_n 0, 1, 0, 0), (15, .getfield 37, 3, 0, 0), (18, .iload_n 1, 1, 0, 0), (19, .iconst (-1), 1, 0, (-1)), (20, .iastore, 1, 0, 0), (21, .return_, 1, 0, 0)]
def yR_node : MethodName := ⟨"FlowMixerModel", "node", "(III)I"⟩
def tbR_node : List mc_R := [(0, .iload_n 1, 1, 0, 0), (1, .iconst 0, 1, 0, 0), (2, .bipush 6, 2, 0, 6), (4, .invokestatic 121, 3, 0, 0), (7, .ifCond .eq 40, 3, 47, 0), (10, .iload_n 1, 1, 0, 0), (11, .iconst 1, 1, 0, 1), (12, .if_icmp .ne 10, 3, 22, 0), (15, .iload_n 2, 1, 0, 0), (16, .invokestatic 125, 3, 0, 0), (19, .ifCond .eq 28, 3, 47, 0), (22, .iload_n 1, 1, 0, 0), (23, .iconst 2, 1, 0, 2), (24, .if_icmp .lt 19, 3, 43, 0), (27, .aload_n 0, 1, 0, 0), (28, .iload_n 2, 1, 0, 0), (29, .invokevirtual 129, 3, 0, 0), (32, .ifCond .eq 15, 3, 47, 0), (35, .aload_n 0, 1, 0, 0), (36, .iload_n 3, 1, 0, 0), (37, .invokevirtual 129, 3, 0, 0), (40, .ifCond .eq 7, 3, 47, 0), (43, .iconst 1, 1, 0, 1), (44, .goto 4, 3, 48, 0), (47, .iconst 0, 1, 0, 0), (48, .istore 4, 2, 0, 0), (50, .iload 4, 2, 0, 0), (52, .ifCond .eq 26, 3, 78, 0), (55, .iload_n 1, 1, 0, 0), (56, .iconst 1, 1, 0, 1), (57, .if_icmp .le 21, 3, 78, 0), (60, .aload_n 0, 1, 0, 0), (61, .getfield 19, 3, 0, 0), (64, .iload_n 2, 1, 0, 0), (65, .iaload, 1, 0, 0), (66, .aload_n 0, 1, 0, 0), (67, .getfield 19, 3, 0, 0), (70, .iload_n 3, 1, 0, 0), (71, .iaload, 1, 0, 0), (72, .iadd, 1, 0, 0), (73, .iconst 1, 1, 0, 1), (74, .iadd, 1, 0, 0), (75, .goto 4, 3, 79, 0), (78, .iconst 1, 1, 0, 1), (79, .istore 5, 2, 0, 0), (81, .aload_n 0, 1, 0, 0), (82, .iload 4, 2, 0, 0), (84, .iload 5, 2, 0, 0), (86, .bipush 60, 2, 0, 60), (88, .if_icmp .gt 17, 3, 105, 0), (91, .aload_n 0, 1, 0, 0), (92, .getfield 118, 3, 0, 0), (95, .sipush 150, 3, 0, 150), (98, .if_icmp .ge 7, 3, 105, 0), (101, .iconst 1, 1, 0, 1), (102, .goto 4, 3, 106, 0), (105, .iconst 0, 1, 0, 0), (106, .invokevirtual 132, 3, 0, 0), (109, .ifCond .ne 5, 3, 114, 0), (112, .iconst 0, 1, 0, 0), (113, .ireturn, 1, 0, 0), (114, .aload_n 0, 1, 0, 0), (115, .getfield 7, 3, 0, 0), (118, .aload_n 0, 1, 0, 0), (119, .getfield 118, 3, 0, 0), (122, .iload_n 1, 1, 0, 0), (123, .iastore, 1, 0, 0), (124, .aload_n 0, 1, 0, 0), (125, .getfield 13, 3, 0, 0), (128, .aload_n 0, 1, 0, 0), (129, .getfield 118, 3, 0, 0), (132, .iload_n 2, 1, 0, 0), (133, .iastore, 1, 0, 0), (134, .aload_n 0, 1, 0, 0), (135, .getfield 16, 3, 0, 0), (138, .aload_n 0, 1, 0, 0), (139, .getfield 118, 3, 0, 0), (142, .iload_n 3, 1, 0, 0), (143, .iastore, 1, 0, 0), (144, .aload_n 0, 1, 0, 0), (145, .getfield 19, 3, 0, 0), (148, .aload_n 0, 1, 0, 0), (149, .getfield 118, 3, 0, 0), (152, .iload 5, 2, 0, 0), (154, .iastore, 1, 0, 0), (155, .aload_n 0, 1, 0, 0), (156, .getfield 22, 3, 0, 0), (159, .aload_n 0, 1, 0, 0), (160, .getfield 118, 3, 0, 0), (163, .iload_n 1, 1, 0, 0), (164, .ifCond .ne 7, 3, 171, 0), (167, .iconst 0, 1, 0, 0), (168, .goto 27, 3, 195, 0), (171, .iload_n 1, 1, 0, 0), (172, .iconst 1, 1, 0, 1), (173, .if_icmp .ne 9, 3, 182, 0), (176, .iconst 1, 1, 0, 1), (177, .iload_n 2, 1, 0, 0), (178, .ishl, 1, 0, 0), (179, .goto 16, 3, 195, 0), (182, .aload_n 0, 1, 0, 0), (183, .getfield 22, 3, 0, 0), (186, .iload_n 2, 1, 0, 0), (187, .iaload, 1, 0, 0), (188, .aload_n 0, 1, 0, 0), (189, .getfield 22, 3, 0, 0), (192, .iload_n 3, 1, 0, 0), (193, .iaload, 1, 0, 0), (194, .ior, 1, 0, 0), (195, .iastore, 1, 0, 0), (196, .aload_n 0, 1, 0, 0), (197, .iload 5, 2, 0, 0), (199, .aload_n 0, 1, 0, 0), (200, .getfield 136, 3, 0, 0), (203, .if_icmp .le 8, 3, 211, 0), (206, .iload 5, 2, 0, 0), (208, .goto 7, 3, 215, 0), (211, .aload_n 0, 1, 0, 0), (212, .getfield 136, 3, 0, 0), (215, .putfield 136, 3, 0, 0), (218, .aload_n 0, 1, 0, 0), (219, .dup, 1, 0, 0), (220, .getfield 118, 3, 0, 0), (223, .iconst 1, 1, 0, 1), (224, .iadd, 1, 0, 0), (225, .putfield 118, 3, 0, 0), (228, .aload_n 0, 1, 0, 0), (229, .getfield 118, 3, 0, 0), (232, .iconst 1, 1, 0, 1), (233, .isub, 1, 0, 0), (234, .ireturn, 1, 0, 0)]
def yR_assign : MethodName := ⟨"FlowMixerModel", "assign", "(III)I"⟩
def tbR_assign : List mc_R := [(0, .iload_n 1, 1, 0, 0), (1, .invokestatic 139, 3, 0, 0), (4, .ifCond .eq 22, 3, 26, 0), (7, .iload_n 2, 1, 0, 0), (8, .invokestatic 125, 3, 0, 0), (11, .ifCond .eq 15, 3, 26, 0), (14, .aload_n 0, 1, 0, 0), (15, .iload_n 3, 1, 0, 0), (16, .invokevirtual 129, 3, 0, 0), (19, .ifCond .eq 7, 3, 26, 0), (22, .iconst 1, 1, 0, 1), (23, .goto 4, 3, 27, 0), (26, .iconst 0, 1, 0, 0), (27, .istore 4, 2, 0, 0), (29, .aload_n 0, 1, 0, 0), (30, .iload 4, 2, 0, 0), (32, .iload 4, 2, 0, 0), (34, .ifCond .eq 18, 3, 52, 0), (37, .aload_n 0, 1, 0, 0), (38, .getfield 25, 3, 0, 0), (41, .iload_n 1, 1, 0, 0), (42, .iaload, 1, 0, 0), (43, .bipush 10, 2, 0, 10), (45, .if_icmp .ge 7, 3, 52, 0), (48, .iconst 1, 1, 0, 1), (49, .goto 4, 3, 53, 0), (52, .iconst 0, 1, 0, 0), (53, .invokevirtual 132, 3, 0, 0), (56, .ifCond .ne 5, 3, 61, 0), (59, .iconst 0, 1, 0, 0), (60, .ireturn, 1, 0, 0), (61, .aload_n 0, 1, 0, 0), (62, .getfield 28, 3, 0, 0), (65, .bipush 10, 2, 0, 10), (67, .iload_n 1, 1, 0, 0), (68, .imul, 1, 0, 0), (69, .aload_n 0, 1, 0, 0), (70, .getfield 25, 3, 0, 0), (73, .iload_n 1, 1, 0, 0), (74, .iaload, 1, 0, 0), (75, .iadd, 1, 0, 0), (76, .iload_n 2, 1, 0, 0), (77, .iastore, 1, 0, 0), (78, .aload_n 0, 1, 0, 0), (79, .getfield 31, 3, 0, 0), (82, .bipush 10, 2, 0, 10), (84, .iload_n 1, 1, 0, 0), (85, .imul, 1, 0, 0), (86, .aload_n 0, 1, 0, 0), (87, .getfield 25, 3, 0, 0), (90, .iload_n 1, 1, 0, 0), (91, .iaload, 1, 0, 0), (92, .iadd, 1, 0, 0), (93, .iload_n 3, 1, 0, 0), (94, .iastore, 1, 0, 0), (95, .aload_n 0, 1, 0, 0), (96, .getfield 25, 3, 0, 0), (99, .iload_n 1, 1, 0, 0), (100, .dup2, 1, 0, 0), (101, .iaload, 1, 0, 0), (102, .iconst 1, 1, 0, 1), (103, .iadd, 1, 0, 0), (104, .iastore, 1, 0, 0), (105, .aload_n 0, 1, 0, 0), (106, .getfield 25, 3, 0, 0), (109, .iload_n 1, 1, 0, 0), (110, .iaload, 1, 0, 0), (111, .ireturn, 1, 0, 0)]
def yR_jump : MethodName := ⟨"FlowMixerModel", "jump", "(IIIII)V"⟩
def tbR_jump : List mc_R := [(0, .iload_n 1, 1, 0, 0), (1, .invokestatic 139, 3, 0, 0), (4, .ifCond .eq 54, 3, 58, 0), (7, .iload_n 2, 1, 0, 0), (8, .iconst 0, 1, 0, 0), (9, .iconst 2, 1, 0, 2), (10, .invokestatic 121, 3, 0, 0), (13, .ifCond .eq 45, 3, 58, 0), (16, .iload_n 2, 1, 0, 0), (17, .ifCond .eq 11, 3, 28, 0), (20, .aload_n 0, 1, 0, 0), (21, .iload_n 3, 1, 0, 0), (22, .invokevirtual 129, 3, 0, 0), (25, .ifCond .eq 33, 3, 58, 0), (28, .iload_n 2, 1, 0, 0), (29, .iconst 2, 1, 0, 2), (30, .if_icmp .eq 11, 3, 41, 0), (33, .iload 4, 2, 0, 0), (35, .invokestatic 139, 3, 0, 0), (38, .ifCond .eq 20, 3, 58, 0), (41, .iload_n 2, 1, 0, 0), (42, .iconst 1, 1, 0, 1), (43, .if_icmp .ne 11, 3, 54, 0), (46, .iload 5, 2, 0, 0), (48, .invokestatic 139, 3, 0, 0), (51, .ifCond .eq 7, 3, 58, 0), (54, .iconst 1, 1, 0, 1), (55, .goto 4, 3, 59, 0), (58, .iconst 0, 1, 0, 0), (59, .istore 6, 2, 0, 0), (61, .aload_n 0, 1, 0, 0), (62, .iload 6, 2, 0, 0), (64, .iconst 1, 1, 0, 1), (65, .invokevirtual 132, 3, 0, 0), (68, .ifCond .eq 41, 3, 109, 0), (71, .aload_n 0, 1, 0, 0), (72, .getfield 34, 3, 0, 0), (75, .iload_n 1, 1, 0, 0), (76, .iload_n 2, 1, 0, 0), (77, .iastore, 1, 0, 0), (78, .aload_n 0, 1, 0, 0), (79, .getfield 37, 3, 0, 0), (82, .iload_n 1, 1, 0, 0), (83, .iload_n 2, 1, 0, 0), (84, .ifCond .ne 7, 3, 91, 0), (87, .iconst (-1), 1, 0, (-1)), (88, .goto 4, 3, 92, 0), (91, .iload_n 3, 1, 0, 0), (92, .iastore, 1, 0, 0), (93, .aload_n 0, 1, 0, 0), (94, .getfield 40, 3, 0, 0), (97, .iload_n 1, 1, 0, 0), (98, .iload 4, 2, 0, 0), (100, .iastore, 1, 0, 0), (101, .aload_n 0, 1, 0, 0), (102, .getfield 43, 3, 0, 0), (105, .iload_n 1, 1, 0, 0), (106, .iload 5, 2, 0, 0), (108, .iastore, 1, 0, 0), (109, .return_, 1, 0, 0)]
def yR_clear : MethodName := ⟨"FlowMixerModel", "clear", "(I)I"⟩
def tbR_clear : List mc_R := [(0, .aload_n 0, 1, 0, 0), (1, .iload_n 1, 1, 0, 0), (2, .invokestatic 139, 3, 0, 0), (5, .iconst 1, 1, 0, 1), (6, .invokevirtual 132, 3, 0, 0), (9, .ifCond .ne 5, 3, 14, 0), (12, .iconst 0, 1, 0, 0), (13, .ireturn, 1, 0, 0), (14, .aload_n 0, 1, 0, 0), (15, .getfield 25, 3, 0, 0), (18, .iload_n 1, 1, 0, 0), (19, .iaload, 1, 0, 0), (20, .istore_n 2, 1, 0, 0), (21, .aload_n 0, 1, 0, 0), (22, .iload_n 1, 1, 0, 0), (23, .invokevirtual 110, 3, 0, 0), (26, .iload_n 2, 1, 0, 0), (27, .ireturn, 1, 0, 0)]
def yR_input : MethodName := ⟨"FlowMixerModel", "input", "(II)I"⟩
def tbR_input : List mc_R := [(0, .aload_n 0, 1, 0, 0), (1, .iload_n 1, 1, 0, 0), (2, .invokestatic 125, 3, 0, 0), (5, .iconst 1, 1, 0, 1), (6, .invokevirtual 132, 3, 0, 0), (9, .ifCond .ne 5, 3, 14, 0), (12, .iconst 0, 1, 0, 0), (13, .ireturn, 1, 0, 0), (14, .aload_n 0, 1, 0, 0), (15, .getfield 46, 3, 0, 0), (18, .iload_n 1, 1, 0, 0), (19, .iaload, 1, 0, 0), (20, .istore_n 3, 1, 0, 0), (21, .aload_n 0, 1, 0, 0), (22, .getfield 46, 3, 0, 0), (25, .iload_n 1, 1, 0, 0), (26, .iload_n 2, 1, 0, 0), (27, .iastore, 1, 0, 0), (28, .iload_n 3, 1, 0, 0), (29, .ireturn, 1, 0, 0)]
def yR_worth : MethodName := ⟨"FlowMixerModel", "worth", "(I)I"⟩
def tbR_worth : List mc_R := [(0, .iload_n 1, 1, 0, 0), (1, .iconst (-1), 1, 0, (-1)), (2, .if_icmp .ne 5, 3, 7, 0), (5, .iconst 0, 1, 0, 0), (6, .ireturn, 1, 0, 0), (7, .iconst 0, 1, 0, 0), (8, .istore_n 2, 1, 0, 0), (9, .iload_n 2, 1, 0, 0), (10, .iload_n 1, 1, 0, 0), (11, .if_icmp .gt 218, 3, 229, 0), (14, .aload_n 0, 1, 0, 0), (15, .getfield 7, 3, 0, 0), (18, .iload_n 2, 1, 0, 0), (19, .iaload, 1, 0, 0), (20, .iconst 1, 1, 0, 1), (21, .if_icmp .le 17, 3, 38, 0), (24, .aload_n 0, 1, 0, 0), (25, .getfield 52, 3, 0, 0), (28, .aload_n 0, 1, 0, 0), (29, .getfield 13, 3, 0, 0), (32, .iload_n 2, 1, 0, 0), (33, .iaload, 1, 0, 0), (34, .iaload, 1, 0, 0), (35, .goto 4, 3, 39, 0), (38, .iconst 0, 1, 0, 0), (39, .istore_n 3, 1, 0, 0), (40, .aload_n 0, 1, 0, 0), (41, .getfield 7, 3, 0, 0), (44, .iload_n 2, 1, 0, 0), (45, .iaload, 1, 0, 0), (46, .iconst 1, 1, 0, 1), (47, .if_icmp .le 17, 3, 64, 0), (50, .aload_n 0, 1, 0, 0), (51, .getfield 52, 3, 0, 0), (54, .aload_n 0, 1, 0, 0), (55, .getfield 16, 3, 0, 0), (58, .iload_n 2, 1, 0, 0), (59, .iaload, 1, 0, 0), (60, .iaload, 1, 0, 0), (61, .goto 4, 3, 65, 0), (64, .iconst 0, 1, 0, 0), (65, .istore 4, 2, 0, 0), (67, .aload_n 0, 1, 0, 0), (68, .getfield 7, 3, 0, 0), (71, .iload_n 2, 1, 0, 0), (72, .iaload, 1, 0, 0), (73, .tableswitch 133 0 5 #[39, 54, 74, 87, 100, 113], 39, 0, 0), (112, .aload_n 0, 1, 0, 0), (113, .getfield 52, 3, 0, 0), (116, .iload_n 2, 1, 0, 0), (117, .aload_n 0, 1, 0, 0), (118, .getfield 13, 3, 0, 0), (121, .iload_n 2, 1, 0, 0), (122, .iaload, 1, 0, 0), (123, .iastore, 1, 0, 0), (124, .goto 99, 3, 223, 0), (127, .aload_n 0, 1, 0, 0), (128, .getfield 52, 3, 0, 0), (131, .iload_n 2, 1, 0, 0), (132, .aload_n 0, 1, 0, 0), (133, .getfield 49, 3, 0, 0), (136, .aload_n 0, 1, 0, 0), (137, .getfield 13, 3, 0, 0), (140, .iload_n 2, 1, 0, 0), (141, .iaload, 1, 0, 0), (142, .iaload, 1, 0, 0), (143, .iastore, 1, 0, 0), (144, .goto 79, 3, 223, 0), (147, .aload_n 0, 1, 0, 0), (148, .getfield 52, 3, 0, 0), (151, .iload_n 2, 1, 0, 0), (152, .iload_n 3, 1, 0, 0), (153, .iload 4, 2, 0, 0), (155, .iadd, 1, 0, 0), (156, .iastore, 1, 0, 0), (157, .goto 66, 3, 223, 0), (160, .aload_n 0, 1, 0, 0), (161, .getfield 52, 3, 0, 0), (164, .iload_n 2, 1, 0, 0), (165, .iload_n 3, 1, 0, 0), (166, .iload 4, 2, 0, 0), (168, .isub, 1, 0, 0), (169, .iastore, 1, 0, 0), (170, .goto 53, 3, 223, 0), (173, .aload_n 0, 1, 0, 0), (174, .getfield 52, 3, 0, 0), (177, .iload_n 2, 1, 0, 0), (178, .iload_n 3, 1, 0, 0), (179, .iload 4, 2, 0, 0), (181, .imul, 1, 0, 0), (182, .iastore, 1, 0, 0), (183, .goto 40, 3, 223, 0), (186, .aload_n 0, 1, 0, 0), (187, .getfield 52, 3, 0, 0), (190, .iload_n 2, 1, 0, 0), (191, .iload_n 3, 1, 0, 0), (192, .iload 4, 2, 0, 0), (194, .if_icmp .ne 7, 3, 201, 0), (197, .iconst 1, 1, 0, 1), (198, .goto 4, 3, 202, 0), (201, .iconst 0, 1, 0, 0), (202, .iastore, 1, 0, 0), (203, .goto 20, 3, 223, 0), (206, .aload_n 0, 1, 0, 0), (207, .getfield 52, 3, 0, 0), (210, .iload_n 2, 1, 0, 0), (211, .iload_n 3, 1, 0, 0), (212, .iload 4, 2, 0, 0), (214, .if_icmp .ge 7, 3, 221, 0), (217, .iconst 1, 1, 0, 1), (218, .goto 4, 3, 222, 0), (221, .iconst 0, 1, 0, 0), (222, .iastore, 1, 0, 0), (223, .iinc 2 1, 3, 0, 1), (226, .goto (-217), 3, 9, 0), (229, .aload_n 0, 1, 0, 0), (230, .getfield 52, 3, 0, 0), (233, .iload_n 1, 1, 0, 0), (234, .iaload, 1, 0, 0), (235, .ireturn, 1, 0, 0)]
def yR_begin : MethodName := ⟨"FlowMixerModel", "begin", "()V"⟩
def tbR_begin : List mc_R := [(0, .iconst 0, 1, 0, 0), (1, .istore_n 1, 1, 0, 0), (2, .iload_n 1, 1, 0, 0), (3, .bipush 8, 2, 0, 8), (5, .if_icmp .ge 21, 3, 26, 0), (8, .aload_n 0, 1, 0, 0), (9, .getfield 49, 3, 0, 0), (12, .iload_n 1, 1, 0, 0), (13, .aload_n 0, 1, 0, 0), (14, .getfield 46, 3, 0, 0), (17, .iload_n 1, 1, 0, 0), (18, .iaload, 1, 0, 0), (19, .iastore, 1, 0, 0), (20, .iinc 1 1, 3, 0, 1), (23, .goto (-21), 3, 2, 0), (26, .aload_n 0, 1, 0, 0), (27, .iconst 0, 1, 0, 0), (28, .putfield 142, 3, 0, 0), (31, .aload_n 0, 1, 0, 0), (32, .iconst 0, 1, 0, 0), (33, .putfield 145, 3, 0, 0), (36, .aload_n 0, 1, 0, 0), (37, .iconst 0, 1, 0, 0), (38, .putfield 148, 3, 0, 0), (41, .return_, 1, 0, 0)]
def yR_run : MethodName := ⟨"FlowMixerModel", "run", "(I)Z"⟩
def tbR_run : List mc_R := [(0, .aload_n 0, 1, 0, 0), (1, .iload_n 1, 1, 0, 0), (2, .iconst 0, 1, 0, 0), (3, .sipush 5000, 3, 0, 5000), (6, .invokestatic 121, 3, 0, 0), (9, .iconst 1, 1, 0, 1), (10, .invokevirtual 132, 3, 0, 0), (13, .ifCond .ne 5, 3, 18, 0), (16, .iconst 0, 1, 0, 0), (17, .ireturn, 1, 0, 0), (18, .aload_n 0, 1, 0, 0), (19, .invokevirtual 151, 3, 0, 0), (22, .iconst 0, 1, 0, 0), (23, .istore_n 2, 1, 0, 0), (24, .aload_n 0, 1, 0, 0), (25, .getfield 145, 3, 0, 0), (28, .iload_n 1, 1, 0, 0), (29, .if_icmp .ge 170, 3, 199, 0), (32, .aload_n 0, 1, 0, 0), (33, .dup, 1, 0, 0), (34, .getfield 145, 3, 0, 0), (37, .iconst 1, 1, 0, 1), (38, .iadd, 1, 0, 0), (39, .putfield 145, 3, 0, 0), (42, .iload_n 2, 1, 0, 0), (43, .aload_n 0, 1, 0, 0), (44, .getfield 25, 3, 0, 0), (47, .aload_n 0, 1, 0, 0), (48, .getfield 148, 3, 0, 0), (51, .iaload, 1, 0, 0), (52, .if_icmp .ge 46, 3, 98, 0), (55, .aload_n 0, 1, 0, 0), (56, .getfield 49, 3, 0, 0), (59, .aload_n 0, 1, 0, 0), (60, .getfield 28, 3, 0, 0), (63, .bipush 10, 2, 0, 10), (65, .aload_n 0, 1, 0, 0), (66, .getfield 148, 3, 0, 0), (69, .imul, 1, 0, 0), (70, .iload_n 2, 1, 0, 0), (71, .iadd, 1, 0, 0), (72, .iaload, 1, 0, 0), (73, .aload_n 0, 1, 0, 0), (74, .aload_n 0, 1, 0, 0), (75, .getfield 31, 3, 0, 0), (78, .bipush 10, 2, 0, 10), (80, .aload_n 0, 1, 0, 0), (81, .getfield 148, 3, 0, 0), (84, .imul, 1, 0, 0), (85, .iload_n 2, 1, 0, 0), (86, .iadd, 1, 0, 0), (87, .iaload, 1, 0, 0), (88, .invokevirtual 154, 3, 0, 0), (91, .iastore, 1, 0, 0), (92, .iinc 2 1, 3, 0, 1), (95, .goto (-71), 3, 24, 0), (98, .aload_n 0, 1, 0, 0), (99, .getfield 34, 3, 0, 0), (102, .aload_n 0, 1, 0, 0), (103, .getfield 148, 3, 0, 0), (106, .iaload, 1, 0, 0), (107, .iconst 2, 1, 0, 2), (108, .if_icmp .ne 22, 3, 130, 0), (111, .aload_n 0, 1, 0, 0), (112, .aload_n 0, 1, 0, 0), (113, .aload_n 0, 1, 0, 0), (114, .getfield 37, 3, 0, 0), (117, .aload_n 0, 1, 0, 0), (118, .getfield 148, 3, 0, 0), (121, .iaload, 1, 0, 0), (122, .invokevirtual 154, 3, 0, 0), (125, .putfield 142, 3, 0, 0), (128, .iconst 1, 1, 0, 1), (129, .ireturn, 1, 0, 0), (130, .aload_n 0, 1, 0, 0), (131, .getfield 34, 3, 0, 0), (134, .aload_n 0, 1, 0, 0), (135, .getfield 148, 3, 0, 0), (138, .iaload, 1, 0, 0), (139, .iconst 1, 1, 0, 1), (140, .if_icmp .ne 23, 3, 163, 0), (143, .aload_n 0, 1, 0, 0), (144, .aload_n 0, 1, 0, 0), (145, .getfield 37, 3, 0, 0), (148, .aload_n 0, 1, 0, 0), (149, .getfield 148, 3, 0, 0), (152, .iaload, 1, 0, 0), (153, .invokevirtual 154, 3, 0, 0), (156, .ifCond .ne 7, 3, 163, 0), (159, .iconst 1, 1, 0, 1), (160, .goto 4, 3, 164, 0), (163, .iconst 0, 1, 0, 0), (164, .istore_n 3, 1, 0, 0), (165, .aload_n 0, 1, 0, 0), (166, .iload_n 3, 1, 0, 0), (167, .ifCond .eq 15, 3, 182, 0), (170, .aload_n 0, 1, 0, 0), (171, .getfield 43, 3, 0, 0), (174, .aload_n 0, 1, 0, 0), (175, .getfield 148, 3, 0, 0), (178, .iaload, 1, 0, 0), (179, .goto 12, 3, 191, 0), (182, .aload_n 0, 1, 0, 0), (183, .getfield 40, 3, 0, 0), (186, .aload_n 0, 1, 0, 0), (187, .getfield 148, 3, 0, 0), (190, .iaload, 1, 0, 0), (191, .putfield 148, 3, 0, 0), (194, .iconst 0, 1, 0, 0), (195, .istore_n 2, 1, 0, 0), (196, .goto (-172), 3, 24, 0), (199, .iconst 0, 1, 0, 0), (200, .ireturn, 1, 0, 0)]
def yR_result : MethodName := ⟨"FlowMixerModel", "result", "(I)I"⟩
def tbR_result : List mc_R := [(0, .aload_n 0, 1, 0, 0), (1, .iload_n 1, 1, 0, 0), (2, .iconst 0, 1, 0, 0), (3, .iconst 2, 1, 0, 2), (4, .invokestatic 121, 3, 0, 0), (7, .iconst 1, 1, 0, 1), (8, .invokevirtual 132, 3, 0, 0), (11, .ifCond .ne 5, 3, 16, 0), (14, .iconst 0, 1, 0, 0), (15, .ireturn, 1, 0, 0), (16, .iload_n 1, 1, 0, 0), (17, .ifCond .ne 10, 3, 27, 0), (20, .aload_n 0, 1, 0, 0), (21, .getfield 142, 3, 0, 0), (24, .goto 19, 3, 43, 0), (27, .iload_n 1, 1, 0, 0), (28, .iconst 1, 1, 0, 1), (29, .if_icmp .ne 10, 3, 39, 0), (32, .aload_n 0, 1, 0, 0), (33, .getfield 145, 3, 0, 0), (36, .goto 7, 3, 43, 0), (39, .aload_n 0, 1, 0, 0), (40, .getfield 148, 3, 0, 0), (43, .ireturn, 1, 0, 0)]
def yR_setOf : MethodName := ⟨"FlowMixerModel", "setOf", "([II)I"⟩
def tbR_setOf : List mc_R := [(0, .iload_n 1, 1, 0, 0), (1, .iconst (-1), 1, 0, (-1)), (2, .if_icmp .ne 7, 3, 9, 0), (5, .iconst 0, 1, 0, 0), (6, .goto 6, 3, 12, 0), (9, .aload_n 0, 1, 0, 0), (10, .iload_n 1, 1, 0, 0), (11, .iaload, 1, 0, 0), (12, .ireturn, 1, 0, 0)]
def yR_dynamics : MethodName := ⟨"FlowMixerModel", "dynamics", "(I)I"⟩
def tbR_dynamics : List mc_R := [(0, .sipush 255, 3, 0, 255), (3, .iload_n 1, 1, 0, 0), (4, .iconst (-1), 1, 0, (-1)), (5, .ixor, 1, 0, 0), (6, .iand, 1, 0, 0), (7, .istore_n 2, 1, 0, 0), (8, .iconst (-1), 1, 0, (-1)), (9, .istore_n 3, 1, 0, 0), (10, .iload_n 3, 1, 0, 0), (11, .iload_n 2, 1, 0, 0), (12, .if_icmp .eq 88, 3, 100, 0), (15, .iload_n 2, 1, 0, 0), (16, .istore_n 3, 1, 0, 0), (17, .iconst 0, 1, 0, 0), (18, .istore 4, 2, 0, 0), (20, .iload 4, 2, 0, 0), (22, .sipush 160, 3, 0, 160), (25, .if_icmp .ge 72, 3, 97, 0), (28, .iload 4, 2, 0, 0), (30, .bipush 10, 2, 0, 10), (32, .irem, 1, 0, 0), (33, .aload_n 0, 1, 0, 0), (34, .getfield 25, 3, 0, 0), (37, .iload 4, 2, 0, 0), (39, .bipush 10, 2, 0, 10), (41, .idiv, 1, 0, 0), (42, .iaload, 1, 0, 0), (43, .if_icmp .ge 24, 3, 67, 0), (46, .aload_n 0, 1, 0, 0), (47, .getfield 22, 3, 0, 0), (50, .aload_n 0, 1, 0, 0), (51, .getfield 31, 3, 0, 0), (54, .iload 4, 2, 0, 0), (56, .iaload, 1, 0, 0), (57, .iaload, 1, 0, 0), (58, .iload_n 2, 1, 0, 0), (59, .iand, 1, 0, 0), (60, .ifCond .eq 7, 3, 67, 0), (63, .iconst 1, 1, 0, 1), (64, .goto 4, 3, 68, 0), (67, .iconst 0, 1, 0, 0), (68, .istore 5, 2, 0, 0), (70, .iload 5, 2, 0, 0), (72, .ifCond .eq 17, 3, 89, 0), (75, .iload_n 2, 1, 0, 0), (76, .iconst 1, 1, 0, 1), (77, .aload_n 0, 1, 0, 0), (78, .getfield 28, 3, 0, 0), (81, .iload 4, 2, 0, 0), (83, .iaload, 1, 0, 0), (84, .ishl, 1, 0, 0), (85, .ior, 1, 0, 0), (86, .goto 4, 3, 90, 0), (89, .iload_n 2, 1, 0, 0), (90, .istore_n 2, 1, 0, 0), (91, .iinc 4 1, 3, 0, 1), (94, .goto (-74), 3, 20, 0), (97, .goto (-87), 3, 10, 0), (100, .iload_n 2, 1, 0, 0), (101, .ireturn, 1, 0, 0)]
def yR_divide : MethodName := ⟨"FlowMixerModel", "divide", "(I)I"⟩
def tbR_divide : List mc_R := [(0, .aload_n 0, 1, 0, 0), (1, .iload_n 1, 1, 0, 0), (2, .iconst 0, 1, 0, 0), (3, .sipush 255, 3, 0, 255), (6, .invokestatic 121, 3, 0, 0), (9, .iconst 1, 1, 0, 1), (10, .invokevirtual 132, 3, 0, 0), (13, .ifCond .eq 17, 3, 30, 0), (16, .sipush 255, 3, 0, 255), (19, .aload_n 0, 1, 0, 0), (20, .iload_n 1, 1, 0, 0), (21, .invokevirtual 158, 3, 0, 0), (24, .iconst (-1), 1, 0, (-1)), (25, .ixor, 1, 0, 0), (26, .iand, 1, 0, 0), (27, .goto 4, 3, 31, 0), (30, .iconst 0, 1, 0, 0), (31, .ireturn, 1, 0, 0)]
def yR_allLive : MethodName := ⟨"FlowMixerModel", "allLive", "()V"⟩
def tbR_allLive : List mc_R := [(0, .iconst 0, 1, 0, 0), (1, .istore_n 1, 1, 0, 0), (2, .iload_n 1, 1, 0, 0), (3, .bipush 16, 2, 0, 16), (5, .if_icmp .ge 16, 3, 21, 0), (8, .aload_n 0, 1, 0, 0), (9, .getfield 61, 3, 0, 0), (12, .iload_n 1, 1, 0, 0), (13, .iconst 0, 1, 0, 0), (14, .iastore, 1, 0, 0), (15, .iinc 1 1, 3, 0, 1), (18, .goto (-16), 3, 2, 0), (21, .iconst 1, 1, 0, 1), (22, .istore_n 1, 1, 0, 0), (23, .iload_n 1, 1, 0, 0), (24, .ifCond .eq 176, 3, 200, 0), (27, .iconst 0, 1, 0, 0), (28, .istore_n 1, 1, 0, 0), (29, .iconst 0, 1, 0, 0), (30, .istore_n 2, 1, 0, 0), (31, .iload_n 2, 1, 0, 0), (32, .bipush 16, 2, 0, 16), (34, .if_icmp .ge 163, 3, 197, 0), (37, .aload_n 0, 1, 0, 0), (38, .getfield 22, 3, 0, 0), (41, .aload_n 0, 1, 0, 0), (42, .getfield 37, 3, 0, 0), (45, .iload_n 2, 1, 0, 0), (46, .iaload, 1, 0, 0), (47, .invokestatic 161, 3, 0, 0), (50, .istore_n 3, 1, 0, 0), (51, .aload_n 0, 1, 0, 0), (52, .getfield 34, 3, 0, 0), (55, .iload_n 2, 1, 0, 0), (56, .iaload, 1, 0, 0), (57, .iconst 2, 1, 0, 2), (58, .if_icmp .ge 19, 3, 77, 0), (61, .iload_n 3, 1, 0, 0), (62, .aload_n 0, 1, 0, 0), (63, .getfield 61, 3, 0, 0), (66, .aload_n 0, 1, 0, 0), (67, .getfield 40, 3, 0, 0), (70, .iload_n 2, 1, 0, 0), (71, .iaload, 1, 0, 0), (72, .iaload, 1, 0, 0), (73, .ior, 1, 0, 0), (74, .goto 4, 3, 78, 0), (77, .iload_n 3, 1, 0, 0), (78, .istore_n 3, 1, 0, 0), (79, .aload_n 0, 1, 0, 0), (80, .getfield 34, 3, 0, 0), (83, .iload_n 2, 1, 0, 0), (84, .iaload, 1, 0, 0), (85, .iconst 1, 1, 0, 1), (86, .if_icmp .ne 19, 3, 105, 0), (89, .iload_n 3, 1, 0, 0), (90, .aload_n 0, 1, 0, 0), (91, .getfield 61, 3, 0, 0), (94, .aload_n 0, 1, 0, 0), (95, .getfield 43, 3, 0, 0), (98, .iload_n 2, 1, 0, 0), (99, .iaload, 1, 0, 0), (100, .iaload, 1, 0, 0), (101, .ior, 1, 0, 0), (102, .goto 4, 3, 106, 0), (105, .iload_n 3, 1, 0, 0), (106, .istore_n 3, 1, 0, 0), (107, .bipush 10, 2, 0, 10), (109, .iload_n 2, 1, 0, 0), (110, .imul, 1, 0, 0), (111, .aload_n 0, 1, 0, 0), (112, .getfield 25, 3, 0, 0), (115, .iload_n 2, 1, 0, 0), (116, .iaload, 1, 0, 0), (117, .iadd, 1, 0, 0), (118, .iconst 1, 1, 0, 1), (119, .isub, 1, 0, 0), (120, .istore 4, 2, 0, 0), (122, .iload 4, 2, 0, 0), (124, .bipush 10, 2, 0, 10), (126, .iload_n 2, 1, 0, 0), (127, .imul, 1, 0, 0), (128, .if_icmp .lt 36, 3, 164, 0), (131, .iload_n 3, 1, 0, 0), (132, .iconst 1, 1, 0, 1), (133, .aload_n 0, 1, 0, 0), (134, .getfield 28, 3, 0, 0), (137, .iload 4, 2, 0, 0), (139, .iaload, 1, 0, 0), (140, .ishl, 1, 0, 0), (141, .iconst (-1), 1, 0, (-1)), (142, .ixor, 1, 0, 0), (143, .iand, 1, 0, 0), (144, .aload_n 0, 1, 0, 0), (145, .getfield 22, 3, 0, 0), (148, .aload_n 0, 1, 0, 0), (149, .getfield 31, 3, 0, 0), (152, .iload 4, 2, 0, 0), (154, .iaload, 1, 0, 0), (155, .iaload, 1, 0, 0), (156, .ior, 1, 0, 0), (157, .istore_n 3, 1, 0, 0), (158, .iinc 4 (-1), 3, 0, (-1)), (161, .goto (-39), 3, 122, 0), (164, .iload_n 1, 1, 0, 0), (165, .ifCond .ne 13, 3, 178, 0), (168, .iload_n 3, 1, 0, 0), (169, .aload_n 0, 1, 0, 0), (170, .getfield 61, 3, 0, 0), (173, .iload_n 2, 1, 0, 0), (174, .iaload, 1, 0, 0), (175, .if_icmp .eq 7, 3, 182, 0), (178, .iconst 1, 1, 0, 1), (179, .goto 4, 3, 183, 0), (182, .iconst 0, 1, 0, 0), (183, .istore_n 1, 1, 0, 0), (184, .aload_n 0, 1, 0, 0), (185, .getfield 61, 3, 0, 0), (188, .iload_n 2, 1, 0, 0), (189, .iload_n 3, 1, 0, 0), (190, .iastore, 1, 0, 0), (191, .iinc 2 1, 3, 0, 1), (194, .goto (-163), 3, 31, 0), (197, .goto (-174), 3, 23, 0), (200, .return_, 1, 0, 0)]
def yR_live : MethodName := ⟨"FlowMixerModel", "live", "(I)I"⟩
def tbR_live : List mc_R := [(0, .aload_n 0, 1, 0, 0), (1, .iload_n 1, 1, 0, 0), (2, .invokestatic 139, 3, 0, 0), (5, .iconst 1, 1, 0, 1), (6, .invokevirtual 132, 3, 0, 0), (9, .ifCond .ne 5, 3, 14, 0), (12, .iconst 0, 1, 0, 0), (13, .ireturn, 1, 0, 0), (14, .aload_n 0, 1, 0, 0), (15, .invokevirtual 165, 3, 0, 0), (18, .aload_n 0, 1, 0, 0), (19, .getfield 61, 3, 0, 0), (22, .iload_n 1, 1, 0, 0), (23, .iaload, 1, 0, 0), (24, .ireturn, 1, 0, 0)]
def yR_state : MethodName := ⟨"FlowMixerModel", "state", "(I)I"⟩
def tbR_state : List mc_R := [(0, .aload_n 0, 1, 0, 0), (1, .getfield 61, 3, 0, 0), (4, .iload_n 1, 1, 0, 0), (5, .iaload, 1, 0, 0), (6, .aload_n 0, 1, 0, 0), (7, .getfield 168, 3, 0, 0), (10, .iconst (-1), 1, 0, (-1)), (11, .ixor, 1, 0, 0), (12, .iand, 1, 0, 0), (13, .istore_n 2, 1, 0, 0), (14, .iconst 0, 1, 0, 0), (15, .istore_n 3, 1, 0, 0), (16, .iload_n 3, 1, 0, 0), (17, .aload_n 0, 1, 0, 0), (18, .getfield 171, 3, 0, 0), (21, .if_icmp .ge 92, 3, 113, 0), (24, .aload_n 0, 1, 0, 0), (25, .getfield 55, 3, 0, 0), (28, .iload_n 3, 1, 0, 0), (29, .iaload, 1, 0, 0), (30, .iload_n 1, 1, 0, 0), (31, .if_icmp .ne 7, 3, 38, 0), (34, .iconst 1, 1, 0, 1), (35, .goto 4, 3, 39, 0), (38, .iconst 0, 1, 0, 0), (39, .istore 4, 2, 0, 0), (41, .iconst 0, 1, 0, 0), (42, .istore 5, 2, 0, 0), (44, .iload 5, 2, 0, 0), (46, .bipush 8, 2, 0, 8), (48, .if_icmp .ge 52, 3, 100, 0), (51, .iload 4, 2, 0, 0), (53, .ifCond .eq 38, 3, 91, 0), (56, .iload_n 2, 1, 0, 0), (57, .iload 5, 2, 0, 0), (59, .ishr, 1, 0, 0), (60, .iconst 1, 1, 0, 1), (61, .iand, 1, 0, 0), (62, .ifCond .eq 25, 3, 87, 0), (65, .aload_n 0, 1, 0, 0), (66, .getfield 58, 3, 0, 0), (69, .bipush 8, 2, 0, 8), (71, .iload_n 3, 1, 0, 0), (72, .imul, 1, 0, 0), (73, .iload 5, 2, 0, 0), (75, .iadd, 1, 0, 0), (76, .iaload, 1, 0, 0), (77, .aload_n 0, 1, 0, 0), (78, .getfield 49, 3, 0, 0), (81, .iload 5, 2, 0, 0), (83, .iaload, 1, 0, 0), (84, .if_icmp .ne 7, 3, 91, 0), (87, .iconst 1, 1, 0, 1), (88, .goto 4, 3, 92, 0), (91, .iconst 0, 1, 0, 0), (92, .istore 4, 2, 0, 0), (94, .iinc 5 1, 3, 0, 1), (97, .goto (-53), 3, 44, 0), (100, .iload 4, 2, 0, 0), (102, .ifCond .eq 5, 3, 107, 0), (105, .iload_n 3, 1, 0, 0), (106, .ireturn, 1, 0, 0), (107, .iinc 3 1, 3, 0, 1), (110, .goto (-94), 3, 16, 0), (113, .aload_n 0, 1, 0, 0), (114, .getfield 171, 3, 0, 0), (117, .bipush 101, 2, 0, 101), (119, .if_icmp .ne 6, 3, 125, 0), (122, .bipush 100, 2, 0, 100), (124, .ireturn, 1, 0, 0), (125, .aload_n 0, 1, 0, 0), (126, .getfield 55, 3, 0, 0), (129, .aload_n 0, 1, 0, 0), (130, .getfield 171, 3, 0, 0), (133, .iload_n 1, 1, 0, 0), (134, .iastore, 1, 0, 0), (135, .iconst 0, 1, 0, 0), (136, .istore_n 3, 1, 0, 0), (137, .iload_n 3, 1, 0, 0), (138, .bipush 8, 2, 0, 8), (140, .if_icmp .ge 29, 3, 169, 0), (143, .aload_n 0, 1, 0, 0), (144, .getfield 58, 3, 0, 0), (147, .bipush 8, 2, 0, 8), (149, .aload_n 0, 1, 0, 0), (150, .getfield 171, 3, 0, 0), (153, .imul, 1, 0, 0), (154, .iload_n 3, 1, 0, 0), (155, .iadd, 1, 0, 0), (156, .aload_n 0, 1, 0, 0), (157, .getfield 49, 3, 0, 0), (160, .iload_n 3, 1, 0, 0), (161, .iaload, 1, 0, 0), (162, .iastore, 1, 0, 0), (163, .iinc 3 1, 3, 0, 1), (166, .goto (-29), 3, 137, 0), (169, .aload_n 0, 1, 0, 0), (170, .dup, 1, 0, 0), (171, .getfield 171, 3, 0, 0), (174, .iconst 1, 1, 0, 1), (175, .iadd, 1, 0, 0), (176, .putfield 171, 3, 0, 0), (179, .aload_n 0, 1, 0, 0), (180, .getfield 171, 3, 0, 0), (183, .iconst 1, 1, 0, 1), (184, .isub, 1, 0, 0), (185, .ireturn, 1, 0, 0)]
def yR_part : MethodName := ⟨"FlowMixerModel", "part", "(II)I"⟩
def tbR_part : List mc_R := [(0, .aload_n 0, 1, 0, 0), (1, .getfield 92, 3, 0, 0), (4, .aload_n 0, 1, 0, 0), (5, .getfield 174, 3, 0, 0), (8, .iload_n 1, 1, 0, 0), (9, .iastore, 1, 0, 0), (10, .aload_n 0, 1, 0, 0), (11, .getfield 95, 3, 0, 0), (14, .aload_n 0, 1, 0, 0), (15, .getfield 174, 3, 0, 0), (18, .iload_n 2, 1, 0, 0), (19, .iastore, 1, 0, 0), (20, .aload_n 0, 1, 0, 0), (21, .getfield 89, 3, 0, 0), (24, .aload_n 0, 1, 0, 0), (25, .getfield 174, 3, 0, 0), (28, .iconst (-1), 1, 0, (-1)), (29, .iastore, 1, 0, 0), (30, .iconst 0, 1, 0, 0), (31, .istore_n 3, 1, 0, 0), (32, .iload_n 3, 1, 0, 0), (33, .bipush 8, 2, 0, 8), (35, .if_icmp .ge 29, 3, 64, 0), (38, .aload_n 0, 1, 0, 0), (39, .getfield 98, 3, 0, 0), (42, .bipush 8, 2, 0, 8), (44, .aload_n 0, 1, 0, 0), (45, .getfield 174, 3, 0, 0), (48, .imul, 1, 0, 0), (49, .iload_n 3, 1, 0, 0), (50, .iadd, 1, 0, 0), (51, .aload_n 0, 1, 0, 0), (52, .getfield 49, 3, 0, 0), (55, .iload_n 3, 1, 0, 0), (56, .iaload, 1, 0, 0), (57, .iastore, 1, 0, 0), (58, .iinc 3 1, 3, 0, 1), (61, .goto (-29), 3, 32, 0), (64, .aload_n 0, 1, 0, 0), (65, .dup, 1, 0, 0), (66, .getfield 174, 3, 0, 0), (69, .iconst 1, 1, 0, 1), (70, .iadd, 1, 0, 0), (71, .putfield 174, 3, 0, 0), (74, .aload_n 0, 1, 0, 0), (75, .getfield 174, 3, 0, 0), (78, .iconst 1, 1, 0, 1), (79, .isub, 1, 0, 0), (80, .ireturn, 1, 0, 0)]
def yR_append : MethodName := ⟨"FlowMixerModel", "append", "(II)V"⟩
def tbR_append : List mc_R := [(0, .aload_n 0, 1, 0, 0), (1, .getfield 71, 3, 0, 0), (4, .iload_n 1, 1, 0, 0), (5, .iaload, 1, 0, 0), (6, .iconst (-1), 1, 0, (-1)), (7, .if_icmp .ne 13, 3, 20, 0), (10, .aload_n 0, 1, 0, 0), (11, .getfield 71, 3, 0, 0), (14, .iload_n 1, 1, 0, 0), (15, .iload_n 2, 1, 0, 0), (16, .iastore, 1, 0, 0), (17, .goto 15, 3, 32, 0), (20, .aload_n 0, 1, 0, 0), (21, .getfield 89, 3, 0, 0), (24, .aload_n 0, 1, 0, 0), (25, .getfield 74, 3, 0, 0), (28, .iload_n 1, 1, 0, 0), (29, .iaload, 1, 0, 0), (30, .iload_n 2, 1, 0, 0), (31, .iastore, 1, 0, 0), (32, .aload_n 0, 1, 0, 0), (33, .getfield 74, 3, 0, 0), (36, .iload_n 1, 1, 0, 0), (37, .iload_n 2, 1, 0, 0), (38, .iastore, 1, 0, 0), (39, .return_, 1, 0, 0)]
def yR_work : MethodName := ⟨"FlowMixerModel", "work", "(IZ)V"⟩
def tbR_work : List mc_R := [(0, .aload_n 0, 1, 0, 0), (1, .getfield 55, 3, 0, 0), (4, .iload_n 1, 1, 0, 0), (5, .iaload, 1, 0, 0), (6, .istore_n 3, 1, 0, 0), (7, .iconst 0, 1, 0, 0), (8, .istore 4, 2, 0, 0), (10, .iload 4, 2, 0, 0), (12, .bipush 8, 2, 0, 8), (14, .if_icmp .ge 28, 3, 42, 0), (17, .aload_n 0, 1, 0, 0), (18, .getfield 49, 3, 0, 0), (21, .iload 4, 2, 0, 0), (23, .aload_n 0, 1, 0, 0), (24, .getfield 58, 3, 0, 0), (27, .bipush 8, 2, 0, 8), (29, .iload_n 1, 1, 0, 0), (30, .imul, 1, 0, 0), (31, .iload 4, 2, 0, 0), (33, .iadd, 1, 0, 0), (34, .iaload, 1, 0, 0), (35, .iastore, 1, 0, 0), (36, .iinc 4 1, 3, 0, 1), (39, .goto (-29), 3, 10, 0), (42, .bipush 10, 2, 0, 10), (44, .iload_n 3, 1, 0, 0), (45, .imul, 1, 0, 0), (46, .istore 4, 2, 0, 0), (48, .iload 4, 2, 0, 0), (50, .bipush 10, 2, 0, 10), (52, .iload_n 3, 1, 0, 0), (53, .imul, 1, 0, 0), (54, .aload_n 0, 1, 0, 0), (55, .getfield 25, 3, 0, 0), (58, .iload_n 3, 1, 0, 0), (59, .iaload, 1, 0, 0), (60, .iadd, 1, 0, 0), (61, .if_icmp .ge 97, 3, 158, 0), (64, .aload_n 0, 1, 0, 0), (65, .getfield 168, 3, 0, 0), (68, .aload_n 0, 1, 0, 0), (69, .getfield 28, 3, 0, 0), (72, .iload 4, 2, 0, 0), (74, .iaload, 1, 0, 0), (75, .ishr, 1, 0, 0), (76, .iconst 1, 1, 0, 1), (77, .iand, 1, 0, 0), (78, .iconst 1, 1, 0, 1), (79, .if_icmp .ne 7, 3, 86, 0), (82, .iconst 1, 1, 0, 1), (83, .goto 4, 3, 87, 0), (86, .iconst 0, 1, 0, 0), (87, .istore 5, 2, 0, 0), (89, .iload 5, 2, 0, 0), (91, .ifCond .eq 33, 3, 124, 0), (94, .iload_n 2, 1, 0, 0), (95, .ifCond .eq 29, 3, 124, 0), (98, .aload_n 0, 1, 0, 0), (99, .iload_n 1, 1, 0, 0), (100, .aload_n 0, 1, 0, 0), (101, .aload_n 0, 1, 0, 0), (102, .getfield 28, 3, 0, 0), (105, .iload 4, 2, 0, 0), (107, .iaload, 1, 0, 0), (108, .aload_n 0, 1, 0, 0), (109, .getfield 31, 3, 0, 0), (112, .iload 4, 2, 0, 0), (114, .iaload, 1, 0, 0), (115, .invokevirtual 177, 3, 0, 0), (118, .invokevirtual 181, 3, 0, 0), (121, .goto 31, 3, 152, 0), (124, .iload 5, 2, 0, 0), (126, .ifCond .ne 26, 3, 152, 0), (129, .aload_n 0, 1, 0, 0), (130, .getfield 49, 3, 0, 0), (133, .aload_n 0, 1, 0, 0), (134, .getfield 28, 3, 0, 0), (137, .iload 4, 2, 0, 0), (139, .iaload, 1, 0, 0), (140, .aload_n 0, 1, 0, 0), (141, .aload_n 0, 1, 0, 0), (142, .getfield 31, 3, 0, 0), (145, .iload 4, 2, 0, 0), (147, .iaload, 1, 0, 0), (148, .invokevirtual 154, 3, 0, 0), (151, .iastore, 1, 0, 0), (152, .iinc 4 1, 3, 0, 1), (155, .goto (-107), 3, 48, 0), (158, .aload_n 0, 1, 0, 0), (159, .getfield 37, 3, 0, 0), (162, .iload_n 3, 1, 0, 0), (163, .iaload, 1, 0, 0), (164, .istore 4, 2, 0, 0), (166, .aload_n 0, 1, 0, 0), (167, .getfield 34, 3, 0, 0), (170, .iload_n 3, 1, 0, 0), (171, .iaload, 1, 0, 0), (172, .iconst 1, 1, 0, 1), (173, .if_icmp .ne 22, 3, 195, 0), (176, .aload_n 0, 1, 0, 0), (177, .getfield 22, 3, 0, 0), (180, .iload 4, 2, 0, 0), (182, .iaload, 1, 0, 0), (183, .aload_n 0, 1, 0, 0), (184, .getfield 168, 3, 0, 0), (187, .iand, 1, 0, 0), (188, .ifCond .eq 7, 3, 195, 0), (191, .iconst 1, 1, 0, 1), (192, .goto 4, 3, 196, 0), (195, .iconst 0, 1, 0, 0), (196, .istore 5, 2, 0, 0), (198, .aload_n 0, 1, 0, 0), (199, .getfield 34, 3, 0, 0), (202, .iload_n 3, 1, 0, 0), (203, .iaload, 1, 0, 0), (204, .iconst 1, 1, 0, 1), (205, .if_icmp .ne 21, 3, 226, 0), (208, .iload 5, 2, 0, 0), (210, .ifCond .ne 16, 3, 226, 0), (213, .aload_n 0, 1, 0, 0), (214, .iload 4, 2, 0, 0), (216, .invokevirtual 154, 3, 0, 0), (219, .ifCond .ne 7, 3, 226, 0), (222, .iconst 1, 1, 0, 1), (223, .goto 4, 3, 227, 0), (226, .iconst 0, 1, 0, 0), (227, .istore 6, 2, 0, 0), (229, .aload_n 0, 1, 0, 0), (230, .getfield 34, 3, 0, 0), (233, .iload_n 3, 1, 0, 0), (234, .iaload, 1, 0, 0), (235, .iconst 2, 1, 0, 2), (236, .if_icmp .ne 7, 3, 243, 0), (239, .iconst (-1), 1, 0, (-1)), (240, .goto 27, 3, 267, 0), (243, .aload_n 0, 1, 0, 0), (244, .iload 6, 2, 0, 0), (246, .ifCond .eq 12, 3, 258, 0), (249, .aload_n 0, 1, 0, 0), (250, .getfield 43, 3, 0, 0), (253, .iload_n 3, 1, 0, 0), (254, .iaload, 1, 0, 0), (255, .goto 9, 3, 264, 0), (258, .aload_n 0, 1, 0, 0), (259, .getfield 40, 3, 0, 0), (262, .iload_n 3, 1, 0, 0), (263, .iaload, 1, 0, 0), (264, .invokevirtual 185, 3, 0, 0), (267, .istore 7, 2, 0, 0), (269, .iload 5, 2, 0, 0), (271, .ifCond .eq 16, 3, 287, 0), (274, .aload_n 0, 1, 0, 0), (275, .aload_n 0, 1, 0, 0), (276, .getfield 43, 3, 0, 0), (279, .iload_n 3, 1, 0, 0), (280, .iaload, 1, 0, 0), (281, .invokevirtual 185, 3, 0, 0), (284, .goto 4, 3, 288, 0), (287, .iconst (-1), 1, 0, (-1)), (288, .istore 8, 2, 0, 0), (290, .iload_n 2, 1, 0, 0), (291, .ifCond .eq 75, 3, 366, 0), (294, .aload_n 0, 1, 0, 0), (295, .getfield 77, 3, 0, 0), (298, .iload_n 1, 1, 0, 0), (299, .aload_n 0, 1, 0, 0), (300, .getfield 34, 3, 0, 0), (303, .iload_n 3, 1, 0, 0), (304, .iaload, 1, 0, 0), (305, .iconst 2, 1, 0, 2), (306, .if_icmp .ne 7, 3, 313, 0), (309, .iconst 2, 1, 0, 2), (310, .goto 13, 3, 323, 0), (313, .iload 5, 2, 0, 0), (315, .ifCond .eq 7, 3, 322, 0), (318, .iconst 1, 1, 0, 1), (319, .goto 4, 3, 323, 0), (322, .iconst 0, 1, 0, 0), (323, .iastore, 1, 0, 0), (324, .aload_n 0, 1, 0, 0), (325, .getfield 80, 3, 0, 0), (328, .iload_n 1, 1, 0, 0), (329, .iload 7, 2, 0, 0), (331, .iastore, 1, 0, 0), (332, .aload_n 0, 1, 0, 0), (333, .getfield 83, 3, 0, 0), (336, .iload_n 1, 1, 0, 0), (337, .iload 8, 2, 0, 0), (339, .iastore, 1, 0, 0), (340, .aload_n 0, 1, 0, 0), (341, .getfield 86, 3, 0, 0), (344, .iload_n 1, 1, 0, 0), (345, .aload_n 0, 1, 0, 0), (346, .iconst (-1), 1, 0, (-1)), (347, .aload_n 0, 1, 0, 0), (348, .getfield 77, 3, 0, 0), (351, .iload_n 1, 1, 0, 0), (352, .iaload, 1, 0, 0), (353, .ifCond .ne 7, 3, 360, 0), (356, .iconst (-1), 1, 0, (-1)), (357, .goto 5, 3, 362, 0), (360, .iload 4, 2, 0, 0), (362, .invokevirtual 177, 3, 0, 0), (365, .iastore, 1, 0, 0), (366, .return_, 1, 0, 0)]
def yR_mix : MethodName := ⟨"FlowMixerModel", "mix", "(I)I"⟩
def tbR_mix : List mc_R := [(0, .aload_n 0, 1, 0, 0), (1, .iload_n 1, 1, 0, 0), (2, .iconst 0, 1, 0, 0), (3, .sipush 255, 3, 0, 255), (6, .invokestatic 121, 3, 0, 0), (9, .iconst 1, 1, 0, 1), (10, .invokevirtual 132, 3, 0, 0), (13, .ifCond .ne 5, 3, 18, 0), (16, .iconst 0, 1, 0, 0), (17, .ireturn, 1, 0, 0), (18, .aload_n 0, 1, 0, 0), (19, .aload_n 0, 1, 0, 0), (20, .iload_n 1, 1, 0, 0), (21, .invokevirtual 158, 3, 0, 0), (24, .putfield 168, 3, 0, 0), (27, .aload_n 0, 1, 0, 0), (28, .invokevirtual 165, 3, 0, 0), (31, .aload_n 0, 1, 0, 0), (32, .iconst 0, 1, 0, 0), (33, .putfield 171, 3, 0, 0), (36, .iconst 0, 1, 0, 0), (37, .istore_n 2, 1, 0, 0), (38, .iload_n 2, 1, 0, 0), (39, .bipush 8, 2, 0, 8), (41, .if_icmp .ge 21, 3, 62, 0), (44, .aload_n 0, 1, 0, 0), (45, .getfield 49, 3, 0, 0), (48, .iload_n 2, 1, 0, 0), (49, .aload_n 0, 1, 0, 0), (50, .getfield 46, 3, 0, 0), (53, .iload_n 2, 1, 0, 0), (54, .iaload, 1, 0, 0), (55, .iastore, 1, 0, 0), (56, .iinc 2 1, 3, 0, 1), (59, .goto (-21), 3, 38, 0), (62, .aload_n 0, 1, 0, 0), (63, .iconst 0, 1, 0, 0), (64, .invokevirtual 185, 3, 0, 0), (67, .istore_n 2, 1, 0, 0), (68, .iconst 0, 1, 0, 0), (69, .istore_n 3, 1, 0, 0), (70, .iload_n 3, 1, 0, 0), (71, .aload_n 0, 1, 0, 0), (72, .getfield 171, 3, 0, 0), (75, .if_icmp .ge 24, 3, 99, 0), (78, .aload_n 0, 1, 0, 0), (79, .getfield 171, 3, 0, 0), (82, .bipush 101, 2, 0, 101), (84, .if_icmp .ge 15, 3, 99, 0), (87, .aload_n 0, 1, 0, 0), (88, .iload_n 3, 1, 0, 0), (89, .iconst 0, 1, 0, 0), (90, .invokevirtual 188, 3, 0, 0), (93, .iinc 3 1, 3, 0, 1), (96, .goto (-26), 3, 70, 0), (99, .aload_n 0, 1, 0, 0), (100, .getfield 171, 3, 0, 0), (103, .bipush 100, 2, 0, 100), (105, .if_icmp .le 5, 3, 110, 0), (108, .iconst (-1), 1, 0, (-1)), (109, .ireturn, 1, 0, 0), (110, .aload_n 0, 1, 0, 0), (111, .aload_n 0, 1, 0, 0), (112, .getfield 171, 3, 0, 0), (115, .putfield 192, 3, 0, 0), (118, .aload_n 0, 1, 0, 0), (119, .aload_n 0, 1, 0, 0), (120, .getfield 168, 3, 0, 0), (123, .putfield 195, 3, 0, 0), (126, .aload_n 0, 1, 0, 0), (127, .iconst 0, 1, 0, 0), (128, .putfield 174, 3, 0, 0), (131, .iconst 0, 1, 0, 0), (132, .istore_n 3, 1, 0, 0), (133, .iload_n 3, 1, 0, 0), (134, .aload_n 0, 1, 0, 0), (135, .getfield 192, 3, 0, 0), (138, .if_icmp .ge 41, 3, 179, 0), (141, .aload_n 0, 1, 0, 0), (142, .getfield 64, 3, 0, 0), (145, .iload_n 3, 1, 0, 0), (146, .aload_n 0, 1, 0, 0), (147, .getfield 55, 3, 0, 0), (150, .iload_n 3, 1, 0, 0), (151, .iaload, 1, 0, 0), (152, .iastore, 1, 0, 0), (153, .aload_n 0, 1, 0, 0), (154, .getfield 71, 3, 0, 0), (157, .iload_n 3, 1, 0, 0), (158, .iconst (-1), 1, 0, (-1)), (159, .iastore, 1, 0, 0), (160, .aload_n 0, 1, 0, 0), (161, .getfield 67, 3, 0, 0), (164, .iload_n 3, 1, 0, 0), (165, .iconst 0, 1, 0, 0), (166, .bastore, 1, 0, 0), (167, .aload_n 0, 1, 0, 0), (168, .iload_n 3, 1, 0, 0), (169, .iconst 1, 1, 0, 1), (170, .invokevirtual 188, 3, 0, 0), (173, .iinc 3 1, 3, 0, 1), (176, .goto (-43), 3, 133, 0), (179, .aload_n 0, 1, 0, 0), (180, .invokevirtual 198, 3, 0, 0), (183, .aload_n 0, 1, 0, 0), (184, .getfield 192, 3, 0, 0), (187, .ireturn, 1, 0, 0)]
def yR_worthOf : MethodName := ⟨"FlowMixerModel", "worthOf", "(I)I"⟩
def tbR_worthOf : List mc_R := [(0, .aload_n 0, 1, 0, 0), (1, .getfield 95, 3, 0, 0), (4, .iload_n 1, 1, 0, 0), (5, .iaload, 1, 0, 0), (6, .istore_n 2, 1, 0, 0), (7, .iconst 0, 1, 0, 0), (8, .istore_n 3, 1, 0, 0), (9, .iload_n 3, 1, 0, 0), (10, .bipush 8, 2, 0, 8), (12, .if_icmp .ge 47, 3, 59, 0), (15, .aload_n 0, 1, 0, 0), (16, .getfield 49, 3, 0, 0), (19, .iload_n 3, 1, 0, 0), (20, .aload_n 0, 1, 0, 0), (21, .getfield 195, 3, 0, 0), (24, .iload_n 3, 1, 0, 0), (25, .ishr, 1, 0, 0), (26, .iconst 1, 1, 0, 1), (27, .iand, 1, 0, 0), (28, .iconst 1, 1, 0, 1), (29, .if_icmp .ne 12, 3, 41, 0), (32, .aload_n 0, 1, 0, 0), (33, .getfield 49, 3, 0, 0), (36, .iload_n 3, 1, 0, 0), (37, .iaload, 1, 0, 0), (38, .goto 14, 3, 52, 0), (41, .aload_n 0, 1, 0, 0), (42, .getfield 98, 3, 0, 0), (45, .bipush 8, 2, 0, 8), (47, .iload_n 1, 1, 0, 0), (48, .imul, 1, 0, 0), (49, .iload_n 3, 1, 0, 0), (50, .iadd, 1, 0, 0), (51, .iaload, 1, 0, 0), (52, .iastore, 1, 0, 0), (53, .iinc 3 1, 3, 0, 1), (56, .goto (-47), 3, 9, 0), (59, .aload_n 0, 1, 0, 0), (60, .iload_n 2, 1, 0, 0), (61, .invokevirtual 154, 3, 0, 0), (64, .ireturn, 1, 0, 0)]
def yR_follow : MethodName := ⟨"FlowMixerModel", "follow", "(I)Z"⟩
def tbR_follow : List mc_R := [(0, .aload_n 0, 1, 0, 0), (1, .iload_n 1, 1, 0, 0), (2, .iconst 0, 1, 0, 0), (3, .sipush 5000, 3, 0, 5000), (6, .invokestatic 121, 3, 0, 0), (9, .aload_n 0, 1, 0, 0), (10, .getfield 192, 3, 0, 0), (13, .ifCond .le 7, 3, 20, 0), (16, .iconst 1, 1, 0, 1), (17, .goto 4, 3, 21, 0), (20, .iconst 0, 1, 0, 0), (21, .invokevirtual 132, 3, 0, 0), (24, .ifCond .ne 5, 3, 29, 0), (27, .iconst 0, 1, 0, 0), (28, .ireturn, 1, 0, 0), (29, .aload_n 0, 1, 0, 0), (30, .invokevirtual 151, 3, 0, 0), (33, .aload_n 0, 1, 0, 0), (34, .getfield 71, 3, 0, 0), (37, .iconst 0, 1, 0, 0), (38, .iaload, 1, 0, 0), (39, .istore_n 2, 1, 0, 0), (40, .aload_n 0, 1, 0, 0), (41, .getfield 145, 3, 0, 0), (44, .iload_n 1, 1, 0, 0), (45, .if_icmp .ge 155, 3, 200, 0), (48, .aload_n 0, 1, 0, 0), (49, .dup, 1, 0, 0), (50, .getfield 145, 3, 0, 0), (53, .iconst 1, 1, 0, 1), (54, .iadd, 1, 0, 0), (55, .putfield 145, 3, 0, 0), (58, .iload_n 2, 1, 0, 0), (59, .iconst (-1), 1, 0, (-1)), (60, .if_icmp .eq 31, 3, 91, 0), (63, .aload_n 0, 1, 0, 0), (64, .iload_n 2, 1, 0, 0), (65, .invokevirtual 201, 3, 0, 0), (68, .istore_n 3, 1, 0, 0), (69, .aload_n 0, 1, 0, 0), (70, .getfield 49, 3, 0, 0), (73, .aload_n 0, 1, 0, 0), (74, .getfield 92, 3, 0, 0), (77, .iload_n 2, 1, 0, 0), (78, .iaload, 1, 0, 0), (79, .iload_n 3, 1, 0, 0), (80, .iastore, 1, 0, 0), (81, .aload_n 0, 1, 0, 0), (82, .getfield 89, 3, 0, 0), (85, .iload_n 2, 1, 0, 0), (86, .iaload, 1, 0, 0), (87, .istore_n 2, 1, 0, 0), (88, .goto (-48), 3, 40, 0), (91, .aload_n 0, 1, 0, 0), (92, .getfield 77, 3, 0, 0), (95, .aload_n 0, 1, 0, 0), (96, .getfield 148, 3, 0, 0), (99, .iaload, 1, 0, 0), (100, .iconst 2, 1, 0, 2), (101, .if_icmp .ne 22, 3, 123, 0), (104, .aload_n 0, 1, 0, 0), (105, .aload_n 0, 1, 0, 0), (106, .aload_n 0, 1, 0, 0), (107, .getfield 86, 3, 0, 0), (110, .aload_n 0, 1, 0, 0), (111, .getfield 148, 3, 0, 0), (114, .iaload, 1, 0, 0), (115, .invokevirtual 201, 3, 0, 0), (118, .putfield 142, 3, 0, 0), (121, .iconst 1, 1, 0, 1), (122, .ireturn, 1, 0, 0), (123, .aload_n 0, 1, 0, 0), (124, .getfield 77, 3, 0, 0), (127, .aload_n 0, 1, 0, 0), (128, .getfield 148, 3, 0, 0), (131, .iaload, 1, 0, 0), (132, .iconst 1, 1, 0, 1), (133, .if_icmp .ne 23, 3, 156, 0), (136, .aload_n 0, 1, 0, 0), (137, .aload_n 0, 1, 0, 0), (138, .getfield 86, 3, 0, 0), (141, .aload_n 0, 1, 0, 0), (142, .getfield 148, 3, 0, 0), (145, .iaload, 1, 0, 0), (146, .invokevirtual 201, 3, 0, 0), (149, .ifCond .ne 7, 3, 156, 0), (152, .iconst 1, 1, 0, 1), (153, .goto 4, 3, 157, 0), (156, .iconst 0, 1, 0, 0), (157, .istore_n 3, 1, 0, 0), (158, .aload_n 0, 1, 0, 0), (159, .iload_n 3, 1, 0, 0), (160, .ifCond .eq 15, 3, 175, 0), (163, .aload_n 0, 1, 0, 0), (164, .getfield 83, 3, 0, 0), (167, .aload_n 0, 1, 0, 0), (168, .getfield 148, 3, 0, 0), (171, .iaload, 1, 0, 0), (172, .goto 12, 3, 184, 0), (175, .aload_n 0, 1, 0, 0), (176, .getfield 80, 3, 0, 0), (179, .aload_n 0, 1, 0, 0), (180, .getfield 148, 3, 0, 0), (183, .iaload, 1, 0, 0), (184, .putfield 148, 3, 0, 0), (187, .aload_n 0, 1, 0, 0), (188, .getfield 71, 3, 0, 0), (191, .aload_n 0, 1, 0, 0), (192, .getfield 148, 3, 0, 0), (195, .iaload, 1, 0, 0), (196, .istore_n 2, 1, 0, 0), (197, .goto (-157), 3, 40, 0), (200, .iconst 0, 1, 0, 0), (201, .ireturn, 1, 0, 0)]
def yR_jumpsTo : MethodName := ⟨"FlowMixerModel", "jumpsTo", "(I)I"⟩
def tbR_jumpsTo : List mc_R := [(0, .iconst 0, 1, 0, 0), (1, .istore_n 2, 1, 0, 0), (2, .iconst 0, 1, 0, 0), (3, .istore_n 3, 1, 0, 0), (4, .iload_n 3, 1, 0, 0), (5, .aload_n 0, 1, 0, 0), (6, .getfield 192, 3, 0, 0), (9, .if_icmp .ge 83, 3, 92, 0), (12, .aload_n 0, 1, 0, 0), (13, .getfield 67, 3, 0, 0), (16, .iload_n 3, 1, 0, 0), (17, .baload, 1, 0, 0), (18, .ifCond .ne 29, 3, 47, 0), (21, .aload_n 0, 1, 0, 0), (22, .getfield 77, 3, 0, 0), (25, .iload_n 3, 1, 0, 0), (26, .iaload, 1, 0, 0), (27, .iconst 2, 1, 0, 2), (28, .if_icmp .ge 19, 3, 47, 0), (31, .aload_n 0, 1, 0, 0), (32, .getfield 80, 3, 0, 0), (35, .iload_n 3, 1, 0, 0), (36, .iaload, 1, 0, 0), (37, .iload_n 1, 1, 0, 0), (38, .if_icmp .ne 9, 3, 47, 0), (41, .iload_n 2, 1, 0, 0), (42, .iconst 1, 1, 0, 1), (43, .iadd, 1, 0, 0), (44, .goto 4, 3, 48, 0), (47, .iload_n 2, 1, 0, 0), (48, .istore_n 2, 1, 0, 0), (49, .aload_n 0, 1, 0, 0), (50, .getfield 67, 3, 0, 0), (53, .iload_n 3, 1, 0, 0), (54, .baload, 1, 0, 0), (55, .ifCond .ne 29, 3, 84, 0), (58, .aload_n 0, 1, 0, 0), (59, .getfield 77, 3, 0, 0), (62, .iload_n 3, 1, 0, 0), (63, .iaload, 1, 0, 0), (64, .iconst 1, 1, 0, 1), (65, .if_icmp .ne 19, 3, 84, 0), (68, .aload_n 0, 1, 0, 0), (69, .getfield 83, 3, 0, 0), (72, .iload_n 3, 1, 0, 0), (73, .iaload, 1, 0, 0), (74, .iload_n 1, 1, 0, 0), (75, .if_icmp .ne 9, 3, 84, 0), (78, .iload_n 2, 1, 0, 0), (79, .iconst 1, 1, 0, 1), (80, .iadd, 1, 0, 0), (81, .goto 4, 3, 85, 0), (84, .iload_n 2, 1, 0, 0), (85, .istore_n 2, 1, 0, 0), (86, .iinc 3 1, 3, 0, 1), (89, .goto (-85), 3, 4, 0), (92, .iload_n 2, 1, 0, 0), (93, .ireturn, 1, 0, 0)]
def yR_goesTo : MethodName := ⟨"FlowMixerModel", "goesTo", "(I)I"⟩
def tbR_goesTo : List mc_R := [(0, .iconst 0, 1, 0, 0), (1, .istore_n 2, 1, 0, 0), (2, .iload_n 2, 1, 0, 0), (3, .aload_n 0, 1, 0, 0), (4, .getfield 192, 3, 0, 0), (7, .if_icmp .ge 44, 3, 51, 0), (10, .aload_n 0, 1, 0, 0), (11, .getfield 67, 3, 0, 0), (14, .iload_n 2, 1, 0, 0), (15, .baload, 1, 0, 0), (16, .ifCond .ne 29, 3, 45, 0), (19, .iload_n 2, 1, 0, 0), (20, .iload_n 1, 1, 0, 0), (21, .if_icmp .eq 24, 3, 45, 0), (24, .aload_n 0, 1, 0, 0), (25, .getfield 77, 3, 0, 0), (28, .iload_n 2, 1, 0, 0), (29, .iaload, 1, 0, 0), (30, .ifCond .ne 15, 3, 45, 0), (33, .aload_n 0, 1, 0, 0), (34, .getfield 80, 3, 0, 0), (37, .iload_n 2, 1, 0, 0), (38, .iaload, 1, 0, 0), (39, .iload_n 1, 1, 0, 0), (40, .if_icmp .ne 5, 3, 45, 0), (43, .iload_n 2, 1, 0, 0), (44, .ireturn, 1, 0, 0), (45, .iinc 2 1, 3, 0, 1), (48, .goto (-46), 3, 2, 0), (51, .iconst (-1), 1, 0, (-1)), (52, .ireturn, 1, 0, 0)]
def yR_join : MethodName := ⟨"FlowMixerModel", "join", "(II)V"⟩
def tbR_join : List mc_R := [(0, .aload_n 0, 1, 0, 0), (1, .getfield 71, 3, 0, 0), (4, .iload_n 2, 1, 0, 0), (5, .iaload, 1, 0, 0), (6, .iconst (-1), 1, 0, (-1)), (7, .if_icmp .eq 26, 3, 33, 0), (10, .aload_n 0, 1, 0, 0), (11, .iload_n 1, 1, 0, 0), (12, .aload_n 0, 1, 0, 0), (13, .getfield 71, 3, 0, 0), (16, .iload_n 2, 1, 0, 0), (17, .iaload, 1, 0, 0), (18, .invokevirtual 181, 3, 0, 0), (21, .aload_n 0, 1, 0, 0), (22, .getfield 74, 3, 0, 0), (25, .iload_n 1, 1, 0, 0), (26, .aload_n 0, 1, 0, 0), (27, .getfield 74, 3, 0, 0), (30, .iload_n 2, 1, 0, 0), (31, .iaload, 1, 0, 0), (32, .iastore, 1, 0, 0), (33, .aload_n 0, 1, 0, 0), (34, .getfield 77, 3, 0, 0), (37, .iload_n 1, 1, 0, 0), (38, .aload_n 0, 1, 0, 0), (39, .getfield 77, 3, 0, 0), (42, .iload_n 2, 1, 0, 0), (43, .iaload, 1, 0, 0), (44, .iastore, 1, 0, 0), (45, .aload_n 0, 1, 0, 0), (46, .getfield 80, 3, 0, 0), (49, .iload_n 1, 1, 0, 0), (50, .aload_n 0, 1, 0, 0), (51, .getfield 80, 3, 0, 0), (54, .iload_n 2, 1, 0, 0), (55, .iaload, 1, 0, 0), (56, .iastore, 1, 0, 0), (57, .aload_n 0, 1, 0, 0), (58, .getfield 83, 3, 0, 0), (61, .iload_n 1, 1, 0, 0), (62, .aload_n 0, 1, 0, 0), (63, .getfield 83, 3, 0, 0), (66, .iload_n 2, 1, 0, 0), (67, .iaload, 1, 0, 0), (68, .iastore, 1, 0, 0), (69, .aload_n 0, 1, 0, 0), (70, .getfield 86, 3, 0, 0), (73, .iload_n 1, 1, 0, 0), (74, .aload_n 0, 1, 0, 0), (75, .getfield 86, 3, 0, 0), (78, .iload_n 2, 1, 0, 0), (79, .iaload, 1, 0, 0), (80, .iastore, 1, 0, 0), (81, .aload_n 0, 1, 0, 0), (82, .getfield 67, 3, 0, 0), (85, .iload_n 2, 1, 0, 0), (86, .iconst 1, 1, 0, 1), (87, .bastore, 1, 0, 0), (88, .return_, 1, 0, 0)]
def yR_copyBlock : MethodName := ⟨"FlowMixerModel", "copyBlock", "(II)V"⟩
def tbR_copyBlock : List mc_R := [(0, .aload_n 0, 1, 0, 0), (1, .getfield 64, 3, 0, 0), (4, .iload_n 2, 1, 0, 0), (5, .aload_n 0, 1, 0, 0), (6, .getfield 64, 3, 0, 0), (9, .iload_n 1, 1, 0, 0), (10, .iaload, 1, 0, 0), (11, .iastore, 1, 0, 0), (12, .aload_n 0, 1, 0, 0), (13, .getfield 71, 3, 0, 0), (16, .iload_n 2, 1, 0, 0), (17, .aload_n 0, 1, 0, 0), (18, .getfield 71, 3, 0, 0), (21, .iload_n 1, 1, 0, 0), (22, .iaload, 1, 0, 0), (23, .iastore, 1, 0, 0), (24, .aload_n 0, 1, 0, 0), (25, .getfield 74, 3, 0, 0), (28, .iload_n 2, 1, 0, 0), (29, .aload_n 0, 1, 0, 0), (30, .getfield 74, 3, 0, 0), (33, .iload_n 1, 1, 0, 0), (34, .iaload, 1, 0, 0), (35, .iastore, 1, 0, 0), (36, .aload_n 0, 1, 0, 0), (37, .getfield 77, 3, 0, 0), (40, .iload_n 2, 1, 0, 0), (41, .aload_n 0, 1, 0, 0), (42, .getfield 77, 3, 0, 0), (45, .iload_n 1, 1, 0, 0), (46, .iaload, 1, 0, 0), (47, .iastore, 1, 0, 0), (48, .aload_n 0, 1, 0, 0), (49, .getfield 80, 3, 0, 0), (52, .iload_n 2, 1, 0, 0), (53, .aload_n 0, 1, 0, 0), (54, .getfield 80, 3, 0, 0), (57, .iload_n 1, 1, 0, 0), (58, .iaload, 1, 0, 0), (59, .iastore, 1, 0, 0), (60, .aload_n 0, 1, 0, 0), (61, .getfield 83, 3, 0, 0), (64, .iload_n 2, 1, 0, 0), (65, .aload_n 0, 1, 0, 0), (66, .getfield 83, 3, 0, 0), (69, .iload_n 1, 1, 0, 0), (70, .iaload, 1, 0, 0), (71, .iastore, 1, 0, 0), (72, .aload_n 0, 1, 0, 0), (73, .getfield 86, 3, 0, 0), (76, .iload_n 2, 1, 0, 0), (77, .aload_n 0, 1, 0, 0), (78, .getfield 86, 3, 0, 0), (81, .iload_n 1, 1, 0, 0), (82, .iaload, 1, 0, 0), (83, .iastore, 1, 0, 0), (84, .return_, 1, 0, 0)]
def yR_compress : MethodName := ⟨"FlowMixerModel", "compress", "()I"⟩
def tbR_compress : List mc_R := [(0, .aload_n 0, 1, 0, 0), (1, .aload_n 0, 1, 0, 0), (2, .getfield 192, 3, 0, 0), (5, .ifCond .le 7, 3, 12, 0), (8, .iconst 1, 1, 0, 1), (9, .goto 4, 3, 13, 0), (12, .iconst 0, 1, 0, 0), (13, .iconst 1, 1, 0, 1), (14, .invokevirtual 132, 3, 0, 0), (17, .ifCond .ne 5, 3, 22, 0), (20, .iconst 0, 1, 0, 0), (21, .ireturn, 1, 0, 0), (22, .iconst 1, 1, 0, 1), (23, .istore_n 1, 1, 0, 0), (24, .iload_n 1, 1, 0, 0), (25, .ifCond .eq 75, 3, 100, 0), (28, .iconst 0, 1, 0, 0), (29, .istore_n 1, 1, 0, 0), (30, .iconst 1, 1, 0, 1), (31, .istore_n 2, 1, 0, 0), (32, .iload_n 2, 1, 0, 0), (33, .aload_n 0, 1, 0, 0), (34, .getfield 192, 3, 0, 0), (37, .if_icmp .ge 60, 3, 97, 0), (40, .iload_n 1, 1, 0, 0), (41, .ifCond .ne 56, 3, 97, 0), (44, .aload_n 0, 1, 0, 0), (45, .getfield 67, 3, 0, 0), (48, .iload_n 2, 1, 0, 0), (49, .baload, 1, 0, 0), (50, .ifCond .ne 25, 3, 75, 0), (53, .aload_n 0, 1, 0, 0), (54, .iload_n 2, 1, 0, 0), (55, .invokevirtual 204, 3, 0, 0), (58, .iconst 1, 1, 0, 1), (59, .if_icmp .ne 16, 3, 75, 0), (62, .aload_n 0, 1, 0, 0), (63, .iload_n 2, 1, 0, 0), (64, .invokevirtual 207, 3, 0, 0), (67, .iconst (-1), 1, 0, (-1)), (68, .if_icmp .eq 7, 3, 75, 0), (71, .iconst 1, 1, 0, 1), (72, .goto 4, 3, 76, 0), (75, .iconst 0, 1, 0, 0), (76, .istore_n 1, 1, 0, 0), (77, .iload_n 1, 1, 0, 0), (78, .ifCond .eq 13, 3, 91, 0), (81, .aload_n 0, 1, 0, 0), (82, .aload_n 0, 1, 0, 0), (83, .iload_n 2, 1, 0, 0), (84, .invokevirtual 207, 3, 0, 0), (87, .iload_n 2, 1, 0, 0), (88, .invokevirtual 210, 3, 0, 0), (91, .iinc 2 1, 3, 0, 1), (94, .goto (-62), 3, 32, 0), (97, .goto (-73), 3, 24, 0), (100, .iconst 0, 1, 0, 0), (101, .istore_n 2, 1, 0, 0), (102, .iconst 0, 1, 0, 0), (103, .istore_n 3, 1, 0, 0), (104, .iload_n 3, 1, 0, 0), (105, .aload_n 0, 1, 0, 0), (106, .getfield 192, 3, 0, 0), (109, .if_icmp .ge 33, 3, 142, 0), (112, .aload_n 0, 1, 0, 0), (113, .getfield 101, 3, 0, 0), (116, .iload_n 3, 1, 0, 0), (117, .iload_n 2, 1, 0, 0), (118, .iastore, 1, 0, 0), (119, .aload_n 0, 1, 0, 0), (120, .getfield 67, 3, 0, 0), (123, .iload_n 3, 1, 0, 0), (124, .baload, 1, 0, 0), (125, .ifCond .eq 7, 3, 132, 0), (128, .iload_n 2, 1, 0, 0), (129, .goto 6, 3, 135, 0), (132, .iload_n 2, 1, 0, 0), (133, .iconst 1, 1, 0, 1), (134, .iadd, 1, 0, 0), (135, .istore_n 2, 1, 0, 0), (136, .iinc 3 1, 3, 0, 1), (139, .goto (-35), 3, 104, 0), (142, .iconst 0, 1, 0, 0), (143, .istore_n 3, 1, 0, 0), (144, .iload_n 3, 1, 0, 0), (145, .aload_n 0, 1, 0, 0), (146, .getfield 192, 3, 0, 0), (149, .if_icmp .ge 101, 3, 250, 0), (152, .aload_n 0, 1, 0, 0), (153, .getfield 67, 3, 0, 0), (156, .iload_n 3, 1, 0, 0), (157, .baload, 1, 0, 0), (158, .ifCond .ne 86, 3, 244, 0), (161, .aload_n 0, 1, 0, 0), (162, .getfield 101, 3, 0, 0), (165, .iload_n 3, 1, 0, 0), (166, .iaload, 1, 0, 0), (167, .istore 4, 2, 0, 0), (169, .aload_n 0, 1, 0, 0), (170, .iload_n 3, 1, 0, 0), (171, .iload 4, 2, 0, 0), (173, .invokevirtual 213, 3, 0, 0), (176, .aload_n 0, 1, 0, 0), (177, .getfield 80, 3, 0, 0), (180, .iload 4, 2, 0, 0), (182, .aload_n 0, 1, 0, 0), (183, .getfield 77, 3, 0, 0), (186, .iload 4, 2, 0, 0), (188, .iaload, 1, 0, 0), (189, .iconst 2, 1, 0, 2), (190, .if_icmp .ge 18, 3, 208, 0), (193, .aload_n 0, 1, 0, 0), (194, .getfield 101, 3, 0, 0), (197, .aload_n 0, 1, 0, 0), (198, .getfield 80, 3, 0, 0), (201, .iload 4, 2, 0, 0), (203, .iaload, 1, 0, 0), (204, .iaload, 1, 0, 0), (205, .goto 4, 3, 209, 0), (208, .iconst (-1), 1, 0, (-1)), (209, .iastore, 1, 0, 0), (210, .aload_n 0, 1, 0, 0), (211, .getfield 83, 3, 0, 0), (214, .iload 4, 2, 0, 0), (216, .aload_n 0, 1, 0, 0), (217, .getfield 77, 3, 0, 0), (220, .iload 4, 2, 0, 0), (222, .iaload, 1, 0, 0), (223, .iconst 1, 1, 0, 1), (224, .if_icmp .ne 18, 3, 242, 0), (227, .aload_n 0, 1, 0, 0), (228, .getfield 101, 3, 0, 0), (231, .aload_n 0, 1, 0, 0), (232, .getfield 83, 3, 0, 0), (235, .iload 4, 2, 0, 0), (237, .iaload, 1, 0, 0), (238, .iaload, 1, 0, 0), (239, .goto 4, 3, 243, 0), (242, .iconst (-1), 1, 0, (-1)), (243, .iastore, 1, 0, 0), (244, .iinc 3 1, 3, 0, 1), (247, .goto (-103), 3, 144, 0), (250, .aload_n 0, 1, 0, 0), (251, .iload_n 2, 1, 0, 0), (252, .putfield 192, 3, 0, 0), (255, .iconst 0, 1, 0, 0), (256, .istore_n 3, 1, 0, 0), (257, .iload_n 3, 1, 0, 0), (258, .aload_n 0, 1, 0, 0), (259, .getfield 192, 3, 0, 0), (262, .if_icmp .ge 16, 3, 278, 0), (265, .aload_n 0, 1, 0, 0), (266, .getfield 67, 3, 0, 0), (269, .iload_n 3, 1, 0, 0), (270, .iconst 0, 1, 0, 0), (271, .bastore, 1, 0, 0), (272, .iinc 3 1, 3, 0, 1), (275, .goto (-18), 3, 257, 0), (278, .aload_n 0, 1, 0, 0), (279, .invokevirtual 198, 3, 0, 0), (282, .aload_n 0, 1, 0, 0), (283, .getfield 192, 3, 0, 0), (286, .ireturn, 1, 0, 0)]
def yR_put : MethodName := ⟨"FlowMixerModel", "put", "(I)V"⟩
def tbR_put : List mc_R := [(0, .aload_n 0, 1, 0, 0), (1, .getfield 216, 3, 0, 0), (4, .sipush 3000, 3, 0, 3000), (7, .if_icmp .ge 13, 3, 20, 0), (10, .aload_n 0, 1, 0, 0), (11, .getfield 104, 3, 0, 0), (14, .aload_n 0, 1, 0, 0), (15, .getfield 216, 3, 0, 0), (18, .iload_n 1, 1, 0, 0), (19, .iastore, 1, 0, 0), (20, .aload_n 0, 1, 0, 0), (21, .dup, 1, 0, 0), (22, .getfield 216, 3, 0, 0), (25, .iconst 1, 1, 0, 1), (26, .iadd, 1, 0, 0), (27, .putfield 216, 3, 0, 0), (30, .return_, 1, 0, 0)]
def yR_number : MethodName := ⟨"FlowMixerModel", "number", "(I)V"⟩
def tbR_number : List mc_R := [(0, .iload_n 1, 1, 0, 0), (1, .ifCond .ge 10, 3, 11, 0), (4, .lconst 0, 1, 0, 0), (5, .iload_n 1, 1, 0, 0), (6, .i2l, 1, 0, 0), (7, .lsub, 1, 0, 0), (8, .goto 5, 3, 13, 0), (11, .iload_n 1, 1, 0, 0), (12, .i2l, 1, 0, 0), (13, .lstore_n 2, 1, 0, 0), (14, .iload_n 1, 1, 0, 0), (15, .ifCond .ge 9, 3, 24, 0), (18, .aload_n 0, 1, 0, 0), (19, .bipush 45, 2, 0, 45), (21, .invokevirtual 219, 3, 0, 0), (24, .lconst 1, 1, 0, 0), (25, .lstore 4, 2, 0, 0), (27, .lload 4, 2, 0, 0), (29, .ldc2_w 222, 3, 0, 0), (32, .lmul, 1, 0, 0), (33, .lload_n 2, 1, 0, 0), (34, .lcmp, 1, 0, 0), (35, .ifCond .gt 14, 3, 49, 0), (38, .lload 4, 2, 0, 0), (40, .ldc2_w 222, 3, 0, 0), (43, .lmul, 1, 0, 0), (44, .lstore 4, 2, 0, 0), (46, .goto (-19), 3, 27, 0), (49, .lload 4, 2, 0, 0), (51, .lconst 0, 1, 0, 0), (52, .lcmp, 1, 0, 0), (53, .ifCond .le 30, 3, 83, 0), (56, .aload_n 0, 1, 0, 0), (57, .bipush 48, 2, 0, 48), (59, .lload_n 2, 1, 0, 0), (60, .lload 4, 2, 0, 0), (62, .ldiv, 1, 0, 0), (63, .ldc2_w 222, 3, 0, 0), (66, .lrem, 1, 0, 0), (67, .l2i, 1, 0, 0), (68, .iadd, 1, 0, 0), (69, .invokevirtual 219, 3, 0, 0), (72, .lload 4, 2, 0, 0), (74, .ldc2_w 222, 3, 0, 0), (77, .ldiv, 1, 0, 0), (78, .lstore 4, 2, 0, 0), (80, .goto (-31), 3, 49, 0), (83, .return_, 1, 0, 0)]
def yR_spell : MethodName := ⟨"FlowMixerModel", "spell", "(I)V"⟩
def tbR_spell : List mc_R := [(0, .aload_n 0, 1, 0, 0), (1, .iload_n 1, 1, 0, 0), (2, .invokevirtual 201, 3, 0, 0), (5, .istore_n 2, 1, 0, 0), (6, .iconst 1, 1, 0, 1), (7, .istore_n 3, 1, 0, 0), (8, .aload_n 0, 1, 0, 0), (9, .getfield 107, 3, 0, 0), (12, .iconst 0, 1, 0, 0), (13, .aload_n 0, 1, 0, 0), (14, .getfield 95, 3, 0, 0), (17, .iload_n 1, 1, 0, 0), (18, .iaload, 1, 0, 0), (19, .iastore, 1, 0, 0), (20, .aload_n 0, 1, 0, 0), (21, .getfield 95, 3, 0, 0), (24, .iload_n 1, 1, 0, 0), (25, .iaload, 1, 0, 0), (26, .iconst (-1), 1, 0, (-1)), (27, .if_icmp .ne 10, 3, 37, 0), (30, .aload_n 0, 1, 0, 0), (31, .bipush 48, 2, 0, 48), (33, .invokevirtual 219, 3, 0, 0), (36, .return_, 1, 0, 0), (37, .iload_n 3, 1, 0, 0), (38, .ifCond .le 212, 3, 250, 0), (41, .iinc 3 (-1), 3, 0, (-1)), (44, .aload_n 0, 1, 0, 0), (45, .getfield 107, 3, 0, 0), (48, .iload_n 3, 1, 0, 0), (49, .iaload, 1, 0, 0), (50, .istore 4, 2, 0, 0), (52, .iload 4, 2, 0, 0), (54, .ifCond .ge 14, 3, 68, 0), (57, .aload_n 0, 1, 0, 0), (58, .iconst 0, 1, 0, 0), (59, .iload 4, 2, 0, 0), (61, .isub, 1, 0, 0), (62, .invokevirtual 219, 3, 0, 0), (65, .goto 182, 3, 247, 0), (68, .aload_n 0, 1, 0, 0), (69, .getfield 22, 3, 0, 0), (72, .iload 4, 2, 0, 0), (74, .iaload, 1, 0, 0), (75, .aload_n 0, 1, 0, 0), (76, .getfield 195, 3, 0, 0), (79, .iand, 1, 0, 0), (80, .ifCond .ne 17, 3, 97, 0), (83, .aload_n 0, 1, 0, 0), (84, .aload_n 0, 1, 0, 0), (85, .getfield 52, 3, 0, 0), (88, .iload 4, 2, 0, 0), (90, .iaload, 1, 0, 0), (91, .invokevirtual 224, 3, 0, 0), (94, .goto 153, 3, 247, 0), (97, .aload_n 0, 1, 0, 0), (98, .getfield 7, 3, 0, 0), (101, .iload 4, 2, 0, 0), (103, .iaload, 1, 0, 0), (104, .iconst 1, 1, 0, 1), (105, .if_icmp .ne 20, 3, 125, 0), (108, .aload_n 0, 1, 0, 0), (109, .bipush 97, 2, 0, 97), (111, .aload_n 0, 1, 0, 0), (112, .getfield 13, 3, 0, 0), (115, .iload 4, 2, 0, 0), (117, .iaload, 1, 0, 0), (118, .iadd, 1, 0, 0), (119, .invokevirtual 219, 3, 0, 0), (122, .goto 125, 3, 247, 0), (125, .aload_n 0, 1, 0, 0), (126, .bipush 40, 2, 0, 40), (128, .invokevirtual 219, 3, 0, 0), (131, .aload_n 0, 1, 0, 0), (132, .getfield 107, 3, 0, 0), (135, .iload_n 3, 1, 0, 0), (136, .bipush (-41), 2, 0, (-41)), (138, .iastore, 1, 0, 0), (139, .aload_n 0, 1, 0, 0), (140, .getfield 107, 3, 0, 0), (143, .iload_n 3, 1, 0, 0), (144, .iconst 1, 1, 0, 1), (145, .iadd, 1, 0, 0), (146, .aload_n 0, 1, 0, 0), (147, .getfield 16, 3, 0, 0), (150, .iload 4, 2, 0, 0), (152, .iaload, 1, 0, 0), (153, .iastore, 1, 0, 0), (154, .aload_n 0, 1, 0, 0), (155, .getfield 107, 3, 0, 0), (158, .iload_n 3, 1, 0, 0), (159, .iconst 2, 1, 0, 2), (160, .iadd, 1, 0, 0), (161, .aload_n 0, 1, 0, 0), (162, .getfield 7, 3, 0, 0), (165, .iload 4, 2, 0, 0), (167, .iaload, 1, 0, 0), (168, .iconst 2, 1, 0, 2), (169, .if_icmp .ne 8, 3, 177, 0), (172, .bipush (-43), 2, 0, (-43)), (174, .goto 53, 3, 227, 0), (177, .aload_n 0, 1, 0, 0), (178, .getfield 7, 3, 0, 0), (181, .iload 4, 2, 0, 0), (183, .iaload, 1, 0, 0), (184, .iconst 3, 1, 0, 3), (185, .if_icmp .ne 8, 3, 193, 0), (188, .bipush (-45), 2, 0, (-45)), (190, .goto 37, 3, 227, 0), (193, .aload_n 0, 1, 0, 0), (194, .getfield 7, 3, 0, 0), (197, .iload 4, 2, 0, 0), (199, .iaload, 1, 0, 0), (200, .iconst 4, 1, 0, 4), (201, .if_icmp .ne 8, 3, 209, 0), (204, .bipush (-42), 2, 0, (-42)), (206, .goto 21, 3, 227, 0), (209, .aload_n 0, 1, 0, 0), (210, .getfield 7, 3, 0, 0), (213, .iload 4, 2, 0, 0), (215, .iaload, 1, 0, 0), (216, .iconst 5, 1, 0, 5), (217, .if_icmp .ne 8, 3, 225, 0), (220, .bipush (-61), 2, 0, (-61)), (222, .goto 5, 3, 227, 0), (225, .bipush (-60), 2, 0, (-60)), (227, .iastore, 1, 0, 0), (228, .aload_n 0, 1, 0, 0), (229, .getfield 107, 3, 0, 0), (232, .iload_n 3, 1, 0, 0), (233, .iconst 3, 1, 0, 3), (234, .iadd, 1, 0, 0), (235, .aload_n 0, 1, 0, 0), (236, .getfield 13, 3, 0, 0), (239, .iload 4, 2, 0, 0), (241, .iaload, 1, 0, 0), (242, .iastore, 1, 0, 0), (243, .iload_n 3, 1, 0, 0), (244, .iconst 4, 1, 0, 4), (245, .iadd, 1, 0, 0), (246, .istore_n 3, 1, 0, 0), (247, .goto (-210), 3, 37, 0), (250, .return_, 1, 0, 0)]
def yR_write : MethodName := ⟨"FlowMixerModel", "write", "()V"⟩
def tbR_write : List mc_R := [(0, .aload_n 0, 1, 0, 0), (1, .iconst 0, 1, 0, 0), (2, .putfield 216, 3, 0, 0), (5, .iconst 0, 1, 0, 0), (6, .istore_n 1, 1, 0, 0), (7, .iload_n 1, 1, 0, 0), (8, .aload_n 0, 1, 0, 0), (9, .getfield 192, 3, 0, 0), (12, .if_icmp .ge 196, 3, 208, 0), (15, .aload_n 0, 1, 0, 0), (16, .iload_n 1, 1, 0, 0), (17, .invokevirtual 224, 3, 0, 0), (20, .aload_n 0, 1, 0, 0), (21, .bipush 58, 2, 0, 58), (23, .invokevirtual 219, 3, 0, 0), (26, .aload_n 0, 1, 0, 0), (27, .getfield 71, 3, 0, 0), (30, .iload_n 1, 1, 0, 0), (31, .iaload, 1, 0, 0), (32, .istore_n 2, 1, 0, 0), (33, .iload_n 2, 1, 0, 0), (34, .iconst (-1), 1, 0, (-1)), (35, .if_icmp .eq 43, 3, 78, 0), (38, .aload_n 0, 1, 0, 0), (39, .bipush 97, 2, 0, 97), (41, .aload_n 0, 1, 0, 0), (42, .getfield 92, 3, 0, 0), (45, .iload_n 2, 1, 0, 0), (46, .iaload, 1, 0, 0), (47, .iadd, 1, 0, 0), (48, .invokevirtual 219, 3, 0, 0), (51, .aload_n 0, 1, 0, 0), (52, .bipush 61, 2, 0, 61), (54, .invokevirtual 219, 3, 0, 0), (57, .aload_n 0, 1, 0, 0), (58, .iload_n 2, 1, 0, 0), (59, .invokevirtual 227, 3, 0, 0), (62, .aload_n 0, 1, 0, 0), (63, .bipush 59, 2, 0, 59), (65, .invokevirtual 219, 3, 0, 0), (68, .aload_n 0, 1, 0, 0), (69, .getfield 89, 3, 0, 0), (72, .iload_n 2, 1, 0, 0), (73, .iaload, 1, 0, 0), (74, .istore_n 2, 1, 0, 0), (75, .goto (-42), 3, 33, 0), (78, .aload_n 0, 1, 0, 0), (79, .aload_n 0, 1, 0, 0), (80, .getfield 77, 3, 0, 0), (83, .iload_n 1, 1, 0, 0), (84, .iaload, 1, 0, 0), (85, .ifCond .ne 8, 3, 93, 0), (88, .bipush 94, 2, 0, 94), (90, .goto 20, 3, 110, 0), (93, .aload_n 0, 1, 0, 0), (94, .getfield 77, 3, 0, 0), (97, .iload_n 1, 1, 0, 0), (98, .iaload, 1, 0, 0), (99, .iconst 1, 1, 0, 1), (100, .if_icmp .ne 8, 3, 108, 0), (103, .bipush 63, 2, 0, 63), (105, .goto 5, 3, 110, 0), (108, .bipush 33, 2, 0, 33), (110, .invokevirtual 219, 3, 0, 0), (113, .aload_n 0, 1, 0, 0), (114, .getfield 77, 3, 0, 0), (117, .iload_n 1, 1, 0, 0), (118, .iaload, 1, 0, 0), (119, .ifCond .le 13, 3, 132, 0), (122, .aload_n 0, 1, 0, 0), (123, .aload_n 0, 1, 0, 0), (124, .getfield 86, 3, 0, 0), (127, .iload_n 1, 1, 0, 0), (128, .iaload, 1, 0, 0), (129, .invokevirtual 227, 3, 0, 0), (132, .aload_n 0, 1, 0, 0), (133, .getfield 77, 3, 0, 0), (136, .iload_n 1, 1, 0, 0), (137, .iaload, 1, 0, 0), (138, .ifCond .ne 16, 3, 154, 0), (141, .aload_n 0, 1, 0, 0), (142, .aload_n 0, 1, 0, 0), (143, .getfield 80, 3, 0, 0), (146, .iload_n 1, 1, 0, 0), (147, .iaload, 1, 0, 0), (148, .invokevirtual 224, 3, 0, 0), (151, .goto 45, 3, 196, 0), (154, .aload_n 0, 1, 0, 0), (155, .getfield 77, 3, 0, 0), (158, .iload_n 1, 1, 0, 0), (159, .iaload, 1, 0, 0), (160, .iconst 1, 1, 0, 1), (161, .if_icmp .ne 35, 3, 196, 0), (164, .aload_n 0, 1, 0, 0), (165, .bipush 44, 2, 0, 44), (167, .invokevirtual 219, 3, 0, 0), (170, .aload_n 0, 1, 0, 0), (171, .aload_n 0, 1, 0, 0), (172, .getfield 80, 3, 0, 0), (175, .iload_n 1, 1, 0, 0), (176, .iaload, 1, 0, 0), (177, .invokevirtual 224, 3, 0, 0), (180, .aload_n 0, 1, 0, 0), (181, .bipush 44, 2, 0, 44), (183, .invokevirtual 219, 3, 0, 0), (186, .aload_n 0, 1, 0, 0), (187, .aload_n 0, 1, 0, 0), (188, .getfield 83, 3, 0, 0), (191, .iload_n 1, 1, 0, 0), (192, .iaload, 1, 0, 0), (193, .invokevirtual 224, 3, 0, 0), (196, .aload_n 0, 1, 0, 0), (197, .bipush 59, 2, 0, 59), (199, .invokevirtual 219, 3, 0, 0), (202, .iinc 1 1, 3, 0, 1), (205, .goto (-198), 3, 7, 0), (208, .return_, 1, 0, 0)]
def yR_about : MethodName := ⟨"FlowMixerModel", "about", "(II)I"⟩
def tbR_about : List mc_R := [(0, .aload_n 0, 1, 0, 0), (1, .iload_n 1, 1, 0, 0), (2, .ifCond .lt 15, 3, 17, 0), (5, .iload_n 1, 1, 0, 0), (6, .aload_n 0, 1, 0, 0), (7, .getfield 192, 3, 0, 0), (10, .if_icmp .ge 7, 3, 17, 0), (13, .iconst 1, 1, 0, 1), (14, .goto 4, 3, 18, 0), (17, .iconst 0, 1, 0, 0), (18, .iload_n 2, 1, 0, 0), (19, .iconst 0, 1, 0, 0), (20, .iconst 4, 1, 0, 4), (21, .invokestatic 121, 3, 0, 0), (24, .invokevirtual 132, 3, 0, 0), (27, .ifCond .ne 5, 3, 32, 0), (30, .iconst 0, 1, 0, 0), (31, .ireturn, 1, 0, 0), (32, .iconst 0, 1, 0, 0), (33, .istore_n 3, 1, 0, 0), (34, .aload_n 0, 1, 0, 0), (35, .getfield 71, 3, 0, 0), (38, .iload_n 1, 1, 0, 0), (39, .iaload, 1, 0, 0), (40, .istore 4, 2, 0, 0), (42, .iload 4, 2, 0, 0), (44, .iconst (-1), 1, 0, (-1)), (45, .if_icmp .eq 18, 3, 63, 0), (48, .iinc 3 1, 3, 0, 1), (51, .aload_n 0, 1, 0, 0), (52, .getfield 89, 3, 0, 0), (55, .iload 4, 2, 0, 0), (57, .iaload, 1, 0, 0), (58, .istore 4, 2, 0, 0), (60, .goto (-18), 3, 42, 0), (63, .iload_n 2, 1, 0, 0), (64, .tableswitch 55 0 3 #[32, 39, 41, 48], 32, 0, 0), (96, .aload_n 0, 1, 0, 0), (97, .getfield 64, 3, 0, 0), (100, .iload_n 1, 1, 0, 0), (101, .iaload, 1, 0, 0), (102, .ireturn, 1, 0, 0), (103, .iload_n 3, 1, 0, 0), (104, .ireturn, 1, 0, 0), (105, .aload_n 0, 1, 0, 0), (106, .getfield 77, 3, 0, 0), (109, .iload_n 1, 1, 0, 0), (110, .iaload, 1, 0, 0), (111, .ireturn, 1, 0, 0), (112, .aload_n 0, 1, 0, 0), (113, .getfield 80, 3, 0, 0), (116, .iload_n 1, 1, 0, 0), (117, .iaload, 1, 0, 0), (118, .ireturn, 1, 0, 0), (119, .aload_n 0, 1, 0, 0), (120, .getfield 83, 3, 0, 0), (123, .iload_n 1, 1, 0, 0), (124, .iaload, 1, 0, 0), (125, .ireturn, 1, 0, 0)]
def yR_sign : MethodName := ⟨"FlowMixerModel", "sign", "(I)I"⟩
def tbR_sign : List mc_R := [(0, .aload_n 0, 1, 0, 0), (1, .iload_n 1, 1, 0, 0), (2, .ifCond .lt 22, 3, 24, 0), (5, .iload_n 1, 1, 0, 0), (6, .aload_n 0, 1, 0, 0), (7, .getfield 216, 3, 0, 0), (10, .if_icmp .ge 14, 3, 24, 0), (13, .iload_n 1, 1, 0, 0), (14, .sipush 3000, 3, 0, 3000), (17, .if_icmp .ge 7, 3, 24, 0), (20, .iconst 1, 1, 0, 1), (21, .goto 4, 3, 25, 0), (24, .iconst 0, 1, 0, 0), (25, .iconst 1, 1, 0, 1), (26, .invokevirtual 132, 3, 0, 0), (29, .ifCond .eq 12, 3, 41, 0), (32, .aload_n 0, 1, 0, 0), (33, .getfield 104, 3, 0, 0), (36, .iload_n 1, 1, 0, 0), (37, .iaload, 1, 0, 0), (38, .goto 4, 3, 42, 0), (41, .iconst 0, 1, 0, 0), (42, .ireturn, 1, 0, 0)]
def yR_count : MethodName := ⟨"FlowMixerModel", "count", "(I)I"⟩
def tbR_count : List mc_R := [(0, .aload_n 0, 1, 0, 0), (1, .iload_n 1, 1, 0, 0), (2, .iconst 0, 1, 0, 0), (3, .iconst 3, 1, 0, 3), (4, .invokestatic 121, 3, 0, 0), (7, .iconst 1, 1, 0, 1), (8, .invokevirtual 132, 3, 0, 0), (11, .ifCond .ne 5, 3, 16, 0), (14, .iconst 0, 1, 0, 0), (15, .ireturn, 1, 0, 0), (16, .iload_n 1, 1, 0, 0), (17, .ifCond .ne 10, 3, 27, 0), (20, .aload_n 0, 1, 0, 0), (21, .getfield 118, 3, 0, 0), (24, .goto 31, 3, 55, 0), (27, .iload_n 1, 1, 0, 0), (28, .iconst 1, 1, 0, 1), (29, .if_icmp .ne 10, 3, 39, 0), (32, .aload_n 0, 1, 0, 0), (33, .getfield 192, 3, 0, 0), (36, .goto 19, 3, 55, 0), (39, .iload_n 1, 1, 0, 0), (40, .iconst 2, 1, 0, 2), (41, .if_icmp .ne 10, 3, 51, 0), (44, .aload_n 0, 1, 0, 0), (45, .getfield 216, 3, 0, 0), (48, .goto 7, 3, 55, 0), (51, .aload_n 0, 1, 0, 0), (52, .getfield 136, 3, 0, 0), (55, .ireturn, 1, 0, 0)]
def yJa_fill : MethodName := ⟨"java/util/Arrays", "fill", "([II)V"⟩
def tbJa_fill : List mc_R := [(0, .iconst 0, 1, 0, 0), (1, .istore_n 2, 1, 0, 0), (2, .aload_n 0, 1, 0, 0), (3, .arraylength, 1, 0, 0), (4, .istore_n 3, 1, 0, 0), (5, .iload_n 2, 1, 0, 0), (6, .iload_n 3, 1, 0, 0), (7, .if_icmp .ge 13, 3, 20, 0), (10, .aload_n 0, 1, 0, 0), (11, .iload_n 2, 1, 0, 0), (12, .iload_n 1, 1, 0, 0), (13, .iastore, 1, 0, 0), (14, .iinc 2 1, 3, 0, 1), (17, .goto (-12), 3, 5, 0), (20, .return_, 1, 0, 0)]
end
section
def WL0 : List Cond := lw_tbl.filter goodWord
def NW0 : List Cond := lw_tbl.filter mc_isN
theorem wl_ok : WL0.all goodWord = true := by
  unfold WL0
  rw [List.all_eq_true]
  exact fun w h => (List.mem_filter.mp h).2
theorem nw_ok : NW0.all mc_isN = true := by
  unfold NW0
  rw [List.all_eq_true]
  exact fun w h => (List.mem_filter.mp h).2
theorem wl_t {w : Cond} (h : w ∈ tables_1) (hg : goodWord w = true) : w ∈ WL0 := List.mem_filter.mpr ⟨List.mem_append_right _ h, hg⟩
theorem nw_t {w : Cond} (h : w ∈ tables_1) (hg : mc_isN w = true) : w ∈ NW0 := List.mem_filter.mpr ⟨List.mem_append_right _ h, hg⟩
theorem tb_1 {w : Cond} (i : Nat) (h : tables_1_1[i]? = some w) : w ∈ tables_1 := List.mem_append_left _ (List.mem_of_getElem? h)
theorem tb_2 {w : Cond} (i : Nat) (h : tables_1_2[i]? = some w) : w ∈ tables_1 := List.mem_append_right _ (List.mem_append_left _ (List.mem_of_getElem? h))
theorem tb_3 {w : Cond} (i : Nat) (h : tables_1_3[i]? = some w) : w ∈ tables_1 := List.mem_append_right _ (List.mem_append_right _ (List.mem_append_left _ (List.mem_of_getElem? h)))
theorem tb_4 {w : Cond} (i : Nat) (h : tables_1_4[i]? = some w) : w ∈ tables_1 := List.mem_append_right _ (List.mem_append_right _ (List.mem_append_right _ (List.mem_append_left _ (List.mem_of_getElem? h))))
theorem tb_5 {w : Cond} (i : Nat) (h : tables_1_5[i]? = some w) : w ∈ tables_1 := List.mem_append_right _ (List.mem_append_right _ (List.mem_append_right _ (List.mem_append_right _ (List.mem_of_getElem? h))))
theorem wl_s1 {q : MethodName × Nat} (i : Nat) (h : lw_privs_1[i]? = some q) : Cond.selects q.1.cls q.1 q.1 ∈ WL0 := List.mem_filter.mpr ⟨List.mem_append_left _ (List.mem_map.mpr ⟨q, List.mem_append_left _ (List.mem_of_getElem? h), rfl⟩), rfl⟩
theorem wl_s2 {q : MethodName × Nat} (i : Nat) (h : lw_privs_2[i]? = some q) : Cond.selects q.1.cls q.1 q.1 ∈ WL0 := List.mem_filter.mpr ⟨List.mem_append_left _ (List.mem_map.mpr ⟨q, List.mem_append_right _ (List.mem_append_left _ (List.mem_of_getElem? h)), rfl⟩), rfl⟩
theorem wl_s3 {q : MethodName × Nat} (i : Nat) (h : lw_privs_3[i]? = some q) : Cond.selects q.1.cls q.1 q.1 ∈ WL0 := List.mem_filter.mpr ⟨List.mem_append_left _ (List.mem_map.mpr ⟨q, List.mem_append_right _ (List.mem_append_right _ (List.mem_append_left _ (List.mem_of_getElem? h))), rfl⟩), rfl⟩
theorem wl_s4 {q : MethodName × Nat} (i : Nat) (h : lw_privs_4[i]? = some q) : Cond.selects q.1.cls q.1 q.1 ∈ WL0 := List.mem_filter.mpr ⟨List.mem_append_left _ (List.mem_map.mpr ⟨q, List.mem_append_right _ (List.mem_append_right _ (List.mem_append_right _ (List.mem_of_getElem? h))), rfl⟩), rfl⟩
theorem uwA : ∀ w ∈ u_ws RA TA 10, w ∈ WL0 := by
  show ∀ w ∈ [u_lay RA TA 0, u_lay RA TA 1, u_lay RA TA 2, u_lay RA TA 3, u_lay RA TA 4, u_lay RA TA 5, u_lay RA TA 6, u_lay RA TA 7, u_lay RA TA 8, u_lay RA TA 9], w ∈ WL0
  exact List.forall_mem_cons.mpr ⟨(wl_t (tb_2 56 rfl) rfl), List.forall_mem_cons.mpr ⟨(wl_t (tb_2 58 rfl) rfl), List.forall_mem_cons.mpr ⟨(wl_t (tb_2 60 rfl) rfl), List.forall_mem_cons.mpr ⟨(wl_t (tb_2 62 rfl) rfl), List.forall_mem_cons.mpr ⟨(wl_t (tb_2 64 rfl) rfl), List.forall_mem_cons.mpr ⟨(wl_t (tb_2 66 rfl) rfl), List.forall_mem_cons.mpr ⟨(wl_t (tb_2 68 rfl) rfl), List.forall_mem_cons.mpr ⟨(wl_t (tb_2 70 rfl) rfl), List.forall_mem_cons.mpr ⟨(wl_t (tb_2 72 rfl) rfl), List.forall_mem_cons.mpr ⟨(wl_t (tb_2 74 rfl) rfl), fun _ h => absurd h List.not_mem_nil⟩⟩⟩⟩⟩⟩⟩⟩⟩⟩
theorem unA : ∀ a, a < 10 → ∀ b, b < 10 → a ≠ b → (TA a).2.1 ≠ (TA b).2.1 := by decide +kernel
theorem uwN : ∀ w ∈ u_ws RN TN 7, w ∈ WL0 := by
  show ∀ w ∈ [u_lay RN TN 0, u_lay RN TN 1, u_lay RN TN 2, u_lay RN TN 3, u_lay RN TN 4, u_lay RN TN 5, u_lay RN TN 6], w ∈ WL0
  exact List.forall_mem_cons.mpr ⟨(wl_t (tb_1 52 rfl) rfl), List.forall_mem_cons.mpr ⟨(wl_t (tb_1 54 rfl) rfl), List.forall_mem_cons.mpr ⟨(wl_t (tb_1 56 rfl) rfl), List.forall_mem_cons.mpr ⟨(wl_t (tb_1 58 rfl) rfl), List.forall_mem_cons.mpr ⟨(wl_t (tb_1 60 rfl) rfl), List.forall_mem_cons.mpr ⟨(wl_t (tb_1 62 rfl) rfl), List.forall_mem_cons.mpr ⟨(wl_t (tb_1 64 rfl) rfl), fun _ h => absurd h List.not_mem_nil⟩⟩⟩⟩⟩⟩⟩
theorem unN : ∀ a, a < 7 → ∀ b, b < 7 → a ≠ b → (TN a).2.1 ≠ (TN b).2.1 := by decide +kernel
theorem uwF : ∀ w ∈ u_ws RF TF 14, w ∈ WL0 := by
  show ∀ w ∈ [u_lay RF TF 0, u_lay RF TF 1, u_lay RF TF 2, u_lay RF TF 3, u_lay RF TF 4, u_lay RF TF 5, u_lay RF TF 6, u_lay RF TF 7, u_lay RF TF 8, u_lay RF TF 9, u_lay RF TF 10, u_lay RF TF 11, u_lay RF TF 12, u_lay RF TF 13], w ∈ WL0
  exact List.forall_mem_cons.mpr ⟨(wl_t (tb_1 157 rfl) rfl), List.forall_mem_cons.mpr ⟨(wl_t (tb_1 159 rfl) rfl), List.forall_mem_cons.mpr ⟨(wl_t (tb_1 161 rfl) rfl), List.forall_mem_cons.mpr ⟨(wl_t (tb_1 163 rfl) rfl), List.forall_mem_cons.mpr ⟨(wl_t (tb_1 165 rfl) rfl), List.forall_mem_cons.mpr ⟨(wl_t (tb_1 167 rfl) rfl), List.forall_mem_cons.mpr ⟨(wl_t (tb_1 169 rfl) rfl), List.forall_mem_cons.mpr ⟨(wl_t (tb_1 171 rfl) rfl), List.forall_mem_cons.mpr ⟨(wl_t (tb_1 173 rfl) rfl), List.forall_mem_cons.mpr ⟨(wl_t (tb_1 175 rfl) rfl), List.forall_mem_cons.mpr ⟨(wl_t (tb_1 177 rfl) rfl), List.forall_mem_cons.mpr ⟨(wl_t (tb_1 179 rfl) rfl), List.forall_mem_cons.mpr ⟨(wl_t (tb_1 181 rfl) rfl), List.forall_mem_cons.mpr ⟨(wl_t (tb_1 183 rfl) rfl), fun _ h => absurd h List.not_mem_nil⟩⟩⟩⟩⟩⟩⟩⟩⟩⟩⟩⟩⟩⟩
theorem unF : ∀ a, a < 14 → ∀ b, b < 14 → a ≠ b → (TF a).2.1 ≠ (TF b).2.1 := by decide +kernel
theorem uwY : ∀ w ∈ u_ws RY TY 1, w ∈ WL0 := by
  show ∀ w ∈ [u_lay RY TY 0], w ∈ WL0
  exact List.forall_mem_cons.mpr ⟨(wl_t (tb_1 194 rfl) rfl), fun _ h => absurd h List.not_mem_nil⟩
theorem unY : ∀ a, a < 1 → ∀ b, b < 1 → a ≠ b → (TY a).2.1 ≠ (TY b).2.1 := by decide +kernel
theorem uwM : ∀ w ∈ u_ws RM TM 4, w ∈ WL0 := by
  show ∀ w ∈ [u_lay RM TM 0, u_lay RM TM 1, u_lay RM TM 2, u_lay RM TM 3], w ∈ WL0
  exact List.forall_mem_cons.mpr ⟨(wl_t (tb_1 210 rfl) rfl), List.forall_mem_cons.mpr ⟨(wl_t (tb_1 212 rfl) rfl), List.forall_mem_cons.mpr ⟨(wl_t (tb_1 214 rfl) rfl), List.forall_mem_cons.mpr ⟨(wl_t (tb_1 216 rfl) rfl), fun _ h => absurd h List.not_mem_nil⟩⟩⟩⟩
theorem unM : ∀ a, a < 4 → ∀ b, b < 4 → a ≠ b → (TM a).2.1 ≠ (TM b).2.1 := by decide +kernel
theorem uwX : ∀ w ∈ u_ws RX TX 7, w ∈ WL0 := by
  show ∀ w ∈ [u_lay RX TX 0, u_lay RX TX 1, u_lay RX TX 2, u_lay RX TX 3, u_lay RX TX 4, u_lay RX TX 5, u_lay RX TX 6], w ∈ WL0
  exact List.forall_mem_cons.mpr ⟨(wl_t (tb_1 232 rfl) rfl), List.forall_mem_cons.mpr ⟨(wl_t (tb_1 234 rfl) rfl), List.forall_mem_cons.mpr ⟨(wl_t (tb_1 236 rfl) rfl), List.forall_mem_cons.mpr ⟨(wl_t (tb_1 238 rfl) rfl), List.forall_mem_cons.mpr ⟨(wl_t (tb_2 0 rfl) rfl), List.forall_mem_cons.mpr ⟨(wl_t (tb_2 2 rfl) rfl), List.forall_mem_cons.mpr ⟨(wl_t (tb_2 4 rfl) rfl), fun _ h => absurd h List.not_mem_nil⟩⟩⟩⟩⟩⟩⟩
theorem unX : ∀ a, a < 7 → ∀ b, b < 7 → a ≠ b → (TX a).2.1 ≠ (TX b).2.1 := by decide +kernel
theorem uwC : ∀ w ∈ u_ws RC TC 3, w ∈ WL0 := by
  show ∀ w ∈ [u_lay RC TC 0, u_lay RC TC 1, u_lay RC TC 2], w ∈ WL0
  exact List.forall_mem_cons.mpr ⟨(wl_t (tb_2 16 rfl) rfl), List.forall_mem_cons.mpr ⟨(wl_t (tb_2 18 rfl) rfl), List.forall_mem_cons.mpr ⟨(wl_t (tb_2 20 rfl) rfl), fun _ h => absurd h List.not_mem_nil⟩⟩⟩
theorem unC : ∀ a, a < 3 → ∀ b, b < 3 → a ≠ b → (TC a).2.1 ≠ (TC b).2.1 := by decide +kernel
theorem uwT : ∀ w ∈ u_ws RT TT 4, w ∈ WL0 := by
  show ∀ w ∈ [u_lay RT TT 0, u_lay RT TT 1, u_lay RT TT 2, u_lay RT TT 3], w ∈ WL0
  exact List.forall_mem_cons.mpr ⟨(wl_t (tb_2 36 rfl) rfl), List.forall_mem_cons.mpr ⟨(wl_t (tb_2 38 rfl) rfl), List.forall_mem_cons.mpr ⟨(wl_t (tb_2 40 rfl) rfl), List.forall_mem_cons.mpr ⟨(wl_t (tb_2 42 rfl) rfl), fun _ h => absurd h List.not_mem_nil⟩⟩⟩⟩
theorem unT : ∀ a, a < 4 → ∀ b, b < 4 → a ≠ b → (TT a).2.1 ≠ (TT b).2.1 := by decide +kernel
theorem uwR : ∀ w ∈ u_ws RR TR 45, w ∈ WL0 := by
  show ∀ w ∈ [u_lay RR TR 0, u_lay RR TR 1, u_lay RR TR 2, u_lay RR TR 3, u_lay RR TR 4, u_lay RR TR 5, u_lay RR TR 6, u_lay RR TR 7, u_lay RR TR 8, u_lay RR TR 9, u_lay RR TR 10, u_lay RR TR 11, u_lay RR TR 12, u_lay RR TR 13, u_lay RR TR 14, u_lay RR TR 15, u_lay RR TR 16, u_lay RR TR 17, u_lay RR TR 18, u_lay RR TR 19, u_lay RR TR 20, u_lay RR TR 21, u_lay RR TR 22, u_lay RR TR 23, u_lay RR TR 24, u_lay RR TR 25, u_lay RR TR 26, u_lay RR TR 27, u_lay RR TR 28, u_lay RR TR 29, u_lay RR TR 30, u_lay RR TR 31, u_lay RR TR 32, u_lay RR TR 33, u_lay RR TR 34, u_lay RR TR 35, u_lay RR TR 36, u_lay RR TR 37, u_lay RR TR 38, u_lay RR TR 39, u_lay RR TR 40, u_lay RR TR 41, u_lay RR TR 42, u_lay RR TR 43, u_lay RR TR 44], w ∈ WL0
  exact List.forall_mem_cons.mpr ⟨(wl_t (tb_4 112 rfl) rfl), List.forall_mem_cons.mpr ⟨(wl_t (tb_4 114 rfl) rfl), List.forall_mem_cons.mpr ⟨(wl_t (tb_4 116 rfl) rfl), List.forall_mem_cons.mpr ⟨(wl_t (tb_4 118 rfl) rfl), List.forall_mem_cons.mpr ⟨(wl_t (tb_4 120 rfl) rfl), List.forall_mem_cons.mpr ⟨(wl_t (tb_4 122 rfl) rfl), List.forall_mem_cons.mpr ⟨(wl_t (tb_4 124 rfl) rfl), List.forall_mem_cons.mpr ⟨(wl_t (tb_4 126 rfl) rfl), List.forall_mem_cons.mpr ⟨(wl_t (tb_4 128 rfl) rfl), List.forall_mem_cons.mpr ⟨(wl_t (tb_4 130 rfl) rfl), List.forall_mem_cons.mpr ⟨(wl_t (tb_4 132 rfl) rfl), List.forall_mem_cons.mpr ⟨(wl_t (tb_4 134 rfl) rfl), List.forall_mem_cons.mpr ⟨(wl_t (tb_4 136 rfl) rfl), List.forall_mem_cons.mpr ⟨(wl_t (tb_4 138 rfl) rfl), List.forall_mem_cons.mpr ⟨(wl_t (tb_4 140 rfl) rfl), List.forall_mem_cons.mpr ⟨(wl_t (tb_4 142 rfl) rfl), List.forall_mem_cons.mpr ⟨(wl_t (tb_4 144 rfl) rfl), List.forall_mem_cons.mpr ⟨(wl_t (tb_4 146 rfl) rfl), List.forall_mem_cons.mpr ⟨(wl_t (tb_4 148 rfl) rfl), List.forall_mem_cons.mpr ⟨(wl_t (tb_4 150 rfl) rfl), List.forall_mem_cons.mpr ⟨(wl_t (tb_4 152 rfl) rfl), List.forall_mem_cons.mpr ⟨(wl_t (tb_4 154 rfl) rfl), List.forall_mem_cons.mpr ⟨(wl_t (tb_4 156 rfl) rfl), List.forall_mem_cons.mpr ⟨(wl_t (tb_4 158 rfl) rfl), List.forall_mem_cons.mpr ⟨(wl_t (tb_4 160 rfl) rfl), List.forall_mem_cons.mpr ⟨(wl_t (tb_4 162 rfl) rfl), List.forall_mem_cons.mpr ⟨(wl_t (tb_4 164 rfl) rfl), List.forall_mem_cons.mpr ⟨(wl_t (tb_4 166 rfl) rfl), List.forall_mem_cons.mpr ⟨(wl_t (tb_4 168 rfl) rfl), List.forall_mem_cons.mpr ⟨(wl_t (tb_4 170 rfl) rfl), List.forall_mem_cons.mpr ⟨(wl_t (tb_4 172 rfl) rfl), List.forall_mem_cons.mpr ⟨(wl_t (tb_4 174 rfl) rfl), List.forall_mem_cons.mpr ⟨(wl_t (tb_4 176 rfl) rfl), List.forall_mem_cons.mpr ⟨(wl_t (tb_4 178 rfl) rfl), List.forall_mem_cons.mpr ⟨(wl_t (tb_4 180 rfl) rfl), List.forall_mem_cons.mpr ⟨(wl_t (tb_4 182 rfl) rfl), List.forall_mem_cons.mpr ⟨(wl_t (tb_4 184 rfl) rfl), List.forall_mem_cons.mpr ⟨(wl_t (tb_4 186 rfl) rfl), List.forall_mem_cons.mpr ⟨(wl_t (tb_4 188 rfl) rfl), List.forall_mem_cons.mpr ⟨(wl_t (tb_4 190 rfl) rfl), List.forall_mem_cons.mpr ⟨(wl_t (tb_4 192 rfl) rfl), List.forall_mem_cons.mpr ⟨(wl_t (tb_4 194 rfl) rfl), List.forall_mem_cons.mpr ⟨(wl_t (tb_4 196 rfl) rfl), List.forall_mem_cons.mpr ⟨(wl_t (tb_4 198 rfl) rfl), List.forall_mem_cons.mpr ⟨(wl_t (tb_4 200 rfl) rfl), fun _ h => absurd h List.not_mem_nil⟩⟩⟩⟩⟩⟩⟩⟩⟩⟩⟩⟩⟩⟩⟩⟩⟩⟩⟩⟩⟩⟩⟩⟩⟩⟩⟩⟩⟩⟩⟩⟩⟩⟩⟩⟩⟩⟩⟩⟩⟩⟩⟩⟩⟩
theorem unR : ∀ a, a < 45 → ∀ b, b < 45 → a ≠ b → (TR a).2.1 ≠ (TR b).2.1 := by decide +kernel
theorem hcl0 : ∀ (ci : Nat) (C : String) (T : u_T) (N : Nat), cl0[ci]? = some (C, T, N) → (∀ w ∈ u_ws C T N, w ∈ WL0) ∧ ∀ a, a < N → ∀ b, b < N → a ≠ b → (T a).2.1 ≠ (T b).2.1 := by
  intro ci C T N h
  match ci, h with
  | 0, h => cases h; exact ⟨uwA, unA⟩
  | 1, h => cases h; exact ⟨uwN, unN⟩
  | 2, h => cases h; exact ⟨uwF, unF⟩
  | 3, h => cases h; exact ⟨uwY, unY⟩
  | 4, h => cases h; exact ⟨uwM, unM⟩
  | 5, h => cases h; exact ⟨uwX, unX⟩
  | 6, h => cases h; exact ⟨uwC, unC⟩
  | 7, h => cases h; exact ⟨uwT, unT⟩
  | 8, h => cases h; exact ⟨uwR, unR⟩
  | k + 9, h => simp [cl0] at h
theorem tok0 : mc_tok cl0 tab0 = true := by decide +kernel
abbrev mc_G : Type := Launch × va_G × Nat × (Nat → ClassId) × State
def mc_vc (md : Bool) (tab : List mc_D) (ci : Nat) (F : mc_PT) : mc_PT := fun av n M L Q => match av with
  | .ref q :: as => mc_ob md tab q n ci 0 (fun _ => F (.ref q :: as) n M L Q)
  | _ => False
def ctA_init (g : mc_G) (d : Nat) : mc_PT := mc_CT g.2.2.2.2 g.1 g.2.1 cl0 g.2.2.1 g.2.2.2.1 true tab0 WL0 NW0 yA_init prog_1_method_1_code 1 none d 0
def ctA_node (g : mc_G) (d : Nat) : mc_PT := mc_CT g.2.2.2.2 g.1 g.2.1 cl0 g.2.2.1 g.2.2.2.1 true tab0 WL0 NW0 yA_node prog_1_method_2_code 4 (some .int) d 0
def ctA_assign (g : mc_G) (d : Nat) : mc_PT := mc_CT g.2.2.2.2 g.1 g.2.1 cl0 g.2.2.1 g.2.2.2.1 true tab0 WL0 NW0 yA_assign prog_1_method_3_code 4 (some .int) d 0
def ctA_jump (g : mc_G) (d : Nat) : mc_PT := mc_CT g.2.2.2.2 g.1 g.2.1 cl0 g.2.2.1 g.2.2.2.1 true tab0 WL0 NW0 yA_jump prog_1_method_4_code 6 none d 0
def ctA_clear (g : mc_G) (d : Nat) : mc_PT := mc_CT g.2.2.2.2 g.1 g.2.1 cl0 g.2.2.1 g.2.2.2.1 true tab0 WL0 NW0 yA_clear prog_1_method_5_code 3 (some .int) d 0
def ctA_input (g : mc_G) (d : Nat) : mc_PT := mc_CT g.2.2.2.2 g.1 g.2.1 cl0 g.2.2.1 g.2.2.2.1 true tab0 WL0 NW0 yA_input prog_1_method_6_code 4 (some .int) d 0
def ctA_run (g : mc_G) (d : Nat) : mc_PT := mc_CT g.2.2.2.2 g.1 g.2.1 cl0 g.2.2.1 g.2.2.2.1 true tab0 WL0 NW0 yA_run prog_1_method_7_code 2 (some .boolean) d 0
def ctA_follow (g : mc_G) (d : Nat) : mc_PT := mc_CT g.2.2.2.2 g.1 g.2.1 cl0 g.2.2.1 g.2.2.2.1 true tab0 WL0 NW0 yA_follow prog_1_method_8_code 2 (some .boolean) d 0
def ctA_result (g : mc_G) (d : Nat) : mc_PT := mc_CT g.2.2.2.2 g.1 g.2.1 cl0 g.2.2.1 g.2.2.2.1 true tab0 WL0 NW0 yA_result prog_1_method_9_code 2 (some .int) d 0
def ctA_divide (g : mc_G) (d : Nat) : mc_PT := mc_CT g.2.2.2.2 g.1 g.2.1 cl0 g.2.2.1 g.2.2.2.1 true tab0 WL0 NW0 yA_divide prog_1_method_10_code 2 (some .int) d 0
def ctA_live (g : mc_G) (d : Nat) : mc_PT := mc_CT g.2.2.2.2 g.1 g.2.1 cl0 g.2.2.1 g.2.2.2.1 true tab0 WL0 NW0 yA_live prog_1_method_11_code 2 (some .int) d 0
def ctA_mix (g : mc_G) (d : Nat) : mc_PT := mc_CT g.2.2.2.2 g.1 g.2.1 cl0 g.2.2.1 g.2.2.2.1 true tab0 WL0 NW0 yA_mix prog_1_method_12_code 3 (some .int) d 0
def ctA_compress (g : mc_G) (d : Nat) : mc_PT := mc_CT g.2.2.2.2 g.1 g.2.1 cl0 g.2.2.1 g.2.2.2.1 true tab0 WL0 NW0 yA_compress prog_1_method_13_code 1 (some .int) d 0
def ctA_about (g : mc_G) (d : Nat) : mc_PT := mc_CT g.2.2.2.2 g.1 g.2.1 cl0 g.2.2.1 g.2.2.2.1 true tab0 WL0 NW0 yA_about prog_1_method_14_code 4 (some .int) d 0
def ctA_sign (g : mc_G) (d : Nat) : mc_PT := mc_CT g.2.2.2.2 g.1 g.2.1 cl0 g.2.2.1 g.2.2.2.1 true tab0 WL0 NW0 yA_sign prog_1_method_15_code 2 (some .int) d 0
def ctA_count (g : mc_G) (d : Nat) : mc_PT := mc_CT g.2.2.2.2 g.1 g.2.1 cl0 g.2.2.1 g.2.2.2.1 true tab0 WL0 NW0 yA_count prog_1_method_16_code 2 (some .int) d 0
def ctA_canJump (g : mc_G) (d : Nat) : mc_PT := mc_CT g.2.2.2.2 g.1 g.2.1 cl0 g.2.2.1 g.2.2.2.1 true tab0 WL0 NW0 yA_canJump prog_1_method_17_code 5 (some .boolean) d 0
def ctA_isBlock (g : mc_G) (d : Nat) : mc_PT := mc_CT g.2.2.2.2 g.1 g.2.1 cl0 g.2.2.1 g.2.2.2.1 true tab0 WL0 NW0 yA_isBlock prog_1_method_18_code 1 (some .boolean) d 0
def ctA_isVariable (g : mc_G) (d : Nat) : mc_PT := mc_CT g.2.2.2.2 g.1 g.2.1 cl0 g.2.2.1 g.2.2.2.1 true tab0 WL0 NW0 yA_isVariable prog_1_method_19_code 1 (some .boolean) d 0
def ctA_isVariableSet (g : mc_G) (d : Nat) : mc_PT := mc_CT g.2.2.2.2 g.1 g.2.1 cl0 g.2.2.1 g.2.2.2.1 true tab0 WL0 NW0 yA_isVariableSet prog_1_method_20_code 1 (some .boolean) d 0
def ctA_isStepLimit (g : mc_G) (d : Nat) : mc_PT := mc_CT g.2.2.2.2 g.1 g.2.1 cl0 g.2.2.1 g.2.2.2.1 true tab0 WL0 NW0 yA_isStepLimit prog_1_method_21_code 1 (some .boolean) d 0
def ctN_init (g : mc_G) (d : Nat) : mc_PT := mc_CT g.2.2.2.2 g.1 g.2.1 cl0 g.2.2.1 g.2.2.2.1 true tab0 WL0 NW0 yN_init prog_7_method_1_code 1 none d 0
def ctN_has (g : mc_G) (d : Nat) : mc_PT := mc_CT g.2.2.2.2 g.1 g.2.1 cl0 g.2.2.1 g.2.2.2.1 true tab0 WL0 NW0 yN_has prog_7_method_2_code 2 (some .boolean) d 0
def ctN_canBe (g : mc_G) (d : Nat) : mc_PT := mc_CT g.2.2.2.2 g.1 g.2.1 cl0 g.2.2.1 g.2.2.2.1 true tab0 WL0 NW0 yN_canBe prog_7_method_3_code 4 (some .boolean) d 0
def ctN_sizeWith (g : mc_G) (d : Nat) : mc_PT := mc_CT g.2.2.2.2 g.1 g.2.1 cl0 g.2.2.1 g.2.2.2.1 true tab0 WL0 NW0 yN_sizeWith prog_7_method_4_code 4 (some .int) d 0
def ctN_variablesWith (g : mc_G) (d : Nat) : mc_PT := mc_CT g.2.2.2.2 g.1 g.2.1 cl0 g.2.2.1 g.2.2.2.1 true tab0 WL0 NW0 yN_variablesWith prog_7_method_5_code 4 (some .int) d 0
def ctN_add (g : mc_G) (d : Nat) : mc_PT := mc_CT g.2.2.2.2 g.1 g.2.1 cl0 g.2.2.1 g.2.2.2.1 true tab0 WL0 NW0 yN_add prog_7_method_6_code 5 (some .int) d 0
def ctN_valueOf (g : mc_G) (d : Nat) : mc_PT := mc_CT g.2.2.2.2 g.1 g.2.1 cl0 g.2.2.1 g.2.2.2.1 true tab0 WL0 NW0 yN_valueOf prog_7_method_7_code 7 (some .int) d 0
def ctN_combine (g : mc_G) (d : Nat) : mc_PT := mc_CT g.2.2.2.2 g.1 g.2.1 cl0 g.2.2.1 g.2.2.2.1 true tab0 WL0 NW0 yN_combine prog_7_method_8_code 3 (some .int) d 0
def ctF_init (g : mc_G) (d : Nat) : mc_PT := mc_CT g.2.2.2.2 g.1 g.2.1 cl0 g.2.2.1 g.2.2.2.1 true tab0 WL0 NW0 yF_init prog_4_method_1_code 4 none d 0
def ctF_makeEmpty (g : mc_G) (d : Nat) : mc_PT := mc_CT g.2.2.2.2 g.1 g.2.1 cl0 g.2.2.1 g.2.2.2.1 true tab0 WL0 NW0 yF_makeEmpty prog_4_method_2_code 3 none d 0
def ctF_append (g : mc_G) (d : Nat) : mc_PT := mc_CT g.2.2.2.2 g.1 g.2.1 cl0 g.2.2.1 g.2.2.2.1 true tab0 WL0 NW0 yF_append prog_4_method_3_code 5 (some .int) d 0
def ctF_setJump (g : mc_G) (d : Nat) : mc_PT := mc_CT g.2.2.2.2 g.1 g.2.1 cl0 g.2.2.1 g.2.2.2.1 true tab0 WL0 NW0 yF_setJump prog_4_method_4_code 4 none d 0
def ctF_setTargets (g : mc_G) (d : Nat) : mc_PT := mc_CT g.2.2.2.2 g.1 g.2.1 cl0 g.2.2.1 g.2.2.2.1 true tab0 WL0 NW0 yF_setTargets prog_4_method_5_code 4 none d 0
def ctF_jumpStep (g : mc_G) (d : Nat) : mc_PT := mc_CT g.2.2.2.2 g.1 g.2.1 cl0 g.2.2.1 g.2.2.2.1 true tab0 WL0 NW0 yF_jumpStep prog_4_method_6_code 2 (some .int) d 0
def ctF_freeze (g : mc_G) (d : Nat) : mc_PT := mc_CT g.2.2.2.2 g.1 g.2.1 cl0 g.2.2.1 g.2.2.2.1 true tab0 WL0 NW0 yF_freeze prog_4_method_7_code 3 none d 0
def ctF_thaw (g : mc_G) (d : Nat) : mc_PT := mc_CT g.2.2.2.2 g.1 g.2.1 cl0 g.2.2.1 g.2.2.2.1 true tab0 WL0 NW0 yF_thaw prog_4_method_8_code 4 none d 0
def ctF_join (g : mc_G) (d : Nat) : mc_PT := mc_CT g.2.2.2.2 g.1 g.2.1 cl0 g.2.2.1 g.2.2.2.1 true tab0 WL0 NW0 yF_join prog_4_method_9_code 3 none d 0
def ctF_renumber (g : mc_G) (d : Nat) : mc_PT := mc_CT g.2.2.2.2 g.1 g.2.1 cl0 g.2.2.1 g.2.2.2.1 true tab0 WL0 NW0 yF_renumber prog_4_method_10_code 3 none d 0
def ctY_init (g : mc_G) (d : Nat) : mc_PT := mc_CT g.2.2.2.2 g.1 g.2.1 cl0 g.2.2.1 g.2.2.2.1 true tab0 WL0 NW0 yY_init prog_2_method_1_code 1 none d 0
def ctY_findStatics (g : mc_G) (d : Nat) : mc_PT := mc_CT g.2.2.2.2 g.1 g.2.1 cl0 g.2.2.1 g.2.2.2.1 true tab0 WL0 NW0 yY_findStatics prog_2_method_2_code 8 (some .int) d 0
def ctY_withDynamicsOf (g : mc_G) (d : Nat) : mc_PT := mc_CT g.2.2.2.2 g.1 g.2.1 cl0 g.2.2.1 g.2.2.2.1 true tab0 WL0 NW0 yY_withDynamicsOf prog_2_method_3_code 7 (some .int) d 0
def ctY_findLives (g : mc_G) (d : Nat) : mc_PT := mc_CT g.2.2.2.2 g.1 g.2.1 cl0 g.2.2.1 g.2.2.2.1 true tab0 WL0 NW0 yY_findLives prog_2_method_4_code 7 none d 0
def ctY_livesOf (g : mc_G) (d : Nat) : mc_PT := mc_CT g.2.2.2.2 g.1 g.2.1 cl0 g.2.2.1 g.2.2.2.1 true tab0 WL0 NW0 yY_livesOf prog_2_method_5_code 8 (some .int) d 0
def ctY_livesAt (g : mc_G) (d : Nat) : mc_PT := mc_CT g.2.2.2.2 g.1 g.2.1 cl0 g.2.2.1 g.2.2.2.1 true tab0 WL0 NW0 yY_livesAt prog_2_method_6_code 2 (some .int) d 0
def ctM_init (g : mc_G) (d : Nat) : mc_PT := mc_CT g.2.2.2.2 g.1 g.2.1 cl0 g.2.2.1 g.2.2.2.1 true tab0 WL0 NW0 yM_init prog_5_method_1_code 1 none d 0
def ctM_travel (g : mc_G) (d : Nat) : mc_PT := mc_CT g.2.2.2.2 g.1 g.2.1 cl0 g.2.2.1 g.2.2.2.1 true tab0 WL0 NW0 yM_travel prog_5_method_2_code 6 (some .boolean) d 0
def ctM_doAssignments (g : mc_G) (d : Nat) : mc_PT := mc_CT g.2.2.2.2 g.1 g.2.1 cl0 g.2.2.1 g.2.2.2.1 true tab0 WL0 NW0 yM_doAssignments prog_5_method_3_code 6 none d 0
def ctM_doJump (g : mc_G) (d : Nat) : mc_PT := mc_CT g.2.2.2.2 g.1 g.2.1 cl0 g.2.2.1 g.2.2.2.1 true tab0 WL0 NW0 yM_doJump prog_5_method_4_code 6 (some .boolean) d 0
def ctX_init (g : mc_G) (d : Nat) : mc_PT := mc_CT g.2.2.2.2 g.1 g.2.1 cl0 g.2.2.1 g.2.2.2.1 true tab0 WL0 NW0 yX_init prog_6_method_1_code 1 none d 0
def ctX_work (g : mc_G) (d : Nat) : mc_PT := mc_CT g.2.2.2.2 g.1 g.2.1 cl0 g.2.2.1 g.2.2.2.1 true tab0 WL0 NW0 yX_work prog_6_method_2_code 7 (some .boolean) d 0
def ctX_mixAssignments (g : mc_G) (d : Nat) : mc_PT := mc_CT g.2.2.2.2 g.1 g.2.1 cl0 g.2.2.1 g.2.2.2.1 true tab0 WL0 NW0 yX_mixAssignments prog_6_method_3_code 10 none d 0
def ctX_mixJump (g : mc_G) (d : Nat) : mc_PT := mc_CT g.2.2.2.2 g.1 g.2.1 cl0 g.2.2.1 g.2.2.2.1 true tab0 WL0 NW0 yX_mixJump prog_6_method_4_code 12 none d 0
def ctX_comeTo (g : mc_G) (d : Nat) : mc_PT := mc_CT g.2.2.2.2 g.1 g.2.1 cl0 g.2.2.1 g.2.2.2.1 true tab0 WL0 NW0 yX_comeTo prog_6_method_5_code 3 (some .int) d 0
def ctX_isWanted (g : mc_G) (d : Nat) : mc_PT := mc_CT g.2.2.2.2 g.1 g.2.1 cl0 g.2.2.1 g.2.2.2.1 true tab0 WL0 NW0 yX_isWanted prog_6_method_6_code 4 (some .boolean) d 0
def ctC_init (g : mc_G) (d : Nat) : mc_PT := mc_CT g.2.2.2.2 g.1 g.2.1 cl0 g.2.2.1 g.2.2.2.1 true tab0 WL0 NW0 yC_init prog_3_method_1_code 1 none d 0
def ctC_work (g : mc_G) (d : Nat) : mc_PT := mc_CT g.2.2.2.2 g.1 g.2.1 cl0 g.2.2.1 g.2.2.2.1 true tab0 WL0 NW0 yC_work prog_3_method_2_code 4 none d 0
def ctC_findArrivals (g : mc_G) (d : Nat) : mc_PT := mc_CT g.2.2.2.2 g.1 g.2.1 cl0 g.2.2.1 g.2.2.2.1 true tab0 WL0 NW0 yC_findArrivals prog_3_method_3_code 4 none d 0
def ctC_lowestToMove (g : mc_G) (d : Nat) : mc_PT := mc_CT g.2.2.2.2 g.1 g.2.1 cl0 g.2.2.1 g.2.2.2.1 true tab0 WL0 NW0 yC_lowestToMove prog_3_method_4_code 4 (some .int) d 0
def ctC_numberAnew (g : mc_G) (d : Nat) : mc_PT := mc_CT g.2.2.2.2 g.1 g.2.1 cl0 g.2.2.1 g.2.2.2.1 true tab0 WL0 NW0 yC_numberAnew prog_3_method_5_code 5 none d 0
def ctC_numberOf (g : mc_G) (d : Nat) : mc_PT := mc_CT g.2.2.2.2 g.1 g.2.1 cl0 g.2.2.1 g.2.2.2.1 true tab0 WL0 NW0 yC_numberOf prog_3_method_6_code 2 (some .int) d 0
def ctT_init (g : mc_G) (d : Nat) : mc_PT := mc_CT g.2.2.2.2 g.1 g.2.1 cl0 g.2.2.1 g.2.2.2.1 true tab0 WL0 NW0 yT_init prog_8_method_1_code 1 none d 0
def ctT_refresh (g : mc_G) (d : Nat) : mc_PT := mc_CT g.2.2.2.2 g.1 g.2.1 cl0 g.2.2.1 g.2.2.2.1 true tab0 WL0 NW0 yT_refresh prog_8_method_2_code 4 none d 0
def ctT_putAssignments (g : mc_G) (d : Nat) : mc_PT := mc_CT g.2.2.2.2 g.1 g.2.1 cl0 g.2.2.1 g.2.2.2.1 true tab0 WL0 NW0 yT_putAssignments prog_8_method_3_code 6 none d 0
def ctT_putJump (g : mc_G) (d : Nat) : mc_PT := mc_CT g.2.2.2.2 g.1 g.2.1 cl0 g.2.2.1 g.2.2.2.1 true tab0 WL0 NW0 yT_putJump prog_8_method_4_code 5 none d 0
def ctT_putNodeOf (g : mc_G) (d : Nat) : mc_PT := mc_CT g.2.2.2.2 g.1 g.2.1 cl0 g.2.2.1 g.2.2.2.1 true tab0 WL0 NW0 yT_putNodeOf prog_8_method_5_code 4 none d 0
def ctT_putPart (g : mc_G) (d : Nat) : mc_PT := mc_CT g.2.2.2.2 g.1 g.2.1 cl0 g.2.2.1 g.2.2.2.1 true tab0 WL0 NW0 yT_putPart prog_8_method_6_code 5 none d 0
def ctT_putLetter (g : mc_G) (d : Nat) : mc_PT := mc_CT g.2.2.2.2 g.1 g.2.1 cl0 g.2.2.1 g.2.2.2.1 true tab0 WL0 NW0 yT_putLetter prog_8_method_7_code 2 none d 0
def ctT_putNumber (g : mc_G) (d : Nat) : mc_PT := mc_CT g.2.2.2.2 g.1 g.2.1 cl0 g.2.2.1 g.2.2.2.1 true tab0 WL0 NW0 yT_putNumber prog_8_method_8_code 7 none d 0
def ctT_put (g : mc_G) (d : Nat) : mc_PT := mc_CT g.2.2.2.2 g.1 g.2.1 cl0 g.2.2.1 g.2.2.2.1 true tab0 WL0 NW0 yT_put prog_8_method_9_code 2 none d 0
def ctR_init (g : mc_G) (d : Nat) : mc_PT := mc_CT g.2.2.2.2 g.1 g.2.1 cl0 g.2.2.1 g.2.2.2.1 true tab0 WL0 NW0 yR_init prog_10_method_1_code 2 none d 0
def ctR_thrown (g : mc_G) (d : Nat) : mc_PT := mc_CT g.2.2.2.2 g.1 g.2.1 cl0 g.2.2.1 g.2.2.2.1 true tab0 WL0 NW0 yR_thrown prog_10_method_2_code 1 (some .int) d 0
def ctR_goes (g : mc_G) (d : Nat) : mc_PT := mc_CT g.2.2.2.2 g.1 g.2.1 cl0 g.2.2.1 g.2.2.2.1 true tab0 WL0 NW0 yR_goes prog_10_method_3_code 3 (some .boolean) d 0
def ctR_within (g : mc_G) (d : Nat) : mc_PT := mc_CT g.2.2.2.2 g.1 g.2.1 cl0 g.2.2.1 g.2.2.2.1 true tab0 WL0 NW0 yR_within prog_10_method_4_code 3 (some .boolean) d 0
def ctR_isNode (g : mc_G) (d : Nat) : mc_PT := mc_CT g.2.2.2.2 g.1 g.2.1 cl0 g.2.2.1 g.2.2.2.1 true tab0 WL0 NW0 yR_isNode prog_10_method_5_code 2 (some .boolean) d 0
def ctR_isVariable (g : mc_G) (d : Nat) : mc_PT := mc_CT g.2.2.2.2 g.1 g.2.1 cl0 g.2.2.1 g.2.2.2.1 true tab0 WL0 NW0 yR_isVariable prog_10_method_6_code 1 (some .boolean) d 0
def ctR_isBlock (g : mc_G) (d : Nat) : mc_PT := mc_CT g.2.2.2.2 g.1 g.2.1 cl0 g.2.2.1 g.2.2.2.1 true tab0 WL0 NW0 yR_isBlock prog_10_method_7_code 1 (some .boolean) d 0
def ctR_plain (g : mc_G) (d : Nat) : mc_PT := mc_CT g.2.2.2.2 g.1 g.2.1 cl0 g.2.2.1 g.2.2.2.1 true tab0 WL0 NW0 yR_plain prog_10_method_8_code 2 none d 0
def ctR_node (g : mc_G) (d : Nat) : mc_PT := mc_CT g.2.2.2.2 g.1 g.2.1 cl0 g.2.2.1 g.2.2.2.1 true tab0 WL0 NW0 yR_node prog_10_method_9_code 6 (some .int) d 0
def ctR_assign (g : mc_G) (d : Nat) : mc_PT := mc_CT g.2.2.2.2 g.1 g.2.1 cl0 g.2.2.1 g.2.2.2.1 true tab0 WL0 NW0 yR_assign prog_10_method_10_code 5 (some .int) d 0
def ctR_jump (g : mc_G) (d : Nat) : mc_PT := mc_CT g.2.2.2.2 g.1 g.2.1 cl0 g.2.2.1 g.2.2.2.1 true tab0 WL0 NW0 yR_jump prog_10_method_11_code 7 none d 0
def ctR_clear (g : mc_G) (d : Nat) : mc_PT := mc_CT g.2.2.2.2 g.1 g.2.1 cl0 g.2.2.1 g.2.2.2.1 true tab0 WL0 NW0 yR_clear prog_10_method_12_code 3 (some .int) d 0
def ctR_input (g : mc_G) (d : Nat) : mc_PT := mc_CT g.2.2.2.2 g.1 g.2.1 cl0 g.2.2.1 g.2.2.2.1 true tab0 WL0 NW0 yR_input prog_10_method_13_code 4 (some .int) d 0
def ctR_worth (g : mc_G) (d : Nat) : mc_PT := mc_CT g.2.2.2.2 g.1 g.2.1 cl0 g.2.2.1 g.2.2.2.1 true tab0 WL0 NW0 yR_worth prog_10_method_14_code 5 (some .int) d 0
def ctR_begin (g : mc_G) (d : Nat) : mc_PT := mc_CT g.2.2.2.2 g.1 g.2.1 cl0 g.2.2.1 g.2.2.2.1 true tab0 WL0 NW0 yR_begin prog_10_method_15_code 2 none d 0
def ctR_run (g : mc_G) (d : Nat) : mc_PT := mc_CT g.2.2.2.2 g.1 g.2.1 cl0 g.2.2.1 g.2.2.2.1 true tab0 WL0 NW0 yR_run prog_10_method_16_code 4 (some .boolean) d 0
def ctR_result (g : mc_G) (d : Nat) : mc_PT := mc_CT g.2.2.2.2 g.1 g.2.1 cl0 g.2.2.1 g.2.2.2.1 true tab0 WL0 NW0 yR_result prog_10_method_17_code 2 (some .int) d 0
def ctR_setOf (g : mc_G) (d : Nat) : mc_PT := mc_CT g.2.2.2.2 g.1 g.2.1 cl0 g.2.2.1 g.2.2.2.1 true tab0 WL0 NW0 yR_setOf prog_10_method_18_code 2 (some .int) d 0
def ctR_dynamics (g : mc_G) (d : Nat) : mc_PT := mc_CT g.2.2.2.2 g.1 g.2.1 cl0 g.2.2.1 g.2.2.2.1 true tab0 WL0 NW0 yR_dynamics prog_10_method_19_code 6 (some .int) d 0
def ctR_divide (g : mc_G) (d : Nat) : mc_PT := mc_CT g.2.2.2.2 g.1 g.2.1 cl0 g.2.2.1 g.2.2.2.1 true tab0 WL0 NW0 yR_divide prog_10_method_20_code 2 (some .int) d 0
def ctR_allLive (g : mc_G) (d : Nat) : mc_PT := mc_CT g.2.2.2.2 g.1 g.2.1 cl0 g.2.2.1 g.2.2.2.1 true tab0 WL0 NW0 yR_allLive prog_10_method_21_code 5 none d 0
def ctR_live (g : mc_G) (d : Nat) : mc_PT := mc_CT g.2.2.2.2 g.1 g.2.1 cl0 g.2.2.1 g.2.2.2.1 true tab0 WL0 NW0 yR_live prog_10_method_22_code 2 (some .int) d 0
def ctR_state (g : mc_G) (d : Nat) : mc_PT := mc_CT g.2.2.2.2 g.1 g.2.1 cl0 g.2.2.1 g.2.2.2.1 true tab0 WL0 NW0 yR_state prog_10_method_23_code 6 (some .int) d 0
def ctR_part (g : mc_G) (d : Nat) : mc_PT := mc_CT g.2.2.2.2 g.1 g.2.1 cl0 g.2.2.1 g.2.2.2.1 true tab0 WL0 NW0 yR_part prog_10_method_24_code 4 (some .int) d 0
def ctR_append (g : mc_G) (d : Nat) : mc_PT := mc_CT g.2.2.2.2 g.1 g.2.1 cl0 g.2.2.1 g.2.2.2.1 true tab0 WL0 NW0 yR_append prog_10_method_25_code 3 none d 0
def ctR_work (g : mc_G) (d : Nat) : mc_PT := mc_CT g.2.2.2.2 g.1 g.2.1 cl0 g.2.2.1 g.2.2.2.1 true tab0 WL0 NW0 yR_work prog_10_method_26_code 9 none d 0
def ctR_mix (g : mc_G) (d : Nat) : mc_PT := mc_CT g.2.2.2.2 g.1 g.2.1 cl0 g.2.2.1 g.2.2.2.1 true tab0 WL0 NW0 yR_mix prog_10_method_27_code 4 (some .int) d 0
def ctR_worthOf (g : mc_G) (d : Nat) : mc_PT := mc_CT g.2.2.2.2 g.1 g.2.1 cl0 g.2.2.1 g.2.2.2.1 true tab0 WL0 NW0 yR_worthOf prog_10_method_28_code 4 (some .int) d 0
def ctR_follow (g : mc_G) (d : Nat) : mc_PT := mc_CT g.2.2.2.2 g.1 g.2.1 cl0 g.2.2.1 g.2.2.2.1 true tab0 WL0 NW0 yR_follow prog_10_method_29_code 4 (some .boolean) d 0
def ctR_jumpsTo (g : mc_G) (d : Nat) : mc_PT := mc_CT g.2.2.2.2 g.1 g.2.1 cl0 g.2.2.1 g.2.2.2.1 true tab0 WL0 NW0 yR_jumpsTo prog_10_method_30_code 4 (some .int) d 0
def ctR_goesTo (g : mc_G) (d : Nat) : mc_PT := mc_CT g.2.2.2.2 g.1 g.2.1 cl0 g.2.2.1 g.2.2.2.1 true tab0 WL0 NW0 yR_goesTo prog_10_method_31_code 3 (some .int) d 0
def ctR_join (g : mc_G) (d : Nat) : mc_PT := mc_CT g.2.2.2.2 g.1 g.2.1 cl0 g.2.2.1 g.2.2.2.1 true tab0 WL0 NW0 yR_join prog_10_method_32_code 3 none d 0
def ctR_copyBlock (g : mc_G) (d : Nat) : mc_PT := mc_CT g.2.2.2.2 g.1 g.2.1 cl0 g.2.2.1 g.2.2.2.1 true tab0 WL0 NW0 yR_copyBlock prog_10_method_33_code 3 none d 0
def ctR_compress (g : mc_G) (d : Nat) : mc_PT := mc_CT g.2.2.2.2 g.1 g.2.1 cl0 g.2.2.1 g.2.2.2.1 true tab0 WL0 NW0 yR_compress prog_10_method_34_code 5 (some .int) d 0
def ctR_put (g : mc_G) (d : Nat) : mc_PT := mc_CT g.2.2.2.2 g.1 g.2.1 cl0 g.2.2.1 g.2.2.2.1 true tab0 WL0 NW0 yR_put prog_10_method_35_code 2 none d 0
def ctR_number (g : mc_G) (d : Nat) : mc_PT := mc_CT g.2.2.2.2 g.1 g.2.1 cl0 g.2.2.1 g.2.2.2.1 true tab0 WL0 NW0 yR_number prog_10_method_36_code 6 none d 0
def ctR_spell (g : mc_G) (d : Nat) : mc_PT := mc_CT g.2.2.2.2 g.1 g.2.1 cl0 g.2.2.1 g.2.2.2.1 true tab0 WL0 NW0 yR_spell prog_10_method_37_code 5 none d 0
def ctR_write (g : mc_G) (d : Nat) : mc_PT := mc_CT g.2.2.2.2 g.1 g.2.1 cl0 g.2.2.1 g.2.2.2.1 true tab0 WL0 NW0 yR_write prog_10_method_38_code 3 none d 0
def ctR_about (g : mc_G) (d : Nat) : mc_PT := mc_CT g.2.2.2.2 g.1 g.2.1 cl0 g.2.2.1 g.2.2.2.1 true tab0 WL0 NW0 yR_about prog_10_method_39_code 5 (some .int) d 0
def ctR_sign (g : mc_G) (d : Nat) : mc_PT := mc_CT g.2.2.2.2 g.1 g.2.1 cl0 g.2.2.1 g.2.2.2.1 true tab0 WL0 NW0 yR_sign prog_10_method_40_code 2 (some .int) d 0
def ctR_count (g : mc_G) (d : Nat) : mc_PT := mc_CT g.2.2.2.2 g.1 g.2.1 cl0 g.2.2.1 g.2.2.2.1 true tab0 WL0 NW0 yR_count prog_10_method_41_code 2 (some .int) d 0
def ctJa_fill (g : mc_G) (d : Nat) : mc_PT := mc_CT g.2.2.2.2 g.1 g.2.1 cl0 g.2.2.1 g.2.2.2.1 true tab0 WL0 NW0 yJa_fill prog_21_method_103_code 4 none d 0
def fgA : List (Nat × Nat × Nat) := [(12, 0, 0), (21, 0, 1), (25, 0, 2), (32, 0, 3), (39, 0, 4), (46, 0, 5), (53, 0, 6), (60, 0, 7), (64, 0, 8), (67, 0, 9), (81, 1, 5), (109, 2, 3), (149, 2, 0), (154, 4, 1), (157, 4, 2), (160, 4, 3), (178, 3, 0), (181, 2, 1), (188, 7, 3), (197, 2, 6), (200, 2, 2), (203, 2, 7), (206, 2, 8), (209, 2, 9), (217, 7, 2), (222, 7, 0), (226, 1, 6)]
def fpA : List (Nat × Nat × Nat) := [(64, 0, 8), (67, 0, 9), (81, 1, 5), (149, 2, 0), (154, 4, 1), (157, 4, 2), (160, 4, 3), (181, 2, 1), (188, 7, 3), (217, 7, 2), (226, 1, 6)]
theorem fgA_ok : ∀ q ∈ fgA, mc_fgP cl0 WL0 NW0 RA q := List.forall_mem_cons.mpr ⟨⟨RA, TA, 10, rfl, by decide, Or.inl (wl_t (tb_2 46 rfl) rfl)⟩, List.forall_mem_cons.mpr ⟨⟨RA, TA, 10, rfl, by decide, Or.inl (wl_t (tb_2 47 rfl) rfl)⟩, List.forall_mem_cons.mpr ⟨⟨RA, TA, 10, rfl, by decide, Or.inl (wl_t (tb_2 48 rfl) rfl)⟩, List.forall_mem_cons.mpr ⟨⟨RA, TA, 10, rfl, by decide, Or.inl (wl_t (tb_2 49 rfl) rfl)⟩, List.forall_mem_cons.mpr ⟨⟨RA, TA, 10, rfl, by decide, Or.inl (wl_t (tb_2 50 rfl) rfl)⟩, List.forall_mem_cons.mpr ⟨⟨RA, TA, 10, rfl, by decide, Or.inl (wl_t (tb_2 51 rfl) rfl)⟩, List.forall_mem_cons.mpr ⟨⟨RA, TA, 10, rfl, by decide, Or.inl (wl_t (tb_2 52 rfl) rfl)⟩, List.forall_mem_cons.mpr ⟨⟨RA, TA, 10, rfl, by decide, Or.inl (wl_t (tb_2 53 rfl) rfl)⟩, List.forall_mem_cons.mpr ⟨⟨RA, TA, 10, rfl, by decide, Or.inl (wl_t (tb_2 54 rfl) rfl)⟩, List.forall_mem_cons.mpr ⟨⟨RA, TA, 10, rfl, by decide, Or.inl (wl_t (tb_2 55 rfl) rfl)⟩, List.forall_mem_cons.mpr ⟨⟨RN, TN, 7, rfl, by decide, Or.inr ⟨_, (nw_t (tb_1 49 rfl) rfl)⟩⟩, List.forall_mem_cons.mpr ⟨⟨RF, TF, 14, rfl, by decide, Or.inr ⟨_, (nw_t (tb_1 107 rfl) rfl)⟩⟩, List.forall_mem_cons.mpr ⟨⟨RF, TF, 14, rfl, by decide, Or.inr ⟨_, (nw_t (tb_1 95 rfl) rfl)⟩⟩, List.forall_mem_cons.mpr ⟨⟨RM, TM, 4, rfl, by decide, Or.inr ⟨_, (nw_t (tb_1 205 rfl) rfl)⟩⟩, List.forall_mem_cons.mpr ⟨⟨RM, TM, 4, rfl, by decide, Or.inr ⟨_, (nw_t (tb_1 207 rfl) rfl)⟩⟩, List.forall_mem_cons.mpr ⟨⟨RM, TM, 4, rfl, by decide, Or.inr ⟨_, (nw_t (tb_1 209 rfl) rfl)⟩⟩, List.forall_mem_cons.mpr ⟨⟨RY, TY, 1, rfl, by decide, Or.inr ⟨_, (nw_t (tb_1 193 rfl) rfl)⟩⟩, List.forall_mem_cons.mpr ⟨⟨RF, TF, 14, rfl, by decide, Or.inr ⟨_, (nw_t (tb_1 99 rfl) rfl)⟩⟩, List.forall_mem_cons.mpr ⟨⟨RT, TT, 4, rfl, by decide, Or.inr ⟨_, (nw_t (tb_2 35 rfl) rfl)⟩⟩, List.forall_mem_cons.mpr ⟨⟨RF, TF, 14, rfl, by decide, Or.inr ⟨_, (nw_t (tb_1 120 rfl) rfl)⟩⟩, List.forall_mem_cons.mpr ⟨⟨RF, TF, 14, rfl, by decide, Or.inr ⟨_, (nw_t (tb_1 101 rfl) rfl)⟩⟩, List.forall_mem_cons.mpr ⟨⟨RF, TF, 14, rfl, by decide, Or.inr ⟨_, (nw_t (tb_1 126 rfl) rfl)⟩⟩, List.forall_mem_cons.mpr ⟨⟨RF, TF, 14, rfl, by decide, Or.inr ⟨_, (nw_t (tb_1 133 rfl) rfl)⟩⟩, List.forall_mem_cons.mpr ⟨⟨RF, TF, 14, rfl, by decide, Or.inr ⟨_, (nw_t (tb_1 140 rfl) rfl)⟩⟩, List.forall_mem_cons.mpr ⟨⟨RT, TT, 4, rfl, by decide, Or.inr ⟨_, (nw_t (tb_2 33 rfl) rfl)⟩⟩, List.forall_mem_cons.mpr ⟨⟨RT, TT, 4, rfl, by decide, Or.inr ⟨_, (nw_t (tb_2 30 rfl) rfl)⟩⟩, List.forall_mem_cons.mpr ⟨⟨RN, TN, 7, rfl, by decide, Or.inr ⟨_, (nw_t (tb_1 51 rfl) rfl)⟩⟩, fun _ h => absurd h List.not_mem_nil⟩⟩⟩⟩⟩⟩⟩⟩⟩⟩⟩⟩⟩⟩⟩⟩⟩⟩⟩⟩⟩⟩⟩⟩⟩⟩⟩
theorem fpA_ok (nm : String) : ∀ q ∈ fpA, mc_fpP cl0 WL0 NW0 RA nm q := List.forall_mem_cons.mpr ⟨⟨RA, TA, 10, rfl, by decide, Or.inl ⟨rfl, Or.inl (wl_t (tb_2 54 rfl) rfl)⟩⟩, List.forall_mem_cons.mpr ⟨⟨RA, TA, 10, rfl, by decide, Or.inl ⟨rfl, Or.inl (wl_t (tb_2 55 rfl) rfl)⟩⟩, List.forall_mem_cons.mpr ⟨⟨RN, TN, 7, rfl, by decide, Or.inl ⟨rfl, Or.inr ⟨_, (nw_t (tb_1 49 rfl) rfl)⟩⟩⟩, List.forall_mem_cons.mpr ⟨⟨RF, TF, 14, rfl, by decide, Or.inl ⟨rfl, Or.inr ⟨_, (nw_t (tb_1 95 rfl) rfl)⟩⟩⟩, List.forall_mem_cons.mpr ⟨⟨RM, TM, 4, rfl, by decide, Or.inl ⟨rfl, Or.inr ⟨_, (nw_t (tb_1 205 rfl) rfl)⟩⟩⟩, List.forall_mem_cons.mpr ⟨⟨RM, TM, 4, rfl, by decide, Or.inl ⟨rfl, Or.inr ⟨_, (nw_t (tb_1 207 rfl) rfl)⟩⟩⟩, List.forall_mem_cons.mpr ⟨⟨RM, TM, 4, rfl, by decide, Or.inl ⟨rfl, Or.inr ⟨_, (nw_t (tb_1 209 rfl) rfl)⟩⟩⟩, List.forall_mem_cons.mpr ⟨⟨RF, TF, 14, rfl, by decide, Or.inl ⟨rfl, Or.inr ⟨_, (nw_t (tb_1 99 rfl) rfl)⟩⟩⟩, List.forall_mem_cons.mpr ⟨⟨RT, TT, 4, rfl, by decide, Or.inl ⟨rfl, Or.inr ⟨_, (nw_t (tb_2 35 rfl) rfl)⟩⟩⟩, List.forall_mem_cons.mpr ⟨⟨RT, TT, 4, rfl, by decide, Or.inl ⟨rfl, Or.inr ⟨_, (nw_t (tb_2 33 rfl) rfl)⟩⟩⟩, List.forall_mem_cons.mpr ⟨⟨RN, TN, 7, rfl, by decide, Or.inl ⟨rfl, Or.inr ⟨_, (nw_t (tb_1 51 rfl) rfl)⟩⟩⟩, fun _ h => absurd h List.not_mem_nil⟩⟩⟩⟩⟩⟩⟩⟩⟩⟩⟩
def klA : List (Nat × Int64) := []
theorem klA_ok : ∀ q ∈ klA, Cond.constantLong RA q.1 q.2 ∈ WL0 := fun _ h => absurd h List.not_mem_nil
def fgN : List (Nat × Nat × Nat) := [(9, 1, 0), (15, 1, 1), (18, 1, 2), (21, 1, 3), (24, 1, 4), (27, 1, 5), (45, 1, 6)]
def fpN : List (Nat × Nat × Nat) := [(27, 1, 5), (45, 1, 6)]
theorem fgN_ok : ∀ q ∈ fgN, mc_fgP cl0 WL0 NW0 RN q := List.forall_mem_cons.mpr ⟨⟨RN, TN, 7, rfl, by decide, Or.inl (wl_t (tb_1 37 rfl) rfl)⟩, List.forall_mem_cons.mpr ⟨⟨RN, TN, 7, rfl, by decide, Or.inl (wl_t (tb_1 39 rfl) rfl)⟩, List.forall_mem_cons.mpr ⟨⟨RN, TN, 7, rfl, by decide, Or.inl (wl_t (tb_1 41 rfl) rfl)⟩, List.forall_mem_cons.mpr ⟨⟨RN, TN, 7, rfl, by decide, Or.inl (wl_t (tb_1 43 rfl) rfl)⟩, List.forall_mem_cons.mpr ⟨⟨RN, TN, 7, rfl, by decide, Or.inl (wl_t (tb_1 44 rfl) rfl)⟩, List.forall_mem_cons.mpr ⟨⟨RN, TN, 7, rfl, by decide, Or.inl (wl_t (tb_1 48 rfl) rfl)⟩, List.forall_mem_cons.mpr ⟨⟨RN, TN, 7, rfl, by decide, Or.inl (wl_t (tb_1 50 rfl) rfl)⟩, fun _ h => absurd h List.not_mem_nil⟩⟩⟩⟩⟩⟩⟩
theorem fpN_ok (nm : String) : ∀ q ∈ fpN, mc_fpP cl0 WL0 NW0 RN nm q := List.forall_mem_cons.mpr ⟨⟨RN, TN, 7, rfl, by decide, Or.inl ⟨rfl, Or.inl (wl_t (tb_1 48 rfl) rfl)⟩⟩, List.forall_mem_cons.mpr ⟨⟨RN, TN, 7, rfl, by decide, Or.inl ⟨rfl, Or.inl (wl_t (tb_1 50 rfl) rfl)⟩⟩, fun _ h => absurd h List.not_mem_nil⟩⟩
def klN : List (Nat × Int64) := []
theorem klN_ok : ∀ q ∈ klN, Cond.constantLong RN q.1 q.2 ∈ WL0 := fun _ h => absurd h List.not_mem_nil
def fgF : List (Nat × Nat × Nat) := [(9, 2, 2), (15, 2, 3), (18, 2, 4), (21, 2, 5), (24, 2, 6), (27, 2, 7), (30, 2, 8), (33, 2, 9), (36, 2, 10), (39, 2, 11), (42, 2, 12), (45, 2, 13), (48, 2, 0), (73, 2, 1)]
def fpF : List (Nat × Nat × Nat) := [(48, 2, 0), (73, 2, 1)]
theorem fgF_ok : ∀ q ∈ fgF, mc_fgP cl0 WL0 NW0 RF q := List.forall_mem_cons.mpr ⟨⟨RF, TF, 14, rfl, by decide, Or.inl (wl_t (tb_1 100 rfl) rfl)⟩, List.forall_mem_cons.mpr ⟨⟨RF, TF, 14, rfl, by decide, Or.inl (wl_t (tb_1 102 rfl) rfl)⟩, List.forall_mem_cons.mpr ⟨⟨RF, TF, 14, rfl, by decide, Or.inl (wl_t (tb_1 108 rfl) rfl)⟩, List.forall_mem_cons.mpr ⟨⟨RF, TF, 14, rfl, by decide, Or.inl (wl_t (tb_1 113 rfl) rfl)⟩, List.forall_mem_cons.mpr ⟨⟨RF, TF, 14, rfl, by decide, Or.inl (wl_t (tb_1 114 rfl) rfl)⟩, List.forall_mem_cons.mpr ⟨⟨RF, TF, 14, rfl, by decide, Or.inl (wl_t (tb_1 121 rfl) rfl)⟩, List.forall_mem_cons.mpr ⟨⟨RF, TF, 14, rfl, by decide, Or.inl (wl_t (tb_1 127 rfl) rfl)⟩, List.forall_mem_cons.mpr ⟨⟨RF, TF, 14, rfl, by decide, Or.inl (wl_t (tb_1 134 rfl) rfl)⟩, List.forall_mem_cons.mpr ⟨⟨RF, TF, 14, rfl, by decide, Or.inl (wl_t (tb_1 141 rfl) rfl)⟩, List.forall_mem_cons.mpr ⟨⟨RF, TF, 14, rfl, by decide, Or.inl (wl_t (tb_1 146 rfl) rfl)⟩, List.forall_mem_cons.mpr ⟨⟨RF, TF, 14, rfl, by decide, Or.inl (wl_t (tb_1 151 rfl) rfl)⟩, List.forall_mem_cons.mpr ⟨⟨RF, TF, 14, rfl, by decide, Or.inl (wl_t (tb_1 156 rfl) rfl)⟩, List.forall_mem_cons.mpr ⟨⟨RF, TF, 14, rfl, by decide, Or.inl (wl_t (tb_1 90 rfl) rfl)⟩, List.forall_mem_cons.mpr ⟨⟨RF, TF, 14, rfl, by decide, Or.inl (wl_t (tb_1 98 rfl) rfl)⟩, fun _ h => absurd h List.not_mem_nil⟩⟩⟩⟩⟩⟩⟩⟩⟩⟩⟩⟩⟩⟩
theorem fpF_ok (nm : String) : ∀ q ∈ fpF, mc_fpP cl0 WL0 NW0 RF nm q := List.forall_mem_cons.mpr ⟨⟨RF, TF, 14, rfl, by decide, Or.inl ⟨rfl, Or.inl (wl_t (tb_1 90 rfl) rfl)⟩⟩, List.forall_mem_cons.mpr ⟨⟨RF, TF, 14, rfl, by decide, Or.inl ⟨rfl, Or.inl (wl_t (tb_1 98 rfl) rfl)⟩⟩, fun _ h => absurd h List.not_mem_nil⟩⟩
def klF : List (Nat × Int64) := []
theorem klF_ok : ∀ q ∈ klF, Cond.constantLong RF q.1 q.2 ∈ WL0 := fun _ h => absurd h List.not_mem_nil
def fgY : List (Nat × Nat × Nat) := [(9, 3, 0), (15, 2, 0), (25, 2, 4), (28, 2, 3), (31, 1, 4), (36, 2, 11), (39, 2, 10), (40, 2, 12), (57, 2, 8), (60, 2, 6), (66, 2, 9)]
def fpY : List (Nat × Nat × Nat) := [(15, 2, 0)]
theorem fgY_ok : ∀ q ∈ fgY, mc_fgP cl0 WL0 NW0 RY q := List.forall_mem_cons.mpr ⟨⟨RY, TY, 1, rfl, by decide, Or.inl (wl_t (tb_1 192 rfl) rfl)⟩, List.forall_mem_cons.mpr ⟨⟨RF, TF, 14, rfl, by decide, Or.inr ⟨_, (nw_t (tb_1 93 rfl) rfl)⟩⟩, List.forall_mem_cons.mpr ⟨⟨RF, TF, 14, rfl, by decide, Or.inr ⟨_, (nw_t (tb_1 111 rfl) rfl)⟩⟩, List.forall_mem_cons.mpr ⟨⟨RF, TF, 14, rfl, by decide, Or.inr ⟨_, (nw_t (tb_1 105 rfl) rfl)⟩⟩, List.forall_mem_cons.mpr ⟨⟨RN, TN, 7, rfl, by decide, Or.inr ⟨_, (nw_t (tb_1 45 rfl) rfl)⟩⟩, List.forall_mem_cons.mpr ⟨⟨RF, TF, 14, rfl, by decide, Or.inr ⟨_, (nw_t (tb_1 147 rfl) rfl)⟩⟩, List.forall_mem_cons.mpr ⟨⟨RF, TF, 14, rfl, by decide, Or.inr ⟨_, (nw_t (tb_1 144 rfl) rfl)⟩⟩, List.forall_mem_cons.mpr ⟨⟨RF, TF, 14, rfl, by decide, Or.inr ⟨_, (nw_t (tb_1 153 rfl) rfl)⟩⟩, List.forall_mem_cons.mpr ⟨⟨RF, TF, 14, rfl, by decide, Or.inr ⟨_, (nw_t (tb_1 132 rfl) rfl)⟩⟩, List.forall_mem_cons.mpr ⟨⟨RF, TF, 14, rfl, by decide, Or.inr ⟨_, (nw_t (tb_1 119 rfl) rfl)⟩⟩, List.forall_mem_cons.mpr ⟨⟨RF, TF, 14, rfl, by decide, Or.inr ⟨_, (nw_t (tb_1 139 rfl) rfl)⟩⟩, fun _ h => absurd h List.not_mem_nil⟩⟩⟩⟩⟩⟩⟩⟩⟩⟩⟩
theorem fpY_ok (nm : String) : ∀ q ∈ fpY, mc_fpP cl0 WL0 NW0 RY nm q := List.forall_mem_cons.mpr ⟨⟨RF, TF, 14, rfl, by decide, Or.inl ⟨rfl, Or.inr ⟨_, (nw_t (tb_1 93 rfl) rfl)⟩⟩⟩, fun _ h => absurd h List.not_mem_nil⟩
def klY : List (Nat × Int64) := []
theorem klY_ok : ∀ q ∈ klY, Cond.constantLong RY q.1 q.2 ∈ WL0 := fun _ h => absurd h List.not_mem_nil
def fgM : List (Nat × Nat × Nat) := [(9, 4, 0), (21, 4, 1), (25, 4, 2), (28, 4, 3), (39, 2, 4), (44, 2, 3), (51, 2, 10), (54, 2, 11), (63, 2, 12), (66, 2, 6), (73, 2, 7), (76, 2, 8), (79, 2, 9)]
def fpM : List (Nat × Nat × Nat) := [(21, 4, 1), (25, 4, 2), (28, 4, 3)]
theorem fgM_ok : ∀ q ∈ fgM, mc_fgP cl0 WL0 NW0 RM q := List.forall_mem_cons.mpr ⟨⟨RM, TM, 4, rfl, by decide, Or.inl (wl_t (tb_1 203 rfl) rfl)⟩, List.forall_mem_cons.mpr ⟨⟨RM, TM, 4, rfl, by decide, Or.inl (wl_t (tb_1 204 rfl) rfl)⟩, List.forall_mem_cons.mpr ⟨⟨RM, TM, 4, rfl, by decide, Or.inl (wl_t (tb_1 206 rfl) rfl)⟩, List.forall_mem_cons.mpr ⟨⟨RM, TM, 4, rfl, by decide, Or.inl (wl_t (tb_1 208 rfl) rfl)⟩, List.forall_mem_cons.mpr ⟨⟨RF, TF, 14, rfl, by decide, Or.inr ⟨_, (nw_t (tb_1 109 rfl) rfl)⟩⟩, List.forall_mem_cons.mpr ⟨⟨RF, TF, 14, rfl, by decide, Or.inr ⟨_, (nw_t (tb_1 104 rfl) rfl)⟩⟩, List.forall_mem_cons.mpr ⟨⟨RF, TF, 14, rfl, by decide, Or.inr ⟨_, (nw_t (tb_1 145 rfl) rfl)⟩⟩, List.forall_mem_cons.mpr ⟨⟨RF, TF, 14, rfl, by decide, Or.inr ⟨_, (nw_t (tb_1 149 rfl) rfl)⟩⟩, List.forall_mem_cons.mpr ⟨⟨RF, TF, 14, rfl, by decide, Or.inr ⟨_, (nw_t (tb_1 154 rfl) rfl)⟩⟩, List.forall_mem_cons.mpr ⟨⟨RF, TF, 14, rfl, by decide, Or.inr ⟨_, (nw_t (tb_1 116 rfl) rfl)⟩⟩, List.forall_mem_cons.mpr ⟨⟨RF, TF, 14, rfl, by decide, Or.inr ⟨_, (nw_t (tb_1 125 rfl) rfl)⟩⟩, List.forall_mem_cons.mpr ⟨⟨RF, TF, 14, rfl, by decide, Or.inr ⟨_, (nw_t (tb_1 130 rfl) rfl)⟩⟩, List.forall_mem_cons.mpr ⟨⟨RF, TF, 14, rfl, by decide, Or.inr ⟨_, (nw_t (tb_1 136 rfl) rfl)⟩⟩, fun _ h => absurd h List.not_mem_nil⟩⟩⟩⟩⟩⟩⟩⟩⟩⟩⟩⟩⟩
theorem fpM_ok (nm : String) : ∀ q ∈ fpM, mc_fpP cl0 WL0 NW0 RM nm q := List.forall_mem_cons.mpr ⟨⟨RM, TM, 4, rfl, by decide, Or.inl ⟨rfl, Or.inl (wl_t (tb_1 204 rfl) rfl)⟩⟩, List.forall_mem_cons.mpr ⟨⟨RM, TM, 4, rfl, by decide, Or.inl ⟨rfl, Or.inl (wl_t (tb_1 206 rfl) rfl)⟩⟩, List.forall_mem_cons.mpr ⟨⟨RM, TM, 4, rfl, by decide, Or.inl ⟨rfl, Or.inl (wl_t (tb_1 208 rfl) rfl)⟩⟩, fun _ h => absurd h List.not_mem_nil⟩⟩⟩
def klM : List (Nat × Int64) := []
theorem klM_ok : ∀ q ∈ klM, Cond.constantLong RM q.1 q.2 ∈ WL0 := fun _ h => absurd h List.not_mem_nil
def fgX : List (Nat × Nat × Nat) := [(9, 5, 0), (15, 5, 1), (18, 5, 2), (21, 5, 3), (24, 5, 4), (27, 2, 1), (39, 5, 5), (42, 5, 6), (61, 2, 0), (64, 2, 4), (67, 2, 3), (70, 2, 10), (73, 2, 11), (90, 2, 12), (93, 2, 6), (96, 2, 7), (102, 1, 4), (107, 2, 8), (110, 2, 9)]
def fpX : List (Nat × Nat × Nat) := [(27, 2, 1), (39, 5, 5), (42, 5, 6), (61, 2, 0)]
theorem fgX_ok : ∀ q ∈ fgX, mc_fgP cl0 WL0 NW0 RX q := List.forall_mem_cons.mpr ⟨⟨RX, TX, 7, rfl, by decide, Or.inl (wl_t (tb_1 225 rfl) rfl)⟩, List.forall_mem_cons.mpr ⟨⟨RX, TX, 7, rfl, by decide, Or.inl (wl_t (tb_1 226 rfl) rfl)⟩, List.forall_mem_cons.mpr ⟨⟨RX, TX, 7, rfl, by decide, Or.inl (wl_t (tb_1 227 rfl) rfl)⟩, List.forall_mem_cons.mpr ⟨⟨RX, TX, 7, rfl, by decide, Or.inl (wl_t (tb_1 228 rfl) rfl)⟩, List.forall_mem_cons.mpr ⟨⟨RX, TX, 7, rfl, by decide, Or.inl (wl_t (tb_1 229 rfl) rfl)⟩, List.forall_mem_cons.mpr ⟨⟨RF, TF, 14, rfl, by decide, Or.inr ⟨_, (nw_t (tb_1 96 rfl) rfl)⟩⟩, List.forall_mem_cons.mpr ⟨⟨RX, TX, 7, rfl, by decide, Or.inl (wl_t (tb_1 230 rfl) rfl)⟩, List.forall_mem_cons.mpr ⟨⟨RX, TX, 7, rfl, by decide, Or.inl (wl_t (tb_1 231 rfl) rfl)⟩, List.forall_mem_cons.mpr ⟨⟨RF, TF, 14, rfl, by decide, Or.inr ⟨_, (nw_t (tb_1 94 rfl) rfl)⟩⟩, List.forall_mem_cons.mpr ⟨⟨RF, TF, 14, rfl, by decide, Or.inr ⟨_, (nw_t (tb_1 112 rfl) rfl)⟩⟩, List.forall_mem_cons.mpr ⟨⟨RF, TF, 14, rfl, by decide, Or.inr ⟨_, (nw_t (tb_1 106 rfl) rfl)⟩⟩, List.forall_mem_cons.mpr ⟨⟨RF, TF, 14, rfl, by decide, Or.inr ⟨_, (nw_t (tb_1 143 rfl) rfl)⟩⟩, List.forall_mem_cons.mpr ⟨⟨RF, TF, 14, rfl, by decide, Or.inr ⟨_, (nw_t (tb_1 148 rfl) rfl)⟩⟩, List.forall_mem_cons.mpr ⟨⟨RF, TF, 14, rfl, by decide, Or.inr ⟨_, (nw_t (tb_1 155 rfl) rfl)⟩⟩, List.forall_mem_cons.mpr ⟨⟨RF, TF, 14, rfl, by decide, Or.inr ⟨_, (nw_t (tb_1 118 rfl) rfl)⟩⟩, List.forall_mem_cons.mpr ⟨⟨RF, TF, 14, rfl, by decide, Or.inr ⟨_, (nw_t (tb_1 124 rfl) rfl)⟩⟩, List.forall_mem_cons.mpr ⟨⟨RN, TN, 7, rfl, by decide, Or.inr ⟨_, (nw_t (tb_1 46 rfl) rfl)⟩⟩, List.forall_mem_cons.mpr ⟨⟨RF, TF, 14, rfl, by decide, Or.inr ⟨_, (nw_t (tb_1 131 rfl) rfl)⟩⟩, List.forall_mem_cons.mpr ⟨⟨RF, TF, 14, rfl, by decide, Or.inr ⟨_, (nw_t (tb_1 138 rfl) rfl)⟩⟩, fun _ h => absurd h List.not_mem_nil⟩⟩⟩⟩⟩⟩⟩⟩⟩⟩⟩⟩⟩⟩⟩⟩⟩⟩⟩
theorem fpX_ok (nm : String) : ∀ q ∈ fpX, mc_fpP cl0 WL0 NW0 RX nm q := List.forall_mem_cons.mpr ⟨⟨RF, TF, 14, rfl, by decide, Or.inl ⟨rfl, Or.inr ⟨_, (nw_t (tb_1 96 rfl) rfl)⟩⟩⟩, List.forall_mem_cons.mpr ⟨⟨RX, TX, 7, rfl, by decide, Or.inl ⟨rfl, Or.inl (wl_t (tb_1 230 rfl) rfl)⟩⟩, List.forall_mem_cons.mpr ⟨⟨RX, TX, 7, rfl, by decide, Or.inl ⟨rfl, Or.inl (wl_t (tb_1 231 rfl) rfl)⟩⟩, List.forall_mem_cons.mpr ⟨⟨RF, TF, 14, rfl, by decide, Or.inl ⟨rfl, Or.inr ⟨_, (nw_t (tb_1 94 rfl) rfl)⟩⟩⟩, fun _ h => absurd h List.not_mem_nil⟩⟩⟩⟩
def klX : List (Nat × Int64) := []
theorem klX_ok : ∀ q ∈ klX, Cond.constantLong RX q.1 q.2 ∈ WL0 := fun _ h => absurd h List.not_mem_nil
def fgC : List (Nat × Nat × Nat) := [(9, 6, 0), (15, 6, 1), (18, 6, 2), (27, 2, 0), (48, 2, 6), (51, 2, 7), (54, 2, 8), (57, 2, 9)]
def fpC : List (Nat × Nat × Nat) := [(27, 2, 0)]
theorem fgC_ok : ∀ q ∈ fgC, mc_fgP cl0 WL0 NW0 RC q := List.forall_mem_cons.mpr ⟨⟨RC, TC, 3, rfl, by decide, Or.inl (wl_t (tb_2 13 rfl) rfl)⟩, List.forall_mem_cons.mpr ⟨⟨RC, TC, 3, rfl, by decide, Or.inl (wl_t (tb_2 14 rfl) rfl)⟩, List.forall_mem_cons.mpr ⟨⟨RC, TC, 3, rfl, by decide, Or.inl (wl_t (tb_2 15 rfl) rfl)⟩, List.forall_mem_cons.mpr ⟨⟨RF, TF, 14, rfl, by decide, Or.inr ⟨_, (nw_t (tb_1 91 rfl) rfl)⟩⟩, List.forall_mem_cons.mpr ⟨⟨RF, TF, 14, rfl, by decide, Or.inr ⟨_, (nw_t (tb_1 115 rfl) rfl)⟩⟩, List.forall_mem_cons.mpr ⟨⟨RF, TF, 14, rfl, by decide, Or.inr ⟨_, (nw_t (tb_1 122 rfl) rfl)⟩⟩, List.forall_mem_cons.mpr ⟨⟨RF, TF, 14, rfl, by decide, Or.inr ⟨_, (nw_t (tb_1 128 rfl) rfl)⟩⟩, List.forall_mem_cons.mpr ⟨⟨RF, TF, 14, rfl, by decide, Or.inr ⟨_, (nw_t (tb_1 135 rfl) rfl)⟩⟩, fun _ h => absurd h List.not_mem_nil⟩⟩⟩⟩⟩⟩⟩⟩
theorem fpC_ok (nm : String) : ∀ q ∈ fpC, mc_fpP cl0 WL0 NW0 RC nm q := List.forall_mem_cons.mpr ⟨⟨RF, TF, 14, rfl, by decide, Or.inl ⟨rfl, Or.inr ⟨_, (nw_t (tb_1 91 rfl) rfl)⟩⟩⟩, fun _ h => absurd h List.not_mem_nil⟩
def klC : List (Nat × Int64) := []
theorem klC_ok : ∀ q ∈ klC, Cond.constantLong RC q.1 q.2 ∈ WL0 := fun _ h => absurd h List.not_mem_nil
def fgT : List (Nat × Nat × Nat) := [(9, 7, 0), (15, 7, 1), (19, 7, 3), (23, 7, 2), (27, 2, 0), (47, 2, 4), (50, 2, 3), (53, 2, 10), (62, 2, 12), (65, 2, 6), (68, 2, 7), (71, 2, 8), (78, 2, 9), (85, 2, 11), (88, 2, 1), (95, 1, 4), (102, 1, 0), (103, 1, 1), (112, 1, 2)]
def fpT : List (Nat × Nat × Nat) := [(19, 7, 3), (23, 7, 2), (27, 2, 0), (88, 2, 1)]
theorem fgT_ok : ∀ q ∈ fgT, mc_fgP cl0 WL0 NW0 RT q := List.forall_mem_cons.mpr ⟨⟨RT, TT, 4, rfl, by decide, Or.inl (wl_t (tb_2 29 rfl) rfl)⟩, List.forall_mem_cons.mpr ⟨⟨RT, TT, 4, rfl, by decide, Or.inl (wl_t (tb_2 31 rfl) rfl)⟩, List.forall_mem_cons.mpr ⟨⟨RT, TT, 4, rfl, by decide, Or.inl (wl_t (tb_2 34 rfl) rfl)⟩, List.forall_mem_cons.mpr ⟨⟨RT, TT, 4, rfl, by decide, Or.inl (wl_t (tb_2 32 rfl) rfl)⟩, List.forall_mem_cons.mpr ⟨⟨RF, TF, 14, rfl, by decide, Or.inr ⟨_, (nw_t (tb_1 92 rfl) rfl)⟩⟩, List.forall_mem_cons.mpr ⟨⟨RF, TF, 14, rfl, by decide, Or.inr ⟨_, (nw_t (tb_1 110 rfl) rfl)⟩⟩, List.forall_mem_cons.mpr ⟨⟨RF, TF, 14, rfl, by decide, Or.inr ⟨_, (nw_t (tb_1 103 rfl) rfl)⟩⟩, List.forall_mem_cons.mpr ⟨⟨RF, TF, 14, rfl, by decide, Or.inr ⟨_, (nw_t (tb_1 142 rfl) rfl)⟩⟩, List.forall_mem_cons.mpr ⟨⟨RF, TF, 14, rfl, by decide, Or.inr ⟨_, (nw_t (tb_1 152 rfl) rfl)⟩⟩, List.forall_mem_cons.mpr ⟨⟨RF, TF, 14, rfl, by decide, Or.inr ⟨_, (nw_t (tb_1 117 rfl) rfl)⟩⟩, List.forall_mem_cons.mpr ⟨⟨RF, TF, 14, rfl, by decide, Or.inr ⟨_, (nw_t (tb_1 123 rfl) rfl)⟩⟩, List.forall_mem_cons.mpr ⟨⟨RF, TF, 14, rfl, by decide, Or.inr ⟨_, (nw_t (tb_1 129 rfl) rfl)⟩⟩, List.forall_mem_cons.mpr ⟨⟨RF, TF, 14, rfl, by decide, Or.inr ⟨_, (nw_t (tb_1 137 rfl) rfl)⟩⟩, List.forall_mem_cons.mpr ⟨⟨RF, TF, 14, rfl, by decide, Or.inr ⟨_, (nw_t (tb_1 150 rfl) rfl)⟩⟩, List.forall_mem_cons.mpr ⟨⟨RF, TF, 14, rfl, by decide, Or.inr ⟨_, (nw_t (tb_1 97 rfl) rfl)⟩⟩, List.forall_mem_cons.mpr ⟨⟨RN, TN, 7, rfl, by decide, Or.inr ⟨_, (nw_t (tb_1 47 rfl) rfl)⟩⟩, List.forall_mem_cons.mpr ⟨⟨RN, TN, 7, rfl, by decide, Or.inr ⟨_, (nw_t (tb_1 38 rfl) rfl)⟩⟩, List.forall_mem_cons.mpr ⟨⟨RN, TN, 7, rfl, by decide, Or.inr ⟨_, (nw_t (tb_1 40 rfl) rfl)⟩⟩, List.forall_mem_cons.mpr ⟨⟨RN, TN, 7, rfl, by decide, Or.inr ⟨_, (nw_t (tb_1 42 rfl) rfl)⟩⟩, fun _ h => absurd h List.not_mem_nil⟩⟩⟩⟩⟩⟩⟩⟩⟩⟩⟩⟩⟩⟩⟩⟩⟩⟩⟩
theorem fpT_ok (nm : String) : ∀ q ∈ fpT, mc_fpP cl0 WL0 NW0 RT nm q := List.forall_mem_cons.mpr ⟨⟨RT, TT, 4, rfl, by decide, Or.inl ⟨rfl, Or.inl (wl_t (tb_2 34 rfl) rfl)⟩⟩, List.forall_mem_cons.mpr ⟨⟨RT, TT, 4, rfl, by decide, Or.inl ⟨rfl, Or.inl (wl_t (tb_2 32 rfl) rfl)⟩⟩, List.forall_mem_cons.mpr ⟨⟨RF, TF, 14, rfl, by decide, Or.inl ⟨rfl, Or.inr ⟨_, (nw_t (tb_1 92 rfl) rfl)⟩⟩⟩, List.forall_mem_cons.mpr ⟨⟨RF, TF, 14, rfl, by decide, Or.inl ⟨rfl, Or.inr ⟨_, (nw_t (tb_1 97 rfl) rfl)⟩⟩⟩, fun _ h => absurd h List.not_mem_nil⟩⟩⟩⟩
def klT : List (Nat × Int64) := [(115, 10), (117, 48)]
theorem klT_ok : ∀ q ∈ klT, Cond.constantLong RT q.1 q.2 ∈ WL0 := List.forall_mem_cons.mpr ⟨(wl_t (tb_3 222 rfl) rfl), List.forall_mem_cons.mpr ⟨(wl_t (tb_3 223 rfl) rfl), fun _ h => absurd h List.not_mem_nil⟩⟩
def fgR : List (Nat × Nat × Nat) := [(7, 8, 2), (13, 8, 3), (16, 8, 4), (19, 8, 5), (22, 8, 6), (25, 8, 8), (28, 8, 9), (31, 8, 10), (34, 8, 11), (37, 8, 12), (40, 8, 13), (43, 8, 14), (46, 8, 15), (49, 8, 16), (52, 8, 17), (55, 8, 19), (58, 8, 20), (61, 8, 22), (64, 8, 25), (67, 8, 26), (71, 8, 27), (74, 8, 28), (77, 8, 29), (80, 8, 30), (83, 8, 31), (86, 8, 32), (89, 8, 34), (92, 8, 35), (95, 8, 36), (98, 8, 37), (101, 8, 38), (104, 8, 43), (107, 8, 44), (114, 8, 0), (118, 8, 1), (136, 8, 7), (142, 8, 39), (145, 8, 40), (148, 8, 41), (168, 8, 21), (171, 8, 18), (174, 8, 33), (192, 8, 23), (195, 8, 24), (216, 8, 42)]
def fpR : List (Nat × Nat × Nat) := [(114, 8, 0), (118, 8, 1), (136, 8, 7), (142, 8, 39), (145, 8, 40), (148, 8, 41), (168, 8, 21), (171, 8, 18), (174, 8, 33), (192, 8, 23), (195, 8, 24), (216, 8, 42)]
theorem fgR_ok : ∀ q ∈ fgR, mc_fgP cl0 WL0 NW0 RR q := List.forall_mem_cons.mpr ⟨⟨RR, TR, 45, rfl, by decide, Or.inl (wl_t (tb_4 69 rfl) rfl)⟩, List.forall_mem_cons.mpr ⟨⟨RR, TR, 45, rfl, by decide, Or.inl (wl_t (tb_4 70 rfl) rfl)⟩, List.forall_mem_cons.mpr ⟨⟨RR, TR, 45, rfl, by decide, Or.inl (wl_t (tb_4 71 rfl) rfl)⟩, List.forall_mem_cons.mpr ⟨⟨RR, TR, 45, rfl, by decide, Or.inl (wl_t (tb_4 72 rfl) rfl)⟩, List.forall_mem_cons.mpr ⟨⟨RR, TR, 45, rfl, by decide, Or.inl (wl_t (tb_4 73 rfl) rfl)⟩, List.forall_mem_cons.mpr ⟨⟨RR, TR, 45, rfl, by decide, Or.inl (wl_t (tb_4 75 rfl) rfl)⟩, List.forall_mem_cons.mpr ⟨⟨RR, TR, 45, rfl, by decide, Or.inl (wl_t (tb_4 76 rfl) rfl)⟩, List.forall_mem_cons.mpr ⟨⟨RR, TR, 45, rfl, by decide, Or.inl (wl_t (tb_4 77 rfl) rfl)⟩, List.forall_mem_cons.mpr ⟨⟨RR, TR, 45, rfl, by decide, Or.inl (wl_t (tb_4 78 rfl) rfl)⟩, List.forall_mem_cons.mpr ⟨⟨RR, TR, 45, rfl, by decide, Or.inl (wl_t (tb_4 79 rfl) rfl)⟩, List.forall_mem_cons.mpr ⟨⟨RR, TR, 45, rfl, by decide, Or.inl (wl_t (tb_4 80 rfl) rfl)⟩, List.forall_mem_cons.mpr ⟨⟨RR, TR, 45, rfl, by decide, Or.inl (wl_t (tb_4 81 rfl) rfl)⟩, List.forall_mem_cons.mpr ⟨⟨RR, TR, 45, rfl, by decide, Or.inl (wl_t (tb_4 82 rfl) rfl)⟩, List.forall_mem_cons.mpr ⟨⟨RR, TR, 45, rfl, by decide, Or.inl (wl_t (tb_4 83 rfl) rfl)⟩, List.forall_mem_cons.mpr ⟨⟨RR, TR, 45, rfl, by decide, Or.inl (wl_t (tb_4 84 rfl) rfl)⟩, List.forall_mem_cons.mpr ⟨⟨RR, TR, 45, rfl, by decide, Or.inl (wl_t (tb_4 86 rfl) rfl)⟩, List.forall_mem_cons.mpr ⟨⟨RR, TR, 45, rfl, by decide, Or.inl (wl_t (tb_4 87 rfl) rfl)⟩, List.forall_mem_cons.mpr ⟨⟨RR, TR, 45, rfl, by decide, Or.inl (wl_t (tb_4 89 rfl) rfl)⟩, List.forall_mem_cons.mpr ⟨⟨RR, TR, 45, rfl, by decide, Or.inl (wl_t (tb_4 92 rfl) rfl)⟩, List.forall_mem_cons.mpr ⟨⟨RR, TR, 45, rfl, by decide, Or.inl (wl_t (tb_4 93 rfl) rfl)⟩, List.forall_mem_cons.mpr ⟨⟨RR, TR, 45, rfl, by decide, Or.inl (wl_t (tb_4 94 rfl) rfl)⟩, List.forall_mem_cons.mpr ⟨⟨RR, TR, 45, rfl, by decide, Or.inl (wl_t (tb_4 95 rfl) rfl)⟩, List.forall_mem_cons.mpr ⟨⟨RR, TR, 45, rfl, by decide, Or.inl (wl_t (tb_4 96 rfl) rfl)⟩, List.forall_mem_cons.mpr ⟨⟨RR, TR, 45, rfl, by decide, Or.inl (wl_t (tb_4 97 rfl) rfl)⟩, List.forall_mem_cons.mpr ⟨⟨RR, TR, 45, rfl, by decide, Or.inl (wl_t (tb_4 98 rfl) rfl)⟩, List.forall_mem_cons.mpr ⟨⟨RR, TR, 45, rfl, by decide, Or.inl (wl_t (tb_4 99 rfl) rfl)⟩, List.forall_mem_cons.mpr ⟨⟨RR, TR, 45, rfl, by decide, Or.inl (wl_t (tb_4 101 rfl) rfl)⟩, List.forall_mem_cons.mpr ⟨⟨RR, TR, 45, rfl, by decide, Or.inl (wl_t (tb_4 102 rfl) rfl)⟩, List.forall_mem_cons.mpr ⟨⟨RR, TR, 45, rfl, by decide, Or.inl (wl_t (tb_4 103 rfl) rfl)⟩, List.forall_mem_cons.mpr ⟨⟨RR, TR, 45, rfl, by decide, Or.inl (wl_t (tb_4 104 rfl) rfl)⟩, List.forall_mem_cons.mpr ⟨⟨RR, TR, 45, rfl, by decide, Or.inl (wl_t (tb_4 105 rfl) rfl)⟩, List.forall_mem_cons.mpr ⟨⟨RR, TR, 45, rfl, by decide, Or.inl (wl_t (tb_4 110 rfl) rfl)⟩, List.forall_mem_cons.mpr ⟨⟨RR, TR, 45, rfl, by decide, Or.inl (wl_t (tb_4 111 rfl) rfl)⟩, List.forall_mem_cons.mpr ⟨⟨RR, TR, 45, rfl, by decide, Or.inl (wl_t (tb_4 67 rfl) rfl)⟩, List.forall_mem_cons.mpr ⟨⟨RR, TR, 45, rfl, by decide, Or.inl (wl_t (tb_4 68 rfl) rfl)⟩, List.forall_mem_cons.mpr ⟨⟨RR, TR, 45, rfl, by decide, Or.inl (wl_t (tb_4 74 rfl) rfl)⟩, List.forall_mem_cons.mpr ⟨⟨RR, TR, 45, rfl, by decide, Or.inl (wl_t (tb_4 106 rfl) rfl)⟩, List.forall_mem_cons.mpr ⟨⟨RR, TR, 45, rfl, by decide, Or.inl (wl_t (tb_4 107 rfl) rfl)⟩, List.forall_mem_cons.mpr ⟨⟨RR, TR, 45, rfl, by decide, Or.inl (wl_t (tb_4 108 rfl) rfl)⟩, List.forall_mem_cons.mpr ⟨⟨RR, TR, 45, rfl, by decide, Or.inl (wl_t (tb_4 88 rfl) rfl)⟩, List.forall_mem_cons.mpr ⟨⟨RR, TR, 45, rfl, by decide, Or.inl (wl_t (tb_4 85 rfl) rfl)⟩, List.forall_mem_cons.mpr ⟨⟨RR, TR, 45, rfl, by decide, Or.inl (wl_t (tb_4 100 rfl) rfl)⟩, List.forall_mem_cons.mpr ⟨⟨RR, TR, 45, rfl, by decide, Or.inl (wl_t (tb_4 90 rfl) rfl)⟩, List.forall_mem_cons.mpr ⟨⟨RR, TR, 45, rfl, by decide, Or.inl (wl_t (tb_4 91 rfl) rfl)⟩, List.forall_mem_cons.mpr ⟨⟨RR, TR, 45, rfl, by decide, Or.inl (wl_t (tb_4 109 rfl) rfl)⟩, fun _ h => absurd h List.not_mem_nil⟩⟩⟩⟩⟩⟩⟩⟩⟩⟩⟩⟩⟩⟩⟩⟩⟩⟩⟩⟩⟩⟩⟩⟩⟩⟩⟩⟩⟩⟩⟩⟩⟩⟩⟩⟩⟩⟩⟩⟩⟩⟩⟩⟩⟩
theorem fpR_ok (nm : String) : ∀ q ∈ fpR, mc_fpP cl0 WL0 NW0 RR nm q := List.forall_mem_cons.mpr ⟨⟨RR, TR, 45, rfl, by decide, Or.inl ⟨rfl, Or.inl (wl_t (tb_4 67 rfl) rfl)⟩⟩, List.forall_mem_cons.mpr ⟨⟨RR, TR, 45, rfl, by decide, Or.inl ⟨rfl, Or.inl (wl_t (tb_4 68 rfl) rfl)⟩⟩, List.forall_mem_cons.mpr ⟨⟨RR, TR, 45, rfl, by decide, Or.inl ⟨rfl, Or.inl (wl_t (tb_4 74 rfl) rfl)⟩⟩, List.forall_mem_cons.mpr ⟨⟨RR, TR, 45, rfl, by decide, Or.inl ⟨rfl, Or.inl (wl_t (tb_4 106 rfl) rfl)⟩⟩, List.forall_mem_cons.mpr ⟨⟨RR, TR, 45, rfl, by decide, Or.inl ⟨rfl, Or.inl (wl_t (tb_4 107 rfl) rfl)⟩⟩, List.forall_mem_cons.mpr ⟨⟨RR, TR, 45, rfl, by decide, Or.inl ⟨rfl, Or.inl (wl_t (tb_4 108 rfl) rfl)⟩⟩, List.forall_mem_cons.mpr ⟨⟨RR, TR, 45, rfl, by decide, Or.inl ⟨rfl, Or.inl (wl_t (tb_4 88 rfl) rfl)⟩⟩, List.forall_mem_cons.mpr ⟨⟨RR, TR, 45, rfl, by decide, Or.inl ⟨rfl, Or.inl (wl_t (tb_4 85 rfl) rfl)⟩⟩, List.forall_mem_cons.mpr ⟨⟨RR, TR, 45, rfl, by decide, Or.inl ⟨rfl, Or.inl (wl_t (tb_4 100 rfl) rfl)⟩⟩, List.forall_mem_cons.mpr ⟨⟨RR, TR, 45, rfl, by decide, Or.inl ⟨rfl, Or.inl (wl_t (tb_4 90 rfl) rfl)⟩⟩, List.forall_mem_cons.mpr ⟨⟨RR, TR, 45, rfl, by decide, Or.inl ⟨rfl, Or.inl (wl_t (tb_4 91 rfl) rfl)⟩⟩, List.forall_mem_cons.mpr ⟨⟨RR, TR, 45, rfl, by decide, Or.inl ⟨rfl, Or.inl (wl_t (tb_4 109 rfl) rfl)⟩⟩, fun _ h => absurd h List.not_mem_nil⟩⟩⟩⟩⟩⟩⟩⟩⟩⟩⟩⟩
def klR : List (Nat × Int64) := [(222, 10)]
theorem klR_ok : ∀ q ∈ klR, Cond.constantLong RR q.1 q.2 ∈ WL0 := List.forall_mem_cons.mpr ⟨(wl_t (tb_5 72 rfl) rfl), fun _ h => absurd h List.not_mem_nil⟩
def calJa (g : mc_G) (d : Nat) : List (Nat × Nat × Nat × Nat × mc_PT) := []
theorem calJa_ok (g : mc_G) (d : Nat) : ∀ q ∈ calJa g d, mc_CO g.2.2.2.2 g.1 g.2.1 cl0 g.2.2.1 g.2.2.2.1 true tab0 WL0 NW0 (d + 1) RJa q.1 q.2.1 q.2.2.1 q.2.2.2.1 q.2.2.2.2 := fun _ h => absurd h List.not_mem_nil
def fgJa : List (Nat × Nat × Nat) := []
def fpJa : List (Nat × Nat × Nat) := []
theorem fgJa_ok : ∀ q ∈ fgJa, mc_fgP cl0 WL0 NW0 RJa q := fun _ h => absurd h List.not_mem_nil
theorem fpJa_ok (nm : String) : ∀ q ∈ fpJa, mc_fpP cl0 WL0 NW0 RJa nm q := fun _ h => absurd h List.not_mem_nil
def klJa : List (Nat × Int64) := []
theorem klJa_ok : ∀ q ∈ klJa, Cond.constantLong RJa q.1 q.2 ∈ WL0 := fun _ h => absurd h List.not_mem_nil
def calA (g : mc_G) (d : Nat) : List (Nat × Nat × Nat × Nat × mc_PT) := [(70, 0, 4, 0, mc_vc true tab0 1 (ctN_canBe g d)), (85, 0, 4, 0, mc_vc true tab0 1 (ctN_sizeWith g d)), (94, 0, 4, 0, mc_vc true tab0 1 (ctN_add g d)), (97, 1, 1, 0, ctA_isBlock g d), (101, 1, 1, 0, ctA_isVariable g d), (104, 0, 2, 0, mc_vc true tab0 1 (ctN_has g d)), (114, 0, 4, 0, mc_vc true tab0 2 (ctF_append g d)), (117, 0, 5, 0, mc_vc true tab0 0 (ctA_canJump g d)), (123, 0, 4, 0, mc_vc true tab0 2 (ctF_setJump g d)), (127, 0, 4, 0, mc_vc true tab0 2 (ctF_setTargets g d)), (132, 0, 3, 0, mc_vc true tab0 2 (ctF_makeEmpty g d)), (137, 1, 1, 0, ctA_isStepLimit g d), (145, 0, 5, 0, mc_vc true tab0 4 (ctM_travel g d)), (165, 1, 1, 0, ctA_isVariableSet g d), (170, 0, 4, 0, mc_vc true tab0 3 (ctY_findStatics g d)), (174, 0, 3, 0, mc_vc true tab0 3 (ctY_findLives g d)), (184, 0, 6, 0, mc_vc true tab0 5 (ctX_work g d)), (192, 0, 2, 0, mc_vc true tab0 6 (ctC_work g d)), (214, 0, 3, 0, mc_vc true tab0 7 (ctT_refresh g d))]
theorem calA_ok (g : mc_G) (d : Nat) : ∀ q ∈ calA g d, mc_CO g.2.2.2.2 g.1 g.2.1 cl0 g.2.2.1 g.2.2.2.1 true tab0 WL0 NW0 (d + 1) RA q.1 q.2.1 q.2.2.1 q.2.2.2.1 q.2.2.2.2 := List.forall_mem_cons.mpr ⟨co_VN (a := 3) (y := yN_canBe) (ci := 1) (T := TN) (N := 7) nw_ok wl_ok (wl_t (tb_2 89 rfl) rfl) (nw_t (tb_2 86 rfl) rfl) (wl_t (tb_1 2 rfl) rfl) (wl_t (tb_2 88 rfl) rfl) (wl_s1 4 rfl) ⟨by decide +kernel, by decide +kernel, by decide +kernel⟩ ⟨Nat.le_refl _, by decide⟩ rfl, List.forall_mem_cons.mpr ⟨co_VN (a := 3) (y := yN_sizeWith) (ci := 1) (T := TN) (N := 7) nw_ok wl_ok (wl_t (tb_2 168 rfl) rfl) (nw_t (tb_2 165 rfl) rfl) (wl_t (tb_1 2 rfl) rfl) (wl_t (tb_2 167 rfl) rfl) (wl_s1 7 rfl) ⟨by decide +kernel, by decide +kernel, by decide +kernel⟩ ⟨Nat.le_refl _, by decide⟩ rfl, List.forall_mem_cons.mpr ⟨co_VN (a := 3) (y := yN_add) (ci := 1) (T := TN) (N := 7) nw_ok wl_ok (wl_t (tb_2 188 rfl) rfl) (nw_t (tb_2 185 rfl) rfl) (wl_t (tb_1 2 rfl) rfl) (wl_t (tb_2 187 rfl) rfl) (wl_s1 8 rfl) ⟨by decide +kernel, by decide +kernel, by decide +kernel⟩ ⟨Nat.le_refl _, by decide⟩ rfl, List.forall_mem_cons.mpr ⟨co_S (a := 1) (y := yA_isBlock) nw_ok wl_ok (wl_t (tb_2 206 rfl) rfl) (wl_t (tb_2 204 rfl) rfl) (wl_t (tb_1 1 rfl) rfl) (wl_t (tb_2 205 rfl) rfl) ⟨by decide +kernel, by decide +kernel, by decide +kernel⟩ ⟨Nat.le_refl _, by decide⟩, List.forall_mem_cons.mpr ⟨co_S (a := 1) (y := yA_isVariable) nw_ok wl_ok (wl_t (tb_2 92 rfl) rfl) (wl_t (tb_2 207 rfl) rfl) (wl_t (tb_1 1 rfl) rfl) (wl_t (tb_2 91 rfl) rfl) ⟨by decide +kernel, by decide +kernel, by decide +kernel⟩ ⟨Nat.le_refl _, by decide⟩, List.forall_mem_cons.mpr ⟨co_VN (a := 1) (y := yN_has) (ci := 1) (T := TN) (N := 7) nw_ok wl_ok (wl_t (tb_2 96 rfl) rfl) (nw_t (tb_2 208 rfl) rfl) (wl_t (tb_1 2 rfl) rfl) (wl_t (tb_2 95 rfl) rfl) (wl_s1 5 rfl) ⟨by decide +kernel, by decide +kernel, by decide +kernel⟩ ⟨Nat.le_refl _, by decide⟩ rfl, List.forall_mem_cons.mpr ⟨co_VN (a := 3) (y := yF_append) (ci := 2) (T := TF) (N := 14) nw_ok wl_ok (wl_t (tb_2 214 rfl) rfl) (nw_t (tb_2 211 rfl) rfl) (wl_t (tb_1 3 rfl) rfl) (wl_t (tb_2 213 rfl) rfl) (wl_s1 10 rfl) ⟨by decide +kernel, by decide +kernel, by decide +kernel⟩ ⟨Nat.le_refl _, by decide⟩ rfl, List.forall_mem_cons.mpr ⟨co_V (a := 4) (y := yA_canJump) (ci := 0) (T := TA) (N := 10) nw_ok wl_ok (wl_t (tb_2 225 rfl) rfl) (wl_t (tb_2 222 rfl) rfl) (wl_t (tb_1 1 rfl) rfl) (wl_t (tb_2 224 rfl) rfl) (wl_s1 11 rfl) ⟨by decide +kernel, by decide +kernel, by decide +kernel⟩ ⟨Nat.le_refl _, by decide⟩ rfl, List.forall_mem_cons.mpr ⟨co_VN (a := 3) (y := yF_setJump) (ci := 2) (T := TF) (N := 14) nw_ok wl_ok (wl_t (tb_1 81 rfl) rfl) (nw_t (tb_2 227 rfl) rfl) (wl_t (tb_1 3 rfl) rfl) (wl_t (tb_1 80 rfl) rfl) (wl_s1 1 rfl) ⟨by decide +kernel, by decide +kernel, by decide +kernel⟩ ⟨Nat.le_refl _, by decide⟩ rfl, List.forall_mem_cons.mpr ⟨co_VN (a := 3) (y := yF_setTargets) (ci := 2) (T := TF) (N := 14) nw_ok wl_ok (wl_t (tb_1 89 rfl) rfl) (nw_t (tb_2 228 rfl) rfl) (wl_t (tb_1 3 rfl) rfl) (wl_t (tb_1 88 rfl) rfl) (wl_s1 3 rfl) ⟨by decide +kernel, by decide +kernel, by decide +kernel⟩ ⟨Nat.le_refl _, by decide⟩ rfl, List.forall_mem_cons.mpr ⟨co_VN (a := 2) (y := yF_makeEmpty) (ci := 2) (T := TF) (N := 14) nw_ok wl_ok (wl_t (tb_1 77 rfl) rfl) (nw_t (tb_2 237 rfl) rfl) (wl_t (tb_1 3 rfl) rfl) (wl_t (tb_1 76 rfl) rfl) (wl_s1 0 rfl) ⟨by decide +kernel, by decide +kernel, by decide +kernel⟩ ⟨Nat.le_refl _, by decide⟩ rfl, List.forall_mem_cons.mpr ⟨co_S (a := 1) (y := yA_isStepLimit) nw_ok wl_ok (wl_t (tb_3 16 rfl) rfl) (wl_t (tb_3 14 rfl) rfl) (wl_t (tb_1 1 rfl) rfl) (wl_t (tb_3 15 rfl) rfl) ⟨by decide +kernel, by decide +kernel, by decide +kernel⟩ ⟨Nat.le_refl _, by decide⟩, List.forall_mem_cons.mpr ⟨co_VN (a := 4) (y := yM_travel) (ci := 4) (T := TM) (N := 4) nw_ok wl_ok (wl_t (tb_3 36 rfl) rfl) (nw_t (tb_3 33 rfl) rfl) (wl_t (tb_1 5 rfl) rfl) (wl_t (tb_3 35 rfl) rfl) (wl_s1 12 rfl) ⟨by decide +kernel, by decide +kernel, by decide +kernel⟩ ⟨Nat.le_refl _, by decide⟩ rfl, List.forall_mem_cons.mpr ⟨co_S (a := 1) (y := yA_isVariableSet) nw_ok wl_ok (wl_t (tb_3 86 rfl) rfl) (wl_t (tb_3 84 rfl) rfl) (wl_t (tb_1 1 rfl) rfl) (wl_t (tb_3 85 rfl) rfl) ⟨by decide +kernel, by decide +kernel, by decide +kernel⟩ ⟨Nat.le_refl _, by decide⟩, List.forall_mem_cons.mpr ⟨co_VN (a := 3) (y := yY_findStatics) (ci := 3) (T := TY) (N := 1) nw_ok wl_ok (wl_t (tb_3 91 rfl) rfl) (nw_t (tb_3 88 rfl) rfl) (wl_t (tb_1 4 rfl) rfl) (wl_t (tb_3 90 rfl) rfl) (wl_s2 1 rfl) ⟨by decide +kernel, by decide +kernel, by decide +kernel⟩ ⟨Nat.le_refl _, by decide⟩ rfl, List.forall_mem_cons.mpr ⟨co_VN (a := 2) (y := yY_findLives) (ci := 3) (T := TY) (N := 1) nw_ok wl_ok (wl_t (tb_3 105 rfl) rfl) (nw_t (tb_3 102 rfl) rfl) (wl_t (tb_1 4 rfl) rfl) (wl_t (tb_3 104 rfl) rfl) (wl_s2 2 rfl) ⟨by decide +kernel, by decide +kernel, by decide +kernel⟩ ⟨Nat.le_refl _, by decide⟩ rfl, List.forall_mem_cons.mpr ⟨co_VN (a := 5) (y := yX_work) (ci := 5) (T := TX) (N := 7) nw_ok wl_ok (wl_t (tb_3 128 rfl) rfl) (nw_t (tb_3 125 rfl) rfl) (wl_t (tb_1 6 rfl) rfl) (wl_t (tb_3 127 rfl) rfl) (wl_s2 5 rfl) ⟨by decide +kernel, by decide +kernel, by decide +kernel⟩ ⟨Nat.le_refl _, by decide⟩ rfl, List.forall_mem_cons.mpr ⟨co_VN (a := 1) (y := yC_work) (ci := 6) (T := TC) (N := 3) nw_ok wl_ok (wl_t (tb_3 167 rfl) rfl) (nw_t (tb_3 164 rfl) rfl) (wl_t (tb_1 7 rfl) rfl) (wl_t (tb_3 166 rfl) rfl) (wl_s2 11 rfl) ⟨by decide +kernel, by decide +kernel, by decide +kernel⟩ ⟨Nat.le_refl _, by decide⟩ rfl, List.forall_mem_cons.mpr ⟨co_VN (a := 2) (y := yT_refresh) (ci := 7) (T := TT) (N := 4) nw_ok wl_ok (wl_t (tb_3 213 rfl) rfl) (nw_t (tb_3 210 rfl) rfl) (wl_t (tb_1 8 rfl) rfl) (wl_t (tb_3 212 rfl) rfl) (wl_s3 2 rfl) ⟨by decide +kernel, by decide +kernel, by decide +kernel⟩ ⟨Nat.le_refl _, by decide⟩ rfl, fun _ h => absurd h List.not_mem_nil⟩⟩⟩⟩⟩⟩⟩⟩⟩⟩⟩⟩⟩⟩⟩⟩⟩⟩⟩
def calN (g : mc_G) (d : Nat) : List (Nat × Nat × Nat × Nat × mc_PT) := [(31, 1, 1, 0, ctA_isVariable g d), (35, 0, 2, 0, mc_vc true tab0 1 (ctN_has g d)), (38, 0, 4, 0, mc_vc true tab0 1 (ctN_sizeWith g d)), (42, 0, 4, 0, mc_vc true tab0 1 (ctN_variablesWith g d)), (48, 1, 2, 0, mc_fmax), (54, 0, 4, 0, mc_vc true tab0 1 (ctN_valueOf g d)), (58, 1, 3, 0, ctN_combine g d)]
theorem calN_ok (g : mc_G) (d : Nat) : ∀ q ∈ calN g d, mc_CO g.2.2.2.2 g.1 g.2.1 cl0 g.2.2.1 g.2.2.2.1 true tab0 WL0 NW0 (d + 1) RN q.1 q.2.1 q.2.2.1 q.2.2.2.1 q.2.2.2.2 := List.forall_mem_cons.mpr ⟨co_SN (a := 1) (y := yA_isVariable) nw_ok wl_ok (wl_t (tb_2 92 rfl) rfl) (nw_t (tb_2 90 rfl) rfl) (wl_t (tb_1 1 rfl) rfl) (wl_t (tb_2 91 rfl) rfl) ⟨by decide +kernel, by decide +kernel, by decide +kernel⟩ ⟨Nat.le_refl _, by decide⟩, List.forall_mem_cons.mpr ⟨co_V (a := 1) (y := yN_has) (ci := 1) (T := TN) (N := 7) nw_ok wl_ok (wl_t (tb_2 96 rfl) rfl) (wl_t (tb_2 93 rfl) rfl) (wl_t (tb_1 2 rfl) rfl) (wl_t (tb_2 95 rfl) rfl) (wl_s1 5 rfl) ⟨by decide +kernel, by decide +kernel, by decide +kernel⟩ ⟨Nat.le_refl _, by decide⟩ rfl, List.forall_mem_cons.mpr ⟨co_V (a := 3) (y := yN_sizeWith) (ci := 1) (T := TN) (N := 7) nw_ok wl_ok (wl_t (tb_2 168 rfl) rfl) (wl_t (tb_2 189 rfl) rfl) (wl_t (tb_1 2 rfl) rfl) (wl_t (tb_2 167 rfl) rfl) (wl_s1 7 rfl) ⟨by decide +kernel, by decide +kernel, by decide +kernel⟩ ⟨Nat.le_refl _, by decide⟩ rfl, List.forall_mem_cons.mpr ⟨co_V (a := 3) (y := yN_variablesWith) (ci := 1) (T := TN) (N := 7) nw_ok wl_ok (wl_t (tb_2 193 rfl) rfl) (wl_t (tb_2 190 rfl) rfl) (wl_t (tb_1 2 rfl) rfl) (wl_t (tb_2 192 rfl) rfl) (wl_s1 9 rfl) ⟨by decide +kernel, by decide +kernel, by decide +kernel⟩ ⟨Nat.le_refl _, by decide⟩ rfl, List.forall_mem_cons.mpr ⟨co_max (wl_t (tb_2 194 rfl) rfl) (wl_t (tb_2 195 rfl) rfl) (wl_t (tb_1 15 rfl) rfl) (wl_t (tb_2 196 rfl) rfl) (Nat.le_add_left _ _), List.forall_mem_cons.mpr ⟨co_V (a := 3) (y := yN_valueOf) (ci := 1) (T := TN) (N := 7) nw_ok wl_ok (wl_t (tb_3 51 rfl) rfl) (wl_t (tb_3 52 rfl) rfl) (wl_t (tb_1 2 rfl) rfl) (wl_t (tb_3 50 rfl) rfl) (wl_s1 15 rfl) ⟨by decide +kernel, by decide +kernel, by decide +kernel⟩ ⟨Nat.le_refl _, by decide⟩ rfl, List.forall_mem_cons.mpr ⟨co_S (a := 3) (y := yN_combine) nw_ok wl_ok (wl_t (tb_3 55 rfl) rfl) (wl_t (tb_3 53 rfl) rfl) (wl_t (tb_1 2 rfl) rfl) (wl_t (tb_3 54 rfl) rfl) ⟨by decide +kernel, by decide +kernel, by decide +kernel⟩ ⟨Nat.le_refl _, by decide⟩, fun _ h => absurd h List.not_mem_nil⟩⟩⟩⟩⟩⟩⟩
def calF (g : mc_G) (d : Nat) : List (Nat × Nat × Nat × Nat × mc_PT) := [(52, 0, 3, 0, mc_vc true tab0 2 (ctF_makeEmpty g d)), (56, 0, 4, 0, mc_vc true tab0 2 (ctF_setJump g d)), (60, 0, 4, 0, mc_vc true tab0 2 (ctF_setTargets g d)), (63, 0, 2, 0, mc_vc true tab0 2 (ctF_jumpStep g d)), (67, 1, 5, 0, mc_fcopy tab0)]
theorem calF_ok (g : mc_G) (d : Nat) : ∀ q ∈ calF g d, mc_CO g.2.2.2.2 g.1 g.2.1 cl0 g.2.2.1 g.2.2.2.1 true tab0 WL0 NW0 (d + 1) RF q.1 q.2.1 q.2.2.1 q.2.2.2.1 q.2.2.2.2 := List.forall_mem_cons.mpr ⟨co_V (a := 2) (y := yF_makeEmpty) (ci := 2) (T := TF) (N := 14) nw_ok wl_ok (wl_t (tb_1 77 rfl) rfl) (wl_t (tb_1 74 rfl) rfl) (wl_t (tb_1 3 rfl) rfl) (wl_t (tb_1 76 rfl) rfl) (wl_s1 0 rfl) ⟨by decide +kernel, by decide +kernel, by decide +kernel⟩ ⟨Nat.le_refl _, by decide⟩ rfl, List.forall_mem_cons.mpr ⟨co_V (a := 3) (y := yF_setJump) (ci := 2) (T := TF) (N := 14) nw_ok wl_ok (wl_t (tb_1 81 rfl) rfl) (wl_t (tb_1 78 rfl) rfl) (wl_t (tb_1 3 rfl) rfl) (wl_t (tb_1 80 rfl) rfl) (wl_s1 1 rfl) ⟨by decide +kernel, by decide +kernel, by decide +kernel⟩ ⟨Nat.le_refl _, by decide⟩ rfl, List.forall_mem_cons.mpr ⟨co_V (a := 3) (y := yF_setTargets) (ci := 2) (T := TF) (N := 14) nw_ok wl_ok (wl_t (tb_1 89 rfl) rfl) (wl_t (tb_1 86 rfl) rfl) (wl_t (tb_1 3 rfl) rfl) (wl_t (tb_1 88 rfl) rfl) (wl_s1 3 rfl) ⟨by decide +kernel, by decide +kernel, by decide +kernel⟩ ⟨Nat.le_refl _, by decide⟩ rfl, List.forall_mem_cons.mpr ⟨co_V (a := 1) (y := yF_jumpStep) (ci := 2) (T := TF) (N := 14) nw_ok wl_ok (wl_t (tb_1 85 rfl) rfl) (wl_t (tb_1 82 rfl) rfl) (wl_t (tb_1 3 rfl) rfl) (wl_t (tb_1 84 rfl) rfl) (wl_s1 2 rfl) ⟨by decide +kernel, by decide +kernel, by decide +kernel⟩ ⟨Nat.le_refl _, by decide⟩ rfl, List.forall_mem_cons.mpr ⟨co_copy (wl_t (tb_3 149 rfl) rfl) (wl_t (tb_3 39 rfl) rfl) (wl_t (tb_3 38 rfl) rfl) (wl_t (tb_1 17 rfl) rfl) (Nat.le_add_left _ _), fun _ h => absurd h List.not_mem_nil⟩⟩⟩⟩⟩
def calY (g : mc_G) (d : Nat) : List (Nat × Nat × Nat × Nat × mc_PT) := [(21, 1, 4, 0, ctY_withDynamicsOf g d), (43, 1, 2, 0, ctJa_fill g d), (49, 0, 4, 0, mc_vc true tab0 3 (ctY_livesOf g d)), (53, 0, 2, 0, mc_vc true tab0 2 (ctF_jumpStep g d)), (63, 0, 2, 0, mc_vc true tab0 3 (ctY_livesAt g d))]
theorem calY_ok (g : mc_G) (d : Nat) : ∀ q ∈ calY g d, mc_CO g.2.2.2.2 g.1 g.2.1 cl0 g.2.2.1 g.2.2.2.1 true tab0 WL0 NW0 (d + 1) RY q.1 q.2.1 q.2.2.1 q.2.2.2.1 q.2.2.2.2 := List.forall_mem_cons.mpr ⟨co_S (a := 4) (y := yY_withDynamicsOf) nw_ok wl_ok (wl_t (tb_3 94 rfl) rfl) (wl_t (tb_3 92 rfl) rfl) (wl_t (tb_1 4 rfl) rfl) (wl_t (tb_3 93 rfl) rfl) ⟨by decide +kernel, by decide +kernel, by decide +kernel⟩ ⟨Nat.le_refl _, by decide⟩, List.forall_mem_cons.mpr ⟨co_S (a := 2) (y := yJa_fill) nw_ok wl_ok (wl_t (tb_3 108 rfl) rfl) (wl_t (tb_3 106 rfl) rfl) (wl_t (tb_1 18 rfl) rfl) (wl_t (tb_3 107 rfl) rfl) ⟨by decide +kernel, by decide +kernel, by decide +kernel⟩ ⟨Nat.le_refl _, by decide⟩, List.forall_mem_cons.mpr ⟨co_V (a := 3) (y := yY_livesOf) (ci := 3) (T := TY) (N := 1) nw_ok wl_ok (wl_t (tb_3 112 rfl) rfl) (wl_t (tb_3 109 rfl) rfl) (wl_t (tb_1 4 rfl) rfl) (wl_t (tb_3 111 rfl) rfl) (wl_s2 3 rfl) ⟨by decide +kernel, by decide +kernel, by decide +kernel⟩ ⟨Nat.le_refl _, by decide⟩ rfl, List.forall_mem_cons.mpr ⟨co_VN (a := 1) (y := yF_jumpStep) (ci := 2) (T := TF) (N := 14) nw_ok wl_ok (wl_t (tb_1 85 rfl) rfl) (nw_t (tb_3 113 rfl) rfl) (wl_t (tb_1 3 rfl) rfl) (wl_t (tb_1 84 rfl) rfl) (wl_s1 2 rfl) ⟨by decide +kernel, by decide +kernel, by decide +kernel⟩ ⟨Nat.le_refl _, by decide⟩ rfl, List.forall_mem_cons.mpr ⟨co_V (a := 1) (y := yY_livesAt) (ci := 3) (T := TY) (N := 1) nw_ok wl_ok (wl_t (tb_3 117 rfl) rfl) (wl_t (tb_3 114 rfl) rfl) (wl_t (tb_1 4 rfl) rfl) (wl_t (tb_3 116 rfl) rfl) (wl_s2 4 rfl) ⟨by decide +kernel, by decide +kernel, by decide +kernel⟩ ⟨Nat.le_refl _, by decide⟩ rfl, fun _ h => absurd h List.not_mem_nil⟩⟩⟩⟩⟩
def calM (g : mc_G) (d : Nat) : List (Nat × Nat × Nat × Nat × mc_PT) := [(15, 1, 5, 0, mc_fcopy tab0), (31, 0, 4, 0, mc_vc true tab0 4 (ctM_doAssignments g d)), (35, 0, 3, 0, mc_vc true tab0 4 (ctM_doJump g d)), (47, 0, 3, 0, mc_vc true tab0 2 (ctF_thaw g d)), (57, 0, 4, 0, mc_vc true tab0 1 (ctN_valueOf g d)), (69, 0, 2, 0, mc_vc true tab0 2 (ctF_jumpStep g d))]
theorem calM_ok (g : mc_G) (d : Nat) : ∀ q ∈ calM g d, mc_CO g.2.2.2.2 g.1 g.2.1 cl0 g.2.2.1 g.2.2.2.1 true tab0 WL0 NW0 (d + 1) RM q.1 q.2.1 q.2.2.1 q.2.2.2.1 q.2.2.2.2 := List.forall_mem_cons.mpr ⟨co_copy (wl_t (tb_3 37 rfl) rfl) (wl_t (tb_3 39 rfl) rfl) (wl_t (tb_3 38 rfl) rfl) (wl_t (tb_1 17 rfl) rfl) (Nat.le_add_left _ _), List.forall_mem_cons.mpr ⟨co_V (a := 3) (y := yM_doAssignments) (ci := 4) (T := TM) (N := 4) nw_ok wl_ok (wl_t (tb_3 43 rfl) rfl) (wl_t (tb_3 40 rfl) rfl) (wl_t (tb_1 5 rfl) rfl) (wl_t (tb_3 42 rfl) rfl) (wl_s1 13 rfl) ⟨by decide +kernel, by decide +kernel, by decide +kernel⟩ ⟨Nat.le_refl _, by decide⟩ rfl, List.forall_mem_cons.mpr ⟨co_V (a := 2) (y := yM_doJump) (ci := 4) (T := TM) (N := 4) nw_ok wl_ok (wl_t (tb_3 59 rfl) rfl) (wl_t (tb_3 56 rfl) rfl) (wl_t (tb_1 5 rfl) rfl) (wl_t (tb_3 58 rfl) rfl) (wl_s2 0 rfl) ⟨by decide +kernel, by decide +kernel, by decide +kernel⟩ ⟨Nat.le_refl _, by decide⟩ rfl, List.forall_mem_cons.mpr ⟨co_VN (a := 2) (y := yF_thaw) (ci := 2) (T := TF) (N := 14) nw_ok wl_ok (wl_t (tb_3 47 rfl) rfl) (nw_t (tb_3 44 rfl) rfl) (wl_t (tb_1 3 rfl) rfl) (wl_t (tb_3 46 rfl) rfl) (wl_s1 14 rfl) ⟨by decide +kernel, by decide +kernel, by decide +kernel⟩ ⟨Nat.le_refl _, by decide⟩ rfl, List.forall_mem_cons.mpr ⟨co_VN (a := 3) (y := yN_valueOf) (ci := 1) (T := TN) (N := 7) nw_ok wl_ok (wl_t (tb_3 51 rfl) rfl) (nw_t (tb_3 48 rfl) rfl) (wl_t (tb_1 2 rfl) rfl) (wl_t (tb_3 50 rfl) rfl) (wl_s1 15 rfl) ⟨by decide +kernel, by decide +kernel, by decide +kernel⟩ ⟨Nat.le_refl _, by decide⟩ rfl, List.forall_mem_cons.mpr ⟨co_VN (a := 1) (y := yF_jumpStep) (ci := 2) (T := TF) (N := 14) nw_ok wl_ok (wl_t (tb_1 85 rfl) rfl) (nw_t (tb_3 60 rfl) rfl) (wl_t (tb_1 3 rfl) rfl) (wl_t (tb_1 84 rfl) rfl) (wl_s1 2 rfl) ⟨by decide +kernel, by decide +kernel, by decide +kernel⟩ ⟨Nat.le_refl _, by decide⟩ rfl, fun _ h => absurd h List.not_mem_nil⟩⟩⟩⟩⟩⟩
def calX (g : mc_G) (d : Nat) : List (Nat × Nat × Nat × Nat × mc_PT) := [(33, 1, 5, 0, mc_fcopy tab0), (46, 0, 2, 0, mc_vc true tab0 5 (ctX_comeTo g d)), (50, 0, 3, 0, mc_vc true tab0 2 (ctF_makeEmpty g d)), (54, 0, 5, 0, mc_vc true tab0 5 (ctX_mixAssignments g d)), (58, 0, 5, 0, mc_vc true tab0 5 (ctX_mixJump g d)), (76, 0, 4, 0, mc_vc true tab0 1 (ctN_valueOf g d)), (82, 0, 4, 0, mc_vc true tab0 2 (ctF_append g d)), (86, 0, 3, 0, mc_vc true tab0 2 (ctF_freeze g d)), (99, 0, 2, 0, mc_vc true tab0 2 (ctF_jumpStep g d)), (103, 0, 4, 0, mc_vc true tab0 2 (ctF_setJump g d)), (113, 0, 4, 0, mc_vc true tab0 2 (ctF_setTargets g d)), (116, 0, 3, 0, mc_vc true tab0 5 (ctX_isWanted g d))]
theorem calX_ok (g : mc_G) (d : Nat) : ∀ q ∈ calX g d, mc_CO g.2.2.2.2 g.1 g.2.1 cl0 g.2.2.1 g.2.2.2.1 true tab0 WL0 NW0 (d + 1) RX q.1 q.2.1 q.2.2.1 q.2.2.2.1 q.2.2.2.2 := List.forall_mem_cons.mpr ⟨co_copy (wl_t (tb_3 129 rfl) rfl) (wl_t (tb_3 39 rfl) rfl) (wl_t (tb_3 38 rfl) rfl) (wl_t (tb_1 17 rfl) rfl) (Nat.le_add_left _ _), List.forall_mem_cons.mpr ⟨co_V (a := 1) (y := yX_comeTo) (ci := 5) (T := TX) (N := 7) nw_ok wl_ok (wl_t (tb_3 133 rfl) rfl) (wl_t (tb_3 130 rfl) rfl) (wl_t (tb_1 6 rfl) rfl) (wl_t (tb_3 132 rfl) rfl) (wl_s2 6 rfl) ⟨by decide +kernel, by decide +kernel, by decide +kernel⟩ ⟨Nat.le_refl _, by decide⟩ rfl, List.forall_mem_cons.mpr ⟨co_VN (a := 2) (y := yF_makeEmpty) (ci := 2) (T := TF) (N := 14) nw_ok wl_ok (wl_t (tb_1 77 rfl) rfl) (nw_t (tb_3 138 rfl) rfl) (wl_t (tb_1 3 rfl) rfl) (wl_t (tb_1 76 rfl) rfl) (wl_s1 0 rfl) ⟨by decide +kernel, by decide +kernel, by decide +kernel⟩ ⟨Nat.le_refl _, by decide⟩ rfl, List.forall_mem_cons.mpr ⟨co_V (a := 4) (y := yX_mixAssignments) (ci := 5) (T := TX) (N := 7) nw_ok wl_ok (wl_t (tb_3 142 rfl) rfl) (wl_t (tb_3 139 rfl) rfl) (wl_t (tb_1 6 rfl) rfl) (wl_t (tb_3 141 rfl) rfl) (wl_s2 8 rfl) ⟨by decide +kernel, by decide +kernel, by decide +kernel⟩ ⟨Nat.le_refl _, by decide⟩ rfl, List.forall_mem_cons.mpr ⟨co_V (a := 4) (y := yX_mixJump) (ci := 5) (T := TX) (N := 7) nw_ok wl_ok (wl_t (tb_3 153 rfl) rfl) (wl_t (tb_3 150 rfl) rfl) (wl_t (tb_1 6 rfl) rfl) (wl_t (tb_3 152 rfl) rfl) (wl_s2 10 rfl) ⟨by decide +kernel, by decide +kernel, by decide +kernel⟩ ⟨Nat.le_refl _, by decide⟩ rfl, List.forall_mem_cons.mpr ⟨co_VN (a := 3) (y := yN_valueOf) (ci := 1) (T := TN) (N := 7) nw_ok wl_ok (wl_t (tb_3 51 rfl) rfl) (nw_t (tb_3 143 rfl) rfl) (wl_t (tb_1 2 rfl) rfl) (wl_t (tb_3 50 rfl) rfl) (wl_s1 15 rfl) ⟨by decide +kernel, by decide +kernel, by decide +kernel⟩ ⟨Nat.le_refl _, by decide⟩ rfl, List.forall_mem_cons.mpr ⟨co_VN (a := 3) (y := yF_append) (ci := 2) (T := TF) (N := 14) nw_ok wl_ok (wl_t (tb_2 214 rfl) rfl) (nw_t (tb_3 144 rfl) rfl) (wl_t (tb_1 3 rfl) rfl) (wl_t (tb_2 213 rfl) rfl) (wl_s1 10 rfl) ⟨by decide +kernel, by decide +kernel, by decide +kernel⟩ ⟨Nat.le_refl _, by decide⟩ rfl, List.forall_mem_cons.mpr ⟨co_VN (a := 2) (y := yF_freeze) (ci := 2) (T := TF) (N := 14) nw_ok wl_ok (wl_t (tb_3 148 rfl) rfl) (nw_t (tb_3 145 rfl) rfl) (wl_t (tb_1 3 rfl) rfl) (wl_t (tb_3 147 rfl) rfl) (wl_s2 9 rfl) ⟨by decide +kernel, by decide +kernel, by decide +kernel⟩ ⟨Nat.le_refl _, by decide⟩ rfl, List.forall_mem_cons.mpr ⟨co_VN (a := 1) (y := yF_jumpStep) (ci := 2) (T := TF) (N := 14) nw_ok wl_ok (wl_t (tb_1 85 rfl) rfl) (nw_t (tb_3 154 rfl) rfl) (wl_t (tb_1 3 rfl) rfl) (wl_t (tb_1 84 rfl) rfl) (wl_s1 2 rfl) ⟨by decide +kernel, by decide +kernel, by decide +kernel⟩ ⟨Nat.le_refl _, by decide⟩ rfl, List.forall_mem_cons.mpr ⟨co_VN (a := 3) (y := yF_setJump) (ci := 2) (T := TF) (N := 14) nw_ok wl_ok (wl_t (tb_1 81 rfl) rfl) (nw_t (tb_3 155 rfl) rfl) (wl_t (tb_1 3 rfl) rfl) (wl_t (tb_1 80 rfl) rfl) (wl_s1 1 rfl) ⟨by decide +kernel, by decide +kernel, by decide +kernel⟩ ⟨Nat.le_refl _, by decide⟩ rfl, List.forall_mem_cons.mpr ⟨co_VN (a := 3) (y := yF_setTargets) (ci := 2) (T := TF) (N := 14) nw_ok wl_ok (wl_t (tb_1 89 rfl) rfl) (nw_t (tb_3 156 rfl) rfl) (wl_t (tb_1 3 rfl) rfl) (wl_t (tb_1 88 rfl) rfl) (wl_s1 3 rfl) ⟨by decide +kernel, by decide +kernel, by decide +kernel⟩ ⟨Nat.le_refl _, by decide⟩ rfl, List.forall_mem_cons.mpr ⟨co_V (a := 2) (y := yX_isWanted) (ci := 5) (T := TX) (N := 7) nw_ok wl_ok (wl_t (tb_3 137 rfl) rfl) (wl_t (tb_3 134 rfl) rfl) (wl_t (tb_1 6 rfl) rfl) (wl_t (tb_3 136 rfl) rfl) (wl_s2 7 rfl) ⟨by decide +kernel, by decide +kernel, by decide +kernel⟩ ⟨Nat.le_refl _, by decide⟩ rfl, fun _ h => absurd h List.not_mem_nil⟩⟩⟩⟩⟩⟩⟩⟩⟩⟩⟩⟩
def calC (g : mc_G) (d : Nat) : List (Nat × Nat × Nat × Nat × mc_PT) := [(21, 1, 2, 0, ctJa_fill g d), (33, 0, 2, 0, mc_vc true tab0 6 (ctC_findArrivals g d)), (37, 0, 2, 0, mc_vc true tab0 6 (ctC_lowestToMove g d)), (41, 0, 3, 0, mc_vc true tab0 2 (ctF_join g d)), (45, 0, 2, 0, mc_vc true tab0 6 (ctC_numberAnew g d)), (60, 0, 2, 0, mc_vc true tab0 6 (ctC_numberOf g d)), (64, 0, 4, 0, mc_vc true tab0 2 (ctF_setTargets g d)), (68, 0, 3, 0, mc_vc true tab0 2 (ctF_renumber g d))]
theorem calC_ok (g : mc_G) (d : Nat) : ∀ q ∈ calC g d, mc_CO g.2.2.2.2 g.1 g.2.1 cl0 g.2.2.1 g.2.2.2.1 true tab0 WL0 NW0 (d + 1) RC q.1 q.2.1 q.2.2.1 q.2.2.2.1 q.2.2.2.2 := List.forall_mem_cons.mpr ⟨co_S (a := 2) (y := yJa_fill) nw_ok wl_ok (wl_t (tb_3 108 rfl) rfl) (wl_t (tb_3 168 rfl) rfl) (wl_t (tb_1 18 rfl) rfl) (wl_t (tb_3 107 rfl) rfl) ⟨by decide +kernel, by decide +kernel, by decide +kernel⟩ ⟨Nat.le_refl _, by decide⟩, List.forall_mem_cons.mpr ⟨co_V (a := 1) (y := yC_findArrivals) (ci := 6) (T := TC) (N := 3) nw_ok wl_ok (wl_t (tb_3 172 rfl) rfl) (wl_t (tb_3 169 rfl) rfl) (wl_t (tb_1 7 rfl) rfl) (wl_t (tb_3 171 rfl) rfl) (wl_s2 12 rfl) ⟨by decide +kernel, by decide +kernel, by decide +kernel⟩ ⟨Nat.le_refl _, by decide⟩ rfl, List.forall_mem_cons.mpr ⟨co_V (a := 1) (y := yC_lowestToMove) (ci := 6) (T := TC) (N := 3) nw_ok wl_ok (wl_t (tb_3 176 rfl) rfl) (wl_t (tb_3 173 rfl) rfl) (wl_t (tb_1 7 rfl) rfl) (wl_t (tb_3 175 rfl) rfl) (wl_s2 13 rfl) ⟨by decide +kernel, by decide +kernel, by decide +kernel⟩ ⟨Nat.le_refl _, by decide⟩ rfl, List.forall_mem_cons.mpr ⟨co_VN (a := 2) (y := yF_join) (ci := 2) (T := TF) (N := 14) nw_ok wl_ok (wl_t (tb_3 180 rfl) rfl) (nw_t (tb_3 177 rfl) rfl) (wl_t (tb_1 3 rfl) rfl) (wl_t (tb_3 179 rfl) rfl) (wl_s2 14 rfl) ⟨by decide +kernel, by decide +kernel, by decide +kernel⟩ ⟨Nat.le_refl _, by decide⟩ rfl, List.forall_mem_cons.mpr ⟨co_V (a := 1) (y := yC_numberAnew) (ci := 6) (T := TC) (N := 3) nw_ok wl_ok (wl_t (tb_3 184 rfl) rfl) (wl_t (tb_3 181 rfl) rfl) (wl_t (tb_1 7 rfl) rfl) (wl_t (tb_3 183 rfl) rfl) (wl_s2 15 rfl) ⟨by decide +kernel, by decide +kernel, by decide +kernel⟩ ⟨Nat.le_refl _, by decide⟩ rfl, List.forall_mem_cons.mpr ⟨co_V (a := 1) (y := yC_numberOf) (ci := 6) (T := TC) (N := 3) nw_ok wl_ok (wl_t (tb_3 188 rfl) rfl) (wl_t (tb_3 185 rfl) rfl) (wl_t (tb_1 7 rfl) rfl) (wl_t (tb_3 187 rfl) rfl) (wl_s3 0 rfl) ⟨by decide +kernel, by decide +kernel, by decide +kernel⟩ ⟨Nat.le_refl _, by decide⟩ rfl, List.forall_mem_cons.mpr ⟨co_VN (a := 3) (y := yF_setTargets) (ci := 2) (T := TF) (N := 14) nw_ok wl_ok (wl_t (tb_1 89 rfl) rfl) (nw_t (tb_3 189 rfl) rfl) (wl_t (tb_1 3 rfl) rfl) (wl_t (tb_1 88 rfl) rfl) (wl_s1 3 rfl) ⟨by decide +kernel, by decide +kernel, by decide +kernel⟩ ⟨Nat.le_refl _, by decide⟩ rfl, List.forall_mem_cons.mpr ⟨co_VN (a := 2) (y := yF_renumber) (ci := 2) (T := TF) (N := 14) nw_ok wl_ok (wl_t (tb_3 193 rfl) rfl) (nw_t (tb_3 190 rfl) rfl) (wl_t (tb_1 3 rfl) rfl) (wl_t (tb_3 192 rfl) rfl) (wl_s3 1 rfl) ⟨by decide +kernel, by decide +kernel, by decide +kernel⟩ ⟨Nat.le_refl _, by decide⟩ rfl, fun _ h => absurd h List.not_mem_nil⟩⟩⟩⟩⟩⟩⟩⟩
def calT (g : mc_G) (d : Nat) : List (Nat × Nat × Nat × Nat × mc_PT) := [(32, 0, 2, 0, mc_vc true tab0 7 (ctT_putNumber g d)), (36, 0, 2, 0, mc_vc true tab0 7 (ctT_put g d)), (40, 0, 4, 0, mc_vc true tab0 7 (ctT_putAssignments g d)), (44, 0, 4, 0, mc_vc true tab0 7 (ctT_putJump g d)), (56, 0, 2, 0, mc_vc true tab0 7 (ctT_putLetter g d)), (59, 0, 4, 0, mc_vc true tab0 7 (ctT_putNodeOf g d)), (74, 0, 2, 0, mc_vc true tab0 2 (ctF_jumpStep g d)), (81, 0, 3, 0, mc_vc true tab0 2 (ctF_thaw g d)), (91, 0, 5, 0, mc_vc true tab0 7 (ctT_putPart g d)), (98, 0, 4, 0, mc_vc true tab0 1 (ctN_valueOf g d))]
theorem calT_ok (g : mc_G) (d : Nat) : ∀ q ∈ calT g d, mc_CO g.2.2.2.2 g.1 g.2.1 cl0 g.2.2.1 g.2.2.2.1 true tab0 WL0 NW0 (d + 1) RT q.1 q.2.1 q.2.2.1 q.2.2.2.1 q.2.2.2.2 := List.forall_mem_cons.mpr ⟨co_V (a := 1) (y := yT_putNumber) (ci := 7) (T := TT) (N := 4) nw_ok wl_ok (wl_t (tb_3 217 rfl) rfl) (wl_t (tb_3 214 rfl) rfl) (wl_t (tb_1 8 rfl) rfl) (wl_t (tb_3 216 rfl) rfl) (wl_s3 3 rfl) ⟨by decide +kernel, by decide +kernel, by decide +kernel⟩ ⟨Nat.le_refl _, by decide⟩ rfl, List.forall_mem_cons.mpr ⟨co_V (a := 1) (y := yT_put) (ci := 7) (T := TT) (N := 4) nw_ok wl_ok (wl_t (tb_3 221 rfl) rfl) (wl_t (tb_3 218 rfl) rfl) (wl_t (tb_1 8 rfl) rfl) (wl_t (tb_3 220 rfl) rfl) (wl_s3 4 rfl) ⟨by decide +kernel, by decide +kernel, by decide +kernel⟩ ⟨Nat.le_refl _, by decide⟩ rfl, List.forall_mem_cons.mpr ⟨co_V (a := 3) (y := yT_putAssignments) (ci := 7) (T := TT) (N := 4) nw_ok wl_ok (wl_t (tb_3 227 rfl) rfl) (wl_t (tb_3 224 rfl) rfl) (wl_t (tb_1 8 rfl) rfl) (wl_t (tb_3 226 rfl) rfl) (wl_s3 5 rfl) ⟨by decide +kernel, by decide +kernel, by decide +kernel⟩ ⟨Nat.le_refl _, by decide⟩ rfl, List.forall_mem_cons.mpr ⟨co_V (a := 3) (y := yT_putJump) (ci := 7) (T := TT) (N := 4) nw_ok wl_ok (wl_t (tb_4 46 rfl) rfl) (wl_t (tb_4 43 rfl) rfl) (wl_t (tb_1 8 rfl) rfl) (wl_t (tb_4 45 rfl) rfl) (wl_s3 9 rfl) ⟨by decide +kernel, by decide +kernel, by decide +kernel⟩ ⟨Nat.le_refl _, by decide⟩ rfl, List.forall_mem_cons.mpr ⟨co_V (a := 1) (y := yT_putLetter) (ci := 7) (T := TT) (N := 4) nw_ok wl_ok (wl_t (tb_3 231 rfl) rfl) (wl_t (tb_3 228 rfl) rfl) (wl_t (tb_1 8 rfl) rfl) (wl_t (tb_3 230 rfl) rfl) (wl_s3 6 rfl) ⟨by decide +kernel, by decide +kernel, by decide +kernel⟩ ⟨Nat.le_refl _, by decide⟩ rfl, List.forall_mem_cons.mpr ⟨co_V (a := 3) (y := yT_putNodeOf) (ci := 7) (T := TT) (N := 4) nw_ok wl_ok (wl_t (tb_3 235 rfl) rfl) (wl_t (tb_3 232 rfl) rfl) (wl_t (tb_1 8 rfl) rfl) (wl_t (tb_3 234 rfl) rfl) (wl_s3 7 rfl) ⟨by decide +kernel, by decide +kernel, by decide +kernel⟩ ⟨Nat.le_refl _, by decide⟩ rfl, List.forall_mem_cons.mpr ⟨co_VN (a := 1) (y := yF_jumpStep) (ci := 2) (T := TF) (N := 14) nw_ok wl_ok (wl_t (tb_1 85 rfl) rfl) (nw_t (tb_4 47 rfl) rfl) (wl_t (tb_1 3 rfl) rfl) (wl_t (tb_1 84 rfl) rfl) (wl_s1 2 rfl) ⟨by decide +kernel, by decide +kernel, by decide +kernel⟩ ⟨Nat.le_refl _, by decide⟩ rfl, List.forall_mem_cons.mpr ⟨co_VN (a := 2) (y := yF_thaw) (ci := 2) (T := TF) (N := 14) nw_ok wl_ok (wl_t (tb_3 47 rfl) rfl) (nw_t (tb_3 236 rfl) rfl) (wl_t (tb_1 3 rfl) rfl) (wl_t (tb_3 46 rfl) rfl) (wl_s1 14 rfl) ⟨by decide +kernel, by decide +kernel, by decide +kernel⟩ ⟨Nat.le_refl _, by decide⟩ rfl, List.forall_mem_cons.mpr ⟨co_V (a := 4) (y := yT_putPart) (ci := 7) (T := TT) (N := 4) nw_ok wl_ok (wl_t (tb_4 0 rfl) rfl) (wl_t (tb_3 237 rfl) rfl) (wl_t (tb_1 8 rfl) rfl) (wl_t (tb_3 239 rfl) rfl) (wl_s3 8 rfl) ⟨by decide +kernel, by decide +kernel, by decide +kernel⟩ ⟨Nat.le_refl _, by decide⟩ rfl, List.forall_mem_cons.mpr ⟨co_VN (a := 3) (y := yN_valueOf) (ci := 1) (T := TN) (N := 7) nw_ok wl_ok (wl_t (tb_3 51 rfl) rfl) (nw_t (tb_4 1 rfl) rfl) (wl_t (tb_1 2 rfl) rfl) (wl_t (tb_3 50 rfl) rfl) (wl_s1 15 rfl) ⟨by decide +kernel, by decide +kernel, by decide +kernel⟩ ⟨Nat.le_refl _, by decide⟩ rfl, fun _ h => absurd h List.not_mem_nil⟩⟩⟩⟩⟩⟩⟩⟩⟩⟩
def calR (g : mc_G) (d : Nat) : List (Nat × Nat × Nat × Nat × mc_PT) := [(110, 0, 2, 0, mc_vc true tab0 8 (ctR_plain g d)), (121, 1, 3, 0, ctR_within g d), (125, 1, 1, 0, ctR_isVariable g d), (129, 0, 2, 0, mc_vc true tab0 8 (ctR_isNode g d)), (132, 0, 3, 0, mc_vc true tab0 8 (ctR_goes g d)), (139, 1, 1, 0, ctR_isBlock g d), (151, 0, 1, 0, mc_vc true tab0 8 (ctR_begin g d)), (154, 0, 2, 0, mc_vc true tab0 8 (ctR_worth g d)), (158, 0, 2, 0, mc_vc true tab0 8 (ctR_dynamics g d)), (161, 1, 2, 0, ctR_setOf g d), (165, 0, 1, 0, mc_vc true tab0 8 (ctR_allLive g d)), (177, 0, 3, 0, mc_vc true tab0 8 (ctR_part g d)), (181, 0, 3, 0, mc_vc true tab0 8 (ctR_append g d)), (185, 0, 2, 0, mc_vc true tab0 8 (ctR_state g d)), (188, 0, 3, 0, mc_vc true tab0 8 (ctR_work g d)), (198, 0, 1, 0, mc_vc true tab0 8 (ctR_write g d)), (201, 0, 2, 0, mc_vc true tab0 8 (ctR_worthOf g d)), (204, 0, 2, 0, mc_vc true tab0 8 (ctR_jumpsTo g d)), (207, 0, 2, 0, mc_vc true tab0 8 (ctR_goesTo g d)), (210, 0, 3, 0, mc_vc true tab0 8 (ctR_join g d)), (213, 0, 3, 0, mc_vc true tab0 8 (ctR_copyBlock g d)), (219, 0, 2, 0, mc_vc true tab0 8 (ctR_put g d)), (224, 0, 2, 0, mc_vc true tab0 8 (ctR_number g d)), (227, 0, 2, 0, mc_vc true tab0 8 (ctR_spell g d))]
theorem calR_ok (g : mc_G) (d : Nat) : ∀ q ∈ calR g d, mc_CO g.2.2.2.2 g.1 g.2.1 cl0 g.2.2.1 g.2.2.2.1 true tab0 WL0 NW0 (d + 1) RR q.1 q.2.1 q.2.2.1 q.2.2.2.1 q.2.2.2.2 := List.forall_mem_cons.mpr ⟨co_V (a := 1) (y := yR_plain) (ci := 8) (T := TR) (N := 45) nw_ok wl_ok (wl_t (tb_4 66 rfl) rfl) (wl_t (tb_4 63 rfl) rfl) (wl_t (tb_1 9 rfl) rfl) (wl_t (tb_4 65 rfl) rfl) (wl_s3 10 rfl) ⟨by decide +kernel, by decide +kernel, by decide +kernel⟩ ⟨Nat.le_refl _, by decide⟩ rfl, List.forall_mem_cons.mpr ⟨co_S (a := 3) (y := yR_within) nw_ok wl_ok (wl_t (tb_4 214 rfl) rfl) (wl_t (tb_4 212 rfl) rfl) (wl_t (tb_1 9 rfl) rfl) (wl_t (tb_4 213 rfl) rfl) ⟨by decide +kernel, by decide +kernel, by decide +kernel⟩ ⟨Nat.le_refl _, by decide⟩, List.forall_mem_cons.mpr ⟨co_S (a := 1) (y := yR_isVariable) nw_ok wl_ok (wl_t (tb_4 217 rfl) rfl) (wl_t (tb_4 215 rfl) rfl) (wl_t (tb_1 9 rfl) rfl) (wl_t (tb_4 216 rfl) rfl) ⟨by decide +kernel, by decide +kernel, by decide +kernel⟩ ⟨Nat.le_refl _, by decide⟩, List.forall_mem_cons.mpr ⟨co_V (a := 1) (y := yR_isNode) (ci := 8) (T := TR) (N := 45) nw_ok wl_ok (wl_t (tb_4 221 rfl) rfl) (wl_t (tb_4 218 rfl) rfl) (wl_t (tb_1 9 rfl) rfl) (wl_t (tb_4 220 rfl) rfl) (wl_s3 11 rfl) ⟨by decide +kernel, by decide +kernel, by decide +kernel⟩ ⟨Nat.le_refl _, by decide⟩ rfl, List.forall_mem_cons.mpr ⟨co_V (a := 2) (y := yR_goes) (ci := 8) (T := TR) (N := 45) nw_ok wl_ok (wl_t (tb_4 225 rfl) rfl) (wl_t (tb_4 222 rfl) rfl) (wl_t (tb_1 9 rfl) rfl) (wl_t (tb_4 224 rfl) rfl) (wl_s3 12 rfl) ⟨by decide +kernel, by decide +kernel, by decide +kernel⟩ ⟨Nat.le_refl _, by decide⟩ rfl, List.forall_mem_cons.mpr ⟨co_S (a := 1) (y := yR_isBlock) nw_ok wl_ok (wl_t (tb_4 232 rfl) rfl) (wl_t (tb_4 230 rfl) rfl) (wl_t (tb_1 9 rfl) rfl) (wl_t (tb_4 231 rfl) rfl) ⟨by decide +kernel, by decide +kernel, by decide +kernel⟩ ⟨Nat.le_refl _, by decide⟩, List.forall_mem_cons.mpr ⟨co_V (a := 0) (y := yR_begin) (ci := 8) (T := TR) (N := 45) nw_ok wl_ok (wl_t (tb_5 12 rfl) rfl) (wl_t (tb_5 9 rfl) rfl) (wl_t (tb_1 9 rfl) rfl) (wl_t (tb_5 11 rfl) rfl) (wl_s3 13 rfl) ⟨by decide +kernel, by decide +kernel, by decide +kernel⟩ ⟨Nat.le_refl _, by decide⟩ rfl, List.forall_mem_cons.mpr ⟨co_V (a := 1) (y := yR_worth) (ci := 8) (T := TR) (N := 45) nw_ok wl_ok (wl_t (tb_5 16 rfl) rfl) (wl_t (tb_5 13 rfl) rfl) (wl_t (tb_1 9 rfl) rfl) (wl_t (tb_5 15 rfl) rfl) (wl_s3 14 rfl) ⟨by decide +kernel, by decide +kernel, by decide +kernel⟩ ⟨Nat.le_refl _, by decide⟩ rfl, List.forall_mem_cons.mpr ⟨co_V (a := 1) (y := yR_dynamics) (ci := 8) (T := TR) (N := 45) nw_ok wl_ok (wl_t (tb_5 28 rfl) rfl) (wl_t (tb_5 25 rfl) rfl) (wl_t (tb_1 9 rfl) rfl) (wl_t (tb_5 27 rfl) rfl) (wl_s3 15 rfl) ⟨by decide +kernel, by decide +kernel, by decide +kernel⟩ ⟨Nat.le_refl _, by decide⟩ rfl, List.forall_mem_cons.mpr ⟨co_S (a := 2) (y := yR_setOf) nw_ok wl_ok (wl_t (tb_5 39 rfl) rfl) (wl_t (tb_5 37 rfl) rfl) (wl_t (tb_1 9 rfl) rfl) (wl_t (tb_5 38 rfl) rfl) ⟨by decide +kernel, by decide +kernel, by decide +kernel⟩ ⟨Nat.le_refl _, by decide⟩, List.forall_mem_cons.mpr ⟨co_V (a := 0) (y := yR_allLive) (ci := 8) (T := TR) (N := 45) nw_ok wl_ok (wl_t (tb_5 36 rfl) rfl) (wl_t (tb_5 33 rfl) rfl) (wl_t (tb_1 9 rfl) rfl) (wl_t (tb_5 35 rfl) rfl) (wl_s4 0 rfl) ⟨by decide +kernel, by decide +kernel, by decide +kernel⟩ ⟨Nat.le_refl _, by decide⟩ rfl, List.forall_mem_cons.mpr ⟨co_V (a := 2) (y := yR_part) (ci := 8) (T := TR) (N := 45) nw_ok wl_ok (wl_t (tb_5 55 rfl) rfl) (wl_t (tb_5 52 rfl) rfl) (wl_t (tb_1 9 rfl) rfl) (wl_t (tb_5 54 rfl) rfl) (wl_s4 3 rfl) ⟨by decide +kernel, by decide +kernel, by decide +kernel⟩ ⟨Nat.le_refl _, by decide⟩ rfl, List.forall_mem_cons.mpr ⟨co_V (a := 2) (y := yR_append) (ci := 8) (T := TR) (N := 45) nw_ok wl_ok (wl_t (tb_5 59 rfl) rfl) (wl_t (tb_5 56 rfl) rfl) (wl_t (tb_1 9 rfl) rfl) (wl_t (tb_5 58 rfl) rfl) (wl_s4 4 rfl) ⟨by decide +kernel, by decide +kernel, by decide +kernel⟩ ⟨Nat.le_refl _, by decide⟩ rfl, List.forall_mem_cons.mpr ⟨co_V (a := 1) (y := yR_state) (ci := 8) (T := TR) (N := 45) nw_ok wl_ok (wl_t (tb_5 47 rfl) rfl) (wl_t (tb_5 44 rfl) rfl) (wl_t (tb_1 9 rfl) rfl) (wl_t (tb_5 46 rfl) rfl) (wl_s4 1 rfl) ⟨by decide +kernel, by decide +kernel, by decide +kernel⟩ ⟨Nat.le_refl _, by decide⟩ rfl, List.forall_mem_cons.mpr ⟨co_V (a := 2) (y := yR_work) (ci := 8) (T := TR) (N := 45) nw_ok wl_ok (wl_t (tb_5 51 rfl) rfl) (wl_t (tb_5 48 rfl) rfl) (wl_t (tb_1 9 rfl) rfl) (wl_t (tb_5 50 rfl) rfl) (wl_s4 2 rfl) ⟨by decide +kernel, by decide +kernel, by decide +kernel⟩ ⟨Nat.le_refl _, by decide⟩ rfl, List.forall_mem_cons.mpr ⟨co_V (a := 0) (y := yR_write) (ci := 8) (T := TR) (N := 45) nw_ok wl_ok (wl_t (tb_5 63 rfl) rfl) (wl_t (tb_5 60 rfl) rfl) (wl_t (tb_1 9 rfl) rfl) (wl_t (tb_5 62 rfl) rfl) (wl_s4 5 rfl) ⟨by decide +kernel, by decide +kernel, by decide +kernel⟩ ⟨Nat.le_refl _, by decide⟩ rfl, List.forall_mem_cons.mpr ⟨co_V (a := 1) (y := yR_worthOf) (ci := 8) (T := TR) (N := 45) nw_ok wl_ok (wl_t (tb_5 80 rfl) rfl) (wl_t (tb_5 77 rfl) rfl) (wl_t (tb_1 9 rfl) rfl) (wl_t (tb_5 79 rfl) rfl) (wl_s4 9 rfl) ⟨by decide +kernel, by decide +kernel, by decide +kernel⟩ ⟨Nat.le_refl _, by decide⟩ rfl, List.forall_mem_cons.mpr ⟨co_V (a := 1) (y := yR_jumpsTo) (ci := 8) (T := TR) (N := 45) nw_ok wl_ok (wl_t (tb_5 92 rfl) rfl) (wl_t (tb_5 89 rfl) rfl) (wl_t (tb_1 9 rfl) rfl) (wl_t (tb_5 91 rfl) rfl) (wl_s4 10 rfl) ⟨by decide +kernel, by decide +kernel, by decide +kernel⟩ ⟨Nat.le_refl _, by decide⟩ rfl, List.forall_mem_cons.mpr ⟨co_V (a := 1) (y := yR_goesTo) (ci := 8) (T := TR) (N := 45) nw_ok wl_ok (wl_t (tb_5 96 rfl) rfl) (wl_t (tb_5 93 rfl) rfl) (wl_t (tb_1 9 rfl) rfl) (wl_t (tb_5 95 rfl) rfl) (wl_s4 11 rfl) ⟨by decide +kernel, by decide +kernel, by decide +kernel⟩ ⟨Nat.le_refl _, by decide⟩ rfl, List.forall_mem_cons.mpr ⟨co_V (a := 2) (y := yR_join) (ci := 8) (T := TR) (N := 45) nw_ok wl_ok (wl_t (tb_5 100 rfl) rfl) (wl_t (tb_5 97 rfl) rfl) (wl_t (tb_1 9 rfl) rfl) (wl_t (tb_5 99 rfl) rfl) (wl_s4 12 rfl) ⟨by decide +kernel, by decide +kernel, by decide +kernel⟩ ⟨Nat.le_refl _, by decide⟩ rfl, List.forall_mem_cons.mpr ⟨co_V (a := 2) (y := yR_copyBlock) (ci := 8) (T := TR) (N := 45) nw_ok wl_ok (wl_t (tb_5 104 rfl) rfl) (wl_t (tb_5 101 rfl) rfl) (wl_t (tb_1 9 rfl) rfl) (wl_t (tb_5 103 rfl) rfl) (wl_s4 13 rfl) ⟨by decide +kernel, by decide +kernel, by decide +kernel⟩ ⟨Nat.le_refl _, by decide⟩ rfl, List.forall_mem_cons.mpr ⟨co_V (a := 1) (y := yR_put) (ci := 8) (T := TR) (N := 45) nw_ok wl_ok (wl_t (tb_5 71 rfl) rfl) (wl_t (tb_5 68 rfl) rfl) (wl_t (tb_1 9 rfl) rfl) (wl_t (tb_5 70 rfl) rfl) (wl_s4 7 rfl) ⟨by decide +kernel, by decide +kernel, by decide +kernel⟩ ⟨Nat.le_refl _, by decide⟩ rfl, List.forall_mem_cons.mpr ⟨co_V (a := 1) (y := yR_number) (ci := 8) (T := TR) (N := 45) nw_ok wl_ok (wl_t (tb_5 67 rfl) rfl) (wl_t (tb_5 64 rfl) rfl) (wl_t (tb_1 9 rfl) rfl) (wl_t (tb_5 66 rfl) rfl) (wl_s4 6 rfl) ⟨by decide +kernel, by decide +kernel, by decide +kernel⟩ ⟨Nat.le_refl _, by decide⟩ rfl, List.forall_mem_cons.mpr ⟨co_V (a := 1) (y := yR_spell) (ci := 8) (T := TR) (N := 45) nw_ok wl_ok (wl_t (tb_5 76 rfl) rfl) (wl_t (tb_5 73 rfl) rfl) (wl_t (tb_1 9 rfl) rfl) (wl_t (tb_5 75 rfl) rfl) (wl_s4 8 rfl) ⟨by decide +kernel, by decide +kernel, by decide +kernel⟩ ⟨Nat.le_refl _, by decide⟩ rfl, fun _ h => absurd h List.not_mem_nil⟩⟩⟩⟩⟩⟩⟩⟩⟩⟩⟩⟩⟩⟩⟩⟩⟩⟩⟩⟩⟩⟩⟩⟩
end
section
/-! The throws of FlowMixer: 0 NoSuchElementException, 1 IllegalStateException, 2 IllegalArgumentException (wip/whole/throws.py). -/
def exn0 (k : Nat) : String := match k with
  | 0 => "java/util/NoSuchElementException"
  | 1 => "java/lang/IllegalStateException"
  | _ => "java/lang/IllegalArgumentException"
def exc0 (k : Nat) : Nat := match k with
  | 0 => 78
  | 1 => 93
  | _ => 144
def exA : List (Nat × Nat) := [(74, 0), (89, 1), (140, 2)]
def strA : List Nat := [76, 91, 107, 112, 121, 130, 135, 142, 152, 163, 168, 195, 212, 220, 229]
def mx_good (w : Cond) : Bool := goodWord w || match w with
  | .declares _ => true
  | .laysStatic .. => true
  | _ => false
/-- what holds at the start -/
def mc_S0 (g : mc_G) : Prop := g.1.flags = flags0 ∧ g.2.2.2.2.heap.size ≤ g.2.2.1 ∧ ∃ args0 : Array Value, (∀ w ∈ tables_1, w.before args0 g.2.2.2.2 = true) ∧ (Cond.isRef (.static Bundle.tN "UNASSIGNED_STACK" Bundle.steD)).before args0 g.2.2.2.2 = true ∧ (Cond.isRef (.static Bundle.tN "SUPPRESSED_SENTINEL" Bundle.listD)).before args0 g.2.2.2.2 = true
theorem mx_ok {g : mc_G} (hg : mc_S0 g) {args : Array Value} {s : State} (hts : ∀ w ∈ WL0, w.before args s = true) (hO : mc_O g.2.2.2.2 g.2.2.1 s) {w : Cond} (h : w ∈ tables_1) (hw : mx_good w = true) : w.before args s = true := by
  obtain ⟨-, hsz, args0, h0, -, -⟩ := hg
  by_cases hgw : goodWord w = true
  · exact hts w (wl_t h hgw)
  · have hb := h0 w h
    have hal := hO.1.alike
    cases w with
    | declares x => exact va_Nw.use rfl (va_Nw.warmD hO.1 (va_Nw.of rfl hb))
    | laysStatic o n d =>
      obtain ⟨c, k, i, f, a, cell, hc, hi, hst, ha, hcell, hs, hcls, hlt, hty⟩ := Cond.laysStatic_spec hb
      obtain ⟨k', hi', hek⟩ := State.fieldFound?_setVm (s := g.2.2.2.2) (vm' := s.vm) hal hi
      have hi2 : s.fieldFound? o n d = some (c, k', i, f) := hi'
      refine Cond.laysStatic_of (by rw [hal.findClass]; exact hc) hi2 hst (by rw [hek]; exact ha) ?_ hs hcls hlt (by rw [hek]; exact hty)
      rw [hO.2.2 a (Nat.lt_of_lt_of_le (Array.getElem?_eq_some_iff.mp hcell).1 hsz)]
      exact hcell
    | _ => simp [mx_good, hgw] at hw
theorem mx_sref {g : mc_G} (hg : mc_S0 g) {args : Array Value} {s : State} (hO : mc_O g.2.2.2.2 g.2.2.1 s) {o n d : String} (hl : Cond.laysStatic o n d ∈ tables_1) (hini : Cond.initialized o ∈ tables_1) (h : ∃ args0 : Array Value, (∀ w ∈ tables_1, w.before args0 g.2.2.2.2 = true) ∧ (Cond.isRef (.static o n d)).before args0 g.2.2.2.2 = true) : (Cond.isRef (.static o n d)).before args s = true := by
  obtain ⟨args0, h0, h1⟩ := h
  have hal := hO.1.alike
  have hZ : va_Zq o n d (fun q => g.2.2.2.2.heap.size ≤ q) g.2.2.2.2 g.2.2.2.2.heap := va_Zqof (h0 _ hl) (h0 _ hini) h1 (fun a ha => Nat.not_le.mpr ha)
  have hZ2 : va_Zq o n d (fun q => g.2.2.2.2.heap.size ≤ q) s s.heap := (hZ.moved hal).kept (fun a ha _ => hO.2.2 a (Nat.lt_of_lt_of_le ha hg.2.1))
  rcases hZ2 with ⟨cf, kf, fi, f, a, cell, z1, z2, z3, z4, z5, z6, z7, z8⟩ | ⟨t, cf, kf, fi, f, a, cell, z1, z2, z3, z4, z5, z6, z7, z8⟩
  · simp [Cond.before, Cond.holds, Cond.value, Term.eval, State.fieldNamed?, z1, z2, z4, z5, z6, z7]
  · simp [Cond.before, Cond.holds, Cond.value, Term.eval, State.fieldNamed?, z1, z2, z4, z5, z6, z7]
theorem mx_str {g : mc_G} (hg : mc_S0 g) {s : State} (hO : mc_O g.2.2.2.2 g.2.2.1 s) {own tx : String} {k : Nat} (h : Cond.stringRef own k tx ∈ tables_1) : ∃ q, vk_R own k tx q s := by
  obtain ⟨-, -, args0, h0, -, -⟩ := hg
  have hb := h0 _ h
  obtain ⟨cur, hcur⟩ : ∃ cur, g.2.2.2.2.vm.findClass own = some cur := by
    have h1 := hb
    simp only [Cond.before, Cond.holds, Cond.value] at h1
    cases hc : g.2.2.2.2.vm.findClass own with
    | none => simp [hc] at h1
    | some cur => exact ⟨cur, rfl⟩
  obtain ⟨k1, cf, i, a, -, -, -, -, -, hev⟩ := Cond.stringRef_spec hcur hb
  exact ⟨a, vk_R.warm hO.1 (vk_R.of hb hev)⟩
theorem mx_at0 {g : mc_G} (hg : mc_S0 g) {args : Array Value} {s : State} (hts : ∀ w ∈ WL0, w.before args s = true) (hO : mc_O g.2.2.2.2 g.2.2.1 s) : ∀ a ∈ mx_atoms RA 78 (exn0 0) 13 prog_22_method_4_code, a.before args s = true :=
  List.forall_mem_cons.mpr ⟨mx_ok hg hts hO (tb_1 10 rfl) rfl, List.forall_mem_cons.mpr ⟨mx_ok hg hts hO (tb_2 119 rfl) rfl, List.forall_mem_cons.mpr ⟨mx_ok hg hts hO (tb_2 128 rfl) rfl, List.forall_mem_cons.mpr ⟨mx_ok hg hts hO (tb_2 132 rfl) rfl, List.forall_mem_cons.mpr ⟨mx_ok hg hts hO (tb_2 135 rfl) rfl, List.forall_mem_cons.mpr ⟨mx_ok hg hts hO (tb_2 137 rfl) rfl, List.forall_mem_cons.mpr ⟨mx_ok hg hts hO (tb_2 120 rfl) rfl, List.forall_mem_cons.mpr ⟨mx_ok hg hts hO (tb_2 121 rfl) rfl, List.forall_mem_cons.mpr ⟨mx_ok hg hts hO (tb_1 29 rfl) rfl, List.forall_mem_cons.mpr ⟨mx_ok hg hts hO (tb_1 30 rfl) rfl, List.forall_mem_cons.mpr ⟨mx_ok hg hts hO (tb_2 122 rfl) rfl, List.forall_mem_cons.mpr ⟨mx_ok hg hts hO (tb_2 127 rfl) rfl, List.forall_mem_cons.mpr ⟨mx_ok hg hts hO (tb_2 133 rfl) rfl, List.forall_mem_cons.mpr ⟨mx_ok hg hts hO (tb_2 153 rfl) rfl, List.forall_mem_cons.mpr ⟨mx_ok hg hts hO (tb_2 109 rfl) rfl, List.forall_mem_cons.mpr ⟨mx_ok hg hts hO (tb_2 154 rfl) rfl, List.forall_mem_cons.mpr ⟨mx_ok hg hts hO (tb_2 111 rfl) rfl, List.forall_mem_cons.mpr ⟨mx_ok hg hts hO (tb_2 155 rfl) rfl, List.forall_mem_cons.mpr ⟨mx_ok hg hts hO (tb_2 113 rfl) rfl, List.forall_mem_cons.mpr ⟨mx_ok hg hts hO (tb_2 123 rfl) rfl, List.forall_mem_cons.mpr ⟨mx_ok hg hts hO (tb_2 124 rfl) rfl, List.forall_mem_cons.mpr ⟨mx_ok hg hts hO (tb_2 125 rfl) rfl, List.forall_mem_cons.mpr ⟨mx_ok hg hts hO (tb_2 126 rfl) rfl, List.forall_mem_cons.mpr ⟨mx_ok hg hts hO (tb_2 115 rfl) rfl, List.forall_mem_cons.mpr ⟨mx_ok hg hts hO (tb_2 149 rfl) rfl, List.forall_mem_cons.mpr ⟨mx_ok hg hts hO (tb_2 150 rfl) rfl, List.forall_mem_cons.mpr ⟨mx_ok hg hts hO (tb_2 152 rfl) rfl, List.forall_mem_cons.mpr ⟨mx_ok hg hts hO (tb_2 115 rfl) rfl, List.forall_mem_cons.mpr ⟨mx_ok hg hts hO (tb_2 140 rfl) rfl, List.forall_mem_cons.mpr ⟨mx_ok hg hts hO (tb_2 141 rfl) rfl, List.forall_mem_cons.mpr ⟨mx_ok hg hts hO (tb_2 142 rfl) rfl, List.forall_mem_cons.mpr ⟨mx_ok hg hts hO (tb_2 143 rfl) rfl, List.forall_mem_cons.mpr ⟨mx_ok hg hts hO (tb_2 101 rfl) rfl, List.forall_mem_cons.mpr ⟨mx_ok hg hts hO (tb_2 143 rfl) rfl, List.forall_mem_cons.mpr ⟨mx_ok hg hts hO (tb_2 144 rfl) rfl, List.forall_mem_cons.mpr ⟨mx_ok hg hts hO (tb_2 145 rfl) rfl, List.forall_mem_cons.mpr ⟨mx_ok hg hts hO (tb_2 146 rfl) rfl, List.forall_mem_cons.mpr ⟨mx_ok hg hts hO (tb_2 103 rfl) rfl, List.forall_mem_cons.mpr ⟨mx_ok hg hts hO (tb_2 146 rfl) rfl, List.forall_mem_cons.mpr ⟨mx_ok hg hts hO (tb_2 147 rfl) rfl, List.forall_mem_cons.mpr ⟨mx_ok hg hts hO (tb_2 148 rfl) rfl, List.forall_mem_cons.mpr ⟨mx_ok hg hts hO (tb_2 149 rfl) rfl, List.forall_mem_cons.mpr ⟨mx_ok hg hts hO (tb_2 105 rfl) rfl, List.forall_mem_cons.mpr ⟨mx_ok hg hts hO (tb_2 139 rfl) rfl, List.forall_mem_cons.mpr ⟨mx_ok hg hts hO (tb_2 98 rfl) rfl, List.forall_mem_cons.mpr ⟨mx_ok hg hts hO (tb_2 106 rfl) rfl, List.forall_mem_cons.mpr ⟨mx_ok hg hts hO (tb_2 107 rfl) rfl, List.forall_mem_cons.mpr ⟨mx_ok hg hts hO (tb_2 108 rfl) rfl, List.forall_mem_cons.mpr ⟨mx_ok hg hts hO (tb_2 110 rfl) rfl, List.forall_mem_cons.mpr ⟨mx_ok hg hts hO (tb_2 112 rfl) rfl, List.forall_mem_cons.mpr ⟨mx_ok hg hts hO (tb_2 114 rfl) rfl, List.forall_mem_cons.mpr ⟨mx_ok hg hts hO (tb_2 118 rfl) rfl, List.forall_mem_cons.mpr ⟨mx_ok hg hts hO (tb_2 117 rfl) rfl, List.forall_mem_cons.mpr ⟨mx_ok hg hts hO (tb_2 116 rfl) rfl, fun _ h => absurd h List.not_mem_nil⟩⟩⟩⟩⟩⟩⟩⟩⟩⟩⟩⟩⟩⟩⟩⟩⟩⟩⟩⟩⟩⟩⟩⟩⟩⟩⟩⟩⟩⟩⟩⟩⟩⟩⟩⟩⟩⟩⟩⟩⟩⟩⟩⟩⟩⟩⟩⟩⟩⟩⟩⟩⟩⟩
theorem mx_at1 {g : mc_G} (hg : mc_S0 g) {args : Array Value} {s : State} (hts : ∀ w ∈ WL0, w.before args s = true) (hO : mc_O g.2.2.2.2 g.2.2.1 s) : ∀ a ∈ mx_atoms RA 93 (exn0 1) 7 prog_13_method_2_code, a.before args s = true :=
  List.forall_mem_cons.mpr ⟨mx_ok hg hts hO (tb_1 10 rfl) rfl, List.forall_mem_cons.mpr ⟨mx_ok hg hts hO (tb_2 119 rfl) rfl, List.forall_mem_cons.mpr ⟨mx_ok hg hts hO (tb_2 128 rfl) rfl, List.forall_mem_cons.mpr ⟨mx_ok hg hts hO (tb_2 132 rfl) rfl, List.forall_mem_cons.mpr ⟨mx_ok hg hts hO (tb_2 135 rfl) rfl, List.forall_mem_cons.mpr ⟨mx_ok hg hts hO (tb_2 137 rfl) rfl, List.forall_mem_cons.mpr ⟨mx_ok hg hts hO (tb_2 120 rfl) rfl, List.forall_mem_cons.mpr ⟨mx_ok hg hts hO (tb_2 121 rfl) rfl, List.forall_mem_cons.mpr ⟨mx_ok hg hts hO (tb_1 29 rfl) rfl, List.forall_mem_cons.mpr ⟨mx_ok hg hts hO (tb_1 30 rfl) rfl, List.forall_mem_cons.mpr ⟨mx_ok hg hts hO (tb_2 122 rfl) rfl, List.forall_mem_cons.mpr ⟨mx_ok hg hts hO (tb_2 127 rfl) rfl, List.forall_mem_cons.mpr ⟨mx_ok hg hts hO (tb_2 133 rfl) rfl, List.forall_mem_cons.mpr ⟨mx_ok hg hts hO (tb_2 153 rfl) rfl, List.forall_mem_cons.mpr ⟨mx_ok hg hts hO (tb_2 109 rfl) rfl, List.forall_mem_cons.mpr ⟨mx_ok hg hts hO (tb_2 154 rfl) rfl, List.forall_mem_cons.mpr ⟨mx_ok hg hts hO (tb_2 111 rfl) rfl, List.forall_mem_cons.mpr ⟨mx_ok hg hts hO (tb_2 155 rfl) rfl, List.forall_mem_cons.mpr ⟨mx_ok hg hts hO (tb_2 113 rfl) rfl, List.forall_mem_cons.mpr ⟨mx_ok hg hts hO (tb_2 123 rfl) rfl, List.forall_mem_cons.mpr ⟨mx_ok hg hts hO (tb_2 124 rfl) rfl, List.forall_mem_cons.mpr ⟨mx_ok hg hts hO (tb_2 125 rfl) rfl, List.forall_mem_cons.mpr ⟨mx_ok hg hts hO (tb_2 126 rfl) rfl, List.forall_mem_cons.mpr ⟨mx_ok hg hts hO (tb_2 115 rfl) rfl, List.forall_mem_cons.mpr ⟨mx_ok hg hts hO (tb_2 149 rfl) rfl, List.forall_mem_cons.mpr ⟨mx_ok hg hts hO (tb_2 150 rfl) rfl, List.forall_mem_cons.mpr ⟨mx_ok hg hts hO (tb_2 152 rfl) rfl, List.forall_mem_cons.mpr ⟨mx_ok hg hts hO (tb_2 115 rfl) rfl, List.forall_mem_cons.mpr ⟨mx_ok hg hts hO (tb_2 180 rfl) rfl, List.forall_mem_cons.mpr ⟨mx_ok hg hts hO (tb_2 181 rfl) rfl, List.forall_mem_cons.mpr ⟨mx_ok hg hts hO (tb_2 182 rfl) rfl, List.forall_mem_cons.mpr ⟨mx_ok hg hts hO (tb_2 143 rfl) rfl, List.forall_mem_cons.mpr ⟨mx_ok hg hts hO (tb_2 101 rfl) rfl, List.forall_mem_cons.mpr ⟨mx_ok hg hts hO (tb_2 143 rfl) rfl, List.forall_mem_cons.mpr ⟨mx_ok hg hts hO (tb_2 144 rfl) rfl, List.forall_mem_cons.mpr ⟨mx_ok hg hts hO (tb_2 145 rfl) rfl, List.forall_mem_cons.mpr ⟨mx_ok hg hts hO (tb_2 146 rfl) rfl, List.forall_mem_cons.mpr ⟨mx_ok hg hts hO (tb_2 103 rfl) rfl, List.forall_mem_cons.mpr ⟨mx_ok hg hts hO (tb_2 146 rfl) rfl, List.forall_mem_cons.mpr ⟨mx_ok hg hts hO (tb_2 147 rfl) rfl, List.forall_mem_cons.mpr ⟨mx_ok hg hts hO (tb_2 148 rfl) rfl, List.forall_mem_cons.mpr ⟨mx_ok hg hts hO (tb_2 149 rfl) rfl, List.forall_mem_cons.mpr ⟨mx_ok hg hts hO (tb_2 105 rfl) rfl, List.forall_mem_cons.mpr ⟨mx_ok hg hts hO (tb_2 179 rfl) rfl, List.forall_mem_cons.mpr ⟨mx_ok hg hts hO (tb_2 170 rfl) rfl, List.forall_mem_cons.mpr ⟨mx_ok hg hts hO (tb_2 172 rfl) rfl, List.forall_mem_cons.mpr ⟨mx_ok hg hts hO (tb_2 131 rfl) rfl, List.forall_mem_cons.mpr ⟨mx_ok hg hts hO (tb_2 173 rfl) rfl, List.forall_mem_cons.mpr ⟨mx_ok hg hts hO (tb_2 174 rfl) rfl, List.forall_mem_cons.mpr ⟨mx_ok hg hts hO (tb_2 175 rfl) rfl, List.forall_mem_cons.mpr ⟨mx_ok hg hts hO (tb_2 176 rfl) rfl, List.forall_mem_cons.mpr ⟨mx_ok hg hts hO (tb_2 118 rfl) rfl, List.forall_mem_cons.mpr ⟨mx_ok hg hts hO (tb_2 117 rfl) rfl, List.forall_mem_cons.mpr ⟨mx_ok hg hts hO (tb_2 177 rfl) rfl, fun _ h => absurd h List.not_mem_nil⟩⟩⟩⟩⟩⟩⟩⟩⟩⟩⟩⟩⟩⟩⟩⟩⟩⟩⟩⟩⟩⟩⟩⟩⟩⟩⟩⟩⟩⟩⟩⟩⟩⟩⟩⟩⟩⟩⟩⟩⟩⟩⟩⟩⟩⟩⟩⟩⟩⟩⟩⟩⟩⟩
theorem mx_at2 {g : mc_G} (hg : mc_S0 g) {args : Array Value} {s : State} (hts : ∀ w ∈ WL0, w.before args s = true) (hO : mc_O g.2.2.2.2 g.2.2.1 s) : ∀ a ∈ mx_atoms RA 144 (exn0 2) 7 prog_12_method_2_code, a.before args s = true :=
  List.forall_mem_cons.mpr ⟨mx_ok hg hts hO (tb_1 10 rfl) rfl, List.forall_mem_cons.mpr ⟨mx_ok hg hts hO (tb_2 119 rfl) rfl, List.forall_mem_cons.mpr ⟨mx_ok hg hts hO (tb_2 128 rfl) rfl, List.forall_mem_cons.mpr ⟨mx_ok hg hts hO (tb_2 132 rfl) rfl, List.forall_mem_cons.mpr ⟨mx_ok hg hts hO (tb_2 135 rfl) rfl, List.forall_mem_cons.mpr ⟨mx_ok hg hts hO (tb_2 137 rfl) rfl, List.forall_mem_cons.mpr ⟨mx_ok hg hts hO (tb_2 120 rfl) rfl, List.forall_mem_cons.mpr ⟨mx_ok hg hts hO (tb_2 121 rfl) rfl, List.forall_mem_cons.mpr ⟨mx_ok hg hts hO (tb_1 29 rfl) rfl, List.forall_mem_cons.mpr ⟨mx_ok hg hts hO (tb_1 30 rfl) rfl, List.forall_mem_cons.mpr ⟨mx_ok hg hts hO (tb_2 122 rfl) rfl, List.forall_mem_cons.mpr ⟨mx_ok hg hts hO (tb_2 127 rfl) rfl, List.forall_mem_cons.mpr ⟨mx_ok hg hts hO (tb_2 133 rfl) rfl, List.forall_mem_cons.mpr ⟨mx_ok hg hts hO (tb_2 153 rfl) rfl, List.forall_mem_cons.mpr ⟨mx_ok hg hts hO (tb_2 109 rfl) rfl, List.forall_mem_cons.mpr ⟨mx_ok hg hts hO (tb_2 154 rfl) rfl, List.forall_mem_cons.mpr ⟨mx_ok hg hts hO (tb_2 111 rfl) rfl, List.forall_mem_cons.mpr ⟨mx_ok hg hts hO (tb_2 155 rfl) rfl, List.forall_mem_cons.mpr ⟨mx_ok hg hts hO (tb_2 113 rfl) rfl, List.forall_mem_cons.mpr ⟨mx_ok hg hts hO (tb_2 123 rfl) rfl, List.forall_mem_cons.mpr ⟨mx_ok hg hts hO (tb_2 124 rfl) rfl, List.forall_mem_cons.mpr ⟨mx_ok hg hts hO (tb_2 125 rfl) rfl, List.forall_mem_cons.mpr ⟨mx_ok hg hts hO (tb_2 126 rfl) rfl, List.forall_mem_cons.mpr ⟨mx_ok hg hts hO (tb_2 115 rfl) rfl, List.forall_mem_cons.mpr ⟨mx_ok hg hts hO (tb_2 149 rfl) rfl, List.forall_mem_cons.mpr ⟨mx_ok hg hts hO (tb_2 150 rfl) rfl, List.forall_mem_cons.mpr ⟨mx_ok hg hts hO (tb_2 152 rfl) rfl, List.forall_mem_cons.mpr ⟨mx_ok hg hts hO (tb_2 115 rfl) rfl, List.forall_mem_cons.mpr ⟨mx_ok hg hts hO (tb_3 28 rfl) rfl, List.forall_mem_cons.mpr ⟨mx_ok hg hts hO (tb_3 29 rfl) rfl, List.forall_mem_cons.mpr ⟨mx_ok hg hts hO (tb_3 30 rfl) rfl, List.forall_mem_cons.mpr ⟨mx_ok hg hts hO (tb_2 143 rfl) rfl, List.forall_mem_cons.mpr ⟨mx_ok hg hts hO (tb_2 101 rfl) rfl, List.forall_mem_cons.mpr ⟨mx_ok hg hts hO (tb_2 143 rfl) rfl, List.forall_mem_cons.mpr ⟨mx_ok hg hts hO (tb_2 144 rfl) rfl, List.forall_mem_cons.mpr ⟨mx_ok hg hts hO (tb_2 145 rfl) rfl, List.forall_mem_cons.mpr ⟨mx_ok hg hts hO (tb_2 146 rfl) rfl, List.forall_mem_cons.mpr ⟨mx_ok hg hts hO (tb_2 103 rfl) rfl, List.forall_mem_cons.mpr ⟨mx_ok hg hts hO (tb_2 146 rfl) rfl, List.forall_mem_cons.mpr ⟨mx_ok hg hts hO (tb_2 147 rfl) rfl, List.forall_mem_cons.mpr ⟨mx_ok hg hts hO (tb_2 148 rfl) rfl, List.forall_mem_cons.mpr ⟨mx_ok hg hts hO (tb_2 149 rfl) rfl, List.forall_mem_cons.mpr ⟨mx_ok hg hts hO (tb_2 105 rfl) rfl, List.forall_mem_cons.mpr ⟨mx_ok hg hts hO (tb_3 27 rfl) rfl, List.forall_mem_cons.mpr ⟨mx_ok hg hts hO (tb_3 18 rfl) rfl, List.forall_mem_cons.mpr ⟨mx_ok hg hts hO (tb_3 20 rfl) rfl, List.forall_mem_cons.mpr ⟨mx_ok hg hts hO (tb_2 130 rfl) rfl, List.forall_mem_cons.mpr ⟨mx_ok hg hts hO (tb_3 21 rfl) rfl, List.forall_mem_cons.mpr ⟨mx_ok hg hts hO (tb_3 22 rfl) rfl, List.forall_mem_cons.mpr ⟨mx_ok hg hts hO (tb_3 23 rfl) rfl, List.forall_mem_cons.mpr ⟨mx_ok hg hts hO (tb_3 24 rfl) rfl, List.forall_mem_cons.mpr ⟨mx_ok hg hts hO (tb_2 118 rfl) rfl, List.forall_mem_cons.mpr ⟨mx_ok hg hts hO (tb_2 117 rfl) rfl, List.forall_mem_cons.mpr ⟨mx_ok hg hts hO (tb_3 25 rfl) rfl, fun _ h => absurd h List.not_mem_nil⟩⟩⟩⟩⟩⟩⟩⟩⟩⟩⟩⟩⟩⟩⟩⟩⟩⟩⟩⟩⟩⟩⟩⟩⟩⟩⟩⟩⟩⟩⟩⟩⟩⟩⟩⟩⟩⟩⟩⟩⟩⟩⟩⟩⟩⟩⟩⟩⟩⟩⟩⟩⟩⟩
def mx_exok (tb : List mc_R) : Bool := tb.all fun q => match q.2.1 with
  | .new i => match mc_lk exA i with
    | some k => decide ((mc_lk tb (q.1 + 3)).map (fun r => (r.1, r.2.1)) = some (.dup, 1)) && (match ((mc_lk tb (q.1 + 4)).map (fun r => (r.1, r.2.1)) : Option (Instr × Nat)) with
      | some (Instr.ldc s, 2) => strA.contains s
      | _ => false) && decide ((mc_lk tb (q.1 + 6)).map (fun r => (r.1, r.2.1)) = some (.invokespecial (exc0 k), 3)) && decide ((mc_lk tb (q.1 + 9)).map (fun r => (r.1, r.2.1)) = some (.athrow, 1))
    | none => true
  | _ => true
theorem mx_strs {g : mc_G} (hg : mc_S0 g) {s : State} (hO : mc_O g.2.2.2.2 g.2.2.1 s) : ∀ k ∈ strA, ∃ tx q, vk_R RA k tx q s :=
  List.forall_mem_cons.mpr ⟨⟨_, mx_str hg hO (tb_2 138 rfl)⟩, List.forall_mem_cons.mpr ⟨⟨_, mx_str hg hO (tb_2 178 rfl)⟩, List.forall_mem_cons.mpr ⟨⟨_, mx_str hg hO (tb_2 209 rfl)⟩, List.forall_mem_cons.mpr ⟨⟨_, mx_str hg hO (tb_2 210 rfl)⟩, List.forall_mem_cons.mpr ⟨⟨_, mx_str hg hO (tb_2 226 rfl)⟩, List.forall_mem_cons.mpr ⟨⟨_, mx_str hg hO (tb_2 236 rfl)⟩, List.forall_mem_cons.mpr ⟨⟨_, mx_str hg hO (tb_3 5 rfl)⟩, List.forall_mem_cons.mpr ⟨⟨_, mx_str hg hO (tb_3 26 rfl)⟩, List.forall_mem_cons.mpr ⟨⟨_, mx_str hg hO (tb_3 68 rfl)⟩, List.forall_mem_cons.mpr ⟨⟨_, mx_str hg hO (tb_3 76 rfl)⟩, List.forall_mem_cons.mpr ⟨⟨_, mx_str hg hO (tb_3 87 rfl)⟩, List.forall_mem_cons.mpr ⟨⟨_, mx_str hg hO (tb_3 201 rfl)⟩, List.forall_mem_cons.mpr ⟨⟨_, mx_str hg hO (tb_3 202 rfl)⟩, List.forall_mem_cons.mpr ⟨⟨_, mx_str hg hO (tb_4 48 rfl)⟩, List.forall_mem_cons.mpr ⟨⟨_, mx_str hg hO (tb_4 56 rfl)⟩, fun _ h => absurd h List.not_mem_nil⟩⟩⟩⟩⟩⟩⟩⟩⟩⟩⟩⟩⟩⟩⟩
theorem mx_tbat {cc : ByteArray} {nL : Nat} {tb : List mc_R} (htb : mc_tbok cc nL tb = true) {pc : Nat} {x : Instr} {len : Nat} (h : (mc_lk tb pc).map (fun r => (r.1, r.2.1)) = some (x, len)) : decode cc pc = .ok (x, len) := by
  cases hq : mc_lk tb pc with
  | none => rw [hq] at h; cases h
  | some r =>
    rw [hq] at h
    have hrow := List.all_eq_true.mp htb _ (mc_lk_mem hq)
    simp only [Bool.and_eq_true, decide_eq_true_eq] at hrow
    have h2 : (r.1, r.2.1) = (x, len) := Option.some.inj h
    rw [← h2]
    exact hrow.1
theorem mx_eo {g : mc_G} (hg : mc_S0 g) {d : Nat} (hd : 6 ≤ d) {cc : ByteArray} {nL0 : Nat} {tb : List mc_R} (htb : mc_tbok cc nL0 tb = true) (hex : mx_exok tb = true) : mc_EO g.2.2.2.2 g.1 g.2.1 cl0 g.2.2.1 g.2.2.2.1 tab0 WL0 NW0 exn0 d RA cc tb exA := by
  intro p e R s m args below meth c Qr Qt nL n0 dn c0 hx hb hml hown hts hO hR hlocks hempty hw0 hf0 i k hk pc len tgt v ls n M L hlk hn hq
  have hrow := List.all_eq_true.mp htb _ (mc_lk_mem hlk)
  simp only [mc_ok, Bool.and_eq_true, decide_eq_true_eq, beq_iff_eq] at hrow
  obtain ⟨hd0, hlen⟩ := hrow
  subst hlen
  have h1 := List.all_eq_true.mp hex _ (mc_lk_mem hlk)
  simp only [hk, Bool.and_eq_true, decide_eq_true_eq] at h1
  obtain ⟨⟨⟨e1, e2⟩, e3⟩, e4⟩ := h1
  have hts' : ∀ w ∈ WL0, w.before args s = true := fun w hw => hts w (List.mem_cons_of_mem _ hw)
  have hs1 : ∃ args0 : Array Value, (∀ w ∈ tables_1, w.before args0 g.2.2.2.2 = true) ∧ (Cond.isRef (.static Bundle.tN "UNASSIGNED_STACK" Bundle.steD)).before args0 g.2.2.2.2 = true := by
    obtain ⟨-, -, a0, b0, b1, b2⟩ := hg
    exact ⟨a0, b0, b1⟩
  have hs2 : ∃ args0 : Array Value, (∀ w ∈ tables_1, w.before args0 g.2.2.2.2 = true) ∧ (Cond.isRef (.static Bundle.tN "SUPPRESSED_SENTINEL" Bundle.listD)).before args0 g.2.2.2.2 = true := by
    obtain ⟨-, -, a0, b0, b1, b2⟩ := hg
    exact ⟨a0, b0, b2⟩
  have hsU : (Cond.isRef (.static Bundle.tN "UNASSIGNED_STACK" Bundle.steD)).before args s = true := mx_sref hg hO (tb_2 124 rfl) (tb_1 10 rfl) hs1
  have hsS : (Cond.isRef (.static Bundle.tN "SUPPRESSED_SENTINEL" Bundle.listD)).before args s = true := mx_sref hg hO (tb_2 126 rfl) (tb_1 10 rfl) hs2
  revert e2
  split
  · next ks e2 =>
    intro hst
    obtain ⟨tx, q, hstr⟩ := mx_strs hg hO ks (by simpa using hst)
    have hmem := mc_lk_mem hk
    simp only [exA, List.mem_cons, Prod.mk.injEq, List.not_mem_nil, or_false] at hmem
    rcases hmem with ⟨rfl, rfl⟩ | ⟨rfl, rfl⟩ | ⟨rfl, rfl⟩
    · exact mv_throw (exn := exn0) (ix := 13) (bts := prog_22_method_4_code) hx hb hml hlocks hempty hg.1 hown (by decide +kernel) (by decide +kernel) (by decide +kernel) (by decide +kernel) (by decide +kernel) (mx_at0 hg hts' hO) (hts' _ (wl_t (tb_2 97 rfl) rfl)) (hts' _ (wl_t (tb_1 13 rfl) rfl)) hstr hsU hsS hR hd hw0 hd0 (mx_tbat htb e1) (mx_tbat htb e2) (mx_tbat htb e3) (mx_tbat htb e4) hn hf0 hq
    · exact mv_throw (exn := exn0) (ix := 7) (bts := prog_13_method_2_code) hx hb hml hlocks hempty hg.1 hown (by decide +kernel) (by decide +kernel) (by decide +kernel) (by decide +kernel) (by decide +kernel) (mx_at1 hg hts' hO) (hts' _ (wl_t (tb_2 169 rfl) rfl)) (hts' _ (wl_t (tb_1 14 rfl) rfl)) hstr hsU hsS hR hd hw0 hd0 (mx_tbat htb e1) (mx_tbat htb e2) (mx_tbat htb e3) (mx_tbat htb e4) hn hf0 hq
    · exact mv_throw (exn := exn0) (ix := 7) (bts := prog_12_method_2_code) hx hb hml hlocks hempty hg.1 hown (by decide +kernel) (by decide +kernel) (by decide +kernel) (by decide +kernel) (by decide +kernel) (mx_at2 hg hts' hO) (hts' _ (wl_t (tb_3 17 rfl) rfl)) (hts' _ (wl_t (tb_1 16 rfl) rfl)) hstr hsU hsS hR hd hw0 hd0 (mx_tbat htb e1) (mx_tbat htb e2) (mx_tbat htb e3) (mx_tbat htb e4) hn hf0 hq
  · intro h9
    cases h9
end
section
def swA_node : List (Nat × List (Int32 × Nat) × Nat) := []
def shA_node (g : mc_G) (d : Nat) : mc_SH := ((fgA, fpA), calA g d, [], [], [], klA, swA_node, none)
theorem inA_node {g : mc_G} {d : Nat} {av : List Value} {n : Nat} {M : mc_M} {L : mc_L} {Qr : Option Value → mc_M → mc_L → Prop} (hlen : (lg_sl (av.map (mc_ga g.2.2.1))).length ≤ 4) (body : ∀ K, mc_closed true tab0 n 0 (some .int) (shA_node g d) Qr (fun _ _ _ => False) tbA_node K → K 0 (mc_args av 4) [] n M L) : ctA_node g (d + 1) av n M L Qr :=
  mc_intro (own := RA) (tb := tbA_node) (sh := shA_node g d) rfl rfl nw_ok tok0 hcl0 (by decide +kernel) (show mc_swok tbA_node swA_node = true by decide +kernel) (show mc_swokL tbA_node swA_node = true by decide +kernel) fgA_ok (fpA_ok _) (fun _ h => absurd h List.not_mem_nil) klA_ok (calA_ok g d) rfl rfl hlen body
def swA_assign : List (Nat × List (Int32 × Nat) × Nat) := []
def shA_assign (g : mc_G) (d : Nat) : mc_SH := ((fgA, fpA), calA g d, [], [], [], klA, swA_assign, none)
theorem inA_assign {g : mc_G} {d : Nat} {av : List Value} {n : Nat} {M : mc_M} {L : mc_L} {Qr : Option Value → mc_M → mc_L → Prop} (hlen : (lg_sl (av.map (mc_ga g.2.2.1))).length ≤ 4) (body : ∀ K, mc_closed true tab0 n 0 (some .int) (shA_assign g d) Qr (fun _ _ _ => False) tbA_assign K → K 0 (mc_args av 4) [] n M L) : ctA_assign g (d + 1) av n M L Qr :=
  mc_intro (own := RA) (tb := tbA_assign) (sh := shA_assign g d) rfl rfl nw_ok tok0 hcl0 (by decide +kernel) (show mc_swok tbA_assign swA_assign = true by decide +kernel) (show mc_swokL tbA_assign swA_assign = true by decide +kernel) fgA_ok (fpA_ok _) (fun _ h => absurd h List.not_mem_nil) klA_ok (calA_ok g d) rfl rfl hlen body
def swA_jump : List (Nat × List (Int32 × Nat) × Nat) := []
def shA_jump (g : mc_G) (d : Nat) : mc_SH := ((fgA, fpA), calA g d, [], [], [], klA, swA_jump, none)
theorem inA_jump {g : mc_G} {d : Nat} {av : List Value} {n : Nat} {M : mc_M} {L : mc_L} {Qr : Option Value → mc_M → mc_L → Prop} (hlen : (lg_sl (av.map (mc_ga g.2.2.1))).length ≤ 6) (body : ∀ K, mc_closed true tab0 n 0 none (shA_jump g d) Qr (fun _ _ _ => False) tbA_jump K → K 0 (mc_args av 6) [] n M L) : ctA_jump g (d + 1) av n M L Qr :=
  mc_intro (own := RA) (tb := tbA_jump) (sh := shA_jump g d) rfl rfl nw_ok tok0 hcl0 (by decide +kernel) (show mc_swok tbA_jump swA_jump = true by decide +kernel) (show mc_swokL tbA_jump swA_jump = true by decide +kernel) fgA_ok (fpA_ok _) (fun _ h => absurd h List.not_mem_nil) klA_ok (calA_ok g d) rfl rfl hlen body
def swA_clear : List (Nat × List (Int32 × Nat) × Nat) := []
def shA_clear (g : mc_G) (d : Nat) : mc_SH := ((fgA, fpA), calA g d, [], [], [], klA, swA_clear, none)
theorem inA_clear {g : mc_G} {d : Nat} {av : List Value} {n : Nat} {M : mc_M} {L : mc_L} {Qr : Option Value → mc_M → mc_L → Prop} (hlen : (lg_sl (av.map (mc_ga g.2.2.1))).length ≤ 3) (body : ∀ K, mc_closed true tab0 n 0 (some .int) (shA_clear g d) Qr (fun _ _ _ => False) tbA_clear K → K 0 (mc_args av 3) [] n M L) : ctA_clear g (d + 1) av n M L Qr :=
  mc_intro (own := RA) (tb := tbA_clear) (sh := shA_clear g d) rfl rfl nw_ok tok0 hcl0 (by decide +kernel) (show mc_swok tbA_clear swA_clear = true by decide +kernel) (show mc_swokL tbA_clear swA_clear = true by decide +kernel) fgA_ok (fpA_ok _) (fun _ h => absurd h List.not_mem_nil) klA_ok (calA_ok g d) rfl rfl hlen body
def swA_input : List (Nat × List (Int32 × Nat) × Nat) := []
def shA_input (g : mc_G) (d : Nat) : mc_SH := ((fgA, fpA), calA g d, [], [], [], klA, swA_input, none)
theorem inA_input {g : mc_G} {d : Nat} {av : List Value} {n : Nat} {M : mc_M} {L : mc_L} {Qr : Option Value → mc_M → mc_L → Prop} (hlen : (lg_sl (av.map (mc_ga g.2.2.1))).length ≤ 4) (body : ∀ K, mc_closed true tab0 n 0 (some .int) (shA_input g d) Qr (fun _ _ _ => False) tbA_input K → K 0 (mc_args av 4) [] n M L) : ctA_input g (d + 1) av n M L Qr :=
  mc_intro (own := RA) (tb := tbA_input) (sh := shA_input g d) rfl rfl nw_ok tok0 hcl0 (by decide +kernel) (show mc_swok tbA_input swA_input = true by decide +kernel) (show mc_swokL tbA_input swA_input = true by decide +kernel) fgA_ok (fpA_ok _) (fun _ h => absurd h List.not_mem_nil) klA_ok (calA_ok g d) rfl rfl hlen body
def swA_run : List (Nat × List (Int32 × Nat) × Nat) := []
def shA_run (g : mc_G) (d : Nat) : mc_SH := ((fgA, fpA), calA g d, [], [], [], klA, swA_run, none)
theorem inA_run {g : mc_G} {d : Nat} {av : List Value} {n : Nat} {M : mc_M} {L : mc_L} {Qr : Option Value → mc_M → mc_L → Prop} (hlen : (lg_sl (av.map (mc_ga g.2.2.1))).length ≤ 2) (body : ∀ K, mc_closed true tab0 n 0 (some .boolean) (shA_run g d) Qr (fun _ _ _ => False) tbA_run K → K 0 (mc_args av 2) [] n M L) : ctA_run g (d + 1) av n M L Qr :=
  mc_intro (own := RA) (tb := tbA_run) (sh := shA_run g d) rfl rfl nw_ok tok0 hcl0 (by decide +kernel) (show mc_swok tbA_run swA_run = true by decide +kernel) (show mc_swokL tbA_run swA_run = true by decide +kernel) fgA_ok (fpA_ok _) (fun _ h => absurd h List.not_mem_nil) klA_ok (calA_ok g d) rfl rfl hlen body
def swA_follow : List (Nat × List (Int32 × Nat) × Nat) := []
def shA_follow (g : mc_G) (d : Nat) : mc_SH := ((fgA, fpA), calA g d, [], [], [], klA, swA_follow, none)
theorem inA_follow {g : mc_G} {d : Nat} {av : List Value} {n : Nat} {M : mc_M} {L : mc_L} {Qr : Option Value → mc_M → mc_L → Prop} (hlen : (lg_sl (av.map (mc_ga g.2.2.1))).length ≤ 2) (body : ∀ K, mc_closed true tab0 n 0 (some .boolean) (shA_follow g d) Qr (fun _ _ _ => False) tbA_follow K → K 0 (mc_args av 2) [] n M L) : ctA_follow g (d + 1) av n M L Qr :=
  mc_intro (own := RA) (tb := tbA_follow) (sh := shA_follow g d) rfl rfl nw_ok tok0 hcl0 (by decide +kernel) (show mc_swok tbA_follow swA_follow = true by decide +kernel) (show mc_swokL tbA_follow swA_follow = true by decide +kernel) fgA_ok (fpA_ok _) (fun _ h => absurd h List.not_mem_nil) klA_ok (calA_ok g d) rfl rfl hlen body
def swA_result : List (Nat × List (Int32 × Nat) × Nat) := [(1, [(0, 28), (1, 36), (2, 44)], 52)]
def shA_result (g : mc_G) (d : Nat) : mc_SH := ((fgA, fpA), calA g d, [], [], [], klA, swA_result, none)
theorem inA_result {g : mc_G} {d : Nat} {av : List Value} {n : Nat} {M : mc_M} {L : mc_L} {Qr : Option Value → mc_M → mc_L → Prop} (hlen : (lg_sl (av.map (mc_ga g.2.2.1))).length ≤ 2) (body : ∀ K, mc_closed true tab0 n 0 (some .int) (shA_result g d) Qr (fun _ _ _ => False) tbA_result K → K 0 (mc_args av 2) [] n M L) : ctA_result g (d + 1) av n M L Qr :=
  mc_intro (own := RA) (tb := tbA_result) (sh := shA_result g d) rfl rfl nw_ok tok0 hcl0 (by decide +kernel) (show mc_swok tbA_result swA_result = true by decide +kernel) (show mc_swokL tbA_result swA_result = true by decide +kernel) fgA_ok (fpA_ok _) (fun _ h => absurd h List.not_mem_nil) klA_ok (calA_ok g d) rfl rfl hlen body
def swA_divide : List (Nat × List (Int32 × Nat) × Nat) := []
def shA_divide (g : mc_G) (d : Nat) : mc_SH := ((fgA, fpA), calA g d, [], [], [], klA, swA_divide, none)
theorem inA_divide {g : mc_G} {d : Nat} {av : List Value} {n : Nat} {M : mc_M} {L : mc_L} {Qr : Option Value → mc_M → mc_L → Prop} (hlen : (lg_sl (av.map (mc_ga g.2.2.1))).length ≤ 2) (body : ∀ K, mc_closed true tab0 n 0 (some .int) (shA_divide g d) Qr (fun _ _ _ => False) tbA_divide K → K 0 (mc_args av 2) [] n M L) : ctA_divide g (d + 1) av n M L Qr :=
  mc_intro (own := RA) (tb := tbA_divide) (sh := shA_divide g d) rfl rfl nw_ok tok0 hcl0 (by decide +kernel) (show mc_swok tbA_divide swA_divide = true by decide +kernel) (show mc_swokL tbA_divide swA_divide = true by decide +kernel) fgA_ok (fpA_ok _) (fun _ h => absurd h List.not_mem_nil) klA_ok (calA_ok g d) rfl rfl hlen body
def swA_live : List (Nat × List (Int32 × Nat) × Nat) := []
def shA_live (g : mc_G) (d : Nat) : mc_SH := ((fgA, fpA), calA g d, [], [], [], klA, swA_live, none)
theorem inA_live {g : mc_G} {d : Nat} {av : List Value} {n : Nat} {M : mc_M} {L : mc_L} {Qr : Option Value → mc_M → mc_L → Prop} (hlen : (lg_sl (av.map (mc_ga g.2.2.1))).length ≤ 2) (body : ∀ K, mc_closed true tab0 n 0 (some .int) (shA_live g d) Qr (fun _ _ _ => False) tbA_live K → K 0 (mc_args av 2) [] n M L) : ctA_live g (d + 1) av n M L Qr :=
  mc_intro (own := RA) (tb := tbA_live) (sh := shA_live g d) rfl rfl nw_ok tok0 hcl0 (by decide +kernel) (show mc_swok tbA_live swA_live = true by decide +kernel) (show mc_swokL tbA_live swA_live = true by decide +kernel) fgA_ok (fpA_ok _) (fun _ h => absurd h List.not_mem_nil) klA_ok (calA_ok g d) rfl rfl hlen body
def swA_mix : List (Nat × List (Int32 × Nat) × Nat) := []
def shA_mix (g : mc_G) (d : Nat) : mc_SH := ((fgA, fpA), calA g d, [], [], [], klA, swA_mix, none)
theorem inA_mix {g : mc_G} {d : Nat} {av : List Value} {n : Nat} {M : mc_M} {L : mc_L} {Qr : Option Value → mc_M → mc_L → Prop} (hlen : (lg_sl (av.map (mc_ga g.2.2.1))).length ≤ 3) (body : ∀ K, mc_closed true tab0 n 0 (some .int) (shA_mix g d) Qr (fun _ _ _ => False) tbA_mix K → K 0 (mc_args av 3) [] n M L) : ctA_mix g (d + 1) av n M L Qr :=
  mc_intro (own := RA) (tb := tbA_mix) (sh := shA_mix g d) rfl rfl nw_ok tok0 hcl0 (by decide +kernel) (show mc_swok tbA_mix swA_mix = true by decide +kernel) (show mc_swokL tbA_mix swA_mix = true by decide +kernel) fgA_ok (fpA_ok _) (fun _ h => absurd h List.not_mem_nil) klA_ok (calA_ok g d) rfl rfl hlen body
def swA_compress : List (Nat × List (Int32 × Nat) × Nat) := []
def shA_compress (g : mc_G) (d : Nat) : mc_SH := ((fgA, fpA), calA g d, [], [], [], klA, swA_compress, none)
theorem inA_compress {g : mc_G} {d : Nat} {av : List Value} {n : Nat} {M : mc_M} {L : mc_L} {Qr : Option Value → mc_M → mc_L → Prop} (hlen : (lg_sl (av.map (mc_ga g.2.2.1))).length ≤ 1) (body : ∀ K, mc_closed true tab0 n 0 (some .int) (shA_compress g d) Qr (fun _ _ _ => False) tbA_compress K → K 0 (mc_args av 1) [] n M L) : ctA_compress g (d + 1) av n M L Qr :=
  mc_intro (own := RA) (tb := tbA_compress) (sh := shA_compress g d) rfl rfl nw_ok tok0 hcl0 (by decide +kernel) (show mc_swok tbA_compress swA_compress = true by decide +kernel) (show mc_swokL tbA_compress swA_compress = true by decide +kernel) fgA_ok (fpA_ok _) (fun _ h => absurd h List.not_mem_nil) klA_ok (calA_ok g d) rfl rfl hlen body
def swA_about : List (Nat × List (Int32 × Nat) × Nat) := [(36, [(0, 72), (1, 82), (2, 92), (3, 102), (4, 112)], 122)]
def shA_about (g : mc_G) (d : Nat) : mc_SH := ((fgA, fpA), calA g d, [], [], [], klA, swA_about, none)
theorem inA_about {g : mc_G} {d : Nat} {av : List Value} {n : Nat} {M : mc_M} {L : mc_L} {Qr : Option Value → mc_M → mc_L → Prop} (hlen : (lg_sl (av.map (mc_ga g.2.2.1))).length ≤ 4) (body : ∀ K, mc_closed true tab0 n 0 (some .int) (shA_about g d) Qr (fun _ _ _ => False) tbA_about K → K 0 (mc_args av 4) [] n M L) : ctA_about g (d + 1) av n M L Qr :=
  mc_intro (own := RA) (tb := tbA_about) (sh := shA_about g d) rfl rfl nw_ok tok0 hcl0 (by decide +kernel) (show mc_swok tbA_about swA_about = true by decide +kernel) (show mc_swokL tbA_about swA_about = true by decide +kernel) fgA_ok (fpA_ok _) (fun _ h => absurd h List.not_mem_nil) klA_ok (calA_ok g d) rfl rfl hlen body
def swA_sign : List (Nat × List (Int32 × Nat) × Nat) := []
def shA_sign (g : mc_G) (d : Nat) : mc_SH := ((fgA, fpA), calA g d, [], [], [], klA, swA_sign, none)
theorem inA_sign {g : mc_G} {d : Nat} {av : List Value} {n : Nat} {M : mc_M} {L : mc_L} {Qr : Option Value → mc_M → mc_L → Prop} (hlen : (lg_sl (av.map (mc_ga g.2.2.1))).length ≤ 2) (body : ∀ K, mc_closed true tab0 n 0 (some .int) (shA_sign g d) Qr (fun _ _ _ => False) tbA_sign K → K 0 (mc_args av 2) [] n M L) : ctA_sign g (d + 1) av n M L Qr :=
  mc_intro (own := RA) (tb := tbA_sign) (sh := shA_sign g d) rfl rfl nw_ok tok0 hcl0 (by decide +kernel) (show mc_swok tbA_sign swA_sign = true by decide +kernel) (show mc_swokL tbA_sign swA_sign = true by decide +kernel) fgA_ok (fpA_ok _) (fun _ h => absurd h List.not_mem_nil) klA_ok (calA_ok g d) rfl rfl hlen body
def swA_count : List (Nat × List (Int32 × Nat) × Nat) := [(1, [(0, 32), (1, 40), (2, 48), (3, 71)], 79)]
def shA_count (g : mc_G) (d : Nat) : mc_SH := ((fgA, fpA), calA g d, [], [], [], klA, swA_count, none)
theorem inA_count {g : mc_G} {d : Nat} {av : List Value} {n : Nat} {M : mc_M} {L : mc_L} {Qr : Option Value → mc_M → mc_L → Prop} (hlen : (lg_sl (av.map (mc_ga g.2.2.1))).length ≤ 2) (body : ∀ K, mc_closed true tab0 n 0 (some .int) (shA_count g d) Qr (fun _ _ _ => False) tbA_count K → K 0 (mc_args av 2) [] n M L) : ctA_count g (d + 1) av n M L Qr :=
  mc_intro (own := RA) (tb := tbA_count) (sh := shA_count g d) rfl rfl nw_ok tok0 hcl0 (by decide +kernel) (show mc_swok tbA_count swA_count = true by decide +kernel) (show mc_swokL tbA_count swA_count = true by decide +kernel) fgA_ok (fpA_ok _) (fun _ h => absurd h List.not_mem_nil) klA_ok (calA_ok g d) rfl rfl hlen body
def swA_canJump : List (Nat × List (Int32 × Nat) × Nat) := [(1, [(0, 28), (1, 33), (2, 65)], 74)]
def shA_canJump (g : mc_G) (d : Nat) : mc_SH := ((fgA, fpA), calA g d, [], [], [], klA, swA_canJump, none)
theorem inA_canJump {g : mc_G} {d : Nat} {av : List Value} {n : Nat} {M : mc_M} {L : mc_L} {Qr : Option Value → mc_M → mc_L → Prop} (hlen : (lg_sl (av.map (mc_ga g.2.2.1))).length ≤ 5) (body : ∀ K, mc_closed true tab0 n 0 (some .boolean) (shA_canJump g d) Qr (fun _ _ _ => False) tbA_canJump K → K 0 (mc_args av 5) [] n M L) : ctA_canJump g (d + 1) av n M L Qr :=
  mc_intro (own := RA) (tb := tbA_canJump) (sh := shA_canJump g d) rfl rfl nw_ok tok0 hcl0 (by decide +kernel) (show mc_swok tbA_canJump swA_canJump = true by decide +kernel) (show mc_swokL tbA_canJump swA_canJump = true by decide +kernel) fgA_ok (fpA_ok _) (fun _ h => absurd h List.not_mem_nil) klA_ok (calA_ok g d) rfl rfl hlen body
def swA_isBlock : List (Nat × List (Int32 × Nat) × Nat) := []
def shA_isBlock (g : mc_G) (d : Nat) : mc_SH := ((fgA, fpA), calA g d, [], [], [], klA, swA_isBlock, none)
theorem inA_isBlock {g : mc_G} {d : Nat} {av : List Value} {n : Nat} {M : mc_M} {L : mc_L} {Qr : Option Value → mc_M → mc_L → Prop} (hlen : (lg_sl (av.map (mc_ga g.2.2.1))).length ≤ 1) (body : ∀ K, mc_closed true tab0 n 0 (some .boolean) (shA_isBlock g d) Qr (fun _ _ _ => False) tbA_isBlock K → K 0 (mc_args av 1) [] n M L) : ctA_isBlock g (d + 1) av n M L Qr :=
  mc_intro (own := RA) (tb := tbA_isBlock) (sh := shA_isBlock g d) rfl rfl nw_ok tok0 hcl0 (by decide +kernel) (show mc_swok tbA_isBlock swA_isBlock = true by decide +kernel) (show mc_swokL tbA_isBlock swA_isBlock = true by decide +kernel) fgA_ok (fpA_ok _) (fun _ h => absurd h List.not_mem_nil) klA_ok (calA_ok g d) rfl rfl hlen body
def swA_isVariable : List (Nat × List (Int32 × Nat) × Nat) := []
def shA_isVariable (g : mc_G) (d : Nat) : mc_SH := ((fgA, fpA), calA g d, [], [], [], klA, swA_isVariable, none)
theorem inA_isVariable {g : mc_G} {d : Nat} {av : List Value} {n : Nat} {M : mc_M} {L : mc_L} {Qr : Option Value → mc_M → mc_L → Prop} (hlen : (lg_sl (av.map (mc_ga g.2.2.1))).length ≤ 1) (body : ∀ K, mc_closed true tab0 n 0 (some .boolean) (shA_isVariable g d) Qr (fun _ _ _ => False) tbA_isVariable K → K 0 (mc_args av 1) [] n M L) : ctA_isVariable g (d + 1) av n M L Qr :=
  mc_intro (own := RA) (tb := tbA_isVariable) (sh := shA_isVariable g d) rfl rfl nw_ok tok0 hcl0 (by decide +kernel) (show mc_swok tbA_isVariable swA_isVariable = true by decide +kernel) (show mc_swokL tbA_isVariable swA_isVariable = true by decide +kernel) fgA_ok (fpA_ok _) (fun _ h => absurd h List.not_mem_nil) klA_ok (calA_ok g d) rfl rfl hlen body
def swA_isVariableSet : List (Nat × List (Int32 × Nat) × Nat) := []
def shA_isVariableSet (g : mc_G) (d : Nat) : mc_SH := ((fgA, fpA), calA g d, [], [], [], klA, swA_isVariableSet, none)
theorem inA_isVariableSet {g : mc_G} {d : Nat} {av : List Value} {n : Nat} {M : mc_M} {L : mc_L} {Qr : Option Value → mc_M → mc_L → Prop} (hlen : (lg_sl (av.map (mc_ga g.2.2.1))).length ≤ 1) (body : ∀ K, mc_closed true tab0 n 0 (some .boolean) (shA_isVariableSet g d) Qr (fun _ _ _ => False) tbA_isVariableSet K → K 0 (mc_args av 1) [] n M L) : ctA_isVariableSet g (d + 1) av n M L Qr :=
  mc_intro (own := RA) (tb := tbA_isVariableSet) (sh := shA_isVariableSet g d) rfl rfl nw_ok tok0 hcl0 (by decide +kernel) (show mc_swok tbA_isVariableSet swA_isVariableSet = true by decide +kernel) (show mc_swokL tbA_isVariableSet swA_isVariableSet = true by decide +kernel) fgA_ok (fpA_ok _) (fun _ h => absurd h List.not_mem_nil) klA_ok (calA_ok g d) rfl rfl hlen body
def swA_isStepLimit : List (Nat × List (Int32 × Nat) × Nat) := []
def shA_isStepLimit (g : mc_G) (d : Nat) : mc_SH := ((fgA, fpA), calA g d, [], [], [], klA, swA_isStepLimit, none)
theorem inA_isStepLimit {g : mc_G} {d : Nat} {av : List Value} {n : Nat} {M : mc_M} {L : mc_L} {Qr : Option Value → mc_M → mc_L → Prop} (hlen : (lg_sl (av.map (mc_ga g.2.2.1))).length ≤ 1) (body : ∀ K, mc_closed true tab0 n 0 (some .boolean) (shA_isStepLimit g d) Qr (fun _ _ _ => False) tbA_isStepLimit K → K 0 (mc_args av 1) [] n M L) : ctA_isStepLimit g (d + 1) av n M L Qr :=
  mc_intro (own := RA) (tb := tbA_isStepLimit) (sh := shA_isStepLimit g d) rfl rfl nw_ok tok0 hcl0 (by decide +kernel) (show mc_swok tbA_isStepLimit swA_isStepLimit = true by decide +kernel) (show mc_swokL tbA_isStepLimit swA_isStepLimit = true by decide +kernel) fgA_ok (fpA_ok _) (fun _ h => absurd h List.not_mem_nil) klA_ok (calA_ok g d) rfl rfl hlen body
def swN_has : List (Nat × List (Int32 × Nat) × Nat) := []
def shN_has (g : mc_G) (d : Nat) : mc_SH := ((fgN, fpN), calN g d, [], [], [], klN, swN_has, none)
theorem inN_has {g : mc_G} {d : Nat} {av : List Value} {n : Nat} {M : mc_M} {L : mc_L} {Qr : Option Value → mc_M → mc_L → Prop} (hlen : (lg_sl (av.map (mc_ga g.2.2.1))).length ≤ 2) (body : ∀ K, mc_closed true tab0 n 0 (some .boolean) (shN_has g d) Qr (fun _ _ _ => False) tbN_has K → K 0 (mc_args av 2) [] n M L) : ctN_has g (d + 1) av n M L Qr :=
  mc_intro (own := RN) (tb := tbN_has) (sh := shN_has g d) rfl rfl nw_ok tok0 hcl0 (by decide +kernel) (show mc_swok tbN_has swN_has = true by decide +kernel) (show mc_swokL tbN_has swN_has = true by decide +kernel) fgN_ok (fpN_ok _) (fun _ h => absurd h List.not_mem_nil) klN_ok (calN_ok g d) rfl rfl hlen body
def swN_canBe : List (Nat × List (Int32 × Nat) × Nat) := []
def shN_canBe (g : mc_G) (d : Nat) : mc_SH := ((fgN, fpN), calN g d, [], [], [], klN, swN_canBe, none)
theorem inN_canBe {g : mc_G} {d : Nat} {av : List Value} {n : Nat} {M : mc_M} {L : mc_L} {Qr : Option Value → mc_M → mc_L → Prop} (hlen : (lg_sl (av.map (mc_ga g.2.2.1))).length ≤ 4) (body : ∀ K, mc_closed true tab0 n 0 (some .boolean) (shN_canBe g d) Qr (fun _ _ _ => False) tbN_canBe K → K 0 (mc_args av 4) [] n M L) : ctN_canBe g (d + 1) av n M L Qr :=
  mc_intro (own := RN) (tb := tbN_canBe) (sh := shN_canBe g d) rfl rfl nw_ok tok0 hcl0 (by decide +kernel) (show mc_swok tbN_canBe swN_canBe = true by decide +kernel) (show mc_swokL tbN_canBe swN_canBe = true by decide +kernel) fgN_ok (fpN_ok _) (fun _ h => absurd h List.not_mem_nil) klN_ok (calN_ok g d) rfl rfl hlen body
def swN_sizeWith : List (Nat × List (Int32 × Nat) × Nat) := []
def shN_sizeWith (g : mc_G) (d : Nat) : mc_SH := ((fgN, fpN), calN g d, [], [], [], klN, swN_sizeWith, none)
theorem inN_sizeWith {g : mc_G} {d : Nat} {av : List Value} {n : Nat} {M : mc_M} {L : mc_L} {Qr : Option Value → mc_M → mc_L → Prop} (hlen : (lg_sl (av.map (mc_ga g.2.2.1))).length ≤ 4) (body : ∀ K, mc_closed true tab0 n 0 (some .int) (shN_sizeWith g d) Qr (fun _ _ _ => False) tbN_sizeWith K → K 0 (mc_args av 4) [] n M L) : ctN_sizeWith g (d + 1) av n M L Qr :=
  mc_intro (own := RN) (tb := tbN_sizeWith) (sh := shN_sizeWith g d) rfl rfl nw_ok tok0 hcl0 (by decide +kernel) (show mc_swok tbN_sizeWith swN_sizeWith = true by decide +kernel) (show mc_swokL tbN_sizeWith swN_sizeWith = true by decide +kernel) fgN_ok (fpN_ok _) (fun _ h => absurd h List.not_mem_nil) klN_ok (calN_ok g d) rfl rfl hlen body
def swN_variablesWith : List (Nat × List (Int32 × Nat) × Nat) := []
def shN_variablesWith (g : mc_G) (d : Nat) : mc_SH := ((fgN, fpN), calN g d, [], [], [], klN, swN_variablesWith, none)
theorem inN_variablesWith {g : mc_G} {d : Nat} {av : List Value} {n : Nat} {M : mc_M} {L : mc_L} {Qr : Option Value → mc_M → mc_L → Prop} (hlen : (lg_sl (av.map (mc_ga g.2.2.1))).length ≤ 4) (body : ∀ K, mc_closed true tab0 n 0 (some .int) (shN_variablesWith g d) Qr (fun _ _ _ => False) tbN_variablesWith K → K 0 (mc_args av 4) [] n M L) : ctN_variablesWith g (d + 1) av n M L Qr :=
  mc_intro (own := RN) (tb := tbN_variablesWith) (sh := shN_variablesWith g d) rfl rfl nw_ok tok0 hcl0 (by decide +kernel) (show mc_swok tbN_variablesWith swN_variablesWith = true by decide +kernel) (show mc_swokL tbN_variablesWith swN_variablesWith = true by decide +kernel) fgN_ok (fpN_ok _) (fun _ h => absurd h List.not_mem_nil) klN_ok (calN_ok g d) rfl rfl hlen body
def swN_add : List (Nat × List (Int32 × Nat) × Nat) := []
def shN_add (g : mc_G) (d : Nat) : mc_SH := ((fgN, fpN), calN g d, [], [], [], klN, swN_add, none)
theorem inN_add {g : mc_G} {d : Nat} {av : List Value} {n : Nat} {M : mc_M} {L : mc_L} {Qr : Option Value → mc_M → mc_L → Prop} (hlen : (lg_sl (av.map (mc_ga g.2.2.1))).length ≤ 5) (body : ∀ K, mc_closed true tab0 n 0 (some .int) (shN_add g d) Qr (fun _ _ _ => False) tbN_add K → K 0 (mc_args av 5) [] n M L) : ctN_add g (d + 1) av n M L Qr :=
  mc_intro (own := RN) (tb := tbN_add) (sh := shN_add g d) rfl rfl nw_ok tok0 hcl0 (by decide +kernel) (show mc_swok tbN_add swN_add = true by decide +kernel) (show mc_swokL tbN_add swN_add = true by decide +kernel) fgN_ok (fpN_ok _) (fun _ h => absurd h List.not_mem_nil) klN_ok (calN_ok g d) rfl rfl hlen body
def swN_valueOf : List (Nat × List (Int32 × Nat) × Nat) := []
def shN_valueOf (g : mc_G) (d : Nat) : mc_SH := ((fgN, fpN), calN g d, [], [], [], klN, swN_valueOf, none)
theorem inN_valueOf {g : mc_G} {d : Nat} {av : List Value} {n : Nat} {M : mc_M} {L : mc_L} {Qr : Option Value → mc_M → mc_L → Prop} (hlen : (lg_sl (av.map (mc_ga g.2.2.1))).length ≤ 7) (body : ∀ K, mc_closed true tab0 n 0 (some .int) (shN_valueOf g d) Qr (fun _ _ _ => False) tbN_valueOf K → K 0 (mc_args av 7) [] n M L) : ctN_valueOf g (d + 1) av n M L Qr :=
  mc_intro (own := RN) (tb := tbN_valueOf) (sh := shN_valueOf g d) rfl rfl nw_ok tok0 hcl0 (by decide +kernel) (show mc_swok tbN_valueOf swN_valueOf = true by decide +kernel) (show mc_swokL tbN_valueOf swN_valueOf = true by decide +kernel) fgN_ok (fpN_ok _) (fun _ h => absurd h List.not_mem_nil) klN_ok (calN_ok g d) rfl rfl hlen body
def swN_combine : List (Nat × List (Int32 × Nat) × Nat) := [(1, [(2, 32), (3, 36), (4, 40), (5, 44)], 55)]
def shN_combine (g : mc_G) (d : Nat) : mc_SH := ((fgN, fpN), calN g d, [], [], [], klN, swN_combine, none)
theorem inN_combine {g : mc_G} {d : Nat} {av : List Value} {n : Nat} {M : mc_M} {L : mc_L} {Qr : Option Value → mc_M → mc_L → Prop} (hlen : (lg_sl (av.map (mc_ga g.2.2.1))).length ≤ 3) (body : ∀ K, mc_closed true tab0 n 0 (some .int) (shN_combine g d) Qr (fun _ _ _ => False) tbN_combine K → K 0 (mc_args av 3) [] n M L) : ctN_combine g (d + 1) av n M L Qr :=
  mc_intro (own := RN) (tb := tbN_combine) (sh := shN_combine g d) rfl rfl nw_ok tok0 hcl0 (by decide +kernel) (show mc_swok tbN_combine swN_combine = true by decide +kernel) (show mc_swokL tbN_combine swN_combine = true by decide +kernel) fgN_ok (fpN_ok _) (fun _ h => absurd h List.not_mem_nil) klN_ok (calN_ok g d) rfl rfl hlen body
def swF_makeEmpty : List (Nat × List (Int32 × Nat) × Nat) := []
def shF_makeEmpty (g : mc_G) (d : Nat) : mc_SH := ((fgF, fpF), calF g d, [], [], [], klF, swF_makeEmpty, none)
theorem inF_makeEmpty {g : mc_G} {d : Nat} {av : List Value} {n : Nat} {M : mc_M} {L : mc_L} {Qr : Option Value → mc_M → mc_L → Prop} (hlen : (lg_sl (av.map (mc_ga g.2.2.1))).length ≤ 3) (body : ∀ K, mc_closed true tab0 n 0 none (shF_makeEmpty g d) Qr (fun _ _ _ => False) tbF_makeEmpty K → K 0 (mc_args av 3) [] n M L) : ctF_makeEmpty g (d + 1) av n M L Qr :=
  mc_intro (own := RF) (tb := tbF_makeEmpty) (sh := shF_makeEmpty g d) rfl rfl nw_ok tok0 hcl0 (by decide +kernel) (show mc_swok tbF_makeEmpty swF_makeEmpty = true by decide +kernel) (show mc_swokL tbF_makeEmpty swF_makeEmpty = true by decide +kernel) fgF_ok (fpF_ok _) (fun _ h => absurd h List.not_mem_nil) klF_ok (calF_ok g d) rfl rfl hlen body
def swF_append : List (Nat × List (Int32 × Nat) × Nat) := []
def shF_append (g : mc_G) (d : Nat) : mc_SH := ((fgF, fpF), calF g d, [], [], [], klF, swF_append, none)
theorem inF_append {g : mc_G} {d : Nat} {av : List Value} {n : Nat} {M : mc_M} {L : mc_L} {Qr : Option Value → mc_M → mc_L → Prop} (hlen : (lg_sl (av.map (mc_ga g.2.2.1))).length ≤ 5) (body : ∀ K, mc_closed true tab0 n 0 (some .int) (shF_append g d) Qr (fun _ _ _ => False) tbF_append K → K 0 (mc_args av 5) [] n M L) : ctF_append g (d + 1) av n M L Qr :=
  mc_intro (own := RF) (tb := tbF_append) (sh := shF_append g d) rfl rfl nw_ok tok0 hcl0 (by decide +kernel) (show mc_swok tbF_append swF_append = true by decide +kernel) (show mc_swokL tbF_append swF_append = true by decide +kernel) fgF_ok (fpF_ok _) (fun _ h => absurd h List.not_mem_nil) klF_ok (calF_ok g d) rfl rfl hlen body
def swF_setJump : List (Nat × List (Int32 × Nat) × Nat) := []
def shF_setJump (g : mc_G) (d : Nat) : mc_SH := ((fgF, fpF), calF g d, [], [], [], klF, swF_setJump, none)
theorem inF_setJump {g : mc_G} {d : Nat} {av : List Value} {n : Nat} {M : mc_M} {L : mc_L} {Qr : Option Value → mc_M → mc_L → Prop} (hlen : (lg_sl (av.map (mc_ga g.2.2.1))).length ≤ 4) (body : ∀ K, mc_closed true tab0 n 0 none (shF_setJump g d) Qr (fun _ _ _ => False) tbF_setJump K → K 0 (mc_args av 4) [] n M L) : ctF_setJump g (d + 1) av n M L Qr :=
  mc_intro (own := RF) (tb := tbF_setJump) (sh := shF_setJump g d) rfl rfl nw_ok tok0 hcl0 (by decide +kernel) (show mc_swok tbF_setJump swF_setJump = true by decide +kernel) (show mc_swokL tbF_setJump swF_setJump = true by decide +kernel) fgF_ok (fpF_ok _) (fun _ h => absurd h List.not_mem_nil) klF_ok (calF_ok g d) rfl rfl hlen body
def swF_setTargets : List (Nat × List (Int32 × Nat) × Nat) := []
def shF_setTargets (g : mc_G) (d : Nat) : mc_SH := ((fgF, fpF), calF g d, [], [], [], klF, swF_setTargets, none)
theorem inF_setTargets {g : mc_G} {d : Nat} {av : List Value} {n : Nat} {M : mc_M} {L : mc_L} {Qr : Option Value → mc_M → mc_L → Prop} (hlen : (lg_sl (av.map (mc_ga g.2.2.1))).length ≤ 4) (body : ∀ K, mc_closed true tab0 n 0 none (shF_setTargets g d) Qr (fun _ _ _ => False) tbF_setTargets K → K 0 (mc_args av 4) [] n M L) : ctF_setTargets g (d + 1) av n M L Qr :=
  mc_intro (own := RF) (tb := tbF_setTargets) (sh := shF_setTargets g d) rfl rfl nw_ok tok0 hcl0 (by decide +kernel) (show mc_swok tbF_setTargets swF_setTargets = true by decide +kernel) (show mc_swokL tbF_setTargets swF_setTargets = true by decide +kernel) fgF_ok (fpF_ok _) (fun _ h => absurd h List.not_mem_nil) klF_ok (calF_ok g d) rfl rfl hlen body
def swF_jumpStep : List (Nat × List (Int32 × Nat) × Nat) := []
def shF_jumpStep (g : mc_G) (d : Nat) : mc_SH := ((fgF, fpF), calF g d, [], [], [], klF, swF_jumpStep, none)
theorem inF_jumpStep {g : mc_G} {d : Nat} {av : List Value} {n : Nat} {M : mc_M} {L : mc_L} {Qr : Option Value → mc_M → mc_L → Prop} (hlen : (lg_sl (av.map (mc_ga g.2.2.1))).length ≤ 2) (body : ∀ K, mc_closed true tab0 n 0 (some .int) (shF_jumpStep g d) Qr (fun _ _ _ => False) tbF_jumpStep K → K 0 (mc_args av 2) [] n M L) : ctF_jumpStep g (d + 1) av n M L Qr :=
  mc_intro (own := RF) (tb := tbF_jumpStep) (sh := shF_jumpStep g d) rfl rfl nw_ok tok0 hcl0 (by decide +kernel) (show mc_swok tbF_jumpStep swF_jumpStep = true by decide +kernel) (show mc_swokL tbF_jumpStep swF_jumpStep = true by decide +kernel) fgF_ok (fpF_ok _) (fun _ h => absurd h List.not_mem_nil) klF_ok (calF_ok g d) rfl rfl hlen body
def swF_freeze : List (Nat × List (Int32 × Nat) × Nat) := []
def shF_freeze (g : mc_G) (d : Nat) : mc_SH := ((fgF, fpF), calF g d, [], [], [], klF, swF_freeze, none)
theorem inF_freeze {g : mc_G} {d : Nat} {av : List Value} {n : Nat} {M : mc_M} {L : mc_L} {Qr : Option Value → mc_M → mc_L → Prop} (hlen : (lg_sl (av.map (mc_ga g.2.2.1))).length ≤ 3) (body : ∀ K, mc_closed true tab0 n 0 none (shF_freeze g d) Qr (fun _ _ _ => False) tbF_freeze K → K 0 (mc_args av 3) [] n M L) : ctF_freeze g (d + 1) av n M L Qr :=
  mc_intro (own := RF) (tb := tbF_freeze) (sh := shF_freeze g d) rfl rfl nw_ok tok0 hcl0 (by decide +kernel) (show mc_swok tbF_freeze swF_freeze = true by decide +kernel) (show mc_swokL tbF_freeze swF_freeze = true by decide +kernel) fgF_ok (fpF_ok _) (fun _ h => absurd h List.not_mem_nil) klF_ok (calF_ok g d) rfl rfl hlen body
def swF_thaw : List (Nat × List (Int32 × Nat) × Nat) := []
def shF_thaw (g : mc_G) (d : Nat) : mc_SH := ((fgF, fpF), calF g d, [], [], [], klF, swF_thaw, none)
theorem inF_thaw {g : mc_G} {d : Nat} {av : List Value} {n : Nat} {M : mc_M} {L : mc_L} {Qr : Option Value → mc_M → mc_L → Prop} (hlen : (lg_sl (av.map (mc_ga g.2.2.1))).length ≤ 4) (body : ∀ K, mc_closed true tab0 n 0 none (shF_thaw g d) Qr (fun _ _ _ => False) tbF_thaw K → K 0 (mc_args av 4) [] n M L) : ctF_thaw g (d + 1) av n M L Qr :=
  mc_intro (own := RF) (tb := tbF_thaw) (sh := shF_thaw g d) rfl rfl nw_ok tok0 hcl0 (by decide +kernel) (show mc_swok tbF_thaw swF_thaw = true by decide +kernel) (show mc_swokL tbF_thaw swF_thaw = true by decide +kernel) fgF_ok (fpF_ok _) (fun _ h => absurd h List.not_mem_nil) klF_ok (calF_ok g d) rfl rfl hlen body
def swF_join : List (Nat × List (Int32 × Nat) × Nat) := []
def shF_join (g : mc_G) (d : Nat) : mc_SH := ((fgF, fpF), calF g d, [], [], [], klF, swF_join, none)
theorem inF_join {g : mc_G} {d : Nat} {av : List Value} {n : Nat} {M : mc_M} {L : mc_L} {Qr : Option Value → mc_M → mc_L → Prop} (hlen : (lg_sl (av.map (mc_ga g.2.2.1))).length ≤ 3) (body : ∀ K, mc_closed true tab0 n 0 none (shF_join g d) Qr (fun _ _ _ => False) tbF_join K → K 0 (mc_args av 3) [] n M L) : ctF_join g (d + 1) av n M L Qr :=
  mc_intro (own := RF) (tb := tbF_join) (sh := shF_join g d) rfl rfl nw_ok tok0 hcl0 (by decide +kernel) (show mc_swok tbF_join swF_join = true by decide +kernel) (show mc_swokL tbF_join swF_join = true by decide +kernel) fgF_ok (fpF_ok _) (fun _ h => absurd h List.not_mem_nil) klF_ok (calF_ok g d) rfl rfl hlen body
def swF_renumber : List (Nat × List (Int32 × Nat) × Nat) := []
def shF_renumber (g : mc_G) (d : Nat) : mc_SH := ((fgF, fpF), calF g d, [], [], [], klF, swF_renumber, none)
theorem inF_renumber {g : mc_G} {d : Nat} {av : List Value} {n : Nat} {M : mc_M} {L : mc_L} {Qr : Option Value → mc_M → mc_L → Prop} (hlen : (lg_sl (av.map (mc_ga g.2.2.1))).length ≤ 3) (body : ∀ K, mc_closed true tab0 n 0 none (shF_renumber g d) Qr (fun _ _ _ => False) tbF_renumber K → K 0 (mc_args av 3) [] n M L) : ctF_renumber g (d + 1) av n M L Qr :=
  mc_intro (own := RF) (tb := tbF_renumber) (sh := shF_renumber g d) rfl rfl nw_ok tok0 hcl0 (by decide +kernel) (show mc_swok tbF_renumber swF_renumber = true by decide +kernel) (show mc_swokL tbF_renumber swF_renumber = true by decide +kernel) fgF_ok (fpF_ok _) (fun _ h => absurd h List.not_mem_nil) klF_ok (calF_ok g d) rfl rfl hlen body
def swY_findStatics : List (Nat × List (Int32 × Nat) × Nat) := []
def shY_findStatics (g : mc_G) (d : Nat) : mc_SH := ((fgY, fpY), calY g d, [], [], [], klY, swY_findStatics, none)
theorem inY_findStatics {g : mc_G} {d : Nat} {av : List Value} {n : Nat} {M : mc_M} {L : mc_L} {Qr : Option Value → mc_M → mc_L → Prop} (hlen : (lg_sl (av.map (mc_ga g.2.2.1))).length ≤ 8) (body : ∀ K, mc_closed true tab0 n 0 (some .int) (shY_findStatics g d) Qr (fun _ _ _ => False) tbY_findStatics K → K 0 (mc_args av 8) [] n M L) : ctY_findStatics g (d + 1) av n M L Qr :=
  mc_intro (own := RY) (tb := tbY_findStatics) (sh := shY_findStatics g d) rfl rfl nw_ok tok0 hcl0 (by decide +kernel) (show mc_swok tbY_findStatics swY_findStatics = true by decide +kernel) (show mc_swokL tbY_findStatics swY_findStatics = true by decide +kernel) fgY_ok (fpY_ok _) (fun _ h => absurd h List.not_mem_nil) klY_ok (calY_ok g d) rfl rfl hlen body
def swY_withDynamicsOf : List (Nat × List (Int32 × Nat) × Nat) := []
def shY_withDynamicsOf (g : mc_G) (d : Nat) : mc_SH := ((fgY, fpY), calY g d, [], [], [], klY, swY_withDynamicsOf, none)
theorem inY_withDynamicsOf {g : mc_G} {d : Nat} {av : List Value} {n : Nat} {M : mc_M} {L : mc_L} {Qr : Option Value → mc_M → mc_L → Prop} (hlen : (lg_sl (av.map (mc_ga g.2.2.1))).length ≤ 7) (body : ∀ K, mc_closed true tab0 n 0 (some .int) (shY_withDynamicsOf g d) Qr (fun _ _ _ => False) tbY_withDynamicsOf K → K 0 (mc_args av 7) [] n M L) : ctY_withDynamicsOf g (d + 1) av n M L Qr :=
  mc_intro (own := RY) (tb := tbY_withDynamicsOf) (sh := shY_withDynamicsOf g d) rfl rfl nw_ok tok0 hcl0 (by decide +kernel) (show mc_swok tbY_withDynamicsOf swY_withDynamicsOf = true by decide +kernel) (show mc_swokL tbY_withDynamicsOf swY_withDynamicsOf = true by decide +kernel) fgY_ok (fpY_ok _) (fun _ h => absurd h List.not_mem_nil) klY_ok (calY_ok g d) rfl rfl hlen body
def swY_findLives : List (Nat × List (Int32 × Nat) × Nat) := []
def shY_findLives (g : mc_G) (d : Nat) : mc_SH := ((fgY, fpY), calY g d, [], [], [], klY, swY_findLives, none)
theorem inY_findLives {g : mc_G} {d : Nat} {av : List Value} {n : Nat} {M : mc_M} {L : mc_L} {Qr : Option Value → mc_M → mc_L → Prop} (hlen : (lg_sl (av.map (mc_ga g.2.2.1))).length ≤ 7) (body : ∀ K, mc_closed true tab0 n 0 none (shY_findLives g d) Qr (fun _ _ _ => False) tbY_findLives K → K 0 (mc_args av 7) [] n M L) : ctY_findLives g (d + 1) av n M L Qr :=
  mc_intro (own := RY) (tb := tbY_findLives) (sh := shY_findLives g d) rfl rfl nw_ok tok0 hcl0 (by decide +kernel) (show mc_swok tbY_findLives swY_findLives = true by decide +kernel) (show mc_swokL tbY_findLives swY_findLives = true by decide +kernel) fgY_ok (fpY_ok _) (fun _ h => absurd h List.not_mem_nil) klY_ok (calY_ok g d) rfl rfl hlen body
def swY_livesOf : List (Nat × List (Int32 × Nat) × Nat) := []
def shY_livesOf (g : mc_G) (d : Nat) : mc_SH := ((fgY, fpY), calY g d, [], [], [], klY, swY_livesOf, none)
theorem inY_livesOf {g : mc_G} {d : Nat} {av : List Value} {n : Nat} {M : mc_M} {L : mc_L} {Qr : Option Value → mc_M → mc_L → Prop} (hlen : (lg_sl (av.map (mc_ga g.2.2.1))).length ≤ 8) (body : ∀ K, mc_closed true tab0 n 0 (some .int) (shY_livesOf g d) Qr (fun _ _ _ => False) tbY_livesOf K → K 0 (mc_args av 8) [] n M L) : ctY_livesOf g (d + 1) av n M L Qr :=
  mc_intro (own := RY) (tb := tbY_livesOf) (sh := shY_livesOf g d) rfl rfl nw_ok tok0 hcl0 (by decide +kernel) (show mc_swok tbY_livesOf swY_livesOf = true by decide +kernel) (show mc_swokL tbY_livesOf swY_livesOf = true by decide +kernel) fgY_ok (fpY_ok _) (fun _ h => absurd h List.not_mem_nil) klY_ok (calY_ok g d) rfl rfl hlen body
def swY_livesAt : List (Nat × List (Int32 × Nat) × Nat) := []
def shY_livesAt (g : mc_G) (d : Nat) : mc_SH := ((fgY, fpY), calY g d, [], [], [], klY, swY_livesAt, none)
theorem inY_livesAt {g : mc_G} {d : Nat} {av : List Value} {n : Nat} {M : mc_M} {L : mc_L} {Qr : Option Value → mc_M → mc_L → Prop} (hlen : (lg_sl (av.map (mc_ga g.2.2.1))).length ≤ 2) (body : ∀ K, mc_closed true tab0 n 0 (some .int) (shY_livesAt g d) Qr (fun _ _ _ => False) tbY_livesAt K → K 0 (mc_args av 2) [] n M L) : ctY_livesAt g (d + 1) av n M L Qr :=
  mc_intro (own := RY) (tb := tbY_livesAt) (sh := shY_livesAt g d) rfl rfl nw_ok tok0 hcl0 (by decide +kernel) (show mc_swok tbY_livesAt swY_livesAt = true by decide +kernel) (show mc_swokL tbY_livesAt swY_livesAt = true by decide +kernel) fgY_ok (fpY_ok _) (fun _ h => absurd h List.not_mem_nil) klY_ok (calY_ok g d) rfl rfl hlen body
def swM_travel : List (Nat × List (Int32 × Nat) × Nat) := []
def shM_travel (g : mc_G) (d : Nat) : mc_SH := ((fgM, fpM), calM g d, [], [], [], klM, swM_travel, none)
theorem inM_travel {g : mc_G} {d : Nat} {av : List Value} {n : Nat} {M : mc_M} {L : mc_L} {Qr : Option Value → mc_M → mc_L → Prop} (hlen : (lg_sl (av.map (mc_ga g.2.2.1))).length ≤ 6) (body : ∀ K, mc_closed true tab0 n 0 (some .boolean) (shM_travel g d) Qr (fun _ _ _ => False) tbM_travel K → K 0 (mc_args av 6) [] n M L) : ctM_travel g (d + 1) av n M L Qr :=
  mc_intro (own := RM) (tb := tbM_travel) (sh := shM_travel g d) rfl rfl nw_ok tok0 hcl0 (by decide +kernel) (show mc_swok tbM_travel swM_travel = true by decide +kernel) (show mc_swokL tbM_travel swM_travel = true by decide +kernel) fgM_ok (fpM_ok _) (fun _ h => absurd h List.not_mem_nil) klM_ok (calM_ok g d) rfl rfl hlen body
def swM_doAssignments : List (Nat × List (Int32 × Nat) × Nat) := []
def shM_doAssignments (g : mc_G) (d : Nat) : mc_SH := ((fgM, fpM), calM g d, [], [], [], klM, swM_doAssignments, none)
theorem inM_doAssignments {g : mc_G} {d : Nat} {av : List Value} {n : Nat} {M : mc_M} {L : mc_L} {Qr : Option Value → mc_M → mc_L → Prop} (hlen : (lg_sl (av.map (mc_ga g.2.2.1))).length ≤ 6) (body : ∀ K, mc_closed true tab0 n 0 none (shM_doAssignments g d) Qr (fun _ _ _ => False) tbM_doAssignments K → K 0 (mc_args av 6) [] n M L) : ctM_doAssignments g (d + 1) av n M L Qr :=
  mc_intro (own := RM) (tb := tbM_doAssignments) (sh := shM_doAssignments g d) rfl rfl nw_ok tok0 hcl0 (by decide +kernel) (show mc_swok tbM_doAssignments swM_doAssignments = true by decide +kernel) (show mc_swokL tbM_doAssignments swM_doAssignments = true by decide +kernel) fgM_ok (fpM_ok _) (fun _ h => absurd h List.not_mem_nil) klM_ok (calM_ok g d) rfl rfl hlen body
def swM_doJump : List (Nat × List (Int32 × Nat) × Nat) := []
def shM_doJump (g : mc_G) (d : Nat) : mc_SH := ((fgM, fpM), calM g d, [], [], [], klM, swM_doJump, none)
theorem inM_doJump {g : mc_G} {d : Nat} {av : List Value} {n : Nat} {M : mc_M} {L : mc_L} {Qr : Option Value → mc_M → mc_L → Prop} (hlen : (lg_sl (av.map (mc_ga g.2.2.1))).length ≤ 6) (body : ∀ K, mc_closed true tab0 n 0 (some .boolean) (shM_doJump g d) Qr (fun _ _ _ => False) tbM_doJump K → K 0 (mc_args av 6) [] n M L) : ctM_doJump g (d + 1) av n M L Qr :=
  mc_intro (own := RM) (tb := tbM_doJump) (sh := shM_doJump g d) rfl rfl nw_ok tok0 hcl0 (by decide +kernel) (show mc_swok tbM_doJump swM_doJump = true by decide +kernel) (show mc_swokL tbM_doJump swM_doJump = true by decide +kernel) fgM_ok (fpM_ok _) (fun _ h => absurd h List.not_mem_nil) klM_ok (calM_ok g d) rfl rfl hlen body
def swX_work : List (Nat × List (Int32 × Nat) × Nat) := []
def shX_work (g : mc_G) (d : Nat) : mc_SH := ((fgX, fpX), calX g d, [], [], [], klX, swX_work, none)
theorem inX_work {g : mc_G} {d : Nat} {av : List Value} {n : Nat} {M : mc_M} {L : mc_L} {Qr : Option Value → mc_M → mc_L → Prop} (hlen : (lg_sl (av.map (mc_ga g.2.2.1))).length ≤ 7) (body : ∀ K, mc_closed true tab0 n 0 (some .boolean) (shX_work g d) Qr (fun _ _ _ => False) tbX_work K → K 0 (mc_args av 7) [] n M L) : ctX_work g (d + 1) av n M L Qr :=
  mc_intro (own := RX) (tb := tbX_work) (sh := shX_work g d) rfl rfl nw_ok tok0 hcl0 (by decide +kernel) (show mc_swok tbX_work swX_work = true by decide +kernel) (show mc_swokL tbX_work swX_work = true by decide +kernel) fgX_ok (fpX_ok _) (fun _ h => absurd h List.not_mem_nil) klX_ok (calX_ok g d) rfl rfl hlen body
def swX_mixAssignments : List (Nat × List (Int32 × Nat) × Nat) := []
def shX_mixAssignments (g : mc_G) (d : Nat) : mc_SH := ((fgX, fpX), calX g d, [], [], [], klX, swX_mixAssignments, none)
theorem inX_mixAssignments {g : mc_G} {d : Nat} {av : List Value} {n : Nat} {M : mc_M} {L : mc_L} {Qr : Option Value → mc_M → mc_L → Prop} (hlen : (lg_sl (av.map (mc_ga g.2.2.1))).length ≤ 10) (body : ∀ K, mc_closed true tab0 n 0 none (shX_mixAssignments g d) Qr (fun _ _ _ => False) tbX_mixAssignments K → K 0 (mc_args av 10) [] n M L) : ctX_mixAssignments g (d + 1) av n M L Qr :=
  mc_intro (own := RX) (tb := tbX_mixAssignments) (sh := shX_mixAssignments g d) rfl rfl nw_ok tok0 hcl0 (by decide +kernel) (show mc_swok tbX_mixAssignments swX_mixAssignments = true by decide +kernel) (show mc_swokL tbX_mixAssignments swX_mixAssignments = true by decide +kernel) fgX_ok (fpX_ok _) (fun _ h => absurd h List.not_mem_nil) klX_ok (calX_ok g d) rfl rfl hlen body
def swX_mixJump : List (Nat × List (Int32 × Nat) × Nat) := []
def shX_mixJump (g : mc_G) (d : Nat) : mc_SH := ((fgX, fpX), calX g d, [], [], [], klX, swX_mixJump, none)
theorem inX_mixJump {g : mc_G} {d : Nat} {av : List Value} {n : Nat} {M : mc_M} {L : mc_L} {Qr : Option Value → mc_M → mc_L → Prop} (hlen : (lg_sl (av.map (mc_ga g.2.2.1))).length ≤ 12) (body : ∀ K, mc_closed true tab0 n 0 none (shX_mixJump g d) Qr (fun _ _ _ => False) tbX_mixJump K → K 0 (mc_args av 12) [] n M L) : ctX_mixJump g (d + 1) av n M L Qr :=
  mc_intro (own := RX) (tb := tbX_mixJump) (sh := shX_mixJump g d) rfl rfl nw_ok tok0 hcl0 (by decide +kernel) (show mc_swok tbX_mixJump swX_mixJump = true by decide +kernel) (show mc_swokL tbX_mixJump swX_mixJump = true by decide +kernel) fgX_ok (fpX_ok _) (fun _ h => absurd h List.not_mem_nil) klX_ok (calX_ok g d) rfl rfl hlen body
def swX_comeTo : List (Nat × List (Int32 × Nat) × Nat) := []
def shX_comeTo (g : mc_G) (d : Nat) : mc_SH := ((fgX, fpX), calX g d, [], [], [], klX, swX_comeTo, none)
theorem inX_comeTo {g : mc_G} {d : Nat} {av : List Value} {n : Nat} {M : mc_M} {L : mc_L} {Qr : Option Value → mc_M → mc_L → Prop} (hlen : (lg_sl (av.map (mc_ga g.2.2.1))).length ≤ 3) (body : ∀ K, mc_closed true tab0 n 0 (some .int) (shX_comeTo g d) Qr (fun _ _ _ => False) tbX_comeTo K → K 0 (mc_args av 3) [] n M L) : ctX_comeTo g (d + 1) av n M L Qr :=
  mc_intro (own := RX) (tb := tbX_comeTo) (sh := shX_comeTo g d) rfl rfl nw_ok tok0 hcl0 (by decide +kernel) (show mc_swok tbX_comeTo swX_comeTo = true by decide +kernel) (show mc_swokL tbX_comeTo swX_comeTo = true by decide +kernel) fgX_ok (fpX_ok _) (fun _ h => absurd h List.not_mem_nil) klX_ok (calX_ok g d) rfl rfl hlen body
def swX_isWanted : List (Nat × List (Int32 × Nat) × Nat) := []
def shX_isWanted (g : mc_G) (d : Nat) : mc_SH := ((fgX, fpX), calX g d, [], [], [], klX, swX_isWanted, none)
theorem inX_isWanted {g : mc_G} {d : Nat} {av : List Value} {n : Nat} {M : mc_M} {L : mc_L} {Qr : Option Value → mc_M → mc_L → Prop} (hlen : (lg_sl (av.map (mc_ga g.2.2.1))).length ≤ 4) (body : ∀ K, mc_closed true tab0 n 0 (some .boolean) (shX_isWanted g d) Qr (fun _ _ _ => False) tbX_isWanted K → K 0 (mc_args av 4) [] n M L) : ctX_isWanted g (d + 1) av n M L Qr :=
  mc_intro (own := RX) (tb := tbX_isWanted) (sh := shX_isWanted g d) rfl rfl nw_ok tok0 hcl0 (by decide +kernel) (show mc_swok tbX_isWanted swX_isWanted = true by decide +kernel) (show mc_swokL tbX_isWanted swX_isWanted = true by decide +kernel) fgX_ok (fpX_ok _) (fun _ h => absurd h List.not_mem_nil) klX_ok (calX_ok g d) rfl rfl hlen body
def swC_work : List (Nat × List (Int32 × Nat) × Nat) := []
def shC_work (g : mc_G) (d : Nat) : mc_SH := ((fgC, fpC), calC g d, [], [], [], klC, swC_work, none)
theorem inC_work {g : mc_G} {d : Nat} {av : List Value} {n : Nat} {M : mc_M} {L : mc_L} {Qr : Option Value → mc_M → mc_L → Prop} (hlen : (lg_sl (av.map (mc_ga g.2.2.1))).length ≤ 4) (body : ∀ K, mc_closed true tab0 n 0 none (shC_work g d) Qr (fun _ _ _ => False) tbC_work K → K 0 (mc_args av 4) [] n M L) : ctC_work g (d + 1) av n M L Qr :=
  mc_intro (own := RC) (tb := tbC_work) (sh := shC_work g d) rfl rfl nw_ok tok0 hcl0 (by decide +kernel) (show mc_swok tbC_work swC_work = true by decide +kernel) (show mc_swokL tbC_work swC_work = true by decide +kernel) fgC_ok (fpC_ok _) (fun _ h => absurd h List.not_mem_nil) klC_ok (calC_ok g d) rfl rfl hlen body
def swC_findArrivals : List (Nat × List (Int32 × Nat) × Nat) := []
def shC_findArrivals (g : mc_G) (d : Nat) : mc_SH := ((fgC, fpC), calC g d, [], [], [], klC, swC_findArrivals, none)
theorem inC_findArrivals {g : mc_G} {d : Nat} {av : List Value} {n : Nat} {M : mc_M} {L : mc_L} {Qr : Option Value → mc_M → mc_L → Prop} (hlen : (lg_sl (av.map (mc_ga g.2.2.1))).length ≤ 4) (body : ∀ K, mc_closed true tab0 n 0 none (shC_findArrivals g d) Qr (fun _ _ _ => False) tbC_findArrivals K → K 0 (mc_args av 4) [] n M L) : ctC_findArrivals g (d + 1) av n M L Qr :=
  mc_intro (own := RC) (tb := tbC_findArrivals) (sh := shC_findArrivals g d) rfl rfl nw_ok tok0 hcl0 (by decide +kernel) (show mc_swok tbC_findArrivals swC_findArrivals = true by decide +kernel) (show mc_swokL tbC_findArrivals swC_findArrivals = true by decide +kernel) fgC_ok (fpC_ok _) (fun _ h => absurd h List.not_mem_nil) klC_ok (calC_ok g d) rfl rfl hlen body
def swC_lowestToMove : List (Nat × List (Int32 × Nat) × Nat) := []
def shC_lowestToMove (g : mc_G) (d : Nat) : mc_SH := ((fgC, fpC), calC g d, [], [], [], klC, swC_lowestToMove, none)
theorem inC_lowestToMove {g : mc_G} {d : Nat} {av : List Value} {n : Nat} {M : mc_M} {L : mc_L} {Qr : Option Value → mc_M → mc_L → Prop} (hlen : (lg_sl (av.map (mc_ga g.2.2.1))).length ≤ 4) (body : ∀ K, mc_closed true tab0 n 0 (some .int) (shC_lowestToMove g d) Qr (fun _ _ _ => False) tbC_lowestToMove K → K 0 (mc_args av 4) [] n M L) : ctC_lowestToMove g (d + 1) av n M L Qr :=
  mc_intro (own := RC) (tb := tbC_lowestToMove) (sh := shC_lowestToMove g d) rfl rfl nw_ok tok0 hcl0 (by decide +kernel) (show mc_swok tbC_lowestToMove swC_lowestToMove = true by decide +kernel) (show mc_swokL tbC_lowestToMove swC_lowestToMove = true by decide +kernel) fgC_ok (fpC_ok _) (fun _ h => absurd h List.not_mem_nil) klC_ok (calC_ok g d) rfl rfl hlen body
def swC_numberAnew : List (Nat × List (Int32 × Nat) × Nat) := []
def shC_numberAnew (g : mc_G) (d : Nat) : mc_SH := ((fgC, fpC), calC g d, [], [], [], klC, swC_numberAnew, none)
theorem inC_numberAnew {g : mc_G} {d : Nat} {av : List Value} {n : Nat} {M : mc_M} {L : mc_L} {Qr : Option Value → mc_M → mc_L → Prop} (hlen : (lg_sl (av.map (mc_ga g.2.2.1))).length ≤ 5) (body : ∀ K, mc_closed true tab0 n 0 none (shC_numberAnew g d) Qr (fun _ _ _ => False) tbC_numberAnew K → K 0 (mc_args av 5) [] n M L) : ctC_numberAnew g (d + 1) av n M L Qr :=
  mc_intro (own := RC) (tb := tbC_numberAnew) (sh := shC_numberAnew g d) rfl rfl nw_ok tok0 hcl0 (by decide +kernel) (show mc_swok tbC_numberAnew swC_numberAnew = true by decide +kernel) (show mc_swokL tbC_numberAnew swC_numberAnew = true by decide +kernel) fgC_ok (fpC_ok _) (fun _ h => absurd h List.not_mem_nil) klC_ok (calC_ok g d) rfl rfl hlen body
def swC_numberOf : List (Nat × List (Int32 × Nat) × Nat) := []
def shC_numberOf (g : mc_G) (d : Nat) : mc_SH := ((fgC, fpC), calC g d, [], [], [], klC, swC_numberOf, none)
theorem inC_numberOf {g : mc_G} {d : Nat} {av : List Value} {n : Nat} {M : mc_M} {L : mc_L} {Qr : Option Value → mc_M → mc_L → Prop} (hlen : (lg_sl (av.map (mc_ga g.2.2.1))).length ≤ 2) (body : ∀ K, mc_closed true tab0 n 0 (some .int) (shC_numberOf g d) Qr (fun _ _ _ => False) tbC_numberOf K → K 0 (mc_args av 2) [] n M L) : ctC_numberOf g (d + 1) av n M L Qr :=
  mc_intro (own := RC) (tb := tbC_numberOf) (sh := shC_numberOf g d) rfl rfl nw_ok tok0 hcl0 (by decide +kernel) (show mc_swok tbC_numberOf swC_numberOf = true by decide +kernel) (show mc_swokL tbC_numberOf swC_numberOf = true by decide +kernel) fgC_ok (fpC_ok _) (fun _ h => absurd h List.not_mem_nil) klC_ok (calC_ok g d) rfl rfl hlen body
def swT_refresh : List (Nat × List (Int32 × Nat) × Nat) := []
def shT_refresh (g : mc_G) (d : Nat) : mc_SH := ((fgT, fpT), calT g d, [], [], [], klT, swT_refresh, none)
theorem inT_refresh {g : mc_G} {d : Nat} {av : List Value} {n : Nat} {M : mc_M} {L : mc_L} {Qr : Option Value → mc_M → mc_L → Prop} (hlen : (lg_sl (av.map (mc_ga g.2.2.1))).length ≤ 4) (body : ∀ K, mc_closed true tab0 n 0 none (shT_refresh g d) Qr (fun _ _ _ => False) tbT_refresh K → K 0 (mc_args av 4) [] n M L) : ctT_refresh g (d + 1) av n M L Qr :=
  mc_intro (own := RT) (tb := tbT_refresh) (sh := shT_refresh g d) rfl rfl nw_ok tok0 hcl0 (by decide +kernel) (show mc_swok tbT_refresh swT_refresh = true by decide +kernel) (show mc_swokL tbT_refresh swT_refresh = true by decide +kernel) fgT_ok (fpT_ok _) (fun _ h => absurd h List.not_mem_nil) klT_ok (calT_ok g d) rfl rfl hlen body
def swT_putAssignments : List (Nat × List (Int32 × Nat) × Nat) := []
def shT_putAssignments (g : mc_G) (d : Nat) : mc_SH := ((fgT, fpT), calT g d, [], [], [], klT, swT_putAssignments, none)
theorem inT_putAssignments {g : mc_G} {d : Nat} {av : List Value} {n : Nat} {M : mc_M} {L : mc_L} {Qr : Option Value → mc_M → mc_L → Prop} (hlen : (lg_sl (av.map (mc_ga g.2.2.1))).length ≤ 6) (body : ∀ K, mc_closed true tab0 n 0 none (shT_putAssignments g d) Qr (fun _ _ _ => False) tbT_putAssignments K → K 0 (mc_args av 6) [] n M L) : ctT_putAssignments g (d + 1) av n M L Qr :=
  mc_intro (own := RT) (tb := tbT_putAssignments) (sh := shT_putAssignments g d) rfl rfl nw_ok tok0 hcl0 (by decide +kernel) (show mc_swok tbT_putAssignments swT_putAssignments = true by decide +kernel) (show mc_swokL tbT_putAssignments swT_putAssignments = true by decide +kernel) fgT_ok (fpT_ok _) (fun _ h => absurd h List.not_mem_nil) klT_ok (calT_ok g d) rfl rfl hlen body
def swT_putJump : List (Nat × List (Int32 × Nat) × Nat) := [(15, [(0, 40), (1, 60)], 114)]
def shT_putJump (g : mc_G) (d : Nat) : mc_SH := ((fgT, fpT), calT g d, [], [], [], klT, swT_putJump, none)
theorem inT_putJump {g : mc_G} {d : Nat} {av : List Value} {n : Nat} {M : mc_M} {L : mc_L} {Qr : Option Value → mc_M → mc_L → Prop} (hlen : (lg_sl (av.map (mc_ga g.2.2.1))).length ≤ 5) (body : ∀ K, mc_closed true tab0 n 0 none (shT_putJump g d) Qr (fun _ _ _ => False) tbT_putJump K → K 0 (mc_args av 5) [] n M L) : ctT_putJump g (d + 1) av n M L Qr :=
  mc_intro (own := RT) (tb := tbT_putJump) (sh := shT_putJump g d) rfl rfl nw_ok tok0 hcl0 (by decide +kernel) (show mc_swok tbT_putJump swT_putJump = true by decide +kernel) (show mc_swokL tbT_putJump swT_putJump = true by decide +kernel) fgT_ok (fpT_ok _) (fun _ h => absurd h List.not_mem_nil) klT_ok (calT_ok g d) rfl rfl hlen body
def swT_putNodeOf : List (Nat × List (Int32 × Nat) × Nat) := []
def shT_putNodeOf (g : mc_G) (d : Nat) : mc_SH := ((fgT, fpT), calT g d, [], [], [], klT, swT_putNodeOf, none)
theorem inT_putNodeOf {g : mc_G} {d : Nat} {av : List Value} {n : Nat} {M : mc_M} {L : mc_L} {Qr : Option Value → mc_M → mc_L → Prop} (hlen : (lg_sl (av.map (mc_ga g.2.2.1))).length ≤ 4) (body : ∀ K, mc_closed true tab0 n 0 none (shT_putNodeOf g d) Qr (fun _ _ _ => False) tbT_putNodeOf K → K 0 (mc_args av 4) [] n M L) : ctT_putNodeOf g (d + 1) av n M L Qr :=
  mc_intro (own := RT) (tb := tbT_putNodeOf) (sh := shT_putNodeOf g d) rfl rfl nw_ok tok0 hcl0 (by decide +kernel) (show mc_swok tbT_putNodeOf swT_putNodeOf = true by decide +kernel) (show mc_swokL tbT_putNodeOf swT_putNodeOf = true by decide +kernel) fgT_ok (fpT_ok _) (fun _ h => absurd h List.not_mem_nil) klT_ok (calT_ok g d) rfl rfl hlen body
def swT_putPart : List (Nat × List (Int32 × Nat) × Nat) := []
def shT_putPart (g : mc_G) (d : Nat) : mc_SH := ((fgT, fpT), calT g d, [], [], [], klT, swT_putPart, none)
theorem inT_putPart {g : mc_G} {d : Nat} {av : List Value} {n : Nat} {M : mc_M} {L : mc_L} {Qr : Option Value → mc_M → mc_L → Prop} (hlen : (lg_sl (av.map (mc_ga g.2.2.1))).length ≤ 5) (body : ∀ K, mc_closed true tab0 n 0 none (shT_putPart g d) Qr (fun _ _ _ => False) tbT_putPart K → K 0 (mc_args av 5) [] n M L) : ctT_putPart g (d + 1) av n M L Qr :=
  mc_intro (own := RT) (tb := tbT_putPart) (sh := shT_putPart g d) rfl rfl nw_ok tok0 hcl0 (by decide +kernel) (show mc_swok tbT_putPart swT_putPart = true by decide +kernel) (show mc_swokL tbT_putPart swT_putPart = true by decide +kernel) fgT_ok (fpT_ok _) (fun _ h => absurd h List.not_mem_nil) klT_ok (calT_ok g d) rfl rfl hlen body
def swT_putLetter : List (Nat × List (Int32 × Nat) × Nat) := []
def shT_putLetter (g : mc_G) (d : Nat) : mc_SH := ((fgT, fpT), calT g d, [], [], [], klT, swT_putLetter, none)
theorem inT_putLetter {g : mc_G} {d : Nat} {av : List Value} {n : Nat} {M : mc_M} {L : mc_L} {Qr : Option Value → mc_M → mc_L → Prop} (hlen : (lg_sl (av.map (mc_ga g.2.2.1))).length ≤ 2) (body : ∀ K, mc_closed true tab0 n 0 none (shT_putLetter g d) Qr (fun _ _ _ => False) tbT_putLetter K → K 0 (mc_args av 2) [] n M L) : ctT_putLetter g (d + 1) av n M L Qr :=
  mc_intro (own := RT) (tb := tbT_putLetter) (sh := shT_putLetter g d) rfl rfl nw_ok tok0 hcl0 (by decide +kernel) (show mc_swok tbT_putLetter swT_putLetter = true by decide +kernel) (show mc_swokL tbT_putLetter swT_putLetter = true by decide +kernel) fgT_ok (fpT_ok _) (fun _ h => absurd h List.not_mem_nil) klT_ok (calT_ok g d) rfl rfl hlen body
def swT_putNumber : List (Nat × List (Int32 × Nat) × Nat) := []
def shT_putNumber (g : mc_G) (d : Nat) : mc_SH := ((fgT, fpT), calT g d, [], [], [], klT, swT_putNumber, none)
theorem inT_putNumber {g : mc_G} {d : Nat} {av : List Value} {n : Nat} {M : mc_M} {L : mc_L} {Qr : Option Value → mc_M → mc_L → Prop} (hlen : (lg_sl (av.map (mc_ga g.2.2.1))).length ≤ 7) (body : ∀ K, mc_closed true tab0 n 0 none (shT_putNumber g d) Qr (fun _ _ _ => False) tbT_putNumber K → K 0 (mc_args av 7) [] n M L) : ctT_putNumber g (d + 1) av n M L Qr :=
  mc_intro (own := RT) (tb := tbT_putNumber) (sh := shT_putNumber g d) rfl rfl nw_ok tok0 hcl0 (by decide +kernel) (show mc_swok tbT_putNumber swT_putNumber = true by decide +kernel) (show mc_swokL tbT_putNumber swT_putNumber = true by decide +kernel) fgT_ok (fpT_ok _) (fun _ h => absurd h List.not_mem_nil) klT_ok (calT_ok g d) rfl rfl hlen body
def swT_put : List (Nat × List (Int32 × Nat) × Nat) := []
def shT_put (g : mc_G) (d : Nat) : mc_SH := ((fgT, fpT), calT g d, [], [], [], klT, swT_put, none)
theorem inT_put {g : mc_G} {d : Nat} {av : List Value} {n : Nat} {M : mc_M} {L : mc_L} {Qr : Option Value → mc_M → mc_L → Prop} (hlen : (lg_sl (av.map (mc_ga g.2.2.1))).length ≤ 2) (body : ∀ K, mc_closed true tab0 n 0 none (shT_put g d) Qr (fun _ _ _ => False) tbT_put K → K 0 (mc_args av 2) [] n M L) : ctT_put g (d + 1) av n M L Qr :=
  mc_intro (own := RT) (tb := tbT_put) (sh := shT_put g d) rfl rfl nw_ok tok0 hcl0 (by decide +kernel) (show mc_swok tbT_put swT_put = true by decide +kernel) (show mc_swokL tbT_put swT_put = true by decide +kernel) fgT_ok (fpT_ok _) (fun _ h => absurd h List.not_mem_nil) klT_ok (calT_ok g d) rfl rfl hlen body
def swR_thrown : List (Nat × List (Int32 × Nat) × Nat) := []
def shR_thrown (g : mc_G) (d : Nat) : mc_SH := ((fgR, fpR), calR g d, [], [], [], klR, swR_thrown, none)
theorem inR_thrown {g : mc_G} {d : Nat} {av : List Value} {n : Nat} {M : mc_M} {L : mc_L} {Qr : Option Value → mc_M → mc_L → Prop} (hlen : (lg_sl (av.map (mc_ga g.2.2.1))).length ≤ 1) (body : ∀ K, mc_closed true tab0 n 0 (some .int) (shR_thrown g d) Qr (fun _ _ _ => False) tbR_thrown K → K 0 (mc_args av 1) [] n M L) : ctR_thrown g (d + 1) av n M L Qr :=
  mc_intro (own := RR) (tb := tbR_thrown) (sh := shR_thrown g d) rfl rfl nw_ok tok0 hcl0 (by decide +kernel) (show mc_swok tbR_thrown swR_thrown = true by decide +kernel) (show mc_swokL tbR_thrown swR_thrown = true by decide +kernel) fgR_ok (fpR_ok _) (fun _ h => absurd h List.not_mem_nil) klR_ok (calR_ok g d) rfl rfl hlen body
def swR_goes : List (Nat × List (Int32 × Nat) × Nat) := []
def shR_goes (g : mc_G) (d : Nat) : mc_SH := ((fgR, fpR), calR g d, [], [], [], klR, swR_goes, none)
theorem inR_goes {g : mc_G} {d : Nat} {av : List Value} {n : Nat} {M : mc_M} {L : mc_L} {Qr : Option Value → mc_M → mc_L → Prop} (hlen : (lg_sl (av.map (mc_ga g.2.2.1))).length ≤ 3) (body : ∀ K, mc_closed true tab0 n 0 (some .boolean) (shR_goes g d) Qr (fun _ _ _ => False) tbR_goes K → K 0 (mc_args av 3) [] n M L) : ctR_goes g (d + 1) av n M L Qr :=
  mc_intro (own := RR) (tb := tbR_goes) (sh := shR_goes g d) rfl rfl nw_ok tok0 hcl0 (by decide +kernel) (show mc_swok tbR_goes swR_goes = true by decide +kernel) (show mc_swokL tbR_goes swR_goes = true by decide +kernel) fgR_ok (fpR_ok _) (fun _ h => absurd h List.not_mem_nil) klR_ok (calR_ok g d) rfl rfl hlen body
def swR_within : List (Nat × List (Int32 × Nat) × Nat) := []
def shR_within (g : mc_G) (d : Nat) : mc_SH := ((fgR, fpR), calR g d, [], [], [], klR, swR_within, none)
theorem inR_within {g : mc_G} {d : Nat} {av : List Value} {n : Nat} {M : mc_M} {L : mc_L} {Qr : Option Value → mc_M → mc_L → Prop} (hlen : (lg_sl (av.map (mc_ga g.2.2.1))).length ≤ 3) (body : ∀ K, mc_closed true tab0 n 0 (some .boolean) (shR_within g d) Qr (fun _ _ _ => False) tbR_within K → K 0 (mc_args av 3) [] n M L) : ctR_within g (d + 1) av n M L Qr :=
  mc_intro (own := RR) (tb := tbR_within) (sh := shR_within g d) rfl rfl nw_ok tok0 hcl0 (by decide +kernel) (show mc_swok tbR_within swR_within = true by decide +kernel) (show mc_swokL tbR_within swR_within = true by decide +kernel) fgR_ok (fpR_ok _) (fun _ h => absurd h List.not_mem_nil) klR_ok (calR_ok g d) rfl rfl hlen body
def swR_isNode : List (Nat × List (Int32 × Nat) × Nat) := []
def shR_isNode (g : mc_G) (d : Nat) : mc_SH := ((fgR, fpR), calR g d, [], [], [], klR, swR_isNode, none)
theorem inR_isNode {g : mc_G} {d : Nat} {av : List Value} {n : Nat} {M : mc_M} {L : mc_L} {Qr : Option Value → mc_M → mc_L → Prop} (hlen : (lg_sl (av.map (mc_ga g.2.2.1))).length ≤ 2) (body : ∀ K, mc_closed true tab0 n 0 (some .boolean) (shR_isNode g d) Qr (fun _ _ _ => False) tbR_isNode K → K 0 (mc_args av 2) [] n M L) : ctR_isNode g (d + 1) av n M L Qr :=
  mc_intro (own := RR) (tb := tbR_isNode) (sh := shR_isNode g d) rfl rfl nw_ok tok0 hcl0 (by decide +kernel) (show mc_swok tbR_isNode swR_isNode = true by decide +kernel) (show mc_swokL tbR_isNode swR_isNode = true by decide +kernel) fgR_ok (fpR_ok _) (fun _ h => absurd h List.not_mem_nil) klR_ok (calR_ok g d) rfl rfl hlen body
def swR_isVariable : List (Nat × List (Int32 × Nat) × Nat) := []
def shR_isVariable (g : mc_G) (d : Nat) : mc_SH := ((fgR, fpR), calR g d, [], [], [], klR, swR_isVariable, none)
theorem inR_isVariable {g : mc_G} {d : Nat} {av : List Value} {n : Nat} {M : mc_M} {L : mc_L} {Qr : Option Value → mc_M → mc_L → Prop} (hlen : (lg_sl (av.map (mc_ga g.2.2.1))).length ≤ 1) (body : ∀ K, mc_closed true tab0 n 0 (some .boolean) (shR_isVariable g d) Qr (fun _ _ _ => False) tbR_isVariable K → K 0 (mc_args av 1) [] n M L) : ctR_isVariable g (d + 1) av n M L Qr :=
  mc_intro (own := RR) (tb := tbR_isVariable) (sh := shR_isVariable g d) rfl rfl nw_ok tok0 hcl0 (by decide +kernel) (show mc_swok tbR_isVariable swR_isVariable = true by decide +kernel) (show mc_swokL tbR_isVariable swR_isVariable = true by decide +kernel) fgR_ok (fpR_ok _) (fun _ h => absurd h List.not_mem_nil) klR_ok (calR_ok g d) rfl rfl hlen body
def swR_isBlock : List (Nat × List (Int32 × Nat) × Nat) := []
def shR_isBlock (g : mc_G) (d : Nat) : mc_SH := ((fgR, fpR), calR g d, [], [], [], klR, swR_isBlock, none)
theorem inR_isBlock {g : mc_G} {d : Nat} {av : List Value} {n : Nat} {M : mc_M} {L : mc_L} {Qr : Option Value → mc_M → mc_L → Prop} (hlen : (lg_sl (av.map (mc_ga g.2.2.1))).length ≤ 1) (body : ∀ K, mc_closed true tab0 n 0 (some .boolean) (shR_isBlock g d) Qr (fun _ _ _ => False) tbR_isBlock K → K 0 (mc_args av 1) [] n M L) : ctR_isBlock g (d + 1) av n M L Qr :=
  mc_intro (own := RR) (tb := tbR_isBlock) (sh := shR_isBlock g d) rfl rfl nw_ok tok0 hcl0 (by decide +kernel) (show mc_swok tbR_isBlock swR_isBlock = true by decide +kernel) (show mc_swokL tbR_isBlock swR_isBlock = true by decide +kernel) fgR_ok (fpR_ok _) (fun _ h => absurd h List.not_mem_nil) klR_ok (calR_ok g d) rfl rfl hlen body
def swR_plain : List (Nat × List (Int32 × Nat) × Nat) := []
def shR_plain (g : mc_G) (d : Nat) : mc_SH := ((fgR, fpR), calR g d, [], [], [], klR, swR_plain, none)
theorem inR_plain {g : mc_G} {d : Nat} {av : List Value} {n : Nat} {M : mc_M} {L : mc_L} {Qr : Option Value → mc_M → mc_L → Prop} (hlen : (lg_sl (av.map (mc_ga g.2.2.1))).length ≤ 2) (body : ∀ K, mc_closed true tab0 n 0 none (shR_plain g d) Qr (fun _ _ _ => False) tbR_plain K → K 0 (mc_args av 2) [] n M L) : ctR_plain g (d + 1) av n M L Qr :=
  mc_intro (own := RR) (tb := tbR_plain) (sh := shR_plain g d) rfl rfl nw_ok tok0 hcl0 (by decide +kernel) (show mc_swok tbR_plain swR_plain = true by decide +kernel) (show mc_swokL tbR_plain swR_plain = true by decide +kernel) fgR_ok (fpR_ok _) (fun _ h => absurd h List.not_mem_nil) klR_ok (calR_ok g d) rfl rfl hlen body
def swR_node : List (Nat × List (Int32 × Nat) × Nat) := []
def shR_node (g : mc_G) (d : Nat) : mc_SH := ((fgR, fpR), calR g d, [], [], [], klR, swR_node, none)
theorem inR_node {g : mc_G} {d : Nat} {av : List Value} {n : Nat} {M : mc_M} {L : mc_L} {Qr : Option Value → mc_M → mc_L → Prop} (hlen : (lg_sl (av.map (mc_ga g.2.2.1))).length ≤ 6) (body : ∀ K, mc_closed true tab0 n 0 (some .int) (shR_node g d) Qr (fun _ _ _ => False) tbR_node K → K 0 (mc_args av 6) [] n M L) : ctR_node g (d + 1) av n M L Qr :=
  mc_intro (own := RR) (tb := tbR_node) (sh := shR_node g d) rfl rfl nw_ok tok0 hcl0 (by decide +kernel) (show mc_swok tbR_node swR_node = true by decide +kernel) (show mc_swokL tbR_node swR_node = true by decide +kernel) fgR_ok (fpR_ok _) (fun _ h => absurd h List.not_mem_nil) klR_ok (calR_ok g d) rfl rfl hlen body
def swR_assign : List (Nat × List (Int32 × Nat) × Nat) := []
def shR_assign (g : mc_G) (d : Nat) : mc_SH := ((fgR, fpR), calR g d, [], [], [], klR, swR_assign, none)
theorem inR_assign {g : mc_G} {d : Nat} {av : List Value} {n : Nat} {M : mc_M} {L : mc_L} {Qr : Option Value → mc_M → mc_L → Prop} (hlen : (lg_sl (av.map (mc_ga g.2.2.1))).length ≤ 5) (body : ∀ K, mc_closed true tab0 n 0 (some .int) (shR_assign g d) Qr (fun _ _ _ => False) tbR_assign K → K 0 (mc_args av 5) [] n M L) : ctR_assign g (d + 1) av n M L Qr :=
  mc_intro (own := RR) (tb := tbR_assign) (sh := shR_assign g d) rfl rfl nw_ok tok0 hcl0 (by decide +kernel) (show mc_swok tbR_assign swR_assign = true by decide +kernel) (show mc_swokL tbR_assign swR_assign = true by decide +kernel) fgR_ok (fpR_ok _) (fun _ h => absurd h List.not_mem_nil) klR_ok (calR_ok g d) rfl rfl hlen body
def swR_jump : List (Nat × List (Int32 × Nat) × Nat) := []
def shR_jump (g : mc_G) (d : Nat) : mc_SH := ((fgR, fpR), calR g d, [], [], [], klR, swR_jump, none)
theorem inR_jump {g : mc_G} {d : Nat} {av : List Value} {n : Nat} {M : mc_M} {L : mc_L} {Qr : Option Value → mc_M → mc_L → Prop} (hlen : (lg_sl (av.map (mc_ga g.2.2.1))).length ≤ 7) (body : ∀ K, mc_closed true tab0 n 0 none (shR_jump g d) Qr (fun _ _ _ => False) tbR_jump K → K 0 (mc_args av 7) [] n M L) : ctR_jump g (d + 1) av n M L Qr :=
  mc_intro (own := RR) (tb := tbR_jump) (sh := shR_jump g d) rfl rfl nw_ok tok0 hcl0 (by decide +kernel) (show mc_swok tbR_jump swR_jump = true by decide +kernel) (show mc_swokL tbR_jump swR_jump = true by decide +kernel) fgR_ok (fpR_ok _) (fun _ h => absurd h List.not_mem_nil) klR_ok (calR_ok g d) rfl rfl hlen body
def swR_clear : List (Nat × List (Int32 × Nat) × Nat) := []
def shR_clear (g : mc_G) (d : Nat) : mc_SH := ((fgR, fpR), calR g d, [], [], [], klR, swR_clear, none)
theorem inR_clear {g : mc_G} {d : Nat} {av : List Value} {n : Nat} {M : mc_M} {L : mc_L} {Qr : Option Value → mc_M → mc_L → Prop} (hlen : (lg_sl (av.map (mc_ga g.2.2.1))).length ≤ 3) (body : ∀ K, mc_closed true tab0 n 0 (some .int) (shR_clear g d) Qr (fun _ _ _ => False) tbR_clear K → K 0 (mc_args av 3) [] n M L) : ctR_clear g (d + 1) av n M L Qr :=
  mc_intro (own := RR) (tb := tbR_clear) (sh := shR_clear g d) rfl rfl nw_ok tok0 hcl0 (by decide +kernel) (show mc_swok tbR_clear swR_clear = true by decide +kernel) (show mc_swokL tbR_clear swR_clear = true by decide +kernel) fgR_ok (fpR_ok _) (fun _ h => absurd h List.not_mem_nil) klR_ok (calR_ok g d) rfl rfl hlen body
def swR_input : List (Nat × List (Int32 × Nat) × Nat) := []
def shR_input (g : mc_G) (d : Nat) : mc_SH := ((fgR, fpR), calR g d, [], [], [], klR, swR_input, none)
theorem inR_input {g : mc_G} {d : Nat} {av : List Value} {n : Nat} {M : mc_M} {L : mc_L} {Qr : Option Value → mc_M → mc_L → Prop} (hlen : (lg_sl (av.map (mc_ga g.2.2.1))).length ≤ 4) (body : ∀ K, mc_closed true tab0 n 0 (some .int) (shR_input g d) Qr (fun _ _ _ => False) tbR_input K → K 0 (mc_args av 4) [] n M L) : ctR_input g (d + 1) av n M L Qr :=
  mc_intro (own := RR) (tb := tbR_input) (sh := shR_input g d) rfl rfl nw_ok tok0 hcl0 (by decide +kernel) (show mc_swok tbR_input swR_input = true by decide +kernel) (show mc_swokL tbR_input swR_input = true by decide +kernel) fgR_ok (fpR_ok _) (fun _ h => absurd h List.not_mem_nil) klR_ok (calR_ok g d) rfl rfl hlen body
def swR_worth : List (Nat × List (Int32 × Nat) × Nat) := [(73, [(0, 112), (1, 127), (2, 147), (3, 160), (4, 173), (5, 186)], 206)]
def shR_worth (g : mc_G) (d : Nat) : mc_SH := ((fgR, fpR), calR g d, [], [], [], klR, swR_worth, none)
theorem inR_worth {g : mc_G} {d : Nat} {av : List Value} {n : Nat} {M : mc_M} {L : mc_L} {Qr : Option Value → mc_M → mc_L → Prop} (hlen : (lg_sl (av.map (mc_ga g.2.2.1))).length ≤ 5) (body : ∀ K, mc_closed true tab0 n 0 (some .int) (shR_worth g d) Qr (fun _ _ _ => False) tbR_worth K → K 0 (mc_args av 5) [] n M L) : ctR_worth g (d + 1) av n M L Qr :=
  mc_intro (own := RR) (tb := tbR_worth) (sh := shR_worth g d) rfl rfl nw_ok tok0 hcl0 (by decide +kernel) (show mc_swok tbR_worth swR_worth = true by decide +kernel) (show mc_swokL tbR_worth swR_worth = true by decide +kernel) fgR_ok (fpR_ok _) (fun _ h => absurd h List.not_mem_nil) klR_ok (calR_ok g d) rfl rfl hlen body
def swR_begin : List (Nat × List (Int32 × Nat) × Nat) := []
def shR_begin (g : mc_G) (d : Nat) : mc_SH := ((fgR, fpR), calR g d, [], [], [], klR, swR_begin, none)
theorem inR_begin {g : mc_G} {d : Nat} {av : List Value} {n : Nat} {M : mc_M} {L : mc_L} {Qr : Option Value → mc_M → mc_L → Prop} (hlen : (lg_sl (av.map (mc_ga g.2.2.1))).length ≤ 2) (body : ∀ K, mc_closed true tab0 n 0 none (shR_begin g d) Qr (fun _ _ _ => False) tbR_begin K → K 0 (mc_args av 2) [] n M L) : ctR_begin g (d + 1) av n M L Qr :=
  mc_intro (own := RR) (tb := tbR_begin) (sh := shR_begin g d) rfl rfl nw_ok tok0 hcl0 (by decide +kernel) (show mc_swok tbR_begin swR_begin = true by decide +kernel) (show mc_swokL tbR_begin swR_begin = true by decide +kernel) fgR_ok (fpR_ok _) (fun _ h => absurd h List.not_mem_nil) klR_ok (calR_ok g d) rfl rfl hlen body
def swR_run : List (Nat × List (Int32 × Nat) × Nat) := []
def shR_run (g : mc_G) (d : Nat) : mc_SH := ((fgR, fpR), calR g d, [], [], [], klR, swR_run, none)
theorem inR_run {g : mc_G} {d : Nat} {av : List Value} {n : Nat} {M : mc_M} {L : mc_L} {Qr : Option Value → mc_M → mc_L → Prop} (hlen : (lg_sl (av.map (mc_ga g.2.2.1))).length ≤ 4) (body : ∀ K, mc_closed true tab0 n 0 (some .boolean) (shR_run g d) Qr (fun _ _ _ => False) tbR_run K → K 0 (mc_args av 4) [] n M L) : ctR_run g (d + 1) av n M L Qr :=
  mc_intro (own := RR) (tb := tbR_run) (sh := shR_run g d) rfl rfl nw_ok tok0 hcl0 (by decide +kernel) (show mc_swok tbR_run swR_run = true by decide +kernel) (show mc_swokL tbR_run swR_run = true by decide +kernel) fgR_ok (fpR_ok _) (fun _ h => absurd h List.not_mem_nil) klR_ok (calR_ok g d) rfl rfl hlen body
def swR_result : List (Nat × List (Int32 × Nat) × Nat) := []
def shR_result (g : mc_G) (d : Nat) : mc_SH := ((fgR, fpR), calR g d, [], [], [], klR, swR_result, none)
theorem inR_result {g : mc_G} {d : Nat} {av : List Value} {n : Nat} {M : mc_M} {L : mc_L} {Qr : Option Value → mc_M → mc_L → Prop} (hlen : (lg_sl (av.map (mc_ga g.2.2.1))).length ≤ 2) (body : ∀ K, mc_closed true tab0 n 0 (some .int) (shR_result g d) Qr (fun _ _ _ => False) tbR_result K → K 0 (mc_args av 2) [] n M L) : ctR_result g (d + 1) av n M L Qr :=
  mc_intro (own := RR) (tb := tbR_result) (sh := shR_result g d) rfl rfl nw_ok tok0 hcl0 (by decide +kernel) (show mc_swok tbR_result swR_result = true by decide +kernel) (show mc_swokL tbR_result swR_result = true by decide +kernel) fgR_ok (fpR_ok _) (fun _ h => absurd h List.not_mem_nil) klR_ok (calR_ok g d) rfl rfl hlen body
def swR_setOf : List (Nat × List (Int32 × Nat) × Nat) := []
def shR_setOf (g : mc_G) (d : Nat) : mc_SH := ((fgR, fpR), calR g d, [], [], [], klR, swR_setOf, none)
theorem inR_setOf {g : mc_G} {d : Nat} {av : List Value} {n : Nat} {M : mc_M} {L : mc_L} {Qr : Option Value → mc_M → mc_L → Prop} (hlen : (lg_sl (av.map (mc_ga g.2.2.1))).length ≤ 2) (body : ∀ K, mc_closed true tab0 n 0 (some .int) (shR_setOf g d) Qr (fun _ _ _ => False) tbR_setOf K → K 0 (mc_args av 2) [] n M L) : ctR_setOf g (d + 1) av n M L Qr :=
  mc_intro (own := RR) (tb := tbR_setOf) (sh := shR_setOf g d) rfl rfl nw_ok tok0 hcl0 (by decide +kernel) (show mc_swok tbR_setOf swR_setOf = true by decide +kernel) (show mc_swokL tbR_setOf swR_setOf = true by decide +kernel) fgR_ok (fpR_ok _) (fun _ h => absurd h List.not_mem_nil) klR_ok (calR_ok g d) rfl rfl hlen body
def swR_dynamics : List (Nat × List (Int32 × Nat) × Nat) := []
def shR_dynamics (g : mc_G) (d : Nat) : mc_SH := ((fgR, fpR), calR g d, [], [], [], klR, swR_dynamics, none)
theorem inR_dynamics {g : mc_G} {d : Nat} {av : List Value} {n : Nat} {M : mc_M} {L : mc_L} {Qr : Option Value → mc_M → mc_L → Prop} (hlen : (lg_sl (av.map (mc_ga g.2.2.1))).length ≤ 6) (body : ∀ K, mc_closed true tab0 n 0 (some .int) (shR_dynamics g d) Qr (fun _ _ _ => False) tbR_dynamics K → K 0 (mc_args av 6) [] n M L) : ctR_dynamics g (d + 1) av n M L Qr :=
  mc_intro (own := RR) (tb := tbR_dynamics) (sh := shR_dynamics g d) rfl rfl nw_ok tok0 hcl0 (by decide +kernel) (show mc_swok tbR_dynamics swR_dynamics = true by decide +kernel) (show mc_swokL tbR_dynamics swR_dynamics = true by decide +kernel) fgR_ok (fpR_ok _) (fun _ h => absurd h List.not_mem_nil) klR_ok (calR_ok g d) rfl rfl hlen body
def swR_divide : List (Nat × List (Int32 × Nat) × Nat) := []
def shR_divide (g : mc_G) (d : Nat) : mc_SH := ((fgR, fpR), calR g d, [], [], [], klR, swR_divide, none)
theorem inR_divide {g : mc_G} {d : Nat} {av : List Value} {n : Nat} {M : mc_M} {L : mc_L} {Qr : Option Value → mc_M → mc_L → Prop} (hlen : (lg_sl (av.map (mc_ga g.2.2.1))).length ≤ 2) (body : ∀ K, mc_closed true tab0 n 0 (some .int) (shR_divide g d) Qr (fun _ _ _ => False) tbR_divide K → K 0 (mc_args av 2) [] n M L) : ctR_divide g (d + 1) av n M L Qr :=
  mc_intro (own := RR) (tb := tbR_divide) (sh := shR_divide g d) rfl rfl nw_ok tok0 hcl0 (by decide +kernel) (show mc_swok tbR_divide swR_divide = true by decide +kernel) (show mc_swokL tbR_divide swR_divide = true by decide +kernel) fgR_ok (fpR_ok _) (fun _ h => absurd h List.not_mem_nil) klR_ok (calR_ok g d) rfl rfl hlen body
def swR_allLive : List (Nat × List (Int32 × Nat) × Nat) := []
def shR_allLive (g : mc_G) (d : Nat) : mc_SH := ((fgR, fpR), calR g d, [], [], [], klR, swR_allLive, none)
theorem inR_allLive {g : mc_G} {d : Nat} {av : List Value} {n : Nat} {M : mc_M} {L : mc_L} {Qr : Option Value → mc_M → mc_L → Prop} (hlen : (lg_sl (av.map (mc_ga g.2.2.1))).length ≤ 5) (body : ∀ K, mc_closed true tab0 n 0 none (shR_allLive g d) Qr (fun _ _ _ => False) tbR_allLive K → K 0 (mc_args av 5) [] n M L) : ctR_allLive g (d + 1) av n M L Qr :=
  mc_intro (own := RR) (tb := tbR_allLive) (sh := shR_allLive g d) rfl rfl nw_ok tok0 hcl0 (by decide +kernel) (show mc_swok tbR_allLive swR_allLive = true by decide +kernel) (show mc_swokL tbR_allLive swR_allLive = true by decide +kernel) fgR_ok (fpR_ok _) (fun _ h => absurd h List.not_mem_nil) klR_ok (calR_ok g d) rfl rfl hlen body
def swR_live : List (Nat × List (Int32 × Nat) × Nat) := []
def shR_live (g : mc_G) (d : Nat) : mc_SH := ((fgR, fpR), calR g d, [], [], [], klR, swR_live, none)
theorem inR_live {g : mc_G} {d : Nat} {av : List Value} {n : Nat} {M : mc_M} {L : mc_L} {Qr : Option Value → mc_M → mc_L → Prop} (hlen : (lg_sl (av.map (mc_ga g.2.2.1))).length ≤ 2) (body : ∀ K, mc_closed true tab0 n 0 (some .int) (shR_live g d) Qr (fun _ _ _ => False) tbR_live K → K 0 (mc_args av 2) [] n M L) : ctR_live g (d + 1) av n M L Qr :=
  mc_intro (own := RR) (tb := tbR_live) (sh := shR_live g d) rfl rfl nw_ok tok0 hcl0 (by decide +kernel) (show mc_swok tbR_live swR_live = true by decide +kernel) (show mc_swokL tbR_live swR_live = true by decide +kernel) fgR_ok (fpR_ok _) (fun _ h => absurd h List.not_mem_nil) klR_ok (calR_ok g d) rfl rfl hlen body
def swR_state : List (Nat × List (Int32 × Nat) × Nat) := []
def shR_state (g : mc_G) (d : Nat) : mc_SH := ((fgR, fpR), calR g d, [], [], [], klR, swR_state, none)
theorem inR_state {g : mc_G} {d : Nat} {av : List Value} {n : Nat} {M : mc_M} {L : mc_L} {Qr : Option Value → mc_M → mc_L → Prop} (hlen : (lg_sl (av.map (mc_ga g.2.2.1))).length ≤ 6) (body : ∀ K, mc_closed true tab0 n 0 (some .int) (shR_state g d) Qr (fun _ _ _ => False) tbR_state K → K 0 (mc_args av 6) [] n M L) : ctR_state g (d + 1) av n M L Qr :=
  mc_intro (own := RR) (tb := tbR_state) (sh := shR_state g d) rfl rfl nw_ok tok0 hcl0 (by decide +kernel) (show mc_swok tbR_state swR_state = true by decide +kernel) (show mc_swokL tbR_state swR_state = true by decide +kernel) fgR_ok (fpR_ok _) (fun _ h => absurd h List.not_mem_nil) klR_ok (calR_ok g d) rfl rfl hlen body
def swR_part : List (Nat × List (Int32 × Nat) × Nat) := []
def shR_part (g : mc_G) (d : Nat) : mc_SH := ((fgR, fpR), calR g d, [], [], [], klR, swR_part, none)
theorem inR_part {g : mc_G} {d : Nat} {av : List Value} {n : Nat} {M : mc_M} {L : mc_L} {Qr : Option Value → mc_M → mc_L → Prop} (hlen : (lg_sl (av.map (mc_ga g.2.2.1))).length ≤ 4) (body : ∀ K, mc_closed true tab0 n 0 (some .int) (shR_part g d) Qr (fun _ _ _ => False) tbR_part K → K 0 (mc_args av 4) [] n M L) : ctR_part g (d + 1) av n M L Qr :=
  mc_intro (own := RR) (tb := tbR_part) (sh := shR_part g d) rfl rfl nw_ok tok0 hcl0 (by decide +kernel) (show mc_swok tbR_part swR_part = true by decide +kernel) (show mc_swokL tbR_part swR_part = true by decide +kernel) fgR_ok (fpR_ok _) (fun _ h => absurd h List.not_mem_nil) klR_ok (calR_ok g d) rfl rfl hlen body
def swR_append : List (Nat × List (Int32 × Nat) × Nat) := []
def shR_append (g : mc_G) (d : Nat) : mc_SH := ((fgR, fpR), calR g d, [], [], [], klR, swR_append, none)
theorem inR_append {g : mc_G} {d : Nat} {av : List Value} {n : Nat} {M : mc_M} {L : mc_L} {Qr : Option Value → mc_M → mc_L → Prop} (hlen : (lg_sl (av.map (mc_ga g.2.2.1))).length ≤ 3) (body : ∀ K, mc_closed true tab0 n 0 none (shR_append g d) Qr (fun _ _ _ => False) tbR_append K → K 0 (mc_args av 3) [] n M L) : ctR_append g (d + 1) av n M L Qr :=
  mc_intro (own := RR) (tb := tbR_append) (sh := shR_append g d) rfl rfl nw_ok tok0 hcl0 (by decide +kernel) (show mc_swok tbR_append swR_append = true by decide +kernel) (show mc_swokL tbR_append swR_append = true by decide +kernel) fgR_ok (fpR_ok _) (fun _ h => absurd h List.not_mem_nil) klR_ok (calR_ok g d) rfl rfl hlen body
def swR_work : List (Nat × List (Int32 × Nat) × Nat) := []
def shR_work (g : mc_G) (d : Nat) : mc_SH := ((fgR, fpR), calR g d, [], [], [], klR, swR_work, none)
theorem inR_work {g : mc_G} {d : Nat} {av : List Value} {n : Nat} {M : mc_M} {L : mc_L} {Qr : Option Value → mc_M → mc_L → Prop} (hlen : (lg_sl (av.map (mc_ga g.2.2.1))).length ≤ 9) (body : ∀ K, mc_closed true tab0 n 0 none (shR_work g d) Qr (fun _ _ _ => False) tbR_work K → K 0 (mc_args av 9) [] n M L) : ctR_work g (d + 1) av n M L Qr :=
  mc_intro (own := RR) (tb := tbR_work) (sh := shR_work g d) rfl rfl nw_ok tok0 hcl0 (by decide +kernel) (show mc_swok tbR_work swR_work = true by decide +kernel) (show mc_swokL tbR_work swR_work = true by decide +kernel) fgR_ok (fpR_ok _) (fun _ h => absurd h List.not_mem_nil) klR_ok (calR_ok g d) rfl rfl hlen body
def swR_mix : List (Nat × List (Int32 × Nat) × Nat) := []
def shR_mix (g : mc_G) (d : Nat) : mc_SH := ((fgR, fpR), calR g d, [], [], [], klR, swR_mix, none)
theorem inR_mix {g : mc_G} {d : Nat} {av : List Value} {n : Nat} {M : mc_M} {L : mc_L} {Qr : Option Value → mc_M → mc_L → Prop} (hlen : (lg_sl (av.map (mc_ga g.2.2.1))).length ≤ 4) (body : ∀ K, mc_closed true tab0 n 0 (some .int) (shR_mix g d) Qr (fun _ _ _ => False) tbR_mix K → K 0 (mc_args av 4) [] n M L) : ctR_mix g (d + 1) av n M L Qr :=
  mc_intro (own := RR) (tb := tbR_mix) (sh := shR_mix g d) rfl rfl nw_ok tok0 hcl0 (by decide +kernel) (show mc_swok tbR_mix swR_mix = true by decide +kernel) (show mc_swokL tbR_mix swR_mix = true by decide +kernel) fgR_ok (fpR_ok _) (fun _ h => absurd h List.not_mem_nil) klR_ok (calR_ok g d) rfl rfl hlen body
def swR_worthOf : List (Nat × List (Int32 × Nat) × Nat) := []
def shR_worthOf (g : mc_G) (d : Nat) : mc_SH := ((fgR, fpR), calR g d, [], [], [], klR, swR_worthOf, none)
theorem inR_worthOf {g : mc_G} {d : Nat} {av : List Value} {n : Nat} {M : mc_M} {L : mc_L} {Qr : Option Value → mc_M → mc_L → Prop} (hlen : (lg_sl (av.map (mc_ga g.2.2.1))).length ≤ 4) (body : ∀ K, mc_closed true tab0 n 0 (some .int) (shR_worthOf g d) Qr (fun _ _ _ => False) tbR_worthOf K → K 0 (mc_args av 4) [] n M L) : ctR_worthOf g (d + 1) av n M L Qr :=
  mc_intro (own := RR) (tb := tbR_worthOf) (sh := shR_worthOf g d) rfl rfl nw_ok tok0 hcl0 (by decide +kernel) (show mc_swok tbR_worthOf swR_worthOf = true by decide +kernel) (show mc_swokL tbR_worthOf swR_worthOf = true by decide +kernel) fgR_ok (fpR_ok _) (fun _ h => absurd h List.not_mem_nil) klR_ok (calR_ok g d) rfl rfl hlen body
def swR_follow : List (Nat × List (Int32 × Nat) × Nat) := []
def shR_follow (g : mc_G) (d : Nat) : mc_SH := ((fgR, fpR), calR g d, [], [], [], klR, swR_follow, none)
theorem inR_follow {g : mc_G} {d : Nat} {av : List Value} {n : Nat} {M : mc_M} {L : mc_L} {Qr : Option Value → mc_M → mc_L → Prop} (hlen : (lg_sl (av.map (mc_ga g.2.2.1))).length ≤ 4) (body : ∀ K, mc_closed true tab0 n 0 (some .boolean) (shR_follow g d) Qr (fun _ _ _ => False) tbR_follow K → K 0 (mc_args av 4) [] n M L) : ctR_follow g (d + 1) av n M L Qr :=
  mc_intro (own := RR) (tb := tbR_follow) (sh := shR_follow g d) rfl rfl nw_ok tok0 hcl0 (by decide +kernel) (show mc_swok tbR_follow swR_follow = true by decide +kernel) (show mc_swokL tbR_follow swR_follow = true by decide +kernel) fgR_ok (fpR_ok _) (fun _ h => absurd h List.not_mem_nil) klR_ok (calR_ok g d) rfl rfl hlen body
def swR_jumpsTo : List (Nat × List (Int32 × Nat) × Nat) := []
def shR_jumpsTo (g : mc_G) (d : Nat) : mc_SH := ((fgR, fpR), calR g d, [], [], [], klR, swR_jumpsTo, none)
theorem inR_jumpsTo {g : mc_G} {d : Nat} {av : List Value} {n : Nat} {M : mc_M} {L : mc_L} {Qr : Option Value → mc_M → mc_L → Prop} (hlen : (lg_sl (av.map (mc_ga g.2.2.1))).length ≤ 4) (body : ∀ K, mc_closed true tab0 n 0 (some .int) (shR_jumpsTo g d) Qr (fun _ _ _ => False) tbR_jumpsTo K → K 0 (mc_args av 4) [] n M L) : ctR_jumpsTo g (d + 1) av n M L Qr :=
  mc_intro (own := RR) (tb := tbR_jumpsTo) (sh := shR_jumpsTo g d) rfl rfl nw_ok tok0 hcl0 (by decide +kernel) (show mc_swok tbR_jumpsTo swR_jumpsTo = true by decide +kernel) (show mc_swokL tbR_jumpsTo swR_jumpsTo = true by decide +kernel) fgR_ok (fpR_ok _) (fun _ h => absurd h List.not_mem_nil) klR_ok (calR_ok g d) rfl rfl hlen body
def swR_goesTo : List (Nat × List (Int32 × Nat) × Nat) := []
def shR_goesTo (g : mc_G) (d : Nat) : mc_SH := ((fgR, fpR), calR g d, [], [], [], klR, swR_goesTo, none)
theorem inR_goesTo {g : mc_G} {d : Nat} {av : List Value} {n : Nat} {M : mc_M} {L : mc_L} {Qr : Option Value → mc_M → mc_L → Prop} (hlen : (lg_sl (av.map (mc_ga g.2.2.1))).length ≤ 3) (body : ∀ K, mc_closed true tab0 n 0 (some .int) (shR_goesTo g d) Qr (fun _ _ _ => False) tbR_goesTo K → K 0 (mc_args av 3) [] n M L) : ctR_goesTo g (d + 1) av n M L Qr :=
  mc_intro (own := RR) (tb := tbR_goesTo) (sh := shR_goesTo g d) rfl rfl nw_ok tok0 hcl0 (by decide +kernel) (show mc_swok tbR_goesTo swR_goesTo = true by decide +kernel) (show mc_swokL tbR_goesTo swR_goesTo = true by decide +kernel) fgR_ok (fpR_ok _) (fun _ h => absurd h List.not_mem_nil) klR_ok (calR_ok g d) rfl rfl hlen body
def swR_join : List (Nat × List (Int32 × Nat) × Nat) := []
def shR_join (g : mc_G) (d : Nat) : mc_SH := ((fgR, fpR), calR g d, [], [], [], klR, swR_join, none)
theorem inR_join {g : mc_G} {d : Nat} {av : List Value} {n : Nat} {M : mc_M} {L : mc_L} {Qr : Option Value → mc_M → mc_L → Prop} (hlen : (lg_sl (av.map (mc_ga g.2.2.1))).length ≤ 3) (body : ∀ K, mc_closed true tab0 n 0 none (shR_join g d) Qr (fun _ _ _ => False) tbR_join K → K 0 (mc_args av 3) [] n M L) : ctR_join g (d + 1) av n M L Qr :=
  mc_intro (own := RR) (tb := tbR_join) (sh := shR_join g d) rfl rfl nw_ok tok0 hcl0 (by decide +kernel) (show mc_swok tbR_join swR_join = true by decide +kernel) (show mc_swokL tbR_join swR_join = true by decide +kernel) fgR_ok (fpR_ok _) (fun _ h => absurd h List.not_mem_nil) klR_ok (calR_ok g d) rfl rfl hlen body
def swR_copyBlock : List (Nat × List (Int32 × Nat) × Nat) := []
def shR_copyBlock (g : mc_G) (d : Nat) : mc_SH := ((fgR, fpR), calR g d, [], [], [], klR, swR_copyBlock, none)
theorem inR_copyBlock {g : mc_G} {d : Nat} {av : List Value} {n : Nat} {M : mc_M} {L : mc_L} {Qr : Option Value → mc_M → mc_L → Prop} (hlen : (lg_sl (av.map (mc_ga g.2.2.1))).length ≤ 3) (body : ∀ K, mc_closed true tab0 n 0 none (shR_copyBlock g d) Qr (fun _ _ _ => False) tbR_copyBlock K → K 0 (mc_args av 3) [] n M L) : ctR_copyBlock g (d + 1) av n M L Qr :=
  mc_intro (own := RR) (tb := tbR_copyBlock) (sh := shR_copyBlock g d) rfl rfl nw_ok tok0 hcl0 (by decide +kernel) (show mc_swok tbR_copyBlock swR_copyBlock = true by decide +kernel) (show mc_swokL tbR_copyBlock swR_copyBlock = true by decide +kernel) fgR_ok (fpR_ok _) (fun _ h => absurd h List.not_mem_nil) klR_ok (calR_ok g d) rfl rfl hlen body
def swR_compress : List (Nat × List (Int32 × Nat) × Nat) := []
def shR_compress (g : mc_G) (d : Nat) : mc_SH := ((fgR, fpR), calR g d, [], [], [], klR, swR_compress, none)
theorem inR_compress {g : mc_G} {d : Nat} {av : List Value} {n : Nat} {M : mc_M} {L : mc_L} {Qr : Option Value → mc_M → mc_L → Prop} (hlen : (lg_sl (av.map (mc_ga g.2.2.1))).length ≤ 5) (body : ∀ K, mc_closed true tab0 n 0 (some .int) (shR_compress g d) Qr (fun _ _ _ => False) tbR_compress K → K 0 (mc_args av 5) [] n M L) : ctR_compress g (d + 1) av n M L Qr :=
  mc_intro (own := RR) (tb := tbR_compress) (sh := shR_compress g d) rfl rfl nw_ok tok0 hcl0 (by decide +kernel) (show mc_swok tbR_compress swR_compress = true by decide +kernel) (show mc_swokL tbR_compress swR_compress = true by decide +kernel) fgR_ok (fpR_ok _) (fun _ h => absurd h List.not_mem_nil) klR_ok (calR_ok g d) rfl rfl hlen body
def swR_put : List (Nat × List (Int32 × Nat) × Nat) := []
def shR_put (g : mc_G) (d : Nat) : mc_SH := ((fgR, fpR), calR g d, [], [], [], klR, swR_put, none)
theorem inR_put {g : mc_G} {d : Nat} {av : List Value} {n : Nat} {M : mc_M} {L : mc_L} {Qr : Option Value → mc_M → mc_L → Prop} (hlen : (lg_sl (av.map (mc_ga g.2.2.1))).length ≤ 2) (body : ∀ K, mc_closed true tab0 n 0 none (shR_put g d) Qr (fun _ _ _ => False) tbR_put K → K 0 (mc_args av 2) [] n M L) : ctR_put g (d + 1) av n M L Qr :=
  mc_intro (own := RR) (tb := tbR_put) (sh := shR_put g d) rfl rfl nw_ok tok0 hcl0 (by decide +kernel) (show mc_swok tbR_put swR_put = true by decide +kernel) (show mc_swokL tbR_put swR_put = true by decide +kernel) fgR_ok (fpR_ok _) (fun _ h => absurd h List.not_mem_nil) klR_ok (calR_ok g d) rfl rfl hlen body
def swR_number : List (Nat × List (Int32 × Nat) × Nat) := []
def shR_number (g : mc_G) (d : Nat) : mc_SH := ((fgR, fpR), calR g d, [], [], [], klR, swR_number, none)
theorem inR_number {g : mc_G} {d : Nat} {av : List Value} {n : Nat} {M : mc_M} {L : mc_L} {Qr : Option Value → mc_M → mc_L → Prop} (hlen : (lg_sl (av.map (mc_ga g.2.2.1))).length ≤ 6) (body : ∀ K, mc_closed true tab0 n 0 none (shR_number g d) Qr (fun _ _ _ => False) tbR_number K → K 0 (mc_args av 6) [] n M L) : ctR_number g (d + 1) av n M L Qr :=
  mc_intro (own := RR) (tb := tbR_number) (sh := shR_number g d) rfl rfl nw_ok tok0 hcl0 (by decide +kernel) (show mc_swok tbR_number swR_number = true by decide +kernel) (show mc_swokL tbR_number swR_number = true by decide +kernel) fgR_ok (fpR_ok _) (fun _ h => absurd h List.not_mem_nil) klR_ok (calR_ok g d) rfl rfl hlen body
def swR_spell : List (Nat × List (Int32 × Nat) × Nat) := []
def shR_spell (g : mc_G) (d : Nat) : mc_SH := ((fgR, fpR), calR g d, [], [], [], klR, swR_spell, none)
theorem inR_spell {g : mc_G} {d : Nat} {av : List Value} {n : Nat} {M : mc_M} {L : mc_L} {Qr : Option Value → mc_M → mc_L → Prop} (hlen : (lg_sl (av.map (mc_ga g.2.2.1))).length ≤ 5) (body : ∀ K, mc_closed true tab0 n 0 none (shR_spell g d) Qr (fun _ _ _ => False) tbR_spell K → K 0 (mc_args av 5) [] n M L) : ctR_spell g (d + 1) av n M L Qr :=
  mc_intro (own := RR) (tb := tbR_spell) (sh := shR_spell g d) rfl rfl nw_ok tok0 hcl0 (by decide +kernel) (show mc_swok tbR_spell swR_spell = true by decide +kernel) (show mc_swokL tbR_spell swR_spell = true by decide +kernel) fgR_ok (fpR_ok _) (fun _ h => absurd h List.not_mem_nil) klR_ok (calR_ok g d) rfl rfl hlen body
def swR_write : List (Nat × List (Int32 × Nat) × Nat) := []
def shR_write (g : mc_G) (d : Nat) : mc_SH := ((fgR, fpR), calR g d, [], [], [], klR, swR_write, none)
theorem inR_write {g : mc_G} {d : Nat} {av : List Value} {n : Nat} {M : mc_M} {L : mc_L} {Qr : Option Value → mc_M → mc_L → Prop} (hlen : (lg_sl (av.map (mc_ga g.2.2.1))).length ≤ 3) (body : ∀ K, mc_closed true tab0 n 0 none (shR_write g d) Qr (fun _ _ _ => False) tbR_write K → K 0 (mc_args av 3) [] n M L) : ctR_write g (d + 1) av n M L Qr :=
  mc_intro (own := RR) (tb := tbR_write) (sh := shR_write g d) rfl rfl nw_ok tok0 hcl0 (by decide +kernel) (show mc_swok tbR_write swR_write = true by decide +kernel) (show mc_swokL tbR_write swR_write = true by decide +kernel) fgR_ok (fpR_ok _) (fun _ h => absurd h List.not_mem_nil) klR_ok (calR_ok g d) rfl rfl hlen body
def swR_about : List (Nat × List (Int32 × Nat) × Nat) := [(64, [(0, 96), (1, 103), (2, 105), (3, 112)], 119)]
def shR_about (g : mc_G) (d : Nat) : mc_SH := ((fgR, fpR), calR g d, [], [], [], klR, swR_about, none)
theorem inR_about {g : mc_G} {d : Nat} {av : List Value} {n : Nat} {M : mc_M} {L : mc_L} {Qr : Option Value → mc_M → mc_L → Prop} (hlen : (lg_sl (av.map (mc_ga g.2.2.1))).length ≤ 5) (body : ∀ K, mc_closed true tab0 n 0 (some .int) (shR_about g d) Qr (fun _ _ _ => False) tbR_about K → K 0 (mc_args av 5) [] n M L) : ctR_about g (d + 1) av n M L Qr :=
  mc_intro (own := RR) (tb := tbR_about) (sh := shR_about g d) rfl rfl nw_ok tok0 hcl0 (by decide +kernel) (show mc_swok tbR_about swR_about = true by decide +kernel) (show mc_swokL tbR_about swR_about = true by decide +kernel) fgR_ok (fpR_ok _) (fun _ h => absurd h List.not_mem_nil) klR_ok (calR_ok g d) rfl rfl hlen body
def swR_sign : List (Nat × List (Int32 × Nat) × Nat) := []
def shR_sign (g : mc_G) (d : Nat) : mc_SH := ((fgR, fpR), calR g d, [], [], [], klR, swR_sign, none)
theorem inR_sign {g : mc_G} {d : Nat} {av : List Value} {n : Nat} {M : mc_M} {L : mc_L} {Qr : Option Value → mc_M → mc_L → Prop} (hlen : (lg_sl (av.map (mc_ga g.2.2.1))).length ≤ 2) (body : ∀ K, mc_closed true tab0 n 0 (some .int) (shR_sign g d) Qr (fun _ _ _ => False) tbR_sign K → K 0 (mc_args av 2) [] n M L) : ctR_sign g (d + 1) av n M L Qr :=
  mc_intro (own := RR) (tb := tbR_sign) (sh := shR_sign g d) rfl rfl nw_ok tok0 hcl0 (by decide +kernel) (show mc_swok tbR_sign swR_sign = true by decide +kernel) (show mc_swokL tbR_sign swR_sign = true by decide +kernel) fgR_ok (fpR_ok _) (fun _ h => absurd h List.not_mem_nil) klR_ok (calR_ok g d) rfl rfl hlen body
def swR_count : List (Nat × List (Int32 × Nat) × Nat) := []
def shR_count (g : mc_G) (d : Nat) : mc_SH := ((fgR, fpR), calR g d, [], [], [], klR, swR_count, none)
theorem inR_count {g : mc_G} {d : Nat} {av : List Value} {n : Nat} {M : mc_M} {L : mc_L} {Qr : Option Value → mc_M → mc_L → Prop} (hlen : (lg_sl (av.map (mc_ga g.2.2.1))).length ≤ 2) (body : ∀ K, mc_closed true tab0 n 0 (some .int) (shR_count g d) Qr (fun _ _ _ => False) tbR_count K → K 0 (mc_args av 2) [] n M L) : ctR_count g (d + 1) av n M L Qr :=
  mc_intro (own := RR) (tb := tbR_count) (sh := shR_count g d) rfl rfl nw_ok tok0 hcl0 (by decide +kernel) (show mc_swok tbR_count swR_count = true by decide +kernel) (show mc_swokL tbR_count swR_count = true by decide +kernel) fgR_ok (fpR_ok _) (fun _ h => absurd h List.not_mem_nil) klR_ok (calR_ok g d) rfl rfl hlen body
def swJa_fill : List (Nat × List (Int32 × Nat) × Nat) := []
def shJa_fill (g : mc_G) (d : Nat) : mc_SH := ((fgJa, fpJa), calJa g d, [], [], [], klJa, swJa_fill, none)
theorem inJa_fill {g : mc_G} {d : Nat} {av : List Value} {n : Nat} {M : mc_M} {L : mc_L} {Qr : Option Value → mc_M → mc_L → Prop} (hlen : (lg_sl (av.map (mc_ga g.2.2.1))).length ≤ 4) (body : ∀ K, mc_closed true tab0 n 0 none (shJa_fill g d) Qr (fun _ _ _ => False) tbJa_fill K → K 0 (mc_args av 4) [] n M L) : ctJa_fill g (d + 1) av n M L Qr :=
  mc_intro (own := RJa) (tb := tbJa_fill) (sh := shJa_fill g d) rfl rfl nw_ok tok0 hcl0 (by decide +kernel) (show mc_swok tbJa_fill swJa_fill = true by decide +kernel) (show mc_swokL tbJa_fill swJa_fill = true by decide +kernel) fgJa_ok (fpJa_ok _) (fun _ h => absurd h List.not_mem_nil) klJa_ok (calJa_ok g d) rfl rfl hlen body
end
section
/-! Nodes -/
theorem nI_lt_of {x : Int32} {m : Nat} (hm : m < 2 ^ 31) (h0 : ¬ x < 0) (h1 : ¬ nI m ≤ x) : ∃ j, j < m ∧ x = nI j := by
  obtain ⟨j, hj, rfl⟩ := nI_of h0
  exact ⟨j, Nat.lt_of_not_le (fun z => h1 ((nI_leI hm hj).mpr z)), rfl⟩
section ND
variable {g : mc_G} {d n : Nat} {M : mc_M} {L : mc_L} {Q : Option Value → mc_M → mc_L → Prop}
theorem cA_isBlock {x : Int32} (hd : 1 ≤ d) (h1 : ∀ j, j < 16 → x = nI j → Q (some (.int 1)) M L) (h0 : (∀ j, j < 16 → x ≠ nI j) → Q (some (.int 0)) M L) : ctA_isBlock g d [.int x] n M L Q := by
  obtain ⟨d, rfl⟩ := Nat.exists_eq_add_of_le' hd
  refine inA_isBlock (Nat.le_of_ble_eq_true rfl) (fun K hK => hK.1 [] 20 0 _ _ _ _ _ ⟨fun a => ⟨Or.inl rfl, Nat.le_refl _, h0 (fun j hj hx => nI_pos (by omega) (hx ▸ a))⟩, fun a => ⟨fun a2 => ⟨Or.inl rfl, Nat.le_refl _, h0 (fun j hj hx => nI_ge hj (by decide) (hx ▸ a2))⟩, fun a2 => ⟨Or.inr rfl, Nat.le_refl _, ?_⟩⟩⟩)
  obtain ⟨j, hj, hx⟩ := nI_lt_of (m := 16) (by decide) a a2
  exact h1 j hj hx
theorem cA_isVariable {x : Int32} (hd : 1 ≤ d) (h1 : ∀ j, j < 8 → x = nI j → Q (some (.int 1)) M L) (h0 : (∀ j, j < 8 → x ≠ nI j) → Q (some (.int 0)) M L) : ctA_isVariable g d [.int x] n M L Q := by
  obtain ⟨d, rfl⟩ := Nat.exists_eq_add_of_le' hd
  refine inA_isVariable (Nat.le_of_ble_eq_true rfl) (fun K hK => hK.1 [] 20 0 _ _ _ _ _ ⟨fun a => ⟨Or.inl rfl, Nat.le_refl _, h0 (fun j hj hx => nI_pos (by omega) (hx ▸ a))⟩, fun a => ⟨fun a2 => ⟨Or.inl rfl, Nat.le_refl _, h0 (fun j hj hx => nI_ge hj (by decide) (hx ▸ a2))⟩, fun a2 => ⟨Or.inr rfl, Nat.le_refl _, ?_⟩⟩⟩)
  obtain ⟨j, hj, hx⟩ := nI_lt_of (m := 8) (by decide) a a2
  exact h1 j hj hx
theorem cN_has {x : Int32} {m : Nat} (hd : 1 ≤ d) (hm : M 1 5 = nI m) (hm1 : m ≤ 150) (h1 : ∀ j, j < m → x = nI j → Q (some (.int 1)) M L) (h0 : (∀ j, j < m → x ≠ nI j) → Q (some (.int 0)) M L) : ctN_has g d [.ref 1, .int x] n M L Q := by
  obtain ⟨d, rfl⟩ := Nat.exists_eq_add_of_le' hd
  refine inN_has (Nat.le_of_ble_eq_true rfl) (fun K hK => hK.1 [] 20 0 _ _ _ _ _ ⟨fun a => ⟨Or.inl rfl, Nat.le_refl _, h0 (fun j hj hx => nI_pos (by omega) (hx ▸ a))⟩, fun a => ⟨fun a2 => ⟨Or.inl rfl, Nat.le_refl _, h0 (fun j hj hx => nI_ge hj (by omega) (by rw [hx, hm] at a2; exact a2))⟩, fun a2 => ⟨Or.inr rfl, Nat.le_refl _, ?_⟩⟩⟩)
  obtain ⟨j, hj, hx⟩ := nI_lt_of (m := m) (by omega) a (by rw [← hm]; exact a2)
  exact h1 j hj hx
theorem cN_sizeWith {q a b : Int32} (hd : 1 ≤ d) (h1 : ¬ 1 < q → Q (some (.int 1)) M L) (h2 : 1 < q → ∃ i j, i < 150 ∧ j < 150 ∧ a = nI i ∧ b = nI j ∧ Q (some (.int (1 + M 5 i + M 5 j))) M L) : ctN_sizeWith g d [.ref 1, .int q, .int a, .int b] n M L Q := by
  obtain ⟨d, rfl⟩ := Nat.exists_eq_add_of_le' hd
  refine inN_sizeWith (Nat.le_of_ble_eq_true rfl) (fun K hK => hK.1 [] 20 0 _ _ _ _ _ ⟨fun z => ?_, fun z => ⟨Nat.le_refl _, h1 z⟩⟩)
  obtain ⟨i, j, hi, hj, rfl, rfl, k⟩ := h2 z
  refine ⟨vp_in_nI (by omega) (by decide), vp_in_nI (by omega) (by decide), Nat.le_refl _, ?_⟩
  rw [← nI_clamp (n := i) (by omega), ← nI_clamp (n := j) (by omega)] at k
  exact k
theorem mc_put_at (M : mc_M) (i k : Nat) (x : Int32) (j l : Nat) : mc_put M i k x j l = if j = i ∧ l = k then x else M j l := by
  unfold mc_put mc_set upd
  by_cases h : j = i
  · subst h
    simp
  · simp [h]
theorem cN_variablesWith {q a b : Int32} (hd : 1 ≤ d) (h0 : q = 0 → Q (some (.int 0)) M L) (h1 : q = 1 → Q (some (.int (1 <<< (a &&& 31)))) M L) (h2 : q ≠ 0 → q ≠ 1 → ∃ i j, i < 150 ∧ j < 150 ∧ a = nI i ∧ b = nI j ∧ Q (some (.int (M 6 i ||| M 6 j))) M L) : ctN_variablesWith g d [.ref 1, .int q, .int a, .int b] n M L Q := by
  obtain ⟨d, rfl⟩ := Nat.exists_eq_add_of_le' hd
  refine inN_variablesWith (Nat.le_of_ble_eq_true rfl) (fun K hK => hK.1 [] 20 0 _ _ _ _ _ ⟨fun z => ⟨fun z1 => ?_, fun z1 => ⟨Nat.le_refl _, h1 z1⟩⟩, fun z => ⟨Nat.le_refl _, h0 z⟩⟩)
  obtain ⟨i, j, hi, hj, rfl, rfl, k⟩ := h2 z z1
  refine ⟨vp_in_nI (by omega) (by decide), vp_in_nI (by omega) (by decide), Nat.le_refl _, ?_⟩
  rw [← nI_clamp (n := i) (by omega), ← nI_clamp (n := j) (by omega)] at k
  exact k
def nd_can (m : Nat) (q a b : Int32) : Prop := q = 0 ∨ (q = 1 ∧ ∃ j, j < 8 ∧ a = nI j) ∨ (2 ≤ q ∧ q ≤ 6 ∧ (∃ j, j < m ∧ a = nI j) ∧ ∃ j, j < m ∧ b = nI j)
theorem cN_canBe {q a b : Int32} {m : Nat} (hd : 2 ≤ d) (hm : M 1 5 = nI m) (hm1 : m ≤ 150) (h1 : nd_can m q a b → Q (some (.int 1)) M L) (h0 : ¬ nd_can m q a b → Q (some (.int 0)) M L) : ctN_canBe g d [.ref 1, .int q, .int a, .int b] n M L Q := by
  obtain ⟨d, rfl⟩ := Nat.exists_eq_add_of_le' hd
  have l1 : ¬ ((2 : Int32) ≤ 0) := by decide
  have l2 : ¬ ((2 : Int32) ≤ 1) := by decide
  have l3 : ¬ ((1 : Int32) = 0) := by decide
  refine inN_canBe (Nat.le_of_ble_eq_true rfl) (fun K hK => hK.1 [] 30 0 _ _ _ _ _ ⟨fun z => ⟨fun z1 => ⟨fun z2 => ?_, fun z2 => ⟨fun z3 => ?_, fun z3 => ?_⟩⟩, fun z1 => ?_⟩, fun z => ⟨Or.inr rfl, Nat.le_refl _, h1 (Or.inl z)⟩⟩)
  · refine ⟨Or.inl rfl, Nat.le_refl _, h0 ?_⟩
    rintro (y | ⟨y, -⟩ | ⟨y, -⟩)
    · exact z y
    · exact z1 y
    · exact absurd z2 (Int32.not_lt.mpr y)
  · refine ⟨Or.inl rfl, Nat.le_refl _, h0 ?_⟩
    rintro (y | ⟨y, -⟩ | ⟨-, y, -⟩)
    · exact z y
    · exact z1 y
    · exact absurd z3 (Int32.not_lt.mpr y)
  · refine cN_has (m := m) (Nat.le_add_left _ _) hm hm1 (fun i hi ha => ?_) (fun hn => ?_)
    · refine ⟨fun y => absurd y (by decide), fun _ => ?_⟩
      refine cN_has (m := m) (Nat.le_add_left _ _) hm hm1 (fun j hj hb => ?_) (fun hn => ?_)
      · exact ⟨fun y => absurd y (by decide), fun _ => ⟨Or.inr rfl, Nat.le_refl _, h1 (Or.inr (Or.inr ⟨Int32.not_lt.mp z2, Int32.not_lt.mp z3, ⟨i, hi, ha⟩, ⟨j, hj, hb⟩⟩))⟩⟩
      · refine ⟨fun _ => ⟨Or.inl rfl, Nat.le_refl _, h0 ?_⟩, fun y => absurd rfl y⟩
        rintro (y | ⟨y, -⟩ | ⟨-, -, -, ⟨j, hj, hb⟩⟩)
        · exact z y
        · exact z1 y
        · exact hn j hj hb
    · refine ⟨fun _ => ⟨Or.inl rfl, Nat.le_refl _, h0 ?_⟩, fun y => absurd rfl y⟩
      rintro (y | ⟨y, -⟩ | ⟨-, -, ⟨j, hj, hb⟩, -⟩)
      · exact z y
      · exact z1 y
      · exact hn j hj hb
  · refine cA_isVariable (Nat.le_add_left _ _) (fun j hj ha => ⟨Or.inr rfl, Nat.le_refl _, h1 (Or.inr (Or.inl ⟨z1, j, hj, ha⟩))⟩) (fun hn => ⟨Or.inl rfl, Nat.le_refl _, h0 ?_⟩)
    rintro (y | ⟨-, j, hj, ha⟩ | ⟨y, -⟩)
    · exact z y
    · exact hn j hj ha
    · rw [z1] at y
      exact l2 y
def nd_cb (k x y : Int32) : Int32 := if k = 2 then x + y else if k = 3 then x - y else if k = 4 then x * y else if k = 5 then (if x = y then 1 else 0) else (if x < y then 1 else 0)
theorem cN_combine {q x y : Int32} (hd : 1 ≤ d) (h : ∀ r, r = nd_cb q x y → Q (some (.int r)) M L) : ctN_combine g d [.int q, .int x, .int y] n M L Q := by
  obtain ⟨d, rfl⟩ := Nat.exists_eq_add_of_le' hd
  refine inN_combine (Nat.le_of_ble_eq_true rfl) (fun K hK => hK.1 [] 20 0 _ _ _ _ _ ⟨fun a => ⟨Nat.le_refl _, h _ ?_⟩, fun a => ⟨fun a1 => ⟨Nat.le_refl _, h _ ?_⟩, fun a1 => ⟨fun a2 => ⟨Nat.le_refl _, h _ ?_⟩, fun a2 => ⟨fun a3 => ⟨fun a4 => ⟨Nat.le_refl _, h _ ?_⟩, fun a4 => ⟨Nat.le_refl _, h _ ?_⟩⟩, fun a3 => ⟨trivial, fun a4 => ⟨Nat.le_refl _, h _ ?_⟩, fun a4 => ⟨Nat.le_refl _, h _ ?_⟩⟩⟩⟩⟩⟩)
  · exact (if_pos a).symm
  · unfold nd_cb
    rw [if_neg a, if_pos a1]
  · unfold nd_cb
    rw [if_neg a, if_neg a1, if_pos a2]
  · unfold nd_cb
    rw [if_neg a, if_neg a1, if_neg a2, if_pos a3, if_neg a4]
  · unfold nd_cb
    rw [if_neg a, if_neg a1, if_neg a2, if_pos a3, if_pos a4]
  · unfold nd_cb
    rw [if_neg a, if_neg a1, if_neg a2, if_neg a3, if_neg (Int32.not_lt.mpr a4)]
  · unfold nd_cb
    rw [if_neg a, if_neg a1, if_neg a2, if_neg a3, if_pos (Int32.not_le.mp a4)]
def nd_wk (K A B E : Nat → Int32) : Nat → Nat → Int32
  | 0 => fun _ => 0
  | j + 1 => upd (nd_wk K A B E j) j (if K j = 0 then A j else if K j = 1 then E (A j).toNatClampNeg else nd_cb (K j) (nd_wk K A B E j (A j).toNatClampNeg) (nd_wk K A B E j (B j).toNatClampNeg))
def nd_val (K A B E : Nat → Int32) (k : Nat) : Int32 := nd_wk K A B E (k + 1) k
theorem nd_wk_lt {K A B E : Nat → Int32} {i : Nat} : ∀ {j : Nat}, i < j → nd_wk K A B E j i = nd_val K A B E i
  | 0, h => absurd h (Nat.not_lt_zero _)
  | j + 1, h => by
    rcases Nat.lt_or_ge i j with h1 | h1
    · rw [← nd_wk_lt h1]
      show upd _ j _ i = _
      unfold upd
      rw [if_neg (by omega)]
    · have : i = j := by omega
      subst this
      rfl
theorem nd_val_eq {K A B E : Nat → Int32} {k : Nat} : nd_val K A B E k = if K k = 0 then A k else if K k = 1 then E (A k).toNatClampNeg else nd_cb (K k) (nd_wk K A B E k (A k).toNatClampNeg) (nd_wk K A B E k (B k).toNatClampNeg) := by
  show upd _ k _ k = _
  unfold upd
  rw [if_pos rfl]
theorem nd_val_0 {K A B E : Nat → Int32} {k : Nat} (h : K k = 0) : nd_val K A B E k = A k := by
  rw [nd_val_eq, if_pos h]
theorem nd_val_1 {K A B E : Nat → Int32} {k a : Nat} (h : K k = 1) (ha : A k = nI a) (h8 : a < 8) : nd_val K A B E k = E a := by
  rw [nd_val_eq, if_neg (by rw [h]; decide), if_pos h, ha, nI_clamp (by omega)]
theorem nd_val_2 {K A B E : Nat → Int32} {k a b : Nat} (h0 : ¬ K k = 0) (h1 : ¬ K k = 1) (ha : A k = nI a) (hb : B k = nI b) (hak : a < k) (hbk : b < k) (hk : k < 2 ^ 31) : nd_val K A B E k = nd_cb (K k) (nd_val K A B E a) (nd_val K A B E b) := by
  rw [nd_val_eq, if_neg h0, if_neg h1, ha, hb, nI_clamp (by omega), nI_clamp (by omega), nd_wk_lt hak, nd_wk_lt hbk]
/-- a row of the nodes: a number, a variable, or of two nodes ahead of it; its size -/
def nd_row (K A B S : Nat → Int32) (k : Nat) : Prop := ∃ s : Nat, S k = nI s ∧ 1 ≤ s ∧ s ≤ 60 ∧ (K k = 0 ∨ (K k = 1 ∧ ∃ a, a < 8 ∧ A k = nI a) ∨ (2 ≤ K k ∧ K k ≤ 6 ∧ ∃ a b sa sb, a < k ∧ b < k ∧ A k = nI a ∧ B k = nI b ∧ S a = nI sa ∧ S b = nI sb ∧ s = 1 + sa + sb))
theorem cN_valueOf {c : Nat} (hc : c = 24 ∨ c = 29 ∨ c = 37) (k : Nat) : k < 151 → (∀ j, j ≤ k → nd_row (M 2) (M 3) (M 4) (M 5) j) → ∀ (x y : Int32) (s e d : Nat) (Q : Option Value → mc_M → mc_L → Prop), x = nI k → y = nI e → M 5 k = nI s → e + s / 2 ≤ 40 → s / 2 + 3 ≤ d → (∀ r, r = nd_val (M 2) (M 3) (M 4) (M c) k → Q (some (.int r)) M L) → ctN_valueOf g d [.ref 1, .int x, .ref c, .int y] n M L Q := by
  induction k using Nat.strongRecOn with
  | _ k ih =>
    intro hk hr x y s e d Q hx hy hs he hd h
    subst hx
    subst hy
    obtain ⟨d, rfl⟩ := Nat.exists_eq_add_of_le' (show 1 ≤ d by omega)
    have e1 : (nI k).toNatClampNeg = k := nI_clamp (by omega)
    obtain ⟨s', hs', g1, g2, g3⟩ := hr k (Nat.le_refl _)
    have hss : s' = s := (nI_eq (by omega) (by omega)).mp (hs'.symm.trans hs)
    subst hss
    have v1 : vp_in (nI k) 151 := vp_in_nI hk (by decide)
    rcases g3 with g3 | ⟨g3, a, ha, hA⟩ | ⟨g3, g4, a, b, sa, sb, ha, hb, hA, hB, hsa, hsb, hsum⟩
    · have t : ∀ r, r = M 3 (nI k).toNatClampNeg → Q (some (.int r)) M L := fun r z => h r (by rw [z, e1, nd_val_0 g3])
      rw [← e1] at g3
      rcases hc with rfl | rfl | rfl <;>
      exact inN_valueOf (Nat.le_of_ble_eq_true rfl) (fun K hK => hK.1 [] 60 0 _ _ _ _ _ ⟨v1, fun z => absurd g3 z, fun _ => ⟨v1, Nat.le_refl _, t _ rfl⟩⟩)
    · have t : ∀ r, r = M c (M 3 (nI k).toNatClampNeg).toNatClampNeg → Q (some (.int r)) M L := fun r z => h r (by rw [z, e1, hA, nI_clamp (by omega), nd_val_1 g3 hA ha])
      have v2 : vp_in (M 3 (nI k).toNatClampNeg) 8 := by
        rw [e1, hA]
        exact vp_in_nI ha (by decide)
      rw [← e1] at g3
      rcases hc with rfl | rfl | rfl <;>
      exact inN_valueOf (Nat.le_of_ble_eq_true rfl) (fun K hK => hK.1 [] 60 0 _ _ _ _ _ ⟨v1, fun _ => ⟨fun z => absurd g3 z, fun _ => ⟨v1, v2, Nat.le_refl _, t _ rfl⟩⟩, fun z => absurd (g3.symm.trans z) (by decide)⟩)
    · have n0 : ¬ M 2 k = 0 := fun z => by rw [z] at g3; exact absurd g3 (by decide)
      have n1 : ¬ M 2 k = 1 := fun z => by rw [z] at g3; exact absurd g3 (by decide)
      have t : ∀ r, r = nd_cb (M 2 (nI k).toNatClampNeg) (nd_val (M 2) (M 3) (M 4) (M c) a) (nd_val (M 2) (M 3) (M 4) (M c) b) → Q (some (.int r)) M L := fun r z => h r (by rw [z, e1, nd_val_2 n0 n1 hA hB ha hb (by omega)])
      have xa : M 3 (nI k).toNatClampNeg = nI a := by rw [e1, hA]
      have xb : M 4 (nI k).toNatClampNeg = nI b := by rw [e1, hB]
      have ye : nI e + 1 = nI (e + 1) := nI_1 e
      have ca := ih a ha (by omega) (fun j hj => hr j (by omega))
      have cb := ih b hb (by omega) (fun j hj => hr j (by omega))
      have z40 : nI e ≤ 40 := nI_le (a := e) (b := 40) (by omega) (by decide)
      rw [← e1] at n0 n1
      have pa : 1 ≤ sa := by
        obtain ⟨s1, q1, q2, q3, -⟩ := hr a (by omega)
        have := (nI_eq (by omega) (by omega)).mp (q1.symm.trans hsa)
        omega
      have pb : 1 ≤ sb := by
        obtain ⟨s1, q1, q2, q3, -⟩ := hr b (by omega)
        have := (nI_eq (by omega) (by omega)).mp (q1.symm.trans hsb)
        omega
      rcases hc with rfl | rfl | rfl <;>
      exact inN_valueOf (Nat.le_of_ble_eq_true rfl) (fun K hK => hK.1 [] 60 0 _ _ _ _ _ ⟨v1, fun _ => ⟨fun _ => ⟨fun _ => ⟨v1, ca _ _ sa (e + 1) d _ xa ye hsa (by omega) (by omega) (fun r1 z1 => ⟨v1, cb _ _ sb (e + 1) d _ xb ye hsb (by omega) (by omega) (fun r2 z2 => cN_combine (by omega) (fun r z => ⟨Nat.le_refl _, t _ (by rw [z, z1, z2])⟩))⟩)⟩, fun z => absurd z40 z⟩, fun z => absurd z n1⟩, fun z => absurd z n0⟩)
def nd_sz (M : mc_M) (q a b : Int32) : Int32 := if 1 < q then 1 + M 5 a.toNatClampNeg + M 5 b.toNatClampNeg else 1
def nd_vs (M : mc_M) (q a b : Int32) : Int32 := if q = 0 then 0 else if q = 1 then 1 <<< (a &&& 31) else M 6 a.toNatClampNeg ||| M 6 b.toNatClampNeg
def nd_mx (x y : Int32) : Int32 := if x < y then y else x
theorem nd_can_2 {m : Nat} {q a b : Int32} (h : nd_can m q a b) (h1 : 1 < q) : (∃ j, j < m ∧ a = nI j) ∧ ∃ j, j < m ∧ b = nI j := by
  rcases h with h | ⟨h, -⟩ | ⟨-, -, h2⟩
  · rw [h] at h1
    exact absurd h1 (by decide)
  · rw [h] at h1
    exact absurd h1 (by decide)
  · exact h2
theorem nd_can_3 {m : Nat} {q a b : Int32} (h : nd_can m q a b) (h0 : q ≠ 0) (h1 : q ≠ 1) : (∃ j, j < m ∧ a = nI j) ∧ ∃ j, j < m ∧ b = nI j := by
  rcases h with h | ⟨h, -⟩ | ⟨-, -, h2⟩
  · exact absurd h h0
  · exact absurd h h1
  · exact h2
theorem cN_size {q a b : Int32} {m : Nat} (hd : 1 ≤ d) (hm : m ≤ 150) (hcan : nd_can m q a b) (h : ∀ r, r = nd_sz M q a b → Q (some (.int r)) M L) : ctN_sizeWith g d [.ref 1, .int q, .int a, .int b] n M L Q := by
  refine cN_sizeWith hd (fun z => h _ (by unfold nd_sz; rw [if_neg z])) (fun z => ?_)
  obtain ⟨⟨i, hi, rfl⟩, j, hj, rfl⟩ := nd_can_2 hcan z
  exact ⟨i, j, by omega, by omega, rfl, rfl, h _ (by unfold nd_sz; rw [if_pos z, nI_clamp (by omega), nI_clamp (by omega)])⟩
theorem cN_vars {q a b : Int32} {m : Nat} (hd : 1 ≤ d) (hm : m ≤ 150) (hcan : nd_can m q a b) (h : ∀ r, r = nd_vs M q a b → Q (some (.int r)) M L) : ctN_variablesWith g d [.ref 1, .int q, .int a, .int b] n M L Q := by
  refine cN_variablesWith hd (fun z => h _ (by unfold nd_vs; rw [if_pos z])) (fun z => h _ (by unfold nd_vs; rw [z]; rfl)) (fun z z1 => ?_)
  obtain ⟨⟨i, hi, rfl⟩, j, hj, rfl⟩ := nd_can_3 hcan z z1
  exact ⟨i, j, by omega, by omega, rfl, rfl, h _ (by unfold nd_vs; rw [if_neg z, if_neg z1, nI_clamp (by omega), nI_clamp (by omega)])⟩
theorem cN_add {q a b : Int32} {m : Nat} (hd : 2 ≤ d) (hm : M 1 5 = nI m) (hm1 : m < 150) (hcan : nd_can m q a b) (h : ∀ M', M' = mc_put (mc_put (mc_put (mc_put (mc_put (mc_put (mc_put M 2 m q) 3 m a) 4 m b) 5 m (nd_sz M q a b)) 6 m (nd_vs M q a b)) 1 6 (nd_mx (M 1 6) (nd_sz M q a b))) 1 5 (nI (m + 1)) → Q (some (.int (nI m))) M' L) : ctN_add g d [.ref 1, .int q, .int a, .int b] n M L Q := by
  obtain ⟨d, rfl⟩ := Nat.exists_eq_add_of_le' (show 1 ≤ d by omega)
  have e1 : (nI m).toNatClampNeg = m := nI_clamp (by omega)
  have v1 : vp_in (M 1 5) 151 := by
    rw [hm]
    exact vp_in_nI (by omega) (by decide)
  have h' : ∀ r M', r = nI m → M' = mc_put (mc_put (mc_put (mc_put (mc_put (mc_put (mc_put M 2 m q) 3 m a) 4 m b) 5 m (nd_sz M q a b)) 6 m (nd_vs M q a b)) 1 6 (nd_mx (M 1 6) (nd_sz M q a b))) 1 5 (nI (m + 1)) → Q (some (.int r)) M' L := fun r M' hr => hr ▸ h M'
  refine inN_add (Nat.le_of_ble_eq_true rfl) (fun K hK => hK.1 [] 60 0 _ _ _ _ _ ⟨v1, v1, v1, cN_size (m := m) (by omega) (by omega) hcan (fun r1 z1 => ⟨v1, cN_vars (m := m) (by omega) (by omega) hcan (fun r2 z2 => ⟨v1, v1, Nat.le_refl _, h' _ _ hm ?_⟩)⟩)⟩)
  have y1 : r1 = nd_sz M q a b := z1
  have y2 : r2 = nd_vs M q a b := z2
  rw [← y1, ← y2, ← nI_1, ← hm]
  have e2 : (M 1 5).toNatClampNeg = m := by rw [hm, e1]
  simp only [e2]
  simp [mc_put_at, nd_mx]
end ND
end
section
/-! Flow -/
theorem nI_mul (a b : Nat) : nI a * nI b = nI (a * b) := (Int32.ofNat_mul a b).symm
theorem mc_set_id (M : mc_M) (c : Nat) : mc_set M c (M c) = M := by
  funext j
  unfold mc_set
  split
  · next h => rw [h]
  · rfl
theorem mc_set_at (M : mc_M) (i : Nat) (f : Nat → Int32) (j : Nat) : mc_set M i f j = if j = i then f else M j := rfl
/-- a flow's cell and how many blocks it holds -/
def fl_is (f w : Nat) : Prop := (f = 7 ∧ w = 16) ∨ (f = 38 ∧ w = 100) ∨ (f = 51 ∧ w = 100)
def fl_bit (S : Int32) (v : Nat) : Bool := decide (¬ ((S >>> (nI v &&& 31)) &&& 1) = 0)
def fl_tw (S : Int32) (E F : Nat → Int32) (st k : Nat) : Nat → Int32 := fun v => if v < k ∧ fl_bit S v = true then F (st * 8 + v) else E v
theorem fl_tw_0 (S : Int32) (E F : Nat → Int32) (st : Nat) : fl_tw S E F st 0 = E := by
  funext v
  unfold fl_tw
  rw [if_neg (by omega)]
theorem fl_tw_z (E F : Nat → Int32) (st k : Nat) : fl_tw 0 E F st k = E := by
  funext v
  unfold fl_tw
  rw [if_neg]
  rintro ⟨-, h⟩
  simp [fl_bit] at h
theorem fl_tw_n {S : Int32} {k : Nat} (h : fl_bit S k = false) (E F : Nat → Int32) (st : Nat) : fl_tw S E F st (k + 1) = fl_tw S E F st k := by
  funext v
  unfold fl_tw
  by_cases e : v = k
  · subst e
    rw [if_neg (by rw [h]; simp), if_neg (by omega)]
  · congr 1
    apply propext
    constructor
    · rintro ⟨h1, h2⟩
      exact ⟨by omega, h2⟩
    · rintro ⟨h1, h2⟩
      exact ⟨by omega, h2⟩
theorem fl_tw_s {S : Int32} {k : Nat} (h : fl_bit S k = true) (M : mc_M) (c : Nat) (E F : Nat → Int32) (st : Nat) : mc_put (mc_set M c (fl_tw S E F st k)) c k (F (st * 8 + k)) = mc_set M c (fl_tw S E F st (k + 1)) := by
  funext j v
  rw [mc_put_at, mc_set_at, mc_set_at]
  by_cases hj : j = c
  · subst hj
    rw [if_pos rfl, if_pos rfl]
    unfold fl_tw
    by_cases e : v = k
    · subst e
      rw [if_pos ⟨rfl, rfl⟩, if_pos ⟨by omega, h⟩]
    · rw [if_neg (fun z => e z.2)]
      congr 1
      apply propext
      constructor
      · rintro ⟨h1, h2⟩
        exact ⟨by omega, h2⟩
      · rintro ⟨h1, h2⟩
        exact ⟨by omega, h2⟩
  · rw [if_neg (fun z => hj z.1), if_neg hj, if_neg hj]
section FL
variable {g : mc_G} {d n f w : Nat} {M : mc_M} {L : mc_L} {Q : Option Value → mc_M → mc_L → Prop}
theorem cF_jumpStep (hf : fl_is f w) (hd : 1 ≤ d) {x : Int32} {b j : Nat} (hx : x = nI b) (hb : b < w) (hj : M (f + 5) b = nI j) (h : ∀ r, r = nI (j * 11 + 10) → Q (some (.int r)) M L) : ctF_jumpStep g d [.ref f, .int x] n M L Q := by
  obtain ⟨d, rfl⟩ := Nat.exists_eq_add_of_le' hd
  subst hx
  have hw : w < 2 ^ 31 := by rcases hf with ⟨-, rfl⟩ | ⟨-, rfl⟩ | ⟨-, rfl⟩ <;> decide
  have v1 : vp_in (nI b) w := vp_in_nI hb hw
  have t : M (f + 5) (nI b).toNatClampNeg * 11 + 10 = nI (j * 11 + 10) := by
    rw [nI_clamp (by omega), hj]
    rw [← nI_add, ← nI_mul]
    rfl
  rcases hf with ⟨rfl, rfl⟩ | ⟨rfl, rfl⟩ | ⟨rfl, rfl⟩ <;>
  exact inF_jumpStep (Nat.le_of_ble_eq_true rfl) (fun K hK => hK.1 [] 20 0 _ _ _ _ _ ⟨v1, Nat.le_refl _, h _ t⟩)
theorem cF_setTargets (hf : fl_is f w) (hd : 1 ≤ d) {x one other : Int32} {b j : Nat} (hx : x = nI b) (hb : b < w) (hj : M (f + 5) b = nI j) (hjw : j < w) (h : ∀ M', M' = mc_put (mc_put M (f + 7) j one) (f + 8) j other → Q none M' L) : ctF_setTargets g d [.ref f, .int x, .int one, .int other] n M L Q := by
  obtain ⟨d, rfl⟩ := Nat.exists_eq_add_of_le' hd
  subst hx
  have hw : w < 2 ^ 31 := by rcases hf with ⟨-, rfl⟩ | ⟨-, rfl⟩ | ⟨-, rfl⟩ <;> decide
  have v1 : vp_in (nI b) w := vp_in_nI hb hw
  have t : M (f + 5) (nI b).toNatClampNeg = nI j := by rw [nI_clamp (by omega), hj]
  have v2 : vp_in (M (f + 5) (nI b).toNatClampNeg) w := by
    rw [t]
    exact vp_in_nI hjw hw
  have t2 : mc_put M (f + 7) (M (f + 5) (nI b).toNatClampNeg).toNatClampNeg one (f + 5) (nI b).toNatClampNeg = nI j := by
    rw [mc_put_at, if_neg (by omega), t]
  have v3 : vp_in (mc_put M (f + 7) (M (f + 5) (nI b).toNatClampNeg).toNatClampNeg one (f + 5) (nI b).toNatClampNeg) w := by
    rw [t2]
    exact vp_in_nI hjw hw
  have t3 : mc_put (mc_put M (f + 7) (M (f + 5) (nI b).toNatClampNeg).toNatClampNeg one) (f + 8) (mc_put M (f + 7) (M (f + 5) (nI b).toNatClampNeg).toNatClampNeg one (f + 5) (nI b).toNatClampNeg).toNatClampNeg other = mc_put (mc_put M (f + 7) j one) (f + 8) j other := by
    rw [t2, t, nI_clamp (by omega)]
  rcases hf with ⟨rfl, rfl⟩ | ⟨rfl, rfl⟩ | ⟨rfl, rfl⟩ <;>
  exact inF_setTargets (Nat.le_of_ble_eq_true rfl) (fun K hK => hK.1 [] 30 0 _ _ _ _ _ ⟨v1, v2, v1, v3, Nat.le_refl _, h _ t3⟩)
theorem cF_setJump (hf : fl_is f w) (hd : 2 ≤ d) {x q k : Int32} {b j : Nat} (hx : x = nI b) (hb : b < w) (hj : M (f + 5) b = nI j) (hjw : j < w) (h : ∀ M', M' = mc_put (mc_put M (f + 6) j q) (f + 10) (j * 11 + 10) k → Q none M' L) : ctF_setJump g d [.ref f, .int x, .int q, .int k] n M L Q := by
  obtain ⟨d, rfl⟩ := Nat.exists_eq_add_of_le' (show 1 ≤ d by omega)
  subst hx
  have hw : w ≤ 100 := by rcases hf with ⟨-, rfl⟩ | ⟨-, rfl⟩ | ⟨-, rfl⟩ <;> decide
  have v1 : vp_in (nI b) w := vp_in_nI hb (by omega)
  have t : M (f + 5) (nI b).toNatClampNeg = nI j := by rw [nI_clamp (by omega), hj]
  have v2 : vp_in (M (f + 5) (nI b).toNatClampNeg) w := by
    rw [t]
    exact vp_in_nI hjw (by omega)
  have hj2 : mc_put M (f + 6) (M (f + 5) (nI b).toNatClampNeg).toNatClampNeg q (f + 5) b = nI j := by
    rw [mc_put_at, if_neg (by omega), hj]
  have v3 : ∀ r, r = nI (j * 11 + 10) → vp_in r (w * 11) := fun r hr => hr ▸ vp_in_nI (by omega) (by omega)
  have t3 : ∀ r, r = nI (j * 11 + 10) → mc_put (mc_put M (f + 6) (M (f + 5) (nI b).toNatClampNeg).toNatClampNeg q) (f + 10) r.toNatClampNeg k = mc_put (mc_put M (f + 6) j q) (f + 10) (j * 11 + 10) k := fun r hr => by
    rw [hr, t, nI_clamp (by omega), nI_clamp (by omega)]
  have hf' := hf
  rcases hf with ⟨rfl, rfl⟩ | ⟨rfl, rfl⟩ | ⟨rfl, rfl⟩ <;>
  exact inF_setJump (Nat.le_of_ble_eq_true rfl) (fun K hK => hK.1 [] 30 0 _ _ _ _ _ ⟨v1, v2, cF_jumpStep hf' (by omega) rfl hb hj2 (fun r hr => ⟨v3 r hr, Nat.le_refl _, h _ (t3 r hr)⟩)⟩)
theorem cF_thaw (hf : fl_is f w) (hd : 1 ≤ d) {x : Int32} {c st : Nat} (hc : c = 24 ∨ c = 37) (hx : x = nI st) (hst : st < w * 11) (h : ∀ M', M' = mc_set M c (fl_tw (M f 1) (M c) (M (f + 12)) st 8) → Q none M' L) : ctF_thaw g d [.ref f, .int x, .ref c] n M L Q := by
  obtain ⟨d, rfl⟩ := Nat.exists_eq_add_of_le' hd
  subst hx
  have hw : w ≤ 100 := by rcases hf with ⟨-, rfl⟩ | ⟨-, rfl⟩ | ⟨-, rfl⟩ <;> decide
  have hcf : c ≠ f ∧ c ≠ f + 12 := by
    rcases hf with ⟨rfl, rfl⟩ | ⟨rfl, rfl⟩ | ⟨rfl, rfl⟩ <;> rcases hc with rfl | rfl <;> decide
  have h0 : M f 1 = 0 → Q none M L := fun z => h M (by rw [z, fl_tw_z, mc_set_id])
  have lp : ∀ (K : mc_K), mc_closed true tab0 n 0 none (shF_thaw g d) Q (fun _ _ _ => False) tbF_thaw K → ∀ (r k : Nat) (i : Int32) (M' : mc_M), r + k = 8 → i = nI k → M' = mc_set M c (fl_tw (M f 1) (M c) (M (f + 12)) st k) → K 10 [some (.ref f), some (.int (nI st)), some (.ref c), some (.int i)] [] n M' L := by
    intro K hK r
    induction r with
    | zero =>
      intro k i M' hk hi hM
      subst hi
      have hk8 : k = 8 := by omega
      subst hk8
      have t := h M' hM
      rcases hf with ⟨rfl, rfl⟩ | ⟨rfl, rfl⟩ | ⟨rfl, rfl⟩ <;>
      exact hK.1 [10] 20 10 _ _ _ _ _ ⟨fun _ => ⟨Nat.le_refl _, t⟩, fun z => absurd (nI_le (a := 8) (b := 8) (Nat.le_refl _) (by decide)) z⟩
    | succ r ih =>
      intro k i M' hk hi hM
      subst hi
      have e1 : (nI k).toNatClampNeg = k := nI_clamp (by omega)
      have s1 : M' f 1 = M f 1 := by rw [hM, mc_set_n (Ne.symm hcf.1)]
      have s2 : M' (f + 12) = M (f + 12) := by rw [hM, mc_set_n (Ne.symm hcf.2)]
      have ix : nI st * 8 + nI k = nI (st * 8 + k) := by
        rw [← nI_add, ← nI_mul]
        rfl
      have v1 : vp_in (nI st * 8 + nI k) (w * 11 * 8) := by
        rw [ix]
        exact vp_in_nI (by omega) (by omega)
      have v2 : vp_in (nI k) 8 := vp_in_nI (by omega) (by decide)
      have b0 : ((M' f 1 >>> (nI k &&& 31)) &&& 1) = 0 → M' = mc_set M c (fl_tw (M f 1) (M c) (M (f + 12)) st (k + 1)) := fun z => by
        rw [s1] at z
        rw [hM, fl_tw_n (by simp [fl_bit, z])]
      have b1 : ¬ ((M' f 1 >>> (nI k &&& 31)) &&& 1) = 0 → mc_put M' c (nI k).toNatClampNeg (M' (f + 12) (nI st * 8 + nI k).toNatClampNeg) = mc_set M c (fl_tw (M f 1) (M c) (M (f + 12)) st (k + 1)) := fun z => by
        rw [s1] at z
        rw [s2, ix, e1, nI_clamp (by omega), hM]
        exact fl_tw_s (by simp [fl_bit, z]) M c _ _ st
      have ih' := fun M' => ih (k + 1) (nI k + 1) M' (by omega) (nI_1 k)
      rcases hf with ⟨rfl, rfl⟩ | ⟨rfl, rfl⟩ | ⟨rfl, rfl⟩ <;> rcases hc with rfl | rfl <;>
      exact hK.1 [10] 30 10 _ _ _ _ _ ⟨fun z => absurd z (nI_ge (a := k) (b := 8) (by omega) (by decide)), fun _ => ⟨fun z => ih' _ (b0 z), fun z => ⟨v1, v2, ih' _ (b1 z)⟩⟩⟩
  have lp' := fun K hK => lp K hK 8 0 0 M rfl rfl (by rw [fl_tw_0, mc_set_id])
  rcases hf with ⟨rfl, rfl⟩ | ⟨rfl, rfl⟩ | ⟨rfl, rfl⟩ <;> rcases hc with rfl | rfl <;>
  exact inF_thaw (Nat.le_of_ble_eq_true rfl) (fun K hK => hK.1 [10] 20 0 _ _ _ _ _ ⟨fun _ => lp' K hK, fun z => ⟨Nat.le_refl _, h0 z⟩⟩)
def fl_empty (M : mc_M) (f b : Nat) (o : Int32) : mc_M := mc_put (mc_put (mc_put (mc_put (mc_put (mc_put (mc_put M (f + 1) b o) (f + 2) b 0) (f + 5) b (nI b)) (f + 6) b 2) (f + 10) (b * 11 + 10) 150) (f + 7) b (-1)) (f + 8) b (-1)
theorem cF_makeEmpty (hf : fl_is f w) (hd : 3 ≤ d) {x o : Int32} {b : Nat} (hx : x = nI b) (hb : b < w) (h : ∀ M', M' = fl_empty M f b o → Q none M' L) : ctF_makeEmpty g d [.ref f, .int x, .int o] n M L Q := by
  obtain ⟨d, rfl⟩ := Nat.exists_eq_add_of_le' (show 1 ≤ d by omega)
  subst hx
  have hw : w ≤ 100 := by rcases hf with ⟨-, rfl⟩ | ⟨-, rfl⟩ | ⟨-, rfl⟩ <;> decide
  have v1 : vp_in (nI b) w := vp_in_nI hb (by omega)
  have e1 : (nI b).toNatClampNeg = b := nI_clamp (by omega)
  have hj1 : mc_put (mc_put (mc_put M (f + 1) (nI b).toNatClampNeg o) (f + 2) (nI b).toNatClampNeg 0) (f + 5) (nI b).toNatClampNeg (nI b) (f + 5) b = nI b := by
    rw [mc_put_at, if_pos ⟨rfl, e1.symm⟩]
  have hj2 : ∀ M', M' = mc_put (mc_put (mc_put (mc_put (mc_put M (f + 1) (nI b).toNatClampNeg o) (f + 2) (nI b).toNatClampNeg 0) (f + 5) (nI b).toNatClampNeg (nI b)) (f + 6) b 2) (f + 10) (b * 11 + 10) 150 → M' (f + 5) b = nI b := fun M' hM => by
    rw [hM, mc_put_at, if_neg (by omega), mc_put_at, if_neg (by omega), hj1]
  have t : ∀ M1 M2, M1 = mc_put (mc_put (mc_put (mc_put (mc_put M (f + 1) (nI b).toNatClampNeg o) (f + 2) (nI b).toNatClampNeg 0) (f + 5) (nI b).toNatClampNeg (nI b)) (f + 6) b 2) (f + 10) (b * 11 + 10) 150 → M2 = mc_put (mc_put M1 (f + 7) b (-1)) (f + 8) b (-1) → M2 = fl_empty M f b o := fun M1 M2 h1 h2 => by
    rw [h2, h1, e1]
    rfl
  have hf' := hf
  rcases hf with ⟨rfl, rfl⟩ | ⟨rfl, rfl⟩ | ⟨rfl, rfl⟩ <;>
  exact inF_makeEmpty (Nat.le_of_ble_eq_true rfl) (fun K hK => hK.1 [] 40 0 _ _ _ _ _ ⟨v1, v1, v1, cF_setJump hf' (by omega) rfl hb hj1 hb (fun M1 z1 => cF_setTargets hf' (by omega) rfl hb (hj2 M1 z1) hb (fun M2 z2 => ⟨Nat.le_refl _, h _ (t M1 M2 z1 z2)⟩))⟩)
theorem cF_freeze (hf : fl_is f w) (hd : 1 ≤ d) {x : Int32} {st : Nat} (hx : x = nI st) (hst : st < w * 11) (h : ∀ M', M' = mc_set M (f + 12) (va_cpy (M 29) (M (f + 12)) 0 (st * 8) 8) → Q none M' L) : ctF_freeze g d [.ref f, .int x, .ref 29] n M L Q := by
  obtain ⟨d, rfl⟩ := Nat.exists_eq_add_of_le' hd
  subst hx
  have hw : w ≤ 100 := by rcases hf with ⟨-, rfl⟩ | ⟨-, rfl⟩ | ⟨-, rfl⟩ <;> decide
  have ix : nI st * 8 = nI (st * 8) := nI_mul st 8
  have v1 : ¬ nI st * 8 < 0 := by
    rw [ix]
    exact nI_pos (by omega)
  have e1 : (nI st * 8).toNatClampNeg = st * 8 := by rw [ix, nI_clamp (by omega)]
  have v2 : (nI st * 8).toNatClampNeg + (8 : Int32).toNatClampNeg ≤ w * 11 * 8 := by
    rw [e1]
    show st * 8 + 8 ≤ _
    omega
  have t : mc_set M (f + 12) (va_cpy (M 29) (M (f + 12)) (0 : Int32).toNatClampNeg (nI st * 8).toNatClampNeg (8 : Int32).toNatClampNeg) = mc_set M (f + 12) (va_cpy (M 29) (M (f + 12)) 0 (st * 8) 8) := by
    rw [e1]
    rfl
  rcases hf with ⟨rfl, rfl⟩ | ⟨rfl, rfl⟩ | ⟨rfl, rfl⟩ <;>
  exact inF_freeze (Nat.le_of_ble_eq_true rfl) (fun K hK => hK.1 [] 40 0 _ _ _ _ _ ⟨by decide, v1, by decide, by decide, v2, Nat.le_refl _, h _ t⟩)
def fl_app (M : mc_M) (f b c l : Nat) (v k : Int32) : mc_M := mc_put (mc_put (if c = 0 then mc_put (mc_put (mc_put M (f + 9) (b * 11 + c) v) (f + 10) (b * 11 + c) k) (f + 3) b (nI (b * 11 + c)) else mc_put (mc_put (mc_put M (f + 9) (b * 11 + c) v) (f + 10) (b * 11 + c) k) (f + 11) l (nI (b * 11 + c))) (f + 4) b (nI (b * 11 + c))) (f + 2) b (nI (c + 1))
theorem cF_append (hf : fl_is f w) (hd : 1 ≤ d) {x v k : Int32} {b c l : Nat} (hx : x = nI b) (hb : b < w) (hc : M (f + 2) b = nI c) (hc10 : c ≤ 10) (hl : 0 < c → M (f + 4) b = nI l ∧ l < w * 11) (h : ∀ r M', r = nI (b * 11 + c) → M' = fl_app M f b c l v k → Q (some (.int r)) M' L) : ctF_append g d [.ref f, .int x, .int v, .int k] n M L Q := by
  obtain ⟨d, rfl⟩ := Nat.exists_eq_add_of_le' hd
  subst hx
  have hw : w ≤ 100 := by rcases hf with ⟨-, rfl⟩ | ⟨-, rfl⟩ | ⟨-, rfl⟩ <;> decide
  have v1 : vp_in (nI b) w := vp_in_nI hb (by omega)
  have e1 : (nI b).toNatClampNeg = b := nI_clamp (by omega)
  have st : nI b * 11 + M (f + 2) (nI b).toNatClampNeg = nI (b * 11 + c) := by
    rw [e1, hc, ← nI_add, ← nI_mul]
    rfl
  have v2 : vp_in (nI b * 11 + M (f + 2) (nI b).toNatClampNeg) (w * 11) := by
    rw [st]
    exact vp_in_nI (by omega) (by omega)
  have hM : ∀ M2, M2 = mc_put (mc_put M (f + 9) (nI b * 11 + M (f + 2) (nI b).toNatClampNeg).toNatClampNeg v) (f + 10) (nI b * 11 + M (f + 2) (nI b).toNatClampNeg).toNatClampNeg k → M2 = mc_put (mc_put M (f + 9) (b * 11 + c) v) (f + 10) (b * 11 + c) k := fun M2 h2 => by
    rw [h2, st, nI_clamp (by omega)]
  have q2 : ∀ M2, M2 = mc_put (mc_put M (f + 9) (nI b * 11 + M (f + 2) (nI b).toNatClampNeg).toNatClampNeg v) (f + 10) (nI b * 11 + M (f + 2) (nI b).toNatClampNeg).toNatClampNeg k → M2 (f + 2) (nI b).toNatClampNeg = nI c ∧ M2 (f + 4) (nI b).toNatClampNeg = M (f + 4) b := fun M2 h2 => by
    rw [h2]
    refine ⟨?_, ?_⟩
    · rw [mc_put_at, if_neg (by omega), mc_put_at, if_neg (by omega), e1, hc]
    · rw [mc_put_at, if_neg (by omega), mc_put_at, if_neg (by omega), e1]
  have c0 : ∀ M2, M2 = mc_put (mc_put M (f + 9) (nI b * 11 + M (f + 2) (nI b).toNatClampNeg).toNatClampNeg v) (f + 10) (nI b * 11 + M (f + 2) (nI b).toNatClampNeg).toNatClampNeg k → ∀ M3, M3 = mc_put (mc_put M2 (f + 3) (nI b).toNatClampNeg (nI b * 11 + M (f + 2) (nI b).toNatClampNeg)) (f + 4) (nI b).toNatClampNeg (nI b * 11 + M (f + 2) (nI b).toNatClampNeg) → c = 0 → mc_put M3 (f + 2) (nI b).toNatClampNeg (M3 (f + 2) (nI b).toNatClampNeg + 1) = fl_app M f b c l v k := fun M2 h2 M3 h3 hc0 => by
    have a1 : M3 (f + 2) (nI b).toNatClampNeg = nI c := by
      rw [h3, mc_put_at, if_neg (by omega), mc_put_at, if_neg (by omega)]
      exact (q2 M2 h2).1
    rw [a1, nI_1, h3, hM M2 h2, st, e1]
    unfold fl_app
    rw [if_pos hc0]
  have c1 : ∀ M2, M2 = mc_put (mc_put M (f + 9) (nI b * 11 + M (f + 2) (nI b).toNatClampNeg).toNatClampNeg v) (f + 10) (nI b * 11 + M (f + 2) (nI b).toNatClampNeg).toNatClampNeg k → ∀ M3, M3 = mc_put (mc_put M2 (f + 11) (M2 (f + 4) (nI b).toNatClampNeg).toNatClampNeg (nI b * 11 + M (f + 2) (nI b).toNatClampNeg)) (f + 4) (nI b).toNatClampNeg (nI b * 11 + M (f + 2) (nI b).toNatClampNeg) → 0 < c → mc_put M3 (f + 2) (nI b).toNatClampNeg (M3 (f + 2) (nI b).toNatClampNeg + 1) = fl_app M f b c l v k := fun M2 h2 M3 h3 hc0 => by
    have a1 : M3 (f + 2) (nI b).toNatClampNeg = nI c := by
      rw [h3, mc_put_at, if_neg (by omega), mc_put_at, if_neg (by omega)]
      exact (q2 M2 h2).1
    obtain ⟨a2, a3⟩ := hl hc0
    rw [a1, nI_1, h3, (q2 M2 h2).2, a2, hM M2 h2, st, e1, nI_clamp (by omega)]
    unfold fl_app
    rw [if_neg (by omega)]
  have v3 : ∀ M2, M2 = mc_put (mc_put M (f + 9) (nI b * 11 + M (f + 2) (nI b).toNatClampNeg).toNatClampNeg v) (f + 10) (nI b * 11 + M (f + 2) (nI b).toNatClampNeg).toNatClampNeg k → 0 < c → vp_in (M2 (f + 4) (nI b).toNatClampNeg) (w * 11) := fun M2 h2 hc0 => by
    obtain ⟨a2, a3⟩ := hl hc0
    rw [(q2 M2 h2).2, a2]
    exact vp_in_nI a3 (by omega)
  have n0 : ∀ M2, M2 = mc_put (mc_put M (f + 9) (nI b * 11 + M (f + 2) (nI b).toNatClampNeg).toNatClampNeg v) (f + 10) (nI b * 11 + M (f + 2) (nI b).toNatClampNeg).toNatClampNeg k → M2 (f + 2) (nI b).toNatClampNeg = 0 → c = 0 := fun M2 h2 z => by
    rw [(q2 M2 h2).1] at z
    exact (nI_eq (b := 0) (by omega) (by decide)).mp z
  have n1 : ∀ M2, M2 = mc_put (mc_put M (f + 9) (nI b * 11 + M (f + 2) (nI b).toNatClampNeg).toNatClampNeg v) (f + 10) (nI b * 11 + M (f + 2) (nI b).toNatClampNeg).toNatClampNeg k → ¬ M2 (f + 2) (nI b).toNatClampNeg = 0 → 0 < c := fun M2 h2 z => by
    rw [(q2 M2 h2).1] at z
    exact Nat.pos_of_ne_zero (fun y => z (by rw [y]; rfl))
  have h' := fun M3 hz => h _ M3 st hz
  rcases hf with ⟨rfl, rfl⟩ | ⟨rfl, rfl⟩ | ⟨rfl, rfl⟩ <;>
  exact inF_append (Nat.le_of_ble_eq_true rfl) (fun K hK => hK.1 [] 60 0 _ _ _ _ _ ⟨v1, v2, v2, v1, fun z => ⟨v1, v3 _ rfl (n1 _ rfl z), v1, v1, v1, Nat.le_refl _, h' _ (c1 _ rfl _ rfl (n1 _ rfl z))⟩, fun z => ⟨v1, v1, v1, v1, Nat.le_refl _, h' _ (c0 _ rfl _ rfl (n0 _ rfl z))⟩⟩)
end FL
end
section
/-! What a flow is, apart from how it is held -/
theorem bv_and1 (x : BitVec 32) : (x &&& 1#32 = 0#32) ↔ x.getLsbD 0 = false := by
  rw [BitVec.and_one_eq_setWidth_ofBool_getLsbD]
  cases x.getLsbD 0 <;> decide
theorem fl_bit_get (S : Int32) (v : Nat) (hv : v < 8) : fl_bit S v = S.toBitVec.getLsbD v := by
  have h : ∀ k : Nat, k < 8 → ((S >>> (nI k &&& 31)) &&& 1).toBitVec = S.toBitVec.sshiftRight k &&& 1#32 := by
    intro k hk
    rw [Int32.toBitVec_and, Int32.toBitVec_shiftRight]
    have h8 : k = 0 ∨ k = 1 ∨ k = 2 ∨ k = 3 ∨ k = 4 ∨ k = 5 ∨ k = 6 ∨ k = 7 := by omega
    rcases h8 with rfl | rfl | rfl | rfl | rfl | rfl | rfl | rfl <;> rfl
  have h2 : (((S >>> (nI v &&& 31)) &&& 1) = 0) ↔ S.toBitVec.getLsbD v = false := by
    rw [← Int32.toBitVec_inj, h v hv]
    show (_ &&& 1#32 = 0#32) ↔ _
    rw [bv_and1, BitVec.getLsbD_sshiftRight]
    simp
    omega
  unfold fl_bit
  cases hb : S.toBitVec.getLsbD v with
  | false => simp [h2.mpr hb]
  | true =>
    have : ¬ ((S >>> (nI v &&& 31)) &&& 1) = 0 := fun z => by rw [h2.mp z] at hb; cases hb
    simp [this]
theorem fl_bit_or (x y : Int32) {v : Nat} (hv : v < 8) : fl_bit (x ||| y) v = (fl_bit x v || fl_bit y v) := by
  rw [fl_bit_get _ _ hv, fl_bit_get _ _ hv, fl_bit_get _ _ hv]
  simp
theorem fl_bit_and (x y : Int32) {v : Nat} (hv : v < 8) : fl_bit (x &&& y) v = (fl_bit x v && fl_bit y v) := by
  rw [fl_bit_get _ _ hv, fl_bit_get _ _ hv, fl_bit_get _ _ hv]
  simp
theorem fl_bit_not (x : Int32) {v : Nat} (hv : v < 8) : fl_bit (x ^^^ (-1)) v = !fl_bit x v := by
  rw [fl_bit_get _ _ hv, fl_bit_get _ _ hv, Int32.toBitVec_xor, BitVec.getLsbD_xor]
  have : ((-1 : Int32).toBitVec).getLsbD v = true := by
    have h8 : v = 0 ∨ v = 1 ∨ v = 2 ∨ v = 3 ∨ v = 4 ∨ v = 5 ∨ v = 6 ∨ v = 7 := by omega
    rcases h8 with rfl | rfl | rfl | rfl | rfl | rfl | rfl | rfl <;> decide
  rw [this]
  simp
theorem fl_bit_one {a v : Nat} (ha : a < 8) (hv : v < 8) : fl_bit (1 <<< (nI a &&& 31)) v = decide (v = a) := by
  have h8 : a = 0 ∨ a = 1 ∨ a = 2 ∨ a = 3 ∨ a = 4 ∨ a = 5 ∨ a = 6 ∨ a = 7 := by omega
  have h9 : v = 0 ∨ v = 1 ∨ v = 2 ∨ v = 3 ∨ v = 4 ∨ v = 5 ∨ v = 6 ∨ v = 7 := by omega
  rcases h8 with rfl | rfl | rfl | rfl | rfl | rfl | rfl | rfl <;> rcases h9 with rfl | rfl | rfl | rfl | rfl | rfl | rfl | rfl <;> decide
theorem fl_bit_255 {v : Nat} (hv : v < 8) : fl_bit 255 v = true := by
  have h9 : v = 0 ∨ v = 1 ∨ v = 2 ∨ v = 3 ∨ v = 4 ∨ v = 5 ∨ v = 6 ∨ v = 7 := by omega
  rcases h9 with rfl | rfl | rfl | rfl | rfl | rfl | rfl | rfl <;> decide
theorem fl_bit_0 (v : Nat) : fl_bit 0 v = false := by
  simp [fl_bit]
end
section
/-! The nodes' table T (rows: kinds, firsts, seconds, sizes, variables), and how the class holds it -/
def nd_vx (T : Nat → Nat → Int32) (k : Nat) : Int32 := if T 0 k = 0 then 0 else if T 0 k = 1 then 1 <<< (T 1 k &&& 31) else T 4 (T 1 k).toNatClampNeg ||| T 4 (T 2 k).toNatClampNeg
def nt_ok (T : Nat → Nat → Int32) (m : Nat) : Prop := m ≤ 150 ∧ (∀ k, k < m → nd_row (T 0) (T 1) (T 2) (T 3) k ∧ T 4 k = nd_vx T k) ∧ ∀ i k, m ≤ k → T i k = 0
def nt_C (M : mc_M) (T : Nat → Nat → Int32) (m : Nat) : Prop := M 1 5 = nI m ∧ ∀ i, i < 5 → ∀ k, k < m ∨ k = 150 → M (2 + i) k = T i k
theorem nd_wk_rows {K A B K' A' B' E : Nat → Int32} : ∀ (k : Nat), (∀ j, j < k → K j = K' j ∧ A j = A' j ∧ B j = B' j) → nd_wk K A B E k = nd_wk K' A' B' E k
  | 0, _ => rfl
  | k + 1, h => by
    have ih := nd_wk_rows (E := E) k (fun j hj => h j (by omega))
    obtain ⟨h1, h2, h3⟩ := h k (by omega)
    show upd _ _ _ = upd _ _ _
    rw [ih, h1, h2, h3]
theorem nd_val_rows {K A B K' A' B' E : Nat → Int32} {k : Nat} (h : ∀ j, j ≤ k → K j = K' j ∧ A j = A' j ∧ B j = B' j) : nd_val K A B E k = nd_val K' A' B' E k := by
  unfold nd_val
  rw [nd_wk_rows (k + 1) (fun j hj => h j (by omega))]
/-- a node's value depends on its variables alone -/
theorem nd_val_env {T : Nat → Nat → Int32} {m : Nat} (hT : nt_ok T m) {E E' : Nat → Int32} (k : Nat) : (∀ v, v < 8 → fl_bit (T 4 k) v = true → E v = E' v) → nd_val (T 0) (T 1) (T 2) E k = nd_val (T 0) (T 1) (T 2) E' k := by
  induction k using Nat.strongRecOn with
  | _ k ih =>
    intro h
    obtain ⟨h150, hr, hz⟩ := hT
    rcases Nat.lt_or_ge k m with hk | hk
    · obtain ⟨⟨s, g0, g1, g2, g3⟩, g4⟩ := hr k hk
      rcases g3 with g3 | ⟨g3, a, ha, hA⟩ | ⟨g3, g5, a, b, sa, sb, ha, hb, hA, hB, -⟩
      · rw [nd_val_0 g3, nd_val_0 g3]
      · rw [nd_val_1 g3 hA ha, nd_val_1 g3 hA ha]
        refine h a ha ?_
        unfold nd_vx at g4
        rw [g4, if_neg (by rw [g3]; decide), if_pos g3, hA, fl_bit_one ha ha]
        simp
      · have n0 : ¬ T 0 k = 0 := fun z => by rw [z] at g3; exact absurd g3 (by decide)
        have n1 : ¬ T 0 k = 1 := fun z => by rw [z] at g3; exact absurd g3 (by decide)
        unfold nd_vx at g4
        rw [if_neg n0, if_neg n1, hA, hB, nI_clamp (by omega), nI_clamp (by omega)] at g4
        rw [nd_val_2 n0 n1 hA hB ha hb (by omega), nd_val_2 n0 n1 hA hB ha hb (by omega), ih a ha (fun v hv hb => h v hv (by rw [g4, fl_bit_or _ _ hv, hb]; rfl)), ih b hb (fun v hv hb => h v hv (by rw [g4, fl_bit_or _ _ hv, hb]; simp))]
    · rw [nd_val_0 (hz 0 k hk), nd_val_0 (hz 0 k hk)]
section NV
variable {g : mc_G} {d n : Nat} {M : mc_M} {L : mc_L} {Q : Option Value → mc_M → mc_L → Prop} {T : Nat → Nat → Int32} {m : Nat}
theorem cN_value (hT : nt_ok T m) (hM : nt_C M T m) {c k : Nat} (hc : c = 24 ∨ c = 29 ∨ c = 37) {x : Int32} (hx : x = nI k) (hk : k < m ∨ k = 150) (hd : 33 ≤ d) (h : ∀ r, r = nd_val (T 0) (T 1) (T 2) (M c) k → Q (some (.int r)) M L) : ctN_valueOf g d [.ref 1, .int x, .ref c, .int 0] n M L Q := by
  obtain ⟨h150, hr, hz⟩ := hT
  obtain ⟨hm, hrow⟩ := hM
  by_cases hkm : k < m
  · have hr' : ∀ j, j ≤ k → nd_row (M 2) (M 3) (M 4) (M 5) j := by
      intro j hj
      obtain ⟨⟨s, g0, g1, g2, g3⟩, -⟩ := hr j (by omega)
      have r0 : M 2 j = T 0 j := hrow 0 (by decide) j (Or.inl (by omega))
      have r1 : M 3 j = T 1 j := hrow 1 (by decide) j (Or.inl (by omega))
      have r2 : M 4 j = T 2 j := hrow 2 (by decide) j (Or.inl (by omega))
      have r3 : M 5 j = T 3 j := hrow 3 (by decide) j (Or.inl (by omega))
      refine ⟨s, r3.trans g0, g1, g2, ?_⟩
      rw [r0, r1, r2]
      rcases g3 with g3 | g3 | ⟨g3, g5, a, b, sa, sb, ha, hb, hA, hB, hsa, hsb, hs⟩
      · exact Or.inl g3
      · exact Or.inr (Or.inl g3)
      · exact Or.inr (Or.inr ⟨g3, g5, a, b, sa, sb, ha, hb, hA, hB, (hrow 3 (by decide) a (Or.inl (by omega))).trans hsa, (hrow 3 (by decide) b (Or.inl (by omega))).trans hsb, hs⟩)
    obtain ⟨s, g0, g1, g2, -⟩ := hr' k (Nat.le_refl _)
    refine cN_valueOf hc k (by omega) hr' x 0 s 0 d Q hx rfl g0 (by omega) (by omega) (fun r z => h r (z.trans ?_))
    exact nd_val_rows (fun j hj => ⟨hrow 0 (by decide) j (Or.inl (by omega)), hrow 1 (by decide) j (Or.inl (by omega)), hrow 2 (by decide) j (Or.inl (by omega))⟩)
  · have h15 : k = 150 := by omega
    subst h15
    subst hx
    obtain ⟨d, rfl⟩ := Nat.exists_eq_add_of_le' (show 1 ≤ d by omega)
    have k0 : T 0 150 = 0 := hz 0 150 (by omega)
    have m0 : M 2 150 = 0 := (hrow 0 (by decide) 150 (Or.inr rfl)).trans k0
    have m1 : M 3 150 = T 1 150 := hrow 1 (by decide) 150 (Or.inr rfl)
    have v1 : vp_in (nI 150) 151 := vp_in_nI (by decide) (by decide)
    have t : ∀ r, r = M 3 (nI 150).toNatClampNeg → Q (some (.int r)) M L := fun r z => h r (by rw [z, nd_val_0 k0, ← m1]; rfl)
    have z0 : M 2 (nI 150).toNatClampNeg = 0 := m0
    rcases hc with rfl | rfl | rfl <;>
    exact inN_valueOf (Nat.le_of_ble_eq_true rfl) (fun K hK => hK.1 [] 60 0 _ _ _ _ _ ⟨v1, fun z => absurd z0 z, fun _ => ⟨v1, Nat.le_refl _, t _ rfl⟩⟩)
end NV
/-! A block: its origin, its assignments (variable, node, frozen values), its jump (kind, node and frozen values, targets) -/
abbrev Asg : Type := Nat × Nat × (Nat → Int32)
abbrev Blk : Type := Int32 × List Asg × Int32 × (Nat × (Nat → Int32)) × Int32 × Int32
def fl_fr (T : Nat → Nat → Int32) (S : Int32) (F : Nat → Int32) (s k : Nat) : Nat → Int32 := fun v => if v < 8 ∧ fl_bit S v = true ∧ fl_bit (T 4 k) v = true then F (s * 8 + v) else 0
def sp_val (T : Nat → Nat → Int32) (S : Int32) (k : Nat) (fr e : Nat → Int32) : Int32 := nd_val (T 0) (T 1) (T 2) (fun v => if fl_bit S v = true then fr v else e v) k
theorem sp_val_tw {T : Nat → Nat → Int32} {m : Nat} (hT : nt_ok T m) {S : Int32} {E F e : Nat → Int32} (k s : Nat) (h : ∀ v, v < 8 → fl_bit S v = false → E v = e v) : nd_val (T 0) (T 1) (T 2) (fl_tw S E F s 8) k = sp_val T S k (fl_fr T S F s k) e := by
  refine nd_val_env hT k (fun v hv hb => ?_)
  unfold fl_tw
  cases hS : fl_bit S v with
  | true =>
    rw [if_pos ⟨hv, rfl⟩, if_pos rfl]
    unfold fl_fr
    rw [if_pos ⟨hv, hS, hb⟩]
  | false =>
    rw [if_neg (fun z => by cases z.2), if_neg (fun z => by cases z)]
    exact h v hv hS
/-- the steps of a chain -/
def fl_ch (N : Nat → Int32) (W : Nat) : Int32 → List Nat → Prop
  | _, [] => True
  | x, t :: r => x = nI t ∧ t < W ∧ fl_ch N W (N t) r
def fl_as (T : Nat → Nat → Int32) (S : Int32) (M : mc_M) (f s : Nat) : Asg := ((M (f + 9) s).toNatClampNeg, (M (f + 10) s).toNatClampNeg, fl_fr T S (M (f + 12)) s (M (f + 10) s).toNatClampNeg)
def fl_sv (M : mc_M) (f m s : Nat) : Prop := (∃ v, v < 8 ∧ M (f + 9) s = nI v) ∧ ∃ k, (k < m ∨ k = 150) ∧ M (f + 10) s = nI k
def fl_blk (T : Nat → Nat → Int32) (m : Nat) (S : Int32) (M : mc_M) (f w : Nat) (b : Nat) (B : Blk) (ss : List Nat) (j : Nat) : Prop :=
  M (f + 1) b = B.1 ∧ M (f + 2) b = nI ss.length ∧ ss.length ≤ 1100 ∧ fl_ch (M (f + 11)) (w * 11) (M (f + 3) b) ss ∧ (∀ s ∈ ss, fl_sv M f m s) ∧ B.2.1 = ss.map (fl_as T S M f) ∧
  M (f + 5) b = nI j ∧ j < w ∧ M (f + 6) j = B.2.2.1 ∧ (∃ k, (k < m ∨ k = 150) ∧ M (f + 10) (j * 11 + 10) = nI k ∧ B.2.2.2.1 = (k, fl_fr T S (M (f + 12)) (j * 11 + 10) k)) ∧ M (f + 7) j = B.2.2.2.2.1 ∧ M (f + 8) j = B.2.2.2.2.2
/-- assignments, as long as there are steps -/
def sp_asg (T : Nat → Nat → Int32) (S : Int32) (lim : Nat) : List Asg → Nat → (Nat → Int32) → Nat × (Nat → Int32)
  | [], s, e => (s, e)
  | (v, k, fr) :: r, s, e => if s < lim then sp_asg T S lim r (s + 1) (upd e v (sp_val T S k fr e)) else (s, e)
def sp_trav (T : Nat → Nat → Int32) (S : Int32) (P : Nat → Blk) (lim : Nat) : Nat → Nat → Nat → (Nat → Int32) → Bool × Int32 × Nat × Nat
  | 0, b, s, _ => (false, 0, s, b)
  | f + 1, b, s, e =>
    let r := sp_asg T S lim (P b).2.1 s e
    if r.1 < lim then
      let x := sp_val T S (P b).2.2.2.1.1 (P b).2.2.2.1.2 r.2
      if (P b).2.2.1 = 2 then (true, x, r.1 + 1, b)
      else sp_trav T S P lim f (if (P b).2.2.1 = 0 ∨ ¬ x = 0 then (P b).2.2.2.2.1 else (P b).2.2.2.2.2).toNatClampNeg (r.1 + 1) r.2
    else (false, 0, r.1, b)
end
section
/-! Machine -/
def mch (M0 M : mc_M) (S : Int32) (e : Nat → Int32) (s : Nat) (b a : Int32) : Prop := (∀ c, c ≠ 23 → c ≠ 24 → M c = M0 c) ∧ M 23 1 = a ∧ M 23 2 = nI s ∧ M 23 3 = b ∧ ∀ v, v < 8 → fl_bit S v = false → M 24 v = e v
theorem fl_ne {f w : Nat} (hf : fl_is f w) {i : Nat} (hi : i ≤ 12) : f + i ≠ 23 ∧ f + i ≠ 24 := by
  rcases hf with ⟨rfl, rfl⟩ | ⟨rfl, rfl⟩ | ⟨rfl, rfl⟩ <;> omega
theorem nt_C_to {M M' : mc_M} {T : Nat → Nat → Int32} {m : Nat} (h : nt_C M T m) (hM : ∀ c, 1 ≤ c → c ≤ 6 → M' c = M c) : nt_C M' T m :=
  ⟨by rw [hM 1 (by omega) (by omega)]; exact h.1, fun i hi k hk => by rw [hM (2 + i) (by omega) (by omega)]; exact h.2 i hi k hk⟩
section MA
variable {g : mc_G} {d n f w : Nat} {M0 M : mc_M} {L : mc_L} {Q : Option Value → mc_M → mc_L → Prop} {T : Nat → Nat → Int32} {m : Nat}
theorem cM_doAssignments (hf : fl_is f w) (hT : nt_ok T m) (hN : nt_C M0 T m) {S : Int32} (hS : M0 f 1 = S) {b j l s : Nat} {B : Blk} {ss : List Nat} (hB : fl_blk T m S M0 f w b B ss j) (hb : b < w) {e : Nat → Int32} {a lim : Int32} (hst : mch M0 M S e s (nI b) a) (hlim : lim = nI l) (hl : l ≤ 5000) (hs : s ≤ l) (hd : 34 ≤ d)
    (h : ∀ M', mch M0 M' S (sp_asg T S l B.2.1 s e).2 (sp_asg T S l B.2.1 s e).1 (nI b) a → Q none M' L) : ctM_doAssignments g d [.ref 23, .ref 1, .ref f, .int lim] n M L Q := by
  obtain ⟨d, rfl⟩ := Nat.exists_eq_add_of_le' (show 1 ≤ d by omega)
  subst hlim
  obtain ⟨-, hc, hc1, hch, hsv, has, -⟩ := hB
  have hw : w ≤ 100 := by rcases hf with ⟨-, rfl⟩ | ⟨-, rfl⟩ | ⟨-, rfl⟩ <;> decide
  have hm150 := hT.1
  have hf' := hf
  have fne := fun {i} hi => fl_ne hf (i := i) hi
  have lp : ∀ (K : mc_K), mc_closed true tab0 n 0 none (shM_doAssignments g d) Q (fun _ _ _ => False) tbM_doAssignments K → ∀ (rs : List Nat) (x i : Int32) (M : mc_M) (s : Nat) (e : Nat → Int32), fl_ch (M0 (f + 11)) (w * 11) x rs → (∀ t ∈ rs, fl_sv M0 f m t) → rs.length ≤ ss.length → i = nI (ss.length - rs.length) → mch M0 M S e s (nI b) a → s ≤ l →
      (∀ M', mch M0 M' S (sp_asg T S l (rs.map (fl_as T S M0 f)) s e).2 (sp_asg T S l (rs.map (fl_as T S M0 f)) s e).1 (nI b) a → Q none M' L) → K 14 [some (.ref 23), some (.ref 1), some (.ref f), some (.int (nI l)), some (.int x), some (.int i)] [] n M L := by
    intro K hK rs
    induction rs with
    | nil =>
      intro x i M s e _ _ _ hi hst hs h
      subst hi
      have hcnt : M (f + 2) (M 23 3).toNatClampNeg = nI ss.length := by
        rw [hst.2.2.2.1, nI_clamp (by omega), hst.1 _ (fne (i := 2) (by decide)).1 (fne (i := 2) (by decide)).2, hc]
      have v1 : vp_in (M 23 3) w := by
        rw [hst.2.2.2.1]
        exact vp_in_nI hb (by omega)
      have c1 : M (f + 2) (M 23 3).toNatClampNeg ≤ nI (ss.length - 0) := by
        rw [hcnt]
        exact nI_le (by omega) (by omega)
      have q := h M hst
      rcases hf with ⟨rfl, rfl⟩ | ⟨rfl, rfl⟩ | ⟨rfl, rfl⟩ <;>
      exact hK.1 [14] 30 14 _ _ _ _ _ ⟨v1, fun _ => ⟨Nat.le_refl _, q⟩, fun z => absurd c1 z⟩
    | cons t rs ih =>
      intro x i M s e hx hsv hlen hi hst hs h
      obtain ⟨rfl, htw, hx'⟩ := hx
      subst hi
      have hlen' : rs.length + 1 ≤ ss.length := hlen
      obtain ⟨⟨v, hv8, hvr⟩, k, hk, hkr⟩ := hsv t List.mem_cons_self
      have hcnt : M (f + 2) (M 23 3).toNatClampNeg = nI ss.length := by
        rw [hst.2.2.2.1, nI_clamp (by omega), hst.1 _ (fne (i := 2) (by decide)).1 (fne (i := 2) (by decide)).2, hc]
      have v1 : vp_in (M 23 3) w := by
        rw [hst.2.2.2.1]
        exact vp_in_nI hb (by omega)
      have v2 : vp_in (nI t) (w * 11) := vp_in_nI htw (by omega)
      have e1 : (nI t).toNatClampNeg = t := nI_clamp (by omega)
      have c1 : ¬ M (f + 2) (M 23 3).toNatClampNeg ≤ nI (ss.length - (rs.length + 1)) := by
        rw [hcnt]
        exact nI_ge (by omega) (by omega)
      have as1 : fl_as T S M0 f t = (v, k, fl_fr T S (M0 (f + 12)) t k) := by
        unfold fl_as
        rw [hvr, hkr, nI_clamp (by omega), nI_clamp (by omega)]
      have q0 : nI l ≤ M 23 2 → Q none M L := fun z => by
        rw [hst.2.2.1] at z
        have z' := (nI_leI (by omega) (by omega)).mp z
        refine h M ?_
        rw [List.map_cons, as1]
        unfold sp_asg
        rw [if_neg (by omega)]
        exact hst
      have sl : ¬ nI l ≤ M 23 2 → s < l := fun z => by
        rw [hst.2.2.1] at z
        exact Nat.lt_of_not_le (fun y => z (nI_le y (by omega)))
      have fact : ∀ M1, M1 = mc_set M 24 (fl_tw (M f 1) (M 24) (M (f + 12)) t 8) → vp_in (M1 (f + 9) (nI t).toNatClampNeg) 8 ∧ M1 (f + 9) (nI t).toNatClampNeg = nI v ∧ M1 (f + 10) (nI t).toNatClampNeg = nI k ∧ nt_C M1 T m ∧ ∀ r, r = nd_val (T 0) (T 1) (T 2) (M1 24) k → ∀ M2, M2 = mc_put M1 24 (M1 (f + 9) (nI t).toNatClampNeg).toNatClampNeg r → M2 (f + 11) (nI t).toNatClampNeg = M0 (f + 11) t ∧ mch M0 (mc_put M2 23 2 (M2 23 2 + 1)) S (upd e v (sp_val T S k (fl_fr T S (M0 (f + 12)) t k) e)) (s + 1) (nI b) a := by
        intro M1 z1
        have r1 : ∀ c, c ≠ 24 → M1 c = M c := fun c hc => by rw [z1, mc_set_n hc]
        have r2 : ∀ c, c ≠ 23 → c ≠ 24 → M1 c = M0 c := fun c h1 h2 => by rw [r1 c h2, hst.1 c h1 h2]
        have a1 : M1 (f + 9) (nI t).toNatClampNeg = nI v := by rw [e1, r2 _ (fne (i := 9) (by decide)).1 (fne (i := 9) (by decide)).2, hvr]
        refine ⟨by rw [a1]; exact vp_in_nI hv8 (by decide), a1, by rw [e1, r2 _ (fne (i := 10) (by decide)).1 (fne (i := 10) (by decide)).2, hkr], nt_C_to hN (fun c h1 h2 => r2 c (by omega) (by omega)), ?_⟩
        intro r zr M2 z2
        have hr : r = sp_val T S k (fl_fr T S (M0 (f + 12)) t k) e := by
          rw [zr, z1, mc_set_s, hst.1 f (fne (i := 0) (by decide)).1 (fne (i := 0) (by decide)).2, hS, hst.1 _ (fne (i := 12) (by decide)).1 (fne (i := 12) (by decide)).2]
          exact sp_val_tw hT k t hst.2.2.2.2
        have p1 : ∀ c, c ≠ 24 → M2 c = M1 c := fun c hc => by
          funext y
          rw [z2, mc_put_at, if_neg (fun q => hc q.1)]
        refine ⟨by rw [e1, p1 _ (fne (i := 11) (by decide)).2, r2 _ (fne (i := 11) (by decide)).1 (fne (i := 11) (by decide)).2], ?_⟩
        have p2 : M2 23 = M 23 := by rw [p1 23 (by decide), r1 23 (by decide)]
        refine ⟨fun c h1 h2 => ?_, ?_, ?_, ?_, ?_⟩
        · funext y
          rw [mc_put_at, if_neg (fun q => h1 q.1), p1 c h2, r2 c h1 h2]
        · rw [mc_put_at, if_neg (by decide), p2, hst.2.1]
        · rw [mc_put_at, if_pos ⟨rfl, rfl⟩, p2, hst.2.2.1, nI_1]
        · rw [mc_put_at, if_neg (by decide), p2, hst.2.2.2.1]
        · intro u hu hS0
          rw [mc_put_at, if_neg (by omega), z2, mc_put_at, a1, nI_clamp (by omega), hr]
          unfold upd
          by_cases huv : u = v
          · rw [if_pos ⟨rfl, huv⟩, if_pos huv]
          · rw [if_neg (fun q => huv q.2), if_neg huv, z1, mc_set_s]
            unfold fl_tw
            rw [hst.1 f (fne (i := 0) (by decide)).1 (fne (i := 0) (by decide)).2, hS, if_neg (fun q => by rw [hS0] at q; cases q.2)]
            exact hst.2.2.2.2 u hu hS0
      have ih' : ∀ M1, M1 = mc_set M 24 (fl_tw (M f 1) (M 24) (M (f + 12)) t 8) → ∀ r, r = nd_val (T 0) (T 1) (T 2) (M1 24) k → ∀ M2, M2 = mc_put M1 24 (M1 (f + 9) (nI t).toNatClampNeg).toNatClampNeg r → s < l → K 14 [some (.ref 23), some (.ref 1), some (.ref f), some (.int (nI l)), some (.int (M2 (f + 11) (nI t).toNatClampNeg)), some (.int (nI (ss.length - (rs.length + 1)) + 1))] [] n (mc_put M2 23 2 (M2 23 2 + 1)) L := fun M1 z1 r zr M2 z2 hsl => by
        obtain ⟨-, -, -, -, f5⟩ := fact M1 z1
        obtain ⟨f6, f7⟩ := f5 r zr M2 z2
        refine ih _ _ _ (s + 1) _ (by rw [f6]; exact hx') (fun t ht => hsv t (List.mem_cons_of_mem _ ht)) (by omega) (by rw [nI_1]; congr 1; omega) f7 (by omega) (fun M' hM' => h M' ?_)
        rw [List.map_cons, as1]
        unfold sp_asg
        rw [if_pos hsl]
        exact hM'
      rcases hf with ⟨rfl, rfl⟩ | ⟨rfl, rfl⟩ | ⟨rfl, rfl⟩ <;>
      exact hK.1 [14] 60 14 _ _ _ _ _ ⟨v1, fun z => absurd z c1, fun _ => ⟨fun z => ⟨Nat.le_refl _, q0 z⟩, fun z => cF_thaw hf' (by omega) (Or.inl rfl) rfl htw (fun M1 z1 => ⟨v2, v2, cN_value hT (fact M1 z1).2.2.2.1 (Or.inl rfl) (fact M1 z1).2.2.1 hk (by omega) (fun r zr => ⟨(fact M1 z1).1, v2, ih' M1 z1 r zr _ rfl (sl z)⟩)⟩)⟩⟩
  have v1 : vp_in (M 23 3) w := by
    rw [hst.2.2.2.1]
    exact vp_in_nI hb (by omega)
  have hx0 : M (f + 3) (M 23 3).toNatClampNeg = M0 (f + 3) b := by
    rw [hst.2.2.2.1, nI_clamp (by omega), hst.1 _ (fne (i := 3) (by decide)).1 (fne (i := 3) (by decide)).2]
  rw [has] at h
  have lp' := fun K hK => lp K hK ss (M (f + 3) (M 23 3).toNatClampNeg) 0 M s e (by rw [hx0]; exact hch) hsv (Nat.le_refl _) (by rw [Nat.sub_self]; rfl) hst hs h
  rcases hf with ⟨rfl, rfl⟩ | ⟨rfl, rfl⟩ | ⟨rfl, rfl⟩ <;>
  exact inM_doAssignments (Nat.le_of_ble_eq_true rfl) (fun K hK => hK.1 [14] 20 0 _ _ _ _ _ ⟨v1, lp' K hK⟩)
theorem cM_doJump (hf : fl_is f w) (hT : nt_ok T m) (hN : nt_C M0 T m) {S : Int32} (hS : M0 f 1 = S) {b j s : Nat} {B : Blk} {ss : List Nat} (hB : fl_blk T m S M0 f w b B ss j) (hb : b < w) {e : Nat → Int32} {a : Int32} (hst : mch M0 M S e s (nI b) a) (hd : 34 ≤ d)
    (h2 : B.2.2.1 = 2 → ∀ M', mch M0 M' S e s (nI b) (sp_val T S B.2.2.2.1.1 B.2.2.2.1.2 e) → Q (some (.int 1)) M' L) (h1 : ¬ B.2.2.1 = 2 → ∀ M', mch M0 M' S e s (if B.2.2.1 = 0 ∨ ¬ sp_val T S B.2.2.2.1.1 B.2.2.2.1.2 e = 0 then B.2.2.2.2.1 else B.2.2.2.2.2) a → Q (some (.int 0)) M' L) : ctM_doJump g d [.ref 23, .ref 1, .ref f] n M L Q := by
  obtain ⟨d, rfl⟩ := Nat.exists_eq_add_of_le' (show 1 ≤ d by omega)
  obtain ⟨-, -, -, -, -, -, hj, hjw, hq, ⟨k, hk, hkr, hjn⟩, hone, hoth⟩ := hB
  have hw : w ≤ 100 := by rcases hf with ⟨-, rfl⟩ | ⟨-, rfl⟩ | ⟨-, rfl⟩ <;> decide
  have hm150 := hT.1
  have hf' := hf
  have fne := fun {i} hi => fl_ne hf (i := i) hi
  have v1 : vp_in (M 23 3) w := by
    rw [hst.2.2.2.1]
    exact vp_in_nI hb (by omega)
  have j1 : M (f + 5) b = nI j := by rw [hst.1 _ (fne (i := 5) (by decide)).1 (fne (i := 5) (by decide)).2, hj]
  have j2 : M (f + 5) (M 23 3).toNatClampNeg = nI j := by rw [hst.2.2.2.1, nI_clamp (by omega), j1]
  have e2 : (nI (j * 11 + 10)).toNatClampNeg = j * 11 + 10 := nI_clamp (by omega)
  have fact : ∀ M1, M1 = mc_set M 24 (fl_tw (M f 1) (M 24) (M (f + 12)) (j * 11 + 10) 8) → nt_C M1 T m ∧ (∀ st, st = nI (j * 11 + 10) → vp_in st (w * 11) ∧ M1 (f + 10) st.toNatClampNeg = nI k) ∧ vp_in (M (f + 5) (M 23 3).toNatClampNeg) w ∧ M1 (f + 6) (M (f + 5) (M 23 3).toNatClampNeg).toNatClampNeg = B.2.2.1 ∧ M1 (f + 7) (M (f + 5) (M 23 3).toNatClampNeg).toNatClampNeg = B.2.2.2.2.1 ∧ M1 (f + 8) (M (f + 5) (M 23 3).toNatClampNeg).toNatClampNeg = B.2.2.2.2.2 ∧ mch M0 M1 S e s (nI b) a ∧ ∀ r, r = nd_val (T 0) (T 1) (T 2) (M1 24) k → r = sp_val T S B.2.2.2.1.1 B.2.2.2.1.2 e := by
    intro M1 z1
    have r1 : ∀ c, c ≠ 24 → M1 c = M c := fun c hc => by rw [z1, mc_set_n hc]
    have r2 : ∀ c, c ≠ 23 → c ≠ 24 → M1 c = M0 c := fun c h1 h2 => by rw [r1 c h2, hst.1 c h1 h2]
    refine ⟨nt_C_to hN (fun c h1 h2 => r2 c (by omega) (by omega)), fun st hst2 => ⟨by rw [hst2]; exact vp_in_nI (by omega) (by omega), by rw [hst2, e2, r2 _ (fne (i := 10) (by decide)).1 (fne (i := 10) (by decide)).2, hkr]⟩, by rw [j2]; exact vp_in_nI hjw (by omega), ?_, ?_, ?_, ⟨r2, ?_, ?_, ?_, ?_⟩, ?_⟩
    · rw [j2, nI_clamp (by omega), r2 _ (fne (i := 6) (by decide)).1 (fne (i := 6) (by decide)).2, hq]
    · rw [j2, nI_clamp (by omega), r2 _ (fne (i := 7) (by decide)).1 (fne (i := 7) (by decide)).2, hone]
    · rw [j2, nI_clamp (by omega), r2 _ (fne (i := 8) (by decide)).1 (fne (i := 8) (by decide)).2, hoth]
    · rw [r1 23 (by decide), hst.2.1]
    · rw [r1 23 (by decide), hst.2.2.1]
    · rw [r1 23 (by decide), hst.2.2.2.1]
    · intro u hu hS0
      rw [z1, mc_set_s]
      unfold fl_tw
      rw [hst.1 f (fne (i := 0) (by decide)).1 (fne (i := 0) (by decide)).2, hS, if_neg (fun q => by rw [hS0] at q; cases q.2)]
      exact hst.2.2.2.2 u hu hS0
    · intro r zr
      rw [zr, z1, mc_set_s, hst.1 f (fne (i := 0) (by decide)).1 (fne (i := 0) (by decide)).2, hS, hst.1 _ (fne (i := 12) (by decide)).1 (fne (i := 12) (by decide)).2, hjn]
      exact sp_val_tw hT k _ hst.2.2.2.2
  have p2 : ∀ M1, M1 = mc_set M 24 (fl_tw (M f 1) (M 24) (M (f + 12)) (j * 11 + 10) 8) → ∀ r, r = nd_val (T 0) (T 1) (T 2) (M1 24) k → M1 (f + 6) (M (f + 5) (M 23 3).toNatClampNeg).toNatClampNeg = 2 → Q (some (.int 1)) (mc_put M1 23 1 r) L := fun M1 z1 r zr z => by
    obtain ⟨-, -, -, f4, -, -, f7, f8⟩ := fact M1 z1
    refine h2 (f4.symm.trans z) _ ⟨fun c h1 h2 => ?_, ?_, ?_, ?_, ?_⟩
    · funext y
      rw [mc_put_at, if_neg (fun q => h1 q.1), f7.1 c h1 h2]
    · rw [mc_put_at, if_pos ⟨rfl, rfl⟩, f8 r zr]
    · rw [mc_put_at, if_neg (by decide), f7.2.2.1]
    · rw [mc_put_at, if_neg (by decide), f7.2.2.2.1]
    · intro u hu hS0
      rw [mc_put_at, if_neg (by omega), f7.2.2.2.2 u hu hS0]
  have p1 : ∀ M1, M1 = mc_set M 24 (fl_tw (M f 1) (M 24) (M (f + 12)) (j * 11 + 10) 8) → ∀ r, r = nd_val (T 0) (T 1) (T 2) (M1 24) k → ¬ M1 (f + 6) (M (f + 5) (M 23 3).toNatClampNeg).toNatClampNeg = 2 → (∀ t, t = (if M1 (f + 6) (M (f + 5) (M 23 3).toNatClampNeg).toNatClampNeg = 0 ∨ ¬ r = 0 then M1 (f + 7) (M (f + 5) (M 23 3).toNatClampNeg).toNatClampNeg else M1 (f + 8) (M (f + 5) (M 23 3).toNatClampNeg).toNatClampNeg) → Q (some (.int 0)) (mc_put M1 23 3 t) L) := fun M1 z1 r zr z t ht => by
    obtain ⟨-, -, -, f4, f5, f6, f7, f8⟩ := fact M1 z1
    rw [f4, f5, f6, f8 r zr] at ht
    refine h1 (fun y => z (f4.trans y)) _ ⟨fun c h1 h2 => ?_, ?_, ?_, ?_, ?_⟩
    · funext y
      rw [mc_put_at, if_neg (fun q => h1 q.1), f7.1 c h1 h2]
    · rw [mc_put_at, if_neg (by decide), f7.2.1]
    · rw [mc_put_at, if_neg (by decide), f7.2.2.1]
    · rw [mc_put_at, if_pos ⟨rfl, rfl⟩, ht]
    · intro u hu hS0
      rw [mc_put_at, if_neg (by omega), f7.2.2.2.2 u hu hS0]
  have b3 := hst.2.2.2.1
  rcases hf with ⟨rfl, rfl⟩ | ⟨rfl, rfl⟩ | ⟨rfl, rfl⟩ <;>
  exact inM_doJump (Nat.le_of_ble_eq_true rfl) (fun K hK => hK.1 [] 80 0 _ _ _ _ _ ⟨v1, cF_jumpStep hf' (by omega) b3 hb j1 (fun st hst2 => cF_thaw hf' (by omega) (Or.inl rfl) hst2 (by omega) (fun M1 z1 => ⟨((fact M1 z1).2.1 st hst2).1, cN_value hT (fact M1 z1).1 (Or.inl rfl) ((fact M1 z1).2.1 st hst2).2 hk (by omega) (fun r zr => ⟨(fact M1 z1).2.2.1, fun z => ⟨(fact M1 z1).2.2.1, fun z0 => ⟨(fact M1 z1).2.2.1, Or.inl rfl, Nat.le_refl _, p1 M1 z1 r zr z _ (if_pos (Or.inl z0)).symm⟩, fun z0 => ⟨fun zr0 => ⟨(fact M1 z1).2.2.1, Or.inl rfl, Nat.le_refl _, p1 M1 z1 r zr z _ (if_neg (fun y => y.elim z0 (fun y => y zr0))).symm⟩, fun zr0 => ⟨(fact M1 z1).2.2.1, Or.inl rfl, Nat.le_refl _, p1 M1 z1 r zr z _ (if_pos (Or.inr zr0)).symm⟩⟩⟩, fun z => ⟨Or.inr rfl, Nat.le_refl _, p2 M1 z1 r zr z⟩⟩)⟩))⟩)
def tg_ok (P : Nat → Blk) (nb : Nat) : Prop := ∀ b, b < nb → (P b).2.2.1 = 2 ∨ ((∃ t, t < nb ∧ (P b).2.2.2.2.1 = nI t) ∧ ((P b).2.2.1 = 0 ∨ ∃ t, t < nb ∧ (P b).2.2.2.2.2 = nI t))
theorem sp_asg_le {S : Int32} {l : Nat} : ∀ (as : List Asg) {s : Nat} {e : Nat → Int32}, s ≤ l → (sp_asg T S l as s e).1 ≤ l
  | [], s, e, h => h
  | (v, k, fr) :: r, s, e, h => by
    unfold sp_asg
    split
    · exact sp_asg_le r (by omega)
    · exact h
def tr_end (M0 : mc_M) (r : Bool × Int32 × Nat × Nat) (M : mc_M) : Prop := (∀ c, c ≠ 23 → c ≠ 24 → M c = M0 c) ∧ M 23 1 = r.2.1 ∧ M 23 2 = nI r.2.2.1 ∧ M 23 3 = nI r.2.2.2
theorem cM_travel (hf : fl_is f w) (hT : nt_ok T m) (hN : nt_C M T m) {S : Int32} (hS : M f 1 = S) {nb l : Nat} {P : Nat → Blk} (hP : ∀ b, b < nb → ∃ ss j, fl_blk T m S M f w b (P b) ss j) (hnb : 0 < nb) (hnw : nb ≤ w) (htg : tg_ok P nb) {lim : Int32} (hlim : lim = nI l) (hl : l ≤ 5000) (hd : 35 ≤ d)
    (h1 : (sp_trav T S P l l 0 0 (M 20)).1 = true → ∀ M', tr_end M (sp_trav T S P l l 0 0 (M 20)) M' → Q (some (.int 1)) M' L) (h0 : (sp_trav T S P l l 0 0 (M 20)).1 = false → ∀ M', tr_end M (sp_trav T S P l l 0 0 (M 20)) M' → Q (some (.int 0)) M' L) : ctM_travel g d [.ref 23, .ref 1, .ref f, .ref 20, .int lim] n M L Q := by
  obtain ⟨d, rfl⟩ := Nat.exists_eq_add_of_le' (show 1 ≤ d by omega)
  subst hlim
  have hw : w ≤ 100 := by rcases hf with ⟨-, rfl⟩ | ⟨-, rfl⟩ | ⟨-, rfl⟩ <;> decide
  have hf' := hf
  have lp : ∀ (K : mc_K), mc_closed true tab0 n 0 (some .boolean) (shM_travel g d) Q (fun _ _ _ => False) tbM_travel K → ∀ (fu vi : Nat) (i : Int32) (M1 : mc_M) (b s : Nat) (e : Nat → Int32), fu + vi = l → i = nI vi → mch M M1 S e s (nI b) 0 → b < nb → s ≤ l →
      ((sp_trav T S P l fu b s e).1 = true → ∀ M', tr_end M (sp_trav T S P l fu b s e) M' → Q (some (.int 1)) M' L) → ((sp_trav T S P l fu b s e).1 = false → ∀ M', tr_end M (sp_trav T S P l fu b s e) M' → Q (some (.int 0)) M' L) →
      K 30 [some (.ref 23), some (.ref 1), some (.ref f), some (.ref 20), some (.int (nI l)), some (.int i)] [] n M1 L := by
    intro K hK fu
    induction fu with
    | zero =>
      intro vi i M1 b s e hv hi hst hb hs h1 h0
      subst hi
      have q := h0 rfl M1 ⟨hst.1, hst.2.1, hst.2.2.1, hst.2.2.2.1⟩
      have c1 : nI l ≤ nI vi := nI_le (by omega) (by omega)
      rcases hf with ⟨rfl, rfl⟩ | ⟨rfl, rfl⟩ | ⟨rfl, rfl⟩ <;>
      exact hK.1 [30] 30 30 _ _ _ _ _ ⟨fun _ => ⟨Or.inl rfl, Nat.le_refl _, q⟩, fun z => absurd c1 z⟩
    | succ fu ih =>
      intro vi i M1 b s e hv hi hst hb hs h1 h0
      subst hi
      obtain ⟨ss, j, hB⟩ := hP b hb
      have c1 : ¬ nI l ≤ nI vi := nI_ge (by omega) (by omega)
      have al := sp_asg_le (T := T) (S := S) (P b).2.1 (e := e) hs
      have ex : ∀ M2, mch M M2 S (sp_asg T S l (P b).2.1 s e).2 (sp_asg T S l (P b).2.1 s e).1 (nI b) 0 → ¬ M2 23 2 < nI l → Q (some (.int 0)) M2 L := fun M2 h2 z => by
        have z' : ¬ (sp_asg T S l (P b).2.1 s e).1 < l := fun y => z (by rw [h2.2.2.1]; exact nI_lt y (by omega))
        have q : sp_trav T S P l (fu + 1) b s e = (false, 0, (sp_asg T S l (P b).2.1 s e).1, b) := by
          unfold sp_trav
          simp only
          rw [if_neg z']
        rw [q] at h0
        exact h0 rfl M2 ⟨h2.1, h2.2.1, h2.2.2.1, h2.2.2.2.1⟩
      have lt : ∀ M2, mch M M2 S (sp_asg T S l (P b).2.1 s e).2 (sp_asg T S l (P b).2.1 s e).1 (nI b) 0 → M2 23 2 < nI l → (sp_asg T S l (P b).2.1 s e).1 < l := fun M2 h2 z => by
        rw [h2.2.2.1] at z
        exact (nI_ltI (by omega) (by omega)).mp z
      have stp : ∀ M2, mch M M2 S (sp_asg T S l (P b).2.1 s e).2 (sp_asg T S l (P b).2.1 s e).1 (nI b) 0 → mch M (mc_put M2 23 2 (M2 23 2 + 1)) S (sp_asg T S l (P b).2.1 s e).2 ((sp_asg T S l (P b).2.1 s e).1 + 1) (nI b) 0 := fun M2 h2 => by
        refine ⟨fun c h3 h4 => ?_, ?_, ?_, ?_, ?_⟩
        · funext y
          rw [mc_put_at, if_neg (fun q => h3 q.1), h2.1 c h3 h4]
        · rw [mc_put_at, if_neg (by decide), h2.2.1]
        · rw [mc_put_at, if_pos ⟨rfl, rfl⟩, h2.2.2.1, nI_1]
        · rw [mc_put_at, if_neg (by decide), h2.2.2.2.1]
        · intro u hu hS0
          rw [mc_put_at, if_neg (by omega), h2.2.2.2.2 u hu hS0]
      have e2 : (sp_asg T S l (P b).2.1 s e).1 < l → (P b).2.2.1 = 2 → ∀ M3, mch M M3 S (sp_asg T S l (P b).2.1 s e).2 ((sp_asg T S l (P b).2.1 s e).1 + 1) (nI b) (sp_val T S (P b).2.2.2.1.1 (P b).2.2.2.1.2 (sp_asg T S l (P b).2.1 s e).2) → Q (some (.int 1)) M3 L := fun z1 z2 M3 h3 => by
        have q : sp_trav T S P l (fu + 1) b s e = (true, sp_val T S (P b).2.2.2.1.1 (P b).2.2.2.1.2 (sp_asg T S l (P b).2.1 s e).2, (sp_asg T S l (P b).2.1 s e).1 + 1, b) := by
          conv => lhs; unfold sp_trav
          simp only
          rw [if_pos z1, if_pos z2]
        rw [q] at h1
        exact h1 rfl M3 ⟨h3.1, h3.2.1, h3.2.2.1, h3.2.2.2.1⟩
      have e1 : (sp_asg T S l (P b).2.1 s e).1 < l → ¬ (P b).2.2.1 = 2 → ∀ M3, mch M M3 S (sp_asg T S l (P b).2.1 s e).2 ((sp_asg T S l (P b).2.1 s e).1 + 1) (if (P b).2.2.1 = 0 ∨ ¬ sp_val T S (P b).2.2.2.1.1 (P b).2.2.2.1.2 (sp_asg T S l (P b).2.1 s e).2 = 0 then (P b).2.2.2.2.1 else (P b).2.2.2.2.2) 0 → K 30 [some (.ref 23), some (.ref 1), some (.ref f), some (.ref 20), some (.int (nI l)), some (.int (nI vi + 1))] [] n M3 L := fun z1 z2 M3 h3 => by
        have q : sp_trav T S P l (fu + 1) b s e = sp_trav T S P l fu (if (P b).2.2.1 = 0 ∨ ¬ sp_val T S (P b).2.2.2.1.1 (P b).2.2.2.1.2 (sp_asg T S l (P b).2.1 s e).2 = 0 then (P b).2.2.2.2.1 else (P b).2.2.2.2.2).toNatClampNeg ((sp_asg T S l (P b).2.1 s e).1 + 1) (sp_asg T S l (P b).2.1 s e).2 := by
          conv => lhs; unfold sp_trav
          simp only
          rw [if_pos z1, if_neg z2]
        rw [q] at h1 h0
        have ht : ∃ t, t < nb ∧ (if (P b).2.2.1 = 0 ∨ ¬ sp_val T S (P b).2.2.2.1.1 (P b).2.2.2.1.2 (sp_asg T S l (P b).2.1 s e).2 = 0 then (P b).2.2.2.2.1 else (P b).2.2.2.2.2) = nI t := by
          rcases htg b hb with y | ⟨⟨t, y1, y2⟩, y3⟩
          · exact absurd y z2
          · split
            · exact ⟨t, y1, y2⟩
            · next y4 =>
              rcases y3 with y3 | y3
              · exact absurd (Or.inl y3) y4
              · exact y3
        obtain ⟨t, ht1, ht2⟩ := ht
        rw [ht2, nI_clamp (by omega)] at h1 h0
        rw [ht2] at h3
        exact ih (vi + 1) _ M3 t _ _ (by omega) (nI_1 vi) h3 ht1 (by omega) h1 h0
      rcases hf with ⟨rfl, rfl⟩ | ⟨rfl, rfl⟩ | ⟨rfl, rfl⟩ <;>
      exact hK.1 [30] 60 30 _ _ _ _ _ ⟨fun z => absurd z c1, fun _ => cM_doAssignments hf' hT hN hS hB (by omega) hst rfl hl hs (by omega) (fun M2 h2 => ⟨fun z => cM_doJump hf' hT hN hS hB (by omega) (stp M2 h2) (by omega) (fun z2 M3 h3 => ⟨fun y => absurd y (by decide), fun _ => ⟨Or.inr rfl, Nat.le_refl _, e2 (lt M2 h2 z) z2 M3 h3⟩⟩) (fun z2 M3 h3 => ⟨fun _ => e1 (lt M2 h2 z) z2 M3 h3, fun y => absurd rfl y⟩), fun z => ⟨Or.inl rfl, Nat.le_refl _, ex M2 h2 z⟩⟩)⟩
  have st0 : mch M (mc_put (mc_put (mc_put (mc_set M 24 (va_cpy (M 20) (M 24) (0 : Int32).toNatClampNeg (0 : Int32).toNatClampNeg (8 : Int32).toNatClampNeg)) 23 1 0) 23 2 0) 23 3 0) S (M 20) 0 (nI 0) 0 := by
    refine ⟨fun c h3 h4 => ?_, ?_, ?_, ?_, ?_⟩
    · funext y
      rw [mc_put_at, if_neg (fun q => h3 q.1), mc_put_at, if_neg (fun q => h3 q.1), mc_put_at, if_neg (fun q => h3 q.1), mc_set_n h4]
    · rw [mc_put_at, if_neg (by decide), mc_put_at, if_neg (by decide), mc_put_at, if_pos ⟨rfl, rfl⟩]
    · rw [mc_put_at, if_neg (by decide), mc_put_at, if_pos ⟨rfl, rfl⟩]
      rfl
    · rw [mc_put_at, if_pos ⟨rfl, rfl⟩]
      rfl
    · intro u hu _
      rw [mc_put_at, if_neg (by omega), mc_put_at, if_neg (by omega), mc_put_at, if_neg (by omega), mc_set_s]
      show (if 0 ≤ u ∧ u < 0 + 8 then M 20 (0 + (u - 0)) else _) = _
      rw [if_pos (by omega)]
      congr 1
      omega
  have lp' := fun K hK => lp K hK l 0 0 _ 0 0 (M 20) rfl rfl st0 hnb (by omega) h1 h0
  rcases hf with ⟨rfl, rfl⟩ | ⟨rfl, rfl⟩ | ⟨rfl, rfl⟩ <;>
  exact inM_travel (Nat.le_of_ble_eq_true rfl) (fun K hK => hK.1 [30] 40 0 _ _ _ _ _ ⟨by decide, by decide, by decide, by decide, by decide, lp' K hK⟩)
end MA
end
section
/-! Analysis -/
def fill_is (c w : Nat) : Prop := (c = 22 ∧ w = 16) ∨ (c = 32 ∧ w = 100) ∨ (c = 33 ∧ w = 100) ∨ (c = 34 ∧ w = 100)
def sp_dyn (T : Nat → Nat → Int32) : List Asg → Int32 → Int32
  | [], D => D
  | (v, k, _) :: r, D => sp_dyn T r (if ¬ (T 4 k &&& D) = 0 then D ||| (1 <<< (nI v &&& 31)) else D)
def sp_dr (T : Nat → Nat → Int32) (P : Nat → Blk) : Nat → Nat → Int32 → Int32
  | 0, _, D => D
  | r + 1, b, D => sp_dr T P r (b + 1) (sp_dyn T (P b).2.1 D)
def sp_dit (T : Nat → Nat → Int32) (P : Nat → Blk) : Nat → Int32 → Int32
  | 0, D => D
  | f + 1, D => if sp_dr T P 16 0 D = D then sp_dr T P 16 0 D else sp_dit T P f (sp_dr T P 16 0 D)
def sp_lvs (T : Nat → Nat → Int32) : List Asg → Int32 → Int32 → Int32 × Int32
  | [], a, fo => (a, fo)
  | (v, k, _) :: r, a, fo => sp_lvs T r (a ||| (1 <<< (nI v &&& 31))) (fo ||| (T 4 k &&& (a ^^^ (-1))))
def sp_at (X : Nat → Int32) (t : Int32) : Int32 := if t = -1 then 0 else X t.toNatClampNeg
def sp_lv (T : Nat → Nat → Int32) (B : Blk) (X : Nat → Int32) : Int32 := (sp_lvs T B.2.1 0 0).2 ||| ((T 4 B.2.2.2.1.1 ||| sp_at X B.2.2.2.2.1 ||| sp_at X B.2.2.2.2.2) &&& ((sp_lvs T B.2.1 0 0).1 ^^^ (-1)))
def sp_lr (T : Nat → Nat → Int32) (P : Nat → Blk) : Nat → (Nat → Int32) → Bool → (Nat → Int32) × Bool
  | 0, X, c => (X, c)
  | b + 1, X, c => sp_lr T P b (upd X b (sp_lv T (P b) X)) (c || decide (¬ sp_lv T (P b) X = X b))
def sp_lit (T : Nat → Nat → Int32) (P : Nat → Blk) : Nat → (Nat → Int32) → Nat → Int32
  | 0, X => X
  | f + 1, X => if (sp_lr T P 16 X false).2 = true then sp_lit T P f (sp_lr T P 16 X false).1 else (sp_lr T P 16 X false).1
/-- the program's flow -/
def prg (T : Nat → Nat → Int32) (m : Nat) (M : mc_M) (P : Nat → Blk) : Prop := M 7 0 = nI 16 ∧ M 7 1 = 0 ∧ ∀ b, b < 16 → ∃ ss j, fl_blk T m 0 M 7 16 b (P b) ss j
def pt_ok (P : Nat → Blk) (nb : Nat) : Prop := ∀ b, b < nb → ((P b).2.2.2.2.1 = -1 ∨ ∃ t, t < nb ∧ (P b).2.2.2.2.1 = nI t) ∧ ((P b).2.2.2.2.2 = -1 ∨ ∃ t, t < nb ∧ (P b).2.2.2.2.2 = nI t)
theorem nI_ne_m1 {k : Nat} (h : k < 2 ^ 31) : ¬ nI k = -1 := fun z => by
  have := nI_pos h
  rw [z] at this
  exact this (by decide)
section AN
variable {g : mc_G} {d n w c : Nat} {M0 M : mc_M} {L : mc_L} {Q : Option Value → mc_M → mc_L → Prop} {T : Nat → Nat → Int32} {m : Nat} {P : Nat → Blk}
theorem cJ_fill (hc : fill_is c w) (hd : 1 ≤ d) {x : Int32} (h : ∀ M', M' = mc_set M c (fun i => if i < w then x else M c i) → Q none M' L) : ctJa_fill g d [.ref c, .int x] n M L Q := by
  obtain ⟨d, rfl⟩ := Nat.exists_eq_add_of_le' hd
  have hw : w ≤ 100 := by rcases hc with ⟨-, rfl⟩ | ⟨-, rfl⟩ | ⟨-, rfl⟩ | ⟨-, rfl⟩ <;> decide
  have lp : ∀ (K : mc_K), mc_closed true tab0 n 0 none (shJa_fill g d) Q (fun _ _ _ => False) tbJa_fill K → ∀ (r k : Nat) (i : Int32) (M' : mc_M), r + k = w → i = nI k → M' = mc_set M c (fun i => if i < k then x else M c i) → K 5 [some (.ref c), some (.int x), some (.int i), some (.int (nI w))] [] n M' L := by
    intro K hK r
    induction r with
    | zero =>
      intro k i M' hk hi hM
      subst hi
      have hk8 : k = w := by omega
      subst hk8
      have t := h M' hM
      have c1 : nI k ≤ nI k := nI_le (Nat.le_refl _) (by omega)
      rcases hc with ⟨rfl, rfl⟩ | ⟨rfl, rfl⟩ | ⟨rfl, rfl⟩ | ⟨rfl, rfl⟩ <;>
      exact hK.1 [5] 20 5 _ _ _ _ _ ⟨fun _ => ⟨Nat.le_refl _, t⟩, fun z => absurd c1 z⟩
    | succ r ih =>
      intro k i M' hk hi hM
      subst hi
      have c1 : ¬ nI w ≤ nI k := nI_ge (by omega) (by omega)
      have v1 : vp_in (nI k) w := vp_in_nI (by omega) (by omega)
      have ih' := ih (k + 1) (nI k + 1) (mc_put M' c (nI k).toNatClampNeg x) (by omega) (nI_1 k) (by
        funext j l
        rw [mc_put_at, nI_clamp (by omega), hM, mc_set_at, mc_set_at]
        by_cases hj : j = c
        · rw [if_pos hj, if_pos hj]
          by_cases hl : l = k
          · rw [if_pos ⟨hj, hl⟩, if_pos (by omega)]
          · rw [if_neg (fun z => hl z.2)]
            by_cases hlk : l < k
            · rw [if_pos hlk, if_pos (by omega)]
            · rw [if_neg hlk, if_neg (by omega)]
        · rw [if_neg (fun z => hj z.1), if_neg hj, if_neg hj])
      rcases hc with ⟨rfl, rfl⟩ | ⟨rfl, rfl⟩ | ⟨rfl, rfl⟩ | ⟨rfl, rfl⟩ <;>
      exact hK.1 [5] 20 5 _ _ _ _ _ ⟨fun z => absurd z c1, fun _ => ⟨v1, ih'⟩⟩
  have lp' := fun K hK => lp K hK w 0 0 M rfl rfl (by
    have : (fun i => if i < 0 then x else M c i) = M c := by
      funext i
      rw [if_neg (by omega)]
    rw [this, mc_set_id])
  rcases hc with ⟨rfl, rfl⟩ | ⟨rfl, rfl⟩ | ⟨rfl, rfl⟩ | ⟨rfl, rfl⟩ <;>
  exact inJa_fill (Nat.le_of_ble_eq_true rfl) (fun K hK => hK.1 [5] 20 0 _ _ _ _ _ (lp' K hK))
theorem cY_withDynamicsOf (hT : nt_ok T m) (hN : nt_C M T m) {S : Int32} {b j : Nat} {B : Blk} {ss : List Nat} (hB : fl_blk T m S M 7 16 b B ss j) (hb : b < 16) {x D : Int32} (hx : x = nI b) (hd : 1 ≤ d) (h : ∀ r, r = sp_dyn T B.2.1 D → Q (some (.int r)) M L) : ctY_withDynamicsOf g d [.ref 1, .ref 7, .int x, .int D] n M L Q := by
  obtain ⟨d, rfl⟩ := Nat.exists_eq_add_of_le' hd
  subst hx
  obtain ⟨-, hc, hc1, hch, hsv, has, -⟩ := hB
  have hm150 := hT.1
  have eb : (nI b).toNatClampNeg = b := nI_clamp (by omega)
  have v1 : vp_in (nI b) 16 := vp_in_nI hb (by decide)
  have hcnt : M 9 (nI b).toNatClampNeg = nI ss.length := by rw [eb]; exact hc
  have lp : ∀ (K : mc_K), mc_closed true tab0 n 0 (some .int) (shY_withDynamicsOf g d) Q (fun _ _ _ => False) tbY_withDynamicsOf K → ∀ (rs : List Nat) (x i F : Int32), fl_ch (M 18) 176 x rs → (∀ t ∈ rs, fl_sv M 7 m t) → rs.length ≤ ss.length → i = nI (ss.length - rs.length) →
      (∀ r, r = sp_dyn T (rs.map (fl_as T S M 7)) F → Q (some (.int r)) M L) → K 14 [some (.ref 1), some (.ref 7), some (.int (nI b)), some (.int D), some (.int F), some (.int x), some (.int i)] [] n M L := by
    intro K hK rs
    induction rs with
    | nil =>
      intro x i F _ _ _ hi h
      subst hi
      have c1 : M 9 (nI b).toNatClampNeg ≤ nI (ss.length - 0) := by
        rw [hcnt]
        exact nI_le (by omega) (by omega)
      exact hK.1 [14] 30 14 _ _ _ _ _ ⟨v1, fun _ => ⟨Nat.le_refl _, h _ rfl⟩, fun z => absurd c1 z⟩
    | cons t rs ih =>
      intro x i F hx hsv hlen hi h
      obtain ⟨rfl, htw, hx'⟩ := hx
      subst hi
      have hlen' : rs.length + 1 ≤ ss.length := hlen
      obtain ⟨⟨v, hv8, hvr⟩, k, hk, hkr⟩ := hsv t List.mem_cons_self
      have c1 : ¬ M 9 (nI b).toNatClampNeg ≤ nI (ss.length - (rs.length + 1)) := by
        rw [hcnt]
        exact nI_ge (by omega) (by omega)
      have e1 : (nI t).toNatClampNeg = t := nI_clamp (by omega)
      have v2 : vp_in (nI t) 176 := vp_in_nI htw (by decide)
      have k1 : M 17 (nI t).toNatClampNeg = nI k := by rw [e1]; exact hkr
      have w1 : M 16 (nI t).toNatClampNeg = nI v := by rw [e1]; exact hvr
      have v3 : vp_in (M 17 (nI t).toNatClampNeg) 151 := by
        rw [k1]
        exact vp_in_nI (by omega) (by decide)
      have t4 : M 6 (M 17 (nI t).toNatClampNeg).toNatClampNeg = T 4 k := by
        rw [k1, nI_clamp (by omega)]
        exact hN.2 4 (by decide) k hk
      have as1 : fl_as T S M 7 t = (v, k, fl_fr T S (M 19) t k) := by
        unfold fl_as
        show ((M 16 t).toNatClampNeg, (M 17 t).toNatClampNeg, fl_fr T S (M 19) t (M 17 t).toNatClampNeg) = _
        have q1 : M 16 t = nI v := hvr
        have q2 : M 17 t = nI k := hkr
        rw [q1, q2, nI_clamp (by omega), nI_clamp (by omega)]
      rw [List.map_cons, as1] at h
      have go : ∀ F', F' = (if ¬ (T 4 k &&& F) = 0 then F ||| (1 <<< (nI v &&& 31)) else F) → K 14 [some (.ref 1), some (.ref 7), some (.int (nI b)), some (.int D), some (.int F'), some (.int (M 18 (nI t).toNatClampNeg)), some (.int (nI (ss.length - (rs.length + 1)) + 1))] [] n M L := fun F' hF => by
        refine ih _ _ F' (by rw [e1]; exact hx') (fun t ht => hsv t (List.mem_cons_of_mem _ ht)) (by omega) (by rw [nI_1]; congr 1; omega) (fun r hr => h r ?_)
        rw [hr, hF]
        rfl
      exact hK.1 [14] 60 14 _ _ _ _ _ ⟨v1, fun z => absurd z c1, fun _ => ⟨v2, v3, fun z => ⟨v2, go _ (by rw [t4] at z; rw [if_neg (fun y => y z)])⟩, fun z => ⟨v2, v2, go _ (by rw [t4] at z; rw [w1, if_pos z])⟩⟩⟩
  rw [has] at h
  have x0 : M 10 (nI b).toNatClampNeg = M 10 b := by rw [eb]
  have lp' := fun K hK => lp K hK ss (M 10 (nI b).toNatClampNeg) 0 D (by rw [x0]; exact hch) hsv (Nat.le_refl _) (by rw [Nat.sub_self]; rfl) h
  exact inY_withDynamicsOf (Nat.le_of_ble_eq_true rfl) (fun K hK => hK.1 [14] 20 0 _ _ _ _ _ ⟨v1, lp' K hK⟩)
theorem cY_findStatics (hT : nt_ok T m) (hN : nt_C M T m) (hP : prg T m M P) {x : Int32} (hd : 2 ≤ d) (h : ∀ r, r = 255 &&& (sp_dit T P 8 (255 &&& (x ^^^ (-1))) ^^^ (-1)) → Q (some (.int r)) M L) : ctY_findStatics g d [.ref 21, .ref 1, .ref 7, .int x] n M L Q := by
  obtain ⟨d, rfl⟩ := Nat.exists_eq_add_of_le' (show 1 ≤ d by omega)
  obtain ⟨hsz, -, hPb⟩ := hP
  have inner : ∀ (K : mc_K), mc_closed true tab0 n 0 (some .int) (shY_findStatics g d) Q (fun _ _ _ => False) tbY_findStatics K → ∀ (ro be : Int32) (r b : Nat) (D i : Int32), r + b = 16 → i = nI b → (∀ i, K 52 [some (.ref 21), some (.ref 1), some (.ref 7), some (.int x), some (.int (sp_dr T P r b D)), some (.int ro), some (.int be), some (.int i)] [] n M L) → K 26 [some (.ref 21), some (.ref 1), some (.ref 7), some (.int x), some (.int D), some (.int ro), some (.int be), some (.int i)] [] n M L := by
    intro K hK ro be r
    induction r with
    | zero =>
      intro b D i hb hi h
      subst hi
      have hb16 : b = 16 := by omega
      subst hb16
      have c1 : M 7 0 ≤ nI 16 := by rw [hsz]; exact nI_le (Nat.le_refl _) (by decide)
      exact hK.1 [52] 20 26 _ _ _ _ _ ⟨fun _ => h _, fun z => absurd c1 z⟩
    | succ r ih =>
      intro b D i hb hi h
      subst hi
      have c1 : ¬ M 7 0 ≤ nI b := by rw [hsz]; exact nI_ge (by omega) (by decide)
      obtain ⟨ss, j, hB⟩ := hPb b (by omega)
      refine hK.1 [26] 20 26 _ _ _ _ _ ⟨fun z => absurd z c1, fun _ => cY_withDynamicsOf hT hN hB (by omega) rfl (by omega) (fun r1 hr1 => ?_)⟩
      subst hr1
      exact ih (b + 1) _ _ (by omega) (nI_1 b) h
  have lp : ∀ (K : mc_K), mc_closed true tab0 n 0 (some .int) (shY_findStatics g d) Q (fun _ _ _ => False) tbY_findStatics K → ∀ (fu ro : Nat) (D i : Int32) (l6 l7 : Option Value), fu + ro = 8 → i = nI ro → (∀ r, r = 255 &&& (sp_dit T P fu D ^^^ (-1)) → Q (some (.int r)) M L) → K 12 [some (.ref 21), some (.ref 1), some (.ref 7), some (.int x), some (.int D), some (.int i), none, none] [] n M L := by
    intro K hK fu
    induction fu with
    | zero =>
      intro ro D i l6 l7 hr hi h
      subst hi
      have c1 : (8 : Int32) ≤ nI ro := nI_le (a := 8) (by omega) (by omega)
      exact hK.1 [] 20 12 _ _ _ _ _ ⟨fun _ => ⟨Nat.le_refl _, h _ rfl⟩, fun z => absurd c1 z⟩
    | succ fu ih =>
      intro ro D i l6 l7 hr hi h
      subst hi
      have c1 : ¬ (8 : Int32) ≤ nI ro := nI_ge (b := 8) (by omega) (by decide)
      refine hK.1 [26] 20 12 _ _ _ _ _ ⟨fun z => absurd z c1, fun _ => inner K hK _ _ 16 0 D 0 rfl rfl (fun i => ?_)⟩
      refine hK.1 [12] 20 52 _ _ _ _ _ ⟨fun z => ?_, fun z => ⟨Nat.le_refl _, h _ ?_⟩⟩
      · refine hK.2 [true, true, true, true, true, true, false, false] _ _ _ _ _ _ ?_
        refine ih (ro + 1) _ _ none none (by omega) (nI_1 ro) (fun r hr => h r ?_)
        rw [hr]
        conv => rhs; unfold sp_dit
        rw [if_neg z]
      · conv => rhs; unfold sp_dit
        rw [if_pos z]
  have lp' := fun K hK => lp K hK 8 0 (255 &&& (x ^^^ (-1))) 0 none none rfl rfl h
  exact inY_findStatics (Nat.le_of_ble_eq_true rfl) (fun K hK => hK.1 [12] 20 0 _ _ _ _ _ (lp' K hK))
def lvr (M0 M : mc_M) (X : Nat → Int32) : Prop := (∀ c, c ≠ 22 → M c = M0 c) ∧ ∀ b, b < 16 → M 22 b = X b
theorem cY_livesAt {t : Int32} {X : Nat → Int32} (hX : ∀ b, b < 16 → M 22 b = X b) (ht : t = -1 ∨ ∃ u, u < 16 ∧ t = nI u) (hd : 1 ≤ d) (h : ∀ r, r = sp_at X t → Q (some (.int r)) M L) : ctY_livesAt g d [.ref 21, .int t] n M L Q := by
  obtain ⟨d, rfl⟩ := Nat.exists_eq_add_of_le' hd
  refine inY_livesAt (Nat.le_of_ble_eq_true rfl) (fun K hK => hK.1 [] 20 0 _ _ _ _ _ ⟨fun z => ⟨?_, Nat.le_refl _, h _ ?_⟩, fun z => ⟨Nat.le_refl _, h _ ?_⟩⟩)
  · rcases ht with ht | ⟨u, hu, rfl⟩
    · exact absurd ht z
    · exact vp_in_nI hu (by decide)
  · rcases ht with ht | ⟨u, hu, rfl⟩
    · exact absurd ht z
    · unfold sp_at
      rw [if_neg z, nI_clamp (by omega), hX u hu]
  · unfold sp_at
    rw [if_pos z]
theorem cY_livesOf (hT : nt_ok T m) (hN : nt_C M T m) {S : Int32} {b j : Nat} {B : Blk} {ss : List Nat} (hB : fl_blk T m S M 7 16 b B ss j) (hb : b < 16) {X : Nat → Int32} (hX : ∀ b, b < 16 → M 22 b = X b) (h1 : B.2.2.2.2.1 = -1 ∨ ∃ u, u < 16 ∧ B.2.2.2.2.1 = nI u) (h2 : B.2.2.2.2.2 = -1 ∨ ∃ u, u < 16 ∧ B.2.2.2.2.2 = nI u) {x : Int32} (hx : x = nI b) (hd : 2 ≤ d) (h : ∀ r, r = sp_lv T B X → Q (some (.int r)) M L) : ctY_livesOf g d [.ref 21, .ref 1, .ref 7, .int x] n M L Q := by
  obtain ⟨d, rfl⟩ := Nat.exists_eq_add_of_le' (show 1 ≤ d by omega)
  subst hx
  obtain ⟨-, hc, hc1, hch, hsv, has, hj, hjw, hq, ⟨jk, hjk, hjkr, hjn⟩, hone, hoth⟩ := hB
  have hm150 := hT.1
  have eb : (nI b).toNatClampNeg = b := nI_clamp (by omega)
  have v1 : vp_in (nI b) 16 := vp_in_nI hb (by decide)
  have hcnt : M 9 (nI b).toNatClampNeg = nI ss.length := by rw [eb]; exact hc
  have j2 : M 12 (nI b).toNatClampNeg = nI j := by rw [eb]; exact hj
  have vj : vp_in (M 12 (nI b).toNatClampNeg) 16 := by rw [j2]; exact vp_in_nI hjw (by decide)
  have o1 : M 14 (M 12 (nI b).toNatClampNeg).toNatClampNeg = B.2.2.2.2.1 := by rw [j2, nI_clamp (by omega)]; exact hone
  have o2 : M 15 (M 12 (nI b).toNatClampNeg).toNatClampNeg = B.2.2.2.2.2 := by rw [j2, nI_clamp (by omega)]; exact hoth
  have fin : ∀ st, st = nI (j * 11 + 10) → vp_in st 176 ∧ vp_in (M 17 st.toNatClampNeg) 151 ∧ M 6 (M 17 st.toNatClampNeg).toNatClampNeg = T 4 B.2.2.2.1.1 := fun st hst => by
    have a1 : M 17 st.toNatClampNeg = nI jk := by rw [hst, nI_clamp (by omega)]; exact hjkr
    refine ⟨by rw [hst]; exact vp_in_nI (by omega) (by decide), by rw [a1]; exact vp_in_nI (by omega) (by decide), ?_⟩
    rw [a1, nI_clamp (by omega), hjn]
    exact hN.2 4 (by decide) jk hjk
  have lp : ∀ (K : mc_K), mc_closed true tab0 n 0 (some .int) (shY_livesOf g d) Q (fun _ _ _ => False) tbY_livesOf K → ∀ (rs : List Nat) (x i A F : Int32), fl_ch (M 18) 176 x rs → (∀ t ∈ rs, fl_sv M 7 m t) → rs.length ≤ ss.length → i = nI (ss.length - rs.length) →
      (∀ r, r = (sp_lvs T (rs.map (fl_as T S M 7)) A F).2 ||| ((T 4 B.2.2.2.1.1 ||| sp_at X B.2.2.2.2.1 ||| sp_at X B.2.2.2.2.2) &&& ((sp_lvs T (rs.map (fl_as T S M 7)) A F).1 ^^^ (-1))) → Q (some (.int r)) M L) → K 17 [some (.ref 21), some (.ref 1), some (.ref 7), some (.int (nI b)), some (.int A), some (.int F), some (.int x), some (.int i)] [] n M L := by
    intro K hK rs
    induction rs with
    | nil =>
      intro x i A F _ _ _ hi h
      subst hi
      have c1 : M 9 (nI b).toNatClampNeg ≤ nI (ss.length - 0) := by
        rw [hcnt]
        exact nI_le (by omega) (by omega)
      exact hK.1 [17] 80 17 _ _ _ _ _ ⟨v1, fun _ => cF_jumpStep (w := 16) (Or.inl ⟨rfl, rfl⟩) (by omega) rfl hb hj (fun st hst => ⟨(fin st hst).1, (fin st hst).2.1, v1, vj, cY_livesAt hX (by rw [o1]; exact h1) (by omega) (fun r1 hr1 => ⟨v1, vj, cY_livesAt hX (by rw [o2]; exact h2) (by omega) (fun r2 hr2 => ⟨Nat.le_refl _, h _ (by rw [(fin st hst).2.2, hr1, hr2, o1, o2]; rfl)⟩)⟩)⟩), fun z => absurd c1 z⟩
    | cons t rs ih =>
      intro x i A F hx hsv hlen hi h
      obtain ⟨rfl, htw, hx'⟩ := hx
      subst hi
      have hlen' : rs.length + 1 ≤ ss.length := hlen
      obtain ⟨⟨v, hv8, hvr⟩, k, hk, hkr⟩ := hsv t List.mem_cons_self
      have c1 : ¬ M 9 (nI b).toNatClampNeg ≤ nI (ss.length - (rs.length + 1)) := by
        rw [hcnt]
        exact nI_ge (by omega) (by omega)
      have e1 : (nI t).toNatClampNeg = t := nI_clamp (by omega)
      have v2 : vp_in (nI t) 176 := vp_in_nI htw (by decide)
      have k1 : M 17 (nI t).toNatClampNeg = nI k := by rw [e1]; exact hkr
      have w1 : M 16 (nI t).toNatClampNeg = nI v := by rw [e1]; exact hvr
      have v3 : vp_in (M 17 (nI t).toNatClampNeg) 151 := by
        rw [k1]
        exact vp_in_nI (by omega) (by decide)
      have t4 : M 6 (M 17 (nI t).toNatClampNeg).toNatClampNeg = T 4 k := by
        rw [k1, nI_clamp (by omega)]
        exact hN.2 4 (by decide) k hk
      have as1 : fl_as T S M 7 t = (v, k, fl_fr T S (M 19) t k) := by
        unfold fl_as
        show ((M 16 t).toNatClampNeg, (M 17 t).toNatClampNeg, fl_fr T S (M 19) t (M 17 t).toNatClampNeg) = _
        have q1 : M 16 t = nI v := hvr
        have q2 : M 17 t = nI k := hkr
        rw [q1, q2, nI_clamp (by omega), nI_clamp (by omega)]
      rw [List.map_cons, as1] at h
      have go : ∀ A' F', A' = A ||| (1 <<< (nI v &&& 31)) → F' = F ||| (T 4 k &&& (A ^^^ (-1))) → K 17 [some (.ref 21), some (.ref 1), some (.ref 7), some (.int (nI b)), some (.int A'), some (.int F'), some (.int (M 18 (nI t).toNatClampNeg)), some (.int (nI (ss.length - (rs.length + 1)) + 1))] [] n M L := fun A' F' hA hF => by
        refine ih _ _ A' F' (by rw [e1]; exact hx') (fun t ht => hsv t (List.mem_cons_of_mem _ ht)) (by omega) (by rw [nI_1]; congr 1; omega) (fun r hr => h r ?_)
        rw [hr, hA, hF]
        rfl
      exact hK.1 [17] 60 17 _ _ _ _ _ ⟨v1, fun z => absurd z c1, fun _ => ⟨v2, v3, v2, v2, go _ _ (by rw [w1]) (by rw [t4])⟩⟩
  have x0 : M 10 (nI b).toNatClampNeg = M 10 b := by rw [eb]
  have lp' := fun K hK => lp K hK ss (M 10 (nI b).toNatClampNeg) 0 0 0 (by rw [x0]; exact hch) hsv (Nat.le_refl _) (by rw [Nat.sub_self]; rfl) (fun r hr => h r (by rw [hr]; unfold sp_lv; rw [has]))
  exact inY_livesOf (Nat.le_of_ble_eq_true rfl) (fun K hK => hK.1 [17] 20 0 _ _ _ _ _ ⟨v1, lp' K hK⟩)
def bI (c : Bool) : Int32 := if c = true then 1 else 0
theorem prg_to {M M' : mc_M} (h : prg T m M P) (hM : ∀ c, 7 ≤ c → c ≤ 19 → M' c = M c) : prg T m M' P := by
  obtain ⟨h1, h2, h3⟩ := h
  refine ⟨by rw [hM 7 (by omega) (by omega)]; exact h1, by rw [hM 7 (by omega) (by omega)]; exact h2, fun b hb => ?_⟩
  obtain ⟨ss, j, hB⟩ := h3 b hb
  refine ⟨ss, j, ?_⟩
  have e : ∀ i, i ≤ 12 → M' (7 + i) = M (7 + i) := fun i hi => hM _ (by omega) (by omega)
  unfold fl_blk fl_sv fl_as at hB ⊢
  rw [e 1 (by decide), e 2 (by decide), e 3 (by decide), e 5 (by decide), e 6 (by decide), e 7 (by decide), e 8 (by decide), e 9 (by decide), e 10 (by decide), e 11 (by decide), e 12 (by decide)]
  exact hB
theorem cY_findLives (hT : nt_ok T m) (hN : nt_C M T m) (hP : prg T m M P) (hpt : pt_ok P 16) (hd : 3 ≤ d) (h : ∀ M', lvr M M' (sp_lit T P 16 (fun _ => 0)) → Q none M' L) : ctY_findLives g d [.ref 21, .ref 1, .ref 7] n M L Q := by
  obtain ⟨d, rfl⟩ := Nat.exists_eq_add_of_le' (show 1 ≤ d by omega)
  have inner : ∀ (K : mc_K), mc_closed true tab0 n 0 none (shY_findLives g d) Q (fun _ _ _ => False) tbY_findLives K → ∀ (ro : Int32) (b : Nat) (x : Int32) (M' : mc_M) (X : Nat → Int32) (c : Bool) (y : Int32), b ≤ 16 → x = nI b - 1 → lvr M M' X → y = bI c → (∀ M'' x, lvr M M'' (sp_lr T P b X c).1 → K 77 [some (.ref 21), some (.ref 1), some (.ref 7), some (.int ro), some (.int (bI (sp_lr T P b X c).2)), some (.int x), none] [] n M'' L) → K 23 [some (.ref 21), some (.ref 1), some (.ref 7), some (.int ro), some (.int y), some (.int x), none] [] n M' L := by
    intro K hK ro b
    induction b with
    | zero =>
      intro x M' X c y _ hx hl hy h
      subst hx
      subst hy
      exact hK.1 [77] 20 23 _ _ _ _ _ ⟨fun _ => h M' _ hl, fun z => absurd (show nI 0 - 1 < 0 by decide) z⟩
    | succ b ih =>
      intro x M' X c y hb hx hl hy h
      rw [nI_pred] at hx
      subst hx
      have n0 : ¬ nI b < 0 := nI_pos (by omega)
      have hP' : prg T m M' P := prg_to hP (fun c h1 h2 => hl.1 c (by omega))
      have hN' : nt_C M' T m := nt_C_to hN (fun c h1 h2 => hl.1 c (by omega))
      obtain ⟨ss, j, hB⟩ := hP'.2.2 b (by omega)
      have v1 : vp_in (nI b) 16 := vp_in_nI (by omega) (by decide)
      have eb : (nI b).toNatClampNeg = b := nI_clamp (by omega)
      have dec : nI b + (-1) = nI b - 1 := (Int32.sub_eq_add_neg _ _).symm
      have go : ∀ r, r = sp_lv T (P b) X → ∀ y', y' = bI (c || decide (¬ r = X b)) → K 23 [some (.ref 21), some (.ref 1), some (.ref 7), some (.int ro), some (.int y'), some (.int (nI b + (-1))), some (.int r)] [] n (mc_put M' 22 (nI b).toNatClampNeg r) L := fun r hr y' hy' => by
        refine hK.2 [true, true, true, true, true, true, false] _ _ _ _ _ _ ?_
        refine ih _ _ (upd X b r) (c || decide (¬ r = X b)) y' (by omega) dec ⟨fun c hc => ?_, fun b' hb' => ?_⟩ hy' ?_
        · funext l
          rw [mc_put_at, if_neg (fun z => hc z.1), hl.1 c hc]
        · rw [mc_put_at, eb]
          unfold upd
          by_cases hbb : b' = b
          · rw [if_pos ⟨rfl, hbb⟩, if_pos hbb]
          · rw [if_neg (fun z => hbb z.2), if_neg hbb, hl.2 b' hb']
        · subst hr
          exact h
      have xb : M' 22 (nI b).toNatClampNeg = X b := by rw [eb, hl.2 b (by omega)]
      have pb := hpt b (by omega)
      cases c with
      | true =>
        have hy1 : y = 1 := hy
        subst hy1
        exact hK.1 [23] 40 23 _ _ _ _ _ ⟨fun z => absurd z n0, fun _ => cY_livesOf hT hN' hB (by omega) hl.2 pb.1 pb.2 rfl (by omega) (fun r hr => ⟨fun _ => ⟨v1, go r hr 1 rfl⟩, fun z => absurd z (by decide)⟩)⟩
      | false =>
        have hy1 : y = 0 := hy
        subst hy1
        exact hK.1 [23] 40 23 _ _ _ _ _ ⟨fun z => absurd z n0, fun _ => cY_livesOf hT hN' hB (by omega) hl.2 pb.1 pb.2 rfl (by omega) (fun r hr => ⟨fun z => absurd rfl z, fun _ => ⟨v1, fun z => ⟨v1, go r hr 0 (by rw [xb] at z; simp [bI, z])⟩, fun z => ⟨v1, go r hr 1 (by rw [xb] at z; simp [bI, z])⟩⟩⟩)⟩
  have lp : ∀ (K : mc_K), mc_closed true tab0 n 0 none (shY_findLives g d) Q (fun _ _ _ => False) tbY_findLives K → ∀ (fu ro : Nat) (i : Int32) (M' : mc_M) (X : Nat → Int32), fu + ro = 16 → i = nI ro → lvr M M' X → (∀ M'', lvr M M'' (sp_lit T P fu X) → Q none M'' L) → K 10 [some (.ref 21), some (.ref 1), some (.ref 7), some (.int i), none, none, none] [] n M' L := by
    intro K hK fu
    induction fu with
    | zero =>
      intro ro i M' X hr hi hl h
      subst hi
      have c1 : (16 : Int32) ≤ nI ro := nI_le (a := 16) (by omega) (by omega)
      exact hK.1 [] 20 10 _ _ _ _ _ ⟨fun _ => ⟨Nat.le_refl _, h M' hl⟩, fun z => absurd c1 z⟩
    | succ fu ih =>
      intro ro i M' X hr hi hl h
      subst hi
      have c1 : ¬ (16 : Int32) ≤ nI ro := nI_ge (b := 16) (by omega) (by decide)
      refine hK.1 [23] 20 10 _ _ _ _ _ ⟨fun z => absurd z c1, fun _ => inner K hK _ 16 _ M' X false 0 (Nat.le_refl _) (by decide) hl rfl (fun M'' x hl2 => ?_)⟩
      have h' := h
      unfold sp_lit at h'
      cases hc : (sp_lr T P 16 X false).2 with
      | true =>
        rw [hc, if_pos rfl] at h'
        refine hK.1 [10] 20 77 _ _ _ _ _ ⟨fun _ => ?_, fun z => absurd z (by decide)⟩
        refine hK.2 [true, true, true, true, false, false, false] _ _ _ _ _ _ ?_
        exact ih (ro + 1) _ M'' _ (by omega) (nI_1 ro) hl2 h'
      | false =>
        rw [hc, if_neg (by decide)] at h'
        exact hK.1 [] 20 77 _ _ _ _ _ ⟨fun z => absurd rfl z, fun _ => ⟨Nat.le_refl _, h' M'' hl2⟩⟩
  refine inY_findLives (Nat.le_of_ble_eq_true rfl) (fun K hK => hK.1 [10] 20 0 _ _ _ _ _ (cJ_fill (Or.inl ⟨rfl, rfl⟩) (by omega) (fun M1 z1 => lp K hK 16 0 0 M1 (fun _ => 0) rfl rfl ⟨fun c hc => by rw [z1, mc_set_n hc], fun b hb => ?_⟩ h)))
  rw [z1, mc_set_s, if_pos hb]
end AN
end
section
/-! Mixer -/
abbrev Stt : Type := Nat → Nat × (Nat → Int32)
def sp_wt (kept E : Nat → Int32) (b : Nat) : Nat → Int32 := fun v => if v < 8 ∧ fl_bit (kept b) v = true then E v else 0
def sp_sm (a b : Nat → Int32) : Prop := ∀ v, v < 8 → a v = b v
theorem sp_sm_iff (a b : Nat → Int32) : (List.range 8).all (fun v => decide (a v = b v)) = true ↔ sp_sm a b := by
  rw [List.all_eq_true]
  constructor
  · intro h v hv
    exact of_decide_eq_true (h v (List.mem_range.mpr hv))
  · intro h v hv
    exact decide_eq_true (h v (List.mem_range.mp hv))
def sp_look (q : Stt) (b : Nat) (wv : Nat → Int32) : Nat → Nat → Option Nat
  | 0, _ => none
  | r + 1, k => if (q k).1 = b ∧ (List.range 8).all (fun v => decide ((q k).2 v = wv v)) = true then some k else sp_look q b wv r (k + 1)
def sp_add (q : Stt) (s b : Nat) (wv : Nat → Int32) : Stt := fun k => if k = s then (b, wv) else q k
def sp_come (kept : Nat → Int32) (q : Stt) (s : Nat) (ov : Bool) (E : Nat → Int32) (b : Nat) : (Stt × Nat × Bool) × Int32 := match sp_look q b (sp_wt kept E b) s 0 with
  | some k => ((q, s, ov), nI k)
  | none => if s < 100 then ((sp_add q s b (sp_wt kept E b), s + 1, ov), nI s) else ((q, s, true), -1)
def mxs (M : mc_M) (kept : Nat → Int32) (q : Stt) (s : Nat) (ov : Bool) (E : Nat → Int32) : Prop := s ≤ 100 ∧ M 25 5 = nI s ∧ M 25 6 = bI ov ∧ (∀ k, k < s → M 26 k = nI (q k).1 ∧ (q k).1 < 16 ∧ ∀ v, v < 8 → M 27 (k * 8 + v) = (q k).2 v) ∧ (∀ b, b < 16 → M 28 b = kept b) ∧ ∀ v, v < 8 → M 29 v = E v
def mx_fr (M M' : mc_M) : Prop := ∀ c, c ≠ 25 → c ≠ 26 → c ≠ 27 → c ≠ 30 → M' c = M c
section MX
variable {g : mc_G} {d n : Nat} {M : mc_M} {L : mc_L} {Q : Option Value → mc_M → mc_L → Prop}
theorem cX_isWanted {k b : Nat} {x y : Int32} (hx : x = nI k) (hy : y = nI b) (hk : k < 100) (hd : 1 ≤ d) (h1 : M 26 k = nI b → (∀ v, v < 8 → M 27 (k * 8 + v) = M 30 v) → Q (some (.int 1)) M L) (h0 : ¬ (M 26 k = nI b ∧ ∀ v, v < 8 → M 27 (k * 8 + v) = M 30 v) → Q (some (.int 0)) M L) : ctX_isWanted g d [.ref 25, .int x, .int y] n M L Q := by
  obtain ⟨d, rfl⟩ := Nat.exists_eq_add_of_le' hd
  subst hx
  subst hy
  have ek : (nI k).toNatClampNeg = k := nI_clamp (by omega)
  have v1 : vp_in (nI k) 100 := vp_in_nI hk (by decide)
  have lp : M 26 k = nI b → ∀ (K : mc_K), mc_closed true tab0 n 0 (some .boolean) (shX_isWanted g d) Q (fun _ _ _ => False) tbX_isWanted K → ∀ (r v : Nat) (i : Int32), r + v = 8 → i = nI v → (∀ u, u < v → M 27 (k * 8 + u) = M 30 u) → K 14 [some (.ref 25), some (.int (nI k)), some (.int (nI b)), some (.int i)] [] n M L := by
    intro hb K hK r
    induction r with
    | zero =>
      intro v i hv hi ha
      subst hi
      have c1 : (8 : Int32) ≤ nI v := nI_le (a := 8) (by omega) (by omega)
      exact hK.1 [] 20 14 _ _ _ _ _ ⟨fun _ => ⟨Or.inr rfl, Nat.le_refl _, h1 hb (fun u hu => ha u (by omega))⟩, fun z => absurd c1 z⟩
    | succ r ih =>
      intro v i hv hi ha
      subst hi
      have c1 : ¬ (8 : Int32) ≤ nI v := nI_ge (b := 8) (by omega) (by decide)
      have ix : nI k * 8 + nI v = nI (k * 8 + v) := by
        rw [← nI_add, ← nI_mul]
        rfl
      have v2 : vp_in (nI k * 8 + nI v) 800 := by
        rw [ix]
        exact vp_in_nI (by omega) (by decide)
      have v3 : vp_in (nI v) 8 := vp_in_nI (by omega) (by decide)
      have e2 : M 27 (nI k * 8 + nI v).toNatClampNeg = M 27 (k * 8 + v) := by rw [ix, nI_clamp (by omega)]
      have e3 : M 30 (nI v).toNatClampNeg = M 30 v := by rw [nI_clamp (by omega)]
      refine hK.1 [14] 30 14 _ _ _ _ _ ⟨fun z => absurd z c1, fun _ => ⟨v2, v3, fun z => ?_, fun z => ⟨Or.inl rfl, Nat.le_refl _, h0 (fun y => z ?_)⟩⟩⟩
      · refine ih (v + 1) _ (by omega) (nI_1 v) (fun u hu => ?_)
        by_cases huv : u = v
        · rw [huv, ← e2, ← e3]
          exact z
        · exact ha u (by omega)
      · rw [e2, e3]
        exact y.2 v (by omega)
  refine inX_isWanted (Nat.le_of_ble_eq_true rfl) (fun K hK => hK.1 [14] 20 0 _ _ _ _ _ ⟨v1, fun z => lp ?_ K hK 8 0 0 rfl rfl (fun u hu => absurd hu (Nat.not_lt_zero _)), fun z => ⟨Or.inl rfl, Nat.le_refl _, h0 (fun y => z ?_)⟩⟩)
  · rw [ek] at z
    exact z
  · rw [ek]
    exact y.1
theorem cX_comeTo {kept : Nat → Int32} {q : Stt} {s b : Nat} {ov : Bool} {E : Nat → Int32} {x : Int32} (hx : x = nI b) (hb : b < 16) (hs : mxs M kept q s ov E) (hd : 2 ≤ d) (h : ∀ r M', r = (sp_come kept q s ov E b).2 → mx_fr M M' → mxs M' kept (sp_come kept q s ov E b).1.1 (sp_come kept q s ov E b).1.2.1 (sp_come kept q s ov E b).1.2.2 E → Q (some (.int r)) M' L) : ctX_comeTo g d [.ref 25, .int x] n M L Q := by
  obtain ⟨d, rfl⟩ := Nat.exists_eq_add_of_le' (show 1 ≤ d by omega)
  subst hx
  obtain ⟨hs1, hs2, hs3, hs4, hs5, hs6⟩ := hs
  have eb : (nI b).toNatClampNeg = b := nI_clamp (by omega)
  have vb : vp_in (nI b) 16 := vp_in_nI hb (by decide)
  have lk : ∀ (M1 : mc_M), M1 = mc_set M 30 (fun v => if v < 8 then sp_wt kept E b v else M 30 v) → ∀ (K : mc_K), mc_closed true tab0 n 0 (some .int) (shX_comeTo g d) Q (fun _ _ _ => False) tbX_comeTo K → ∀ (r k : Nat) (i : Int32), r + k = s → i = nI k → sp_look q b (sp_wt kept E b) s 0 = sp_look q b (sp_wt kept E b) r k → K 45 [some (.ref 25), some (.int (nI b)), some (.int i)] [] n M1 L := by
    intro M1 z1 K hK r
    have w1 : ∀ c, c ≠ 30 → M1 c = M c := fun c hc => by rw [z1, mc_set_n hc]
    have w2 : ∀ v, v < 8 → M1 30 v = sp_wt kept E b v := fun v hv => by rw [z1, mc_set_s, if_pos hv]
    have s5 : M1 25 5 = nI s := by rw [w1 25 (by decide), hs2]
    induction r with
    | zero =>
      intro k i hk hi hq
      subst hi
      have hk' : k = s := by omega
      subst hk'
      have c1 : M1 25 5 ≤ nI k := by rw [s5]; exact nI_le (Nat.le_refl _) (by omega)
      have ix : nI k * 8 = nI (k * 8) := nI_mul k 8
      have full : ¬ M1 25 5 < 100 → Q (some (.int (-1))) (mc_put M1 25 6 1) L := fun z => by
        have hn : ¬ k < 100 := fun y => z (by rw [s5]; exact nI_lt (b := 100) y (by decide))
        have hc : sp_come kept q k ov E b = ((q, k, true), -1) := by
          unfold sp_come
          rw [hq]
          show (if k < 100 then _ else _) = _
          rw [if_neg hn]
        rw [hc] at h
        dsimp only at h
        refine h _ _ rfl (fun c h1 h2 h3 h4 => ?_) ⟨hs1, ?_, ?_, fun u hu => ?_, fun u hu => ?_, fun u hu => ?_⟩
        · funext l
          rw [mc_put_at, if_neg (fun y => h1 y.1), w1 c h4]
        · rw [mc_put_at, if_neg (by decide), s5]
        · rw [mc_put_at, if_pos ⟨rfl, rfl⟩]
          rfl
        · obtain ⟨a1, a2, a3⟩ := hs4 u hu
          refine ⟨?_, a2, fun v hv => ?_⟩
          · rw [mc_put_at, if_neg (by omega), w1 26 (by decide), a1]
          · rw [mc_put_at, if_neg (by omega), w1 27 (by decide), a3 v hv]
        · rw [mc_put_at, if_neg (by omega), w1 28 (by decide), hs5 u hu]
        · rw [mc_put_at, if_neg (by omega), w1 29 (by decide), hs6 u hu]
      have room : M1 25 5 < 100 → vp_in (M1 25 5) 100 ∧ ∀ M2, M2 = mc_put M1 26 (M1 25 5).toNatClampNeg (nI b) → ¬ M2 25 5 * 8 < 0 ∧ (M2 25 5 * 8).toNatClampNeg + (8 : Int32).toNatClampNeg ≤ 800 ∧ ∀ M3, M3 = mc_set M2 27 (va_cpy (M2 30) (M2 27) (0 : Int32).toNatClampNeg (M2 25 5 * 8).toNatClampNeg (8 : Int32).toNatClampNeg) → Q (some (.int ((mc_put M3 25 5 (M3 25 5 + 1)) 25 5 - 1))) (mc_put M3 25 5 (M3 25 5 + 1)) L := fun z => by
        have hn : k < 100 := by
          rw [s5] at z
          exact (nI_ltI (b := 100) (by omega) (by decide)).mp z
        refine ⟨by rw [s5]; exact vp_in_nI hn (by decide), fun M2 z2 => ?_⟩
        have u1 : ∀ c, c ≠ 26 → M2 c = M1 c := fun c hc => by
          funext l
          rw [z2, mc_put_at, if_neg (fun y => hc y.1)]
        have t5 : M2 25 5 = nI k := by rw [u1 25 (by decide), s5]
        have e8 : (M2 25 5 * 8).toNatClampNeg = k * 8 := by rw [t5, ix, nI_clamp (by omega)]
        refine ⟨by rw [t5, ix]; exact nI_pos (by omega), by rw [e8]; show k * 8 + 8 ≤ 800; omega, fun M3 z3 => ?_⟩
        have x1 : ∀ c, c ≠ 27 → M3 c = M2 c := fun c hc => by rw [z3, mc_set_n hc]
        have x27 : ∀ l, M3 27 l = if k * 8 ≤ l ∧ l < k * 8 + 8 then M1 30 (l - k * 8) else M 27 l := fun l => by
          rw [z3, mc_set_s, e8, u1 30 (by decide), u1 27 (by decide), w1 27 (by decide)]
          show (if k * 8 ≤ l ∧ l < k * 8 + 8 then M1 30 (0 + (l - k * 8)) else M 27 l) = _
          rw [Nat.zero_add]
        have y5 : M3 25 5 = nI k := by rw [x1 25 (by decide), t5]
        have hc : sp_come kept q k ov E b = ((sp_add q k b (sp_wt kept E b), k + 1, ov), nI k) := by
          unfold sp_come
          rw [hq]
          show (if k < 100 then _ else _) = _
          rw [if_pos hn]
        rw [hc] at h
        dsimp only at h
        have y6 : (mc_put M3 25 5 (M3 25 5 + 1)) 25 5 = nI (k + 1) := by rw [mc_put_at, if_pos ⟨rfl, rfl⟩, y5, nI_1]
        refine h _ _ (by rw [y6, nI_pred]) (fun c h1 h2 h3 h4 => ?_) ⟨by omega, y6, ?_, fun u hu => ?_, fun u hu => ?_, fun u hu => ?_⟩
        · funext l
          rw [mc_put_at, if_neg (fun y => h1 y.1), x1 c h3, u1 c h2, w1 c h4]
        · rw [mc_put_at, if_neg (by decide), x1 25 (by decide), u1 25 (by decide), w1 25 (by decide), hs3]
        · have q26 : (mc_put M3 25 5 (M3 25 5 + 1)) 26 u = if u = k then nI b else M 26 u := by
            rw [mc_put_at, if_neg (by omega), x1 26 (by decide), z2, mc_put_at, s5, nI_clamp (by omega), w1 26 (by decide)]
            by_cases huk : u = k
            · rw [if_pos ⟨rfl, huk⟩, if_pos huk]
            · rw [if_neg (fun y => huk y.2), if_neg huk]
          have q27 : ∀ l, (mc_put M3 25 5 (M3 25 5 + 1)) 27 l = M3 27 l := fun l => by rw [mc_put_at, if_neg (by omega)]
          by_cases huk : u = k
          · subst huk
            have ea : sp_add q u b (sp_wt kept E b) u = (b, sp_wt kept E b) := if_pos rfl
            rw [q26, if_pos rfl, ea]
            refine ⟨rfl, hb, fun v hv => ?_⟩
            rw [q27, x27, if_pos (by omega), show u * 8 + v - u * 8 = v by omega, w2 v hv]
          · obtain ⟨a1, a2, a3⟩ := hs4 u (by omega)
            have ea : sp_add q k b (sp_wt kept E b) u = q u := if_neg huk
            rw [q26, if_neg huk, ea]
            refine ⟨a1, a2, fun v hv => ?_⟩
            rw [q27, x27, if_neg (by omega), a3 v hv]
        · rw [mc_put_at, if_neg (by omega), x1 28 (by decide), u1 28 (by decide), w1 28 (by decide), hs5 u hu]
        · rw [mc_put_at, if_neg (by omega), x1 29 (by decide), u1 29 (by decide), w1 29 (by decide), hs6 u hu]
      exact hK.1 [45] 60 45 _ _ _ _ _ ⟨fun _ => ⟨fun z => ⟨(room z).1, by decide, ((room z).2 _ rfl).1, by decide, by decide, ((room z).2 _ rfl).2.1, Nat.le_refl _, ((room z).2 _ rfl).2.2 _ rfl⟩, fun z => ⟨Or.inr rfl, Nat.le_refl _, full z⟩⟩, fun z => absurd c1 z⟩
    | succ r ih =>
      intro k i hk hi hq
      subst hi
      have c1 : ¬ M1 25 5 ≤ nI k := by rw [s5]; exact nI_ge (by omega) (by omega)
      obtain ⟨a1, a2, a3⟩ := hs4 k (by omega)
      have same : (M1 26 k = nI b ∧ ∀ v, v < 8 → M1 27 (k * 8 + v) = M1 30 v) ↔ ((q k).1 = b ∧ (List.range 8).all (fun v => decide ((q k).2 v = sp_wt kept E b v)) = true) := by
        rw [sp_sm_iff, w1 26 (by decide), a1, nI_eq (by omega) (by omega)]
        constructor
        · rintro ⟨y1, y2⟩
          exact ⟨y1, fun v hv => by rw [← a3 v hv, ← w2 v hv, ← y2 v hv, w1 27 (by decide)]⟩
        · rintro ⟨y1, y2⟩
          exact ⟨y1, fun v hv => by rw [w1 27 (by decide), a3 v hv, w2 v hv, y2 v hv]⟩
      refine hK.1 [45] 30 45 _ _ _ _ _ ⟨fun z => absurd z c1, fun _ => cX_isWanted rfl rfl (by omega) (by omega) (fun y1 y2 => ⟨fun z => absurd z (by decide), fun _ => ⟨Nat.le_refl _, ?_⟩⟩) (fun y => ⟨fun _ => ?_, fun z => absurd rfl z⟩)⟩
      · have hc : sp_come kept q s ov E b = ((q, s, ov), nI k) := by
          unfold sp_come
          rw [hq]
          unfold sp_look
          rw [if_pos (same.mp ⟨y1, y2⟩)]
        rw [hc] at h
        dsimp only at h
        refine h _ M1 rfl (fun c h1 h2 h3 h4 => w1 c h4) ⟨hs1, s5, by rw [w1 25 (by decide), hs3], fun u hu => ?_, fun u hu => by rw [w1 28 (by decide), hs5 u hu], fun u hu => by rw [w1 29 (by decide), hs6 u hu]⟩
        rw [w1 26 (by decide), w1 27 (by decide)]
        exact hs4 u hu
      · refine ih (k + 1) _ (by omega) (nI_1 k) (hq.trans ?_)
        conv => lhs; unfold sp_look
        rw [if_neg (fun z => y (same.mpr z))]
  have lw : ∀ (K : mc_K), mc_closed true tab0 n 0 (some .int) (shX_comeTo g d) Q (fun _ _ _ => False) tbX_comeTo K → ∀ (r k : Nat) (i : Int32) (M1 : mc_M), r + k = 8 → i = nI k → M1 = mc_set M 30 (fun v => if v < k then sp_wt kept E b v else M 30 v) → K 2 [some (.ref 25), some (.int (nI b)), some (.int i)] [] n M1 L := by
    intro K hK r
    induction r with
    | zero =>
      intro k i M1 hk hi hM
      subst hi
      have hk' : k = 8 := by omega
      subst hk'
      exact hK.1 [45] 20 2 _ _ _ _ _ ⟨fun _ => lk M1 hM K hK s 0 0 rfl rfl rfl, fun z => absurd (nI_le (a := 8) (b := 8) (Nat.le_refl _) (by decide)) z⟩
    | succ r ih =>
      intro k i M1 hk hi hM
      subst hi
      have c1 : ¬ (8 : Int32) ≤ nI k := nI_ge (b := 8) (by omega) (by decide)
      have w1 : ∀ c, c ≠ 30 → M1 c = M c := fun c hc => by rw [hM, mc_set_n hc]
      have ek : (nI k).toNatClampNeg = k := nI_clamp (by omega)
      have vk : vp_in (nI k) 8 := vp_in_nI (by omega) (by decide)
      have kb : M1 28 (nI b).toNatClampNeg = kept b := by rw [eb, w1 28 (by decide), hs5 b hb]
      have go : ∀ y, y = sp_wt kept E b k → K 2 [some (.ref 25), some (.int (nI b)), some (.int (nI k + 1))] [] n (mc_put M1 30 (nI k).toNatClampNeg y) L := fun y hy => by
        refine ih (k + 1) _ _ (by omega) (nI_1 k) ?_
        funext j l
        rw [mc_put_at, ek, hM, mc_set_at, mc_set_at, hy]
        by_cases hj : j = 30
        · rw [if_pos hj, if_pos hj]
          by_cases hl : l = k
          · rw [if_pos ⟨hj, hl⟩, if_pos (by omega), hl]
          · rw [if_neg (fun z => hl z.2)]
            by_cases hlk : l < k
            · rw [if_pos hlk, if_pos (by omega)]
            · rw [if_neg hlk, if_neg (by omega)]
        · rw [if_neg (fun z => hj z.1), if_neg hj, if_neg hj]
      exact hK.1 [2] 40 2 _ _ _ _ _ ⟨fun z => absurd z c1, fun _ => ⟨vb, fun z => ⟨vk, go _ (by rw [kb] at z; unfold sp_wt; rw [if_neg (fun y => by simp [fl_bit, z] at y)])⟩, fun z => ⟨vk, vk, go _ (by rw [kb] at z; unfold sp_wt; rw [if_pos ⟨by omega, by simp [fl_bit, z]⟩, ek, w1 29 (by decide), hs6 k (by omega)])⟩⟩⟩
  have lw' := fun K hK => lw K hK 8 0 0 M rfl rfl (by
    have : (fun v => if v < 0 then sp_wt kept E b v else M 30 v) = M 30 := by
      funext v
      rw [if_neg (by omega)]
    rw [this, mc_set_id])
  exact inX_comeTo (Nat.le_of_ble_eq_true rfl) (fun K hK => hK.1 [2] 20 0 _ _ _ _ _ (lw' K hK))
end MX
end
section
/-! What mixing writes -/
def tch (f k c l : Nat) : Prop := c = 25 ∨ c = 26 ∨ c = 27 ∨ c = 29 ∨ c = 30 ∨ (f + 1 ≤ c ∧ c ≤ f + 8 ∧ l = k) ∨ (f + 9 ≤ c ∧ c ≤ f + 11 ∧ k * 11 ≤ l ∧ l < k * 11 + 11) ∨ (c = f + 12 ∧ k * 88 ≤ l ∧ l < k * 88 + 88)
def mfr (f k : Nat) (M M' : mc_M) : Prop := ∀ c l, ¬ tch f k c l → M' c l = M c l
theorem mfr_rf (f k : Nat) (M : mc_M) : mfr f k M M := fun _ _ _ => rfl
theorem mfr_tr {f k : Nat} {M M' M'' : mc_M} (h : mfr f k M M') (h' : mfr f k M' M'') : mfr f k M M'' := fun c l z => (h' c l z).trans (h c l z)
theorem fl_app_at (M : mc_M) (f b c l : Nat) (v k : Int32) :
    (∀ x, fl_app M f b c l v k (f + 2) x = if x = b then nI (c + 1) else M (f + 2) x) ∧ (∀ x, fl_app M f b c l v k (f + 3) x = if c = 0 ∧ x = b then nI (b * 11 + c) else M (f + 3) x) ∧ (∀ x, fl_app M f b c l v k (f + 4) x = if x = b then nI (b * 11 + c) else M (f + 4) x) ∧
    (∀ x, fl_app M f b c l v k (f + 9) x = if x = b * 11 + c then v else M (f + 9) x) ∧ (∀ x, fl_app M f b c l v k (f + 10) x = if x = b * 11 + c then k else M (f + 10) x) ∧ (∀ x, fl_app M f b c l v k (f + 11) x = if ¬ c = 0 ∧ x = l then nI (b * 11 + c) else M (f + 11) x) ∧
    (∀ y x, y ≠ f + 2 → y ≠ f + 3 → y ≠ f + 4 → y ≠ f + 9 → y ≠ f + 10 → y ≠ f + 11 → fl_app M f b c l v k y x = M y x) := by
  unfold fl_app
  by_cases hc : c = 0
  · rw [if_pos hc]
    refine ⟨fun x => ?_, fun x => ?_, fun x => ?_, fun x => ?_, fun x => ?_, fun x => ?_, fun y x h1 h2 h3 h4 h5 h6 => ?_⟩ <;> simp [mc_put_at, *]
  · rw [if_neg hc]
    refine ⟨fun x => ?_, fun x => ?_, fun x => ?_, fun x => ?_, fun x => ?_, fun x => ?_, fun y x h1 h2 h3 h4 h5 h6 => ?_⟩ <;> simp [mc_put_at, *]
/-- a residual block's assignments, in its own steps -/
def rblk (T : Nat → Nat → Int32) (m : Nat) (S : Int32) (M : mc_M) (f k : Nat) (l : List Asg) : Prop :=
  M (f + 2) k = nI l.length ∧ l.length ≤ 10 ∧ (0 < l.length → M (f + 3) k = nI (k * 11) ∧ M (f + 4) k = nI (k * 11 + (l.length - 1))) ∧ (∀ i, i + 1 < l.length → M (f + 11) (k * 11 + i) = nI (k * 11 + (i + 1))) ∧ ∀ i, i < l.length → fl_sv M f m (k * 11 + i) ∧ l[i]? = some (fl_as T S M f (k * 11 + i))
theorem rblk_to {T : Nat → Nat → Int32} {m : Nat} {S : Int32} {M M' : mc_M} {f k b : Nat} {l : List Asg} (h : rblk T m S M f b l) (hM : mfr f k M M') (hf : 30 < f) (hbk : b ≠ k) : rblk T m S M' f b l := by
  obtain ⟨h1, h2, h3, h4, h5⟩ := h
  have e2 : M' (f + 2) b = M (f + 2) b := hM _ _ (by unfold tch; omega)
  have e3 : M' (f + 3) b = M (f + 3) b := hM _ _ (by unfold tch; omega)
  have e4 : M' (f + 4) b = M (f + 4) b := hM _ _ (by unfold tch; omega)
  have e9 : ∀ i, i < 11 → M' (f + 9) (b * 11 + i) = M (f + 9) (b * 11 + i) := fun i hi => hM _ _ (by unfold tch; omega)
  have e10 : ∀ i, i < 11 → M' (f + 10) (b * 11 + i) = M (f + 10) (b * 11 + i) := fun i hi => hM _ _ (by unfold tch; omega)
  have e11 : ∀ i, i < 11 → M' (f + 11) (b * 11 + i) = M (f + 11) (b * 11 + i) := fun i hi => hM _ _ (by unfold tch; omega)
  have e12 : ∀ i v, i < 11 → v < 8 → M' (f + 12) ((b * 11 + i) * 8 + v) = M (f + 12) ((b * 11 + i) * 8 + v) := fun i v hi hv => hM _ _ (by unfold tch; omega)
  refine ⟨by rw [e2]; exact h1, h2, fun z => by rw [e3, e4]; exact h3 z, fun i hi => by rw [e11 i (by omega)]; exact h4 i hi, fun i hi => ?_⟩
  obtain ⟨a1, a2⟩ := h5 i hi
  unfold fl_sv fl_as at *
  rw [e9 i (by omega), e10 i (by omega)]
  refine ⟨a1, ?_⟩
  rw [a2]
  congr 3
  funext v
  unfold fl_fr
  by_cases hv : v < 8 ∧ fl_bit S v = true ∧ fl_bit (T 4 (M (f + 10) (b * 11 + i)).toNatClampNeg) v = true
  · rw [if_pos hv, if_pos hv, e12 i v (by omega) hv.1]
  · rw [if_neg hv, if_neg hv]
def kp5 (f : Nat) (M M' : mc_M) : Prop := M' (f + 1) = M (f + 1) ∧ M' (f + 5) = M (f + 5) ∧ M' (f + 7) = M (f + 7) ∧ M' (f + 8) = M (f + 8)
theorem rblk_app {T : Nat → Nat → Int32} {m : Nat} {S : Int32} {M M1 M2 : mc_M} {f k v nd : Nat} {l : List Asg} (h : rblk T m S M f k l) (hf : 30 < f) (hl : l.length < 10) (hk : k < 100) (hv : v < 8) (hnd : nd < m ∨ nd = 150) (hm : m ≤ 150) (h1 : M1 = fl_app M f k l.length (k * 11 + (l.length - 1)) (nI v) (nI nd)) (h2 : M2 = mc_set M1 (f + 12) (va_cpy (M1 29) (M1 (f + 12)) 0 ((k * 11 + l.length) * 8) 8)) : rblk T m S M2 f k (l ++ [(v, nd, fl_fr T S (M 29) 0 nd)]) ∧ mfr f k M M2 ∧ (∀ c, c < f → M2 c = M c) ∧ kp5 f M M2 := by
  obtain ⟨p1, p2, p3, p4, p5⟩ := h
  obtain ⟨a2, a3, a4, a9, a10, a11, ao⟩ := fl_app_at M f k l.length (k * 11 + (l.length - 1)) (nI v) (nI nd)
  rw [← h1] at a2 a3 a4 a9 a10 a11 ao
  have m12 : ∀ c, c ≠ f + 12 → M2 c = M1 c := fun c hc => by rw [h2, mc_set_n hc]
  have e29 : M1 29 = M 29 := funext fun x => ao 29 x (by omega) (by omega) (by omega) (by omega) (by omega) (by omega)
  have q12 : ∀ x, M2 (f + 12) x = if (k * 11 + l.length) * 8 ≤ x ∧ x < (k * 11 + l.length) * 8 + 8 then M 29 (x - (k * 11 + l.length) * 8) else M (f + 12) x := fun x => by
    rw [h2, mc_set_s, e29]
    show (if (k * 11 + l.length) * 8 ≤ x ∧ x < (k * 11 + l.length) * 8 + 8 then M 29 (0 + (x - (k * 11 + l.length) * 8)) else M1 (f + 12) x) = _
    rw [Nat.zero_add, ao (f + 12) x (by omega) (by omega) (by omega) (by omega) (by omega) (by omega)]
  have e2 := m12 (f + 2) (by omega)
  have e3 := m12 (f + 3) (by omega)
  have e4 := m12 (f + 4) (by omega)
  have e9 := m12 (f + 9) (by omega)
  have e10 := m12 (f + 10) (by omega)
  have e11 := m12 (f + 11) (by omega)
  refine ⟨⟨?_, ?_, fun _ => ⟨?_, ?_⟩, fun i hi => ?_, fun i hi => ?_⟩, fun c x z => ?_, fun c hc => ?_, ?_, ?_, ?_, ?_⟩
  · rw [e2, a2, if_pos rfl]
    simp
  · simp
    omega
  · rw [e3, a3]
    by_cases h0 : l.length = 0
    · rw [if_pos ⟨h0, rfl⟩, h0]
      rfl
    · rw [if_neg (fun z => h0 z.1)]
      exact (p3 (by omega)).1
  · rw [e4, a4, if_pos rfl]
    simp
  · rw [List.length_append] at hi
    have hi' : i < l.length := by
      simp at hi
      omega
    rw [e11, a11]
    by_cases hx : i + 1 = l.length
    · rw [if_pos ⟨by omega, by omega⟩, hx]
    · rw [if_neg (fun z => by omega)]
      exact p4 i (by omega)
  · rw [List.length_append] at hi
    have hi' : i ≤ l.length := by
      simp at hi
      omega
    by_cases hx : i = l.length
    · subst hx
      have b9 : M2 (f + 9) (k * 11 + l.length) = nI v := by rw [e9, a9, if_pos rfl]
      have b10 : M2 (f + 10) (k * 11 + l.length) = nI nd := by rw [e10, a10, if_pos rfl]
      refine ⟨⟨⟨v, hv, b9⟩, nd, hnd, b10⟩, ?_⟩
      unfold fl_as
      rw [b9, b10, nI_clamp (by omega), nI_clamp (by omega)]
      rw [List.getElem?_append_right (Nat.le_refl _), Nat.sub_self]
      show some _ = some _
      congr 3
      funext u
      unfold fl_fr
      by_cases hu : u < 8 ∧ fl_bit S u = true ∧ fl_bit (T 4 nd) u = true
      · rw [if_pos hu, if_pos hu, q12, if_pos (by omega)]
        congr 1
        omega
      · rw [if_neg hu, if_neg hu]
    · obtain ⟨b1, b2⟩ := p5 i (by omega)
      have b9 : M2 (f + 9) (k * 11 + i) = M (f + 9) (k * 11 + i) := by rw [e9, a9, if_neg (by omega)]
      have b10 : M2 (f + 10) (k * 11 + i) = M (f + 10) (k * 11 + i) := by rw [e10, a10, if_neg (by omega)]
      unfold fl_sv fl_as at *
      rw [b9, b10, List.getElem?_append_left (by omega), b2]
      refine ⟨b1, ?_⟩
      congr 3
      funext u
      unfold fl_fr
      by_cases hu : u < 8 ∧ fl_bit S u = true ∧ fl_bit (T 4 (M (f + 10) (k * 11 + i)).toNatClampNeg) u = true
      · rw [if_pos hu, if_pos hu, q12, if_neg (by omega)]
      · rw [if_neg hu, if_neg hu]
  · unfold tch at z
    by_cases c12 : c = f + 12
    · rw [c12, q12, if_neg (by omega)]
    · rw [m12 c c12]
      by_cases c2 : c = f + 2
      · rw [c2, a2, if_neg (by omega)]
      by_cases c3 : c = f + 3
      · rw [c3, a3, if_neg (by omega)]
      by_cases c4 : c = f + 4
      · rw [c4, a4, if_neg (by omega)]
      by_cases c9 : c = f + 9
      · rw [c9, a9, if_neg (by omega)]
      by_cases c10 : c = f + 10
      · rw [c10, a10, if_neg (by omega)]
      by_cases c11 : c = f + 11
      · rw [c11, a11, if_neg (by omega)]
      exact ao c x c2 c3 c4 c9 c10 c11
  · rw [m12 c (by omega)]
    funext x
    exact ao c x (by omega) (by omega) (by omega) (by omega) (by omega) (by omega)
  · rw [m12 _ (by omega)]
    funext x
    exact ao _ x (by omega) (by omega) (by omega) (by omega) (by omega) (by omega)
  · rw [m12 _ (by omega)]
    funext x
    exact ao _ x (by omega) (by omega) (by omega) (by omega) (by omega) (by omega)
  · rw [m12 _ (by omega)]
    funext x
    exact ao _ x (by omega) (by omega) (by omega) (by omega) (by omega) (by omega)
  · rw [m12 _ (by omega)]
    funext x
    exact ao _ x (by omega) (by omega) (by omega) (by omega) (by omega) (by omega)
theorem kp5_tr {f : Nat} {M M' M'' : mc_M} (h : kp5 f M M') (h' : kp5 f M' M'') : kp5 f M M'' := ⟨h'.1.trans h.1, h'.2.1.trans h.2.1, h'.2.2.1.trans h.2.2.1, h'.2.2.2.trans h.2.2.2⟩
def sp_mixa (T : Nat → Nat → Int32) (S : Int32) : List Asg → (Nat → Int32) → (Nat → Int32) × List Asg
  | [], E => (E, [])
  | (v, k, _) :: r, E => if fl_bit S v = true then sp_mixa T S r (upd E v (nd_val (T 0) (T 1) (T 2) E k)) else ((sp_mixa T S r E).1, (v, k, fl_fr T S E 0 k) :: (sp_mixa T S r E).2)
end
section
/-! Mixer: assignments and jumps -/
def rs_is (f : Nat) : Prop := f = 38 ∨ f = 51
theorem mfr_low {f k : Nat} {M M' : mc_M} (hf : rs_is f) (h : mfr f k M M') {c : Nat} (hc : c < 25 ∨ c = 28 ∨ c = f) : M' c = M c := by
  funext l
  refine h c l ?_
  unfold tch
  rcases hf with rfl | rfl <;> omega
theorem fl_fr_env {T : Nat → Nat → Int32} {S : Int32} {E E' : Nat → Int32} {k : Nat} (h : ∀ v, v < 8 → E v = E' v) : fl_fr T S E 0 k = fl_fr T S E' 0 k := by
  funext v
  unfold fl_fr
  by_cases hv : v < 8 ∧ fl_bit S v = true ∧ fl_bit (T 4 k) v = true
  · rw [if_pos hv, if_pos hv, Nat.zero_mul, Nat.zero_add, h v hv.1]
  · rw [if_neg hv, if_neg hv]
section MJ
variable {g : mc_G} {d n f : Nat} {M0 M : mc_M} {L : mc_L} {Q : Option Value → mc_M → mc_L → Prop} {T : Nat → Nat → Int32} {m : Nat}
theorem cX_mixAssignments (hf : rs_is f) (hT : nt_ok T m) (hN : nt_C M0 T m) {S : Int32} (hS : M0 f 1 = S) {k s b j : Nat} {kept : Nat → Int32} {q : Stt} {ov : Bool} {E : Nat → Int32} {B : Blk} {ss : List Nat} (hB : fl_blk T m 0 M0 7 16 b B ss j) (hb : b < 16) (hss : ss.length ≤ 10) (hk : k < s) (hqb : (q k).1 = b) {x : Int32} (hx : x = nI k)
    (hM : mfr f k M0 M) (hs : mxs M kept q s ov E) (hr : rblk T m S M f k []) (hd : 34 ≤ d) (h : ∀ M', mfr f k M0 M' → kp5 f M M' → mxs M' kept q s ov (sp_mixa T S B.2.1 E).1 → rblk T m S M' f k (sp_mixa T S B.2.1 E).2 → Q none M' L) : ctX_mixAssignments g d [.ref 25, .ref 1, .ref 7, .ref f, .int x] n M L Q := by
  obtain ⟨d, rfl⟩ := Nat.exists_eq_add_of_le' (show 1 ≤ d by omega)
  subst hx
  have hs100 := hs.1
  have hm150 := hT.1
  obtain ⟨-, hc, -, hch, hsv, has, -⟩ := hB
  have ek : (nI k).toNatClampNeg = k := nI_clamp (by omega)
  have vk : vp_in (nI k) 100 := vp_in_nI (by omega) (by decide)
  have eb : (nI b).toNatClampNeg = b := nI_clamp (by omega)
  have vb : vp_in (nI b) 16 := vp_in_nI hb (by decide)
  have hfl : fl_is f 100 := by
    rcases hf with rfl | rfl
    · exact Or.inr (Or.inl ⟨rfl, rfl⟩)
    · exact Or.inr (Or.inr ⟨rfl, rfl⟩)
  have hf30 : 30 < f := by rcases hf with rfl | rfl <;> decide
  have lp : ∀ (K : mc_K), mc_closed true tab0 n 0 none (shX_mixAssignments g d) Q (fun _ _ _ => False) tbX_mixAssignments K → ∀ (rs : List Nat) (x i : Int32) (M : mc_M) (E : Nat → Int32) (l : List Asg), fl_ch (M0 18) 176 x rs → (∀ t ∈ rs, fl_sv M0 7 m t) → rs.length ≤ ss.length → i = nI (ss.length - rs.length) → mfr f k M0 M → mxs M kept q s ov E → rblk T m S M f k l → l.length + rs.length ≤ 10 →
      (∀ M', mfr f k M0 M' → kp5 f M M' → mxs M' kept q s ov (sp_mixa T S (rs.map (fl_as T 0 M0 7)) E).1 → rblk T m S M' f k (l ++ (sp_mixa T S (rs.map (fl_as T 0 M0 7)) E).2) → Q none M' L) → K 21 [some (.ref 25), some (.ref 1), some (.ref 7), some (.ref f), some (.int (nI k)), some (.int (nI b)), some (.int x), some (.int i), none, none] [] n M L := by
    intro K hK rs
    induction rs with
    | nil =>
      intro x i M E l _ _ _ hi hM hs hr _ h
      subst hi
      have c1 : M 9 (nI b).toNatClampNeg ≤ nI (ss.length - 0) := by
        rw [eb, mfr_low hf hM (Or.inl (by decide))]
        rw [show M0 9 b = nI ss.length from hc]
        exact nI_le (by omega) (by omega)
      have t := h M hM ⟨rfl, rfl, rfl, rfl⟩ hs (by simpa [sp_mixa] using hr)
      exact hK.1 [] 30 21 _ _ _ _ _ ⟨vb, fun _ => ⟨Nat.le_refl _, t⟩, fun z => absurd c1 z⟩
    | cons t rs ih =>
      intro x i M E l hx hsv hlen hi hM hs hr hl10 h
      obtain ⟨rfl, htw, hx'⟩ := hx
      subst hi
      have hlen' : rs.length + 1 ≤ ss.length := hlen
      have hl10' : l.length + (rs.length + 1) ≤ 10 := hl10
      obtain ⟨⟨v, hv8, hvr⟩, nd, hnd, hndr⟩ := hsv t List.mem_cons_self
      have c1 : ¬ M 9 (nI b).toNatClampNeg ≤ nI (ss.length - (rs.length + 1)) := by
        rw [eb, mfr_low hf hM (Or.inl (by decide))]
        rw [show M0 9 b = nI ss.length from hc]
        exact nI_ge (by omega) (by omega)
      have e1 : (nI t).toNatClampNeg = t := nI_clamp (by omega)
      have v2 : vp_in (nI t) 176 := vp_in_nI htw (by decide)
      have a16 : M 16 (nI t).toNatClampNeg = nI v := by
        rw [e1, mfr_low hf hM (Or.inl (by decide))]
        exact hvr
      have a17 : M 17 (nI t).toNatClampNeg = nI nd := by
        rw [e1, mfr_low hf hM (Or.inl (by decide))]
        exact hndr
      have hN' : nt_C M T m := nt_C_to hN (fun c h1 h2 => mfr_low hf hM (Or.inl (by omega)))
      have hS' : M f 1 = S := by rw [mfr_low hf hM (Or.inr (Or.inr rfl)), hS]
      have as1 : fl_as T 0 M0 7 t = (v, nd, fl_fr T 0 (M0 19) t nd) := by
        unfold fl_as
        rw [hvr, hndr, nI_clamp (by omega), nI_clamp (by omega)]
      rw [List.map_cons, as1] at h
      have bitv : ((M f 1 >>> (M 16 (nI t).toNatClampNeg &&& 31)) &&& 1) = ((S >>> (nI v &&& 31)) &&& 1) := by rw [a16, hS']
      have next : ∀ (M2 : mc_M), mfr f k M0 M2 → M2 18 (nI t).toNatClampNeg = M0 18 t := fun M2 h2 => by rw [e1, mfr_low hf h2 (Or.inl (by decide))]
      have st : ¬ ((M f 1 >>> (M 16 (nI t).toNatClampNeg &&& 31)) &&& 1) = 0 → ∀ r, r = nd_val (T 0) (T 1) (T 2) (M 29) nd → vp_in (M 16 (nI t).toNatClampNeg) 8 ∧ ∀ M2, M2 = mc_put M 29 (M 16 (nI t).toNatClampNeg).toNatClampNeg r → ∀ y1 y2, K 21 [some (.ref 25), some (.ref 1), some (.ref 7), some (.ref f), some (.int (nI k)), some (.int (nI b)), some (.int (M2 18 (nI t).toNatClampNeg)), some (.int (nI (ss.length - (rs.length + 1)) + 1)), y1, y2] [] n M2 L := fun z r hr1 => by
        rw [bitv] at z
        have zb : fl_bit S v = true := by simp [fl_bit, z]
        refine ⟨by rw [a16]; exact vp_in_nI hv8 (by decide), fun M2 h2 y1 y2 => ?_⟩
        rw [a16, nI_clamp (by omega)] at h2
        have hrE : r = nd_val (T 0) (T 1) (T 2) E nd := by
          rw [hr1]
          exact nd_val_env hT nd (fun u hu _ => hs.2.2.2.2.2 u hu)
        have w2 : ∀ c l, c ≠ 29 → M2 c l = M c l := fun c l hc => by rw [h2, mc_put_at, if_neg (fun y => hc y.1)]
        have f2 : mfr f k M0 M2 := fun c l y => by
          rw [w2 c l (fun y' => y (by unfold tch; omega))]
          exact hM c l y
        refine hK.2 [true, true, true, true, true, true, true, true, false, false] _ _ _ _ _ _ ?_
        refine ih _ _ M2 (upd E v r) l (by rw [next M2 f2]; exact hx') (fun t ht => hsv t (List.mem_cons_of_mem _ ht)) (by omega) (by rw [nI_1]; congr 1; omega) f2 ⟨hs.1, ?_, ?_, fun u hu => ?_, fun u hu => ?_, fun u hu => ?_⟩ ?_ (by omega) (fun M' g1 g0 g2 g3 => h M' g1 (kp5_tr ⟨funext fun x => w2 _ x (by omega), funext fun x => w2 _ x (by omega), funext fun x => w2 _ x (by omega), funext fun x => w2 _ x (by omega)⟩ g0) ?_ ?_)
        · rw [w2 25 5 (by decide)]
          exact hs.2.1
        · rw [w2 25 6 (by decide)]
          exact hs.2.2.1
        · obtain ⟨q1, q2, q3⟩ := hs.2.2.2.1 u hu
          exact ⟨by rw [w2 26 u (by decide)]; exact q1, q2, fun w hw => by rw [w2 27 _ (by decide)]; exact q3 w hw⟩
        · rw [w2 28 u (by decide)]
          exact hs.2.2.2.2.1 u hu
        · rw [h2, mc_put_at]
          unfold upd
          by_cases huv : u = v
          · rw [if_pos ⟨rfl, huv⟩, if_pos huv]
          · rw [if_neg (fun y => huv y.2), if_neg huv]
            exact hs.2.2.2.2.2 u hu
        · have rowf : ∀ i, M2 (f + i) = M (f + i) := fun i => funext fun l => w2 (f + i) l (by omega)
          unfold rblk fl_sv fl_as at hr ⊢
          rw [rowf 2, rowf 3, rowf 4, rowf 9, rowf 10, rowf 11, rowf 12]
          exact hr
        · unfold sp_mixa
          rw [if_pos zb, ← hrE]
          exact g2
        · unfold sp_mixa
          rw [if_pos zb, ← hrE]
          exact g3
      have dy : ((M f 1 >>> (M 16 (nI t).toNatClampNeg &&& 31)) &&& 1) = 0 → ∀ M1, M1 = fl_app M f k l.length (k * 11 + (l.length - 1)) (M 16 (nI t).toNatClampNeg) (M 17 (nI t).toNatClampNeg) → ∀ M2, M2 = mc_set M1 (f + 12) (va_cpy (M1 29) (M1 (f + 12)) 0 ((k * 11 + l.length) * 8) 8) → ∀ y1 y2, K 21 [some (.ref 25), some (.ref 1), some (.ref 7), some (.ref f), some (.int (nI k)), some (.int (nI b)), some (.int (M2 18 (nI t).toNatClampNeg)), some (.int (nI (ss.length - (rs.length + 1)) + 1)), y1, y2] [] n M2 L := fun z M1 h1 M2 h2 y1 y2 => by
        rw [bitv] at z
        have zb : ¬ fl_bit S v = true := by simp [fl_bit, z]
        rw [a16, a17] at h1
        obtain ⟨r1, r2, r3, r4⟩ := rblk_app hr hf30 (by omega) (by omega) hv8 hnd hm150 h1 h2
        have f2 : mfr f k M0 M2 := mfr_tr hM r2
        refine hK.2 [true, true, true, true, true, true, true, true, false, false] _ _ _ _ _ _ ?_
        refine ih _ _ M2 E (l ++ [(v, nd, fl_fr T S (M 29) 0 nd)]) (by rw [next M2 f2]; exact hx') (fun t ht => hsv t (List.mem_cons_of_mem _ ht)) (by omega) (by rw [nI_1]; congr 1; omega) f2 ?_ r1 (by rw [List.length_append]; simp; omega) (fun M' g1 g0 g2 g3 => h M' g1 (kp5_tr r4 g0) ?_ ?_)
        · unfold mxs
          rw [r3 25 (by omega), r3 26 (by omega), r3 27 (by omega), r3 28 (by omega), r3 29 (by omega)]
          exact hs
        · unfold sp_mixa
          rw [if_neg zb]
          exact g2
        · unfold sp_mixa
          rw [if_neg zb]
          rw [fl_fr_env (E' := E) hs.2.2.2.2.2, List.append_assoc] at g3
          exact g3
      have sx : ∀ r, r = nI (k * 11 + l.length) → k * 11 + l.length < 100 * 11 := fun _ _ => by omega
      rcases hf with rfl | rfl <;>
      exact hK.1 [21] 80 21 _ _ _ _ _ ⟨vb, fun z => absurd z c1, fun _ => ⟨v2, v2, fun z => cF_append (l := k * 11 + (l.length - 1)) hfl (by omega) rfl (by omega) hr.1 (by omega) (fun y => ⟨(hr.2.2.1 y).2, by omega⟩) (fun r M1 hr1 h1 => cF_freeze hfl (by omega) hr1 (by omega) (fun M2 h2 => ⟨v2, dy z M1 h1 M2 h2 _ _⟩)), fun z => cN_value hT hN' (Or.inr (Or.inl rfl)) a17 hnd (by omega) (fun r hr1 => ⟨(st z r hr1).1, v2, (st z r hr1).2 _ rfl _ _⟩)⟩⟩
  have hq := hs.2.2.2.1 k hk
  have bb : M 26 (nI k).toNatClampNeg = nI b := by rw [ek, hq.1, hqb]
  have vb' : vp_in (M 26 (nI k).toNatClampNeg) 16 := by rw [bb]; exact vb
  have x0 : M 10 (M 26 (nI k).toNatClampNeg).toNatClampNeg = M0 10 b := by rw [bb, eb, mfr_low hf hM (Or.inl (by decide))]
  rw [has] at h
  have lp' : ∀ K, mc_closed true tab0 n 0 none (shX_mixAssignments g d) Q (fun _ _ _ => False) tbX_mixAssignments K → K 21 [some (.ref 25), some (.ref 1), some (.ref 7), some (.ref f), some (.int (nI k)), some (.int (M 26 (nI k).toNatClampNeg)), some (.int (M 10 (M 26 (nI k).toNatClampNeg).toNatClampNeg)), some (.int 0), none, none] [] n M L := fun K hK => by
    rw [x0, bb]
    exact lp K hK ss (M0 10 b) 0 M E [] hch hsv (Nat.le_refl _) (by rw [Nat.sub_self]; rfl) hM hs hr (by simpa using hss) h
  rcases hf with rfl | rfl <;>
  exact inX_mixAssignments (Nat.le_of_ble_eq_true rfl) (fun K hK => hK.1 [21] 40 0 _ _ _ _ _ ⟨vk, vb', lp' K hK⟩)
def rj (T : Nat → Nat → Int32) (m : Nat) (S : Int32) (M : mc_M) (f k : Nat) (l : List Asg) (q' : Int32) (nd : Nat) (E : Nat → Int32) : Prop := rblk T m S M f k l ∧ M (f + 5) k = nI k ∧ M (f + 6) k = q' ∧ M (f + 10) (k * 11 + 10) = nI nd ∧ ∀ v, v < 8 → M (f + 12) ((k * 11 + 10) * 8 + v) = E v
theorem rblk_rows {S : Int32} {M M' : mc_M} {f k : Nat} {l : List Asg} (h : rblk T m S M f k l) (e2 : M' (f + 2) k = M (f + 2) k) (e3 : M' (f + 3) k = M (f + 3) k) (e4 : M' (f + 4) k = M (f + 4) k) (e9 : ∀ i, i < 10 → M' (f + 9) (k * 11 + i) = M (f + 9) (k * 11 + i)) (e10 : ∀ i, i < 10 → M' (f + 10) (k * 11 + i) = M (f + 10) (k * 11 + i)) (e11 : ∀ i, i < 10 → M' (f + 11) (k * 11 + i) = M (f + 11) (k * 11 + i)) (e12 : ∀ i v, i < 10 → v < 8 → M' (f + 12) ((k * 11 + i) * 8 + v) = M (f + 12) ((k * 11 + i) * 8 + v)) : rblk T m S M' f k l := by
  obtain ⟨h1, h2, h3, h4, h5⟩ := h
  refine ⟨by rw [e2]; exact h1, h2, fun z => by rw [e3, e4]; exact h3 z, fun i hi => by rw [e11 i (by omega)]; exact h4 i hi, fun i hi => ?_⟩
  obtain ⟨a1, a2⟩ := h5 i hi
  unfold fl_sv fl_as at *
  rw [e9 i (by omega), e10 i (by omega)]
  refine ⟨a1, ?_⟩
  rw [a2]
  congr 3
  funext v
  unfold fl_fr
  by_cases hv : v < 8 ∧ fl_bit S v = true ∧ fl_bit (T 4 (M (f + 10) (k * 11 + i)).toNatClampNeg) v = true
  · rw [if_pos hv, if_pos hv, e12 i v (by omega) hv.1]
  · rw [if_neg hv, if_neg hv]
theorem rj_mk {S : Int32} {M M1 M2 : mc_M} {k nd : Nat} {l : List Asg} {q' ndI : Int32} {E : Nat → Int32} (hf : rs_is f) (hk : k < 100) (hr : rblk T m S M f k l) (h5 : M (f + 5) k = nI k) (hE : ∀ v, v < 8 → M 29 v = E v) (hnd : ndI = nI nd) (h1 : M1 = mc_set M (f + 12) (va_cpy (M 29) (M (f + 12)) 0 ((k * 11 + 10) * 8) 8)) (h2 : M2 = mc_put (mc_put M1 (f + 6) k q') (f + 10) (k * 11 + 10) ndI) :
    rj T m S M2 f k l q' nd E ∧ mfr f k M M2 ∧ (∀ c, c < f → M2 c = M c) ∧ M2 (f + 7) = M (f + 7) ∧ M2 (f + 8) = M (f + 8) ∧ M2 (f + 1) = M (f + 1) := by
  have hf30 : 30 < f := by rcases hf with rfl | rfl <;> decide
  have a : ∀ c x, M2 c x = if c = f + 10 ∧ x = k * 11 + 10 then ndI else if c = f + 6 ∧ x = k then q' else M1 c x := fun c x => by rw [h2, mc_put_at, mc_put_at]
  have b : ∀ c, c ≠ f + 12 → M1 c = M c := fun c hc => by rw [h1, mc_set_n hc]
  have b12 : ∀ x, M1 (f + 12) x = if (k * 11 + 10) * 8 ≤ x ∧ x < (k * 11 + 10) * 8 + 8 then M 29 (x - (k * 11 + 10) * 8) else M (f + 12) x := fun x => by
    rw [h1, mc_set_s]
    show (if (k * 11 + 10) * 8 ≤ x ∧ x < (k * 11 + 10) * 8 + 8 then M 29 (0 + (x - (k * 11 + 10) * 8)) else M (f + 12) x) = _
    rw [Nat.zero_add]
  refine ⟨⟨rblk_rows hr ?_ ?_ ?_ (fun i hi => ?_) (fun i hi => ?_) (fun i hi => ?_) (fun i v hi hv => ?_), ?_, ?_, ?_, fun v hv => ?_⟩, fun c x z => ?_, fun c hc => ?_, ?_, ?_, ?_⟩
  · rw [a, if_neg (by omega), if_neg (by omega), b _ (by omega)]
  · rw [a, if_neg (by omega), if_neg (by omega), b _ (by omega)]
  · rw [a, if_neg (by omega), if_neg (by omega), b _ (by omega)]
  · rw [a, if_neg (by omega), if_neg (by omega), b _ (by omega)]
  · rw [a, if_neg (by omega), if_neg (by omega), b _ (by omega)]
  · rw [a, if_neg (by omega), if_neg (by omega), b _ (by omega)]
  · rw [a, if_neg (by omega), if_neg (by omega), b12, if_neg (by omega)]
  · rw [a, if_neg (by omega), if_neg (by omega), b _ (by omega), h5]
  · rw [a, if_neg (by omega), if_pos ⟨rfl, rfl⟩]
  · rw [a, if_pos ⟨rfl, rfl⟩, hnd]
  · rw [a, if_neg (by omega), if_neg (by omega), b12, if_pos (by omega), ← hE v hv]
    congr 1
    omega
  · unfold tch at z
    rw [a, if_neg (by omega), if_neg (by omega)]
    by_cases hc : c = f + 12
    · rw [hc, b12, if_neg (by omega)]
    · rw [b c hc]
  · funext x
    rw [a, if_neg (by omega), if_neg (by omega), b c (by omega)]
  · funext x
    rw [a, if_neg (by omega), if_neg (by omega), b _ (by omega)]
  · funext x
    rw [a, if_neg (by omega), if_neg (by omega), b _ (by omega)]
  · funext x
    rw [a, if_neg (by omega), if_neg (by omega), b _ (by omega)]
theorem rj_fr {S : Int32} {M M' : mc_M} {k nd : Nat} {l : List Asg} {q' : Int32} {E : Nat → Int32} (hf : rs_is f) (h : rj T m S M f k l q' nd E) (hM : mx_fr M M') : rj T m S M' f k l q' nd E := by
  have e : ∀ i, M' (f + i) = M (f + i) := fun i => by
    refine hM _ ?_ ?_ ?_ ?_ <;> rcases hf with rfl | rfl <;> omega
  unfold rj rblk fl_sv fl_as at h ⊢
  rw [e 2, e 3, e 4, e 5, e 6, e 9, e 10, e 11, e 12]
  exact h
theorem mfr_fr {M M' : mc_M} {k : Nat} (hM : mx_fr M M') : mfr f k M M' := fun c l z => by
  have := hM c (fun y => z (Or.inl y)) (fun y => z (Or.inr (Or.inl y))) (fun y => z (Or.inr (Or.inr (Or.inl y)))) (fun y => z (Or.inr (Or.inr (Or.inr (Or.inr (Or.inl y))))))
  rw [this]
theorem rj_tg {S : Int32} {M M' : mc_M} {k nd : Nat} {l : List Asg} {q' one other : Int32} {E : Nat → Int32} (h : rj T m S M f k l q' nd E) (hM : M' = mc_put (mc_put M (f + 7) k one) (f + 8) k other) : rj T m S M' f k l q' nd E ∧ mfr f k M M' ∧ M' (f + 7) k = one ∧ M' (f + 8) k = other ∧ (∀ c, c < f → M' c = M c) ∧ M' (f + 1) = M (f + 1) := by
  have a : ∀ c x, c ≠ f + 7 → c ≠ f + 8 → M' c x = M c x := fun c x h7 h8 => by rw [hM, mc_put_at, if_neg (fun y => h8 y.1), mc_put_at, if_neg (fun y => h7 y.1)]
  have e : ∀ i, i ≠ 7 → i ≠ 8 → M' (f + i) = M (f + i) := fun i h7 h8 => funext fun x => a _ x (by omega) (by omega)
  refine ⟨?_, fun c x z => ?_, ?_, ?_, fun c hc => funext fun x => a c x (by omega) (by omega), e 1 (by decide) (by decide)⟩
  · unfold rj rblk fl_sv fl_as at h ⊢
    rw [e 2 (by decide) (by decide), e 3 (by decide) (by decide), e 4 (by decide) (by decide), e 5 (by decide) (by decide), e 6 (by decide) (by decide), e 9 (by decide) (by decide), e 10 (by decide) (by decide), e 11 (by decide) (by decide), e 12 (by decide) (by decide)]
    exact h
  · unfold tch at z
    rw [hM, mc_put_at, if_neg (by omega), mc_put_at, if_neg (by omega)]
  · rw [hM, mc_put_at, if_neg (by omega), mc_put_at, if_pos ⟨rfl, rfl⟩]
  · rw [hM, mc_put_at, if_pos ⟨rfl, rfl⟩]
abbrev Jmp : Type := Int32 × (Nat × (Nat → Int32)) × Int32 × Int32
def sp_mixj (T : Nat → Nat → Int32) (S : Int32) (kept : Nat → Int32) (q : Stt) (s : Nat) (ov : Bool) (E : Nat → Int32) (B : Blk) : (Stt × Nat × Bool) × Jmp :=
  if B.2.2.1 = 2 then ((q, s, ov), (2, (B.2.2.2.1.1, fl_fr T S E 0 B.2.2.2.1.1), -1, -1))
  else if B.2.2.1 = 1 ∧ ¬ (T 4 B.2.2.2.1.1 &&& (S ^^^ (-1))) = 0 then
    ((sp_come kept (sp_come kept q s ov E B.2.2.2.2.1.toNatClampNeg).1.1 (sp_come kept q s ov E B.2.2.2.2.1.toNatClampNeg).1.2.1 (sp_come kept q s ov E B.2.2.2.2.1.toNatClampNeg).1.2.2 E B.2.2.2.2.2.toNatClampNeg).1,
      (1, (B.2.2.2.1.1, fl_fr T S E 0 B.2.2.2.1.1), (sp_come kept q s ov E B.2.2.2.2.1.toNatClampNeg).2, (sp_come kept (sp_come kept q s ov E B.2.2.2.2.1.toNatClampNeg).1.1 (sp_come kept q s ov E B.2.2.2.2.1.toNatClampNeg).1.2.1 (sp_come kept q s ov E B.2.2.2.2.1.toNatClampNeg).1.2.2 E B.2.2.2.2.2.toNatClampNeg).2))
  else
    ((sp_come kept q s ov E (if B.2.2.1 = 0 ∨ ¬ nd_val (T 0) (T 1) (T 2) E B.2.2.2.1.1 = 0 then B.2.2.2.2.1 else B.2.2.2.2.2).toNatClampNeg).1, (0, (150, fl_fr T S E 0 150), (sp_come kept q s ov E (if B.2.2.1 = 0 ∨ ¬ nd_val (T 0) (T 1) (T 2) E B.2.2.2.1.1 = 0 then B.2.2.2.2.1 else B.2.2.2.2.2).toNatClampNeg).2, -1))
def rjmp (T : Nat → Nat → Int32) (m : Nat) (S : Int32) (M : mc_M) (f k : Nat) (J : Jmp) : Prop := M (f + 5) k = nI k ∧ M (f + 6) k = J.1 ∧ (∃ nd, (nd < m ∨ nd = 150) ∧ M (f + 10) (k * 11 + 10) = nI nd ∧ J.2.1 = (nd, fl_fr T S (M (f + 12)) (k * 11 + 10) nd)) ∧ M (f + 7) k = J.2.2.1 ∧ M (f + 8) k = J.2.2.2
theorem rjmp_of {S : Int32} {M : mc_M} {k nd : Nat} {l : List Asg} {q' : Int32} {E : Nat → Int32} (h : rj T m S M f k l q' nd E) (hnd : nd < m ∨ nd = 150) : rblk T m S M f k l ∧ rjmp T m S M f k (q', (nd, fl_fr T S E 0 nd), M (f + 7) k, M (f + 8) k) := by
  obtain ⟨h1, h2, h3, h4, h5⟩ := h
  refine ⟨h1, h2, h3, ⟨nd, hnd, h4, ?_⟩, rfl, rfl⟩
  show (nd, _) = (nd, _)
  congr 1
  funext v
  unfold fl_fr
  by_cases hv : v < 8 ∧ fl_bit S v = true ∧ fl_bit (T 4 nd) v = true
  · rw [if_pos hv, if_pos hv, h5 v hv.1, Nat.zero_mul, Nat.zero_add]
  · rw [if_neg hv, if_neg hv]
end MJ
end
section
/-! Mixer.mixJump -/
theorem mxs_low {M M' : mc_M} {f s : Nat} {kept : Nat → Int32} {q : Stt} {ov : Bool} {E : Nat → Int32} (h : mxs M kept q s ov E) (hf : 30 < f) (hM : ∀ c, c < f → M' c = M c) : mxs M' kept q s ov E := by
  unfold mxs
  rw [hM 25 (by omega), hM 26 (by omega), hM 27 (by omega), hM 28 (by omega), hM 29 (by omega)]
  exact h
section MW
variable {g : mc_G} {d n f : Nat} {M0 M : mc_M} {L : mc_L} {Q : Option Value → mc_M → mc_L → Prop} {T : Nat → Nat → Int32} {m : Nat}
theorem cX_mixJump (hf : rs_is f) (hT : nt_ok T m) (hN : nt_C M0 T m) {S : Int32} (hS : M0 f 1 = S) {k s b j : Nat} {kept : Nat → Int32} {q : Stt} {ov : Bool} {E : Nat → Int32} {B : Blk} {ss : List Nat} (hB : fl_blk T m 0 M0 7 16 b B ss j) (hb : b < 16) (htg : B.2.2.1 = 2 ∨ ((∃ t, t < 16 ∧ B.2.2.2.2.1 = nI t) ∧ (B.2.2.1 = 0 ∨ ∃ t, t < 16 ∧ B.2.2.2.2.2 = nI t))) (hk : k < s) (hqb : (q k).1 = b) {x : Int32} (hx : x = nI k) {l : List Asg}
    (hM : mfr f k M0 M) (hs : mxs M kept q s ov E) (hr : rblk T m S M f k l) (h5 : M (f + 5) k = nI k) (h7 : M (f + 7) k = -1) (h8 : M (f + 8) k = -1) (hd : 34 ≤ d) (h : ∀ M', mfr f k M0 M' → M' (f + 1) = M (f + 1) → mxs M' kept (sp_mixj T S kept q s ov E B).1.1 (sp_mixj T S kept q s ov E B).1.2.1 (sp_mixj T S kept q s ov E B).1.2.2 E → rblk T m S M' f k l → rjmp T m S M' f k (sp_mixj T S kept q s ov E B).2 → Q none M' L) : ctX_mixJump g d [.ref 25, .ref 1, .ref 7, .ref f, .int x] n M L Q := by
  obtain ⟨d, rfl⟩ := Nat.exists_eq_add_of_le' (show 1 ≤ d by omega)
  subst hx
  have hs100 := hs.1
  have hm150 := hT.1
  obtain ⟨-, -, -, -, -, -, hj, hjw, hq, ⟨jk, hjk, hjkr, hjn⟩, hone, hoth⟩ := hB
  have hf30 : 30 < f := by rcases hf with rfl | rfl <;> decide
  have hfl : fl_is f 100 := by
    rcases hf with rfl | rfl
    · exact Or.inr (Or.inl ⟨rfl, rfl⟩)
    · exact Or.inr (Or.inr ⟨rfl, rfl⟩)
  have ek : (nI k).toNatClampNeg = k := nI_clamp (by omega)
  have vk : vp_in (nI k) 100 := vp_in_nI (by omega) (by decide)
  have eb : (nI b).toNatClampNeg = b := nI_clamp (by omega)
  have ej : (nI j).toNatClampNeg = j := nI_clamp (by omega)
  have vb : vp_in (nI b) 16 := vp_in_nI hb (by decide)
  have vj : vp_in (nI j) 16 := vp_in_nI hjw (by decide)
  have r12 : M 12 b = nI j := by rw [mfr_low hf hM (Or.inl (by decide))]; exact hj
  have r13 : M 13 j = B.2.2.1 := by rw [mfr_low hf hM (Or.inl (by decide))]; exact hq
  have r17 : M 17 (j * 11 + 10) = nI jk := by rw [mfr_low hf hM (Or.inl (by decide))]; exact hjkr
  have hN' : nt_C M T m := nt_C_to hN (fun c h1 h2 => mfr_low hf hM (Or.inl (by omega)))
  have hS' : M f 1 = S := by rw [mfr_low hf hM (Or.inr (Or.inr rfl)), hS]
  have jn1 : B.2.2.2.1.1 = jk := by rw [hjn]
  have go155 : ∀ (K : mc_K), mc_closed true tab0 n 0 none (shX_mixJump g d) Q (fun _ _ _ => False) tbX_mixJump K → ¬ B.2.2.1 = 2 → ¬ (B.2.2.1 = 1 ∧ ¬ (T 4 B.2.2.2.1.1 &&& (S ^^^ (-1))) = 0) → ∀ M1, M1 = mc_set M (f + 12) (va_cpy (M 29) (M (f + 12)) 0 ((k * 11 + 10) * 8) 8) → ∀ y, K 155 [some (.ref 25), some (.ref 1), some (.ref 7), some (.ref f), some (.int (nI k)), some (.int (nI b)), some (.int (nI j)), some (.int B.2.2.1), some (.int (nI jk)), y, none, none] [] n M1 L := by
    intro K hK n2 n1 M1 z1 y
    have w1 : ∀ c, c < f → M1 c = M c := fun c hc => by rw [z1, mc_set_n (by omega)]
    have hN1 : nt_C M1 T m := nt_C_to hN' (fun c a1 a2 => w1 c (by omega))
    have m5 : M1 (f + 5) k = nI k := by rw [z1, mc_set_n (by omega), h5]
    rcases htg with htg | ⟨⟨t1, ht1, ht1e⟩, htg2⟩
    · exact absurd htg n2
    have fin : ∀ (tt : Nat) (ti : Int32), tt < 16 → ti = nI tt → (if B.2.2.1 = 0 ∨ ¬ nd_val (T 0) (T 1) (T 2) E B.2.2.2.1.1 = 0 then B.2.2.2.2.1 else B.2.2.2.2.2) = nI tt → ∀ M2, M2 = mc_put (mc_put M1 (f + 6) k 0) (f + 10) (k * 11 + 10) 150 → mxs M2 kept q s ov E ∧ ∀ r M3, r = (sp_come kept q s ov E tt).2 → mx_fr M2 M3 → mxs M3 kept (sp_come kept q s ov E tt).1.1 (sp_come kept q s ov E tt).1.2.1 (sp_come kept q s ov E tt).1.2.2 E → M3 (f + 5) k = nI k ∧ ∀ M4, M4 = mc_put (mc_put M3 (f + 7) k r) (f + 8) k (-1) → Q none M4 L := fun tt ti htt hti hte M2 z2 => by
      obtain ⟨p1, p2, p3, p4, p5, pf1⟩ := rj_mk (nd := 150) (E := E) hf (by omega) hr h5 hs.2.2.2.2.2 rfl z1 z2
      refine ⟨mxs_low hs hf30 p3, fun r M3 hr3 hf3 hs3 => ?_⟩
      have p6 := rj_fr hf p1 hf3
      refine ⟨p6.2.1, fun M4 z4 => ?_⟩
      obtain ⟨o1, o2, o3, o4, o5, of1⟩ := rj_tg p6 z4
      obtain ⟨o6, o7⟩ := rjmp_of o1 (Or.inr rfl)
      have hj2 : sp_mixj T S kept q s ov E B = ((sp_come kept q s ov E tt).1, (0, (150, fl_fr T S E 0 150), (sp_come kept q s ov E tt).2, -1)) := by
        unfold sp_mixj
        rw [if_neg n2, if_neg n1, hte, nI_clamp (by omega)]
      rw [hj2] at h
      refine h M4 (mfr_tr hM (mfr_tr p2 (mfr_tr (mfr_fr hf3) o2))) (of1.trans ((hf3 _ (by omega) (by omega) (by omega) (by omega)).trans pf1)) (mxs_low hs3 hf30 o5) o6 ?_
      rw [o3, o4, hr3] at o7
      exact o7
    have cond0 : B.2.2.1 = 0 → (if B.2.2.1 = 0 ∨ ¬ nd_val (T 0) (T 1) (T 2) E B.2.2.2.1.1 = 0 then B.2.2.2.2.1 else B.2.2.2.2.2) = nI t1 := fun z => by rw [if_pos (Or.inl z), ht1e]
    have cond1 : ∀ r, r = nd_val (T 0) (T 1) (T 2) (M1 29) jk → ¬ r = 0 → (if B.2.2.1 = 0 ∨ ¬ nd_val (T 0) (T 1) (T 2) E B.2.2.2.1.1 = 0 then B.2.2.2.2.1 else B.2.2.2.2.2) = nI t1 := fun r hr z => by
      rw [w1 29 (by omega), nd_val_env hT (E' := E) jk (fun u hu _ => hs.2.2.2.2.2 u hu)] at hr
      rw [if_pos (Or.inr (by rw [jn1, ← hr]; exact z)), ht1e]
    have cond2 : ¬ B.2.2.1 = 0 → ∀ r, r = nd_val (T 0) (T 1) (T 2) (M1 29) jk → r = 0 → ∃ t2, t2 < 16 ∧ B.2.2.2.2.2 = nI t2 ∧ (if B.2.2.1 = 0 ∨ ¬ nd_val (T 0) (T 1) (T 2) E B.2.2.2.1.1 = 0 then B.2.2.2.2.1 else B.2.2.2.2.2) = nI t2 := fun z0 r hr z => by
      rw [w1 29 (by omega), nd_val_env hT (E' := E) jk (fun u hu _ => hs.2.2.2.2.2 u hu)] at hr
      rcases htg2 with y | ⟨t2, y1, y2⟩
      · exact absurd y z0
      · exact ⟨t2, y1, y2, by rw [if_neg (fun w => w.elim z0 (fun w => w (by rw [jn1, ← hr]; exact z))), y2]⟩
    have m14 : ∀ M2, M2 = mc_put (mc_put M1 (f + 6) k 0) (f + 10) (k * 11 + 10) 150 → M2 14 (nI j).toNatClampNeg = B.2.2.2.2.1 ∧ M2 15 (nI j).toNatClampNeg = B.2.2.2.2.2 := fun M2 z2 => by
      have w2 : ∀ c, c < f → M2 c = M c := fun c hc => by
        funext x
        rw [z2, mc_put_at, if_neg (by omega), mc_put_at, if_neg (by omega), w1 c hc]
      rw [ej, w2 14 (by omega), w2 15 (by omega), mfr_low hf hM (Or.inl (by decide)), mfr_low hf hM (Or.inl (by decide))]
      exact ⟨hone, hoth⟩
    have toOne : (if B.2.2.1 = 0 ∨ ¬ nd_val (T 0) (T 1) (T 2) E B.2.2.2.1.1 = 0 then B.2.2.2.2.1 else B.2.2.2.2.2) = nI t1 → K 181 [some (.ref 25), some (.ref 1), some (.ref 7), some (.ref f), some (.int (nI k)), some (.int (nI b)), some (.int (nI j)), some (.int B.2.2.1), some (.int (nI jk)), none, some (.int 1), none] [] n M1 L := fun hte => by
      have fin' := fin t1 (nI t1) ht1 rfl hte
      rcases hf with rfl | rfl <;>
      exact hK.1 [] 60 181 _ _ _ _ _ (cF_setJump hfl (by omega) rfl (by omega) m5 (by omega) (fun M2 z2 => ⟨fun z => absurd z (by decide), fun _ => ⟨vj, cX_comeTo ((m14 M2 z2).1.trans ht1e) ht1 (fin' M2 z2).1 (by omega) (fun r M3 hr3 hf3 hs3 => cF_setTargets hfl (by omega) rfl (by omega) ((fin' M2 z2).2 r M3 hr3 hf3 hs3).1 (by omega) (fun M4 z4 => ⟨Nat.le_refl _, ((fin' M2 z2).2 r M3 hr3 hf3 hs3).2 M4 z4⟩))⟩⟩))
    have toOther : ∀ t2, t2 < 16 → B.2.2.2.2.2 = nI t2 → (if B.2.2.1 = 0 ∨ ¬ nd_val (T 0) (T 1) (T 2) E B.2.2.2.1.1 = 0 then B.2.2.2.2.1 else B.2.2.2.2.2) = nI t2 → K 181 [some (.ref 25), some (.ref 1), some (.ref 7), some (.ref f), some (.int (nI k)), some (.int (nI b)), some (.int (nI j)), some (.int B.2.2.1), some (.int (nI jk)), none, some (.int 0), none] [] n M1 L := fun t2 ht2 ht2e hte => by
      have fin' := fin t2 (nI t2) ht2 rfl hte
      rcases hf with rfl | rfl <;>
      exact hK.1 [] 60 181 _ _ _ _ _ (cF_setJump hfl (by omega) rfl (by omega) m5 (by omega) (fun M2 z2 => ⟨fun _ => ⟨vj, cX_comeTo ((m14 M2 z2).2.trans ht2e) ht2 (fin' M2 z2).1 (by omega) (fun r M3 hr3 hf3 hs3 => cF_setTargets hfl (by omega) rfl (by omega) ((fin' M2 z2).2 r M3 hr3 hf3 hs3).1 (by omega) (fun M4 z4 => ⟨Nat.le_refl _, ((fin' M2 z2).2 r M3 hr3 hf3 hs3).2 M4 z4⟩))⟩, fun z => absurd rfl z⟩))
    refine hK.2 [true, true, true, true, true, true, true, true, true, false, true, true] _ _ _ _ _ _ ?_
    exact hK.1 [181] 40 155 _ _ _ _ _ ⟨fun z => toOne (cond0 z), fun z => cN_value hT hN1 (Or.inr (Or.inl rfl)) rfl hjk (by omega) (fun r hr => ⟨fun z2 => (cond2 z r hr z2).elim (fun t2 h2 => toOther t2 h2.1 h2.2.1 h2.2.2), fun z2 => toOne (cond1 r hr z2)⟩)⟩
  have go64 : ∀ (K : mc_K), mc_closed true tab0 n 0 none (shX_mixJump g d) Q (fun _ _ _ => False) tbX_mixJump K → ∀ y, (y = 1 ∧ (T 4 jk &&& (S ^^^ (-1))) = 0) ∨ (y = 0 ∧ ¬ (T 4 jk &&& (S ^^^ (-1))) = 0) → K 64 [some (.ref 25), some (.ref 1), some (.ref 7), some (.ref f), some (.int (nI k)), some (.int (nI b)), some (.int (nI j)), some (.int B.2.2.1), some (.int (nI jk)), some (.int y), none, none] [] n M L := by
    intro K hK y hy
    have m5 : ∀ M1, M1 = mc_set M (f + 12) (va_cpy (M 29) (M (f + 12)) 0 ((k * 11 + 10) * 8) 8) → M1 (f + 5) k = nI k := fun M1 z1 => by rw [z1, mc_set_n (by omega), h5]
    have ret : B.2.2.1 = 2 → ∀ M1, M1 = mc_set M (f + 12) (va_cpy (M 29) (M (f + 12)) 0 ((k * 11 + 10) * 8) 8) → ∀ M2, M2 = mc_put (mc_put M1 (f + 6) k 2) (f + 10) (k * 11 + 10) (nI jk) → Q none M2 L := fun z M1 z1 M2 z2 => by
      obtain ⟨p1, p2, p3, p4, p5, pf1⟩ := rj_mk (nd := jk) (E := E) hf (by omega) hr h5 hs.2.2.2.2.2 rfl z1 z2
      obtain ⟨o6, o7⟩ := rjmp_of p1 hjk
      have hj2 : sp_mixj T S kept q s ov E B = ((q, s, ov), (2, (jk, fl_fr T S E 0 jk), -1, -1)) := by
        unfold sp_mixj
        rw [if_pos z, jn1]
      rw [hj2] at h
      rw [p4, p5, h7, h8] at o7
      exact h M2 (mfr_tr hM p2) pf1 (mxs_low hs hf30 p3) o6 o7
    have opn : ¬ B.2.2.1 = 2 → B.2.2.1 = 1 → ¬ (T 4 jk &&& (S ^^^ (-1))) = 0 → ∃ t1 t2, t1 < 16 ∧ t2 < 16 ∧ B.2.2.2.2.1 = nI t1 ∧ B.2.2.2.2.2 = nI t2 ∧ ∀ M1, M1 = mc_set M (f + 12) (va_cpy (M 29) (M (f + 12)) 0 ((k * 11 + 10) * 8) 8) → ∀ M2, M2 = mc_put (mc_put M1 (f + 6) k 1) (f + 10) (k * 11 + 10) (nI jk) → M2 14 (nI j).toNatClampNeg = nI t1 ∧ mxs M2 kept q s ov E ∧ ∀ r1 M3, r1 = (sp_come kept q s ov E t1).2 → mx_fr M2 M3 → mxs M3 kept (sp_come kept q s ov E t1).1.1 (sp_come kept q s ov E t1).1.2.1 (sp_come kept q s ov E t1).1.2.2 E → M3 15 (nI j).toNatClampNeg = nI t2 ∧ ∀ r2 M4, r2 = (sp_come kept (sp_come kept q s ov E t1).1.1 (sp_come kept q s ov E t1).1.2.1 (sp_come kept q s ov E t1).1.2.2 E t2).2 → mx_fr M3 M4 → mxs M4 kept (sp_come kept (sp_come kept q s ov E t1).1.1 (sp_come kept q s ov E t1).1.2.1 (sp_come kept q s ov E t1).1.2.2 E t2).1.1 (sp_come kept (sp_come kept q s ov E t1).1.1 (sp_come kept q s ov E t1).1.2.1 (sp_come kept q s ov E t1).1.2.2 E t2).1.2.1 (sp_come kept (sp_come kept q s ov E t1).1.1 (sp_come kept q s ov E t1).1.2.1 (sp_come kept q s ov E t1).1.2.2 E t2).1.2.2 E → M4 (f + 5) k = nI k ∧ ∀ M5, M5 = mc_put (mc_put M4 (f + 7) k r1) (f + 8) k r2 → Q none M5 L := fun n2 e1 ho => by
      rcases htg with htg | ⟨⟨t1, ht1, ht1e⟩, htg2⟩
      · exact absurd htg n2
      rcases htg2 with htg2 | ⟨t2, ht2, ht2e⟩
      · rw [e1] at htg2
        exact absurd htg2 (by decide)
      refine ⟨t1, t2, ht1, ht2, ht1e, ht2e, fun M1 z1 M2 z2 => ?_⟩
      obtain ⟨p1, p2, p3, p4, p5, pf1⟩ := rj_mk (nd := jk) (E := E) hf (by omega) hr h5 hs.2.2.2.2.2 rfl z1 z2
      refine ⟨?_, mxs_low hs hf30 p3, fun r1 M3 hr1 hf3 hs3 => ⟨?_, fun r2 M4 hr2 hf4 hs4 => ?_⟩⟩
      · rw [ej, p3 14 (by omega), mfr_low hf hM (Or.inl (by decide))]
        exact hone.trans ht1e
      · rw [ej, hf3 15 (by decide) (by decide) (by decide) (by decide), p3 15 (by omega), mfr_low hf hM (Or.inl (by decide))]
        exact hoth.trans ht2e
      · have p6 := rj_fr hf (rj_fr hf p1 hf3) hf4
        refine ⟨p6.2.1, fun M5 z5 => ?_⟩
        obtain ⟨o1, o2, o3, o4, o5, of1⟩ := rj_tg p6 z5
        obtain ⟨o6, o7⟩ := rjmp_of o1 hjk
        have hj2 : sp_mixj T S kept q s ov E B = ((sp_come kept (sp_come kept q s ov E t1).1.1 (sp_come kept q s ov E t1).1.2.1 (sp_come kept q s ov E t1).1.2.2 E t2).1, (1, (jk, fl_fr T S E 0 jk), (sp_come kept q s ov E t1).2, (sp_come kept (sp_come kept q s ov E t1).1.1 (sp_come kept q s ov E t1).1.2.1 (sp_come kept q s ov E t1).1.2.2 E t2).2)) := by
          unfold sp_mixj
          rw [if_neg n2, if_pos ⟨e1, by rw [jn1]; exact ho⟩, ht1e, ht2e, nI_clamp (by omega), nI_clamp (by omega), jn1]
        rw [hj2] at h
        refine h M5 (mfr_tr hM (mfr_tr p2 (mfr_tr (mfr_fr hf3) (mfr_tr (mfr_fr hf4) o2)))) (of1.trans ((hf4 _ (by omega) (by omega) (by omega) (by omega)).trans ((hf3 _ (by omega) (by omega) (by omega) (by omega)).trans pf1))) (mxs_low hs4 hf30 o5) o6 ?_
        rw [o3, o4, hr1, hr2] at o7
        exact o7
    rcases hy with ⟨rfl, hy⟩ | ⟨rfl, hy⟩
    · have nn : ¬ (B.2.2.1 = 1 ∧ ¬ (T 4 B.2.2.2.1.1 &&& (S ^^^ (-1))) = 0) := fun w => w.2 (by rw [jn1]; exact hy)
      rcases hf with rfl | rfl <;>
      exact hK.1 [155] 60 64 _ _ _ _ _ (cF_jumpStep hfl (by omega) rfl (by omega) h5 (fun st hst => cF_freeze hfl (by omega) hst (by omega) (fun M1 z1 => ⟨fun z => ⟨fun _ => go155 K hK z nn M1 z1 _, fun _ => ⟨fun _ => go155 K hK z nn M1 z1 _, fun w => absurd w (by decide)⟩⟩, fun z => cF_setJump hfl (by omega) rfl (by omega) (m5 M1 z1) (by omega) (fun M2 z2 => ⟨Nat.le_refl _, ret z M1 z1 M2 z2⟩)⟩)))
    · have nn : ¬ B.2.2.1 = 1 → ¬ (B.2.2.1 = 1 ∧ ¬ (T 4 B.2.2.2.1.1 &&& (S ^^^ (-1))) = 0) := fun z w => z w.1
      rcases hf with rfl | rfl <;>
      exact hK.1 [155] 80 64 _ _ _ _ _ (cF_jumpStep hfl (by omega) rfl (by omega) h5 (fun st hst => cF_freeze hfl (by omega) hst (by omega) (fun M1 z1 => ⟨fun z => ⟨fun w => go155 K hK z (nn w) M1 z1 _, fun w => ⟨fun u => absurd rfl u, fun _ => (opn z w hy).elim (fun t1 u => u.elim (fun t2 o => cF_setJump hfl (by omega) rfl (by omega) (m5 M1 z1) (by omega) (fun M2 z2 => ⟨vj, cX_comeTo (o.2.2.2.2 M1 z1 M2 z2).1 o.1 (o.2.2.2.2 M1 z1 M2 z2).2.1 (by omega) (fun r1 M3 hr1 hf3 hs3 => ⟨vj, cX_comeTo ((o.2.2.2.2 M1 z1 M2 z2).2.2 r1 M3 hr1 hf3 hs3).1 o.2.1 hs3 (by omega) (fun r2 M4 hr2 hf4 hs4 => cF_setTargets hfl (by omega) rfl (by omega) (((o.2.2.2.2 M1 z1 M2 z2).2.2 r1 M3 hr1 hf3 hs3).2 r2 M4 hr2 hf4 hs4).1 (by omega) (fun M5 z5 => ⟨Nat.le_refl _, (((o.2.2.2.2 M1 z1 M2 z2).2.2 r1 M3 hr1 hf3 hs3).2 r2 M4 hr2 hf4 hs4).2 M5 z5⟩))⟩)⟩)))⟩⟩, fun z => cF_setJump hfl (by omega) rfl (by omega) (m5 M1 z1) (by omega) (fun M2 z2 => ⟨Nat.le_refl _, ret z M1 z1 M2 z2⟩)⟩)))
  have t4 : M 6 (nI jk).toNatClampNeg = T 4 jk := by
    rw [nI_clamp (by omega)]
    exact hN'.2 4 (by decide) jk hjk
  have vjk : vp_in (nI jk) 151 := vp_in_nI (by omega) (by decide)
  have cnd : (M 6 (nI jk).toNatClampNeg &&& (M f 1 ^^^ (-1))) = (T 4 jk &&& (S ^^^ (-1))) := by rw [t4, hS']
  have go40 : ∀ (K : mc_K), mc_closed true tab0 n 0 none (shX_mixJump g d) Q (fun _ _ _ => False) tbX_mixJump K → K 40 [some (.ref 25), some (.ref 1), some (.ref 7), some (.ref f), some (.int (nI k)), some (.int (nI b)), some (.int (nI j)), some (.int B.2.2.1), some (.int (nI jk)), none, none, none] [] n M L := by
    intro K hK
    have g0 := go64 K hK 0
    have g1 := go64 K hK 1
    rcases hf with rfl | rfl <;>
    exact hK.1 [64] 40 40 _ _ _ _ _ ⟨vjk, fun z => g0 (Or.inr ⟨rfl, fun w => z (cnd.trans w)⟩), fun z => g1 (Or.inl ⟨rfl, cnd.symm.trans z⟩)⟩
  have vst : ∀ st, st = nI (j * 11 + 10) → vp_in st 176 ∧ M 17 st.toNatClampNeg = nI jk := fun st hst => by
    rw [hst, nI_clamp (by omega)]
    exact ⟨vp_in_nI (by omega) (by decide), r17⟩
  have go27 : ∀ (K : mc_K), mc_closed true tab0 n 0 none (shX_mixJump g d) Q (fun _ _ _ => False) tbX_mixJump K → K 27 [some (.ref 25), some (.ref 1), some (.ref 7), some (.ref f), some (.int (nI k)), some (.int (nI b)), some (.int (nI j)), some (.int B.2.2.1), none, none, none, none] [] n M L := by
    intro K hK
    have g1 : ∀ st, st = nI (j * 11 + 10) → K 40 [some (.ref 25), some (.ref 1), some (.ref 7), some (.ref f), some (.int (nI k)), some (.int (nI b)), some (.int (nI j)), some (.int B.2.2.1), some (.int (M 17 st.toNatClampNeg)), none, none, none] [] n M L := fun st hst => by
      rw [(vst st hst).2]
      exact go40 K hK
    exact hK.1 [40] 40 27 _ _ _ _ _ (cF_jumpStep (f := 7) (w := 16) (Or.inl ⟨rfl, rfl⟩) (by omega) rfl hb r12 (fun st hst => ⟨(vst st hst).1, g1 st hst⟩))
  have hqk := hs.2.2.2.1 k hk
  have bb : M 26 (nI k).toNatClampNeg = nI b := by rw [ek, hqk.1, hqb]
  have jj : M 12 (M 26 (nI k).toNatClampNeg).toNatClampNeg = nI j := by rw [bb, eb, r12]
  have kk : M 13 (M 12 (M 26 (nI k).toNatClampNeg).toNatClampNeg).toNatClampNeg = B.2.2.1 := by rw [jj, ej, r13]
  have g0 : ∀ (K : mc_K), mc_closed true tab0 n 0 none (shX_mixJump g d) Q (fun _ _ _ => False) tbX_mixJump K → K 27 [some (.ref 25), some (.ref 1), some (.ref 7), some (.ref f), some (.int (nI k)), some (.int (M 26 (nI k).toNatClampNeg)), some (.int (M 12 (M 26 (nI k).toNatClampNeg).toNatClampNeg)), some (.int (M 13 (M 12 (M 26 (nI k).toNatClampNeg).toNatClampNeg).toNatClampNeg)), none, none, none, none] [] n M L := fun K hK => by
    rw [kk, jj, bb]
    exact go27 K hK
  exact inX_mixJump (Nat.le_of_ble_eq_true rfl) (fun K hK => hK.1 [27] 40 0 _ _ _ _ _ ⟨vk, by rw [bb]; exact vb, by rw [jj]; exact vj, g0 K hK⟩)
end MW
end
section
/-! Mixer.work -/
def sp_blk (T : Nat → Nat → Int32) (S : Int32) (kept : Nat → Int32) (P : Nat → Blk) (st : Stt × Nat × Bool) (k : Nat) : (Stt × Nat × Bool) × Blk :=
  ((sp_mixj T S kept st.1 st.2.1 st.2.2 (sp_mixa T S (P (st.1 k).1).2.1 (st.1 k).2).1 (P (st.1 k).1)).1, (nI (st.1 k).1, (sp_mixa T S (P (st.1 k).1).2.1 (st.1 k).2).2, (sp_mixj T S kept st.1 st.2.1 st.2.2 (sp_mixa T S (P (st.1 k).1).2.1 (st.1 k).2).1 (P (st.1 k).1)).2))
def sp_mx (T : Nat → Nat → Int32) (S : Int32) (kept : Nat → Int32) (P : Nat → Blk) : Nat → Nat → (Stt × Nat × Bool) → (Nat → Blk) → (Stt × Nat × Bool) × (Nat → Blk)
  | 0, _, st, R => (st, R)
  | fu + 1, k, st, R => if k < st.2.1 ∧ st.2.2 = false then sp_mx T S kept P fu (k + 1) (sp_blk T S kept P st k).1 (fun i => if i = k then (sp_blk T S kept P st k).2 else R i) else (st, R)
def rdone (T : Nat → Nat → Int32) (m : Nat) (S : Int32) (M : mc_M) (f k : Nat) (B : Blk) : Prop := M (f + 1) k = B.1 ∧ rblk T m S M f k B.2.1 ∧ rjmp T m S M f k B.2.2
theorem rjmp_to {T : Nat → Nat → Int32} {m : Nat} {S : Int32} {M M' : mc_M} {f k b : Nat} {J : Jmp} (h : rjmp T m S M f b J) (hM : mfr f k M M') (hf : 30 < f) (hbk : b ≠ k) : rjmp T m S M' f b J := by
  obtain ⟨h1, h2, ⟨nd, h3, h4, h5⟩, h6, h7⟩ := h
  have e5 : M' (f + 5) b = M (f + 5) b := hM _ _ (by unfold tch; omega)
  have e6 : M' (f + 6) b = M (f + 6) b := hM _ _ (by unfold tch; omega)
  have e7 : M' (f + 7) b = M (f + 7) b := hM _ _ (by unfold tch; omega)
  have e8 : M' (f + 8) b = M (f + 8) b := hM _ _ (by unfold tch; omega)
  have e10 : M' (f + 10) (b * 11 + 10) = M (f + 10) (b * 11 + 10) := hM _ _ (by unfold tch; omega)
  have e12 : ∀ v, v < 8 → M' (f + 12) ((b * 11 + 10) * 8 + v) = M (f + 12) ((b * 11 + 10) * 8 + v) := fun v hv => hM _ _ (by unfold tch; omega)
  refine ⟨by rw [e5]; exact h1, by rw [e6]; exact h2, ⟨nd, h3, by rw [e10]; exact h4, ?_⟩, by rw [e7]; exact h6, by rw [e8]; exact h7⟩
  rw [h5]
  congr 1
  funext v
  unfold fl_fr
  by_cases hv : v < 8 ∧ fl_bit S v = true ∧ fl_bit (T 4 nd) v = true
  · rw [if_pos hv, if_pos hv, e12 v hv.1]
  · rw [if_neg hv, if_neg hv]
theorem rdone_to {T : Nat → Nat → Int32} {m : Nat} {S : Int32} {M M' : mc_M} {f k b : Nat} {B : Blk} (h : rdone T m S M f b B) (hM : mfr f k M M') (hf : 30 < f) (hbk : b ≠ k) : rdone T m S M' f b B :=
  ⟨by rw [hM (f + 1) b (by unfold tch; omega)]; exact h.1, rblk_to h.2.1 hM hf hbk, rjmp_to h.2.2 hM hf hbk⟩
theorem fl_empty_mk {T : Nat → Nat → Int32} {m : Nat} {S : Int32} {M M' : mc_M} {f k : Nat} {o : Int32} (h : M' = fl_empty M f k o) : rblk T m S M' f k [] ∧ M' (f + 5) k = nI k ∧ M' (f + 7) k = -1 ∧ M' (f + 8) k = -1 ∧ M' (f + 1) k = o ∧ mfr f k M M' ∧ ∀ c, c < f → M' c = M c := by
  unfold fl_empty at h
  have a : ∀ c x, M' c x = if c = f + 8 ∧ x = k then -1 else if c = f + 7 ∧ x = k then -1 else if c = f + 10 ∧ x = k * 11 + 10 then 150 else if c = f + 6 ∧ x = k then 2 else if c = f + 5 ∧ x = k then nI k else if c = f + 2 ∧ x = k then 0 else if c = f + 1 ∧ x = k then o else M c x := fun c x => by
    rw [h]
    simp only [mc_put_at]
  refine ⟨⟨?_, by simp, fun z => absurd z (by simp), fun i hi => absurd hi (by simp), fun i hi => absurd hi (by simp)⟩, ?_, ?_, ?_, ?_, fun c x z => ?_, fun c hc => ?_⟩
  · rw [a, if_neg (by omega), if_neg (by omega), if_neg (by omega), if_neg (by omega), if_neg (by omega), if_pos ⟨rfl, rfl⟩]
    rfl
  · rw [a, if_neg (by omega), if_neg (by omega), if_neg (by omega), if_neg (by omega), if_pos ⟨rfl, rfl⟩]
  · rw [a, if_neg (by omega), if_pos ⟨rfl, rfl⟩]
  · rw [a, if_pos ⟨rfl, rfl⟩]
  · rw [a, if_neg (by omega), if_neg (by omega), if_neg (by omega), if_neg (by omega), if_neg (by omega), if_neg (by omega), if_pos ⟨rfl, rfl⟩]
  · unfold tch at z
    rw [a, if_neg (by omega), if_neg (by omega), if_neg (by omega), if_neg (by omega), if_neg (by omega), if_neg (by omega), if_neg (by omega)]
  · funext x
    rw [a, if_neg (by omega), if_neg (by omega), if_neg (by omega), if_neg (by omega), if_neg (by omega), if_neg (by omega), if_neg (by omega)]
/-- what Mixer.work leaves as it was -/
def wfr (f : Nat) (M M' : mc_M) : Prop := ∀ c, (c < 25 ∨ 30 < c) → (c < f ∨ f + 12 < c) → M' c = M c
theorem wfr_mfr {f k : Nat} {M M' M'' : mc_M} (hf : 30 < f) (h : wfr f M M') (h' : mfr f k M' M'') : wfr f M M'' := fun c h1 h2 => by
  rw [← h c h1 h2]
  funext l
  exact h' c l (by unfold tch; omega)
theorem sp_mixj_lt {T : Nat → Nat → Int32} {S : Int32} {kept : Nat → Int32} {q : Stt} {s : Nat} {ov : Bool} {E : Nat → Int32} {B : Blk} : ∀ k, k < s → (sp_mixj T S kept q s ov E B).1.1 k = q k := by
  have come : ∀ (q : Stt) (s : Nat) (ov : Bool) (b : Nat), s ≤ (sp_come kept q s ov E b).1.2.1 ∧ ∀ k, k < s → (sp_come kept q s ov E b).1.1 k = q k := by
    intro q s ov b
    unfold sp_come
    split
    · exact ⟨Nat.le_refl _, fun _ _ => rfl⟩
    · split
      · exact ⟨Nat.le_succ _, fun k hk => if_neg (by omega)⟩
      · exact ⟨Nat.le_refl _, fun _ _ => rfl⟩
  intro k hk
  unfold sp_mixj
  split
  · rfl
  · split
    · show (sp_come kept _ _ _ E _).1.1 k = q k
      rw [(come _ _ _ _).2 k (Nat.lt_of_lt_of_le hk (come q s ov _).1), (come q s ov _).2 k hk]
    · exact (come q s ov _).2 k hk
section WK
variable {g : mc_G} {d n f : Nat} {M : mc_M} {L : mc_L} {Q : Option Value → mc_M → mc_L → Prop} {T : Nat → Nat → Int32} {m : Nat} {P : Nat → Blk}
theorem cX_work (hf : rs_is f) (hT : nt_ok T m) (hN : nt_C M T m) {S : Int32} (hS : M f 1 = S) (hP : prg T m M P) (hP10 : ∀ b, b < 16 → (P b).2.1.length ≤ 10) (htg : tg_ok P 16) {kept : Nat → Int32} (hkept : ∀ b, b < 16 → S &&& M 22 b = kept b) {R0 : Nat → Blk} {r : (Stt × Nat × Bool) × (Nat → Blk)} (hr : r = sp_mx T S kept P 100 0 (sp_come kept (fun _ => (0, fun _ => 0)) 0 false (M 20) 0).1 R0) (hd : 35 ≤ d)
    (h1 : r.1.2.2 = false → ∀ M', wfr f M M' → M' f 1 = S → M' f 0 = nI r.1.2.1 → r.1.2.1 ≤ 100 → (∀ i, i < r.1.2.1 → rdone T m S M' f i (r.2 i)) → Q (some (.int 1)) M' L) (h0 : r.1.2.2 = true → ∀ M', wfr f M M' → Q (some (.int 0)) M' L) : ctX_work g d [.ref 25, .ref 1, .ref 7, .ref 22, .ref 20, .ref f] n M L Q := by
  obtain ⟨d, rfl⟩ := Nat.exists_eq_add_of_le' (show 1 ≤ d by omega)
  have hm150 := hT.1
  have hf30 : 30 < f := by rcases hf with rfl | rfl <;> decide
  have hfl : fl_is f 100 := by
    rcases hf with rfl | rfl
    · exact Or.inr (Or.inl ⟨rfl, rfl⟩)
    · exact Or.inr (Or.inr ⟨rfl, rfl⟩)
  have fin : ∀ (K : mc_K), mc_closed true tab0 n 0 (some .boolean) (shX_work g d) Q (fun _ _ _ => False) tbX_work K → ∀ (E : Nat → Int32) (M1 : mc_M), wfr f M M1 → M1 f 1 = S → mxs M1 kept r.1.1 r.1.2.1 r.1.2.2 E → (r.1.2.2 = false → ∀ i, i < r.1.2.1 → rdone T m S M1 f i (r.2 i)) → ∀ i, K 147 [some (.ref 25), some (.ref 1), some (.ref 7), some (.ref 22), some (.ref 20), some (.ref f), some (.int i)] [] n M1 L := by
    intro K hK E M1 hw hS1 hs hR i
    have a : ∀ c x, c ≠ f → mc_put M1 f 0 (M1 25 5) c x = M1 c x := fun c x hc => by rw [mc_put_at, if_neg (fun y => hc y.1)]
    have w2 : wfr f M (mc_put M1 f 0 (M1 25 5)) := fun c b1 b2 => by
      funext x
      rw [a c x (by omega), hw c b1 b2]
    have q1 : r.1.2.2 = false → Q (some (.int 1)) (mc_put M1 f 0 (M1 25 5)) L := fun z => by
      refine h1 z _ w2 (by rw [mc_put_at, if_neg (by omega), hS1]) (by rw [mc_put_at, if_pos ⟨rfl, rfl⟩, hs.2.1]) hs.1 (fun i hi => ?_)
      have e : ∀ y, mc_put M1 f 0 (M1 25 5) (f + (y + 1)) = M1 (f + (y + 1)) := fun y => funext fun x => a _ x (by omega)
      have t := hR z i hi
      unfold rdone rjmp rblk fl_sv fl_as at t ⊢
      rw [e 0, e 1, e 2, e 3, e 4, e 5, e 6, e 7, e 8, e 9, e 10, e 11]
      exact t
    have o6 : mc_put M1 f 0 (M1 25 5) 25 6 = bI r.1.2.2 := by rw [mc_put_at, if_neg (by omega), hs.2.2.1]
    cases hov : r.1.2.2 with
    | false =>
      rw [hov] at o6
      have q1' := q1 hov
      rcases hf with rfl | rfl <;>
      exact hK.1 [] 30 147 _ _ _ _ _ ⟨fun z => absurd o6 z, fun _ => ⟨Or.inr rfl, Nat.le_refl _, q1'⟩⟩
    | true =>
      rw [hov] at o6
      have q0 := h0 hov _ w2
      rcases hf with rfl | rfl <;>
      exact hK.1 [] 30 147 _ _ _ _ _ ⟨fun _ => ⟨Or.inl rfl, Nat.le_refl _, q0⟩, fun z => absurd (o6.symm.trans z) (by decide)⟩
  have lp : ∀ (K : mc_K), mc_closed true tab0 n 0 (some .boolean) (shX_work g d) Q (fun _ _ _ => False) tbX_work K → ∀ (fu k : Nat) (i : Int32) (st : Stt × Nat × Bool) (R : Nat → Blk) (E : Nat → Int32) (M1 : mc_M), fu + k = 100 → i = nI k → wfr f M M1 → M1 f 1 = S → mxs M1 kept st.1 st.2.1 st.2.2 E → (∀ i, i < k → rdone T m S M1 f i (R i)) → r = sp_mx T S kept P fu k st R → K 65 [some (.ref 25), some (.ref 1), some (.ref 7), some (.ref 22), some (.ref 20), some (.ref f), some (.int i)] [] n M1 L := by
    intro K hK fu
    induction fu with
    | zero =>
      intro k i st R E M1 hk hi hw hS1 hs hR hr
      subst hi
      have hr' : r = (st, R) := hr
      have f1 := fin K hK E M1 hw hS1 (by rw [hr']; exact hs) (fun _ i hi => by rw [hr'] at hi ⊢; exact hR i (by have := hs.1; have hi' : i < st.2.1 := hi; omega)) (nI k)
      have c1 : M1 25 5 ≤ nI k := by rw [hs.2.1]; exact nI_le (by have := hs.1; omega) (by omega)
      rcases hf with rfl | rfl <;>
      exact hK.1 [147] 30 65 _ _ _ _ _ ⟨fun _ => f1, fun z => absurd c1 z⟩
    | succ fu ih =>
      intro k i st R E M1 hk hi hw hS1 hs hR hr
      subst hi
      have hs100 := hs.1
      by_cases hcond : k < st.2.1 ∧ st.2.2 = false
      · unfold sp_mx at hr
        rw [if_pos hcond] at hr
        obtain ⟨hks, hov⟩ := hcond
        obtain ⟨b1, b2, b3⟩ := hs.2.2.2.1 k hks
        have ek : (nI k).toNatClampNeg = k := nI_clamp (by omega)
        have vk : vp_in (nI k) 100 := vp_in_nI (by omega) (by decide)
        have ek8 : (nI k * 8).toNatClampNeg = k * 8 := by
          rw [show nI k * 8 = nI (k * 8) from nI_mul k 8, nI_clamp (by omega)]
        have nk8 : ¬ nI k * 8 < 0 := by
          rw [show nI k * 8 = nI (k * 8) from nI_mul k 8]
          exact nI_pos (by omega)
        have l800 : (nI k * 8).toNatClampNeg + (8 : Int32).toNatClampNeg ≤ 800 := by
          rw [ek8]
          show k * 8 + 8 ≤ 800
          omega
        have lowM : ∀ c, c < 25 → M1 c = M c := fun c hc => hw c (Or.inl hc) (Or.inl (by omega))
        have hN1 : nt_C M1 T m := nt_C_to hN (fun c a1 a2 => lowM c (by omega))
        have hP1 : prg T m M1 P := prg_to hP (fun c a1 a2 => lowM c (by omega))
        obtain ⟨ss, j, hB⟩ := hP1.2.2 (st.1 k).1 b2
        have hss : ss.length ≤ 10 := by
          have := hP10 (st.1 k).1 b2
          rw [hB.2.2.2.2.2.1, List.length_map] at this
          exact this
        have bo : M1 26 (nI k).toNatClampNeg = nI (st.1 k).1 := by rw [ek, b1]
        have cs : ¬ M1 25 5 ≤ nI k := by rw [hs.2.1]; exact nI_ge hks (by omega)
        have c100 : ¬ (100 : Int32) ≤ nI k := nI_ge (b := 100) (by omega) (by decide)
        have ov0 : M1 25 6 = 0 := by rw [hs.2.2.1, hov]; rfl
        have mk : ∀ M2, M2 = fl_empty M1 f k (M1 26 (nI k).toNatClampNeg) → ∀ M3, M3 = mc_set M2 29 (va_cpy (M2 27) (M2 29) (nI k * 8).toNatClampNeg (0 : Int32).toNatClampNeg (8 : Int32).toNatClampNeg) → mfr f k M1 M3 ∧ mxs M3 kept st.1 st.2.1 st.2.2 (st.1 k).2 ∧ rblk T m S M3 f k [] ∧ M3 (f + 5) k = nI k ∧ M3 (f + 7) k = -1 ∧ M3 (f + 8) k = -1 ∧ M3 (f + 1) k = nI (st.1 k).1 := fun M2 z2 M3 z3 => by
          obtain ⟨e1, e2, e3, e4, e5, e6, e7⟩ := fl_empty_mk (T := T) (m := m) (S := S) z2
          have w3 : ∀ c, c ≠ 29 → M3 c = M2 c := fun c hc => by rw [z3, mc_set_n hc]
          have rowf : ∀ i, M3 (f + i) = M2 (f + i) := fun i => w3 _ (by omega)
          refine ⟨fun c x y => ?_, ⟨hs100, ?_, ?_, fun u hu => ?_, fun u hu => ?_, fun u hu => ?_⟩, ?_, ?_, ?_, ?_, ?_⟩
          · rw [w3 c (fun y' => y (by unfold tch; omega))]
            exact e6 c x y
          · rw [w3 25 (by decide), e7 25 (by omega), hs.2.1]
          · rw [w3 25 (by decide), e7 25 (by omega), hs.2.2.1]
          · rw [w3 26 (by decide), w3 27 (by decide), e7 26 (by omega), e7 27 (by omega)]
            exact hs.2.2.2.1 u hu
          · rw [w3 28 (by decide), e7 28 (by omega), hs.2.2.2.2.1 u hu]
          · rw [z3, mc_set_s, ek8, e7 27 (by omega)]
            show (if 0 ≤ u ∧ u < 0 + 8 then M1 27 (k * 8 + (u - 0)) else _) = _
            rw [if_pos (by omega), Nat.sub_zero, b3 u hu]
          · unfold rblk fl_sv fl_as at e1 ⊢
            rw [rowf 2, rowf 3, rowf 4, rowf 9, rowf 10, rowf 11, rowf 12]
            exact e1
          · rw [rowf 5, e2]
          · rw [rowf 7, e3]
          · rw [rowf 8, e4]
          · rw [rowf 1, e5, bo]
        have nxt : ∀ M4 M5, mfr f k M1 M4 → M4 (f + 1) k = nI (st.1 k).1 → mfr f k M1 M5 → M5 (f + 1) k = nI (st.1 k).1 → mxs M5 kept (sp_blk T S kept P st k).1.1 (sp_blk T S kept P st k).1.2.1 (sp_blk T S kept P st k).1.2.2 (sp_mixa T S (P (st.1 k).1).2.1 (st.1 k).2).1 → rblk T m S M5 f k (sp_blk T S kept P st k).2.2.1 → rjmp T m S M5 f k (sp_blk T S kept P st k).2.2.2 → K 65 [some (.ref 25), some (.ref 1), some (.ref 7), some (.ref 22), some (.ref 20), some (.ref f), some (.int (nI k + 1))] [] n M5 L := fun M4 M5 _ _ y5 o5 s5 rb rj5 => by
          refine ih (k + 1) _ _ _ _ M5 (by omega) (nI_1 k) (wfr_mfr hf30 hw y5) (by rw [mfr_low hf y5 (Or.inr (Or.inr rfl)), hS1]) s5 (fun i hi => ?_) hr
          show rdone T m S M5 f i (if i = k then _ else _)
          by_cases hik : i = k
          · rw [if_pos hik, hik]
            exact ⟨o5, rb, rj5⟩
          · rw [if_neg hik]
            exact rdone_to (hR i (by omega)) y5 hf30 hik
        have cJ : ∀ M3, mfr f k M1 M3 → rblk T m S M3 f k [] → M3 (f + 5) k = nI k → M3 (f + 7) k = -1 → M3 (f + 8) k = -1 → M3 (f + 1) k = nI (st.1 k).1 → ∀ M4, mfr f k M1 M4 → kp5 f M3 M4 → M4 (f + 5) k = nI k ∧ M4 (f + 7) k = -1 ∧ M4 (f + 8) k = -1 ∧ M4 (f + 1) k = nI (st.1 k).1 := fun M3 y1 y3 y4 y5 y6 y7 M4 z1 z2 => by
          rw [z2.1, z2.2.1, z2.2.2.1, z2.2.2.2]
          exact ⟨y4, y5, y6, y7⟩
        have htb := htg (st.1 k).1 b2
        rcases hf with rfl | rfl <;>
        exact hK.1 [65] 80 65 _ _ _ _ _ ⟨fun z => absurd z cs, fun _ => ⟨fun z => absurd z c100, fun _ => ⟨fun z => absurd ov0 z, fun _ => ⟨vk, cF_makeEmpty hfl (by omega) rfl (by omega) (fun M2 z2 => ⟨nk8, by decide, by decide, l800, by decide, cX_mixAssignments (by first | exact Or.inl rfl | exact Or.inr rfl) hT hN1 hS1 hB b2 hss hks rfl rfl (mk M2 z2 _ rfl).1 (mk M2 z2 _ rfl).2.1 (mk M2 z2 _ rfl).2.2.1 (by omega) (fun M4 y1 y2 y3 y4 => cX_mixJump (by first | exact Or.inl rfl | exact Or.inr rfl) hT hN1 hS1 hB b2 htb hks rfl rfl y1 y3 y4 (cJ _ (mk M2 z2 _ rfl).1 (mk M2 z2 _ rfl).2.2.1 (mk M2 z2 _ rfl).2.2.2.1 (mk M2 z2 _ rfl).2.2.2.2.1 (mk M2 z2 _ rfl).2.2.2.2.2.1 (mk M2 z2 _ rfl).2.2.2.2.2.2 M4 y1 y2).1 (cJ _ (mk M2 z2 _ rfl).1 (mk M2 z2 _ rfl).2.2.1 (mk M2 z2 _ rfl).2.2.2.1 (mk M2 z2 _ rfl).2.2.2.2.1 (mk M2 z2 _ rfl).2.2.2.2.2.1 (mk M2 z2 _ rfl).2.2.2.2.2.2 M4 y1 y2).2.1 (cJ _ (mk M2 z2 _ rfl).1 (mk M2 z2 _ rfl).2.2.1 (mk M2 z2 _ rfl).2.2.2.1 (mk M2 z2 _ rfl).2.2.2.2.1 (mk M2 z2 _ rfl).2.2.2.2.2.1 (mk M2 z2 _ rfl).2.2.2.2.2.2 M4 y1 y2).2.2.1 (by omega) (fun M5 x1 x2 x3 x4 x5 => nxt M4 M5 y1 (cJ _ (mk M2 z2 _ rfl).1 (mk M2 z2 _ rfl).2.2.1 (mk M2 z2 _ rfl).2.2.2.1 (mk M2 z2 _ rfl).2.2.2.2.1 (mk M2 z2 _ rfl).2.2.2.2.2.1 (mk M2 z2 _ rfl).2.2.2.2.2.2 M4 y1 y2).2.2.2 x1 ((congrFun x2 k).trans (cJ _ (mk M2 z2 _ rfl).1 (mk M2 z2 _ rfl).2.2.1 (mk M2 z2 _ rfl).2.2.2.1 (mk M2 z2 _ rfl).2.2.2.2.1 (mk M2 z2 _ rfl).2.2.2.2.2.1 (mk M2 z2 _ rfl).2.2.2.2.2.2 M4 y1 y2).2.2.2) x3 x4 x5))⟩)⟩⟩⟩⟩
      · unfold sp_mx at hr
        rw [if_neg hcond] at hr
        have f1 := fun z => fin K hK E M1 hw hS1 (by rw [hr]; exact hs) z (nI k)
        have f2 : (st.2.2 = false → ¬ k < st.2.1) := fun z y => hcond ⟨y, z⟩
        have f3 := f1 (fun z i hi => by
          rw [hr] at z hi ⊢
          exact hR i (by have := f2 z; have hi' : i < st.2.1 := hi; omega))
        have z9 : ¬ M1 25 5 ≤ nI k → ¬ M1 25 6 = 0 := fun z y => hcond (by
          rw [hs.2.1] at z
          refine ⟨Nat.lt_of_not_le (fun w => z (nI_le w (by omega))), ?_⟩
          rw [hs.2.2.1] at y
          cases hov : st.2.2 with
          | false => rfl
          | true =>
            rw [hov] at y
            exact absurd y (by decide))
        rcases hf with rfl | rfl <;>
        exact hK.1 [147] 30 65 _ _ _ _ _ ⟨fun _ => f3, fun z => ⟨fun _ => f3, fun _ => ⟨fun _ => f3, fun y => absurd y (z9 z)⟩⟩⟩
  have go33 : ∀ (K : mc_K), mc_closed true tab0 n 0 (some .boolean) (shX_work g d) Q (fun _ _ _ => False) tbX_work K → ∀ M1, M1 = mc_set M 28 (fun b => if b < 16 then S &&& M 22 b else M 28 b) → ∀ i, K 33 [some (.ref 25), some (.ref 1), some (.ref 7), some (.ref 22), some (.ref 20), some (.ref f), some (.int i)] [] n M1 L := by
    intro K hK M1 z1 i
    have a1 : ∀ c, c ≠ 28 → M1 c = M c := fun c hc => by rw [z1, mc_set_n hc]
    have ini : ∀ M2, M2 = mc_set M1 29 (va_cpy (M1 20) (M1 29) (0 : Int32).toNatClampNeg (0 : Int32).toNatClampNeg (8 : Int32).toNatClampNeg) → mxs (mc_put (mc_put M2 25 5 0) 25 6 0) kept (fun _ => (0, fun _ => 0)) 0 false (M 20) ∧ wfr f M (mc_put (mc_put M2 25 5 0) 25 6 0) ∧ (mc_put (mc_put M2 25 5 0) 25 6 0) f 1 = S := fun M2 z2 => by
      have a2 : ∀ c, c ≠ 29 → M2 c = M1 c := fun c hc => by rw [z2, mc_set_n hc]
      have a3 : ∀ c x, c ≠ 25 → (mc_put (mc_put M2 25 5 0) 25 6 0) c x = M2 c x := fun c x hc => by rw [mc_put_at, if_neg (fun y => hc y.1), mc_put_at, if_neg (fun y => hc y.1)]
      refine ⟨⟨by omega, ?_, ?_, fun u hu => absurd hu (Nat.not_lt_zero _), fun u hu => ?_, fun u hu => ?_⟩, fun c b1 b2 => ?_, ?_⟩
      · rw [mc_put_at, if_neg (by decide), mc_put_at, if_pos ⟨rfl, rfl⟩]
        rfl
      · rw [mc_put_at, if_pos ⟨rfl, rfl⟩]
        rfl
      · rw [a3 28 u (by decide), a2 28 (by decide), z1, mc_set_s, if_pos hu, hkept u hu]
      · rw [a3 29 u (by decide), z2, mc_set_s, a1 20 (by decide)]
        show (if 0 ≤ u ∧ u < 0 + 8 then M 20 (0 + (u - 0)) else _) = _
        rw [if_pos (by omega), Nat.zero_add, Nat.sub_zero]
      · funext x
        rw [a3 c x (by omega), a2 c (by omega), a1 c (by omega)]
      · rw [a3 f 1 (by omega), a2 f (by omega), a1 f (by omega), hS]
    have nx : ∀ M2, M2 = mc_set M1 29 (va_cpy (M1 20) (M1 29) (0 : Int32).toNatClampNeg (0 : Int32).toNatClampNeg (8 : Int32).toNatClampNeg) → ∀ M5, mx_fr (mc_put (mc_put M2 25 5 0) 25 6 0) M5 → mxs M5 kept (sp_come kept (fun _ => (0, fun _ => 0)) 0 false (M 20) 0).1.1 (sp_come kept (fun _ => (0, fun _ => 0)) 0 false (M 20) 0).1.2.1 (sp_come kept (fun _ => (0, fun _ => 0)) 0 false (M 20) 0).1.2.2 (M 20) → K 65 [some (.ref 25), some (.ref 1), some (.ref 7), some (.ref 22), some (.ref 20), some (.ref f), some (.int 0)] [] n M5 L := fun M2 z2 M5 hfr hs5 => by
      obtain ⟨-, i2, i3⟩ := ini M2 z2
      refine lp K hK 100 0 0 _ R0 (M 20) M5 rfl rfl (fun c b1 b2 => ?_) ?_ hs5 (fun i hi => absurd hi (Nat.not_lt_zero _)) hr
      · rw [hfr c (by omega) (by omega) (by omega) (by omega)]
        exact i2 c b1 b2
      · rw [hfr f (by omega) (by omega) (by omega) (by omega)]
        exact i3
    rcases hf with rfl | rfl <;>
    exact hK.1 [65] 60 33 _ _ _ _ _ ⟨by decide, by decide, by decide, by decide, by decide, Or.inl rfl, cX_comeTo rfl (by decide) (ini _ rfl).1 (by omega) (fun r1 M5 _ hfr hs5 => nx _ rfl M5 hfr hs5)⟩
  have l0 : ∀ (K : mc_K), mc_closed true tab0 n 0 (some .boolean) (shX_work g d) Q (fun _ _ _ => False) tbX_work K → ∀ (r k : Nat) (i : Int32) (M1 : mc_M), r + k = 16 → i = nI k → M1 = mc_set M 28 (fun b => if b < k then S &&& M 22 b else M 28 b) → K 3 [some (.ref 25), some (.ref 1), some (.ref 7), some (.ref 22), some (.ref 20), some (.ref f), some (.int i)] [] n M1 L := by
    intro K hK r
    induction r with
    | zero =>
      intro k i M1 hk hi z1
      subst hi
      have hk' : k = 16 := by omega
      subst hk'
      have g1 := go33 K hK M1 z1 (nI 16)
      rcases hf with rfl | rfl <;>
      exact hK.1 [33] 20 3 _ _ _ _ _ ⟨fun _ => g1, fun z => absurd (nI_le (a := 16) (b := 16) (Nat.le_refl _) (by decide)) z⟩
    | succ r ih =>
      intro k i M1 hk hi z1
      subst hi
      have c1 : ¬ (16 : Int32) ≤ nI k := nI_ge (b := 16) (by omega) (by decide)
      have ek : (nI k).toNatClampNeg = k := nI_clamp (by omega)
      have vk : vp_in (nI k) 16 := vp_in_nI (by omega) (by decide)
      have a1 : ∀ c, c ≠ 28 → M1 c = M c := fun c hc => by rw [z1, mc_set_n hc]
      have nx := ih (k + 1) (nI k + 1) (mc_put M1 28 (nI k).toNatClampNeg (M1 f 1 &&& M1 22 (nI k).toNatClampNeg)) (by omega) (nI_1 k) (by
        funext c x
        rw [mc_put_at, ek, a1 f (by omega), a1 22 (by decide), hS, z1, mc_set_at, mc_set_at]
        by_cases hj : c = 28
        · rw [if_pos hj, if_pos hj]
          by_cases hl : x = k
          · rw [if_pos ⟨hj, hl⟩, if_pos (by omega), hl]
          · rw [if_neg (fun z => hl z.2)]
            by_cases hlk : x < k
            · rw [if_pos hlk, if_pos (by omega)]
            · rw [if_neg hlk, if_neg (by omega)]
        · rw [if_neg (fun z => hj z.1), if_neg hj, if_neg hj])
      rcases hf with rfl | rfl <;>
      exact hK.1 [3] 30 3 _ _ _ _ _ ⟨fun z => absurd z c1, fun _ => ⟨vk, vk, nx⟩⟩
  have l0' := fun K hK => l0 K hK 16 0 0 M rfl rfl (by
    have : (fun b => if b < 0 then S &&& M 22 b else M 28 b) = M 28 := by
      funext b
      rw [if_neg (by omega)]
    rw [this, mc_set_id])
  rcases hf with rfl | rfl <;>
  exact inX_work (Nat.le_of_ble_eq_true rfl) (fun K hK => hK.1 [3] 20 0 _ _ _ _ _ (l0' K hK))
end WK
end
section
/-! Compressor -/
def sp_fs (R : Nat → Blk) (gone : Nat → Bool) (b : Nat) (A G : Nat → Int32) : (Nat → Int32) × (Nat → Int32) :=
  if gone b = true ∨ (R b).2.2.1 = 2 then (A, G)
  else if (R b).2.2.1 = 1 then (upd (upd A (R b).2.2.2.2.1.toNatClampNeg (A (R b).2.2.2.2.1.toNatClampNeg + 1)) (R b).2.2.2.2.2.toNatClampNeg (upd A (R b).2.2.2.2.1.toNatClampNeg (A (R b).2.2.2.2.1.toNatClampNeg + 1) (R b).2.2.2.2.2.toNatClampNeg + 1), G)
  else (upd A (R b).2.2.2.2.1.toNatClampNeg (A (R b).2.2.2.2.1.toNatClampNeg + 1), upd G (R b).2.2.2.2.1.toNatClampNeg (nI b))
def sp_fa (R : Nat → Blk) (gone : Nat → Bool) : Nat → Nat → (Nat → Int32) × (Nat → Int32) → (Nat → Int32) × (Nat → Int32)
  | 0, _, AG => AG
  | r + 1, b, AG => sp_fa R gone r (b + 1) (sp_fs R gone b AG.1 AG.2)
def sp_low (gone : Nat → Bool) (A G : Nat → Int32) : Nat → Nat → Option Nat
  | 0, _ => none
  | r + 1, b => if gone b = false ∧ A b = 1 ∧ ¬ G b = -1 ∧ ¬ G b = nI b then some b else sp_low gone A G r (b + 1)
/-- the jumps of the blocks that are left, and which are gone -/
def cjs (M : mc_M) (f nb : Nat) (R : Nat → Blk) (gone : Nat → Bool) : Prop := nb ≤ 100 ∧ M f 0 = nI nb ∧ (∀ b, b < nb → if gone b = true then M 34 b = -1 else ¬ M 34 b = -1) ∧ (∀ b, b < nb → gone b = false → ∃ j, j < 100 ∧ M (f + 5) b = nI j ∧ M (f + 6) j = (R b).2.2.1 ∧ M (f + 7) j = (R b).2.2.2.2.1 ∧ M (f + 8) j = (R b).2.2.2.2.2) ∧ ∀ b, b < nb → gone b = false → (R b).2.2.1 = 2 ∨ ((∃ t, t < nb ∧ (R b).2.2.2.2.1 = nI t) ∧ ((R b).2.2.1 = 0 ∨ ((R b).2.2.1 = 1 ∧ ∃ t, t < nb ∧ (R b).2.2.2.2.2 = nI t)))
def fa (M0 M : mc_M) (A G : Nat → Int32) : Prop := (∀ c, c ≠ 32 → c ≠ 33 → M c = M0 c) ∧ (∀ t, t < 100 → M 32 t = A t) ∧ ∀ t, t < 100 → M 33 t = G t
section CP
variable {g : mc_G} {d n f : Nat} {M : mc_M} {L : mc_L} {Q : Option Value → mc_M → mc_L → Prop}
theorem cC_findArrivals (hf : rs_is f) {nb : Nat} {R : Nat → Blk} {gone : Nat → Bool} (hc : cjs M f nb R gone) (hd : 2 ≤ d) (h : ∀ M', fa M M' (sp_fa R gone nb 0 (fun _ => 0, fun _ => -1)).1 (sp_fa R gone nb 0 (fun _ => 0, fun _ => -1)).2 → Q none M' L) : ctC_findArrivals g d [.ref 31, .ref f] n M L Q := by
  obtain ⟨d, rfl⟩ := Nat.exists_eq_add_of_le' (show 1 ≤ d by omega)
  obtain ⟨hnb, hsz, hgo, hjm, htg⟩ := hc
  have fne : ∀ i, f + i ≠ 32 ∧ f + i ≠ 33 := fun i => by rcases hf with rfl | rfl <;> omega
  have f0 : f ≠ 32 ∧ f ≠ 33 := fne 0
  have lp : ∀ (K : mc_K), mc_closed true tab0 n 0 none (shC_findArrivals g d) Q (fun _ _ _ => False) tbC_findArrivals K → ∀ (r b : Nat) (i : Int32) (M1 : mc_M) (AG : (Nat → Int32) × (Nat → Int32)), r + b = nb → i = nI b → fa M M1 AG.1 AG.2 → (∀ M', fa M M' (sp_fa R gone r b AG).1 (sp_fa R gone r b AG).2 → Q none M' L) → K 18 [some (.ref 31), some (.ref f), some (.int i), none] [] n M1 L := by
    intro K hK r
    induction r with
    | zero =>
      intro b i M1 AG hb hi hA h
      subst hi
      have c1 : M1 f 0 ≤ nI b := by
        rw [hA.1 f f0.1 f0.2, hsz]
        exact nI_le (by omega) (by omega)
      have q := h M1 hA
      rcases hf with rfl | rfl <;>
      exact hK.1 [] 20 18 _ _ _ _ _ ⟨fun _ => ⟨Nat.le_refl _, q⟩, fun z => absurd c1 z⟩
    | succ r ih =>
      intro b i M1 AG hb hi hA h
      subst hi
      have c1 : ¬ M1 f 0 ≤ nI b := by
        rw [hA.1 f f0.1 f0.2, hsz]
        exact nI_ge (by omega) (by omega)
      have vb : vp_in (nI b) 100 := vp_in_nI (by omega) (by decide)
      have eb : (nI b).toNatClampNeg = b := nI_clamp (by omega)
      have g34 : M1 34 (nI b).toNatClampNeg = M 34 b := by rw [eb, hA.1 34 (by decide) (by decide)]
      have go : ∀ M2 y, fa M M2 (sp_fs R gone b AG.1 AG.2).1 (sp_fs R gone b AG.1 AG.2).2 → K 18 [some (.ref 31), some (.ref f), some (.int (nI b + 1)), y] [] n M2 L := fun M2 y h2 => by
        refine hK.2 [true, true, true, false] _ _ _ _ _ _ ?_
        exact ih (b + 1) _ M2 _ (by omega) (nI_1 b) h2 h
      by_cases hg : gone b = true
      · have g1 : M1 34 (nI b).toNatClampNeg = -1 := by
          rw [g34]
          have := hgo b (by omega)
          rw [if_pos hg] at this
          exact this
        have nx := fun y => go M1 y (by unfold sp_fs; rw [if_pos (Or.inl hg)]; exact hA)
        rcases hf with rfl | rfl <;>
        exact hK.1 [18] 40 18 _ _ _ _ _ ⟨fun z => absurd z c1, fun _ => ⟨vb, vb, fun _ => nx _, fun z => absurd g1 z⟩⟩
      · have hg' : gone b = false := by simpa using hg
        have g1 : ¬ M1 34 (nI b).toNatClampNeg = -1 := by
          rw [g34]
          have := hgo b (by omega)
          rw [if_neg hg] at this
          exact this
        obtain ⟨j, hj, j5, j6, j7, j8⟩ := hjm b (by omega) hg'
        have ej : (nI j).toNatClampNeg = j := nI_clamp (by omega)
        have a5 : M1 (f + 5) (nI b).toNatClampNeg = nI j := by rw [eb, hA.1 _ (fne 5).1 (fne 5).2, j5]
        have vj : vp_in (M1 (f + 5) (nI b).toNatClampNeg) 100 := by rw [a5]; exact vp_in_nI hj (by decide)
        have a6 : M1 (f + 6) (M1 (f + 5) (nI b).toNatClampNeg).toNatClampNeg = (R b).2.2.1 := by rw [a5, ej, hA.1 _ (fne 6).1 (fne 6).2, j6]
        have a7 : M1 (f + 7) (M1 (f + 5) (nI b).toNatClampNeg).toNatClampNeg = (R b).2.2.2.2.1 := by rw [a5, ej, hA.1 _ (fne 7).1 (fne 7).2, j7]
        have a8 : M1 (f + 8) (M1 (f + 5) (nI b).toNatClampNeg).toNatClampNeg = (R b).2.2.2.2.2 := by rw [a5, ej, hA.1 _ (fne 8).1 (fne 8).2, j8]
        by_cases k2 : (R b).2.2.1 = 2
        · have nx := fun y => go M1 y (by unfold sp_fs; rw [if_pos (Or.inr k2)]; exact hA)
          have b6 := a6.trans k2
          rcases hf with rfl | rfl <;>
          exact hK.1 [18] 40 18 _ _ _ _ _ ⟨fun z => absurd z c1, fun _ => ⟨vb, vb, fun z => absurd z g1, fun _ => ⟨vj, fun z => absurd b6 z, fun _ => nx _⟩⟩⟩
        · have b6 : ¬ M1 (f + 6) (M1 (f + 5) (nI b).toNatClampNeg).toNatClampNeg = 2 := fun z => k2 (a6.symm.trans z)
          rcases htg b (by omega) hg' with y | ⟨⟨t, ht, hte⟩, hk⟩
          · exact absurd y k2
          have et : (nI t).toNatClampNeg = t := nI_clamp (by omega)
          have t7 : M1 (f + 7) (M1 (f + 5) (nI b).toNatClampNeg).toNatClampNeg = nI t := a7.trans hte
          have vt : vp_in (M1 (f + 7) (M1 (f + 5) (nI b).toNatClampNeg).toNatClampNeg) 100 := by rw [t7]; exact vp_in_nI (by omega) (by decide)
          have A2 : ∀ M2, M2 = mc_put M1 32 (M1 (f + 7) (M1 (f + 5) (nI b).toNatClampNeg).toNatClampNeg).toNatClampNeg (M1 32 (M1 (f + 7) (M1 (f + 5) (nI b).toNatClampNeg).toNatClampNeg).toNatClampNeg + 1) → fa M M2 (upd AG.1 t (AG.1 t + 1)) AG.2 ∧ (∀ c, c ≠ 32 → M2 c = M1 c) := fun M2 z2 => by
            rw [t7, et, hA.2.1 t (by omega)] at z2
            have e2 : ∀ c, c ≠ 32 → M2 c = M1 c := fun c hc => by
              funext x
              rw [z2, mc_put_at, if_neg (fun y => hc y.1)]
            refine ⟨⟨fun c h1 h2 => by rw [e2 c h1, hA.1 c h1 h2], fun u hu => ?_, fun u hu => by rw [e2 33 (by decide), hA.2.2 u hu]⟩, e2⟩
            rw [z2, mc_put_at]
            unfold upd
            by_cases hut : u = t
            · rw [if_pos ⟨rfl, hut⟩, if_pos hut]
            · rw [if_neg (fun y => hut y.2), if_neg hut, hA.2.1 u hu]
          rcases hk with hk | ⟨hk, t', ht', hte'⟩
          · have n1 : ¬ (R b).2.2.1 = 1 := fun z => by rw [hk] at z; exact absurd z (by decide)
            have nx : ∀ M2, M2 = mc_put M1 32 (M1 (f + 7) (M1 (f + 5) (nI b).toNatClampNeg).toNatClampNeg).toNatClampNeg (M1 32 (M1 (f + 7) (M1 (f + 5) (nI b).toNatClampNeg).toNatClampNeg).toNatClampNeg + 1) → ¬ M2 (f + 6) (M1 (f + 5) (nI b).toNatClampNeg).toNatClampNeg = 1 ∧ vp_in (M2 (f + 7) (M1 (f + 5) (nI b).toNatClampNeg).toNatClampNeg) 100 ∧ ∀ y, K 18 [some (.ref 31), some (.ref f), some (.int (nI b + 1)), y] [] n (mc_put M2 33 (M2 (f + 7) (M1 (f + 5) (nI b).toNatClampNeg).toNatClampNeg).toNatClampNeg (nI b)) L := fun M2 z2 => by
              obtain ⟨q1, q2⟩ := A2 M2 z2
              rw [q2 _ (fne 6).1, q2 _ (fne 7).1, a6, t7]
              refine ⟨n1, vp_in_nI (by omega) (by decide), fun y => go _ y ?_⟩
              unfold sp_fs
              rw [if_neg (fun w => w.elim hg k2), if_neg n1, hte, et]
              refine ⟨fun c h1 h2 => ?_, fun u hu => ?_, fun u hu => ?_⟩
              · funext x
                rw [mc_put_at, if_neg (fun w => h2 w.1), q1.1 c h1 h2]
              · rw [mc_put_at, if_neg (by omega), q1.2.1 u hu]
              · rw [mc_put_at]
                show _ = upd AG.2 t (nI b) u
                unfold upd
                by_cases hut : u = t
                · rw [if_pos ⟨rfl, hut⟩, if_pos hut]
                · rw [if_neg (fun w => hut w.2), if_neg hut, q1.2.2 u hu]
            rcases hf with rfl | rfl <;>
            exact hK.1 [18] 60 18 _ _ _ _ _ ⟨fun z => absurd z c1, fun _ => ⟨vb, vb, fun z => absurd z g1, fun _ => ⟨vj, fun _ => ⟨vj, vt, vt, vj, fun _ => ⟨vj, (nx _ rfl).2.1, (nx _ rfl).2.2 _⟩, fun z => absurd z (nx _ rfl).1⟩, fun z => absurd z b6⟩⟩⟩
          · have et' : (nI t').toNatClampNeg = t' := nI_clamp (by omega)
            have nx : ∀ M2, M2 = mc_put M1 32 (M1 (f + 7) (M1 (f + 5) (nI b).toNatClampNeg).toNatClampNeg).toNatClampNeg (M1 32 (M1 (f + 7) (M1 (f + 5) (nI b).toNatClampNeg).toNatClampNeg).toNatClampNeg + 1) → M2 (f + 6) (M1 (f + 5) (nI b).toNatClampNeg).toNatClampNeg = 1 ∧ vp_in (M2 (f + 8) (M1 (f + 5) (nI b).toNatClampNeg).toNatClampNeg) 100 ∧ ∀ y, K 18 [some (.ref 31), some (.ref f), some (.int (nI b + 1)), y] [] n (mc_put M2 32 (M2 (f + 8) (M1 (f + 5) (nI b).toNatClampNeg).toNatClampNeg).toNatClampNeg (M2 32 (M2 (f + 8) (M1 (f + 5) (nI b).toNatClampNeg).toNatClampNeg).toNatClampNeg + 1)) L := fun M2 z2 => by
              obtain ⟨q1, q2⟩ := A2 M2 z2
              rw [q2 _ (fne 6).1, q2 _ (fne 8).1, a6, a8, hte']
              refine ⟨hk, vp_in_nI (by omega) (by decide), fun y => go _ y ?_⟩
              unfold sp_fs
              rw [if_neg (fun w => w.elim hg k2), if_pos hk, hte, hte', et, et']
              refine ⟨fun c h1 h2 => ?_, fun u hu => ?_, fun u hu => ?_⟩
              · funext x
                rw [mc_put_at, if_neg (fun w => h1 w.1), q1.1 c h1 h2]
              · rw [mc_put_at, q1.2.1 t' (by omega)]
                show _ = upd (upd AG.1 t (AG.1 t + 1)) t' (upd AG.1 t (AG.1 t + 1) t' + 1) u
                conv => rhs; unfold upd
                by_cases hut : u = t'
                · rw [if_pos ⟨rfl, hut⟩, if_pos hut]
                  rfl
                · rw [if_neg (fun w => hut w.2), if_neg hut, q1.2.1 u hu]
                  rfl
              · rw [mc_put_at, if_neg (by omega), q1.2.2 u hu]
            rcases hf with rfl | rfl <;>
            exact hK.1 [18] 60 18 _ _ _ _ _ ⟨fun z => absurd z c1, fun _ => ⟨vb, vb, fun z => absurd z g1, fun _ => ⟨vj, fun _ => ⟨vj, vt, vt, vj, fun z => absurd (nx _ rfl).1 z, fun _ => ⟨vj, (nx _ rfl).2.1, (nx _ rfl).2.1, (nx _ rfl).2.2 _⟩⟩, fun z => absurd z b6⟩⟩⟩
  have st0 : ∀ M1, M1 = mc_set M 32 (fun i => if i < 100 then 0 else M 32 i) → ∀ M2, M2 = mc_set M1 33 (fun i => if i < 100 then -1 else M1 33 i) → fa M M2 (fun _ => 0) (fun _ => -1) := fun M1 z1 M2 z2 => ⟨fun c h1 h2 => by rw [z2, mc_set_n h2, z1, mc_set_n h1], fun t ht => by rw [z2, mc_set_n (by decide), z1, mc_set_s, if_pos ht], fun t ht => by rw [z2, mc_set_s, if_pos ht]⟩
  have lp' := fun K hK M1 z1 M2 z2 => lp K hK nb 0 0 M2 (fun _ => 0, fun _ => -1) rfl rfl (st0 M1 z1 M2 z2) h
  rcases hf with rfl | rfl <;>
  exact inC_findArrivals (Nat.le_of_ble_eq_true rfl) (fun K hK => hK.1 [18] 20 0 _ _ _ _ _ (cJ_fill (Or.inr (Or.inl ⟨rfl, rfl⟩)) (by omega) (fun M1 z1 => cJ_fill (Or.inr (Or.inr (Or.inl ⟨rfl, rfl⟩))) (by omega) (fun M2 z2 => lp' K hK M1 z1 M2 z2))))
theorem cC_lowestToMove (hf : rs_is f) {nb : Nat} {gone : Nat → Bool} {A G : Nat → Int32} (hnb : nb ≤ 100) (hsz : M f 0 = nI nb) (hgo : ∀ b, b < nb → if gone b = true then M 34 b = -1 else ¬ M 34 b = -1) (hA : ∀ t, t < 100 → M 32 t = A t) (hG : ∀ t, t < 100 → M 33 t = G t) (hd : 1 ≤ d) (h1 : ∀ b, sp_low gone A G (nb - 1) 1 = some b → 1 ≤ b → b < nb → Q (some (.int (nI b))) M L) (h0 : sp_low gone A G (nb - 1) 1 = none → Q (some (.int (-1))) M L) : ctC_lowestToMove g d [.ref 31, .ref f] n M L Q := by
  obtain ⟨d, rfl⟩ := Nat.exists_eq_add_of_le' hd
  have lp : ∀ (K : mc_K), mc_closed true tab0 n 0 (some .int) (shC_lowestToMove g d) Q (fun _ _ _ => False) tbC_lowestToMove K → ∀ (r b : Nat) (i : Int32), r + b = nb ∨ (r = 0 ∧ nb ≤ b ∧ b ≤ 100) → 1 ≤ b → i = nI b → sp_low gone A G (nb - 1) 1 = sp_low gone A G r b → K 2 [some (.ref 31), some (.ref f), some (.int i), none] [] n M L := by
    intro K hK r
    induction r with
    | zero =>
      intro b i hb hb1 hi hq
      subst hi
      have c1 : M f 0 ≤ nI b := by
        rw [hsz]
        exact nI_le (by omega) (by omega)
      have q := h0 hq
      rcases hf with rfl | rfl <;>
      exact hK.1 [] 20 2 _ _ _ _ _ ⟨fun _ => ⟨Nat.le_refl _, q⟩, fun z => absurd c1 z⟩
    | succ r ih =>
      intro b i hb hb1 hi hq
      subst hi
      have hbn : b < nb := by omega
      have c1 : ¬ M f 0 ≤ nI b := by
        rw [hsz]
        exact nI_ge (by omega) (by omega)
      have vb : vp_in (nI b) 100 := vp_in_nI (by omega) (by decide)
      have eb : (nI b).toNatClampNeg = b := nI_clamp (by omega)
      have gb := hgo b hbn
      have e32 : M 32 (nI b).toNatClampNeg = A b := by rw [eb, hA b (by omega)]
      have e33 : M 33 (nI b).toNatClampNeg = G b := by rw [eb, hG b (by omega)]
      have e34 : M 34 (nI b).toNatClampNeg = M 34 b := by rw [eb]
      have no : ¬ (gone b = false ∧ A b = 1 ∧ ¬ G b = -1 ∧ ¬ G b = nI b) → ∀ y, K 2 [some (.ref 31), some (.ref f), some (.int (nI b + 1)), y] [] n M L := fun z y => by
        refine hK.2 [true, true, true, false] _ _ _ _ _ _ ?_
        refine ih (b + 1) _ (by omega) (by omega) (nI_1 b) (hq.trans ?_)
        conv => lhs; unfold sp_low
        rw [if_neg z]
      have yes : (gone b = false ∧ A b = 1 ∧ ¬ G b = -1 ∧ ¬ G b = nI b) → Q (some (.int (nI b))) M L := fun z => by
        refine h1 b (hq.trans ?_) hb1 hbn
        unfold sp_low
        rw [if_pos z]
      by_cases hg : gone b = true
      · rw [if_pos hg] at gb
        have g1 : M 34 (nI b).toNatClampNeg = -1 := e34.trans gb
        have no' := no (fun w => by rw [hg] at w; cases w.1)
        rcases hf with rfl | rfl <;>
        exact hK.1 [2] 40 2 _ _ _ _ _ ⟨fun z => absurd z c1, fun _ => ⟨vb, fun _ => ⟨fun _ => no' _, fun z => absurd rfl z⟩, fun z => absurd g1 z⟩⟩
      · rw [if_neg hg] at gb
        have hg' : gone b = false := by simpa using hg
        have g1 : ¬ M 34 (nI b).toNatClampNeg = -1 := fun z => gb (e34.symm.trans z)
        have na : ¬ M 32 (nI b).toNatClampNeg = 1 → ¬ (gone b = false ∧ A b = 1 ∧ ¬ G b = -1 ∧ ¬ G b = nI b) := fun z w => z (e32.trans w.2.1)
        have nb1 : M 33 (nI b).toNatClampNeg = -1 → ¬ (gone b = false ∧ A b = 1 ∧ ¬ G b = -1 ∧ ¬ G b = nI b) := fun z w => w.2.2.1 (e33.symm.trans z)
        have nb2 : M 33 (nI b).toNatClampNeg = nI b → ¬ (gone b = false ∧ A b = 1 ∧ ¬ G b = -1 ∧ ¬ G b = nI b) := fun z w => w.2.2.2 (e33.symm.trans z)
        rcases hf with rfl | rfl <;>
        exact hK.1 [2] 60 2 _ _ _ _ _ ⟨fun z => absurd z c1, fun _ => ⟨vb, fun z => absurd z g1, fun _ => ⟨fun z => absurd z (by decide), fun _ => ⟨vb, fun z => no (na z) _, fun z1 => ⟨vb, fun z => no (nb1 z) _, fun z2 => ⟨vb, fun z => no (nb2 z) _, fun z3 => ⟨Nat.le_refl _, yes ⟨hg', e32.symm.trans z1, fun w => z2 (e33.trans w), fun w => z3 (e33.trans w)⟩⟩⟩⟩⟩⟩⟩⟩
  have lp' := fun K hK => lp K hK (nb - 1) 1 1 (by omega) (Nat.le_refl _) rfl rfl
  rcases hf with rfl | rfl <;>
  exact inC_lowestToMove (Nat.le_of_ble_eq_true rfl) (fun K hK => hK.1 [2] 20 0 _ _ _ _ _ (lp' K hK))
theorem cC_numberOf {t : Int32} {nb : Nat} (hnb : nb ≤ 100) (ht : t = -1 ∨ ∃ u, u < nb ∧ t = nI u) (hd : 1 ≤ d) (h : ∀ r, r = (if t = -1 then -1 else M 34 t.toNatClampNeg) → Q (some (.int r)) M L) : ctC_numberOf g d [.ref 31, .int t] n M L Q := by
  obtain ⟨d, rfl⟩ := Nat.exists_eq_add_of_le' hd
  refine inC_numberOf (Nat.le_of_ble_eq_true rfl) (fun K hK => hK.1 [] 20 0 _ _ _ _ _ ⟨fun z => ⟨?_, Nat.le_refl _, h _ (by rw [if_neg z])⟩, fun z => ⟨Nat.le_refl _, h _ (by rw [if_pos z])⟩⟩)
  rcases ht with ht | ⟨u, hu, rfl⟩
  · exact absurd ht z
  · exact vp_in_nI (by omega) (by decide)
end CP
end
section
/-! Flow.join and Flow.renumber -/
def fl_jn (M : mc_M) (f b k cb ck lb : Nat) : mc_M := mc_put (if 0 < ck then mc_put (mc_put (if cb = 0 then mc_put M (f + 3) b (M (f + 3) k) else mc_put M (f + 11) lb (M (f + 3) k)) (f + 4) b (M (f + 4) k)) (f + 2) b (nI (cb + ck)) else M) (f + 5) b (M (f + 5) k)
def fl_rn (M : mc_M) (f b t : Nat) : mc_M := mc_put (mc_put (mc_put (mc_put (mc_put M (f + 1) t (M (f + 1) b)) (f + 2) t (M (f + 2) b)) (f + 3) t (M (f + 3) b)) (f + 4) t (M (f + 4) b)) (f + 5) t (M (f + 5) b)
section JN
variable {g : mc_G} {d n f : Nat} {M : mc_M} {L : mc_L} {Q : Option Value → mc_M → mc_L → Prop}
theorem cF_join (hf : rs_is f) {b k cb ck lb : Nat} {x y : Int32} (hx : x = nI b) (hy : y = nI k) (hb : b < 100) (hk : k < 100) (hbk : b ≠ k) (hcb : M (f + 2) b = nI cb) (hck : M (f + 2) k = nI ck) (hcb1 : cb ≤ 1100) (hck1 : ck ≤ 1100) (hl : 0 < cb → M (f + 4) b = nI lb ∧ lb < 1100) (hd : 1 ≤ d) (h : ∀ M', M' = fl_jn M f b k cb ck lb → Q none M' L) : ctF_join g d [.ref f, .int x, .int y] n M L Q := by
  obtain ⟨d, rfl⟩ := Nat.exists_eq_add_of_le' hd
  subst hx
  subst hy
  have eb : (nI b).toNatClampNeg = b := nI_clamp (by omega)
  have ek : (nI k).toNatClampNeg = k := nI_clamp (by omega)
  have vb : vp_in (nI b) 100 := vp_in_nI hb (by decide)
  have vk : vp_in (nI k) 100 := vp_in_nI hk (by decide)
  have go77 : ∀ (K : mc_K), mc_closed true tab0 n 0 none (shF_join g d) Q (fun _ _ _ => False) tbF_join K → ∀ M1, M1 (f + 5) k = M (f + 5) k → mc_put M1 (f + 5) b (M (f + 5) k) = fl_jn M f b k cb ck lb → K 77 [some (.ref f), some (.int (nI b)), some (.int (nI k))] [] n M1 L := by
    intro K hK M1 e1 e2
    have t : mc_put M1 (f + 5) (nI b).toNatClampNeg (M1 (f + 5) (nI k).toNatClampNeg) = fl_jn M f b k cb ck lb := by rw [eb, ek, e1, e2]
    rcases hf with rfl | rfl <;>
    exact hK.1 [] 30 77 _ _ _ _ _ ⟨vk, vb, Nat.le_refl _, h _ t⟩
  have go50 : ∀ (K : mc_K), mc_closed true tab0 n 0 none (shF_join g d) Q (fun _ _ _ => False) tbF_join K → 0 < ck → ∀ M1, M1 = (if cb = 0 then mc_put M (f + 3) b (M (f + 3) k) else mc_put M (f + 11) lb (M (f + 3) k)) → K 50 [some (.ref f), some (.int (nI b)), some (.int (nI k))] [] n M1 L := by
    intro K hK hc M1 z1
    have a : ∀ c x, c ≠ f + 3 → c ≠ f + 11 → M1 c x = M c x := fun c x h3 h11 => by
      rw [z1]
      split
      · rw [mc_put_at, if_neg (fun w => h3 w.1)]
      · rw [mc_put_at, if_neg (fun w => h11 w.1)]
    have a4 : M1 (f + 4) (nI k).toNatClampNeg = M (f + 4) k := by rw [ek, a _ _ (by omega) (by omega)]
    have nx := go77 K hK (mc_put (mc_put M1 (f + 4) (nI b).toNatClampNeg (M1 (f + 4) (nI k).toNatClampNeg)) (f + 2) (nI b).toNatClampNeg ((mc_put M1 (f + 4) (nI b).toNatClampNeg (M1 (f + 4) (nI k).toNatClampNeg)) (f + 2) (nI b).toNatClampNeg + (mc_put M1 (f + 4) (nI b).toNatClampNeg (M1 (f + 4) (nI k).toNatClampNeg)) (f + 2) (nI k).toNatClampNeg)) (by
      rw [mc_put_at, if_neg (by omega), mc_put_at, if_neg (by omega), a _ _ (by omega) (by omega)]) (by
      have q1 : (mc_put M1 (f + 4) (nI b).toNatClampNeg (M1 (f + 4) (nI k).toNatClampNeg)) (f + 2) (nI b).toNatClampNeg = nI cb := by rw [mc_put_at, if_neg (by omega), a _ _ (by omega) (by omega), eb, hcb]
      have q2 : (mc_put M1 (f + 4) (nI b).toNatClampNeg (M1 (f + 4) (nI k).toNatClampNeg)) (f + 2) (nI k).toNatClampNeg = nI ck := by rw [mc_put_at, if_neg (by omega), a _ _ (by omega) (by omega), ek, hck]
      rw [q1, q2, nI_add, eb, a4, z1]
      unfold fl_jn
      rw [if_pos hc])
    rcases hf with rfl | rfl <;>
    exact hK.1 [77] 40 50 _ _ _ _ _ ⟨vk, vb, vb, vk, vb, nx⟩
  have e2k : M (f + 2) (nI k).toNatClampNeg = nI ck := by rw [ek, hck]
  have e2b : M (f + 2) (nI b).toNatClampNeg = nI cb := by rw [eb, hcb]
  have p0 : M (f + 2) (nI k).toNatClampNeg ≤ 0 → ck = 0 := fun z => by
    rw [e2k] at z
    exact Nat.le_zero.mp ((nI_leI (b := 0) (by omega) (by decide)).mp z)
  have p1 : ¬ M (f + 2) (nI k).toNatClampNeg ≤ 0 → 0 < ck := fun z => Nat.pos_of_ne_zero (fun w => z (by rw [e2k, w]; decide))
  have p2 : M (f + 2) (nI b).toNatClampNeg = 0 → cb = 0 := fun z => by
    rw [e2b] at z
    exact (nI_eq (b := 0) (by omega) (by decide)).mp z
  have p3 : ¬ M (f + 2) (nI b).toNatClampNeg = 0 → 0 < cb := fun z => Nat.pos_of_ne_zero (fun w => z (by rw [e2b, w]; rfl))
  have s77 : ∀ K, mc_closed true tab0 n 0 none (shF_join g d) Q (fun _ _ _ => False) tbF_join K → ck = 0 → K 77 [some (.ref f), some (.int (nI b)), some (.int (nI k))] [] n M L := fun K hK z => go77 K hK M rfl (by unfold fl_jn; rw [if_neg (by omega)])
  have s50a : ∀ K, mc_closed true tab0 n 0 none (shF_join g d) Q (fun _ _ _ => False) tbF_join K → 0 < ck → cb = 0 → K 50 [some (.ref f), some (.int (nI b)), some (.int (nI k))] [] n (mc_put M (f + 3) (nI b).toNatClampNeg (M (f + 3) (nI k).toNatClampNeg)) L := fun K hK z z0 => go50 K hK z _ (by rw [if_pos z0, eb, ek])
  have vl : 0 < cb → vp_in (M (f + 4) (nI b).toNatClampNeg) 1100 := fun z => by
    rw [eb, (hl z).1]
    exact vp_in_nI (hl z).2 (by decide)
  have s50b : ∀ K, mc_closed true tab0 n 0 none (shF_join g d) Q (fun _ _ _ => False) tbF_join K → 0 < ck → 0 < cb → K 50 [some (.ref f), some (.int (nI b)), some (.int (nI k))] [] n (mc_put M (f + 11) (M (f + 4) (nI b).toNatClampNeg).toNatClampNeg (M (f + 3) (nI k).toNatClampNeg)) L := fun K hK z z0 => go50 K hK z _ (by
    have := (hl z0).2
    rw [if_neg (by omega), eb, ek, (hl z0).1, nI_clamp (by omega)])
  rcases hf with rfl | rfl <;>
  exact inF_join (Nat.le_of_ble_eq_true rfl) (fun K hK => hK.1 [50, 77] 40 0 _ _ _ _ _ ⟨vk, fun z => s77 K hK (p0 z), fun z => ⟨vb, fun z0 => ⟨vb, vk, vl (p3 z0), s50b K hK (p1 z) (p3 z0)⟩, fun z0 => ⟨vk, vb, s50a K hK (p1 z) (p2 z0)⟩⟩⟩)
theorem cF_renumber (hf : rs_is f) {b t : Nat} {x y : Int32} (hx : x = nI b) (hy : y = nI t) (hb : b < 100) (ht : t < 100) (hd : 1 ≤ d) (h : ∀ M', M' = fl_rn M f b t → Q none M' L) : ctF_renumber g d [.ref f, .int x, .int y] n M L Q := by
  obtain ⟨d, rfl⟩ := Nat.exists_eq_add_of_le' hd
  subst hx
  subst hy
  have eb : (nI b).toNatClampNeg = b := nI_clamp (by omega)
  have et : (nI t).toNatClampNeg = t := nI_clamp (by omega)
  have vb : vp_in (nI b) 100 := vp_in_nI hb (by decide)
  have vt : vp_in (nI t) 100 := vp_in_nI ht (by decide)
  have fin : ∀ M1 M2 M3 M4 M5, M1 = mc_put M (f + 1) (nI t).toNatClampNeg (M (f + 1) (nI b).toNatClampNeg) → M2 = mc_put M1 (f + 2) (nI t).toNatClampNeg (M1 (f + 2) (nI b).toNatClampNeg) → M3 = mc_put M2 (f + 3) (nI t).toNatClampNeg (M2 (f + 3) (nI b).toNatClampNeg) → M4 = mc_put M3 (f + 4) (nI t).toNatClampNeg (M3 (f + 4) (nI b).toNatClampNeg) → M5 = mc_put M4 (f + 5) (nI t).toNatClampNeg (M4 (f + 5) (nI b).toNatClampNeg) → M5 = fl_rn M f b t := by
    intro M1 M2 M3 M4 M5 h1 h2 h3 h4 h5
    rw [eb, et] at h1 h2 h3 h4 h5
    have a2 : M1 (f + 2) b = M (f + 2) b := by rw [h1, mc_put_at, if_neg (by omega)]
    have a3 : M2 (f + 3) b = M (f + 3) b := by rw [h2, mc_put_at, if_neg (by omega), h1, mc_put_at, if_neg (by omega)]
    have a4 : M3 (f + 4) b = M (f + 4) b := by rw [h3, mc_put_at, if_neg (by omega), h2, mc_put_at, if_neg (by omega), h1, mc_put_at, if_neg (by omega)]
    have a5 : M4 (f + 5) b = M (f + 5) b := by rw [h4, mc_put_at, if_neg (by omega), h3, mc_put_at, if_neg (by omega), h2, mc_put_at, if_neg (by omega), h1, mc_put_at, if_neg (by omega)]
    rw [h5, a5, h4, a4, h3, a3, h2, a2, h1]
    rfl
  rcases hf with rfl | rfl <;>
  exact inF_renumber (Nat.le_of_ble_eq_true rfl) (fun K hK => hK.1 [] 60 0 _ _ _ _ _ ⟨vb, vt, vb, vt, vb, vt, vb, vt, vb, vt, Nat.le_refl _, h _ (fin _ _ _ _ _ rfl rfl rfl rfl rfl)⟩)
end JN
end
section
/-! What a join does to the blocks -/
theorem fl_ch_lt {N : Nat → Int32} {W : Nat} : ∀ {x : Int32} {l : List Nat}, fl_ch N W x l → ∀ s ∈ l, s < W
  | _, [], _, s, hs => absurd hs List.not_mem_nil
  | _, t :: r, h, s, hs => by
    rcases List.mem_cons.mp hs with rfl | hs
    · exact h.2.1
    · exact fl_ch_lt h.2.2 s hs
theorem fl_ch_congr {N N' : Nat → Int32} {W : Nat} : ∀ {x : Int32} {l : List Nat}, (∀ s ∈ l, N' s = N s) → fl_ch N W x l → fl_ch N' W x l
  | _, [], _, _ => trivial
  | _, t :: r, hN, h => ⟨h.1, h.2.1, by rw [hN t List.mem_cons_self]; exact fl_ch_congr (fun s hs => hN s (List.mem_cons_of_mem _ hs)) h.2.2⟩
theorem fl_ch_app {N N' : Nat → Int32} {W lb : Nat} {y : Int32} {r : List Nat} (hr : fl_ch N' W y r) (hy : N' lb = y) (hN : ∀ s, s ≠ lb → N' s = N s) : ∀ {x : Int32} {l : List Nat}, l.getLast? = some lb → l.Nodup → fl_ch N W x l → fl_ch N' W x (l ++ r)
  | _, [], h, _, _ => by cases h
  | _, [t], h, _, hc => by
    simp at h
    subst h
    exact ⟨hc.1, hc.2.1, by rw [hy]; exact hr⟩
  | _, t :: t' :: l, h, hd, hc => by
    have h' : (t' :: l).getLast? = some lb := by rw [← h]; rfl
    have hm : lb ∈ t' :: l := List.mem_of_getLast? h'
    have hd' := List.nodup_cons.mp hd
    have ht : t ≠ lb := fun z => hd'.1 (z ▸ hm)
    refine ⟨hc.1, hc.2.1, ?_⟩
    rw [hN t ht]
    exact fl_ch_app hr hy hN h' hd'.2 hc.2.2
theorem nodup_len : ∀ (N : Nat) (l : List Nat), l.Nodup → (∀ s ∈ l, s < N) → l.length ≤ N
  | 0, l, _, h => by
    cases l with
    | nil => simp
    | cons a r => exact absurd (h a List.mem_cons_self) (Nat.not_lt_zero _)
  | N + 1, l, hd, h => by
    by_cases hm : N ∈ l
    · have h1 := nodup_len N (l.erase N) (hd.erase N) (fun s hs => by
        have := (hd.mem_erase_iff).mp hs
        have h2 := h s this.2
        have h3 := this.1
        omega)
      rw [List.length_erase_of_mem hm] at h1
      omega
    · have := nodup_len N l hd (fun s hs => by
        have h2 := h s hs
        have h3 : s ≠ N := fun z => hm (z ▸ hs)
        omega)
      omega
def sp_jn (R : Nat → Blk) (b k : Nat) : Nat → Blk := fun i => if i = b then ((R b).1, (R b).2.1 ++ (R k).2.1, (R k).2.2) else R i
def sp_gn (gone : Nat → Bool) (k : Nat) : Nat → Bool := fun i => if i = k then true else gone i
def crs (T : Nat → Nat → Int32) (m : Nat) (S : Int32) (M : mc_M) (f nb : Nat) (R : Nat → Blk) (gone : Nat → Bool) (SS : Nat → List Nat) (J : Nat → Nat) : Prop :=
  (∀ b, b < nb → gone b = false → fl_blk T m S M f 100 b (R b) (SS b) (J b) ∧ (∀ l, (SS b).getLast? = some l → M (f + 4) b = nI l) ∧ (SS b).Nodup) ∧
  ∀ b c, b < nb → c < nb → gone b = false → gone c = false → b ≠ c → (∀ s ∈ SS b, s ∉ SS c) ∧ J b ≠ J c
theorem fl_jn_at (M : mc_M) (f b k cb ck lb : Nat) :
    (∀ x, x ≠ b → fl_jn M f b k cb ck lb (f + 2) x = M (f + 2) x ∧ fl_jn M f b k cb ck lb (f + 3) x = M (f + 3) x ∧ fl_jn M f b k cb ck lb (f + 4) x = M (f + 4) x ∧ fl_jn M f b k cb ck lb (f + 5) x = M (f + 5) x) ∧
    fl_jn M f b k cb ck lb (f + 5) b = M (f + 5) k ∧ (∀ x, x ≠ lb → fl_jn M f b k cb ck lb (f + 11) x = M (f + 11) x) ∧ (∀ c, c ≠ f + 2 → c ≠ f + 3 → c ≠ f + 4 → c ≠ f + 5 → c ≠ f + 11 → fl_jn M f b k cb ck lb c = M c) ∧
    (ck = 0 → fl_jn M f b k cb ck lb (f + 2) b = M (f + 2) b ∧ fl_jn M f b k cb ck lb (f + 3) b = M (f + 3) b ∧ fl_jn M f b k cb ck lb (f + 4) b = M (f + 4) b ∧ fl_jn M f b k cb ck lb (f + 11) = M (f + 11)) ∧
    (0 < ck → fl_jn M f b k cb ck lb (f + 2) b = nI (cb + ck) ∧ fl_jn M f b k cb ck lb (f + 4) b = M (f + 4) k ∧ (cb = 0 → fl_jn M f b k cb ck lb (f + 3) b = M (f + 3) k ∧ fl_jn M f b k cb ck lb (f + 11) = M (f + 11)) ∧ (¬ cb = 0 → fl_jn M f b k cb ck lb (f + 3) b = M (f + 3) b ∧ fl_jn M f b k cb ck lb (f + 11) lb = M (f + 3) k)) := by
  unfold fl_jn
  by_cases h1 : 0 < ck
  · rw [if_pos h1]
    by_cases h2 : cb = 0
    · rw [if_pos h2]
      refine ⟨fun x hx => ⟨?_, ?_, ?_, ?_⟩, ?_, fun x hx => ?_, fun c c2 c3 c4 c5 c11 => funext fun x => ?_, fun z => absurd z (by omega), fun _ => ⟨?_, ?_, fun _ => ⟨?_, funext fun x => ?_⟩, fun z => absurd h2 z⟩⟩ <;> simp [mc_put_at, *]
    · rw [if_neg h2]
      refine ⟨fun x hx => ⟨?_, ?_, ?_, ?_⟩, ?_, fun x hx => ?_, fun c c2 c3 c4 c5 c11 => funext fun x => ?_, fun z => absurd z (by omega), fun _ => ⟨?_, ?_, fun z => absurd z h2, fun _ => ⟨?_, ?_⟩⟩⟩ <;> simp [mc_put_at, *]
  · rw [if_neg h1]
    refine ⟨fun x hx => ⟨?_, ?_, ?_, ?_⟩, ?_, fun x hx => ?_, fun c c2 c3 c4 c5 c11 => funext fun x => ?_, fun _ => ⟨?_, ?_, ?_, funext fun x => ?_⟩, fun z => absurd z h1⟩ <;> simp [mc_put_at, *]
theorem crs_jn {T : Nat → Nat → Int32} {m : Nat} {S : Int32} {M M' : mc_M} {f nb : Nat} {R : Nat → Blk} {gone : Nat → Bool} {SS : Nat → List Nat} {J : Nat → Nat} (h : crs T m S M f nb R gone SS J) {b k lb : Nat} (hb : b < nb) (hk : k < nb) (gb : gone b = false) (gk : gone k = false) (hbk : b ≠ k) (hlb : ∀ l, (SS b).getLast? = some l → l = lb) (hM : M' = fl_jn M f b k (SS b).length (SS k).length lb) :
    crs T m S M' f nb (sp_jn R b k) (sp_gn gone k) (fun i => if i = b then SS b ++ SS k else SS i) (fun i => if i = b then J k else J i) := by
  obtain ⟨h1, h2⟩ := h
  obtain ⟨a1, a2, a3, a4, a5, a6⟩ := fl_jn_at M f b k (SS b).length (SS k).length lb
  rw [← hM] at a1 a2 a3 a4 a5 a6
  have r1 : M' (f + 1) = M (f + 1) := a4 _ (by omega) (by omega) (by omega) (by omega) (by omega)
  have r6 : M' (f + 6) = M (f + 6) := a4 _ (by omega) (by omega) (by omega) (by omega) (by omega)
  have r7 : M' (f + 7) = M (f + 7) := a4 _ (by omega) (by omega) (by omega) (by omega) (by omega)
  have r8 : M' (f + 8) = M (f + 8) := a4 _ (by omega) (by omega) (by omega) (by omega) (by omega)
  have r9 : M' (f + 9) = M (f + 9) := a4 _ (by omega) (by omega) (by omega) (by omega) (by omega)
  have r10 : M' (f + 10) = M (f + 10) := a4 _ (by omega) (by omega) (by omega) (by omega) (by omega)
  have r12 : M' (f + 12) = M (f + 12) := a4 _ (by omega) (by omega) (by omega) (by omega) (by omega)
  have gnf : ∀ c, sp_gn gone k c = false → c ≠ k ∧ gone c = false := fun c hc => by
    unfold sp_gn at hc
    by_cases hck : c = k
    · rw [if_pos hck] at hc
      cases hc
    · rw [if_neg hck] at hc
      exact ⟨hck, hc⟩
  obtain ⟨⟨kb1, kb2, kb3, kb4, kb5, kb6, kb7⟩, kb8, kb9⟩ := h1 k hk gk
  obtain ⟨⟨bb1, bb2, bb3, bb4, bb5, bb6, bb7⟩, bb8, bb9⟩ := h1 b hb gb
  have dis := (h2 b k hb hk gb gk hbk).1
  have lbm : ∀ c, c < nb → gone c = false → c ≠ b → SS b ≠ [] → lb ∉ SS c := fun c hc gc hcb hne hm => by
    have hl : ∃ l, (SS b).getLast? = some l := by
      cases hq : (SS b).getLast? with
      | none => exact absurd (List.getLast?_eq_none_iff.mp hq) hne
      | some l => exact ⟨l, rfl⟩
    obtain ⟨l, hl⟩ := hl
    have e := hlb l hl
    subst e
    exact (h2 b c hb hc gb gc (Ne.symm hcb)).1 l (List.mem_of_getLast? hl) hm
  refine ⟨fun c hc gc => ?_, fun c c' hc hc' gc gc' hcc => ?_⟩
  · dsimp only
    obtain ⟨hck, gc⟩ := gnf c gc
    by_cases hcb : c = b
    · subst hcb
      have eR : sp_jn R c k c = ((R c).1, (R c).2.1 ++ (R k).2.1, (R k).2.2) := if_pos rfl
      rw [eR, if_pos rfl, if_pos rfl]
      have nd : (SS c ++ SS k).Nodup := List.nodup_append.mpr ⟨bb9, kb9, fun s hs t ht e => dis s hs (e ▸ ht)⟩
      have lt : ∀ s ∈ SS c ++ SS k, s < 1100 := fun s hs => by
        rcases List.mem_append.mp hs with hs | hs
        · exact fl_ch_lt bb4 s hs
        · exact fl_ch_lt kb4 s hs
      refine ⟨⟨by rw [r1]; exact bb1, ?_, nodup_len 1100 _ nd lt, ?_, fun s hs => ?_, ?_, by rw [a2]; exact kb7.1, ?_⟩, fun l hl => ?_, nd⟩
      · rw [List.length_append]
        by_cases h0 : (SS k).length = 0
        · rw [(a5 h0).1, h0]
          exact bb2
        · exact (a6 (by omega)).1
      · by_cases h0 : (SS k).length = 0
        · have e0 : SS k = [] := List.eq_nil_of_length_eq_zero h0
          rw [e0, List.append_nil, (a5 h0).2.1, (a5 h0).2.2.2]
          exact bb4
        · obtain ⟨q1, q2, q3, q4⟩ := a6 (by omega)
          by_cases h3 : (SS c).length = 0
          · have e0 : SS c = [] := List.eq_nil_of_length_eq_zero h3
            rw [e0, List.nil_append, (q3 h3).1, (q3 h3).2]
            exact kb4
          · rw [(q4 h3).1]
            have hne : SS c ≠ [] := fun z => h3 (by rw [z]; rfl)
            have hl : (SS c).getLast? = some lb := by
              cases hq : (SS c).getLast? with
              | none => exact absurd (List.getLast?_eq_none_iff.mp hq) hne
              | some l => rw [hlb l hq]
            exact fl_ch_app (fl_ch_congr (fun s hs => a3 s (fun z => lbm k hk gk (Ne.symm hbk) hne (z ▸ hs))) kb4) (q4 h3).2 a3 hl bb9 bb4
      · unfold fl_sv
        rw [r9, r10]
        rcases List.mem_append.mp hs with hs | hs
        · exact bb5 s hs
        · exact kb5 s hs
      · show (R c).2.1 ++ (R k).2.1 = _
        unfold fl_as
        rw [r9, r10, r12, List.map_append, bb6, kb6]
        rfl
      · rw [r6, r7, r8, r10, r12]
        exact kb7.2
      · by_cases h0 : (SS k).length = 0
        · have e0 : SS k = [] := List.eq_nil_of_length_eq_zero h0
          rw [e0, List.append_nil] at hl
          rw [(a5 h0).2.2.1]
          exact bb8 l hl
        · have hne : SS k ≠ [] := fun z => h0 (by rw [z]; rfl)
          rw [(a6 (by omega)).2.1]
          refine kb8 l ?_
          rw [← hl, List.getLast?_append]
          cases hq : (SS k).getLast? with
          | none => exact absurd (List.getLast?_eq_none_iff.mp hq) hne
          | some l => rfl
    · have eR : sp_jn R b k c = R c := if_neg hcb
      rw [eR, if_neg hcb, if_neg hcb]
      obtain ⟨⟨cb1, cb2, cb3, cb4, cb5, cb6, cb7⟩, cb8, cb9⟩ := h1 c hc gc
      obtain ⟨x2, x3, x4, x5⟩ := a1 c hcb
      refine ⟨⟨by rw [r1]; exact cb1, by rw [x2]; exact cb2, cb3, ?_, fun s hs => ?_, ?_, by rw [x5]; exact cb7.1, ?_⟩, fun l hl => by rw [x4]; exact cb8 l hl, cb9⟩
      · rw [x3]
        refine fl_ch_congr (fun s hs => ?_) cb4
        by_cases hne : SS b = []
        · by_cases h0 : (SS k).length = 0
          · rw [(a5 h0).2.2.2]
          · rw [((a6 (by omega)).2.2.1 (by rw [hne]; rfl)).2]
        · exact a3 s (fun z => lbm c hc gc hcb hne (z ▸ hs))
      · unfold fl_sv
        rw [r9, r10]
        exact cb5 s hs
      · rw [cb6]
        unfold fl_as
        rw [r9, r10, r12]
      · rw [r6, r7, r8, r10, r12]
        exact cb7.2
  · dsimp only
    obtain ⟨hck, gc⟩ := gnf c gc
    obtain ⟨hck', gc'⟩ := gnf c' gc'
    by_cases e1 : c = b
    · subst e1
      rw [if_pos rfl, if_pos rfl, if_neg (Ne.symm hcc), if_neg (Ne.symm hcc)]
      refine ⟨fun s hs => ?_, (h2 k c' hk hc' gk gc' (Ne.symm hck')).2⟩
      rcases List.mem_append.mp hs with hs | hs
      · exact (h2 c c' hc hc' gc gc' hcc).1 s hs
      · exact (h2 k c' hk hc' gk gc' (Ne.symm hck')).1 s hs
    · rw [if_neg e1, if_neg e1]
      by_cases e2 : c' = b
      · subst e2
        rw [if_pos rfl, if_pos rfl]
        refine ⟨fun s hs hs' => ?_, (h2 c k hc hk gc gk hck).2⟩
        rcases List.mem_append.mp hs' with hs' | hs'
        · exact (h2 c c' hc hc' gc gc' hcc).1 s hs hs'
        · exact (h2 c k hc hk gc gk hck).1 s hs hs'
      · rw [if_neg e2, if_neg e2]
        exact h2 c c' hc hc' gc gc' hcc
end
section
/-! What the arrivals say -/
def ar_n (R : Nat → Blk) (gone : Nat → Bool) (c t : Nat) : Nat := if gone c = true ∨ (R c).2.2.1 = 2 then 0 else (if (R c).2.2.2.2.1 = nI t then 1 else 0) + (if (R c).2.2.1 = 1 ∧ (R c).2.2.2.2.2 = nI t then 1 else 0)
def ar_s (R : Nat → Blk) (gone : Nat → Bool) (t : Nat) : Nat → Nat → Nat
  | 0, _ => 0
  | r + 1, b => ar_n R gone b t + ar_s R gone t r (b + 1)
theorem ar_n_le (R : Nat → Blk) (gone : Nat → Bool) (c t : Nat) : ar_n R gone c t ≤ 2 := by
  unfold ar_n
  split
  · omega
  · split <;> split <;> omega
theorem ar_s_le (R : Nat → Blk) (gone : Nat → Bool) (t : Nat) : ∀ r b, ar_s R gone t r b ≤ 2 * r
  | 0, _ => by simp [ar_s]
  | r + 1, b => by
    have h1 := ar_n_le R gone b t
    have h2 := ar_s_le R gone t r (b + 1)
    unfold ar_s
    omega
theorem ar_s_one (R : Nat → Blk) (gone : Nat → Bool) (t : Nat) : ∀ r b c, b ≤ c → c < b + r → ar_n R gone c t ≤ ar_s R gone t r b
  | 0, b, c, h1, h2 => by omega
  | r + 1, b, c, h1, h2 => by
    unfold ar_s
    by_cases h : c = b
    · rw [h]
      omega
    · have := ar_s_one R gone t r (b + 1) c (by omega) (by omega)
      omega
theorem ar_s_two (R : Nat → Blk) (gone : Nat → Bool) (t : Nat) : ∀ r b c c', b ≤ c → c < c' → c' < b + r → ar_n R gone c t + ar_n R gone c' t ≤ ar_s R gone t r b
  | 0, b, c, c', h1, h2, h3 => by omega
  | r + 1, b, c, c', h1, h2, h3 => by
    unfold ar_s
    by_cases h : c = b
    · rw [h]
      have := ar_s_one R gone t r (b + 1) c' (by omega) (by omega)
      omega
    · have := ar_s_two R gone t r (b + 1) c c' (by omega) h2 (by omega)
      omega
/-- targets of the blocks that are left -/
def tgl (R : Nat → Blk) (gone : Nat → Bool) (nb : Nat) : Prop := ∀ b, b < nb → gone b = false → (R b).2.2.1 = 2 ∨ ((∃ t, t < nb ∧ (R b).2.2.2.2.1 = nI t) ∧ ((R b).2.2.1 = 0 ∨ ((R b).2.2.1 = 1 ∧ ∃ t, t < nb ∧ (R b).2.2.2.2.2 = nI t)))
theorem sp_fa_A {R : Nat → Blk} {gone : Nat → Bool} {nb t : Nat} (hnb : nb ≤ 100) (htg : tgl R gone nb) (ht : t < nb) : ∀ (r b : Nat) (AG : (Nat → Int32) × (Nat → Int32)), r + b = nb → (sp_fa R gone r b AG).1 t = AG.1 t + nI (ar_s R gone t r b)
  | 0, b, AG, h => by
    show AG.1 t = AG.1 t + nI 0
    rw [nI_0, Int32.add_zero]
  | r + 1, b, AG, h => by
    unfold sp_fa ar_s
    rw [sp_fa_A hnb htg ht r (b + 1) _ (by omega), ← nI_add, ← Int32.add_assoc]
    congr 1
    unfold sp_fs ar_n
    by_cases h1 : gone b = true ∨ (R b).2.2.1 = 2
    · rw [if_pos h1, if_pos h1, nI_0, Int32.add_zero]
    · rw [if_neg h1, if_neg h1]
      have hg : gone b = false := by
        cases hgb : gone b with
        | false => rfl
        | true => exact absurd (Or.inl hgb) h1
      rcases htg b (by omega) hg with y | ⟨⟨u, hu, hue⟩, y⟩
      · exact absurd (Or.inr y) h1
      have eu : (nI u).toNatClampNeg = u := nI_clamp (by omega)
      rcases y with y | ⟨y, u', hu', hue'⟩
      · have n1 : ¬ (R b).2.2.1 = 1 := fun z => by rw [y] at z; exact absurd z (by decide)
        have q2 : ¬ ((R b).2.2.1 = 1 ∧ (R b).2.2.2.2.2 = nI t) := fun z => n1 z.1
        rw [if_neg n1, if_neg q2, hue, eu]
        show upd AG.1 u (AG.1 u + 1) t = _
        unfold upd
        by_cases e : t = u
        · rw [if_pos e, if_pos (by rw [e]), e]
          rfl
        · rw [if_neg e, if_neg (fun z => e ((nI_eq (by omega) (by omega)).mp z).symm), nI_0, Int32.add_zero]
      · have eu' : (nI u').toNatClampNeg = u' := nI_clamp (by omega)
        rw [if_pos y, hue, hue', eu, eu']
        show upd (upd AG.1 u (AG.1 u + 1)) u' (upd AG.1 u (AG.1 u + 1) u' + 1) t = _
        unfold upd
        by_cases e' : t = u'
        · subst e'
          rw [if_pos rfl]
          by_cases e : t = u
          · subst e
            rw [if_pos rfl, if_pos rfl, if_pos ⟨y, rfl⟩, Int32.add_assoc]
            rfl
          · rw [if_neg e, if_neg (fun z => e ((nI_eq (by omega) (by omega)).mp z).symm), if_pos ⟨y, rfl⟩]
            rfl
        · rw [if_neg e']
          have ne' : ¬ ((R b).2.2.1 = 1 ∧ nI u' = nI t) := fun z => e' ((nI_eq (by omega) (by omega)).mp z.2).symm
          by_cases e : t = u
          · subst e
            rw [if_pos rfl, if_pos rfl, if_neg ne']
            rfl
          · rw [if_neg e, if_neg (fun z => e ((nI_eq (by omega) (by omega)).mp z).symm), if_neg ne', nI_0, Int32.add_zero]
def goe_ok (R : Nat → Blk) (gone : Nat → Bool) (nb : Nat) (G : Nat → Int32) : Prop := ∀ t, G t = -1 ∨ ∃ c, c < nb ∧ gone c = false ∧ (R c).2.2.1 = 0 ∧ (R c).2.2.2.2.1.toNatClampNeg = t ∧ G t = nI c
theorem sp_fa_G {R : Nat → Blk} {gone : Nat → Bool} {nb : Nat} (htg : tgl R gone nb) : ∀ (r b : Nat) (AG : (Nat → Int32) × (Nat → Int32)), r + b = nb → goe_ok R gone nb AG.2 → goe_ok R gone nb (sp_fa R gone r b AG).2
  | 0, b, AG, h, hG => hG
  | r + 1, b, AG, h, hG => by
    unfold sp_fa
    refine sp_fa_G htg r (b + 1) _ (by omega) ?_
    unfold sp_fs
    by_cases h1 : gone b = true ∨ (R b).2.2.1 = 2
    · rw [if_pos h1]
      exact hG
    · rw [if_neg h1]
      have hg : gone b = false := by
        cases hgb : gone b with
        | false => rfl
        | true => exact absurd (Or.inl hgb) h1
      by_cases k1 : (R b).2.2.1 = 1
      · rw [if_pos k1]
        exact hG
      · rw [if_neg k1]
        intro t
        show upd AG.2 _ _ t = -1 ∨ ∃ c, _ ∧ _ ∧ _ ∧ _ ∧ upd AG.2 _ _ t = nI c
        unfold upd
        by_cases e : t = (R b).2.2.2.2.1.toNatClampNeg
        · rw [if_pos e]
          refine Or.inr ⟨b, by omega, hg, ?_, e.symm, rfl⟩
          rcases htg b (by omega) hg with y | ⟨-, y⟩
          · exact absurd (Or.inr y) h1
          · rcases y with y | ⟨y, -⟩
            · exact y
            · exact absurd y k1
        · rw [if_neg e]
          exact hG t
theorem sp_low_some {gone : Nat → Bool} {A G : Nat → Int32} : ∀ {r b k : Nat}, sp_low gone A G r b = some k → b ≤ k ∧ k < b + r ∧ gone k = false ∧ A k = 1 ∧ ¬ G k = -1 ∧ ¬ G k = nI k
  | 0, b, k, h => by cases h
  | r + 1, b, k, h => by
    unfold sp_low at h
    by_cases c : gone b = false ∧ A b = 1 ∧ ¬ G b = -1 ∧ ¬ G b = nI b
    · rw [if_pos c] at h
      cases h
      exact ⟨Nat.le_refl _, by omega, c.1, c.2.1, c.2.2.1, c.2.2.2⟩
    · rw [if_neg c] at h
      obtain ⟨h1, h2, h3⟩ := sp_low_some h
      exact ⟨by omega, by omega, h3⟩
def sp_ag (R : Nat → Blk) (gone : Nat → Bool) (nb : Nat) : (Nat → Int32) × (Nat → Int32) := sp_fa R gone nb 0 (fun _ => 0, fun _ => -1)
/-- what the lowest block to move is: the only jump that goes to it is the GO of its goer -/
theorem sp_low_is {R : Nat → Blk} {gone : Nat → Bool} {nb k : Nat} (hnb : nb ≤ 100) (htg : tgl R gone nb) (h : sp_low gone (sp_ag R gone nb).1 (sp_ag R gone nb).2 (nb - 1) 1 = some k) : 1 ≤ k ∧ k < nb ∧ gone k = false ∧ ∃ b, b < nb ∧ b ≠ k ∧ gone b = false ∧ (sp_ag R gone nb).2 k = nI b ∧ (R b).2.2.1 = 0 ∧ (R b).2.2.2.2.1 = nI k ∧ ∀ c, c < nb → c ≠ b → ar_n R gone c k = 0 := by
  obtain ⟨h1, h2, h3, h4, h5, h6⟩ := sp_low_some h
  have hk : k < nb := by omega
  have hA : (sp_ag R gone nb).1 k = nI (ar_s R gone k nb 0) := by
    unfold sp_ag
    rw [sp_fa_A hnb htg hk nb 0 _ rfl]
    show 0 + _ = _
    rw [Int32.zero_add]
  have hle := ar_s_le R gone k nb 0
  have hs : ar_s R gone k nb 0 = 1 := (nI_eq (b := 1) (by omega) (by decide)).mp (hA.symm.trans h4)
  have hG := sp_fa_G htg nb 0 (fun _ => 0, fun _ => -1) rfl (fun t => Or.inl rfl) k
  rcases hG with hG | ⟨b, hb, gb, kb, ob, hG⟩
  · exact absurd hG h5
  have hbk : b ≠ k := fun z => h6 (by rw [← z]; rw [← z] at hG; exact hG)
  have obk : (R b).2.2.2.2.1 = nI k := by
    rcases htg b hb gb with y | ⟨⟨t, ht, hte⟩, -⟩
    · rw [kb] at y
      exact absurd y (by decide)
    · rw [hte, nI_clamp (by omega)] at ob
      rw [hte, ob]
  have hab : ar_n R gone b k = 1 := by
    unfold ar_n
    rw [if_neg (by rw [gb, kb]; simp), if_pos obk, if_neg (by rw [kb]; exact fun z => absurd z.1 (by decide))]
  refine ⟨h1, hk, h3, b, hb, hbk, gb, hG, kb, obk, fun c hc hcb => ?_⟩
  rcases Nat.lt_or_gt_of_ne hcb with hlt | hlt
  · have := ar_s_two R gone k nb 0 c b (by omega) hlt (by omega)
    omega
  · have := ar_s_two R gone k nb 0 b c (by omega) hlt (by omega)
    omega
end
section
/-! Compressor.numberAnew -/
def nu (gone : Nat → Bool) : Nat → Nat
  | 0 => 0
  | b + 1 => if gone b = true then nu gone b else nu gone b + 1
theorem nu_le (gone : Nat → Bool) : ∀ b, nu gone b ≤ b
  | 0 => Nat.le_refl _
  | b + 1 => by
    have := nu_le gone b
    unfold nu
    split <;> omega
theorem nu_mono (gone : Nat → Bool) : ∀ {b c : Nat}, b ≤ c → nu gone b ≤ nu gone c
  | b, 0, h => by
    have : b = 0 := by omega
    rw [this]
    exact Nat.le_refl _
  | b, c + 1, h => by
    by_cases e : b = c + 1
    · rw [e]
      exact Nat.le_refl _
    · have := nu_mono gone (b := b) (c := c) (by omega)
      have h2 : nu gone c ≤ nu gone (c + 1) := by
        conv => rhs; unfold nu
        split <;> omega
      omega
theorem nu_lt {gone : Nat → Bool} {b c : Nat} (h : b < c) (g : gone b = false) : nu gone b < nu gone c := by
  have h1 : nu gone (b + 1) = nu gone b + 1 := by
    conv => lhs; unfold nu
    rw [g, if_neg (by decide)]
  have := nu_mono gone (b := b + 1) (c := c) h
  omega
def sp_tn (gone : Nat → Bool) (t : Int32) : Int32 := if t = -1 then -1 else nI (nu gone t.toNatClampNeg)
def sp_rn (gone : Nat → Bool) (B : Blk) : Blk := (B.1, B.2.1, B.2.2.1, B.2.2.2.1, sp_tn gone B.2.2.2.2.1, sp_tn gone B.2.2.2.2.2)
/-- targets that are there: none, or a block that is left -/
def tno (R : Nat → Blk) (gone : Nat → Bool) (nb : Nat) : Prop := ∀ b, b < nb → gone b = false → ((R b).2.2.2.2.1 = -1 ∨ ∃ t, t < nb ∧ gone t = false ∧ (R b).2.2.2.2.1 = nI t) ∧ ((R b).2.2.2.2.2 = -1 ∨ ∃ t, t < nb ∧ gone t = false ∧ (R b).2.2.2.2.2 = nI t)
def anew (M1 M2 : mc_M) (f nb b : Nat) (R : Nat → Blk) (gone : Nat → Bool) (J : Nat → Nat) : Prop :=
  (∀ c, (c < f + 1 ∨ f + 5 < c) → c ≠ f + 7 → c ≠ f + 8 → M2 c = M1 c) ∧ (∀ r, r < 5 → ∀ c, b ≤ c → c < nb → M2 (f + (r + 1)) c = M1 (f + (r + 1)) c) ∧ (∀ r, r < 5 → ∀ c, c < b → c < nb → gone c = false → M2 (f + (r + 1)) (nu gone c) = M1 (f + (r + 1)) c) ∧
  ∀ c, c < nb → gone c = false → M2 (f + 7) (J c) = (if c < b then sp_tn gone (R c).2.2.2.2.1 else M1 (f + 7) (J c)) ∧ M2 (f + 8) (J c) = (if c < b then sp_tn gone (R c).2.2.2.2.2 else M1 (f + 8) (J c))
section NA
variable {g : mc_G} {d n f : Nat} {M : mc_M} {L : mc_L} {Q : Option Value → mc_M → mc_L → Prop}
theorem cC_numberAnew (hf : rs_is f) {nb : Nat} {R : Nat → Blk} {gone : Nat → Bool} {J : Nat → Nat} (hnb : nb ≤ 100) (hsz : M f 0 = nI nb) (hgo : ∀ b, b < nb → if gone b = true then M 34 b = -1 else ¬ M 34 b = -1) (hJ : ∀ b, b < nb → gone b = false → J b < 100 ∧ M (f + 5) b = nI (J b) ∧ M (f + 7) (J b) = (R b).2.2.2.2.1 ∧ M (f + 8) (J b) = (R b).2.2.2.2.2) (hJd : ∀ b c, b < nb → c < nb → gone b = false → gone c = false → b ≠ c → J b ≠ J c) (htn : tno R gone nb) (hd : 2 ≤ d)
    (h : ∀ M1 M2, (∀ c, c ≠ 34 → M1 c = M c) → anew M1 M2 f nb nb R gone J → Q none (mc_put M2 f 0 (nI (nu gone nb))) L) : ctC_numberAnew g d [.ref 31, .ref f] n M L Q := by
  obtain ⟨d, rfl⟩ := Nat.exists_eq_add_of_le' (show 1 ≤ d by omega)
  have hf34 : 34 < f := by rcases hf with rfl | rfl <;> decide
  have hfl : fl_is f 100 := by
    rcases hf with rfl | rfl
    · exact Or.inr (Or.inl ⟨rfl, rfl⟩)
    · exact Or.inr (Or.inr ⟨rfl, rfl⟩)
  have l2 : ∀ (K : mc_K), mc_closed true tab0 n 0 none (shC_numberAnew g d) Q (fun _ _ _ => False) tbC_numberAnew K → ∀ M1, (∀ c, c ≠ 34 → M1 c = M c) → (∀ b, b < nb → M1 34 b = if gone b = true then -1 else nI (nu gone b)) → ∀ (r b : Nat) (i : Int32) (M2 : mc_M), r + b = nb → i = nI b → anew M1 M2 f nb b R gone J → K 40 [some (.ref 31), some (.ref f), some (.int (nI (nu gone nb))), some (.int i), none] [] n M2 L := by
    intro K hK M1 e1 e34 r
    induction r with
    | zero =>
      intro b i M2 hb hi hA
      subst hi
      have hbn : b = nb := by omega
      subst hbn
      have q := h M1 M2 e1 hA
      have c1 : M2 f 0 ≤ nI b := by
        rw [hA.1 f (Or.inl (by omega)) (by omega) (by omega), e1 f (by omega), hsz]
        exact nI_le (Nat.le_refl _) (by omega)
      rcases hf with rfl | rfl <;>
      exact hK.1 [] 30 40 _ _ _ _ _ ⟨fun _ => ⟨Nat.le_refl _, q⟩, fun z => absurd c1 z⟩
    | succ r ih =>
      intro b i M2 hb hi hA
      subst hi
      have hbn : b < nb := by omega
      have c1 : ¬ M2 f 0 ≤ nI b := by
        rw [hA.1 f (Or.inl (by omega)) (by omega) (by omega), e1 f (by omega), hsz]
        exact nI_ge (by omega) (by omega)
      have vb : vp_in (nI b) 100 := vp_in_nI (by omega) (by decide)
      have eb : (nI b).toNatClampNeg = b := nI_clamp (by omega)
      have m34 : M2 34 = M1 34 := hA.1 34 (Or.inl (by omega)) (by omega) (by omega)
      have nule := nu_le gone b
      by_cases hg : gone b = true
      · have g1 : M2 34 (nI b).toNatClampNeg = -1 := by rw [eb, m34, e34 b hbn, if_pos hg]
        have nx := ih (b + 1) (nI b + 1) M2 (by omega) (nI_1 b) ⟨hA.1, fun r hr c hc hc' => hA.2.1 r hr c (by omega) hc', fun r hr c hc hc' gc => hA.2.2.1 r hr c (by
          by_cases e : c = b
          · rw [e, hg] at gc
            cases gc
          · omega) hc' gc, fun c hc gc => by
          have e : c ≠ b := fun e => by
            rw [e, hg] at gc
            cases gc
          have := hA.2.2.2 c hc gc
          by_cases hcb : c < b
          · rw [if_pos hcb, if_pos hcb] at this
            rw [if_pos (by omega), if_pos (by omega)]
            exact this
          · rw [if_neg hcb, if_neg hcb] at this
            rw [if_neg (by omega), if_neg (by omega)]
            exact this⟩
        rcases hf with rfl | rfl <;>
        exact hK.1 [40] 40 40 _ _ _ _ _ ⟨fun z => absurd z c1, fun _ => ⟨vb, fun _ => nx, fun z => absurd g1 z⟩⟩
      · have hg' : gone b = false := by simpa using hg
        have g2 : M2 34 (nI b).toNatClampNeg = nI (nu gone b) := by rw [eb, m34, e34 b hbn, if_neg hg]
        have g1 : ¬ M2 34 (nI b).toNatClampNeg = -1 := by rw [g2]; exact nI_ne_m1 (by omega)
        obtain ⟨j1, j5, j7, j8⟩ := hJ b hbn hg'
        have a5 : M2 (f + 5) b = nI (J b) := by
          rw [hA.2.1 4 (by decide) b (Nat.le_refl _) hbn, e1 _ (by omega)]
          exact j5
        have b5 : M2 (f + 5) (nI b).toNatClampNeg = nI (J b) := by rw [eb, a5]
        have vj : vp_in (M2 (f + 5) (nI b).toNatClampNeg) 100 := by rw [b5]; exact vp_in_nI j1 (by decide)
        have ej : (nI (J b)).toNatClampNeg = J b := nI_clamp (by omega)
        obtain ⟨q7, q8⟩ := hA.2.2.2 b hbn hg'
        rw [if_neg (Nat.lt_irrefl _), e1 _ (by omega), j7] at q7
        rw [if_neg (Nat.lt_irrefl _), e1 _ (by omega), j8] at q8
        have b7 : M2 (f + 7) (M2 (f + 5) (nI b).toNatClampNeg).toNatClampNeg = (R b).2.2.2.2.1 := by rw [b5, ej, q7]
        have b8 : M2 (f + 8) (M2 (f + 5) (nI b).toNatClampNeg).toNatClampNeg = (R b).2.2.2.2.2 := by rw [b5, ej, q8]
        obtain ⟨t7, t8⟩ := htn b hbn hg'
        have num : ∀ t : Int32, (t = -1 ∨ ∃ u, u < nb ∧ gone u = false ∧ t = nI u) → (t = -1 ∨ ∃ u, u < nb ∧ t = nI u) ∧ (if t = -1 then -1 else M2 34 t.toNatClampNeg) = sp_tn gone t := fun t ht => by
          rcases ht with ht | ⟨u, hu, gu, ht⟩
          · refine ⟨Or.inl ht, ?_⟩
            unfold sp_tn
            rw [if_pos ht, if_pos ht]
          · refine ⟨Or.inr ⟨u, hu, ht⟩, ?_⟩
            unfold sp_tn
            rw [if_neg (by rw [ht]; exact nI_ne_m1 (by omega)), if_neg (by rw [ht]; exact nI_ne_m1 (by omega)), ht, nI_clamp (by omega), m34, e34 u hu, if_neg (by rw [gu]; decide)]
        have n7 := num _ t7
        have n8 := num _ t8
        have nx : ∀ r1 r2 M3 M4 y, r1 = sp_tn gone (R b).2.2.2.2.1 → r2 = sp_tn gone (R b).2.2.2.2.2 → M3 = mc_put (mc_put M2 (f + 7) (J b) r1) (f + 8) (J b) r2 → M4 = fl_rn M3 f b (nu gone b) → K 40 [some (.ref 31), some (.ref f), some (.int (nI (nu gone nb))), some (.int (nI b + 1)), y] [] n M4 L := fun r1 r2 M3 M4 y h1 h2 z3 z4 => by
          have w3 : ∀ c x, M3 c x = if c = f + 8 ∧ x = J b then r2 else if c = f + 7 ∧ x = J b then r1 else M2 c x := fun c x => by rw [z3, mc_put_at, mc_put_at]
          have w3' : ∀ c x, c ≠ f + 7 → c ≠ f + 8 → M3 c x = M2 c x := fun c x h7 h8 => by rw [w3, if_neg (fun w => h8 w.1), if_neg (fun w => h7 w.1)]
          have w4 : ∀ c x, M4 c x = if c = f + 5 ∧ x = nu gone b then M2 (f + 5) b else if c = f + 4 ∧ x = nu gone b then M2 (f + 4) b else if c = f + 3 ∧ x = nu gone b then M2 (f + 3) b else if c = f + 2 ∧ x = nu gone b then M2 (f + 2) b else if c = f + 1 ∧ x = nu gone b then M2 (f + 1) b else M3 c x := fun c x => by
            rw [z4]
            unfold fl_rn
            rw [w3' (f + 1) b (by omega) (by omega), w3' (f + 2) b (by omega) (by omega), w3' (f + 3) b (by omega) (by omega), w3' (f + 4) b (by omega) (by omega), w3' (f + 5) b (by omega) (by omega)]
            simp only [mc_put_at]
          have w5 : ∀ r, r < 5 → ∀ x, M4 (f + (r + 1)) x = if x = nu gone b then M2 (f + (r + 1)) b else M2 (f + (r + 1)) x := fun r hr x => by
            have hr5 : r = 0 ∨ r = 1 ∨ r = 2 ∨ r = 3 ∨ r = 4 := by omega
            rw [w4, w3' _ _ (by omega) (by omega)]
            rcases hr5 with rfl | rfl | rfl | rfl | rfl <;> simp
          have w6 : ∀ c x, (c < f + 1 ∨ f + 5 < c) → M4 c x = M3 c x := fun c x hc => by
            rw [w4, if_neg (by omega), if_neg (by omega), if_neg (by omega), if_neg (by omega), if_neg (by omega)]
          refine hK.2 [true, true, true, true, false] _ _ _ _ _ _ ?_
          refine ih (b + 1) _ M4 (by omega) (nI_1 b) ⟨fun c hc h7 h8 => ?_, fun r hr c hc hc' => ?_, fun r hr c hc hc' gc => ?_, fun c hc gc => ?_⟩
          · funext x
            rw [w6 c x hc, w3' c x h7 h8, hA.1 c hc h7 h8]
          · rw [w5 r hr, if_neg (by omega)]
            exact hA.2.1 r hr c (by omega) hc'
          · rw [w5 r hr]
            by_cases e : c = b
            · rw [e, if_pos rfl]
              exact hA.2.1 r hr b (Nat.le_refl _) hbn
            · have := nu_lt (gone := gone) (b := c) (c := b) (by omega) gc
              rw [if_neg (by omega)]
              exact hA.2.2.1 r hr c (by omega) hc' gc
          · rw [w6 _ _ (Or.inr (by omega)), w6 _ _ (Or.inr (by omega))]
            by_cases e : c = b
            · subst e
              rw [w3, w3, if_neg (by omega), if_pos ⟨rfl, rfl⟩, if_pos (by omega), if_pos ⟨rfl, rfl⟩, if_pos (by omega)]
              exact ⟨h1, h2⟩
            · have jd := hJd c b hc hbn gc hg' e
              have := hA.2.2.2 c hc gc
              have e7 : M3 (f + 7) (J c) = M2 (f + 7) (J c) := by rw [w3, if_neg (by omega), if_neg (fun w => jd w.2)]
              have e8 : M3 (f + 8) (J c) = M2 (f + 8) (J c) := by rw [w3, if_neg (fun w => jd w.2), if_neg (by omega)]
              rw [e7, e8]
              by_cases hcb : c < b
              · rw [if_pos hcb, if_pos hcb] at this
                rw [if_pos (by omega), if_pos (by omega)]
                exact this
              · rw [if_neg hcb, if_neg hcb] at this
                rw [if_neg (by omega), if_neg (by omega)]
                exact this
        have t34 : ∀ r1 r2 M3, M3 = mc_put (mc_put M2 (f + 7) (J b) r1) (f + 8) (J b) r2 → M3 34 (nI b).toNatClampNeg = nI (nu gone b) := fun r1 r2 M3 z3 => by
          rw [z3, mc_put_at, if_neg (by omega), mc_put_at, if_neg (by omega), g2]
        rcases hf with rfl | rfl <;>
        exact hK.1 [40] 60 40 _ _ _ _ _ ⟨fun z => absurd z c1, fun _ => ⟨vb, fun z => absurd z g1, fun _ => ⟨vb, vj, cC_numberOf hnb (by rw [b7]; exact n7.1) (by omega) (fun r1 h1 => ⟨vj, cC_numberOf hnb (by rw [b8]; exact n8.1) (by omega) (fun r2 h2 => cF_setTargets hfl (by omega) rfl (by omega) a5 j1 (fun M3 z3 => ⟨vb, cF_renumber (by first | exact Or.inl rfl | exact Or.inr rfl) rfl (t34 _ _ M3 z3) (by omega) (by omega) (by omega) (fun M4 z4 => nx r1 r2 M3 M4 _ (by rw [h1, b7]; exact n7.2) (by rw [h2, b8]; exact n8.2) z3 z4)⟩))⟩)⟩⟩⟩
  have l1 : ∀ (K : mc_K), mc_closed true tab0 n 0 none (shC_numberAnew g d) Q (fun _ _ _ => False) tbC_numberAnew K → ∀ (r b : Nat) (i y : Int32) (M1 : mc_M), r + b = nb → i = nI b → y = nI (nu gone b) → (∀ c, c ≠ 34 → M1 c = M c) → (∀ c, c < nb → M1 34 c = if c < b ∧ gone c = false then nI (nu gone c) else M 34 c) → K 4 [some (.ref 31), some (.ref f), some (.int y), some (.int i), none] [] n M1 L := by
    intro K hK r
    induction r with
    | zero =>
      intro b i y M1 hb hi hy e1 e34
      subst hi
      have hbn : b = nb := by omega
      subst hbn
      subst hy
      have c1 : M1 f 0 ≤ nI b := by
        rw [e1 f (by omega), hsz]
        exact nI_le (Nat.le_refl _) (by omega)
      have q := l2 K hK M1 e1 (fun c hc => by
        rw [e34 c hc]
        have := hgo c hc
        cases hg : gone c with
        | true =>
          rw [hg, if_pos rfl] at this
          rw [if_neg (fun w => by cases w.2), if_pos rfl, this]
        | false =>
          rw [if_pos ⟨hc, rfl⟩, if_neg (by decide)]) b 0 0 M1 rfl rfl ⟨fun c _ _ _ => rfl, fun r hr c _ _ => rfl, fun r hr c hc => absurd hc (Nat.not_lt_zero _), fun c hc gc => by rw [if_neg (Nat.not_lt_zero _), if_neg (Nat.not_lt_zero _)]; exact ⟨rfl, rfl⟩⟩
      rcases hf with rfl | rfl <;>
      exact hK.1 [40] 30 4 _ _ _ _ _ ⟨fun _ => q, fun z => absurd c1 z⟩
    | succ r ih =>
      intro b i y M1 hb hi hy e1 e34
      subst hi
      subst hy
      have hbn : b < nb := by omega
      have c1 : ¬ M1 f 0 ≤ nI b := by
        rw [e1 f (by omega), hsz]
        exact nI_ge (by omega) (by omega)
      have vb : vp_in (nI b) 100 := vp_in_nI (by omega) (by decide)
      have eb : (nI b).toNatClampNeg = b := nI_clamp (by omega)
      have m34 : M1 34 (nI b).toNatClampNeg = M 34 b := by rw [eb, e34 b hbn, if_neg (by omega)]
      have gb := hgo b hbn
      by_cases hg : gone b = true
      · rw [if_pos hg] at gb
        have nx := ih (b + 1) (nI b + 1) (nI (nu gone b)) M1 (by omega) (nI_1 b) (by conv => rhs; unfold nu; rw [if_pos hg]) e1 (fun c hc => by
          rw [e34 c hc]
          by_cases e : c = b
          · rw [e, if_neg (by omega), if_neg (fun w => by rw [hg] at w; cases w.2)]
          · by_cases hcb : c < b ∧ gone c = false
            · rw [if_pos hcb, if_pos ⟨by omega, hcb.2⟩]
            · rw [if_neg hcb, if_neg (fun w => hcb ⟨by omega, w.2⟩)])
        have g1 := m34.trans gb
        rcases hf with rfl | rfl <;>
        exact hK.1 [4] 30 4 _ _ _ _ _ ⟨fun z => absurd z c1, fun _ => ⟨vb, fun _ => nx, fun z => absurd g1 z⟩⟩
      · rw [if_neg hg] at gb
        have hg' : gone b = false := by simpa using hg
        have nx := ih (b + 1) (nI b + 1) (nI (nu gone b) + 1) (mc_put M1 34 (nI b).toNatClampNeg (nI (nu gone b))) (by omega) (nI_1 b) (by conv => rhs; unfold nu; rw [if_neg hg, ← nI_1]) (fun c hc => by
          funext x
          rw [mc_put_at, if_neg (fun w => hc w.1), e1 c hc]) (fun c hc => by
          rw [mc_put_at, eb, e34 c hc]
          by_cases e : c = b
          · rw [e, if_pos ⟨rfl, rfl⟩, if_pos ⟨by omega, hg'⟩]
          · rw [if_neg (fun w => e w.2)]
            by_cases hcb : c < b ∧ gone c = false
            · rw [if_pos hcb, if_pos ⟨by omega, hcb.2⟩]
            · rw [if_neg hcb, if_neg (fun w => hcb ⟨by omega, w.2⟩)])
        have g1 : ¬ M1 34 (nI b).toNatClampNeg = -1 := fun z => gb (m34.symm.trans z)
        rcases hf with rfl | rfl <;>
        exact hK.1 [4] 30 4 _ _ _ _ _ ⟨fun z => absurd z c1, fun _ => ⟨vb, fun z => absurd z g1, fun _ => ⟨vb, nx⟩⟩⟩
  have l1' := fun K hK => l1 K hK nb 0 0 0 M rfl rfl rfl (fun c _ => rfl) (fun c hc => by rw [if_neg (fun w => absurd w.1 (Nat.not_lt_zero _))])
  rcases hf with rfl | rfl <;>
  exact inC_numberAnew (Nat.le_of_ble_eq_true rfl) (fun K hK => hK.1 [4] 20 0 _ _ _ _ _ (l1' K hK))
end NA
end
section
/-! Compressor.work -/
def tgs (R : Nat → Blk) (gone : Nat → Bool) (nb : Nat) : Prop := ∀ b, b < nb → gone b = false → ((R b).2.2.1 = 2 ∧ (R b).2.2.2.2.1 = -1 ∧ (R b).2.2.2.2.2 = -1) ∨ ((R b).2.2.1 = 0 ∧ (∃ t, t < nb ∧ gone t = false ∧ (R b).2.2.2.2.1 = nI t) ∧ (R b).2.2.2.2.2 = -1) ∨ ((R b).2.2.1 = 1 ∧ (∃ t, t < nb ∧ gone t = false ∧ (R b).2.2.2.2.1 = nI t) ∧ ∃ t, t < nb ∧ gone t = false ∧ (R b).2.2.2.2.2 = nI t)
theorem tgs_l {R : Nat → Blk} {gone : Nat → Bool} {nb : Nat} (h : tgs R gone nb) : tgl R gone nb := fun b hb gb => by
  rcases h b hb gb with ⟨y, -⟩ | ⟨y, ⟨t, ht, -, hte⟩, -⟩ | ⟨y, ⟨t, ht, -, hte⟩, t', ht', -, hte'⟩
  · exact Or.inl y
  · exact Or.inr ⟨⟨t, ht, hte⟩, Or.inl y⟩
  · exact Or.inr ⟨⟨t, ht, hte⟩, Or.inr ⟨y, t', ht', hte'⟩⟩
theorem tgs_n {R : Nat → Blk} {gone : Nat → Bool} {nb : Nat} (h : tgs R gone nb) : tno R gone nb := fun b hb gb => by
  rcases h b hb gb with ⟨-, y1, y2⟩ | ⟨-, y1, y2⟩ | ⟨-, y1, y2⟩
  · exact ⟨Or.inl y1, Or.inl y2⟩
  · exact ⟨Or.inr y1, Or.inl y2⟩
  · exact ⟨Or.inr y1, Or.inr y2⟩
theorem sp_gn_f {gone : Nat → Bool} {k c : Nat} (h : sp_gn gone k c = false) : c ≠ k ∧ gone c = false := by
  unfold sp_gn at h
  by_cases hck : c = k
  · rw [if_pos hck] at h
    cases h
  · rw [if_neg hck] at h
    exact ⟨hck, h⟩
theorem sp_gn_of {gone : Nat → Bool} {k c : Nat} (h : c ≠ k) (g : gone c = false) : sp_gn gone k c = false := by
  unfold sp_gn
  rw [if_neg h, g]
theorem tgs_jn {R : Nat → Blk} {gone : Nat → Bool} {nb b k : Nat} (h : tgs R gone nb) (hnb : nb ≤ 100) (hk : k < nb) (gk : gone k = false) (hbk : b ≠ k) (har : ∀ c, c < nb → c ≠ b → ar_n R gone c k = 0) : tgs (sp_jn R b k) (sp_gn gone k) nb := by
  have key : ∀ c, c < nb → c ≠ b → gone c = false → ((R c).2.2.1 = 2 ∧ (R c).2.2.2.2.1 = -1 ∧ (R c).2.2.2.2.2 = -1) ∨ ((R c).2.2.1 = 0 ∧ (∃ t, t < nb ∧ sp_gn gone k t = false ∧ (R c).2.2.2.2.1 = nI t) ∧ (R c).2.2.2.2.2 = -1) ∨ ((R c).2.2.1 = 1 ∧ (∃ t, t < nb ∧ sp_gn gone k t = false ∧ (R c).2.2.2.2.1 = nI t) ∧ ∃ t, t < nb ∧ sp_gn gone k t = false ∧ (R c).2.2.2.2.2 = nI t) := by
    intro c hc hcb gc
    have a := har c hc hcb
    unfold ar_n at a
    rcases h c hc gc with y | ⟨y, ⟨t, ht, gt, hte⟩, y2⟩ | ⟨y, ⟨t, ht, gt, hte⟩, t', ht', gt', hte'⟩
    · exact Or.inl y
    · rw [if_neg (by rw [gc, y]; simp)] at a
      have ntk : t ≠ k := fun z => by
        rw [if_pos (by rw [hte, z])] at a
        omega
      exact Or.inr (Or.inl ⟨y, ⟨t, ht, sp_gn_of ntk gt, hte⟩, y2⟩)
    · rw [if_neg (by rw [gc, y]; simp)] at a
      have ntk : t ≠ k := fun z => by
        rw [if_pos (by rw [hte, z])] at a
        omega
      have ntk' : t' ≠ k := fun z => by
        have : (R c).2.2.1 = 1 ∧ (R c).2.2.2.2.2 = nI k := ⟨y, by rw [hte', z]⟩
        rw [if_pos this] at a
        omega
      exact Or.inr (Or.inr ⟨y, ⟨t, ht, sp_gn_of ntk gt, hte⟩, t', ht', sp_gn_of ntk' gt', hte'⟩)
  intro c hc gc
  obtain ⟨hck, gc⟩ := sp_gn_f gc
  unfold sp_jn
  by_cases hcb : c = b
  · rw [if_pos hcb]
    exact key k hk (Ne.symm hbk) gk
  · rw [if_neg hcb]
    exact key c hc hcb gc
theorem crs_to {T : Nat → Nat → Int32} {m : Nat} {S : Int32} {M M' : mc_M} {f nb : Nat} {R : Nat → Blk} {gone : Nat → Bool} {SS : Nat → List Nat} {J : Nat → Nat} (h : crs T m S M f nb R gone SS J) (hM : ∀ i, 1 ≤ i → i ≤ 12 → M' (f + i) = M (f + i)) : crs T m S M' f nb R gone SS J := by
  unfold crs fl_blk fl_sv fl_as at h ⊢
  rw [hM 1 (by decide) (by decide), hM 2 (by decide) (by decide), hM 3 (by decide) (by decide), hM 4 (by decide) (by decide), hM 5 (by decide) (by decide), hM 6 (by decide) (by decide), hM 7 (by decide) (by decide), hM 8 (by decide) (by decide), hM 9 (by decide) (by decide), hM 10 (by decide) (by decide), hM 11 (by decide) (by decide), hM 12 (by decide) (by decide)]
  exact h
def sp_cw (nb : Nat) : Nat → (Nat → Blk) × (Nat → Bool) → (Nat → Blk) × (Nat → Bool)
  | 0, p => p
  | fu + 1, p => match sp_low p.2 (sp_ag p.1 p.2 nb).1 (sp_ag p.1 p.2 nb).2 (nb - 1) 1 with
    | none => p
    | some k => sp_cw nb fu (sp_jn p.1 ((sp_ag p.1 p.2 nb).2 k).toNatClampNeg k, sp_gn p.2 k)
/-- what Compressor.work leaves as it was -/
def cfr (f : Nat) (M M' : mc_M) : Prop := ∀ c, c ≠ 32 → c ≠ 33 → c ≠ 34 → (c < f + 2 ∨ f + 5 < c) → c ≠ f + 11 → M' c = M c
section CW
variable {g : mc_G} {d n f : Nat} {M : mc_M} {L : mc_L} {Q : Option Value → mc_M → mc_L → Prop} {T : Nat → Nat → Int32} {m : Nat} {S : Int32}
theorem cC_work (hf : rs_is f) {nb : Nat} {R : Nat → Blk} {SS : Nat → List Nat} {J : Nat → Nat} (hnb : nb ≤ 100) (hsz : M f 0 = nI nb) (hcr : crs T m S M f nb R (fun _ => false) SS J) (htg : tgs R (fun _ => false) nb) (hd : 3 ≤ d)
    (h : ∀ M0 M1 M2 SS' J', cfr f M M0 → crs T m S M0 f nb (sp_cw nb nb (R, fun _ => false)).1 (sp_cw nb nb (R, fun _ => false)).2 SS' J' → tgs (sp_cw nb nb (R, fun _ => false)).1 (sp_cw nb nb (R, fun _ => false)).2 nb → (∀ c, c ≠ 34 → M1 c = M0 c) → anew M1 M2 f nb nb (sp_cw nb nb (R, fun _ => false)).1 (sp_cw nb nb (R, fun _ => false)).2 J' → Q none (mc_put M2 f 0 (nI (nu (sp_cw nb nb (R, fun _ => false)).2 nb))) L) : ctC_work g d [.ref 31, .ref f] n M L Q := by
  obtain ⟨d, rfl⟩ := Nat.exists_eq_add_of_le' (show 1 ≤ d by omega)
  have hf34 : 34 < f := by rcases hf with rfl | rfl <;> decide
  have cj : ∀ (M1 : mc_M) (R : Nat → Blk) (gone : Nat → Bool) (SS : Nat → List Nat) (J : Nat → Nat), M1 f 0 = nI nb → (∀ b, b < nb → if gone b = true then M1 34 b = -1 else ¬ M1 34 b = -1) → crs T m S M1 f nb R gone SS J → tgs R gone nb → cjs M1 f nb R gone := fun M1 R gone SS J h0 h1 h2 h3 => ⟨hnb, h0, h1, fun b hb gb => by
    obtain ⟨⟨-, -, -, -, -, -, q1, q2, q3, -, q4, q5⟩, -⟩ := h2.1 b hb gb
    exact ⟨J b, q2, q1, q3, q4, q5⟩, tgs_l h3⟩
  have fin : ∀ (K : mc_K), mc_closed true tab0 n 0 none (shC_work g d) Q (fun _ _ _ => False) tbC_work K → ∀ (M1 : mc_M) (SS : Nat → List Nat) (J : Nat → Nat), cfr f M M1 → M1 f 0 = nI nb → (∀ b, b < nb → if (sp_cw nb nb (R, fun _ => false)).2 b = true then M1 34 b = -1 else ¬ M1 34 b = -1) → crs T m S M1 f nb (sp_cw nb nb (R, fun _ => false)).1 (sp_cw nb nb (R, fun _ => false)).2 SS J → tgs (sp_cw nb nb (R, fun _ => false)).1 (sp_cw nb nb (R, fun _ => false)).2 nb → ∀ x y, K 61 [some (.ref 31), some (.ref f), x, y] [] n M1 L := by
    intro K hK M1 SS J hfr h0 h34 hcr htg x y
    have hJ : ∀ b, b < nb → (sp_cw nb nb (R, fun _ => false)).2 b = false → J b < 100 ∧ M1 (f + 5) b = nI (J b) ∧ M1 (f + 7) (J b) = ((sp_cw nb nb (R, fun _ => false)).1 b).2.2.2.2.1 ∧ M1 (f + 8) (J b) = ((sp_cw nb nb (R, fun _ => false)).1 b).2.2.2.2.2 := fun b hb gb => by
      obtain ⟨⟨-, -, -, -, -, -, q1, q2, q3, -, q4, q5⟩, -⟩ := hcr.1 b hb gb
      exact ⟨q2, q1, q4, q5⟩
    have hJd : ∀ b c, b < nb → c < nb → (sp_cw nb nb (R, fun _ => false)).2 b = false → (sp_cw nb nb (R, fun _ => false)).2 c = false → b ≠ c → J b ≠ J c := fun b c hb hc gb gc hbc => (hcr.2 b c hb hc gb gc hbc).2
    have hf' := hf
    rcases hf with rfl | rfl <;>
    exact hK.1 [] 20 61 _ _ _ _ _ (cC_numberAnew hf' hnb h0 h34 hJ hJd (tgs_n htg) (by omega) (fun M2 M3 e1 e2 => ⟨Nat.le_refl _, h M1 M2 M3 SS J hfr hcr htg e1 e2⟩))
  have lp : ∀ (K : mc_K), mc_closed true tab0 n 0 none (shC_work g d) Q (fun _ _ _ => False) tbC_work K → ∀ (fu ro : Nat) (i : Int32) (M1 : mc_M) (R' : Nat → Blk) (gone : Nat → Bool) (SS : Nat → List Nat) (J : Nat → Nat), fu + ro = nb → i = nI ro → cfr f M M1 → M1 f 0 = nI nb → (∀ b, b < nb → if gone b = true then M1 34 b = -1 else ¬ M1 34 b = -1) → crs T m S M1 f nb R' gone SS J → tgs R' gone nb → sp_cw nb nb (R, fun _ => false) = sp_cw nb fu (R', gone) → K 10 [some (.ref 31), some (.ref f), some (.int i), none] [] n M1 L := by
    intro K hK fu
    induction fu with
    | zero =>
      intro ro i M1 R' gone SS J hro hi hfr h0 h34 hcr htg hq
      subst hi
      have hq' : sp_cw nb nb (R, fun _ => false) = (R', gone) := hq
      have c1 : M1 f 0 ≤ nI ro := by
        rw [h0]
        exact nI_le (by omega) (by omega)
      have q := fun x y => fin K hK M1 SS J hfr h0 (by rw [hq']; exact h34) (by rw [hq']; exact hcr) (by rw [hq']; exact htg) x y
      rcases hf with rfl | rfl <;>
      exact hK.1 [61] 20 10 _ _ _ _ _ ⟨fun _ => q _ _, fun z => absurd c1 z⟩
    | succ fu ih =>
      intro ro i M1 R' gone SS J hro hi hfr h0 h34 hcr htg hq
      subst hi
      have c1 : ¬ M1 f 0 ≤ nI ro := by
        rw [h0]
        exact nI_ge (by omega) (by omega)
      have hcj := cj M1 R' gone SS J h0 h34 hcr htg
      have post : ∀ M2, fa M1 M2 (sp_ag R' gone nb).1 (sp_ag R' gone nb).2 → M2 f 0 = nI nb ∧ (∀ b, b < nb → if gone b = true then M2 34 b = -1 else ¬ M2 34 b = -1) ∧ crs T m S M2 f nb R' gone SS J ∧ cfr f M M2 := fun M2 h2 => by
        refine ⟨by rw [h2.1 f (by omega) (by omega), h0], fun b hb => by rw [h2.1 34 (by decide) (by decide)]; exact h34 b hb, crs_to hcr (fun i h1 h3 => h2.1 _ (by omega) (by omega)), fun c a1 a2 a3 a4 a5 => by rw [h2.1 c a1 a2, hfr c a1 a2 a3 a4 a5]⟩
      have none_ : sp_low gone (sp_ag R' gone nb).1 (sp_ag R' gone nb).2 (nb - 1) 1 = none → ∀ M2, fa M1 M2 (sp_ag R' gone nb).1 (sp_ag R' gone nb).2 → ∀ x y, K 61 [some (.ref 31), some (.ref f), x, y] [] n M2 L := fun hz M2 h2 x y => by
        obtain ⟨p1, p2, p3, p4⟩ := post M2 h2
        have hq' : sp_cw nb nb (R, fun _ => false) = (R', gone) := by
          rw [hq]
          unfold sp_cw
          rw [hz]
        exact fin K hK M2 SS J p4 p1 (by rw [hq']; exact p2) (by rw [hq']; exact p3) (by rw [hq']; exact htg) x y
      have some_ : ∀ k, sp_low gone (sp_ag R' gone nb).1 (sp_ag R' gone nb).2 (nb - 1) 1 = some k → ∀ M2, fa M1 M2 (sp_ag R' gone nb).1 (sp_ag R' gone nb).2 → ∃ b lb, b < nb ∧ b ≠ k ∧ M2 33 (nI k).toNatClampNeg = nI b ∧ M2 (f + 2) b = nI (SS b).length ∧ M2 (f + 2) k = nI (SS k).length ∧ (SS b).length ≤ 1100 ∧ (SS k).length ≤ 1100 ∧ (0 < (SS b).length → M2 (f + 4) b = nI lb ∧ lb < 1100) ∧ ∀ M3, M3 = fl_jn M2 f b k (SS b).length (SS k).length lb → ∀ y, K 10 [some (.ref 31), some (.ref f), some (.int (nI ro + 1)), y] [] n (mc_put M3 34 (nI k).toNatClampNeg (-1)) L := fun k hz M2 h2 => by
        obtain ⟨p1, p2, p3, p4⟩ := post M2 h2
        obtain ⟨k1, hk, gk, b, hb, hbk, gb, hG, kb, ob, har⟩ := sp_low_is hnb (tgs_l htg) hz
        obtain ⟨⟨b1, b2, b3, b4, -⟩, b5, b6⟩ := p3.1 b hb gb
        obtain ⟨⟨-, c2, c3, -⟩, -⟩ := p3.1 k hk gk
        have ek : (nI k).toNatClampNeg = k := nI_clamp (by omega)
        refine ⟨b, (SS b).getLast?.getD 0, hb, hbk, by rw [ek, h2.2.2 k (by omega), hG], b2, c2, b3, c3, fun hp => ?_, fun M3 z3 y => ?_⟩
        · cases hq2 : (SS b).getLast? with
          | none =>
            rw [List.getLast?_eq_none_iff] at hq2
            rw [hq2] at hp
            exact absurd hp (Nat.lt_irrefl _)
          | some l => exact ⟨b5 l hq2, fl_ch_lt b4 l (List.mem_of_getLast? hq2)⟩
        · have hlb : ∀ l, (SS b).getLast? = some l → l = (SS b).getLast?.getD 0 := fun l hl => by rw [hl]; rfl
          have q3 := crs_jn p3 hb hk gb gk hbk hlb z3
          obtain ⟨a1, a2, a3, a4, -, -⟩ := fl_jn_at M2 f b k (SS b).length (SS k).length ((SS b).getLast?.getD 0)
          rw [← z3] at a1 a2 a3 a4
          have w : ∀ c, c ≠ 34 → mc_put M3 34 (nI k).toNatClampNeg (-1) c = M3 c := fun c hc => by
            funext x
            rw [mc_put_at, if_neg (fun v => hc v.1)]
          refine hK.2 [true, true, true, false] _ _ _ _ _ _ ?_
          refine ih (ro + 1) _ _ (sp_jn R' b k) (sp_gn gone k) _ _ (by omega) (nI_1 ro) (fun c x1 x2 x3 x4 x5 => ?_) ?_ (fun c hc => ?_) (crs_to q3 (fun i h1 h3 => w _ (by omega))) (tgs_jn htg hnb hk gk hbk har) ?_
          · rw [w c x3, a4 c (by omega) (by omega) (by omega) (by omega) (by omega), p4 c x1 x2 x3 x4 x5]
          · rw [w f (by omega), a4 f (by omega) (by omega) (by omega) (by omega) (by omega), p1]
          · rw [mc_put_at, ek, a4 34 (by omega) (by omega) (by omega) (by omega) (by omega)]
            unfold sp_gn
            by_cases e : c = k
            · rw [if_pos e, if_pos rfl, if_pos ⟨rfl, e⟩]
            · have e3 : (if c = k then true else gone c) = gone c := if_neg e
              have e4 : (if (34 : Nat) = 34 ∧ c = k then (-1 : Int32) else M2 34 c) = M2 34 c := if_neg (fun v => e v.2)
              rw [e3, e4]
              exact p2 c hc
          · rw [hq]
            conv => lhs; unfold sp_cw
            dsimp only
            rw [hz]
            dsimp only
            rw [hG, nI_clamp (by omega)]
      have hf' := hf
      cases hlow : sp_low gone (sp_ag R' gone nb).1 (sp_ag R' gone nb).2 (nb - 1) 1 with
      | none =>
        rcases hf with rfl | rfl <;>
        exact hK.1 [10, 61] 40 10 _ _ _ _ _ ⟨fun z => absurd z c1, fun _ => cC_findArrivals hf' hcj (by omega) (fun M2 h2 => cC_lowestToMove hf' hnb (post M2 h2).1 (post M2 h2).2.1 h2.2.1 h2.2.2 (by omega) (fun b hb => absurd (hlow.symm.trans hb) (by simp)) (fun _ => ⟨fun z => absurd rfl z, fun _ => none_ hlow M2 h2 _ _⟩))⟩
      | some k =>
        have hk1 := sp_low_some hlow
        have vk : vp_in (nI k) 100 := vp_in_nI (by omega) (by decide)
        have nk : ¬ nI k = -1 := nI_ne_m1 (by omega)
        rcases hf with rfl | rfl <;>
        exact hK.1 [10, 61] 40 10 _ _ _ _ _ ⟨fun z => absurd z c1, fun _ => cC_findArrivals hf' hcj (by omega) (fun M2 h2 => cC_lowestToMove hf' hnb (post M2 h2).1 (post M2 h2).2.1 h2.2.1 h2.2.2 (by omega) (fun b hb _ hbn => ⟨fun _ => (some_ b hb M2 h2).elim (fun b' o => o.elim (fun lb o => ⟨vp_in_nI (Nat.lt_of_lt_of_le hbn hnb) (by decide), cF_join hf' o.2.2.1 rfl (Nat.lt_of_lt_of_le o.1 hnb) (Nat.lt_of_lt_of_le hbn hnb) o.2.1 o.2.2.2.1 o.2.2.2.2.1 o.2.2.2.2.2.1 o.2.2.2.2.2.2.1 o.2.2.2.2.2.2.2.1 (by omega) (fun M3 z3 => ⟨vp_in_nI (Nat.lt_of_lt_of_le hbn hnb) (by decide), o.2.2.2.2.2.2.2.2 M3 z3 _⟩)⟩)), fun z => absurd z (nI_ne_m1 (by omega))⟩) (fun hz => absurd (hlow.symm.trans hz) (by simp)))⟩
  have ini : ∀ M1, M1 = mc_set M 34 (fun i => if i < 100 then 0 else M 34 i) → cfr f M M1 ∧ M1 f 0 = nI nb ∧ (∀ b, b < nb → if (fun _ => false) b = true then M1 34 b = -1 else ¬ M1 34 b = -1) ∧ crs T m S M1 f nb R (fun _ => false) SS J := fun M1 z1 => by
    have w : ∀ c, c ≠ 34 → M1 c = M c := fun c hc => by rw [z1, mc_set_n hc]
    refine ⟨fun c _ _ a3 _ _ => w c a3, by rw [w f (by omega), hsz], fun b hb => ?_, crs_to hcr (fun i h1 h3 => w _ (by omega))⟩
    have q : ¬ M1 34 b = -1 := by
      rw [z1, mc_set_s, if_pos (by omega)]
      decide
    simpa using q
  have lp' := fun K hK M1 z1 => lp K hK nb 0 0 M1 R (fun _ => false) SS J rfl rfl (ini M1 z1).1 (ini M1 z1).2.1 (ini M1 z1).2.2.1 (ini M1 z1).2.2.2 htg rfl
  rcases hf with rfl | rfl <;>
  exact inC_work (Nat.le_of_ble_eq_true rfl) (fun K hK => hK.1 [10] 20 0 _ _ _ _ _ (cJ_fill (Or.inr (Or.inr (Or.inr ⟨rfl, rfl⟩))) (by omega) (fun M1 z1 => lp' K hK M1 z1)))
end CW
end
section
/-! Text: signs and numbers -/
theorem lN_toInt' {n : Nat} (h : n < 2 ^ 63) : (lN n).toInt = (n : Int) := lg_ofNat_toInt h
theorem lN_div {a b : Nat} (ha : a < 2 ^ 63) (hb : b < 2 ^ 63) : lN a / lN b = lN (a / b) := by
  have hle : a / b ≤ a := Nat.div_le_self a b
  apply Int64.toInt_inj.mp
  rw [Int64.toInt_div, lN_toInt' ha, lN_toInt' hb, lN_toInt' (by omega), ← Int.ofNat_tdiv]
  generalize a / b = q at hle ⊢
  refine Int.bmod_eq_of_le ?_ ?_ <;> omega
theorem lN_lt' {a b : Nat} (ha : a < 2 ^ 63) (hb : b < 2 ^ 63) : lN a < lN b ↔ a < b := by
  rw [Int64.lt_iff_toInt_lt, lN_toInt' ha, lN_toInt' hb]
  omega
theorem lN_le' {a b : Nat} (ha : a < 2 ^ 63) (hb : b < 2 ^ 63) : lN a ≤ lN b ↔ a ≤ b := by
  rw [Int64.le_iff_toInt_le, lN_toInt' ha, lN_toInt' hb]
  omega
theorem lN_eq' {a b : Nat} (ha : a < 2 ^ 63) (hb : b < 2 ^ 63) : lN a = lN b ↔ a = b := by
  rw [← Int64.toInt_inj, lN_toInt' ha, lN_toInt' hb]
  omega
/-- the text so far -/
def txt (M : mc_M) (tx : List Int32) : Prop := M 35 2 = nI tx.length ∧ ∀ i, i < 3000 → ∀ c, tx[i]? = some c → M 36 i = c
def txf (M M' : mc_M) : Prop := (∀ c, c ≠ 35 → c ≠ 36 → M' c = M c) ∧ M' 35 3 = M 35 3
theorem txf_tr {M M' M'' : mc_M} (h : txf M M') (h' : txf M' M'') : txf M M'' := ⟨fun c h1 h2 => (h'.1 c h1 h2).trans (h.1 c h1 h2), h'.2.trans h.2⟩
section TX
variable {g : mc_G} {d n : Nat} {M : mc_M} {L : mc_L} {Q : Option Value → mc_M → mc_L → Prop} {tx : List Int32}
theorem cT_put {c : Int32} (ht : txt M tx) (hc : vp_nar .char c = c) (hl : tx.length + 1 < 2 ^ 31) (hd : 1 ≤ d) (h : ∀ M', txt M' (tx ++ [c]) → txf M M' → Q none M' L) : ctT_put g d [.ref 35, .int c] n M L Q := by
  obtain ⟨d, rfl⟩ := Nat.exists_eq_add_of_le' hd
  have full : (3000 : Int32) ≤ M 35 2 → Q none (mc_put M 35 2 (M 35 2 + 1)) L := fun z => by
    rw [ht.1] at z
    have z' : 3000 ≤ tx.length := (nI_leI (a := 3000) (by decide) (by omega)).mp z
    refine h _ ⟨?_, fun i hi c' hc' => ?_⟩ ⟨fun x h1 h2 => ?_, ?_⟩
    · rw [mc_put_at, if_pos ⟨rfl, rfl⟩, ht.1, nI_1, List.length_append]
      rfl
    · rw [List.getElem?_append_left (by omega)] at hc'
      rw [mc_put_at, if_neg (by omega)]
      exact ht.2 i hi c' hc'
    · funext y
      rw [mc_put_at, if_neg (fun w => h1 w.1)]
    · rw [mc_put_at, if_neg (by decide)]
  have room : ¬ (3000 : Int32) ≤ M 35 2 → vp_in (M 35 2) 3000 ∧ ∀ M1, M1 = mc_put M 36 (M 35 2).toNatClampNeg (vp_nar .char c) → Q none (mc_put M1 35 2 (M1 35 2 + 1)) L := fun z => by
    have z' : tx.length < 3000 := Nat.lt_of_not_le (fun w => z (by rw [ht.1]; exact nI_le (a := 3000) w (by omega)))
    refine ⟨by rw [ht.1]; exact vp_in_nI z' (by decide), fun M1 z1 => ?_⟩
    rw [hc, ht.1, nI_clamp (by omega)] at z1
    have m35 : M1 35 = M 35 := by
      funext y
      rw [z1, mc_put_at, if_neg (by omega)]
    refine h _ ⟨?_, fun i hi c' hc' => ?_⟩ ⟨fun x h1 h2 => ?_, ?_⟩
    · rw [mc_put_at, if_pos ⟨rfl, rfl⟩, m35, ht.1, nI_1, List.length_append]
      rfl
    · rw [mc_put_at, if_neg (by omega), z1, mc_put_at]
      by_cases e : i = tx.length
      · rw [if_pos ⟨rfl, e⟩]
        rw [e, List.getElem?_append_right (Nat.le_refl _), Nat.sub_self] at hc'
        exact Option.some.inj hc'
      · have hlt : i < tx.length := by
          have h1 := (List.getElem?_eq_some_iff.mp hc').1
          rw [List.length_append] at h1
          have h2 : i < tx.length + 1 := h1
          omega
        rw [List.getElem?_append_left hlt] at hc'
        rw [if_neg (fun w => e w.2)]
        exact ht.2 i hi c' hc'
    · funext y
      rw [mc_put_at, if_neg (fun w => h1 w.1), z1, mc_put_at, if_neg (fun w => h2 w.1)]
    · rw [mc_put_at, if_neg (by decide), m35]
  exact inT_put (Nat.le_of_ble_eq_true rfl) (fun K hK => hK.1 [] 30 0 _ _ _ _ _ ⟨fun z => ⟨Nat.le_refl _, full z⟩, fun z => ⟨(room z).1, Nat.le_refl _, (room z).2 _ rfl⟩⟩)
theorem cT_putLetter {v : Nat} {x : Int32} (hx : x = nI v) (hv : v < 8) (ht : txt M tx) (hl : tx.length + 1 < 2 ^ 31) (hd : 2 ≤ d) (h : ∀ M', txt M' (tx ++ [nI (97 + v)]) → txf M M' → Q none M' L) : ctT_putLetter g d [.ref 35, .int x] n M L Q := by
  obtain ⟨d, rfl⟩ := Nat.exists_eq_add_of_le' (show 1 ≤ d by omega)
  subst hx
  have e : (((97 : Int32) + nI v).toUInt32 % 65536).toInt32 = nI (97 + v) ∧ vp_nar .char ((((97 : Int32) + nI v).toUInt32 % 65536).toInt32) = (((97 : Int32) + nI v).toUInt32 % 65536).toInt32 := by
    have h9 : v = 0 ∨ v = 1 ∨ v = 2 ∨ v = 3 ∨ v = 4 ∨ v = 5 ∨ v = 6 ∨ v = 7 := by omega
    rcases h9 with rfl | rfl | rfl | rfl | rfl | rfl | rfl | rfl <;> decide +kernel
  exact inT_putLetter (Nat.le_of_ble_eq_true rfl) (fun K hK => hK.1 [] 30 0 _ _ _ _ _ (cT_put ht e.2 hl (by omega) (fun M' h1 h2 => ⟨Nat.le_refl _, h M' (by rw [← e.1]; exact h1) h2⟩)))
def sp_un (r : Nat) : Nat → Nat → Nat
  | 0, u => u
  | f + 1, u => if 10 ≤ r / u then sp_un r f (u * 10) else u
def sp_dg (r : Nat) : Nat → Nat → List Int32
  | 0, _ => []
  | f + 1, u => if 0 < u then nI (48 + r / u % 10) :: sp_dg r f (u / 10) else []
def sp_num (x : Int32) : List Int32 := if x < 0 then 45 :: sp_dg (-x.toInt).toNat 10 (sp_un (-x.toInt).toNat 9 1) else sp_dg x.toInt.toNat 10 (sp_un x.toInt.toNat 9 1)
theorem sp_dg_len (r : Nat) : ∀ f u, (sp_dg r f u).length ≤ f
  | 0, _ => Nat.le_refl _
  | f + 1, u => by
    unfold sp_dg
    split
    · have := sp_dg_len r f (u / 10)
      simp
      omega
    · simp
theorem sp_un_le (r : Nat) : ∀ f u, sp_un r f u ≤ u * 10 ^ f
  | 0, u => by simp [sp_un]
  | f + 1, u => by
    unfold sp_un
    split
    · have := sp_un_le r f (u * 10)
      rw [Nat.pow_succ, Nat.mul_comm (10 ^ f) 10, ← Nat.mul_assoc]
      exact this
    · exact Nat.le_mul_of_pos_right _ (Nat.pow_pos (by decide))
theorem ch_ok : ∀ q, q < 10 → ((nI (48 + q)).toUInt32 % 65536).toInt32 = nI (48 + q) ∧ vp_nar .char (nI (48 + q)) = nI (48 + q) := by
  intro q hq
  have h9 : q = 0 ∨ q = 1 ∨ q = 2 ∨ q = 3 ∨ q = 4 ∨ q = 5 ∨ q = 6 ∨ q = 7 ∨ q = 8 ∨ q = 9 := by omega
  rcases h9 with rfl | rfl | rfl | rfl | rfl | rfl | rfl | rfl | rfl | rfl <;> decide +kernel
theorem cT_digits {r : Nat} (hr : r < 2 ^ 32) {x : Int32} (hl : tx.length + 11 < 2 ^ 31) (hd : 1 ≤ d) (h : ∀ M', txt M' (tx ++ sp_dg r 10 (sp_un r 9 1)) → txf M M' → Q none M' L) (ht : txt M tx) (K : mc_K) (hK : mc_closed true tab0 n 0 none (shT_putNumber g d) Q (fun _ _ _ => False) tbT_putNumber K) : K 18 [some (.ref 35), some (.int x), some (.long (lN r)), none, none, none, none] [] n M L := by
  have l2 : ∀ (fu k : Nat) (i : Int32) (u : Nat) (M1 : mc_M) (t1 : List Int32), fu + k = 10 → i = nI k → u < 2 ^ 63 → txt M1 t1 → txf M M1 → t1.length ≤ tx.length + k → (∀ M', txt M' (t1 ++ sp_dg r fu u) → txf M M' → Q none M' L) → K 59 [some (.ref 35), some (.int x), some (.long (lN r)), none, some (.long (lN u)), none, some (.int i)] [] n M1 L := by
    intro fu
    induction fu with
    | zero =>
      intro k i u M1 t1 hk hi hu h1 h2 h3 h
      subst hi
      have c1 : (10 : Int32) ≤ nI k := nI_le (a := 10) (by omega) (by omega)
      have q := h M1 (by rw [show sp_dg r 0 u = [] from rfl, List.append_nil]; exact h1) h2
      exact hK.1 [] 20 59 _ _ _ _ _ ⟨fun _ => ⟨Nat.le_refl _, q⟩, fun z => absurd c1 z⟩
    | succ fu ih =>
      intro k i u M1 t1 hk hi hu h1 h2 h3 h
      subst hi
      have c1 : ¬ (10 : Int32) ≤ nI k := nI_ge (b := 10) (by omega) (by decide)
      have stop : lg_cmp (lN u) 0 ≤ 0 → Q none M1 L := fun z => by
        have z' : u ≤ 0 := (lN_le' (b := 0) hu (by decide)).mp ((lg_cmp_le _ _).mp z)
        refine h M1 ?_ h2
        unfold sp_dg
        rw [if_neg (by omega), List.append_nil]
        exact h1
      have pos : ¬ lg_cmp (lN u) 0 ≤ 0 → 0 < u := fun z => Nat.lt_of_not_le (fun w => z ((lg_cmp_le _ _).mpr ((lN_le' (b := 0) hu (by decide)).mpr w)))
      have nz : ¬ lg_cmp (lN u) 0 ≤ 0 → ¬ lN u = 0 := fun z w => by
        have := (lN_eq' (b := 0) hu (by decide)).mp w
        have := pos z
        omega
      have q1 : lN r / lN u = lN (r / u) := lN_div (by omega) hu
      have hq : r / u ≤ r := Nat.div_le_self r u
      have q2 : (48 : Int64) + (lN r / lN u - lN r / lN u / 10 * 10) = lN (48 + r / u % 10) := by
        rw [q1, show lN (r / u) / 10 = lN (r / u / 10) from lN_div (b := 10) (by omega) (by decide), show lN (r / u / 10) * 10 = lN (r / u / 10 * 10) from lN_mul _ 10, lN_sub (Nat.div_mul_le_self _ _)]
        rw [show r / u - r / u / 10 * 10 = r / u % 10 by omega]
        exact lN_add 48 _
      have hm : r / u % 10 < 10 := Nat.mod_lt _ (by decide)
      have q3 : (((48 : Int64) + (lN r / lN u - lN r / lN u / 10 * 10)).toInt32.toUInt32 % 65536).toInt32 = nI (48 + r / u % 10) := by
        rw [q2, lN_i]
        exact (ch_ok _ hm).1
      have q4 : vp_nar .char ((((48 : Int64) + (lN r / lN u - lN r / lN u / 10 * 10)).toInt32.toUInt32 % 65536).toInt32) = (((48 : Int64) + (lN r / lN u - lN r / lN u / 10 * 10)).toInt32.toUInt32 % 65536).toInt32 := by
        rw [q3]
        exact (ch_ok _ hm).2
      have q5 : lN u / 10 = lN (u / 10) := lN_div (b := 10) hu (by decide)
      have hu10 : u / 10 ≤ u := Nat.div_le_self u 10
      have nx : ¬ lg_cmp (lN u) 0 ≤ 0 → ∀ M2, txt M2 (t1 ++ [(((48 : Int64) + (lN r / lN u - lN r / lN u / 10 * 10)).toInt32.toUInt32 % 65536).toInt32]) → txf M1 M2 → K 59 [some (.ref 35), some (.int x), some (.long (lN r)), none, some (.long (lN u / 10)), none, some (.int (nI k + 1))] [] n M2 L := fun z M2 a1 a2 => by
        rw [q3] at a1
        rw [q5]
        refine ih (k + 1) _ (u / 10) M2 _ (by omega) (nI_1 k) (by omega) a1 (txf_tr h2 a2) (by rw [List.length_append]; simp; omega) (fun M' b1 b2 => h M' ?_ b2)
        rw [List.append_assoc] at b1
        conv => arg 2; arg 2; unfold sp_dg
        rw [if_pos (pos z)]
        exact b1
      exact hK.1 [59] 60 59 _ _ _ _ _ ⟨fun z => absurd z c1, fun _ => ⟨fun z => ⟨Nat.le_refl _, stop z⟩, fun z => ⟨nz z, by decide, cT_put h1 q4 (by omega) hd (fun M2 a1 a2 => ⟨by decide, nx z M2 a1 a2⟩)⟩⟩⟩
  have l1 : ∀ (fu k : Nat) (i : Int32) (u : Nat), fu + k = 9 → i = nI k → 0 < u → u ≤ 10 ^ k → sp_un r 9 1 = sp_un r fu u → K 24 [some (.ref 35), some (.int x), some (.long (lN r)), none, some (.long (lN u)), none, some (.int i)] [] n M L := by
    intro fu
    have fin : ∀ u, u < 2 ^ 63 → sp_un r 9 1 = u → ∀ i, K 56 [some (.ref 35), some (.int x), some (.long (lN r)), none, some (.long (lN u)), none, some (.int i)] [] n M L := fun u hu hq i => by
      have q := l2 10 0 0 u M tx rfl rfl hu ht ⟨fun _ _ _ => rfl, rfl⟩ (by omega) (by rw [← hq]; exact h)
      exact hK.1 [59] 20 56 _ _ _ _ _ q
    induction fu with
    | zero =>
      intro k i u hk hi hu0 hu hq
      subst hi
      have hk9 : k = 9 := by omega
      subst hk9
      have c1 : (9 : Int32) ≤ nI 9 := by decide
      have q := fin u (by omega) hq (nI 9)
      exact hK.1 [56] 20 24 _ _ _ _ _ ⟨fun _ => q, fun z => absurd c1 z⟩
    | succ fu ih =>
      intro k i u hk hi hu0 hu hq
      subst hi
      have c1 : ¬ (9 : Int32) ≤ nI k := nI_ge (b := 9) (by omega) (by decide)
      have hu9 : u ≤ 10 ^ 9 := Nat.le_trans hu (Nat.pow_le_pow_right (by decide) (by omega))
      have q1 : lN r / lN u = lN (r / u) := lN_div (by omega) (by omega)
      have hrq : r / u ≤ r := Nat.div_le_self r u
      have nz : ¬ lN u = 0 := fun w => by
        have := (lN_eq' (b := 0) (by omega) (by decide)).mp w
        omega
      have stop : lg_cmp (lN r / lN u) 10 < 0 → sp_un r 9 1 = u := fun z => by
        rw [q1] at z
        have z' : r / u < 10 := (lN_lt' (b := 10) (by omega) (by decide)).mp ((lg_cmp_lt _ _).mp z)
        rw [hq]
        unfold sp_un
        rw [if_neg (by omega)]
      have go : ¬ lg_cmp (lN r / lN u) 10 < 0 → K 24 [some (.ref 35), some (.int x), some (.long (lN r)), none, some (.long (lN u * 10)), none, some (.int (nI k + 1))] [] n M L := fun z => by
        rw [q1] at z
        have z' : 10 ≤ r / u := Nat.le_of_not_lt (fun w => z ((lg_cmp_lt _ _).mpr ((lN_lt' (b := 10) (by omega) (by decide)).mpr w)))
        rw [show lN u * 10 = lN (u * 10) from lN_mul u 10]
        refine ih (k + 1) _ (u * 10) (by omega) (nI_1 k) (by omega) (by rw [Nat.pow_succ]; omega) (hq.trans ?_)
        conv => lhs; unfold sp_un
        rw [if_pos z']
      exact hK.1 [24, 56] 30 24 _ _ _ _ _ ⟨fun z => absurd z c1, fun _ => ⟨nz, fun z => fin u (by omega) (stop z) _, go⟩⟩
  exact hK.1 [24] 20 18 _ _ _ _ _ (l1 9 0 0 1 rfl rfl (by decide) (by decide) rfl)
theorem cT_putNumber {x : Int32} (ht : txt M tx) (hl : tx.length + 12 < 2 ^ 31) (hd : 2 ≤ d) (h : ∀ M', txt M' (tx ++ sp_num x) → txf M M' → Q none M' L) : ctT_putNumber g d [.ref 35, .int x] n M L Q := by
  obtain ⟨d, rfl⟩ := Nat.exists_eq_add_of_le' (show 1 ≤ d by omega)
  have b1 := Int32.le_toInt x
  have b2 := Int32.toInt_lt x
  have neg : x < 0 ↔ x.toInt < 0 := by
    rw [Int32.lt_iff_toInt_lt]
    rfl
  have cmp : 0 ≤ lg_cmp x.toInt64 0 ↔ ¬ x < 0 := by
    rw [lg_cmp_ge, Int64.le_iff_toInt_le, Int32.toInt_toInt64, neg]
    show 0 ≤ x.toInt ↔ _
    omega
  have np : ¬ x < 0 → x.toInt64 = lN x.toInt.toNat := fun z => by
    apply Int64.toInt_inj.mp
    rw [Int32.toInt_toInt64, lN_toInt' (by rw [neg] at z; omega)]
    rw [neg] at z
    omega
  have nn : x < 0 → -x.toInt64 = lN (-x.toInt).toNat := fun z => by
    apply Int64.toInt_inj.mp
    rw [neg] at z
    rw [Int64.toInt_neg, Int32.toInt_toInt64, lN_toInt' (by omega)]
    rw [Int.bmod_eq_of_le (by omega) (by omega)]
    omega
  have gp : ∀ K, mc_closed true tab0 n 0 none (shT_putNumber g d) Q (fun _ _ _ => False) tbT_putNumber K → ¬ x < 0 → K 18 [some (.ref 35), some (.int x), some (.long x.toInt64), none, none, none, none] [] n M L := fun K hK z => by
    rw [np z]
    have hsn : sp_num x = sp_dg x.toInt.toNat 10 (sp_un x.toInt.toNat 9 1) := by
      unfold sp_num
      rw [if_neg z]
    rw [hsn] at h
    exact cT_digits (tx := tx) (r := x.toInt.toNat) (by omega) (by omega) (by omega) h ht K hK
  have gn : ∀ K, mc_closed true tab0 n 0 none (shT_putNumber g d) Q (fun _ _ _ => False) tbT_putNumber K → x < 0 → ∀ M1, txt M1 (tx ++ [45]) → txf M M1 → K 18 [some (.ref 35), some (.int x), some (.long (-x.toInt64)), none, none, none, none] [] n M1 L := fun K hK z M1 a1 a2 => by
    rw [nn z]
    have hsn : sp_num x = 45 :: sp_dg (-x.toInt).toNat 10 (sp_un (-x.toInt).toNat 9 1) := by
      unfold sp_num
      rw [if_pos z]
    rw [hsn] at h
    exact cT_digits (tx := tx ++ [45]) (r := (-x.toInt).toNat) (by omega) (by rw [List.length_append]; simp; omega) (by omega) (fun M' c1 c2 => h M' (by rw [List.append_assoc] at c1; exact c1) (txf_tr a2 c2)) a1 K hK
  exact inT_putNumber (Nat.le_of_ble_eq_true rfl) (fun K hK => hK.1 [18] 30 0 _ _ _ _ _ ⟨fun z => gp K hK (cmp.mp z), fun z => cT_put ht (by decide +kernel) (by omega) (by omega) (fun M1 a1 a2 => gn K hK (Decidable.of_not_not (fun w => z (cmp.mpr w))) M1 a1 a2)⟩)
end TX
end
section
/-! From what mixing leaves to blocks -/
def stp (b : Nat) : Nat → Nat → List Nat
  | _, 0 => []
  | i, r + 1 => (b * 11 + i) :: stp b (i + 1) r
theorem stp_len (b : Nat) : ∀ i r, (stp b i r).length = r
  | _, 0 => rfl
  | i, r + 1 => by
    unfold stp
    rw [List.length_cons, stp_len b (i + 1) r]
theorem stp_mem (b : Nat) : ∀ i r s, s ∈ stp b i r → ∃ k, i ≤ k ∧ k < i + r ∧ s = b * 11 + k
  | _, 0, s, h => absurd h List.not_mem_nil
  | i, r + 1, s, h => by
    rcases List.mem_cons.mp h with rfl | h
    · exact ⟨i, Nat.le_refl _, by omega, rfl⟩
    · obtain ⟨k, h1, h2, h3⟩ := stp_mem b (i + 1) r s h
      exact ⟨k, by omega, by omega, h3⟩
theorem stp_nodup (b : Nat) : ∀ i r, (stp b i r).Nodup
  | _, 0 => List.nodup_nil
  | i, r + 1 => List.nodup_cons.mpr ⟨fun h => by
      obtain ⟨k, h1, -, h3⟩ := stp_mem b (i + 1) r _ h
      omega, stp_nodup b (i + 1) r⟩
theorem stp_last (b : Nat) : ∀ i r l, (stp b i r).getLast? = some l → l = b * 11 + (i + r - 1)
  | _, 0, l, h => by cases h
  | i, 1, l, h => by
    have : (some (b * 11 + i) : Option Nat) = some l := h
    rw [← Option.some.inj this]
    rfl
  | i, r + 2, l, h => by
    have h' : (stp b (i + 1) (r + 1)).getLast? = some l := by rw [← h]; rfl
    rw [stp_last b (i + 1) (r + 1) l h']
    congr 1
    omega
theorem stp_ch {N : Nat → Int32} {b W : Nat} : ∀ {r i : Nat} {x : Int32}, (0 < r → x = nI (b * 11 + i)) → (∀ k, i ≤ k → k + 1 < i + r → N (b * 11 + k) = nI (b * 11 + (k + 1))) → (∀ k, i ≤ k → k < i + r → b * 11 + k < W) → fl_ch N W x (stp b i r)
  | 0, _, _, _, _, _ => trivial
  | r + 1, i, x, hx, hN, hW => ⟨hx (by omega), hW i (Nat.le_refl _) (by omega), stp_ch (r := r) (i := i + 1) (fun hr => hN i (Nat.le_refl _) (by omega)) (fun k h1 h2 => hN k (by omega) (by omega)) (fun k h1 h2 => hW k (by omega) (by omega))⟩
theorem stp_map {F : Nat → Asg} {b : Nat} : ∀ (l : List Asg) (i : Nat), (∀ k, k < l.length → l[k]? = some (F (b * 11 + (i + k)))) → l = (stp b i l.length).map F
  | [], _, _ => rfl
  | a :: l, i, h => by
    have h0 := h 0 (by simp)
    have h0' : a = F (b * 11 + i) := Option.some.inj h0
    have ih := stp_map l (i + 1) (fun k hk => by
      have := h (k + 1) (by simp; omega)
      rw [List.getElem?_cons_succ] at this
      rw [this]
      congr 3
      omega)
    show a :: l = F (b * 11 + i) :: (stp b (i + 1) l.length).map F
    rw [← ih, h0']
theorem rdone_blk {T : Nat → Nat → Int32} {m : Nat} {S : Int32} {M : mc_M} {f b : Nat} {B : Blk} (h : rdone T m S M f b B) (hb : b < 100) : fl_blk T m S M f 100 b B (stp b 0 B.2.1.length) b ∧ (∀ l, (stp b 0 B.2.1.length).getLast? = some l → M (f + 4) b = nI l) ∧ (stp b 0 B.2.1.length).Nodup := by
  obtain ⟨h1, ⟨r1, r2, r3, r4, r5⟩, j1, j2, j3, j4, j5⟩ := h
  refine ⟨⟨h1, by rw [stp_len]; exact r1, by rw [stp_len]; omega, stp_ch (fun hr => (r3 hr).1) (fun k _ h2 => r4 k (by omega)) (fun k _ h2 => by omega), fun s hs => ?_, stp_map _ 0 (fun k hk => by rw [Nat.zero_add]; exact (r5 k hk).2), j1, hb, j2, j3, j4, j5⟩, fun l hl => ?_, stp_nodup b 0 _⟩
  · obtain ⟨k, -, hk, rfl⟩ := stp_mem b 0 _ s hs
    exact (r5 k (by omega)).1
  · have e := stp_last b 0 _ l hl
    have hp : 0 < B.2.1.length := Nat.pos_of_ne_zero (fun z => by
      rw [z] at hl
      cases hl)
    rw [e, (r3 hp).2, Nat.zero_add]
theorem rdone_crs {T : Nat → Nat → Int32} {m : Nat} {S : Int32} {M : mc_M} {f nb : Nat} {R : Nat → Blk} (hnb : nb ≤ 100) (h : ∀ b, b < nb → rdone T m S M f b (R b)) : crs T m S M f nb R (fun _ => false) (fun b => stp b 0 (R b).2.1.length) (fun b => b) := by
  refine ⟨fun b hb _ => rdone_blk (h b hb) (by omega), fun b c hb hc _ _ hbc => ⟨fun s hs hs' => ?_, hbc⟩⟩
  obtain ⟨k, -, hk, rfl⟩ := stp_mem b 0 _ s hs
  obtain ⟨k', -, hk', e⟩ := stp_mem c 0 _ _ hs'
  have l1 := (h b hb).2.1.2.1
  have l2 := (h c hc).2.1.2.1
  omega
end
section
/-! The blocks after numberAnew -/
def sp_iv (gone : Nat → Bool) : Nat → Nat → Nat
  | 0, _ => 0
  | b + 1, i => if gone b = false ∧ nu gone b = i then b else sp_iv gone b i
theorem sp_iv_ok {gone : Nat → Bool} : ∀ {nb i : Nat}, i < nu gone nb → sp_iv gone nb i < nb ∧ gone (sp_iv gone nb i) = false ∧ nu gone (sp_iv gone nb i) = i
  | 0, i, h => absurd h (Nat.not_lt_zero _)
  | b + 1, i, h => by
    unfold sp_iv
    by_cases c : gone b = false ∧ nu gone b = i
    · rw [if_pos c]
      exact ⟨by omega, c.1, c.2⟩
    · rw [if_neg c]
      have h' : i < nu gone b := by
        unfold nu at h
        cases hg : gone b with
        | true =>
          rw [hg, if_pos rfl] at h
          exact h
        | false =>
          rw [hg, if_neg (by decide)] at h
          have : ¬ nu gone b = i := fun z => c ⟨hg, z⟩
          omega
      obtain ⟨h1, h2, h3⟩ := sp_iv_ok h'
      exact ⟨by omega, h2, h3⟩
theorem sp_iv_nu {gone : Nat → Bool} {nb b : Nat} (hb : b < nb) (gb : gone b = false) : sp_iv gone nb (nu gone b) = b := by
  obtain ⟨h1, h2, h3⟩ := sp_iv_ok (gone := gone) (nb := nb) (i := nu gone b) (nu_lt hb gb)
  rcases Nat.lt_trichotomy (sp_iv gone nb (nu gone b)) b with h | h | h
  · have := nu_lt h h2
    omega
  · exact h
  · have := nu_lt h gb
    omega
theorem anew_crs {T : Nat → Nat → Int32} {m : Nat} {S : Int32} {M0 M1 M2 : mc_M} {f nb : Nat} {x : Int32} {R : Nat → Blk} {gone : Nat → Bool} {SS : Nat → List Nat} {J : Nat → Nat} (h : crs T m S M0 f nb R gone SS J) (hf : 34 < f) (h1 : ∀ c, c ≠ 34 → M1 c = M0 c) (h2 : anew M1 M2 f nb nb R gone J) :
    crs T m S (mc_put M2 f 0 x) f (nu gone nb) (fun i => sp_rn gone (R (sp_iv gone nb i))) (fun _ => false) (fun i => SS (sp_iv gone nb i)) (fun i => J (sp_iv gone nb i)) := by
  obtain ⟨a1, a2, a3, a4⟩ := h2
  have w : ∀ c, c ≠ f → mc_put M2 f 0 x c = M2 c := fun c hc => by
    funext y
    rw [mc_put_at, if_neg (fun v => hc v.1)]
  have row : ∀ i, i = 6 ∨ 9 ≤ i → mc_put M2 f 0 x (f + i) = M0 (f + i) := fun i hi => by
    rw [w _ (by omega), a1 _ (by omega) (by omega) (by omega), h1 _ (by omega)]
  have lo : ∀ r, r < 5 → ∀ c, c < nb → gone c = false → mc_put M2 f 0 x (f + (r + 1)) (nu gone c) = M0 (f + (r + 1)) c := fun r hr c hc gc => by
    rw [w _ (by omega), a3 r hr c hc hc gc, h1 _ (by omega)]
  refine ⟨fun i hi _ => ?_, fun i i' hi hi' _ _ hii => ?_⟩
  · obtain ⟨i1, i2, i3⟩ := sp_iv_ok hi
    dsimp only
    generalize sp_iv gone nb i = c at i1 i2 i3 ⊢
    subst i3
    obtain ⟨⟨b1, b2, b3, b4, b5, b6, b7, b8, b9, b10, b11, b12⟩, b13, b14⟩ := h.1 c i1 i2
    have l1 : mc_put M2 f 0 x (f + 1) (nu gone c) = M0 (f + 1) c := lo 0 (by decide) c i1 i2
    have l2 : mc_put M2 f 0 x (f + 2) (nu gone c) = M0 (f + 2) c := lo 1 (by decide) c i1 i2
    have l3 : mc_put M2 f 0 x (f + 3) (nu gone c) = M0 (f + 3) c := lo 2 (by decide) c i1 i2
    have l4 : mc_put M2 f 0 x (f + 4) (nu gone c) = M0 (f + 4) c := lo 3 (by decide) c i1 i2
    have l5 : mc_put M2 f 0 x (f + 5) (nu gone c) = M0 (f + 5) c := lo 4 (by decide) c i1 i2
    obtain ⟨q7, q8⟩ := a4 c i1 i2
    rw [if_pos i1] at q7 q8
    refine ⟨⟨by rw [l1]; exact b1, by rw [l2]; exact b2, b3, ?_, fun s hs => ?_, ?_, by rw [l5]; exact b7, b8, ?_, ?_, ?_, ?_⟩, fun l hl => by rw [l4]; exact b13 l hl, b14⟩
    · rw [l3, row 11 (by decide)]
      exact b4
    · unfold fl_sv
      rw [row 9 (by decide), row 10 (by decide)]
      exact b5 s hs
    · show (R c).2.1 = _
      rw [b6]
      unfold fl_as
      rw [row 9 (by decide), row 10 (by decide), row 12 (by decide)]
    · rw [row 6 (by decide)]
      exact b9
    · rw [row 10 (by decide), row 12 (by decide)]
      exact b10
    · rw [w _ (by omega)]
      exact q7
    · rw [w _ (by omega)]
      exact q8
  · obtain ⟨i1, i2, i3⟩ := sp_iv_ok hi
    obtain ⟨j1, j2, j3⟩ := sp_iv_ok hi'
    exact h.2 _ _ i1 j1 i2 j2 (fun z => hii (by rw [← i3, ← j3, z]))
/-- the residual program after compress -/
def sp_comp (nb : Nat) (R : Nat → Blk) : Nat × (Nat → Blk) := (nu (sp_cw nb nb (R, fun _ => false)).2 nb, fun i => sp_rn (sp_cw nb nb (R, fun _ => false)).2 ((sp_cw nb nb (R, fun _ => false)).1 (sp_iv (sp_cw nb nb (R, fun _ => false)).2 nb i)))
theorem tgs_rn {R : Nat → Blk} {gone : Nat → Bool} {nb : Nat} (hnb : nb ≤ 100) (h : tgs R gone nb) : tgs (fun i => sp_rn gone (R (sp_iv gone nb i))) (fun _ => false) (nu gone nb) := by
  have tn : ∀ t : Int32, (∃ u, u < nb ∧ gone u = false ∧ t = nI u) → ∃ u, u < nu gone nb ∧ (fun _ : Nat => false) u = false ∧ sp_tn gone t = nI u := fun t ht => by
    obtain ⟨u, hu, gu, rfl⟩ := ht
    refine ⟨nu gone u, nu_lt hu gu, rfl, ?_⟩
    unfold sp_tn
    rw [if_neg (nI_ne_m1 (by omega)), nI_clamp (by omega)]
  have m1 : sp_tn gone (-1) = -1 := by
    unfold sp_tn
    rw [if_pos rfl]
  intro i hi _
  obtain ⟨i1, i2, -⟩ := sp_iv_ok hi
  rcases h _ i1 i2 with ⟨y, y1, y2⟩ | ⟨y, y1, y2⟩ | ⟨y, y1, y2⟩
  · exact Or.inl ⟨y, (congrArg (sp_tn gone) y1).trans m1, (congrArg (sp_tn gone) y2).trans m1⟩
  · exact Or.inr (Or.inl ⟨y, tn _ y1, (congrArg (sp_tn gone) y2).trans m1⟩)
  · exact Or.inr (Or.inr ⟨y, tn _ y1, tn _ y2⟩)
end
section
/-! Compressor.work, as the rest sees it -/
section CO
variable {g : mc_G} {d n f : Nat} {M : mc_M} {L : mc_L} {Q : Option Value → mc_M → mc_L → Prop} {T : Nat → Nat → Int32} {m : Nat} {S : Int32}
def ccf (f : Nat) (M M' : mc_M) : Prop := ∀ c, c ≠ 32 → c ≠ 33 → c ≠ 34 → (c < f ∨ f + 12 < c) → M' c = M c
theorem cC_comp (hf : rs_is f) {nb : Nat} {R : Nat → Blk} {SS : Nat → List Nat} {J : Nat → Nat} (hnb : nb ≤ 100) (hsz : M f 0 = nI nb) (hcr : crs T m S M f nb R (fun _ => false) SS J) (htg : tgs R (fun _ => false) nb) (hd : 3 ≤ d)
    (h : ∀ M' SS' J', ccf f M M' → M' f 0 = nI (sp_comp nb R).1 → M' f 1 = M f 1 → (sp_comp nb R).1 ≤ nb → crs T m S M' f (sp_comp nb R).1 (sp_comp nb R).2 (fun _ => false) SS' J' → tgs (sp_comp nb R).2 (fun _ => false) (sp_comp nb R).1 → Q none M' L) : ctC_work g d [.ref 31, .ref f] n M L Q := by
  have hf34 : 34 < f := by rcases hf with rfl | rfl <;> decide
  refine cC_work hf hnb hsz hcr htg hd (fun M0 M1 M2 SS' J' a1 a2 a3 a4 a5 => h _ _ _ (fun c b1 b2 b3 b4 => ?_) ?_ ?_ (nu_le _ _) (anew_crs a2 hf34 a4 a5) (tgs_rn hnb a3))
  · funext y
    rw [mc_put_at, if_neg (by omega), a5.1 c (by omega) (by omega) (by omega), a4 c b3, a1 c b1 b2 b3 (by omega) (by omega)]
  · rw [mc_put_at, if_pos ⟨rfl, rfl⟩]
    rfl
  · rw [mc_put_at, if_neg (by omega), a5.1 f (by omega) (by omega) (by omega), a4 f (by omega), a1 f (by omega) (by omega) (by omega) (by omega) (by omega)]
end CO
end
section
/-! The model's small methods -/
section RL
variable {g : mc_G} {d n : Nat} {M : mc_M} {L : mc_L} {Q : Option Value → mc_M → mc_L → Prop}
theorem cR_thrown (hd : 1 ≤ d) (h : Q (some (.int (M 64 0))) M L) : ctR_thrown g d [.ref 64] n M L Q := by
  obtain ⟨d, rfl⟩ := Nat.exists_eq_add_of_le' hd
  exact inR_thrown (Nat.le_of_ble_eq_true rfl) (fun K hK => hK.1 [] 20 0 _ _ _ _ _ ⟨Nat.le_refl _, h⟩)
theorem cR_within {x lo hi : Int32} (hd : 1 ≤ d) (h1 : lo ≤ x → x ≤ hi → Q (some (.int 1)) M L) (h0 : ¬ (lo ≤ x ∧ x ≤ hi) → Q (some (.int 0)) M L) : ctR_within g d [.int x, .int lo, .int hi] n M L Q := by
  obtain ⟨d, rfl⟩ := Nat.exists_eq_add_of_le' hd
  exact inR_within (Nat.le_of_ble_eq_true rfl) (fun K hK => hK.1 [] 20 0 _ _ _ _ _ ⟨fun z => ⟨Or.inl rfl, Nat.le_refl _, h0 (fun w => absurd z (Int32.not_lt.mpr w.1))⟩, fun z => ⟨fun z1 => ⟨Or.inl rfl, Nat.le_refl _, h0 (fun w => absurd z1 (Int32.not_lt.mpr w.2))⟩, fun z1 => ⟨Or.inr rfl, Nat.le_refl _, h1 (Int32.not_lt.mp z) (Int32.not_lt.mp z1)⟩⟩⟩)
theorem cR_isBlock {x : Int32} (hd : 1 ≤ d) (h1 : ∀ j, j < 16 → x = nI j → Q (some (.int 1)) M L) (h0 : (∀ j, j < 16 → x ≠ nI j) → Q (some (.int 0)) M L) : ctR_isBlock g d [.int x] n M L Q := by
  obtain ⟨d, rfl⟩ := Nat.exists_eq_add_of_le' hd
  refine inR_isBlock (Nat.le_of_ble_eq_true rfl) (fun K hK => hK.1 [] 20 0 _ _ _ _ _ ⟨fun a => ⟨Or.inl rfl, Nat.le_refl _, h0 (fun j hj hx => nI_pos (by omega) (hx ▸ a))⟩, fun a => ⟨fun a2 => ⟨Or.inl rfl, Nat.le_refl _, h0 (fun j hj hx => nI_ge hj (by decide) (hx ▸ a2))⟩, fun a2 => ⟨Or.inr rfl, Nat.le_refl _, ?_⟩⟩⟩)
  obtain ⟨j, hj, hx⟩ := nI_lt_of (m := 16) (by decide) a a2
  exact h1 j hj hx
theorem cR_isVariable {x : Int32} (hd : 1 ≤ d) (h1 : ∀ j, j < 8 → x = nI j → Q (some (.int 1)) M L) (h0 : (∀ j, j < 8 → x ≠ nI j) → Q (some (.int 0)) M L) : ctR_isVariable g d [.int x] n M L Q := by
  obtain ⟨d, rfl⟩ := Nat.exists_eq_add_of_le' hd
  refine inR_isVariable (Nat.le_of_ble_eq_true rfl) (fun K hK => hK.1 [] 20 0 _ _ _ _ _ ⟨fun a => ⟨Or.inl rfl, Nat.le_refl _, h0 (fun j hj hx => nI_pos (by omega) (hx ▸ a))⟩, fun a => ⟨fun a2 => ⟨Or.inl rfl, Nat.le_refl _, h0 (fun j hj hx => nI_ge hj (by decide) (hx ▸ a2))⟩, fun a2 => ⟨Or.inr rfl, Nat.le_refl _, ?_⟩⟩⟩)
  obtain ⟨j, hj, hx⟩ := nI_lt_of (m := 8) (by decide) a a2
  exact h1 j hj hx
theorem cR_isNode {x : Int32} {m : Nat} (hd : 1 ≤ d) (hm : M 64 1 = nI m) (hm1 : m ≤ 150) (h1 : ∀ j, j < m → x = nI j → Q (some (.int 1)) M L) (h0 : (∀ j, j < m → x ≠ nI j) → Q (some (.int 0)) M L) : ctR_isNode g d [.ref 64, .int x] n M L Q := by
  obtain ⟨d, rfl⟩ := Nat.exists_eq_add_of_le' hd
  refine inR_isNode (Nat.le_of_ble_eq_true rfl) (fun K hK => hK.1 [] 20 0 _ _ _ _ _ ⟨fun a => ⟨Or.inl rfl, Nat.le_refl _, h0 (fun j hj hx => nI_pos (by omega) (hx ▸ a))⟩, fun a => ⟨fun a2 => ⟨Or.inl rfl, Nat.le_refl _, h0 (fun j hj hx => nI_ge hj (by omega) (by rw [hx, hm] at a2; exact a2))⟩, fun a2 => ⟨Or.inr rfl, Nat.le_refl _, ?_⟩⟩⟩)
  obtain ⟨j, hj, hx⟩ := nI_lt_of (m := m) (by omega) a (by rw [← hm]; exact a2)
  exact h1 j hj hx
theorem cR_goes {one two : Bool} {x y : Int32} (hx : x = bI one) (hy : y = bI two) (hd : 1 ≤ d) (h0 : one = true → two = true → ∀ M', M' = mc_put M 64 0 0 → Q (some (.int 1)) M' L) (h1 : one = false → ∀ M', M' = mc_put M 64 0 1 → Q (some (.int 0)) M' L) (h2 : one = true → two = false → ∀ M', M' = mc_put M 64 0 2 → Q (some (.int 0)) M' L) : ctR_goes g d [.ref 64, .int x, .int y] n M L Q := by
  obtain ⟨d, rfl⟩ := Nat.exists_eq_add_of_le' hd
  have g0 : mc_put M 64 0 0 64 0 = 0 := by rw [mc_put_at, if_pos ⟨rfl, rfl⟩]
  have g1 : ¬ mc_put M 64 0 1 64 0 = 0 := by rw [mc_put_at, if_pos ⟨rfl, rfl⟩]; decide
  have g2 : ¬ mc_put M 64 0 2 64 0 = 0 := by rw [mc_put_at, if_pos ⟨rfl, rfl⟩]; decide
  cases one with
  | false =>
    have hx' : x = 0 := hx
    subst hx'
    exact inR_goes (Nat.le_of_ble_eq_true rfl) (fun K hK => hK.1 [] 30 0 _ _ _ _ _ ⟨fun z => absurd rfl z, fun _ => ⟨fun _ => ⟨Or.inl rfl, Nat.le_refl _, h1 rfl _ rfl⟩, fun z => absurd z g1⟩⟩)
  | true =>
    have hx' : x = 1 := hx
    subst hx'
    cases two with
    | false =>
      have hy' : y = 0 := hy
      subst hy'
      exact inR_goes (Nat.le_of_ble_eq_true rfl) (fun K hK => hK.1 [] 30 0 _ _ _ _ _ ⟨fun _ => ⟨fun z => absurd rfl z, fun _ => ⟨fun _ => ⟨Or.inl rfl, Nat.le_refl _, h2 rfl rfl _ rfl⟩, fun z => absurd z g2⟩⟩, fun z => absurd z (by decide)⟩)
    | true =>
      have hy' : y = 1 := hy
      subst hy'
      exact inR_goes (Nat.le_of_ble_eq_true rfl) (fun K hK => hK.1 [] 30 0 _ _ _ _ _ ⟨fun _ => ⟨fun _ => ⟨fun z => absurd g0 z, fun _ => ⟨Or.inr rfl, Nat.le_refl _, h0 rfl rfl _ rfl⟩⟩, fun z => absurd z (by decide)⟩, fun z => absurd z (by decide)⟩)
theorem cR_plain {b : Nat} {x : Int32} (hx : x = nI b) (hb : b < 16) (hd : 1 ≤ d) (h : ∀ M', M' = mc_put (mc_put (mc_put M 70 b 0) 73 b 2) 74 b (-1) → Q none M' L) : ctR_plain g d [.ref 64, .int x] n M L Q := by
  obtain ⟨d, rfl⟩ := Nat.exists_eq_add_of_le' hd
  subst hx
  have vb : vp_in (nI b) 16 := vp_in_nI hb (by decide)
  have t : mc_put (mc_put (mc_put M 70 (nI b).toNatClampNeg 0) 73 (nI b).toNatClampNeg 2) 74 (nI b).toNatClampNeg (-1) = mc_put (mc_put (mc_put M 70 b 0) 73 b 2) 74 b (-1) := by rw [nI_clamp (by omega)]
  exact inR_plain (Nat.le_of_ble_eq_true rfl) (fun K hK => hK.1 [] 30 0 _ _ _ _ _ ⟨vb, vb, vb, Nat.le_refl _, h _ t⟩)
end RL
end
section
/-! The model's worth -/
def nt_R (M : mc_M) (T : Nat → Nat → Int32) (m : Nat) : Prop := M 64 1 = nI m ∧ ∀ i, i < 5 → ∀ k, k < m → M (65 + i) k = T i k
section RW
variable {g : mc_G} {d n : Nat} {M : mc_M} {L : mc_L} {Q : Option Value → mc_M → mc_L → Prop} {T : Nat → Nat → Int32} {m : Nat}
theorem cR_worth (hT : nt_ok T m) (hN : nt_R M T m) {x : Int32} (hx : x = -1 ∨ ∃ k, k < m ∧ x = nI k) (hd : 1 ≤ d) (hz : x = -1 → Q (some (.int 0)) M L) (hk : ∀ k, k < m → x = nI k → ∀ M', (∀ c, c ≠ 79 → M' c = M c) → (∀ j, j ≤ k → M' 79 j = nd_val (T 0) (T 1) (T 2) (M 78) j) → Q (some (.int (nd_val (T 0) (T 1) (T 2) (M 78) k))) M' L) : ctR_worth g d [.ref 64, .int x] n M L Q := by
  obtain ⟨d, rfl⟩ := Nat.exists_eq_add_of_le' hd
  rcases hx with hx | ⟨k, hkm, hx⟩
  · exact inR_worth (Nat.le_of_ble_eq_true rfl) (fun K hK => hK.1 [9] 20 0 _ _ _ _ _ ⟨fun z => absurd hx z, fun _ => ⟨Nat.le_refl _, hz hx⟩⟩)
  · have hm150 := hT.1
    subst hx
    have lp : ∀ (K : mc_K), mc_closed true tab0 n 0 (some .int) (shR_worth g d) Q (fun _ _ _ => False) tbR_worth K → ∀ (r j : Nat) (i : Int32) (M1 : mc_M), r + j = k + 1 → i = nI j → (∀ c, c ≠ 79 → M1 c = M c) → (∀ u, u < j → M1 79 u = nd_val (T 0) (T 1) (T 2) (M 78) u) → K 9 [some (.ref 64), some (.int (nI k)), some (.int i), none, none] [] n M1 L := by
      intro K hK r
      induction r with
      | zero =>
        intro j i M1 hj hi e1 e2
        subst hi
        have c1 : nI k < nI j := nI_lt (by omega) (by omega)
        have ek : (nI k).toNatClampNeg = k := nI_clamp (by omega)
        have vk : vp_in (nI k) 150 := vp_in_nI (by omega) (by decide)
        have q := hk k hkm rfl M1 e1 (fun u hu => e2 u (by omega))
        rw [← e2 k (by omega), ← ek] at q
        exact hK.1 [] 20 9 _ _ _ _ _ ⟨fun _ => ⟨vk, Nat.le_refl _, q⟩, fun z => absurd c1 z⟩
      | succ r ih =>
        intro j i M1 hj hi e1 e2
        subst hi
        have hjm : j < m := by omega
        have c1 : ¬ nI k < nI j := nI_nlt (by omega) (by omega)
        have ej : (nI j).toNatClampNeg = j := nI_clamp (by omega)
        have vj : vp_in (nI j) 150 := vp_in_nI (by omega) (by decide)
        have k0 : M1 65 (nI j).toNatClampNeg = T 0 j := by rw [ej, e1 65 (by decide)]; exact hN.2 0 (by decide) j hjm
        have k1 : M1 66 (nI j).toNatClampNeg = T 1 j := by rw [ej, e1 66 (by decide)]; exact hN.2 1 (by decide) j hjm
        have k2 : M1 67 (nI j).toNatClampNeg = T 2 j := by rw [ej, e1 67 (by decide)]; exact hN.2 2 (by decide) j hjm
        have nxt : ∀ a b y, y = nd_val (T 0) (T 1) (T 2) (M 78) j → K 223 [some (.ref 64), some (.int (nI k)), some (.int (nI j)), a, b] [] n (mc_put M1 79 (nI j).toNatClampNeg y) L := fun a b y hy => by
          refine hK.2 [true, true, true, false, false] _ _ _ _ _ _ ?_
          refine hK.1 [9] 20 223 _ _ _ _ _ (ih (j + 1) _ _ (by omega) (nI_1 j) (fun c hc => ?_) (fun u hu => ?_))
          · funext w
            rw [mc_put_at, if_neg (fun v => hc v.1), e1 c hc]
          · rw [mc_put_at, ej]
            by_cases e : u = j
            · rw [if_pos ⟨rfl, e⟩, e, hy]
            · rw [if_neg (fun v => e v.2), e2 u (by omega)]
        obtain ⟨⟨s, -, -, -, g3⟩, -⟩ := hT.2.1 j hjm
        rcases g3 with g3 | ⟨g3, a, ha, hA⟩ | ⟨g3, g4, a, b, sa, sb, ha, hb, hA, hB, -⟩
        · have z0 := k0.trans g3
          have le1 : M1 65 (nI j).toNatClampNeg ≤ 1 := by rw [z0]; decide
          have q : M1 66 (nI j).toNatClampNeg = nd_val (T 0) (T 1) (T 2) (M 78) j := by rw [k1, nd_val_0 g3]
          exact hK.1 [223] 80 9 _ _ _ _ _ ⟨fun z => absurd z c1, fun _ => ⟨vj, fun _ => ⟨vj, fun _ => ⟨vj, fun _ => ⟨vj, vj, nxt _ _ _ q⟩, fun z => absurd z0 z⟩, fun z => absurd le1 z⟩, fun z => absurd le1 z⟩⟩
        · have z1 := k0.trans g3
          have le1 : M1 65 (nI j).toNatClampNeg ≤ 1 := by rw [z1]; decide
          have n0 : ¬ M1 65 (nI j).toNatClampNeg = 0 := by rw [z1]; decide
          have q : M1 78 (M1 66 (nI j).toNatClampNeg).toNatClampNeg = nd_val (T 0) (T 1) (T 2) (M 78) j := by rw [k1, hA, nI_clamp (by omega), e1 78 (by decide), nd_val_1 g3 hA ha]
          have va : vp_in (M1 66 (nI j).toNatClampNeg) 8 := by rw [k1, hA]; exact vp_in_nI ha (by decide)
          exact hK.1 [223] 80 9 _ _ _ _ _ ⟨fun z => absurd z c1, fun _ => ⟨vj, fun _ => ⟨vj, fun _ => ⟨vj, fun z => absurd z n0, fun _ => ⟨fun _ => ⟨vj, va, vj, nxt _ _ _ q⟩, fun z => absurd z1 z⟩⟩, fun z => absurd le1 z⟩, fun z => absurd le1 z⟩⟩
        · have n0' : ¬ T 0 j = 0 := fun z => by rw [z] at g3; exact absurd g3 (by decide)
          have n1' : ¬ T 0 j = 1 := fun z => by rw [z] at g3; exact absurd g3 (by decide)
          have n0 : ¬ M1 65 (nI j).toNatClampNeg = 0 := fun z => n0' (k0.symm.trans z)
          have n1 : ¬ M1 65 (nI j).toNatClampNeg = 1 := fun z => n1' (k0.symm.trans z)
          have gt1 : ¬ M1 65 (nI j).toNatClampNeg ≤ 1 := fun z => by
            rw [k0] at z
            have := Int32.le_trans g3 z
            exact absurd this (by decide)
          have va : vp_in (M1 66 (nI j).toNatClampNeg) 150 := by rw [k1, hA]; exact vp_in_nI (by omega) (by decide)
          have vb : vp_in (M1 67 (nI j).toNatClampNeg) 150 := by rw [k2, hB]; exact vp_in_nI (by omega) (by decide)
          have wa : M1 79 (M1 66 (nI j).toNatClampNeg).toNatClampNeg = nd_val (T 0) (T 1) (T 2) (M 78) a := by rw [k1, hA, nI_clamp (by omega), e2 a ha]
          have wb : M1 79 (M1 67 (nI j).toNatClampNeg).toNatClampNeg = nd_val (T 0) (T 1) (T 2) (M 78) b := by rw [k2, hB, nI_clamp (by omega), e2 b hb]
          have vl : nd_val (T 0) (T 1) (T 2) (M 78) j = nd_cb (M1 65 (nI j).toNatClampNeg) (M1 79 (M1 66 (nI j).toNatClampNeg).toNatClampNeg) (M1 79 (M1 67 (nI j).toNatClampNeg).toNatClampNeg) := by rw [nd_val_2 n0' n1' hA hB ha hb (by omega), k0, wa, wb]
          have nx := fun a b y (hy : y = nd_cb (M1 65 (nI j).toNatClampNeg) (M1 79 (M1 66 (nI j).toNatClampNeg).toNatClampNeg) (M1 79 (M1 67 (nI j).toNatClampNeg).toNatClampNeg)) => nxt a b y (hy.trans vl.symm)
          unfold nd_cb at nx
          exact hK.1 [223] 80 9 _ _ _ _ _ ⟨fun z => absurd z c1, fun _ => ⟨vj, fun z => absurd z gt1, fun _ => ⟨vj, va, vj, fun z => absurd z gt1, fun _ => ⟨vj, vb, vj, fun z => absurd z n0, fun _ => ⟨fun z => absurd z n1, fun _ => ⟨fun z => ⟨vj, nx _ _ _ (by rw [if_pos z])⟩, fun z2 => ⟨fun z => ⟨vj, nx _ _ _ (by rw [if_neg z2, if_pos z])⟩, fun z3 => ⟨fun z => ⟨vj, nx _ _ _ (by rw [if_neg z2, if_neg z3, if_pos z])⟩, fun z4 => ⟨fun z => ⟨fun y => ⟨vj, nx _ _ _ (by rw [if_neg z2, if_neg z3, if_neg z4, if_pos z, if_neg y])⟩, fun y => ⟨vj, nx _ _ _ (by rw [if_neg z2, if_neg z3, if_neg z4, if_pos z, if_pos y])⟩⟩, fun z5 => ⟨trivial, fun y => ⟨vj, nx _ _ _ (by rw [if_neg z2, if_neg z3, if_neg z4, if_neg z5, if_neg (Int32.not_lt.mpr y)])⟩, fun y => ⟨vj, nx _ _ _ (by rw [if_neg z2, if_neg z3, if_neg z4, if_neg z5, if_pos (Int32.not_le.mp y)])⟩⟩⟩⟩⟩⟩⟩⟩⟩⟩⟩
    have n1 : ¬ nI k = -1 := nI_ne_m1 (by omega)
    exact inR_worth (Nat.le_of_ble_eq_true rfl) (fun K hK => hK.1 [9] 20 0 _ _ _ _ _ ⟨fun _ => lp K hK (k + 1) 0 0 M rfl rfl (fun _ _ => rfl) (fun u hu => absurd hu (Nat.not_lt_zero _)), fun z => absurd z n1⟩)
end RW
end
section
/-! The model's begin and setOf -/
section RB
variable {g : mc_G} {d n : Nat} {M : mc_M} {L : mc_L} {Q : Option Value → mc_M → mc_L → Prop} {T : Nat → Nat → Int32} {m : Nat}
theorem cR_setOf (hN : nt_R M T m) (hm : m ≤ 150) {x : Int32} (hd : 1 ≤ d) (hx : x = -1 ∨ ∃ k, k < m ∧ x = nI k) (hz : x = -1 → Q (some (.int 0)) M L) (hk : ∀ k, k < m → x = nI k → ∀ r, r = T 4 k → Q (some (.int r)) M L) : ctR_setOf g d [.ref 69, .int x] n M L Q := by
  obtain ⟨d, rfl⟩ := Nat.exists_eq_add_of_le' hd
  rcases hx with hx | ⟨k, hkm, hx⟩
  · exact inR_setOf (Nat.le_of_ble_eq_true rfl) (fun K hK => hK.1 [] 20 0 _ _ _ _ _ ⟨fun z => absurd hx z, fun _ => ⟨Nat.le_refl _, hz hx⟩⟩)
  · subst hx
    have vk : vp_in (nI k) 150 := vp_in_nI (by omega) (by decide)
    have e : M 69 (nI k).toNatClampNeg = T 4 k := by
      rw [nI_clamp (by omega)]
      exact hN.2 4 (by decide) k hkm
    have n1 : ¬ nI k = -1 := nI_ne_m1 (by omega)
    exact inR_setOf (Nat.le_of_ble_eq_true rfl) (fun K hK => hK.1 [] 20 0 _ _ _ _ _ ⟨fun _ => ⟨vk, Nat.le_refl _, hk k hkm rfl _ e⟩, fun z => absurd z n1⟩)
theorem cR_begin (hd : 1 ≤ d) (h : ∀ M', (∀ c, c ≠ 64 → c ≠ 78 → M' c = M c) → (∀ v, v < 8 → M' 78 v = M 77 v) → (∀ i, M' 64 i = if i = 41 then 0 else if i = 40 then 0 else if i = 39 then 0 else M 64 i) → Q none M' L) : ctR_begin g d [.ref 64] n M L Q := by
  obtain ⟨d, rfl⟩ := Nat.exists_eq_add_of_le' hd
  have lp : ∀ (K : mc_K), mc_closed true tab0 n 0 none (shR_begin g d) Q (fun _ _ _ => False) tbR_begin K → ∀ (r k : Nat) (i : Int32) (M1 : mc_M), r + k = 8 → i = nI k → (∀ c, c ≠ 78 → M1 c = M c) → (∀ v, v < k → M1 78 v = M 77 v) → K 2 [some (.ref 64), some (.int i)] [] n M1 L := by
    intro K hK r
    induction r with
    | zero =>
      intro k i M1 hk hi e1 e2
      subst hi
      have c1 : (8 : Int32) ≤ nI k := nI_le (a := 8) (by omega) (by omega)
      have q : Q none (mc_put (mc_put (mc_put M1 64 39 0) 64 40 0) 64 41 0) L := by
        refine h _ (fun c h1 h2 => ?_) (fun v hv => ?_) (fun i => ?_)
        · funext w
          rw [mc_put_at, if_neg (fun z => h1 z.1), mc_put_at, if_neg (fun z => h1 z.1), mc_put_at, if_neg (fun z => h1 z.1), e1 c h2]
        · rw [mc_put_at, if_neg (by omega), mc_put_at, if_neg (by omega), mc_put_at, if_neg (by omega), e2 v (by omega)]
        · rw [mc_put_at, mc_put_at, mc_put_at, e1 64 (by decide)]
          simp
      exact hK.1 [] 30 2 _ _ _ _ _ ⟨fun _ => ⟨Nat.le_refl _, q⟩, fun z => absurd c1 z⟩
    | succ r ih =>
      intro k i M1 hk hi e1 e2
      subst hi
      have c1 : ¬ (8 : Int32) ≤ nI k := nI_ge (b := 8) (by omega) (by decide)
      have vk : vp_in (nI k) 8 := vp_in_nI (by omega) (by decide)
      have ek : (nI k).toNatClampNeg = k := nI_clamp (by omega)
      have nx := ih (k + 1) (nI k + 1) (mc_put M1 78 (nI k).toNatClampNeg (M1 77 (nI k).toNatClampNeg)) (by omega) (nI_1 k) (fun c hc => by
        funext w
        rw [mc_put_at, if_neg (fun z => hc z.1), e1 c hc]) (fun v hv => by
        rw [mc_put_at, ek, e1 77 (by decide)]
        by_cases e : v = k
        · rw [if_pos ⟨rfl, e⟩, e]
        · rw [if_neg (fun z => e z.2), e2 v (by omega)])
      exact hK.1 [2] 30 2 _ _ _ _ _ ⟨fun z => absurd z c1, fun _ => ⟨vk, vk, nx⟩⟩
  exact inR_begin (Nat.le_of_ble_eq_true rfl) (fun K hK => hK.1 [2] 20 0 _ _ _ _ _ (lp K hK 8 0 0 M rfl rfl (fun _ _ => rfl) (fun v hv => absurd hv (Nat.not_lt_zero _))))
end RB
end
section
/-! Eight rounds suffice for the dynamic variables -/
def hi_eq (x y : Int32) : Prop := ∀ i, 8 ≤ i → x.toBitVec.getLsbD i = y.toBitVec.getLsbD i
theorem st_ext {x y : Int32} (h : hi_eq x y) (hb : ∀ v, v < 8 → fl_bit x v = fl_bit y v) : x = y := by
  apply Int32.toBitVec_inj.mp
  apply BitVec.eq_of_getLsbD_eq
  intro i hi
  by_cases h8 : i < 8
  · have := hb i h8
    rw [fl_bit_get _ _ h8, fl_bit_get _ _ h8] at this
    exact this
  · exact h i (by omega)
theorem one_hi {v i : Nat} (hv : v < 8) (hi : 8 ≤ i) : ((1 : Int32) <<< (nI v &&& 31)).toBitVec.getLsbD i = false := by
  have key : ∀ q : Nat, q < 256 → (BitVec.ofNat 32 q).getLsbD i = false := fun q hq => by
    rw [BitVec.getLsbD_ofNat]
    have : q.testBit i = false := Nat.testBit_lt_two_pow (Nat.lt_of_lt_of_le hq (Nat.pow_le_pow_right (n := 2) (by decide) hi : 2 ^ 8 ≤ 2 ^ i))
    rw [this]
    simp
  have h9 : v = 0 ∨ v = 1 ∨ v = 2 ∨ v = 3 ∨ v = 4 ∨ v = 5 ∨ v = 6 ∨ v = 7 := by omega
  rcases h9 with rfl | rfl | rfl | rfl | rfl | rfl | rfl | rfl
  · exact key 1 (by decide)
  · exact key 2 (by decide)
  · exact key 4 (by decide)
  · exact key 8 (by decide)
  · exact key 16 (by decide)
  · exact key 32 (by decide)
  · exact key 64 (by decide)
  · exact key 128 (by decide)
/-- grows within the eight variables -/
def grw (x y : Int32) : Prop := hi_eq y x ∧ ∀ v, v < 8 → fl_bit x v = true → fl_bit y v = true
theorem grw_rf (x : Int32) : grw x x := ⟨fun _ _ => rfl, fun _ _ h => h⟩
theorem grw_tr {x y z : Int32} (h : grw x y) (h' : grw y z) : grw x z := ⟨fun i hi => (h'.1 i hi).trans (h.1 i hi), fun v hv hb => h'.2 v hv (h.2 v hv hb)⟩
theorem grw_or {x : Int32} {v : Nat} (hv : v < 8) : grw x (x ||| (1 <<< (nI v &&& 31))) := by
  refine ⟨fun i hi => ?_, fun u hu hb => ?_⟩
  · rw [Int32.toBitVec_or, BitVec.getLsbD_or, one_hi hv hi, Bool.or_false]
  · rw [fl_bit_or _ _ hu, hb]
    rfl
theorem sp_dyn_grw {T : Nat → Nat → Int32} : ∀ (l : List Asg) (D : Int32), (∀ a ∈ l, a.1 < 8) → grw D (sp_dyn T l D)
  | [], D, _ => grw_rf D
  | (v, k, fr) :: l, D, h => by
    unfold sp_dyn
    have hv : v < 8 := h _ List.mem_cons_self
    refine grw_tr ?_ (sp_dyn_grw l _ (fun a ha => h a (List.mem_cons_of_mem _ ha)))
    split
    · exact grw_or hv
    · exact grw_rf D
theorem sp_dr_grw {T : Nat → Nat → Int32} {P : Nat → Blk} (hP : ∀ b, b < 16 → ∀ a ∈ (P b).2.1, a.1 < 8) : ∀ (r b : Nat) (D : Int32), r + b = 16 → grw D (sp_dr T P r b D)
  | 0, b, D, _ => grw_rf D
  | r + 1, b, D, h => by
    unfold sp_dr
    exact grw_tr (sp_dyn_grw _ _ (hP b (by omega))) (sp_dr_grw hP r (b + 1) _ (by omega))
/-- how many of the first k variables are in a set -/
def pc (x : Int32) : Nat → Nat
  | 0 => 0
  | k + 1 => pc x k + (if fl_bit x k = true then 1 else 0)
theorem pc_le (x : Int32) : ∀ k, pc x k ≤ k
  | 0 => Nat.le_refl _
  | k + 1 => by
    have := pc_le x k
    unfold pc
    split <;> omega
theorem pc_mono {x y : Int32} : ∀ k, k ≤ 8 → (∀ v, v < 8 → fl_bit x v = true → fl_bit y v = true) → pc x k ≤ pc y k
  | 0, _, _ => Nat.le_refl _
  | k + 1, hk, h => by
    have := pc_mono k (by omega) h
    unfold pc
    by_cases hx : fl_bit x k = true
    · rw [if_pos hx, if_pos (h k (by omega) hx)]
      omega
    · rw [if_neg hx]
      omega
theorem pc_lt {x y : Int32} : ∀ k, k ≤ 8 → (∀ v, v < 8 → fl_bit x v = true → fl_bit y v = true) → (∃ v, v < k ∧ fl_bit x v ≠ fl_bit y v) → pc x k < pc y k
  | 0, _, _, h => by
    obtain ⟨v, hv, -⟩ := h
    omega
  | k + 1, hk, h, hv => by
    unfold pc
    by_cases e : fl_bit x k = fl_bit y k
    · have := pc_lt k (by omega) h (by
        obtain ⟨v, hv, hne⟩ := hv
        refine ⟨v, ?_, hne⟩
        have : v ≠ k := fun z => hne (z ▸ e)
        omega)
      rw [e]
      omega
    · have m := pc_mono k (by omega) h
      cases hx : fl_bit x k with
      | true =>
        rw [hx, h k (by omega) hx] at e
        exact absurd rfl e
      | false =>
        cases hy : fl_bit y k with
        | true => simp; omega
        | false =>
          rw [hx, hy] at e
          exact absurd rfl e
theorem grw_pc {x y : Int32} (h : grw x y) (hne : ¬ y = x) : pc x 8 < pc y 8 := by
  refine pc_lt 8 (Nat.le_refl _) h.2 ?_
  refine Classical.byContradiction (fun z => hne ?_)
  refine st_ext h.1 (fun v hv => ?_)
  refine Classical.byContradiction (fun w => z ⟨v, hv, fun e => w e.symm⟩)
/-- the rounds end in a set that a round leaves as it is, and it doesn't matter how many more there are -/
theorem sp_dit_fix {T : Nat → Nat → Int32} {P : Nat → Blk} (hP : ∀ b, b < 16 → ∀ a ∈ (P b).2.1, a.1 < 8) : ∀ (fu : Nat) (D : Int32), 8 ≤ fu + pc D 8 → sp_dr T P 16 0 (sp_dit T P fu D) = sp_dit T P fu D
  | 0, D, h => by
    show sp_dr T P 16 0 D = D
    refine Classical.byContradiction (fun z => ?_)
    have h1 := grw_pc (sp_dr_grw hP 16 0 D rfl) z
    have h2 := pc_le (sp_dr T P 16 0 D) 8
    omega
  | fu + 1, D, h => by
    unfold sp_dit
    by_cases e : sp_dr T P 16 0 D = D
    · rw [if_pos e, e, e]
    · rw [if_neg e]
      have h1 := grw_pc (sp_dr_grw hP 16 0 D rfl) e
      exact sp_dit_fix hP fu _ (by omega)
end
section
/-! The model's dynamics -/
theorem nI_div {a b : Nat} (ha : a < 2 ^ 31) (hb : b < 2 ^ 31) : nI a / nI b = nI (a / b) := by
  have hle : a / b ≤ a := Nat.div_le_self a b
  apply Int32.toInt_inj.mp
  rw [Int32.toInt_div, nI_toInt ha, nI_toInt hb, nI_toInt (by omega), ← Int.ofNat_tdiv]
  generalize a / b = q at hle ⊢
  refine Int.bmod_eq_of_le ?_ ?_ <;> omega
theorem nI_sub {a b : Nat} (h : b ≤ a) : nI a - nI b = nI (a - b) := by
  have : nI a = nI (a - b) + nI b := by rw [nI_add, Nat.sub_add_cancel h]
  rw [this, Int32.add_sub_cancel]
theorem nI_rem10 {a : Nat} (ha : a < 2 ^ 31) : nI a - nI a / 10 * 10 = nI (a % 10) := by
  rw [show nI a / 10 = nI (a / 10) from nI_div (b := 10) ha (by decide), show nI (a / 10) * 10 = nI (a / 10 * 10) from nI_mul _ 10, nI_sub (Nat.div_mul_le_self _ _)]
  congr 1
  omega
/-- how the model holds the program's assignments -/
def pgR (M : mc_M) (m : Nat) (P : Nat → Blk) : Prop := ∀ b, b < 16 → M 70 b = nI (P b).2.1.length ∧ (P b).2.1.length ≤ 10 ∧ ∀ i, i < (P b).2.1.length → ∃ v k, v < 8 ∧ k < m ∧ (P b).2.1[i]? = some (v, k, fun _ => 0) ∧ M 71 (b * 10 + i) = nI v ∧ M 72 (b * 10 + i) = nI k
def rmd (T : Nat → Nat → Int32) (P : Nat → Blk) (k : Nat) (D : Int32) : Int32 := sp_dr T P (16 - (k / 10 + 1)) (k / 10 + 1) (sp_dyn T ((P (k / 10)).2.1.drop (k % 10)) D)
theorem rmd_out {T : Nat → Nat → Int32} {P : Nat → Blk} {k : Nat} {D : Int32} (h10 : (P (k / 10)).2.1.length ≤ 10) (hk : k < 160) (h : (P (k / 10)).2.1.length ≤ k % 10) : rmd T P k D = if k + 1 < 160 then rmd T P (k + 1) D else D := by
  unfold rmd
  rw [List.drop_eq_nil_of_le h]
  by_cases h1 : k + 1 < 160
  · rw [if_pos h1]
    by_cases h9 : k % 10 = 9
    · rw [show (k + 1) / 10 = k / 10 + 1 by omega, show (k + 1) % 10 = 0 by omega, List.drop_zero, show 16 - (k / 10 + 1) = (16 - (k / 10 + 1 + 1)) + 1 by omega]
      rfl
    · rw [show (k + 1) / 10 = k / 10 by omega, List.drop_eq_nil_of_le (by omega)]
  · rw [if_neg h1, show k / 10 = 15 by omega]
    rfl
theorem rmd_in {T : Nat → Nat → Int32} {P : Nat → Blk} {k v nd : Nat} {fr : Nat → Int32} {D : Int32} (h10 : (P (k / 10)).2.1.length ≤ 10) (hk : k < 160) (h : (P (k / 10)).2.1[k % 10]? = some (v, nd, fr)) : rmd T P k D = if k + 1 < 160 then rmd T P (k + 1) (if ¬ (T 4 nd &&& D) = 0 then D ||| (1 <<< (nI v &&& 31)) else D) else (if ¬ (T 4 nd &&& D) = 0 then D ||| (1 <<< (nI v &&& 31)) else D) := by
  have hl := (List.getElem?_eq_some_iff.mp h).1
  have hd : (P (k / 10)).2.1.drop (k % 10) = (v, nd, fr) :: (P (k / 10)).2.1.drop (k % 10 + 1) := by
    rw [List.drop_eq_getElem_cons hl, (List.getElem?_eq_some_iff.mp h).2]
  have e : ∀ D, rmd T P k D = sp_dr T P (16 - (k / 10 + 1)) (k / 10 + 1) (sp_dyn T ((P (k / 10)).2.1.drop (k % 10 + 1)) (if ¬ (T 4 nd &&& D) = 0 then D ||| (1 <<< (nI v &&& 31)) else D)) := fun D => by
    unfold rmd
    rw [hd]
    rfl
  rw [e]
  generalize (if ¬ (T 4 nd &&& D) = 0 then D ||| (1 <<< (nI v &&& 31)) else D) = D'
  by_cases h1 : k + 1 < 160
  · rw [if_pos h1]
    unfold rmd
    by_cases h9 : k % 10 = 9
    · rw [show (k + 1) / 10 = k / 10 + 1 by omega, show (k + 1) % 10 = 0 by omega, List.drop_zero, show 16 - (k / 10 + 1) = (16 - (k / 10 + 1 + 1)) + 1 by omega, List.drop_eq_nil_of_le (by omega)]
      rfl
    · rw [show (k + 1) / 10 = k / 10 by omega, show (k + 1) % 10 = k % 10 + 1 by omega]
  · rw [if_neg h1, show k / 10 = 15 by omega, List.drop_eq_nil_of_le (by rw [show k / 10 = 15 by omega] at h10; omega)]
    rfl
section RD
variable {g : mc_G} {d n : Nat} {M : mc_M} {L : mc_L} {Q : Option Value → mc_M → mc_L → Prop} {T : Nat → Nat → Int32} {m : Nat} {P : Nat → Blk}
theorem pgR_lt (h : pgR M m P) : ∀ b, b < 16 → ∀ a ∈ (P b).2.1, a.1 < 8 := fun b hb a ha => by
  obtain ⟨i, hi, he⟩ := List.mem_iff_getElem.mp ha
  obtain ⟨v, k, hv, -, h1, -⟩ := (h b hb).2.2 i hi
  rw [List.getElem?_eq_getElem hi, he] at h1
  rw [Option.some.inj h1]
  exact hv
theorem cR_dynamics (hm : m ≤ 150) (hN : nt_R M T m) (hP : pgR M m P) {x : Int32} (hne : ¬ (255 &&& (x ^^^ (-1))) = -1) (hd : 1 ≤ d) (h : ∀ r, r = sp_dit T P 8 (255 &&& (x ^^^ (-1))) → Q (some (.int r)) M L) : ctR_dynamics g d [.ref 64, .int x] n M L Q := by
  obtain ⟨d, rfl⟩ := Nat.exists_eq_add_of_le' hd
  have inner : ∀ (K : mc_K), mc_closed true tab0 n 0 (some .int) (shR_dynamics g d) Q (fun _ _ _ => False) tbR_dynamics K → ∀ (be : Int32) (r k : Nat) (D i : Int32), r + k = 160 → i = nI k → (∀ i, K 97 [some (.ref 64), some (.int x), some (.int (if k < 160 then rmd T P k D else D)), some (.int be), some (.int i), none] [] n M L) → K 20 [some (.ref 64), some (.int x), some (.int D), some (.int be), some (.int i), none] [] n M L := by
    intro K hK be r
    induction r with
    | zero =>
      intro k D i hk hi h
      subst hi
      have hk' : k = 160 := by omega
      subst hk'
      exact hK.1 [97] 20 20 _ _ _ _ _ ⟨fun _ => h _, fun z => absurd (nI_le (a := 160) (b := 160) (Nat.le_refl _) (by decide)) z⟩
    | succ r ih =>
      intro k D i hk hi h
      subst hi
      have c1 : ¬ (160 : Int32) ≤ nI k := nI_ge (b := 160) (by omega) (by decide)
      have ek : (nI k).toNatClampNeg = k := nI_clamp (by omega)
      have vk : vp_in (nI k) 160 := vp_in_nI (by omega) (by decide)
      have ed : nI k / 10 = nI (k / 10) := nI_div (b := 10) (by omega) (by decide)
      have er : nI k - nI k / 10 * 10 = nI (k % 10) := nI_rem10 (by omega)
      have vd : vp_in (nI k / 10) 16 := by rw [ed]; exact vp_in_nI (by omega) (by decide)
      obtain ⟨p1, p2, p3⟩ := hP (k / 10) (by omega)
      have m70 : M 70 (nI k / 10).toNatClampNeg = nI (P (k / 10)).2.1.length := by rw [ed, nI_clamp (by omega), p1]
      rw [if_pos (by omega)] at h
      have go : ∀ D' y, rmd T P k D = (if k + 1 < 160 then rmd T P (k + 1) D' else D') → K 20 [some (.ref 64), some (.int x), some (.int D'), some (.int be), some (.int (nI k + 1)), y] [] n M L := fun D' y hD => by
        refine hK.2 [true, true, true, true, true, false] _ _ _ _ _ _ ?_
        exact ih (k + 1) D' _ (by omega) (nI_1 k) (by rw [← hD]; exact h)
      have out : M 70 (nI k / 10).toNatClampNeg ≤ nI k - nI k / 10 * 10 → ∀ y, K 20 [some (.ref 64), some (.int x), some (.int D), some (.int be), some (.int (nI k + 1)), y] [] n M L := fun z y => by
        rw [m70, er] at z
        exact go D y (rmd_out p2 (by omega) ((nI_leI (by omega) (by omega)).mp z))
      have inn : ¬ M 70 (nI k / 10).toNatClampNeg ≤ nI k - nI k / 10 * 10 → ∃ v nd, v < 8 ∧ nd < m ∧ (P (k / 10)).2.1[k % 10]? = some (v, nd, fun _ => 0) ∧ M 71 (nI k).toNatClampNeg = nI v ∧ M 72 (nI k).toNatClampNeg = nI nd := fun z => by
        rw [m70, er] at z
        have hlt : k % 10 < (P (k / 10)).2.1.length := Nat.lt_of_not_le (fun w => z (nI_le w (by omega)))
        obtain ⟨v, nd, h1, h2, h3, h4, h5⟩ := p3 _ hlt
        rw [show k / 10 * 10 + k % 10 = k by omega] at h4 h5
        exact ⟨v, nd, h1, h2, h3, by rw [ek]; exact h4, by rw [ek]; exact h5⟩
      refine hK.1 [20] 60 20 _ _ _ _ _ ⟨fun z => absurd z c1, fun _ => ⟨by decide, by decide, vd, fun z => ⟨fun _ => out z _, fun w => absurd rfl w⟩, fun z => ?_⟩⟩
      obtain ⟨v, nd, hv, hnd, hl, m71, m72⟩ := inn z
      have vn : vp_in (M 72 (nI k).toNatClampNeg) 150 := by rw [m72]; exact vp_in_nI (by omega) (by decide)
      have t4 : M 69 (M 72 (nI k).toNatClampNeg).toNatClampNeg = T 4 nd := by
        rw [m72, nI_clamp (by omega)]
        exact hN.2 4 (by decide) nd hnd
      refine ⟨vk, vn, fun w => ⟨fun _ => go _ _ ?_, fun u => absurd rfl u⟩, fun w => ⟨fun u => absurd u (by decide), fun _ => ⟨vk, go _ _ ?_⟩⟩⟩
      · rw [t4] at w
        have e5 : (if ¬ (T 4 nd &&& D) = 0 then D ||| (1 <<< (nI v &&& 31)) else D) = D := if_neg (fun u => u w)
        rw [rmd_in p2 (by omega) hl, e5]
      · rw [t4] at w
        have e5 : (if ¬ (T 4 nd &&& D) = 0 then D ||| (1 <<< (nI v &&& 31)) else D) = D ||| (1 <<< (nI v &&& 31)) := if_pos w
        rw [rmd_in p2 (by omega) hl, e5, m71]
  have lp : ∀ (K : mc_K), mc_closed true tab0 n 0 (some .int) (shR_dynamics g d) Q (fun _ _ _ => False) tbR_dynamics K → ∀ (fu : Nat) (D be : Int32), 8 ≤ fu + pc D 8 → ¬ be = D → (∀ r, r = sp_dit T P fu D → Q (some (.int r)) M L) → K 10 [some (.ref 64), some (.int x), some (.int D), some (.int be), none, none] [] n M L := by
    intro K hK fu
    induction fu with
    | zero =>
      intro D be hp hbe h
      have fx := sp_dit_fix (T := T) (pgR_lt hP) 0 D hp
      have fx' : sp_dr T P 16 0 D = D := fx
      refine hK.1 [20] 20 10 _ _ _ _ _ ⟨fun z => absurd z hbe, fun _ => inner K hK D 160 0 D 0 rfl rfl (fun i => ?_)⟩
      have e : (if 0 < 160 then rmd T P 0 D else D) = D := by
        rw [if_pos (by decide)]
        exact fx'
      rw [e]
      exact hK.1 [] 20 97 _ _ _ _ _ ⟨fun _ => ⟨Nat.le_refl _, h _ rfl⟩, fun z => absurd rfl z⟩
    | succ fu ih =>
      intro D be hp hbe h
      refine hK.1 [20] 20 10 _ _ _ _ _ ⟨fun z => absurd z hbe, fun _ => inner K hK D 160 0 D 0 rfl rfl (fun i => ?_)⟩
      have e : (if 0 < 160 then rmd T P 0 D else D) = sp_dr T P 16 0 D := by
        rw [if_pos (by decide)]
        rfl
      rw [e]
      by_cases fx : sp_dr T P 16 0 D = D
      · have q := h D (by unfold sp_dit; rw [if_pos fx, fx])
        rw [fx]
        exact hK.1 [] 20 97 _ _ _ _ _ ⟨fun _ => ⟨Nat.le_refl _, q⟩, fun z => absurd rfl z⟩
      · have h1 := grw_pc (sp_dr_grw (T := T) (pgR_lt hP) 16 0 D rfl) fx
        have nx := ih (sp_dr T P 16 0 D) D (by omega) (fun z => fx z.symm) (fun r hr => h r (by rw [hr]; conv => rhs; unfold sp_dit; rw [if_neg fx]))
        refine hK.2 [true, true, true, true, false, false] _ _ _ _ _ _ ?_
        exact hK.1 [10] 20 97 _ _ _ _ _ nx
  have lp' := fun K hK => lp K hK 8 (255 &&& (x ^^^ (-1))) (-1) (by omega) (fun z => hne z.symm) h
  exact inR_dynamics (Nat.le_of_ble_eq_true rfl) (fun K hK => hK.1 [10] 20 0 _ _ _ _ _ (lp' K hK))
end RD
end
section
/-! Rounds of a monotone system of sixteen booleans: after sixteen rounds nothing changes -/
def bup (x : Nat → Bool) (b : Nat) (y : Bool) : Nat → Bool := fun i => if i = b then y else x i
def bmono (f : (Nat → Bool) → Nat → Bool) : Prop := ∀ x y : Nat → Bool, (∀ b, b < 16 → x b = true → y b = true) → ∀ b, b < 16 → f x b = true → f y b = true
def ble (x y : Nat → Bool) : Prop := ∀ b, b < 16 → x b = true → y b = true
def brd (f : (Nat → Bool) → Nat → Bool) : Nat → (Nat → Bool) → Nat → Bool
  | 0, x => x
  | b + 1, x => brd f b (bup x b (f x b))
def bit_ (f : (Nat → Bool) → Nat → Bool) : Nat → (Nat → Bool) → Nat → Bool
  | 0, x => x
  | k + 1, x => bit_ f k (brd f 16 x)
def bpost (f : (Nat → Bool) → Nat → Bool) (x : Nat → Bool) : Prop := ∀ b, b < 16 → x b = true → f x b = true
theorem bup_post {f : (Nat → Bool) → Nat → Bool} (hf : bmono f) {x : Nat → Bool} (h : bpost f x) {b : Nat} (hb : b < 16) : ble x (bup x b (f x b)) ∧ bpost f (bup x b (f x b)) := by
  have h1 : ble x (bup x b (f x b)) := fun c hc hx => by
    unfold bup
    by_cases e : c = b
    · rw [if_pos e, ← e]
      exact h c hc hx
    · rw [if_neg e]
      exact hx
  refine ⟨h1, fun c hc hx => ?_⟩
  unfold bup at hx
  by_cases e : c = b
  · rw [if_pos e] at hx
    rw [e]
    exact hf _ _ h1 b hb hx
  · rw [if_neg e] at hx
    exact hf _ _ h1 c hc (h c hc hx)
theorem brd_post {f : (Nat → Bool) → Nat → Bool} (hf : bmono f) : ∀ (b : Nat) (x : Nat → Bool), b ≤ 16 → bpost f x → ble x (brd f b x) ∧ bpost f (brd f b x)
  | 0, x, _, h => ⟨fun _ _ h => h, h⟩
  | b + 1, x, hb, h => by
    obtain ⟨h1, h2⟩ := bup_post hf h (b := b) (by omega)
    obtain ⟨h3, h4⟩ := brd_post hf b _ (by omega) h2
    exact ⟨fun c hc hx => h3 c hc (h1 c hc hx), h4⟩
/-- a round keeps below what the system leaves below itself -/
theorem brd_below {f : (Nat → Bool) → Nat → Bool} (hf : bmono f) {y : Nat → Bool} (hy : ∀ b, b < 16 → f y b = true → y b = true) : ∀ (b : Nat) (x : Nat → Bool), b ≤ 16 → ble x y → ble (brd f b x) y
  | 0, x, _, h => h
  | b + 1, x, hb, h => by
    refine brd_below hf hy b _ (by omega) (fun c hc hx => ?_)
    unfold bup at hx
    by_cases e : c = b
    · rw [if_pos e] at hx
      rw [e]
      exact hy b (by omega) (hf _ _ h b (by omega) hx)
    · rw [if_neg e] at hx
      exact h c hc hx
/-- a round that changes nothing: the system's fixed point -/
theorem brd_fix {f : (Nat → Bool) → Nat → Bool} (hf : bmono f) : ∀ (b : Nat) (x : Nat → Bool), b ≤ 16 → bpost f x → (∀ c, c < 16 → brd f b x c = x c) → ∀ c, c < b → f x c = x c
  | 0, x, _, _, _, c, hc => absurd hc (Nat.not_lt_zero _)
  | b + 1, x, hb, hp, h, c, hc => by
    obtain ⟨h1, h2⟩ := bup_post hf hp (b := b) (by omega)
    obtain ⟨h3, -⟩ := brd_post hf b _ (by omega) h2
    have same : ∀ c, c < 16 → bup x b (f x b) c = x c := fun c hc => by
      have a1 : x c = true → bup x b (f x b) c = true := h1 c hc
      have a2 : bup x b (f x b) c = true → brd f (b + 1) x c = true := h3 c hc
      rw [h c hc] at a2
      cases hx : x c with
      | true => exact a1 hx
      | false =>
        cases hu : bup x b (f x b) c with
        | false => rfl
        | true =>
          rw [a2 hu] at hx
          cases hx
    have eqf : ∀ c, c < 16 → f (bup x b (f x b)) c = f x c := fun c hc => by
      have a1 : f (bup x b (f x b)) c = true → f x c = true := hf _ _ (fun d hd hx => by rw [same d hd] at hx; exact hx) c hc
      have a2 : f x c = true → f (bup x b (f x b)) c = true := hf _ _ h1 c hc
      cases h5 : f x c with
      | true => exact a2 h5
      | false =>
        cases h6 : f (bup x b (f x b)) c with
        | false => rfl
        | true =>
          rw [a1 h6] at h5
          cases h5
    by_cases e : c = b
    · have := same b (by omega)
      unfold bup at this
      rw [if_pos rfl] at this
      rw [e]
      exact this
    · have ih := brd_fix hf b (bup x b (f x b)) (by omega) h2 (fun d hd => by
        rw [same d hd]
        exact h d hd) c (by omega)
      rw [eqf c (by omega), same c (by omega)] at ih
      exact ih
def bct (x : Nat → Bool) : Nat → Nat
  | 0 => 0
  | k + 1 => bct x k + (if x k = true then 1 else 0)
theorem bct_le (x : Nat → Bool) : ∀ k, bct x k ≤ k
  | 0 => Nat.le_refl _
  | k + 1 => by
    have := bct_le x k
    unfold bct
    split <;> omega
theorem bct_mono {x y : Nat → Bool} (h : ble x y) : ∀ k, k ≤ 16 → bct x k ≤ bct y k
  | 0, _ => Nat.le_refl _
  | k + 1, hk => by
    have := bct_mono h k (by omega)
    unfold bct
    by_cases hx : x k = true
    · rw [if_pos hx, if_pos (h k (by omega) hx)]
      omega
    · rw [if_neg hx]
      omega
theorem bct_eq {x y : Nat → Bool} (h : ble x y) : ∀ k, k ≤ 16 → bct x k = bct y k → ∀ c, c < k → x c = y c
  | 0, _, _, c, hc => absurd hc (Nat.not_lt_zero _)
  | k + 1, hk, he, c, hc => by
    have m := bct_mono h k (by omega)
    unfold bct at he
    have hk1 : x k = y k := by
      cases hx : x k with
      | true => rw [h k (by omega) hx]
      | false =>
        cases hy : y k with
        | false => rfl
        | true =>
          rw [hx, hy] at he
          simp at he
          omega
    rw [hk1] at he
    by_cases e : c = k
    · rw [e, hk1]
    · exact bct_eq h k (by omega) (by omega) c (by omega)
theorem b_congr {f : (Nat → Bool) → Nat → Bool} (hf : bmono f) {x y : Nat → Bool} (h : ∀ c, c < 16 → x c = y c) {c : Nat} (hc : c < 16) : f x c = f y c := by
  have a1 : f x c = true → f y c = true := hf _ _ (fun d hd hx => by rw [← h d hd]; exact hx) c hc
  have a2 : f y c = true → f x c = true := hf _ _ (fun d hd hx => by rw [h d hd]; exact hx) c hc
  cases h5 : f y c with
  | true => exact a2 h5
  | false =>
    cases h6 : f x c with
    | false => rfl
    | true =>
      rw [a1 h6] at h5
      cases h5
theorem brd_keep {f : (Nat → Bool) → Nat → Bool} (hf : bmono f) : ∀ (b : Nat) (x : Nat → Bool), b ≤ 16 → (∀ c, c < 16 → f x c = x c) → ∀ c, c < 16 → brd f b x c = x c
  | 0, _, _, _, _, _ => rfl
  | b + 1, x, hb, h, c, hc => by
    have same : ∀ c, c < 16 → bup x b (f x b) c = x c := fun c hc => by
      unfold bup
      by_cases e : c = b
      · rw [if_pos e, e]
        exact h b (by omega)
      · rw [if_neg e]
    have ih := brd_keep hf b (bup x b (f x b)) (by omega) (fun d hd => by rw [b_congr hf same hd, h d hd, same d hd]) c hc
    rw [same c hc] at ih
    exact ih
theorem bit_keep {f : (Nat → Bool) → Nat → Bool} (hf : bmono f) : ∀ (k : Nat) (x : Nat → Bool), (∀ c, c < 16 → f x c = x c) → ∀ c, c < 16 → bit_ f k x c = x c
  | 0, _, _, _, _ => rfl
  | k + 1, x, h, c, hc => by
    have same := brd_keep hf 16 x (Nat.le_refl _) h
    have ih := bit_keep hf k (brd f 16 x) (fun d hd => by rw [b_congr hf same hd, h d hd, same d hd]) c hc
    rw [same c hc] at ih
    exact ih
theorem bit_fixed {f : (Nat → Bool) → Nat → Bool} (hf : bmono f) : ∀ (k : Nat) (x : Nat → Bool), bpost f x → 16 ≤ k + bct x 16 → ∀ c, c < 16 → f (bit_ f k x) c = bit_ f k x c
  | 0, x, hp, h, c, hc => by
    show f x c = x c
    have hle := bct_le x 16
    have full : ∀ c, c < 16 → x c = true := by
      have e := bct_eq (x := x) (y := fun _ => true) (fun _ _ _ => rfl) 16 (Nat.le_refl _) (by
        have : bct (fun _ => true) 16 = 16 := by decide
        omega)
      exact e
    rw [full c hc]
    exact hp c hc (full c hc)
  | k + 1, x, hp, h, c, hc => by
    obtain ⟨h1, h2⟩ := brd_post hf 16 x (Nat.le_refl _) hp
    unfold bit_
    by_cases e : bct x 16 = bct (brd f 16 x) 16
    · have same := bct_eq h1 16 (Nat.le_refl _) e
      have fx := brd_fix hf 16 x (Nat.le_refl _) hp (fun c hc => (same c hc).symm)
      have same' : ∀ c, c < 16 → brd f 16 x c = x c := fun c hc => (same c hc).symm
      have fx' : ∀ c, c < 16 → f (brd f 16 x) c = brd f 16 x c := fun d hd => by rw [b_congr hf same' hd, fx d hd, same' d hd]
      have kp := bit_keep hf k (brd f 16 x) fx'
      rw [b_congr hf kp hc, fx' c hc, kp c hc]
    · have m := bct_mono h1 16 (Nat.le_refl _)
      exact bit_fixed hf k _ h2 (by omega) c hc
end
section
/-! The lives, bit by bit -/
def lab (t : Int32) (x : Nat → Bool) : Bool := if t = -1 then false else x t.toNatClampNeg
def lsys (T : Nat → Nat → Int32) (P : Nat → Blk) (v : Nat) : (Nat → Bool) → Nat → Bool := fun x b => fl_bit (sp_lvs T (P b).2.1 0 0).2 v || ((fl_bit (T 4 (P b).2.2.2.1.1) v || lab (P b).2.2.2.2.1 x || lab (P b).2.2.2.2.2 x) && !fl_bit (sp_lvs T (P b).2.1 0 0).1 v)
def bts (X : Nat → Int32) (v : Nat) : Nat → Bool := fun c => fl_bit (X c) v
theorem sp_at_bit (X : Nat → Int32) (t : Int32) (v : Nat) : fl_bit (sp_at X t) v = lab t (bts X v) := by
  unfold sp_at lab bts
  split
  · exact fl_bit_0 v
  · rfl
theorem lv_bit {T : Nat → Nat → Int32} {P : Nat → Blk} {X : Nat → Int32} {v b : Nat} (hv : v < 8) : fl_bit (sp_lv T (P b) X) v = lsys T P v (bts X v) b := by
  unfold sp_lv lsys
  rw [fl_bit_or _ _ hv, fl_bit_and _ _ hv, fl_bit_or _ _ hv, fl_bit_or _ _ hv, fl_bit_not _ hv, sp_at_bit, sp_at_bit]
theorem lab_mono {t : Int32} (ht : t = -1 ∨ ∃ u, u < 16 ∧ t = nI u) {x y : Nat → Bool} (h : ble x y) (hx : lab t x = true) : lab t y = true := by
  unfold lab at *
  rcases ht with ht | ⟨u, hu, ht⟩
  · rw [if_pos ht] at hx
    cases hx
  · have n1 : ¬ t = -1 := by rw [ht]; exact nI_ne_m1 (by omega)
    rw [if_neg n1] at hx ⊢
    rw [ht, nI_clamp (by omega)] at hx ⊢
    exact h u hu hx
theorem lsys_mono {T : Nat → Nat → Int32} {P : Nat → Blk} (hpt : pt_ok P 16) (v : Nat) : bmono (lsys T P v) := by
  intro x y h b hb hx
  obtain ⟨p1, p2⟩ := hpt b hb
  unfold lsys at *
  have m1 := lab_mono p1 h
  have m2 := lab_mono p2 h
  generalize fl_bit (sp_lvs T (P b).2.1 0 0).2 v = p at hx ⊢
  generalize fl_bit (T 4 (P b).2.2.2.1.1) v = q at hx ⊢
  generalize fl_bit (sp_lvs T (P b).2.1 0 0).1 v = r at hx ⊢
  revert hx m1 m2
  cases p <;> cases q <;> cases r <;> cases lab (P b).2.2.2.2.1 x <;> cases lab (P b).2.2.2.2.1 y <;> cases lab (P b).2.2.2.2.2 x <;> cases lab (P b).2.2.2.2.2 y <;> simp
theorem bts_upd (X : Nat → Int32) (b : Nat) (y : Int32) (v : Nat) : bts (upd X b y) v = bup (bts X v) b (fl_bit y v) := by
  funext i
  unfold bts bup upd
  by_cases e : i = b
  · rw [if_pos e, if_pos e]
  · rw [if_neg e, if_neg e]
theorem sp_lr_bits {T : Nat → Nat → Int32} {P : Nat → Blk} {v : Nat} (hv : v < 8) : ∀ (b : Nat) (X : Nat → Int32) (c : Bool), bts (sp_lr T P b X c).1 v = brd (lsys T P v) b (bts X v)
  | 0, X, c => rfl
  | b + 1, X, c => by
    unfold sp_lr brd
    rw [sp_lr_bits hv b, bts_upd, lv_bit hv]
theorem sp_lr_flag {T : Nat → Nat → Int32} {P : Nat → Blk} : ∀ (b : Nat) (X : Nat → Int32) (c : Bool), (sp_lr T P b X c).2 = false → c = false ∧ (sp_lr T P b X c).1 = X
  | 0, X, c, h => ⟨h, rfl⟩
  | b + 1, X, c, h => by
    unfold sp_lr at h ⊢
    obtain ⟨h1, h2⟩ := sp_lr_flag b _ _ h
    have h3 : c = false ∧ sp_lv T (P b) X = X b := by simpa using h1
    refine ⟨h3.1, ?_⟩
    rw [h2, h3.2]
    funext i
    unfold upd
    split
    · next e => rw [e]
    · rfl
theorem sp_lit_bits {T : Nat → Nat → Int32} {P : Nat → Blk} (hpt : pt_ok P 16) {v : Nat} (hv : v < 8) : ∀ (fu : Nat) (X : Nat → Int32), bpost (lsys T P v) (bts X v) → ∀ i, i < 16 → bts (sp_lit T P fu X) v i = bit_ (lsys T P v) fu (bts X v) i
  | 0, X, _, i, hi => rfl
  | fu + 1, X, hp, i, hi => by
    have hb := sp_lr_bits (T := T) (P := P) hv 16 X false
    have hm := lsys_mono (T := T) hpt v
    unfold sp_lit bit_
    cases hc : (sp_lr T P 16 X false).2 with
    | true =>
      rw [if_pos rfl, ← hb]
      exact sp_lit_bits hpt hv fu _ (by rw [hb]; exact (brd_post hm 16 _ (Nat.le_refl _) hp).2) i hi
    | false =>
      rw [if_neg (by decide)]
      have e := (sp_lr_flag 16 X false hc).2
      rw [e] at hb ⊢
      have fx := brd_fix hm 16 (bts X v) (Nat.le_refl _) hp (fun c _ => by rw [← hb])
      rw [← hb, bit_keep hm fu (bts X v) fx i hi]
/-- the class's lives are a fixed point, and below every other one -/
theorem sp_lit_fixed {T : Nat → Nat → Int32} {P : Nat → Blk} (hpt : pt_ok P 16) {v : Nat} (hv : v < 8) {b : Nat} (hb : b < 16) : fl_bit (sp_lv T (P b) (sp_lit T P 16 (fun _ => 0))) v = fl_bit (sp_lit T P 16 (fun _ => 0) b) v := by
  have hm := lsys_mono (T := T) hpt v
  have h0 : bts (fun _ => 0) v = fun _ => false := by
    funext i
    exact fl_bit_0 v
  have hp : bpost (lsys T P v) (bts (fun _ => 0) v) := by
    rw [h0]
    intro b _ h
    cases h
  have e := sp_lit_bits (T := T) hpt hv 16 (fun _ => 0) hp
  rw [lv_bit hv, b_congr hm e hb]
  show _ = bts (sp_lit T P 16 (fun _ => 0)) v b
  rw [e b hb]
  exact bit_fixed hm 16 _ hp (by omega) b hb
theorem bit_below {f : (Nat → Bool) → Nat → Bool} (hf : bmono f) {y : Nat → Bool} (hy : ∀ b, b < 16 → f y b = true → y b = true) : ∀ (k : Nat) (x : Nat → Bool), ble x y → ble (bit_ f k x) y
  | 0, _, h => h
  | k + 1, x, h => bit_below hf hy k _ (brd_below hf hy 16 x (Nat.le_refl _) h)
theorem sp_lit_least {T : Nat → Nat → Int32} {P : Nat → Blk} (hpt : pt_ok P 16) {v : Nat} (hv : v < 8) {Y : Nat → Int32} (hY : ∀ b, b < 16 → fl_bit (sp_lv T (P b) Y) v = fl_bit (Y b) v) {b : Nat} (hb : b < 16) (h : fl_bit (sp_lit T P 16 (fun _ => 0) b) v = true) : fl_bit (Y b) v = true := by
  have hm := lsys_mono (T := T) hpt v
  have h0 : bts (fun _ => 0) v = fun _ => false := by
    funext i
    exact fl_bit_0 v
  have hp : bpost (lsys T P v) (bts (fun _ => 0) v) := by
    rw [h0]
    intro b _ h
    cases h
  have e := sp_lit_bits (T := T) hpt hv 16 (fun _ => 0) hp b hb
  have h' : bts (sp_lit T P 16 (fun _ => 0)) v b = true := h
  rw [e] at h'
  refine bit_below hm (y := bts Y v) (fun c hc hx => ?_) 16 _ (fun c hc hx => ?_) b hb h'
  · rw [← lv_bit hv, hY c hc] at hx
    exact hx
  · rw [h0] at hx
    cases hx
end
