-- ===== PART A: goes FIRST, ahead of the names: the tables' words, and 'selects' of the private methods out of them =====
/-- a private method of a class that the tables say can be made, by its rows of tables_1 -/
def lw_okq (q : MethodName × Nat) : Prop := (q.1.cls ≠ "java/lang/invoke/MethodHandle" ∧ q.1.cls ≠ "java/lang/invoke/VarHandle") ∧ Cond.instantiable q.1.cls q.2 ∈ tables_1 ∧ Cond.privateMethod q.1 ∈ tables_1 ∧ Cond.instanceMethod q.1 ∈ tables_1
theorem lw_p0 : lw_okq (⟨"StiffFrames", "refuse", "(I)I"⟩, 9) := ⟨⟨by decide +kernel, by decide +kernel⟩, List.mem_of_getElem? (i := 14) (by decide +kernel), List.mem_of_getElem? (i := 296) (by decide +kernel), List.mem_of_getElem? (i := 297) (by decide +kernel)⟩
theorem lw_p1 : lw_okq (⟨"StiffFrames", "noPair", "(II)Z"⟩, 9) := ⟨⟨by decide +kernel, by decide +kernel⟩, List.mem_of_getElem? (i := 14) (by decide +kernel), List.mem_of_getElem? (i := 308) (by decide +kernel), List.mem_of_getElem? (i := 309) (by decide +kernel)⟩
theorem lw_p2 : lw_okq (⟨"StiffFrames", "noJoint", "(I)Z"⟩, 9) := ⟨⟨by decide +kernel, by decide +kernel⟩, List.mem_of_getElem? (i := 14) (by decide +kernel), List.mem_of_getElem? (i := 312) (by decide +kernel), List.mem_of_getElem? (i := 313) (by decide +kernel)⟩
theorem lw_p3 : lw_okq (⟨"StiffFrames", "noBar", "(I)Z"⟩, 9) := ⟨⟨by decide +kernel, by decide +kernel⟩, List.mem_of_getElem? (i := 14) (by decide +kernel), List.mem_of_getElem? (i := 337) (by decide +kernel), List.mem_of_getElem? (i := 338) (by decide +kernel)⟩
theorem lw_p4 : lw_okq (⟨"StiffFrames$Row", "lineUp", "()I"⟩, 10) := ⟨⟨by decide +kernel, by decide +kernel⟩, List.mem_of_getElem? (i := 86) (by decide +kernel), List.mem_of_getElem? (i := 368) (by decide +kernel), List.mem_of_getElem? (i := 369) (by decide +kernel)⟩
theorem lw_p5 : lw_okq (⟨"StiffFrames$Pebbles", "countLoose", "(I)I"⟩, 5) := ⟨⟨by decide +kernel, by decide +kernel⟩, List.mem_of_getElem? (i := 92) (by decide +kernel), List.mem_of_getElem? (i := 380) (by decide +kernel), List.mem_of_getElem? (i := 381) (by decide +kernel)⟩
theorem lw_p6 : lw_okq (⟨"StiffFrames$Pebbles", "fetch", "(II)Z"⟩, 5) := ⟨⟨by decide +kernel, by decide +kernel⟩, List.mem_of_getElem? (i := 92) (by decide +kernel), List.mem_of_getElem? (i := 384) (by decide +kernel), List.mem_of_getElem? (i := 385) (by decide +kernel)⟩
theorem lw_p7 : lw_okq (⟨"StiffFrames$Pebbles", "loosePebble", "(I)I"⟩, 5) := ⟨⟨by decide +kernel, by decide +kernel⟩, List.mem_of_getElem? (i := 92) (by decide +kernel), List.mem_of_getElem? (i := 389) (by decide +kernel), List.mem_of_getElem? (i := 390) (by decide +kernel)⟩
theorem lw_p8 : lw_okq (⟨"StiffFrames$Pebbles", "turnBack", "(III)V"⟩, 5) := ⟨⟨by decide +kernel, by decide +kernel⟩, List.mem_of_getElem? (i := 92) (by decide +kernel), List.mem_of_getElem? (i := 393) (by decide +kernel), List.mem_of_getElem? (i := 394) (by decide +kernel)⟩
theorem lw_p9 : lw_okq (⟨"StiffFrames$Pebbles", "ledTo", "(I)I"⟩, 5) := ⟨⟨by decide +kernel, by decide +kernel⟩, List.mem_of_getElem? (i := 92) (by decide +kernel), List.mem_of_getElem? (i := 401) (by decide +kernel), List.mem_of_getElem? (i := 402) (by decide +kernel)⟩
theorem lw_p10 : lw_okq (⟨"StiffFrames", "keptIn", "(LStiffFrames$Row;I)I"⟩, 9) := ⟨⟨by decide +kernel, by decide +kernel⟩, List.mem_of_getElem? (i := 14) (by decide +kernel), List.mem_of_getElem? (i := 437) (by decide +kernel), List.mem_of_getElem? (i := 438) (by decide +kernel)⟩
theorem lw_p11 : lw_okq (⟨"StiffFrames$Clusters", "findClose", "()V"⟩, 6) := ⟨⟨by decide +kernel, by decide +kernel⟩, List.mem_of_getElem? (i := 151) (by decide +kernel), List.mem_of_getElem? (i := 477) (by decide +kernel), List.mem_of_getElem? (i := 478) (by decide +kernel)⟩
theorem lw_p12 : lw_okq (⟨"StiffFrames$Clusters", "bind", "(I)V"⟩, 6) := ⟨⟨by decide +kernel, by decide +kernel⟩, List.mem_of_getElem? (i := 151) (by decide +kernel), List.mem_of_getElem? (i := 484) (by decide +kernel), List.mem_of_getElem? (i := 485) (by decide +kernel)⟩
theorem lw_p13 : lw_okq (⟨"StiffFrames$Clusters", "addIfFirstPair", "(II)V"⟩, 6) := ⟨⟨by decide +kernel, by decide +kernel⟩, List.mem_of_getElem? (i := 151) (by decide +kernel), List.mem_of_getElem? (i := 488) (by decide +kernel), List.mem_of_getElem? (i := 489) (by decide +kernel)⟩
theorem lw_p14 : lw_okq (⟨"StiffFrames", "noCluster", "(I)Z"⟩, 9) := ⟨⟨by decide +kernel, by decide +kernel⟩, List.mem_of_getElem? (i := 14) (by decide +kernel), List.mem_of_getElem? (i := 496) (by decide +kernel), List.mem_of_getElem? (i := 497) (by decide +kernel)⟩
theorem lw_p15 : lw_okq (⟨"StiffFrames$Missing", "tellIfGrows", "(II)V"⟩, 6) := ⟨⟨by decide +kernel, by decide +kernel⟩, List.mem_of_getElem? (i := 203) (by decide +kernel), List.mem_of_getElem? (i := 557) (by decide +kernel), List.mem_of_getElem? (i := 558) (by decide +kernel)⟩
def lw_privs_1 : List (MethodName × Nat) := [(⟨"StiffFrames", "refuse", "(I)I"⟩, 9), (⟨"StiffFrames", "noPair", "(II)Z"⟩, 9), (⟨"StiffFrames", "noJoint", "(I)Z"⟩, 9), (⟨"StiffFrames", "noBar", "(I)Z"⟩, 9), (⟨"StiffFrames$Row", "lineUp", "()I"⟩, 10), (⟨"StiffFrames$Pebbles", "countLoose", "(I)I"⟩, 5), (⟨"StiffFrames$Pebbles", "fetch", "(II)Z"⟩, 5), (⟨"StiffFrames$Pebbles", "loosePebble", "(I)I"⟩, 5), (⟨"StiffFrames$Pebbles", "turnBack", "(III)V"⟩, 5), (⟨"StiffFrames$Pebbles", "ledTo", "(I)I"⟩, 5), (⟨"StiffFrames", "keptIn", "(LStiffFrames$Row;I)I"⟩, 9), (⟨"StiffFrames$Clusters", "findClose", "()V"⟩, 6), (⟨"StiffFrames$Clusters", "bind", "(I)V"⟩, 6), (⟨"StiffFrames$Clusters", "addIfFirstPair", "(II)V"⟩, 6), (⟨"StiffFrames", "noCluster", "(I)Z"⟩, 9), (⟨"StiffFrames$Missing", "tellIfGrows", "(II)V"⟩, 6)]
theorem lw_r1 : ∀ q ∈ lw_privs_1, lw_okq q := List.forall_mem_cons.mpr ⟨lw_p0, List.forall_mem_cons.mpr ⟨lw_p1, List.forall_mem_cons.mpr ⟨lw_p2, List.forall_mem_cons.mpr ⟨lw_p3, List.forall_mem_cons.mpr ⟨lw_p4, List.forall_mem_cons.mpr ⟨lw_p5, List.forall_mem_cons.mpr ⟨lw_p6, List.forall_mem_cons.mpr ⟨lw_p7, List.forall_mem_cons.mpr ⟨lw_p8, List.forall_mem_cons.mpr ⟨lw_p9, List.forall_mem_cons.mpr ⟨lw_p10, List.forall_mem_cons.mpr ⟨lw_p11, List.forall_mem_cons.mpr ⟨lw_p12, List.forall_mem_cons.mpr ⟨lw_p13, List.forall_mem_cons.mpr ⟨lw_p14, List.forall_mem_cons.mpr ⟨lw_p15, fun _ h => absurd h List.not_mem_nil⟩⟩⟩⟩⟩⟩⟩⟩⟩⟩⟩⟩⟩⟩⟩⟩
theorem lw_p16 : lw_okq (⟨"StiffFrames$Steps", "tie", "(II)V"⟩, 8) := ⟨⟨by decide +kernel, by decide +kernel⟩, List.mem_of_getElem? (i := 230) (by decide +kernel), List.mem_of_getElem? (i := 576) (by decide +kernel), List.mem_of_getElem? (i := 577) (by decide +kernel)⟩
theorem lw_p17 : lw_okq (⟨"StiffFrames$Steps", "leastTied", "(I)I"⟩, 8) := ⟨⟨by decide +kernel, by decide +kernel⟩, List.mem_of_getElem? (i := 230) (by decide +kernel), List.mem_of_getElem? (i := 580) (by decide +kernel), List.mem_of_getElem? (i := 581) (by decide +kernel)⟩
theorem lw_p18 : lw_okq (⟨"StiffFrames$Steps", "takeAway", "(I)V"⟩, 8) := ⟨⟨by decide +kernel, by decide +kernel⟩, List.mem_of_getElem? (i := 230) (by decide +kernel), List.mem_of_getElem? (i := 586) (by decide +kernel), List.mem_of_getElem? (i := 587) (by decide +kernel)⟩
theorem lw_p19 : lw_okq (⟨"StiffFrames$Steps", "layBoard", "()V"⟩, 8) := ⟨⟨by decide +kernel, by decide +kernel⟩, List.mem_of_getElem? (i := 230) (by decide +kernel), List.mem_of_getElem? (i := 590) (by decide +kernel), List.mem_of_getElem? (i := 591) (by decide +kernel)⟩
theorem lw_p20 : lw_okq (⟨"StiffFrames$Steps", "bridge", "(I)I"⟩, 8) := ⟨⟨by decide +kernel, by decide +kernel⟩, List.mem_of_getElem? (i := 230) (by decide +kernel), List.mem_of_getElem? (i := 596) (by decide +kernel), List.mem_of_getElem? (i := 597) (by decide +kernel)⟩
theorem lw_p21 : lw_okq (⟨"StiffFrames$Bundles", "joinCircuit", "(I)V"⟩, 5) := ⟨⟨by decide +kernel, by decide +kernel⟩, List.mem_of_getElem? (i := 178) (by decide +kernel), List.mem_of_getElem? (i := 619) (by decide +kernel), List.mem_of_getElem? (i := 620) (by decide +kernel)⟩
theorem lw_p22 : lw_okq (⟨"StiffFrames$Bundles", "join", "(II)V"⟩, 5) := ⟨⟨by decide +kernel, by decide +kernel⟩, List.mem_of_getElem? (i := 178) (by decide +kernel), List.mem_of_getElem? (i := 624) (by decide +kernel), List.mem_of_getElem? (i := 625) (by decide +kernel)⟩
theorem lw_p23 : lw_okq (⟨"StiffFrames$Bundles", "headsBelow", "(I)I"⟩, 5) := ⟨⟨by decide +kernel, by decide +kernel⟩, List.mem_of_getElem? (i := 178) (by decide +kernel), List.mem_of_getElem? (i := 630) (by decide +kernel), List.mem_of_getElem? (i := 631) (by decide +kernel)⟩
theorem lw_p24 : lw_okq (⟨"StiffFramesModel", "refuse", "(I)I"⟩, 29) := ⟨⟨by decide +kernel, by decide +kernel⟩, List.mem_of_getElem? (i := 675) (by decide +kernel), List.mem_of_getElem? (i := 773) (by decide +kernel), List.mem_of_getElem? (i := 774) (by decide +kernel)⟩
theorem lw_p25 : lw_okq (⟨"StiffFramesModel", "areJoints", "(II)Z"⟩, 29) := ⟨⟨by decide +kernel, by decide +kernel⟩, List.mem_of_getElem? (i := 675) (by decide +kernel), List.mem_of_getElem? (i := 781) (by decide +kernel), List.mem_of_getElem? (i := 782) (by decide +kernel)⟩
theorem lw_p26 : lw_okq (⟨"StiffFramesModel", "between", "(II)I"⟩, 29) := ⟨⟨by decide +kernel, by decide +kernel⟩, List.mem_of_getElem? (i := 675) (by decide +kernel), List.mem_of_getElem? (i := 788) (by decide +kernel), List.mem_of_getElem? (i := 789) (by decide +kernel)⟩
theorem lw_p27 : lw_okq (⟨"StiffFramesModel", "isBar", "(I)Z"⟩, 29) := ⟨⟨by decide +kernel, by decide +kernel⟩, List.mem_of_getElem? (i := 675) (by decide +kernel), List.mem_of_getElem? (i := 798) (by decide +kernel), List.mem_of_getElem? (i := 799) (by decide +kernel)⟩
theorem lw_p28 : lw_okq (⟨"StiffFramesModel", "ranks", "()I"⟩, 29) := ⟨⟨by decide +kernel, by decide +kernel⟩, List.mem_of_getElem? (i := 675) (by decide +kernel), List.mem_of_getElem? (i := 813) (by decide +kernel), List.mem_of_getElem? (i := 814) (by decide +kernel)⟩
theorem lw_p29 : lw_okq (⟨"StiffFramesModel", "keeps", "(III)I"⟩, 29) := ⟨⟨by decide +kernel, by decide +kernel⟩, List.mem_of_getElem? (i := 675) (by decide +kernel), List.mem_of_getElem? (i := 817) (by decide +kernel), List.mem_of_getElem? (i := 818) (by decide +kernel)⟩
theorem lw_p30 : lw_okq (⟨"StiffFramesModel", "begins", "(II)V"⟩, 29) := ⟨⟨by decide +kernel, by decide +kernel⟩, List.mem_of_getElem? (i := 675) (by decide +kernel), List.mem_of_getElem? (i := 821) (by decide +kernel), List.mem_of_getElem? (i := 822) (by decide +kernel)⟩
theorem lw_p31 : lw_okq (⟨"StiffFramesModel", "isFree", "(IIZ)Z"⟩, 29) := ⟨⟨by decide +kernel, by decide +kernel⟩, List.mem_of_getElem? (i := 675) (by decide +kernel), List.mem_of_getElem? (i := 825) (by decide +kernel), List.mem_of_getElem? (i := 826) (by decide +kernel)⟩
def lw_privs_2 : List (MethodName × Nat) := [(⟨"StiffFrames$Steps", "tie", "(II)V"⟩, 8), (⟨"StiffFrames$Steps", "leastTied", "(I)I"⟩, 8), (⟨"StiffFrames$Steps", "takeAway", "(I)V"⟩, 8), (⟨"StiffFrames$Steps", "layBoard", "()V"⟩, 8), (⟨"StiffFrames$Steps", "bridge", "(I)I"⟩, 8), (⟨"StiffFrames$Bundles", "joinCircuit", "(I)V"⟩, 5), (⟨"StiffFrames$Bundles", "join", "(II)V"⟩, 5), (⟨"StiffFrames$Bundles", "headsBelow", "(I)I"⟩, 5), (⟨"StiffFramesModel", "refuse", "(I)I"⟩, 29), (⟨"StiffFramesModel", "areJoints", "(II)Z"⟩, 29), (⟨"StiffFramesModel", "between", "(II)I"⟩, 29), (⟨"StiffFramesModel", "isBar", "(I)Z"⟩, 29), (⟨"StiffFramesModel", "ranks", "()I"⟩, 29), (⟨"StiffFramesModel", "keeps", "(III)I"⟩, 29), (⟨"StiffFramesModel", "begins", "(II)V"⟩, 29), (⟨"StiffFramesModel", "isFree", "(IIZ)Z"⟩, 29)]
theorem lw_r2 : ∀ q ∈ lw_privs_2, lw_okq q := List.forall_mem_cons.mpr ⟨lw_p16, List.forall_mem_cons.mpr ⟨lw_p17, List.forall_mem_cons.mpr ⟨lw_p18, List.forall_mem_cons.mpr ⟨lw_p19, List.forall_mem_cons.mpr ⟨lw_p20, List.forall_mem_cons.mpr ⟨lw_p21, List.forall_mem_cons.mpr ⟨lw_p22, List.forall_mem_cons.mpr ⟨lw_p23, List.forall_mem_cons.mpr ⟨lw_p24, List.forall_mem_cons.mpr ⟨lw_p25, List.forall_mem_cons.mpr ⟨lw_p26, List.forall_mem_cons.mpr ⟨lw_p27, List.forall_mem_cons.mpr ⟨lw_p28, List.forall_mem_cons.mpr ⟨lw_p29, List.forall_mem_cons.mpr ⟨lw_p30, List.forall_mem_cons.mpr ⟨lw_p31, fun _ h => absurd h List.not_mem_nil⟩⟩⟩⟩⟩⟩⟩⟩⟩⟩⟩⟩⟩⟩⟩⟩
theorem lw_p32 : lw_okq (⟨"StiffFramesModel", "leansOn", "(II)Z"⟩, 29) := ⟨⟨by decide +kernel, by decide +kernel⟩, List.mem_of_getElem? (i := 675) (by decide +kernel), List.mem_of_getElem? (i := 829) (by decide +kernel), List.mem_of_getElem? (i := 830) (by decide +kernel)⟩
theorem lw_p33 : lw_okq (⟨"StiffFramesModel", "makesRoom", "(I)Z"⟩, 29) := ⟨⟨by decide +kernel, by decide +kernel⟩, List.mem_of_getElem? (i := 675) (by decide +kernel), List.mem_of_getElem? (i := 833) (by decide +kernel), List.mem_of_getElem? (i := 834) (by decide +kernel)⟩
theorem lw_p34 : lw_okq (⟨"StiffFramesModel", "drops", "(I)V"⟩, 29) := ⟨⟨by decide +kernel, by decide +kernel⟩, List.mem_of_getElem? (i := 675) (by decide +kernel), List.mem_of_getElem? (i := 837) (by decide +kernel), List.mem_of_getElem? (i := 838) (by decide +kernel)⟩
theorem lw_p35 : lw_okq (⟨"StiffFramesModel", "freedomOf", "(I)I"⟩, 29) := ⟨⟨by decide +kernel, by decide +kernel⟩, List.mem_of_getElem? (i := 675) (by decide +kernel), List.mem_of_getElem? (i := 845) (by decide +kernel), List.mem_of_getElem? (i := 846) (by decide +kernel)⟩
theorem lw_p36 : lw_okq (⟨"StiffFramesModel", "isSpare", "(I)Z"⟩, 29) := ⟨⟨by decide +kernel, by decide +kernel⟩, List.mem_of_getElem? (i := 675) (by decide +kernel), List.mem_of_getElem? (i := 862) (by decide +kernel), List.mem_of_getElem? (i := 863) (by decide +kernel)⟩
theorem lw_p37 : lw_okq (⟨"StiffFramesModel", "findBase", "()V"⟩, 29) := ⟨⟨by decide +kernel, by decide +kernel⟩, List.mem_of_getElem? (i := 675) (by decide +kernel), List.mem_of_getElem? (i := 870) (by decide +kernel), List.mem_of_getElem? (i := 871) (by decide +kernel)⟩
theorem lw_p38 : lw_okq (⟨"StiffFramesModel", "findCircuit", "(I)I"⟩, 29) := ⟨⟨by decide +kernel, by decide +kernel⟩, List.mem_of_getElem? (i := 675) (by decide +kernel), List.mem_of_getElem? (i := 874) (by decide +kernel), List.mem_of_getElem? (i := 875) (by decide +kernel)⟩
theorem lw_p39 : lw_okq (⟨"StiffFramesModel", "findClusters", "()V"⟩, 29) := ⟨⟨by decide +kernel, by decide +kernel⟩, List.mem_of_getElem? (i := 675) (by decide +kernel), List.mem_of_getElem? (i := 890) (by decide +kernel), List.mem_of_getElem? (i := 891) (by decide +kernel)⟩
theorem lw_p40 : lw_okq (⟨"StiffFramesModel", "clusterOf", "(II)I"⟩, 29) := ⟨⟨by decide +kernel, by decide +kernel⟩, List.mem_of_getElem? (i := 675) (by decide +kernel), List.mem_of_getElem? (i := 894) (by decide +kernel), List.mem_of_getElem? (i := 895) (by decide +kernel)⟩
theorem lw_p41 : lw_okq (⟨"StiffFramesModel", "adds", "(II)V"⟩, 29) := ⟨⟨by decide +kernel, by decide +kernel⟩, List.mem_of_getElem? (i := 675) (by decide +kernel), List.mem_of_getElem? (i := 898) (by decide +kernel), List.mem_of_getElem? (i := 899) (by decide +kernel)⟩
theorem lw_p42 : lw_okq (⟨"StiffFramesModel", "isHinge", "(I)Z"⟩, 29) := ⟨⟨by decide +kernel, by decide +kernel⟩, List.mem_of_getElem? (i := 675) (by decide +kernel), List.mem_of_getElem? (i := 921) (by decide +kernel), List.mem_of_getElem? (i := 922) (by decide +kernel)⟩
theorem lw_p43 : lw_okq (⟨"StiffFramesModel", "cheapestOf", "()I"⟩, 29) := ⟨⟨by decide +kernel, by decide +kernel⟩, List.mem_of_getElem? (i := 675) (by decide +kernel), List.mem_of_getElem? (i := 933) (by decide +kernel), List.mem_of_getElem? (i := 934) (by decide +kernel)⟩
theorem lw_p44 : lw_okq (⟨"StiffFramesModel", "findFewest", "()I"⟩, 29) := ⟨⟨by decide +kernel, by decide +kernel⟩, List.mem_of_getElem? (i := 675) (by decide +kernel), List.mem_of_getElem? (i := 945) (by decide +kernel), List.mem_of_getElem? (i := 946) (by decide +kernel)⟩
theorem lw_p45 : lw_okq (⟨"StiffFramesModel", "goesBack", "()V"⟩, 29) := ⟨⟨by decide +kernel, by decide +kernel⟩, List.mem_of_getElem? (i := 675) (by decide +kernel), List.mem_of_getElem? (i := 957) (by decide +kernel), List.mem_of_getElem? (i := 958) (by decide +kernel)⟩
theorem lw_p46 : lw_okq (⟨"StiffFramesModel", "links", "(II)V"⟩, 29) := ⟨⟨by decide +kernel, by decide +kernel⟩, List.mem_of_getElem? (i := 675) (by decide +kernel), List.mem_of_getElem? (i := 961) (by decide +kernel), List.mem_of_getElem? (i := 962) (by decide +kernel)⟩
theorem lw_p47 : lw_okq (⟨"StiffFramesModel", "mends", "(I)I"⟩, 29) := ⟨⟨by decide +kernel, by decide +kernel⟩, List.mem_of_getElem? (i := 675) (by decide +kernel), List.mem_of_getElem? (i := 965) (by decide +kernel), List.mem_of_getElem? (i := 966) (by decide +kernel)⟩
def lw_privs_3 : List (MethodName × Nat) := [(⟨"StiffFramesModel", "leansOn", "(II)Z"⟩, 29), (⟨"StiffFramesModel", "makesRoom", "(I)Z"⟩, 29), (⟨"StiffFramesModel", "drops", "(I)V"⟩, 29), (⟨"StiffFramesModel", "freedomOf", "(I)I"⟩, 29), (⟨"StiffFramesModel", "isSpare", "(I)Z"⟩, 29), (⟨"StiffFramesModel", "findBase", "()V"⟩, 29), (⟨"StiffFramesModel", "findCircuit", "(I)I"⟩, 29), (⟨"StiffFramesModel", "findClusters", "()V"⟩, 29), (⟨"StiffFramesModel", "clusterOf", "(II)I"⟩, 29), (⟨"StiffFramesModel", "adds", "(II)V"⟩, 29), (⟨"StiffFramesModel", "isHinge", "(I)Z"⟩, 29), (⟨"StiffFramesModel", "cheapestOf", "()I"⟩, 29), (⟨"StiffFramesModel", "findFewest", "()I"⟩, 29), (⟨"StiffFramesModel", "goesBack", "()V"⟩, 29), (⟨"StiffFramesModel", "links", "(II)V"⟩, 29), (⟨"StiffFramesModel", "mends", "(I)I"⟩, 29)]
theorem lw_r3 : ∀ q ∈ lw_privs_3, lw_okq q := List.forall_mem_cons.mpr ⟨lw_p32, List.forall_mem_cons.mpr ⟨lw_p33, List.forall_mem_cons.mpr ⟨lw_p34, List.forall_mem_cons.mpr ⟨lw_p35, List.forall_mem_cons.mpr ⟨lw_p36, List.forall_mem_cons.mpr ⟨lw_p37, List.forall_mem_cons.mpr ⟨lw_p38, List.forall_mem_cons.mpr ⟨lw_p39, List.forall_mem_cons.mpr ⟨lw_p40, List.forall_mem_cons.mpr ⟨lw_p41, List.forall_mem_cons.mpr ⟨lw_p42, List.forall_mem_cons.mpr ⟨lw_p43, List.forall_mem_cons.mpr ⟨lw_p44, List.forall_mem_cons.mpr ⟨lw_p45, List.forall_mem_cons.mpr ⟨lw_p46, List.forall_mem_cons.mpr ⟨lw_p47, fun _ h => absurd h List.not_mem_nil⟩⟩⟩⟩⟩⟩⟩⟩⟩⟩⟩⟩⟩⟩⟩⟩
theorem lw_p48 : lw_okq (⟨"StiffFramesModel", "findBundles", "()I"⟩, 29) := ⟨⟨by decide +kernel, by decide +kernel⟩, List.mem_of_getElem? (i := 675) (by decide +kernel), List.mem_of_getElem? (i := 980) (by decide +kernel), List.mem_of_getElem? (i := 981) (by decide +kernel)⟩
theorem lw_p49 : lw_okq (⟨"StiffFramesModel", "merges", "(II)V"⟩, 29) := ⟨⟨by decide +kernel, by decide +kernel⟩, List.mem_of_getElem? (i := 675) (by decide +kernel), List.mem_of_getElem? (i := 984) (by decide +kernel), List.mem_of_getElem? (i := 985) (by decide +kernel)⟩
theorem lw_p50 : lw_okq (⟨"StiffFramesModel", "thereMany", "()I"⟩, 29) := ⟨⟨by decide +kernel, by decide +kernel⟩, List.mem_of_getElem? (i := 675) (by decide +kernel), List.mem_of_getElem? (i := 1007) (by decide +kernel), List.mem_of_getElem? (i := 1008) (by decide +kernel)⟩
def lw_privs_4 : List (MethodName × Nat) := [(⟨"StiffFramesModel", "findBundles", "()I"⟩, 29), (⟨"StiffFramesModel", "merges", "(II)V"⟩, 29), (⟨"StiffFramesModel", "thereMany", "()I"⟩, 29)]
theorem lw_r4 : ∀ q ∈ lw_privs_4, lw_okq q := List.forall_mem_cons.mpr ⟨lw_p48, List.forall_mem_cons.mpr ⟨lw_p49, List.forall_mem_cons.mpr ⟨lw_p50, fun _ h => absurd h List.not_mem_nil⟩⟩⟩
def lw_privs : List (MethodName × Nat) := lw_privs_1 ++ (lw_privs_2 ++ (lw_privs_3 ++ (lw_privs_4)))
def lw_tbl : List Cond := k2_sels lw_privs ++ tables_1
theorem lw_privs_ok : ∀ q ∈ lw_privs, lw_okq q := by
  show ∀ q ∈ lw_privs_1 ++ (lw_privs_2 ++ (lw_privs_3 ++ (lw_privs_4))), lw_okq q
  exact List.forall_mem_append.mpr ⟨lw_r1, List.forall_mem_append.mpr ⟨lw_r2, List.forall_mem_append.mpr ⟨lw_r3, lw_r4⟩⟩⟩

theorem goodIn_r {big : List Cond} (ws : List Cond) (ps : List Nat) (hp : ws = ps.filterMap (fun i => big[i]?)) (h : ws.all goodWord = true) : GoodIn big ws := by
  intro w hw
  have h1 := List.all_eq_true.mp h w hw
  rw [hp] at hw
  obtain ⟨i, -, hi⟩ := List.mem_filterMap.mp hw
  have hm : w ∈ big := by first | exact List.mem_of_getElem? hi | exact List.getElem?_mem hi
  exact ⟨hm, good_of_word h1⟩
theorem goodIn_app {big a b : List Cond} (ha : GoodIn big a) (hb : GoodIn big b) : GoodIn big (a ++ b) := fun w h => (List.mem_append.mp h).elim (ha w) (hb w)
theorem goodIn_ca {big a b : List Cond} {c : Cond} (ha : GoodIn big (c :: a)) (hb : GoodIn big b) : GoodIn big (c :: (a ++ b)) := fun w h => (List.mem_cons.mp h).elim (fun e => ha w (List.mem_cons.mpr (Or.inl e))) (fun h => (List.mem_append.mp h).elim (fun h => ha w (List.mem_cons.mpr (Or.inr h))) (hb w))
theorem goodIn_sub {big ws : List Cond} (hm : ∀ w ∈ ws, w ∈ big) (h : ws.all goodWord = true) : GoodIn big ws := fun w hw => ⟨hm w hw, good_of_word (List.all_eq_true.mp h w hw)⟩
/-! ===== END ===== -/

/-! ===== BEGIN printed: names, fields, word lists, decode rows ===== -/
def RX0 : String := "StiffFrames$Bundles"
def TX0 : u_T := fun k => match k with
  | 0 => ("StiffFrames$Bundles", "frame", "LStiffFrames$Frame;", true)
  | 1 => ("StiffFrames$Bundles", "row", "LStiffFrames$Row;", true)
  | 2 => ("StiffFrames$Bundles", "heads", "[I", true)
  | 3 => ("StiffFrames$Bundles", "lastChange", "I", false)
  | _ => ("StiffFrames$Bundles", "size", "I", false)
def tyX0 : Nat → FieldType := fun k => match k with
  | 0 => .object "StiffFrames$Frame"
  | 1 => .object "StiffFrames$Row"
  | 2 => .array .int
  | 3 => .int
  | _ => .int
abbrev wsX00 : List Cond := u_ws RX0 TX0 5
theorem nmX0 : ∀ a, a < 5 → ∀ b, b < 5 → a ≠ b → (TX0 a).2.1 ≠ (TX0 b).2.1 := by decide +kernel
theorem tyX0_ok : ∀ k, k < 5 → parseFieldDescriptor (TX0 k).2.2.1 = some (tyX0 k) := by decide +kernel
abbrev cX0_init : ByteArray := prog_2_method_1_code
def yX0_init : MethodName := ⟨RX0, "<init>", "(LStiffFrames$Frame;LStiffFrames$Row;)V"⟩
abbrev cX0_find : ByteArray := prog_2_method_2_code
def yX0_find : MethodName := ⟨RX0, "find", "()V"⟩
abbrev cX0_joinCircuit : ByteArray := prog_2_method_3_code
def yX0_joinCircuit : MethodName := ⟨RX0, "joinCircuit", "(I)V"⟩
abbrev cX0_join : ByteArray := prog_2_method_4_code
def yX0_join : MethodName := ⟨RX0, "join", "(II)V"⟩
abbrev cX0_numberOf : ByteArray := prog_2_method_5_code
def yX0_numberOf : MethodName := ⟨RX0, "numberOf", "(I)I"⟩
abbrev cX0_headsBelow : ByteArray := prog_2_method_6_code
def yX0_headsBelow : MethodName := ⟨RX0, "headsBelow", "(I)I"⟩
def RX1 : String := "StiffFrames$Clusters"
def TX1 : u_T := fun k => match k with
  | 0 => ("StiffFrames$Clusters", "frame", "LStiffFrames$Frame;", true)
  | 1 => ("StiffFrames$Clusters", "row", "LStiffFrames$Row;", true)
  | 2 => ("StiffFrames$Clusters", "close", "[I", true)
  | 3 => ("StiffFrames$Clusters", "joints", "[I", true)
  | 4 => ("StiffFrames$Clusters", "lastChange", "I", false)
  | _ => ("StiffFrames$Clusters", "size", "I", false)
def tyX1 : Nat → FieldType := fun k => match k with
  | 0 => .object "StiffFrames$Frame"
  | 1 => .object "StiffFrames$Row"
  | 2 => .array .int
  | 3 => .array .int
  | 4 => .int
  | _ => .int
abbrev wsX10 : List Cond := u_ws RX1 TX1 6
theorem nmX1 : ∀ a, a < 6 → ∀ b, b < 6 → a ≠ b → (TX1 a).2.1 ≠ (TX1 b).2.1 := by decide +kernel
theorem tyX1_ok : ∀ k, k < 6 → parseFieldDescriptor (TX1 k).2.2.1 = some (tyX1 k) := by decide +kernel
abbrev cX1_init : ByteArray := prog_3_method_1_code
def yX1_init : MethodName := ⟨RX1, "<init>", "(LStiffFrames$Frame;LStiffFrames$Row;)V"⟩
abbrev cX1_find : ByteArray := prog_3_method_2_code
def yX1_find : MethodName := ⟨RX1, "find", "()V"⟩
abbrev cX1_findClose : ByteArray := prog_3_method_3_code
def yX1_findClose : MethodName := ⟨RX1, "findClose", "()V"⟩
abbrev cX1_bind : ByteArray := prog_3_method_4_code
def yX1_bind : MethodName := ⟨RX1, "bind", "(I)V"⟩
abbrev cX1_addIfFirstPair : ByteArray := prog_3_method_5_code
def yX1_addIfFirstPair : MethodName := ⟨RX1, "addIfFirstPair", "(II)V"⟩
abbrev cX1_firstWith : ByteArray := prog_3_method_6_code
def yX1_firstWith : MethodName := ⟨RX1, "firstWith", "(II)I"⟩
abbrev cX1_isHinge : ByteArray := prog_3_method_7_code
def yX1_isHinge : MethodName := ⟨RX1, "isHinge", "(I)Z"⟩
abbrev cX1_countHinges : ByteArray := prog_3_method_8_code
def yX1_countHinges : MethodName := ⟨RX1, "countHinges", "()I"⟩
def RX2 : String := "StiffFrames$Frame"
def TX2 : u_T := fun k => match k with
  | 0 => ("StiffFrames$Frame", "lesser", "[I", true)
  | 1 => ("StiffFrames$Frame", "greater", "[I", true)
  | 2 => ("StiffFrames$Frame", "costs", "[I", true)
  | 3 => ("StiffFrames$Frame", "there", "[Z", true)
  | 4 => ("StiffFrames$Frame", "ties", "[I", true)
  | 5 => ("StiffFrames$Frame", "joints", "I", false)
  | 6 => ("StiffFrames$Frame", "bars", "I", false)
  | 7 => ("StiffFrames$Frame", "thereNow", "I", false)
  | _ => ("StiffFrames$Frame", "changes", "I", false)
def tyX2 : Nat → FieldType := fun k => match k with
  | 0 => .array .int
  | 1 => .array .int
  | 2 => .array .int
  | 3 => .array .boolean
  | 4 => .array .int
  | 5 => .int
  | 6 => .int
  | 7 => .int
  | _ => .int
abbrev wsX20 : List Cond := u_ws RX2 TX2 9
theorem nmX2 : ∀ a, a < 9 → ∀ b, b < 9 → a ≠ b → (TX2 a).2.1 ≠ (TX2 b).2.1 := by decide +kernel
theorem tyX2_ok : ∀ k, k < 9 → parseFieldDescriptor (TX2 k).2.2.1 = some (tyX2 k) := by decide +kernel
abbrev cX2_init : ByteArray := prog_4_method_1_code
def yX2_init : MethodName := ⟨RX2, "<init>", "()V"⟩
abbrev cX2_addJoint : ByteArray := prog_4_method_2_code
def yX2_addJoint : MethodName := ⟨RX2, "addJoint", "()I"⟩
abbrev cX2_addBar : ByteArray := prog_4_method_3_code
def yX2_addBar : MethodName := ⟨RX2, "addBar", "(III)I"⟩
abbrev cX2_setThere : ByteArray := prog_4_method_4_code
def yX2_setThere : MethodName := ⟨RX2, "setThere", "(IZ)Z"⟩
abbrev cX2_setCost : ByteArray := prog_4_method_5_code
def yX2_setCost : MethodName := ⟨RX2, "setCost", "(II)I"⟩
abbrev cX2_tied : ByteArray := prog_4_method_6_code
def yX2_tied : MethodName := ⟨RX2, "tied", "(II)Z"⟩
abbrev cX2_within : ByteArray := prog_4_method_7_code
def yX2_within : MethodName := ⟨RX2, "within", "(II)Z"⟩
def RX3 : String := "StiffFrames$Missing"
def TX3 : u_T := fun k => match k with
  | 0 => ("StiffFrames$Missing", "frame", "LStiffFrames$Frame;", true)
  | 1 => ("StiffFrames$Missing", "row", "LStiffFrames$Row;", true)
  | 2 => ("StiffFrames$Missing", "board", "LStiffFrames$Pebbles;", true)
  | 3 => ("StiffFrames$Missing", "pairs", "[I", true)
  | 4 => ("StiffFrames$Missing", "lastChange", "I", false)
  | _ => ("StiffFrames$Missing", "size", "I", false)
def tyX3 : Nat → FieldType := fun k => match k with
  | 0 => .object "StiffFrames$Frame"
  | 1 => .object "StiffFrames$Row"
  | 2 => .object "StiffFrames$Pebbles"
  | 3 => .array .int
  | 4 => .int
  | _ => .int
abbrev wsX30 : List Cond := u_ws RX3 TX3 6
theorem nmX3 : ∀ a, a < 6 → ∀ b, b < 6 → a ≠ b → (TX3 a).2.1 ≠ (TX3 b).2.1 := by decide +kernel
theorem tyX3_ok : ∀ k, k < 6 → parseFieldDescriptor (TX3 k).2.2.1 = some (tyX3 k) := by decide +kernel
abbrev cX3_init : ByteArray := prog_5_method_1_code
def yX3_init : MethodName := ⟨RX3, "<init>", "(LStiffFrames$Frame;LStiffFrames$Row;LStiffFrames$Pebbles;)V"⟩
abbrev cX3_find : ByteArray := prog_5_method_2_code
def yX3_find : MethodName := ⟨RX3, "find", "()V"⟩
abbrev cX3_tellIfGrows : ByteArray := prog_5_method_3_code
def yX3_tellIfGrows : MethodName := ⟨RX3, "tellIfGrows", "(II)V"⟩
def RX4 : String := "StiffFrames$Pebbles"
def TX4 : u_T := fun k => match k with
  | 0 => ("StiffFrames$Pebbles", "leads", "[I", true)
  | 1 => ("StiffFrames$Pebbles", "cameBy", "[I", true)
  | 2 => ("StiffFrames$Pebbles", "queue", "[I", true)
  | 3 => ("StiffFrames$Pebbles", "k", "I", false)
  | _ => ("StiffFrames$Pebbles", "l", "I", false)
def tyX4 : Nat → FieldType := fun k => match k with
  | 0 => .array .int
  | 1 => .array .int
  | 2 => .array .int
  | 3 => .int
  | _ => .int
abbrev wsX40 : List Cond := u_ws RX4 TX4 5
theorem nmX4 : ∀ a, a < 5 → ∀ b, b < 5 → a ≠ b → (TX4 a).2.1 ≠ (TX4 b).2.1 := by decide +kernel
theorem tyX4_ok : ∀ k, k < 5 → parseFieldDescriptor (TX4 k).2.2.1 = some (tyX4 k) := by decide +kernel
abbrev cX4_init : ByteArray := prog_6_method_1_code
def yX4_init : MethodName := ⟨RX4, "<init>", "()V"⟩
abbrev cX4_start : ByteArray := prog_6_method_2_code
def yX4_start : MethodName := ⟨RX4, "start", "(II)V"⟩
abbrev cX4_put : ByteArray := prog_6_method_3_code
def yX4_put : MethodName := ⟨RX4, "put", "(II)Z"⟩
abbrev cX4_allows : ByteArray := prog_6_method_4_code
def yX4_allows : MethodName := ⟨RX4, "allows", "(II)Z"⟩
abbrev cX4_reach : ByteArray := prog_6_method_5_code
def yX4_reach : MethodName := ⟨RX4, "reach", "(II)I"⟩
abbrev cX4_ledTo : ByteArray := prog_6_method_6_code
def yX4_ledTo : MethodName := ⟨RX4, "ledTo", "(I)I"⟩
abbrev cX4_countLoose : ByteArray := prog_6_method_7_code
def yX4_countLoose : MethodName := ⟨RX4, "countLoose", "(I)I"⟩
abbrev cX4_loosePebble : ByteArray := prog_6_method_8_code
def yX4_loosePebble : MethodName := ⟨RX4, "loosePebble", "(I)I"⟩
abbrev cX4_fetch : ByteArray := prog_6_method_9_code
def yX4_fetch : MethodName := ⟨RX4, "fetch", "(II)Z"⟩
abbrev cX4_turnBack : ByteArray := prog_6_method_10_code
def yX4_turnBack : MethodName := ⟨RX4, "turnBack", "(III)V"⟩
def RX5 : String := "StiffFrames$Row"
def TX5 : u_T := fun k => match k with
  | 0 => ("StiffFrames$Row", "pebbles", "LStiffFrames$Pebbles;", true)
  | 1 => ("StiffFrames$Row", "kept", "[Z", true)
  | 2 => ("StiffFrames$Row", "rings", "[I", true)
  | 3 => ("StiffFrames$Row", "order", "[I", true)
  | 4 => ("StiffFrames$Row", "frame", "LStiffFrames$Frame;", true)
  | 5 => ("StiffFrames$Row", "byCost", "Z", true)
  | 6 => ("StiffFrames$Row", "playedK", "I", false)
  | 7 => ("StiffFrames$Row", "playedL", "I", false)
  | 8 => ("StiffFrames$Row", "lastChange", "I", false)
  | _ => ("StiffFrames$Row", "size", "I", false)
def tyX5 : Nat → FieldType := fun k => match k with
  | 0 => .object "StiffFrames$Pebbles"
  | 1 => .array .boolean
  | 2 => .array .int
  | 3 => .array .int
  | 4 => .object "StiffFrames$Frame"
  | 5 => .boolean
  | 6 => .int
  | 7 => .int
  | 8 => .int
  | _ => .int
abbrev wsX50 : List Cond := u_ws RX5 TX5 10
theorem nmX5 : ∀ a, a < 10 → ∀ b, b < 10 → a ≠ b → (TX5 a).2.1 ≠ (TX5 b).2.1 := by decide +kernel
theorem tyX5_ok : ∀ k, k < 10 → parseFieldDescriptor (TX5 k).2.2.1 = some (tyX5 k) := by decide +kernel
abbrev cX5_init : ByteArray := prog_7_method_1_code
def yX5_init : MethodName := ⟨RX5, "<init>", "(LStiffFrames$Frame;Z)V"⟩
abbrev cX5_play : ByteArray := prog_7_method_2_code
def yX5_play : MethodName := ⟨RX5, "play", "(II)V"⟩
abbrev cX5_lineUp : ByteArray := prog_7_method_3_code
def yX5_lineUp : MethodName := ⟨RX5, "lineUp", "()I"⟩
abbrev cX5_isLeft : ByteArray := prog_7_method_4_code
def yX5_isLeft : MethodName := ⟨RX5, "isLeft", "(I)Z"⟩
abbrev cX5_inCircuit : ByteArray := prog_7_method_5_code
def yX5_inCircuit : MethodName := ⟨RX5, "inCircuit", "(II)Z"⟩
abbrev cX5_circuitLength : ByteArray := prog_7_method_6_code
def yX5_circuitLength : MethodName := ⟨RX5, "circuitLength", "(I)I"⟩
abbrev cX5_circuitAt : ByteArray := prog_7_method_7_code
def yX5_circuitAt : MethodName := ⟨RX5, "circuitAt", "(II)I"⟩
abbrev cX5_isSpare : ByteArray := prog_7_method_8_code
def yX5_isSpare : MethodName := ⟨RX5, "isSpare", "(I)Z"⟩
abbrev cX5_countSpare : ByteArray := prog_7_method_9_code
def yX5_countSpare : MethodName := ⟨RX5, "countSpare", "()I"⟩
abbrev cX5_costOfKept : ByteArray := prog_7_method_10_code
def yX5_costOfKept : MethodName := ⟨RX5, "costOfKept", "()I"⟩
def RX6 : String := "StiffFrames$Steps"
def TX6 : u_T := fun k => match k with
  | 0 => ("StiffFrames$Steps", "frame", "LStiffFrames$Frame;", true)
  | 1 => ("StiffFrames$Steps", "row", "LStiffFrames$Row;", true)
  | 2 => ("StiffFrames$Steps", "board", "LStiffFrames$Pebbles;", true)
  | 3 => ("StiffFrames$Steps", "gone", "[I", true)
  | 4 => ("StiffFrames$Steps", "kinds", "[I", true)
  | 5 => ("StiffFrames$Steps", "comes", "[I", true)
  | 6 => ("StiffFrames$Steps", "near", "[I", true)
  | _ => ("StiffFrames$Steps", "lastChange", "I", false)
def tyX6 : Nat → FieldType := fun k => match k with
  | 0 => .object "StiffFrames$Frame"
  | 1 => .object "StiffFrames$Row"
  | 2 => .object "StiffFrames$Pebbles"
  | 3 => .array .int
  | 4 => .array .int
  | 5 => .array .int
  | 6 => .array .int
  | _ => .int
abbrev wsX60 : List Cond := u_ws RX6 TX6 8
theorem nmX6 : ∀ a, a < 8 → ∀ b, b < 8 → a ≠ b → (TX6 a).2.1 ≠ (TX6 b).2.1 := by decide +kernel
theorem tyX6_ok : ∀ k, k < 8 → parseFieldDescriptor (TX6 k).2.2.1 = some (tyX6 k) := by decide +kernel
abbrev cX6_init : ByteArray := prog_8_method_1_code
def yX6_init : MethodName := ⟨RX6, "<init>", "(LStiffFrames$Frame;LStiffFrames$Row;LStiffFrames$Pebbles;)V"⟩
abbrev cX6_walk : ByteArray := prog_8_method_2_code
def yX6_walk : MethodName := ⟨RX6, "walk", "()V"⟩
abbrev cX6_countThrees : ByteArray := prog_8_method_3_code
def yX6_countThrees : MethodName := ⟨RX6, "countThrees", "()I"⟩
abbrev cX6_tie : ByteArray := prog_8_method_4_code
def yX6_tie : MethodName := ⟨RX6, "tie", "(II)V"⟩
abbrev cX6_leastTied : ByteArray := prog_8_method_5_code
def yX6_leastTied : MethodName := ⟨RX6, "leastTied", "(I)I"⟩
abbrev cX6_takeAway : ByteArray := prog_8_method_6_code
def yX6_takeAway : MethodName := ⟨RX6, "takeAway", "(I)V"⟩
abbrev cX6_bridge : ByteArray := prog_8_method_7_code
def yX6_bridge : MethodName := ⟨RX6, "bridge", "(I)I"⟩
abbrev cX6_layBoard : ByteArray := prog_8_method_8_code
def yX6_layBoard : MethodName := ⟨RX6, "layBoard", "()V"⟩
def RX7 : String := "StiffFrames"
def TX7 : u_T := fun k => match k with
  | 0 => ("StiffFrames", "frame", "LStiffFrames$Frame;", true)
  | 1 => ("StiffFrames", "row", "LStiffFrames$Row;", true)
  | 2 => ("StiffFrames", "cheapRow", "LStiffFrames$Row;", true)
  | 3 => ("StiffFrames", "otherRow", "LStiffFrames$Row;", true)
  | 4 => ("StiffFrames", "sets", "LStiffFrames$Clusters;", true)
  | 5 => ("StiffFrames", "heaps", "LStiffFrames$Bundles;", true)
  | 6 => ("StiffFrames", "missing", "LStiffFrames$Missing;", true)
  | 7 => ("StiffFrames", "steps", "LStiffFrames$Steps;", true)
  | _ => ("StiffFrames", "refused", "[I", true)
def tyX7 : Nat → FieldType := fun k => match k with
  | 0 => .object "StiffFrames$Frame"
  | 1 => .object "StiffFrames$Row"
  | 2 => .object "StiffFrames$Row"
  | 3 => .object "StiffFrames$Row"
  | 4 => .object "StiffFrames$Clusters"
  | 5 => .object "StiffFrames$Bundles"
  | 6 => .object "StiffFrames$Missing"
  | 7 => .object "StiffFrames$Steps"
  | _ => .array .int
abbrev wsX70 : List Cond := u_ws RX7 TX7 9
theorem nmX7 : ∀ a, a < 9 → ∀ b, b < 9 → a ≠ b → (TX7 a).2.1 ≠ (TX7 b).2.1 := by decide +kernel
theorem tyX7_ok : ∀ k, k < 9 → parseFieldDescriptor (TX7 k).2.2.1 = some (tyX7 k) := by decide +kernel
abbrev cX7_init : ByteArray := prog_1_method_1_code
def yX7_init : MethodName := ⟨RX7, "<init>", "()V"⟩
abbrev cX7_joint : ByteArray := prog_1_method_2_code
def yX7_joint : MethodName := ⟨RX7, "joint", "()I"⟩
abbrev cX7_bar : ByteArray := prog_1_method_3_code
def yX7_bar : MethodName := ⟨RX7, "bar", "(III)I"⟩
abbrev cX7_cut : ByteArray := prog_1_method_4_code
def yX7_cut : MethodName := ⟨RX7, "cut", "(IZ)I"⟩
abbrev cX7_cost : ByteArray := prog_1_method_5_code
def yX7_cost : MethodName := ⟨RX7, "cost", "(II)I"⟩
abbrev cX7_rank : ByteArray := prog_1_method_6_code
def yX7_rank : MethodName := ⟨RX7, "rank", "()I"⟩
abbrev cX7_freedom : ByteArray := prog_1_method_7_code
def yX7_freedom : MethodName := ⟨RX7, "freedom", "()I"⟩
abbrev cX7_stiff : ByteArray := prog_1_method_8_code
def yX7_stiff : MethodName := ⟨RX7, "stiff", "()I"⟩
abbrev cX7_kept : ByteArray := prog_1_method_9_code
def yX7_kept : MethodName := ⟨RX7, "kept", "(I)I"⟩
abbrev cX7_spare : ByteArray := prog_1_method_10_code
def yX7_spare : MethodName := ⟨RX7, "spare", "(I)I"⟩
abbrev cX7_circuit : ByteArray := prog_1_method_11_code
def yX7_circuit : MethodName := ⟨RX7, "circuit", "(I)I"⟩
abbrev cX7_circuitBar : ByteArray := prog_1_method_12_code
def yX7_circuitBar : MethodName := ⟨RX7, "circuitBar", "(II)I"⟩
abbrev cX7_grows : ByteArray := prog_1_method_13_code
def yX7_grows : MethodName := ⟨RX7, "grows", "(II)I"⟩
abbrev cX7_clusters : ByteArray := prog_1_method_14_code
def yX7_clusters : MethodName := ⟨RX7, "clusters", "()I"⟩
abbrev cX7_size : ByteArray := prog_1_method_15_code
def yX7_size : MethodName := ⟨RX7, "size", "(I)I"⟩
abbrev cX7_member : ByteArray := prog_1_method_16_code
def yX7_member : MethodName := ⟨RX7, "member", "(II)I"⟩
abbrev cX7_together : ByteArray := prog_1_method_17_code
def yX7_together : MethodName := ⟨RX7, "together", "(II)I"⟩
abbrev cX7_hinge : ByteArray := prog_1_method_18_code
def yX7_hinge : MethodName := ⟨RX7, "hinge", "(I)I"⟩
abbrev cX7_pieces : ByteArray := prog_1_method_19_code
def yX7_pieces : MethodName := ⟨RX7, "pieces", "()I"⟩
abbrev cX7_cheapest : ByteArray := prog_1_method_20_code
def yX7_cheapest : MethodName := ⟨RX7, "cheapest", "()I"⟩
abbrev cX7_cheap : ByteArray := prog_1_method_21_code
def yX7_cheap : MethodName := ⟨RX7, "cheap", "(I)I"⟩
abbrev cX7_fewest : ByteArray := prog_1_method_22_code
def yX7_fewest : MethodName := ⟨RX7, "fewest", "()I"⟩
abbrev cX7_fewestAt : ByteArray := prog_1_method_23_code
def yX7_fewestAt : MethodName := ⟨RX7, "fewestAt", "(I)I"⟩
abbrev cX7_back : ByteArray := prog_1_method_24_code
def yX7_back : MethodName := ⟨RX7, "back", "(II)I"⟩
abbrev cX7_threes : ByteArray := prog_1_method_25_code
def yX7_threes : MethodName := ⟨RX7, "threes", "()I"⟩
abbrev cX7_bundles : ByteArray := prog_1_method_26_code
def yX7_bundles : MethodName := ⟨RX7, "bundles", "()I"⟩
abbrev cX7_bundle : ByteArray := prog_1_method_27_code
def yX7_bundle : MethodName := ⟨RX7, "bundle", "(I)I"⟩
abbrev cX7_rankBy : ByteArray := prog_1_method_28_code
def yX7_rankBy : MethodName := ⟨RX7, "rankBy", "(II)I"⟩
abbrev cX7_keptBy : ByteArray := prog_1_method_29_code
def yX7_keptBy : MethodName := ⟨RX7, "keptBy", "(III)I"⟩
abbrev cX7_tight : ByteArray := prog_1_method_30_code
def yX7_tight : MethodName := ⟨RX7, "tight", "(II)I"⟩
abbrev cX7_forests : ByteArray := prog_1_method_31_code
def yX7_forests : MethodName := ⟨RX7, "forests", "()I"⟩
abbrev cX7_barOf : ByteArray := prog_1_method_32_code
def yX7_barOf : MethodName := ⟨RX7, "barOf", "(II)I"⟩
abbrev cX7_count : ByteArray := prog_1_method_33_code
def yX7_count : MethodName := ⟨RX7, "count", "(I)I"⟩
abbrev cX7_refuse : ByteArray := prog_1_method_34_code
def yX7_refuse : MethodName := ⟨RX7, "refuse", "(I)I"⟩
abbrev cX7_noJoint : ByteArray := prog_1_method_35_code
def yX7_noJoint : MethodName := ⟨RX7, "noJoint", "(I)Z"⟩
abbrev cX7_noPair : ByteArray := prog_1_method_36_code
def yX7_noPair : MethodName := ⟨RX7, "noPair", "(II)Z"⟩
abbrev cX7_noBar : ByteArray := prog_1_method_37_code
def yX7_noBar : MethodName := ⟨RX7, "noBar", "(I)Z"⟩
abbrev cX7_noCluster : ByteArray := prog_1_method_38_code
def yX7_noCluster : MethodName := ⟨RX7, "noCluster", "(I)Z"⟩
abbrev cX7_keptIn : ByteArray := prog_1_method_39_code
def yX7_keptIn : MethodName := ⟨RX7, "keptIn", "(LStiffFrames$Row;I)I"⟩
abbrev cX7_wrongCount : ByteArray := prog_1_method_40_code
def yX7_wrongCount : MethodName := ⟨RX7, "wrongCount", "(II)I"⟩
abbrev cX7_has : ByteArray := prog_1_method_41_code
def yX7_has : MethodName := ⟨RX7, "has", "(II)Z"⟩
abbrev cX7_jointAt : ByteArray := prog_1_method_42_code
def yX7_jointAt : MethodName := ⟨RX7, "jointAt", "(II)I"⟩
def RX8 : String := "StiffFramesModel"
def TX8 : u_T := fun k => match k with
  | 0 => ("StiffFramesModel", "refusals", "[I", true)
  | 1 => ("StiffFramesModel", "one", "[I", true)
  | 2 => ("StiffFramesModel", "two", "[I", true)
  | 3 => ("StiffFramesModel", "costs", "[I", true)
  | 4 => ("StiffFramesModel", "there", "[Z", true)
  | 5 => ("StiffFramesModel", "joints", "I", false)
  | 6 => ("StiffFramesModel", "bars", "I", false)
  | 7 => ("StiffFramesModel", "endA", "[I", true)
  | 8 => ("StiffFramesModel", "endB", "[I", true)
  | 9 => ("StiffFramesModel", "leans", "[I", true)
  | 10 => ("StiffFramesModel", "load", "[I", true)
  | 11 => ("StiffFramesModel", "leaning", "I", false)
  | 12 => ("StiffFramesModel", "may", "I", false)
  | 13 => ("StiffFramesModel", "more", "I", false)
  | 14 => ("StiffFramesModel", "seen", "[Z", true)
  | 15 => ("StiffFramesModel", "kept", "[Z", true)
  | 16 => ("StiffFramesModel", "cheap", "[Z", true)
  | 17 => ("StiffFramesModel", "inCircuit", "[Z", true)
  | 18 => ("StiffFramesModel", "base", "[Z", true)
  | 19 => ("StiffFramesModel", "clusters", "[I", true)
  | 20 => ("StiffFramesModel", "asOne", "[Z", true)
  | 21 => ("StiffFramesModel", "clusterMany", "I", false)
  | 22 => ("StiffFramesModel", "order", "[I", true)
  | 23 => ("StiffFramesModel", "fewest", "[I", true)
  | 24 => ("StiffFramesModel", "beside", "[I", true)
  | 25 => ("StiffFramesModel", "went", "[I", true)
  | 26 => ("StiffFramesModel", "step", "[I", true)
  | 27 => ("StiffFramesModel", "came", "[I", true)
  | _ => ("StiffFramesModel", "bundle", "[I", true)
def tyX8 : Nat → FieldType := fun k => match k with
  | 0 => .array .int
  | 1 => .array .int
  | 2 => .array .int
  | 3 => .array .int
  | 4 => .array .boolean
  | 5 => .int
  | 6 => .int
  | 7 => .array .int
  | 8 => .array .int
  | 9 => .array .int
  | 10 => .array .int
  | 11 => .int
  | 12 => .int
  | 13 => .int
  | 14 => .array .boolean
  | 15 => .array .boolean
  | 16 => .array .boolean
  | 17 => .array .boolean
  | 18 => .array .boolean
  | 19 => .array .int
  | 20 => .array .boolean
  | 21 => .int
  | 22 => .array .int
  | 23 => .array .int
  | 24 => .array .int
  | 25 => .array .int
  | 26 => .array .int
  | 27 => .array .int
  | _ => .array .int
abbrev wsX80 : List Cond := u_ws RX8 TX8 29
theorem nmX8 : ∀ a, a < 29 → ∀ b, b < 29 → a ≠ b → (TX8 a).2.1 ≠ (TX8 b).2.1 := by decide +kernel
theorem tyX8_ok : ∀ k, k < 29 → parseFieldDescriptor (TX8 k).2.2.1 = some (tyX8 k) := by decide +kernel
abbrev cX8_init : ByteArray := prog_10_method_1_code
def yX8_init : MethodName := ⟨RX8, "<init>", "()V"⟩
abbrev cX8_refuse : ByteArray := prog_10_method_2_code
def yX8_refuse : MethodName := ⟨RX8, "refuse", "(I)I"⟩
abbrev cX8_isIn : ByteArray := prog_10_method_3_code
def yX8_isIn : MethodName := ⟨RX8, "isIn", "(II)Z"⟩
abbrev cX8_wrong : ByteArray := prog_10_method_4_code
def yX8_wrong : MethodName := ⟨RX8, "wrong", "(III)I"⟩
abbrev cX8_joint : ByteArray := prog_10_method_5_code
def yX8_joint : MethodName := ⟨RX8, "joint", "()I"⟩
abbrev cX8_areJoints : ByteArray := prog_10_method_6_code
def yX8_areJoints : MethodName := ⟨RX8, "areJoints", "(II)Z"⟩
abbrev cX8_between : ByteArray := prog_10_method_7_code
def yX8_between : MethodName := ⟨RX8, "between", "(II)I"⟩
abbrev cX8_bar : ByteArray := prog_10_method_8_code
def yX8_bar : MethodName := ⟨RX8, "bar", "(III)I"⟩
abbrev cX8_isBar : ByteArray := prog_10_method_9_code
def yX8_isBar : MethodName := ⟨RX8, "isBar", "(I)Z"⟩
abbrev cX8_cut : ByteArray := prog_10_method_10_code
def yX8_cut : MethodName := ⟨RX8, "cut", "(IZ)I"⟩
abbrev cX8_cost : ByteArray := prog_10_method_11_code
def yX8_cost : MethodName := ⟨RX8, "cost", "(II)I"⟩
abbrev cX8_begins : ByteArray := prog_10_method_12_code
def yX8_begins : MethodName := ⟨RX8, "begins", "(II)V"⟩
abbrev cX8_makesRoom : ByteArray := prog_10_method_13_code
def yX8_makesRoom : MethodName := ⟨RX8, "makesRoom", "(I)Z"⟩
abbrev cX8_leansOn : ByteArray := prog_10_method_14_code
def yX8_leansOn : MethodName := ⟨RX8, "leansOn", "(II)Z"⟩
abbrev cX8_drops : ByteArray := prog_10_method_15_code
def yX8_drops : MethodName := ⟨RX8, "drops", "(I)V"⟩
abbrev cX8_isFree : ByteArray := prog_10_method_16_code
def yX8_isFree : MethodName := ⟨RX8, "isFree", "(IIZ)Z"⟩
abbrev cX8_keeps : ByteArray := prog_10_method_17_code
def yX8_keeps : MethodName := ⟨RX8, "keeps", "(III)I"⟩
abbrev cX8_ranks : ByteArray := prog_10_method_18_code
def yX8_ranks : MethodName := ⟨RX8, "ranks", "()I"⟩
abbrev cX8_rank : ByteArray := prog_10_method_19_code
def yX8_rank : MethodName := ⟨RX8, "rank", "()I"⟩
abbrev cX8_freedomOf : ByteArray := prog_10_method_20_code
def yX8_freedomOf : MethodName := ⟨RX8, "freedomOf", "(I)I"⟩
abbrev cX8_freedom : ByteArray := prog_10_method_21_code
def yX8_freedom : MethodName := ⟨RX8, "freedom", "()I"⟩
abbrev cX8_stiff : ByteArray := prog_10_method_22_code
def yX8_stiff : MethodName := ⟨RX8, "stiff", "()I"⟩
abbrev cX8_kept : ByteArray := prog_10_method_23_code
def yX8_kept : MethodName := ⟨RX8, "kept", "(I)I"⟩
abbrev cX8_isSpare : ByteArray := prog_10_method_24_code
def yX8_isSpare : MethodName := ⟨RX8, "isSpare", "(I)Z"⟩
abbrev cX8_spare : ByteArray := prog_10_method_25_code
def yX8_spare : MethodName := ⟨RX8, "spare", "(I)I"⟩
abbrev cX8_findCircuit : ByteArray := prog_10_method_26_code
def yX8_findCircuit : MethodName := ⟨RX8, "findCircuit", "(I)I"⟩
abbrev cX8_findBase : ByteArray := prog_10_method_27_code
def yX8_findBase : MethodName := ⟨RX8, "findBase", "()V"⟩
abbrev cX8_circuit : ByteArray := prog_10_method_28_code
def yX8_circuit : MethodName := ⟨RX8, "circuit", "(I)I"⟩
abbrev cX8_circuitBar : ByteArray := prog_10_method_29_code
def yX8_circuitBar : MethodName := ⟨RX8, "circuitBar", "(II)I"⟩
abbrev cX8_grows : ByteArray := prog_10_method_30_code
def yX8_grows : MethodName := ⟨RX8, "grows", "(II)I"⟩
abbrev cX8_findClusters : ByteArray := prog_10_method_31_code
def yX8_findClusters : MethodName := ⟨RX8, "findClusters", "()V"⟩
abbrev cX8_adds : ByteArray := prog_10_method_32_code
def yX8_adds : MethodName := ⟨RX8, "adds", "(II)V"⟩
abbrev cX8_clusterOf : ByteArray := prog_10_method_33_code
def yX8_clusterOf : MethodName := ⟨RX8, "clusterOf", "(II)I"⟩
abbrev cX8_clusters : ByteArray := prog_10_method_34_code
def yX8_clusters : MethodName := ⟨RX8, "clusters", "()I"⟩
abbrev cX8_bits : ByteArray := prog_10_method_35_code
def yX8_bits : MethodName := ⟨RX8, "bits", "(I)I"⟩
abbrev cX8_size : ByteArray := prog_10_method_36_code
def yX8_size : MethodName := ⟨RX8, "size", "(I)I"⟩
abbrev cX8_member : ByteArray := prog_10_method_37_code
def yX8_member : MethodName := ⟨RX8, "member", "(II)I"⟩
abbrev cX8_together : ByteArray := prog_10_method_38_code
def yX8_together : MethodName := ⟨RX8, "together", "(II)I"⟩
abbrev cX8_isHinge : ByteArray := prog_10_method_39_code
def yX8_isHinge : MethodName := ⟨RX8, "isHinge", "(I)Z"⟩
abbrev cX8_hinge : ByteArray := prog_10_method_40_code
def yX8_hinge : MethodName := ⟨RX8, "hinge", "(I)I"⟩
abbrev cX8_pieces : ByteArray := prog_10_method_41_code
def yX8_pieces : MethodName := ⟨RX8, "pieces", "()I"⟩
abbrev cX8_cheapestOf : ByteArray := prog_10_method_42_code
def yX8_cheapestOf : MethodName := ⟨RX8, "cheapestOf", "()I"⟩
abbrev cX8_cheapest : ByteArray := prog_10_method_43_code
def yX8_cheapest : MethodName := ⟨RX8, "cheapest", "()I"⟩
abbrev cX8_cheap : ByteArray := prog_10_method_44_code
def yX8_cheap : MethodName := ⟨RX8, "cheap", "(I)I"⟩
abbrev cX8_findFewest : ByteArray := prog_10_method_45_code
def yX8_findFewest : MethodName := ⟨RX8, "findFewest", "()I"⟩
abbrev cX8_fewest : ByteArray := prog_10_method_46_code
def yX8_fewest : MethodName := ⟨RX8, "fewest", "()I"⟩
abbrev cX8_fewestAt : ByteArray := prog_10_method_47_code
def yX8_fewestAt : MethodName := ⟨RX8, "fewestAt", "(I)I"⟩
abbrev cX8_goesBack : ByteArray := prog_10_method_48_code
def yX8_goesBack : MethodName := ⟨RX8, "goesBack", "()V"⟩
abbrev cX8_links : ByteArray := prog_10_method_49_code
def yX8_links : MethodName := ⟨RX8, "links", "(II)V"⟩
abbrev cX8_mends : ByteArray := prog_10_method_50_code
def yX8_mends : MethodName := ⟨RX8, "mends", "(I)I"⟩
abbrev cX8_first : ByteArray := prog_10_method_51_code
def yX8_first : MethodName := ⟨RX8, "first", "(I)I"⟩
abbrev cX8_back : ByteArray := prog_10_method_52_code
def yX8_back : MethodName := ⟨RX8, "back", "(II)I"⟩
abbrev cX8_threes : ByteArray := prog_10_method_53_code
def yX8_threes : MethodName := ⟨RX8, "threes", "()I"⟩
abbrev cX8_findBundles : ByteArray := prog_10_method_54_code
def yX8_findBundles : MethodName := ⟨RX8, "findBundles", "()I"⟩
abbrev cX8_merges : ByteArray := prog_10_method_55_code
def yX8_merges : MethodName := ⟨RX8, "merges", "(II)V"⟩
abbrev cX8_bundles : ByteArray := prog_10_method_56_code
def yX8_bundles : MethodName := ⟨RX8, "bundles", "()I"⟩
abbrev cX8_bundle : ByteArray := prog_10_method_57_code
def yX8_bundle : MethodName := ⟨RX8, "bundle", "(I)I"⟩
abbrev cX8_wrongCount : ByteArray := prog_10_method_58_code
def yX8_wrongCount : MethodName := ⟨RX8, "wrongCount", "(II)I"⟩
abbrev cX8_rankBy : ByteArray := prog_10_method_59_code
def yX8_rankBy : MethodName := ⟨RX8, "rankBy", "(II)I"⟩
abbrev cX8_keptBy : ByteArray := prog_10_method_60_code
def yX8_keptBy : MethodName := ⟨RX8, "keptBy", "(III)I"⟩
abbrev cX8_thereMany : ByteArray := prog_10_method_61_code
def yX8_thereMany : MethodName := ⟨RX8, "thereMany", "()I"⟩
abbrev cX8_tight : ByteArray := prog_10_method_62_code
def yX8_tight : MethodName := ⟨RX8, "tight", "(II)I"⟩
abbrev cX8_forests : ByteArray := prog_10_method_63_code
def yX8_forests : MethodName := ⟨RX8, "forests", "()I"⟩
abbrev cX8_barOf : ByteArray := prog_10_method_64_code
def yX8_barOf : MethodName := ⟨RX8, "barOf", "(II)I"⟩
abbrev cX8_count : ByteArray := prog_10_method_65_code
def yX8_count : MethodName := ⟨RX8, "count", "(I)I"⟩
def RJ6 : String := "java/lang/Integer"
def TJ6 : u_T := fun k => match k with
  | _ => ("", "", "", false)
def tyJ6 : Nat → FieldType := fun k => match k with
  | _ => .int
abbrev wsJ60 : List Cond := u_ws RJ6 TJ6 0
theorem nmJ6 : ∀ a, a < 0 → ∀ b, b < 0 → a ≠ b → (TJ6 a).2.1 ≠ (TJ6 b).2.1 := by decide +kernel
theorem tyJ6_ok : ∀ k, k < 0 → parseFieldDescriptor (TJ6 k).2.2.1 = some (tyJ6 k) := by decide +kernel
abbrev cJ6_bitCount_0f7a4 : ByteArray := prog_11_method_49_code
def yJ6_bitCount_0f7a4 : MethodName := ⟨RJ6, "bitCount", "(I)I"⟩
def RJ9 : String := "java/lang/Math"
def TJ9 : u_T := fun k => match k with
  | _ => ("", "", "", false)
def tyJ9 : Nat → FieldType := fun k => match k with
  | _ => .int
abbrev wsJ90 : List Cond := u_ws RJ9 TJ9 0
theorem nmJ9 : ∀ a, a < 0 → ∀ b, b < 0 → a ≠ b → (TJ9 a).2.1 ≠ (TJ9 b).2.1 := by decide +kernel
theorem tyJ9_ok : ∀ k, k < 0 → parseFieldDescriptor (TJ9 k).2.2.1 = some (tyJ9 k) := by decide +kernel
abbrev cJ9_max_7cf53 : ByteArray := prog_12_method_65_code
def yJ9_max_7cf53 : MethodName := ⟨RJ9, "max", "(II)I"⟩
abbrev cJ9_min_7cf53 : ByteArray := prog_12_method_69_code
def yJ9_min_7cf53 : MethodName := ⟨RJ9, "min", "(II)I"⟩
def RJ7 : String := "java/util/Arrays"
def TJ7 : u_T := fun k => match k with
  | _ => ("", "", "", false)
def tyJ7 : Nat → FieldType := fun k => match k with
  | _ => .int
abbrev wsJ70 : List Cond := u_ws RJ7 TJ7 0
theorem nmJ7 : ∀ a, a < 0 → ∀ b, b < 0 → a ≠ b → (TJ7 a).2.1 ≠ (TJ7 b).2.1 := by decide +kernel
theorem tyJ7_ok : ∀ k, k < 0 → parseFieldDescriptor (TJ7 k).2.2.1 = some (tyJ7 k) := by decide +kernel
abbrev cJ7_fill_53178 : ByteArray := prog_13_method_103_code
def yJ7_fill_53178 : MethodName := ⟨RJ7, "fill", "([II)V"⟩
def RL : String := "StiffFramesLaw"
abbrev cL_law : ByteArray := code
def yL_law : MethodName := ⟨RL, "law", "([I)Z"⟩
abbrev vwCl : List vw_C := [(RX0, TX0, 5), (RX1, TX1, 6), (RX2, TX2, 9), (RX3, TX3, 6), (RX4, TX4, 5), (RX5, TX5, 10), (RX6, TX6, 8), (RX7, TX7, 9), (RX8, TX8, 29)]
