-- ===== PART A: goes FIRST, ahead of the names: the tables' words, and 'selects' of the private methods out of them =====
/-- a private method of a class that the tables say can be made, by its rows of tables_1 -/
def lw_okq (q : MethodName × Nat) : Prop := (q.1.cls ≠ "java/lang/invoke/MethodHandle" ∧ q.1.cls ≠ "java/lang/invoke/VarHandle") ∧ Cond.instantiable q.1.cls q.2 ∈ tables_1 ∧ Cond.privateMethod q.1 ∈ tables_1 ∧ Cond.instanceMethod q.1 ∈ tables_1
theorem lw_p0 : lw_okq (⟨"SignalWaves$Recording", "beginBlock", "()V"⟩, 7) := ⟨⟨by decide +kernel, by decide +kernel⟩, List.mem_of_getElem? (i := 135) (by decide +kernel), List.mem_of_getElem? (i := 209) (by decide +kernel), List.mem_of_getElem? (i := 210) (by decide +kernel)⟩
theorem lw_p1 : lw_okq (⟨"SignalWaves$Recording", "loseOldest", "()V"⟩, 7) := ⟨⟨by decide +kernel, by decide +kernel⟩, List.mem_of_getElem? (i := 135) (by decide +kernel), List.mem_of_getElem? (i := 213) (by decide +kernel), List.mem_of_getElem? (i := 214) (by decide +kernel)⟩
theorem lw_p2 : lw_okq (⟨"SignalWaves$Reader", "readItem", "()Z"⟩, 5) := ⟨⟨by decide +kernel, by decide +kernel⟩, List.mem_of_getElem? (i := 113) (by decide +kernel), List.mem_of_getElem? (i := 378) (by decide +kernel), List.mem_of_getElem? (i := 379) (by decide +kernel)⟩
theorem lw_p3 : lw_okq (⟨"SignalWaves$Reader", "readOpening", "()Z"⟩, 5) := ⟨⟨by decide +kernel, by decide +kernel⟩, List.mem_of_getElem? (i := 113) (by decide +kernel), List.mem_of_getElem? (i := 382) (by decide +kernel), List.mem_of_getElem? (i := 383) (by decide +kernel)⟩
theorem lw_p4 : lw_okq (⟨"SignalWaves$Reader", "readClosing", "()Z"⟩, 5) := ⟨⟨by decide +kernel, by decide +kernel⟩, List.mem_of_getElem? (i := 113) (by decide +kernel), List.mem_of_getElem? (i := 403) (by decide +kernel), List.mem_of_getElem? (i := 404) (by decide +kernel)⟩
theorem lw_p5 : lw_okq (⟨"SignalWaves$Reader", "readSignal", "()Z"⟩, 5) := ⟨⟨by decide +kernel, by decide +kernel⟩, List.mem_of_getElem? (i := 113) (by decide +kernel), List.mem_of_getElem? (i := 407) (by decide +kernel), List.mem_of_getElem? (i := 408) (by decide +kernel)⟩
theorem lw_p6 : lw_okq (⟨"SignalWaves$Reader", "readWidth", "()I"⟩, 5) := ⟨⟨by decide +kernel, by decide +kernel⟩, List.mem_of_getElem? (i := 113) (by decide +kernel), List.mem_of_getElem? (i := 411) (by decide +kernel), List.mem_of_getElem? (i := 412) (by decide +kernel)⟩
theorem lw_p7 : lw_okq (⟨"SignalWaves$Reader", "readPath", "()I"⟩, 5) := ⟨⟨by decide +kernel, by decide +kernel⟩, List.mem_of_getElem? (i := 113) (by decide +kernel), List.mem_of_getElem? (i := 419) (by decide +kernel), List.mem_of_getElem? (i := 420) (by decide +kernel)⟩
theorem lw_p8 : lw_okq (⟨"SignalWaves$Reader", "readExpression", "()Z"⟩, 5) := ⟨⟨by decide +kernel, by decide +kernel⟩, List.mem_of_getElem? (i := 113) (by decide +kernel), List.mem_of_getElem? (i := 427) (by decide +kernel), List.mem_of_getElem? (i := 428) (by decide +kernel)⟩
theorem lw_p9 : lw_okq (⟨"SignalWaves$Reader", "readTerm", "()Z"⟩, 5) := ⟨⟨by decide +kernel, by decide +kernel⟩, List.mem_of_getElem? (i := 113) (by decide +kernel), List.mem_of_getElem? (i := 431) (by decide +kernel), List.mem_of_getElem? (i := 432) (by decide +kernel)⟩
theorem lw_p10 : lw_okq (⟨"SignalWaves$Reader", "readSign", "(I)Z"⟩, 5) := ⟨⟨by decide +kernel, by decide +kernel⟩, List.mem_of_getElem? (i := 113) (by decide +kernel), List.mem_of_getElem? (i := 435) (by decide +kernel), List.mem_of_getElem? (i := 436) (by decide +kernel)⟩
theorem lw_p11 : lw_okq (⟨"SignalWaves", "isSignal", "(I)Z"⟩, 14) := ⟨⟨by decide +kernel, by decide +kernel⟩, List.mem_of_getElem? (i := 16) (by decide +kernel), List.mem_of_getElem? (i := 463) (by decide +kernel), List.mem_of_getElem? (i := 464) (by decide +kernel)⟩
theorem lw_p12 : lw_okq (⟨"SignalWaves$Design", "computed", "(I[I)I"⟩, 13) := ⟨⟨by decide +kernel, by decide +kernel⟩, List.mem_of_getElem? (i := 51) (by decide +kernel), List.mem_of_getElem? (i := 475) (by decide +kernel), List.mem_of_getElem? (i := 476) (by decide +kernel)⟩
theorem lw_p13 : lw_okq (⟨"SignalWaves", "isWire", "(I)Z"⟩, 14) := ⟨⟨by decide +kernel, by decide +kernel⟩, List.mem_of_getElem? (i := 16) (by decide +kernel), List.mem_of_getElem? (i := 506) (by decide +kernel), List.mem_of_getElem? (i := 507) (by decide +kernel)⟩
theorem lw_p14 : lw_okq (⟨"SignalWaves", "isPast", "(I)Z"⟩, 14) := ⟨⟨by decide +kernel, by decide +kernel⟩, List.mem_of_getElem? (i := 16) (by decide +kernel), List.mem_of_getElem? (i := 569) (by decide +kernel), List.mem_of_getElem? (i := 570) (by decide +kernel)⟩
theorem lw_p15 : lw_okq (⟨"SignalWaves", "fillRow", "(I)V"⟩, 14) := ⟨⟨by decide +kernel, by decide +kernel⟩, List.mem_of_getElem? (i := 16) (by decide +kernel), List.mem_of_getElem? (i := 573) (by decide +kernel), List.mem_of_getElem? (i := 574) (by decide +kernel)⟩
def lw_privs_1 : List (MethodName × Nat) := [(⟨"SignalWaves$Recording", "beginBlock", "()V"⟩, 7), (⟨"SignalWaves$Recording", "loseOldest", "()V"⟩, 7), (⟨"SignalWaves$Reader", "readItem", "()Z"⟩, 5), (⟨"SignalWaves$Reader", "readOpening", "()Z"⟩, 5), (⟨"SignalWaves$Reader", "readClosing", "()Z"⟩, 5), (⟨"SignalWaves$Reader", "readSignal", "()Z"⟩, 5), (⟨"SignalWaves$Reader", "readWidth", "()I"⟩, 5), (⟨"SignalWaves$Reader", "readPath", "()I"⟩, 5), (⟨"SignalWaves$Reader", "readExpression", "()Z"⟩, 5), (⟨"SignalWaves$Reader", "readTerm", "()Z"⟩, 5), (⟨"SignalWaves$Reader", "readSign", "(I)Z"⟩, 5), (⟨"SignalWaves", "isSignal", "(I)Z"⟩, 14), (⟨"SignalWaves$Design", "computed", "(I[I)I"⟩, 13), (⟨"SignalWaves", "isWire", "(I)Z"⟩, 14), (⟨"SignalWaves", "isPast", "(I)Z"⟩, 14), (⟨"SignalWaves", "fillRow", "(I)V"⟩, 14)]
theorem lw_r1 : ∀ q ∈ lw_privs_1, lw_okq q := List.forall_mem_cons.mpr ⟨lw_p0, List.forall_mem_cons.mpr ⟨lw_p1, List.forall_mem_cons.mpr ⟨lw_p2, List.forall_mem_cons.mpr ⟨lw_p3, List.forall_mem_cons.mpr ⟨lw_p4, List.forall_mem_cons.mpr ⟨lw_p5, List.forall_mem_cons.mpr ⟨lw_p6, List.forall_mem_cons.mpr ⟨lw_p7, List.forall_mem_cons.mpr ⟨lw_p8, List.forall_mem_cons.mpr ⟨lw_p9, List.forall_mem_cons.mpr ⟨lw_p10, List.forall_mem_cons.mpr ⟨lw_p11, List.forall_mem_cons.mpr ⟨lw_p12, List.forall_mem_cons.mpr ⟨lw_p13, List.forall_mem_cons.mpr ⟨lw_p14, List.forall_mem_cons.mpr ⟨lw_p15, fun _ h => absurd h List.not_mem_nil⟩⟩⟩⟩⟩⟩⟩⟩⟩⟩⟩⟩⟩⟩⟩⟩
theorem lw_p16 : lw_okq (⟨"SignalWaves$History", "addMoment", "(I)V"⟩, 4) := ⟨⟨by decide +kernel, by decide +kernel⟩, List.mem_of_getElem? (i := 273) (by decide +kernel), List.mem_of_getElem? (i := 596) (by decide +kernel), List.mem_of_getElem? (i := 597) (by decide +kernel)⟩
theorem lw_p17 : lw_okq (⟨"SignalWaves$History", "hasEdgeAt", "(II)Z"⟩, 4) := ⟨⟨by decide +kernel, by decide +kernel⟩, List.mem_of_getElem? (i := 273) (by decide +kernel), List.mem_of_getElem? (i := 650) (by decide +kernel), List.mem_of_getElem? (i := 651) (by decide +kernel)⟩
theorem lw_p18 : lw_okq (⟨"SignalWaves", "isBlock", "(I)Z"⟩, 14) := ⟨⟨by decide +kernel, by decide +kernel⟩, List.mem_of_getElem? (i := 16) (by decide +kernel), List.mem_of_getElem? (i := 663) (by decide +kernel), List.mem_of_getElem? (i := 664) (by decide +kernel)⟩
theorem lw_p19 : lw_okq (⟨"SignalWaves$Changes", "isNew", "(II)Z"⟩, 4) := ⟨⟨by decide +kernel, by decide +kernel⟩, List.mem_of_getElem? (i := 148) (by decide +kernel), List.mem_of_getElem? (i := 671) (by decide +kernel), List.mem_of_getElem? (i := 672) (by decide +kernel)⟩
theorem lw_p20 : lw_okq (⟨"SignalWaves", "roomOf", "(LSignalWaves$Block;)I"⟩, 14) := ⟨⟨by decide +kernel, by decide +kernel⟩, List.mem_of_getElem? (i := 16) (by decide +kernel), List.mem_of_getElem? (i := 675) (by decide +kernel), List.mem_of_getElem? (i := 676) (by decide +kernel)⟩
theorem lw_p21 : lw_okq (⟨"SignalWaves", "roomDivided", "(I)I"⟩, 14) := ⟨⟨by decide +kernel, by decide +kernel⟩, List.mem_of_getElem? (i := 16) (by decide +kernel), List.mem_of_getElem? (i := 701) (by decide +kernel), List.mem_of_getElem? (i := 702) (by decide +kernel)⟩
theorem lw_p22 : lw_okq (⟨"SignalWaves", "roomOfGroup", "(II)I"⟩, 14) := ⟨⟨by decide +kernel, by decide +kernel⟩, List.mem_of_getElem? (i := 16) (by decide +kernel), List.mem_of_getElem? (i := 706) (by decide +kernel), List.mem_of_getElem? (i := 707) (by decide +kernel)⟩
theorem lw_p23 : lw_okq (⟨"SignalWaves", "agreeing", "()I"⟩, 14) := ⟨⟨by decide +kernel, by decide +kernel⟩, List.mem_of_getElem? (i := 16) (by decide +kernel), List.mem_of_getElem? (i := 726) (by decide +kernel), List.mem_of_getElem? (i := 727) (by decide +kernel)⟩
theorem lw_p24 : lw_okq (⟨"SignalWaves", "changesInAll", "()I"⟩, 14) := ⟨⟨by decide +kernel, by decide +kernel⟩, List.mem_of_getElem? (i := 16) (by decide +kernel), List.mem_of_getElem? (i := 758) (by decide +kernel), List.mem_of_getElem? (i := 759) (by decide +kernel)⟩
theorem lw_p25 : lw_okq (⟨"SignalWaves", "roomOfAll", "()I"⟩, 14) := ⟨⟨by decide +kernel, by decide +kernel⟩, List.mem_of_getElem? (i := 16) (by decide +kernel), List.mem_of_getElem? (i := 762) (by decide +kernel), List.mem_of_getElem? (i := 763) (by decide +kernel)⟩
theorem lw_p26 : lw_okq (⟨"SignalWavesModel", "begins", "()V"⟩, 50) := ⟨⟨by decide +kernel, by decide +kernel⟩, List.mem_of_getElem? (i := 766) (by decide +kernel), List.mem_of_getElem? (i := 772) (by decide +kernel), List.mem_of_getElem? (i := 773) (by decide +kernel)⟩
theorem lw_p27 : lw_okq (⟨"SignalWavesModel", "blockBegins", "()V"⟩, 50) := ⟨⟨by decide +kernel, by decide +kernel⟩, List.mem_of_getElem? (i := 766) (by decide +kernel), List.mem_of_getElem? (i := 776) (by decide +kernel), List.mem_of_getElem? (i := 777) (by decide +kernel)⟩
theorem lw_p28 : lw_okq (⟨"SignalWavesModel", "next", "()V"⟩, 50) := ⟨⟨by decide +kernel, by decide +kernel⟩, List.mem_of_getElem? (i := 766) (by decide +kernel), List.mem_of_getElem? (i := 949) (by decide +kernel), List.mem_of_getElem? (i := 950) (by decide +kernel)⟩
theorem lw_p29 : lw_okq (⟨"SignalWavesModel", "isFigure", "(I)Z"⟩, 50) := ⟨⟨by decide +kernel, by decide +kernel⟩, List.mem_of_getElem? (i := 766) (by decide +kernel), List.mem_of_getElem? (i := 953) (by decide +kernel), List.mem_of_getElem? (i := 954) (by decide +kernel)⟩
theorem lw_p30 : lw_okq (⟨"SignalWavesModel", "readsItem", "()V"⟩, 50) := ⟨⟨by decide +kernel, by decide +kernel⟩, List.mem_of_getElem? (i := 766) (by decide +kernel), List.mem_of_getElem? (i := 960) (by decide +kernel), List.mem_of_getElem? (i := 961) (by decide +kernel)⟩
theorem lw_p31 : lw_okq (⟨"SignalWavesModel", "is", "(I)Z"⟩, 50) := ⟨⟨by decide +kernel, by decide +kernel⟩, List.mem_of_getElem? (i := 766) (by decide +kernel), List.mem_of_getElem? (i := 964) (by decide +kernel), List.mem_of_getElem? (i := 965) (by decide +kernel)⟩
def lw_privs_2 : List (MethodName × Nat) := [(⟨"SignalWaves$History", "addMoment", "(I)V"⟩, 4), (⟨"SignalWaves$History", "hasEdgeAt", "(II)Z"⟩, 4), (⟨"SignalWaves", "isBlock", "(I)Z"⟩, 14), (⟨"SignalWaves$Changes", "isNew", "(II)Z"⟩, 4), (⟨"SignalWaves", "roomOf", "(LSignalWaves$Block;)I"⟩, 14), (⟨"SignalWaves", "roomDivided", "(I)I"⟩, 14), (⟨"SignalWaves", "roomOfGroup", "(II)I"⟩, 14), (⟨"SignalWaves", "agreeing", "()I"⟩, 14), (⟨"SignalWaves", "changesInAll", "()I"⟩, 14), (⟨"SignalWaves", "roomOfAll", "()I"⟩, 14), (⟨"SignalWavesModel", "begins", "()V"⟩, 50), (⟨"SignalWavesModel", "blockBegins", "()V"⟩, 50), (⟨"SignalWavesModel", "next", "()V"⟩, 50), (⟨"SignalWavesModel", "isFigure", "(I)Z"⟩, 50), (⟨"SignalWavesModel", "readsItem", "()V"⟩, 50), (⟨"SignalWavesModel", "is", "(I)Z"⟩, 50)]
theorem lw_r2 : ∀ q ∈ lw_privs_2, lw_okq q := List.forall_mem_cons.mpr ⟨lw_p16, List.forall_mem_cons.mpr ⟨lw_p17, List.forall_mem_cons.mpr ⟨lw_p18, List.forall_mem_cons.mpr ⟨lw_p19, List.forall_mem_cons.mpr ⟨lw_p20, List.forall_mem_cons.mpr ⟨lw_p21, List.forall_mem_cons.mpr ⟨lw_p22, List.forall_mem_cons.mpr ⟨lw_p23, List.forall_mem_cons.mpr ⟨lw_p24, List.forall_mem_cons.mpr ⟨lw_p25, List.forall_mem_cons.mpr ⟨lw_p26, List.forall_mem_cons.mpr ⟨lw_p27, List.forall_mem_cons.mpr ⟨lw_p28, List.forall_mem_cons.mpr ⟨lw_p29, List.forall_mem_cons.mpr ⟨lw_p30, List.forall_mem_cons.mpr ⟨lw_p31, fun _ h => absurd h List.not_mem_nil⟩⟩⟩⟩⟩⟩⟩⟩⟩⟩⟩⟩⟩⟩⟩⟩
theorem lw_p32 : lw_okq (⟨"SignalWavesModel", "opens", "()V"⟩, 50) := ⟨⟨by decide +kernel, by decide +kernel⟩, List.mem_of_getElem? (i := 766) (by decide +kernel), List.mem_of_getElem? (i := 968) (by decide +kernel), List.mem_of_getElem? (i := 969) (by decide +kernel)⟩
theorem lw_p33 : lw_okq (⟨"SignalWavesModel", "due", "(Z)V"⟩, 50) := ⟨⟨by decide +kernel, by decide +kernel⟩, List.mem_of_getElem? (i := 766) (by decide +kernel), List.mem_of_getElem? (i := 972) (by decide +kernel), List.mem_of_getElem? (i := 973) (by decide +kernel)⟩
theorem lw_p34 : lw_okq (⟨"SignalWavesModel", "passes", "(Z)V"⟩, 50) := ⟨⟨by decide +kernel, by decide +kernel⟩, List.mem_of_getElem? (i := 766) (by decide +kernel), List.mem_of_getElem? (i := 976) (by decide +kernel), List.mem_of_getElem? (i := 977) (by decide +kernel)⟩
theorem lw_p35 : lw_okq (⟨"SignalWavesModel", "newNodeBy", "(II)I"⟩, 50) := ⟨⟨by decide +kernel, by decide +kernel⟩, List.mem_of_getElem? (i := 766) (by decide +kernel), List.mem_of_getElem? (i := 980) (by decide +kernel), List.mem_of_getElem? (i := 981) (by decide +kernel)⟩
theorem lw_p36 : lw_okq (⟨"SignalWavesModel", "newScopeBy", "(II)I"⟩, 50) := ⟨⟨by decide +kernel, by decide +kernel⟩, List.mem_of_getElem? (i := 766) (by decide +kernel), List.mem_of_getElem? (i := 984) (by decide +kernel), List.mem_of_getElem? (i := 985) (by decide +kernel)⟩
theorem lw_p37 : lw_okq (⟨"SignalWavesModel", "closes", "()V"⟩, 50) := ⟨⟨by decide +kernel, by decide +kernel⟩, List.mem_of_getElem? (i := 766) (by decide +kernel), List.mem_of_getElem? (i := 988) (by decide +kernel), List.mem_of_getElem? (i := 989) (by decide +kernel)⟩
theorem lw_p38 : lw_okq (⟨"SignalWavesModel", "readsNode", "()V"⟩, 50) := ⟨⟨by decide +kernel, by decide +kernel⟩, List.mem_of_getElem? (i := 766) (by decide +kernel), List.mem_of_getElem? (i := 992) (by decide +kernel), List.mem_of_getElem? (i := 993) (by decide +kernel)⟩
theorem lw_p39 : lw_okq (⟨"SignalWavesModel", "readsPath", "()I"⟩, 50) := ⟨⟨by decide +kernel, by decide +kernel⟩, List.mem_of_getElem? (i := 766) (by decide +kernel), List.mem_of_getElem? (i := 996) (by decide +kernel), List.mem_of_getElem? (i := 997) (by decide +kernel)⟩
theorem lw_p40 : lw_okq (⟨"SignalWavesModel", "readsExpression", "()V"⟩, 50) := ⟨⟨by decide +kernel, by decide +kernel⟩, List.mem_of_getElem? (i := 766) (by decide +kernel), List.mem_of_getElem? (i := 1000) (by decide +kernel), List.mem_of_getElem? (i := 1001) (by decide +kernel)⟩
theorem lw_p41 : lw_okq (⟨"SignalWavesModel", "beginsTerm", "()V"⟩, 50) := ⟨⟨by decide +kernel, by decide +kernel⟩, List.mem_of_getElem? (i := 766) (by decide +kernel), List.mem_of_getElem? (i := 1004) (by decide +kernel), List.mem_of_getElem? (i := 1005) (by decide +kernel)⟩
theorem lw_p42 : lw_okq (⟨"SignalWavesModel", "waitsFor", "(I)V"⟩, 50) := ⟨⟨by decide +kernel, by decide +kernel⟩, List.mem_of_getElem? (i := 766) (by decide +kernel), List.mem_of_getElem? (i := 1008) (by decide +kernel), List.mem_of_getElem? (i := 1009) (by decide +kernel)⟩
theorem lw_p43 : lw_okq (⟨"SignalWavesModel", "emits", "(II)V"⟩, 50) := ⟨⟨by decide +kernel, by decide +kernel⟩, List.mem_of_getElem? (i := 766) (by decide +kernel), List.mem_of_getElem? (i := 1012) (by decide +kernel), List.mem_of_getElem? (i := 1013) (by decide +kernel)⟩
theorem lw_p44 : lw_okq (⟨"SignalWavesModel", "wholeTerm", "()V"⟩, 50) := ⟨⟨by decide +kernel, by decide +kernel⟩, List.mem_of_getElem? (i := 766) (by decide +kernel), List.mem_of_getElem? (i := 1016) (by decide +kernel), List.mem_of_getElem? (i := 1017) (by decide +kernel)⟩
theorem lw_p45 : lw_okq (⟨"SignalWavesModel", "isBetween", "()Z"⟩, 50) := ⟨⟨by decide +kernel, by decide +kernel⟩, List.mem_of_getElem? (i := 766) (by decide +kernel), List.mem_of_getElem? (i := 1020) (by decide +kernel), List.mem_of_getElem? (i := 1021) (by decide +kernel)⟩
theorem lw_p46 : lw_okq (⟨"SignalWavesModel", "takesOver", "()V"⟩, 50) := ⟨⟨by decide +kernel, by decide +kernel⟩, List.mem_of_getElem? (i := 766) (by decide +kernel), List.mem_of_getElem? (i := 1024) (by decide +kernel), List.mem_of_getElem? (i := 1025) (by decide +kernel)⟩
theorem lw_p47 : lw_okq (⟨"SignalWavesModel", "nodeBy", "(II)I"⟩, 50) := ⟨⟨by decide +kernel, by decide +kernel⟩, List.mem_of_getElem? (i := 766) (by decide +kernel), List.mem_of_getElem? (i := 1032) (by decide +kernel), List.mem_of_getElem? (i := 1033) (by decide +kernel)⟩
def lw_privs_3 : List (MethodName × Nat) := [(⟨"SignalWavesModel", "opens", "()V"⟩, 50), (⟨"SignalWavesModel", "due", "(Z)V"⟩, 50), (⟨"SignalWavesModel", "passes", "(Z)V"⟩, 50), (⟨"SignalWavesModel", "newNodeBy", "(II)I"⟩, 50), (⟨"SignalWavesModel", "newScopeBy", "(II)I"⟩, 50), (⟨"SignalWavesModel", "closes", "()V"⟩, 50), (⟨"SignalWavesModel", "readsNode", "()V"⟩, 50), (⟨"SignalWavesModel", "readsPath", "()I"⟩, 50), (⟨"SignalWavesModel", "readsExpression", "()V"⟩, 50), (⟨"SignalWavesModel", "beginsTerm", "()V"⟩, 50), (⟨"SignalWavesModel", "waitsFor", "(I)V"⟩, 50), (⟨"SignalWavesModel", "emits", "(II)V"⟩, 50), (⟨"SignalWavesModel", "wholeTerm", "()V"⟩, 50), (⟨"SignalWavesModel", "isBetween", "()Z"⟩, 50), (⟨"SignalWavesModel", "takesOver", "()V"⟩, 50), (⟨"SignalWavesModel", "nodeBy", "(II)I"⟩, 50)]
theorem lw_r3 : ∀ q ∈ lw_privs_3, lw_okq q := List.forall_mem_cons.mpr ⟨lw_p32, List.forall_mem_cons.mpr ⟨lw_p33, List.forall_mem_cons.mpr ⟨lw_p34, List.forall_mem_cons.mpr ⟨lw_p35, List.forall_mem_cons.mpr ⟨lw_p36, List.forall_mem_cons.mpr ⟨lw_p37, List.forall_mem_cons.mpr ⟨lw_p38, List.forall_mem_cons.mpr ⟨lw_p39, List.forall_mem_cons.mpr ⟨lw_p40, List.forall_mem_cons.mpr ⟨lw_p41, List.forall_mem_cons.mpr ⟨lw_p42, List.forall_mem_cons.mpr ⟨lw_p43, List.forall_mem_cons.mpr ⟨lw_p44, List.forall_mem_cons.mpr ⟨lw_p45, List.forall_mem_cons.mpr ⟨lw_p46, List.forall_mem_cons.mpr ⟨lw_p47, fun _ h => absurd h List.not_mem_nil⟩⟩⟩⟩⟩⟩⟩⟩⟩⟩⟩⟩⟩⟩⟩⟩
theorem lw_p48 : lw_okq (⟨"SignalWavesModel", "of", "(II)I"⟩, 50) := ⟨⟨by decide +kernel, by decide +kernel⟩, List.mem_of_getElem? (i := 766) (by decide +kernel), List.mem_of_getElem? (i := 1036) (by decide +kernel), List.mem_of_getElem? (i := 1037) (by decide +kernel)⟩
theorem lw_p49 : lw_okq (⟨"SignalWavesModel", "scopeBy", "(II)I"⟩, 50) := ⟨⟨by decide +kernel, by decide +kernel⟩, List.mem_of_getElem? (i := 766) (by decide +kernel), List.mem_of_getElem? (i := 1040) (by decide +kernel), List.mem_of_getElem? (i := 1041) (by decide +kernel)⟩
theorem lw_p50 : lw_okq (⟨"SignalWavesModel", "isNode", "(I)Z"⟩, 50) := ⟨⟨by decide +kernel, by decide +kernel⟩, List.mem_of_getElem? (i := 766) (by decide +kernel), List.mem_of_getElem? (i := 1048) (by decide +kernel), List.mem_of_getElem? (i := 1049) (by decide +kernel)⟩
theorem lw_p51 : lw_okq (⟨"SignalWavesModel", "laysNodes", "()V"⟩, 50) := ⟨⟨by decide +kernel, by decide +kernel⟩, List.mem_of_getElem? (i := 766) (by decide +kernel), List.mem_of_getElem? (i := 1052) (by decide +kernel), List.mem_of_getElem? (i := 1053) (by decide +kernel)⟩
theorem lw_p52 : lw_okq (⟨"SignalWavesModel", "expressed", "(I)I"⟩, 50) := ⟨⟨by decide +kernel, by decide +kernel⟩, List.mem_of_getElem? (i := 766) (by decide +kernel), List.mem_of_getElem? (i := 1056) (by decide +kernel), List.mem_of_getElem? (i := 1057) (by decide +kernel)⟩
theorem lw_p53 : lw_okq (⟨"SignalWavesModel", "isWire", "(I)Z"⟩, 50) := ⟨⟨by decide +kernel, by decide +kernel⟩, List.mem_of_getElem? (i := 766) (by decide +kernel), List.mem_of_getElem? (i := 1079) (by decide +kernel), List.mem_of_getElem? (i := 1080) (by decide +kernel)⟩
theorem lw_p54 : lw_okq (⟨"SignalWavesModel", "notes", "()V"⟩, 50) := ⟨⟨by decide +kernel, by decide +kernel⟩, List.mem_of_getElem? (i := 766) (by decide +kernel), List.mem_of_getElem? (i := 1083) (by decide +kernel), List.mem_of_getElem? (i := 1084) (by decide +kernel)⟩
theorem lw_p55 : lw_okq (⟨"SignalWavesModel", "isTime", "(I)Z"⟩, 50) := ⟨⟨by decide +kernel, by decide +kernel⟩, List.mem_of_getElem? (i := 766) (by decide +kernel), List.mem_of_getElem? (i := 1107) (by decide +kernel), List.mem_of_getElem? (i := 1108) (by decide +kernel)⟩
theorem lw_p56 : lw_okq (⟨"SignalWavesModel", "laysAt", "(I)V"⟩, 50) := ⟨⟨by decide +kernel, by decide +kernel⟩, List.mem_of_getElem? (i := 766) (by decide +kernel), List.mem_of_getElem? (i := 1111) (by decide +kernel), List.mem_of_getElem? (i := 1112) (by decide +kernel)⟩
theorem lw_p57 : lw_okq (⟨"SignalWavesModel", "blockAt", "(I)I"⟩, 50) := ⟨⟨by decide +kernel, by decide +kernel⟩, List.mem_of_getElem? (i := 766) (by decide +kernel), List.mem_of_getElem? (i := 1115) (by decide +kernel), List.mem_of_getElem? (i := 1116) (by decide +kernel)⟩
theorem lw_p58 : lw_okq (⟨"SignalWavesModel", "laysLine", "(I)V"⟩, 50) := ⟨⟨by decide +kernel, by decide +kernel⟩, List.mem_of_getElem? (i := 766) (by decide +kernel), List.mem_of_getElem? (i := 1126) (by decide +kernel), List.mem_of_getElem? (i := 1127) (by decide +kernel)⟩
theorem lw_p59 : lw_okq (⟨"SignalWavesModel", "laysTurns", "()V"⟩, 50) := ⟨⟨by decide +kernel, by decide +kernel⟩, List.mem_of_getElem? (i := 766) (by decide +kernel), List.mem_of_getElem? (i := 1130) (by decide +kernel), List.mem_of_getElem? (i := 1131) (by decide +kernel)⟩
theorem lw_p60 : lw_okq (⟨"SignalWavesModel", "isEdge", "(II)Z"⟩, 50) := ⟨⟨by decide +kernel, by decide +kernel⟩, List.mem_of_getElem? (i := 766) (by decide +kernel), List.mem_of_getElem? (i := 1134) (by decide +kernel), List.mem_of_getElem? (i := 1135) (by decide +kernel)⟩
theorem lw_p61 : lw_okq (⟨"SignalWavesModel", "isTick", "(I)Z"⟩, 50) := ⟨⟨by decide +kernel, by decide +kernel⟩, List.mem_of_getElem? (i := 766) (by decide +kernel), List.mem_of_getElem? (i := 1158) (by decide +kernel), List.mem_of_getElem? (i := 1159) (by decide +kernel)⟩
theorem lw_p62 : lw_okq (⟨"SignalWavesModel", "isBlock", "(I)Z"⟩, 50) := ⟨⟨by decide +kernel, by decide +kernel⟩, List.mem_of_getElem? (i := 766) (by decide +kernel), List.mem_of_getElem? (i := 1174) (by decide +kernel), List.mem_of_getElem? (i := 1175) (by decide +kernel)⟩
theorem lw_p63 : lw_okq (⟨"SignalWavesModel", "roomOfBlock", "(I)I"⟩, 50) := ⟨⟨by decide +kernel, by decide +kernel⟩, List.mem_of_getElem? (i := 766) (by decide +kernel), List.mem_of_getElem? (i := 1178) (by decide +kernel), List.mem_of_getElem? (i := 1179) (by decide +kernel)⟩
def lw_privs_4 : List (MethodName × Nat) := [(⟨"SignalWavesModel", "of", "(II)I"⟩, 50), (⟨"SignalWavesModel", "scopeBy", "(II)I"⟩, 50), (⟨"SignalWavesModel", "isNode", "(I)Z"⟩, 50), (⟨"SignalWavesModel", "laysNodes", "()V"⟩, 50), (⟨"SignalWavesModel", "expressed", "(I)I"⟩, 50), (⟨"SignalWavesModel", "isWire", "(I)Z"⟩, 50), (⟨"SignalWavesModel", "notes", "()V"⟩, 50), (⟨"SignalWavesModel", "isTime", "(I)Z"⟩, 50), (⟨"SignalWavesModel", "laysAt", "(I)V"⟩, 50), (⟨"SignalWavesModel", "blockAt", "(I)I"⟩, 50), (⟨"SignalWavesModel", "laysLine", "(I)V"⟩, 50), (⟨"SignalWavesModel", "laysTurns", "()V"⟩, 50), (⟨"SignalWavesModel", "isEdge", "(II)Z"⟩, 50), (⟨"SignalWavesModel", "isTick", "(I)Z"⟩, 50), (⟨"SignalWavesModel", "isBlock", "(I)Z"⟩, 50), (⟨"SignalWavesModel", "roomOfBlock", "(I)I"⟩, 50)]
theorem lw_r4 : ∀ q ∈ lw_privs_4, lw_okq q := List.forall_mem_cons.mpr ⟨lw_p48, List.forall_mem_cons.mpr ⟨lw_p49, List.forall_mem_cons.mpr ⟨lw_p50, List.forall_mem_cons.mpr ⟨lw_p51, List.forall_mem_cons.mpr ⟨lw_p52, List.forall_mem_cons.mpr ⟨lw_p53, List.forall_mem_cons.mpr ⟨lw_p54, List.forall_mem_cons.mpr ⟨lw_p55, List.forall_mem_cons.mpr ⟨lw_p56, List.forall_mem_cons.mpr ⟨lw_p57, List.forall_mem_cons.mpr ⟨lw_p58, List.forall_mem_cons.mpr ⟨lw_p59, List.forall_mem_cons.mpr ⟨lw_p60, List.forall_mem_cons.mpr ⟨lw_p61, List.forall_mem_cons.mpr ⟨lw_p62, List.forall_mem_cons.mpr ⟨lw_p63, fun _ h => absurd h List.not_mem_nil⟩⟩⟩⟩⟩⟩⟩⟩⟩⟩⟩⟩⟩⟩⟩⟩
theorem lw_p64 : lw_okq (⟨"SignalWavesModel", "addsRow", "(I)V"⟩, 50) := ⟨⟨by decide +kernel, by decide +kernel⟩, List.mem_of_getElem? (i := 766) (by decide +kernel), List.mem_of_getElem? (i := 1182) (by decide +kernel), List.mem_of_getElem? (i := 1183) (by decide +kernel)⟩
theorem lw_p65 : lw_okq (⟨"SignalWavesModel", "roomOf", "(III)I"⟩, 50) := ⟨⟨by decide +kernel, by decide +kernel⟩, List.mem_of_getElem? (i := 766) (by decide +kernel), List.mem_of_getElem? (i := 1186) (by decide +kernel), List.mem_of_getElem? (i := 1187) (by decide +kernel)⟩
theorem lw_p66 : lw_okq (⟨"SignalWavesModel", "placeOf", "(I)I"⟩, 50) := ⟨⟨by decide +kernel, by decide +kernel⟩, List.mem_of_getElem? (i := 766) (by decide +kernel), List.mem_of_getElem? (i := 1190) (by decide +kernel), List.mem_of_getElem? (i := 1191) (by decide +kernel)⟩
theorem lw_p67 : lw_okq (⟨"SignalWavesModel", "nodeOfWire", "(I)I"⟩, 50) := ⟨⟨by decide +kernel, by decide +kernel⟩, List.mem_of_getElem? (i := 766) (by decide +kernel), List.mem_of_getElem? (i := 1202) (by decide +kernel), List.mem_of_getElem? (i := 1203) (by decide +kernel)⟩
theorem lw_p68 : lw_okq (⟨"SignalWavesModel", "packedBy", "(I)I"⟩, 50) := ⟨⟨by decide +kernel, by decide +kernel⟩, List.mem_of_getElem? (i := 766) (by decide +kernel), List.mem_of_getElem? (i := 1210) (by decide +kernel), List.mem_of_getElem? (i := 1211) (by decide +kernel)⟩
theorem lw_p69 : lw_okq (⟨"SignalWavesModel", "roomParted", "(II)I"⟩, 50) := ⟨⟨by decide +kernel, by decide +kernel⟩, List.mem_of_getElem? (i := 766) (by decide +kernel), List.mem_of_getElem? (i := 1214) (by decide +kernel), List.mem_of_getElem? (i := 1215) (by decide +kernel)⟩
theorem lw_p70 : lw_okq (⟨"SignalWavesModel", "seen", "()I"⟩, 50) := ⟨⟨by decide +kernel, by decide +kernel⟩, List.mem_of_getElem? (i := 766) (by decide +kernel), List.mem_of_getElem? (i := 1234) (by decide +kernel), List.mem_of_getElem? (i := 1235) (by decide +kernel)⟩
theorem lw_p71 : lw_okq (⟨"SignalWavesModel", "mostAlike", "(I)I"⟩, 50) := ⟨⟨by decide +kernel, by decide +kernel⟩, List.mem_of_getElem? (i := 766) (by decide +kernel), List.mem_of_getElem? (i := 1242) (by decide +kernel), List.mem_of_getElem? (i := 1243) (by decide +kernel)⟩
theorem lw_p72 : lw_okq (⟨"SignalWavesModel", "changes", "()I"⟩, 50) := ⟨⟨by decide +kernel, by decide +kernel⟩, List.mem_of_getElem? (i := 766) (by decide +kernel), List.mem_of_getElem? (i := 1258) (by decide +kernel), List.mem_of_getElem? (i := 1259) (by decide +kernel)⟩
theorem lw_p73 : lw_okq (⟨"SignalWavesModel", "roomOfAll", "()I"⟩, 50) := ⟨⟨by decide +kernel, by decide +kernel⟩, List.mem_of_getElem? (i := 766) (by decide +kernel), List.mem_of_getElem? (i := 1262) (by decide +kernel), List.mem_of_getElem? (i := 1263) (by decide +kernel)⟩
def lw_privs_5 : List (MethodName × Nat) := [(⟨"SignalWavesModel", "addsRow", "(I)V"⟩, 50), (⟨"SignalWavesModel", "roomOf", "(III)I"⟩, 50), (⟨"SignalWavesModel", "placeOf", "(I)I"⟩, 50), (⟨"SignalWavesModel", "nodeOfWire", "(I)I"⟩, 50), (⟨"SignalWavesModel", "packedBy", "(I)I"⟩, 50), (⟨"SignalWavesModel", "roomParted", "(II)I"⟩, 50), (⟨"SignalWavesModel", "seen", "()I"⟩, 50), (⟨"SignalWavesModel", "mostAlike", "(I)I"⟩, 50), (⟨"SignalWavesModel", "changes", "()I"⟩, 50), (⟨"SignalWavesModel", "roomOfAll", "()I"⟩, 50)]
theorem lw_r5 : ∀ q ∈ lw_privs_5, lw_okq q := List.forall_mem_cons.mpr ⟨lw_p64, List.forall_mem_cons.mpr ⟨lw_p65, List.forall_mem_cons.mpr ⟨lw_p66, List.forall_mem_cons.mpr ⟨lw_p67, List.forall_mem_cons.mpr ⟨lw_p68, List.forall_mem_cons.mpr ⟨lw_p69, List.forall_mem_cons.mpr ⟨lw_p70, List.forall_mem_cons.mpr ⟨lw_p71, List.forall_mem_cons.mpr ⟨lw_p72, List.forall_mem_cons.mpr ⟨lw_p73, fun _ h => absurd h List.not_mem_nil⟩⟩⟩⟩⟩⟩⟩⟩⟩⟩
def lw_privs : List (MethodName × Nat) := lw_privs_1 ++ (lw_privs_2 ++ (lw_privs_3 ++ (lw_privs_4 ++ (lw_privs_5))))
def lw_tbl : List Cond := k2_sels lw_privs ++ tables_1
theorem lw_privs_ok : ∀ q ∈ lw_privs, lw_okq q := by
  show ∀ q ∈ lw_privs_1 ++ (lw_privs_2 ++ (lw_privs_3 ++ (lw_privs_4 ++ (lw_privs_5)))), lw_okq q
  exact List.forall_mem_append.mpr ⟨lw_r1, List.forall_mem_append.mpr ⟨lw_r2, List.forall_mem_append.mpr ⟨lw_r3, List.forall_mem_append.mpr ⟨lw_r4, lw_r5⟩⟩⟩⟩
-- ===== end of PART A; then your names; then what follows =====
def RX0 : String := "SignalWaves$Block"
def TX0 : u_T := fun k => match k with
  | 0 => ("SignalWaves$Block", "begin", "I", false)
  | 1 => ("SignalWaves$Block", "end", "I", false)
  | 2 => ("SignalWaves$Block", "frame", "[I", true)
  | _ => ("SignalWaves$Block", "changes", "LSignalWaves$Changes;", true)
def tyX0 : Nat → FieldType := fun k => match k with
  | 0 => .int
  | 1 => .int
  | 2 => .array .int
  | _ => .object "SignalWaves$Changes"
theorem nmX0 : ∀ a, a < 4 → ∀ b, b < 4 → a ≠ b → (TX0 a).2.1 ≠ (TX0 b).2.1 := by decide +kernel
theorem tyX0_ok : ∀ k, k < 4 → parseFieldDescriptor (TX0 k).2.2.1 = some (tyX0 k) := by decide +kernel
abbrev cX0_init : ByteArray := prog_2_method_1_code
def yX0_init : MethodName := ⟨RX0, "<init>", "()V"⟩
abbrev cX0_restart : ByteArray := prog_2_method_2_code
def yX0_restart : MethodName := ⟨RX0, "restart", "(I[I)V"⟩
abbrev cX0_copyFrom : ByteArray := prog_2_method_3_code
def yX0_copyFrom : MethodName := ⟨RX0, "copyFrom", "(LSignalWaves$Block;)V"⟩
def RX1 : String := "SignalWaves$Changes"
def TX1 : u_T := fun k => match k with
  | 0 => ("SignalWaves$Changes", "count", "I", false)
  | 1 => ("SignalWaves$Changes", "times", "[I", true)
  | 2 => ("SignalWaves$Changes", "wires", "[I", true)
  | _ => ("SignalWaves$Changes", "values", "[I", true)
def tyX1 : Nat → FieldType := fun k => match k with
  | 0 => .int
  | 1 => .array .int
  | 2 => .array .int
  | _ => .array .int
theorem nmX1 : ∀ a, a < 4 → ∀ b, b < 4 → a ≠ b → (TX1 a).2.1 ≠ (TX1 b).2.1 := by decide +kernel
theorem tyX1_ok : ∀ k, k < 4 → parseFieldDescriptor (TX1 k).2.2.1 = some (tyX1 k) := by decide +kernel
abbrev cX1_init : ByteArray := prog_3_method_1_code
def yX1_init : MethodName := ⟨RX1, "<init>", "(I)V"⟩
abbrev cX1_add : ByteArray := prog_3_method_2_code
def yX1_add : MethodName := ⟨RX1, "add", "(III)V"⟩
abbrev cX1_addAll : ByteArray := prog_3_method_3_code
def yX1_addAll : MethodName := ⟨RX1, "addAll", "(LSignalWaves$Changes;)V"⟩
abbrev cX1_copyFrom : ByteArray := prog_3_method_4_code
def yX1_copyFrom : MethodName := ⟨RX1, "copyFrom", "(LSignalWaves$Changes;)V"⟩
abbrev cX1_isNew : ByteArray := prog_3_method_5_code
def yX1_isNew : MethodName := ⟨RX1, "isNew", "(II)Z"⟩
abbrev cX1_different : ByteArray := prog_3_method_6_code
def yX1_different : MethodName := ⟨RX1, "different", "(II)I"⟩
abbrev cX1_indexOf : ByteArray := prog_3_method_7_code
def yX1_indexOf : MethodName := ⟨RX1, "indexOf", "(II)I"⟩
abbrev cX1_room : ByteArray := prog_3_method_8_code
def yX1_room : MethodName := ⟨RX1, "room", "(IIII)I"⟩
def RX2 : String := "SignalWaves$Design"
def TX2 : u_T := fun k => match k with
  | 0 => ("SignalWaves$Design", "signals", "I", false)
  | 1 => ("SignalWaves$Design", "wires", "I", false)
  | 2 => ("SignalWaves$Design", "derived", "I", false)
  | 3 => ("SignalWaves$Design", "scopes", "I", false)
  | 4 => ("SignalWaves$Design", "kinds", "[I", true)
  | 5 => ("SignalWaves$Design", "details", "[I", true)
  | 6 => ("SignalWaves$Design", "homes", "[I", true)
  | 7 => ("SignalWaves$Design", "names", "[I", true)
  | 8 => ("SignalWaves$Design", "scopeHomes", "[I", true)
  | 9 => ("SignalWaves$Design", "scopeNames", "[I", true)
  | 10 => ("SignalWaves$Design", "codes", "[[I", true)
  | 11 => ("SignalWaves$Design", "codeLengths", "[I", true)
  | _ => ("SignalWaves$Design", "stack", "[I", true)
def tyX2 : Nat → FieldType := fun k => match k with
  | 0 => .int
  | 1 => .int
  | 2 => .int
  | 3 => .int
  | 4 => .array .int
  | 5 => .array .int
  | 6 => .array .int
  | 7 => .array .int
  | 8 => .array .int
  | 9 => .array .int
  | 10 => .array (.array .int)
  | 11 => .array .int
  | _ => .array .int
theorem nmX2 : ∀ a, a < 13 → ∀ b, b < 13 → a ≠ b → (TX2 a).2.1 ≠ (TX2 b).2.1 := by decide +kernel
theorem tyX2_ok : ∀ k, k < 13 → parseFieldDescriptor (TX2 k).2.2.1 = some (tyX2 k) := by decide +kernel
abbrev cX2_init : ByteArray := prog_4_method_1_code
def yX2_init : MethodName := ⟨RX2, "<init>", "()V"⟩
abbrev cX2_empty : ByteArray := prog_4_method_2_code
def yX2_empty : MethodName := ⟨RX2, "empty", "()V"⟩
abbrev cX2_addScope : ByteArray := prog_4_method_3_code
def yX2_addScope : MethodName := ⟨RX2, "addScope", "(II)I"⟩
abbrev cX2_addSignal : ByteArray := prog_4_method_4_code
def yX2_addSignal : MethodName := ⟨RX2, "addSignal", "(IIII)V"⟩
abbrev cX2_beginCode : ByteArray := prog_4_method_5_code
def yX2_beginCode : MethodName := ⟨RX2, "beginCode", "()V"⟩
abbrev cX2_addCode : ByteArray := prog_4_method_6_code
def yX2_addCode : MethodName := ⟨RX2, "addCode", "(I)V"⟩
abbrev cX2_named : ByteArray := prog_4_method_7_code
def yX2_named : MethodName := ⟨RX2, "named", "(II)I"⟩
abbrev cX2_depth : ByteArray := prog_4_method_8_code
def yX2_depth : MethodName := ⟨RX2, "depth", "(I)I"⟩
abbrev cX2_pathName : ByteArray := prog_4_method_9_code
def yX2_pathName : MethodName := ⟨RX2, "pathName", "(II)I"⟩
abbrev cX2_complete : ByteArray := prog_4_method_10_code
def yX2_complete : MethodName := ⟨RX2, "complete", "([I)V"⟩
abbrev cX2_computed : ByteArray := prog_4_method_11_code
def yX2_computed : MethodName := ⟨RX2, "computed", "(I[I)I"⟩
abbrev cX2_negated : ByteArray := prog_4_method_12_code
def yX2_negated : MethodName := ⟨RX2, "negated", "(I)I"⟩
abbrev cX2_joined : ByteArray := prog_4_method_13_code
def yX2_joined : MethodName := ⟨RX2, "joined", "(III)I"⟩
def RX3 : String := "SignalWaves$History"
def TX3 : u_T := fun k => match k with
  | 0 => ("SignalWaves$History", "count", "I", false)
  | 1 => ("SignalWaves$History", "lastTime", "I", false)
  | 2 => ("SignalWaves$History", "times", "[I", true)
  | _ => ("SignalWaves$History", "values", "[[I", true)
def tyX3 : Nat → FieldType := fun k => match k with
  | 0 => .int
  | 1 => .int
  | 2 => .array .int
  | _ => .array (.array .int)
theorem nmX3 : ∀ a, a < 4 → ∀ b, b < 4 → a ≠ b → (TX3 a).2.1 ≠ (TX3 b).2.1 := by decide +kernel
theorem tyX3_ok : ∀ k, k < 4 → parseFieldDescriptor (TX3 k).2.2.1 = some (tyX3 k) := by decide +kernel
abbrev cX3_init : ByteArray := prog_5_method_1_code
def yX3_init : MethodName := ⟨RX3, "<init>", "()V"⟩
abbrev cX3_read : ByteArray := prog_5_method_2_code
def yX3_read : MethodName := ⟨RX3, "read", "(LSignalWaves$Design;LSignalWaves$Recording;)V"⟩
abbrev cX3_addMoment : ByteArray := prog_5_method_3_code
def yX3_addMoment : MethodName := ⟨RX3, "addMoment", "(I)V"⟩
abbrev cX3_after : ByteArray := prog_5_method_4_code
def yX3_after : MethodName := ⟨RX3, "after", "(I)I"⟩
abbrev cX3_isEdge : ByteArray := prog_5_method_5_code
def yX3_isEdge : MethodName := ⟨RX3, "isEdge", "(III)Z"⟩
abbrev cX3_hasEdgeOf : ByteArray := prog_5_method_6_code
def yX3_hasEdgeOf : MethodName := ⟨RX3, "hasEdgeOf", "(II)Z"⟩
abbrev cX3_hasEdgeAt : ByteArray := prog_5_method_7_code
def yX3_hasEdgeAt : MethodName := ⟨RX3, "hasEdgeAt", "(II)Z"⟩
abbrev cX3_follows : ByteArray := prog_5_method_8_code
def yX3_follows : MethodName := ⟨RX3, "follows", "(III)Z"⟩
abbrev cX3_greatestGroup : ByteArray := prog_5_method_9_code
def yX3_greatestGroup : MethodName := ⟨RX3, "greatestGroup", "(II)I"⟩
def RX4 : String := "SignalWaves$Past"
def TX4 : u_T := fun k => match k with
  | 0 => ("SignalWaves$Past", "count", "I", false)
  | _ => ("SignalWaves$Past", "before", "[LSignalWaves$Recording;", true)
def tyX4 : Nat → FieldType := fun k => match k with
  | 0 => .int
  | _ => .array (.object "SignalWaves$Recording")
theorem nmX4 : ∀ a, a < 2 → ∀ b, b < 2 → a ≠ b → (TX4 a).2.1 ≠ (TX4 b).2.1 := by decide +kernel
theorem tyX4_ok : ∀ k, k < 2 → parseFieldDescriptor (TX4 k).2.2.1 = some (tyX4 k) := by decide +kernel
abbrev cX4_init : ByteArray := prog_6_method_1_code
def yX4_init : MethodName := ⟨RX4, "<init>", "()V"⟩
abbrev cX4_remember : ByteArray := prog_6_method_2_code
def yX4_remember : MethodName := ⟨RX4, "remember", "(LSignalWaves$Recording;)V"⟩
abbrev cX4_bringBack : ByteArray := prog_6_method_3_code
def yX4_bringBack : MethodName := ⟨RX4, "bringBack", "(LSignalWaves$Recording;)V"⟩
def RX5 : String := "SignalWaves$Reader"
def TX5 : u_T := fun k => match k with
  | 0 => ("SignalWaves$Reader", "text", "LSignalWaves$Text;", true)
  | 1 => ("SignalWaves$Reader", "design", "LSignalWaves$Design;", false)
  | 2 => ("SignalWaves$Reader", "open", "I", false)
  | 3 => ("SignalWaves$Reader", "operands", "I", false)
  | _ => ("SignalWaves$Reader", "marks", "I", false)
def tyX5 : Nat → FieldType := fun k => match k with
  | 0 => .object "SignalWaves$Text"
  | 1 => .object "SignalWaves$Design"
  | 2 => .int
  | 3 => .int
  | _ => .int
theorem nmX5 : ∀ a, a < 5 → ∀ b, b < 5 → a ≠ b → (TX5 a).2.1 ≠ (TX5 b).2.1 := by decide +kernel
theorem tyX5_ok : ∀ k, k < 5 → parseFieldDescriptor (TX5 k).2.2.1 = some (tyX5 k) := by decide +kernel
abbrev cX5_init : ByteArray := prog_7_method_1_code
def yX5_init : MethodName := ⟨RX5, "<init>", "(LSignalWaves$Text;LSignalWaves$Design;)V"⟩
abbrev cX5_read : ByteArray := prog_7_method_2_code
def yX5_read : MethodName := ⟨RX5, "read", "(LSignalWaves$Design;)I"⟩
abbrev cX5_readItem : ByteArray := prog_7_method_3_code
def yX5_readItem : MethodName := ⟨RX5, "readItem", "()Z"⟩
abbrev cX5_readSign : ByteArray := prog_7_method_4_code
def yX5_readSign : MethodName := ⟨RX5, "readSign", "(I)Z"⟩
abbrev cX5_readOpening : ByteArray := prog_7_method_5_code
def yX5_readOpening : MethodName := ⟨RX5, "readOpening", "()Z"⟩
abbrev cX5_readClosing : ByteArray := prog_7_method_6_code
def yX5_readClosing : MethodName := ⟨RX5, "readClosing", "()Z"⟩
abbrev cX5_readSignal : ByteArray := prog_7_method_7_code
def yX5_readSignal : MethodName := ⟨RX5, "readSignal", "()Z"⟩
abbrev cX5_readWidth : ByteArray := prog_7_method_8_code
def yX5_readWidth : MethodName := ⟨RX5, "readWidth", "()I"⟩
abbrev cX5_readExpression : ByteArray := prog_7_method_9_code
def yX5_readExpression : MethodName := ⟨RX5, "readExpression", "()Z"⟩
abbrev cX5_isOperator : ByteArray := prog_7_method_10_code
def yX5_isOperator : MethodName := ⟨RX5, "isOperator", "(I)Z"⟩
abbrev cX5_readTerm : ByteArray := prog_7_method_11_code
def yX5_readTerm : MethodName := ⟨RX5, "readTerm", "()Z"⟩
abbrev cX5_readPath : ByteArray := prog_7_method_12_code
def yX5_readPath : MethodName := ⟨RX5, "readPath", "()I"⟩
def RX6 : String := "SignalWaves$Recording"
def TX6 : u_T := fun k => match k with
  | 0 => ("SignalWaves$Recording", "time", "I", false)
  | 1 => ("SignalWaves$Recording", "on", "Z", false)
  | 2 => ("SignalWaves$Recording", "size", "I", false)
  | 3 => ("SignalWaves$Recording", "lost", "I", false)
  | 4 => ("SignalWaves$Recording", "count", "I", false)
  | 5 => ("SignalWaves$Recording", "blocks", "[LSignalWaves$Block;", true)
  | _ => ("SignalWaves$Recording", "values", "[I", true)
def tyX6 : Nat → FieldType := fun k => match k with
  | 0 => .int
  | 1 => .boolean
  | 2 => .int
  | 3 => .int
  | 4 => .int
  | 5 => .array (.object "SignalWaves$Block")
  | _ => .array .int
theorem nmX6 : ∀ a, a < 7 → ∀ b, b < 7 → a ≠ b → (TX6 a).2.1 ≠ (TX6 b).2.1 := by decide +kernel
theorem tyX6_ok : ∀ k, k < 7 → parseFieldDescriptor (TX6 k).2.2.1 = some (tyX6 k) := by decide +kernel
abbrev cX6_init : ByteArray := prog_8_method_1_code
def yX6_init : MethodName := ⟨RX6, "<init>", "()V"⟩
abbrev cX6_restart : ByteArray := prog_8_method_2_code
def yX6_restart : MethodName := ⟨RX6, "restart", "()V"⟩
abbrev cX6_copyFrom : ByteArray := prog_8_method_3_code
def yX6_copyFrom : MethodName := ⟨RX6, "copyFrom", "(LSignalWaves$Recording;)V"⟩
abbrev cX6_give : ByteArray := prog_8_method_4_code
def yX6_give : MethodName := ⟨RX6, "give", "(II)V"⟩
abbrev cX6_turn : ByteArray := prog_8_method_5_code
def yX6_turn : MethodName := ⟨RX6, "turn", "(Z)V"⟩
abbrev cX6_beginBlock : ByteArray := prog_8_method_6_code
def yX6_beginBlock : MethodName := ⟨RX6, "beginBlock", "()V"⟩
abbrev cX6_loseOldest : ByteArray := prog_8_method_7_code
def yX6_loseOldest : MethodName := ⟨RX6, "loseOldest", "()V"⟩
abbrev cX6_blockAt : ByteArray := prog_8_method_8_code
def yX6_blockAt : MethodName := ⟨RX6, "blockAt", "(I)I"⟩
abbrev cX6_fillWires : ByteArray := prog_8_method_9_code
def yX6_fillWires : MethodName := ⟨RX6, "fillWires", "([II)V"⟩
def RX7 : String := "SignalWaves$Text"
def TX7 : u_T := fun k => match k with
  | 0 => ("SignalWaves$Text", "bytes", "[I", true)
  | 1 => ("SignalWaves$Text", "length", "I", false)
  | 2 => ("SignalWaves$Text", "start", "I", false)
  | 3 => ("SignalWaves$Text", "end", "I", false)
  | _ => ("SignalWaves$Text", "sign", "I", false)
def tyX7 : Nat → FieldType := fun k => match k with
  | 0 => .array .int
  | 1 => .int
  | 2 => .int
  | 3 => .int
  | _ => .int
theorem nmX7 : ∀ a, a < 5 → ∀ b, b < 5 → a ≠ b → (TX7 a).2.1 ≠ (TX7 b).2.1 := by decide +kernel
theorem tyX7_ok : ∀ k, k < 5 → parseFieldDescriptor (TX7 k).2.2.1 = some (tyX7 k) := by decide +kernel
abbrev cX7_init : ByteArray := prog_9_method_1_code
def yX7_init : MethodName := ⟨RX7, "<init>", "()V"⟩
abbrev cX7_add : ByteArray := prog_9_method_2_code
def yX7_add : MethodName := ⟨RX7, "add", "(I)V"⟩
abbrev cX7_empty : ByteArray := prog_9_method_3_code
def yX7_empty : MethodName := ⟨RX7, "empty", "()V"⟩
abbrev cX7_toFirst : ByteArray := prog_9_method_4_code
def yX7_toFirst : MethodName := ⟨RX7, "toFirst", "()V"⟩
abbrev cX7_toNext : ByteArray := prog_9_method_5_code
def yX7_toNext : MethodName := ⟨RX7, "toNext", "()V"⟩
abbrev cX7_letter : ByteArray := prog_9_method_6_code
def yX7_letter : MethodName := ⟨RX7, "letter", "()I"⟩
abbrev cX7_number : ByteArray := prog_9_method_7_code
def yX7_number : MethodName := ⟨RX7, "number", "()I"⟩
def RX8 : String := "SignalWaves"
def TX8 : u_T := fun k => match k with
  | 0 => ("SignalWaves", "text", "LSignalWaves$Text;", true)
  | 1 => ("SignalWaves", "design", "LSignalWaves$Design;", false)
  | 2 => ("SignalWaves", "draft", "LSignalWaves$Design;", false)
  | 3 => ("SignalWaves", "reader", "LSignalWaves$Reader;", true)
  | 4 => ("SignalWaves", "recording", "LSignalWaves$Recording;", true)
  | 5 => ("SignalWaves", "past", "LSignalWaves$Past;", true)
  | 6 => ("SignalWaves", "images", "[LSignalWaves$Recording;", true)
  | 7 => ("SignalWaves", "kept", "[Z", true)
  | 8 => ("SignalWaves", "seenTimes", "[I", true)
  | 9 => ("SignalWaves", "seenValues", "[I", true)
  | 10 => ("SignalWaves", "observations", "I", false)
  | 11 => ("SignalWaves", "history", "LSignalWaves$History;", true)
  | 12 => ("SignalWaves", "gathered", "LSignalWaves$Changes;", true)
  | _ => ("SignalWaves", "row", "[I", true)
def tyX8 : Nat → FieldType := fun k => match k with
  | 0 => .object "SignalWaves$Text"
  | 1 => .object "SignalWaves$Design"
  | 2 => .object "SignalWaves$Design"
  | 3 => .object "SignalWaves$Reader"
  | 4 => .object "SignalWaves$Recording"
  | 5 => .object "SignalWaves$Past"
  | 6 => .array (.object "SignalWaves$Recording")
  | 7 => .array .boolean
  | 8 => .array .int
  | 9 => .array .int
  | 10 => .int
  | 11 => .object "SignalWaves$History"
  | 12 => .object "SignalWaves$Changes"
  | _ => .array .int
theorem nmX8 : ∀ a, a < 14 → ∀ b, b < 14 → a ≠ b → (TX8 a).2.1 ≠ (TX8 b).2.1 := by decide +kernel
theorem tyX8_ok : ∀ k, k < 14 → parseFieldDescriptor (TX8 k).2.2.1 = some (tyX8 k) := by decide +kernel
abbrev cX8_init : ByteArray := prog_1_method_1_code
def yX8_init : MethodName := ⟨RX8, "<init>", "()V"⟩
abbrev cX8_type : ByteArray := prog_1_method_2_code
def yX8_type : MethodName := ⟨RX8, "type", "(I)I"⟩
abbrev cX8_clear : ByteArray := prog_1_method_3_code
def yX8_clear : MethodName := ⟨RX8, "clear", "()I"⟩
abbrev cX8_tells : ByteArray := prog_1_method_4_code
def yX8_tells : MethodName := ⟨RX8, "tells", "()I"⟩
abbrev cX8_node : ByteArray := prog_1_method_5_code
def yX8_node : MethodName := ⟨RX8, "node", "()I"⟩
abbrev cX8_about : ByteArray := prog_1_method_6_code
def yX8_about : MethodName := ⟨RX8, "about", "(II)I"⟩
abbrev cX8_scope : ByteArray := prog_1_method_7_code
def yX8_scope : MethodName := ⟨RX8, "scope", "(II)I"⟩
abbrev cX8_listed : ByteArray := prog_1_method_8_code
def yX8_listed : MethodName := ⟨RX8, "listed", "(II)I"⟩
abbrev cX8_path : ByteArray := prog_1_method_9_code
def yX8_path : MethodName := ⟨RX8, "path", "(II)I"⟩
abbrev cX8_sets : ByteArray := prog_1_method_10_code
def yX8_sets : MethodName := ⟨RX8, "sets", "(II)I"⟩
abbrev cX8_passes : ByteArray := prog_1_method_11_code
def yX8_passes : MethodName := ⟨RX8, "passes", "(I)I"⟩
abbrev cX8_dumps : ByteArray := prog_1_method_12_code
def yX8_dumps : MethodName := ⟨RX8, "dumps", "(I)I"⟩
abbrev cX8_sizes : ByteArray := prog_1_method_13_code
def yX8_sizes : MethodName := ⟨RX8, "sizes", "(I)I"⟩
abbrev cX8_undo : ByteArray := prog_1_method_14_code
def yX8_undo : MethodName := ⟨RX8, "undo", "()I"⟩
abbrev cX8_at : ByteArray := prog_1_method_15_code
def yX8_at : MethodName := ⟨RX8, "at", "(II)I"⟩
abbrev cX8_edges : ByteArray := prog_1_method_16_code
def yX8_edges : MethodName := ⟨RX8, "edges", "(IIII)I"⟩
abbrev cX8_next : ByteArray := prog_1_method_17_code
def yX8_next : MethodName := ⟨RX8, "next", "(III)I"⟩
abbrev cX8_previous : ByteArray := prog_1_method_18_code
def yX8_previous : MethodName := ⟨RX8, "previous", "(III)I"⟩
abbrev cX8_first : ByteArray := prog_1_method_19_code
def yX8_first : MethodName := ⟨RX8, "first", "(III)I"⟩
abbrev cX8_holds : ByteArray := prog_1_method_20_code
def yX8_holds : MethodName := ⟨RX8, "holds", "(III)I"⟩
abbrev cX8_ticks : ByteArray := prog_1_method_21_code
def yX8_ticks : MethodName := ⟨RX8, "ticks", "(II)I"⟩
abbrev cX8_delay : ByteArray := prog_1_method_22_code
def yX8_delay : MethodName := ⟨RX8, "delay", "(II)I"⟩
abbrev cX8_jump : ByteArray := prog_1_method_23_code
def yX8_jump : MethodName := ⟨RX8, "jump", "(I)I"⟩
abbrev cX8_block : ByteArray := prog_1_method_24_code
def yX8_block : MethodName := ⟨RX8, "block", "(II)I"⟩
abbrev cX8_frame : ByteArray := prog_1_method_25_code
def yX8_frame : MethodName := ⟨RX8, "frame", "(II)I"⟩
abbrev cX8_change : ByteArray := prog_1_method_26_code
def yX8_change : MethodName := ⟨RX8, "change", "(III)I"⟩
abbrev cX8_packed : ByteArray := prog_1_method_27_code
def yX8_packed : MethodName := ⟨RX8, "packed", "(I)I"⟩
abbrev cX8_best : ByteArray := prog_1_method_28_code
def yX8_best : MethodName := ⟨RX8, "best", "()I"⟩
abbrev cX8_sees : ByteArray := prog_1_method_29_code
def yX8_sees : MethodName := ⟨RX8, "sees", "(II)I"⟩
abbrev cX8_forget : ByteArray := prog_1_method_30_code
def yX8_forget : MethodName := ⟨RX8, "forget", "()I"⟩
abbrev cX8_which : ByteArray := prog_1_method_31_code
def yX8_which : MethodName := ⟨RX8, "which", "()I"⟩
abbrev cX8_look : ByteArray := prog_1_method_32_code
def yX8_look : MethodName := ⟨RX8, "look", "()I"⟩
abbrev cX8_keep : ByteArray := prog_1_method_33_code
def yX8_keep : MethodName := ⟨RX8, "keep", "(I)I"⟩
abbrev cX8_back : ByteArray := prog_1_method_34_code
def yX8_back : MethodName := ⟨RX8, "back", "(I)I"⟩
abbrev cX8_count : ByteArray := prog_1_method_35_code
def yX8_count : MethodName := ⟨RX8, "count", "(I)I"⟩
abbrev cX8_isSignal : ByteArray := prog_1_method_36_code
def yX8_isSignal : MethodName := ⟨RX8, "isSignal", "(I)Z"⟩
abbrev cX8_isWire : ByteArray := prog_1_method_37_code
def yX8_isWire : MethodName := ⟨RX8, "isWire", "(I)Z"⟩
abbrev cX8_isBlock : ByteArray := prog_1_method_38_code
def yX8_isBlock : MethodName := ⟨RX8, "isBlock", "(I)Z"⟩
abbrev cX8_isPast : ByteArray := prog_1_method_39_code
def yX8_isPast : MethodName := ⟨RX8, "isPast", "(I)Z"⟩
abbrev cX8_isKind : ByteArray := prog_1_method_40_code
def yX8_isKind : MethodName := ⟨RX8, "isKind", "(I)Z"⟩
abbrev cX8_isRecordable : ByteArray := prog_1_method_41_code
def yX8_isRecordable : MethodName := ⟨RX8, "isRecordable", "(I)Z"⟩
abbrev cX8_orNone : ByteArray := prog_1_method_42_code
def yX8_orNone : MethodName := ⟨RX8, "orNone", "(I)I"⟩
abbrev cX8_fillRow : ByteArray := prog_1_method_43_code
def yX8_fillRow : MethodName := ⟨RX8, "fillRow", "(I)V"⟩
abbrev cX8_roomOf : ByteArray := prog_1_method_44_code
def yX8_roomOf : MethodName := ⟨RX8, "roomOf", "(LSignalWaves$Block;)I"⟩
abbrev cX8_roomOfAll : ByteArray := prog_1_method_45_code
def yX8_roomOfAll : MethodName := ⟨RX8, "roomOfAll", "()I"⟩
abbrev cX8_changesInAll : ByteArray := prog_1_method_46_code
def yX8_changesInAll : MethodName := ⟨RX8, "changesInAll", "()I"⟩
abbrev cX8_roomDivided : ByteArray := prog_1_method_47_code
def yX8_roomDivided : MethodName := ⟨RX8, "roomDivided", "(I)I"⟩
abbrev cX8_roomOfGroup : ByteArray := prog_1_method_48_code
def yX8_roomOfGroup : MethodName := ⟨RX8, "roomOfGroup", "(II)I"⟩
abbrev cX8_agreeing : ByteArray := prog_1_method_49_code
def yX8_agreeing : MethodName := ⟨RX8, "agreeing", "()I"⟩
def RX9 : String := "SignalWavesModel"
def TX9 : u_T := fun k => match k with
  | 0 => ("SignalWavesModel", "node", "[I", true)
  | 1 => ("SignalWavesModel", "nodes", "I", false)
  | 2 => ("SignalWavesModel", "wires", "I", false)
  | 3 => ("SignalWavesModel", "deriveds", "I", false)
  | 4 => ("SignalWavesModel", "within", "[I", true)
  | 5 => ("SignalWavesModel", "scopeName", "[I", true)
  | 6 => ("SignalWavesModel", "scopes", "I", false)
  | 7 => ("SignalWavesModel", "code", "[I", true)
  | 8 => ("SignalWavesModel", "codeMany", "[I", true)
  | 9 => ("SignalWavesModel", "s", "[I", true)
  | 10 => ("SignalWavesModel", "past", "[I", true)
  | 11 => ("SignalWavesModel", "undos", "I", false)
  | 12 => ("SignalWavesModel", "kept", "[I", true)
  | 13 => ("SignalWavesModel", "isKept", "[Z", true)
  | 14 => ("SignalWavesModel", "text", "[I", true)
  | 15 => ("SignalWavesModel", "typed", "I", false)
  | 16 => ("SignalWavesModel", "at", "I", false)
  | 17 => ("SignalWavesModel", "start", "I", false)
  | 18 => ("SignalWavesModel", "sort", "I", false)
  | 19 => ("SignalWavesModel", "value", "I", false)
  | 20 => ("SignalWavesModel", "fault", "I", false)
  | 21 => ("SignalWavesModel", "newNode", "[I", true)
  | 22 => ("SignalWavesModel", "newNodes", "I", false)
  | 23 => ("SignalWavesModel", "newWires", "I", false)
  | 24 => ("SignalWavesModel", "newDeriveds", "I", false)
  | 25 => ("SignalWavesModel", "newWithin", "[I", true)
  | 26 => ("SignalWavesModel", "newScopeName", "[I", true)
  | 27 => ("SignalWavesModel", "newScopes", "I", false)
  | 28 => ("SignalWavesModel", "newCode", "[I", true)
  | 29 => ("SignalWavesModel", "newMany", "[I", true)
  | 30 => ("SignalWavesModel", "open", "I", false)
  | 31 => ("SignalWavesModel", "deep", "I", false)
  | 32 => ("SignalWavesModel", "waits", "[I", true)
  | 33 => ("SignalWavesModel", "waiting", "I", false)
  | 34 => ("SignalWavesModel", "terms", "I", false)
  | 35 => ("SignalWavesModel", "marks", "I", false)
  | 36 => ("SignalWavesModel", "now", "[I", true)
  | 37 => ("SignalWavesModel", "stack", "[I", true)
  | 38 => ("SignalWavesModel", "wire", "[I", true)
  | 39 => ("SignalWavesModel", "isTurn", "[Z", true)
  | 40 => ("SignalWavesModel", "line", "[I", true)
  | 41 => ("SignalWavesModel", "ahead", "[I", true)
  | 42 => ("SignalWavesModel", "isFirst", "[Z", true)
  | 43 => ("SignalWavesModel", "rowTime", "[I", true)
  | 44 => ("SignalWavesModel", "rowValue", "[I", true)
  | 45 => ("SignalWavesModel", "rows", "I", false)
  | 46 => ("SignalWavesModel", "word", "[I", true)
  | 47 => ("SignalWavesModel", "words", "I", false)
  | 48 => ("SignalWavesModel", "sight", "[I", true)
  | _ => ("SignalWavesModel", "sights", "I", false)
def tyX9 : Nat → FieldType := fun k => match k with
  | 0 => .array .int
  | 1 => .int
  | 2 => .int
  | 3 => .int
  | 4 => .array .int
  | 5 => .array .int
  | 6 => .int
  | 7 => .array .int
  | 8 => .array .int
  | 9 => .array .int
  | 10 => .array .int
  | 11 => .int
  | 12 => .array .int
  | 13 => .array .boolean
  | 14 => .array .int
  | 15 => .int
  | 16 => .int
  | 17 => .int
  | 18 => .int
  | 19 => .int
  | 20 => .int
  | 21 => .array .int
  | 22 => .int
  | 23 => .int
  | 24 => .int
  | 25 => .array .int
  | 26 => .array .int
  | 27 => .int
  | 28 => .array .int
  | 29 => .array .int
  | 30 => .int
  | 31 => .int
  | 32 => .array .int
  | 33 => .int
  | 34 => .int
  | 35 => .int
  | 36 => .array .int
  | 37 => .array .int
  | 38 => .array .int
  | 39 => .array .boolean
  | 40 => .array .int
  | 41 => .array .int
  | 42 => .array .boolean
  | 43 => .array .int
  | 44 => .array .int
  | 45 => .int
  | 46 => .array .int
  | 47 => .int
  | 48 => .array .int
  | _ => .int
theorem nmX9 : ∀ a, a < 50 → ∀ b, b < 50 → a ≠ b → (TX9 a).2.1 ≠ (TX9 b).2.1 := by decide +kernel
theorem tyX9_ok : ∀ k, k < 50 → parseFieldDescriptor (TX9 k).2.2.1 = some (tyX9 k) := by decide +kernel
abbrev cX9_init : ByteArray := prog_11_method_1_code
def yX9_init : MethodName := ⟨RX9, "<init>", "()V"⟩
abbrev cX9_in : ByteArray := prog_11_method_2_code
def yX9_in : MethodName := ⟨RX9, "in", "(III)Z"⟩
abbrev cX9_type : ByteArray := prog_11_method_3_code
def yX9_type : MethodName := ⟨RX9, "type", "(I)I"⟩
abbrev cX9_clear : ByteArray := prog_11_method_4_code
def yX9_clear : MethodName := ⟨RX9, "clear", "()I"⟩
abbrev cX9_isFigure : ByteArray := prog_11_method_5_code
def yX9_isFigure : MethodName := ⟨RX9, "isFigure", "(I)Z"⟩
abbrev cX9_isSign : ByteArray := prog_11_method_6_code
def yX9_isSign : MethodName := ⟨RX9, "isSign", "(I)Z"⟩
abbrev cX9_next : ByteArray := prog_11_method_7_code
def yX9_next : MethodName := ⟨RX9, "next", "()V"⟩
abbrev cX9_is : ByteArray := prog_11_method_8_code
def yX9_is : MethodName := ⟨RX9, "is", "(I)Z"⟩
abbrev cX9_due : ByteArray := prog_11_method_9_code
def yX9_due : MethodName := ⟨RX9, "due", "(Z)V"⟩
abbrev cX9_passes : ByteArray := prog_11_method_10_code
def yX9_passes : MethodName := ⟨RX9, "passes", "(Z)V"⟩
abbrev cX9_newNodeBy : ByteArray := prog_11_method_11_code
def yX9_newNodeBy : MethodName := ⟨RX9, "newNodeBy", "(II)I"⟩
abbrev cX9_newScopeBy : ByteArray := prog_11_method_12_code
def yX9_newScopeBy : MethodName := ⟨RX9, "newScopeBy", "(II)I"⟩
abbrev cX9_opens : ByteArray := prog_11_method_13_code
def yX9_opens : MethodName := ⟨RX9, "opens", "()V"⟩
abbrev cX9_closes : ByteArray := prog_11_method_14_code
def yX9_closes : MethodName := ⟨RX9, "closes", "()V"⟩
abbrev cX9_readsPath : ByteArray := prog_11_method_15_code
def yX9_readsPath : MethodName := ⟨RX9, "readsPath", "()I"⟩
abbrev cX9_emits : ByteArray := prog_11_method_16_code
def yX9_emits : MethodName := ⟨RX9, "emits", "(II)V"⟩
abbrev cX9_waitsFor : ByteArray := prog_11_method_17_code
def yX9_waitsFor : MethodName := ⟨RX9, "waitsFor", "(I)V"⟩
abbrev cX9_wholeTerm : ByteArray := prog_11_method_18_code
def yX9_wholeTerm : MethodName := ⟨RX9, "wholeTerm", "()V"⟩
abbrev cX9_beginsTerm : ByteArray := prog_11_method_19_code
def yX9_beginsTerm : MethodName := ⟨RX9, "beginsTerm", "()V"⟩
abbrev cX9_isBetween : ByteArray := prog_11_method_20_code
def yX9_isBetween : MethodName := ⟨RX9, "isBetween", "()Z"⟩
abbrev cX9_readsExpression : ByteArray := prog_11_method_21_code
def yX9_readsExpression : MethodName := ⟨RX9, "readsExpression", "()V"⟩
abbrev cX9_readsNode : ByteArray := prog_11_method_22_code
def yX9_readsNode : MethodName := ⟨RX9, "readsNode", "()V"⟩
abbrev cX9_readsItem : ByteArray := prog_11_method_23_code
def yX9_readsItem : MethodName := ⟨RX9, "readsItem", "()V"⟩
abbrev cX9_tells : ByteArray := prog_11_method_24_code
def yX9_tells : MethodName := ⟨RX9, "tells", "()I"⟩
abbrev cX9_takesOver : ByteArray := prog_11_method_25_code
def yX9_takesOver : MethodName := ⟨RX9, "takesOver", "()V"⟩
abbrev cX9_begins : ByteArray := prog_11_method_26_code
def yX9_begins : MethodName := ⟨RX9, "begins", "()V"⟩
abbrev cX9_nodeBy : ByteArray := prog_11_method_27_code
def yX9_nodeBy : MethodName := ⟨RX9, "nodeBy", "(II)I"⟩
abbrev cX9_scopeBy : ByteArray := prog_11_method_28_code
def yX9_scopeBy : MethodName := ⟨RX9, "scopeBy", "(II)I"⟩
abbrev cX9_node : ByteArray := prog_11_method_29_code
def yX9_node : MethodName := ⟨RX9, "node", "()I"⟩
abbrev cX9_isNode : ByteArray := prog_11_method_30_code
def yX9_isNode : MethodName := ⟨RX9, "isNode", "(I)Z"⟩
abbrev cX9_of : ByteArray := prog_11_method_31_code
def yX9_of : MethodName := ⟨RX9, "of", "(II)I"⟩
abbrev cX9_worked : ByteArray := prog_11_method_32_code
def yX9_worked : MethodName := ⟨RX9, "worked", "(III)I"⟩
abbrev cX9_expressed : ByteArray := prog_11_method_33_code
def yX9_expressed : MethodName := ⟨RX9, "expressed", "(I)I"⟩
abbrev cX9_laysNodes : ByteArray := prog_11_method_34_code
def yX9_laysNodes : MethodName := ⟨RX9, "laysNodes", "()V"⟩
abbrev cX9_about : ByteArray := prog_11_method_35_code
def yX9_about : MethodName := ⟨RX9, "about", "(II)I"⟩
abbrev cX9_scope : ByteArray := prog_11_method_36_code
def yX9_scope : MethodName := ⟨RX9, "scope", "(II)I"⟩
abbrev cX9_listed : ByteArray := prog_11_method_37_code
def yX9_listed : MethodName := ⟨RX9, "listed", "(II)I"⟩
abbrev cX9_path : ByteArray := prog_11_method_38_code
def yX9_path : MethodName := ⟨RX9, "path", "(II)I"⟩
abbrev cX9_block0 : ByteArray := prog_11_method_39_code
def yX9_block0 : MethodName := ⟨RX9, "block0", "(I)I"⟩
abbrev cX9_blockBegins : ByteArray := prog_11_method_40_code
def yX9_blockBegins : MethodName := ⟨RX9, "blockBegins", "()V"⟩
abbrev cX9_notes : ByteArray := prog_11_method_41_code
def yX9_notes : MethodName := ⟨RX9, "notes", "()V"⟩
abbrev cX9_isWire : ByteArray := prog_11_method_42_code
def yX9_isWire : MethodName := ⟨RX9, "isWire", "(I)Z"⟩
abbrev cX9_sets : ByteArray := prog_11_method_43_code
def yX9_sets : MethodName := ⟨RX9, "sets", "(II)I"⟩
abbrev cX9_passes_ : ByteArray := prog_11_method_44_code
def yX9_passes_ : MethodName := ⟨RX9, "passes", "(I)I"⟩
abbrev cX9_dumps : ByteArray := prog_11_method_45_code
def yX9_dumps : MethodName := ⟨RX9, "dumps", "(I)I"⟩
abbrev cX9_sizes : ByteArray := prog_11_method_46_code
def yX9_sizes : MethodName := ⟨RX9, "sizes", "(I)I"⟩
abbrev cX9_undo : ByteArray := prog_11_method_47_code
def yX9_undo : MethodName := ⟨RX9, "undo", "()I"⟩
abbrev cX9_isTime : ByteArray := prog_11_method_48_code
def yX9_isTime : MethodName := ⟨RX9, "isTime", "(I)Z"⟩
abbrev cX9_blockAt : ByteArray := prog_11_method_49_code
def yX9_blockAt : MethodName := ⟨RX9, "blockAt", "(I)I"⟩
abbrev cX9_laysAt : ByteArray := prog_11_method_50_code
def yX9_laysAt : MethodName := ⟨RX9, "laysAt", "(I)V"⟩
abbrev cX9_at : ByteArray := prog_11_method_51_code
def yX9_at : MethodName := ⟨RX9, "at", "(II)I"⟩
abbrev cX9_laysTurns : ByteArray := prog_11_method_52_code
def yX9_laysTurns : MethodName := ⟨RX9, "laysTurns", "()V"⟩
abbrev cX9_laysLine : ByteArray := prog_11_method_53_code
def yX9_laysLine : MethodName := ⟨RX9, "laysLine", "(I)V"⟩
abbrev cX9_isEdge : ByteArray := prog_11_method_54_code
def yX9_isEdge : MethodName := ⟨RX9, "isEdge", "(II)Z"⟩
abbrev cX9_isKind : ByteArray := prog_11_method_55_code
def yX9_isKind : MethodName := ⟨RX9, "isKind", "(I)Z"⟩
abbrev cX9_edges : ByteArray := prog_11_method_56_code
def yX9_edges : MethodName := ⟨RX9, "edges", "(IIII)I"⟩
abbrev cX9_next_ : ByteArray := prog_11_method_57_code
def yX9_next_ : MethodName := ⟨RX9, "next", "(III)I"⟩
abbrev cX9_previous : ByteArray := prog_11_method_58_code
def yX9_previous : MethodName := ⟨RX9, "previous", "(III)I"⟩
abbrev cX9_first : ByteArray := prog_11_method_59_code
def yX9_first : MethodName := ⟨RX9, "first", "(III)I"⟩
abbrev cX9_holds : ByteArray := prog_11_method_60_code
def yX9_holds : MethodName := ⟨RX9, "holds", "(III)I"⟩
abbrev cX9_isTick : ByteArray := prog_11_method_61_code
def yX9_isTick : MethodName := ⟨RX9, "isTick", "(I)Z"⟩
abbrev cX9_ticks : ByteArray := prog_11_method_62_code
def yX9_ticks : MethodName := ⟨RX9, "ticks", "(II)I"⟩
abbrev cX9_delay : ByteArray := prog_11_method_63_code
def yX9_delay : MethodName := ⟨RX9, "delay", "(II)I"⟩
abbrev cX9_jump : ByteArray := prog_11_method_64_code
def yX9_jump : MethodName := ⟨RX9, "jump", "(I)I"⟩
abbrev cX9_isBlock : ByteArray := prog_11_method_65_code
def yX9_isBlock : MethodName := ⟨RX9, "isBlock", "(I)Z"⟩
abbrev cX9_addsRow : ByteArray := prog_11_method_66_code
def yX9_addsRow : MethodName := ⟨RX9, "addsRow", "(I)V"⟩
abbrev cX9_placeOf : ByteArray := prog_11_method_67_code
def yX9_placeOf : MethodName := ⟨RX9, "placeOf", "(I)I"⟩
abbrev cX9_roomOf : ByteArray := prog_11_method_68_code
def yX9_roomOf : MethodName := ⟨RX9, "roomOf", "(III)I"⟩
abbrev cX9_roomOfBlock : ByteArray := prog_11_method_69_code
def yX9_roomOfBlock : MethodName := ⟨RX9, "roomOfBlock", "(I)I"⟩
abbrev cX9_block : ByteArray := prog_11_method_70_code
def yX9_block : MethodName := ⟨RX9, "block", "(II)I"⟩
abbrev cX9_frame : ByteArray := prog_11_method_71_code
def yX9_frame : MethodName := ⟨RX9, "frame", "(II)I"⟩
abbrev cX9_nodeOfWire : ByteArray := prog_11_method_72_code
def yX9_nodeOfWire : MethodName := ⟨RX9, "nodeOfWire", "(I)I"⟩
abbrev cX9_change : ByteArray := prog_11_method_73_code
def yX9_change : MethodName := ⟨RX9, "change", "(III)I"⟩
abbrev cX9_roomParted : ByteArray := prog_11_method_74_code
def yX9_roomParted : MethodName := ⟨RX9, "roomParted", "(II)I"⟩
abbrev cX9_packedBy : ByteArray := prog_11_method_75_code
def yX9_packedBy : MethodName := ⟨RX9, "packedBy", "(I)I"⟩
abbrev cX9_packed : ByteArray := prog_11_method_76_code
def yX9_packed : MethodName := ⟨RX9, "packed", "(I)I"⟩
abbrev cX9_best : ByteArray := prog_11_method_77_code
def yX9_best : MethodName := ⟨RX9, "best", "()I"⟩
abbrev cX9_sees : ByteArray := prog_11_method_78_code
def yX9_sees : MethodName := ⟨RX9, "sees", "(II)I"⟩
abbrev cX9_forget : ByteArray := prog_11_method_79_code
def yX9_forget : MethodName := ⟨RX9, "forget", "()I"⟩
abbrev cX9_seen : ByteArray := prog_11_method_80_code
def yX9_seen : MethodName := ⟨RX9, "seen", "()I"⟩
abbrev cX9_which : ByteArray := prog_11_method_81_code
def yX9_which : MethodName := ⟨RX9, "which", "()I"⟩
abbrev cX9_mostAlike : ByteArray := prog_11_method_82_code
def yX9_mostAlike : MethodName := ⟨RX9, "mostAlike", "(I)I"⟩
abbrev cX9_look : ByteArray := prog_11_method_83_code
def yX9_look : MethodName := ⟨RX9, "look", "()I"⟩
abbrev cX9_keep : ByteArray := prog_11_method_84_code
def yX9_keep : MethodName := ⟨RX9, "keep", "(I)I"⟩
abbrev cX9_back : ByteArray := prog_11_method_85_code
def yX9_back : MethodName := ⟨RX9, "back", "(I)I"⟩
abbrev cX9_changes : ByteArray := prog_11_method_86_code
def yX9_changes : MethodName := ⟨RX9, "changes", "()I"⟩
abbrev cX9_roomOfAll : ByteArray := prog_11_method_87_code
def yX9_roomOfAll : MethodName := ⟨RX9, "roomOfAll", "()I"⟩
abbrev cX9_count : ByteArray := prog_11_method_88_code
def yX9_count : MethodName := ⟨RX9, "count", "(I)I"⟩
def RJ6 : String := "java/lang/Integer"
def TJ6 : u_T := fun k => match k with
  | _ => ("", "", "", false)
def tyJ6 : Nat → FieldType := fun k => match k with
  | _ => .int
theorem nmJ6 : ∀ a, a < 0 → ∀ b, b < 0 → a ≠ b → (TJ6 a).2.1 ≠ (TJ6 b).2.1 := by decide +kernel
theorem tyJ6_ok : ∀ k, k < 0 → parseFieldDescriptor (TJ6 k).2.2.1 = some (tyJ6 k) := by decide +kernel
abbrev cJ6_bitCount_0f7a4 : ByteArray := prog_12_method_49_code
def yJ6_bitCount_0f7a4 : MethodName := ⟨RJ6, "bitCount", "(I)I"⟩
def RJ9 : String := "java/lang/Math"
def TJ9 : u_T := fun k => match k with
  | _ => ("", "", "", false)
def tyJ9 : Nat → FieldType := fun k => match k with
  | _ => .int
theorem nmJ9 : ∀ a, a < 0 → ∀ b, b < 0 → a ≠ b → (TJ9 a).2.1 ≠ (TJ9 b).2.1 := by decide +kernel
theorem tyJ9_ok : ∀ k, k < 0 → parseFieldDescriptor (TJ9 k).2.2.1 = some (tyJ9 k) := by decide +kernel
abbrev cJ9_max_7cf53 : ByteArray := prog_13_method_65_code
def yJ9_max_7cf53 : MethodName := ⟨RJ9, "max", "(II)I"⟩
def RJ10 : String := "java/lang/System"
def TJ10 : u_T := fun k => match k with
  | _ => ("", "", "", false)
def tyJ10 : Nat → FieldType := fun k => match k with
  | _ => .int
theorem nmJ10 : ∀ a, a < 0 → ∀ b, b < 0 → a ≠ b → (TJ10 a).2.1 ≠ (TJ10 b).2.1 := by decide +kernel
theorem tyJ10_ok : ∀ k, k < 0 → parseFieldDescriptor (TJ10 k).2.2.1 = some (tyJ10 k) := by decide +kernel
def RJ7 : String := "java/util/Arrays"
def TJ7 : u_T := fun k => match k with
  | _ => ("", "", "", false)
def tyJ7 : Nat → FieldType := fun k => match k with
  | _ => .int
theorem nmJ7 : ∀ a, a < 0 → ∀ b, b < 0 → a ≠ b → (TJ7 a).2.1 ≠ (TJ7 b).2.1 := by decide +kernel
theorem tyJ7_ok : ∀ k, k < 0 → parseFieldDescriptor (TJ7 k).2.2.1 = some (tyJ7 k) := by decide +kernel
abbrev cJ7_fill_53178 : ByteArray := prog_15_method_103_code
def yJ7_fill_53178 : MethodName := ⟨RJ7, "fill", "([II)V"⟩
def RL : String := "SignalWavesLaw"
abbrev cL_law : ByteArray := code
def yL_law : MethodName := ⟨RL, "law", "([I)Z"⟩
