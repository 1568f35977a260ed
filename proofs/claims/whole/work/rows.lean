section
-- ===== PART A: goes FIRST, ahead of the names: the tables' words, and 'selects' of the private methods out of them =====
/-- a private method of a class that the tables say can be made, by its rows of tables_1 -/
def lw_okq (q : MethodName × Nat) : Prop := (q.1.cls ≠ "java/lang/invoke/MethodHandle" ∧ q.1.cls ≠ "java/lang/invoke/VarHandle") ∧ Cond.instantiable q.1.cls q.2 ∈ tables_1 ∧ Cond.privateMethod q.1 ∈ tables_1 ∧ Cond.instanceMethod q.1 ∈ tables_1
theorem lw_p0 : lw_okq (⟨"SignalWaves$Recording", "beginBlock", "()V"⟩, 7) := ⟨⟨by decide +kernel, by decide +kernel⟩, List.mem_of_getElem? (i := 135) (by decide +kernel), List.mem_of_getElem? (i := 209) (by decide +kernel), List.mem_of_getElem? (i := 210) (by decide +kernel)⟩
theorem lw_p1 : lw_okq (⟨"SignalWaves$Recording", "loseOldest", "()V"⟩, 7) := ⟨⟨by decide +kernel, by decide +kernel⟩, List.mem_of_getElem? (i := 135) (by decide +kernel), List.mem_of_getElem? (i := 213) (by decide +kernel), List.mem_of_getElem? (i := 214) (by decide +kernel)⟩
theorem lw_p2 : lw_okq (⟨"SignalWaves$Reader", "readItem", "()Z"⟩, 5) := ⟨⟨by decide +kernel, by decide +kernel⟩, List.mem_of_getElem? (i := 113) (by decide +kernel), List.mem_of_getElem? (i := 378) (by decide +kernel), List.mem_of_getElem? (i := 379) (by decide +kernel)⟩
theorem lw_p3 : lw_okq (⟨"SignalWaves$Reader", "readOpening", "()Z"⟩, 5) := ⟨⟨by decide +kernel, by decide +kernel⟩, List.mem_of_getElem? (i := 113) (by decide +kernel), List.mem_of_getElem? (i := 382) (by decide +kernel), List.mem_of_getElem? (i := 383) (by decide +kernel)⟩
theorem lw_p4 : lw_okq (⟨"SignalWaves$Reader", "readClosing", "()Z"⟩, 5) := ⟨⟨by decide +kernel, by decide +kernel⟩, List.mem_of_getElem? (i := 113) (by decide +kernel), List.mem_of_getElem? (i := 403) (by decide +kernel), List.mem_of_getElem? (i := 404) (by decide +kernel)⟩
theorem lw_p5 : lw_okq (⟨"SignalWaves$Reader", "readSignal", "()Z"⟩, 5) := ⟨⟨by decide +kernel, by decide +kernel⟩, List.mem_of_getElem? (i := 113) (by decide +kernel), List.mem_of_getElem? (i := 407) (by decide +kernel), List.mem_of_getElem? (i := 408) (by decide +kernel)⟩
theorem lw_p6 : lw_okq (⟨"SignalWaves$Reader", "readWidth", "()I"⟩, 5) := ⟨⟨by decide +kernel, by decide +kernel⟩, List.mem_of_getElem? (i := 113) (by decide +kernel), List.mem_of_getElem? (i := 411) (by decide +kernel), List.mem_of_getElem? (i := 412) (by decide +kernel)⟩
theorem lw_p7 : lw_okq (⟨"SignalWaves$Reader", "readPath", "()I"⟩, 5) := ⟨⟨by decide +kernel, by decide +kernel⟩, List.mem_of_getElem? (i := 113) (by decide +kernel), List.mem_of_getElem? (i := 419) (by decide +kernel), List.mem_of_getElem? (i := 420) (by decide +kernel)⟩
theorem lw_p8 : lw_okq (⟨"SignalWaves$Reader", "readExpression", "()Z"⟩, 5) := ⟨⟨by decide +kernel, by decide +kernel⟩, List.mem_of_getElem? (i := 113) (by decide +kernel), List.mem_of_getElem? (i := 427) (by decide +kernel), List.mem_of_getElem? (i := 428) (by decide +kernel)⟩
theorem lw_p9 : lw_okq (⟨"SignalWaves$Reader", "readTerm", "()Z"⟩, 5) := ⟨⟨by decide +kernel, by decide +kernel⟩, List.mem_of_getElem? (i := 113) (by decide +kernel), List.mem_of_getElem? (i := 431) (by decide +kernel), List.mem_of_getElem? (i := 432) (by decide +kernel)⟩
theorem lw_p10 : lw_okq (⟨"SignalWaves$Reader", "readSign", "(I)Z"⟩, 5) := ⟨⟨by decide +kernel, by decide +kernel⟩, List.mem_of_getElem? (i := 113) (by decide +kernel), List.mem_of_getElem? (i := 435) (by decide +kernel), List.mem_of_getElem? (i := 436) (by decide +kernel)⟩
theorem lw_p11 : lw_okq (⟨"SignalWaves", "isSignal", "(I)Z"⟩, 14) := ⟨⟨by decide +kernel, by decide +kernel⟩, List.mem_of_getElem? (i := 16) (by decide +kernel), List.mem_of_getElem? (i := 463) (by decide +kernel), List.mem_of_getElem? (i := 464) (by decide +kernel)⟩
theorem lw_p12 : lw_okq (⟨"SignalWaves$Design", "computed", "(I[I)I"⟩, 13) := ⟨⟨by decide +kernel, by decide +kernel⟩, List.mem_of_getElem? (i := 51) (by decide +kernel), List.mem_of_getElem? (i := 475) (by decide +kernel), List.mem_of_getElem? (i := 476) (by decide +kernel)⟩
theorem lw_p13 : lw_okq (⟨"SignalWaves", "isWire", "(I)Z"⟩, 14) := ⟨⟨by decide +kernel, by decide +kernel⟩, List.mem_of_getElem? (i := 16) (by decide +kernel), List.mem_of_getElem? (i := 506) (by decide +kernel), List.mem_of_getElem? (i := 507) (by decide +kernel)⟩
theorem lw_p14 : lw_okq (⟨"SignalWaves", "isPast", "(I)Z"⟩, 14) := ⟨⟨by decide +kernel, by decide +kernel⟩, List.mem_of_getElem? (i := 16) (by decide +kernel), List.mem_of_getElem? (i := 569) (by decide +kernel), List.mem_of_getElem? (i := 570) (by decide +kernel)⟩
theorem lw_p15 : lw_okq (⟨"SignalWaves", "fillRow", "(I)V"⟩, 14) := ⟨⟨by decide +kernel, by decide +kernel⟩, List.mem_of_getElem? (i := 16) (by decide +kernel), List.mem_of_getElem? (i := 573) (by decide +kernel), List.mem_of_getElem? (i := 574) (by decide +kernel)⟩
def lw_privs_1 : List (MethodName × Nat) := [(⟨"SignalWaves$Recording", "beginBlock", "()V"⟩, 7), (⟨"SignalWaves$Recording", "loseOldest", "()V"⟩, 7), (⟨"SignalWaves$Reader", "readItem", "()Z"⟩, 5), (⟨"SignalWaves$Reader", "readOpening", "()Z"⟩, 5), (⟨"SignalWaves$Reader", "readClosing", "()Z"⟩, 5), (⟨"SignalWaves$Reader", "readSignal", "()Z"⟩, 5), (⟨"SignalWaves$Reader", "readWidth", "()I"⟩, 5), (⟨"SignalWaves$Reader", "readPath", "()I"⟩, 5), (⟨"SignalWaves$Reader", "readExpression", "()Z"⟩, 5), (⟨"SignalWaves$Reader", "readTerm", "()Z"⟩, 5), (⟨"SignalWaves$Reader", "readSign", "(I)Z"⟩, 5), (⟨"SignalWaves", "isSignal", "(I)Z"⟩, 14), (⟨"SignalWaves$Design", "computed", "(I[I)I"⟩, 13), (⟨"SignalWaves", "isWire", "(I)Z"⟩, 14), (⟨"SignalWaves", "isPast", "(I)Z"⟩, 14), (⟨"SignalWaves", "fillRow", "(I)V"⟩, 14)]
theorem lw_r1 : ∀ q ∈ lw_privs_1, lw_okq q := List.forall_mem_cons.mpr ⟨lw_p0, List.forall_mem_cons.mpr ⟨lw_p1, List.forall_mem_cons.mpr ⟨lw_p2, List.forall_mem_cons.mpr ⟨lw_p3, List.forall_mem_cons.mpr ⟨lw_p4, List.forall_mem_cons.mpr ⟨lw_p5, List.forall_mem_cons.mpr ⟨lw_p6, List.forall_mem_cons.mpr ⟨lw_p7, List.forall_mem_cons.mpr ⟨lw_p8, List.forall_mem_cons.mpr ⟨lw_p9, List.forall_mem_cons.mpr ⟨lw_p10, List.forall_mem_cons.mpr ⟨lw_p11, List.forall_mem_cons.mpr ⟨lw_p12, List.forall_mem_cons.mpr ⟨lw_p13, List.forall_mem_cons.mpr ⟨lw_p14, List.forall_mem_cons.mpr ⟨lw_p15, fun _ h => absurd h List.not_mem_nil⟩⟩⟩⟩⟩⟩⟩⟩⟩⟩⟩⟩⟩⟩⟩⟩
theorem lw_p16 : lw_okq (⟨"SignalWaves$History", "addMoment", "(I)V"⟩, 4) := ⟨⟨by decide +kernel, by decide +kernel⟩, List.mem_of_getElem? (i := 273) (by decide +kernel), List.mem_of_getElem? (i := 596) (by decide +kernel), List.mem_of_getElem? (i := 597) (by decide +kernel)⟩
theorem lw_p17 : lw_okq (⟨"SignalWaves$History", "hasEdgeAt", "(II)Z"⟩, 4) := ⟨⟨by decide +kernel, by decide +kernel⟩, List.mem_of_getElem? (i := 273) (by decide +kernel), List.mem_of_getElem? (i := 650) (by decide +kernel), List.mem_of_getElem? (i := 651) (by decide +kernel)⟩
theorem lw_p18 : lw_okq (⟨"SignalWaves", "isBlock", "(I)Z"⟩, 14) := ⟨⟨by decide +kernel, by decide +kernel⟩, List.mem_of_getElem? (i := 16) (by decide +kernel), List.mem_of_getElem? (i := 663) (by decide +kernel), List.mem_of_getElem? (i := 664) (by decide +kernel)⟩
theorem lw_p19 : lw_okq (⟨"SignalWaves$Changes", "isNew", "(II)Z"⟩, 4) := ⟨⟨by decide +kernel, by decide +kernel⟩, List.mem_of_getElem? (i := 148) (by decide +kernel), List.mem_of_getElem? (i := 671) (by decide +kernel), List.mem_of_getElem? (i := 672) (by decide +kernel)⟩
theorem lw_p20 : lw_okq (⟨"SignalWaves", "roomOf", "(LSignalWaves$Block;)I"⟩, 14) := ⟨⟨by decide +kernel, by decide +kernel⟩, List.mem_of_getElem? (i := 16) (by decide +kernel), List.mem_of_getElem? (i := 675) (by decide +kernel), List.mem_of_getElem? (i := 676) (by decide +kernel)⟩
theorem lw_p21 : lw_okq (⟨"SignalWaves", "roomDivided", "(I)I"⟩, 14) := ⟨⟨by decide +kernel, by decide +kernel⟩, List.mem_of_getElem? (i := 16) (by decide +kernel), List.mem_of_getElem? (i := 701) (by decide +kernel), List.mem_of_getElem? (i := 702) (by decide +kernel)⟩
theorem lw_p22 : lw_okq (⟨"SignalWaves", "roomOfGroup", "(II)I"⟩, 14) := ⟨⟨by decide +kernel, by decide +kernel⟩, List.mem_of_getElem? (i := 16) (by decide +kernel), List.mem_of_getElem? (i := 706) (by decide +kernel), List.mem_of_getElem? (i := 707) (by decide +kernel)⟩
theorem lw_p23 : lw_okq (⟨"SignalWaves", "agreeing", "()I"⟩, 14) := ⟨⟨by decide +kernel, by decide +kernel⟩, List.mem_of_getElem? (i := 16) (by decide +kernel), List.mem_of_getElem? (i := 729) (by decide +kernel), List.mem_of_getElem? (i := 730) (by decide +kernel)⟩
theorem lw_p24 : lw_okq (⟨"SignalWaves", "changesInAll", "()I"⟩, 14) := ⟨⟨by decide +kernel, by decide +kernel⟩, List.mem_of_getElem? (i := 16) (by decide +kernel), List.mem_of_getElem? (i := 761) (by decide +kernel), List.mem_of_getElem? (i := 762) (by decide +kernel)⟩
theorem lw_p25 : lw_okq (⟨"SignalWaves", "roomOfAll", "()I"⟩, 14) := ⟨⟨by decide +kernel, by decide +kernel⟩, List.mem_of_getElem? (i := 16) (by decide +kernel), List.mem_of_getElem? (i := 765) (by decide +kernel), List.mem_of_getElem? (i := 766) (by decide +kernel)⟩
theorem lw_p26 : lw_okq (⟨"SignalWavesModel", "begins", "()V"⟩, 50) := ⟨⟨by decide +kernel, by decide +kernel⟩, List.mem_of_getElem? (i := 769) (by decide +kernel), List.mem_of_getElem? (i := 775) (by decide +kernel), List.mem_of_getElem? (i := 776) (by decide +kernel)⟩
theorem lw_p27 : lw_okq (⟨"SignalWavesModel", "blockBegins", "()V"⟩, 50) := ⟨⟨by decide +kernel, by decide +kernel⟩, List.mem_of_getElem? (i := 769) (by decide +kernel), List.mem_of_getElem? (i := 779) (by decide +kernel), List.mem_of_getElem? (i := 780) (by decide +kernel)⟩
theorem lw_p28 : lw_okq (⟨"SignalWavesModel", "next", "()V"⟩, 50) := ⟨⟨by decide +kernel, by decide +kernel⟩, List.mem_of_getElem? (i := 769) (by decide +kernel), List.mem_of_getElem? (i := 952) (by decide +kernel), List.mem_of_getElem? (i := 953) (by decide +kernel)⟩
theorem lw_p29 : lw_okq (⟨"SignalWavesModel", "isFigure", "(I)Z"⟩, 50) := ⟨⟨by decide +kernel, by decide +kernel⟩, List.mem_of_getElem? (i := 769) (by decide +kernel), List.mem_of_getElem? (i := 956) (by decide +kernel), List.mem_of_getElem? (i := 957) (by decide +kernel)⟩
theorem lw_p30 : lw_okq (⟨"SignalWavesModel", "readsItem", "()V"⟩, 50) := ⟨⟨by decide +kernel, by decide +kernel⟩, List.mem_of_getElem? (i := 769) (by decide +kernel), List.mem_of_getElem? (i := 963) (by decide +kernel), List.mem_of_getElem? (i := 964) (by decide +kernel)⟩
theorem lw_p31 : lw_okq (⟨"SignalWavesModel", "is", "(I)Z"⟩, 50) := ⟨⟨by decide +kernel, by decide +kernel⟩, List.mem_of_getElem? (i := 769) (by decide +kernel), List.mem_of_getElem? (i := 967) (by decide +kernel), List.mem_of_getElem? (i := 968) (by decide +kernel)⟩
def lw_privs_2 : List (MethodName × Nat) := [(⟨"SignalWaves$History", "addMoment", "(I)V"⟩, 4), (⟨"SignalWaves$History", "hasEdgeAt", "(II)Z"⟩, 4), (⟨"SignalWaves", "isBlock", "(I)Z"⟩, 14), (⟨"SignalWaves$Changes", "isNew", "(II)Z"⟩, 4), (⟨"SignalWaves", "roomOf", "(LSignalWaves$Block;)I"⟩, 14), (⟨"SignalWaves", "roomDivided", "(I)I"⟩, 14), (⟨"SignalWaves", "roomOfGroup", "(II)I"⟩, 14), (⟨"SignalWaves", "agreeing", "()I"⟩, 14), (⟨"SignalWaves", "changesInAll", "()I"⟩, 14), (⟨"SignalWaves", "roomOfAll", "()I"⟩, 14), (⟨"SignalWavesModel", "begins", "()V"⟩, 50), (⟨"SignalWavesModel", "blockBegins", "()V"⟩, 50), (⟨"SignalWavesModel", "next", "()V"⟩, 50), (⟨"SignalWavesModel", "isFigure", "(I)Z"⟩, 50), (⟨"SignalWavesModel", "readsItem", "()V"⟩, 50), (⟨"SignalWavesModel", "is", "(I)Z"⟩, 50)]
theorem lw_r2 : ∀ q ∈ lw_privs_2, lw_okq q := List.forall_mem_cons.mpr ⟨lw_p16, List.forall_mem_cons.mpr ⟨lw_p17, List.forall_mem_cons.mpr ⟨lw_p18, List.forall_mem_cons.mpr ⟨lw_p19, List.forall_mem_cons.mpr ⟨lw_p20, List.forall_mem_cons.mpr ⟨lw_p21, List.forall_mem_cons.mpr ⟨lw_p22, List.forall_mem_cons.mpr ⟨lw_p23, List.forall_mem_cons.mpr ⟨lw_p24, List.forall_mem_cons.mpr ⟨lw_p25, List.forall_mem_cons.mpr ⟨lw_p26, List.forall_mem_cons.mpr ⟨lw_p27, List.forall_mem_cons.mpr ⟨lw_p28, List.forall_mem_cons.mpr ⟨lw_p29, List.forall_mem_cons.mpr ⟨lw_p30, List.forall_mem_cons.mpr ⟨lw_p31, fun _ h => absurd h List.not_mem_nil⟩⟩⟩⟩⟩⟩⟩⟩⟩⟩⟩⟩⟩⟩⟩⟩
theorem lw_p32 : lw_okq (⟨"SignalWavesModel", "opens", "()V"⟩, 50) := ⟨⟨by decide +kernel, by decide +kernel⟩, List.mem_of_getElem? (i := 769) (by decide +kernel), List.mem_of_getElem? (i := 971) (by decide +kernel), List.mem_of_getElem? (i := 972) (by decide +kernel)⟩
theorem lw_p33 : lw_okq (⟨"SignalWavesModel", "due", "(Z)V"⟩, 50) := ⟨⟨by decide +kernel, by decide +kernel⟩, List.mem_of_getElem? (i := 769) (by decide +kernel), List.mem_of_getElem? (i := 975) (by decide +kernel), List.mem_of_getElem? (i := 976) (by decide +kernel)⟩
theorem lw_p34 : lw_okq (⟨"SignalWavesModel", "passes", "(Z)V"⟩, 50) := ⟨⟨by decide +kernel, by decide +kernel⟩, List.mem_of_getElem? (i := 769) (by decide +kernel), List.mem_of_getElem? (i := 979) (by decide +kernel), List.mem_of_getElem? (i := 980) (by decide +kernel)⟩
theorem lw_p35 : lw_okq (⟨"SignalWavesModel", "newNodeBy", "(II)I"⟩, 50) := ⟨⟨by decide +kernel, by decide +kernel⟩, List.mem_of_getElem? (i := 769) (by decide +kernel), List.mem_of_getElem? (i := 983) (by decide +kernel), List.mem_of_getElem? (i := 984) (by decide +kernel)⟩
theorem lw_p36 : lw_okq (⟨"SignalWavesModel", "newScopeBy", "(II)I"⟩, 50) := ⟨⟨by decide +kernel, by decide +kernel⟩, List.mem_of_getElem? (i := 769) (by decide +kernel), List.mem_of_getElem? (i := 987) (by decide +kernel), List.mem_of_getElem? (i := 988) (by decide +kernel)⟩
theorem lw_p37 : lw_okq (⟨"SignalWavesModel", "closes", "()V"⟩, 50) := ⟨⟨by decide +kernel, by decide +kernel⟩, List.mem_of_getElem? (i := 769) (by decide +kernel), List.mem_of_getElem? (i := 991) (by decide +kernel), List.mem_of_getElem? (i := 992) (by decide +kernel)⟩
theorem lw_p38 : lw_okq (⟨"SignalWavesModel", "readsNode", "()V"⟩, 50) := ⟨⟨by decide +kernel, by decide +kernel⟩, List.mem_of_getElem? (i := 769) (by decide +kernel), List.mem_of_getElem? (i := 995) (by decide +kernel), List.mem_of_getElem? (i := 996) (by decide +kernel)⟩
theorem lw_p39 : lw_okq (⟨"SignalWavesModel", "readsPath", "()I"⟩, 50) := ⟨⟨by decide +kernel, by decide +kernel⟩, List.mem_of_getElem? (i := 769) (by decide +kernel), List.mem_of_getElem? (i := 999) (by decide +kernel), List.mem_of_getElem? (i := 1000) (by decide +kernel)⟩
theorem lw_p40 : lw_okq (⟨"SignalWavesModel", "readsExpression", "()V"⟩, 50) := ⟨⟨by decide +kernel, by decide +kernel⟩, List.mem_of_getElem? (i := 769) (by decide +kernel), List.mem_of_getElem? (i := 1003) (by decide +kernel), List.mem_of_getElem? (i := 1004) (by decide +kernel)⟩
theorem lw_p41 : lw_okq (⟨"SignalWavesModel", "beginsTerm", "()V"⟩, 50) := ⟨⟨by decide +kernel, by decide +kernel⟩, List.mem_of_getElem? (i := 769) (by decide +kernel), List.mem_of_getElem? (i := 1007) (by decide +kernel), List.mem_of_getElem? (i := 1008) (by decide +kernel)⟩
theorem lw_p42 : lw_okq (⟨"SignalWavesModel", "waitsFor", "(I)V"⟩, 50) := ⟨⟨by decide +kernel, by decide +kernel⟩, List.mem_of_getElem? (i := 769) (by decide +kernel), List.mem_of_getElem? (i := 1011) (by decide +kernel), List.mem_of_getElem? (i := 1012) (by decide +kernel)⟩
theorem lw_p43 : lw_okq (⟨"SignalWavesModel", "emits", "(II)V"⟩, 50) := ⟨⟨by decide +kernel, by decide +kernel⟩, List.mem_of_getElem? (i := 769) (by decide +kernel), List.mem_of_getElem? (i := 1015) (by decide +kernel), List.mem_of_getElem? (i := 1016) (by decide +kernel)⟩
theorem lw_p44 : lw_okq (⟨"SignalWavesModel", "wholeTerm", "()V"⟩, 50) := ⟨⟨by decide +kernel, by decide +kernel⟩, List.mem_of_getElem? (i := 769) (by decide +kernel), List.mem_of_getElem? (i := 1019) (by decide +kernel), List.mem_of_getElem? (i := 1020) (by decide +kernel)⟩
theorem lw_p45 : lw_okq (⟨"SignalWavesModel", "isBetween", "()Z"⟩, 50) := ⟨⟨by decide +kernel, by decide +kernel⟩, List.mem_of_getElem? (i := 769) (by decide +kernel), List.mem_of_getElem? (i := 1023) (by decide +kernel), List.mem_of_getElem? (i := 1024) (by decide +kernel)⟩
theorem lw_p46 : lw_okq (⟨"SignalWavesModel", "takesOver", "()V"⟩, 50) := ⟨⟨by decide +kernel, by decide +kernel⟩, List.mem_of_getElem? (i := 769) (by decide +kernel), List.mem_of_getElem? (i := 1027) (by decide +kernel), List.mem_of_getElem? (i := 1028) (by decide +kernel)⟩
theorem lw_p47 : lw_okq (⟨"SignalWavesModel", "nodeBy", "(II)I"⟩, 50) := ⟨⟨by decide +kernel, by decide +kernel⟩, List.mem_of_getElem? (i := 769) (by decide +kernel), List.mem_of_getElem? (i := 1035) (by decide +kernel), List.mem_of_getElem? (i := 1036) (by decide +kernel)⟩
def lw_privs_3 : List (MethodName × Nat) := [(⟨"SignalWavesModel", "opens", "()V"⟩, 50), (⟨"SignalWavesModel", "due", "(Z)V"⟩, 50), (⟨"SignalWavesModel", "passes", "(Z)V"⟩, 50), (⟨"SignalWavesModel", "newNodeBy", "(II)I"⟩, 50), (⟨"SignalWavesModel", "newScopeBy", "(II)I"⟩, 50), (⟨"SignalWavesModel", "closes", "()V"⟩, 50), (⟨"SignalWavesModel", "readsNode", "()V"⟩, 50), (⟨"SignalWavesModel", "readsPath", "()I"⟩, 50), (⟨"SignalWavesModel", "readsExpression", "()V"⟩, 50), (⟨"SignalWavesModel", "beginsTerm", "()V"⟩, 50), (⟨"SignalWavesModel", "waitsFor", "(I)V"⟩, 50), (⟨"SignalWavesModel", "emits", "(II)V"⟩, 50), (⟨"SignalWavesModel", "wholeTerm", "()V"⟩, 50), (⟨"SignalWavesModel", "isBetween", "()Z"⟩, 50), (⟨"SignalWavesModel", "takesOver", "()V"⟩, 50), (⟨"SignalWavesModel", "nodeBy", "(II)I"⟩, 50)]
theorem lw_r3 : ∀ q ∈ lw_privs_3, lw_okq q := List.forall_mem_cons.mpr ⟨lw_p32, List.forall_mem_cons.mpr ⟨lw_p33, List.forall_mem_cons.mpr ⟨lw_p34, List.forall_mem_cons.mpr ⟨lw_p35, List.forall_mem_cons.mpr ⟨lw_p36, List.forall_mem_cons.mpr ⟨lw_p37, List.forall_mem_cons.mpr ⟨lw_p38, List.forall_mem_cons.mpr ⟨lw_p39, List.forall_mem_cons.mpr ⟨lw_p40, List.forall_mem_cons.mpr ⟨lw_p41, List.forall_mem_cons.mpr ⟨lw_p42, List.forall_mem_cons.mpr ⟨lw_p43, List.forall_mem_cons.mpr ⟨lw_p44, List.forall_mem_cons.mpr ⟨lw_p45, List.forall_mem_cons.mpr ⟨lw_p46, List.forall_mem_cons.mpr ⟨lw_p47, fun _ h => absurd h List.not_mem_nil⟩⟩⟩⟩⟩⟩⟩⟩⟩⟩⟩⟩⟩⟩⟩⟩
theorem lw_p48 : lw_okq (⟨"SignalWavesModel", "of", "(II)I"⟩, 50) := ⟨⟨by decide +kernel, by decide +kernel⟩, List.mem_of_getElem? (i := 769) (by decide +kernel), List.mem_of_getElem? (i := 1039) (by decide +kernel), List.mem_of_getElem? (i := 1040) (by decide +kernel)⟩
theorem lw_p49 : lw_okq (⟨"SignalWavesModel", "scopeBy", "(II)I"⟩, 50) := ⟨⟨by decide +kernel, by decide +kernel⟩, List.mem_of_getElem? (i := 769) (by decide +kernel), List.mem_of_getElem? (i := 1043) (by decide +kernel), List.mem_of_getElem? (i := 1044) (by decide +kernel)⟩
theorem lw_p50 : lw_okq (⟨"SignalWavesModel", "isNode", "(I)Z"⟩, 50) := ⟨⟨by decide +kernel, by decide +kernel⟩, List.mem_of_getElem? (i := 769) (by decide +kernel), List.mem_of_getElem? (i := 1051) (by decide +kernel), List.mem_of_getElem? (i := 1052) (by decide +kernel)⟩
theorem lw_p51 : lw_okq (⟨"SignalWavesModel", "laysNodes", "()V"⟩, 50) := ⟨⟨by decide +kernel, by decide +kernel⟩, List.mem_of_getElem? (i := 769) (by decide +kernel), List.mem_of_getElem? (i := 1055) (by decide +kernel), List.mem_of_getElem? (i := 1056) (by decide +kernel)⟩
theorem lw_p52 : lw_okq (⟨"SignalWavesModel", "expressed", "(I)I"⟩, 50) := ⟨⟨by decide +kernel, by decide +kernel⟩, List.mem_of_getElem? (i := 769) (by decide +kernel), List.mem_of_getElem? (i := 1059) (by decide +kernel), List.mem_of_getElem? (i := 1060) (by decide +kernel)⟩
theorem lw_p53 : lw_okq (⟨"SignalWavesModel", "isWire", "(I)Z"⟩, 50) := ⟨⟨by decide +kernel, by decide +kernel⟩, List.mem_of_getElem? (i := 769) (by decide +kernel), List.mem_of_getElem? (i := 1082) (by decide +kernel), List.mem_of_getElem? (i := 1083) (by decide +kernel)⟩
theorem lw_p54 : lw_okq (⟨"SignalWavesModel", "notes", "()V"⟩, 50) := ⟨⟨by decide +kernel, by decide +kernel⟩, List.mem_of_getElem? (i := 769) (by decide +kernel), List.mem_of_getElem? (i := 1086) (by decide +kernel), List.mem_of_getElem? (i := 1087) (by decide +kernel)⟩
theorem lw_p55 : lw_okq (⟨"SignalWavesModel", "isTime", "(I)Z"⟩, 50) := ⟨⟨by decide +kernel, by decide +kernel⟩, List.mem_of_getElem? (i := 769) (by decide +kernel), List.mem_of_getElem? (i := 1110) (by decide +kernel), List.mem_of_getElem? (i := 1111) (by decide +kernel)⟩
theorem lw_p56 : lw_okq (⟨"SignalWavesModel", "laysAt", "(I)V"⟩, 50) := ⟨⟨by decide +kernel, by decide +kernel⟩, List.mem_of_getElem? (i := 769) (by decide +kernel), List.mem_of_getElem? (i := 1114) (by decide +kernel), List.mem_of_getElem? (i := 1115) (by decide +kernel)⟩
theorem lw_p57 : lw_okq (⟨"SignalWavesModel", "blockAt", "(I)I"⟩, 50) := ⟨⟨by decide +kernel, by decide +kernel⟩, List.mem_of_getElem? (i := 769) (by decide +kernel), List.mem_of_getElem? (i := 1118) (by decide +kernel), List.mem_of_getElem? (i := 1119) (by decide +kernel)⟩
theorem lw_p58 : lw_okq (⟨"SignalWavesModel", "laysLine", "(I)V"⟩, 50) := ⟨⟨by decide +kernel, by decide +kernel⟩, List.mem_of_getElem? (i := 769) (by decide +kernel), List.mem_of_getElem? (i := 1129) (by decide +kernel), List.mem_of_getElem? (i := 1130) (by decide +kernel)⟩
theorem lw_p59 : lw_okq (⟨"SignalWavesModel", "laysTurns", "()V"⟩, 50) := ⟨⟨by decide +kernel, by decide +kernel⟩, List.mem_of_getElem? (i := 769) (by decide +kernel), List.mem_of_getElem? (i := 1133) (by decide +kernel), List.mem_of_getElem? (i := 1134) (by decide +kernel)⟩
theorem lw_p60 : lw_okq (⟨"SignalWavesModel", "isEdge", "(II)Z"⟩, 50) := ⟨⟨by decide +kernel, by decide +kernel⟩, List.mem_of_getElem? (i := 769) (by decide +kernel), List.mem_of_getElem? (i := 1137) (by decide +kernel), List.mem_of_getElem? (i := 1138) (by decide +kernel)⟩
theorem lw_p61 : lw_okq (⟨"SignalWavesModel", "isTick", "(I)Z"⟩, 50) := ⟨⟨by decide +kernel, by decide +kernel⟩, List.mem_of_getElem? (i := 769) (by decide +kernel), List.mem_of_getElem? (i := 1161) (by decide +kernel), List.mem_of_getElem? (i := 1162) (by decide +kernel)⟩
theorem lw_p62 : lw_okq (⟨"SignalWavesModel", "isBlock", "(I)Z"⟩, 50) := ⟨⟨by decide +kernel, by decide +kernel⟩, List.mem_of_getElem? (i := 769) (by decide +kernel), List.mem_of_getElem? (i := 1177) (by decide +kernel), List.mem_of_getElem? (i := 1178) (by decide +kernel)⟩
theorem lw_p63 : lw_okq (⟨"SignalWavesModel", "roomOfBlock", "(I)I"⟩, 50) := ⟨⟨by decide +kernel, by decide +kernel⟩, List.mem_of_getElem? (i := 769) (by decide +kernel), List.mem_of_getElem? (i := 1181) (by decide +kernel), List.mem_of_getElem? (i := 1182) (by decide +kernel)⟩
def lw_privs_4 : List (MethodName × Nat) := [(⟨"SignalWavesModel", "of", "(II)I"⟩, 50), (⟨"SignalWavesModel", "scopeBy", "(II)I"⟩, 50), (⟨"SignalWavesModel", "isNode", "(I)Z"⟩, 50), (⟨"SignalWavesModel", "laysNodes", "()V"⟩, 50), (⟨"SignalWavesModel", "expressed", "(I)I"⟩, 50), (⟨"SignalWavesModel", "isWire", "(I)Z"⟩, 50), (⟨"SignalWavesModel", "notes", "()V"⟩, 50), (⟨"SignalWavesModel", "isTime", "(I)Z"⟩, 50), (⟨"SignalWavesModel", "laysAt", "(I)V"⟩, 50), (⟨"SignalWavesModel", "blockAt", "(I)I"⟩, 50), (⟨"SignalWavesModel", "laysLine", "(I)V"⟩, 50), (⟨"SignalWavesModel", "laysTurns", "()V"⟩, 50), (⟨"SignalWavesModel", "isEdge", "(II)Z"⟩, 50), (⟨"SignalWavesModel", "isTick", "(I)Z"⟩, 50), (⟨"SignalWavesModel", "isBlock", "(I)Z"⟩, 50), (⟨"SignalWavesModel", "roomOfBlock", "(I)I"⟩, 50)]
theorem lw_r4 : ∀ q ∈ lw_privs_4, lw_okq q := List.forall_mem_cons.mpr ⟨lw_p48, List.forall_mem_cons.mpr ⟨lw_p49, List.forall_mem_cons.mpr ⟨lw_p50, List.forall_mem_cons.mpr ⟨lw_p51, List.forall_mem_cons.mpr ⟨lw_p52, List.forall_mem_cons.mpr ⟨lw_p53, List.forall_mem_cons.mpr ⟨lw_p54, List.forall_mem_cons.mpr ⟨lw_p55, List.forall_mem_cons.mpr ⟨lw_p56, List.forall_mem_cons.mpr ⟨lw_p57, List.forall_mem_cons.mpr ⟨lw_p58, List.forall_mem_cons.mpr ⟨lw_p59, List.forall_mem_cons.mpr ⟨lw_p60, List.forall_mem_cons.mpr ⟨lw_p61, List.forall_mem_cons.mpr ⟨lw_p62, List.forall_mem_cons.mpr ⟨lw_p63, fun _ h => absurd h List.not_mem_nil⟩⟩⟩⟩⟩⟩⟩⟩⟩⟩⟩⟩⟩⟩⟩⟩
theorem lw_p64 : lw_okq (⟨"SignalWavesModel", "addsRow", "(I)V"⟩, 50) := ⟨⟨by decide +kernel, by decide +kernel⟩, List.mem_of_getElem? (i := 769) (by decide +kernel), List.mem_of_getElem? (i := 1185) (by decide +kernel), List.mem_of_getElem? (i := 1186) (by decide +kernel)⟩
theorem lw_p65 : lw_okq (⟨"SignalWavesModel", "roomOf", "(III)I"⟩, 50) := ⟨⟨by decide +kernel, by decide +kernel⟩, List.mem_of_getElem? (i := 769) (by decide +kernel), List.mem_of_getElem? (i := 1189) (by decide +kernel), List.mem_of_getElem? (i := 1190) (by decide +kernel)⟩
theorem lw_p66 : lw_okq (⟨"SignalWavesModel", "placeOf", "(I)I"⟩, 50) := ⟨⟨by decide +kernel, by decide +kernel⟩, List.mem_of_getElem? (i := 769) (by decide +kernel), List.mem_of_getElem? (i := 1193) (by decide +kernel), List.mem_of_getElem? (i := 1194) (by decide +kernel)⟩
theorem lw_p67 : lw_okq (⟨"SignalWavesModel", "nodeOfWire", "(I)I"⟩, 50) := ⟨⟨by decide +kernel, by decide +kernel⟩, List.mem_of_getElem? (i := 769) (by decide +kernel), List.mem_of_getElem? (i := 1205) (by decide +kernel), List.mem_of_getElem? (i := 1206) (by decide +kernel)⟩
theorem lw_p68 : lw_okq (⟨"SignalWavesModel", "packedBy", "(I)I"⟩, 50) := ⟨⟨by decide +kernel, by decide +kernel⟩, List.mem_of_getElem? (i := 769) (by decide +kernel), List.mem_of_getElem? (i := 1213) (by decide +kernel), List.mem_of_getElem? (i := 1214) (by decide +kernel)⟩
theorem lw_p69 : lw_okq (⟨"SignalWavesModel", "roomParted", "(II)I"⟩, 50) := ⟨⟨by decide +kernel, by decide +kernel⟩, List.mem_of_getElem? (i := 769) (by decide +kernel), List.mem_of_getElem? (i := 1217) (by decide +kernel), List.mem_of_getElem? (i := 1218) (by decide +kernel)⟩
theorem lw_p70 : lw_okq (⟨"SignalWavesModel", "seen", "()I"⟩, 50) := ⟨⟨by decide +kernel, by decide +kernel⟩, List.mem_of_getElem? (i := 769) (by decide +kernel), List.mem_of_getElem? (i := 1237) (by decide +kernel), List.mem_of_getElem? (i := 1238) (by decide +kernel)⟩
theorem lw_p71 : lw_okq (⟨"SignalWavesModel", "mostAlike", "(I)I"⟩, 50) := ⟨⟨by decide +kernel, by decide +kernel⟩, List.mem_of_getElem? (i := 769) (by decide +kernel), List.mem_of_getElem? (i := 1245) (by decide +kernel), List.mem_of_getElem? (i := 1246) (by decide +kernel)⟩
theorem lw_p72 : lw_okq (⟨"SignalWavesModel", "changes", "()I"⟩, 50) := ⟨⟨by decide +kernel, by decide +kernel⟩, List.mem_of_getElem? (i := 769) (by decide +kernel), List.mem_of_getElem? (i := 1261) (by decide +kernel), List.mem_of_getElem? (i := 1262) (by decide +kernel)⟩
theorem lw_p73 : lw_okq (⟨"SignalWavesModel", "roomOfAll", "()I"⟩, 50) := ⟨⟨by decide +kernel, by decide +kernel⟩, List.mem_of_getElem? (i := 769) (by decide +kernel), List.mem_of_getElem? (i := 1265) (by decide +kernel), List.mem_of_getElem? (i := 1266) (by decide +kernel)⟩
def lw_privs_5 : List (MethodName × Nat) := [(⟨"SignalWavesModel", "addsRow", "(I)V"⟩, 50), (⟨"SignalWavesModel", "roomOf", "(III)I"⟩, 50), (⟨"SignalWavesModel", "placeOf", "(I)I"⟩, 50), (⟨"SignalWavesModel", "nodeOfWire", "(I)I"⟩, 50), (⟨"SignalWavesModel", "packedBy", "(I)I"⟩, 50), (⟨"SignalWavesModel", "roomParted", "(II)I"⟩, 50), (⟨"SignalWavesModel", "seen", "()I"⟩, 50), (⟨"SignalWavesModel", "mostAlike", "(I)I"⟩, 50), (⟨"SignalWavesModel", "changes", "()I"⟩, 50), (⟨"SignalWavesModel", "roomOfAll", "()I"⟩, 50)]
theorem lw_r5 : ∀ q ∈ lw_privs_5, lw_okq q := List.forall_mem_cons.mpr ⟨lw_p64, List.forall_mem_cons.mpr ⟨lw_p65, List.forall_mem_cons.mpr ⟨lw_p66, List.forall_mem_cons.mpr ⟨lw_p67, List.forall_mem_cons.mpr ⟨lw_p68, List.forall_mem_cons.mpr ⟨lw_p69, List.forall_mem_cons.mpr ⟨lw_p70, List.forall_mem_cons.mpr ⟨lw_p71, List.forall_mem_cons.mpr ⟨lw_p72, List.forall_mem_cons.mpr ⟨lw_p73, fun _ h => absurd h List.not_mem_nil⟩⟩⟩⟩⟩⟩⟩⟩⟩⟩
def lw_privs : List (MethodName × Nat) := lw_privs_1 ++ (lw_privs_2 ++ (lw_privs_3 ++ (lw_privs_4 ++ (lw_privs_5))))
def lw_tbl : List Cond := k2_sels lw_privs ++ tables_1
theorem lw_privs_ok : ∀ q ∈ lw_privs, lw_okq q := by
  show ∀ q ∈ lw_privs_1 ++ (lw_privs_2 ++ (lw_privs_3 ++ (lw_privs_4 ++ (lw_privs_5)))), lw_okq q
  exact List.forall_mem_append.mpr ⟨lw_r1, List.forall_mem_append.mpr ⟨lw_r2, List.forall_mem_append.mpr ⟨lw_r3, List.forall_mem_append.mpr ⟨lw_r4, lw_r5⟩⟩⟩⟩
-- ===== end of PART A; then your names; then what follows =====
def RX0 : String := "SignalWaves$Block"
def TX0 : u_T := fun k => match k with
  | 0 => ("SignalWaves$Block", "begin", "I", false)
  | 1 => ("SignalWaves$Block", "end", "I", false)
  | 2 => ("SignalWaves$Block", "frame", "[I", true)
  | _ => ("SignalWaves$Block", "changes", "LSignalWaves$Changes;", true)
def tyX0 : Nat → FieldType := fun k => match k with
  | 0 => .int
  | 1 => .int
  | 2 => .array .int
  | _ => .object "SignalWaves$Changes"
theorem nmX0 : ∀ a, a < 4 → ∀ b, b < 4 → a ≠ b → (TX0 a).2.1 ≠ (TX0 b).2.1 := by decide +kernel
theorem tyX0_ok : ∀ k, k < 4 → parseFieldDescriptor (TX0 k).2.2.1 = some (tyX0 k) := by decide +kernel
abbrev cX0_init : ByteArray := prog_2_method_1_code
def yX0_init : MethodName := ⟨RX0, "<init>", "()V"⟩
abbrev cX0_restart : ByteArray := prog_2_method_2_code
def yX0_restart : MethodName := ⟨RX0, "restart", "(I[I)V"⟩
abbrev cX0_copyFrom : ByteArray := prog_2_method_3_code
def yX0_copyFrom : MethodName := ⟨RX0, "copyFrom", "(LSignalWaves$Block;)V"⟩
def RX1 : String := "SignalWaves$Changes"
def TX1 : u_T := fun k => match k with
  | 0 => ("SignalWaves$Changes", "count", "I", false)
  | 1 => ("SignalWaves$Changes", "times", "[I", true)
  | 2 => ("SignalWaves$Changes", "wires", "[I", true)
  | _ => ("SignalWaves$Changes", "values", "[I", true)
def tyX1 : Nat → FieldType := fun k => match k with
  | 0 => .int
  | 1 => .array .int
  | 2 => .array .int
  | _ => .array .int
theorem nmX1 : ∀ a, a < 4 → ∀ b, b < 4 → a ≠ b → (TX1 a).2.1 ≠ (TX1 b).2.1 := by decide +kernel
theorem tyX1_ok : ∀ k, k < 4 → parseFieldDescriptor (TX1 k).2.2.1 = some (tyX1 k) := by decide +kernel
abbrev cX1_init : ByteArray := prog_3_method_1_code
def yX1_init : MethodName := ⟨RX1, "<init>", "(I)V"⟩
abbrev cX1_add : ByteArray := prog_3_method_2_code
def yX1_add : MethodName := ⟨RX1, "add", "(III)V"⟩
abbrev cX1_addAll : ByteArray := prog_3_method_3_code
def yX1_addAll : MethodName := ⟨RX1, "addAll", "(LSignalWaves$Changes;)V"⟩
abbrev cX1_copyFrom : ByteArray := prog_3_method_4_code
def yX1_copyFrom : MethodName := ⟨RX1, "copyFrom", "(LSignalWaves$Changes;)V"⟩
abbrev cX1_isNew : ByteArray := prog_3_method_5_code
def yX1_isNew : MethodName := ⟨RX1, "isNew", "(II)Z"⟩
abbrev cX1_different : ByteArray := prog_3_method_6_code
def yX1_different : MethodName := ⟨RX1, "different", "(II)I"⟩
abbrev cX1_indexOf : ByteArray := prog_3_method_7_code
def yX1_indexOf : MethodName := ⟨RX1, "indexOf", "(II)I"⟩
abbrev cX1_room : ByteArray := prog_3_method_8_code
def yX1_room : MethodName := ⟨RX1, "room", "(IIII)I"⟩
def RX2 : String := "SignalWaves$Design"
def TX2 : u_T := fun k => match k with
  | 0 => ("SignalWaves$Design", "signals", "I", false)
  | 1 => ("SignalWaves$Design", "wires", "I", false)
  | 2 => ("SignalWaves$Design", "derived", "I", false)
  | 3 => ("SignalWaves$Design", "scopes", "I", false)
  | 4 => ("SignalWaves$Design", "kinds", "[I", true)
  | 5 => ("SignalWaves$Design", "details", "[I", true)
  | 6 => ("SignalWaves$Design", "homes", "[I", true)
  | 7 => ("SignalWaves$Design", "names", "[I", true)
  | 8 => ("SignalWaves$Design", "scopeHomes", "[I", true)
  | 9 => ("SignalWaves$Design", "scopeNames", "[I", true)
  | 10 => ("SignalWaves$Design", "codes", "[[I", true)
  | 11 => ("SignalWaves$Design", "codeLengths", "[I", true)
  | _ => ("SignalWaves$Design", "stack", "[I", true)
def tyX2 : Nat → FieldType := fun k => match k with
  | 0 => .int
  | 1 => .int
  | 2 => .int
  | 3 => .int
  | 4 => .array .int
  | 5 => .array .int
  | 6 => .array .int
  | 7 => .array .int
  | 8 => .array .int
  | 9 => .array .int
  | 10 => .array (.array .int)
  | 11 => .array .int
  | _ => .array .int
theorem nmX2 : ∀ a, a < 13 → ∀ b, b < 13 → a ≠ b → (TX2 a).2.1 ≠ (TX2 b).2.1 := by decide +kernel
theorem tyX2_ok : ∀ k, k < 13 → parseFieldDescriptor (TX2 k).2.2.1 = some (tyX2 k) := by decide +kernel
abbrev cX2_init : ByteArray := prog_4_method_1_code
def yX2_init : MethodName := ⟨RX2, "<init>", "()V"⟩
abbrev cX2_empty : ByteArray := prog_4_method_2_code
def yX2_empty : MethodName := ⟨RX2, "empty", "()V"⟩
abbrev cX2_addScope : ByteArray := prog_4_method_3_code
def yX2_addScope : MethodName := ⟨RX2, "addScope", "(II)I"⟩
abbrev cX2_addSignal : ByteArray := prog_4_method_4_code
def yX2_addSignal : MethodName := ⟨RX2, "addSignal", "(IIII)V"⟩
abbrev cX2_beginCode : ByteArray := prog_4_method_5_code
def yX2_beginCode : MethodName := ⟨RX2, "beginCode", "()V"⟩
abbrev cX2_addCode : ByteArray := prog_4_method_6_code
def yX2_addCode : MethodName := ⟨RX2, "addCode", "(I)V"⟩
abbrev cX2_named : ByteArray := prog_4_method_7_code
def yX2_named : MethodName := ⟨RX2, "named", "(II)I"⟩
abbrev cX2_depth : ByteArray := prog_4_method_8_code
def yX2_depth : MethodName := ⟨RX2, "depth", "(I)I"⟩
abbrev cX2_pathName : ByteArray := prog_4_method_9_code
def yX2_pathName : MethodName := ⟨RX2, "pathName", "(II)I"⟩
abbrev cX2_complete : ByteArray := prog_4_method_10_code
def yX2_complete : MethodName := ⟨RX2, "complete", "([I)V"⟩
abbrev cX2_computed : ByteArray := prog_4_method_11_code
def yX2_computed : MethodName := ⟨RX2, "computed", "(I[I)I"⟩
abbrev cX2_negated : ByteArray := prog_4_method_12_code
def yX2_negated : MethodName := ⟨RX2, "negated", "(I)I"⟩
abbrev cX2_joined : ByteArray := prog_4_method_13_code
def yX2_joined : MethodName := ⟨RX2, "joined", "(III)I"⟩
def RX3 : String := "SignalWaves$History"
def TX3 : u_T := fun k => match k with
  | 0 => ("SignalWaves$History", "count", "I", false)
  | 1 => ("SignalWaves$History", "lastTime", "I", false)
  | 2 => ("SignalWaves$History", "times", "[I", true)
  | _ => ("SignalWaves$History", "values", "[[I", true)
def tyX3 : Nat → FieldType := fun k => match k with
  | 0 => .int
  | 1 => .int
  | 2 => .array .int
  | _ => .array (.array .int)
theorem nmX3 : ∀ a, a < 4 → ∀ b, b < 4 → a ≠ b → (TX3 a).2.1 ≠ (TX3 b).2.1 := by decide +kernel
theorem tyX3_ok : ∀ k, k < 4 → parseFieldDescriptor (TX3 k).2.2.1 = some (tyX3 k) := by decide +kernel
abbrev cX3_init : ByteArray := prog_5_method_1_code
def yX3_init : MethodName := ⟨RX3, "<init>", "()V"⟩
abbrev cX3_read : ByteArray := prog_5_method_2_code
def yX3_read : MethodName := ⟨RX3, "read", "(LSignalWaves$Design;LSignalWaves$Recording;)V"⟩
abbrev cX3_addMoment : ByteArray := prog_5_method_3_code
def yX3_addMoment : MethodName := ⟨RX3, "addMoment", "(I)V"⟩
abbrev cX3_after : ByteArray := prog_5_method_4_code
def yX3_after : MethodName := ⟨RX3, "after", "(I)I"⟩
abbrev cX3_isEdge : ByteArray := prog_5_method_5_code
def yX3_isEdge : MethodName := ⟨RX3, "isEdge", "(III)Z"⟩
abbrev cX3_hasEdgeOf : ByteArray := prog_5_method_6_code
def yX3_hasEdgeOf : MethodName := ⟨RX3, "hasEdgeOf", "(II)Z"⟩
abbrev cX3_hasEdgeAt : ByteArray := prog_5_method_7_code
def yX3_hasEdgeAt : MethodName := ⟨RX3, "hasEdgeAt", "(II)Z"⟩
abbrev cX3_follows : ByteArray := prog_5_method_8_code
def yX3_follows : MethodName := ⟨RX3, "follows", "(III)Z"⟩
abbrev cX3_greatestGroup : ByteArray := prog_5_method_9_code
def yX3_greatestGroup : MethodName := ⟨RX3, "greatestGroup", "(II)I"⟩
def RX4 : String := "SignalWaves$Past"
def TX4 : u_T := fun k => match k with
  | 0 => ("SignalWaves$Past", "count", "I", false)
  | _ => ("SignalWaves$Past", "before", "[LSignalWaves$Recording;", true)
def tyX4 : Nat → FieldType := fun k => match k with
  | 0 => .int
  | _ => .array (.object "SignalWaves$Recording")
theorem nmX4 : ∀ a, a < 2 → ∀ b, b < 2 → a ≠ b → (TX4 a).2.1 ≠ (TX4 b).2.1 := by decide +kernel
theorem tyX4_ok : ∀ k, k < 2 → parseFieldDescriptor (TX4 k).2.2.1 = some (tyX4 k) := by decide +kernel
abbrev cX4_init : ByteArray := prog_6_method_1_code
def yX4_init : MethodName := ⟨RX4, "<init>", "()V"⟩
abbrev cX4_remember : ByteArray := prog_6_method_2_code
def yX4_remember : MethodName := ⟨RX4, "remember", "(LSignalWaves$Recording;)V"⟩
abbrev cX4_bringBack : ByteArray := prog_6_method_3_code
def yX4_bringBack : MethodName := ⟨RX4, "bringBack", "(LSignalWaves$Recording;)V"⟩
def RX5 : String := "SignalWaves$Reader"
def TX5 : u_T := fun k => match k with
  | 0 => ("SignalWaves$Reader", "text", "LSignalWaves$Text;", true)
  | 1 => ("SignalWaves$Reader", "design", "LSignalWaves$Design;", false)
  | 2 => ("SignalWaves$Reader", "open", "I", false)
  | 3 => ("SignalWaves$Reader", "operands", "I", false)
  | _ => ("SignalWaves$Reader", "marks", "I", false)
def tyX5 : Nat → FieldType := fun k => match k with
  | 0 => .object "SignalWaves$Text"
  | 1 => .object "SignalWaves$Design"
  | 2 => .int
  | 3 => .int
  | _ => .int
theorem nmX5 : ∀ a, a < 5 → ∀ b, b < 5 → a ≠ b → (TX5 a).2.1 ≠ (TX5 b).2.1 := by decide +kernel
theorem tyX5_ok : ∀ k, k < 5 → parseFieldDescriptor (TX5 k).2.2.1 = some (tyX5 k) := by decide +kernel
abbrev cX5_init : ByteArray := prog_7_method_1_code
def yX5_init : MethodName := ⟨RX5, "<init>", "(LSignalWaves$Text;LSignalWaves$Design;)V"⟩
abbrev cX5_read : ByteArray := prog_7_method_2_code
def yX5_read : MethodName := ⟨RX5, "read", "(LSignalWaves$Design;)I"⟩
abbrev cX5_readItem : ByteArray := prog_7_method_3_code
def yX5_readItem : MethodName := ⟨RX5, "readItem", "()Z"⟩
abbrev cX5_readSign : ByteArray := prog_7_method_4_code
def yX5_readSign : MethodName := ⟨RX5, "readSign", "(I)Z"⟩
abbrev cX5_readOpening : ByteArray := prog_7_method_5_code
def yX5_readOpening : MethodName := ⟨RX5, "readOpening", "()Z"⟩
abbrev cX5_readClosing : ByteArray := prog_7_method_6_code
def yX5_readClosing : MethodName := ⟨RX5, "readClosing", "()Z"⟩
abbrev cX5_readSignal : ByteArray := prog_7_method_7_code
def yX5_readSignal : MethodName := ⟨RX5, "readSignal", "()Z"⟩
abbrev cX5_readWidth : ByteArray := prog_7_method_8_code
def yX5_readWidth : MethodName := ⟨RX5, "readWidth", "()I"⟩
abbrev cX5_readExpression : ByteArray := prog_7_method_9_code
def yX5_readExpression : MethodName := ⟨RX5, "readExpression", "()Z"⟩
abbrev cX5_isOperator : ByteArray := prog_7_method_10_code
def yX5_isOperator : MethodName := ⟨RX5, "isOperator", "(I)Z"⟩
abbrev cX5_readTerm : ByteArray := prog_7_method_11_code
def yX5_readTerm : MethodName := ⟨RX5, "readTerm", "()Z"⟩
abbrev cX5_readPath : ByteArray := prog_7_method_12_code
def yX5_readPath : MethodName := ⟨RX5, "readPath", "()I"⟩
def RX6 : String := "SignalWaves$Recording"
def TX6 : u_T := fun k => match k with
  | 0 => ("SignalWaves$Recording", "time", "I", false)
  | 1 => ("SignalWaves$Recording", "on", "Z", false)
  | 2 => ("SignalWaves$Recording", "size", "I", false)
  | 3 => ("SignalWaves$Recording", "lost", "I", false)
  | 4 => ("SignalWaves$Recording", "count", "I", false)
  | 5 => ("SignalWaves$Recording", "blocks", "[LSignalWaves$Block;", true)
  | _ => ("SignalWaves$Recording", "values", "[I", true)
def tyX6 : Nat → FieldType := fun k => match k with
  | 0 => .int
  | 1 => .boolean
  | 2 => .int
  | 3 => .int
  | 4 => .int
  | 5 => .array (.object "SignalWaves$Block")
  | _ => .array .int
theorem nmX6 : ∀ a, a < 7 → ∀ b, b < 7 → a ≠ b → (TX6 a).2.1 ≠ (TX6 b).2.1 := by decide +kernel
theorem tyX6_ok : ∀ k, k < 7 → parseFieldDescriptor (TX6 k).2.2.1 = some (tyX6 k) := by decide +kernel
abbrev cX6_init : ByteArray := prog_8_method_1_code
def yX6_init : MethodName := ⟨RX6, "<init>", "()V"⟩
abbrev cX6_restart : ByteArray := prog_8_method_2_code
def yX6_restart : MethodName := ⟨RX6, "restart", "()V"⟩
abbrev cX6_copyFrom : ByteArray := prog_8_method_3_code
def yX6_copyFrom : MethodName := ⟨RX6, "copyFrom", "(LSignalWaves$Recording;)V"⟩
abbrev cX6_give : ByteArray := prog_8_method_4_code
def yX6_give : MethodName := ⟨RX6, "give", "(II)V"⟩
abbrev cX6_turn : ByteArray := prog_8_method_5_code
def yX6_turn : MethodName := ⟨RX6, "turn", "(Z)V"⟩
abbrev cX6_beginBlock : ByteArray := prog_8_method_6_code
def yX6_beginBlock : MethodName := ⟨RX6, "beginBlock", "()V"⟩
abbrev cX6_loseOldest : ByteArray := prog_8_method_7_code
def yX6_loseOldest : MethodName := ⟨RX6, "loseOldest", "()V"⟩
abbrev cX6_blockAt : ByteArray := prog_8_method_8_code
def yX6_blockAt : MethodName := ⟨RX6, "blockAt", "(I)I"⟩
abbrev cX6_fillWires : ByteArray := prog_8_method_9_code
def yX6_fillWires : MethodName := ⟨RX6, "fillWires", "([II)V"⟩
def RX7 : String := "SignalWaves$Text"
def TX7 : u_T := fun k => match k with
  | 0 => ("SignalWaves$Text", "bytes", "[I", true)
  | 1 => ("SignalWaves$Text", "length", "I", false)
  | 2 => ("SignalWaves$Text", "start", "I", false)
  | 3 => ("SignalWaves$Text", "end", "I", false)
  | _ => ("SignalWaves$Text", "sign", "I", false)
def tyX7 : Nat → FieldType := fun k => match k with
  | 0 => .array .int
  | 1 => .int
  | 2 => .int
  | 3 => .int
  | _ => .int
theorem nmX7 : ∀ a, a < 5 → ∀ b, b < 5 → a ≠ b → (TX7 a).2.1 ≠ (TX7 b).2.1 := by decide +kernel
theorem tyX7_ok : ∀ k, k < 5 → parseFieldDescriptor (TX7 k).2.2.1 = some (tyX7 k) := by decide +kernel
abbrev cX7_init : ByteArray := prog_9_method_1_code
def yX7_init : MethodName := ⟨RX7, "<init>", "()V"⟩
abbrev cX7_add : ByteArray := prog_9_method_2_code
def yX7_add : MethodName := ⟨RX7, "add", "(I)V"⟩
abbrev cX7_empty : ByteArray := prog_9_method_3_code
def yX7_empty : MethodName := ⟨RX7, "empty", "()V"⟩
abbrev cX7_toFirst : ByteArray := prog_9_method_4_code
def yX7_toFirst : MethodName := ⟨RX7, "toFirst", "()V"⟩
abbrev cX7_toNext : ByteArray := prog_9_method_5_code
def yX7_toNext : MethodName := ⟨RX7, "toNext", "()V"⟩
abbrev cX7_letter : ByteArray := prog_9_method_6_code
def yX7_letter : MethodName := ⟨RX7, "letter", "()I"⟩
abbrev cX7_number : ByteArray := prog_9_method_7_code
def yX7_number : MethodName := ⟨RX7, "number", "()I"⟩
def RX8 : String := "SignalWaves"
def TX8 : u_T := fun k => match k with
  | 0 => ("SignalWaves", "text", "LSignalWaves$Text;", true)
  | 1 => ("SignalWaves", "design", "LSignalWaves$Design;", false)
  | 2 => ("SignalWaves", "draft", "LSignalWaves$Design;", false)
  | 3 => ("SignalWaves", "reader", "LSignalWaves$Reader;", true)
  | 4 => ("SignalWaves", "recording", "LSignalWaves$Recording;", true)
  | 5 => ("SignalWaves", "past", "LSignalWaves$Past;", true)
  | 6 => ("SignalWaves", "images", "[LSignalWaves$Recording;", true)
  | 7 => ("SignalWaves", "kept", "[Z", true)
  | 8 => ("SignalWaves", "seenTimes", "[I", true)
  | 9 => ("SignalWaves", "seenValues", "[I", true)
  | 10 => ("SignalWaves", "observations", "I", false)
  | 11 => ("SignalWaves", "history", "LSignalWaves$History;", true)
  | 12 => ("SignalWaves", "gathered", "LSignalWaves$Changes;", true)
  | _ => ("SignalWaves", "row", "[I", true)
def tyX8 : Nat → FieldType := fun k => match k with
  | 0 => .object "SignalWaves$Text"
  | 1 => .object "SignalWaves$Design"
  | 2 => .object "SignalWaves$Design"
  | 3 => .object "SignalWaves$Reader"
  | 4 => .object "SignalWaves$Recording"
  | 5 => .object "SignalWaves$Past"
  | 6 => .array (.object "SignalWaves$Recording")
  | 7 => .array .boolean
  | 8 => .array .int
  | 9 => .array .int
  | 10 => .int
  | 11 => .object "SignalWaves$History"
  | 12 => .object "SignalWaves$Changes"
  | _ => .array .int
theorem nmX8 : ∀ a, a < 14 → ∀ b, b < 14 → a ≠ b → (TX8 a).2.1 ≠ (TX8 b).2.1 := by decide +kernel
theorem tyX8_ok : ∀ k, k < 14 → parseFieldDescriptor (TX8 k).2.2.1 = some (tyX8 k) := by decide +kernel
abbrev cX8_init : ByteArray := prog_1_method_1_code
def yX8_init : MethodName := ⟨RX8, "<init>", "()V"⟩
abbrev cX8_type : ByteArray := prog_1_method_2_code
def yX8_type : MethodName := ⟨RX8, "type", "(I)I"⟩
abbrev cX8_clear : ByteArray := prog_1_method_3_code
def yX8_clear : MethodName := ⟨RX8, "clear", "()I"⟩
abbrev cX8_tells : ByteArray := prog_1_method_4_code
def yX8_tells : MethodName := ⟨RX8, "tells", "()I"⟩
abbrev cX8_node : ByteArray := prog_1_method_5_code
def yX8_node : MethodName := ⟨RX8, "node", "()I"⟩
abbrev cX8_about : ByteArray := prog_1_method_6_code
def yX8_about : MethodName := ⟨RX8, "about", "(II)I"⟩
abbrev cX8_scope : ByteArray := prog_1_method_7_code
def yX8_scope : MethodName := ⟨RX8, "scope", "(II)I"⟩
abbrev cX8_listed : ByteArray := prog_1_method_8_code
def yX8_listed : MethodName := ⟨RX8, "listed", "(II)I"⟩
abbrev cX8_path : ByteArray := prog_1_method_9_code
def yX8_path : MethodName := ⟨RX8, "path", "(II)I"⟩
abbrev cX8_sets : ByteArray := prog_1_method_10_code
def yX8_sets : MethodName := ⟨RX8, "sets", "(II)I"⟩
abbrev cX8_passes : ByteArray := prog_1_method_11_code
def yX8_passes : MethodName := ⟨RX8, "passes", "(I)I"⟩
abbrev cX8_dumps : ByteArray := prog_1_method_12_code
def yX8_dumps : MethodName := ⟨RX8, "dumps", "(I)I"⟩
abbrev cX8_sizes : ByteArray := prog_1_method_13_code
def yX8_sizes : MethodName := ⟨RX8, "sizes", "(I)I"⟩
abbrev cX8_undo : ByteArray := prog_1_method_14_code
def yX8_undo : MethodName := ⟨RX8, "undo", "()I"⟩
abbrev cX8_at : ByteArray := prog_1_method_15_code
def yX8_at : MethodName := ⟨RX8, "at", "(II)I"⟩
abbrev cX8_edges : ByteArray := prog_1_method_16_code
def yX8_edges : MethodName := ⟨RX8, "edges", "(IIII)I"⟩
abbrev cX8_next : ByteArray := prog_1_method_17_code
def yX8_next : MethodName := ⟨RX8, "next", "(III)I"⟩
abbrev cX8_previous : ByteArray := prog_1_method_18_code
def yX8_previous : MethodName := ⟨RX8, "previous", "(III)I"⟩
abbrev cX8_first : ByteArray := prog_1_method_19_code
def yX8_first : MethodName := ⟨RX8, "first", "(III)I"⟩
abbrev cX8_holds : ByteArray := prog_1_method_20_code
def yX8_holds : MethodName := ⟨RX8, "holds", "(III)I"⟩
abbrev cX8_ticks : ByteArray := prog_1_method_21_code
def yX8_ticks : MethodName := ⟨RX8, "ticks", "(II)I"⟩
abbrev cX8_delay : ByteArray := prog_1_method_22_code
def yX8_delay : MethodName := ⟨RX8, "delay", "(II)I"⟩
abbrev cX8_jump : ByteArray := prog_1_method_23_code
def yX8_jump : MethodName := ⟨RX8, "jump", "(I)I"⟩
abbrev cX8_block : ByteArray := prog_1_method_24_code
def yX8_block : MethodName := ⟨RX8, "block", "(II)I"⟩
abbrev cX8_frame : ByteArray := prog_1_method_25_code
def yX8_frame : MethodName := ⟨RX8, "frame", "(II)I"⟩
abbrev cX8_change : ByteArray := prog_1_method_26_code
def yX8_change : MethodName := ⟨RX8, "change", "(III)I"⟩
abbrev cX8_packed : ByteArray := prog_1_method_27_code
def yX8_packed : MethodName := ⟨RX8, "packed", "(I)I"⟩
abbrev cX8_best : ByteArray := prog_1_method_28_code
def yX8_best : MethodName := ⟨RX8, "best", "()I"⟩
abbrev cX8_sees : ByteArray := prog_1_method_29_code
def yX8_sees : MethodName := ⟨RX8, "sees", "(II)I"⟩
abbrev cX8_forget : ByteArray := prog_1_method_30_code
def yX8_forget : MethodName := ⟨RX8, "forget", "()I"⟩
abbrev cX8_which : ByteArray := prog_1_method_31_code
def yX8_which : MethodName := ⟨RX8, "which", "()I"⟩
abbrev cX8_look : ByteArray := prog_1_method_32_code
def yX8_look : MethodName := ⟨RX8, "look", "()I"⟩
abbrev cX8_keep : ByteArray := prog_1_method_33_code
def yX8_keep : MethodName := ⟨RX8, "keep", "(I)I"⟩
abbrev cX8_back : ByteArray := prog_1_method_34_code
def yX8_back : MethodName := ⟨RX8, "back", "(I)I"⟩
abbrev cX8_count : ByteArray := prog_1_method_35_code
def yX8_count : MethodName := ⟨RX8, "count", "(I)I"⟩
abbrev cX8_isSignal : ByteArray := prog_1_method_36_code
def yX8_isSignal : MethodName := ⟨RX8, "isSignal", "(I)Z"⟩
abbrev cX8_isWire : ByteArray := prog_1_method_37_code
def yX8_isWire : MethodName := ⟨RX8, "isWire", "(I)Z"⟩
abbrev cX8_isBlock : ByteArray := prog_1_method_38_code
def yX8_isBlock : MethodName := ⟨RX8, "isBlock", "(I)Z"⟩
abbrev cX8_isPast : ByteArray := prog_1_method_39_code
def yX8_isPast : MethodName := ⟨RX8, "isPast", "(I)Z"⟩
abbrev cX8_isKind : ByteArray := prog_1_method_40_code
def yX8_isKind : MethodName := ⟨RX8, "isKind", "(I)Z"⟩
abbrev cX8_isRecordable : ByteArray := prog_1_method_41_code
def yX8_isRecordable : MethodName := ⟨RX8, "isRecordable", "(I)Z"⟩
abbrev cX8_orNone : ByteArray := prog_1_method_42_code
def yX8_orNone : MethodName := ⟨RX8, "orNone", "(I)I"⟩
abbrev cX8_fillRow : ByteArray := prog_1_method_43_code
def yX8_fillRow : MethodName := ⟨RX8, "fillRow", "(I)V"⟩
abbrev cX8_roomOf : ByteArray := prog_1_method_44_code
def yX8_roomOf : MethodName := ⟨RX8, "roomOf", "(LSignalWaves$Block;)I"⟩
abbrev cX8_roomOfAll : ByteArray := prog_1_method_45_code
def yX8_roomOfAll : MethodName := ⟨RX8, "roomOfAll", "()I"⟩
abbrev cX8_changesInAll : ByteArray := prog_1_method_46_code
def yX8_changesInAll : MethodName := ⟨RX8, "changesInAll", "()I"⟩
abbrev cX8_roomDivided : ByteArray := prog_1_method_47_code
def yX8_roomDivided : MethodName := ⟨RX8, "roomDivided", "(I)I"⟩
abbrev cX8_roomOfGroup : ByteArray := prog_1_method_48_code
def yX8_roomOfGroup : MethodName := ⟨RX8, "roomOfGroup", "(II)I"⟩
abbrev cX8_agreeing : ByteArray := prog_1_method_49_code
def yX8_agreeing : MethodName := ⟨RX8, "agreeing", "()I"⟩
def RX9 : String := "SignalWavesModel"
def TX9 : u_T := fun k => match k with
  | 0 => ("SignalWavesModel", "node", "[I", true)
  | 1 => ("SignalWavesModel", "nodes", "I", false)
  | 2 => ("SignalWavesModel", "wires", "I", false)
  | 3 => ("SignalWavesModel", "deriveds", "I", false)
  | 4 => ("SignalWavesModel", "within", "[I", true)
  | 5 => ("SignalWavesModel", "scopeName", "[I", true)
  | 6 => ("SignalWavesModel", "scopes", "I", false)
  | 7 => ("SignalWavesModel", "code", "[I", true)
  | 8 => ("SignalWavesModel", "codeMany", "[I", true)
  | 9 => ("SignalWavesModel", "s", "[I", true)
  | 10 => ("SignalWavesModel", "past", "[I", true)
  | 11 => ("SignalWavesModel", "undos", "I", false)
  | 12 => ("SignalWavesModel", "kept", "[I", true)
  | 13 => ("SignalWavesModel", "isKept", "[Z", true)
  | 14 => ("SignalWavesModel", "text", "[I", true)
  | 15 => ("SignalWavesModel", "typed", "I", false)
  | 16 => ("SignalWavesModel", "at", "I", false)
  | 17 => ("SignalWavesModel", "start", "I", false)
  | 18 => ("SignalWavesModel", "sort", "I", false)
  | 19 => ("SignalWavesModel", "value", "I", false)
  | 20 => ("SignalWavesModel", "fault", "I", false)
  | 21 => ("SignalWavesModel", "newNode", "[I", true)
  | 22 => ("SignalWavesModel", "newNodes", "I", false)
  | 23 => ("SignalWavesModel", "newWires", "I", false)
  | 24 => ("SignalWavesModel", "newDeriveds", "I", false)
  | 25 => ("SignalWavesModel", "newWithin", "[I", true)
  | 26 => ("SignalWavesModel", "newScopeName", "[I", true)
  | 27 => ("SignalWavesModel", "newScopes", "I", false)
  | 28 => ("SignalWavesModel", "newCode", "[I", true)
  | 29 => ("SignalWavesModel", "newMany", "[I", true)
  | 30 => ("SignalWavesModel", "open", "I", false)
  | 31 => ("SignalWavesModel", "deep", "I", false)
  | 32 => ("SignalWavesModel", "waits", "[I", true)
  | 33 => ("SignalWavesModel", "waiting", "I", false)
  | 34 => ("SignalWavesModel", "terms", "I", false)
  | 35 => ("SignalWavesModel", "marks", "I", false)
  | 36 => ("SignalWavesModel", "now", "[I", true)
  | 37 => ("SignalWavesModel", "stack", "[I", true)
  | 38 => ("SignalWavesModel", "wire", "[I", true)
  | 39 => ("SignalWavesModel", "isTurn", "[Z", true)
  | 40 => ("SignalWavesModel", "line", "[I", true)
  | 41 => ("SignalWavesModel", "ahead", "[I", true)
  | 42 => ("SignalWavesModel", "isFirst", "[Z", true)
  | 43 => ("SignalWavesModel", "rowTime", "[I", true)
  | 44 => ("SignalWavesModel", "rowValue", "[I", true)
  | 45 => ("SignalWavesModel", "rows", "I", false)
  | 46 => ("SignalWavesModel", "word", "[I", true)
  | 47 => ("SignalWavesModel", "words", "I", false)
  | 48 => ("SignalWavesModel", "sight", "[I", true)
  | _ => ("SignalWavesModel", "sights", "I", false)
def tyX9 : Nat → FieldType := fun k => match k with
  | 0 => .array .int
  | 1 => .int
  | 2 => .int
  | 3 => .int
  | 4 => .array .int
  | 5 => .array .int
  | 6 => .int
  | 7 => .array .int
  | 8 => .array .int
  | 9 => .array .int
  | 10 => .array .int
  | 11 => .int
  | 12 => .array .int
  | 13 => .array .boolean
  | 14 => .array .int
  | 15 => .int
  | 16 => .int
  | 17 => .int
  | 18 => .int
  | 19 => .int
  | 20 => .int
  | 21 => .array .int
  | 22 => .int
  | 23 => .int
  | 24 => .int
  | 25 => .array .int
  | 26 => .array .int
  | 27 => .int
  | 28 => .array .int
  | 29 => .array .int
  | 30 => .int
  | 31 => .int
  | 32 => .array .int
  | 33 => .int
  | 34 => .int
  | 35 => .int
  | 36 => .array .int
  | 37 => .array .int
  | 38 => .array .int
  | 39 => .array .boolean
  | 40 => .array .int
  | 41 => .array .int
  | 42 => .array .boolean
  | 43 => .array .int
  | 44 => .array .int
  | 45 => .int
  | 46 => .array .int
  | 47 => .int
  | 48 => .array .int
  | _ => .int
theorem nmX9 : ∀ a, a < 50 → ∀ b, b < 50 → a ≠ b → (TX9 a).2.1 ≠ (TX9 b).2.1 := by decide +kernel
theorem tyX9_ok : ∀ k, k < 50 → parseFieldDescriptor (TX9 k).2.2.1 = some (tyX9 k) := by decide +kernel
abbrev cX9_init : ByteArray := prog_11_method_1_code
def yX9_init : MethodName := ⟨RX9, "<init>", "()V"⟩
abbrev cX9_in : ByteArray := prog_11_method_2_code
def yX9_in : MethodName := ⟨RX9, "in", "(III)Z"⟩
abbrev cX9_type : ByteArray := prog_11_method_3_code
def yX9_type : MethodName := ⟨RX9, "type", "(I)I"⟩
abbrev cX9_clear : ByteArray := prog_11_method_4_code
def yX9_clear : MethodName := ⟨RX9, "clear", "()I"⟩
abbrev cX9_isFigure : ByteArray := prog_11_method_5_code
def yX9_isFigure : MethodName := ⟨RX9, "isFigure", "(I)Z"⟩
abbrev cX9_isSign : ByteArray := prog_11_method_6_code
def yX9_isSign : MethodName := ⟨RX9, "isSign", "(I)Z"⟩
abbrev cX9_next : ByteArray := prog_11_method_7_code
def yX9_next : MethodName := ⟨RX9, "next", "()V"⟩
abbrev cX9_is : ByteArray := prog_11_method_8_code
def yX9_is : MethodName := ⟨RX9, "is", "(I)Z"⟩
abbrev cX9_due : ByteArray := prog_11_method_9_code
def yX9_due : MethodName := ⟨RX9, "due", "(Z)V"⟩
abbrev cX9_passes : ByteArray := prog_11_method_10_code
def yX9_passes : MethodName := ⟨RX9, "passes", "(Z)V"⟩
abbrev cX9_newNodeBy : ByteArray := prog_11_method_11_code
def yX9_newNodeBy : MethodName := ⟨RX9, "newNodeBy", "(II)I"⟩
abbrev cX9_newScopeBy : ByteArray := prog_11_method_12_code
def yX9_newScopeBy : MethodName := ⟨RX9, "newScopeBy", "(II)I"⟩
abbrev cX9_opens : ByteArray := prog_11_method_13_code
def yX9_opens : MethodName := ⟨RX9, "opens", "()V"⟩
abbrev cX9_closes : ByteArray := prog_11_method_14_code
def yX9_closes : MethodName := ⟨RX9, "closes", "()V"⟩
abbrev cX9_readsPath : ByteArray := prog_11_method_15_code
def yX9_readsPath : MethodName := ⟨RX9, "readsPath", "()I"⟩
abbrev cX9_emits : ByteArray := prog_11_method_16_code
def yX9_emits : MethodName := ⟨RX9, "emits", "(II)V"⟩
abbrev cX9_waitsFor : ByteArray := prog_11_method_17_code
def yX9_waitsFor : MethodName := ⟨RX9, "waitsFor", "(I)V"⟩
abbrev cX9_wholeTerm : ByteArray := prog_11_method_18_code
def yX9_wholeTerm : MethodName := ⟨RX9, "wholeTerm", "()V"⟩
abbrev cX9_beginsTerm : ByteArray := prog_11_method_19_code
def yX9_beginsTerm : MethodName := ⟨RX9, "beginsTerm", "()V"⟩
abbrev cX9_isBetween : ByteArray := prog_11_method_20_code
def yX9_isBetween : MethodName := ⟨RX9, "isBetween", "()Z"⟩
abbrev cX9_readsExpression : ByteArray := prog_11_method_21_code
def yX9_readsExpression : MethodName := ⟨RX9, "readsExpression", "()V"⟩
abbrev cX9_readsNode : ByteArray := prog_11_method_22_code
def yX9_readsNode : MethodName := ⟨RX9, "readsNode", "()V"⟩
abbrev cX9_readsItem : ByteArray := prog_11_method_23_code
def yX9_readsItem : MethodName := ⟨RX9, "readsItem", "()V"⟩
abbrev cX9_tells : ByteArray := prog_11_method_24_code
def yX9_tells : MethodName := ⟨RX9, "tells", "()I"⟩
abbrev cX9_takesOver : ByteArray := prog_11_method_25_code
def yX9_takesOver : MethodName := ⟨RX9, "takesOver", "()V"⟩
abbrev cX9_begins : ByteArray := prog_11_method_26_code
def yX9_begins : MethodName := ⟨RX9, "begins", "()V"⟩
abbrev cX9_nodeBy : ByteArray := prog_11_method_27_code
def yX9_nodeBy : MethodName := ⟨RX9, "nodeBy", "(II)I"⟩
abbrev cX9_scopeBy : ByteArray := prog_11_method_28_code
def yX9_scopeBy : MethodName := ⟨RX9, "scopeBy", "(II)I"⟩
abbrev cX9_node : ByteArray := prog_11_method_29_code
def yX9_node : MethodName := ⟨RX9, "node", "()I"⟩
abbrev cX9_isNode : ByteArray := prog_11_method_30_code
def yX9_isNode : MethodName := ⟨RX9, "isNode", "(I)Z"⟩
abbrev cX9_of : ByteArray := prog_11_method_31_code
def yX9_of : MethodName := ⟨RX9, "of", "(II)I"⟩
abbrev cX9_worked : ByteArray := prog_11_method_32_code
def yX9_worked : MethodName := ⟨RX9, "worked", "(III)I"⟩
abbrev cX9_expressed : ByteArray := prog_11_method_33_code
def yX9_expressed : MethodName := ⟨RX9, "expressed", "(I)I"⟩
abbrev cX9_laysNodes : ByteArray := prog_11_method_34_code
def yX9_laysNodes : MethodName := ⟨RX9, "laysNodes", "()V"⟩
abbrev cX9_about : ByteArray := prog_11_method_35_code
def yX9_about : MethodName := ⟨RX9, "about", "(II)I"⟩
abbrev cX9_scope : ByteArray := prog_11_method_36_code
def yX9_scope : MethodName := ⟨RX9, "scope", "(II)I"⟩
abbrev cX9_listed : ByteArray := prog_11_method_37_code
def yX9_listed : MethodName := ⟨RX9, "listed", "(II)I"⟩
abbrev cX9_path : ByteArray := prog_11_method_38_code
def yX9_path : MethodName := ⟨RX9, "path", "(II)I"⟩
abbrev cX9_block0 : ByteArray := prog_11_method_39_code
def yX9_block0 : MethodName := ⟨RX9, "block0", "(I)I"⟩
abbrev cX9_blockBegins : ByteArray := prog_11_method_40_code
def yX9_blockBegins : MethodName := ⟨RX9, "blockBegins", "()V"⟩
abbrev cX9_notes : ByteArray := prog_11_method_41_code
def yX9_notes : MethodName := ⟨RX9, "notes", "()V"⟩
abbrev cX9_isWire : ByteArray := prog_11_method_42_code
def yX9_isWire : MethodName := ⟨RX9, "isWire", "(I)Z"⟩
abbrev cX9_sets : ByteArray := prog_11_method_43_code
def yX9_sets : MethodName := ⟨RX9, "sets", "(II)I"⟩
abbrev cX9_passes_ : ByteArray := prog_11_method_44_code
def yX9_passes_ : MethodName := ⟨RX9, "passes", "(I)I"⟩
abbrev cX9_dumps : ByteArray := prog_11_method_45_code
def yX9_dumps : MethodName := ⟨RX9, "dumps", "(I)I"⟩
abbrev cX9_sizes : ByteArray := prog_11_method_46_code
def yX9_sizes : MethodName := ⟨RX9, "sizes", "(I)I"⟩
abbrev cX9_undo : ByteArray := prog_11_method_47_code
def yX9_undo : MethodName := ⟨RX9, "undo", "()I"⟩
abbrev cX9_isTime : ByteArray := prog_11_method_48_code
def yX9_isTime : MethodName := ⟨RX9, "isTime", "(I)Z"⟩
abbrev cX9_blockAt : ByteArray := prog_11_method_49_code
def yX9_blockAt : MethodName := ⟨RX9, "blockAt", "(I)I"⟩
abbrev cX9_laysAt : ByteArray := prog_11_method_50_code
def yX9_laysAt : MethodName := ⟨RX9, "laysAt", "(I)V"⟩
abbrev cX9_at : ByteArray := prog_11_method_51_code
def yX9_at : MethodName := ⟨RX9, "at", "(II)I"⟩
abbrev cX9_laysTurns : ByteArray := prog_11_method_52_code
def yX9_laysTurns : MethodName := ⟨RX9, "laysTurns", "()V"⟩
abbrev cX9_laysLine : ByteArray := prog_11_method_53_code
def yX9_laysLine : MethodName := ⟨RX9, "laysLine", "(I)V"⟩
abbrev cX9_isEdge : ByteArray := prog_11_method_54_code
def yX9_isEdge : MethodName := ⟨RX9, "isEdge", "(II)Z"⟩
abbrev cX9_isKind : ByteArray := prog_11_method_55_code
def yX9_isKind : MethodName := ⟨RX9, "isKind", "(I)Z"⟩
abbrev cX9_edges : ByteArray := prog_11_method_56_code
def yX9_edges : MethodName := ⟨RX9, "edges", "(IIII)I"⟩
abbrev cX9_next_ : ByteArray := prog_11_method_57_code
def yX9_next_ : MethodName := ⟨RX9, "next", "(III)I"⟩
abbrev cX9_previous : ByteArray := prog_11_method_58_code
def yX9_previous : MethodName := ⟨RX9, "previous", "(III)I"⟩
abbrev cX9_first : ByteArray := prog_11_method_59_code
def yX9_first : MethodName := ⟨RX9, "first", "(III)I"⟩
abbrev cX9_holds : ByteArray := prog_11_method_60_code
def yX9_holds : MethodName := ⟨RX9, "holds", "(III)I"⟩
abbrev cX9_isTick : ByteArray := prog_11_method_61_code
def yX9_isTick : MethodName := ⟨RX9, "isTick", "(I)Z"⟩
abbrev cX9_ticks : ByteArray := prog_11_method_62_code
def yX9_ticks : MethodName := ⟨RX9, "ticks", "(II)I"⟩
abbrev cX9_delay : ByteArray := prog_11_method_63_code
def yX9_delay : MethodName := ⟨RX9, "delay", "(II)I"⟩
abbrev cX9_jump : ByteArray := prog_11_method_64_code
def yX9_jump : MethodName := ⟨RX9, "jump", "(I)I"⟩
abbrev cX9_isBlock : ByteArray := prog_11_method_65_code
def yX9_isBlock : MethodName := ⟨RX9, "isBlock", "(I)Z"⟩
abbrev cX9_addsRow : ByteArray := prog_11_method_66_code
def yX9_addsRow : MethodName := ⟨RX9, "addsRow", "(I)V"⟩
abbrev cX9_placeOf : ByteArray := prog_11_method_67_code
def yX9_placeOf : MethodName := ⟨RX9, "placeOf", "(I)I"⟩
abbrev cX9_roomOf : ByteArray := prog_11_method_68_code
def yX9_roomOf : MethodName := ⟨RX9, "roomOf", "(III)I"⟩
abbrev cX9_roomOfBlock : ByteArray := prog_11_method_69_code
def yX9_roomOfBlock : MethodName := ⟨RX9, "roomOfBlock", "(I)I"⟩
abbrev cX9_block : ByteArray := prog_11_method_70_code
def yX9_block : MethodName := ⟨RX9, "block", "(II)I"⟩
abbrev cX9_frame : ByteArray := prog_11_method_71_code
def yX9_frame : MethodName := ⟨RX9, "frame", "(II)I"⟩
abbrev cX9_nodeOfWire : ByteArray := prog_11_method_72_code
def yX9_nodeOfWire : MethodName := ⟨RX9, "nodeOfWire", "(I)I"⟩
abbrev cX9_change : ByteArray := prog_11_method_73_code
def yX9_change : MethodName := ⟨RX9, "change", "(III)I"⟩
abbrev cX9_roomParted : ByteArray := prog_11_method_74_code
def yX9_roomParted : MethodName := ⟨RX9, "roomParted", "(II)I"⟩
abbrev cX9_packedBy : ByteArray := prog_11_method_75_code
def yX9_packedBy : MethodName := ⟨RX9, "packedBy", "(I)I"⟩
abbrev cX9_packed : ByteArray := prog_11_method_76_code
def yX9_packed : MethodName := ⟨RX9, "packed", "(I)I"⟩
abbrev cX9_best : ByteArray := prog_11_method_77_code
def yX9_best : MethodName := ⟨RX9, "best", "()I"⟩
abbrev cX9_sees : ByteArray := prog_11_method_78_code
def yX9_sees : MethodName := ⟨RX9, "sees", "(II)I"⟩
abbrev cX9_forget : ByteArray := prog_11_method_79_code
def yX9_forget : MethodName := ⟨RX9, "forget", "()I"⟩
abbrev cX9_seen : ByteArray := prog_11_method_80_code
def yX9_seen : MethodName := ⟨RX9, "seen", "()I"⟩
abbrev cX9_which : ByteArray := prog_11_method_81_code
def yX9_which : MethodName := ⟨RX9, "which", "()I"⟩
abbrev cX9_mostAlike : ByteArray := prog_11_method_82_code
def yX9_mostAlike : MethodName := ⟨RX9, "mostAlike", "(I)I"⟩
abbrev cX9_look : ByteArray := prog_11_method_83_code
def yX9_look : MethodName := ⟨RX9, "look", "()I"⟩
abbrev cX9_keep : ByteArray := prog_11_method_84_code
def yX9_keep : MethodName := ⟨RX9, "keep", "(I)I"⟩
abbrev cX9_back : ByteArray := prog_11_method_85_code
def yX9_back : MethodName := ⟨RX9, "back", "(I)I"⟩
abbrev cX9_changes : ByteArray := prog_11_method_86_code
def yX9_changes : MethodName := ⟨RX9, "changes", "()I"⟩
abbrev cX9_roomOfAll : ByteArray := prog_11_method_87_code
def yX9_roomOfAll : MethodName := ⟨RX9, "roomOfAll", "()I"⟩
abbrev cX9_count : ByteArray := prog_11_method_88_code
def yX9_count : MethodName := ⟨RX9, "count", "(I)I"⟩
def RJ6 : String := "java/lang/Integer"
def TJ6 : u_T := fun k => match k with
  | _ => ("", "", "", false)
def tyJ6 : Nat → FieldType := fun k => match k with
  | _ => .int
theorem nmJ6 : ∀ a, a < 0 → ∀ b, b < 0 → a ≠ b → (TJ6 a).2.1 ≠ (TJ6 b).2.1 := by decide +kernel
theorem tyJ6_ok : ∀ k, k < 0 → parseFieldDescriptor (TJ6 k).2.2.1 = some (tyJ6 k) := by decide +kernel
abbrev cJ6_bitCount_0f7a4 : ByteArray := prog_12_method_49_code
def yJ6_bitCount_0f7a4 : MethodName := ⟨RJ6, "bitCount", "(I)I"⟩
def RJ9 : String := "java/lang/Math"
def TJ9 : u_T := fun k => match k with
  | _ => ("", "", "", false)
def tyJ9 : Nat → FieldType := fun k => match k with
  | _ => .int
theorem nmJ9 : ∀ a, a < 0 → ∀ b, b < 0 → a ≠ b → (TJ9 a).2.1 ≠ (TJ9 b).2.1 := by decide +kernel
theorem tyJ9_ok : ∀ k, k < 0 → parseFieldDescriptor (TJ9 k).2.2.1 = some (tyJ9 k) := by decide +kernel
abbrev cJ9_max_7cf53 : ByteArray := prog_13_method_65_code
def yJ9_max_7cf53 : MethodName := ⟨RJ9, "max", "(II)I"⟩
abbrev cJ9_min_7cf53 : ByteArray := prog_13_method_69_code
def yJ9_min_7cf53 : MethodName := ⟨RJ9, "min", "(II)I"⟩
def RJ10 : String := "java/lang/System"
def TJ10 : u_T := fun k => match k with
  | _ => ("", "", "", false)
def tyJ10 : Nat → FieldType := fun k => match k with
  | _ => .int
theorem nmJ10 : ∀ a, a < 0 → ∀ b, b < 0 → a ≠ b → (TJ10 a).2.1 ≠ (TJ10 b).2.1 := by decide +kernel
theorem tyJ10_ok : ∀ k, k < 0 → parseFieldDescriptor (TJ10 k).2.2.1 = some (tyJ10 k) := by decide +kernel
def RJ7 : String := "java/util/Arrays"
def TJ7 : u_T := fun k => match k with
  | _ => ("", "", "", false)
def tyJ7 : Nat → FieldType := fun k => match k with
  | _ => .int
theorem nmJ7 : ∀ a, a < 0 → ∀ b, b < 0 → a ≠ b → (TJ7 a).2.1 ≠ (TJ7 b).2.1 := by decide +kernel
theorem tyJ7_ok : ∀ k, k < 0 → parseFieldDescriptor (TJ7 k).2.2.1 = some (tyJ7 k) := by decide +kernel
abbrev cJ7_fill_53178 : ByteArray := prog_15_method_103_code
def yJ7_fill_53178 : MethodName := ⟨RJ7, "fill", "([II)V"⟩
def RL : String := "SignalWavesLaw"
abbrev cL_law : ByteArray := code
def yL_law : MethodName := ⟨RL, "law", "([I)Z"⟩
end
section
/-! ===== THE MACHINE MADE SMALL: ints as Int, references as small numbers, the heap as six functions; 'V' is W over that picture ===== -/
section JA
def jR (z : Int) : Prop := -2147483648 ≤ z ∧ z < 2147483648
theorem jR_toInt {z : Int} (h : jR z) : (Int32.ofInt z).toInt = z :=
  Int32.toInt_ofInt_of_le (by have := h.1; omega) (by have := h.2; omega)
theorem jR_of (x : Int32) : jR x.toInt := ⟨by have := Int32.le_toInt x; omega, by have := Int32.toInt_lt x; omega⟩
theorem jR_le {x y : Int} (hx : jR x) (hy : jR y) : Int32.ofInt x ≤ Int32.ofInt y ↔ x ≤ y := by
  rw [Int32.le_iff_toInt_le, jR_toInt hx, jR_toInt hy]
theorem jR_lt {x y : Int} (hx : jR x) (hy : jR y) : Int32.ofInt x < Int32.ofInt y ↔ x < y := by
  rw [Int32.lt_iff_toInt_lt, jR_toInt hx, jR_toInt hy]
theorem jR_eq {x y : Int} (hx : jR x) (hy : jR y) : Int32.ofInt x = Int32.ofInt y ↔ x = y :=
  ⟨fun h => by have h2 := congrArg Int32.toInt h; rwa [jR_toInt hx, jR_toInt hy] at h2, fun h => by rw [h]⟩
theorem jR_0 : jR 0 := ⟨by decide, by decide⟩
theorem j_0 : (0 : Int32) = Int32.ofInt 0 := rfl
theorem j_ix {i : Int} (hi : jR i) : (Int32.ofInt i).toNatClampNeg = i.toNat := by
  rw [← Int32.toNat_toInt, jR_toInt hi]
theorem j_in {i : Int} {n : Nat} (hi : jR i) (h : 0 ≤ i) (h2 : i < n) : vp_in (Int32.ofInt i) n := by
  rw [vp_in_iff, jR_toInt hi]
  exact ⟨h, h2⟩
theorem j_nneg {i : Int} (hi : jR i) (h : 0 ≤ i) : ¬ Int32.ofInt i < 0 := by
  rw [j_0, jR_lt hi jR_0]; omega
abbrev jA : Type := Int ⊕ Nat
def jRA : jA → Prop
  | .inl z => jR z
  | .inr _ => True
/-- fields of ints, fields of references, elements of ints, elements of references, shapes (kind, length), the next number -/
abbrev jH : Type := (Nat → Nat → Int) × (Nat → Nat → Nat) × (Nat → Nat → Int) × (Nat → Nat → Nat) × (Nat → Nat × Nat) × Nat
def jI (h : jH) : Nat → Nat → Int := h.1
def jP (h : jH) : Nat → Nat → Nat := h.2.1
def jX (h : jH) : Nat → Nat → Int := h.2.2.1
def jY (h : jH) : Nat → Nat → Nat := h.2.2.2.1
def jS (h : jH) : Nat → Nat × Nat := h.2.2.2.2.1
def jN (h : jH) : Nat := h.2.2.2.2.2
def ju {α : Type} (f : Nat → Nat → α) (a k : Nat) (v : α) : Nat → Nat → α := fun a' k' => if a' = a ∧ k' = k then v else f a' k'
def jsI (h : jH) (a k : Nat) (v : Int) : jH := (ju (jI h) a k v, h.2)
def jsP (h : jH) (a k : Nat) (v : Nat) : jH := (h.1, ju (jP h) a k v, h.2.2)
def jsX (h : jH) (a k : Nat) (v : Int) : jH := (h.1, h.2.1, ju (jX h) a k v, h.2.2.2)
def jsY (h : jH) (a k : Nat) (v : Nat) : jH := (h.1, h.2.1, h.2.2.1, ju (jY h) a k v, h.2.2.2.2)
def jz {α : Type} (f : Nat → Nat → α) (a : Nat) (v : α) : Nat → Nat → α := fun a' k' => if a' = a then v else f a' k'
/-- a new cell: all its ints 0, all its references null -/
def jnew (h : jH) (kind len : Nat) : jH := (jz (jI h) (jN h) 0, jz (jP h) (jN h) 0, jz (jX h) (jN h) 0, jz (jY h) (jN h) 0, fun a => if a = jN h then (kind, len) else jS h a, jN h + 1)
/-- System.arraycopy of ints -/
def jcpy (h : jH) (a0 sp a1 dp n : Nat) : jH := (h.1, h.2.1, fun a k => if a = a1 ∧ dp ≤ k ∧ k < dp + n then jX h a0 (sp + (k - dp)) else jX h a k, h.2.2.2)
abbrev jG : Type := Nat × Nat × va_G × (Nat → ClassId)
abbrev jgb (G : jG) : Nat := G.1
abbrev jgz (G : jG) : Nat := G.2.1
abbrev jgD (G : jG) : va_G := G.2.2.1
abbrev jgA (G : jG) : Nat → ClassId := G.2.2.2
def jrf (G : jG) : Nat → Option Nat
  | 0 => none
  | 1 => some (jgb G)
  | n + 2 => some (jgz G + n)
def jV (G : jG) : jA → Value
  | .inl z => .int (Int32.ofInt z)
  | .inr p => va_rf (jrf G p)
abbrev jcl : List vw_C := [(RX0, TX0, 4), (RX1, TX1, 4), (RX2, TX2, 13), (RX3, TX3, 4), (RX4, TX4, 2), (RX5, TX5, 5), (RX6, TX6, 7), (RX7, TX7, 5), (RX8, TX8, 14), (RX9, TX9, 50)]
def jR_ : Nat → String
  | 0 => RX0 | 1 => RX1 | 2 => RX2 | 3 => RX3 | 4 => RX4 | 5 => RX5 | 6 => RX6 | 7 => RX7 | 8 => RX8 | _ => RX9
def jT_ : Nat → u_T
  | 0 => TX0 | 1 => TX1 | 2 => TX2 | 3 => TX3 | 4 => TX4 | 5 => TX5 | 6 => TX6 | 7 => TX7 | 8 => TX8 | _ => TX9
def jt_ : Nat → Nat → FieldType
  | 0 => tyX0 | 1 => tyX1 | 2 => tyX2 | 3 => tyX3 | 4 => tyX4 | 5 => tyX5 | 6 => tyX6 | 7 => tyX7 | 8 => tyX8 | _ => tyX9
def jF_ : Nat → Nat
  | 0 => 4 | 1 => 4 | 2 => 13 | 3 => 4 | 4 => 2 | 5 => 5 | 6 => 7 | 7 => 5 | 8 => 14 | _ => 50
theorem jcl_get : ∀ c, c < 10 → jcl[c]? = some (jR_ c, jT_ c, jF_ c) := by
  intro c hc
  rcases (show c = 0 ∨ c = 1 ∨ c = 2 ∨ c = 3 ∨ c = 4 ∨ c = 5 ∨ c = 6 ∨ c = 7 ∨ c = 8 ∨ c = 9 by omega) with rfl | rfl | rfl | rfl | rfl | rfl | rfl | rfl | rfl | rfl <;> rfl
theorem jt_ok : ∀ c, c < 10 → ∀ k, k < jF_ c → parseFieldDescriptor (jT_ c k).2.2.1 = some (jt_ c k) := by
  intro c hc
  rcases (show c = 0 ∨ c = 1 ∨ c = 2 ∨ c = 3 ∨ c = 4 ∨ c = 5 ∨ c = 6 ∨ c = 7 ∨ c = 8 ∨ c = 9 by omega) with rfl | rfl | rfl | rfl | rfl | rfl | rfl | rfl | rfl | rfl
  · exact tyX0_ok
  · exact tyX1_ok
  · exact tyX2_ok
  · exact tyX3_ok
  · exact tyX4_ok
  · exact tyX5_ok
  · exact tyX6_ok
  · exact tyX7_ok
  · exact tyX8_ok
  · exact tyX9_ok
theorem jn_ok : ∀ c, c < 10 → ∀ a, a < jF_ c → ∀ b, b < jF_ c → a ≠ b → (jT_ c a).2.1 ≠ (jT_ c b).2.1 := by
  intro c hc
  rcases (show c = 0 ∨ c = 1 ∨ c = 2 ∨ c = 3 ∨ c = 4 ∨ c = 5 ∨ c = 6 ∨ c = 7 ∨ c = 8 ∨ c = 9 by omega) with rfl | rfl | rfl | rfl | rfl | rfl | rfl | rfl | rfl | rfl
  · exact nmX0
  · exact nmX1
  · exact nmX2
  · exact nmX3
  · exact nmX4
  · exact nmX5
  · exact nmX6
  · exact nmX7
  · exact nmX8
  · exact nmX9
def jrt : FieldType → Bool
  | .int => false
  | .boolean => false
  | _ => true
def jfv (G : jG) (h : jH) (a c k : Nat) : Value := if jrt (jt_ c k) then va_rf (jrf G (jP h a k)) else .int (Int32.ofInt (jI h a k))
def jfs (G : jG) (h : jH) (a c : Nat) : List Value := (List.range (jF_ c)).map (jfv G h a c)
def jar (G : jG) (h : jH) (a kind len : Nat) : vp_A := (len, if kind < 18 then .inl (fun j => Int32.ofInt (jX h a j)) else .inr (.inr (.inr (.inr (fun j => jrf G (jY h a j))))))
def jE (G : jG) (h : jH) (a : Nat) : va_E := if (jS h a).1 < 10 then .inr ((jS h a).1, jfs G h a (jS h a).1) else .inl (jgA G (jS h a).1, jar G h a (jS h a).1 (jS h a).2)
def jW (G : jG) (h : jH) : va_W := (List.range (jN h - 2)).map (fun i => (jgz G + i, jE G h (i + 2)))
abbrev jAt (G : jG) : Nat → Prop := fun q => jgz G ≤ q
def jtys (G : jG) : List (ClassId × FieldType) := [(jgA G 16, .int), (jgA G 17, .boolean), (jgA G 18, .object RX0), (jgA G 19, .object RX6), (jgA G 20, .array .int)]
def jTs : List Cond := lw_tbl.filter goodWord
def jnest : Cond → Bool
  | .fieldLinkNest .. => true
  | .methodLinkNest .. => true
  | _ => false
def jAOA (U : State) : Prop := (Cond.arrayOver (.array .int)).before #[] U = true
def jNw (U : State) : Prop := ∀ w ∈ lw_tbl, jnest w = true → va_Nw w U
def jSt (G : jG) (s : State) : Prop := va_K (jgD G) jcl (jtys G) s ∧ jNw s ∧ va_AO RX0 s ∧ va_AO RX6 s ∧ jAOA s
def jWf (h : jH) : Prop := 2 ≤ jN h ∧ (∀ a k, jR (jI h a k)) ∧ (∀ a k, jR (jX h a k)) ∧ (jS h 0).1 = 99 ∧ (jS h 1).1 = 15 ∧ (∀ a, jN h ≤ a → (jS h a).1 = 99) ∧ ∀ a, (jS h a).2 < 2147483648
def jOk (G : jG) (h : jH) (H0 H : Heap) (locs : List Loc) (s : State) : Prop :=
  jWf h ∧ jSt G s ∧ va_P (jgD G) jcl (jW G h) H ∧ va_S (jAt G) H0 H locs ∧ H.size = jgz G + (jN h - 2) ∧ jgb G < jgz G ∧ jgz G ≤ H0.size ∧ va_X (jgb G) (jS h 1).2 (fun j => Int32.ofInt (jX h 1 j)) s H
theorem jW_get (G : jG) (h : jH) {a : Nat} (h2 : 2 ≤ a) (hn : a < jN h) : (jW G h)[a - 2]? = some (jgz G + (a - 2), jE G h a) := by
  unfold jW
  rw [List.getElem?_map, List.getElem?_range (by omega)]
  simp [show a - 2 + 2 = a by omega]
theorem jrf_at (G : jG) {a : Nat} (h2 : 2 ≤ a) : jrf G a = some (jgz G + (a - 2)) := by
  obtain ⟨n, rfl⟩ : ∃ n, a = n + 2 := ⟨a - 2, by omega⟩
  simp [jrf]
theorem jD (G : jG) (h : jH) : va_D (jAt G) (jW G h) := by
  have key : ∀ (k : Nat) (q : Nat × va_E), (jW G h)[k]? = some q → q.1 = jgz G + k := by
    intro k q hk
    unfold jW at hk
    rw [List.getElem?_map] at hk
    by_cases hl : k < jN h - 2
    · rw [List.getElem?_range hl] at hk
      cases hk
      rfl
    · rw [List.getElem?_eq_none (by simp; omega)] at hk
      cases hk
  refine ⟨fun i j p q hi hj hpq => ?_, fun k q hk => ?_⟩
  · have := key i p hi
    have := key j q hj
    omega
  · have := key k q hk
    show jgz G ≤ q.1
    omega
theorem jw_range {h : jH} (hw : jWf h) {a : Nat} (hk : (jS h a).1 ≠ 99) (hk2 : (jS h a).1 ≠ 15) : 2 ≤ a ∧ a < jN h := by
  obtain ⟨-, -, -, h0, h1, hn, -⟩ := hw
  refine ⟨?_, ?_⟩
  · rcases Nat.lt_or_ge a 2 with q | q
    · rcases (show a = 0 ∨ a = 1 by omega) with rfl | rfl
      · exact absurd h0 hk
      · exact absurd h1 hk2
    · exact q
  · rcases Nat.lt_or_ge a (jN h) with q | q
    · exact q
    · exact absurd (hn a q) hk
theorem jE_obj {G : jG} {h : jH} {a c : Nat} (hS : (jS h a).1 = c) (hc : c < 10) : jE G h a = .inr (c, jfs G h a c) := by
  unfold jE
  rw [if_pos (by rw [hS]; exact hc), hS]
theorem jE_arr {G : jG} {h : jH} {a c : Nat} (hS : (jS h a).1 = c) (hc : 16 ≤ c) : jE G h a = .inl (jgA G c, jar G h a c (jS h a).2) := by
  unfold jE
  rw [if_neg (by rw [hS]; omega), hS]
theorem jfs_get {G : jG} {h : jH} {a c k : Nat} (hk : k < jF_ c) : (jfs G h a c)[k]? = some (jfv G h a c k) := by
  unfold jfs
  rw [List.getElem?_map, List.getElem?_range hk]
  rfl
theorem jfs_len {G : jG} {h : jH} {a c : Nat} : (jfs G h a c).length = jF_ c := by simp [jfs]
theorem jW_ext {G : jG} {h h' : jH} {a : Nat} {e : va_E} (hN : jN h' = jN h) (h2 : 2 ≤ a) (hn : a < jN h) (he : jE G h' a = e) (ho : ∀ b, b ≠ a → jE G h' b = jE G h b) : jW G h' = (jW G h).set (a - 2) (jgz G + (a - 2), e) := by
  apply List.ext_getElem?
  intro k
  by_cases hl : k < jN h - 2
  · have g1 := jW_get G h' (a := k + 2) (by omega) (by omega)
    have g2 := jW_get G h (a := k + 2) (by omega) (by omega)
    rw [show k + 2 - 2 = k by omega] at g1 g2
    by_cases hk : k = a - 2
    · subst hk
      rw [g1, List.getElem?_set_self (by have := (List.getElem?_eq_some_iff.mp g2).1; exact this)]
      rw [show a - 2 + 2 = a by omega, he]
    · rw [g1, List.getElem?_set_ne (by omega), g2, ho _ (by omega)]
  · rw [List.getElem?_eq_none (by simp [jW]; omega), List.getElem?_eq_none (by simp [jW]; omega)]
end JA
end
section
/-! ===== the words of the tables, by their places ===== -/
theorem jmem {w : Cond} (i : Nat) (h : lw_tbl[i]? = some w) (hg : goodWord w = true) : w ∈ jTs := List.mem_filter.mpr ⟨List.mem_of_getElem? h, hg⟩
theorem jnem {w : Cond} (i : Nat) (h : lw_tbl[i]? = some w) : w ∈ lw_tbl := List.mem_of_getElem? h
theorem jTs_good {w : Cond} (h : w ∈ jTs) : w ∈ jTs ∧ ((w.onTables && w.keeps) = true ∨ ∃ ty, w = .arrayClass ty) := ⟨h, good_of_word (List.mem_filter.mp h).2⟩
theorem jl0_0 : u_lay RX0 TX0 0 ∈ jTs := jmem 266 (by decide +kernel) (by decide +kernel)
theorem jl0_1 : u_lay RX0 TX0 1 ∈ jTs := jmem 268 (by decide +kernel) (by decide +kernel)
theorem jl0_2 : u_lay RX0 TX0 2 ∈ jTs := jmem 270 (by decide +kernel) (by decide +kernel)
theorem jl0_3 : u_lay RX0 TX0 3 ∈ jTs := jmem 272 (by decide +kernel) (by decide +kernel)
theorem jin0 : ∀ w ∈ u_ws RX0 TX0 4, w ∈ jTs := show ∀ w ∈ [u_lay RX0 TX0 0, u_lay RX0 TX0 1, u_lay RX0 TX0 2, u_lay RX0 TX0 3], w ∈ jTs from List.forall_mem_cons.mpr ⟨jl0_0, List.forall_mem_cons.mpr ⟨jl0_1, List.forall_mem_cons.mpr ⟨jl0_2, List.forall_mem_cons.mpr ⟨jl0_3, fun _ h => absurd h List.not_mem_nil⟩⟩⟩⟩
theorem jl1_0 : u_lay RX1 TX1 0 ∈ jTs := jmem 242 (by decide +kernel) (by decide +kernel)
theorem jl1_1 : u_lay RX1 TX1 1 ∈ jTs := jmem 244 (by decide +kernel) (by decide +kernel)
theorem jl1_2 : u_lay RX1 TX1 2 ∈ jTs := jmem 246 (by decide +kernel) (by decide +kernel)
theorem jl1_3 : u_lay RX1 TX1 3 ∈ jTs := jmem 248 (by decide +kernel) (by decide +kernel)
theorem jin1 : ∀ w ∈ u_ws RX1 TX1 4, w ∈ jTs := show ∀ w ∈ [u_lay RX1 TX1 0, u_lay RX1 TX1 1, u_lay RX1 TX1 2, u_lay RX1 TX1 3], w ∈ jTs from List.forall_mem_cons.mpr ⟨jl1_0, List.forall_mem_cons.mpr ⟨jl1_1, List.forall_mem_cons.mpr ⟨jl1_2, List.forall_mem_cons.mpr ⟨jl1_3, fun _ h => absurd h List.not_mem_nil⟩⟩⟩⟩
theorem jl2_0 : u_lay RX2 TX2 0 ∈ jTs := jmem 159 (by decide +kernel) (by decide +kernel)
theorem jl2_1 : u_lay RX2 TX2 1 ∈ jTs := jmem 161 (by decide +kernel) (by decide +kernel)
theorem jl2_2 : u_lay RX2 TX2 2 ∈ jTs := jmem 163 (by decide +kernel) (by decide +kernel)
theorem jl2_3 : u_lay RX2 TX2 3 ∈ jTs := jmem 165 (by decide +kernel) (by decide +kernel)
theorem jl2_4 : u_lay RX2 TX2 4 ∈ jTs := jmem 167 (by decide +kernel) (by decide +kernel)
theorem jl2_5 : u_lay RX2 TX2 5 ∈ jTs := jmem 169 (by decide +kernel) (by decide +kernel)
theorem jl2_6 : u_lay RX2 TX2 6 ∈ jTs := jmem 171 (by decide +kernel) (by decide +kernel)
theorem jl2_7 : u_lay RX2 TX2 7 ∈ jTs := jmem 173 (by decide +kernel) (by decide +kernel)
theorem jl2_8 : u_lay RX2 TX2 8 ∈ jTs := jmem 175 (by decide +kernel) (by decide +kernel)
theorem jl2_9 : u_lay RX2 TX2 9 ∈ jTs := jmem 177 (by decide +kernel) (by decide +kernel)
theorem jl2_10 : u_lay RX2 TX2 10 ∈ jTs := jmem 179 (by decide +kernel) (by decide +kernel)
theorem jl2_11 : u_lay RX2 TX2 11 ∈ jTs := jmem 181 (by decide +kernel) (by decide +kernel)
theorem jl2_12 : u_lay RX2 TX2 12 ∈ jTs := jmem 183 (by decide +kernel) (by decide +kernel)
theorem jin2 : ∀ w ∈ u_ws RX2 TX2 13, w ∈ jTs := show ∀ w ∈ [u_lay RX2 TX2 0, u_lay RX2 TX2 1, u_lay RX2 TX2 2, u_lay RX2 TX2 3, u_lay RX2 TX2 4, u_lay RX2 TX2 5, u_lay RX2 TX2 6, u_lay RX2 TX2 7, u_lay RX2 TX2 8, u_lay RX2 TX2 9, u_lay RX2 TX2 10, u_lay RX2 TX2 11, u_lay RX2 TX2 12], w ∈ jTs from List.forall_mem_cons.mpr ⟨jl2_0, List.forall_mem_cons.mpr ⟨jl2_1, List.forall_mem_cons.mpr ⟨jl2_2, List.forall_mem_cons.mpr ⟨jl2_3, List.forall_mem_cons.mpr ⟨jl2_4, List.forall_mem_cons.mpr ⟨jl2_5, List.forall_mem_cons.mpr ⟨jl2_6, List.forall_mem_cons.mpr ⟨jl2_7, List.forall_mem_cons.mpr ⟨jl2_8, List.forall_mem_cons.mpr ⟨jl2_9, List.forall_mem_cons.mpr ⟨jl2_10, List.forall_mem_cons.mpr ⟨jl2_11, List.forall_mem_cons.mpr ⟨jl2_12, fun _ h => absurd h List.not_mem_nil⟩⟩⟩⟩⟩⟩⟩⟩⟩⟩⟩⟩⟩
theorem jl3_0 : u_lay RX3 TX3 0 ∈ jTs := jmem 360 (by decide +kernel) (by decide +kernel)
theorem jl3_1 : u_lay RX3 TX3 1 ∈ jTs := jmem 362 (by decide +kernel) (by decide +kernel)
theorem jl3_2 : u_lay RX3 TX3 2 ∈ jTs := jmem 364 (by decide +kernel) (by decide +kernel)
theorem jl3_3 : u_lay RX3 TX3 3 ∈ jTs := jmem 366 (by decide +kernel) (by decide +kernel)
theorem jin3 : ∀ w ∈ u_ws RX3 TX3 4, w ∈ jTs := show ∀ w ∈ [u_lay RX3 TX3 0, u_lay RX3 TX3 1, u_lay RX3 TX3 2, u_lay RX3 TX3 3], w ∈ jTs from List.forall_mem_cons.mpr ⟨jl3_0, List.forall_mem_cons.mpr ⟨jl3_1, List.forall_mem_cons.mpr ⟨jl3_2, List.forall_mem_cons.mpr ⟨jl3_3, fun _ h => absurd h List.not_mem_nil⟩⟩⟩⟩
theorem jl4_0 : u_lay RX4 TX4 0 ∈ jTs := jmem 341 (by decide +kernel) (by decide +kernel)
theorem jl4_1 : u_lay RX4 TX4 1 ∈ jTs := jmem 343 (by decide +kernel) (by decide +kernel)
theorem jin4 : ∀ w ∈ u_ws RX4 TX4 2, w ∈ jTs := show ∀ w ∈ [u_lay RX4 TX4 0, u_lay RX4 TX4 1], w ∈ jTs from List.forall_mem_cons.mpr ⟨jl4_0, List.forall_mem_cons.mpr ⟨jl4_1, fun _ h => absurd h List.not_mem_nil⟩⟩
theorem jl5_0 : u_lay RX5 TX5 0 ∈ jTs := jmem 197 (by decide +kernel) (by decide +kernel)
theorem jl5_1 : u_lay RX5 TX5 1 ∈ jTs := jmem 199 (by decide +kernel) (by decide +kernel)
theorem jl5_2 : u_lay RX5 TX5 2 ∈ jTs := jmem 201 (by decide +kernel) (by decide +kernel)
theorem jl5_3 : u_lay RX5 TX5 3 ∈ jTs := jmem 203 (by decide +kernel) (by decide +kernel)
theorem jl5_4 : u_lay RX5 TX5 4 ∈ jTs := jmem 205 (by decide +kernel) (by decide +kernel)
theorem jin5 : ∀ w ∈ u_ws RX5 TX5 5, w ∈ jTs := show ∀ w ∈ [u_lay RX5 TX5 0, u_lay RX5 TX5 1, u_lay RX5 TX5 2, u_lay RX5 TX5 3, u_lay RX5 TX5 4], w ∈ jTs from List.forall_mem_cons.mpr ⟨jl5_0, List.forall_mem_cons.mpr ⟨jl5_1, List.forall_mem_cons.mpr ⟨jl5_2, List.forall_mem_cons.mpr ⟨jl5_3, List.forall_mem_cons.mpr ⟨jl5_4, fun _ h => absurd h List.not_mem_nil⟩⟩⟩⟩⟩
theorem jl6_0 : u_lay RX6 TX6 0 ∈ jTs := jmem 314 (by decide +kernel) (by decide +kernel)
theorem jl6_1 : u_lay RX6 TX6 1 ∈ jTs := jmem 316 (by decide +kernel) (by decide +kernel)
theorem jl6_2 : u_lay RX6 TX6 2 ∈ jTs := jmem 318 (by decide +kernel) (by decide +kernel)
theorem jl6_3 : u_lay RX6 TX6 3 ∈ jTs := jmem 320 (by decide +kernel) (by decide +kernel)
theorem jl6_4 : u_lay RX6 TX6 4 ∈ jTs := jmem 322 (by decide +kernel) (by decide +kernel)
theorem jl6_5 : u_lay RX6 TX6 5 ∈ jTs := jmem 324 (by decide +kernel) (by decide +kernel)
theorem jl6_6 : u_lay RX6 TX6 6 ∈ jTs := jmem 326 (by decide +kernel) (by decide +kernel)
theorem jin6 : ∀ w ∈ u_ws RX6 TX6 7, w ∈ jTs := show ∀ w ∈ [u_lay RX6 TX6 0, u_lay RX6 TX6 1, u_lay RX6 TX6 2, u_lay RX6 TX6 3, u_lay RX6 TX6 4, u_lay RX6 TX6 5, u_lay RX6 TX6 6], w ∈ jTs from List.forall_mem_cons.mpr ⟨jl6_0, List.forall_mem_cons.mpr ⟨jl6_1, List.forall_mem_cons.mpr ⟨jl6_2, List.forall_mem_cons.mpr ⟨jl6_3, List.forall_mem_cons.mpr ⟨jl6_4, List.forall_mem_cons.mpr ⟨jl6_5, List.forall_mem_cons.mpr ⟨jl6_6, fun _ h => absurd h List.not_mem_nil⟩⟩⟩⟩⟩⟩⟩
theorem jl7_0 : u_lay RX7 TX7 0 ∈ jTs := jmem 112 (by decide +kernel) (by decide +kernel)
theorem jl7_1 : u_lay RX7 TX7 1 ∈ jTs := jmem 114 (by decide +kernel) (by decide +kernel)
theorem jl7_2 : u_lay RX7 TX7 2 ∈ jTs := jmem 116 (by decide +kernel) (by decide +kernel)
theorem jl7_3 : u_lay RX7 TX7 3 ∈ jTs := jmem 118 (by decide +kernel) (by decide +kernel)
theorem jl7_4 : u_lay RX7 TX7 4 ∈ jTs := jmem 120 (by decide +kernel) (by decide +kernel)
theorem jin7 : ∀ w ∈ u_ws RX7 TX7 5, w ∈ jTs := show ∀ w ∈ [u_lay RX7 TX7 0, u_lay RX7 TX7 1, u_lay RX7 TX7 2, u_lay RX7 TX7 3, u_lay RX7 TX7 4], w ∈ jTs from List.forall_mem_cons.mpr ⟨jl7_0, List.forall_mem_cons.mpr ⟨jl7_1, List.forall_mem_cons.mpr ⟨jl7_2, List.forall_mem_cons.mpr ⟨jl7_3, List.forall_mem_cons.mpr ⟨jl7_4, fun _ h => absurd h List.not_mem_nil⟩⟩⟩⟩⟩
theorem jl8_0 : u_lay RX8 TX8 0 ∈ jTs := jmem 386 (by decide +kernel) (by decide +kernel)
theorem jl8_1 : u_lay RX8 TX8 1 ∈ jTs := jmem 388 (by decide +kernel) (by decide +kernel)
theorem jl8_2 : u_lay RX8 TX8 2 ∈ jTs := jmem 390 (by decide +kernel) (by decide +kernel)
theorem jl8_3 : u_lay RX8 TX8 3 ∈ jTs := jmem 392 (by decide +kernel) (by decide +kernel)
theorem jl8_4 : u_lay RX8 TX8 4 ∈ jTs := jmem 394 (by decide +kernel) (by decide +kernel)
theorem jl8_5 : u_lay RX8 TX8 5 ∈ jTs := jmem 396 (by decide +kernel) (by decide +kernel)
theorem jl8_6 : u_lay RX8 TX8 6 ∈ jTs := jmem 398 (by decide +kernel) (by decide +kernel)
theorem jl8_7 : u_lay RX8 TX8 7 ∈ jTs := jmem 400 (by decide +kernel) (by decide +kernel)
theorem jl8_8 : u_lay RX8 TX8 8 ∈ jTs := jmem 402 (by decide +kernel) (by decide +kernel)
theorem jl8_9 : u_lay RX8 TX8 9 ∈ jTs := jmem 404 (by decide +kernel) (by decide +kernel)
theorem jl8_10 : u_lay RX8 TX8 10 ∈ jTs := jmem 406 (by decide +kernel) (by decide +kernel)
theorem jl8_11 : u_lay RX8 TX8 11 ∈ jTs := jmem 408 (by decide +kernel) (by decide +kernel)
theorem jl8_12 : u_lay RX8 TX8 12 ∈ jTs := jmem 410 (by decide +kernel) (by decide +kernel)
theorem jl8_13 : u_lay RX8 TX8 13 ∈ jTs := jmem 412 (by decide +kernel) (by decide +kernel)
theorem jin8 : ∀ w ∈ u_ws RX8 TX8 14, w ∈ jTs := show ∀ w ∈ [u_lay RX8 TX8 0, u_lay RX8 TX8 1, u_lay RX8 TX8 2, u_lay RX8 TX8 3, u_lay RX8 TX8 4, u_lay RX8 TX8 5, u_lay RX8 TX8 6, u_lay RX8 TX8 7, u_lay RX8 TX8 8, u_lay RX8 TX8 9, u_lay RX8 TX8 10, u_lay RX8 TX8 11, u_lay RX8 TX8 12, u_lay RX8 TX8 13], w ∈ jTs from List.forall_mem_cons.mpr ⟨jl8_0, List.forall_mem_cons.mpr ⟨jl8_1, List.forall_mem_cons.mpr ⟨jl8_2, List.forall_mem_cons.mpr ⟨jl8_3, List.forall_mem_cons.mpr ⟨jl8_4, List.forall_mem_cons.mpr ⟨jl8_5, List.forall_mem_cons.mpr ⟨jl8_6, List.forall_mem_cons.mpr ⟨jl8_7, List.forall_mem_cons.mpr ⟨jl8_8, List.forall_mem_cons.mpr ⟨jl8_9, List.forall_mem_cons.mpr ⟨jl8_10, List.forall_mem_cons.mpr ⟨jl8_11, List.forall_mem_cons.mpr ⟨jl8_12, List.forall_mem_cons.mpr ⟨jl8_13, fun _ h => absurd h List.not_mem_nil⟩⟩⟩⟩⟩⟩⟩⟩⟩⟩⟩⟩⟩⟩
theorem jl9_0 : u_lay RX9 TX9 0 ∈ jTs := jmem 909 (by decide +kernel) (by decide +kernel)
theorem jl9_1 : u_lay RX9 TX9 1 ∈ jTs := jmem 911 (by decide +kernel) (by decide +kernel)
theorem jl9_2 : u_lay RX9 TX9 2 ∈ jTs := jmem 913 (by decide +kernel) (by decide +kernel)
theorem jl9_3 : u_lay RX9 TX9 3 ∈ jTs := jmem 915 (by decide +kernel) (by decide +kernel)
theorem jl9_4 : u_lay RX9 TX9 4 ∈ jTs := jmem 917 (by decide +kernel) (by decide +kernel)
theorem jl9_5 : u_lay RX9 TX9 5 ∈ jTs := jmem 919 (by decide +kernel) (by decide +kernel)
theorem jl9_6 : u_lay RX9 TX9 6 ∈ jTs := jmem 921 (by decide +kernel) (by decide +kernel)
theorem jl9_7 : u_lay RX9 TX9 7 ∈ jTs := jmem 923 (by decide +kernel) (by decide +kernel)
theorem jl9_8 : u_lay RX9 TX9 8 ∈ jTs := jmem 925 (by decide +kernel) (by decide +kernel)
theorem jl9_9 : u_lay RX9 TX9 9 ∈ jTs := jmem 927 (by decide +kernel) (by decide +kernel)
theorem jl9_10 : u_lay RX9 TX9 10 ∈ jTs := jmem 929 (by decide +kernel) (by decide +kernel)
theorem jl9_11 : u_lay RX9 TX9 11 ∈ jTs := jmem 931 (by decide +kernel) (by decide +kernel)
theorem jl9_12 : u_lay RX9 TX9 12 ∈ jTs := jmem 933 (by decide +kernel) (by decide +kernel)
theorem jl9_13 : u_lay RX9 TX9 13 ∈ jTs := jmem 935 (by decide +kernel) (by decide +kernel)
theorem jl9_14 : u_lay RX9 TX9 14 ∈ jTs := jmem 937 (by decide +kernel) (by decide +kernel)
theorem jl9_15 : u_lay RX9 TX9 15 ∈ jTs := jmem 939 (by decide +kernel) (by decide +kernel)
theorem jl9_16 : u_lay RX9 TX9 16 ∈ jTs := jmem 941 (by decide +kernel) (by decide +kernel)
theorem jl9_17 : u_lay RX9 TX9 17 ∈ jTs := jmem 943 (by decide +kernel) (by decide +kernel)
theorem jl9_18 : u_lay RX9 TX9 18 ∈ jTs := jmem 945 (by decide +kernel) (by decide +kernel)
theorem jl9_19 : u_lay RX9 TX9 19 ∈ jTs := jmem 947 (by decide +kernel) (by decide +kernel)
theorem jl9_20 : u_lay RX9 TX9 20 ∈ jTs := jmem 949 (by decide +kernel) (by decide +kernel)
theorem jl9_21 : u_lay RX9 TX9 21 ∈ jTs := jmem 951 (by decide +kernel) (by decide +kernel)
theorem jl9_22 : u_lay RX9 TX9 22 ∈ jTs := jmem 953 (by decide +kernel) (by decide +kernel)
theorem jl9_23 : u_lay RX9 TX9 23 ∈ jTs := jmem 955 (by decide +kernel) (by decide +kernel)
theorem jl9_24 : u_lay RX9 TX9 24 ∈ jTs := jmem 957 (by decide +kernel) (by decide +kernel)
theorem jl9_25 : u_lay RX9 TX9 25 ∈ jTs := jmem 959 (by decide +kernel) (by decide +kernel)
theorem jl9_26 : u_lay RX9 TX9 26 ∈ jTs := jmem 961 (by decide +kernel) (by decide +kernel)
theorem jl9_27 : u_lay RX9 TX9 27 ∈ jTs := jmem 963 (by decide +kernel) (by decide +kernel)
theorem jl9_28 : u_lay RX9 TX9 28 ∈ jTs := jmem 965 (by decide +kernel) (by decide +kernel)
theorem jl9_29 : u_lay RX9 TX9 29 ∈ jTs := jmem 967 (by decide +kernel) (by decide +kernel)
theorem jl9_30 : u_lay RX9 TX9 30 ∈ jTs := jmem 969 (by decide +kernel) (by decide +kernel)
theorem jl9_31 : u_lay RX9 TX9 31 ∈ jTs := jmem 971 (by decide +kernel) (by decide +kernel)
theorem jl9_32 : u_lay RX9 TX9 32 ∈ jTs := jmem 973 (by decide +kernel) (by decide +kernel)
theorem jl9_33 : u_lay RX9 TX9 33 ∈ jTs := jmem 975 (by decide +kernel) (by decide +kernel)
theorem jl9_34 : u_lay RX9 TX9 34 ∈ jTs := jmem 977 (by decide +kernel) (by decide +kernel)
theorem jl9_35 : u_lay RX9 TX9 35 ∈ jTs := jmem 979 (by decide +kernel) (by decide +kernel)
theorem jl9_36 : u_lay RX9 TX9 36 ∈ jTs := jmem 981 (by decide +kernel) (by decide +kernel)
theorem jl9_37 : u_lay RX9 TX9 37 ∈ jTs := jmem 983 (by decide +kernel) (by decide +kernel)
theorem jl9_38 : u_lay RX9 TX9 38 ∈ jTs := jmem 985 (by decide +kernel) (by decide +kernel)
theorem jl9_39 : u_lay RX9 TX9 39 ∈ jTs := jmem 987 (by decide +kernel) (by decide +kernel)
theorem jl9_40 : u_lay RX9 TX9 40 ∈ jTs := jmem 989 (by decide +kernel) (by decide +kernel)
theorem jl9_41 : u_lay RX9 TX9 41 ∈ jTs := jmem 991 (by decide +kernel) (by decide +kernel)
theorem jl9_42 : u_lay RX9 TX9 42 ∈ jTs := jmem 993 (by decide +kernel) (by decide +kernel)
theorem jl9_43 : u_lay RX9 TX9 43 ∈ jTs := jmem 995 (by decide +kernel) (by decide +kernel)
theorem jl9_44 : u_lay RX9 TX9 44 ∈ jTs := jmem 997 (by decide +kernel) (by decide +kernel)
theorem jl9_45 : u_lay RX9 TX9 45 ∈ jTs := jmem 999 (by decide +kernel) (by decide +kernel)
theorem jl9_46 : u_lay RX9 TX9 46 ∈ jTs := jmem 1001 (by decide +kernel) (by decide +kernel)
theorem jl9_47 : u_lay RX9 TX9 47 ∈ jTs := jmem 1003 (by decide +kernel) (by decide +kernel)
theorem jl9_48 : u_lay RX9 TX9 48 ∈ jTs := jmem 1005 (by decide +kernel) (by decide +kernel)
theorem jl9_49 : u_lay RX9 TX9 49 ∈ jTs := jmem 1007 (by decide +kernel) (by decide +kernel)
theorem jin9 : ∀ w ∈ u_ws RX9 TX9 50, w ∈ jTs := show ∀ w ∈ [u_lay RX9 TX9 0, u_lay RX9 TX9 1, u_lay RX9 TX9 2, u_lay RX9 TX9 3, u_lay RX9 TX9 4, u_lay RX9 TX9 5, u_lay RX9 TX9 6, u_lay RX9 TX9 7, u_lay RX9 TX9 8, u_lay RX9 TX9 9, u_lay RX9 TX9 10, u_lay RX9 TX9 11, u_lay RX9 TX9 12, u_lay RX9 TX9 13, u_lay RX9 TX9 14, u_lay RX9 TX9 15, u_lay RX9 TX9 16, u_lay RX9 TX9 17, u_lay RX9 TX9 18, u_lay RX9 TX9 19, u_lay RX9 TX9 20, u_lay RX9 TX9 21, u_lay RX9 TX9 22, u_lay RX9 TX9 23, u_lay RX9 TX9 24, u_lay RX9 TX9 25, u_lay RX9 TX9 26, u_lay RX9 TX9 27, u_lay RX9 TX9 28, u_lay RX9 TX9 29, u_lay RX9 TX9 30, u_lay RX9 TX9 31, u_lay RX9 TX9 32, u_lay RX9 TX9 33, u_lay RX9 TX9 34, u_lay RX9 TX9 35, u_lay RX9 TX9 36, u_lay RX9 TX9 37, u_lay RX9 TX9 38, u_lay RX9 TX9 39, u_lay RX9 TX9 40, u_lay RX9 TX9 41, u_lay RX9 TX9 42, u_lay RX9 TX9 43, u_lay RX9 TX9 44, u_lay RX9 TX9 45, u_lay RX9 TX9 46, u_lay RX9 TX9 47, u_lay RX9 TX9 48, u_lay RX9 TX9 49], w ∈ jTs from List.forall_mem_cons.mpr ⟨jl9_0, List.forall_mem_cons.mpr ⟨jl9_1, List.forall_mem_cons.mpr ⟨jl9_2, List.forall_mem_cons.mpr ⟨jl9_3, List.forall_mem_cons.mpr ⟨jl9_4, List.forall_mem_cons.mpr ⟨jl9_5, List.forall_mem_cons.mpr ⟨jl9_6, List.forall_mem_cons.mpr ⟨jl9_7, List.forall_mem_cons.mpr ⟨jl9_8, List.forall_mem_cons.mpr ⟨jl9_9, List.forall_mem_cons.mpr ⟨jl9_10, List.forall_mem_cons.mpr ⟨jl9_11, List.forall_mem_cons.mpr ⟨jl9_12, List.forall_mem_cons.mpr ⟨jl9_13, List.forall_mem_cons.mpr ⟨jl9_14, List.forall_mem_cons.mpr ⟨jl9_15, List.forall_mem_cons.mpr ⟨jl9_16, List.forall_mem_cons.mpr ⟨jl9_17, List.forall_mem_cons.mpr ⟨jl9_18, List.forall_mem_cons.mpr ⟨jl9_19, List.forall_mem_cons.mpr ⟨jl9_20, List.forall_mem_cons.mpr ⟨jl9_21, List.forall_mem_cons.mpr ⟨jl9_22, List.forall_mem_cons.mpr ⟨jl9_23, List.forall_mem_cons.mpr ⟨jl9_24, List.forall_mem_cons.mpr ⟨jl9_25, List.forall_mem_cons.mpr ⟨jl9_26, List.forall_mem_cons.mpr ⟨jl9_27, List.forall_mem_cons.mpr ⟨jl9_28, List.forall_mem_cons.mpr ⟨jl9_29, List.forall_mem_cons.mpr ⟨jl9_30, List.forall_mem_cons.mpr ⟨jl9_31, List.forall_mem_cons.mpr ⟨jl9_32, List.forall_mem_cons.mpr ⟨jl9_33, List.forall_mem_cons.mpr ⟨jl9_34, List.forall_mem_cons.mpr ⟨jl9_35, List.forall_mem_cons.mpr ⟨jl9_36, List.forall_mem_cons.mpr ⟨jl9_37, List.forall_mem_cons.mpr ⟨jl9_38, List.forall_mem_cons.mpr ⟨jl9_39, List.forall_mem_cons.mpr ⟨jl9_40, List.forall_mem_cons.mpr ⟨jl9_41, List.forall_mem_cons.mpr ⟨jl9_42, List.forall_mem_cons.mpr ⟨jl9_43, List.forall_mem_cons.mpr ⟨jl9_44, List.forall_mem_cons.mpr ⟨jl9_45, List.forall_mem_cons.mpr ⟨jl9_46, List.forall_mem_cons.mpr ⟨jl9_47, List.forall_mem_cons.mpr ⟨jl9_48, List.forall_mem_cons.mpr ⟨jl9_49, fun _ h => absurd h List.not_mem_nil⟩⟩⟩⟩⟩⟩⟩⟩⟩⟩⟩⟩⟩⟩⟩⟩⟩⟩⟩⟩⟩⟩⟩⟩⟩⟩⟩⟩⟩⟩⟩⟩⟩⟩⟩⟩⟩⟩⟩⟩⟩⟩⟩⟩⟩⟩⟩⟩⟩⟩
theorem jin : ∀ c, c < 10 → ∀ w ∈ u_ws (jR_ c) (jT_ c) (jF_ c), w ∈ jTs := by
  intro c hc
  rcases (show c = 0 ∨ c = 1 ∨ c = 2 ∨ c = 3 ∨ c = 4 ∨ c = 5 ∨ c = 6 ∨ c = 7 ∨ c = 8 ∨ c = 9 by omega) with rfl | rfl | rfl | rfl | rfl | rfl | rfl | rfl | rfl | rfl
  · exact jin0
  · exact jin1
  · exact jin2
  · exact jin3
  · exact jin4
  · exact jin5
  · exact jin6
  · exact jin7
  · exact jin8
  · exact jin9
end
section
/-! ===== V: W over the small picture; Ex: a method's contract over it ===== -/
section JB
abbrev jM : Type := MethodName × ByteArray × Nat × Option FieldType
abbrev jmY (M : jM) : MethodName := M.1
abbrev jmO (M : jM) : String := M.1.cls
abbrev jmC (M : jM) : ByteArray := M.2.1
abbrev jmL (M : jM) : Nat := M.2.2.1
abbrev jmR (M : jM) : Option FieldType := M.2.2.2
def jws (M : jM) : List Cond := Cond.code (jmY M) (jmC M) (jmL M) (jmR M) :: jTs
def jroom (d mc ms : Nat) : Room := { frames := d + 1, cells := mc, slots := ms, locals := 64 * (d + 1) }
def jLs (G : jG) (ls : Array Slot) (n : Nat) (L : List (Option jA)) : Prop :=
  ls.size = n ∧ lv_wf ls ∧ L.length = n ∧ ∀ (i : Nat) (v : jA), L[i]? = some (some v) → ls[i]? = some (.val (jV G v)) ∧ jRA v
theorem jV_cat (G : jG) (v : jA) : (jV G v).category = 1 := by
  cases v with
  | inl z => rfl
  | inr p =>
    show (va_rf (jrf G p)).category = 1
    cases jrf G p <;> rfl
def jasc (G : jG) (L : List (Option jA)) : List (Nat × Value) := (List.range L.length).filterMap (fun i => ((L[i]?).join).map (fun v => (i, jV G v)))
theorem jLs_has {G : jG} {ls : Array Slot} {n : Nat} {L : List (Option jA)} (h : jLs G ls n L) : lv_has ls n (jasc G L) := by
  refine ⟨h.1, h.2.1, fun q hq => ?_⟩
  obtain ⟨i, -, hi⟩ := List.mem_filterMap.mp hq
  rw [Option.map_eq_some_iff] at hi
  obtain ⟨v, hv, rfl⟩ := hi
  rw [Option.join_eq_some_iff] at hv
  exact (h.2.2.2 i v hv).1
theorem jLs_mem {G : jG} {ls : Array Slot} {n : Nat} {L : List (Option jA)} (h : jLs G ls n L) {j : Nat} {w : jA} (hj : L[j]? = some (some w)) : (j, jV G w) ∈ jasc G L := by
  refine List.mem_filterMap.mpr ⟨j, List.mem_range.mpr ((List.getElem?_eq_some_iff.mp hj).1), ?_⟩
  rw [hj]
  rfl
theorem jLs_set {G : jG} {ls ls' : Array Slot} {n i : Nat} {L : List (Option jA)} {v : jA} (h : jLs G ls n L) (hi : i < n) (hv : jRA v)
    (h' : lv_has ls' n ((i, jV G v) :: (jasc G L).filter (fun q => !(q.1 == i) && !(q.1 + 1 == i && q.2.category == 2)))) : jLs G ls' n (L.set i (some v)) := by
  refine ⟨h'.1, h'.2.1, by rw [List.length_set]; exact h.2.2.1, fun j w hj => ?_⟩
  by_cases e : j = i
  · subst e
    rw [List.getElem?_set_self (by rw [h.2.2.1]; exact hi)] at hj
    cases hj
    exact ⟨h'.2.2 _ List.mem_cons_self, hv⟩
  · rw [List.getElem?_set_ne (Ne.symm e)] at hj
    refine ⟨h'.2.2 (j, jV G w) (List.mem_cons_of_mem _ (List.mem_filter.mpr ⟨jLs_mem h hj, ?_⟩)), (h.2.2.2 j w hj).2⟩
    simp [e, jV_cat]
def jRet : Option FieldType → Option jA → Prop
  | none, none => True
  | some .int, some (.inl z) => jR z
  | some .boolean, some (.inl z) => z = 0 ∨ z = 1
  | _, _ => False
theorem jRet_ra {r : Option FieldType} {v : Option jA} (h : jRet r v) : ∀ x, v = some x → jRA x := by
  intro x hx
  subst hx
  cases x with
  | inr p => trivial
  | inl z =>
    rcases r with _ | r
    · cases h
    · cases r <;> first | exact h | (rcases h with rfl | rfl <;> exact ⟨by decide, by decide⟩) | exact absurd h id
def jRI : Option FieldType → Instr
  | none => .return_
  | some _ => .ireturn
section
variable (p : Program) (l : Launch) (e : Env) (R : Room) (s : State) (m : MethodId) (args : Array Value) (below : List Frame) (meth : Method) (c : Code)
def jFin (M : jM) (G : jG) (MC MS : Nat) (Z : State → Prop) (Q : Option jA → jH → Prop) : Prop :=
  ∀ (v : Option jA) (h' : jH) (H' : Heap) (locs' : List Loc) (pc' : Nat) (ls' : Array Slot), Q v h' → jOk G h' s.heap H' locs' s → jRet (jmR M) v → H'.size = s.heap.size + MC → decode (jmC M) pc' = .ok (jRI (jmR M), 1) →
    W p l e R s m args below meth c H' locs' MC MS Z (F0 m pc' ls' (v.toList.map (jV G)))
/-- what holds all through a method's walk -/
def jCx (M : jM) (d : Nat) (G : jG) (MC MS : Nat) (Z : State → Prop) (Q : Option jA → jH → Prop) : Prop :=
  p.tables.exec = Jvm.exec ∧ c.code = jmC M ∧ c.maxLocals = jmL M ∧ s.vm.findClass (jmO M) = some m.cls ∧ (∀ w ∈ jTs, w.before args s = true) ∧ meth.name = (jmY M).name ∧ d + 1 ≤ R.frames ∧ 64 * (d + 1) ≤ R.locals ∧ MC ≤ R.cells ∧ MS ≤ R.slots ∧ jFin p l e R s m args below meth c M G MC MS Z Q
end
def V (M : jM) (d pc : Nat) (L : List (Option jA)) (st : List jA) (h : jH) (mc ms : Nat) (Q : Option jA → jH → Prop) : Prop :=
  ∀ (p : Program) (l : Launch) (e : Env) (R : Room) (s : State) (m : MethodId) (args : Array Value) (below : List Frame) (meth : Method) (c : Code) (G : jG) (MC MS : Nat) (Z : State → Prop) (H : Heap) (locs : List Loc) (cells slots : Nat) (ls : Array Slot),
    jCx p l e R s m args below meth c M d G MC MS Z Q → jOk G h s.heap H locs s → jLs G ls (jmL M) L → (∀ v ∈ st, jRA v) → cells + mc = MC → slots + ms = MS → H.size = s.heap.size + cells →
    W p l e R s m args below meth c H locs cells slots Z (F0 m pc ls (st.map (jV G)))
def jPc (G : jG) (as : List jA) (h : jH) : Array Value → State → Prop := fun v U => v = (as.map (jV G)).toArray ∧ (∀ x ∈ as, jRA x) ∧ jOk G h U.heap U.heap [] U
def jQc (G : jG) (mc : Nat) (Q : Option jA → jH → Prop) : Array Value → State → Outcome → State → Prop := fun _ st o t => ∃ (v : Option jA) (h' : jH), o = .returned (v.map (jV G)) ∧ Q v h' ∧ (∀ x, v = some x → jRA x) ∧ jOk G h' st.heap t.heap [] t ∧ t.heap.size = st.heap.size + mc
def Ex (M : jM) (d : Nat) (as : List jA) (h : jH) (mc ms : Nat) (Q : Option jA → jH → Prop) : Prop :=
  ∀ (l : Launch) (G : jG), Met l (jmY M) (jws M) (jroom d mc ms) (jPc G as h) (jQc G mc Q) mc ms (jAt G)
theorem Ex.mono {M : jM} {d : Nat} {as : List jA} {h : jH} {mc ms : Nat} {Q Q' : Option jA → jH → Prop} (hE : Ex M d as h mc ms Q) (hQ : ∀ v h', Q v h' → Q' v h') : Ex M d as h mc ms Q' := by
  intro l G p e a1 a2 a3 s m args below a4 a5 a6 a7
  obtain ⟨n, o, b1, b2, b3, ⟨v, h', c1, c2, c3⟩, b5⟩ := hE l G p e a1 a2 a3 s m args below a4 a5 a6 a7
  exact ⟨n, o, b1, b2, b3, ⟨v, h', c1, hQ v h' c2, c3⟩, b5⟩
theorem jAOA.moved {u U : State} (hvm : u.vm.Alike U.vm) (h : jAOA u) : jAOA U := by
  have spec : ∃ comp c k, u.vm.findClass (FieldType.array .int).toString = some comp ∧ (u.vm.classes.findIdx? fun x => match x.kind with | .array component _ => component == comp | _ => false) = some c ∧ u.vm.classes[c]? = some k ∧ k.kind = .array comp (.array .int) ∧ u.vm.findClass ("[" ++ (FieldType.array .int).toString) = some c := by
    unfold jAOA Cond.before at h
    simp only [Cond.holds, Cond.value, beq_iff_eq] at h
    cases hc : u.vm.findClass (FieldType.array .int).toString with
    | none => simp [hc] at h
    | some comp =>
      simp only [hc, Option.bind_some, Option.bind_eq_some_iff, Option.map_eq_some_iff] at h
      obtain ⟨c, hi, k, hk, hb⟩ := h
      obtain ⟨hlt, hp, -⟩ := Array.findIdx?_eq_some_iff_getElem.mp hi
      have hkk : u.vm.classes[c] = k := (Array.getElem?_eq_some_iff.mp hk).2
      rw [hkk] at hp
      cases hkind : k.kind with
      | array component ty =>
        rw [hkind] at hb hp
        simp at hb hp
        exact ⟨comp, c, k, rfl, hi, hk, by rw [hkind, hp, hb.1], hb.2⟩
      | _ => rw [hkind] at hb; simp at hb
  obtain ⟨comp, c, k, h1, h2, h3, h4, h5⟩ := spec
  obtain ⟨k', hk', he⟩ := hvm.2.2 _ _ h3
  have hi : (U.vm.classes.findIdx? fun x => match x.kind with | .array component _ => component == comp | _ => false) = some c := by
    have e1 := va_idx_bare U.vm comp
    have e2 := va_idx_bare u.vm comp
    have e3 : U.vm.bare = u.vm.bare := by first | exact hvm.bare_eq | exact hvm.bare_eq.symm
    rw [e3] at e1
    exact (e1.symm.trans e2).trans h2
  have hkind : k'.kind = .array comp (.array .int) := by rw [he]; exact h4
  have f1 : U.vm.findClass (FieldType.array .int).toString = some comp := by rw [hvm.findClass]; exact h1
  have f2 : U.vm.findClass ("[" ++ (FieldType.array .int).toString) = some c := by rw [hvm.findClass]; exact h5
  unfold jAOA Cond.before Cond.holds
  simp only [Cond.value]
  rw [f1, Option.bind_some]
  refine (congrArg (fun o : Option Nat => (o.bind (fun c => (U.vm.classes[c]?).map fun (k : Class) => match k.kind with | .array _ ty => decide (ty = FieldType.array .int) && decide (U.vm.findClass ("[" ++ (FieldType.array .int).toString) = some c) | _ => false) == some true)) hi).trans ?_
  simp [hk', hkind, f2]
theorem jSt.alike {G : jG} {u U : State} (hvm : u.vm.Alike U.vm) (hn : jNw u → jNw U) (h : jSt G u) : jSt G U :=
  ⟨va_K.moved hvm h.1, hn h.2.1, h.2.2.1.moved hvm, h.2.2.2.1.moved hvm, h.2.2.2.2.moved hvm⟩
theorem jSt.warm {G : jG} {u U : State} (hW : u.WarmedH U.vm) (h : jSt G u) : jSt G U := by
  refine h.alike hW.alike (fun hn w hw hj => ?_)
  have h1 := hn w hw hj
  cases w <;> first | exact va_Nw.warmF hW h1 | exact va_Nw.warmM hW h1 | exact absurd hj (by simp [jnest])
theorem jSt.same {G : jG} {u U : State} (hvm : u.vm = U.vm) (h : jSt G u) : jSt G U := by
  refine h.alike (by rw [hvm]; exact Vm.Alike.refl U.vm) (fun hn w hw hj => ?_)
  have h1 := hn w hw hj
  cases w <;> first | exact va_Nw.same rfl hvm h1 | exact absurd hj (by simp [jnest])
end JB
end
section
/-! ===== a rule an instruction, over V ===== -/
section JR
variable {M : jM} {d pc mc ms : Nat} {L : List (Option jA)} {st : List jA} {h : jH} {Q : Option jA → jH → Prop}
theorem jst_cons {v : jA} {st : List jA} (hv : jRA v) (h : ∀ x ∈ st, jRA x) : ∀ x ∈ v :: st, jRA x := fun x hx => (List.mem_cons.mp hx).elim (fun e => by rw [e]; exact hv) (h x)
theorem jst_tl {v : jA} {st : List jA} (h : ∀ x ∈ v :: st, jRA x) : ∀ x ∈ st, jRA x := fun x hx => h x (List.mem_cons_of_mem _ hx)
theorem jst_hd {v : jA} {st : List jA} (h : ∀ x ∈ v :: st, jRA x) : jRA v := h v List.mem_cons_self
theorem V_iconst {n : Int} (hd : decode (jmC M) pc = .ok (.iconst n, 1)) (hn : jR n)
    (k : V M d (pc + 1) L (.inl n :: st) h mc ms Q) : V M d pc L st h mc ms Q := by
  intro p l e R s m args below meth c G MC MS Z H locs cells slots ls cx hok hls hst hc hs hz
  obtain ⟨hx, hb, hml, hown, hts, hnm, hfr, hlo, hMC, hMS, hZ⟩ := id cx
  exact lv_iconst hx hb hd rfl (k p l e R s m args below meth c G MC MS Z H locs cells slots ls cx hok hls (jst_cons hn hst) hc hs hz)
theorem V_bipush {n : Int} (hd : decode (jmC M) pc = .ok (.bipush n, 2)) (hv : (Int8.ofInt n).toInt32 = Int32.ofInt n) (hn : jR n)
    (k : V M d (pc + 2) L (.inl n :: st) h mc ms Q) : V M d pc L st h mc ms Q := by
  intro p l e R s m args below meth c G MC MS Z H locs cells slots ls cx hok hls hst hc hs hz
  obtain ⟨hx, hb, hml, hown, hts, hnm, hfr, hlo, hMC, hMS, hZ⟩ := id cx
  exact lv_bipush hx hb hd hv (k p l e R s m args below meth c G MC MS Z H locs cells slots ls cx hok hls (jst_cons hn hst) hc hs hz)
theorem V_sipush {n : Int} (hd : decode (jmC M) pc = .ok (.sipush n, 3)) (hv : (Int16.ofInt n).toInt32 = Int32.ofInt n) (hn : jR n)
    (k : V M d (pc + 3) L (.inl n :: st) h mc ms Q) : V M d pc L st h mc ms Q := by
  intro p l e R s m args below meth c G MC MS Z H locs cells slots ls cx hok hls hst hc hs hz
  obtain ⟨hx, hb, hml, hown, hts, hnm, hfr, hlo, hMC, hMS, hZ⟩ := id cx
  exact lv_sipush hx hb hd hv (k p l e R s m args below meth c G MC MS Z H locs cells slots ls cx hok hls (jst_cons hn hst) hc hs hz)
theorem V_ldcw {i : Nat} {n : Int} (hd : decode (jmC M) pc = .ok (.ldc_w i, 3)) (hw : Cond.constant (jmO M) i (Int32.ofInt n) ∈ jTs) (hn : jR n)
    (k : V M d (pc + 3) L (.inl n :: st) h mc ms Q) : V M d pc L st h mc ms Q := by
  intro p l e R s m args below meth c G MC MS Z H locs cells slots ls cx hok hls hst hc hs hz
  obtain ⟨hx, hb, hml, hown, hts, hnm, hfr, hlo, hMC, hMS, hZ⟩ := id cx
  exact lv_ldcw hx hb hown (hts _ hw) hd (k p l e R s m args below meth c G MC MS Z H locs cells slots ls cx hok hls (jst_cons hn hst) hc hs hz)
theorem V_iload_n {k0 : Fin 4} {i : Nat} {z : Int} (hd : decode (jmC M) pc = .ok (.iload_n k0, 1)) (hi : (k0 : Nat) = i) (hl : L[i]? = some (some (.inl z)))
    (k : V M d (pc + 1) L (.inl z :: st) h mc ms Q) : V M d pc L st h mc ms Q := by
  intro p l e R s m args below meth c G MC MS Z H locs cells slots ls cx hok hls hst hc hs hz
  obtain ⟨hx, hb, hml, hown, hts, hnm, hfr, hlo, hMC, hMS, hZ⟩ := id cx
  exact lv_iload_n hx hb hd hi (hls.2.2.2 i _ hl).1 (k p l e R s m args below meth c G MC MS Z H locs cells slots ls cx hok hls (jst_cons (hls.2.2.2 i _ hl).2 hst) hc hs hz)
theorem V_iload {i : Nat} {z : Int} (hd : decode (jmC M) pc = .ok (.iload i, 2)) (hl : L[i]? = some (some (.inl z)))
    (k : V M d (pc + 2) L (.inl z :: st) h mc ms Q) : V M d pc L st h mc ms Q := by
  intro p l e R s m args below meth c G MC MS Z H locs cells slots ls cx hok hls hst hc hs hz
  obtain ⟨hx, hb, hml, hown, hts, hnm, hfr, hlo, hMC, hMS, hZ⟩ := id cx
  exact lv_iload hx hb hd (hls.2.2.2 i _ hl).1 (k p l e R s m args below meth c G MC MS Z H locs cells slots ls cx hok hls (jst_cons (hls.2.2.2 i _ hl).2 hst) hc hs hz)
theorem V_aload_n {k0 : Fin 4} {i a : Nat} (hd : decode (jmC M) pc = .ok (.aload_n k0, 1)) (hi : (k0 : Nat) = i) (hl : L[i]? = some (some (.inr a))) (ha : a ≠ 0)
    (k : V M d (pc + 1) L (.inr a :: st) h mc ms Q) : V M d pc L st h mc ms Q := by
  intro p l e R s m args below meth c G MC MS Z H locs cells slots ls cx hok hls hst hc hs hz
  obtain ⟨hx, hb, hml, hown, hts, hnm, hfr, hlo, hMC, hMS, hZ⟩ := id cx
  have h1 := (hls.2.2.2 i _ hl).1
  have k1 := k p l e R s m args below meth c G MC MS Z H locs cells slots ls cx hok hls (jst_cons (v := .inr a) trivial hst) hc hs hz
  obtain ⟨r, hr⟩ : ∃ r, jrf G a = some r := by
    match a, ha with
    | 1, _ => exact ⟨_, rfl⟩
    | n + 2, _ => exact ⟨_, rfl⟩
  have e1 : jV G (.inr a) = .ref r := by show va_rf (jrf G a) = _; rw [hr]; rfl
  rw [List.map_cons, e1] at k1
  rw [e1] at h1
  exact lv_aload_n hx hb hd hi h1 k1
theorem V_aload {i a : Nat} (hd : decode (jmC M) pc = .ok (.aload i, 2)) (hl : L[i]? = some (some (.inr a))) (ha : a ≠ 0)
    (k : V M d (pc + 2) L (.inr a :: st) h mc ms Q) : V M d pc L st h mc ms Q := by
  intro p l e R s m args below meth c G MC MS Z H locs cells slots ls cx hok hls hst hc hs hz
  obtain ⟨hx, hb, hml, hown, hts, hnm, hfr, hlo, hMC, hMS, hZ⟩ := id cx
  have h1 := (hls.2.2.2 i _ hl).1
  have k1 := k p l e R s m args below meth c G MC MS Z H locs cells slots ls cx hok hls (jst_cons (v := .inr a) trivial hst) hc hs hz
  obtain ⟨r, hr⟩ : ∃ r, jrf G a = some r := by
    match a, ha with
    | 1, _ => exact ⟨_, rfl⟩
    | n + 2, _ => exact ⟨_, rfl⟩
  have e1 : jV G (.inr a) = .ref r := by show va_rf (jrf G a) = _; rw [hr]; rfl
  rw [List.map_cons, e1] at k1
  rw [e1] at h1
  exact lv_aload hx hb hd h1 k1
theorem V_istore_n {k0 : Fin 4} {i : Nat} {z : Int} (hd : decode (jmC M) pc = .ok (.istore_n k0, 1)) (hi : (k0 : Nat) = i) (hn : i < jmL M)
    (k : V M d (pc + 1) (L.set i (some (.inl z))) st h mc ms Q) : V M d pc L (.inl z :: st) h mc ms Q := by
  intro p l e R s m args below meth c G MC MS Z H locs cells slots ls cx hok hls hst hc hs hz
  obtain ⟨hx, hb, hml, hown, hts, hnm, hfr, hlo, hMC, hMS, hZ⟩ := id cx
  exact lv_istore_n hx hb hd hi (jLs_has hls) hn rfl (fun ls' h' => k p l e R s m args below meth c G MC MS Z H locs cells slots ls' cx hok (jLs_set hls hn (jst_hd hst) h') (jst_tl hst) hc hs hz)
theorem V_istore {i : Nat} {z : Int} (hd : decode (jmC M) pc = .ok (.istore i, 2)) (hn : i < jmL M)
    (k : V M d (pc + 2) (L.set i (some (.inl z))) st h mc ms Q) : V M d pc L (.inl z :: st) h mc ms Q := by
  intro p l e R s m args below meth c G MC MS Z H locs cells slots ls cx hok hls hst hc hs hz
  obtain ⟨hx, hb, hml, hown, hts, hnm, hfr, hlo, hMC, hMS, hZ⟩ := id cx
  exact lv_istore hx hb hd (jLs_has hls) hn rfl (fun ls' h' => k p l e R s m args below meth c G MC MS Z H locs cells slots ls' cx hok (jLs_set hls hn (jst_hd hst) h') (jst_tl hst) hc hs hz)
theorem V_astore_n {k0 : Fin 4} {i : Nat} {a : Nat} (hd : decode (jmC M) pc = .ok (.astore_n k0, 1)) (hi : (k0 : Nat) = i) (ha : a ≠ 0) (hn : i < jmL M)
    (k : V M d (pc + 1) (L.set i (some (.inr a))) st h mc ms Q) : V M d pc L (.inr a :: st) h mc ms Q := by
  intro p l e R s m args below meth c G MC MS Z H locs cells slots ls cx hok hls hst hc hs hz
  obtain ⟨hx, hb, hml, hown, hts, hnm, hfr, hlo, hMC, hMS, hZ⟩ := id cx
  obtain ⟨r, hr⟩ : ∃ r, jrf G a = some r := by
    match a, ha with
    | 1, _ => exact ⟨_, rfl⟩
    | n + 2, _ => exact ⟨_, rfl⟩
  have e1 : jV G (.inr a) = .ref r := by show va_rf (jrf G a) = _; rw [hr]; rfl
  rw [List.map_cons, e1]
  exact lv_astore_n hx hb hd hi (jLs_has hls) hn rfl (fun ls' h' => k p l e R s m args below meth c G MC MS Z H locs cells slots ls' cx hok (jLs_set hls hn (v := .inr a) trivial (by rw [e1]; exact h')) (jst_tl hst) hc hs hz)
theorem V_astore {i : Nat} {a : Nat} (hd : decode (jmC M) pc = .ok (.astore i, 2)) (ha : a ≠ 0) (hn : i < jmL M)
    (k : V M d (pc + 2) (L.set i (some (.inr a))) st h mc ms Q) : V M d pc L (.inr a :: st) h mc ms Q := by
  intro p l e R s m args below meth c G MC MS Z H locs cells slots ls cx hok hls hst hc hs hz
  obtain ⟨hx, hb, hml, hown, hts, hnm, hfr, hlo, hMC, hMS, hZ⟩ := id cx
  obtain ⟨r, hr⟩ : ∃ r, jrf G a = some r := by
    match a, ha with
    | 1, _ => exact ⟨_, rfl⟩
    | n + 2, _ => exact ⟨_, rfl⟩
  have e1 : jV G (.inr a) = .ref r := by show va_rf (jrf G a) = _; rw [hr]; rfl
  rw [List.map_cons, e1]
  exact lv_astore hx hb hd (jLs_has hls) hn rfl (fun ls' h' => k p l e R s m args below meth c G MC MS Z H locs cells slots ls' cx hok (jLs_set hls hn (v := .inr a) trivial (by rw [e1]; exact h')) (jst_tl hst) hc hs hz)
theorem V_iinc {i : Nat} {n z : Int} (hd : decode (jmC M) pc = .ok (.iinc i n, 3)) (hl : L[i]? = some (some (.inl z))) (hn : i < jmL M) (hr : jR (z + n))
    (k : V M d (pc + 3) (L.set i (some (.inl (z + n)))) st h mc ms Q) : V M d pc L st h mc ms Q := by
  intro p l e R s m args below meth c G MC MS Z H locs cells slots ls cx hok hls hst hc hs hz
  obtain ⟨hx, hb, hml, hown, hts, hnm, hfr, hlo, hMC, hMS, hZ⟩ := id cx
  have h0 := jLs_has hls
  have h1 : lv_has ls (jmL M) ((i, .int (Int32.ofInt z)) :: jasc G L) := ⟨h0.1, h0.2.1, fun q hq => (List.mem_cons.mp hq).elim (fun e => by rw [e]; exact (hls.2.2.2 i _ hl).1) (h0.2.2 q)⟩
  refine lv_iinc (k := 0) (v := Int32.ofInt (z + n)) hx hb hd h1 rfl (by rw [Int32.ofInt_add]) hn rfl (fun ls' h' => ?_)
  have h2 : lv_has ls' (jmL M) ((i, jV G (.inl (z + n))) :: (jasc G L).filter (fun q => !(q.1 == i) && !(q.1 + 1 == i && q.2.category == 2))) := by
    refine ⟨h'.1, h'.2.1, fun q hq => h'.2.2 q ?_⟩
    rcases List.mem_cons.mp hq with e | e
    · exact List.mem_cons.mpr (Or.inl e)
    · refine List.mem_cons_of_mem _ ?_
      obtain ⟨e1, e2⟩ := List.mem_filter.mp e
      exact List.mem_filter.mpr ⟨List.mem_cons_of_mem _ e1, e2⟩
  exact k p l e R s m args below meth c G MC MS Z H locs cells slots ls' cx hok (jLs_set hls hn hr h2) hst hc hs hz
theorem V_iadd {x y : Int} (hd : decode (jmC M) pc = .ok (.iadd, 1)) (hr : jR (x + y))
    (k : V M d (pc + 1) L (.inl (x + y) :: st) h mc ms Q) : V M d pc L (.inl y :: .inl x :: st) h mc ms Q := by
  intro p l e R s m args below meth c G MC MS Z H locs cells slots ls cx hok hls hst hc hs hz
  obtain ⟨hx, hb, hml, hown, hts, hnm, hfr, hlo, hMC, hMS, hZ⟩ := id cx
  have k1 := k p l e R s m args below meth c G MC MS Z H locs cells slots ls cx hok hls (jst_cons hr (jst_tl (jst_tl hst))) hc hs hz
  rw [List.map_cons, show jV G (.inl (x + y)) = .int (Int32.ofInt x + Int32.ofInt y) by show Value.int _ = _; rw [Int32.ofInt_add]] at k1
  exact lv_iadd hx hb hd k1
theorem V_isub {x y : Int} (hd : decode (jmC M) pc = .ok (.isub, 1)) (hr : jR (x - y))
    (k : V M d (pc + 1) L (.inl (x - y) :: st) h mc ms Q) : V M d pc L (.inl y :: .inl x :: st) h mc ms Q := by
  intro p l e R s m args below meth c G MC MS Z H locs cells slots ls cx hok hls hst hc hs hz
  obtain ⟨hx, hb, hml, hown, hts, hnm, hfr, hlo, hMC, hMS, hZ⟩ := id cx
  have k1 := k p l e R s m args below meth c G MC MS Z H locs cells slots ls cx hok hls (jst_cons hr (jst_tl (jst_tl hst))) hc hs hz
  rw [List.map_cons, show jV G (.inl (x - y)) = .int (Int32.ofInt x - Int32.ofInt y) by show Value.int _ = _; rw [Int32.ofInt_sub]] at k1
  exact lv_isub hx hb hd k1
theorem V_imul {x y : Int} (hd : decode (jmC M) pc = .ok (.imul, 1)) (hr : jR (x * y))
    (k : V M d (pc + 1) L (.inl (x * y) :: st) h mc ms Q) : V M d pc L (.inl y :: .inl x :: st) h mc ms Q := by
  intro p l e R s m args below meth c G MC MS Z H locs cells slots ls cx hok hls hst hc hs hz
  obtain ⟨hx, hb, hml, hown, hts, hnm, hfr, hlo, hMC, hMS, hZ⟩ := id cx
  have k1 := k p l e R s m args below meth c G MC MS Z H locs cells slots ls cx hok hls (jst_cons hr (jst_tl (jst_tl hst))) hc hs hz
  rw [List.map_cons, show jV G (.inl (x * y)) = .int (Int32.ofInt x * Int32.ofInt y) by show Value.int _ = _; rw [Int32.ofInt_mul]] at k1
  exact lv_imul hx hb hd k1
def jand (x y : Int) : Int := (Int32.ofInt x &&& Int32.ofInt y).toInt
def jor (x y : Int) : Int := (Int32.ofInt x ||| Int32.ofInt y).toInt
def jxor (x y : Int) : Int := (Int32.ofInt x ^^^ Int32.ofInt y).toInt
def jshl (x y : Int) : Int := (Int32.ofInt x <<< (Int32.ofInt y &&& 31)).toInt
def jshr (x y : Int) : Int := (Int32.ofInt x >>> (Int32.ofInt y &&& 31)).toInt
def jushr (x y : Int) : Int := (((Int32.ofInt x).toUInt32 >>> ((Int32.ofInt y).toUInt32 &&& Int32.toUInt32 31)).toInt32).toInt
theorem V_iand {x y : Int} (hd : decode (jmC M) pc = .ok (.iand, 1))
    (k : V M d (pc + 1) L (.inl (jand x y) :: st) h mc ms Q) : V M d pc L (.inl y :: .inl x :: st) h mc ms Q := by
  intro p l e R s m args below meth c G MC MS Z H locs cells slots ls cx hok hls hst hc hs hz
  obtain ⟨hx, hb, hml, hown, hts, hnm, hfr, hlo, hMC, hMS, hZ⟩ := id cx
  have k1 := k p l e R s m args below meth c G MC MS Z H locs cells slots ls cx hok hls (jst_cons (v := .inl (jand x y)) (jR_of _) (jst_tl (jst_tl hst))) hc hs hz
  rw [List.map_cons, show jV G (.inl (jand x y)) = .int (Int32.ofInt x &&& Int32.ofInt y) by show Value.int (Int32.ofInt (jand x y)) = _; unfold jand; rw [Int32.ofInt_toInt]] at k1
  exact lv_iand hx hb hd k1
theorem V_ior {x y : Int} (hd : decode (jmC M) pc = .ok (.ior, 1))
    (k : V M d (pc + 1) L (.inl (jor x y) :: st) h mc ms Q) : V M d pc L (.inl y :: .inl x :: st) h mc ms Q := by
  intro p l e R s m args below meth c G MC MS Z H locs cells slots ls cx hok hls hst hc hs hz
  obtain ⟨hx, hb, hml, hown, hts, hnm, hfr, hlo, hMC, hMS, hZ⟩ := id cx
  have k1 := k p l e R s m args below meth c G MC MS Z H locs cells slots ls cx hok hls (jst_cons (v := .inl (jor x y)) (jR_of _) (jst_tl (jst_tl hst))) hc hs hz
  rw [List.map_cons, show jV G (.inl (jor x y)) = .int (Int32.ofInt x ||| Int32.ofInt y) by show Value.int (Int32.ofInt (jor x y)) = _; unfold jor; rw [Int32.ofInt_toInt]] at k1
  exact lv_ior hx hb hd k1
theorem V_ixor {x y : Int} (hd : decode (jmC M) pc = .ok (.ixor, 1))
    (k : V M d (pc + 1) L (.inl (jxor x y) :: st) h mc ms Q) : V M d pc L (.inl y :: .inl x :: st) h mc ms Q := by
  intro p l e R s m args below meth c G MC MS Z H locs cells slots ls cx hok hls hst hc hs hz
  obtain ⟨hx, hb, hml, hown, hts, hnm, hfr, hlo, hMC, hMS, hZ⟩ := id cx
  have k1 := k p l e R s m args below meth c G MC MS Z H locs cells slots ls cx hok hls (jst_cons (v := .inl (jxor x y)) (jR_of _) (jst_tl (jst_tl hst))) hc hs hz
  rw [List.map_cons, show jV G (.inl (jxor x y)) = .int (Int32.ofInt x ^^^ Int32.ofInt y) by show Value.int (Int32.ofInt (jxor x y)) = _; unfold jxor; rw [Int32.ofInt_toInt]] at k1
  exact lv_ixor hx hb hd k1
theorem V_ishl {x y : Int} (hd : decode (jmC M) pc = .ok (.ishl, 1))
    (k : V M d (pc + 1) L (.inl (jshl x y) :: st) h mc ms Q) : V M d pc L (.inl y :: .inl x :: st) h mc ms Q := by
  intro p l e R s m args below meth c G MC MS Z H locs cells slots ls cx hok hls hst hc hs hz
  obtain ⟨hx, hb, hml, hown, hts, hnm, hfr, hlo, hMC, hMS, hZ⟩ := id cx
  have k1 := k p l e R s m args below meth c G MC MS Z H locs cells slots ls cx hok hls (jst_cons (v := .inl (jshl x y)) (jR_of _) (jst_tl (jst_tl hst))) hc hs hz
  rw [List.map_cons, show jV G (.inl (jshl x y)) = .int (Int32.ofInt x <<< (Int32.ofInt y &&& 31)) by show Value.int (Int32.ofInt (jshl x y)) = _; unfold jshl; rw [Int32.ofInt_toInt]] at k1
  exact lv_ishl hx hb hd k1
theorem V_ishr {x y : Int} (hd : decode (jmC M) pc = .ok (.ishr, 1))
    (k : V M d (pc + 1) L (.inl (jshr x y) :: st) h mc ms Q) : V M d pc L (.inl y :: .inl x :: st) h mc ms Q := by
  intro p l e R s m args below meth c G MC MS Z H locs cells slots ls cx hok hls hst hc hs hz
  obtain ⟨hx, hb, hml, hown, hts, hnm, hfr, hlo, hMC, hMS, hZ⟩ := id cx
  have k1 := k p l e R s m args below meth c G MC MS Z H locs cells slots ls cx hok hls (jst_cons (v := .inl (jshr x y)) (jR_of _) (jst_tl (jst_tl hst))) hc hs hz
  rw [List.map_cons, show jV G (.inl (jshr x y)) = .int (Int32.ofInt x >>> (Int32.ofInt y &&& 31)) by show Value.int (Int32.ofInt (jshr x y)) = _; unfold jshr; rw [Int32.ofInt_toInt]] at k1
  exact lv_ishr hx hb hd k1
theorem V_iushr {x y : Int} (hd : decode (jmC M) pc = .ok (.iushr, 1))
    (k : V M d (pc + 1) L (.inl (jushr x y) :: st) h mc ms Q) : V M d pc L (.inl y :: .inl x :: st) h mc ms Q := by
  intro p l e R s m args below meth c G MC MS Z H locs cells slots ls cx hok hls hst hc hs hz
  obtain ⟨hx, hb, hml, hown, hts, hnm, hfr, hlo, hMC, hMS, hZ⟩ := id cx
  have k1 := k p l e R s m args below meth c G MC MS Z H locs cells slots ls cx hok hls (jst_cons (v := .inl (jushr x y)) (jR_of _) (jst_tl (jst_tl hst))) hc hs hz
  rw [List.map_cons, show jV G (.inl (jushr x y)) = .int (((Int32.ofInt x).toUInt32 >>> ((Int32.ofInt y).toUInt32 &&& Int32.toUInt32 31)).toInt32) by show Value.int (Int32.ofInt (jushr x y)) = _; unfold jushr; rw [Int32.ofInt_toInt]] at k1
  exact lv_iushr hx hb hd rfl k1
theorem V_ineg {x : Int} (hd : decode (jmC M) pc = .ok (.ineg, 1)) (hr : jR (-x))
    (k : V M d (pc + 1) L (.inl (-x) :: st) h mc ms Q) : V M d pc L (.inl x :: st) h mc ms Q := by
  intro p l e R s m args below meth c G MC MS Z H locs cells slots ls cx hok hls hst hc hs hz
  obtain ⟨hx, hb, hml, hown, hts, hnm, hfr, hlo, hMC, hMS, hZ⟩ := id cx
  have k1 := k p l e R s m args below meth c G MC MS Z H locs cells slots ls cx hok hls (jst_cons hr (jst_tl hst)) hc hs hz
  rw [List.map_cons, show jV G (.inl (-x)) = .int (-Int32.ofInt x) by show Value.int _ = _; rw [Int32.ofInt_neg]] at k1
  exact lv_ineg hx hb hd k1
theorem V_dup {v : jA} (hd : decode (jmC M) pc = .ok (.dup, 1))
    (k : V M d (pc + 1) L (v :: v :: st) h mc ms Q) : V M d pc L (v :: st) h mc ms Q := by
  intro p l e R s m args below meth c G MC MS Z H locs cells slots ls cx hok hls hst hc hs hz
  obtain ⟨hx, hb, hml, hown, hts, hnm, hfr, hlo, hMC, hMS, hZ⟩ := id cx
  exact lv_dup hx hb hd (jV_cat G v) (k p l e R s m args below meth c G MC MS Z H locs cells slots ls cx hok hls (jst_cons (jst_hd hst) hst) hc hs hz)
theorem V_dup2 {v u : jA} (hd : decode (jmC M) pc = .ok (.dup2, 1))
    (k : V M d (pc + 1) L (v :: u :: v :: u :: st) h mc ms Q) : V M d pc L (v :: u :: st) h mc ms Q := by
  intro p l e R s m args below meth c G MC MS Z H locs cells slots ls cx hok hls hst hc hs hz
  obtain ⟨hx, hb, hml, hown, hts, hnm, hfr, hlo, hMC, hMS, hZ⟩ := id cx
  exact lv_dup2_11 hx hb hd (jV_cat G v) (jV_cat G u) (k p l e R s m args below meth c G MC MS Z H locs cells slots ls cx hok hls (jst_cons (jst_hd hst) (jst_cons (jst_hd (jst_tl hst)) hst)) hc hs hz)
theorem V_pop {v : jA} (hd : decode (jmC M) pc = .ok (.pop, 1))
    (k : V M d (pc + 1) L st h mc ms Q) : V M d pc L (v :: st) h mc ms Q := by
  intro p l e R s m args below meth c G MC MS Z H locs cells slots ls cx hok hls hst hc hs hz
  obtain ⟨hx, hb, hml, hown, hts, hnm, hfr, hlo, hMC, hMS, hZ⟩ := id cx
  exact lv_pop hx hb hd (jV_cat G v) (k p l e R s m args below meth c G MC MS Z H locs cells slots ls cx hok hls (jst_tl hst) hc hs hz)
theorem V_goto {off : Int} {tgt : Nat} (hd : decode (jmC M) pc = .ok (.goto off, 3)) (ht : (pc : Int) + off = (tgt : Int))
    (k : V M d tgt L st h mc ms Q) : V M d pc L st h mc ms Q := by
  intro p l e R s m args below meth c G MC MS Z H locs cells slots ls cx hok hls hst hc hs hz
  obtain ⟨hx, hb, hml, hown, hts, hnm, hfr, hlo, hMC, hMS, hZ⟩ := id cx
  exact lv_goto hx hb hd ht (k p l e R s m args below meth c G MC MS Z H locs cells slots ls cx hok hls hst hc hs hz)
theorem V_icmp_eq {x y : Int} {off : Int} {tgt : Nat} (hd : decode (jmC M) pc = .ok (.if_icmp .eq off, 3)) (ht : (pc : Int) + off = (tgt : Int))
    (kt : x = y → V M d tgt L st h mc ms Q) (kf : ¬ (x = y) → V M d (pc + 3) L st h mc ms Q) : V M d pc L (.inl y :: .inl x :: st) h mc ms Q := by
  intro p l e R s m args below meth c G MC MS Z H locs cells slots ls cx hok hls hst hc hs hz
  obtain ⟨hx, hb, hml, hown, hts, hnm, hfr, hlo, hMC, hMS, hZ⟩ := id cx
  have hy1 : jR y := jst_hd hst
  have hx1 : jR x := jst_hd (jst_tl hst)
  exact lv_icmp_eq hx hb hd ht (fun q => kt ((jR_eq hx1 hy1).mp q) p l e R s m args below meth c G MC MS Z H locs cells slots ls cx hok hls (jst_tl (jst_tl hst)) hc hs hz) (fun q => kf (fun z => q ((jR_eq hx1 hy1).mpr z)) p l e R s m args below meth c G MC MS Z H locs cells slots ls cx hok hls (jst_tl (jst_tl hst)) hc hs hz)
theorem V_if_eq {x : Int} {off : Int} {tgt : Nat} (hd : decode (jmC M) pc = .ok (.ifCond .eq off, 3)) (ht : (pc : Int) + off = (tgt : Int))
    (kt : x = 0 → V M d tgt L st h mc ms Q) (kf : ¬ (x = 0) → V M d (pc + 3) L st h mc ms Q) : V M d pc L (.inl x :: st) h mc ms Q := by
  intro p l e R s m args below meth c G MC MS Z H locs cells slots ls cx hok hls hst hc hs hz
  obtain ⟨hx, hb, hml, hown, hts, hnm, hfr, hlo, hMC, hMS, hZ⟩ := id cx
  have hx1 : jR x := jst_hd hst
  exact lv_if_eq hx hb hd ht (fun q => kt ((jR_eq hx1 jR_0).mp q) p l e R s m args below meth c G MC MS Z H locs cells slots ls cx hok hls (jst_tl hst) hc hs hz) (fun q => kf (fun z => q ((jR_eq hx1 jR_0).mpr z)) p l e R s m args below meth c G MC MS Z H locs cells slots ls cx hok hls (jst_tl hst) hc hs hz)
theorem V_icmp_ne {x y : Int} {off : Int} {tgt : Nat} (hd : decode (jmC M) pc = .ok (.if_icmp .ne off, 3)) (ht : (pc : Int) + off = (tgt : Int))
    (kt : x ≠ y → V M d tgt L st h mc ms Q) (kf : x = y → V M d (pc + 3) L st h mc ms Q) : V M d pc L (.inl y :: .inl x :: st) h mc ms Q := by
  intro p l e R s m args below meth c G MC MS Z H locs cells slots ls cx hok hls hst hc hs hz
  obtain ⟨hx, hb, hml, hown, hts, hnm, hfr, hlo, hMC, hMS, hZ⟩ := id cx
  have hy1 : jR y := jst_hd hst
  have hx1 : jR x := jst_hd (jst_tl hst)
  exact lv_icmp_ne hx hb hd ht (fun q => kt ((not_congr (jR_eq hx1 hy1)).mp q) p l e R s m args below meth c G MC MS Z H locs cells slots ls cx hok hls (jst_tl (jst_tl hst)) hc hs hz) (fun q => kf ((jR_eq hx1 hy1).mp q) p l e R s m args below meth c G MC MS Z H locs cells slots ls cx hok hls (jst_tl (jst_tl hst)) hc hs hz)
theorem V_if_ne {x : Int} {off : Int} {tgt : Nat} (hd : decode (jmC M) pc = .ok (.ifCond .ne off, 3)) (ht : (pc : Int) + off = (tgt : Int))
    (kt : x ≠ 0 → V M d tgt L st h mc ms Q) (kf : x = 0 → V M d (pc + 3) L st h mc ms Q) : V M d pc L (.inl x :: st) h mc ms Q := by
  intro p l e R s m args below meth c G MC MS Z H locs cells slots ls cx hok hls hst hc hs hz
  obtain ⟨hx, hb, hml, hown, hts, hnm, hfr, hlo, hMC, hMS, hZ⟩ := id cx
  have hx1 : jR x := jst_hd hst
  exact lv_if_ne hx hb hd ht (fun q => kt ((not_congr (jR_eq hx1 jR_0)).mp q) p l e R s m args below meth c G MC MS Z H locs cells slots ls cx hok hls (jst_tl hst) hc hs hz) (fun q => kf ((jR_eq hx1 jR_0).mp q) p l e R s m args below meth c G MC MS Z H locs cells slots ls cx hok hls (jst_tl hst) hc hs hz)
theorem V_icmp_lt {x y : Int} {off : Int} {tgt : Nat} (hd : decode (jmC M) pc = .ok (.if_icmp .lt off, 3)) (ht : (pc : Int) + off = (tgt : Int))
    (kt : x < y → V M d tgt L st h mc ms Q) (kf : ¬ (x < y) → V M d (pc + 3) L st h mc ms Q) : V M d pc L (.inl y :: .inl x :: st) h mc ms Q := by
  intro p l e R s m args below meth c G MC MS Z H locs cells slots ls cx hok hls hst hc hs hz
  obtain ⟨hx, hb, hml, hown, hts, hnm, hfr, hlo, hMC, hMS, hZ⟩ := id cx
  have hy1 : jR y := jst_hd hst
  have hx1 : jR x := jst_hd (jst_tl hst)
  exact lv_icmp_lt hx hb hd ht (fun q => kt ((jR_lt hx1 hy1).mp q) p l e R s m args below meth c G MC MS Z H locs cells slots ls cx hok hls (jst_tl (jst_tl hst)) hc hs hz) (fun q => kf (fun z => q ((jR_lt hx1 hy1).mpr z)) p l e R s m args below meth c G MC MS Z H locs cells slots ls cx hok hls (jst_tl (jst_tl hst)) hc hs hz)
theorem V_if_lt {x : Int} {off : Int} {tgt : Nat} (hd : decode (jmC M) pc = .ok (.ifCond .lt off, 3)) (ht : (pc : Int) + off = (tgt : Int))
    (kt : x < 0 → V M d tgt L st h mc ms Q) (kf : ¬ (x < 0) → V M d (pc + 3) L st h mc ms Q) : V M d pc L (.inl x :: st) h mc ms Q := by
  intro p l e R s m args below meth c G MC MS Z H locs cells slots ls cx hok hls hst hc hs hz
  obtain ⟨hx, hb, hml, hown, hts, hnm, hfr, hlo, hMC, hMS, hZ⟩ := id cx
  have hx1 : jR x := jst_hd hst
  exact lv_if_lt hx hb hd ht (fun q => kt ((jR_lt hx1 jR_0).mp q) p l e R s m args below meth c G MC MS Z H locs cells slots ls cx hok hls (jst_tl hst) hc hs hz) (fun q => kf (fun z => q ((jR_lt hx1 jR_0).mpr z)) p l e R s m args below meth c G MC MS Z H locs cells slots ls cx hok hls (jst_tl hst) hc hs hz)
theorem V_icmp_ge {x y : Int} {off : Int} {tgt : Nat} (hd : decode (jmC M) pc = .ok (.if_icmp .ge off, 3)) (ht : (pc : Int) + off = (tgt : Int))
    (kt : y ≤ x → V M d tgt L st h mc ms Q) (kf : ¬ (y ≤ x) → V M d (pc + 3) L st h mc ms Q) : V M d pc L (.inl y :: .inl x :: st) h mc ms Q := by
  intro p l e R s m args below meth c G MC MS Z H locs cells slots ls cx hok hls hst hc hs hz
  obtain ⟨hx, hb, hml, hown, hts, hnm, hfr, hlo, hMC, hMS, hZ⟩ := id cx
  have hy1 : jR y := jst_hd hst
  have hx1 : jR x := jst_hd (jst_tl hst)
  exact lv_icmp_ge hx hb hd ht (fun q => kt ((jR_le hy1 hx1).mp q) p l e R s m args below meth c G MC MS Z H locs cells slots ls cx hok hls (jst_tl (jst_tl hst)) hc hs hz) (fun q => kf (fun z => q ((jR_le hy1 hx1).mpr z)) p l e R s m args below meth c G MC MS Z H locs cells slots ls cx hok hls (jst_tl (jst_tl hst)) hc hs hz)
theorem V_if_ge {x : Int} {off : Int} {tgt : Nat} (hd : decode (jmC M) pc = .ok (.ifCond .ge off, 3)) (ht : (pc : Int) + off = (tgt : Int))
    (kt : 0 ≤ x → V M d tgt L st h mc ms Q) (kf : ¬ (0 ≤ x) → V M d (pc + 3) L st h mc ms Q) : V M d pc L (.inl x :: st) h mc ms Q := by
  intro p l e R s m args below meth c G MC MS Z H locs cells slots ls cx hok hls hst hc hs hz
  obtain ⟨hx, hb, hml, hown, hts, hnm, hfr, hlo, hMC, hMS, hZ⟩ := id cx
  have hx1 : jR x := jst_hd hst
  exact lv_if_ge hx hb hd ht (fun q => kt ((jR_le jR_0 hx1).mp q) p l e R s m args below meth c G MC MS Z H locs cells slots ls cx hok hls (jst_tl hst) hc hs hz) (fun q => kf (fun z => q ((jR_le jR_0 hx1).mpr z)) p l e R s m args below meth c G MC MS Z H locs cells slots ls cx hok hls (jst_tl hst) hc hs hz)
theorem V_icmp_gt {x y : Int} {off : Int} {tgt : Nat} (hd : decode (jmC M) pc = .ok (.if_icmp .gt off, 3)) (ht : (pc : Int) + off = (tgt : Int))
    (kt : y < x → V M d tgt L st h mc ms Q) (kf : ¬ (y < x) → V M d (pc + 3) L st h mc ms Q) : V M d pc L (.inl y :: .inl x :: st) h mc ms Q := by
  intro p l e R s m args below meth c G MC MS Z H locs cells slots ls cx hok hls hst hc hs hz
  obtain ⟨hx, hb, hml, hown, hts, hnm, hfr, hlo, hMC, hMS, hZ⟩ := id cx
  have hy1 : jR y := jst_hd hst
  have hx1 : jR x := jst_hd (jst_tl hst)
  exact lv_icmp_gt hx hb hd ht (fun q => kt ((jR_lt hy1 hx1).mp q) p l e R s m args below meth c G MC MS Z H locs cells slots ls cx hok hls (jst_tl (jst_tl hst)) hc hs hz) (fun q => kf (fun z => q ((jR_lt hy1 hx1).mpr z)) p l e R s m args below meth c G MC MS Z H locs cells slots ls cx hok hls (jst_tl (jst_tl hst)) hc hs hz)
theorem V_if_gt {x : Int} {off : Int} {tgt : Nat} (hd : decode (jmC M) pc = .ok (.ifCond .gt off, 3)) (ht : (pc : Int) + off = (tgt : Int))
    (kt : 0 < x → V M d tgt L st h mc ms Q) (kf : ¬ (0 < x) → V M d (pc + 3) L st h mc ms Q) : V M d pc L (.inl x :: st) h mc ms Q := by
  intro p l e R s m args below meth c G MC MS Z H locs cells slots ls cx hok hls hst hc hs hz
  obtain ⟨hx, hb, hml, hown, hts, hnm, hfr, hlo, hMC, hMS, hZ⟩ := id cx
  have hx1 : jR x := jst_hd hst
  exact lv_if_gt hx hb hd ht (fun q => kt ((jR_lt jR_0 hx1).mp q) p l e R s m args below meth c G MC MS Z H locs cells slots ls cx hok hls (jst_tl hst) hc hs hz) (fun q => kf (fun z => q ((jR_lt jR_0 hx1).mpr z)) p l e R s m args below meth c G MC MS Z H locs cells slots ls cx hok hls (jst_tl hst) hc hs hz)
theorem V_icmp_le {x y : Int} {off : Int} {tgt : Nat} (hd : decode (jmC M) pc = .ok (.if_icmp .le off, 3)) (ht : (pc : Int) + off = (tgt : Int))
    (kt : x ≤ y → V M d tgt L st h mc ms Q) (kf : ¬ (x ≤ y) → V M d (pc + 3) L st h mc ms Q) : V M d pc L (.inl y :: .inl x :: st) h mc ms Q := by
  intro p l e R s m args below meth c G MC MS Z H locs cells slots ls cx hok hls hst hc hs hz
  obtain ⟨hx, hb, hml, hown, hts, hnm, hfr, hlo, hMC, hMS, hZ⟩ := id cx
  have hy1 : jR y := jst_hd hst
  have hx1 : jR x := jst_hd (jst_tl hst)
  exact lv_icmp_le hx hb hd ht (fun q => kt ((jR_le hx1 hy1).mp q) p l e R s m args below meth c G MC MS Z H locs cells slots ls cx hok hls (jst_tl (jst_tl hst)) hc hs hz) (fun q => kf (fun z => q ((jR_le hx1 hy1).mpr z)) p l e R s m args below meth c G MC MS Z H locs cells slots ls cx hok hls (jst_tl (jst_tl hst)) hc hs hz)
theorem V_if_le {x : Int} {off : Int} {tgt : Nat} (hd : decode (jmC M) pc = .ok (.ifCond .le off, 3)) (ht : (pc : Int) + off = (tgt : Int))
    (kt : x ≤ 0 → V M d tgt L st h mc ms Q) (kf : ¬ (x ≤ 0) → V M d (pc + 3) L st h mc ms Q) : V M d pc L (.inl x :: st) h mc ms Q := by
  intro p l e R s m args below meth c G MC MS Z H locs cells slots ls cx hok hls hst hc hs hz
  obtain ⟨hx, hb, hml, hown, hts, hnm, hfr, hlo, hMC, hMS, hZ⟩ := id cx
  have hx1 : jR x := jst_hd hst
  exact lv_if_le hx hb hd ht (fun q => kt ((jR_le hx1 jR_0).mp q) p l e R s m args below meth c G MC MS Z H locs cells slots ls cx hok hls (jst_tl hst) hc hs hz) (fun q => kf (fun z => q ((jR_le hx1 jR_0).mpr z)) p l e R s m args below meth c G MC MS Z H locs cells slots ls cx hok hls (jst_tl hst) hc hs hz)
end JR
end
section
/-! ===== fields, arrays, new, calls, returns, over V ===== -/
section JH
variable {M : jM} {d pc mc ms : Nat} {L : List (Option jA)} {st : List jA} {h : jH} {Q : Option jA → jH → Prop}
def jFL (own : String) (ix c k : Nat) : Prop := c < 10 ∧ k < jF_ c ∧ (Cond.fieldLink own ix (jT_ c k).1 (jT_ c k).2.1 (jT_ c k).2.2.1 ∈ jTs ∨ ∃ host, Cond.fieldLinkNest own ix (jT_ c k).1 (jT_ c k).2.1 (jT_ c k).2.2.1 host ∈ lw_tbl)
theorem jD_any {G : jG} {h : jH} : va_D (jAt G) (jW G h) := jD G h
/-- the field of an object, at W -/
theorem jget_w {p : Program} {l : Launch} {e : Env} {R : Room} {s : State} {m : MethodId} {args : Array Value} {below : List Frame} {meth : Method} {c : Code} {H : Heap} {locs : List Loc} {cells slots : Nat} {Z : State → Prop} {G : jG} {cc : ByteArray} {own : String} {ls : Array Slot} {rest : List Value} {ix a ci k : Nat}
    (hx : p.tables.exec = Jvm.exec) (hb : c.code = cc) (hown : s.vm.findClass own = some m.cls) (hts : ∀ w ∈ jTs, w.before args s = true) {H0 : Heap} (hok : jOk G h H0 H locs s) (hf : jFL own ix ci k) (hS : (jS h a).1 = ci) (hd : decode cc pc = .ok (.getfield ix, 3))
    (kk : W p l e R s m args below meth c H locs cells slots Z (F0 m (pc + 3) ls (jfv G h a ci k :: rest))) : W p l e R s m args below meth c H locs cells slots Z (F0 m pc ls (va_rf (jrf G a) :: rest)) := by
  obtain ⟨hw, hst, hP, hSS, hsz, hbz, hz0, hX⟩ := hok
  obtain ⟨hc9, hkN, hlk⟩ := hf
  obtain ⟨h2, hn⟩ := jw_range hw (a := a) (by rw [hS]; omega) (by rw [hS]; omega)
  have he := jW_get G h h2 hn
  rw [jE_obj hS hc9] at he
  rw [jrf_at G h2]
  rcases hlk with hlk | ⟨host, hlk⟩
  · exact va_get (D := jgD G) (ci := ci) (C := jR_ ci) (T := jT_ ci) (N := jF_ ci) hx hb hts (jin ci hc9) hown hst.1 hP (a - 2) he (jcl_get ci hc9) k hkN (hts _ hlk) (fun _ h9 => h9) (jfs_get hkN) hd kk
  · exact va_getN (D := jgD G) (ci := ci) (C := jR_ ci) (T := jT_ ci) (N := jF_ ci) hx hb hts (jin ci hc9) hown hst.1 hP (a - 2) he (jcl_get ci hc9) k hkN (va_Nw.use rfl (hst.2.1 _ hlk rfl)) (fun _ h9 => h9) (jfs_get hkN) hd kk
theorem jS_rf {G : jG} {H0 H : Heap} {locs : List Loc} (h : va_S (jAt G) H0 H locs) : va_S (jAt G) H H locs := ⟨Nat.le_refl _, fun _ _ _ => rfl, h.2.2⟩
/-- behind a write: the picture is the new one -/
theorem jfin {p : Program} {l : Launch} {e : Env} {R : Room} {s : State} {m : MethodId} {args : Array Value} {below : List Frame} {meth : Method} {c : Code} {H : Heap} {locs : List Loc} {cells slots : Nat} {Z : State → Prop} {G : jG} {h h' : jH} {H1 : Heap} {locs1 : List Loc} {g : JFrame} (hok : jOk G h s.heap H locs s) (hz : H.size = s.heap.size + cells) (hN : jN h' = jN h) (hS1 : jS h' 1 = jS h 1) (hX1 : jX h' 1 = jX h 1) (hw' : jWf h')
    (hP1 : va_P (jgD G) jcl (jW G h') H1) (hSS : va_S (jAt G) H H1 locs1) (kk : jOk G h' s.heap H1 locs1 s → H1.size = s.heap.size + cells → W p l e R s m args below meth c H1 locs1 cells slots Z g) : W p l e R s m args below meth c H1 locs1 cells slots Z g := by
  intro T hT X
  have hup := X.heapSize
  rw [hT] at hup
  obtain ⟨hw, hst, hP, hS0, hsz, hbz, hz0, hX⟩ := hok
  have hsame : H1.size = H.size := by have := hSS.1; omega
  refine kk ⟨hw', hst, hP1, ⟨by omega, fun q hq hA => (hSS.2.1 q (by omega) hA).trans (hS0.2.1 q hq hA), hSS.2.2⟩, by omega, hbz, hz0, ?_⟩ (by omega) T hT X
  rw [hS1, hX1]
  exact hX.kept (hSS.2.1 _ (by omega) (by show ¬ jgz G ≤ jgb G; omega))
/-- a field is written, at W -/
theorem jput_w {p : Program} {l : Launch} {e : Env} {R : Room} {s : State} {m : MethodId} {args : Array Value} {below : List Frame} {meth : Method} {c : Code} {H : Heap} {locs : List Loc} {cells slots : Nat} {Z : State → Prop} {G : jG} {cc : ByteArray} {own : String} {ls : Array Slot} {rest : List Value} {ix a ci k : Nat} {h h' : jH} {v : Value} (hx : p.tables.exec = Jvm.exec) (hb : c.code = cc) (hown : s.vm.findClass own = some m.cls) (hts : ∀ w ∈ jTs, w.before args s = true) (hok : jOk G h s.heap H locs s) (hz : H.size = s.heap.size + cells)
    (hf : jFL own ix ci k) (hfin : (jT_ ci k).2.2.2 = false) (hS : (jS h a).1 = ci) (hn : narrow (jt_ ci k) v = v) (hfit : fits (jt_ ci k) v = true) (hd : decode cc pc = .ok (.putfield ix, 3))
    (hN : jN h' = jN h) (hS1 : jS h' 1 = jS h 1) (hX1 : jX h' 1 = jX h 1) (hw' : jWf h') (he' : jE G h' a = .inr (ci, (jfs G h a ci).set k v)) (ho : ∀ b, b ≠ a → jE G h' b = jE G h b)
    (kk : ∀ (H1 : Heap) (locs1 : List Loc), jOk G h' s.heap H1 locs1 s → H1.size = s.heap.size + cells → W p l e R s m args below meth c H1 locs1 cells slots Z (F0 m (pc + 3) ls rest)) : W p l e R s m args below meth c H locs cells slots Z (F0 m pc ls (v :: va_rf (jrf G a) :: rest)) := by
  obtain ⟨hw, hst, hP, hSS, hsz, hbz, hz0, hX⟩ := id hok
  obtain ⟨hc9, hkN, hlk⟩ := hf
  obtain ⟨h2, hna⟩ := jw_range hw (a := a) (by rw [hS]; omega) (by rw [hS]; omega)
  have he := jW_get G h h2 hna
  rw [jE_obj hS hc9] at he
  rw [jrf_at G h2]
  have hW := jW_ext hN h2 hna he' ho
  rcases hlk with hlk | ⟨host, hlk⟩
  · exact va_put (D := jgD G) (ci := ci) (C := jR_ ci) (T := jT_ ci) (N := jF_ ci) hx hb hts (jin ci hc9) (jt_ ci) (jt_ok ci hc9) (jn_ok ci hc9) hown hst.1 hP (jD G h) (jS_rf hSS) (a - 2) he (jcl_get ci hc9) k hkN (hts _ hlk) (fun _ h9 => h9) hfin (jt_ok ci hc9 k hkN) hn hfit (by rw [jfs_len]; exact hkN) hd
      (fun H1 locs1 hP1 _ hS2 => jfin hok hz hN hS1 hX1 hw' (by rw [hW]; exact hP1) hS2 (kk H1 locs1))
  · exact va_putN (D := jgD G) (ci := ci) (C := jR_ ci) (T := jT_ ci) (N := jF_ ci) hx hb hts (jin ci hc9) (jt_ ci) (jt_ok ci hc9) (jn_ok ci hc9) hown hst.1 hP (jD G h) (jS_rf hSS) (a - 2) he (jcl_get ci hc9) k hkN (va_Nw.use rfl (hst.2.1 _ hlk rfl)) (fun _ h9 => h9) hfin (jt_ok ci hc9 k hkN) hn hfit (by rw [jfs_len]; exact hkN) hd
      (fun H1 locs1 hP1 _ hS2 => jfin hok hz hN hS1 hX1 hw' (by rw [hW]; exact hP1) hS2 (kk H1 locs1))
/-- a final field is written in its class's constructor -/
theorem jputF_w {p : Program} {l : Launch} {e : Env} {R : Room} {s : State} {m : MethodId} {args : Array Value} {below : List Frame} {meth : Method} {c : Code} {H : Heap} {locs : List Loc} {cells slots : Nat} {Z : State → Prop} {G : jG} {cc : ByteArray} {own : String} {ls : Array Slot} {rest : List Value} {ix a ci k : Nat} {h h' : jH} {v : Value} (hx : p.tables.exec = Jvm.exec) (hb : c.code = cc) (hown : s.vm.findClass own = some m.cls) (hts : ∀ w ∈ jTs, w.before args s = true) (hok : jOk G h s.heap H locs s) (hz : H.size = s.heap.size + cells)
    (hf : ci < 10 ∧ k < jF_ ci ∧ Cond.fieldLink own ix (jT_ ci k).1 (jT_ ci k).2.1 (jT_ ci k).2.2.1 ∈ jTs) (hfin : (jT_ ci k).2.2.2 = true) (hinit : meth.name = "<init>") (hdecl : (jT_ ci k).1 = own) (hS : (jS h a).1 = ci) (hn : narrow (jt_ ci k) v = v) (hfit : fits (jt_ ci k) v = true) (hd : decode cc pc = .ok (.putfield ix, 3))
    (hN : jN h' = jN h) (hS1 : jS h' 1 = jS h 1) (hX1 : jX h' 1 = jX h 1) (hw' : jWf h') (he' : jE G h' a = .inr (ci, (jfs G h a ci).set k v)) (ho : ∀ b, b ≠ a → jE G h' b = jE G h b)
    (kk : ∀ (H1 : Heap) (locs1 : List Loc), jOk G h' s.heap H1 locs1 s → H1.size = s.heap.size + cells → W p l e R s m args below meth c H1 locs1 cells slots Z (F0 m (pc + 3) ls rest)) : W p l e R s m args below meth c H locs cells slots Z (F0 m pc ls (v :: va_rf (jrf G a) :: rest)) := by
  obtain ⟨hw, hst, hP, hSS, hsz, hbz, hz0, hX⟩ := id hok
  obtain ⟨hc9, hkN, hlk⟩ := hf
  obtain ⟨h2, hna⟩ := jw_range hw (a := a) (by rw [hS]; omega) (by rw [hS]; omega)
  have he := jW_get G h h2 hna
  rw [jE_obj hS hc9] at he
  rw [jrf_at G h2]
  have hW := jW_ext hN h2 hna he' ho
  exact va_putF (D := jgD G) (ci := ci) (C := jR_ ci) (T := jT_ ci) (N := jF_ ci) hx hb hts (jin ci hc9) (jt_ ci) (jt_ok ci hc9) (jn_ok ci hc9) hown hst.1 hP (jD G h) (jS_rf hSS) (a - 2) he (jcl_get ci hc9) k hkN (hts _ hlk) (fun _ h9 => h9) hfin hinit hdecl (jt_ok ci hc9 k hkN) hn hfit (by rw [jfs_len]; exact hkN) hd
      (fun H1 locs1 hP1 _ hS2 => jfin hok hz hN hS1 hX1 hw' (by rw [hW]; exact hP1) hS2 (kk H1 locs1))
theorem jfs_ext {G : jG} {h h' : jH} {a ci k : Nat} {v : Value} (hk : k < jF_ ci) (hv : jfv G h' a ci k = v) (ho : ∀ j, j ≠ k → jfv G h' a ci j = jfv G h a ci j) : jfs G h' a ci = (jfs G h a ci).set k v := by
  apply List.ext_getElem?
  intro j
  by_cases hj : j < jF_ ci
  · rw [jfs_get hj]
    by_cases e : j = k
    · subst e
      rw [List.getElem?_set_self (by rw [jfs_len]; exact hj), hv]
    · rw [List.getElem?_set_ne (Ne.symm e), jfs_get hj, ho j e]
  · rw [List.getElem?_eq_none (by rw [jfs_len]; omega), List.getElem?_eq_none (by rw [List.length_set, jfs_len]; omega)]
theorem jfs_eq {G : jG} {h h' : jH} {a ci : Nat} (ho : ∀ j, jfv G h' a ci j = jfv G h a ci j) : jfs G h' a ci = jfs G h a ci := by
  unfold jfs
  exact List.map_congr_left (fun j _ => ho j)
theorem jE_eq {G : jG} {h h' : jH} {b : Nat} (hS : jS h' b = jS h b) (hI : jI h' b = jI h b) (hP : jP h' b = jP h b) (hX : jX h' b = jX h b) (hY : jY h' b = jY h b) : jE G h' b = jE G h b := by
  unfold jE
  rw [hS, jfs_eq (h := h) (fun j => by unfold jfv; rw [hI, hP])]
  unfold jar
  rw [hX, hY]
theorem ju_ne {α : Type} {f : Nat → Nat → α} {a k b : Nat} {v : α} (hb : b ≠ a) : ju f a k v b = f b := by funext j; unfold ju; rw [if_neg (fun q => hb q.1)]
theorem ju_k {α : Type} {f : Nat → Nat → α} {a k j : Nat} {v : α} (hj : j ≠ k) : ju f a k v a j = f a j := by unfold ju; rw [if_neg (fun q => hj q.2)]
theorem ju_at {α : Type} {f : Nat → Nat → α} {a k : Nat} {v : α} : ju f a k v a k = v := by unfold ju; rw [if_pos ⟨rfl, rfl⟩]
theorem jWf_I {h : jH} (hw : jWf h) {a k : Nat} {v : Int} (hv : jR v) : jWf (jsI h a k v) := ⟨hw.1, fun a' k' => by show jR (ju (jI h) a k v a' k'); unfold ju; split; exact hv; exact hw.2.1 _ _, hw.2.2⟩
theorem jWf_X {h : jH} (hw : jWf h) {a k : Nat} {v : Int} (hv : jR v) : jWf (jsX h a k v) := ⟨hw.1, hw.2.1, fun a' k' => by show jR (ju (jX h) a k v a' k'); unfold ju; split; exact hv; exact hw.2.2.1 _ _, hw.2.2.2⟩
theorem jWf_P {h : jH} (hw : jWf h) {a k v : Nat} : jWf (jsP h a k v) := hw
theorem jWf_Y {h : jH} (hw : jWf h) {a k v : Nat} : jWf (jsY h a k v) := hw
theorem jE_sI {G : jG} {h : jH} {a ci k : Nat} {z : Int} (hS : (jS h a).1 = ci) (hc : ci < 10) (hk : k < jF_ ci) (ht : jrt (jt_ ci k) = false) : jE G (jsI h a k z) a = .inr (ci, (jfs G h a ci).set k (.int (Int32.ofInt z))) := by
  rw [jE_obj (show (jS (jsI h a k z) a).1 = ci from hS) hc, jfs_ext hk (v := .int (Int32.ofInt z)) ?_ ?_]
  · unfold jfv
    rw [ht]
    show Value.int (Int32.ofInt (ju (jI h) a k z a k)) = _
    rw [ju_at]
  · intro j hj
    unfold jfv
    show (if _ then va_rf (jrf G (jP h a j)) else Value.int (Int32.ofInt (ju (jI h) a k z a j))) = _
    rw [ju_k hj]
theorem jE_sP {G : jG} {h : jH} {a ci k v : Nat} (hS : (jS h a).1 = ci) (hc : ci < 10) (hk : k < jF_ ci) (ht : jrt (jt_ ci k) = true) : jE G (jsP h a k v) a = .inr (ci, (jfs G h a ci).set k (va_rf (jrf G v))) := by
  rw [jE_obj (show (jS (jsP h a k v) a).1 = ci from hS) hc, jfs_ext hk (v := va_rf (jrf G v)) ?_ ?_]
  · unfold jfv
    rw [ht]
    show va_rf (jrf G (ju (jP h) a k v a k)) = _
    rw [ju_at]
  · intro j hj
    unfold jfv
    show (if _ then va_rf (jrf G (ju (jP h) a k v a j)) else _) = _
    rw [ju_k hj]
    rfl
theorem jE_oI {G : jG} {h : jH} {a k : Nat} {z : Int} : ∀ b, b ≠ a → jE G (jsI h a k z) b = jE G h b := fun b hb => jE_eq rfl (ju_ne hb) rfl rfl rfl
theorem jE_oP {G : jG} {h : jH} {a k v : Nat} : ∀ b, b ≠ a → jE G (jsP h a k v) b = jE G h b := fun b hb => jE_eq rfl rfl (ju_ne hb) rfl rfl
theorem jE_oX {G : jG} {h : jH} {a k : Nat} {z : Int} : ∀ b, b ≠ a → jE G (jsX h a k z) b = jE G h b := fun b hb => jE_eq rfl rfl rfl (ju_ne hb) rfl
theorem jE_oY {G : jG} {h : jH} {a k v : Nat} : ∀ b, b ≠ a → jE G (jsY h a k v) b = jE G h b := fun b hb => jE_eq rfl rfl rfl rfl (ju_ne hb)
theorem jfits_ref {t : FieldType} (h : (∃ C, t = .object C) ∨ ∃ u, t = .array u) (G : jG) (v : Nat) : narrow t (va_rf (jrf G v)) = va_rf (jrf G v) ∧ fits t (va_rf (jrf G v)) = true := by
  rcases h with ⟨C, rfl⟩ | ⟨u, rfl⟩ <;> cases jrf G v <;> exact ⟨rfl, rfl⟩
theorem jty_ref : ∀ c, c < 10 → ∀ k, k < jF_ c → jrt (jt_ c k) = true → (∃ C, jt_ c k = .object C) ∨ ∃ u, jt_ c k = .array u := by
  intro c hc k hk
  generalize ht : jt_ c k = t
  intro hr
  have key : jt_ c k = .int ∨ jt_ c k = .boolean ∨ (∃ C, jt_ c k = .object C) ∨ ∃ u, jt_ c k = .array u := by
    rcases (show c = 0 ∨ c = 1 ∨ c = 2 ∨ c = 3 ∨ c = 4 ∨ c = 5 ∨ c = 6 ∨ c = 7 ∨ c = 8 ∨ c = 9 by omega) with rfl | rfl | rfl | rfl | rfl | rfl | rfl | rfl | rfl | rfl
    all_goals
      simp only [jt_]
      first | unfold tyX0 | unfold tyX1 | unfold tyX2 | unfold tyX3 | unfold tyX4 | unfold tyX5 | unfold tyX6 | unfold tyX7 | unfold tyX8 | unfold tyX9
      split <;> first | exact Or.inl rfl | exact Or.inr (Or.inl rfl) | exact Or.inr (Or.inr (Or.inl ⟨_, rfl⟩)) | exact Or.inr (Or.inr (Or.inr ⟨_, rfl⟩))
  rw [ht] at key
  rcases key with rfl | rfl | h | h
  · cases hr
  · cases hr
  · exact Or.inl h
  · exact Or.inr h
theorem V_getI {ix a ci kf : Nat} (hd : decode (jmC M) pc = .ok (.getfield ix, 3)) (hf : jFL (jmO M) ix ci kf) (ht : jrt (jt_ ci kf) = false) (hS : (jS h a).1 = ci)
    (k : V M d (pc + 3) L (.inl (jI h a kf) :: st) h mc ms Q) : V M d pc L (.inr a :: st) h mc ms Q := by
  intro p l e R s m args below meth c G MC MS Z H locs cells slots ls cx hok hls hst hc hs hz
  obtain ⟨hx, hb, hml, hown, hts, hnm, hfr, hlo, hMC, hMS, hZ⟩ := id cx
  have k1 := k p l e R s m args below meth c G MC MS Z H locs cells slots ls cx hok hls (jst_cons (v := .inl (jI h a kf)) (hok.1.2.1 _ _) (jst_tl hst)) hc hs hz
  rw [List.map_cons, show jV G (.inl (jI h a kf)) = jfv G h a ci kf by unfold jfv; rw [ht]; rfl] at k1
  exact jget_w hx hb hown hts hok hf hS hd k1
theorem V_getP {ix a ci kf : Nat} (hd : decode (jmC M) pc = .ok (.getfield ix, 3)) (hf : jFL (jmO M) ix ci kf) (ht : jrt (jt_ ci kf) = true) (hS : (jS h a).1 = ci)
    (k : V M d (pc + 3) L (.inr (jP h a kf) :: st) h mc ms Q) : V M d pc L (.inr a :: st) h mc ms Q := by
  intro p l e R s m args below meth c G MC MS Z H locs cells slots ls cx hok hls hst hc hs hz
  obtain ⟨hx, hb, hml, hown, hts, hnm, hfr, hlo, hMC, hMS, hZ⟩ := id cx
  have k1 := k p l e R s m args below meth c G MC MS Z H locs cells slots ls cx hok hls (jst_cons (v := .inr (jP h a kf)) trivial (jst_tl hst)) hc hs hz
  rw [List.map_cons, show jV G (.inr (jP h a kf)) = jfv G h a ci kf by unfold jfv; rw [ht]; rfl] at k1
  exact jget_w hx hb hown hts hok hf hS hd k1
theorem V_putI {ix a ci kf : Nat} {z : Int} (hd : decode (jmC M) pc = .ok (.putfield ix, 3)) (hf : jFL (jmO M) ix ci kf) (ht : jt_ ci kf = .int) (hfin : (jT_ ci kf).2.2.2 = false) (hS : (jS h a).1 = ci)
    (k : V M d (pc + 3) L st (jsI h a kf z) mc ms Q) : V M d pc L (.inl z :: .inr a :: st) h mc ms Q := by
  intro p l e R s m args below meth c G MC MS Z H locs cells slots ls cx hok hls hst hc hs hz
  obtain ⟨hx, hb, hml, hown, hts, hnm, hfr, hlo, hMC, hMS, hZ⟩ := id cx
  have hr : jR z := jst_hd hst
  exact jput_w hx hb hown hts hok hz hf hfin hS (v := .int (Int32.ofInt z)) (by rw [ht]; rfl) (by rw [ht]; rfl) hd (h' := jsI h a kf z) rfl rfl rfl (jWf_I hok.1 hr) (jE_sI hS hf.1 hf.2.1 (by rw [ht]; rfl)) jE_oI
    (fun H1 locs1 hok1 hz1 => k p l e R s m args below meth c G MC MS Z H1 locs1 cells slots ls cx hok1 hls (jst_tl (jst_tl hst)) hc hs hz1)
theorem V_putZ {ix a ci kf : Nat} {z : Int} (hd : decode (jmC M) pc = .ok (.putfield ix, 3)) (hf : jFL (jmO M) ix ci kf) (ht : jt_ ci kf = .boolean) (hfin : (jT_ ci kf).2.2.2 = false) (hS : (jS h a).1 = ci) (hzz : z = 0 ∨ z = 1)
    (k : V M d (pc + 3) L st (jsI h a kf z) mc ms Q) : V M d pc L (.inl z :: .inr a :: st) h mc ms Q := by
  intro p l e R s m args below meth c G MC MS Z H locs cells slots ls cx hok hls hst hc hs hz
  obtain ⟨hx, hb, hml, hown, hts, hnm, hfr, hlo, hMC, hMS, hZ⟩ := id cx
  have hr : jR z := jst_hd hst
  exact jput_w hx hb hown hts hok hz hf hfin hS (v := .int (Int32.ofInt z)) (by rw [ht]; rcases hzz with rfl | rfl <;> rfl) (by rw [ht]; rcases hzz with rfl | rfl <;> rfl) hd (h' := jsI h a kf z) rfl rfl rfl (jWf_I hok.1 hr) (jE_sI hS hf.1 hf.2.1 (by rw [ht]; rfl)) jE_oI
    (fun H1 locs1 hok1 hz1 => k p l e R s m args below meth c G MC MS Z H1 locs1 cells slots ls cx hok1 hls (jst_tl (jst_tl hst)) hc hs hz1)
theorem V_putP {ix a ci kf v : Nat} (hd : decode (jmC M) pc = .ok (.putfield ix, 3)) (hf : jFL (jmO M) ix ci kf) (ht : jrt (jt_ ci kf) = true) (hfin : (jT_ ci kf).2.2.2 = false) (hS : (jS h a).1 = ci)
    (k : V M d (pc + 3) L st (jsP h a kf v) mc ms Q) : V M d pc L (.inr v :: .inr a :: st) h mc ms Q := by
  intro p l e R s m args below meth c G MC MS Z H locs cells slots ls cx hok hls hst hc hs hz
  obtain ⟨hx, hb, hml, hown, hts, hnm, hfr, hlo, hMC, hMS, hZ⟩ := id cx
  have hq := jfits_ref (jty_ref ci hf.1 kf hf.2.1 ht) G v
  exact jput_w hx hb hown hts hok hz hf hfin hS (v := va_rf (jrf G v)) hq.1 hq.2 hd (h' := jsP h a kf v) rfl rfl rfl (jWf_P hok.1) (jE_sP hS hf.1 hf.2.1 ht) jE_oP
    (fun H1 locs1 hok1 hz1 => k p l e R s m args below meth c G MC MS Z H1 locs1 cells slots ls cx hok1 hls (jst_tl (jst_tl hst)) hc hs hz1)
theorem V_putF {ix a ci kf v : Nat} (hd : decode (jmC M) pc = .ok (.putfield ix, 3)) (hf : ci < 10 ∧ kf < jF_ ci ∧ Cond.fieldLink (jmO M) ix (jT_ ci kf).1 (jT_ ci kf).2.1 (jT_ ci kf).2.2.1 ∈ jTs) (ht : jrt (jt_ ci kf) = true) (hfin : (jT_ ci kf).2.2.2 = true) (hinit : (jmY M).name = "<init>") (hdecl : (jT_ ci kf).1 = jmO M) (hS : (jS h a).1 = ci)
    (k : V M d (pc + 3) L st (jsP h a kf v) mc ms Q) : V M d pc L (.inr v :: .inr a :: st) h mc ms Q := by
  intro p l e R s m args below meth c G MC MS Z H locs cells slots ls cx hok hls hst hc hs hz
  obtain ⟨hx, hb, hml, hown, hts, hnm, hfr, hlo, hMC, hMS, hZ⟩ := id cx
  have hq := jfits_ref (jty_ref ci hf.1 kf hf.2.1 ht) G v
  exact jputF_w hx hb hown hts hok hz hf hfin (hnm.trans hinit) hdecl hS (v := va_rf (jrf G v)) hq.1 hq.2 hd (h' := jsP h a kf v) rfl rfl rfl (jWf_P hok.1) (jE_sP hS hf.1 hf.2.1 ht) jE_oP
    (fun H1 locs1 hok1 hz1 => k p l e R s m args below meth c G MC MS Z H1 locs1 cells slots ls cx hok1 hls (jst_tl (jst_tl hst)) hc hs hz1)
end JH
end
section
/-! ===== arrays, new, calls, returns, over V ===== -/
section JK
variable {M : jM} {d pc mc ms : Nat} {L : List (Option jA)} {st : List jA} {h : jH} {Q : Option jA → jH → Prop}
theorem jarr {G : jG} {h : jH} (hw : jWf h) {a ty : Nat} (hS : (jS h a).1 = ty) (hty : 16 ≤ ty) (hty2 : ty < 99) : 2 ≤ a ∧ a < jN h ∧ (jW G h)[a - 2]? = some (jgz G + (a - 2), .inl (jgA G ty, jar G h a ty (jS h a).2)) := by
  obtain ⟨h2, hn⟩ := jw_range hw (a := a) (by rw [hS]; omega) (by rw [hS]; omega)
  have he := jW_get G h h2 hn
  rw [jE_arr hS hty] at he
  exact ⟨h2, hn, he⟩
theorem jar_i {G : jG} {h : jH} {a ty len : Nat} (h18 : ty < 18) : jar G h a ty len = (len, .inl (fun j => Int32.ofInt (jX h a j))) := by unfold jar; rw [if_pos h18]
theorem jar_r {G : jG} {h : jH} {a ty len : Nat} (h18 : ¬ ty < 18) : jar G h a ty len = (len, .inr (.inr (.inr (.inr (fun j => jrf G (jY h a j)))))) := by unfold jar; rw [if_neg h18]
theorem V_iald {a : Nat} {i : Int} (hd : decode (jmC M) pc = .ok (.iaload, 1)) (hS : (jS h a).1 = 16) (h0 : 0 ≤ i) (h1 : i < (jS h a).2)
    (k : V M d (pc + 1) L (.inl (jX h a i.toNat) :: st) h mc ms Q) : V M d pc L (.inl i :: .inr a :: st) h mc ms Q := by
  intro p l e R s m args below meth c G MC MS Z H locs cells slots ls cx hok hls hst hc hs hz
  obtain ⟨hx, hb, hml, hown, hts, hnm, hfr, hlo, hMC, hMS, hZ⟩ := id cx
  obtain ⟨h2, hn, he⟩ := jarr (G := G) hok.1 hS (by decide) (by decide)
  rw [jar_i (by decide)] at he
  have hi : jR i := jst_hd hst
  have k1 := k p l e R s m args below meth c G MC MS Z H locs cells slots ls cx hok hls (jst_cons (v := .inl (jX h a i.toNat)) (hok.1.2.2.1 _ _) (jst_tl (jst_tl hst))) hc hs hz
  rw [List.map_cons, List.map_cons, show jV G (.inr a) = .ref (jgz G + (a - 2)) by show va_rf (jrf G a) = _; rw [jrf_at G h2]; rfl]
  rw [List.map_cons, ← j_ix hi] at k1
  exact va_iald hx hb hok.2.1.1 hok.2.2.1 (a - 2) 0 he rfl (j_in hi h0 h1) hd k1
theorem V_zald {a : Nat} {i : Int} (hd : decode (jmC M) pc = .ok (.baload, 1)) (hS : (jS h a).1 = 17) (h0 : 0 ≤ i) (h1 : i < (jS h a).2)
    (k : V M d (pc + 1) L (.inl (jX h a i.toNat) :: st) h mc ms Q) : V M d pc L (.inl i :: .inr a :: st) h mc ms Q := by
  intro p l e R s m args below meth c G MC MS Z H locs cells slots ls cx hok hls hst hc hs hz
  obtain ⟨hx, hb, hml, hown, hts, hnm, hfr, hlo, hMC, hMS, hZ⟩ := id cx
  obtain ⟨h2, hn, he⟩ := jarr (G := G) hok.1 hS (by decide) (by decide)
  rw [jar_i (by decide)] at he
  have hi : jR i := jst_hd hst
  have k1 := k p l e R s m args below meth c G MC MS Z H locs cells slots ls cx hok hls (jst_cons (v := .inl (jX h a i.toNat)) (hok.1.2.2.1 _ _) (jst_tl (jst_tl hst))) hc hs hz
  rw [List.map_cons, List.map_cons, show jV G (.inr a) = .ref (jgz G + (a - 2)) by show va_rf (jrf G a) = _; rw [jrf_at G h2]; rfl]
  rw [List.map_cons, ← j_ix hi] at k1
  exact va_zald hx hb hok.2.1.1 hok.2.2.1 (a - 2) 1 he rfl (j_in hi h0 h1) hd k1
theorem V_iast {a : Nat} {i z : Int} (hd : decode (jmC M) pc = .ok (.iastore, 1)) (hS : (jS h a).1 = 16) (h0 : 0 ≤ i) (h1 : i < (jS h a).2)
    (k : V M d (pc + 1) L st (jsX h a i.toNat z) mc ms Q) : V M d pc L (.inl z :: .inl i :: .inr a :: st) h mc ms Q := by
  intro p l e R s m args below meth c G MC MS Z H locs cells slots ls cx hok hls hst hc hs hz
  obtain ⟨hx, hb, hml, hown, hts, hnm, hfr, hlo, hMC, hMS, hZ⟩ := id cx
  obtain ⟨h2, hn, he⟩ := jarr (G := G) hok.1 hS (by decide) (by decide)
  rw [jar_i (by decide)] at he
  have hr : jR z := jst_hd hst
  have hi : jR i := jst_hd (jst_tl hst)
  have ha1 : a ≠ 1 := by omega
  rw [List.map_cons, List.map_cons, List.map_cons, show jV G (.inr a) = .ref (jgz G + (a - 2)) by show va_rf (jrf G a) = _; rw [jrf_at G h2]; rfl]
  refine va_iast hx hb hok.2.1.1 hok.2.2.1 (jD G h) (jS_rf hok.2.2.2.1) (a - 2) 0 he rfl (j_in hi h0 h1) hd (fun H1 locs1 hP1 _ hS1 => ?_)
  have hE : jE G (jsX h a i.toNat z) a = .inl (jgA G 16, (jS h a).2, .inl (upd (fun j => Int32.ofInt (jX h a j)) (Int32.ofInt i).toNatClampNeg (Int32.ofInt z))) := by
    rw [jE_arr (show (jS (jsX h a i.toNat z) a).1 = 16 from hS) (by decide), jar_i (by decide), j_ix hi]
    refine congrArg (fun f => (Sum.inl (jgA G 16, (jS h a).2, .inl f) : va_E)) (funext fun j => ?_)
    show Int32.ofInt (ju (jX h) a i.toNat z a j) = _
    unfold ju upd
    by_cases e : j = i.toNat
    · rw [if_pos ⟨rfl, e⟩, if_pos e]
    · rw [if_neg (fun q => e q.2), if_neg e]
  have hW := jW_ext (h := h) (h' := jsX h a i.toNat z) rfl h2 hn hE jE_oX
  refine jfin (h' := jsX h a i.toNat z) hok hz rfl rfl (ju_ne (by omega)) (jWf_X hok.1 hr) ?_ hS1 (fun hok1 hz1 => k p l e R s m args below meth c G MC MS Z H1 locs1 cells slots ls cx hok1 hls (jst_tl (jst_tl (jst_tl hst))) hc hs hz1)
  · rw [hW]
    exact hP1
theorem V_zast {a : Nat} {i z : Int} (hd : decode (jmC M) pc = .ok (.bastore, 1)) (hS : (jS h a).1 = 17) (h0 : 0 ≤ i) (h1 : i < (jS h a).2) (hzz : z = 0 ∨ z = 1)
    (k : V M d (pc + 1) L st (jsX h a i.toNat z) mc ms Q) : V M d pc L (.inl z :: .inl i :: .inr a :: st) h mc ms Q := by
  intro p l e R s m args below meth c G MC MS Z H locs cells slots ls cx hok hls hst hc hs hz
  obtain ⟨hx, hb, hml, hown, hts, hnm, hfr, hlo, hMC, hMS, hZ⟩ := id cx
  obtain ⟨h2, hn, he⟩ := jarr (G := G) hok.1 hS (by decide) (by decide)
  rw [jar_i (by decide)] at he
  have hr : jR z := jst_hd hst
  have hi : jR i := jst_hd (jst_tl hst)
  have ha1 : a ≠ 1 := by omega
  rw [List.map_cons, List.map_cons, List.map_cons, show jV G (.inr a) = .ref (jgz G + (a - 2)) by show va_rf (jrf G a) = _; rw [jrf_at G h2]; rfl]
  refine va_zast hx hb hok.2.1.1 hok.2.2.1 (jD G h) (jS_rf hok.2.2.2.1) (a - 2) 1 he rfl (j_in hi h0 h1) hd (fun H1 locs1 hP1 _ hS1 => ?_)
  have hE : jE G (jsX h a i.toNat z) a = .inl (jgA G 17, (jS h a).2, .inl (upd (fun j => Int32.ofInt (jX h a j)) (Int32.ofInt i).toNatClampNeg (Int32.ofInt z))) := by
    rw [jE_arr (show (jS (jsX h a i.toNat z) a).1 = 17 from hS) (by decide), jar_i (by decide), j_ix hi]
    refine congrArg (fun f => (Sum.inl (jgA G 17, (jS h a).2, .inl f) : va_E)) (funext fun j => ?_)
    show Int32.ofInt (ju (jX h) a i.toNat z a j) = _
    unfold ju upd
    by_cases e : j = i.toNat
    · rw [if_pos ⟨rfl, e⟩, if_pos e]
    · rw [if_neg (fun q => e q.2), if_neg e]
  have hW := jW_ext (h := h) (h' := jsX h a i.toNat z) rfl h2 hn hE jE_oX
  refine jfin (h' := jsX h a i.toNat z) hok hz rfl rfl (ju_ne (by omega)) (jWf_X hok.1 hr) ?_ hS1 (fun hok1 hz1 => k p l e R s m args below meth c G MC MS Z H1 locs1 cells slots ls cx hok1 hls (jst_tl (jst_tl (jst_tl hst))) hc hs hz1)
  · rw [hW]
    have e2 : vp_nar .boolean (Int32.ofInt z) = Int32.ofInt z := by rcases hzz with rfl | rfl <;> decide
    rw [e2] at hP1
    exact hP1
theorem V_aald18 {a : Nat} {i : Int} (hd : decode (jmC M) pc = .ok (.aaload, 1)) (hS : (jS h a).1 = 18) (h0 : 0 ≤ i) (h1 : i < (jS h a).2)
    (k : V M d (pc + 1) L (.inr (jY h a i.toNat) :: st) h mc ms Q) : V M d pc L (.inl i :: .inr a :: st) h mc ms Q := by
  intro p l e R s m args below meth c G MC MS Z H locs cells slots ls cx hok hls hst hc hs hz
  obtain ⟨hx, hb, hml, hown, hts, hnm, hfr, hlo, hMC, hMS, hZ⟩ := id cx
  obtain ⟨h2, hn, he⟩ := jarr (G := G) hok.1 hS (by decide) (by decide)
  rw [jar_r (by decide)] at he
  have hi : jR i := jst_hd hst
  have k1 := k p l e R s m args below meth c G MC MS Z H locs cells slots ls cx hok hls (jst_cons (v := .inr (jY h a i.toNat)) trivial (jst_tl (jst_tl hst))) hc hs hz
  rw [List.map_cons, List.map_cons, show jV G (.inr a) = .ref (jgz G + (a - 2)) by show va_rf (jrf G a) = _; rw [jrf_at G h2]; rfl]
  rw [List.map_cons, ← j_ix hi] at k1
  have hin := j_in hi h0 h1
  have hlt : (Int32.ofInt i).toNatClampNeg < (jS h a).2 := Nat.not_le.mp fun q => hin (Or.inr q)
  have hat : H[jgz G + (a - 2)]? = some (arrV (jgA G 18) (jS h a).2 (fun j => va_rf (jrf G (jY h a j)))) := hok.2.2.1 (a - 2) _ he
  exact W.aald (ty := .object RX0) hx hb hat ((hok.2.1.1.2 2 (jgA G 18, .object RX0) rfl).1 _ _) rfl (fun q => by cases q) (by rw [arrV_size]; exact hin) (by rw [arrV_read _ _ hlt]; rfl) rfl rfl hd k1
theorem V_aald19 {a : Nat} {i : Int} (hd : decode (jmC M) pc = .ok (.aaload, 1)) (hS : (jS h a).1 = 19) (h0 : 0 ≤ i) (h1 : i < (jS h a).2)
    (k : V M d (pc + 1) L (.inr (jY h a i.toNat) :: st) h mc ms Q) : V M d pc L (.inl i :: .inr a :: st) h mc ms Q := by
  intro p l e R s m args below meth c G MC MS Z H locs cells slots ls cx hok hls hst hc hs hz
  obtain ⟨hx, hb, hml, hown, hts, hnm, hfr, hlo, hMC, hMS, hZ⟩ := id cx
  obtain ⟨h2, hn, he⟩ := jarr (G := G) hok.1 hS (by decide) (by decide)
  rw [jar_r (by decide)] at he
  have hi : jR i := jst_hd hst
  have k1 := k p l e R s m args below meth c G MC MS Z H locs cells slots ls cx hok hls (jst_cons (v := .inr (jY h a i.toNat)) trivial (jst_tl (jst_tl hst))) hc hs hz
  rw [List.map_cons, List.map_cons, show jV G (.inr a) = .ref (jgz G + (a - 2)) by show va_rf (jrf G a) = _; rw [jrf_at G h2]; rfl]
  rw [List.map_cons, ← j_ix hi] at k1
  have hin := j_in hi h0 h1
  have hlt : (Int32.ofInt i).toNatClampNeg < (jS h a).2 := Nat.not_le.mp fun q => hin (Or.inr q)
  have hat : H[jgz G + (a - 2)]? = some (arrV (jgA G 19) (jS h a).2 (fun j => va_rf (jrf G (jY h a j)))) := hok.2.2.1 (a - 2) _ he
  exact W.aald (ty := .object RX6) hx hb hat ((hok.2.1.1.2 3 (jgA G 19, .object RX6) rfl).1 _ _) rfl (fun q => by cases q) (by rw [arrV_size]; exact hin) (by rw [arrV_read _ _ hlt]; rfl) rfl rfl hd k1
theorem V_aald20 {a : Nat} {i : Int} (hd : decode (jmC M) pc = .ok (.aaload, 1)) (hS : (jS h a).1 = 20) (h0 : 0 ≤ i) (h1 : i < (jS h a).2)
    (k : V M d (pc + 1) L (.inr (jY h a i.toNat) :: st) h mc ms Q) : V M d pc L (.inl i :: .inr a :: st) h mc ms Q := by
  intro p l e R s m args below meth c G MC MS Z H locs cells slots ls cx hok hls hst hc hs hz
  obtain ⟨hx, hb, hml, hown, hts, hnm, hfr, hlo, hMC, hMS, hZ⟩ := id cx
  obtain ⟨h2, hn, he⟩ := jarr (G := G) hok.1 hS (by decide) (by decide)
  rw [jar_r (by decide)] at he
  have hi : jR i := jst_hd hst
  have k1 := k p l e R s m args below meth c G MC MS Z H locs cells slots ls cx hok hls (jst_cons (v := .inr (jY h a i.toNat)) trivial (jst_tl (jst_tl hst))) hc hs hz
  rw [List.map_cons, List.map_cons, show jV G (.inr a) = .ref (jgz G + (a - 2)) by show va_rf (jrf G a) = _; rw [jrf_at G h2]; rfl]
  rw [List.map_cons, ← j_ix hi] at k1
  have hin := j_in hi h0 h1
  have hlt : (Int32.ofInt i).toNatClampNeg < (jS h a).2 := Nat.not_le.mp fun q => hin (Or.inr q)
  have hat : H[jgz G + (a - 2)]? = some (arrV (jgA G 20) (jS h a).2 (fun j => va_rf (jrf G (jY h a j)))) := hok.2.2.1 (a - 2) _ he
  exact W.aald (ty := .array .int) hx hb hat ((hok.2.1.1.2 4 (jgA G 20, .array .int) rfl).1 _ _) rfl (fun q => by cases q) (by rw [arrV_size]; exact hin) (by rw [arrV_read _ _ hlt]; rfl) rfl rfl hd k1
theorem V_aast18 {a v : Nat} {i : Int} (hd : decode (jmC M) pc = .ok (.aastore, 1)) (hS : (jS h a).1 = 18) (h0 : 0 ≤ i) (h1 : i < (jS h a).2) (hv : (jS h v).1 = 0)
    (k : V M d (pc + 1) L st (jsY h a i.toNat v) mc ms Q) : V M d pc L (.inr v :: .inl i :: .inr a :: st) h mc ms Q := by
  intro p l e R s m args below meth c G MC MS Z H locs cells slots ls cx hok hls hst hc hs hz
  obtain ⟨hx, hb, hml, hown, hts, hnm, hfr, hlo, hMC, hMS, hZ⟩ := id cx
  obtain ⟨h2, hn, he⟩ := jarr (G := G) hok.1 hS (by decide) (by decide)
  rw [jar_r (by decide)] at he
  obtain ⟨v2, vn⟩ := jw_range hok.1 (a := v) (by rw [hv]; decide) (by rw [hv]; decide)
  have hev := jW_get G h v2 vn
  rw [jE_obj hv (by decide)] at hev
  have hi : jR i := jst_hd (jst_tl hst)
  rw [List.map_cons, List.map_cons, List.map_cons, show jV G (.inr a) = .ref (jgz G + (a - 2)) by (show va_rf (jrf G a) = _; rw [jrf_at G h2]; rfl), show jV G (.inr v) = .ref (jgz G + (v - 2)) by (show va_rf (jrf G v) = _; rw [jrf_at G v2]; rfl)]
  refine va_astq hx hb hok.2.1.1 hok.2.2.1 (jD G h) (jS_rf hok.2.2.2.1) (a - 2) 2 (v - 2) 0 (r := (RX0, jT_ 0, jF_ 0)) he rfl hev (jcl_get 0 (by decide)) (j_in hi h0 h1) hd (fun H1 locs1 hP1 _ hS1 => ?_)
  have hE : jE G (jsY h a i.toNat v) a = .inl (jgA G 18, (jS h a).2, .inr (.inr (.inr (.inr (va_up (fun j => jrf G (jY h a j)) (Int32.ofInt i).toNatClampNeg (some (jgz G + (v - 2)))))))) := by
    rw [jE_arr (show (jS (jsY h a i.toNat v) a).1 = 18 from hS) (by decide), jar_r (by decide), j_ix hi, ← jrf_at G v2]
    refine congrArg (fun f => (Sum.inl (jgA G 18, (jS h a).2, .inr (.inr (.inr (.inr f)))) : va_E)) (funext fun j => ?_)
    show jrf G (ju (jY h) a i.toNat v a j) = _
    unfold ju va_up
    by_cases e : j = i.toNat
    · rw [if_pos ⟨rfl, e⟩, if_pos e]
    · rw [if_neg (fun q => e q.2), if_neg e]
  have hW := jW_ext (h := h) (h' := jsY h a i.toNat v) rfl h2 hn hE jE_oY
  exact jfin (h' := jsY h a i.toNat v) hok hz rfl rfl rfl (jWf_Y hok.1) (by rw [hW]; exact hP1) hS1 (fun hok1 hz1 => k p l e R s m args below meth c G MC MS Z H1 locs1 cells slots ls cx hok1 hls (jst_tl (jst_tl (jst_tl hst))) hc hs hz1)
theorem V_aast19 {a v : Nat} {i : Int} (hd : decode (jmC M) pc = .ok (.aastore, 1)) (hS : (jS h a).1 = 19) (h0 : 0 ≤ i) (h1 : i < (jS h a).2) (hv : (jS h v).1 = 6)
    (k : V M d (pc + 1) L st (jsY h a i.toNat v) mc ms Q) : V M d pc L (.inr v :: .inl i :: .inr a :: st) h mc ms Q := by
  intro p l e R s m args below meth c G MC MS Z H locs cells slots ls cx hok hls hst hc hs hz
  obtain ⟨hx, hb, hml, hown, hts, hnm, hfr, hlo, hMC, hMS, hZ⟩ := id cx
  obtain ⟨h2, hn, he⟩ := jarr (G := G) hok.1 hS (by decide) (by decide)
  rw [jar_r (by decide)] at he
  obtain ⟨v2, vn⟩ := jw_range hok.1 (a := v) (by rw [hv]; decide) (by rw [hv]; decide)
  have hev := jW_get G h v2 vn
  rw [jE_obj hv (by decide)] at hev
  have hi : jR i := jst_hd (jst_tl hst)
  rw [List.map_cons, List.map_cons, List.map_cons, show jV G (.inr a) = .ref (jgz G + (a - 2)) by (show va_rf (jrf G a) = _; rw [jrf_at G h2]; rfl), show jV G (.inr v) = .ref (jgz G + (v - 2)) by (show va_rf (jrf G v) = _; rw [jrf_at G v2]; rfl)]
  refine va_astq hx hb hok.2.1.1 hok.2.2.1 (jD G h) (jS_rf hok.2.2.2.1) (a - 2) 3 (v - 2) 6 (r := (RX6, jT_ 6, jF_ 6)) he rfl hev (jcl_get 6 (by decide)) (j_in hi h0 h1) hd (fun H1 locs1 hP1 _ hS1 => ?_)
  have hE : jE G (jsY h a i.toNat v) a = .inl (jgA G 19, (jS h a).2, .inr (.inr (.inr (.inr (va_up (fun j => jrf G (jY h a j)) (Int32.ofInt i).toNatClampNeg (some (jgz G + (v - 2)))))))) := by
    rw [jE_arr (show (jS (jsY h a i.toNat v) a).1 = 19 from hS) (by decide), jar_r (by decide), j_ix hi, ← jrf_at G v2]
    refine congrArg (fun f => (Sum.inl (jgA G 19, (jS h a).2, .inr (.inr (.inr (.inr f)))) : va_E)) (funext fun j => ?_)
    show jrf G (ju (jY h) a i.toNat v a j) = _
    unfold ju va_up
    by_cases e : j = i.toNat
    · rw [if_pos ⟨rfl, e⟩, if_pos e]
    · rw [if_neg (fun q => e q.2), if_neg e]
  have hW := jW_ext (h := h) (h' := jsY h a i.toNat v) rfl h2 hn hE jE_oY
  exact jfin (h' := jsY h a i.toNat v) hok hz rfl rfl rfl (jWf_Y hok.1) (by rw [hW]; exact hP1) hS1 (fun hok1 hz1 => k p l e R s m args below meth c G MC MS Z H1 locs1 cells slots ls cx hok1 hls (jst_tl (jst_tl (jst_tl hst))) hc hs hz1)
theorem j_ofNat (n : Nat) : Int32.ofNat n = Int32.ofInt (n : Int) := by
  apply Int32.toBitVec.inj
  simp
theorem V_alen {a t : Nat} (hd : decode (jmC M) pc = .ok (.arraylength, 1)) (hS : (jS h a).1 = 16 + t) (ht : t < 5)
    (k : V M d (pc + 1) L (.inl ((jS h a).2 : Int) :: st) h mc ms Q) : V M d pc L (.inr a :: st) h mc ms Q := by
  intro p l e R s m args below meth c G MC MS Z H locs cells slots ls cx hok hls hst hc hs hz
  obtain ⟨hx, hb, hml, hown, hts, hnm, hfr, hlo, hMC, hMS, hZ⟩ := id cx
  obtain ⟨h2, hn, he⟩ := jarr (G := G) hok.1 hS (by omega) (by omega)
  have hlen : (jS h a).2 < 2147483648 := hok.1.2.2.2.2.2.2 a
  have k1 := k p l e R s m args below meth c G MC MS Z H locs cells slots ls cx hok hls (jst_cons (v := .inl ((jS h a).2 : Int)) ⟨by omega, by omega⟩ (jst_tl hst)) hc hs hz
  rw [List.map_cons, show jV G (.inr a) = .ref (jgz G + (a - 2)) by show va_rf (jrf G a) = _; rw [jrf_at G h2]; rfl]
  obtain ⟨ty, hty⟩ : ∃ ty, (jtys G)[t]? = some (jgA G (16 + t), ty) := by
    rcases (show t = 0 ∨ t = 1 ∨ t = 2 ∨ t = 3 ∨ t = 4 by omega) with rfl | rfl | rfl | rfl | rfl <;> exact ⟨_, rfl⟩
  exact va_alen hx hb hok.2.1.1 hok.2.2.1 (a - 2) t he hty (v := Int32.ofInt ((jS h a).2 : Int)) (by rw [← j_ofNat]; rfl) hd k1
theorem V_slen (hd : decode (jmC M) pc = .ok (.arraylength, 1))
    (k : V M d (pc + 1) L (.inl ((jS h 1).2 : Int) :: st) h mc ms Q) : V M d pc L (.inr 1 :: st) h mc ms Q := by
  intro p l e R s m args below meth c G MC MS Z H locs cells slots ls cx hok hls hst hc hs hz
  obtain ⟨hx, hb, hml, hown, hts, hnm, hfr, hlo, hMC, hMS, hZ⟩ := id cx
  have hlen : (jS h 1).2 < 2147483648 := hok.1.2.2.2.2.2.2 1
  have k1 := k p l e R s m args below meth c G MC MS Z H locs cells slots ls cx hok hls (jst_cons (v := .inl ((jS h 1).2 : Int)) ⟨by omega, by omega⟩ (jst_tl hst)) hc hs hz
  rw [List.map_cons, show jV G (.inl ((jS h 1).2 : Int)) = .int (Int32.ofNat (jS h 1).2) by rw [j_ofNat]; rfl] at k1
  obtain ⟨hw, hs9, hP, hSS, hsz, hbz, hz0, hX⟩ := hok
  exact va_slen (A := jAt G) hx hb hX (by omega) (by show ¬ jgz G ≤ jgb G; omega) (jS_rf hSS) hd k1
theorem V_sld {i : Int} (hd : decode (jmC M) pc = .ok (.iaload, 1)) (h0 : 0 ≤ i) (h1 : i < (jS h 1).2)
    (k : V M d (pc + 1) L (.inl (jX h 1 i.toNat) :: st) h mc ms Q) : V M d pc L (.inl i :: .inr 1 :: st) h mc ms Q := by
  intro p l e R s m args below meth c G MC MS Z H locs cells slots ls cx hok hls hst hc hs hz
  obtain ⟨hx, hb, hml, hown, hts, hnm, hfr, hlo, hMC, hMS, hZ⟩ := id cx
  have hi : jR i := jst_hd hst
  have k1 := k p l e R s m args below meth c G MC MS Z H locs cells slots ls cx hok hls (jst_cons (v := .inl (jX h 1 i.toNat)) (hok.1.2.2.1 _ _) (jst_tl (jst_tl hst))) hc hs hz
  rw [List.map_cons, ← j_ix hi] at k1
  obtain ⟨hw, hs9, hP, hSS, hsz, hbz, hz0, hX⟩ := hok
  exact va_sld (A := jAt G) (xs := fun j => Int32.ofInt (jX h 1 j)) hx hb hX (by omega) (by show ¬ jgz G ≤ jgb G; omega) (jS_rf hSS) (j_in hi h0 h1) hd k1
theorem V_ret (hm : mc = 0) (hm2 : ms = 0) {v : Option jA} (hd : decode (jmC M) pc = .ok (jRI (jmR M), 1)) (hr : jRet (jmR M) v) (hst0 : st = v.toList) (hQ : Q v h) : V M d pc L st h mc ms Q := by
  subst hm
  subst hm2
  subst hst0
  intro p l e R s m args below meth c G MC MS Z H locs cells slots ls cx hok hls hst hc hs hz
  obtain ⟨hx, hb, hml, hown, hts, hnm, hfr, hlo, hMC, hMS, hZ⟩ := id cx
  rw [Nat.add_zero] at hc hs
  subst hc
  subst hs
  exact hZ v h H locs pc ls hQ hok hr hz hd
end JK
end
section
/-! ===== new cells, arraycopy, calls, over V ===== -/
section JL
variable {M : jM} {d pc mc ms : Nat} {L : List (Option jA)} {st : List jA} {h : jH} {Q : Option jA → jH → Prop}
theorem jz_at {α : Type} {f : Nat → Nat → α} {a : Nat} {v : α} (k : Nat) : jz f a v a k = v := if_pos rfl
theorem jz_ne {α : Type} {f : Nat → Nat → α} {a b : Nat} {v : α} (hb : b ≠ a) : jz f a v b = f b := funext fun _ => if_neg hb
theorem jnew_o {G : jG} {h : jH} {kind len b : Nat} (hb : b ≠ jN h) : jE G (jnew h kind len) b = jE G h b := jE_eq (if_neg hb) (jz_ne hb) (jz_ne hb) (jz_ne hb) (jz_ne hb)
theorem jnew_W (G : jG) (h : jH) (kind len : Nat) (h2 : 2 ≤ jN h) : jW G (jnew h kind len) = jW G h ++ [(jgz G + (jN h - 2), jE G (jnew h kind len) (jN h))] := by
  unfold jW
  rw [show jN (jnew h kind len) - 2 = (jN h - 2) + 1 by show jN h + 1 - 2 = _; omega, List.range_succ, List.map_append]
  congr 1
  · refine List.map_congr_left (fun i hi => ?_)
    rw [jnew_o (by have := List.mem_range.mp hi; omega)]
  · simp only [List.map_cons, List.map_nil, show jN h - 2 + 2 = jN h by omega]
theorem jnew_wf {h : jH} {kind len : Nat} (hw : jWf h) (hl : len < 2147483648) : jWf (jnew h kind len) := by
  obtain ⟨h2, hI, hX, h0, h1, hn, hlen⟩ := hw
  refine ⟨by show 2 ≤ jN h + 1; omega, fun a k => ?_, fun a k => ?_, ?_, ?_, fun a ha => ?_, fun a => ?_⟩
  · show jR (jz (jI h) (jN h) 0 a k)
    unfold jz
    split
    · exact jR_0
    · exact hI a k
  · show jR (jz (jX h) (jN h) 0 a k)
    unfold jz
    split
    · exact jR_0
    · exact hX a k
  · show (if 0 = jN h then (kind, len) else jS h 0).1 = 99
    rw [if_neg (by omega)]; exact h0
  · show (if 1 = jN h then (kind, len) else jS h 1).1 = 15
    rw [if_neg (by omega)]; exact h1
  · have ha : jN h + 1 ≤ a := ha
    show (if a = jN h then (kind, len) else jS h a).1 = 99
    rw [if_neg (by omega)]; exact hn a (by omega)
  · show (if a = jN h then (kind, len) else jS h a).2 < _
    split
    · exact hl
    · exact hlen a
theorem jW_len (G : jG) (h : jH) : (jW G h).length = jN h - 2 := by simp [jW]
theorem jrf_new (G : jG) (h : jH) (h2 : 2 ≤ jN h) : va_rf (jrf G (jN h)) = .ref (jgz G + (jN h - 2)) := by rw [jrf_at G h2]; rfl
/-- behind a new cell -/
theorem jfinN {p : Program} {l : Launch} {e : Env} {R : Room} {s : State} {m : MethodId} {args : Array Value} {below : List Frame} {meth : Method} {c : Code} {H : Heap} {locs : List Loc} {cells : Nat} {Z : State → Prop} {G : jG} {h : jH} {kind len q : Nat} {E : va_E} {H1 : Heap} {locs1 : List Loc} {slots1 : Nat} {g : Nat → JFrame} (hok : jOk G h s.heap H locs s) (hz : H.size = s.heap.size + cells) (hl : len < 2147483648) (hE : jE G (jnew h kind len) (jN h) = E)
    (hP1 : va_P (jgD G) jcl (jW G h ++ [(q, E)]) H1) (hD1 : va_D (jAt G) (jW G h ++ [(q, E)])) (hSS : va_S (jAt G) H H1 locs1)
    (kk : jOk G (jnew h kind len) s.heap H1 locs1 s → H1.size = s.heap.size + (cells + 1) → W p l e R s m args below meth c H1 locs1 (cells + 1) slots1 Z (g (jgz G + (jN h - 2)))) : W p l e R s m args below meth c H1 locs1 (cells + 1) slots1 Z (g q) := by
  intro T hT X
  have hup := X.heapSize
  rw [hT] at hup
  obtain ⟨hw, hst, hP, hS0, hsz, hbz, hz0, hX⟩ := hok
  have hlast : (jW G h ++ [(q, E)])[jN h - 2]? = some (q, E) := by
    rw [List.getElem?_append_right (by rw [jW_len]; omega), jW_len, Nat.sub_self]; rfl
  have hq1 : q < H1.size := (hP1 _ _ hlast).lt
  have hq2 : jgz G ≤ q := hD1.2 _ _ hlast
  have hge : jgz G + (jN h - 2) ≤ q := by
    rcases Nat.lt_or_ge q (jgz G + (jN h - 2)) with z | z
    · exfalso
      have hg := jW_get G h (a := q - jgz G + 2) (by omega) (by omega)
      rw [show q - jgz G + 2 - 2 = q - jgz G by omega] at hg
      have hg' : (jW G h ++ [(q, E)])[q - jgz G]? = some (jgz G + (q - jgz G), jE G h (q - jgz G + 2)) := by
        rw [List.getElem?_append_left (by rw [jW_len]; omega)]; exact hg
      have := hD1.1 _ _ _ _ hg' hlast (show jgz G + (q - jgz G) = q by omega)
      omega
    · exact z
  have h1 := hSS.1
  obtain rfl : q = jgz G + (jN h - 2) := by omega
  refine kk ⟨jnew_wf hw hl, hst, ?_, ⟨by omega, fun q hq hA => (hSS.2.1 q (by omega) hA).trans (hS0.2.1 q hq hA), hSS.2.2⟩, ?_, hbz, hz0, ?_⟩ (by omega) T hT X
  · rw [jnew_W G h kind len hw.1, hE]; exact hP1
  · show H1.size = jgz G + (jN h + 1 - 2)
    have := hw.1
    omega
  · have e1 : jS (jnew h kind len) 1 = jS h 1 := if_neg (by have := hw.1; omega)
    have e2 : jX (jnew h kind len) 1 = jX h 1 := jz_ne (by have := hw.1; omega)
    rw [e1, e2]
    exact hX.kept (hSS.2.1 _ (by omega) (by show ¬ jgz G ≤ jgb G; omega))
theorem jfv_new {G : jG} {h : jH} {kind len c k : Nat} : jfv G (jnew h kind len) (jN h) c k = if jrt (jt_ c k) then .null else .int 0 := by
  unfold jfv
  rw [show jP (jnew h kind len) (jN h) k = 0 from jz_at k, show jI (jnew h kind len) (jN h) k = 0 from jz_at k]
  rfl
theorem jF_lt : ∀ c, c < 10 → jF_ c < 2147483648 := by decide
theorem jnfw : nativeFrameWords "java/lang/System" "arraycopy" 5 ≤ 40 := by decide +kernel
theorem jdef : ∀ c, c < 10 → ∀ k, k < jF_ c → defaultValue (jt_ c k) = if jrt (jt_ c k) then .null else .int 0 := by
  intro c hc k hk
  have h1 := jty_ref c hc k hk
  cases hr : jrt (jt_ c k) with
  | true =>
    rcases h1 hr with ⟨C, h⟩ | ⟨u, h⟩ <;> rw [h] <;> rfl
  | false =>
    generalize jt_ c k = t at hr
    cases t <;> first | rfl | cases hr
theorem V_new {ix ci n : Nat} (hd : decode (jmC M) pc = .ok (.new ix, 3)) (hn : n = jF_ ci) (hci : ci < 10) (hcl : Cond.classLink (jmO M) ix (jR_ ci) ∈ jTs) (hin : Cond.instantiable (jR_ ci) n ∈ jTs) (hini : Cond.initialized (jR_ ci) ∈ jTs)
    (k : V M d (pc + 3) L (.inr (jN h) :: st) (jnew h ci n) mc ms Q) : V M d pc L st h (mc + 1) (ms + n) Q := by
  intro p l e R s m args below meth c G MC MS Z H locs cells slots ls cx hok hls hst hc hs hz
  obtain ⟨hx, hb, hml, hown, hts, hnm, hfr, hlo, hMC, hMS, hZ⟩ := id cx
  subst hn
  have h2 := hok.1.1
  have hE : jE G (jnew h ci (jF_ ci)) (jN h) = .inr (ci, jfs G (jnew h ci (jF_ ci)) (jN h) ci) := jE_obj (by show (if jN h = jN h then _ else _ : Nat × Nat).1 = ci; rw [if_pos rfl]) hci
  refine va_new (ci := ci) (fs := jfs G (jnew h ci (jF_ ci)) (jN h) ci) (C := jR_ ci) (T := jT_ ci) (N := jF_ ci) hx hb hts (jin ci hci) (jt_ ci) (jt_ok ci hci) hown (hts _ hcl) (hts _ hin) (hts _ hini) hok.2.1.1 hok.2.2.1 (jD G h) (jS_rf hok.2.2.2.1) (fun q hq => by show jgz G ≤ q; have := hok.2.2.2.2.1; omega) (jcl_get ci hci)
    (fun j hj => by unfold vp_V; rw [List.getD_eq_getElem?_getD, jfs_get hj, jfv_new, ← jdef ci hci j hj]; rfl) (by omega) (by omega) hd (fun q H1 hP1 hD1 hS1 => ?_)
  refine jfinN (kind := ci) (len := jF_ ci) (g := fun q => F0 m (pc + 3) ls (.ref q :: st.map (jV G))) hok hz (jF_lt ci hci) hE hP1 hD1 hS1 (fun hok1 hz1 => ?_)
  have k1 := k p l e R s m args below meth c G MC MS Z H1 locs (cells + 1) (slots + jF_ ci) ls cx hok1 hls (jst_cons (v := .inr (jN h)) trivial hst) (by omega) (by omega) hz1
  rw [List.map_cons, show jV G (.inr (jN h)) = .ref (jgz G + (jN h - 2)) from jrf_new G h h2] at k1
  exact k1
theorem V_newi {n : Int} (hd : decode (jmC M) pc = .ok (.newarray .int, 2)) (hac : Cond.arrayClass .int ∈ jTs) (h0 : 0 ≤ n) (h1 : n ≤ 100000)
    (k : V M d (pc + 2) L (.inr (jN h) :: st) (jnew h 16 n.toNat) mc ms Q) : V M d pc L (.inl n :: st) h (mc + 1) (ms + n.toNat) Q := by
  intro p l e R s m args below meth c G MC MS Z H locs cells slots ls cx hok hls hst hc hs hz
  obtain ⟨hx, hb, hml, hown, hts, hnm, hfr, hlo, hMC, hMS, hZ⟩ := id cx
  have h2 := hok.1.1
  have hr : jR n := jst_hd hst
  have hE : jE G (jnew h 16 n.toNat) (jN h) = .inl (jgA G 16, (n.toNat, .inl (fun _ => 0))) := by
    have e0 : jS (jnew h 16 n.toNat) (jN h) = (16, n.toNat) := if_pos rfl
    rw [jE_arr (c := 16) (by rw [e0]) (by decide), jar_i (by decide), e0]
    refine congrArg (fun f => (Sum.inl (jgA G 16, n.toNat, .inl f) : va_E)) (funext fun j => ?_)
    rw [show jX (jnew h 16 n.toNat) (jN h) j = 0 from jz_at j]
    rfl
  refine va_newa (atype := .int) (ty := .int) (a0 := (n.toNat, .inl (fun _ => 0))) (N' := n.toNat) hx hb (hts _ hac) rfl hok.2.1.1 hok.2.2.1 (jD G h) (jS_rf hok.2.2.2.1) (fun q hq => by show jgz G ≤ q; have := hok.2.2.2.2.1; omega)
    (fun cA => rfl) (j_nneg hr h0) (j_ix hr) (by show n.toNat * 4 ≤ _; omega) (by omega) (by omega) hd (fun q cA H1 hK1 hP1 hD1 hS1 => ?_)
  have hcA : cA = jgA G 16 := by
    have e1 := (hK1.2 5 (cA, .int) rfl).2
    have e2 := (hK1.2 0 (jgA G 16, .int) rfl).2
    exact Option.some.inj ((show _ = some cA from e1).symm.trans (show _ = some (jgA G 16) from e2))
  subst hcA
  refine jfinN (kind := 16) (len := n.toNat) (g := fun q => F0 m (pc + 2) ls (.ref q :: st.map (jV G))) hok hz (by omega) hE hP1 hD1 hS1 (fun hok1 hz1 => ?_)
  have k1 := k p l e R s m args below meth c G MC MS Z H1 locs (cells + 1) (slots + n.toNat) ls cx hok1 hls (jst_cons (v := .inr (jN h)) trivial (jst_tl hst)) (by omega) (by omega) hz1
  rw [List.map_cons, show jV G (.inr (jN h)) = .ref (jgz G + (jN h - 2)) from jrf_new G h h2] at k1
  exact k1
theorem V_newz {n : Int} (hd : decode (jmC M) pc = .ok (.newarray .boolean, 2)) (hac : Cond.arrayClass .boolean ∈ jTs) (h0 : 0 ≤ n) (h1 : n ≤ 100000)
    (k : V M d (pc + 2) L (.inr (jN h) :: st) (jnew h 17 n.toNat) mc ms Q) : V M d pc L (.inl n :: st) h (mc + 1) (ms + n.toNat) Q := by
  intro p l e R s m args below meth c G MC MS Z H locs cells slots ls cx hok hls hst hc hs hz
  obtain ⟨hx, hb, hml, hown, hts, hnm, hfr, hlo, hMC, hMS, hZ⟩ := id cx
  have h2 := hok.1.1
  have hr : jR n := jst_hd hst
  have hE : jE G (jnew h 17 n.toNat) (jN h) = .inl (jgA G 17, (n.toNat, .inl (fun _ => 0))) := by
    have e0 : jS (jnew h 17 n.toNat) (jN h) = (17, n.toNat) := if_pos rfl
    rw [jE_arr (c := 17) (by rw [e0]) (by decide), jar_i (by decide), e0]
    refine congrArg (fun f => (Sum.inl (jgA G 17, n.toNat, .inl f) : va_E)) (funext fun j => ?_)
    rw [show jX (jnew h 17 n.toNat) (jN h) j = 0 from jz_at j]
    rfl
  refine va_newa (atype := .boolean) (ty := .boolean) (a0 := (n.toNat, .inl (fun _ => 0))) (N' := n.toNat) hx hb (hts _ hac) rfl hok.2.1.1 hok.2.2.1 (jD G h) (jS_rf hok.2.2.2.1) (fun q hq => by show jgz G ≤ q; have := hok.2.2.2.2.1; omega)
    (fun cA => rfl) (j_nneg hr h0) (j_ix hr) (by show n.toNat * 1 ≤ _; omega) (by omega) (by omega) hd (fun q cA H1 hK1 hP1 hD1 hS1 => ?_)
  have hcA : cA = jgA G 17 := by
    have e1 := (hK1.2 5 (cA, .boolean) rfl).2
    have e2 := (hK1.2 1 (jgA G 17, .boolean) rfl).2
    exact Option.some.inj ((show _ = some cA from e1).symm.trans (show _ = some (jgA G 17) from e2))
  subst hcA
  refine jfinN (kind := 17) (len := n.toNat) (g := fun q => F0 m (pc + 2) ls (.ref q :: st.map (jV G))) hok hz (by omega) hE hP1 hD1 hS1 (fun hok1 hz1 => ?_)
  have k1 := k p l e R s m args below meth c G MC MS Z H1 locs (cells + 1) (slots + n.toNat) ls cx hok1 hls (jst_cons (v := .inr (jN h)) trivial (jst_tl hst)) (by omega) (by omega) hz1
  rw [List.map_cons, show jV G (.inr (jN h)) = .ref (jgz G + (jN h - 2)) from jrf_new G h h2] at k1
  exact k1
theorem V_newq18 {ix : Nat} {n : Int} (hd : decode (jmC M) pc = .ok (.anewarray ix, 3)) (hcl : Cond.classLink (jmO M) ix RX0 ∈ jTs) (h0 : 0 ≤ n) (h1 : n ≤ 100000)
    (k : V M d (pc + 3) L (.inr (jN h) :: st) (jnew h 18 n.toNat) mc ms Q) : V M d pc L (.inl n :: st) h (mc + 1) (ms + n.toNat) Q := by
  intro p l e R s m args below meth c G MC MS Z H locs cells slots ls cx hok hls hst hc hs hz
  obtain ⟨hx, hb, hml, hown, hts, hnm, hfr, hlo, hMC, hMS, hZ⟩ := id cx
  have h2 := hok.1.1
  have hr : jR n := jst_hd hst
  have hE : jE G (jnew h 18 n.toNat) (jN h) = .inl (jgA G 18, (n.toNat, .inr (.inr (.inr (.inr (fun _ => none)))))) := by
    have e0 : jS (jnew h 18 n.toNat) (jN h) = (18, n.toNat) := if_pos rfl
    rw [jE_arr (c := 18) (by rw [e0]) (by decide), jar_r (by decide), e0]
    refine congrArg (fun f => (Sum.inl (jgA G 18, n.toNat, .inr (.inr (.inr (.inr f)))) : va_E)) (funext fun j => ?_)
    rw [show jY (jnew h 18 n.toNat) (jN h) j = 0 from jz_at j]
    rfl
  refine va_newq (C := RX0) (N' := n.toNat) hx hb hown (hts _ hcl) hok.2.1.2.2.1 hok.2.1.1 hok.2.2.1 (jD G h) (jS_rf hok.2.2.2.1) (fun q hq => by show jgz G ≤ q; have := hok.2.2.2.2.1; omega)
    (j_nneg hr h0) (j_ix hr) (by omega) (by omega) (by omega) hd (fun q cA H1 hK1 hP1 hD1 hS1 => ?_)
  have hcA : cA = jgA G 18 := by
    obtain ⟨_, _, _, _, _, e1⟩ := (hK1.2 5 (cA, .object RX0) rfl).2
    obtain ⟨_, _, _, _, _, e2⟩ := (hK1.2 2 (jgA G 18, .object RX0) rfl).2
    exact Option.some.inj (e1.symm.trans e2)
  subst hcA
  refine jfinN (kind := 18) (len := n.toNat) (g := fun q => F0 m (pc + 3) ls (.ref q :: st.map (jV G))) hok hz (by omega) hE hP1 hD1 hS1 (fun hok1 hz1 => ?_)
  have k1 := k p l e R s m args below meth c G MC MS Z H1 locs (cells + 1) (slots + n.toNat) ls cx hok1 hls (jst_cons (v := .inr (jN h)) trivial (jst_tl hst)) (by omega) (by omega) hz1
  rw [List.map_cons, show jV G (.inr (jN h)) = .ref (jgz G + (jN h - 2)) from jrf_new G h h2] at k1
  exact k1
theorem V_newq19 {ix : Nat} {n : Int} (hd : decode (jmC M) pc = .ok (.anewarray ix, 3)) (hcl : Cond.classLink (jmO M) ix RX6 ∈ jTs) (h0 : 0 ≤ n) (h1 : n ≤ 100000)
    (k : V M d (pc + 3) L (.inr (jN h) :: st) (jnew h 19 n.toNat) mc ms Q) : V M d pc L (.inl n :: st) h (mc + 1) (ms + n.toNat) Q := by
  intro p l e R s m args below meth c G MC MS Z H locs cells slots ls cx hok hls hst hc hs hz
  obtain ⟨hx, hb, hml, hown, hts, hnm, hfr, hlo, hMC, hMS, hZ⟩ := id cx
  have h2 := hok.1.1
  have hr : jR n := jst_hd hst
  have hE : jE G (jnew h 19 n.toNat) (jN h) = .inl (jgA G 19, (n.toNat, .inr (.inr (.inr (.inr (fun _ => none)))))) := by
    have e0 : jS (jnew h 19 n.toNat) (jN h) = (19, n.toNat) := if_pos rfl
    rw [jE_arr (c := 19) (by rw [e0]) (by decide), jar_r (by decide), e0]
    refine congrArg (fun f => (Sum.inl (jgA G 19, n.toNat, .inr (.inr (.inr (.inr f)))) : va_E)) (funext fun j => ?_)
    rw [show jY (jnew h 19 n.toNat) (jN h) j = 0 from jz_at j]
    rfl
  refine va_newq (C := RX6) (N' := n.toNat) hx hb hown (hts _ hcl) hok.2.1.2.2.2.1 hok.2.1.1 hok.2.2.1 (jD G h) (jS_rf hok.2.2.2.1) (fun q hq => by show jgz G ≤ q; have := hok.2.2.2.2.1; omega)
    (j_nneg hr h0) (j_ix hr) (by omega) (by omega) (by omega) hd (fun q cA H1 hK1 hP1 hD1 hS1 => ?_)
  have hcA : cA = jgA G 19 := by
    obtain ⟨_, _, _, _, _, e1⟩ := (hK1.2 5 (cA, .object RX6) rfl).2
    obtain ⟨_, _, _, _, _, e2⟩ := (hK1.2 3 (jgA G 19, .object RX6) rfl).2
    exact Option.some.inj (e1.symm.trans e2)
  subst hcA
  refine jfinN (kind := 19) (len := n.toNat) (g := fun q => F0 m (pc + 3) ls (.ref q :: st.map (jV G))) hok hz (by omega) hE hP1 hD1 hS1 (fun hok1 hz1 => ?_)
  have k1 := k p l e R s m args below meth c G MC MS Z H1 locs (cells + 1) (slots + n.toNat) ls cx hok1 hls (jst_cons (v := .inr (jN h)) trivial (jst_tl hst)) (by omega) (by omega) hz1
  rw [List.map_cons, show jV G (.inr (jN h)) = .ref (jgz G + (jN h - 2)) from jrf_new G h h2] at k1
  exact k1
theorem jcat (G : jG) : ∀ st : List jA, ((st.map (jV G)).map fun v => v.category).sum = st.length
  | [] => rfl
  | v :: st => by
    rw [List.map_cons, List.map_cons, List.sum_cons, jV_cat, jcat G st, List.length_cons]
    omega
theorem V_copy {ix a0 a1 : Nat} {sp dp n : Int} (hd : decode (jmC M) pc = .ok (.invokestatic ix, 3)) (hl : Cond.methodLink (jmO M) ix arraycopyName ∈ jTs) (hnat : Cond.native arraycopyName ∈ jTs) (hstt : Cond.static arraycopyName ∈ jTs) (hini : Cond.initialized "java/lang/System" ∈ jTs) (hS0 : (jS h a0).1 = 16) (hS1 : (jS h a1).1 = 16) (h1 : 0 ≤ sp) (h2 : 0 ≤ dp) (h3 : 0 ≤ n) (h4 : sp + n ≤ (jS h a0).2) (h5 : dp + n ≤ (jS h a1).2) (hrl : st.length ≤ 8)
    (k : V M d (pc + 3) L st (jcpy h a0 sp.toNat a1 dp.toNat n.toNat) mc ms Q) : V M d pc L (.inl n :: .inl dp :: .inr a1 :: .inl sp :: .inr a0 :: st) h mc ms Q := by
  intro p l e R s m args below meth c G MC MS Z H locs cells slots ls cx hok hls hst hc hs hz
  obtain ⟨hx, hb, hml, hown, hts, hnm, hfr, hlo, hMC, hMS, hZ⟩ := id cx
  obtain ⟨b2, bn, be⟩ := jarr (G := G) hok.1 hS0 (by decide) (by decide)
  obtain ⟨c2, cn, ce⟩ := jarr (G := G) hok.1 hS1 (by decide) (by decide)
  rw [jar_i (by decide)] at be ce
  have rn : jR n := jst_hd hst
  have rd : jR dp := jst_hd (jst_tl hst)
  have rs : jR sp := jst_hd (jst_tl (jst_tl (jst_tl hst)))
  simp only [List.map_cons]
  rw [show jV G (.inr a1) = .ref (jgz G + (a1 - 2)) by (show va_rf (jrf G a1) = _; rw [jrf_at G c2]; rfl), show jV G (.inr a0) = .ref (jgz G + (a0 - 2)) by (show va_rf (jrf G a0) = _; rw [jrf_at G b2]; rfl)]
  refine va_copyi hx hb (hml.trans hls.1.symm) hown (hts _ hl) (hts _ hnat) (hts _ hstt) (hts _ hini) hok.2.1.1 hok.2.2.1 (jD G h) (jS_rf hok.2.2.2.1) (a0 - 2) (a1 - 2) 0 0 be ce rfl rfl rfl
    (j_nneg rs h1) (j_nneg rd h2) (j_nneg rn h3) (by rw [j_ix rs, j_ix rn]; omega) (by rw [j_ix rd, j_ix rn]; omega) (fun _ _ => rfl) (by omega) (by rw [jcat]; have := jnfw; omega) hd (fun H1 locs1 hP1 _ hSS => ?_)
  have hE : jE G (jcpy h a0 sp.toNat a1 dp.toNat n.toNat) a1 = .inl (jgA G 16, (jS h a1).2, .inl (va_cpy (fun j => Int32.ofInt (jX h a0 j)) (fun j => Int32.ofInt (jX h a1 j)) (Int32.ofInt sp).toNatClampNeg (Int32.ofInt dp).toNatClampNeg (Int32.ofInt n).toNatClampNeg)) := by
    rw [jE_arr (show (jS (jcpy h a0 sp.toNat a1 dp.toNat n.toNat) a1).1 = 16 from hS1) (by decide), jar_i (by decide), j_ix rs, j_ix rd, j_ix rn]
    refine congrArg (fun f => (Sum.inl (jgA G 16, (jS h a1).2, .inl f) : va_E)) (funext fun j => ?_)
    show Int32.ofInt (if a1 = a1 ∧ dp.toNat ≤ j ∧ j < dp.toNat + n.toNat then jX h a0 (sp.toNat + (j - dp.toNat)) else jX h a1 j) = _
    unfold va_cpy
    by_cases q : dp.toNat ≤ j ∧ j < dp.toNat + n.toNat
    · rw [if_pos ⟨rfl, q⟩, if_pos q]
    · rw [if_neg (fun z => q z.2), if_neg q]
  have ho : ∀ b, b ≠ a1 → jE G (jcpy h a0 sp.toNat a1 dp.toNat n.toNat) b = jE G h b := fun b hb2 => jE_eq rfl rfl rfl (funext fun j => if_neg (fun z => hb2 z.1)) rfl
  have hW := jW_ext (h := h) (h' := jcpy h a0 sp.toNat a1 dp.toNat n.toNat) rfl c2 cn hE ho
  refine jfin (h' := jcpy h a0 sp.toNat a1 dp.toNat n.toNat) hok hz rfl rfl (funext fun j => if_neg (fun z => absurd z.1 (by omega))) ?_ (by rw [hW]; exact hP1) hSS (fun hok1 hz1 => k p l e R s m args below meth c G MC MS Z H1 locs1 cells slots ls cx hok1 hls (jst_tl (jst_tl (jst_tl (jst_tl (jst_tl hst))))) hc hs hz1)
  refine ⟨hok.1.1, hok.1.2.1, fun a k2 => ?_, hok.1.2.2.2⟩
  show jR (if a = a1 ∧ _ then jX h a0 _ else jX h a k2)
  split
  · exact hok.1.2.2.1 _ _
  · exact hok.1.2.2.1 _ _
def jMt (N : jM) (n : Nat) : Prop := Cond.code (jmY N) (jmC N) (jmL N) (jmR N) ∈ jTs ∧ Cond.initialized (jmY N).cls ∈ jTs ∧ ((jmY N).cls ≠ "java/lang/invoke/MethodHandle" ∧ (jmY N).cls ≠ "java/lang/invoke/VarHandle" ∧ (parseMethodDescriptor (jmY N).desc).map (fun d => d.parameters.length) = some n) ∧ jmL N ≤ 40 ∧ plainName (jmY N).cls = true
theorem jws_good {N : jM} {n : Nat} (hN : jMt N n) : GoodIn jTs (jws N) := fun q hq => by
  rcases List.mem_cons.mp hq with rfl | hq
  · exact jTs_good hN.1
  · exact jTs_good hq
/-- the picture at a callee's start -/
theorem jstart {G : jG} {s U : State} {H0 H : Heap} {locs : List Loc} (hok : jOk G h H0 H locs s) (hU : U.heap = H) (hW : s.WarmedH U.vm) : jOk G h U.heap U.heap [] U := by
  subst hU
  obtain ⟨hw, hst, hP, hS0, hsz, hbz, hz0, hX⟩ := hok
  exact ⟨hw, hst.warm hW, hP, va_S.rf, hsz, hbz, by omega, hX.moved hW.alike⟩
theorem jPc_blind {G : jG} {as : List jA} : FrameBlind (jPc G as h) := by
  intro a U g mk q
  obtain ⟨q0, q1, hw, hst, hP, hS0, hsz, hbz, hz0, hX⟩ := q
  exact ⟨q0, q1, hw, hst.same (show U.vm = (U.calling g mk a).vm from rfl), hP, hS0, hsz, hbz, hz0, hX.moved (U := U.calling g mk a) (Vm.Alike.refl U.vm)⟩
/-- behind a call -/
theorem jcall {p : Program} {l : Launch} {e : Env} {R : Room} {s : State} {m : MethodId} {args : Array Value} {below : List Frame} {meth : Method} {c : Code} {H : Heap} {locs : List Loc} {cells slots : Nat} {Z : State → Prop} {G : jG} {g : Nat → Array Slot → List Value → JFrame} {pc0 : Nat} {ls : Array Slot} {rest st0 : List Value} {a : Array Value} {mc' ms' : Nat} {Q' : Option jA → jH → Prop}
    (hr : va_Run p l e R s m args below meth c H locs cells slots mc' ms' (F0 m pc0 ls st0) rest (jQc G mc' Q' a) (jAt G)) (hok : jOk G h s.heap H locs s) (hz : H.size = s.heap.size + cells)
    (kk : ∀ (v : Option jA) (h' : jH) (H' : Heap) (locs' : List Loc), Q' v h' → (∀ x, v = some x → jRA x) → jOk G h' s.heap H' locs' s → H'.size = s.heap.size + (cells + mc') → W p l e R s m args below meth c H' locs' (cells + mc') (slots + ms') Z (F0 m (pc0 + 3) ls (v.toList.map (jV G) ++ rest))) :
    W p l e R s m args below meth c H locs cells slots Z (F0 m pc0 ls st0) := by
  intro T hT X
  obtain ⟨v, st₀, t, T', L9, h0, X', hL, e1, e2, ⟨v', h', hv, hQ, hra, hok', hsz'⟩, stp⟩ := hr T hT X
  obtain rfl : v = v'.map (jV G) := Outcome.returned.inj hv
  rw [h0] at hok' hsz'
  have hW : s.WarmedH T'.vm := X'.warmed
  obtain ⟨hw, hst, hP, hS0, hsz, hbz, hz0, hX⟩ := hok
  obtain ⟨hw1, hst1, hP1, hS1, hsz1, -, -, hX1⟩ := hok'
  have hold : ∀ q : Nat, q < H.size → ¬ jAt G q → t.heap[q]? = H[q]? := hS1.2.1
  have hok2 : jOk G h' s.heap t.heap (locs ++ L9) s := by
    refine ⟨hw1, hst, hP1, ⟨by omega, fun q hq hA => (hold q (by have := hS0.1; omega) hA).trans (hS0.2.1 q hq hA), fun q hq => ?_⟩, hsz1, hbz, hz0, ?_⟩
    · rcases List.mem_append.mp hq with z | z
      · exact hS0.2.2 q z
      · exact hL q z
    · rw [e2] at hW
      obtain ⟨scr, x1, x2, x3, x4, x5⟩ := hX1
      exact ⟨scr, x1, State.isArrayOf_alike hW.alike.symm x2, x3, x4, x5⟩
  obtain ⟨t2, a1, b1⟩ := kk v' h' t.heap (locs ++ L9) hQ hra hok2 (by omega) T' e1 X'
  have e3 : (v'.map (jV G)).toList ++ rest = v'.toList.map (jV G) ++ rest := by cases v' <;> rfl
  exact ⟨t2, stp t2 (by show Steps _ _ _ (T'.setTop (F0 m (pc0 + 3) ls ((v'.map (jV G)).toList ++ rest))) t2; rw [e3]; exact a1), b1⟩
theorem jcat_le {G : jG} {ls : Array Slot} {st0 : List Value} {pc0 : Nat} {m : MethodId} {rest : List jA} (hr : rest.length ≤ 8) : 2 * (F0 m pc0 ls st0).monitorRoom + ((rest.map (jV G)).map fun v => v.category).sum ≤ 8 := lv_room (by rw [jcat]; exact hr)
theorem jmap_app (G : jG) (as : List jA) (x : jA) (rest : List jA) : (as.reverse ++ x :: rest).map (jV G) = (as.map (jV G)).reverse ++ jV G x :: rest.map (jV G) := by simp
theorem jmap_app2 (G : jG) (as : List jA) (rest : List jA) : (as.reverse ++ rest).map (jV G) = (as.map (jV G)).reverse ++ rest.map (jV G) := by simp
theorem V_callV {N : jM} {d' mc' ms' a n ix : Nat} {As rest : List jA} {st0 : List jA} (hd : decode (jmC M) pc = .ok (.invokevirtual ix, 3)) (hN : jMt N n) (hv : Cond.instanceMethod (jmY N) ∈ jTs ∧ Cond.selects (jmY N).cls (jmY N) (jmY N) ∈ jTs) (hl : Cond.methodLink (jmO M) ix (jmY N) ∈ jTs) {ci : Nat} (hS : (jS h a).1 = ci) (hci : ci < 10 ∧ jR_ ci = (jmY N).cls) (hn : As.length = n) (hst0 : st0 = As.reverse ++ .inr a :: rest) (hr : rest.length ≤ 8) (hdd : d' + 1 ≤ d)
    (E : Ex N d' (.inr a :: As) h mc' ms' (fun v h' => V M d (pc + 3) L (v.toList ++ rest) h' mc ms Q)) : V M d pc L st0 h (mc' + mc) (ms' + ms) Q := by
  intro p l e R s m args below meth c G MC MS Z H locs cells slots ls cx hok hls hst hc hs hz
  obtain ⟨hx, hb, hml, hown, hts, hnm, hfr, hlo, hMC, hMS, hZ⟩ := id cx
  subst hst0
  rw [jmap_app]
  obtain ⟨h2, hnn⟩ := jw_range hok.1 (a := a) (by rw [hS]; omega) (by rw [hS]; omega)
  have ha : jV G (.inr a) = .ref (jgz G + (a - 2)) := by show va_rf (jrf G a) = _; rw [jrf_at G h2]; rfl
  rw [ha]
  have hst3 : ∀ x ∈ ((.inr a : jA) :: As), jRA x := fun x hx9 => (List.mem_cons.mp hx9).elim (fun q => by rw [q]; exact trivial) (fun q => hst x (by simp [q]))
  have hpc : ∀ U : State, U.heap = H → s.WarmedH U.vm → jPc G (.inr a :: As) h (Value.ref (jgz G + (a - 2)) :: As.map (jV G)).toArray U := fun U hU hW => ⟨by rw [List.map_cons, ha], hst3, jstart hok hU hW⟩
  have hMet := E l G
  have hCB : CallB R s args (jmO M) ix (jmY N) (jmC N) (jmL N) (jmR N) (jws N) (jroom d' mc' ms') mc' ms' n := callB_of n hts (jws_good hN) rfl rfl rfl (hts _ hN.2.1) (hts _ hl) hN.2.2.1 ⟨by show d' + 1 + 1 ≤ _; omega, by show 8 + (jmL N + 11) + 64 * (d' + 1) ≤ _; have := hN.2.2.2.1; omega⟩
  have h8 := hlo
  have hst2 : ∀ x ∈ rest, jRA x := fun x hx9 => hst x (by simp [hx9])
  refine jcall (g := fun _ _ _ => F0 m pc ls []) (va_runV (As := As.map (jV G)) (rest := rest.map (jV G)) ⟨hx, hb, hml, hown, hts⟩ hMet ⟨hCB, hts _ hv.1, hts _ hv.2⟩ ⟨jPc_blind, by have hr1 := va_recv hok.2.1.1 hok.2.2.1 (jcl_get ci hci.1) (by have he := jW_get G h h2 hnn; rw [jE_obj hS hci.1] at he; exact he); rw [hci.2] at hr1; exact hr1, hpc⟩ rfl (by rw [List.length_map]; exact hn) hls.1 rfl (jcat_le hr) hd ⟨by omega, by omega⟩) hok hz (fun v h' H' locs' hQ hra hok' hz' => ?_)
  have k1 := hQ p l e R s m args below meth c G MC MS Z H' locs' (cells + mc') (slots + ms') ls cx hok' hls (fun x hx9 => (List.mem_append.mp hx9).elim (fun q => hra x (by cases v with
    | none => cases q
    | some y => rw [List.mem_singleton.mp q])) (hst2 x)) (by omega) (by omega) hz'
  rw [List.map_append] at k1
  exact k1
theorem V_callS {N : jM} {d' mc' ms' a n ix : Nat} {As rest : List jA} {st0 : List jA} (hd : decode (jmC M) pc = .ok (.invokestatic ix, 3)) (hN : jMt N n) (hv : Cond.static (jmY N) ∈ jTs) (hl : Cond.methodLink (jmO M) ix (jmY N) ∈ jTs) (hn : As.length = n) (hst0 : st0 = As.reverse ++ rest) (hr : rest.length ≤ 8) (hdd : d' + 1 ≤ d)
    (E : Ex N d' As h mc' ms' (fun v h' => V M d (pc + 3) L (v.toList ++ rest) h' mc ms Q)) : V M d pc L st0 h (mc' + mc) (ms' + ms) Q := by
  intro p l e R s m args below meth c G MC MS Z H locs cells slots ls cx hok hls hst hc hs hz
  obtain ⟨hx, hb, hml, hown, hts, hnm, hfr, hlo, hMC, hMS, hZ⟩ := id cx
  subst hst0
  rw [jmap_app2]
  have hst3 : ∀ x ∈ As, jRA x := fun x hx9 => hst x (by simp [hx9])
  have hpc : ∀ U : State, U.heap = H → s.WarmedH U.vm → jPc G As h (As.map (jV G)).toArray U := fun U hU hW => ⟨rfl, hst3, jstart hok hU hW⟩
  have hMet := E l G
  have hCB : CallB R s args (jmO M) ix (jmY N) (jmC N) (jmL N) (jmR N) (jws N) (jroom d' mc' ms') mc' ms' n := callB_of n hts (jws_good hN) rfl rfl rfl (hts _ hN.2.1) (hts _ hl) hN.2.2.1 ⟨by show d' + 1 + 1 ≤ _; omega, by show 8 + (jmL N + 11) + 64 * (d' + 1) ≤ _; have := hN.2.2.2.1; omega⟩
  have h8 := hlo
  have hst2 : ∀ x ∈ rest, jRA x := fun x hx9 => hst x (by simp [hx9])
  refine jcall (g := fun _ _ _ => F0 m pc ls []) (va_runS (As := As.map (jV G)) (rest := rest.map (jV G)) ⟨hx, hb, hml, hown, hts⟩ hMet ⟨hCB, hts _ hv⟩ ⟨jPc_blind, hpc⟩ rfl (by rw [List.length_map]; exact hn) hls.1 rfl (jcat_le hr) hd ⟨by omega, by omega⟩) hok hz (fun v h' H' locs' hQ hra hok' hz' => ?_)
  have k1 := hQ p l e R s m args below meth c G MC MS Z H' locs' (cells + mc') (slots + ms') ls cx hok' hls (fun x hx9 => (List.mem_append.mp hx9).elim (fun q => hra x (by cases v with
    | none => cases q
    | some y => rw [List.mem_singleton.mp q])) (hst2 x)) (by omega) (by omega) hz'
  rw [List.map_append] at k1
  exact k1
theorem V_callI {N : jM} {d' mc' ms' a n ix : Nat} {As rest : List jA} {st0 : List jA} (hd : decode (jmC M) pc = .ok (.invokespecial ix, 3)) (hN : jMt N n) (hv : (jmY N).name = "<init>" ∧ Cond.instanceMethod (jmY N) ∈ jTs) (hl : Cond.methodLink (jmO M) ix (jmY N) ∈ jTs) (hret : jmR N = none) {ci : Nat} (hS : (jS h a).1 = ci) (hci : ci < 10) (hn : As.length = n) (hst0 : st0 = As.reverse ++ .inr a :: rest) (hr : rest.length ≤ 8) (hdd : d' + 1 ≤ d)
    (E : Ex N d' (.inr a :: As) h mc' ms' (fun v h' => V M d (pc + 3) L (v.toList ++ rest) h' mc ms Q)) : V M d pc L st0 h (mc' + mc) (ms' + ms) Q := by
  intro p l e R s m args below meth c G MC MS Z H locs cells slots ls cx hok hls hst hc hs hz
  obtain ⟨hx, hb, hml, hown, hts, hnm, hfr, hlo, hMC, hMS, hZ⟩ := id cx
  subst hst0
  rw [jmap_app]
  obtain ⟨h2, hnn⟩ := jw_range hok.1 (a := a) (by rw [hS]; omega) (by rw [hS]; omega)
  have ha : jV G (.inr a) = .ref (jgz G + (a - 2)) := by show va_rf (jrf G a) = _; rw [jrf_at G h2]; rfl
  rw [ha]
  have hst3 : ∀ x ∈ ((.inr a : jA) :: As), jRA x := fun x hx9 => (List.mem_cons.mp hx9).elim (fun q => by rw [q]; exact trivial) (fun q => hst x (by simp [q]))
  have hpc : ∀ U : State, U.heap = H → s.WarmedH U.vm → jPc G (.inr a :: As) h (Value.ref (jgz G + (a - 2)) :: As.map (jV G)).toArray U := fun U hU hW => ⟨by rw [List.map_cons, ha], hst3, jstart hok hU hW⟩
  have hMet := E l G
  have hCB : CallB R s args (jmO M) ix (jmY N) (jmC N) (jmL N) (jmR N) (jws N) (jroom d' mc' ms') mc' ms' n := callB_of n hts (jws_good hN) rfl rfl rfl (hts _ hN.2.1) (hts _ hl) hN.2.2.1 ⟨by show d' + 1 + 1 ≤ _; omega, by show 8 + (jmL N + 11) + 64 * (d' + 1) ≤ _; have := hN.2.2.2.1; omega⟩
  have h8 := hlo
  have hst2 : ∀ x ∈ rest, jRA x := fun x hx9 => hst x (by simp [hx9])
  refine jcall (g := fun _ _ _ => F0 m pc ls []) (va_runI (As := As.map (jV G)) (rest := rest.map (jV G)) ⟨hx, hb, hml, hown, hts⟩ hMet ⟨by rw [hret] at hCB; exact hCB, hv.1, hts _ hv.2⟩ ⟨jPc_blind, hpc⟩ rfl (by rw [List.length_map]; exact hn) hls.1 rfl (jcat_le hr) hd ⟨by omega, by omega⟩) hok hz (fun v h' H' locs' hQ hra hok' hz' => ?_)
  have k1 := hQ p l e R s m args below meth c G MC MS Z H' locs' (cells + mc') (slots + ms') ls cx hok' hls (fun x hx9 => (List.mem_append.mp hx9).elim (fun q => hra x (by cases v with
    | none => cases q
    | some y => rw [List.mem_singleton.mp q])) (hst2 x)) (by omega) (by omega) hz'
  rw [List.map_append] at k1
  exact k1
theorem V_callInest {N : jM} {d' mc' ms' a n ix : Nat} {As rest : List jA} {st0 : List jA} (hd : decode (jmC M) pc = .ok (.invokespecial ix, 3)) (hN : jMt N n) (hv : (jmY N).name = "<init>" ∧ Cond.instanceMethod (jmY N) ∈ jTs) {host : String} (hl : Cond.methodLinkNest (jmO M) ix (jmY N) host ∈ lw_tbl) (hret : jmR N = none) {ci : Nat} (hS : (jS h a).1 = ci) (hci : ci < 10) (hn : As.length = n) (hst0 : st0 = As.reverse ++ .inr a :: rest) (hr : rest.length ≤ 8) (hdd : d' + 1 ≤ d)
    (E : Ex N d' (.inr a :: As) h mc' ms' (fun v h' => V M d (pc + 3) L (v.toList ++ rest) h' mc ms Q)) : V M d pc L st0 h (mc' + mc) (ms' + ms) Q := by
  intro p l e R s m args below meth c G MC MS Z H locs cells slots ls cx hok hls hst hc hs hz
  obtain ⟨hx, hb, hml, hown, hts, hnm, hfr, hlo, hMC, hMS, hZ⟩ := id cx
  subst hst0
  rw [jmap_app]
  obtain ⟨h2, hnn⟩ := jw_range hok.1 (a := a) (by rw [hS]; omega) (by rw [hS]; omega)
  have ha : jV G (.inr a) = .ref (jgz G + (a - 2)) := by show va_rf (jrf G a) = _; rw [jrf_at G h2]; rfl
  rw [ha]
  have hst3 : ∀ x ∈ ((.inr a : jA) :: As), jRA x := fun x hx9 => (List.mem_cons.mp hx9).elim (fun q => by rw [q]; exact trivial) (fun q => hst x (by simp [q]))
  have hpc : ∀ U : State, U.heap = H → s.WarmedH U.vm → jPc G (.inr a :: As) h (Value.ref (jgz G + (a - 2)) :: As.map (jV G)).toArray U := fun U hU hW => ⟨by rw [List.map_cons, ha], hst3, jstart hok hU hW⟩
  have hMet := E l G
  have hCB : va_CN R s args (jmO M) ix (jmY N) host (jmC N) (jmL N) (jmR N) (jws N) (jroom d' mc' ms') mc' ms' n := va_cnB n hts (jws_good hN) rfl rfl rfl (hok.2.1.2.1 _ hl rfl) (hts _ hN.2.1) hN.2.2.1 ⟨by show d' + 1 + 1 ≤ _; omega, by show 8 + (jmL N + 11) + 64 * (d' + 1) ≤ _; have := hN.2.2.2.1; omega⟩
  have h8 := hlo
  have hst2 : ∀ x ∈ rest, jRA x := fun x hx9 => hst x (by simp [hx9])
  refine jcall (g := fun _ _ _ => F0 m pc ls []) (va_runIN (As := As.map (jV G)) (rest := rest.map (jV G)) ⟨hx, hb, hml, hown, hts⟩ hMet ⟨by rw [hret] at hCB; exact hCB, hv.1, hts _ hv.2⟩ ⟨jPc_blind, hpc⟩ rfl (by rw [List.length_map]; exact hn) hls.1 rfl (jcat_le hr) hd ⟨by omega, by omega⟩) hok hz (fun v h' H' locs' hQ hra hok' hz' => ?_)
  have k1 := hQ p l e R s m args below meth c G MC MS Z H' locs' (cells + mc') (slots + ms') ls cx hok' hls (fun x hx9 => (List.mem_append.mp hx9).elim (fun q => hra x (by cases v with
    | none => cases q
    | some y => rw [List.mem_singleton.mp q])) (hst2 x)) (by omega) (by omega) hz'
  rw [List.map_append] at k1
  exact k1
theorem V_objI {ix a : Nat} (hd : decode (jmC M) pc = .ok (.invokespecial ix, 3)) (hl : Cond.methodLink (jmO M) ix Lib.objectInit ∈ jTs) (hin : Cond.instanceMethod Lib.objectInit ∈ jTs) (hcode : Cond.code Lib.objectInit ⟨#[0xb1]⟩ 1 none ∈ jTs) (ha : 2 ≤ a) (hr : st.length ≤ 8)
    (k : V M d (pc + 3) L st h mc ms Q) : V M d pc L (.inr a :: st) h mc ms Q := by
  intro p l e R s m args below meth c G MC MS Z H locs cells slots ls cx hok hls hst hc hs hz
  obtain ⟨hx, hb, hml, hown, hts, hnm, hfr, hlo, hMC, hMS, hZ⟩ := id cx
  have k1 := k p l e R s m args below meth c G MC MS Z H locs cells slots ls cx hok hls (jst_tl hst) hc hs hz
  rw [List.map_cons, show jV G (.inr a) = .ref (jgz G + (a - 2)) by show va_rf (jrf G a) = _; rw [jrf_at G ha]; rfl]
  exact W.objInit hx hb hown (hts _ hl) (hts _ hin) (hts _ hcode) rfl (hls.1.trans hml.symm) rfl hd (by omega) (by rw [jcat]; show 2 * 0 + _ + 12 ≤ _; omega) k1
theorem lg_sl_map (G : jG) : ∀ as : List jA, lg_sl (as.map (jV G)) = as.map (fun v => Slot.val (jV G v))
  | [] => rfl
  | v :: as => by
    rw [List.map_cons, List.map_cons, ← lg_sl_map G as]
    unfold lg_sl
    rw [List.flatMap_cons, if_neg (by rw [jV_cat]; decide)]
    rfl
/-- A CONTRACT OUT OF A WALK -/
theorem Ex_of_V {N : jM} {d' mc' ms' n : Nat} {as : List jA} {Q' : Option jA → jH → Prop} (hp : jMt N n) (hn : as.length ≤ jmL N) (hV : V N d' 0 (as.map some ++ List.replicate (jmL N - as.length) none) [] h mc' ms' Q') : Ex N d' as h mc' ms' Q' := by
  intro l G
  refine Met.ofW (cc := jmC N) (maxL := jmL N) (ret := jmR N) hp.2.2.2.2 rfl ?_
  intro p e s m margs below meth c s₁ B hml hv
  obtain ⟨rfl, hra, hok⟩ := hv
  have hx := B.exec
  have hb := B.bytes
  have hr := B.returns
  have hts0 := atoms_spec (ws := jws N) B.pre
  have hts : ∀ w ∈ jTs, w.before ((as.map (jV G)).toArray) s = true := fun w hw => hts0 w (List.mem_cons_of_mem _ hw)
  have hown : s.vm.findClass (jmO N) = some m.cls := findClass_of_methodNamed B.named
  have hnm : meth.name = (jmY N).name := (name_of_methodNamed B.named B.method).1
  have hlocks : meth.locks = false := B.notSynchronized
  have hl0 := lv_entry (as.map (jV G)) (n := jmL N) (by rw [lg_sl_map, List.length_map]; exact hn)
  rw [lg_entry_eq]
  have hls : jLs G ((lg_sl (as.map (jV G)) ++ List.replicate (jmL N - (lg_sl (as.map (jV G))).length) Slot.unset).toArray) (jmL N) (as.map some ++ List.replicate (jmL N - as.length) none) := by
    refine ⟨hl0.1, hl0.2.1, by simp; omega, fun i v hi => ?_⟩
    by_cases hlt : i < as.length
    · rw [List.getElem?_append_left (by simp; exact hlt), List.getElem?_map, List.getElem?_eq_getElem hlt] at hi
      have hv : as[i] = v := by simpa using hi
      refine ⟨?_, hra v (by rw [← hv]; exact List.getElem_mem hlt)⟩
      rw [lg_sl_map, List.getElem?_toArray, List.getElem?_append_left (by simp; exact hlt), List.getElem?_map, List.getElem?_eq_getElem hlt, hv]
      rfl
    · rw [List.getElem?_append_right (by simp; omega)] at hi
      have h9 := List.getElem?_eq_some_iff.mp hi
      obtain ⟨h10, h11⟩ := h9
      rw [List.getElem_replicate] at h11
      cases h11
  refine hV p l e (jroom d' mc' ms') s m _ below meth c G mc' ms' _ s.heap [] 0 0 _ ⟨hx, hb, hml, hown, hts, hnm, Nat.le_refl _, Nat.le_refl _, Nat.le_refl _, Nat.le_refl _, ?_⟩ hok hls (fun v hv => by cases hv) (Nat.zero_add _) (Nat.zero_add _) rfl
  intro v h' H' locs' pc' ls' hQ hok' hret hz' hdg
  have hend : ∀ t : State, t.heap = H' → s.WarmedH t.vm → jQc G mc' Q' (as.map (jV G)).toArray s (.returned (v.map (jV G))) t := by
    intro t ht hW
    obtain ⟨hw1, hst1, hP1, hS1, hsz1, hbz1, hz01, hX1⟩ := hok'
    exact ⟨v, h', rfl, hQ, jRet_ra hret, ⟨hw1, hst1.warm hW, by rw [ht]; exact hP1, by rw [ht]; exact ⟨hS1.1, hS1.2.1, fun _ q => by cases q⟩, by rw [ht]; exact hsz1, hbz1, hz01, by rw [ht]; exact hX1.moved hW.alike⟩, by rw [ht]; exact hz'⟩
  have hfree : ∀ q ∈ locs', jAt G q.base := hok'.2.2.2.1.2.2
  generalize hjr : jmR N = jr at hret hdg hr
  rcases jr with _ | ty
  · cases v with
    | none => exact W.vret hx hb hr hend hfree hdg
    | some x => exact absurd hret (by cases x <;> exact id)
  · cases v with
    | none => exact absurd hret (by cases ty <;> exact id)
    | some x =>
      cases x with
      | inr q => exact absurd hret (by cases ty <;> exact id)
      | inl z =>
        by_cases hti : ty = .int
        · subst hti
          exact W.iret hx hb hr hend hfree hdg
        · by_cases htb : ty = .boolean
          · subst htb
            refine W.zret hx hb hr ?_ hend hfree hdg
            rcases hret with rfl | rfl <;> decide
          · exact absurd hret (by cases ty <;> first | exact absurd rfl hti | exact absurd rfl htb | exact id)
end JL
end
