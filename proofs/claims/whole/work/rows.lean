section
-- ===== PART A: goes FIRST, ahead of the names: the tables' words, and 'selects' of the private methods out of them =====
/-- a private method of a class that the tables say can be made, by its rows of tables_1 -/
def lw_okq (q : MethodName × Nat) : Prop := (q.1.cls ≠ "java/lang/invoke/MethodHandle" ∧ q.1.cls ≠ "java/lang/invoke/VarHandle") ∧ Cond.instantiable q.1.cls q.2 ∈ tables_1 ∧ Cond.privateMethod q.1 ∈ tables_1 ∧ Cond.instanceMethod q.1 ∈ tables_1
theorem lw_p0 : lw_okq (⟨"SignalWaves$Recording", "beginBlock", "()V"⟩, 7) := ⟨⟨by decide +kernel, by decide +kernel⟩, List.mem_of_getElem? (i := 135) (by decide +kernel), List.mem_of_getElem? (i := 209) (by decide +kernel), List.mem_of_getElem? (i := 210) (by decide +kernel)⟩
theorem lw_p1 : lw_okq (⟨"SignalWaves$Recording", "loseOldest", "()V"⟩, 7) := ⟨⟨by decide +kernel, by decide +kernel⟩, List.mem_of_getElem? (i := 135) (by decide +kernel), List.mem_of_getElem? (i := 213) (by decide +kernel), List.mem_of_getElem? (i := 214) (by decide +kernel)⟩
theorem lw_p2 : lw_okq (⟨"SignalWaves$Reader", "readItem", "()Z"⟩, 5) := ⟨⟨by decide +kernel, by decide +kernel⟩, List.mem_of_getElem? (i := 113) (by decide +kernel), List.mem_of_getElem? (i := 378) (by decide +kernel), List.mem_of_getElem? (i := 379) (by decide +kernel)⟩
theorem lw_p3 : lw_okq (⟨"SignalWaves$Reader", "readOpening", "()Z"⟩, 5) := ⟨⟨by decide +kernel, by decide +kernel⟩, List.mem_of_getElem? (i := 113) (by decide +kernel), List.mem_of_getElem? (i := 382) (by decide +kernel), List.mem_of_getElem? (i := 383) (by decide +kernel)⟩
theorem lw_p4 : lw_okq (⟨"SignalWaves$Reader", "readClosing", "()Z"⟩, 5) := ⟨⟨by decide +kernel, by decide +kernel⟩, List.mem_of_getElem? (i := 113) (by decide +kernel), List.mem_of_getElem? (i := 403) (by decide +kernel), List.mem_of_getElem? (i := 404) (by decide +kernel)⟩
theorem lw_p5 : lw_okq (⟨"SignalWaves$Reader", "readSignal", "()Z"⟩, 5) := ⟨⟨by decide +kernel, by decide +kernel⟩, List.mem_of_getElem? (i := 113) (by decide +kernel), List.mem_of_getElem? (i := 407) (by decide +kernel), List.mem_of_getElem? (i := 408) (by decide +kernel)⟩
theorem lw_p6 : lw_okq (⟨"SignalWaves$Reader", "readWidth", "()I"⟩, 5) := ⟨⟨by decide +kernel, by decide +kernel⟩, List.mem_of_getElem? (i := 113) (by decide +kernel), List.mem_of_getElem? (i := 411) (by decide +kernel), List.mem_of_getElem? (i := 412) (by decide +kernel)⟩
theorem lw_p7 : lw_okq (⟨"SignalWaves$Reader", "readPath", "()I"⟩, 5) := ⟨⟨by decide +kernel, by decide +kernel⟩, List.mem_of_getElem? (i := 113) (by decide +kernel), List.mem_of_getElem? (i := 419) (by decide +kernel), List.mem_of_getElem? (i := 420) (by decide +kernel)⟩
theorem lw_p8 : lw_okq (⟨"SignalWaves$Reader", "readExpression", "()Z"⟩, 5) := ⟨⟨by decide +kernel, by decide +kernel⟩, List.mem_of_getElem? (i := 113) (by decide +kernel), List.mem_of_getElem? (i := 427) (by decide +kernel), List.mem_of_getElem? (i := 428) (by decide +kernel)⟩
theorem lw_p9 : lw_okq (⟨"SignalWaves$Reader", "readTerm", "()Z"⟩, 5) := ⟨⟨by decide +kernel, by decide +kernel⟩, List.mem_of_getElem? (i := 113) (by decide +kernel), List.mem_of_getElem? (i := 431) (by decide +kernel), List.mem_of_getElem? (i := 432) (by decide +kernel)⟩
theorem lw_p10 : lw_okq (⟨"SignalWaves$Reader", "readSign", "(I)Z"⟩, 5) := ⟨⟨by decide +kernel, by decide +kernel⟩, List.mem_of_getElem? (i := 113) (by decide +kernel), List.mem_of_getElem? (i := 435) (by decide +kernel), List.mem_of_getElem? (i := 436) (by decide +kernel)⟩
theorem lw_p11 : lw_okq (⟨"SignalWaves", "isSignal", "(I)Z"⟩, 14) := ⟨⟨by decide +kernel, by decide +kernel⟩, List.mem_of_getElem? (i := 16) (by decide +kernel), List.mem_of_getElem? (i := 463) (by decide +kernel), List.mem_of_getElem? (i := 464) (by decide +kernel)⟩
theorem lw_p12 : lw_okq (⟨"SignalWaves$Design", "computed", "(I[I)I"⟩, 13) := ⟨⟨by decide +kernel, by decide +kernel⟩, List.mem_of_getElem? (i := 51) (by decide +kernel), List.mem_of_getElem? (i := 475) (by decide +kernel), List.mem_of_getElem? (i := 476) (by decide +kernel)⟩
theorem lw_p13 : lw_okq (⟨"SignalWaves", "isWire", "(I)Z"⟩, 14) := ⟨⟨by decide +kernel, by decide +kernel⟩, List.mem_of_getElem? (i := 16) (by decide +kernel), List.mem_of_getElem? (i := 506) (by decide +kernel), List.mem_of_getElem? (i := 507) (by decide +kernel)⟩
theorem lw_p14 : lw_okq (⟨"SignalWaves", "isPast", "(I)Z"⟩, 14) := ⟨⟨by decide +kernel, by decide +kernel⟩, List.mem_of_getElem? (i := 16) (by decide +kernel), List.mem_of_getElem? (i := 569) (by decide +kernel), List.mem_of_getElem? (i := 570) (by decide +kernel)⟩
theorem lw_p15 : lw_okq (⟨"SignalWaves", "fillRow", "(I)V"⟩, 14) := ⟨⟨by decide +kernel, by decide +kernel⟩, List.mem_of_getElem? (i := 16) (by decide +kernel), List.mem_of_getElem? (i := 573) (by decide +kernel), List.mem_of_getElem? (i := 574) (by decide +kernel)⟩
def lw_privs_1 : List (MethodName × Nat) := [(⟨"SignalWaves$Recording", "beginBlock", "()V"⟩, 7), (⟨"SignalWaves$Recording", "loseOldest", "()V"⟩, 7), (⟨"SignalWaves$Reader", "readItem", "()Z"⟩, 5), (⟨"SignalWaves$Reader", "readOpening", "()Z"⟩, 5), (⟨"SignalWaves$Reader", "readClosing", "()Z"⟩, 5), (⟨"SignalWaves$Reader", "readSignal", "()Z"⟩, 5), (⟨"SignalWaves$Reader", "readWidth", "()I"⟩, 5), (⟨"SignalWaves$Reader", "readPath", "()I"⟩, 5), (⟨"SignalWaves$Reader", "readExpression", "()Z"⟩, 5), (⟨"SignalWaves$Reader", "readTerm", "()Z"⟩, 5), (⟨"SignalWaves$Reader", "readSign", "(I)Z"⟩, 5), (⟨"SignalWaves", "isSignal", "(I)Z"⟩, 14), (⟨"SignalWaves$Design", "computed", "(I[I)I"⟩, 13), (⟨"SignalWaves", "isWire", "(I)Z"⟩, 14), (⟨"SignalWaves", "isPast", "(I)Z"⟩, 14), (⟨"SignalWaves", "fillRow", "(I)V"⟩, 14)]
theorem lw_r1 : ∀ q ∈ lw_privs_1, lw_okq q := List.forall_mem_cons.mpr ⟨lw_p0, List.forall_mem_cons.mpr ⟨lw_p1, List.forall_mem_cons.mpr ⟨lw_p2, List.forall_mem_cons.mpr ⟨lw_p3, List.forall_mem_cons.mpr ⟨lw_p4, List.forall_mem_cons.mpr ⟨lw_p5, List.forall_mem_cons.mpr ⟨lw_p6, List.forall_mem_cons.mpr ⟨lw_p7, List.forall_mem_cons.mpr ⟨lw_p8, List.forall_mem_cons.mpr ⟨lw_p9, List.forall_mem_cons.mpr ⟨lw_p10, List.forall_mem_cons.mpr ⟨lw_p11, List.forall_mem_cons.mpr ⟨lw_p12, List.forall_mem_cons.mpr ⟨lw_p13, List.forall_mem_cons.mpr ⟨lw_p14, List.forall_mem_cons.mpr ⟨lw_p15, fun _ h => absurd h List.not_mem_nil⟩⟩⟩⟩⟩⟩⟩⟩⟩⟩⟩⟩⟩⟩⟩⟩
theorem lw_p16 : lw_okq (⟨"SignalWaves$History", "addMoment", "(I)V"⟩, 4) := ⟨⟨by decide +kernel, by decide +kernel⟩, List.mem_of_getElem? (i := 273) (by decide +kernel), List.mem_of_getElem? (i := 596) (by decide +kernel), List.mem_of_getElem? (i := 597) (by decide +kernel)⟩
theorem lw_p17 : lw_okq (⟨"SignalWaves$History", "hasEdgeAt", "(II)Z"⟩, 4) := ⟨⟨by decide +kernel, by decide +kernel⟩, List.mem_of_getElem? (i := 273) (by decide +kernel), List.mem_of_getElem? (i := 650) (by decide +kernel), List.mem_of_getElem? (i := 651) (by decide +kernel)⟩
theorem lw_p18 : lw_okq (⟨"SignalWaves", "isBlock", "(I)Z"⟩, 14) := ⟨⟨by decide +kernel, by decide +kernel⟩, List.mem_of_getElem? (i := 16) (by decide +kernel), List.mem_of_getElem? (i := 663) (by decide +kernel), List.mem_of_getElem? (i := 664) (by decide +kernel)⟩
theorem lw_p19 : lw_okq (⟨"SignalWaves$Changes", "isNew", "(II)Z"⟩, 4) := ⟨⟨by decide +kernel, by decide +kernel⟩, List.mem_of_getElem? (i := 148) (by decide +kernel), List.mem_of_getElem? (i := 671) (by decide +kernel), List.mem_of_getElem? (i := 672) (by decide +kernel)⟩
theorem lw_p20 : lw_okq (⟨"SignalWaves", "roomOf", "(LSignalWaves$Block;)I"⟩, 14) := ⟨⟨by decide +kernel, by decide +kernel⟩, List.mem_of_getElem? (i := 16) (by decide +kernel), List.mem_of_getElem? (i := 675) (by decide +kernel), List.mem_of_getElem? (i := 676) (by decide +kernel)⟩
theorem lw_p21 : lw_okq (⟨"SignalWaves", "roomDivided", "(I)I"⟩, 14) := ⟨⟨by decide +kernel, by decide +kernel⟩, List.mem_of_getElem? (i := 16) (by decide +kernel), List.mem_of_getElem? (i := 701) (by decide +kernel), List.mem_of_getElem? (i := 702) (by decide +kernel)⟩
theorem lw_p22 : lw_okq (⟨"SignalWaves", "roomOfGroup", "(II)I"⟩, 14) := ⟨⟨by decide +kernel, by decide +kernel⟩, List.mem_of_getElem? (i := 16) (by decide +kernel), List.mem_of_getElem? (i := 706) (by decide +kernel), List.mem_of_getElem? (i := 707) (by decide +kernel)⟩
theorem lw_p23 : lw_okq (⟨"SignalWaves", "agreeing", "()I"⟩, 14) := ⟨⟨by decide +kernel, by decide +kernel⟩, List.mem_of_getElem? (i := 16) (by decide +kernel), List.mem_of_getElem? (i := 729) (by decide +kernel), List.mem_of_getElem? (i := 730) (by decide +kernel)⟩
theorem lw_p24 : lw_okq (⟨"SignalWaves", "changesInAll", "()I"⟩, 14) := ⟨⟨by decide +kernel, by decide +kernel⟩, List.mem_of_getElem? (i := 16) (by decide +kernel), List.mem_of_getElem? (i := 761) (by decide +kernel), List.mem_of_getElem? (i := 762) (by decide +kernel)⟩
theorem lw_p25 : lw_okq (⟨"SignalWaves", "roomOfAll", "()I"⟩, 14) := ⟨⟨by decide +kernel, by decide +kernel⟩, List.mem_of_getElem? (i := 16) (by decide +kernel), List.mem_of_getElem? (i := 765) (by decide +kernel), List.mem_of_getElem? (i := 766) (by decide +kernel)⟩
theorem lw_p26 : lw_okq (⟨"SignalWavesModel", "begins", "()V"⟩, 50) := ⟨⟨by decide +kernel, by decide +kernel⟩, List.mem_of_getElem? (i := 769) (by decide +kernel), List.mem_of_getElem? (i := 775) (by decide +kernel), List.mem_of_getElem? (i := 776) (by decide +kernel)⟩
theorem lw_p27 : lw_okq (⟨"SignalWavesModel", "blockBegins", "()V"⟩, 50) := ⟨⟨by decide +kernel, by decide +kernel⟩, List.mem_of_getElem? (i := 769) (by decide +kernel), List.mem_of_getElem? (i := 779) (by decide +kernel), List.mem_of_getElem? (i := 780) (by decide +kernel)⟩
theorem lw_p28 : lw_okq (⟨"SignalWavesModel", "next", "()V"⟩, 50) := ⟨⟨by decide +kernel, by decide +kernel⟩, List.mem_of_getElem? (i := 769) (by decide +kernel), List.mem_of_getElem? (i := 952) (by decide +kernel), List.mem_of_getElem? (i := 953) (by decide +kernel)⟩
theorem lw_p29 : lw_okq (⟨"SignalWavesModel", "isFigure", "(I)Z"⟩, 50) := ⟨⟨by decide +kernel, by decide +kernel⟩, List.mem_of_getElem? (i := 769) (by decide +kernel), List.mem_of_getElem? (i := 956) (by decide +kernel), List.mem_of_getElem? (i := 957) (by decide +kernel)⟩
theorem lw_p30 : lw_okq (⟨"SignalWavesModel", "readsItem", "()V"⟩, 50) := ⟨⟨by decide +kernel, by decide +kernel⟩, List.mem_of_getElem? (i := 769) (by decide +kernel), List.mem_of_getElem? (i := 963) (by decide +kernel), List.mem_of_getElem? (i := 964) (by decide +kernel)⟩
theorem lw_p31 : lw_okq (⟨"SignalWavesModel", "is", "(I)Z"⟩, 50) := ⟨⟨by decide +kernel, by decide +kernel⟩, List.mem_of_getElem? (i := 769) (by decide +kernel), List.mem_of_getElem? (i := 967) (by decide +kernel), List.mem_of_getElem? (i := 968) (by decide +kernel)⟩
def lw_privs_2 : List (MethodName × Nat) := [(⟨"SignalWaves$History", "addMoment", "(I)V"⟩, 4), (⟨"SignalWaves$History", "hasEdgeAt", "(II)Z"⟩, 4), (⟨"SignalWaves", "isBlock", "(I)Z"⟩, 14), (⟨"SignalWaves$Changes", "isNew", "(II)Z"⟩, 4), (⟨"SignalWaves", "roomOf", "(LSignalWaves$Block;)I"⟩, 14), (⟨"SignalWaves", "roomDivided", "(I)I"⟩, 14), (⟨"SignalWaves", "roomOfGroup", "(II)I"⟩, 14), (⟨"SignalWaves", "agreeing", "()I"⟩, 14), (⟨"SignalWaves", "changesInAll", "()I"⟩, 14), (⟨"SignalWaves", "roomOfAll", "()I"⟩, 14), (⟨"SignalWavesModel", "begins", "()V"⟩, 50), (⟨"SignalWavesModel", "blockBegins", "()V"⟩, 50), (⟨"SignalWavesModel", "next", "()V"⟩, 50), (⟨"SignalWavesModel", "isFigure", "(I)Z"⟩, 50), (⟨"SignalWavesModel", "readsItem", "()V"⟩, 50), (⟨"SignalWavesModel", "is", "(I)Z"⟩, 50)]
theorem lw_r2 : ∀ q ∈ lw_privs_2, lw_okq q := List.forall_mem_cons.mpr ⟨lw_p16, List.forall_mem_cons.mpr ⟨lw_p17, List.forall_mem_cons.mpr ⟨lw_p18, List.forall_mem_cons.mpr ⟨lw_p19, List.forall_mem_cons.mpr ⟨lw_p20, List.forall_mem_cons.mpr ⟨lw_p21, List.forall_mem_cons.mpr ⟨lw_p22, List.forall_mem_cons.mpr ⟨lw_p23, List.forall_mem_cons.mpr ⟨lw_p24, List.forall_mem_cons.mpr ⟨lw_p25, List.forall_mem_cons.mpr ⟨lw_p26, List.forall_mem_cons.mpr ⟨lw_p27, List.forall_mem_cons.mpr ⟨lw_p28, List.forall_mem_cons.mpr ⟨lw_p29, List.forall_mem_cons.mpr ⟨lw_p30, List.forall_mem_cons.mpr ⟨lw_p31, fun _ h => absurd h List.not_mem_nil⟩⟩⟩⟩⟩⟩⟩⟩⟩⟩⟩⟩⟩⟩⟩⟩
theorem lw_p32 : lw_okq (⟨"SignalWavesModel", "opens", "()V"⟩, 50) := ⟨⟨by decide +kernel, by decide +kernel⟩, List.mem_of_getElem? (i := 769) (by decide +kernel), List.mem_of_getElem? (i := 971) (by decide +kernel), List.mem_of_getElem? (i := 972) (by decide +kernel)⟩
theorem lw_p33 : lw_okq (⟨"SignalWavesModel", "due", "(Z)V"⟩, 50) := ⟨⟨by decide +kernel, by decide +kernel⟩, List.mem_of_getElem? (i := 769) (by decide +kernel), List.mem_of_getElem? (i := 975) (by decide +kernel), List.mem_of_getElem? (i := 976) (by decide +kernel)⟩
theorem lw_p34 : lw_okq (⟨"SignalWavesModel", "passes", "(Z)V"⟩, 50) := ⟨⟨by decide +kernel, by decide +kernel⟩, List.mem_of_getElem? (i := 769) (by decide +kernel), List.mem_of_getElem? (i := 979) (by decide +kernel), List.mem_of_getElem? (i := 980) (by decide +kernel)⟩
theorem lw_p35 : lw_okq (⟨"SignalWavesModel", "newNodeBy", "(II)I"⟩, 50) := ⟨⟨by decide +kernel, by decide +kernel⟩, List.mem_of_getElem? (i := 769) (by decide +kernel), List.mem_of_getElem? (i := 983) (by decide +kernel), List.mem_of_getElem? (i := 984) (by decide +kernel)⟩
theorem lw_p36 : lw_okq (⟨"SignalWavesModel", "newScopeBy", "(II)I"⟩, 50) := ⟨⟨by decide +kernel, by decide +kernel⟩, List.mem_of_getElem? (i := 769) (by decide +kernel), List.mem_of_getElem? (i := 987) (by decide +kernel), List.mem_of_getElem? (i := 988) (by decide +kernel)⟩
theorem lw_p37 : lw_okq (⟨"SignalWavesModel", "closes", "()V"⟩, 50) := ⟨⟨by decide +kernel, by decide +kernel⟩, List.mem_of_getElem? (i := 769) (by decide +kernel), List.mem_of_getElem? (i := 991) (by decide +kernel), List.mem_of_getElem? (i := 992) (by decide +kernel)⟩
theorem lw_p38 : lw_okq (⟨"SignalWavesModel", "readsNode", "()V"⟩, 50) := ⟨⟨by decide +kernel, by decide +kernel⟩, List.mem_of_getElem? (i := 769) (by decide +kernel), List.mem_of_getElem? (i := 995) (by decide +kernel), List.mem_of_getElem? (i := 996) (by decide +kernel)⟩
theorem lw_p39 : lw_okq (⟨"SignalWavesModel", "readsPath", "()I"⟩, 50) := ⟨⟨by decide +kernel, by decide +kernel⟩, List.mem_of_getElem? (i := 769) (by decide +kernel), List.mem_of_getElem? (i := 999) (by decide +kernel), List.mem_of_getElem? (i := 1000) (by decide +kernel)⟩
theorem lw_p40 : lw_okq (⟨"SignalWavesModel", "readsExpression", "()V"⟩, 50) := ⟨⟨by decide +kernel, by decide +kernel⟩, List.mem_of_getElem? (i := 769) (by decide +kernel), List.mem_of_getElem? (i := 1003) (by decide +kernel), List.mem_of_getElem? (i := 1004) (by decide +kernel)⟩
theorem lw_p41 : lw_okq (⟨"SignalWavesModel", "beginsTerm", "()V"⟩, 50) := ⟨⟨by decide +kernel, by decide +kernel⟩, List.mem_of_getElem? (i := 769) (by decide +kernel), List.mem_of_getElem? (i := 1007) (by decide +kernel), List.mem_of_getElem? (i := 1008) (by decide +kernel)⟩
theorem lw_p42 : lw_okq (⟨"SignalWavesModel", "waitsFor", "(I)V"⟩, 50) := ⟨⟨by decide +kernel, by decide +kernel⟩, List.mem_of_getElem? (i := 769) (by decide +kernel), List.mem_of_getElem? (i := 1011) (by decide +kernel), List.mem_of_getElem? (i := 1012) (by decide +kernel)⟩
theorem lw_p43 : lw_okq (⟨"SignalWavesModel", "emits", "(II)V"⟩, 50) := ⟨⟨by decide +kernel, by decide +kernel⟩, List.mem_of_getElem? (i := 769) (by decide +kernel), List.mem_of_getElem? (i := 1015) (by decide +kernel), List.mem_of_getElem? (i := 1016) (by decide +kernel)⟩
theorem lw_p44 : lw_okq (⟨"SignalWavesModel", "wholeTerm", "()V"⟩, 50) := ⟨⟨by decide +kernel, by decide +kernel⟩, List.mem_of_getElem? (i := 769) (by decide +kernel), List.mem_of_getElem? (i := 1019) (by decide +kernel), List.mem_of_getElem? (i := 1020) (by decide +kernel)⟩
theorem lw_p45 : lw_okq (⟨"SignalWavesModel", "isBetween", "()Z"⟩, 50) := ⟨⟨by decide +kernel, by decide +kernel⟩, List.mem_of_getElem? (i := 769) (by decide +kernel), List.mem_of_getElem? (i := 1023) (by decide +kernel), List.mem_of_getElem? (i := 1024) (by decide +kernel)⟩
theorem lw_p46 : lw_okq (⟨"SignalWavesModel", "takesOver", "()V"⟩, 50) := ⟨⟨by decide +kernel, by decide +kernel⟩, List.mem_of_getElem? (i := 769) (by decide +kernel), List.mem_of_getElem? (i := 1027) (by decide +kernel), List.mem_of_getElem? (i := 1028) (by decide +kernel)⟩
theorem lw_p47 : lw_okq (⟨"SignalWavesModel", "nodeBy", "(II)I"⟩, 50) := ⟨⟨by decide +kernel, by decide +kernel⟩, List.mem_of_getElem? (i := 769) (by decide +kernel), List.mem_of_getElem? (i := 1035) (by decide +kernel), List.mem_of_getElem? (i := 1036) (by decide +kernel)⟩
def lw_privs_3 : List (MethodName × Nat) := [(⟨"SignalWavesModel", "opens", "()V"⟩, 50), (⟨"SignalWavesModel", "due", "(Z)V"⟩, 50), (⟨"SignalWavesModel", "passes", "(Z)V"⟩, 50), (⟨"SignalWavesModel", "newNodeBy", "(II)I"⟩, 50), (⟨"SignalWavesModel", "newScopeBy", "(II)I"⟩, 50), (⟨"SignalWavesModel", "closes", "()V"⟩, 50), (⟨"SignalWavesModel", "readsNode", "()V"⟩, 50), (⟨"SignalWavesModel", "readsPath", "()I"⟩, 50), (⟨"SignalWavesModel", "readsExpression", "()V"⟩, 50), (⟨"SignalWavesModel", "beginsTerm", "()V"⟩, 50), (⟨"SignalWavesModel", "waitsFor", "(I)V"⟩, 50), (⟨"SignalWavesModel", "emits", "(II)V"⟩, 50), (⟨"SignalWavesModel", "wholeTerm", "()V"⟩, 50), (⟨"SignalWavesModel", "isBetween", "()Z"⟩, 50), (⟨"SignalWavesModel", "takesOver", "()V"⟩, 50), (⟨"SignalWavesModel", "nodeBy", "(II)I"⟩, 50)]
theorem lw_r3 : ∀ q ∈ lw_privs_3, lw_okq q := List.forall_mem_cons.mpr ⟨lw_p32, List.forall_mem_cons.mpr ⟨lw_p33, List.forall_mem_cons.mpr ⟨lw_p34, List.forall_mem_cons.mpr ⟨lw_p35, List.forall_mem_cons.mpr ⟨lw_p36, List.forall_mem_cons.mpr ⟨lw_p37, List.forall_mem_cons.mpr ⟨lw_p38, List.forall_mem_cons.mpr ⟨lw_p39, List.forall_mem_cons.mpr ⟨lw_p40, List.forall_mem_cons.mpr ⟨lw_p41, List.forall_mem_cons.mpr ⟨lw_p42, List.forall_mem_cons.mpr ⟨lw_p43, List.forall_mem_cons.mpr ⟨lw_p44, List.forall_mem_cons.mpr ⟨lw_p45, List.forall_mem_cons.mpr ⟨lw_p46, List.forall_mem_cons.mpr ⟨lw_p47, fun _ h => absurd h List.not_mem_nil⟩⟩⟩⟩⟩⟩⟩⟩⟩⟩⟩⟩⟩⟩⟩⟩
theorem lw_p48 : lw_okq (⟨"SignalWavesModel", "of", "(II)I"⟩, 50) := ⟨⟨by decide +kernel, by decide +kernel⟩, List.mem_of_getElem? (i := 769) (by decide +kernel), List.mem_of_getElem? (i := 1039) (by decide +kernel), List.mem_of_getElem? (i := 1040) (by decide +kernel)⟩
theorem lw_p49 : lw_okq (⟨"SignalWavesModel", "scopeBy", "(II)I"⟩, 50) := ⟨⟨by decide +kernel, by decide +kernel⟩, List.mem_of_getElem? (i := 769) (by decide +kernel), List.mem_of_getElem? (i := 1043) (by decide +kernel), List.mem_of_getElem? (i := 1044) (by decide +kernel)⟩
theorem lw_p50 : lw_okq (⟨"SignalWavesModel", "isNode", "(I)Z"⟩, 50) := ⟨⟨by decide +kernel, by decide +kernel⟩, List.mem_of_getElem? (i := 769) (by decide +kernel), List.mem_of_getElem? (i := 1051) (by decide +kernel), List.mem_of_getElem? (i := 1052) (by decide +kernel)⟩
theorem lw_p51 : lw_okq (⟨"SignalWavesModel", "laysNodes", "()V"⟩, 50) := ⟨⟨by decide +kernel, by decide +kernel⟩, List.mem_of_getElem? (i := 769) (by decide +kernel), List.mem_of_getElem? (i := 1055) (by decide +kernel), List.mem_of_getElem? (i := 1056) (by decide +kernel)⟩
theorem lw_p52 : lw_okq (⟨"SignalWavesModel", "expressed", "(I)I"⟩, 50) := ⟨⟨by decide +kernel, by decide +kernel⟩, List.mem_of_getElem? (i := 769) (by decide +kernel), List.mem_of_getElem? (i := 1059) (by decide +kernel), List.mem_of_getElem? (i := 1060) (by decide +kernel)⟩
theorem lw_p53 : lw_okq (⟨"SignalWavesModel", "isWire", "(I)Z"⟩, 50) := ⟨⟨by decide +kernel, by decide +kernel⟩, List.mem_of_getElem? (i := 769) (by decide +kernel), List.mem_of_getElem? (i := 1082) (by decide +kernel), List.mem_of_getElem? (i := 1083) (by decide +kernel)⟩
theorem lw_p54 : lw_okq (⟨"SignalWavesModel", "notes", "()V"⟩, 50) := ⟨⟨by decide +kernel, by decide +kernel⟩, List.mem_of_getElem? (i := 769) (by decide +kernel), List.mem_of_getElem? (i := 1086) (by decide +kernel), List.mem_of_getElem? (i := 1087) (by decide +kernel)⟩
theorem lw_p55 : lw_okq (⟨"SignalWavesModel", "isTime", "(I)Z"⟩, 50) := ⟨⟨by decide +kernel, by decide +kernel⟩, List.mem_of_getElem? (i := 769) (by decide +kernel), List.mem_of_getElem? (i := 1110) (by decide +kernel), List.mem_of_getElem? (i := 1111) (by decide +kernel)⟩
theorem lw_p56 : lw_okq (⟨"SignalWavesModel", "laysAt", "(I)V"⟩, 50) := ⟨⟨by decide +kernel, by decide +kernel⟩, List.mem_of_getElem? (i := 769) (by decide +kernel), List.mem_of_getElem? (i := 1114) (by decide +kernel), List.mem_of_getElem? (i := 1115) (by decide +kernel)⟩
theorem lw_p57 : lw_okq (⟨"SignalWavesModel", "blockAt", "(I)I"⟩, 50) := ⟨⟨by decide +kernel, by decide +kernel⟩, List.mem_of_getElem? (i := 769) (by decide +kernel), List.mem_of_getElem? (i := 1118) (by decide +kernel), List.mem_of_getElem? (i := 1119) (by decide +kernel)⟩
theorem lw_p58 : lw_okq (⟨"SignalWavesModel", "laysLine", "(I)V"⟩, 50) := ⟨⟨by decide +kernel, by decide +kernel⟩, List.mem_of_getElem? (i := 769) (by decide +kernel), List.mem_of_getElem? (i := 1129) (by decide +kernel), List.mem_of_getElem? (i := 1130) (by decide +kernel)⟩
theorem lw_p59 : lw_okq (⟨"SignalWavesModel", "laysTurns", "()V"⟩, 50) := ⟨⟨by decide +kernel, by decide +kernel⟩, List.mem_of_getElem? (i := 769) (by decide +kernel), List.mem_of_getElem? (i := 1133) (by decide +kernel), List.mem_of_getElem? (i := 1134) (by decide +kernel)⟩
theorem lw_p60 : lw_okq (⟨"SignalWavesModel", "isEdge", "(II)Z"⟩, 50) := ⟨⟨by decide +kernel, by decide +kernel⟩, List.mem_of_getElem? (i := 769) (by decide +kernel), List.mem_of_getElem? (i := 1137) (by decide +kernel), List.mem_of_getElem? (i := 1138) (by decide +kernel)⟩
theorem lw_p61 : lw_okq (⟨"SignalWavesModel", "isTick", "(I)Z"⟩, 50) := ⟨⟨by decide +kernel, by decide +kernel⟩, List.mem_of_getElem? (i := 769) (by decide +kernel), List.mem_of_getElem? (i := 1161) (by decide +kernel), List.mem_of_getElem? (i := 1162) (by decide +kernel)⟩
theorem lw_p62 : lw_okq (⟨"SignalWavesModel", "isBlock", "(I)Z"⟩, 50) := ⟨⟨by decide +kernel, by decide +kernel⟩, List.mem_of_getElem? (i := 769) (by decide +kernel), List.mem_of_getElem? (i := 1177) (by decide +kernel), List.mem_of_getElem? (i := 1178) (by decide +kernel)⟩
theorem lw_p63 : lw_okq (⟨"SignalWavesModel", "roomOfBlock", "(I)I"⟩, 50) := ⟨⟨by decide +kernel, by decide +kernel⟩, List.mem_of_getElem? (i := 769) (by decide +kernel), List.mem_of_getElem? (i := 1181) (by decide +kernel), List.mem_of_getElem? (i := 1182) (by decide +kernel)⟩
def lw_privs_4 : List (MethodName × Nat) := [(⟨"SignalWavesModel", "of", "(II)I"⟩, 50), (⟨"SignalWavesModel", "scopeBy", "(II)I"⟩, 50), (⟨"SignalWavesModel", "isNode", "(I)Z"⟩, 50), (⟨"SignalWavesModel", "laysNodes", "()V"⟩, 50), (⟨"SignalWavesModel", "expressed", "(I)I"⟩, 50), (⟨"SignalWavesModel", "isWire", "(I)Z"⟩, 50), (⟨"SignalWavesModel", "notes", "()V"⟩, 50), (⟨"SignalWavesModel", "isTime", "(I)Z"⟩, 50), (⟨"SignalWavesModel", "laysAt", "(I)V"⟩, 50), (⟨"SignalWavesModel", "blockAt", "(I)I"⟩, 50), (⟨"SignalWavesModel", "laysLine", "(I)V"⟩, 50), (⟨"SignalWavesModel", "laysTurns", "()V"⟩, 50), (⟨"SignalWavesModel", "isEdge", "(II)Z"⟩, 50), (⟨"SignalWavesModel", "isTick", "(I)Z"⟩, 50), (⟨"SignalWavesModel", "isBlock", "(I)Z"⟩, 50), (⟨"SignalWavesModel", "roomOfBlock", "(I)I"⟩, 50)]
theorem lw_r4 : ∀ q ∈ lw_privs_4, lw_okq q := List.forall_mem_cons.mpr ⟨lw_p48, List.forall_mem_cons.mpr ⟨lw_p49, List.forall_mem_cons.mpr ⟨lw_p50, List.forall_mem_cons.mpr ⟨lw_p51, List.forall_mem_cons.mpr ⟨lw_p52, List.forall_mem_cons.mpr ⟨lw_p53, List.forall_mem_cons.mpr ⟨lw_p54, List.forall_mem_cons.mpr ⟨lw_p55, List.forall_mem_cons.mpr ⟨lw_p56, List.forall_mem_cons.mpr ⟨lw_p57, List.forall_mem_cons.mpr ⟨lw_p58, List.forall_mem_cons.mpr ⟨lw_p59, List.forall_mem_cons.mpr ⟨lw_p60, List.forall_mem_cons.mpr ⟨lw_p61, List.forall_mem_cons.mpr ⟨lw_p62, List.forall_mem_cons.mpr ⟨lw_p63, fun _ h => absurd h List.not_mem_nil⟩⟩⟩⟩⟩⟩⟩⟩⟩⟩⟩⟩⟩⟩⟩⟩
theorem lw_p64 : lw_okq (⟨"SignalWavesModel", "addsRow", "(I)V"⟩, 50) := ⟨⟨by decide +kernel, by decide +kernel⟩, List.mem_of_getElem? (i := 769) (by decide +kernel), List.mem_of_getElem? (i := 1185) (by decide +kernel), List.mem_of_getElem? (i := 1186) (by decide +kernel)⟩
theorem lw_p65 : lw_okq (⟨"SignalWavesModel", "roomOf", "(III)I"⟩, 50) := ⟨⟨by decide +kernel, by decide +kernel⟩, List.mem_of_getElem? (i := 769) (by decide +kernel), List.mem_of_getElem? (i := 1189) (by decide +kernel), List.mem_of_getElem? (i := 1190) (by decide +kernel)⟩
theorem lw_p66 : lw_okq (⟨"SignalWavesModel", "placeOf", "(I)I"⟩, 50) := ⟨⟨by decide +kernel, by decide +kernel⟩, List.mem_of_getElem? (i := 769) (by decide +kernel), List.mem_of_getElem? (i := 1193) (by decide +kernel), List.mem_of_getElem? (i := 1194) (by decide +kernel)⟩
theorem lw_p67 : lw_okq (⟨"SignalWavesModel", "nodeOfWire", "(I)I"⟩, 50) := ⟨⟨by decide +kernel, by decide +kernel⟩, List.mem_of_getElem? (i := 769) (by decide +kernel), List.mem_of_getElem? (i := 1205) (by decide +kernel), List.mem_of_getElem? (i := 1206) (by decide +kernel)⟩
theorem lw_p68 : lw_okq (⟨"SignalWavesModel", "packedBy", "(I)I"⟩, 50) := ⟨⟨by decide +kernel, by decide +kernel⟩, List.mem_of_getElem? (i := 769) (by decide +kernel), List.mem_of_getElem? (i := 1213) (by decide +kernel), List.mem_of_getElem? (i := 1214) (by decide +kernel)⟩
theorem lw_p69 : lw_okq (⟨"SignalWavesModel", "roomParted", "(II)I"⟩, 50) := ⟨⟨by decide +kernel, by decide +kernel⟩, List.mem_of_getElem? (i := 769) (by decide +kernel), List.mem_of_getElem? (i := 1217) (by decide +kernel), List.mem_of_getElem? (i := 1218) (by decide +kernel)⟩
theorem lw_p70 : lw_okq (⟨"SignalWavesModel", "seen", "()I"⟩, 50) := ⟨⟨by decide +kernel, by decide +kernel⟩, List.mem_of_getElem? (i := 769) (by decide +kernel), List.mem_of_getElem? (i := 1237) (by decide +kernel), List.mem_of_getElem? (i := 1238) (by decide +kernel)⟩
theorem lw_p71 : lw_okq (⟨"SignalWavesModel", "mostAlike", "(I)I"⟩, 50) := ⟨⟨by decide +kernel, by decide +kernel⟩, List.mem_of_getElem? (i := 769) (by decide +kernel), List.mem_of_getElem? (i := 1245) (by decide +kernel), List.mem_of_getElem? (i := 1246) (by decide +kernel)⟩
theorem lw_p72 : lw_okq (⟨"SignalWavesModel", "changes", "()I"⟩, 50) := ⟨⟨by decide +kernel, by decide +kernel⟩, List.mem_of_getElem? (i := 769) (by decide +kernel), List.mem_of_getElem? (i := 1261) (by decide +kernel), List.mem_of_getElem? (i := 1262) (by decide +kernel)⟩
theorem lw_p73 : lw_okq (⟨"SignalWavesModel", "roomOfAll", "()I"⟩, 50) := ⟨⟨by decide +kernel, by decide +kernel⟩, List.mem_of_getElem? (i := 769) (by decide +kernel), List.mem_of_getElem? (i := 1265) (by decide +kernel), List.mem_of_getElem? (i := 1266) (by decide +kernel)⟩
def lw_privs_5 : List (MethodName × Nat) := [(⟨"SignalWavesModel", "addsRow", "(I)V"⟩, 50), (⟨"SignalWavesModel", "roomOf", "(III)I"⟩, 50), (⟨"SignalWavesModel", "placeOf", "(I)I"⟩, 50), (⟨"SignalWavesModel", "nodeOfWire", "(I)I"⟩, 50), (⟨"SignalWavesModel", "packedBy", "(I)I"⟩, 50), (⟨"SignalWavesModel", "roomParted", "(II)I"⟩, 50), (⟨"SignalWavesModel", "seen", "()I"⟩, 50), (⟨"SignalWavesModel", "mostAlike", "(I)I"⟩, 50), (⟨"SignalWavesModel", "changes", "()I"⟩, 50), (⟨"SignalWavesModel", "roomOfAll", "()I"⟩, 50)]
theorem lw_r5 : ∀ q ∈ lw_privs_5, lw_okq q := List.forall_mem_cons.mpr ⟨lw_p64, List.forall_mem_cons.mpr ⟨lw_p65, List.forall_mem_cons.mpr ⟨lw_p66, List.forall_mem_cons.mpr ⟨lw_p67, List.forall_mem_cons.mpr ⟨lw_p68, List.forall_mem_cons.mpr ⟨lw_p69, List.forall_mem_cons.mpr ⟨lw_p70, List.forall_mem_cons.mpr ⟨lw_p71, List.forall_mem_cons.mpr ⟨lw_p72, List.forall_mem_cons.mpr ⟨lw_p73, fun _ h => absurd h List.not_mem_nil⟩⟩⟩⟩⟩⟩⟩⟩⟩⟩
def lw_privs : List (MethodName × Nat) := lw_privs_1 ++ (lw_privs_2 ++ (lw_privs_3 ++ (lw_privs_4 ++ (lw_privs_5))))
def lw_tbl : List Cond := k2_sels lw_privs ++ tables_1
theorem lw_privs_ok : ∀ q ∈ lw_privs, lw_okq q := by
  show ∀ q ∈ lw_privs_1 ++ (lw_privs_2 ++ (lw_privs_3 ++ (lw_privs_4 ++ (lw_privs_5)))), lw_okq q
  exact List.forall_mem_append.mpr ⟨lw_r1, List.forall_mem_append.mpr ⟨lw_r2, List.forall_mem_append.mpr ⟨lw_r3, List.forall_mem_append.mpr ⟨lw_r4, lw_r5⟩⟩⟩⟩
-- ===== end of PART A; then your names; then what follows =====
def RX0 : String := "SignalWaves$Block"
def TX0 : u_T := fun k => match k with
  | 0 => ("SignalWaves$Block", "begin", "I", false)
  | 1 => ("SignalWaves$Block", "end", "I", false)
  | 2 => ("SignalWaves$Block", "frame", "[I", true)
  | _ => ("SignalWaves$Block", "changes", "LSignalWaves$Changes;", true)
def tyX0 : Nat → FieldType := fun k => match k with
  | 0 => .int
  | 1 => .int
  | 2 => .array .int
  | _ => .object "SignalWaves$Changes"
theorem nmX0 : ∀ a, a < 4 → ∀ b, b < 4 → a ≠ b → (TX0 a).2.1 ≠ (TX0 b).2.1 := by decide +kernel
theorem tyX0_ok : ∀ k, k < 4 → parseFieldDescriptor (TX0 k).2.2.1 = some (tyX0 k) := by decide +kernel
abbrev cX0_init : ByteArray := prog_2_method_1_code
def yX0_init : MethodName := ⟨RX0, "<init>", "()V"⟩
abbrev cX0_restart : ByteArray := prog_2_method_2_code
def yX0_restart : MethodName := ⟨RX0, "restart", "(I[I)V"⟩
abbrev cX0_copyFrom : ByteArray := prog_2_method_3_code
def yX0_copyFrom : MethodName := ⟨RX0, "copyFrom", "(LSignalWaves$Block;)V"⟩
def RX1 : String := "SignalWaves$Changes"
def TX1 : u_T := fun k => match k with
  | 0 => ("SignalWaves$Changes", "count", "I", false)
  | 1 => ("SignalWaves$Changes", "times", "[I", true)
  | 2 => ("SignalWaves$Changes", "wires", "[I", true)
  | _ => ("SignalWaves$Changes", "values", "[I", true)
def tyX1 : Nat → FieldType := fun k => match k with
  | 0 => .int
  | 1 => .array .int
  | 2 => .array .int
  | _ => .array .int
theorem nmX1 : ∀ a, a < 4 → ∀ b, b < 4 → a ≠ b → (TX1 a).2.1 ≠ (TX1 b).2.1 := by decide +kernel
theorem tyX1_ok : ∀ k, k < 4 → parseFieldDescriptor (TX1 k).2.2.1 = some (tyX1 k) := by decide +kernel
abbrev cX1_init : ByteArray := prog_3_method_1_code
def yX1_init : MethodName := ⟨RX1, "<init>", "(I)V"⟩
abbrev cX1_add : ByteArray := prog_3_method_2_code
def yX1_add : MethodName := ⟨RX1, "add", "(III)V"⟩
abbrev cX1_addAll : ByteArray := prog_3_method_3_code
def yX1_addAll : MethodName := ⟨RX1, "addAll", "(LSignalWaves$Changes;)V"⟩
abbrev cX1_copyFrom : ByteArray := prog_3_method_4_code
def yX1_copyFrom : MethodName := ⟨RX1, "copyFrom", "(LSignalWaves$Changes;)V"⟩
abbrev cX1_isNew : ByteArray := prog_3_method_5_code
def yX1_isNew : MethodName := ⟨RX1, "isNew", "(II)Z"⟩
abbrev cX1_different : ByteArray := prog_3_method_6_code
def yX1_different : MethodName := ⟨RX1, "different", "(II)I"⟩
abbrev cX1_indexOf : ByteArray := prog_3_method_7_code
def yX1_indexOf : MethodName := ⟨RX1, "indexOf", "(II)I"⟩
abbrev cX1_room : ByteArray := prog_3_method_8_code
def yX1_room : MethodName := ⟨RX1, "room", "(IIII)I"⟩
def RX2 : String := "SignalWaves$Design"
def TX2 : u_T := fun k => match k with
  | 0 => ("SignalWaves$Design", "signals", "I", false)
  | 1 => ("SignalWaves$Design", "wires", "I", false)
  | 2 => ("SignalWaves$Design", "derived", "I", false)
  | 3 => ("SignalWaves$Design", "scopes", "I", false)
  | 4 => ("SignalWaves$Design", "kinds", "[I", true)
  | 5 => ("SignalWaves$Design", "details", "[I", true)
  | 6 => ("SignalWaves$Design", "homes", "[I", true)
  | 7 => ("SignalWaves$Design", "names", "[I", true)
  | 8 => ("SignalWaves$Design", "scopeHomes", "[I", true)
  | 9 => ("SignalWaves$Design", "scopeNames", "[I", true)
  | 10 => ("SignalWaves$Design", "codes", "[[I", true)
  | 11 => ("SignalWaves$Design", "codeLengths", "[I", true)
  | _ => ("SignalWaves$Design", "stack", "[I", true)
def tyX2 : Nat → FieldType := fun k => match k with
  | 0 => .int
  | 1 => .int
  | 2 => .int
  | 3 => .int
  | 4 => .array .int
  | 5 => .array .int
  | 6 => .array .int
  | 7 => .array .int
  | 8 => .array .int
  | 9 => .array .int
  | 10 => .array (.array .int)
  | 11 => .array .int
  | _ => .array .int
theorem nmX2 : ∀ a, a < 13 → ∀ b, b < 13 → a ≠ b → (TX2 a).2.1 ≠ (TX2 b).2.1 := by decide +kernel
theorem tyX2_ok : ∀ k, k < 13 → parseFieldDescriptor (TX2 k).2.2.1 = some (tyX2 k) := by decide +kernel
abbrev cX2_init : ByteArray := prog_4_method_1_code
def yX2_init : MethodName := ⟨RX2, "<init>", "()V"⟩
abbrev cX2_empty : ByteArray := prog_4_method_2_code
def yX2_empty : MethodName := ⟨RX2, "empty", "()V"⟩
abbrev cX2_addScope : ByteArray := prog_4_method_3_code
def yX2_addScope : MethodName := ⟨RX2, "addScope", "(II)I"⟩
abbrev cX2_addSignal : ByteArray := prog_4_method_4_code
def yX2_addSignal : MethodName := ⟨RX2, "addSignal", "(IIII)V"⟩
abbrev cX2_beginCode : ByteArray := prog_4_method_5_code
def yX2_beginCode : MethodName := ⟨RX2, "beginCode", "()V"⟩
abbrev cX2_addCode : ByteArray := prog_4_method_6_code
def yX2_addCode : MethodName := ⟨RX2, "addCode", "(I)V"⟩
abbrev cX2_named : ByteArray := prog_4_method_7_code
def yX2_named : MethodName := ⟨RX2, "named", "(II)I"⟩
abbrev cX2_depth : ByteArray := prog_4_method_8_code
def yX2_depth : MethodName := ⟨RX2, "depth", "(I)I"⟩
abbrev cX2_pathName : ByteArray := prog_4_method_9_code
def yX2_pathName : MethodName := ⟨RX2, "pathName", "(II)I"⟩
abbrev cX2_complete : ByteArray := prog_4_method_10_code
def yX2_complete : MethodName := ⟨RX2, "complete", "([I)V"⟩
abbrev cX2_computed : ByteArray := prog_4_method_11_code
def yX2_computed : MethodName := ⟨RX2, "computed", "(I[I)I"⟩
abbrev cX2_negated : ByteArray := prog_4_method_12_code
def yX2_negated : MethodName := ⟨RX2, "negated", "(I)I"⟩
abbrev cX2_joined : ByteArray := prog_4_method_13_code
def yX2_joined : MethodName := ⟨RX2, "joined", "(III)I"⟩
def RX3 : String := "SignalWaves$History"
def TX3 : u_T := fun k => match k with
  | 0 => ("SignalWaves$History", "count", "I", false)
  | 1 => ("SignalWaves$History", "lastTime", "I", false)
  | 2 => ("SignalWaves$History", "times", "[I", true)
  | _ => ("SignalWaves$History", "values", "[[I", true)
def tyX3 : Nat → FieldType := fun k => match k with
  | 0 => .int
  | 1 => .int
  | 2 => .array .int
  | _ => .array (.array .int)
theorem nmX3 : ∀ a, a < 4 → ∀ b, b < 4 → a ≠ b → (TX3 a).2.1 ≠ (TX3 b).2.1 := by decide +kernel
theorem tyX3_ok : ∀ k, k < 4 → parseFieldDescriptor (TX3 k).2.2.1 = some (tyX3 k) := by decide +kernel
abbrev cX3_init : ByteArray := prog_5_method_1_code
def yX3_init : MethodName := ⟨RX3, "<init>", "()V"⟩
abbrev cX3_read : ByteArray := prog_5_method_2_code
def yX3_read : MethodName := ⟨RX3, "read", "(LSignalWaves$Design;LSignalWaves$Recording;)V"⟩
abbrev cX3_addMoment : ByteArray := prog_5_method_3_code
def yX3_addMoment : MethodName := ⟨RX3, "addMoment", "(I)V"⟩
abbrev cX3_after : ByteArray := prog_5_method_4_code
def yX3_after : MethodName := ⟨RX3, "after", "(I)I"⟩
abbrev cX3_isEdge : ByteArray := prog_5_method_5_code
def yX3_isEdge : MethodName := ⟨RX3, "isEdge", "(III)Z"⟩
abbrev cX3_hasEdgeOf : ByteArray := prog_5_method_6_code
def yX3_hasEdgeOf : MethodName := ⟨RX3, "hasEdgeOf", "(II)Z"⟩
abbrev cX3_hasEdgeAt : ByteArray := prog_5_method_7_code
def yX3_hasEdgeAt : MethodName := ⟨RX3, "hasEdgeAt", "(II)Z"⟩
abbrev cX3_follows : ByteArray := prog_5_method_8_code
def yX3_follows : MethodName := ⟨RX3, "follows", "(III)Z"⟩
abbrev cX3_greatestGroup : ByteArray := prog_5_method_9_code
def yX3_greatestGroup : MethodName := ⟨RX3, "greatestGroup", "(II)I"⟩
def RX4 : String := "SignalWaves$Past"
def TX4 : u_T := fun k => match k with
  | 0 => ("SignalWaves$Past", "count", "I", false)
  | _ => ("SignalWaves$Past", "before", "[LSignalWaves$Recording;", true)
def tyX4 : Nat → FieldType := fun k => match k with
  | 0 => .int
  | _ => .array (.object "SignalWaves$Recording")
theorem nmX4 : ∀ a, a < 2 → ∀ b, b < 2 → a ≠ b → (TX4 a).2.1 ≠ (TX4 b).2.1 := by decide +kernel
theorem tyX4_ok : ∀ k, k < 2 → parseFieldDescriptor (TX4 k).2.2.1 = some (tyX4 k) := by decide +kernel
abbrev cX4_init : ByteArray := prog_6_method_1_code
def yX4_init : MethodName := ⟨RX4, "<init>", "()V"⟩
abbrev cX4_remember : ByteArray := prog_6_method_2_code
def yX4_remember : MethodName := ⟨RX4, "remember", "(LSignalWaves$Recording;)V"⟩
abbrev cX4_bringBack : ByteArray := prog_6_method_3_code
def yX4_bringBack : MethodName := ⟨RX4, "bringBack", "(LSignalWaves$Recording;)V"⟩
def RX5 : String := "SignalWaves$Reader"
def TX5 : u_T := fun k => match k with
  | 0 => ("SignalWaves$Reader", "text", "LSignalWaves$Text;", true)
  | 1 => ("SignalWaves$Reader", "design", "LSignalWaves$Design;", false)
  | 2 => ("SignalWaves$Reader", "open", "I", false)
  | 3 => ("SignalWaves$Reader", "operands", "I", false)
  | _ => ("SignalWaves$Reader", "marks", "I", false)
def tyX5 : Nat → FieldType := fun k => match k with
  | 0 => .object "SignalWaves$Text"
  | 1 => .object "SignalWaves$Design"
  | 2 => .int
  | 3 => .int
  | _ => .int
theorem nmX5 : ∀ a, a < 5 → ∀ b, b < 5 → a ≠ b → (TX5 a).2.1 ≠ (TX5 b).2.1 := by decide +kernel
theorem tyX5_ok : ∀ k, k < 5 → parseFieldDescriptor (TX5 k).2.2.1 = some (tyX5 k) := by decide +kernel
abbrev cX5_init : ByteArray := prog_7_method_1_code
def yX5_init : MethodName := ⟨RX5, "<init>", "(LSignalWaves$Text;LSignalWaves$Design;)V"⟩
abbrev cX5_read : ByteArray := prog_7_method_2_code
def yX5_read : MethodName := ⟨RX5, "read", "(LSignalWaves$Design;)I"⟩
abbrev cX5_readItem : ByteArray := prog_7_method_3_code
def yX5_readItem : MethodName := ⟨RX5, "readItem", "()Z"⟩
abbrev cX5_readSign : ByteArray := prog_7_method_4_code
def yX5_readSign : MethodName := ⟨RX5, "readSign", "(I)Z"⟩
abbrev cX5_readOpening : ByteArray := prog_7_method_5_code
def yX5_readOpening : MethodName := ⟨RX5, "readOpening", "()Z"⟩
abbrev cX5_readClosing : ByteArray := prog_7_method_6_code
def yX5_readClosing : MethodName := ⟨RX5, "readClosing", "()Z"⟩
abbrev cX5_readSignal : ByteArray := prog_7_method_7_code
def yX5_readSignal : MethodName := ⟨RX5, "readSignal", "()Z"⟩
abbrev cX5_readWidth : ByteArray := prog_7_method_8_code
def yX5_readWidth : MethodName := ⟨RX5, "readWidth", "()I"⟩
abbrev cX5_readExpression : ByteArray := prog_7_method_9_code
def yX5_readExpression : MethodName := ⟨RX5, "readExpression", "()Z"⟩
abbrev cX5_isOperator : ByteArray := prog_7_method_10_code
def yX5_isOperator : MethodName := ⟨RX5, "isOperator", "(I)Z"⟩
abbrev cX5_readTerm : ByteArray := prog_7_method_11_code
def yX5_readTerm : MethodName := ⟨RX5, "readTerm", "()Z"⟩
abbrev cX5_readPath : ByteArray := prog_7_method_12_code
def yX5_readPath : MethodName := ⟨RX5, "readPath", "()I"⟩
def RX6 : String := "SignalWaves$Recording"
def TX6 : u_T := fun k => match k with
  | 0 => ("SignalWaves$Recording", "time", "I", false)
  | 1 => ("SignalWaves$Recording", "on", "Z", false)
  | 2 => ("SignalWaves$Recording", "size", "I", false)
  | 3 => ("SignalWaves$Recording", "lost", "I", false)
  | 4 => ("SignalWaves$Recording", "count", "I", false)
  | 5 => ("SignalWaves$Recording", "blocks", "[LSignalWaves$Block;", true)
  | _ => ("SignalWaves$Recording", "values", "[I", true)
def tyX6 : Nat → FieldType := fun k => match k with
  | 0 => .int
  | 1 => .boolean
  | 2 => .int
  | 3 => .int
  | 4 => .int
  | 5 => .array (.object "SignalWaves$Block")
  | _ => .array .int
theorem nmX6 : ∀ a, a < 7 → ∀ b, b < 7 → a ≠ b → (TX6 a).2.1 ≠ (TX6 b).2.1 := by decide +kernel
theorem tyX6_ok : ∀ k, k < 7 → parseFieldDescriptor (TX6 k).2.2.1 = some (tyX6 k) := by decide +kernel
abbrev cX6_init : ByteArray := prog_8_method_1_code
def yX6_init : MethodName := ⟨RX6, "<init>", "()V"⟩
abbrev cX6_restart : ByteArray := prog_8_method_2_code
def yX6_restart : MethodName := ⟨RX6, "restart", "()V"⟩
abbrev cX6_copyFrom : ByteArray := prog_8_method_3_code
def yX6_copyFrom : MethodName := ⟨RX6, "copyFrom", "(LSignalWaves$Recording;)V"⟩
abbrev cX6_give : ByteArray := prog_8_method_4_code
def yX6_give : MethodName := ⟨RX6, "give", "(II)V"⟩
abbrev cX6_turn : ByteArray := prog_8_method_5_code
def yX6_turn : MethodName := ⟨RX6, "turn", "(Z)V"⟩
abbrev cX6_beginBlock : ByteArray := prog_8_method_6_code
def yX6_beginBlock : MethodName := ⟨RX6, "beginBlock", "()V"⟩
abbrev cX6_loseOldest : ByteArray := prog_8_method_7_code
def yX6_loseOldest : MethodName := ⟨RX6, "loseOldest", "()V"⟩
abbrev cX6_blockAt : ByteArray := prog_8_method_8_code
def yX6_blockAt : MethodName := ⟨RX6, "blockAt", "(I)I"⟩
abbrev cX6_fillWires : ByteArray := prog_8_method_9_code
def yX6_fillWires : MethodName := ⟨RX6, "fillWires", "([II)V"⟩
def RX7 : String := "SignalWaves$Text"
def TX7 : u_T := fun k => match k with
  | 0 => ("SignalWaves$Text", "bytes", "[I", true)
  | 1 => ("SignalWaves$Text", "length", "I", false)
  | 2 => ("SignalWaves$Text", "start", "I", false)
  | 3 => ("SignalWaves$Text", "end", "I", false)
  | _ => ("SignalWaves$Text", "sign", "I", false)
def tyX7 : Nat → FieldType := fun k => match k with
  | 0 => .array .int
  | 1 => .int
  | 2 => .int
  | 3 => .int
  | _ => .int
theorem nmX7 : ∀ a, a < 5 → ∀ b, b < 5 → a ≠ b → (TX7 a).2.1 ≠ (TX7 b).2.1 := by decide +kernel
theorem tyX7_ok : ∀ k, k < 5 → parseFieldDescriptor (TX7 k).2.2.1 = some (tyX7 k) := by decide +kernel
abbrev cX7_init : ByteArray := prog_9_method_1_code
def yX7_init : MethodName := ⟨RX7, "<init>", "()V"⟩
abbrev cX7_add : ByteArray := prog_9_method_2_code
def yX7_add : MethodName := ⟨RX7, "add", "(I)V"⟩
abbrev cX7_empty : ByteArray := prog_9_method_3_code
def yX7_empty : MethodName := ⟨RX7, "empty", "()V"⟩
abbrev cX7_toFirst : ByteArray := prog_9_method_4_code
def yX7_toFirst : MethodName := ⟨RX7, "toFirst", "()V"⟩
abbrev cX7_toNext : ByteArray := prog_9_method_5_code
def yX7_toNext : MethodName := ⟨RX7, "toNext", "()V"⟩
abbrev cX7_letter : ByteArray := prog_9_method_6_code
def yX7_letter : MethodName := ⟨RX7, "letter", "()I"⟩
abbrev cX7_number : ByteArray := prog_9_method_7_code
def yX7_number : MethodName := ⟨RX7, "number", "()I"⟩
def RX8 : String := "SignalWaves"
def TX8 : u_T := fun k => match k with
  | 0 => ("SignalWaves", "text", "LSignalWaves$Text;", true)
  | 1 => ("SignalWaves", "design", "LSignalWaves$Design;", false)
  | 2 => ("SignalWaves", "draft", "LSignalWaves$Design;", false)
  | 3 => ("SignalWaves", "reader", "LSignalWaves$Reader;", true)
  | 4 => ("SignalWaves", "recording", "LSignalWaves$Recording;", true)
  | 5 => ("SignalWaves", "past", "LSignalWaves$Past;", true)
  | 6 => ("SignalWaves", "images", "[LSignalWaves$Recording;", true)
  | 7 => ("SignalWaves", "kept", "[Z", true)
  | 8 => ("SignalWaves", "seenTimes", "[I", true)
  | 9 => ("SignalWaves", "seenValues", "[I", true)
  | 10 => ("SignalWaves", "observations", "I", false)
  | 11 => ("SignalWaves", "history", "LSignalWaves$History;", true)
  | 12 => ("SignalWaves", "gathered", "LSignalWaves$Changes;", true)
  | _ => ("SignalWaves", "row", "[I", true)
def tyX8 : Nat → FieldType := fun k => match k with
  | 0 => .object "SignalWaves$Text"
  | 1 => .object "SignalWaves$Design"
  | 2 => .object "SignalWaves$Design"
  | 3 => .object "SignalWaves$Reader"
  | 4 => .object "SignalWaves$Recording"
  | 5 => .object "SignalWaves$Past"
  | 6 => .array (.object "SignalWaves$Recording")
  | 7 => .array .boolean
  | 8 => .array .int
  | 9 => .array .int
  | 10 => .int
  | 11 => .object "SignalWaves$History"
  | 12 => .object "SignalWaves$Changes"
  | _ => .array .int
theorem nmX8 : ∀ a, a < 14 → ∀ b, b < 14 → a ≠ b → (TX8 a).2.1 ≠ (TX8 b).2.1 := by decide +kernel
theorem tyX8_ok : ∀ k, k < 14 → parseFieldDescriptor (TX8 k).2.2.1 = some (tyX8 k) := by decide +kernel
abbrev cX8_init : ByteArray := prog_1_method_1_code
def yX8_init : MethodName := ⟨RX8, "<init>", "()V"⟩
abbrev cX8_type : ByteArray := prog_1_method_2_code
def yX8_type : MethodName := ⟨RX8, "type", "(I)I"⟩
abbrev cX8_clear : ByteArray := prog_1_method_3_code
def yX8_clear : MethodName := ⟨RX8, "clear", "()I"⟩
abbrev cX8_tells : ByteArray := prog_1_method_4_code
def yX8_tells : MethodName := ⟨RX8, "tells", "()I"⟩
abbrev cX8_node : ByteArray := prog_1_method_5_code
def yX8_node : MethodName := ⟨RX8, "node", "()I"⟩
abbrev cX8_about : ByteArray := prog_1_method_6_code
def yX8_about : MethodName := ⟨RX8, "about", "(II)I"⟩
abbrev cX8_scope : ByteArray := prog_1_method_7_code
def yX8_scope : MethodName := ⟨RX8, "scope", "(II)I"⟩
abbrev cX8_listed : ByteArray := prog_1_method_8_code
def yX8_listed : MethodName := ⟨RX8, "listed", "(II)I"⟩
abbrev cX8_path : ByteArray := prog_1_method_9_code
def yX8_path : MethodName := ⟨RX8, "path", "(II)I"⟩
abbrev cX8_sets : ByteArray := prog_1_method_10_code
def yX8_sets : MethodName := ⟨RX8, "sets", "(II)I"⟩
abbrev cX8_passes : ByteArray := prog_1_method_11_code
def yX8_passes : MethodName := ⟨RX8, "passes", "(I)I"⟩
abbrev cX8_dumps : ByteArray := prog_1_method_12_code
def yX8_dumps : MethodName := ⟨RX8, "dumps", "(I)I"⟩
abbrev cX8_sizes : ByteArray := prog_1_method_13_code
def yX8_sizes : MethodName := ⟨RX8, "sizes", "(I)I"⟩
abbrev cX8_undo : ByteArray := prog_1_method_14_code
def yX8_undo : MethodName := ⟨RX8, "undo", "()I"⟩
abbrev cX8_at : ByteArray := prog_1_method_15_code
def yX8_at : MethodName := ⟨RX8, "at", "(II)I"⟩
abbrev cX8_edges : ByteArray := prog_1_method_16_code
def yX8_edges : MethodName := ⟨RX8, "edges", "(IIII)I"⟩
abbrev cX8_next : ByteArray := prog_1_method_17_code
def yX8_next : MethodName := ⟨RX8, "next", "(III)I"⟩
abbrev cX8_previous : ByteArray := prog_1_method_18_code
def yX8_previous : MethodName := ⟨RX8, "previous", "(III)I"⟩
abbrev cX8_first : ByteArray := prog_1_method_19_code
def yX8_first : MethodName := ⟨RX8, "first", "(III)I"⟩
abbrev cX8_holds : ByteArray := prog_1_method_20_code
def yX8_holds : MethodName := ⟨RX8, "holds", "(III)I"⟩
abbrev cX8_ticks : ByteArray := prog_1_method_21_code
def yX8_ticks : MethodName := ⟨RX8, "ticks", "(II)I"⟩
abbrev cX8_delay : ByteArray := prog_1_method_22_code
def yX8_delay : MethodName := ⟨RX8, "delay", "(II)I"⟩
abbrev cX8_jump : ByteArray := prog_1_method_23_code
def yX8_jump : MethodName := ⟨RX8, "jump", "(I)I"⟩
abbrev cX8_block : ByteArray := prog_1_method_24_code
def yX8_block : MethodName := ⟨RX8, "block", "(II)I"⟩
abbrev cX8_frame : ByteArray := prog_1_method_25_code
def yX8_frame : MethodName := ⟨RX8, "frame", "(II)I"⟩
abbrev cX8_change : ByteArray := prog_1_method_26_code
def yX8_change : MethodName := ⟨RX8, "change", "(III)I"⟩
abbrev cX8_packed : ByteArray := prog_1_method_27_code
def yX8_packed : MethodName := ⟨RX8, "packed", "(I)I"⟩
abbrev cX8_best : ByteArray := prog_1_method_28_code
def yX8_best : MethodName := ⟨RX8, "best", "()I"⟩
abbrev cX8_sees : ByteArray := prog_1_method_29_code
def yX8_sees : MethodName := ⟨RX8, "sees", "(II)I"⟩
abbrev cX8_forget : ByteArray := prog_1_method_30_code
def yX8_forget : MethodName := ⟨RX8, "forget", "()I"⟩
abbrev cX8_which : ByteArray := prog_1_method_31_code
def yX8_which : MethodName := ⟨RX8, "which", "()I"⟩
abbrev cX8_look : ByteArray := prog_1_method_32_code
def yX8_look : MethodName := ⟨RX8, "look", "()I"⟩
abbrev cX8_keep : ByteArray := prog_1_method_33_code
def yX8_keep : MethodName := ⟨RX8, "keep", "(I)I"⟩
abbrev cX8_back : ByteArray := prog_1_method_34_code
def yX8_back : MethodName := ⟨RX8, "back", "(I)I"⟩
abbrev cX8_count : ByteArray := prog_1_method_35_code
def yX8_count : MethodName := ⟨RX8, "count", "(I)I"⟩
abbrev cX8_isSignal : ByteArray := prog_1_method_36_code
def yX8_isSignal : MethodName := ⟨RX8, "isSignal", "(I)Z"⟩
abbrev cX8_isWire : ByteArray := prog_1_method_37_code
def yX8_isWire : MethodName := ⟨RX8, "isWire", "(I)Z"⟩
abbrev cX8_isBlock : ByteArray := prog_1_method_38_code
def yX8_isBlock : MethodName := ⟨RX8, "isBlock", "(I)Z"⟩
abbrev cX8_isPast : ByteArray := prog_1_method_39_code
def yX8_isPast : MethodName := ⟨RX8, "isPast", "(I)Z"⟩
abbrev cX8_isKind : ByteArray := prog_1_method_40_code
def yX8_isKind : MethodName := ⟨RX8, "isKind", "(I)Z"⟩
abbrev cX8_isRecordable : ByteArray := prog_1_method_41_code
def yX8_isRecordable : MethodName := ⟨RX8, "isRecordable", "(I)Z"⟩
abbrev cX8_orNone : ByteArray := prog_1_method_42_code
def yX8_orNone : MethodName := ⟨RX8, "orNone", "(I)I"⟩
abbrev cX8_fillRow : ByteArray := prog_1_method_43_code
def yX8_fillRow : MethodName := ⟨RX8, "fillRow", "(I)V"⟩
abbrev cX8_roomOf : ByteArray := prog_1_method_44_code
def yX8_roomOf : MethodName := ⟨RX8, "roomOf", "(LSignalWaves$Block;)I"⟩
abbrev cX8_roomOfAll : ByteArray := prog_1_method_45_code
def yX8_roomOfAll : MethodName := ⟨RX8, "roomOfAll", "()I"⟩
abbrev cX8_changesInAll : ByteArray := prog_1_method_46_code
def yX8_changesInAll : MethodName := ⟨RX8, "changesInAll", "()I"⟩
abbrev cX8_roomDivided : ByteArray := prog_1_method_47_code
def yX8_roomDivided : MethodName := ⟨RX8, "roomDivided", "(I)I"⟩
abbrev cX8_roomOfGroup : ByteArray := prog_1_method_48_code
def yX8_roomOfGroup : MethodName := ⟨RX8, "roomOfGroup", "(II)I"⟩
abbrev cX8_agreeing : ByteArray := prog_1_method_49_code
def yX8_agreeing : MethodName := ⟨RX8, "agreeing", "()I"⟩
def RX9 : String := "SignalWavesModel"
def TX9 : u_T := fun k => match k with
  | 0 => ("SignalWavesModel", "node", "[I", true)
  | 1 => ("SignalWavesModel", "nodes", "I", false)
  | 2 => ("SignalWavesModel", "wires", "I", false)
  | 3 => ("SignalWavesModel", "deriveds", "I", false)
  | 4 => ("SignalWavesModel", "within", "[I", true)
  | 5 => ("SignalWavesModel", "scopeName", "[I", true)
  | 6 => ("SignalWavesModel", "scopes", "I", false)
  | 7 => ("SignalWavesModel", "code", "[I", true)
  | 8 => ("SignalWavesModel", "codeMany", "[I", true)
  | 9 => ("SignalWavesModel", "s", "[I", true)
  | 10 => ("SignalWavesModel", "past", "[I", true)
  | 11 => ("SignalWavesModel", "undos", "I", false)
  | 12 => ("SignalWavesModel", "kept", "[I", true)
  | 13 => ("SignalWavesModel", "isKept", "[Z", true)
  | 14 => ("SignalWavesModel", "text", "[I", true)
  | 15 => ("SignalWavesModel", "typed", "I", false)
  | 16 => ("SignalWavesModel", "at", "I", false)
  | 17 => ("SignalWavesModel", "start", "I", false)
  | 18 => ("SignalWavesModel", "sort", "I", false)
  | 19 => ("SignalWavesModel", "value", "I", false)
  | 20 => ("SignalWavesModel", "fault", "I", false)
  | 21 => ("SignalWavesModel", "newNode", "[I", true)
  | 22 => ("SignalWavesModel", "newNodes", "I", false)
  | 23 => ("SignalWavesModel", "newWires", "I", false)
  | 24 => ("SignalWavesModel", "newDeriveds", "I", false)
  | 25 => ("SignalWavesModel", "newWithin", "[I", true)
  | 26 => ("SignalWavesModel", "newScopeName", "[I", true)
  | 27 => ("SignalWavesModel", "newScopes", "I", false)
  | 28 => ("SignalWavesModel", "newCode", "[I", true)
  | 29 => ("SignalWavesModel", "newMany", "[I", true)
  | 30 => ("SignalWavesModel", "open", "I", false)
  | 31 => ("SignalWavesModel", "deep", "I", false)
  | 32 => ("SignalWavesModel", "waits", "[I", true)
  | 33 => ("SignalWavesModel", "waiting", "I", false)
  | 34 => ("SignalWavesModel", "terms", "I", false)
  | 35 => ("SignalWavesModel", "marks", "I", false)
  | 36 => ("SignalWavesModel", "now", "[I", true)
  | 37 => ("SignalWavesModel", "stack", "[I", true)
  | 38 => ("SignalWavesModel", "wire", "[I", true)
  | 39 => ("SignalWavesModel", "isTurn", "[Z", true)
  | 40 => ("SignalWavesModel", "line", "[I", true)
  | 41 => ("SignalWavesModel", "ahead", "[I", true)
  | 42 => ("SignalWavesModel", "isFirst", "[Z", true)
  | 43 => ("SignalWavesModel", "rowTime", "[I", true)
  | 44 => ("SignalWavesModel", "rowValue", "[I", true)
  | 45 => ("SignalWavesModel", "rows", "I", false)
  | 46 => ("SignalWavesModel", "word", "[I", true)
  | 47 => ("SignalWavesModel", "words", "I", false)
  | 48 => ("SignalWavesModel", "sight", "[I", true)
  | _ => ("SignalWavesModel", "sights", "I", false)
def tyX9 : Nat → FieldType := fun k => match k with
  | 0 => .array .int
  | 1 => .int
  | 2 => .int
  | 3 => .int
  | 4 => .array .int
  | 5 => .array .int
  | 6 => .int
  | 7 => .array .int
  | 8 => .array .int
  | 9 => .array .int
  | 10 => .array .int
  | 11 => .int
  | 12 => .array .int
  | 13 => .array .boolean
  | 14 => .array .int
  | 15 => .int
  | 16 => .int
  | 17 => .int
  | 18 => .int
  | 19 => .int
  | 20 => .int
  | 21 => .array .int
  | 22 => .int
  | 23 => .int
  | 24 => .int
  | 25 => .array .int
  | 26 => .array .int
  | 27 => .int
  | 28 => .array .int
  | 29 => .array .int
  | 30 => .int
  | 31 => .int
  | 32 => .array .int
  | 33 => .int
  | 34 => .int
  | 35 => .int
  | 36 => .array .int
  | 37 => .array .int
  | 38 => .array .int
  | 39 => .array .boolean
  | 40 => .array .int
  | 41 => .array .int
  | 42 => .array .boolean
  | 43 => .array .int
  | 44 => .array .int
  | 45 => .int
  | 46 => .array .int
  | 47 => .int
  | 48 => .array .int
  | _ => .int
theorem nmX9 : ∀ a, a < 50 → ∀ b, b < 50 → a ≠ b → (TX9 a).2.1 ≠ (TX9 b).2.1 := by decide +kernel
theorem tyX9_ok : ∀ k, k < 50 → parseFieldDescriptor (TX9 k).2.2.1 = some (tyX9 k) := by decide +kernel
abbrev cX9_init : ByteArray := prog_11_method_1_code
def yX9_init : MethodName := ⟨RX9, "<init>", "()V"⟩
abbrev cX9_in : ByteArray := prog_11_method_2_code
def yX9_in : MethodName := ⟨RX9, "in", "(III)Z"⟩
abbrev cX9_type : ByteArray := prog_11_method_3_code
def yX9_type : MethodName := ⟨RX9, "type", "(I)I"⟩
abbrev cX9_clear : ByteArray := prog_11_method_4_code
def yX9_clear : MethodName := ⟨RX9, "clear", "()I"⟩
abbrev cX9_isFigure : ByteArray := prog_11_method_5_code
def yX9_isFigure : MethodName := ⟨RX9, "isFigure", "(I)Z"⟩
abbrev cX9_isSign : ByteArray := prog_11_method_6_code
def yX9_isSign : MethodName := ⟨RX9, "isSign", "(I)Z"⟩
abbrev cX9_next : ByteArray := prog_11_method_7_code
def yX9_next : MethodName := ⟨RX9, "next", "()V"⟩
abbrev cX9_is : ByteArray := prog_11_method_8_code
def yX9_is : MethodName := ⟨RX9, "is", "(I)Z"⟩
abbrev cX9_due : ByteArray := prog_11_method_9_code
def yX9_due : MethodName := ⟨RX9, "due", "(Z)V"⟩
abbrev cX9_passes : ByteArray := prog_11_method_10_code
def yX9_passes : MethodName := ⟨RX9, "passes", "(Z)V"⟩
abbrev cX9_newNodeBy : ByteArray := prog_11_method_11_code
def yX9_newNodeBy : MethodName := ⟨RX9, "newNodeBy", "(II)I"⟩
abbrev cX9_newScopeBy : ByteArray := prog_11_method_12_code
def yX9_newScopeBy : MethodName := ⟨RX9, "newScopeBy", "(II)I"⟩
abbrev cX9_opens : ByteArray := prog_11_method_13_code
def yX9_opens : MethodName := ⟨RX9, "opens", "()V"⟩
abbrev cX9_closes : ByteArray := prog_11_method_14_code
def yX9_closes : MethodName := ⟨RX9, "closes", "()V"⟩
abbrev cX9_readsPath : ByteArray := prog_11_method_15_code
def yX9_readsPath : MethodName := ⟨RX9, "readsPath", "()I"⟩
abbrev cX9_emits : ByteArray := prog_11_method_16_code
def yX9_emits : MethodName := ⟨RX9, "emits", "(II)V"⟩
abbrev cX9_waitsFor : ByteArray := prog_11_method_17_code
def yX9_waitsFor : MethodName := ⟨RX9, "waitsFor", "(I)V"⟩
abbrev cX9_wholeTerm : ByteArray := prog_11_method_18_code
def yX9_wholeTerm : MethodName := ⟨RX9, "wholeTerm", "()V"⟩
abbrev cX9_beginsTerm : ByteArray := prog_11_method_19_code
def yX9_beginsTerm : MethodName := ⟨RX9, "beginsTerm", "()V"⟩
abbrev cX9_isBetween : ByteArray := prog_11_method_20_code
def yX9_isBetween : MethodName := ⟨RX9, "isBetween", "()Z"⟩
abbrev cX9_readsExpression : ByteArray := prog_11_method_21_code
def yX9_readsExpression : MethodName := ⟨RX9, "readsExpression", "()V"⟩
abbrev cX9_readsNode : ByteArray := prog_11_method_22_code
def yX9_readsNode : MethodName := ⟨RX9, "readsNode", "()V"⟩
abbrev cX9_readsItem : ByteArray := prog_11_method_23_code
def yX9_readsItem : MethodName := ⟨RX9, "readsItem", "()V"⟩
abbrev cX9_tells : ByteArray := prog_11_method_24_code
def yX9_tells : MethodName := ⟨RX9, "tells", "()I"⟩
abbrev cX9_takesOver : ByteArray := prog_11_method_25_code
def yX9_takesOver : MethodName := ⟨RX9, "takesOver", "()V"⟩
abbrev cX9_begins : ByteArray := prog_11_method_26_code
def yX9_begins : MethodName := ⟨RX9, "begins", "()V"⟩
abbrev cX9_nodeBy : ByteArray := prog_11_method_27_code
def yX9_nodeBy : MethodName := ⟨RX9, "nodeBy", "(II)I"⟩
abbrev cX9_scopeBy : ByteArray := prog_11_method_28_code
def yX9_scopeBy : MethodName := ⟨RX9, "scopeBy", "(II)I"⟩
abbrev cX9_node : ByteArray := prog_11_method_29_code
def yX9_node : MethodName := ⟨RX9, "node", "()I"⟩
abbrev cX9_isNode : ByteArray := prog_11_method_30_code
def yX9_isNode : MethodName := ⟨RX9, "isNode", "(I)Z"⟩
abbrev cX9_of : ByteArray := prog_11_method_31_code
def yX9_of : MethodName := ⟨RX9, "of", "(II)I"⟩
abbrev cX9_worked : ByteArray := prog_11_method_32_code
def yX9_worked : MethodName := ⟨RX9, "worked", "(III)I"⟩
abbrev cX9_expressed : ByteArray := prog_11_method_33_code
def yX9_expressed : MethodName := ⟨RX9, "expressed", "(I)I"⟩
abbrev cX9_laysNodes : ByteArray := prog_11_method_34_code
def yX9_laysNodes : MethodName := ⟨RX9, "laysNodes", "()V"⟩
abbrev cX9_about : ByteArray := prog_11_method_35_code
def yX9_about : MethodName := ⟨RX9, "about", "(II)I"⟩
abbrev cX9_scope : ByteArray := prog_11_method_36_code
def yX9_scope : MethodName := ⟨RX9, "scope", "(II)I"⟩
abbrev cX9_listed : ByteArray := prog_11_method_37_code
def yX9_listed : MethodName := ⟨RX9, "listed", "(II)I"⟩
abbrev cX9_path : ByteArray := prog_11_method_38_code
def yX9_path : MethodName := ⟨RX9, "path", "(II)I"⟩
abbrev cX9_block0 : ByteArray := prog_11_method_39_code
def yX9_block0 : MethodName := ⟨RX9, "block0", "(I)I"⟩
abbrev cX9_blockBegins : ByteArray := prog_11_method_40_code
def yX9_blockBegins : MethodName := ⟨RX9, "blockBegins", "()V"⟩
abbrev cX9_notes : ByteArray := prog_11_method_41_code
def yX9_notes : MethodName := ⟨RX9, "notes", "()V"⟩
abbrev cX9_isWire : ByteArray := prog_11_method_42_code
def yX9_isWire : MethodName := ⟨RX9, "isWire", "(I)Z"⟩
abbrev cX9_sets : ByteArray := prog_11_method_43_code
def yX9_sets : MethodName := ⟨RX9, "sets", "(II)I"⟩
abbrev cX9_passes_ : ByteArray := prog_11_method_44_code
def yX9_passes_ : MethodName := ⟨RX9, "passes", "(I)I"⟩
abbrev cX9_dumps : ByteArray := prog_11_method_45_code
def yX9_dumps : MethodName := ⟨RX9, "dumps", "(I)I"⟩
abbrev cX9_sizes : ByteArray := prog_11_method_46_code
def yX9_sizes : MethodName := ⟨RX9, "sizes", "(I)I"⟩
abbrev cX9_undo : ByteArray := prog_11_method_47_code
def yX9_undo : MethodName := ⟨RX9, "undo", "()I"⟩
abbrev cX9_isTime : ByteArray := prog_11_method_48_code
def yX9_isTime : MethodName := ⟨RX9, "isTime", "(I)Z"⟩
abbrev cX9_blockAt : ByteArray := prog_11_method_49_code
def yX9_blockAt : MethodName := ⟨RX9, "blockAt", "(I)I"⟩
abbrev cX9_laysAt : ByteArray := prog_11_method_50_code
def yX9_laysAt : MethodName := ⟨RX9, "laysAt", "(I)V"⟩
abbrev cX9_at : ByteArray := prog_11_method_51_code
def yX9_at : MethodName := ⟨RX9, "at", "(II)I"⟩
abbrev cX9_laysTurns : ByteArray := prog_11_method_52_code
def yX9_laysTurns : MethodName := ⟨RX9, "laysTurns", "()V"⟩
abbrev cX9_laysLine : ByteArray := prog_11_method_53_code
def yX9_laysLine : MethodName := ⟨RX9, "laysLine", "(I)V"⟩
abbrev cX9_isEdge : ByteArray := prog_11_method_54_code
def yX9_isEdge : MethodName := ⟨RX9, "isEdge", "(II)Z"⟩
abbrev cX9_isKind : ByteArray := prog_11_method_55_code
def yX9_isKind : MethodName := ⟨RX9, "isKind", "(I)Z"⟩
abbrev cX9_edges : ByteArray := prog_11_method_56_code
def yX9_edges : MethodName := ⟨RX9, "edges", "(IIII)I"⟩
abbrev cX9_next_ : ByteArray := prog_11_method_57_code
def yX9_next_ : MethodName := ⟨RX9, "next", "(III)I"⟩
abbrev cX9_previous : ByteArray := prog_11_method_58_code
def yX9_previous : MethodName := ⟨RX9, "previous", "(III)I"⟩
abbrev cX9_first : ByteArray := prog_11_method_59_code
def yX9_first : MethodName := ⟨RX9, "first", "(III)I"⟩
abbrev cX9_holds : ByteArray := prog_11_method_60_code
def yX9_holds : MethodName := ⟨RX9, "holds", "(III)I"⟩
abbrev cX9_isTick : ByteArray := prog_11_method_61_code
def yX9_isTick : MethodName := ⟨RX9, "isTick", "(I)Z"⟩
abbrev cX9_ticks : ByteArray := prog_11_method_62_code
def yX9_ticks : MethodName := ⟨RX9, "ticks", "(II)I"⟩
abbrev cX9_delay : ByteArray := prog_11_method_63_code
def yX9_delay : MethodName := ⟨RX9, "delay", "(II)I"⟩
abbrev cX9_jump : ByteArray := prog_11_method_64_code
def yX9_jump : MethodName := ⟨RX9, "jump", "(I)I"⟩
abbrev cX9_isBlock : ByteArray := prog_11_method_65_code
def yX9_isBlock : MethodName := ⟨RX9, "isBlock", "(I)Z"⟩
abbrev cX9_addsRow : ByteArray := prog_11_method_66_code
def yX9_addsRow : MethodName := ⟨RX9, "addsRow", "(I)V"⟩
abbrev cX9_placeOf : ByteArray := prog_11_method_67_code
def yX9_placeOf : MethodName := ⟨RX9, "placeOf", "(I)I"⟩
abbrev cX9_roomOf : ByteArray := prog_11_method_68_code
def yX9_roomOf : MethodName := ⟨RX9, "roomOf", "(III)I"⟩
abbrev cX9_roomOfBlock : ByteArray := prog_11_method_69_code
def yX9_roomOfBlock : MethodName := ⟨RX9, "roomOfBlock", "(I)I"⟩
abbrev cX9_block : ByteArray := prog_11_method_70_code
def yX9_block : MethodName := ⟨RX9, "block", "(II)I"⟩
abbrev cX9_frame : ByteArray := prog_11_method_71_code
def yX9_frame : MethodName := ⟨RX9, "frame", "(II)I"⟩
abbrev cX9_nodeOfWire : ByteArray := prog_11_method_72_code
def yX9_nodeOfWire : MethodName := ⟨RX9, "nodeOfWire", "(I)I"⟩
abbrev cX9_change : ByteArray := prog_11_method_73_code
def yX9_change : MethodName := ⟨RX9, "change", "(III)I"⟩
abbrev cX9_roomParted : ByteArray := prog_11_method_74_code
def yX9_roomParted : MethodName := ⟨RX9, "roomParted", "(II)I"⟩
abbrev cX9_packedBy : ByteArray := prog_11_method_75_code
def yX9_packedBy : MethodName := ⟨RX9, "packedBy", "(I)I"⟩
abbrev cX9_packed : ByteArray := prog_11_method_76_code
def yX9_packed : MethodName := ⟨RX9, "packed", "(I)I"⟩
abbrev cX9_best : ByteArray := prog_11_method_77_code
def yX9_best : MethodName := ⟨RX9, "best", "()I"⟩
abbrev cX9_sees : ByteArray := prog_11_method_78_code
def yX9_sees : MethodName := ⟨RX9, "sees", "(II)I"⟩
abbrev cX9_forget : ByteArray := prog_11_method_79_code
def yX9_forget : MethodName := ⟨RX9, "forget", "()I"⟩
abbrev cX9_seen : ByteArray := prog_11_method_80_code
def yX9_seen : MethodName := ⟨RX9, "seen", "()I"⟩
abbrev cX9_which : ByteArray := prog_11_method_81_code
def yX9_which : MethodName := ⟨RX9, "which", "()I"⟩
abbrev cX9_mostAlike : ByteArray := prog_11_method_82_code
def yX9_mostAlike : MethodName := ⟨RX9, "mostAlike", "(I)I"⟩
abbrev cX9_look : ByteArray := prog_11_method_83_code
def yX9_look : MethodName := ⟨RX9, "look", "()I"⟩
abbrev cX9_keep : ByteArray := prog_11_method_84_code
def yX9_keep : MethodName := ⟨RX9, "keep", "(I)I"⟩
abbrev cX9_back : ByteArray := prog_11_method_85_code
def yX9_back : MethodName := ⟨RX9, "back", "(I)I"⟩
abbrev cX9_changes : ByteArray := prog_11_method_86_code
def yX9_changes : MethodName := ⟨RX9, "changes", "()I"⟩
abbrev cX9_roomOfAll : ByteArray := prog_11_method_87_code
def yX9_roomOfAll : MethodName := ⟨RX9, "roomOfAll", "()I"⟩
abbrev cX9_count : ByteArray := prog_11_method_88_code
def yX9_count : MethodName := ⟨RX9, "count", "(I)I"⟩
def RJ6 : String := "java/lang/Integer"
def TJ6 : u_T := fun k => match k with
  | _ => ("", "", "", false)
def tyJ6 : Nat → FieldType := fun k => match k with
  | _ => .int
theorem nmJ6 : ∀ a, a < 0 → ∀ b, b < 0 → a ≠ b → (TJ6 a).2.1 ≠ (TJ6 b).2.1 := by decide +kernel
theorem tyJ6_ok : ∀ k, k < 0 → parseFieldDescriptor (TJ6 k).2.2.1 = some (tyJ6 k) := by decide +kernel
abbrev cJ6_bitCount_0f7a4 : ByteArray := prog_12_method_49_code
def yJ6_bitCount_0f7a4 : MethodName := ⟨RJ6, "bitCount", "(I)I"⟩
def RJ9 : String := "java/lang/Math"
def TJ9 : u_T := fun k => match k with
  | _ => ("", "", "", false)
def tyJ9 : Nat → FieldType := fun k => match k with
  | _ => .int
theorem nmJ9 : ∀ a, a < 0 → ∀ b, b < 0 → a ≠ b → (TJ9 a).2.1 ≠ (TJ9 b).2.1 := by decide +kernel
theorem tyJ9_ok : ∀ k, k < 0 → parseFieldDescriptor (TJ9 k).2.2.1 = some (tyJ9 k) := by decide +kernel
abbrev cJ9_max_7cf53 : ByteArray := prog_13_method_65_code
def yJ9_max_7cf53 : MethodName := ⟨RJ9, "max", "(II)I"⟩
abbrev cJ9_min_7cf53 : ByteArray := prog_13_method_69_code
def yJ9_min_7cf53 : MethodName := ⟨RJ9, "min", "(II)I"⟩
def RJ10 : String := "java/lang/System"
def TJ10 : u_T := fun k => match k with
  | _ => ("", "", "", false)
def tyJ10 : Nat → FieldType := fun k => match k with
  | _ => .int
theorem nmJ10 : ∀ a, a < 0 → ∀ b, b < 0 → a ≠ b → (TJ10 a).2.1 ≠ (TJ10 b).2.1 := by decide +kernel
theorem tyJ10_ok : ∀ k, k < 0 → parseFieldDescriptor (TJ10 k).2.2.1 = some (tyJ10 k) := by decide +kernel
def RJ7 : String := "java/util/Arrays"
def TJ7 : u_T := fun k => match k with
  | _ => ("", "", "", false)
def tyJ7 : Nat → FieldType := fun k => match k with
  | _ => .int
theorem nmJ7 : ∀ a, a < 0 → ∀ b, b < 0 → a ≠ b → (TJ7 a).2.1 ≠ (TJ7 b).2.1 := by decide +kernel
theorem tyJ7_ok : ∀ k, k < 0 → parseFieldDescriptor (TJ7 k).2.2.1 = some (tyJ7 k) := by decide +kernel
abbrev cJ7_fill_53178 : ByteArray := prog_15_method_103_code
def yJ7_fill_53178 : MethodName := ⟨RJ7, "fill", "([II)V"⟩
def RL : String := "SignalWavesLaw"
abbrev cL_law : ByteArray := code
def yL_law : MethodName := ⟨RL, "law", "([I)Z"⟩
end
section
/-! ===== THE MACHINE MADE SMALL: ints as Int, references as small numbers, the heap as six functions; 'V' is W over that picture ===== -/
section JA
def jR (z : Int) : Prop := -2147483648 ≤ z ∧ z < 2147483648
theorem jR_toInt {z : Int} (h : jR z) : (Int32.ofInt z).toInt = z :=
  Int32.toInt_ofInt_of_le (by have := h.1; omega) (by have := h.2; omega)
theorem jR_of (x : Int32) : jR x.toInt := ⟨by have := Int32.le_toInt x; omega, by have := Int32.toInt_lt x; omega⟩
theorem jR_le {x y : Int} (hx : jR x) (hy : jR y) : Int32.ofInt x ≤ Int32.ofInt y ↔ x ≤ y := by
  rw [Int32.le_iff_toInt_le, jR_toInt hx, jR_toInt hy]
theorem jR_lt {x y : Int} (hx : jR x) (hy : jR y) : Int32.ofInt x < Int32.ofInt y ↔ x < y := by
  rw [Int32.lt_iff_toInt_lt, jR_toInt hx, jR_toInt hy]
theorem jR_eq {x y : Int} (hx : jR x) (hy : jR y) : Int32.ofInt x = Int32.ofInt y ↔ x = y :=
  ⟨fun h => by have h2 := congrArg Int32.toInt h; rwa [jR_toInt hx, jR_toInt hy] at h2, fun h => by rw [h]⟩
theorem jR_0 : jR 0 := ⟨by decide, by decide⟩
theorem j_0 : (0 : Int32) = Int32.ofInt 0 := rfl
theorem j_ix {i : Int} (hi : jR i) : (Int32.ofInt i).toNatClampNeg = i.toNat := by
  rw [← Int32.toNat_toInt, jR_toInt hi]
theorem j_in {i : Int} {n : Nat} (hi : jR i) (h : 0 ≤ i) (h2 : i < n) : vp_in (Int32.ofInt i) n := by
  rw [vp_in_iff, jR_toInt hi]
  exact ⟨h, h2⟩
theorem j_nneg {i : Int} (hi : jR i) (h : 0 ≤ i) : ¬ Int32.ofInt i < 0 := by
  rw [j_0, jR_lt hi jR_0]; omega
abbrev jA : Type := Int ⊕ Nat
def jRA : jA → Prop
  | .inl z => jR z
  | .inr _ => True
/-- fields of ints, fields of references, elements of ints, elements of references, shapes (kind, length), the next number -/
abbrev jH : Type := (Nat → Nat → Int) × (Nat → Nat → Nat) × (Nat → Nat → Int) × (Nat → Nat → Nat) × (Nat → Nat × Nat) × Nat
def jI (h : jH) : Nat → Nat → Int := h.1
def jP (h : jH) : Nat → Nat → Nat := h.2.1
def jX (h : jH) : Nat → Nat → Int := h.2.2.1
def jY (h : jH) : Nat → Nat → Nat := h.2.2.2.1
def jS (h : jH) : Nat → Nat × Nat := h.2.2.2.2.1
def jN (h : jH) : Nat := h.2.2.2.2.2
def ju {α : Type} (f : Nat → Nat → α) (a k : Nat) (v : α) : Nat → Nat → α := fun a' k' => if a' = a ∧ k' = k then v else f a' k'
def jsI (h : jH) (a k : Nat) (v : Int) : jH := (ju (jI h) a k v, h.2)
def jsP (h : jH) (a k : Nat) (v : Nat) : jH := (h.1, ju (jP h) a k v, h.2.2)
def jsX (h : jH) (a k : Nat) (v : Int) : jH := (h.1, h.2.1, ju (jX h) a k v, h.2.2.2)
def jsY (h : jH) (a k : Nat) (v : Nat) : jH := (h.1, h.2.1, h.2.2.1, ju (jY h) a k v, h.2.2.2.2)
def jz {α : Type} (f : Nat → Nat → α) (a : Nat) (v : α) : Nat → Nat → α := fun a' k' => if a' = a then v else f a' k'
/-- a new cell: all its ints 0, all its references null -/
def jnew (h : jH) (kind len : Nat) : jH := (jz (jI h) (jN h) 0, jz (jP h) (jN h) 0, jz (jX h) (jN h) 0, jz (jY h) (jN h) 0, fun a => if a = jN h then (kind, len) else jS h a, jN h + 1)
/-- System.arraycopy of ints -/
def jcpy (h : jH) (a0 sp a1 dp n : Nat) : jH := (h.1, h.2.1, fun a k => if a = a1 ∧ dp ≤ k ∧ k < dp + n then jX h a0 (sp + (k - dp)) else jX h a k, h.2.2.2)
abbrev jG : Type := Nat × Nat × va_G × (Nat → ClassId)
abbrev jgb (G : jG) : Nat := G.1
abbrev jgz (G : jG) : Nat := G.2.1
abbrev jgD (G : jG) : va_G := G.2.2.1
abbrev jgA (G : jG) : Nat → ClassId := G.2.2.2
def jrf (G : jG) : Nat → Option Nat
  | 0 => none
  | 1 => some (jgb G)
  | n + 2 => some (jgz G + n)
def jV (G : jG) : jA → Value
  | .inl z => .int (Int32.ofInt z)
  | .inr p => va_rf (jrf G p)
abbrev jcl : List vw_C := [(RX0, TX0, 4), (RX1, TX1, 4), (RX2, TX2, 13), (RX3, TX3, 4), (RX4, TX4, 2), (RX5, TX5, 5), (RX6, TX6, 7), (RX7, TX7, 5), (RX8, TX8, 14), (RX9, TX9, 50)]
def jR_ : Nat → String
  | 0 => RX0 | 1 => RX1 | 2 => RX2 | 3 => RX3 | 4 => RX4 | 5 => RX5 | 6 => RX6 | 7 => RX7 | 8 => RX8 | _ => RX9
def jT_ : Nat → u_T
  | 0 => TX0 | 1 => TX1 | 2 => TX2 | 3 => TX3 | 4 => TX4 | 5 => TX5 | 6 => TX6 | 7 => TX7 | 8 => TX8 | _ => TX9
def jt_ : Nat → Nat → FieldType
  | 0 => tyX0 | 1 => tyX1 | 2 => tyX2 | 3 => tyX3 | 4 => tyX4 | 5 => tyX5 | 6 => tyX6 | 7 => tyX7 | 8 => tyX8 | _ => tyX9
def jF_ : Nat → Nat
  | 0 => 4 | 1 => 4 | 2 => 13 | 3 => 4 | 4 => 2 | 5 => 5 | 6 => 7 | 7 => 5 | 8 => 14 | _ => 50
theorem jcl_get : ∀ c, c < 10 → jcl[c]? = some (jR_ c, jT_ c, jF_ c) := by
  intro c hc
  rcases (show c = 0 ∨ c = 1 ∨ c = 2 ∨ c = 3 ∨ c = 4 ∨ c = 5 ∨ c = 6 ∨ c = 7 ∨ c = 8 ∨ c = 9 by omega) with rfl | rfl | rfl | rfl | rfl | rfl | rfl | rfl | rfl | rfl <;> rfl
theorem jt_ok : ∀ c, c < 10 → ∀ k, k < jF_ c → parseFieldDescriptor (jT_ c k).2.2.1 = some (jt_ c k) := by
  intro c hc
  rcases (show c = 0 ∨ c = 1 ∨ c = 2 ∨ c = 3 ∨ c = 4 ∨ c = 5 ∨ c = 6 ∨ c = 7 ∨ c = 8 ∨ c = 9 by omega) with rfl | rfl | rfl | rfl | rfl | rfl | rfl | rfl | rfl | rfl
  · exact tyX0_ok
  · exact tyX1_ok
  · exact tyX2_ok
  · exact tyX3_ok
  · exact tyX4_ok
  · exact tyX5_ok
  · exact tyX6_ok
  · exact tyX7_ok
  · exact tyX8_ok
  · exact tyX9_ok
theorem jn_ok : ∀ c, c < 10 → ∀ a, a < jF_ c → ∀ b, b < jF_ c → a ≠ b → (jT_ c a).2.1 ≠ (jT_ c b).2.1 := by
  intro c hc
  rcases (show c = 0 ∨ c = 1 ∨ c = 2 ∨ c = 3 ∨ c = 4 ∨ c = 5 ∨ c = 6 ∨ c = 7 ∨ c = 8 ∨ c = 9 by omega) with rfl | rfl | rfl | rfl | rfl | rfl | rfl | rfl | rfl | rfl
  · exact nmX0
  · exact nmX1
  · exact nmX2
  · exact nmX3
  · exact nmX4
  · exact nmX5
  · exact nmX6
  · exact nmX7
  · exact nmX8
  · exact nmX9
def jrt : FieldType → Bool
  | .int => false
  | .boolean => false
  | _ => true
def jfv (G : jG) (h : jH) (a c k : Nat) : Value := if jrt (jt_ c k) then va_rf (jrf G (jP h a k)) else .int (Int32.ofInt (jI h a k))
def jfs (G : jG) (h : jH) (a c : Nat) : List Value := (List.range (jF_ c)).map (jfv G h a c)
def jar (G : jG) (h : jH) (a kind len : Nat) : vp_A := (len, if kind < 18 then .inl (fun j => Int32.ofInt (jX h a j)) else .inr (.inr (.inr (.inr (fun j => jrf G (jY h a j))))))
def jE (G : jG) (h : jH) (a : Nat) : va_E := if (jS h a).1 < 10 then .inr ((jS h a).1, jfs G h a (jS h a).1) else .inl (jgA G (jS h a).1, jar G h a (jS h a).1 (jS h a).2)
def jW (G : jG) (h : jH) : va_W := (List.range (jN h - 2)).map (fun i => (jgz G + i, jE G h (i + 2)))
abbrev jAt (G : jG) : Nat → Prop := fun q => jgz G ≤ q
def jtys (G : jG) : List (ClassId × FieldType) := [(jgA G 16, .int), (jgA G 17, .boolean), (jgA G 18, .object RX0), (jgA G 19, .object RX6), (jgA G 20, .array .int)]
def jTs : List Cond := lw_tbl.filter goodWord
def jnest : Cond → Bool
  | .fieldLinkNest .. => true
  | .methodLinkNest .. => true
  | _ => false
def jAOA (U : State) : Prop := (Cond.arrayOver (.array .int)).before #[] U = true
def jNw (U : State) : Prop := ∀ w ∈ lw_tbl, jnest w = true → va_Nw w U
def jSt (G : jG) (s : State) : Prop := va_K (jgD G) jcl (jtys G) s ∧ jNw s ∧ va_AO RX0 s ∧ va_AO RX6 s ∧ jAOA s
def jWf (h : jH) : Prop := 2 ≤ jN h ∧ (∀ a k, jR (jI h a k)) ∧ (∀ a k, jR (jX h a k)) ∧ (jS h 0).1 = 99 ∧ (jS h 1).1 = 15 ∧ (∀ a, jN h ≤ a → (jS h a).1 = 99) ∧ ∀ a, (jS h a).2 < 2147483648
def jOk (G : jG) (h : jH) (H0 H : Heap) (locs : List Loc) (s : State) : Prop :=
  jWf h ∧ jSt G s ∧ va_P (jgD G) jcl (jW G h) H ∧ va_S (jAt G) H0 H locs ∧ H.size = jgz G + (jN h - 2) ∧ jgb G < jgz G ∧ jgz G ≤ H0.size ∧ va_X (jgb G) (jS h 1).2 (fun j => Int32.ofInt (jX h 1 j)) s H
theorem jW_get (G : jG) (h : jH) {a : Nat} (h2 : 2 ≤ a) (hn : a < jN h) : (jW G h)[a - 2]? = some (jgz G + (a - 2), jE G h a) := by
  unfold jW
  rw [List.getElem?_map, List.getElem?_range (by omega)]
  simp [show a - 2 + 2 = a by omega]
theorem jrf_at (G : jG) {a : Nat} (h2 : 2 ≤ a) : jrf G a = some (jgz G + (a - 2)) := by
  obtain ⟨n, rfl⟩ : ∃ n, a = n + 2 := ⟨a - 2, by omega⟩
  simp [jrf]
theorem jD (G : jG) (h : jH) : va_D (jAt G) (jW G h) := by
  have key : ∀ (k : Nat) (q : Nat × va_E), (jW G h)[k]? = some q → q.1 = jgz G + k := by
    intro k q hk
    unfold jW at hk
    rw [List.getElem?_map] at hk
    by_cases hl : k < jN h - 2
    · rw [List.getElem?_range hl] at hk
      cases hk
      rfl
    · rw [List.getElem?_eq_none (by simp; omega)] at hk
      cases hk
  refine ⟨fun i j p q hi hj hpq => ?_, fun k q hk => ?_⟩
  · have := key i p hi
    have := key j q hj
    omega
  · have := key k q hk
    show jgz G ≤ q.1
    omega
theorem jw_range {h : jH} (hw : jWf h) {a : Nat} (hk : (jS h a).1 ≠ 99) (hk2 : (jS h a).1 ≠ 15) : 2 ≤ a ∧ a < jN h := by
  obtain ⟨-, -, -, h0, h1, hn, -⟩ := hw
  refine ⟨?_, ?_⟩
  · rcases Nat.lt_or_ge a 2 with q | q
    · rcases (show a = 0 ∨ a = 1 by omega) with rfl | rfl
      · exact absurd h0 hk
      · exact absurd h1 hk2
    · exact q
  · rcases Nat.lt_or_ge a (jN h) with q | q
    · exact q
    · exact absurd (hn a q) hk
theorem jE_obj {G : jG} {h : jH} {a c : Nat} (hS : (jS h a).1 = c) (hc : c < 10) : jE G h a = .inr (c, jfs G h a c) := by
  unfold jE
  rw [if_pos (by rw [hS]; exact hc), hS]
theorem jE_arr {G : jG} {h : jH} {a c : Nat} (hS : (jS h a).1 = c) (hc : 16 ≤ c) : jE G h a = .inl (jgA G c, jar G h a c (jS h a).2) := by
  unfold jE
  rw [if_neg (by rw [hS]; omega), hS]
theorem jfs_get {G : jG} {h : jH} {a c k : Nat} (hk : k < jF_ c) : (jfs G h a c)[k]? = some (jfv G h a c k) := by
  unfold jfs
  rw [List.getElem?_map, List.getElem?_range hk]
  rfl
theorem jfs_len {G : jG} {h : jH} {a c : Nat} : (jfs G h a c).length = jF_ c := by simp [jfs]
theorem jW_ext {G : jG} {h h' : jH} {a : Nat} {e : va_E} (hN : jN h' = jN h) (h2 : 2 ≤ a) (hn : a < jN h) (he : jE G h' a = e) (ho : ∀ b, b ≠ a → jE G h' b = jE G h b) : jW G h' = (jW G h).set (a - 2) (jgz G + (a - 2), e) := by
  apply List.ext_getElem?
  intro k
  by_cases hl : k < jN h - 2
  · have g1 := jW_get G h' (a := k + 2) (by omega) (by omega)
    have g2 := jW_get G h (a := k + 2) (by omega) (by omega)
    rw [show k + 2 - 2 = k by omega] at g1 g2
    by_cases hk : k = a - 2
    · subst hk
      rw [g1, List.getElem?_set_self (by have := (List.getElem?_eq_some_iff.mp g2).1; exact this)]
      rw [show a - 2 + 2 = a by omega, he]
    · rw [g1, List.getElem?_set_ne (by omega), g2, ho _ (by omega)]
  · rw [List.getElem?_eq_none (by simp [jW]; omega), List.getElem?_eq_none (by simp [jW]; omega)]
end JA
end
section
/-! ===== the words of the tables, by their places ===== -/
theorem jmem {w : Cond} (i : Nat) (h : lw_tbl[i]? = some w) (hg : goodWord w = true) : w ∈ jTs := List.mem_filter.mpr ⟨List.mem_of_getElem? h, hg⟩
theorem jnem {w : Cond} (i : Nat) (h : lw_tbl[i]? = some w) : w ∈ lw_tbl := List.mem_of_getElem? h
theorem jTs_good {w : Cond} (h : w ∈ jTs) : w ∈ jTs ∧ ((w.onTables && w.keeps) = true ∨ ∃ ty, w = .arrayClass ty) := ⟨h, good_of_word (List.mem_filter.mp h).2⟩
theorem jl0_0 : u_lay RX0 TX0 0 ∈ jTs := jmem 266 (by decide +kernel) (by decide +kernel)
theorem jl0_1 : u_lay RX0 TX0 1 ∈ jTs := jmem 268 (by decide +kernel) (by decide +kernel)
theorem jl0_2 : u_lay RX0 TX0 2 ∈ jTs := jmem 270 (by decide +kernel) (by decide +kernel)
theorem jl0_3 : u_lay RX0 TX0 3 ∈ jTs := jmem 272 (by decide +kernel) (by decide +kernel)
theorem jin0 : ∀ w ∈ u_ws RX0 TX0 4, w ∈ jTs := show ∀ w ∈ [u_lay RX0 TX0 0, u_lay RX0 TX0 1, u_lay RX0 TX0 2, u_lay RX0 TX0 3], w ∈ jTs from List.forall_mem_cons.mpr ⟨jl0_0, List.forall_mem_cons.mpr ⟨jl0_1, List.forall_mem_cons.mpr ⟨jl0_2, List.forall_mem_cons.mpr ⟨jl0_3, fun _ h => absurd h List.not_mem_nil⟩⟩⟩⟩
theorem jl1_0 : u_lay RX1 TX1 0 ∈ jTs := jmem 242 (by decide +kernel) (by decide +kernel)
theorem jl1_1 : u_lay RX1 TX1 1 ∈ jTs := jmem 244 (by decide +kernel) (by decide +kernel)
theorem jl1_2 : u_lay RX1 TX1 2 ∈ jTs := jmem 246 (by decide +kernel) (by decide +kernel)
theorem jl1_3 : u_lay RX1 TX1 3 ∈ jTs := jmem 248 (by decide +kernel) (by decide +kernel)
theorem jin1 : ∀ w ∈ u_ws RX1 TX1 4, w ∈ jTs := show ∀ w ∈ [u_lay RX1 TX1 0, u_lay RX1 TX1 1, u_lay RX1 TX1 2, u_lay RX1 TX1 3], w ∈ jTs from List.forall_mem_cons.mpr ⟨jl1_0, List.forall_mem_cons.mpr ⟨jl1_1, List.forall_mem_cons.mpr ⟨jl1_2, List.forall_mem_cons.mpr ⟨jl1_3, fun _ h => absurd h List.not_mem_nil⟩⟩⟩⟩
theorem jl2_0 : u_lay RX2 TX2 0 ∈ jTs := jmem 159 (by decide +kernel) (by decide +kernel)
theorem jl2_1 : u_lay RX2 TX2 1 ∈ jTs := jmem 161 (by decide +kernel) (by decide +kernel)
theorem jl2_2 : u_lay RX2 TX2 2 ∈ jTs := jmem 163 (by decide +kernel) (by decide +kernel)
theorem jl2_3 : u_lay RX2 TX2 3 ∈ jTs := jmem 165 (by decide +kernel) (by decide +kernel)
theorem jl2_4 : u_lay RX2 TX2 4 ∈ jTs := jmem 167 (by decide +kernel) (by decide +kernel)
theorem jl2_5 : u_lay RX2 TX2 5 ∈ jTs := jmem 169 (by decide +kernel) (by decide +kernel)
theorem jl2_6 : u_lay RX2 TX2 6 ∈ jTs := jmem 171 (by decide +kernel) (by decide +kernel)
theorem jl2_7 : u_lay RX2 TX2 7 ∈ jTs := jmem 173 (by decide +kernel) (by decide +kernel)
theorem jl2_8 : u_lay RX2 TX2 8 ∈ jTs := jmem 175 (by decide +kernel) (by decide +kernel)
theorem jl2_9 : u_lay RX2 TX2 9 ∈ jTs := jmem 177 (by decide +kernel) (by decide +kernel)
theorem jl2_10 : u_lay RX2 TX2 10 ∈ jTs := jmem 179 (by decide +kernel) (by decide +kernel)
theorem jl2_11 : u_lay RX2 TX2 11 ∈ jTs := jmem 181 (by decide +kernel) (by decide +kernel)
theorem jl2_12 : u_lay RX2 TX2 12 ∈ jTs := jmem 183 (by decide +kernel) (by decide +kernel)
theorem jin2 : ∀ w ∈ u_ws RX2 TX2 13, w ∈ jTs := show ∀ w ∈ [u_lay RX2 TX2 0, u_lay RX2 TX2 1, u_lay RX2 TX2 2, u_lay RX2 TX2 3, u_lay RX2 TX2 4, u_lay RX2 TX2 5, u_lay RX2 TX2 6, u_lay RX2 TX2 7, u_lay RX2 TX2 8, u_lay RX2 TX2 9, u_lay RX2 TX2 10, u_lay RX2 TX2 11, u_lay RX2 TX2 12], w ∈ jTs from List.forall_mem_cons.mpr ⟨jl2_0, List.forall_mem_cons.mpr ⟨jl2_1, List.forall_mem_cons.mpr ⟨jl2_2, List.forall_mem_cons.mpr ⟨jl2_3, List.forall_mem_cons.mpr ⟨jl2_4, List.forall_mem_cons.mpr ⟨jl2_5, List.forall_mem_cons.mpr ⟨jl2_6, List.forall_mem_cons.mpr ⟨jl2_7, List.forall_mem_cons.mpr ⟨jl2_8, List.forall_mem_cons.mpr ⟨jl2_9, List.forall_mem_cons.mpr ⟨jl2_10, List.forall_mem_cons.mpr ⟨jl2_11, List.forall_mem_cons.mpr ⟨jl2_12, fun _ h => absurd h List.not_mem_nil⟩⟩⟩⟩⟩⟩⟩⟩⟩⟩⟩⟩⟩
theorem jl3_0 : u_lay RX3 TX3 0 ∈ jTs := jmem 360 (by decide +kernel) (by decide +kernel)
theorem jl3_1 : u_lay RX3 TX3 1 ∈ jTs := jmem 362 (by decide +kernel) (by decide +kernel)
theorem jl3_2 : u_lay RX3 TX3 2 ∈ jTs := jmem 364 (by decide +kernel) (by decide +kernel)
theorem jl3_3 : u_lay RX3 TX3 3 ∈ jTs := jmem 366 (by decide +kernel) (by decide +kernel)
theorem jin3 : ∀ w ∈ u_ws RX3 TX3 4, w ∈ jTs := show ∀ w ∈ [u_lay RX3 TX3 0, u_lay RX3 TX3 1, u_lay RX3 TX3 2, u_lay RX3 TX3 3], w ∈ jTs from List.forall_mem_cons.mpr ⟨jl3_0, List.forall_mem_cons.mpr ⟨jl3_1, List.forall_mem_cons.mpr ⟨jl3_2, List.forall_mem_cons.mpr ⟨jl3_3, fun _ h => absurd h List.not_mem_nil⟩⟩⟩⟩
theorem jl4_0 : u_lay RX4 TX4 0 ∈ jTs := jmem 341 (by decide +kernel) (by decide +kernel)
theorem jl4_1 : u_lay RX4 TX4 1 ∈ jTs := jmem 343 (by decide +kernel) (by decide +kernel)
theorem jin4 : ∀ w ∈ u_ws RX4 TX4 2, w ∈ jTs := show ∀ w ∈ [u_lay RX4 TX4 0, u_lay RX4 TX4 1], w ∈ jTs from List.forall_mem_cons.mpr ⟨jl4_0, List.forall_mem_cons.mpr ⟨jl4_1, fun _ h => absurd h List.not_mem_nil⟩⟩
theorem jl5_0 : u_lay RX5 TX5 0 ∈ jTs := jmem 197 (by decide +kernel) (by decide +kernel)
theorem jl5_1 : u_lay RX5 TX5 1 ∈ jTs := jmem 199 (by decide +kernel) (by decide +kernel)
theorem jl5_2 : u_lay RX5 TX5 2 ∈ jTs := jmem 201 (by decide +kernel) (by decide +kernel)
theorem jl5_3 : u_lay RX5 TX5 3 ∈ jTs := jmem 203 (by decide +kernel) (by decide +kernel)
theorem jl5_4 : u_lay RX5 TX5 4 ∈ jTs := jmem 205 (by decide +kernel) (by decide +kernel)
theorem jin5 : ∀ w ∈ u_ws RX5 TX5 5, w ∈ jTs := show ∀ w ∈ [u_lay RX5 TX5 0, u_lay RX5 TX5 1, u_lay RX5 TX5 2, u_lay RX5 TX5 3, u_lay RX5 TX5 4], w ∈ jTs from List.forall_mem_cons.mpr ⟨jl5_0, List.forall_mem_cons.mpr ⟨jl5_1, List.forall_mem_cons.mpr ⟨jl5_2, List.forall_mem_cons.mpr ⟨jl5_3, List.forall_mem_cons.mpr ⟨jl5_4, fun _ h => absurd h List.not_mem_nil⟩⟩⟩⟩⟩
theorem jl6_0 : u_lay RX6 TX6 0 ∈ jTs := jmem 314 (by decide +kernel) (by decide +kernel)
theorem jl6_1 : u_lay RX6 TX6 1 ∈ jTs := jmem 316 (by decide +kernel) (by decide +kernel)
theorem jl6_2 : u_lay RX6 TX6 2 ∈ jTs := jmem 318 (by decide +kernel) (by decide +kernel)
theorem jl6_3 : u_lay RX6 TX6 3 ∈ jTs := jmem 320 (by decide +kernel) (by decide +kernel)
theorem jl6_4 : u_lay RX6 TX6 4 ∈ jTs := jmem 322 (by decide +kernel) (by decide +kernel)
theorem jl6_5 : u_lay RX6 TX6 5 ∈ jTs := jmem 324 (by decide +kernel) (by decide +kernel)
theorem jl6_6 : u_lay RX6 TX6 6 ∈ jTs := jmem 326 (by decide +kernel) (by decide +kernel)
theorem jin6 : ∀ w ∈ u_ws RX6 TX6 7, w ∈ jTs := show ∀ w ∈ [u_lay RX6 TX6 0, u_lay RX6 TX6 1, u_lay RX6 TX6 2, u_lay RX6 TX6 3, u_lay RX6 TX6 4, u_lay RX6 TX6 5, u_lay RX6 TX6 6], w ∈ jTs from List.forall_mem_cons.mpr ⟨jl6_0, List.forall_mem_cons.mpr ⟨jl6_1, List.forall_mem_cons.mpr ⟨jl6_2, List.forall_mem_cons.mpr ⟨jl6_3, List.forall_mem_cons.mpr ⟨jl6_4, List.forall_mem_cons.mpr ⟨jl6_5, List.forall_mem_cons.mpr ⟨jl6_6, fun _ h => absurd h List.not_mem_nil⟩⟩⟩⟩⟩⟩⟩
theorem jl7_0 : u_lay RX7 TX7 0 ∈ jTs := jmem 112 (by decide +kernel) (by decide +kernel)
theorem jl7_1 : u_lay RX7 TX7 1 ∈ jTs := jmem 114 (by decide +kernel) (by decide +kernel)
theorem jl7_2 : u_lay RX7 TX7 2 ∈ jTs := jmem 116 (by decide +kernel) (by decide +kernel)
theorem jl7_3 : u_lay RX7 TX7 3 ∈ jTs := jmem 118 (by decide +kernel) (by decide +kernel)
theorem jl7_4 : u_lay RX7 TX7 4 ∈ jTs := jmem 120 (by decide +kernel) (by decide +kernel)
theorem jin7 : ∀ w ∈ u_ws RX7 TX7 5, w ∈ jTs := show ∀ w ∈ [u_lay RX7 TX7 0, u_lay RX7 TX7 1, u_lay RX7 TX7 2, u_lay RX7 TX7 3, u_lay RX7 TX7 4], w ∈ jTs from List.forall_mem_cons.mpr ⟨jl7_0, List.forall_mem_cons.mpr ⟨jl7_1, List.forall_mem_cons.mpr ⟨jl7_2, List.forall_mem_cons.mpr ⟨jl7_3, List.forall_mem_cons.mpr ⟨jl7_4, fun _ h => absurd h List.not_mem_nil⟩⟩⟩⟩⟩
theorem jl8_0 : u_lay RX8 TX8 0 ∈ jTs := jmem 386 (by decide +kernel) (by decide +kernel)
theorem jl8_1 : u_lay RX8 TX8 1 ∈ jTs := jmem 388 (by decide +kernel) (by decide +kernel)
theorem jl8_2 : u_lay RX8 TX8 2 ∈ jTs := jmem 390 (by decide +kernel) (by decide +kernel)
theorem jl8_3 : u_lay RX8 TX8 3 ∈ jTs := jmem 392 (by decide +kernel) (by decide +kernel)
theorem jl8_4 : u_lay RX8 TX8 4 ∈ jTs := jmem 394 (by decide +kernel) (by decide +kernel)
theorem jl8_5 : u_lay RX8 TX8 5 ∈ jTs := jmem 396 (by decide +kernel) (by decide +kernel)
theorem jl8_6 : u_lay RX8 TX8 6 ∈ jTs := jmem 398 (by decide +kernel) (by decide +kernel)
theorem jl8_7 : u_lay RX8 TX8 7 ∈ jTs := jmem 400 (by decide +kernel) (by decide +kernel)
theorem jl8_8 : u_lay RX8 TX8 8 ∈ jTs := jmem 402 (by decide +kernel) (by decide +kernel)
theorem jl8_9 : u_lay RX8 TX8 9 ∈ jTs := jmem 404 (by decide +kernel) (by decide +kernel)
theorem jl8_10 : u_lay RX8 TX8 10 ∈ jTs := jmem 406 (by decide +kernel) (by decide +kernel)
theorem jl8_11 : u_lay RX8 TX8 11 ∈ jTs := jmem 408 (by decide +kernel) (by decide +kernel)
theorem jl8_12 : u_lay RX8 TX8 12 ∈ jTs := jmem 410 (by decide +kernel) (by decide +kernel)
theorem jl8_13 : u_lay RX8 TX8 13 ∈ jTs := jmem 412 (by decide +kernel) (by decide +kernel)
theorem jin8 : ∀ w ∈ u_ws RX8 TX8 14, w ∈ jTs := show ∀ w ∈ [u_lay RX8 TX8 0, u_lay RX8 TX8 1, u_lay RX8 TX8 2, u_lay RX8 TX8 3, u_lay RX8 TX8 4, u_lay RX8 TX8 5, u_lay RX8 TX8 6, u_lay RX8 TX8 7, u_lay RX8 TX8 8, u_lay RX8 TX8 9, u_lay RX8 TX8 10, u_lay RX8 TX8 11, u_lay RX8 TX8 12, u_lay RX8 TX8 13], w ∈ jTs from List.forall_mem_cons.mpr ⟨jl8_0, List.forall_mem_cons.mpr ⟨jl8_1, List.forall_mem_cons.mpr ⟨jl8_2, List.forall_mem_cons.mpr ⟨jl8_3, List.forall_mem_cons.mpr ⟨jl8_4, List.forall_mem_cons.mpr ⟨jl8_5, List.forall_mem_cons.mpr ⟨jl8_6, List.forall_mem_cons.mpr ⟨jl8_7, List.forall_mem_cons.mpr ⟨jl8_8, List.forall_mem_cons.mpr ⟨jl8_9, List.forall_mem_cons.mpr ⟨jl8_10, List.forall_mem_cons.mpr ⟨jl8_11, List.forall_mem_cons.mpr ⟨jl8_12, List.forall_mem_cons.mpr ⟨jl8_13, fun _ h => absurd h List.not_mem_nil⟩⟩⟩⟩⟩⟩⟩⟩⟩⟩⟩⟩⟩⟩
theorem jl9_0 : u_lay RX9 TX9 0 ∈ jTs := jmem 909 (by decide +kernel) (by decide +kernel)
theorem jl9_1 : u_lay RX9 TX9 1 ∈ jTs := jmem 911 (by decide +kernel) (by decide +kernel)
theorem jl9_2 : u_lay RX9 TX9 2 ∈ jTs := jmem 913 (by decide +kernel) (by decide +kernel)
theorem jl9_3 : u_lay RX9 TX9 3 ∈ jTs := jmem 915 (by decide +kernel) (by decide +kernel)
theorem jl9_4 : u_lay RX9 TX9 4 ∈ jTs := jmem 917 (by decide +kernel) (by decide +kernel)
theorem jl9_5 : u_lay RX9 TX9 5 ∈ jTs := jmem 919 (by decide +kernel) (by decide +kernel)
theorem jl9_6 : u_lay RX9 TX9 6 ∈ jTs := jmem 921 (by decide +kernel) (by decide +kernel)
theorem jl9_7 : u_lay RX9 TX9 7 ∈ jTs := jmem 923 (by decide +kernel) (by decide +kernel)
theorem jl9_8 : u_lay RX9 TX9 8 ∈ jTs := jmem 925 (by decide +kernel) (by decide +kernel)
theorem jl9_9 : u_lay RX9 TX9 9 ∈ jTs := jmem 927 (by decide +kernel) (by decide +kernel)
theorem jl9_10 : u_lay RX9 TX9 10 ∈ jTs := jmem 929 (by decide +kernel) (by decide +kernel)
theorem jl9_11 : u_lay RX9 TX9 11 ∈ jTs := jmem 931 (by decide +kernel) (by decide +kernel)
theorem jl9_12 : u_lay RX9 TX9 12 ∈ jTs := jmem 933 (by decide +kernel) (by decide +kernel)
theorem jl9_13 : u_lay RX9 TX9 13 ∈ jTs := jmem 935 (by decide +kernel) (by decide +kernel)
theorem jl9_14 : u_lay RX9 TX9 14 ∈ jTs := jmem 937 (by decide +kernel) (by decide +kernel)
theorem jl9_15 : u_lay RX9 TX9 15 ∈ jTs := jmem 939 (by decide +kernel) (by decide +kernel)
theorem jl9_16 : u_lay RX9 TX9 16 ∈ jTs := jmem 941 (by decide +kernel) (by decide +kernel)
theorem jl9_17 : u_lay RX9 TX9 17 ∈ jTs := jmem 943 (by decide +kernel) (by decide +kernel)
theorem jl9_18 : u_lay RX9 TX9 18 ∈ jTs := jmem 945 (by decide +kernel) (by decide +kernel)
theorem jl9_19 : u_lay RX9 TX9 19 ∈ jTs := jmem 947 (by decide +kernel) (by decide +kernel)
theorem jl9_20 : u_lay RX9 TX9 20 ∈ jTs := jmem 949 (by decide +kernel) (by decide +kernel)
theorem jl9_21 : u_lay RX9 TX9 21 ∈ jTs := jmem 951 (by decide +kernel) (by decide +kernel)
theorem jl9_22 : u_lay RX9 TX9 22 ∈ jTs := jmem 953 (by decide +kernel) (by decide +kernel)
theorem jl9_23 : u_lay RX9 TX9 23 ∈ jTs := jmem 955 (by decide +kernel) (by decide +kernel)
theorem jl9_24 : u_lay RX9 TX9 24 ∈ jTs := jmem 957 (by decide +kernel) (by decide +kernel)
theorem jl9_25 : u_lay RX9 TX9 25 ∈ jTs := jmem 959 (by decide +kernel) (by decide +kernel)
theorem jl9_26 : u_lay RX9 TX9 26 ∈ jTs := jmem 961 (by decide +kernel) (by decide +kernel)
theorem jl9_27 : u_lay RX9 TX9 27 ∈ jTs := jmem 963 (by decide +kernel) (by decide +kernel)
theorem jl9_28 : u_lay RX9 TX9 28 ∈ jTs := jmem 965 (by decide +kernel) (by decide +kernel)
theorem jl9_29 : u_lay RX9 TX9 29 ∈ jTs := jmem 967 (by decide +kernel) (by decide +kernel)
theorem jl9_30 : u_lay RX9 TX9 30 ∈ jTs := jmem 969 (by decide +kernel) (by decide +kernel)
theorem jl9_31 : u_lay RX9 TX9 31 ∈ jTs := jmem 971 (by decide +kernel) (by decide +kernel)
theorem jl9_32 : u_lay RX9 TX9 32 ∈ jTs := jmem 973 (by decide +kernel) (by decide +kernel)
theorem jl9_33 : u_lay RX9 TX9 33 ∈ jTs := jmem 975 (by decide +kernel) (by decide +kernel)
theorem jl9_34 : u_lay RX9 TX9 34 ∈ jTs := jmem 977 (by decide +kernel) (by decide +kernel)
theorem jl9_35 : u_lay RX9 TX9 35 ∈ jTs := jmem 979 (by decide +kernel) (by decide +kernel)
theorem jl9_36 : u_lay RX9 TX9 36 ∈ jTs := jmem 981 (by decide +kernel) (by decide +kernel)
theorem jl9_37 : u_lay RX9 TX9 37 ∈ jTs := jmem 983 (by decide +kernel) (by decide +kernel)
theorem jl9_38 : u_lay RX9 TX9 38 ∈ jTs := jmem 985 (by decide +kernel) (by decide +kernel)
theorem jl9_39 : u_lay RX9 TX9 39 ∈ jTs := jmem 987 (by decide +kernel) (by decide +kernel)
theorem jl9_40 : u_lay RX9 TX9 40 ∈ jTs := jmem 989 (by decide +kernel) (by decide +kernel)
theorem jl9_41 : u_lay RX9 TX9 41 ∈ jTs := jmem 991 (by decide +kernel) (by decide +kernel)
theorem jl9_42 : u_lay RX9 TX9 42 ∈ jTs := jmem 993 (by decide +kernel) (by decide +kernel)
theorem jl9_43 : u_lay RX9 TX9 43 ∈ jTs := jmem 995 (by decide +kernel) (by decide +kernel)
theorem jl9_44 : u_lay RX9 TX9 44 ∈ jTs := jmem 997 (by decide +kernel) (by decide +kernel)
theorem jl9_45 : u_lay RX9 TX9 45 ∈ jTs := jmem 999 (by decide +kernel) (by decide +kernel)
theorem jl9_46 : u_lay RX9 TX9 46 ∈ jTs := jmem 1001 (by decide +kernel) (by decide +kernel)
theorem jl9_47 : u_lay RX9 TX9 47 ∈ jTs := jmem 1003 (by decide +kernel) (by decide +kernel)
theorem jl9_48 : u_lay RX9 TX9 48 ∈ jTs := jmem 1005 (by decide +kernel) (by decide +kernel)
theorem jl9_49 : u_lay RX9 TX9 49 ∈ jTs := jmem 1007 (by decide +kernel) (by decide +kernel)
theorem jin9 : ∀ w ∈ u_ws RX9 TX9 50, w ∈ jTs := show ∀ w ∈ [u_lay RX9 TX9 0, u_lay RX9 TX9 1, u_lay RX9 TX9 2, u_lay RX9 TX9 3, u_lay RX9 TX9 4, u_lay RX9 TX9 5, u_lay RX9 TX9 6, u_lay RX9 TX9 7, u_lay RX9 TX9 8, u_lay RX9 TX9 9, u_lay RX9 TX9 10, u_lay RX9 TX9 11, u_lay RX9 TX9 12, u_lay RX9 TX9 13, u_lay RX9 TX9 14, u_lay RX9 TX9 15, u_lay RX9 TX9 16, u_lay RX9 TX9 17, u_lay RX9 TX9 18, u_lay RX9 TX9 19, u_lay RX9 TX9 20, u_lay RX9 TX9 21, u_lay RX9 TX9 22, u_lay RX9 TX9 23, u_lay RX9 TX9 24, u_lay RX9 TX9 25, u_lay RX9 TX9 26, u_lay RX9 TX9 27, u_lay RX9 TX9 28, u_lay RX9 TX9 29, u_lay RX9 TX9 30, u_lay RX9 TX9 31, u_lay RX9 TX9 32, u_lay RX9 TX9 33, u_lay RX9 TX9 34, u_lay RX9 TX9 35, u_lay RX9 TX9 36, u_lay RX9 TX9 37, u_lay RX9 TX9 38, u_lay RX9 TX9 39, u_lay RX9 TX9 40, u_lay RX9 TX9 41, u_lay RX9 TX9 42, u_lay RX9 TX9 43, u_lay RX9 TX9 44, u_lay RX9 TX9 45, u_lay RX9 TX9 46, u_lay RX9 TX9 47, u_lay RX9 TX9 48, u_lay RX9 TX9 49], w ∈ jTs from List.forall_mem_cons.mpr ⟨jl9_0, List.forall_mem_cons.mpr ⟨jl9_1, List.forall_mem_cons.mpr ⟨jl9_2, List.forall_mem_cons.mpr ⟨jl9_3, List.forall_mem_cons.mpr ⟨jl9_4, List.forall_mem_cons.mpr ⟨jl9_5, List.forall_mem_cons.mpr ⟨jl9_6, List.forall_mem_cons.mpr ⟨jl9_7, List.forall_mem_cons.mpr ⟨jl9_8, List.forall_mem_cons.mpr ⟨jl9_9, List.forall_mem_cons.mpr ⟨jl9_10, List.forall_mem_cons.mpr ⟨jl9_11, List.forall_mem_cons.mpr ⟨jl9_12, List.forall_mem_cons.mpr ⟨jl9_13, List.forall_mem_cons.mpr ⟨jl9_14, List.forall_mem_cons.mpr ⟨jl9_15, List.forall_mem_cons.mpr ⟨jl9_16, List.forall_mem_cons.mpr ⟨jl9_17, List.forall_mem_cons.mpr ⟨jl9_18, List.forall_mem_cons.mpr ⟨jl9_19, List.forall_mem_cons.mpr ⟨jl9_20, List.forall_mem_cons.mpr ⟨jl9_21, List.forall_mem_cons.mpr ⟨jl9_22, List.forall_mem_cons.mpr ⟨jl9_23, List.forall_mem_cons.mpr ⟨jl9_24, List.forall_mem_cons.mpr ⟨jl9_25, List.forall_mem_cons.mpr ⟨jl9_26, List.forall_mem_cons.mpr ⟨jl9_27, List.forall_mem_cons.mpr ⟨jl9_28, List.forall_mem_cons.mpr ⟨jl9_29, List.forall_mem_cons.mpr ⟨jl9_30, List.forall_mem_cons.mpr ⟨jl9_31, List.forall_mem_cons.mpr ⟨jl9_32, List.forall_mem_cons.mpr ⟨jl9_33, List.forall_mem_cons.mpr ⟨jl9_34, List.forall_mem_cons.mpr ⟨jl9_35, List.forall_mem_cons.mpr ⟨jl9_36, List.forall_mem_cons.mpr ⟨jl9_37, List.forall_mem_cons.mpr ⟨jl9_38, List.forall_mem_cons.mpr ⟨jl9_39, List.forall_mem_cons.mpr ⟨jl9_40, List.forall_mem_cons.mpr ⟨jl9_41, List.forall_mem_cons.mpr ⟨jl9_42, List.forall_mem_cons.mpr ⟨jl9_43, List.forall_mem_cons.mpr ⟨jl9_44, List.forall_mem_cons.mpr ⟨jl9_45, List.forall_mem_cons.mpr ⟨jl9_46, List.forall_mem_cons.mpr ⟨jl9_47, List.forall_mem_cons.mpr ⟨jl9_48, List.forall_mem_cons.mpr ⟨jl9_49, fun _ h => absurd h List.not_mem_nil⟩⟩⟩⟩⟩⟩⟩⟩⟩⟩⟩⟩⟩⟩⟩⟩⟩⟩⟩⟩⟩⟩⟩⟩⟩⟩⟩⟩⟩⟩⟩⟩⟩⟩⟩⟩⟩⟩⟩⟩⟩⟩⟩⟩⟩⟩⟩⟩⟩⟩
theorem jin : ∀ c, c < 10 → ∀ w ∈ u_ws (jR_ c) (jT_ c) (jF_ c), w ∈ jTs := by
  intro c hc
  rcases (show c = 0 ∨ c = 1 ∨ c = 2 ∨ c = 3 ∨ c = 4 ∨ c = 5 ∨ c = 6 ∨ c = 7 ∨ c = 8 ∨ c = 9 by omega) with rfl | rfl | rfl | rfl | rfl | rfl | rfl | rfl | rfl | rfl
  · exact jin0
  · exact jin1
  · exact jin2
  · exact jin3
  · exact jin4
  · exact jin5
  · exact jin6
  · exact jin7
  · exact jin8
  · exact jin9
end
section
/-! ===== V: W over the small picture; Ex: a method's contract over it ===== -/
section JB
abbrev jM : Type := MethodName × ByteArray × Nat × Option FieldType
abbrev jmY (M : jM) : MethodName := M.1
abbrev jmO (M : jM) : String := M.1.cls
abbrev jmC (M : jM) : ByteArray := M.2.1
abbrev jmL (M : jM) : Nat := M.2.2.1
abbrev jmR (M : jM) : Option FieldType := M.2.2.2
def jws (M : jM) : List Cond := Cond.code (jmY M) (jmC M) (jmL M) (jmR M) :: jTs
def jroom (d mc ms : Nat) : Room := { frames := d + 1, cells := mc, slots := ms, locals := 64 * (d + 1) }
def jLs (G : jG) (ls : Array Slot) (n : Nat) (L : List (Option jA)) : Prop :=
  ls.size = n ∧ lv_wf ls ∧ L.length = n ∧ ∀ (i : Nat) (v : jA), L[i]? = some (some v) → ls[i]? = some (.val (jV G v)) ∧ jRA v
theorem jV_cat (G : jG) (v : jA) : (jV G v).category = 1 := by
  cases v with
  | inl z => rfl
  | inr p =>
    show (va_rf (jrf G p)).category = 1
    cases jrf G p <;> rfl
def jasc (G : jG) (L : List (Option jA)) : List (Nat × Value) := (List.range L.length).filterMap (fun i => ((L[i]?).join).map (fun v => (i, jV G v)))
theorem jLs_has {G : jG} {ls : Array Slot} {n : Nat} {L : List (Option jA)} (h : jLs G ls n L) : lv_has ls n (jasc G L) := by
  refine ⟨h.1, h.2.1, fun q hq => ?_⟩
  obtain ⟨i, -, hi⟩ := List.mem_filterMap.mp hq
  rw [Option.map_eq_some_iff] at hi
  obtain ⟨v, hv, rfl⟩ := hi
  rw [Option.join_eq_some_iff] at hv
  exact (h.2.2.2 i v hv).1
theorem jLs_mem {G : jG} {ls : Array Slot} {n : Nat} {L : List (Option jA)} (h : jLs G ls n L) {j : Nat} {w : jA} (hj : L[j]? = some (some w)) : (j, jV G w) ∈ jasc G L := by
  refine List.mem_filterMap.mpr ⟨j, List.mem_range.mpr ((List.getElem?_eq_some_iff.mp hj).1), ?_⟩
  rw [hj]
  rfl
theorem jLs_set {G : jG} {ls ls' : Array Slot} {n i : Nat} {L : List (Option jA)} {v : jA} (h : jLs G ls n L) (hi : i < n) (hv : jRA v)
    (h' : lv_has ls' n ((i, jV G v) :: (jasc G L).filter (fun q => !(q.1 == i) && !(q.1 + 1 == i && q.2.category == 2)))) : jLs G ls' n (L.set i (some v)) := by
  refine ⟨h'.1, h'.2.1, by rw [List.length_set]; exact h.2.2.1, fun j w hj => ?_⟩
  by_cases e : j = i
  · subst e
    rw [List.getElem?_set_self (by rw [h.2.2.1]; exact hi)] at hj
    cases hj
    exact ⟨h'.2.2 _ List.mem_cons_self, hv⟩
  · rw [List.getElem?_set_ne (Ne.symm e)] at hj
    refine ⟨h'.2.2 (j, jV G w) (List.mem_cons_of_mem _ (List.mem_filter.mpr ⟨jLs_mem h hj, ?_⟩)), (h.2.2.2 j w hj).2⟩
    simp [e, jV_cat]
def jRet : Option FieldType → Option jA → Prop
  | none, none => True
  | some .int, some (.inl z) => jR z
  | some .boolean, some (.inl z) => z = 0 ∨ z = 1
  | _, _ => False
theorem jRet_ra {r : Option FieldType} {v : Option jA} (h : jRet r v) : ∀ x, v = some x → jRA x := by
  intro x hx
  subst hx
  cases x with
  | inr p => trivial
  | inl z =>
    rcases r with _ | r
    · cases h
    · cases r <;> first | exact h | (rcases h with rfl | rfl <;> exact ⟨by decide, by decide⟩) | exact absurd h id
def jRI : Option FieldType → Instr
  | none => .return_
  | some _ => .ireturn
section
variable (p : Program) (l : Launch) (e : Env) (R : Room) (s : State) (m : MethodId) (args : Array Value) (below : List Frame) (meth : Method) (c : Code)
def jFin (M : jM) (G : jG) (MC MS : Nat) (Z : State → Prop) (Q : Option jA → jH → Prop) : Prop :=
  ∀ (v : Option jA) (h' : jH) (H' : Heap) (locs' : List Loc) (pc' : Nat) (ls' : Array Slot), Q v h' → jOk G h' s.heap H' locs' s → jRet (jmR M) v → H'.size = s.heap.size + MC → decode (jmC M) pc' = .ok (jRI (jmR M), 1) →
    W p l e R s m args below meth c H' locs' MC MS Z (F0 m pc' ls' (v.toList.map (jV G)))
/-- what holds all through a method's walk -/
def jCx (M : jM) (d : Nat) (G : jG) (MC MS : Nat) (Z : State → Prop) (Q : Option jA → jH → Prop) : Prop :=
  p.tables.exec = Jvm.exec ∧ c.code = jmC M ∧ c.maxLocals = jmL M ∧ s.vm.findClass (jmO M) = some m.cls ∧ (∀ w ∈ jTs, w.before args s = true) ∧ meth.name = (jmY M).name ∧ d + 1 ≤ R.frames ∧ 64 * (d + 1) ≤ R.locals ∧ MC ≤ R.cells ∧ MS ≤ R.slots ∧ jFin p l e R s m args below meth c M G MC MS Z Q
end
def V (M : jM) (d pc : Nat) (L : List (Option jA)) (st : List jA) (h : jH) (mc ms : Nat) (Q : Option jA → jH → Prop) : Prop :=
  ∀ (p : Program) (l : Launch) (e : Env) (R : Room) (s : State) (m : MethodId) (args : Array Value) (below : List Frame) (meth : Method) (c : Code) (G : jG) (MC MS : Nat) (Z : State → Prop) (H : Heap) (locs : List Loc) (cells slots : Nat) (ls : Array Slot),
    jCx p l e R s m args below meth c M d G MC MS Z Q → jOk G h s.heap H locs s → jLs G ls (jmL M) L → (∀ v ∈ st, jRA v) → cells + mc = MC → slots + ms = MS → H.size = s.heap.size + cells →
    W p l e R s m args below meth c H locs cells slots Z (F0 m pc ls (st.map (jV G)))
def jPc (G : jG) (as : List jA) (h : jH) : Array Value → State → Prop := fun v U => v = (as.map (jV G)).toArray ∧ (∀ x ∈ as, jRA x) ∧ jOk G h U.heap U.heap [] U
def jQc (G : jG) (mc : Nat) (Q : Option jA → jH → Prop) : Array Value → State → Outcome → State → Prop := fun _ st o t => ∃ (v : Option jA) (h' : jH), o = .returned (v.map (jV G)) ∧ Q v h' ∧ (∀ x, v = some x → jRA x) ∧ jOk G h' st.heap t.heap [] t ∧ t.heap.size = st.heap.size + mc
def Ex (M : jM) (d : Nat) (as : List jA) (h : jH) (mc ms : Nat) (Q : Option jA → jH → Prop) : Prop :=
  ∀ (l : Launch) (G : jG), Met l (jmY M) (jws M) (jroom d mc ms) (jPc G as h) (jQc G mc Q) mc ms (jAt G)
theorem Ex.mono {M : jM} {d : Nat} {as : List jA} {h : jH} {mc ms : Nat} {Q Q' : Option jA → jH → Prop} (hE : Ex M d as h mc ms Q) (hQ : ∀ v h', Q v h' → Q' v h') : Ex M d as h mc ms Q' := by
  intro l G p e a1 a2 a3 s m args below a4 a5 a6 a7
  obtain ⟨n, o, b1, b2, b3, ⟨v, h', c1, c2, c3⟩, b5⟩ := hE l G p e a1 a2 a3 s m args below a4 a5 a6 a7
  exact ⟨n, o, b1, b2, b3, ⟨v, h', c1, hQ v h' c2, c3⟩, b5⟩
theorem jAOA.moved {u U : State} (hvm : u.vm.Alike U.vm) (h : jAOA u) : jAOA U := by
  have spec : ∃ comp c k, u.vm.findClass (FieldType.array .int).toString = some comp ∧ (u.vm.classes.findIdx? fun x => match x.kind with | .array component _ => component == comp | _ => false) = some c ∧ u.vm.classes[c]? = some k ∧ k.kind = .array comp (.array .int) ∧ u.vm.findClass ("[" ++ (FieldType.array .int).toString) = some c := by
    unfold jAOA Cond.before at h
    simp only [Cond.holds, Cond.value, beq_iff_eq] at h
    cases hc : u.vm.findClass (FieldType.array .int).toString with
    | none => simp [hc] at h
    | some comp =>
      simp only [hc, Option.bind_some, Option.bind_eq_some_iff, Option.map_eq_some_iff] at h
      obtain ⟨c, hi, k, hk, hb⟩ := h
      obtain ⟨hlt, hp, -⟩ := Array.findIdx?_eq_some_iff_getElem.mp hi
      have hkk : u.vm.classes[c] = k := (Array.getElem?_eq_some_iff.mp hk).2
      rw [hkk] at hp
      cases hkind : k.kind with
      | array component ty =>
        rw [hkind] at hb hp
        simp at hb hp
        exact ⟨comp, c, k, rfl, hi, hk, by rw [hkind, hp, hb.1], hb.2⟩
      | _ => rw [hkind] at hb; simp at hb
  obtain ⟨comp, c, k, h1, h2, h3, h4, h5⟩ := spec
  obtain ⟨k', hk', he⟩ := hvm.2.2 _ _ h3
  have hi : (U.vm.classes.findIdx? fun x => match x.kind with | .array component _ => component == comp | _ => false) = some c := by
    have e1 := va_idx_bare U.vm comp
    have e2 := va_idx_bare u.vm comp
    have e3 : U.vm.bare = u.vm.bare := by first | exact hvm.bare_eq | exact hvm.bare_eq.symm
    rw [e3] at e1
    exact (e1.symm.trans e2).trans h2
  have hkind : k'.kind = .array comp (.array .int) := by rw [he]; exact h4
  have f1 : U.vm.findClass (FieldType.array .int).toString = some comp := by rw [hvm.findClass]; exact h1
  have f2 : U.vm.findClass ("[" ++ (FieldType.array .int).toString) = some c := by rw [hvm.findClass]; exact h5
  unfold jAOA Cond.before Cond.holds
  simp only [Cond.value]
  rw [f1, Option.bind_some]
  refine (congrArg (fun o : Option Nat => (o.bind (fun c => (U.vm.classes[c]?).map fun (k : Class) => match k.kind with | .array _ ty => decide (ty = FieldType.array .int) && decide (U.vm.findClass ("[" ++ (FieldType.array .int).toString) = some c) | _ => false) == some true)) hi).trans ?_
  simp [hk', hkind, f2]
theorem jSt.alike {G : jG} {u U : State} (hvm : u.vm.Alike U.vm) (hn : jNw u → jNw U) (h : jSt G u) : jSt G U :=
  ⟨va_K.moved hvm h.1, hn h.2.1, h.2.2.1.moved hvm, h.2.2.2.1.moved hvm, h.2.2.2.2.moved hvm⟩
theorem jSt.warm {G : jG} {u U : State} (hW : u.WarmedH U.vm) (h : jSt G u) : jSt G U := by
  refine h.alike hW.alike (fun hn w hw hj => ?_)
  have h1 := hn w hw hj
  cases w <;> first | exact va_Nw.warmF hW h1 | exact va_Nw.warmM hW h1 | exact absurd hj (by simp [jnest])
theorem jSt.same {G : jG} {u U : State} (hvm : u.vm = U.vm) (h : jSt G u) : jSt G U := by
  refine h.alike (by rw [hvm]; exact Vm.Alike.refl U.vm) (fun hn w hw hj => ?_)
  have h1 := hn w hw hj
  cases w <;> first | exact va_Nw.same rfl hvm h1 | exact absurd hj (by simp [jnest])
end JB
end
section
/-! ===== a rule an instruction, over V ===== -/
section JR
variable {M : jM} {d pc mc ms : Nat} {L : List (Option jA)} {st : List jA} {h : jH} {Q : Option jA → jH → Prop}
theorem jst_cons {v : jA} {st : List jA} (hv : jRA v) (h : ∀ x ∈ st, jRA x) : ∀ x ∈ v :: st, jRA x := fun x hx => (List.mem_cons.mp hx).elim (fun e => by rw [e]; exact hv) (h x)
theorem jst_tl {v : jA} {st : List jA} (h : ∀ x ∈ v :: st, jRA x) : ∀ x ∈ st, jRA x := fun x hx => h x (List.mem_cons_of_mem _ hx)
theorem jst_hd {v : jA} {st : List jA} (h : ∀ x ∈ v :: st, jRA x) : jRA v := h v List.mem_cons_self
theorem V_iconst {n : Int} (hd : decode (jmC M) pc = .ok (.iconst n, 1)) (hn : jR n)
    (k : V M d (pc + 1) L (.inl n :: st) h mc ms Q) : V M d pc L st h mc ms Q := by
  intro p l e R s m args below meth c G MC MS Z H locs cells slots ls cx hok hls hst hc hs hz
  obtain ⟨hx, hb, hml, hown, hts, hnm, hfr, hlo, hMC, hMS, hZ⟩ := id cx
  exact lv_iconst hx hb hd rfl (k p l e R s m args below meth c G MC MS Z H locs cells slots ls cx hok hls (jst_cons hn hst) hc hs hz)
theorem V_bipush {n : Int} (hd : decode (jmC M) pc = .ok (.bipush n, 2)) (hv : (Int8.ofInt n).toInt32 = Int32.ofInt n) (hn : jR n)
    (k : V M d (pc + 2) L (.inl n :: st) h mc ms Q) : V M d pc L st h mc ms Q := by
  intro p l e R s m args below meth c G MC MS Z H locs cells slots ls cx hok hls hst hc hs hz
  obtain ⟨hx, hb, hml, hown, hts, hnm, hfr, hlo, hMC, hMS, hZ⟩ := id cx
  exact lv_bipush hx hb hd hv (k p l e R s m args below meth c G MC MS Z H locs cells slots ls cx hok hls (jst_cons hn hst) hc hs hz)
theorem V_sipush {n : Int} (hd : decode (jmC M) pc = .ok (.sipush n, 3)) (hv : (Int16.ofInt n).toInt32 = Int32.ofInt n) (hn : jR n)
    (k : V M d (pc + 3) L (.inl n :: st) h mc ms Q) : V M d pc L st h mc ms Q := by
  intro p l e R s m args below meth c G MC MS Z H locs cells slots ls cx hok hls hst hc hs hz
  obtain ⟨hx, hb, hml, hown, hts, hnm, hfr, hlo, hMC, hMS, hZ⟩ := id cx
  exact lv_sipush hx hb hd hv (k p l e R s m args below meth c G MC MS Z H locs cells slots ls cx hok hls (jst_cons hn hst) hc hs hz)
theorem V_ldcw {i : Nat} {n : Int} (hd : decode (jmC M) pc = .ok (.ldc_w i, 3)) (hw : Cond.constant (jmO M) i (Int32.ofInt n) ∈ jTs) (hn : jR n)
    (k : V M d (pc + 3) L (.inl n :: st) h mc ms Q) : V M d pc L st h mc ms Q := by
  intro p l e R s m args below meth c G MC MS Z H locs cells slots ls cx hok hls hst hc hs hz
  obtain ⟨hx, hb, hml, hown, hts, hnm, hfr, hlo, hMC, hMS, hZ⟩ := id cx
  exact lv_ldcw hx hb hown (hts _ hw) hd (k p l e R s m args below meth c G MC MS Z H locs cells slots ls cx hok hls (jst_cons hn hst) hc hs hz)
theorem V_iload_n {k0 : Fin 4} {i : Nat} {z : Int} (hd : decode (jmC M) pc = .ok (.iload_n k0, 1)) (hi : (k0 : Nat) = i) (hl : L[i]? = some (some (.inl z)))
    (k : V M d (pc + 1) L (.inl z :: st) h mc ms Q) : V M d pc L st h mc ms Q := by
  intro p l e R s m args below meth c G MC MS Z H locs cells slots ls cx hok hls hst hc hs hz
  obtain ⟨hx, hb, hml, hown, hts, hnm, hfr, hlo, hMC, hMS, hZ⟩ := id cx
  exact lv_iload_n hx hb hd hi (hls.2.2.2 i _ hl).1 (k p l e R s m args below meth c G MC MS Z H locs cells slots ls cx hok hls (jst_cons (hls.2.2.2 i _ hl).2 hst) hc hs hz)
theorem V_iload {i : Nat} {z : Int} (hd : decode (jmC M) pc = .ok (.iload i, 2)) (hl : L[i]? = some (some (.inl z)))
    (k : V M d (pc + 2) L (.inl z :: st) h mc ms Q) : V M d pc L st h mc ms Q := by
  intro p l e R s m args below meth c G MC MS Z H locs cells slots ls cx hok hls hst hc hs hz
  obtain ⟨hx, hb, hml, hown, hts, hnm, hfr, hlo, hMC, hMS, hZ⟩ := id cx
  exact lv_iload hx hb hd (hls.2.2.2 i _ hl).1 (k p l e R s m args below meth c G MC MS Z H locs cells slots ls cx hok hls (jst_cons (hls.2.2.2 i _ hl).2 hst) hc hs hz)
theorem V_aload_n {k0 : Fin 4} {i a : Nat} (hd : decode (jmC M) pc = .ok (.aload_n k0, 1)) (hi : (k0 : Nat) = i) (hl : L[i]? = some (some (.inr a)))
    (k : V M d (pc + 1) L (.inr a :: st) h mc ms Q) : V M d pc L st h mc ms Q := by
  intro p l e R s m args below meth c G MC MS Z H locs cells slots ls cx hok hls hst hc hs hz
  obtain ⟨hx, hb, hml, hown, hts, hnm, hfr, hlo, hMC, hMS, hZ⟩ := id cx
  have h1 := (hls.2.2.2 i _ hl).1
  have k1 := k p l e R s m args below meth c G MC MS Z H locs cells slots ls cx hok hls (jst_cons (v := .inr a) trivial hst) hc hs hz
  rw [List.map_cons] at k1
  cases hr : jrf G a with
  | none =>
    have e1 : jV G (.inr a) = .null := by show va_rf (jrf G a) = _; rw [hr]; rfl
    rw [e1] at h1 k1
    exact lv_aload_nN hx hb hd hi h1 k1
  | some r =>
    have e1 : jV G (.inr a) = .ref r := by show va_rf (jrf G a) = _; rw [hr]; rfl
    rw [e1] at h1 k1
    exact lv_aload_n hx hb hd hi h1 k1
theorem V_aload {i a : Nat} (hd : decode (jmC M) pc = .ok (.aload i, 2)) (hl : L[i]? = some (some (.inr a)))
    (k : V M d (pc + 2) L (.inr a :: st) h mc ms Q) : V M d pc L st h mc ms Q := by
  intro p l e R s m args below meth c G MC MS Z H locs cells slots ls cx hok hls hst hc hs hz
  obtain ⟨hx, hb, hml, hown, hts, hnm, hfr, hlo, hMC, hMS, hZ⟩ := id cx
  have h1 := (hls.2.2.2 i _ hl).1
  have k1 := k p l e R s m args below meth c G MC MS Z H locs cells slots ls cx hok hls (jst_cons (v := .inr a) trivial hst) hc hs hz
  rw [List.map_cons] at k1
  cases hr : jrf G a with
  | none =>
    have e1 : jV G (.inr a) = .null := by show va_rf (jrf G a) = _; rw [hr]; rfl
    rw [e1] at h1 k1
    exact lv_aloadN hx hb hd h1 k1
  | some r =>
    have e1 : jV G (.inr a) = .ref r := by show va_rf (jrf G a) = _; rw [hr]; rfl
    rw [e1] at h1 k1
    exact lv_aload hx hb hd h1 k1
theorem V_istore_n {k0 : Fin 4} {i : Nat} {z : Int} (hd : decode (jmC M) pc = .ok (.istore_n k0, 1)) (hi : (k0 : Nat) = i) (hn : i < jmL M)
    (k : V M d (pc + 1) (L.set i (some (.inl z))) st h mc ms Q) : V M d pc L (.inl z :: st) h mc ms Q := by
  intro p l e R s m args below meth c G MC MS Z H locs cells slots ls cx hok hls hst hc hs hz
  obtain ⟨hx, hb, hml, hown, hts, hnm, hfr, hlo, hMC, hMS, hZ⟩ := id cx
  exact lv_istore_n hx hb hd hi (jLs_has hls) hn rfl (fun ls' h' => k p l e R s m args below meth c G MC MS Z H locs cells slots ls' cx hok (jLs_set hls hn (jst_hd hst) h') (jst_tl hst) hc hs hz)
theorem V_istore {i : Nat} {z : Int} (hd : decode (jmC M) pc = .ok (.istore i, 2)) (hn : i < jmL M)
    (k : V M d (pc + 2) (L.set i (some (.inl z))) st h mc ms Q) : V M d pc L (.inl z :: st) h mc ms Q := by
  intro p l e R s m args below meth c G MC MS Z H locs cells slots ls cx hok hls hst hc hs hz
  obtain ⟨hx, hb, hml, hown, hts, hnm, hfr, hlo, hMC, hMS, hZ⟩ := id cx
  exact lv_istore hx hb hd (jLs_has hls) hn rfl (fun ls' h' => k p l e R s m args below meth c G MC MS Z H locs cells slots ls' cx hok (jLs_set hls hn (jst_hd hst) h') (jst_tl hst) hc hs hz)
theorem V_astore_n {k0 : Fin 4} {i : Nat} {a : Nat} (hd : decode (jmC M) pc = .ok (.astore_n k0, 1)) (hi : (k0 : Nat) = i) (hn : i < jmL M)
    (k : V M d (pc + 1) (L.set i (some (.inr a))) st h mc ms Q) : V M d pc L (.inr a :: st) h mc ms Q := by
  intro p l e R s m args below meth c G MC MS Z H locs cells slots ls cx hok hls hst hc hs hz
  obtain ⟨hx, hb, hml, hown, hts, hnm, hfr, hlo, hMC, hMS, hZ⟩ := id cx
  rw [List.map_cons]
  cases hr : jrf G a with
  | none =>
    have e1 : jV G (.inr a) = .null := by show va_rf (jrf G a) = _; rw [hr]; rfl
    rw [e1]
    exact lv_astore_nN hx hb hd hi (jLs_has hls) hn rfl (fun ls' h' => k p l e R s m args below meth c G MC MS Z H locs cells slots ls' cx hok (jLs_set hls hn (v := .inr a) trivial (by rw [e1]; exact h')) (jst_tl hst) hc hs hz)
  | some r =>
    have e1 : jV G (.inr a) = .ref r := by show va_rf (jrf G a) = _; rw [hr]; rfl
    rw [e1]
    exact lv_astore_n hx hb hd hi (jLs_has hls) hn rfl (fun ls' h' => k p l e R s m args below meth c G MC MS Z H locs cells slots ls' cx hok (jLs_set hls hn (v := .inr a) trivial (by rw [e1]; exact h')) (jst_tl hst) hc hs hz)
theorem V_astore {i : Nat} {a : Nat} (hd : decode (jmC M) pc = .ok (.astore i, 2)) (hn : i < jmL M)
    (k : V M d (pc + 2) (L.set i (some (.inr a))) st h mc ms Q) : V M d pc L (.inr a :: st) h mc ms Q := by
  intro p l e R s m args below meth c G MC MS Z H locs cells slots ls cx hok hls hst hc hs hz
  obtain ⟨hx, hb, hml, hown, hts, hnm, hfr, hlo, hMC, hMS, hZ⟩ := id cx
  rw [List.map_cons]
  cases hr : jrf G a with
  | none =>
    have e1 : jV G (.inr a) = .null := by show va_rf (jrf G a) = _; rw [hr]; rfl
    rw [e1]
    exact lv_astoreN hx hb hd (jLs_has hls) hn rfl (fun ls' h' => k p l e R s m args below meth c G MC MS Z H locs cells slots ls' cx hok (jLs_set hls hn (v := .inr a) trivial (by rw [e1]; exact h')) (jst_tl hst) hc hs hz)
  | some r =>
    have e1 : jV G (.inr a) = .ref r := by show va_rf (jrf G a) = _; rw [hr]; rfl
    rw [e1]
    exact lv_astore hx hb hd (jLs_has hls) hn rfl (fun ls' h' => k p l e R s m args below meth c G MC MS Z H locs cells slots ls' cx hok (jLs_set hls hn (v := .inr a) trivial (by rw [e1]; exact h')) (jst_tl hst) hc hs hz)
theorem V_iinc {i : Nat} {n z : Int} (hd : decode (jmC M) pc = .ok (.iinc i n, 3)) (hl : L[i]? = some (some (.inl z))) (hn : i < jmL M) (hr : jR (z + n))
    (k : V M d (pc + 3) (L.set i (some (.inl (z + n)))) st h mc ms Q) : V M d pc L st h mc ms Q := by
  intro p l e R s m args below meth c G MC MS Z H locs cells slots ls cx hok hls hst hc hs hz
  obtain ⟨hx, hb, hml, hown, hts, hnm, hfr, hlo, hMC, hMS, hZ⟩ := id cx
  have h0 := jLs_has hls
  have h1 : lv_has ls (jmL M) ((i, .int (Int32.ofInt z)) :: jasc G L) := ⟨h0.1, h0.2.1, fun q hq => (List.mem_cons.mp hq).elim (fun e => by rw [e]; exact (hls.2.2.2 i _ hl).1) (h0.2.2 q)⟩
  refine lv_iinc (k := 0) (v := Int32.ofInt (z + n)) hx hb hd h1 rfl (by rw [Int32.ofInt_add]) hn rfl (fun ls' h' => ?_)
  have h2 : lv_has ls' (jmL M) ((i, jV G (.inl (z + n))) :: (jasc G L).filter (fun q => !(q.1 == i) && !(q.1 + 1 == i && q.2.category == 2))) := by
    refine ⟨h'.1, h'.2.1, fun q hq => h'.2.2 q ?_⟩
    rcases List.mem_cons.mp hq with e | e
    · exact List.mem_cons.mpr (Or.inl e)
    · refine List.mem_cons_of_mem _ ?_
      obtain ⟨e1, e2⟩ := List.mem_filter.mp e
      exact List.mem_filter.mpr ⟨List.mem_cons_of_mem _ e1, e2⟩
  exact k p l e R s m args below meth c G MC MS Z H locs cells slots ls' cx hok (jLs_set hls hn hr h2) hst hc hs hz
theorem V_iadd {x y : Int} (hd : decode (jmC M) pc = .ok (.iadd, 1)) (hr : jR (x + y))
    (k : V M d (pc + 1) L (.inl (x + y) :: st) h mc ms Q) : V M d pc L (.inl y :: .inl x :: st) h mc ms Q := by
  intro p l e R s m args below meth c G MC MS Z H locs cells slots ls cx hok hls hst hc hs hz
  obtain ⟨hx, hb, hml, hown, hts, hnm, hfr, hlo, hMC, hMS, hZ⟩ := id cx
  have k1 := k p l e R s m args below meth c G MC MS Z H locs cells slots ls cx hok hls (jst_cons hr (jst_tl (jst_tl hst))) hc hs hz
  rw [List.map_cons, show jV G (.inl (x + y)) = .int (Int32.ofInt x + Int32.ofInt y) by show Value.int _ = _; rw [Int32.ofInt_add]] at k1
  exact lv_iadd hx hb hd k1
theorem V_isub {x y : Int} (hd : decode (jmC M) pc = .ok (.isub, 1)) (hr : jR (x - y))
    (k : V M d (pc + 1) L (.inl (x - y) :: st) h mc ms Q) : V M d pc L (.inl y :: .inl x :: st) h mc ms Q := by
  intro p l e R s m args below meth c G MC MS Z H locs cells slots ls cx hok hls hst hc hs hz
  obtain ⟨hx, hb, hml, hown, hts, hnm, hfr, hlo, hMC, hMS, hZ⟩ := id cx
  have k1 := k p l e R s m args below meth c G MC MS Z H locs cells slots ls cx hok hls (jst_cons hr (jst_tl (jst_tl hst))) hc hs hz
  rw [List.map_cons, show jV G (.inl (x - y)) = .int (Int32.ofInt x - Int32.ofInt y) by show Value.int _ = _; rw [Int32.ofInt_sub]] at k1
  exact lv_isub hx hb hd k1
theorem V_imul {x y : Int} (hd : decode (jmC M) pc = .ok (.imul, 1)) (hr : jR (x * y))
    (k : V M d (pc + 1) L (.inl (x * y) :: st) h mc ms Q) : V M d pc L (.inl y :: .inl x :: st) h mc ms Q := by
  intro p l e R s m args below meth c G MC MS Z H locs cells slots ls cx hok hls hst hc hs hz
  obtain ⟨hx, hb, hml, hown, hts, hnm, hfr, hlo, hMC, hMS, hZ⟩ := id cx
  have k1 := k p l e R s m args below meth c G MC MS Z H locs cells slots ls cx hok hls (jst_cons hr (jst_tl (jst_tl hst))) hc hs hz
  rw [List.map_cons, show jV G (.inl (x * y)) = .int (Int32.ofInt x * Int32.ofInt y) by show Value.int _ = _; rw [Int32.ofInt_mul]] at k1
  exact lv_imul hx hb hd k1
def jand (x y : Int) : Int := (Int32.ofInt x &&& Int32.ofInt y).toInt
def jor (x y : Int) : Int := (Int32.ofInt x ||| Int32.ofInt y).toInt
def jxor (x y : Int) : Int := (Int32.ofInt x ^^^ Int32.ofInt y).toInt
def jshl (x y : Int) : Int := (Int32.ofInt x <<< (Int32.ofInt y &&& 31)).toInt
def jshr (x y : Int) : Int := (Int32.ofInt x >>> (Int32.ofInt y &&& 31)).toInt
def jushr (x y : Int) : Int := (((Int32.ofInt x).toUInt32 >>> ((Int32.ofInt y).toUInt32 &&& Int32.toUInt32 31)).toInt32).toInt
theorem V_iand {x y : Int} (hd : decode (jmC M) pc = .ok (.iand, 1))
    (k : V M d (pc + 1) L (.inl (jand x y) :: st) h mc ms Q) : V M d pc L (.inl y :: .inl x :: st) h mc ms Q := by
  intro p l e R s m args below meth c G MC MS Z H locs cells slots ls cx hok hls hst hc hs hz
  obtain ⟨hx, hb, hml, hown, hts, hnm, hfr, hlo, hMC, hMS, hZ⟩ := id cx
  have k1 := k p l e R s m args below meth c G MC MS Z H locs cells slots ls cx hok hls (jst_cons (v := .inl (jand x y)) (jR_of _) (jst_tl (jst_tl hst))) hc hs hz
  rw [List.map_cons, show jV G (.inl (jand x y)) = .int (Int32.ofInt x &&& Int32.ofInt y) by show Value.int (Int32.ofInt (jand x y)) = _; unfold jand; rw [Int32.ofInt_toInt]] at k1
  exact lv_iand hx hb hd k1
theorem V_ior {x y : Int} (hd : decode (jmC M) pc = .ok (.ior, 1))
    (k : V M d (pc + 1) L (.inl (jor x y) :: st) h mc ms Q) : V M d pc L (.inl y :: .inl x :: st) h mc ms Q := by
  intro p l e R s m args below meth c G MC MS Z H locs cells slots ls cx hok hls hst hc hs hz
  obtain ⟨hx, hb, hml, hown, hts, hnm, hfr, hlo, hMC, hMS, hZ⟩ := id cx
  have k1 := k p l e R s m args below meth c G MC MS Z H locs cells slots ls cx hok hls (jst_cons (v := .inl (jor x y)) (jR_of _) (jst_tl (jst_tl hst))) hc hs hz
  rw [List.map_cons, show jV G (.inl (jor x y)) = .int (Int32.ofInt x ||| Int32.ofInt y) by show Value.int (Int32.ofInt (jor x y)) = _; unfold jor; rw [Int32.ofInt_toInt]] at k1
  exact lv_ior hx hb hd k1
theorem V_ixor {x y : Int} (hd : decode (jmC M) pc = .ok (.ixor, 1))
    (k : V M d (pc + 1) L (.inl (jxor x y) :: st) h mc ms Q) : V M d pc L (.inl y :: .inl x :: st) h mc ms Q := by
  intro p l e R s m args below meth c G MC MS Z H locs cells slots ls cx hok hls hst hc hs hz
  obtain ⟨hx, hb, hml, hown, hts, hnm, hfr, hlo, hMC, hMS, hZ⟩ := id cx
  have k1 := k p l e R s m args below meth c G MC MS Z H locs cells slots ls cx hok hls (jst_cons (v := .inl (jxor x y)) (jR_of _) (jst_tl (jst_tl hst))) hc hs hz
  rw [List.map_cons, show jV G (.inl (jxor x y)) = .int (Int32.ofInt x ^^^ Int32.ofInt y) by show Value.int (Int32.ofInt (jxor x y)) = _; unfold jxor; rw [Int32.ofInt_toInt]] at k1
  exact lv_ixor hx hb hd k1
theorem V_ishl {x y : Int} (hd : decode (jmC M) pc = .ok (.ishl, 1))
    (k : V M d (pc + 1) L (.inl (jshl x y) :: st) h mc ms Q) : V M d pc L (.inl y :: .inl x :: st) h mc ms Q := by
  intro p l e R s m args below meth c G MC MS Z H locs cells slots ls cx hok hls hst hc hs hz
  obtain ⟨hx, hb, hml, hown, hts, hnm, hfr, hlo, hMC, hMS, hZ⟩ := id cx
  have k1 := k p l e R s m args below meth c G MC MS Z H locs cells slots ls cx hok hls (jst_cons (v := .inl (jshl x y)) (jR_of _) (jst_tl (jst_tl hst))) hc hs hz
  rw [List.map_cons, show jV G (.inl (jshl x y)) = .int (Int32.ofInt x <<< (Int32.ofInt y &&& 31)) by show Value.int (Int32.ofInt (jshl x y)) = _; unfold jshl; rw [Int32.ofInt_toInt]] at k1
  exact lv_ishl hx hb hd k1
theorem V_ishr {x y : Int} (hd : decode (jmC M) pc = .ok (.ishr, 1))
    (k : V M d (pc + 1) L (.inl (jshr x y) :: st) h mc ms Q) : V M d pc L (.inl y :: .inl x :: st) h mc ms Q := by
  intro p l e R s m args below meth c G MC MS Z H locs cells slots ls cx hok hls hst hc hs hz
  obtain ⟨hx, hb, hml, hown, hts, hnm, hfr, hlo, hMC, hMS, hZ⟩ := id cx
  have k1 := k p l e R s m args below meth c G MC MS Z H locs cells slots ls cx hok hls (jst_cons (v := .inl (jshr x y)) (jR_of _) (jst_tl (jst_tl hst))) hc hs hz
  rw [List.map_cons, show jV G (.inl (jshr x y)) = .int (Int32.ofInt x >>> (Int32.ofInt y &&& 31)) by show Value.int (Int32.ofInt (jshr x y)) = _; unfold jshr; rw [Int32.ofInt_toInt]] at k1
  exact lv_ishr hx hb hd k1
theorem V_iushr {x y : Int} (hd : decode (jmC M) pc = .ok (.iushr, 1))
    (k : V M d (pc + 1) L (.inl (jushr x y) :: st) h mc ms Q) : V M d pc L (.inl y :: .inl x :: st) h mc ms Q := by
  intro p l e R s m args below meth c G MC MS Z H locs cells slots ls cx hok hls hst hc hs hz
  obtain ⟨hx, hb, hml, hown, hts, hnm, hfr, hlo, hMC, hMS, hZ⟩ := id cx
  have k1 := k p l e R s m args below meth c G MC MS Z H locs cells slots ls cx hok hls (jst_cons (v := .inl (jushr x y)) (jR_of _) (jst_tl (jst_tl hst))) hc hs hz
  rw [List.map_cons, show jV G (.inl (jushr x y)) = .int (((Int32.ofInt x).toUInt32 >>> ((Int32.ofInt y).toUInt32 &&& Int32.toUInt32 31)).toInt32) by show Value.int (Int32.ofInt (jushr x y)) = _; unfold jushr; rw [Int32.ofInt_toInt]] at k1
  exact lv_iushr hx hb hd rfl k1
theorem V_ineg {x : Int} (hd : decode (jmC M) pc = .ok (.ineg, 1)) (hr : jR (-x))
    (k : V M d (pc + 1) L (.inl (-x) :: st) h mc ms Q) : V M d pc L (.inl x :: st) h mc ms Q := by
  intro p l e R s m args below meth c G MC MS Z H locs cells slots ls cx hok hls hst hc hs hz
  obtain ⟨hx, hb, hml, hown, hts, hnm, hfr, hlo, hMC, hMS, hZ⟩ := id cx
  have k1 := k p l e R s m args below meth c G MC MS Z H locs cells slots ls cx hok hls (jst_cons hr (jst_tl hst)) hc hs hz
  rw [List.map_cons, show jV G (.inl (-x)) = .int (-Int32.ofInt x) by show Value.int _ = _; rw [Int32.ofInt_neg]] at k1
  exact lv_ineg hx hb hd k1
theorem V_dup {v : jA} (hd : decode (jmC M) pc = .ok (.dup, 1))
    (k : V M d (pc + 1) L (v :: v :: st) h mc ms Q) : V M d pc L (v :: st) h mc ms Q := by
  intro p l e R s m args below meth c G MC MS Z H locs cells slots ls cx hok hls hst hc hs hz
  obtain ⟨hx, hb, hml, hown, hts, hnm, hfr, hlo, hMC, hMS, hZ⟩ := id cx
  exact lv_dup hx hb hd (jV_cat G v) (k p l e R s m args below meth c G MC MS Z H locs cells slots ls cx hok hls (jst_cons (jst_hd hst) hst) hc hs hz)
theorem V_dup2 {v u : jA} (hd : decode (jmC M) pc = .ok (.dup2, 1))
    (k : V M d (pc + 1) L (v :: u :: v :: u :: st) h mc ms Q) : V M d pc L (v :: u :: st) h mc ms Q := by
  intro p l e R s m args below meth c G MC MS Z H locs cells slots ls cx hok hls hst hc hs hz
  obtain ⟨hx, hb, hml, hown, hts, hnm, hfr, hlo, hMC, hMS, hZ⟩ := id cx
  exact lv_dup2_11 hx hb hd (jV_cat G v) (jV_cat G u) (k p l e R s m args below meth c G MC MS Z H locs cells slots ls cx hok hls (jst_cons (jst_hd hst) (jst_cons (jst_hd (jst_tl hst)) hst)) hc hs hz)
theorem V_pop {v : jA} (hd : decode (jmC M) pc = .ok (.pop, 1))
    (k : V M d (pc + 1) L st h mc ms Q) : V M d pc L (v :: st) h mc ms Q := by
  intro p l e R s m args below meth c G MC MS Z H locs cells slots ls cx hok hls hst hc hs hz
  obtain ⟨hx, hb, hml, hown, hts, hnm, hfr, hlo, hMC, hMS, hZ⟩ := id cx
  exact lv_pop hx hb hd (jV_cat G v) (k p l e R s m args below meth c G MC MS Z H locs cells slots ls cx hok hls (jst_tl hst) hc hs hz)
theorem V_goto {off : Int} {tgt : Nat} (hd : decode (jmC M) pc = .ok (.goto off, 3)) (ht : (pc : Int) + off = (tgt : Int))
    (k : V M d tgt L st h mc ms Q) : V M d pc L st h mc ms Q := by
  intro p l e R s m args below meth c G MC MS Z H locs cells slots ls cx hok hls hst hc hs hz
  obtain ⟨hx, hb, hml, hown, hts, hnm, hfr, hlo, hMC, hMS, hZ⟩ := id cx
  exact lv_goto hx hb hd ht (k p l e R s m args below meth c G MC MS Z H locs cells slots ls cx hok hls hst hc hs hz)
theorem V_icmp_eq {x y : Int} {off : Int} {tgt : Nat} (hd : decode (jmC M) pc = .ok (.if_icmp .eq off, 3)) (ht : (pc : Int) + off = (tgt : Int))
    (kt : x = y → V M d tgt L st h mc ms Q) (kf : ¬ (x = y) → V M d (pc + 3) L st h mc ms Q) : V M d pc L (.inl y :: .inl x :: st) h mc ms Q := by
  intro p l e R s m args below meth c G MC MS Z H locs cells slots ls cx hok hls hst hc hs hz
  obtain ⟨hx, hb, hml, hown, hts, hnm, hfr, hlo, hMC, hMS, hZ⟩ := id cx
  have hy1 : jR y := jst_hd hst
  have hx1 : jR x := jst_hd (jst_tl hst)
  exact lv_icmp_eq hx hb hd ht (fun q => kt ((jR_eq hx1 hy1).mp q) p l e R s m args below meth c G MC MS Z H locs cells slots ls cx hok hls (jst_tl (jst_tl hst)) hc hs hz) (fun q => kf (fun z => q ((jR_eq hx1 hy1).mpr z)) p l e R s m args below meth c G MC MS Z H locs cells slots ls cx hok hls (jst_tl (jst_tl hst)) hc hs hz)
theorem V_if_eq {x : Int} {off : Int} {tgt : Nat} (hd : decode (jmC M) pc = .ok (.ifCond .eq off, 3)) (ht : (pc : Int) + off = (tgt : Int))
    (kt : x = 0 → V M d tgt L st h mc ms Q) (kf : ¬ (x = 0) → V M d (pc + 3) L st h mc ms Q) : V M d pc L (.inl x :: st) h mc ms Q := by
  intro p l e R s m args below meth c G MC MS Z H locs cells slots ls cx hok hls hst hc hs hz
  obtain ⟨hx, hb, hml, hown, hts, hnm, hfr, hlo, hMC, hMS, hZ⟩ := id cx
  have hx1 : jR x := jst_hd hst
  exact lv_if_eq hx hb hd ht (fun q => kt ((jR_eq hx1 jR_0).mp q) p l e R s m args below meth c G MC MS Z H locs cells slots ls cx hok hls (jst_tl hst) hc hs hz) (fun q => kf (fun z => q ((jR_eq hx1 jR_0).mpr z)) p l e R s m args below meth c G MC MS Z H locs cells slots ls cx hok hls (jst_tl hst) hc hs hz)
theorem V_icmp_ne {x y : Int} {off : Int} {tgt : Nat} (hd : decode (jmC M) pc = .ok (.if_icmp .ne off, 3)) (ht : (pc : Int) + off = (tgt : Int))
    (kt : x ≠ y → V M d tgt L st h mc ms Q) (kf : x = y → V M d (pc + 3) L st h mc ms Q) : V M d pc L (.inl y :: .inl x :: st) h mc ms Q := by
  intro p l e R s m args below meth c G MC MS Z H locs cells slots ls cx hok hls hst hc hs hz
  obtain ⟨hx, hb, hml, hown, hts, hnm, hfr, hlo, hMC, hMS, hZ⟩ := id cx
  have hy1 : jR y := jst_hd hst
  have hx1 : jR x := jst_hd (jst_tl hst)
  exact lv_icmp_ne hx hb hd ht (fun q => kt ((not_congr (jR_eq hx1 hy1)).mp q) p l e R s m args below meth c G MC MS Z H locs cells slots ls cx hok hls (jst_tl (jst_tl hst)) hc hs hz) (fun q => kf ((jR_eq hx1 hy1).mp q) p l e R s m args below meth c G MC MS Z H locs cells slots ls cx hok hls (jst_tl (jst_tl hst)) hc hs hz)
theorem V_if_ne {x : Int} {off : Int} {tgt : Nat} (hd : decode (jmC M) pc = .ok (.ifCond .ne off, 3)) (ht : (pc : Int) + off = (tgt : Int))
    (kt : x ≠ 0 → V M d tgt L st h mc ms Q) (kf : x = 0 → V M d (pc + 3) L st h mc ms Q) : V M d pc L (.inl x :: st) h mc ms Q := by
  intro p l e R s m args below meth c G MC MS Z H locs cells slots ls cx hok hls hst hc hs hz
  obtain ⟨hx, hb, hml, hown, hts, hnm, hfr, hlo, hMC, hMS, hZ⟩ := id cx
  have hx1 : jR x := jst_hd hst
  exact lv_if_ne hx hb hd ht (fun q => kt ((not_congr (jR_eq hx1 jR_0)).mp q) p l e R s m args below meth c G MC MS Z H locs cells slots ls cx hok hls (jst_tl hst) hc hs hz) (fun q => kf ((jR_eq hx1 jR_0).mp q) p l e R s m args below meth c G MC MS Z H locs cells slots ls cx hok hls (jst_tl hst) hc hs hz)
theorem V_icmp_lt {x y : Int} {off : Int} {tgt : Nat} (hd : decode (jmC M) pc = .ok (.if_icmp .lt off, 3)) (ht : (pc : Int) + off = (tgt : Int))
    (kt : x < y → V M d tgt L st h mc ms Q) (kf : ¬ (x < y) → V M d (pc + 3) L st h mc ms Q) : V M d pc L (.inl y :: .inl x :: st) h mc ms Q := by
  intro p l e R s m args below meth c G MC MS Z H locs cells slots ls cx hok hls hst hc hs hz
  obtain ⟨hx, hb, hml, hown, hts, hnm, hfr, hlo, hMC, hMS, hZ⟩ := id cx
  have hy1 : jR y := jst_hd hst
  have hx1 : jR x := jst_hd (jst_tl hst)
  exact lv_icmp_lt hx hb hd ht (fun q => kt ((jR_lt hx1 hy1).mp q) p l e R s m args below meth c G MC MS Z H locs cells slots ls cx hok hls (jst_tl (jst_tl hst)) hc hs hz) (fun q => kf (fun z => q ((jR_lt hx1 hy1).mpr z)) p l e R s m args below meth c G MC MS Z H locs cells slots ls cx hok hls (jst_tl (jst_tl hst)) hc hs hz)
theorem V_if_lt {x : Int} {off : Int} {tgt : Nat} (hd : decode (jmC M) pc = .ok (.ifCond .lt off, 3)) (ht : (pc : Int) + off = (tgt : Int))
    (kt : x < 0 → V M d tgt L st h mc ms Q) (kf : ¬ (x < 0) → V M d (pc + 3) L st h mc ms Q) : V M d pc L (.inl x :: st) h mc ms Q := by
  intro p l e R s m args below meth c G MC MS Z H locs cells slots ls cx hok hls hst hc hs hz
  obtain ⟨hx, hb, hml, hown, hts, hnm, hfr, hlo, hMC, hMS, hZ⟩ := id cx
  have hx1 : jR x := jst_hd hst
  exact lv_if_lt hx hb hd ht (fun q => kt ((jR_lt hx1 jR_0).mp q) p l e R s m args below meth c G MC MS Z H locs cells slots ls cx hok hls (jst_tl hst) hc hs hz) (fun q => kf (fun z => q ((jR_lt hx1 jR_0).mpr z)) p l e R s m args below meth c G MC MS Z H locs cells slots ls cx hok hls (jst_tl hst) hc hs hz)
theorem V_icmp_ge {x y : Int} {off : Int} {tgt : Nat} (hd : decode (jmC M) pc = .ok (.if_icmp .ge off, 3)) (ht : (pc : Int) + off = (tgt : Int))
    (kt : y ≤ x → V M d tgt L st h mc ms Q) (kf : ¬ (y ≤ x) → V M d (pc + 3) L st h mc ms Q) : V M d pc L (.inl y :: .inl x :: st) h mc ms Q := by
  intro p l e R s m args below meth c G MC MS Z H locs cells slots ls cx hok hls hst hc hs hz
  obtain ⟨hx, hb, hml, hown, hts, hnm, hfr, hlo, hMC, hMS, hZ⟩ := id cx
  have hy1 : jR y := jst_hd hst
  have hx1 : jR x := jst_hd (jst_tl hst)
  exact lv_icmp_ge hx hb hd ht (fun q => kt ((jR_le hy1 hx1).mp q) p l e R s m args below meth c G MC MS Z H locs cells slots ls cx hok hls (jst_tl (jst_tl hst)) hc hs hz) (fun q => kf (fun z => q ((jR_le hy1 hx1).mpr z)) p l e R s m args below meth c G MC MS Z H locs cells slots ls cx hok hls (jst_tl (jst_tl hst)) hc hs hz)
theorem V_if_ge {x : Int} {off : Int} {tgt : Nat} (hd : decode (jmC M) pc = .ok (.ifCond .ge off, 3)) (ht : (pc : Int) + off = (tgt : Int))
    (kt : 0 ≤ x → V M d tgt L st h mc ms Q) (kf : ¬ (0 ≤ x) → V M d (pc + 3) L st h mc ms Q) : V M d pc L (.inl x :: st) h mc ms Q := by
  intro p l e R s m args below meth c G MC MS Z H locs cells slots ls cx hok hls hst hc hs hz
  obtain ⟨hx, hb, hml, hown, hts, hnm, hfr, hlo, hMC, hMS, hZ⟩ := id cx
  have hx1 : jR x := jst_hd hst
  exact lv_if_ge hx hb hd ht (fun q => kt ((jR_le jR_0 hx1).mp q) p l e R s m args below meth c G MC MS Z H locs cells slots ls cx hok hls (jst_tl hst) hc hs hz) (fun q => kf (fun z => q ((jR_le jR_0 hx1).mpr z)) p l e R s m args below meth c G MC MS Z H locs cells slots ls cx hok hls (jst_tl hst) hc hs hz)
theorem V_icmp_gt {x y : Int} {off : Int} {tgt : Nat} (hd : decode (jmC M) pc = .ok (.if_icmp .gt off, 3)) (ht : (pc : Int) + off = (tgt : Int))
    (kt : y < x → V M d tgt L st h mc ms Q) (kf : ¬ (y < x) → V M d (pc + 3) L st h mc ms Q) : V M d pc L (.inl y :: .inl x :: st) h mc ms Q := by
  intro p l e R s m args below meth c G MC MS Z H locs cells slots ls cx hok hls hst hc hs hz
  obtain ⟨hx, hb, hml, hown, hts, hnm, hfr, hlo, hMC, hMS, hZ⟩ := id cx
  have hy1 : jR y := jst_hd hst
  have hx1 : jR x := jst_hd (jst_tl hst)
  exact lv_icmp_gt hx hb hd ht (fun q => kt ((jR_lt hy1 hx1).mp q) p l e R s m args below meth c G MC MS Z H locs cells slots ls cx hok hls (jst_tl (jst_tl hst)) hc hs hz) (fun q => kf (fun z => q ((jR_lt hy1 hx1).mpr z)) p l e R s m args below meth c G MC MS Z H locs cells slots ls cx hok hls (jst_tl (jst_tl hst)) hc hs hz)
theorem V_if_gt {x : Int} {off : Int} {tgt : Nat} (hd : decode (jmC M) pc = .ok (.ifCond .gt off, 3)) (ht : (pc : Int) + off = (tgt : Int))
    (kt : 0 < x → V M d tgt L st h mc ms Q) (kf : ¬ (0 < x) → V M d (pc + 3) L st h mc ms Q) : V M d pc L (.inl x :: st) h mc ms Q := by
  intro p l e R s m args below meth c G MC MS Z H locs cells slots ls cx hok hls hst hc hs hz
  obtain ⟨hx, hb, hml, hown, hts, hnm, hfr, hlo, hMC, hMS, hZ⟩ := id cx
  have hx1 : jR x := jst_hd hst
  exact lv_if_gt hx hb hd ht (fun q => kt ((jR_lt jR_0 hx1).mp q) p l e R s m args below meth c G MC MS Z H locs cells slots ls cx hok hls (jst_tl hst) hc hs hz) (fun q => kf (fun z => q ((jR_lt jR_0 hx1).mpr z)) p l e R s m args below meth c G MC MS Z H locs cells slots ls cx hok hls (jst_tl hst) hc hs hz)
theorem V_icmp_le {x y : Int} {off : Int} {tgt : Nat} (hd : decode (jmC M) pc = .ok (.if_icmp .le off, 3)) (ht : (pc : Int) + off = (tgt : Int))
    (kt : x ≤ y → V M d tgt L st h mc ms Q) (kf : ¬ (x ≤ y) → V M d (pc + 3) L st h mc ms Q) : V M d pc L (.inl y :: .inl x :: st) h mc ms Q := by
  intro p l e R s m args below meth c G MC MS Z H locs cells slots ls cx hok hls hst hc hs hz
  obtain ⟨hx, hb, hml, hown, hts, hnm, hfr, hlo, hMC, hMS, hZ⟩ := id cx
  have hy1 : jR y := jst_hd hst
  have hx1 : jR x := jst_hd (jst_tl hst)
  exact lv_icmp_le hx hb hd ht (fun q => kt ((jR_le hx1 hy1).mp q) p l e R s m args below meth c G MC MS Z H locs cells slots ls cx hok hls (jst_tl (jst_tl hst)) hc hs hz) (fun q => kf (fun z => q ((jR_le hx1 hy1).mpr z)) p l e R s m args below meth c G MC MS Z H locs cells slots ls cx hok hls (jst_tl (jst_tl hst)) hc hs hz)
theorem V_if_le {x : Int} {off : Int} {tgt : Nat} (hd : decode (jmC M) pc = .ok (.ifCond .le off, 3)) (ht : (pc : Int) + off = (tgt : Int))
    (kt : x ≤ 0 → V M d tgt L st h mc ms Q) (kf : ¬ (x ≤ 0) → V M d (pc + 3) L st h mc ms Q) : V M d pc L (.inl x :: st) h mc ms Q := by
  intro p l e R s m args below meth c G MC MS Z H locs cells slots ls cx hok hls hst hc hs hz
  obtain ⟨hx, hb, hml, hown, hts, hnm, hfr, hlo, hMC, hMS, hZ⟩ := id cx
  have hx1 : jR x := jst_hd hst
  exact lv_if_le hx hb hd ht (fun q => kt ((jR_le hx1 jR_0).mp q) p l e R s m args below meth c G MC MS Z H locs cells slots ls cx hok hls (jst_tl hst) hc hs hz) (fun q => kf (fun z => q ((jR_le hx1 jR_0).mpr z)) p l e R s m args below meth c G MC MS Z H locs cells slots ls cx hok hls (jst_tl hst) hc hs hz)
theorem V_tabIn {x dflt lo hi : Int} {offs : Array Int} {len : Nat} {off : Int} {tgt : Nat} (hd : decode (jmC M) pc = .ok (.tableswitch dflt lo hi offs, len)) (h1 : lo ≤ x) (h2 : x ≤ hi) (ho : offs[(x - lo).toNat]? = some off) (ht : (pc : Int) + off = (tgt : Int))
    (k : V M d tgt L st h mc ms Q) : V M d pc L (.inl x :: st) h mc ms Q := by
  intro p l e R s m args below meth c G MC MS Z H locs cells slots ls cx hok hls hst hc hs hz
  obtain ⟨hx, hb, hml, hown, hts, hnm, hfr, hlo, hMC, hMS, hZ⟩ := id cx
  have hx1 := jR_toInt (jst_hd hst : jR x)
  exact lv_tableIn hx hb hd (by rw [hx1]; omega) (by rw [hx1]; omega) (by rw [hx1]; exact ho) ht (k p l e R s m args below meth c G MC MS Z H locs cells slots ls cx hok hls (jst_tl hst) hc hs hz)
theorem V_tabOut {x dflt lo hi : Int} {offs : Array Int} {len : Nat} {tgt : Nat} (hd : decode (jmC M) pc = .ok (.tableswitch dflt lo hi offs, len)) (h1 : x < lo ∨ hi < x) (ht : (pc : Int) + dflt = (tgt : Int))
    (k : V M d tgt L st h mc ms Q) : V M d pc L (.inl x :: st) h mc ms Q := by
  intro p l e R s m args below meth c G MC MS Z H locs cells slots ls cx hok hls hst hc hs hz
  obtain ⟨hx, hb, hml, hown, hts, hnm, hfr, hlo, hMC, hMS, hZ⟩ := id cx
  have hx1 := jR_toInt (jst_hd hst : jR x)
  exact lv_tableOut hx hb hd (by rw [hx1]; exact h1) ht (k p l e R s m args below meth c G MC MS Z H locs cells slots ls cx hok hls (jst_tl hst) hc hs hz)
theorem V_look {x dflt : Int} {ps : Array (Int × Int)} {len : Nat} {off : Int} {tgt : Nat} (hd : decode (jmC M) pc = .ok (.lookupswitch dflt ps, len)) (hp : (ps.toList.zip (ps.toList.drop 1)).all (fun (a, next) => a.1 < next.1) = true) (ho : Op.lookupswitch.offset ps.toList dflt x = off) (ht : (pc : Int) + off = (tgt : Int))
    (k : V M d tgt L st h mc ms Q) : V M d pc L (.inl x :: st) h mc ms Q := by
  intro p l e R s m args below meth c G MC MS Z H locs cells slots ls cx hok hls hst hc hs hz
  obtain ⟨hx, hb, hml, hown, hts, hnm, hfr, hlo, hMC, hMS, hZ⟩ := id cx
  have hx1 := jR_toInt (jst_hd hst : jR x)
  exact lv_lookup hx hb hd hp (by rw [hx1]; exact ho) ht (k p l e R s m args below meth c G MC MS Z H locs cells slots ls cx hok hls (jst_tl hst) hc hs hz)
end JR
end
section
/-! ===== fields, arrays, new, calls, returns, over V ===== -/
section JH
variable {M : jM} {d pc mc ms : Nat} {L : List (Option jA)} {st : List jA} {h : jH} {Q : Option jA → jH → Prop}
def jFL (own : String) (ix c k : Nat) : Prop := c < 10 ∧ k < jF_ c ∧ (Cond.fieldLink own ix (jT_ c k).1 (jT_ c k).2.1 (jT_ c k).2.2.1 ∈ jTs ∨ ∃ host, Cond.fieldLinkNest own ix (jT_ c k).1 (jT_ c k).2.1 (jT_ c k).2.2.1 host ∈ lw_tbl)
theorem jD_any {G : jG} {h : jH} : va_D (jAt G) (jW G h) := jD G h
/-- the field of an object, at W -/
theorem jget_w {p : Program} {l : Launch} {e : Env} {R : Room} {s : State} {m : MethodId} {args : Array Value} {below : List Frame} {meth : Method} {c : Code} {H : Heap} {locs : List Loc} {cells slots : Nat} {Z : State → Prop} {G : jG} {cc : ByteArray} {own : String} {ls : Array Slot} {rest : List Value} {ix a ci k : Nat}
    (hx : p.tables.exec = Jvm.exec) (hb : c.code = cc) (hown : s.vm.findClass own = some m.cls) (hts : ∀ w ∈ jTs, w.before args s = true) {H0 : Heap} (hok : jOk G h H0 H locs s) (hf : jFL own ix ci k) (hS : (jS h a).1 = ci) (hd : decode cc pc = .ok (.getfield ix, 3))
    (kk : W p l e R s m args below meth c H locs cells slots Z (F0 m (pc + 3) ls (jfv G h a ci k :: rest))) : W p l e R s m args below meth c H locs cells slots Z (F0 m pc ls (va_rf (jrf G a) :: rest)) := by
  obtain ⟨hw, hst, hP, hSS, hsz, hbz, hz0, hX⟩ := hok
  obtain ⟨hc9, hkN, hlk⟩ := hf
  obtain ⟨h2, hn⟩ := jw_range hw (a := a) (by rw [hS]; omega) (by rw [hS]; omega)
  have he := jW_get G h h2 hn
  rw [jE_obj hS hc9] at he
  rw [jrf_at G h2]
  rcases hlk with hlk | ⟨host, hlk⟩
  · exact va_get (D := jgD G) (ci := ci) (C := jR_ ci) (T := jT_ ci) (N := jF_ ci) hx hb hts (jin ci hc9) hown hst.1 hP (a - 2) he (jcl_get ci hc9) k hkN (hts _ hlk) (fun _ h9 => h9) (jfs_get hkN) hd kk
  · exact va_getN (D := jgD G) (ci := ci) (C := jR_ ci) (T := jT_ ci) (N := jF_ ci) hx hb hts (jin ci hc9) hown hst.1 hP (a - 2) he (jcl_get ci hc9) k hkN (va_Nw.use rfl (hst.2.1 _ hlk rfl)) (fun _ h9 => h9) (jfs_get hkN) hd kk
theorem jS_rf {G : jG} {H0 H : Heap} {locs : List Loc} (h : va_S (jAt G) H0 H locs) : va_S (jAt G) H H locs := ⟨Nat.le_refl _, fun _ _ _ => rfl, h.2.2⟩
/-- behind a write: the picture is the new one -/
theorem jfin {p : Program} {l : Launch} {e : Env} {R : Room} {s : State} {m : MethodId} {args : Array Value} {below : List Frame} {meth : Method} {c : Code} {H : Heap} {locs : List Loc} {cells slots : Nat} {Z : State → Prop} {G : jG} {h h' : jH} {H1 : Heap} {locs1 : List Loc} {g : JFrame} (hok : jOk G h s.heap H locs s) (hz : H.size = s.heap.size + cells) (hN : jN h' = jN h) (hS1 : jS h' 1 = jS h 1) (hX1 : jX h' 1 = jX h 1) (hw' : jWf h')
    (hP1 : va_P (jgD G) jcl (jW G h') H1) (hSS : va_S (jAt G) H H1 locs1) (kk : jOk G h' s.heap H1 locs1 s → H1.size = s.heap.size + cells → W p l e R s m args below meth c H1 locs1 cells slots Z g) : W p l e R s m args below meth c H1 locs1 cells slots Z g := by
  intro T hT X
  have hup := X.heapSize
  rw [hT] at hup
  obtain ⟨hw, hst, hP, hS0, hsz, hbz, hz0, hX⟩ := hok
  have hsame : H1.size = H.size := by have := hSS.1; omega
  refine kk ⟨hw', hst, hP1, ⟨by omega, fun q hq hA => (hSS.2.1 q (by omega) hA).trans (hS0.2.1 q hq hA), hSS.2.2⟩, by omega, hbz, hz0, ?_⟩ (by omega) T hT X
  rw [hS1, hX1]
  exact hX.kept (hSS.2.1 _ (by omega) (by show ¬ jgz G ≤ jgb G; omega))
/-- a field is written, at W -/
theorem jput_w {p : Program} {l : Launch} {e : Env} {R : Room} {s : State} {m : MethodId} {args : Array Value} {below : List Frame} {meth : Method} {c : Code} {H : Heap} {locs : List Loc} {cells slots : Nat} {Z : State → Prop} {G : jG} {cc : ByteArray} {own : String} {ls : Array Slot} {rest : List Value} {ix a ci k : Nat} {h h' : jH} {v : Value} (hx : p.tables.exec = Jvm.exec) (hb : c.code = cc) (hown : s.vm.findClass own = some m.cls) (hts : ∀ w ∈ jTs, w.before args s = true) (hok : jOk G h s.heap H locs s) (hz : H.size = s.heap.size + cells)
    (hf : jFL own ix ci k) (hfin : (jT_ ci k).2.2.2 = false) (hS : (jS h a).1 = ci) (hn : narrow (jt_ ci k) v = v) (hfit : fits (jt_ ci k) v = true) (hd : decode cc pc = .ok (.putfield ix, 3))
    (hN : jN h' = jN h) (hS1 : jS h' 1 = jS h 1) (hX1 : jX h' 1 = jX h 1) (hw' : jWf h') (he' : jE G h' a = .inr (ci, (jfs G h a ci).set k v)) (ho : ∀ b, b ≠ a → jE G h' b = jE G h b)
    (kk : ∀ (H1 : Heap) (locs1 : List Loc), jOk G h' s.heap H1 locs1 s → H1.size = s.heap.size + cells → W p l e R s m args below meth c H1 locs1 cells slots Z (F0 m (pc + 3) ls rest)) : W p l e R s m args below meth c H locs cells slots Z (F0 m pc ls (v :: va_rf (jrf G a) :: rest)) := by
  obtain ⟨hw, hst, hP, hSS, hsz, hbz, hz0, hX⟩ := id hok
  obtain ⟨hc9, hkN, hlk⟩ := hf
  obtain ⟨h2, hna⟩ := jw_range hw (a := a) (by rw [hS]; omega) (by rw [hS]; omega)
  have he := jW_get G h h2 hna
  rw [jE_obj hS hc9] at he
  rw [jrf_at G h2]
  have hW := jW_ext hN h2 hna he' ho
  rcases hlk with hlk | ⟨host, hlk⟩
  · exact va_put (D := jgD G) (ci := ci) (C := jR_ ci) (T := jT_ ci) (N := jF_ ci) hx hb hts (jin ci hc9) (jt_ ci) (jt_ok ci hc9) (jn_ok ci hc9) hown hst.1 hP (jD G h) (jS_rf hSS) (a - 2) he (jcl_get ci hc9) k hkN (hts _ hlk) (fun _ h9 => h9) hfin (jt_ok ci hc9 k hkN) hn hfit (by rw [jfs_len]; exact hkN) hd
      (fun H1 locs1 hP1 _ hS2 => jfin hok hz hN hS1 hX1 hw' (by rw [hW]; exact hP1) hS2 (kk H1 locs1))
  · exact va_putN (D := jgD G) (ci := ci) (C := jR_ ci) (T := jT_ ci) (N := jF_ ci) hx hb hts (jin ci hc9) (jt_ ci) (jt_ok ci hc9) (jn_ok ci hc9) hown hst.1 hP (jD G h) (jS_rf hSS) (a - 2) he (jcl_get ci hc9) k hkN (va_Nw.use rfl (hst.2.1 _ hlk rfl)) (fun _ h9 => h9) hfin (jt_ok ci hc9 k hkN) hn hfit (by rw [jfs_len]; exact hkN) hd
      (fun H1 locs1 hP1 _ hS2 => jfin hok hz hN hS1 hX1 hw' (by rw [hW]; exact hP1) hS2 (kk H1 locs1))
/-- a final field is written in its class's constructor -/
theorem jputF_w {p : Program} {l : Launch} {e : Env} {R : Room} {s : State} {m : MethodId} {args : Array Value} {below : List Frame} {meth : Method} {c : Code} {H : Heap} {locs : List Loc} {cells slots : Nat} {Z : State → Prop} {G : jG} {cc : ByteArray} {own : String} {ls : Array Slot} {rest : List Value} {ix a ci k : Nat} {h h' : jH} {v : Value} (hx : p.tables.exec = Jvm.exec) (hb : c.code = cc) (hown : s.vm.findClass own = some m.cls) (hts : ∀ w ∈ jTs, w.before args s = true) (hok : jOk G h s.heap H locs s) (hz : H.size = s.heap.size + cells)
    (hf : ci < 10 ∧ k < jF_ ci ∧ Cond.fieldLink own ix (jT_ ci k).1 (jT_ ci k).2.1 (jT_ ci k).2.2.1 ∈ jTs) (hfin : (jT_ ci k).2.2.2 = true) (hinit : meth.name = "<init>") (hdecl : (jT_ ci k).1 = own) (hS : (jS h a).1 = ci) (hn : narrow (jt_ ci k) v = v) (hfit : fits (jt_ ci k) v = true) (hd : decode cc pc = .ok (.putfield ix, 3))
    (hN : jN h' = jN h) (hS1 : jS h' 1 = jS h 1) (hX1 : jX h' 1 = jX h 1) (hw' : jWf h') (he' : jE G h' a = .inr (ci, (jfs G h a ci).set k v)) (ho : ∀ b, b ≠ a → jE G h' b = jE G h b)
    (kk : ∀ (H1 : Heap) (locs1 : List Loc), jOk G h' s.heap H1 locs1 s → H1.size = s.heap.size + cells → W p l e R s m args below meth c H1 locs1 cells slots Z (F0 m (pc + 3) ls rest)) : W p l e R s m args below meth c H locs cells slots Z (F0 m pc ls (v :: va_rf (jrf G a) :: rest)) := by
  obtain ⟨hw, hst, hP, hSS, hsz, hbz, hz0, hX⟩ := id hok
  obtain ⟨hc9, hkN, hlk⟩ := hf
  obtain ⟨h2, hna⟩ := jw_range hw (a := a) (by rw [hS]; omega) (by rw [hS]; omega)
  have he := jW_get G h h2 hna
  rw [jE_obj hS hc9] at he
  rw [jrf_at G h2]
  have hW := jW_ext hN h2 hna he' ho
  exact va_putF (D := jgD G) (ci := ci) (C := jR_ ci) (T := jT_ ci) (N := jF_ ci) hx hb hts (jin ci hc9) (jt_ ci) (jt_ok ci hc9) (jn_ok ci hc9) hown hst.1 hP (jD G h) (jS_rf hSS) (a - 2) he (jcl_get ci hc9) k hkN (hts _ hlk) (fun _ h9 => h9) hfin hinit hdecl (jt_ok ci hc9 k hkN) hn hfit (by rw [jfs_len]; exact hkN) hd
      (fun H1 locs1 hP1 _ hS2 => jfin hok hz hN hS1 hX1 hw' (by rw [hW]; exact hP1) hS2 (kk H1 locs1))
theorem jfs_ext {G : jG} {h h' : jH} {a ci k : Nat} {v : Value} (hk : k < jF_ ci) (hv : jfv G h' a ci k = v) (ho : ∀ j, j ≠ k → jfv G h' a ci j = jfv G h a ci j) : jfs G h' a ci = (jfs G h a ci).set k v := by
  apply List.ext_getElem?
  intro j
  by_cases hj : j < jF_ ci
  · rw [jfs_get hj]
    by_cases e : j = k
    · subst e
      rw [List.getElem?_set_self (by rw [jfs_len]; exact hj), hv]
    · rw [List.getElem?_set_ne (Ne.symm e), jfs_get hj, ho j e]
  · rw [List.getElem?_eq_none (by rw [jfs_len]; omega), List.getElem?_eq_none (by rw [List.length_set, jfs_len]; omega)]
theorem jfs_eq {G : jG} {h h' : jH} {a ci : Nat} (ho : ∀ j, jfv G h' a ci j = jfv G h a ci j) : jfs G h' a ci = jfs G h a ci := by
  unfold jfs
  exact List.map_congr_left (fun j _ => ho j)
theorem jE_eq {G : jG} {h h' : jH} {b : Nat} (hS : jS h' b = jS h b) (hI : jI h' b = jI h b) (hP : jP h' b = jP h b) (hX : jX h' b = jX h b) (hY : jY h' b = jY h b) : jE G h' b = jE G h b := by
  unfold jE
  rw [hS, jfs_eq (h := h) (fun j => by unfold jfv; rw [hI, hP])]
  unfold jar
  rw [hX, hY]
theorem ju_ne {α : Type} {f : Nat → Nat → α} {a k b : Nat} {v : α} (hb : b ≠ a) : ju f a k v b = f b := by funext j; unfold ju; rw [if_neg (fun q => hb q.1)]
theorem ju_k {α : Type} {f : Nat → Nat → α} {a k j : Nat} {v : α} (hj : j ≠ k) : ju f a k v a j = f a j := by unfold ju; rw [if_neg (fun q => hj q.2)]
theorem ju_at {α : Type} {f : Nat → Nat → α} {a k : Nat} {v : α} : ju f a k v a k = v := by unfold ju; rw [if_pos ⟨rfl, rfl⟩]
theorem jWf_I {h : jH} (hw : jWf h) {a k : Nat} {v : Int} (hv : jR v) : jWf (jsI h a k v) := ⟨hw.1, fun a' k' => by show jR (ju (jI h) a k v a' k'); unfold ju; split; exact hv; exact hw.2.1 _ _, hw.2.2⟩
theorem jWf_X {h : jH} (hw : jWf h) {a k : Nat} {v : Int} (hv : jR v) : jWf (jsX h a k v) := ⟨hw.1, hw.2.1, fun a' k' => by show jR (ju (jX h) a k v a' k'); unfold ju; split; exact hv; exact hw.2.2.1 _ _, hw.2.2.2⟩
theorem jWf_P {h : jH} (hw : jWf h) {a k v : Nat} : jWf (jsP h a k v) := hw
theorem jWf_Y {h : jH} (hw : jWf h) {a k v : Nat} : jWf (jsY h a k v) := hw
theorem jE_sI {G : jG} {h : jH} {a ci k : Nat} {z : Int} (hS : (jS h a).1 = ci) (hc : ci < 10) (hk : k < jF_ ci) (ht : jrt (jt_ ci k) = false) : jE G (jsI h a k z) a = .inr (ci, (jfs G h a ci).set k (.int (Int32.ofInt z))) := by
  rw [jE_obj (show (jS (jsI h a k z) a).1 = ci from hS) hc, jfs_ext hk (v := .int (Int32.ofInt z)) ?_ ?_]
  · unfold jfv
    rw [ht]
    show Value.int (Int32.ofInt (ju (jI h) a k z a k)) = _
    rw [ju_at]
  · intro j hj
    unfold jfv
    show (if _ then va_rf (jrf G (jP h a j)) else Value.int (Int32.ofInt (ju (jI h) a k z a j))) = _
    rw [ju_k hj]
theorem jE_sP {G : jG} {h : jH} {a ci k v : Nat} (hS : (jS h a).1 = ci) (hc : ci < 10) (hk : k < jF_ ci) (ht : jrt (jt_ ci k) = true) : jE G (jsP h a k v) a = .inr (ci, (jfs G h a ci).set k (va_rf (jrf G v))) := by
  rw [jE_obj (show (jS (jsP h a k v) a).1 = ci from hS) hc, jfs_ext hk (v := va_rf (jrf G v)) ?_ ?_]
  · unfold jfv
    rw [ht]
    show va_rf (jrf G (ju (jP h) a k v a k)) = _
    rw [ju_at]
  · intro j hj
    unfold jfv
    show (if _ then va_rf (jrf G (ju (jP h) a k v a j)) else _) = _
    rw [ju_k hj]
    rfl
theorem jE_oI {G : jG} {h : jH} {a k : Nat} {z : Int} : ∀ b, b ≠ a → jE G (jsI h a k z) b = jE G h b := fun b hb => jE_eq rfl (ju_ne hb) rfl rfl rfl
theorem jE_oP {G : jG} {h : jH} {a k v : Nat} : ∀ b, b ≠ a → jE G (jsP h a k v) b = jE G h b := fun b hb => jE_eq rfl rfl (ju_ne hb) rfl rfl
theorem jE_oX {G : jG} {h : jH} {a k : Nat} {z : Int} : ∀ b, b ≠ a → jE G (jsX h a k z) b = jE G h b := fun b hb => jE_eq rfl rfl rfl (ju_ne hb) rfl
theorem jE_oY {G : jG} {h : jH} {a k v : Nat} : ∀ b, b ≠ a → jE G (jsY h a k v) b = jE G h b := fun b hb => jE_eq rfl rfl rfl rfl (ju_ne hb)
theorem jfits_ref {t : FieldType} (h : (∃ C, t = .object C) ∨ ∃ u, t = .array u) (G : jG) (v : Nat) : narrow t (va_rf (jrf G v)) = va_rf (jrf G v) ∧ fits t (va_rf (jrf G v)) = true := by
  rcases h with ⟨C, rfl⟩ | ⟨u, rfl⟩ <;> cases jrf G v <;> exact ⟨rfl, rfl⟩
theorem jty_ref : ∀ c, c < 10 → ∀ k, k < jF_ c → jrt (jt_ c k) = true → (∃ C, jt_ c k = .object C) ∨ ∃ u, jt_ c k = .array u := by
  intro c hc k hk
  generalize ht : jt_ c k = t
  intro hr
  have key : jt_ c k = .int ∨ jt_ c k = .boolean ∨ (∃ C, jt_ c k = .object C) ∨ ∃ u, jt_ c k = .array u := by
    rcases (show c = 0 ∨ c = 1 ∨ c = 2 ∨ c = 3 ∨ c = 4 ∨ c = 5 ∨ c = 6 ∨ c = 7 ∨ c = 8 ∨ c = 9 by omega) with rfl | rfl | rfl | rfl | rfl | rfl | rfl | rfl | rfl | rfl
    all_goals
      simp only [jt_]
      first | unfold tyX0 | unfold tyX1 | unfold tyX2 | unfold tyX3 | unfold tyX4 | unfold tyX5 | unfold tyX6 | unfold tyX7 | unfold tyX8 | unfold tyX9
      split <;> first | exact Or.inl rfl | exact Or.inr (Or.inl rfl) | exact Or.inr (Or.inr (Or.inl ⟨_, rfl⟩)) | exact Or.inr (Or.inr (Or.inr ⟨_, rfl⟩))
  rw [ht] at key
  rcases key with rfl | rfl | h | h
  · cases hr
  · cases hr
  · exact Or.inl h
  · exact Or.inr h
theorem V_getI {ix a ci kf : Nat} (hd : decode (jmC M) pc = .ok (.getfield ix, 3)) (hf : jFL (jmO M) ix ci kf) (ht : jrt (jt_ ci kf) = false) (hS : (jS h a).1 = ci)
    (k : V M d (pc + 3) L (.inl (jI h a kf) :: st) h mc ms Q) : V M d pc L (.inr a :: st) h mc ms Q := by
  intro p l e R s m args below meth c G MC MS Z H locs cells slots ls cx hok hls hst hc hs hz
  obtain ⟨hx, hb, hml, hown, hts, hnm, hfr, hlo, hMC, hMS, hZ⟩ := id cx
  have k1 := k p l e R s m args below meth c G MC MS Z H locs cells slots ls cx hok hls (jst_cons (v := .inl (jI h a kf)) (hok.1.2.1 _ _) (jst_tl hst)) hc hs hz
  rw [List.map_cons, show jV G (.inl (jI h a kf)) = jfv G h a ci kf by unfold jfv; rw [ht]; rfl] at k1
  exact jget_w hx hb hown hts hok hf hS hd k1
theorem V_getP {ix a ci kf : Nat} (hd : decode (jmC M) pc = .ok (.getfield ix, 3)) (hf : jFL (jmO M) ix ci kf) (ht : jrt (jt_ ci kf) = true) (hS : (jS h a).1 = ci)
    (k : V M d (pc + 3) L (.inr (jP h a kf) :: st) h mc ms Q) : V M d pc L (.inr a :: st) h mc ms Q := by
  intro p l e R s m args below meth c G MC MS Z H locs cells slots ls cx hok hls hst hc hs hz
  obtain ⟨hx, hb, hml, hown, hts, hnm, hfr, hlo, hMC, hMS, hZ⟩ := id cx
  have k1 := k p l e R s m args below meth c G MC MS Z H locs cells slots ls cx hok hls (jst_cons (v := .inr (jP h a kf)) trivial (jst_tl hst)) hc hs hz
  rw [List.map_cons, show jV G (.inr (jP h a kf)) = jfv G h a ci kf by unfold jfv; rw [ht]; rfl] at k1
  exact jget_w hx hb hown hts hok hf hS hd k1
theorem V_putI {ix a ci kf : Nat} {z : Int} (hd : decode (jmC M) pc = .ok (.putfield ix, 3)) (hf : jFL (jmO M) ix ci kf) (ht : jt_ ci kf = .int) (hfin : (jT_ ci kf).2.2.2 = false) (hS : (jS h a).1 = ci)
    (k : V M d (pc + 3) L st (jsI h a kf z) mc ms Q) : V M d pc L (.inl z :: .inr a :: st) h mc ms Q := by
  intro p l e R s m args below meth c G MC MS Z H locs cells slots ls cx hok hls hst hc hs hz
  obtain ⟨hx, hb, hml, hown, hts, hnm, hfr, hlo, hMC, hMS, hZ⟩ := id cx
  have hr : jR z := jst_hd hst
  exact jput_w hx hb hown hts hok hz hf hfin hS (v := .int (Int32.ofInt z)) (by rw [ht]; rfl) (by rw [ht]; rfl) hd (h' := jsI h a kf z) rfl rfl rfl (jWf_I hok.1 hr) (jE_sI hS hf.1 hf.2.1 (by rw [ht]; rfl)) jE_oI
    (fun H1 locs1 hok1 hz1 => k p l e R s m args below meth c G MC MS Z H1 locs1 cells slots ls cx hok1 hls (jst_tl (jst_tl hst)) hc hs hz1)
theorem V_putZ {ix a ci kf : Nat} {z : Int} (hd : decode (jmC M) pc = .ok (.putfield ix, 3)) (hf : jFL (jmO M) ix ci kf) (ht : jt_ ci kf = .boolean) (hfin : (jT_ ci kf).2.2.2 = false) (hS : (jS h a).1 = ci) (hzz : z = 0 ∨ z = 1)
    (k : V M d (pc + 3) L st (jsI h a kf z) mc ms Q) : V M d pc L (.inl z :: .inr a :: st) h mc ms Q := by
  intro p l e R s m args below meth c G MC MS Z H locs cells slots ls cx hok hls hst hc hs hz
  obtain ⟨hx, hb, hml, hown, hts, hnm, hfr, hlo, hMC, hMS, hZ⟩ := id cx
  have hr : jR z := jst_hd hst
  exact jput_w hx hb hown hts hok hz hf hfin hS (v := .int (Int32.ofInt z)) (by rw [ht]; rcases hzz with rfl | rfl <;> rfl) (by rw [ht]; rcases hzz with rfl | rfl <;> rfl) hd (h' := jsI h a kf z) rfl rfl rfl (jWf_I hok.1 hr) (jE_sI hS hf.1 hf.2.1 (by rw [ht]; rfl)) jE_oI
    (fun H1 locs1 hok1 hz1 => k p l e R s m args below meth c G MC MS Z H1 locs1 cells slots ls cx hok1 hls (jst_tl (jst_tl hst)) hc hs hz1)
theorem V_putP {ix a ci kf v : Nat} (hd : decode (jmC M) pc = .ok (.putfield ix, 3)) (hf : jFL (jmO M) ix ci kf) (ht : jrt (jt_ ci kf) = true) (hfin : (jT_ ci kf).2.2.2 = false) (hS : (jS h a).1 = ci)
    (k : V M d (pc + 3) L st (jsP h a kf v) mc ms Q) : V M d pc L (.inr v :: .inr a :: st) h mc ms Q := by
  intro p l e R s m args below meth c G MC MS Z H locs cells slots ls cx hok hls hst hc hs hz
  obtain ⟨hx, hb, hml, hown, hts, hnm, hfr, hlo, hMC, hMS, hZ⟩ := id cx
  have hq := jfits_ref (jty_ref ci hf.1 kf hf.2.1 ht) G v
  exact jput_w hx hb hown hts hok hz hf hfin hS (v := va_rf (jrf G v)) hq.1 hq.2 hd (h' := jsP h a kf v) rfl rfl rfl (jWf_P hok.1) (jE_sP hS hf.1 hf.2.1 ht) jE_oP
    (fun H1 locs1 hok1 hz1 => k p l e R s m args below meth c G MC MS Z H1 locs1 cells slots ls cx hok1 hls (jst_tl (jst_tl hst)) hc hs hz1)
theorem V_putF {ix a ci kf v : Nat} (hd : decode (jmC M) pc = .ok (.putfield ix, 3)) (hf : ci < 10 ∧ kf < jF_ ci ∧ Cond.fieldLink (jmO M) ix (jT_ ci kf).1 (jT_ ci kf).2.1 (jT_ ci kf).2.2.1 ∈ jTs) (ht : jrt (jt_ ci kf) = true) (hfin : (jT_ ci kf).2.2.2 = true) (hinit : (jmY M).name = "<init>") (hdecl : (jT_ ci kf).1 = jmO M) (hS : (jS h a).1 = ci)
    (k : V M d (pc + 3) L st (jsP h a kf v) mc ms Q) : V M d pc L (.inr v :: .inr a :: st) h mc ms Q := by
  intro p l e R s m args below meth c G MC MS Z H locs cells slots ls cx hok hls hst hc hs hz
  obtain ⟨hx, hb, hml, hown, hts, hnm, hfr, hlo, hMC, hMS, hZ⟩ := id cx
  have hq := jfits_ref (jty_ref ci hf.1 kf hf.2.1 ht) G v
  exact jputF_w hx hb hown hts hok hz hf hfin (hnm.trans hinit) hdecl hS (v := va_rf (jrf G v)) hq.1 hq.2 hd (h' := jsP h a kf v) rfl rfl rfl (jWf_P hok.1) (jE_sP hS hf.1 hf.2.1 ht) jE_oP
    (fun H1 locs1 hok1 hz1 => k p l e R s m args below meth c G MC MS Z H1 locs1 cells slots ls cx hok1 hls (jst_tl (jst_tl hst)) hc hs hz1)
end JH
end
section
/-! ===== arrays, new, calls, returns, over V ===== -/
section JK
variable {M : jM} {d pc mc ms : Nat} {L : List (Option jA)} {st : List jA} {h : jH} {Q : Option jA → jH → Prop}
theorem jarr {G : jG} {h : jH} (hw : jWf h) {a ty : Nat} (hS : (jS h a).1 = ty) (hty : 16 ≤ ty) (hty2 : ty < 99) : 2 ≤ a ∧ a < jN h ∧ (jW G h)[a - 2]? = some (jgz G + (a - 2), .inl (jgA G ty, jar G h a ty (jS h a).2)) := by
  obtain ⟨h2, hn⟩ := jw_range hw (a := a) (by rw [hS]; omega) (by rw [hS]; omega)
  have he := jW_get G h h2 hn
  rw [jE_arr hS hty] at he
  exact ⟨h2, hn, he⟩
theorem jar_i {G : jG} {h : jH} {a ty len : Nat} (h18 : ty < 18) : jar G h a ty len = (len, .inl (fun j => Int32.ofInt (jX h a j))) := by unfold jar; rw [if_pos h18]
theorem jar_r {G : jG} {h : jH} {a ty len : Nat} (h18 : ¬ ty < 18) : jar G h a ty len = (len, .inr (.inr (.inr (.inr (fun j => jrf G (jY h a j)))))) := by unfold jar; rw [if_neg h18]
theorem V_iald {a : Nat} {i : Int} (hd : decode (jmC M) pc = .ok (.iaload, 1)) (hS : (jS h a).1 = 16) (h0 : 0 ≤ i) (h1 : i < (jS h a).2)
    (k : V M d (pc + 1) L (.inl (jX h a i.toNat) :: st) h mc ms Q) : V M d pc L (.inl i :: .inr a :: st) h mc ms Q := by
  intro p l e R s m args below meth c G MC MS Z H locs cells slots ls cx hok hls hst hc hs hz
  obtain ⟨hx, hb, hml, hown, hts, hnm, hfr, hlo, hMC, hMS, hZ⟩ := id cx
  obtain ⟨h2, hn, he⟩ := jarr (G := G) hok.1 hS (by decide) (by decide)
  rw [jar_i (by decide)] at he
  have hi : jR i := jst_hd hst
  have k1 := k p l e R s m args below meth c G MC MS Z H locs cells slots ls cx hok hls (jst_cons (v := .inl (jX h a i.toNat)) (hok.1.2.2.1 _ _) (jst_tl (jst_tl hst))) hc hs hz
  rw [List.map_cons, List.map_cons, show jV G (.inr a) = .ref (jgz G + (a - 2)) by show va_rf (jrf G a) = _; rw [jrf_at G h2]; rfl]
  rw [List.map_cons, ← j_ix hi] at k1
  exact va_iald hx hb hok.2.1.1 hok.2.2.1 (a - 2) 0 he rfl (j_in hi h0 h1) hd k1
theorem V_zald {a : Nat} {i : Int} (hd : decode (jmC M) pc = .ok (.baload, 1)) (hS : (jS h a).1 = 17) (h0 : 0 ≤ i) (h1 : i < (jS h a).2)
    (k : V M d (pc + 1) L (.inl (jX h a i.toNat) :: st) h mc ms Q) : V M d pc L (.inl i :: .inr a :: st) h mc ms Q := by
  intro p l e R s m args below meth c G MC MS Z H locs cells slots ls cx hok hls hst hc hs hz
  obtain ⟨hx, hb, hml, hown, hts, hnm, hfr, hlo, hMC, hMS, hZ⟩ := id cx
  obtain ⟨h2, hn, he⟩ := jarr (G := G) hok.1 hS (by decide) (by decide)
  rw [jar_i (by decide)] at he
  have hi : jR i := jst_hd hst
  have k1 := k p l e R s m args below meth c G MC MS Z H locs cells slots ls cx hok hls (jst_cons (v := .inl (jX h a i.toNat)) (hok.1.2.2.1 _ _) (jst_tl (jst_tl hst))) hc hs hz
  rw [List.map_cons, List.map_cons, show jV G (.inr a) = .ref (jgz G + (a - 2)) by show va_rf (jrf G a) = _; rw [jrf_at G h2]; rfl]
  rw [List.map_cons, ← j_ix hi] at k1
  exact va_zald hx hb hok.2.1.1 hok.2.2.1 (a - 2) 1 he rfl (j_in hi h0 h1) hd k1
theorem V_iast {a : Nat} {i z : Int} (hd : decode (jmC M) pc = .ok (.iastore, 1)) (hS : (jS h a).1 = 16) (h0 : 0 ≤ i) (h1 : i < (jS h a).2)
    (k : V M d (pc + 1) L st (jsX h a i.toNat z) mc ms Q) : V M d pc L (.inl z :: .inl i :: .inr a :: st) h mc ms Q := by
  intro p l e R s m args below meth c G MC MS Z H locs cells slots ls cx hok hls hst hc hs hz
  obtain ⟨hx, hb, hml, hown, hts, hnm, hfr, hlo, hMC, hMS, hZ⟩ := id cx
  obtain ⟨h2, hn, he⟩ := jarr (G := G) hok.1 hS (by decide) (by decide)
  rw [jar_i (by decide)] at he
  have hr : jR z := jst_hd hst
  have hi : jR i := jst_hd (jst_tl hst)
  have ha1 : a ≠ 1 := by omega
  rw [List.map_cons, List.map_cons, List.map_cons, show jV G (.inr a) = .ref (jgz G + (a - 2)) by show va_rf (jrf G a) = _; rw [jrf_at G h2]; rfl]
  refine va_iast hx hb hok.2.1.1 hok.2.2.1 (jD G h) (jS_rf hok.2.2.2.1) (a - 2) 0 he rfl (j_in hi h0 h1) hd (fun H1 locs1 hP1 _ hS1 => ?_)
  have hE : jE G (jsX h a i.toNat z) a = .inl (jgA G 16, (jS h a).2, .inl (upd (fun j => Int32.ofInt (jX h a j)) (Int32.ofInt i).toNatClampNeg (Int32.ofInt z))) := by
    rw [jE_arr (show (jS (jsX h a i.toNat z) a).1 = 16 from hS) (by decide), jar_i (by decide), j_ix hi]
    refine congrArg (fun f => (Sum.inl (jgA G 16, (jS h a).2, .inl f) : va_E)) (funext fun j => ?_)
    show Int32.ofInt (ju (jX h) a i.toNat z a j) = _
    unfold ju upd
    by_cases e : j = i.toNat
    · rw [if_pos ⟨rfl, e⟩, if_pos e]
    · rw [if_neg (fun q => e q.2), if_neg e]
  have hW := jW_ext (h := h) (h' := jsX h a i.toNat z) rfl h2 hn hE jE_oX
  refine jfin (h' := jsX h a i.toNat z) hok hz rfl rfl (ju_ne (by omega)) (jWf_X hok.1 hr) ?_ hS1 (fun hok1 hz1 => k p l e R s m args below meth c G MC MS Z H1 locs1 cells slots ls cx hok1 hls (jst_tl (jst_tl (jst_tl hst))) hc hs hz1)
  · rw [hW]
    exact hP1
theorem V_zast {a : Nat} {i z : Int} (hd : decode (jmC M) pc = .ok (.bastore, 1)) (hS : (jS h a).1 = 17) (h0 : 0 ≤ i) (h1 : i < (jS h a).2) (hzz : z = 0 ∨ z = 1)
    (k : V M d (pc + 1) L st (jsX h a i.toNat z) mc ms Q) : V M d pc L (.inl z :: .inl i :: .inr a :: st) h mc ms Q := by
  intro p l e R s m args below meth c G MC MS Z H locs cells slots ls cx hok hls hst hc hs hz
  obtain ⟨hx, hb, hml, hown, hts, hnm, hfr, hlo, hMC, hMS, hZ⟩ := id cx
  obtain ⟨h2, hn, he⟩ := jarr (G := G) hok.1 hS (by decide) (by decide)
  rw [jar_i (by decide)] at he
  have hr : jR z := jst_hd hst
  have hi : jR i := jst_hd (jst_tl hst)
  have ha1 : a ≠ 1 := by omega
  rw [List.map_cons, List.map_cons, List.map_cons, show jV G (.inr a) = .ref (jgz G + (a - 2)) by show va_rf (jrf G a) = _; rw [jrf_at G h2]; rfl]
  refine va_zast hx hb hok.2.1.1 hok.2.2.1 (jD G h) (jS_rf hok.2.2.2.1) (a - 2) 1 he rfl (j_in hi h0 h1) hd (fun H1 locs1 hP1 _ hS1 => ?_)
  have hE : jE G (jsX h a i.toNat z) a = .inl (jgA G 17, (jS h a).2, .inl (upd (fun j => Int32.ofInt (jX h a j)) (Int32.ofInt i).toNatClampNeg (Int32.ofInt z))) := by
    rw [jE_arr (show (jS (jsX h a i.toNat z) a).1 = 17 from hS) (by decide), jar_i (by decide), j_ix hi]
    refine congrArg (fun f => (Sum.inl (jgA G 17, (jS h a).2, .inl f) : va_E)) (funext fun j => ?_)
    show Int32.ofInt (ju (jX h) a i.toNat z a j) = _
    unfold ju upd
    by_cases e : j = i.toNat
    · rw [if_pos ⟨rfl, e⟩, if_pos e]
    · rw [if_neg (fun q => e q.2), if_neg e]
  have hW := jW_ext (h := h) (h' := jsX h a i.toNat z) rfl h2 hn hE jE_oX
  refine jfin (h' := jsX h a i.toNat z) hok hz rfl rfl (ju_ne (by omega)) (jWf_X hok.1 hr) ?_ hS1 (fun hok1 hz1 => k p l e R s m args below meth c G MC MS Z H1 locs1 cells slots ls cx hok1 hls (jst_tl (jst_tl (jst_tl hst))) hc hs hz1)
  · rw [hW]
    have e2 : vp_nar .boolean (Int32.ofInt z) = Int32.ofInt z := by rcases hzz with rfl | rfl <;> decide
    rw [e2] at hP1
    exact hP1
theorem V_aald18 {a : Nat} {i : Int} (hd : decode (jmC M) pc = .ok (.aaload, 1)) (hS : (jS h a).1 = 18) (h0 : 0 ≤ i) (h1 : i < (jS h a).2)
    (k : V M d (pc + 1) L (.inr (jY h a i.toNat) :: st) h mc ms Q) : V M d pc L (.inl i :: .inr a :: st) h mc ms Q := by
  intro p l e R s m args below meth c G MC MS Z H locs cells slots ls cx hok hls hst hc hs hz
  obtain ⟨hx, hb, hml, hown, hts, hnm, hfr, hlo, hMC, hMS, hZ⟩ := id cx
  obtain ⟨h2, hn, he⟩ := jarr (G := G) hok.1 hS (by decide) (by decide)
  rw [jar_r (by decide)] at he
  have hi : jR i := jst_hd hst
  have k1 := k p l e R s m args below meth c G MC MS Z H locs cells slots ls cx hok hls (jst_cons (v := .inr (jY h a i.toNat)) trivial (jst_tl (jst_tl hst))) hc hs hz
  rw [List.map_cons, List.map_cons, show jV G (.inr a) = .ref (jgz G + (a - 2)) by show va_rf (jrf G a) = _; rw [jrf_at G h2]; rfl]
  rw [List.map_cons, ← j_ix hi] at k1
  have hin := j_in hi h0 h1
  have hlt : (Int32.ofInt i).toNatClampNeg < (jS h a).2 := Nat.not_le.mp fun q => hin (Or.inr q)
  have hat : H[jgz G + (a - 2)]? = some (arrV (jgA G 18) (jS h a).2 (fun j => va_rf (jrf G (jY h a j)))) := hok.2.2.1 (a - 2) _ he
  exact W.aald (ty := .object RX0) hx hb hat ((hok.2.1.1.2 2 (jgA G 18, .object RX0) rfl).1 _ _) rfl (fun q => by cases q) (by rw [arrV_size]; exact hin) (by rw [arrV_read _ _ hlt]; rfl) rfl rfl hd k1
theorem V_aald19 {a : Nat} {i : Int} (hd : decode (jmC M) pc = .ok (.aaload, 1)) (hS : (jS h a).1 = 19) (h0 : 0 ≤ i) (h1 : i < (jS h a).2)
    (k : V M d (pc + 1) L (.inr (jY h a i.toNat) :: st) h mc ms Q) : V M d pc L (.inl i :: .inr a :: st) h mc ms Q := by
  intro p l e R s m args below meth c G MC MS Z H locs cells slots ls cx hok hls hst hc hs hz
  obtain ⟨hx, hb, hml, hown, hts, hnm, hfr, hlo, hMC, hMS, hZ⟩ := id cx
  obtain ⟨h2, hn, he⟩ := jarr (G := G) hok.1 hS (by decide) (by decide)
  rw [jar_r (by decide)] at he
  have hi : jR i := jst_hd hst
  have k1 := k p l e R s m args below meth c G MC MS Z H locs cells slots ls cx hok hls (jst_cons (v := .inr (jY h a i.toNat)) trivial (jst_tl (jst_tl hst))) hc hs hz
  rw [List.map_cons, List.map_cons, show jV G (.inr a) = .ref (jgz G + (a - 2)) by show va_rf (jrf G a) = _; rw [jrf_at G h2]; rfl]
  rw [List.map_cons, ← j_ix hi] at k1
  have hin := j_in hi h0 h1
  have hlt : (Int32.ofInt i).toNatClampNeg < (jS h a).2 := Nat.not_le.mp fun q => hin (Or.inr q)
  have hat : H[jgz G + (a - 2)]? = some (arrV (jgA G 19) (jS h a).2 (fun j => va_rf (jrf G (jY h a j)))) := hok.2.2.1 (a - 2) _ he
  exact W.aald (ty := .object RX6) hx hb hat ((hok.2.1.1.2 3 (jgA G 19, .object RX6) rfl).1 _ _) rfl (fun q => by cases q) (by rw [arrV_size]; exact hin) (by rw [arrV_read _ _ hlt]; rfl) rfl rfl hd k1
theorem V_aald20 {a : Nat} {i : Int} (hd : decode (jmC M) pc = .ok (.aaload, 1)) (hS : (jS h a).1 = 20) (h0 : 0 ≤ i) (h1 : i < (jS h a).2)
    (k : V M d (pc + 1) L (.inr (jY h a i.toNat) :: st) h mc ms Q) : V M d pc L (.inl i :: .inr a :: st) h mc ms Q := by
  intro p l e R s m args below meth c G MC MS Z H locs cells slots ls cx hok hls hst hc hs hz
  obtain ⟨hx, hb, hml, hown, hts, hnm, hfr, hlo, hMC, hMS, hZ⟩ := id cx
  obtain ⟨h2, hn, he⟩ := jarr (G := G) hok.1 hS (by decide) (by decide)
  rw [jar_r (by decide)] at he
  have hi : jR i := jst_hd hst
  have k1 := k p l e R s m args below meth c G MC MS Z H locs cells slots ls cx hok hls (jst_cons (v := .inr (jY h a i.toNat)) trivial (jst_tl (jst_tl hst))) hc hs hz
  rw [List.map_cons, List.map_cons, show jV G (.inr a) = .ref (jgz G + (a - 2)) by show va_rf (jrf G a) = _; rw [jrf_at G h2]; rfl]
  rw [List.map_cons, ← j_ix hi] at k1
  have hin := j_in hi h0 h1
  have hlt : (Int32.ofInt i).toNatClampNeg < (jS h a).2 := Nat.not_le.mp fun q => hin (Or.inr q)
  have hat : H[jgz G + (a - 2)]? = some (arrV (jgA G 20) (jS h a).2 (fun j => va_rf (jrf G (jY h a j)))) := hok.2.2.1 (a - 2) _ he
  exact W.aald (ty := .array .int) hx hb hat ((hok.2.1.1.2 4 (jgA G 20, .array .int) rfl).1 _ _) rfl (fun q => by cases q) (by rw [arrV_size]; exact hin) (by rw [arrV_read _ _ hlt]; rfl) rfl rfl hd k1
theorem V_aast18 {a v : Nat} {i : Int} (hd : decode (jmC M) pc = .ok (.aastore, 1)) (hS : (jS h a).1 = 18) (h0 : 0 ≤ i) (h1 : i < (jS h a).2) (hv : (jS h v).1 = 0)
    (k : V M d (pc + 1) L st (jsY h a i.toNat v) mc ms Q) : V M d pc L (.inr v :: .inl i :: .inr a :: st) h mc ms Q := by
  intro p l e R s m args below meth c G MC MS Z H locs cells slots ls cx hok hls hst hc hs hz
  obtain ⟨hx, hb, hml, hown, hts, hnm, hfr, hlo, hMC, hMS, hZ⟩ := id cx
  obtain ⟨h2, hn, he⟩ := jarr (G := G) hok.1 hS (by decide) (by decide)
  rw [jar_r (by decide)] at he
  obtain ⟨v2, vn⟩ := jw_range hok.1 (a := v) (by rw [hv]; decide) (by rw [hv]; decide)
  have hev := jW_get G h v2 vn
  rw [jE_obj hv (by decide)] at hev
  have hi : jR i := jst_hd (jst_tl hst)
  rw [List.map_cons, List.map_cons, List.map_cons, show jV G (.inr a) = .ref (jgz G + (a - 2)) by (show va_rf (jrf G a) = _; rw [jrf_at G h2]; rfl), show jV G (.inr v) = .ref (jgz G + (v - 2)) by (show va_rf (jrf G v) = _; rw [jrf_at G v2]; rfl)]
  refine va_astq hx hb hok.2.1.1 hok.2.2.1 (jD G h) (jS_rf hok.2.2.2.1) (a - 2) 2 (v - 2) 0 (r := (RX0, jT_ 0, jF_ 0)) he rfl hev (jcl_get 0 (by decide)) (j_in hi h0 h1) hd (fun H1 locs1 hP1 _ hS1 => ?_)
  have hE : jE G (jsY h a i.toNat v) a = .inl (jgA G 18, (jS h a).2, .inr (.inr (.inr (.inr (va_up (fun j => jrf G (jY h a j)) (Int32.ofInt i).toNatClampNeg (some (jgz G + (v - 2)))))))) := by
    rw [jE_arr (show (jS (jsY h a i.toNat v) a).1 = 18 from hS) (by decide), jar_r (by decide), j_ix hi, ← jrf_at G v2]
    refine congrArg (fun f => (Sum.inl (jgA G 18, (jS h a).2, .inr (.inr (.inr (.inr f)))) : va_E)) (funext fun j => ?_)
    show jrf G (ju (jY h) a i.toNat v a j) = _
    unfold ju va_up
    by_cases e : j = i.toNat
    · rw [if_pos ⟨rfl, e⟩, if_pos e]
    · rw [if_neg (fun q => e q.2), if_neg e]
  have hW := jW_ext (h := h) (h' := jsY h a i.toNat v) rfl h2 hn hE jE_oY
  exact jfin (h' := jsY h a i.toNat v) hok hz rfl rfl rfl (jWf_Y hok.1) (by rw [hW]; exact hP1) hS1 (fun hok1 hz1 => k p l e R s m args below meth c G MC MS Z H1 locs1 cells slots ls cx hok1 hls (jst_tl (jst_tl (jst_tl hst))) hc hs hz1)
theorem V_aast19 {a v : Nat} {i : Int} (hd : decode (jmC M) pc = .ok (.aastore, 1)) (hS : (jS h a).1 = 19) (h0 : 0 ≤ i) (h1 : i < (jS h a).2) (hv : (jS h v).1 = 6)
    (k : V M d (pc + 1) L st (jsY h a i.toNat v) mc ms Q) : V M d pc L (.inr v :: .inl i :: .inr a :: st) h mc ms Q := by
  intro p l e R s m args below meth c G MC MS Z H locs cells slots ls cx hok hls hst hc hs hz
  obtain ⟨hx, hb, hml, hown, hts, hnm, hfr, hlo, hMC, hMS, hZ⟩ := id cx
  obtain ⟨h2, hn, he⟩ := jarr (G := G) hok.1 hS (by decide) (by decide)
  rw [jar_r (by decide)] at he
  obtain ⟨v2, vn⟩ := jw_range hok.1 (a := v) (by rw [hv]; decide) (by rw [hv]; decide)
  have hev := jW_get G h v2 vn
  rw [jE_obj hv (by decide)] at hev
  have hi : jR i := jst_hd (jst_tl hst)
  rw [List.map_cons, List.map_cons, List.map_cons, show jV G (.inr a) = .ref (jgz G + (a - 2)) by (show va_rf (jrf G a) = _; rw [jrf_at G h2]; rfl), show jV G (.inr v) = .ref (jgz G + (v - 2)) by (show va_rf (jrf G v) = _; rw [jrf_at G v2]; rfl)]
  refine va_astq hx hb hok.2.1.1 hok.2.2.1 (jD G h) (jS_rf hok.2.2.2.1) (a - 2) 3 (v - 2) 6 (r := (RX6, jT_ 6, jF_ 6)) he rfl hev (jcl_get 6 (by decide)) (j_in hi h0 h1) hd (fun H1 locs1 hP1 _ hS1 => ?_)
  have hE : jE G (jsY h a i.toNat v) a = .inl (jgA G 19, (jS h a).2, .inr (.inr (.inr (.inr (va_up (fun j => jrf G (jY h a j)) (Int32.ofInt i).toNatClampNeg (some (jgz G + (v - 2)))))))) := by
    rw [jE_arr (show (jS (jsY h a i.toNat v) a).1 = 19 from hS) (by decide), jar_r (by decide), j_ix hi, ← jrf_at G v2]
    refine congrArg (fun f => (Sum.inl (jgA G 19, (jS h a).2, .inr (.inr (.inr (.inr f)))) : va_E)) (funext fun j => ?_)
    show jrf G (ju (jY h) a i.toNat v a j) = _
    unfold ju va_up
    by_cases e : j = i.toNat
    · rw [if_pos ⟨rfl, e⟩, if_pos e]
    · rw [if_neg (fun q => e q.2), if_neg e]
  have hW := jW_ext (h := h) (h' := jsY h a i.toNat v) rfl h2 hn hE jE_oY
  exact jfin (h' := jsY h a i.toNat v) hok hz rfl rfl rfl (jWf_Y hok.1) (by rw [hW]; exact hP1) hS1 (fun hok1 hz1 => k p l e R s m args below meth c G MC MS Z H1 locs1 cells slots ls cx hok1 hls (jst_tl (jst_tl (jst_tl hst))) hc hs hz1)
theorem j_ofNat (n : Nat) : Int32.ofNat n = Int32.ofInt (n : Int) := by
  apply Int32.toBitVec.inj
  simp
theorem V_alen {a t : Nat} (hd : decode (jmC M) pc = .ok (.arraylength, 1)) (hS : (jS h a).1 = 16 + t) (ht : t < 5)
    (k : V M d (pc + 1) L (.inl ((jS h a).2 : Int) :: st) h mc ms Q) : V M d pc L (.inr a :: st) h mc ms Q := by
  intro p l e R s m args below meth c G MC MS Z H locs cells slots ls cx hok hls hst hc hs hz
  obtain ⟨hx, hb, hml, hown, hts, hnm, hfr, hlo, hMC, hMS, hZ⟩ := id cx
  obtain ⟨h2, hn, he⟩ := jarr (G := G) hok.1 hS (by omega) (by omega)
  have hlen : (jS h a).2 < 2147483648 := hok.1.2.2.2.2.2.2 a
  have k1 := k p l e R s m args below meth c G MC MS Z H locs cells slots ls cx hok hls (jst_cons (v := .inl ((jS h a).2 : Int)) ⟨by omega, by omega⟩ (jst_tl hst)) hc hs hz
  rw [List.map_cons, show jV G (.inr a) = .ref (jgz G + (a - 2)) by show va_rf (jrf G a) = _; rw [jrf_at G h2]; rfl]
  obtain ⟨ty, hty⟩ : ∃ ty, (jtys G)[t]? = some (jgA G (16 + t), ty) := by
    rcases (show t = 0 ∨ t = 1 ∨ t = 2 ∨ t = 3 ∨ t = 4 by omega) with rfl | rfl | rfl | rfl | rfl <;> exact ⟨_, rfl⟩
  exact va_alen hx hb hok.2.1.1 hok.2.2.1 (a - 2) t he hty (v := Int32.ofInt ((jS h a).2 : Int)) (by rw [← j_ofNat]; rfl) hd k1
theorem V_slen (hd : decode (jmC M) pc = .ok (.arraylength, 1))
    (k : V M d (pc + 1) L (.inl ((jS h 1).2 : Int) :: st) h mc ms Q) : V M d pc L (.inr 1 :: st) h mc ms Q := by
  intro p l e R s m args below meth c G MC MS Z H locs cells slots ls cx hok hls hst hc hs hz
  obtain ⟨hx, hb, hml, hown, hts, hnm, hfr, hlo, hMC, hMS, hZ⟩ := id cx
  have hlen : (jS h 1).2 < 2147483648 := hok.1.2.2.2.2.2.2 1
  have k1 := k p l e R s m args below meth c G MC MS Z H locs cells slots ls cx hok hls (jst_cons (v := .inl ((jS h 1).2 : Int)) ⟨by omega, by omega⟩ (jst_tl hst)) hc hs hz
  rw [List.map_cons, show jV G (.inl ((jS h 1).2 : Int)) = .int (Int32.ofNat (jS h 1).2) by rw [j_ofNat]; rfl] at k1
  obtain ⟨hw, hs9, hP, hSS, hsz, hbz, hz0, hX⟩ := hok
  exact va_slen (A := jAt G) hx hb hX (by omega) (by show ¬ jgz G ≤ jgb G; omega) (jS_rf hSS) hd k1
theorem V_sld {i : Int} (hd : decode (jmC M) pc = .ok (.iaload, 1)) (h0 : 0 ≤ i) (h1 : i < (jS h 1).2)
    (k : V M d (pc + 1) L (.inl (jX h 1 i.toNat) :: st) h mc ms Q) : V M d pc L (.inl i :: .inr 1 :: st) h mc ms Q := by
  intro p l e R s m args below meth c G MC MS Z H locs cells slots ls cx hok hls hst hc hs hz
  obtain ⟨hx, hb, hml, hown, hts, hnm, hfr, hlo, hMC, hMS, hZ⟩ := id cx
  have hi : jR i := jst_hd hst
  have k1 := k p l e R s m args below meth c G MC MS Z H locs cells slots ls cx hok hls (jst_cons (v := .inl (jX h 1 i.toNat)) (hok.1.2.2.1 _ _) (jst_tl (jst_tl hst))) hc hs hz
  rw [List.map_cons, ← j_ix hi] at k1
  obtain ⟨hw, hs9, hP, hSS, hsz, hbz, hz0, hX⟩ := hok
  exact va_sld (A := jAt G) (xs := fun j => Int32.ofInt (jX h 1 j)) hx hb hX (by omega) (by show ¬ jgz G ≤ jgb G; omega) (jS_rf hSS) (j_in hi h0 h1) hd k1
theorem V_ret (hm : mc = 0) (hm2 : ms = 0) {v : Option jA} (hd : decode (jmC M) pc = .ok (jRI (jmR M), 1)) (hr : jRet (jmR M) v) (hst0 : st = v.toList) (hQ : Q v h) : V M d pc L st h mc ms Q := by
  subst hm
  subst hm2
  subst hst0
  intro p l e R s m args below meth c G MC MS Z H locs cells slots ls cx hok hls hst hc hs hz
  obtain ⟨hx, hb, hml, hown, hts, hnm, hfr, hlo, hMC, hMS, hZ⟩ := id cx
  rw [Nat.add_zero] at hc hs
  subst hc
  subst hs
  exact hZ v h H locs pc ls hQ hok hr hz hd
end JK
end
section
/-! ===== new cells, arraycopy, calls, over V ===== -/
section JL
variable {M : jM} {d pc mc ms : Nat} {L : List (Option jA)} {st : List jA} {h : jH} {Q : Option jA → jH → Prop}
theorem jz_at {α : Type} {f : Nat → Nat → α} {a : Nat} {v : α} (k : Nat) : jz f a v a k = v := if_pos rfl
theorem jz_ne {α : Type} {f : Nat → Nat → α} {a b : Nat} {v : α} (hb : b ≠ a) : jz f a v b = f b := funext fun _ => if_neg hb
theorem jnew_o {G : jG} {h : jH} {kind len b : Nat} (hb : b ≠ jN h) : jE G (jnew h kind len) b = jE G h b := jE_eq (if_neg hb) (jz_ne hb) (jz_ne hb) (jz_ne hb) (jz_ne hb)
theorem jnew_W (G : jG) (h : jH) (kind len : Nat) (h2 : 2 ≤ jN h) : jW G (jnew h kind len) = jW G h ++ [(jgz G + (jN h - 2), jE G (jnew h kind len) (jN h))] := by
  unfold jW
  rw [show jN (jnew h kind len) - 2 = (jN h - 2) + 1 by show jN h + 1 - 2 = _; omega, List.range_succ, List.map_append]
  congr 1
  · refine List.map_congr_left (fun i hi => ?_)
    rw [jnew_o (by have := List.mem_range.mp hi; omega)]
  · simp only [List.map_cons, List.map_nil, show jN h - 2 + 2 = jN h by omega]
theorem jnew_wf {h : jH} {kind len : Nat} (hw : jWf h) (hl : len < 2147483648) : jWf (jnew h kind len) := by
  obtain ⟨h2, hI, hX, h0, h1, hn, hlen⟩ := hw
  refine ⟨by show 2 ≤ jN h + 1; omega, fun a k => ?_, fun a k => ?_, ?_, ?_, fun a ha => ?_, fun a => ?_⟩
  · show jR (jz (jI h) (jN h) 0 a k)
    unfold jz
    split
    · exact jR_0
    · exact hI a k
  · show jR (jz (jX h) (jN h) 0 a k)
    unfold jz
    split
    · exact jR_0
    · exact hX a k
  · show (if 0 = jN h then (kind, len) else jS h 0).1 = 99
    rw [if_neg (by omega)]; exact h0
  · show (if 1 = jN h then (kind, len) else jS h 1).1 = 15
    rw [if_neg (by omega)]; exact h1
  · have ha : jN h + 1 ≤ a := ha
    show (if a = jN h then (kind, len) else jS h a).1 = 99
    rw [if_neg (by omega)]; exact hn a (by omega)
  · show (if a = jN h then (kind, len) else jS h a).2 < _
    split
    · exact hl
    · exact hlen a
theorem jW_len (G : jG) (h : jH) : (jW G h).length = jN h - 2 := by simp [jW]
theorem jrf_new (G : jG) (h : jH) (h2 : 2 ≤ jN h) : va_rf (jrf G (jN h)) = .ref (jgz G + (jN h - 2)) := by rw [jrf_at G h2]; rfl
/-- behind a new cell -/
theorem jfinN {p : Program} {l : Launch} {e : Env} {R : Room} {s : State} {m : MethodId} {args : Array Value} {below : List Frame} {meth : Method} {c : Code} {H : Heap} {locs : List Loc} {cells : Nat} {Z : State → Prop} {G : jG} {h : jH} {kind len q : Nat} {E : va_E} {H1 : Heap} {locs1 : List Loc} {slots1 : Nat} {g : Nat → JFrame} (hok : jOk G h s.heap H locs s) (hz : H.size = s.heap.size + cells) (hl : len < 2147483648) (hE : jE G (jnew h kind len) (jN h) = E)
    (hP1 : va_P (jgD G) jcl (jW G h ++ [(q, E)]) H1) (hD1 : va_D (jAt G) (jW G h ++ [(q, E)])) (hSS : va_S (jAt G) H H1 locs1)
    (kk : jOk G (jnew h kind len) s.heap H1 locs1 s → H1.size = s.heap.size + (cells + 1) → W p l e R s m args below meth c H1 locs1 (cells + 1) slots1 Z (g (jgz G + (jN h - 2)))) : W p l e R s m args below meth c H1 locs1 (cells + 1) slots1 Z (g q) := by
  intro T hT X
  have hup := X.heapSize
  rw [hT] at hup
  obtain ⟨hw, hst, hP, hS0, hsz, hbz, hz0, hX⟩ := hok
  have hlast : (jW G h ++ [(q, E)])[jN h - 2]? = some (q, E) := by
    rw [List.getElem?_append_right (by rw [jW_len]; omega), jW_len, Nat.sub_self]; rfl
  have hq1 : q < H1.size := (hP1 _ _ hlast).lt
  have hq2 : jgz G ≤ q := hD1.2 _ _ hlast
  have hge : jgz G + (jN h - 2) ≤ q := by
    rcases Nat.lt_or_ge q (jgz G + (jN h - 2)) with z | z
    · exfalso
      have hg := jW_get G h (a := q - jgz G + 2) (by omega) (by omega)
      rw [show q - jgz G + 2 - 2 = q - jgz G by omega] at hg
      have hg' : (jW G h ++ [(q, E)])[q - jgz G]? = some (jgz G + (q - jgz G), jE G h (q - jgz G + 2)) := by
        rw [List.getElem?_append_left (by rw [jW_len]; omega)]; exact hg
      have := hD1.1 _ _ _ _ hg' hlast (show jgz G + (q - jgz G) = q by omega)
      omega
    · exact z
  have h1 := hSS.1
  obtain rfl : q = jgz G + (jN h - 2) := by omega
  refine kk ⟨jnew_wf hw hl, hst, ?_, ⟨by omega, fun q hq hA => (hSS.2.1 q (by omega) hA).trans (hS0.2.1 q hq hA), hSS.2.2⟩, ?_, hbz, hz0, ?_⟩ (by omega) T hT X
  · rw [jnew_W G h kind len hw.1, hE]; exact hP1
  · show H1.size = jgz G + (jN h + 1 - 2)
    have := hw.1
    omega
  · have e1 : jS (jnew h kind len) 1 = jS h 1 := if_neg (by have := hw.1; omega)
    have e2 : jX (jnew h kind len) 1 = jX h 1 := jz_ne (by have := hw.1; omega)
    rw [e1, e2]
    exact hX.kept (hSS.2.1 _ (by omega) (by show ¬ jgz G ≤ jgb G; omega))
theorem jfv_new {G : jG} {h : jH} {kind len c k : Nat} : jfv G (jnew h kind len) (jN h) c k = if jrt (jt_ c k) then .null else .int 0 := by
  unfold jfv
  rw [show jP (jnew h kind len) (jN h) k = 0 from jz_at k, show jI (jnew h kind len) (jN h) k = 0 from jz_at k]
  rfl
theorem jF_lt : ∀ c, c < 10 → jF_ c < 2147483648 := by decide
theorem jnfw : nativeFrameWords "java/lang/System" "arraycopy" 5 ≤ 40 := by decide +kernel
theorem jdef : ∀ c, c < 10 → ∀ k, k < jF_ c → defaultValue (jt_ c k) = if jrt (jt_ c k) then .null else .int 0 := by
  intro c hc k hk
  have h1 := jty_ref c hc k hk
  cases hr : jrt (jt_ c k) with
  | true =>
    rcases h1 hr with ⟨C, h⟩ | ⟨u, h⟩ <;> rw [h] <;> rfl
  | false =>
    generalize jt_ c k = t at hr
    cases t <;> first | rfl | cases hr
theorem V_new {ix ci n : Nat} (hd : decode (jmC M) pc = .ok (.new ix, 3)) (hn : n = jF_ ci) (hci : ci < 10) (hcl : Cond.classLink (jmO M) ix (jR_ ci) ∈ jTs) (hin : Cond.instantiable (jR_ ci) n ∈ jTs) (hini : Cond.initialized (jR_ ci) ∈ jTs)
    (k : V M d (pc + 3) L (.inr (jN h) :: st) (jnew h ci n) mc ms Q) : V M d pc L st h (mc + 1) (ms + n) Q := by
  intro p l e R s m args below meth c G MC MS Z H locs cells slots ls cx hok hls hst hc hs hz
  obtain ⟨hx, hb, hml, hown, hts, hnm, hfr, hlo, hMC, hMS, hZ⟩ := id cx
  subst hn
  have h2 := hok.1.1
  have hE : jE G (jnew h ci (jF_ ci)) (jN h) = .inr (ci, jfs G (jnew h ci (jF_ ci)) (jN h) ci) := jE_obj (by show (if jN h = jN h then _ else _ : Nat × Nat).1 = ci; rw [if_pos rfl]) hci
  refine va_new (ci := ci) (fs := jfs G (jnew h ci (jF_ ci)) (jN h) ci) (C := jR_ ci) (T := jT_ ci) (N := jF_ ci) hx hb hts (jin ci hci) (jt_ ci) (jt_ok ci hci) hown (hts _ hcl) (hts _ hin) (hts _ hini) hok.2.1.1 hok.2.2.1 (jD G h) (jS_rf hok.2.2.2.1) (fun q hq => by show jgz G ≤ q; have := hok.2.2.2.2.1; omega) (jcl_get ci hci)
    (fun j hj => by unfold vp_V; rw [List.getD_eq_getElem?_getD, jfs_get hj, jfv_new, ← jdef ci hci j hj]; rfl) (by omega) (by omega) hd (fun q H1 hP1 hD1 hS1 => ?_)
  refine jfinN (kind := ci) (len := jF_ ci) (g := fun q => F0 m (pc + 3) ls (.ref q :: st.map (jV G))) hok hz (jF_lt ci hci) hE hP1 hD1 hS1 (fun hok1 hz1 => ?_)
  have k1 := k p l e R s m args below meth c G MC MS Z H1 locs (cells + 1) (slots + jF_ ci) ls cx hok1 hls (jst_cons (v := .inr (jN h)) trivial hst) (by omega) (by omega) hz1
  rw [List.map_cons, show jV G (.inr (jN h)) = .ref (jgz G + (jN h - 2)) from jrf_new G h h2] at k1
  exact k1
theorem V_newi {n : Int} (hd : decode (jmC M) pc = .ok (.newarray .int, 2)) (hac : Cond.arrayClass .int ∈ jTs) (h0 : 0 ≤ n) (h1 : n ≤ 100000)
    (k : V M d (pc + 2) L (.inr (jN h) :: st) (jnew h 16 n.toNat) mc ms Q) : V M d pc L (.inl n :: st) h (mc + 1) (ms + n.toNat) Q := by
  intro p l e R s m args below meth c G MC MS Z H locs cells slots ls cx hok hls hst hc hs hz
  obtain ⟨hx, hb, hml, hown, hts, hnm, hfr, hlo, hMC, hMS, hZ⟩ := id cx
  have h2 := hok.1.1
  have hr : jR n := jst_hd hst
  have hE : jE G (jnew h 16 n.toNat) (jN h) = .inl (jgA G 16, (n.toNat, .inl (fun _ => 0))) := by
    have e0 : jS (jnew h 16 n.toNat) (jN h) = (16, n.toNat) := if_pos rfl
    rw [jE_arr (c := 16) (by rw [e0]) (by decide), jar_i (by decide), e0]
    refine congrArg (fun f => (Sum.inl (jgA G 16, n.toNat, .inl f) : va_E)) (funext fun j => ?_)
    rw [show jX (jnew h 16 n.toNat) (jN h) j = 0 from jz_at j]
    rfl
  refine va_newa (atype := .int) (ty := .int) (a0 := (n.toNat, .inl (fun _ => 0))) (N' := n.toNat) hx hb (hts _ hac) rfl hok.2.1.1 hok.2.2.1 (jD G h) (jS_rf hok.2.2.2.1) (fun q hq => by show jgz G ≤ q; have := hok.2.2.2.2.1; omega)
    (fun cA => rfl) (j_nneg hr h0) (j_ix hr) (by show n.toNat * 4 ≤ _; omega) (by omega) (by omega) hd (fun q cA H1 hK1 hP1 hD1 hS1 => ?_)
  have hcA : cA = jgA G 16 := by
    have e1 := (hK1.2 5 (cA, .int) rfl).2
    have e2 := (hK1.2 0 (jgA G 16, .int) rfl).2
    exact Option.some.inj ((show _ = some cA from e1).symm.trans (show _ = some (jgA G 16) from e2))
  subst hcA
  refine jfinN (kind := 16) (len := n.toNat) (g := fun q => F0 m (pc + 2) ls (.ref q :: st.map (jV G))) hok hz (by omega) hE hP1 hD1 hS1 (fun hok1 hz1 => ?_)
  have k1 := k p l e R s m args below meth c G MC MS Z H1 locs (cells + 1) (slots + n.toNat) ls cx hok1 hls (jst_cons (v := .inr (jN h)) trivial (jst_tl hst)) (by omega) (by omega) hz1
  rw [List.map_cons, show jV G (.inr (jN h)) = .ref (jgz G + (jN h - 2)) from jrf_new G h h2] at k1
  exact k1
theorem V_newz {n : Int} (hd : decode (jmC M) pc = .ok (.newarray .boolean, 2)) (hac : Cond.arrayClass .boolean ∈ jTs) (h0 : 0 ≤ n) (h1 : n ≤ 100000)
    (k : V M d (pc + 2) L (.inr (jN h) :: st) (jnew h 17 n.toNat) mc ms Q) : V M d pc L (.inl n :: st) h (mc + 1) (ms + n.toNat) Q := by
  intro p l e R s m args below meth c G MC MS Z H locs cells slots ls cx hok hls hst hc hs hz
  obtain ⟨hx, hb, hml, hown, hts, hnm, hfr, hlo, hMC, hMS, hZ⟩ := id cx
  have h2 := hok.1.1
  have hr : jR n := jst_hd hst
  have hE : jE G (jnew h 17 n.toNat) (jN h) = .inl (jgA G 17, (n.toNat, .inl (fun _ => 0))) := by
    have e0 : jS (jnew h 17 n.toNat) (jN h) = (17, n.toNat) := if_pos rfl
    rw [jE_arr (c := 17) (by rw [e0]) (by decide), jar_i (by decide), e0]
    refine congrArg (fun f => (Sum.inl (jgA G 17, n.toNat, .inl f) : va_E)) (funext fun j => ?_)
    rw [show jX (jnew h 17 n.toNat) (jN h) j = 0 from jz_at j]
    rfl
  refine va_newa (atype := .boolean) (ty := .boolean) (a0 := (n.toNat, .inl (fun _ => 0))) (N' := n.toNat) hx hb (hts _ hac) rfl hok.2.1.1 hok.2.2.1 (jD G h) (jS_rf hok.2.2.2.1) (fun q hq => by show jgz G ≤ q; have := hok.2.2.2.2.1; omega)
    (fun cA => rfl) (j_nneg hr h0) (j_ix hr) (by show n.toNat * 1 ≤ _; omega) (by omega) (by omega) hd (fun q cA H1 hK1 hP1 hD1 hS1 => ?_)
  have hcA : cA = jgA G 17 := by
    have e1 := (hK1.2 5 (cA, .boolean) rfl).2
    have e2 := (hK1.2 1 (jgA G 17, .boolean) rfl).2
    exact Option.some.inj ((show _ = some cA from e1).symm.trans (show _ = some (jgA G 17) from e2))
  subst hcA
  refine jfinN (kind := 17) (len := n.toNat) (g := fun q => F0 m (pc + 2) ls (.ref q :: st.map (jV G))) hok hz (by omega) hE hP1 hD1 hS1 (fun hok1 hz1 => ?_)
  have k1 := k p l e R s m args below meth c G MC MS Z H1 locs (cells + 1) (slots + n.toNat) ls cx hok1 hls (jst_cons (v := .inr (jN h)) trivial (jst_tl hst)) (by omega) (by omega) hz1
  rw [List.map_cons, show jV G (.inr (jN h)) = .ref (jgz G + (jN h - 2)) from jrf_new G h h2] at k1
  exact k1
theorem V_newq18 {ix : Nat} {n : Int} (hd : decode (jmC M) pc = .ok (.anewarray ix, 3)) (hcl : Cond.classLink (jmO M) ix RX0 ∈ jTs) (h0 : 0 ≤ n) (h1 : n ≤ 100000)
    (k : V M d (pc + 3) L (.inr (jN h) :: st) (jnew h 18 n.toNat) mc ms Q) : V M d pc L (.inl n :: st) h (mc + 1) (ms + n.toNat) Q := by
  intro p l e R s m args below meth c G MC MS Z H locs cells slots ls cx hok hls hst hc hs hz
  obtain ⟨hx, hb, hml, hown, hts, hnm, hfr, hlo, hMC, hMS, hZ⟩ := id cx
  have h2 := hok.1.1
  have hr : jR n := jst_hd hst
  have hE : jE G (jnew h 18 n.toNat) (jN h) = .inl (jgA G 18, (n.toNat, .inr (.inr (.inr (.inr (fun _ => none)))))) := by
    have e0 : jS (jnew h 18 n.toNat) (jN h) = (18, n.toNat) := if_pos rfl
    rw [jE_arr (c := 18) (by rw [e0]) (by decide), jar_r (by decide), e0]
    refine congrArg (fun f => (Sum.inl (jgA G 18, n.toNat, .inr (.inr (.inr (.inr f)))) : va_E)) (funext fun j => ?_)
    rw [show jY (jnew h 18 n.toNat) (jN h) j = 0 from jz_at j]
    rfl
  refine va_newq (C := RX0) (N' := n.toNat) hx hb hown (hts _ hcl) hok.2.1.2.2.1 hok.2.1.1 hok.2.2.1 (jD G h) (jS_rf hok.2.2.2.1) (fun q hq => by show jgz G ≤ q; have := hok.2.2.2.2.1; omega)
    (j_nneg hr h0) (j_ix hr) (by omega) (by omega) (by omega) hd (fun q cA H1 hK1 hP1 hD1 hS1 => ?_)
  have hcA : cA = jgA G 18 := by
    obtain ⟨_, _, _, _, _, e1⟩ := (hK1.2 5 (cA, .object RX0) rfl).2
    obtain ⟨_, _, _, _, _, e2⟩ := (hK1.2 2 (jgA G 18, .object RX0) rfl).2
    exact Option.some.inj (e1.symm.trans e2)
  subst hcA
  refine jfinN (kind := 18) (len := n.toNat) (g := fun q => F0 m (pc + 3) ls (.ref q :: st.map (jV G))) hok hz (by omega) hE hP1 hD1 hS1 (fun hok1 hz1 => ?_)
  have k1 := k p l e R s m args below meth c G MC MS Z H1 locs (cells + 1) (slots + n.toNat) ls cx hok1 hls (jst_cons (v := .inr (jN h)) trivial (jst_tl hst)) (by omega) (by omega) hz1
  rw [List.map_cons, show jV G (.inr (jN h)) = .ref (jgz G + (jN h - 2)) from jrf_new G h h2] at k1
  exact k1
theorem V_newq19 {ix : Nat} {n : Int} (hd : decode (jmC M) pc = .ok (.anewarray ix, 3)) (hcl : Cond.classLink (jmO M) ix RX6 ∈ jTs) (h0 : 0 ≤ n) (h1 : n ≤ 100000)
    (k : V M d (pc + 3) L (.inr (jN h) :: st) (jnew h 19 n.toNat) mc ms Q) : V M d pc L (.inl n :: st) h (mc + 1) (ms + n.toNat) Q := by
  intro p l e R s m args below meth c G MC MS Z H locs cells slots ls cx hok hls hst hc hs hz
  obtain ⟨hx, hb, hml, hown, hts, hnm, hfr, hlo, hMC, hMS, hZ⟩ := id cx
  have h2 := hok.1.1
  have hr : jR n := jst_hd hst
  have hE : jE G (jnew h 19 n.toNat) (jN h) = .inl (jgA G 19, (n.toNat, .inr (.inr (.inr (.inr (fun _ => none)))))) := by
    have e0 : jS (jnew h 19 n.toNat) (jN h) = (19, n.toNat) := if_pos rfl
    rw [jE_arr (c := 19) (by rw [e0]) (by decide), jar_r (by decide), e0]
    refine congrArg (fun f => (Sum.inl (jgA G 19, n.toNat, .inr (.inr (.inr (.inr f)))) : va_E)) (funext fun j => ?_)
    rw [show jY (jnew h 19 n.toNat) (jN h) j = 0 from jz_at j]
    rfl
  refine va_newq (C := RX6) (N' := n.toNat) hx hb hown (hts _ hcl) hok.2.1.2.2.2.1 hok.2.1.1 hok.2.2.1 (jD G h) (jS_rf hok.2.2.2.1) (fun q hq => by show jgz G ≤ q; have := hok.2.2.2.2.1; omega)
    (j_nneg hr h0) (j_ix hr) (by omega) (by omega) (by omega) hd (fun q cA H1 hK1 hP1 hD1 hS1 => ?_)
  have hcA : cA = jgA G 19 := by
    obtain ⟨_, _, _, _, _, e1⟩ := (hK1.2 5 (cA, .object RX6) rfl).2
    obtain ⟨_, _, _, _, _, e2⟩ := (hK1.2 3 (jgA G 19, .object RX6) rfl).2
    exact Option.some.inj (e1.symm.trans e2)
  subst hcA
  refine jfinN (kind := 19) (len := n.toNat) (g := fun q => F0 m (pc + 3) ls (.ref q :: st.map (jV G))) hok hz (by omega) hE hP1 hD1 hS1 (fun hok1 hz1 => ?_)
  have k1 := k p l e R s m args below meth c G MC MS Z H1 locs (cells + 1) (slots + n.toNat) ls cx hok1 hls (jst_cons (v := .inr (jN h)) trivial (jst_tl hst)) (by omega) (by omega) hz1
  rw [List.map_cons, show jV G (.inr (jN h)) = .ref (jgz G + (jN h - 2)) from jrf_new G h h2] at k1
  exact k1
theorem jcat (G : jG) : ∀ st : List jA, ((st.map (jV G)).map fun v => v.category).sum = st.length
  | [] => rfl
  | v :: st => by
    rw [List.map_cons, List.map_cons, List.sum_cons, jV_cat, jcat G st, List.length_cons]
    omega
theorem V_copy {ix a0 a1 : Nat} {sp dp n : Int} (hd : decode (jmC M) pc = .ok (.invokestatic ix, 3)) (hl : Cond.methodLink (jmO M) ix arraycopyName ∈ jTs) (hnat : Cond.native arraycopyName ∈ jTs) (hstt : Cond.static arraycopyName ∈ jTs) (hini : Cond.initialized "java/lang/System" ∈ jTs) (hS0 : (jS h a0).1 = 16) (hS1 : (jS h a1).1 = 16) (h1 : 0 ≤ sp) (h2 : 0 ≤ dp) (h3 : 0 ≤ n) (h4 : sp + n ≤ (jS h a0).2) (h5 : dp + n ≤ (jS h a1).2) (hrl : st.length ≤ 8)
    (k : V M d (pc + 3) L st (jcpy h a0 sp.toNat a1 dp.toNat n.toNat) mc ms Q) : V M d pc L (.inl n :: .inl dp :: .inr a1 :: .inl sp :: .inr a0 :: st) h mc ms Q := by
  intro p l e R s m args below meth c G MC MS Z H locs cells slots ls cx hok hls hst hc hs hz
  obtain ⟨hx, hb, hml, hown, hts, hnm, hfr, hlo, hMC, hMS, hZ⟩ := id cx
  obtain ⟨b2, bn, be⟩ := jarr (G := G) hok.1 hS0 (by decide) (by decide)
  obtain ⟨c2, cn, ce⟩ := jarr (G := G) hok.1 hS1 (by decide) (by decide)
  rw [jar_i (by decide)] at be ce
  have rn : jR n := jst_hd hst
  have rd : jR dp := jst_hd (jst_tl hst)
  have rs : jR sp := jst_hd (jst_tl (jst_tl (jst_tl hst)))
  simp only [List.map_cons]
  rw [show jV G (.inr a1) = .ref (jgz G + (a1 - 2)) by (show va_rf (jrf G a1) = _; rw [jrf_at G c2]; rfl), show jV G (.inr a0) = .ref (jgz G + (a0 - 2)) by (show va_rf (jrf G a0) = _; rw [jrf_at G b2]; rfl)]
  refine va_copyi hx hb (hml.trans hls.1.symm) hown (hts _ hl) (hts _ hnat) (hts _ hstt) (hts _ hini) hok.2.1.1 hok.2.2.1 (jD G h) (jS_rf hok.2.2.2.1) (a0 - 2) (a1 - 2) 0 0 be ce rfl rfl rfl
    (j_nneg rs h1) (j_nneg rd h2) (j_nneg rn h3) (by rw [j_ix rs, j_ix rn]; omega) (by rw [j_ix rd, j_ix rn]; omega) (fun _ _ => rfl) (by omega) (by rw [jcat]; have := jnfw; omega) hd (fun H1 locs1 hP1 _ hSS => ?_)
  have hE : jE G (jcpy h a0 sp.toNat a1 dp.toNat n.toNat) a1 = .inl (jgA G 16, (jS h a1).2, .inl (va_cpy (fun j => Int32.ofInt (jX h a0 j)) (fun j => Int32.ofInt (jX h a1 j)) (Int32.ofInt sp).toNatClampNeg (Int32.ofInt dp).toNatClampNeg (Int32.ofInt n).toNatClampNeg)) := by
    rw [jE_arr (show (jS (jcpy h a0 sp.toNat a1 dp.toNat n.toNat) a1).1 = 16 from hS1) (by decide), jar_i (by decide), j_ix rs, j_ix rd, j_ix rn]
    refine congrArg (fun f => (Sum.inl (jgA G 16, (jS h a1).2, .inl f) : va_E)) (funext fun j => ?_)
    show Int32.ofInt (if a1 = a1 ∧ dp.toNat ≤ j ∧ j < dp.toNat + n.toNat then jX h a0 (sp.toNat + (j - dp.toNat)) else jX h a1 j) = _
    unfold va_cpy
    by_cases q : dp.toNat ≤ j ∧ j < dp.toNat + n.toNat
    · rw [if_pos ⟨rfl, q⟩, if_pos q]
    · rw [if_neg (fun z => q z.2), if_neg q]
  have ho : ∀ b, b ≠ a1 → jE G (jcpy h a0 sp.toNat a1 dp.toNat n.toNat) b = jE G h b := fun b hb2 => jE_eq rfl rfl rfl (funext fun j => if_neg (fun z => hb2 z.1)) rfl
  have hW := jW_ext (h := h) (h' := jcpy h a0 sp.toNat a1 dp.toNat n.toNat) rfl c2 cn hE ho
  refine jfin (h' := jcpy h a0 sp.toNat a1 dp.toNat n.toNat) hok hz rfl rfl (funext fun j => if_neg (fun z => absurd z.1 (by omega))) ?_ (by rw [hW]; exact hP1) hSS (fun hok1 hz1 => k p l e R s m args below meth c G MC MS Z H1 locs1 cells slots ls cx hok1 hls (jst_tl (jst_tl (jst_tl (jst_tl (jst_tl hst))))) hc hs hz1)
  refine ⟨hok.1.1, hok.1.2.1, fun a k2 => ?_, hok.1.2.2.2⟩
  show jR (if a = a1 ∧ _ then jX h a0 _ else jX h a k2)
  split
  · exact hok.1.2.2.1 _ _
  · exact hok.1.2.2.1 _ _
def jMt (N : jM) (n : Nat) : Prop := Cond.code (jmY N) (jmC N) (jmL N) (jmR N) ∈ jTs ∧ Cond.initialized (jmY N).cls ∈ jTs ∧ ((jmY N).cls ≠ "java/lang/invoke/MethodHandle" ∧ (jmY N).cls ≠ "java/lang/invoke/VarHandle" ∧ (parseMethodDescriptor (jmY N).desc).map (fun d => d.parameters.length) = some n) ∧ jmL N ≤ 40 ∧ plainName (jmY N).cls = true
theorem jws_good {N : jM} {n : Nat} (hN : jMt N n) : GoodIn jTs (jws N) := fun q hq => by
  rcases List.mem_cons.mp hq with rfl | hq
  · exact jTs_good hN.1
  · exact jTs_good hq
/-- the picture at a callee's start -/
theorem jstart {G : jG} {s U : State} {H0 H : Heap} {locs : List Loc} (hok : jOk G h H0 H locs s) (hU : U.heap = H) (hW : s.WarmedH U.vm) : jOk G h U.heap U.heap [] U := by
  subst hU
  obtain ⟨hw, hst, hP, hS0, hsz, hbz, hz0, hX⟩ := hok
  exact ⟨hw, hst.warm hW, hP, va_S.rf, hsz, hbz, by omega, hX.moved hW.alike⟩
theorem jPc_blind {G : jG} {as : List jA} : FrameBlind (jPc G as h) := by
  intro a U g mk q
  obtain ⟨q0, q1, hw, hst, hP, hS0, hsz, hbz, hz0, hX⟩ := q
  exact ⟨q0, q1, hw, hst.same (show U.vm = (U.calling g mk a).vm from rfl), hP, hS0, hsz, hbz, hz0, hX.moved (U := U.calling g mk a) (Vm.Alike.refl U.vm)⟩
/-- behind a call -/
theorem jcall {p : Program} {l : Launch} {e : Env} {R : Room} {s : State} {m : MethodId} {args : Array Value} {below : List Frame} {meth : Method} {c : Code} {H : Heap} {locs : List Loc} {cells slots : Nat} {Z : State → Prop} {G : jG} {g : Nat → Array Slot → List Value → JFrame} {pc0 : Nat} {ls : Array Slot} {rest st0 : List Value} {a : Array Value} {mc' ms' : Nat} {Q' : Option jA → jH → Prop}
    (hr : va_Run p l e R s m args below meth c H locs cells slots mc' ms' (F0 m pc0 ls st0) rest (jQc G mc' Q' a) (jAt G)) (hok : jOk G h s.heap H locs s) (hz : H.size = s.heap.size + cells)
    (kk : ∀ (v : Option jA) (h' : jH) (H' : Heap) (locs' : List Loc), Q' v h' → (∀ x, v = some x → jRA x) → jOk G h' s.heap H' locs' s → H'.size = s.heap.size + (cells + mc') → W p l e R s m args below meth c H' locs' (cells + mc') (slots + ms') Z (F0 m (pc0 + 3) ls (v.toList.map (jV G) ++ rest))) :
    W p l e R s m args below meth c H locs cells slots Z (F0 m pc0 ls st0) := by
  intro T hT X
  obtain ⟨v, st₀, t, T', L9, h0, X', hL, e1, e2, ⟨v', h', hv, hQ, hra, hok', hsz'⟩, stp⟩ := hr T hT X
  obtain rfl : v = v'.map (jV G) := Outcome.returned.inj hv
  rw [h0] at hok' hsz'
  have hW : s.WarmedH T'.vm := X'.warmed
  obtain ⟨hw, hst, hP, hS0, hsz, hbz, hz0, hX⟩ := hok
  obtain ⟨hw1, hst1, hP1, hS1, hsz1, -, -, hX1⟩ := hok'
  have hold : ∀ q : Nat, q < H.size → ¬ jAt G q → t.heap[q]? = H[q]? := hS1.2.1
  have hok2 : jOk G h' s.heap t.heap (locs ++ L9) s := by
    refine ⟨hw1, hst, hP1, ⟨by omega, fun q hq hA => (hold q (by have := hS0.1; omega) hA).trans (hS0.2.1 q hq hA), fun q hq => ?_⟩, hsz1, hbz, hz0, ?_⟩
    · rcases List.mem_append.mp hq with z | z
      · exact hS0.2.2 q z
      · exact hL q z
    · rw [e2] at hW
      obtain ⟨scr, x1, x2, x3, x4, x5⟩ := hX1
      exact ⟨scr, x1, State.isArrayOf_alike hW.alike.symm x2, x3, x4, x5⟩
  obtain ⟨t2, a1, b1⟩ := kk v' h' t.heap (locs ++ L9) hQ hra hok2 (by omega) T' e1 X'
  have e3 : (v'.map (jV G)).toList ++ rest = v'.toList.map (jV G) ++ rest := by cases v' <;> rfl
  exact ⟨t2, stp t2 (by show Steps _ _ _ (T'.setTop (F0 m (pc0 + 3) ls ((v'.map (jV G)).toList ++ rest))) t2; rw [e3]; exact a1), b1⟩
theorem jcat_le {G : jG} {ls : Array Slot} {st0 : List Value} {pc0 : Nat} {m : MethodId} {rest : List jA} (hr : rest.length ≤ 8) : 2 * (F0 m pc0 ls st0).monitorRoom + ((rest.map (jV G)).map fun v => v.category).sum ≤ 8 := lv_room (by rw [jcat]; exact hr)
theorem jmap_app (G : jG) (as : List jA) (x : jA) (rest : List jA) : (as.reverse ++ x :: rest).map (jV G) = (as.map (jV G)).reverse ++ jV G x :: rest.map (jV G) := by simp
theorem jmap_app2 (G : jG) (as : List jA) (rest : List jA) : (as.reverse ++ rest).map (jV G) = (as.map (jV G)).reverse ++ rest.map (jV G) := by simp
theorem V_callV {N : jM} {d' mc' ms' a n ix : Nat} {As rest : List jA} {st0 : List jA} (hd : decode (jmC M) pc = .ok (.invokevirtual ix, 3)) (hN : jMt N n) (hv : Cond.instanceMethod (jmY N) ∈ jTs ∧ Cond.selects (jmY N).cls (jmY N) (jmY N) ∈ jTs) (hl : Cond.methodLink (jmO M) ix (jmY N) ∈ jTs) {ci : Nat} (hS : (jS h a).1 = ci) (hci : ci < 10 ∧ jR_ ci = (jmY N).cls) (hn : As.length = n) (hst0 : st0 = As.reverse ++ .inr a :: rest) (hr : rest.length ≤ 8) (hdd : d' + 1 ≤ d)
    (E : Ex N d' (.inr a :: As) h mc' ms' (fun v h' => V M d (pc + 3) L (v.toList ++ rest) h' mc ms Q)) : V M d pc L st0 h (mc' + mc) (ms' + ms) Q := by
  intro p l e R s m args below meth c G MC MS Z H locs cells slots ls cx hok hls hst hc hs hz
  obtain ⟨hx, hb, hml, hown, hts, hnm, hfr, hlo, hMC, hMS, hZ⟩ := id cx
  subst hst0
  rw [jmap_app]
  obtain ⟨h2, hnn⟩ := jw_range hok.1 (a := a) (by rw [hS]; omega) (by rw [hS]; omega)
  have ha : jV G (.inr a) = .ref (jgz G + (a - 2)) := by show va_rf (jrf G a) = _; rw [jrf_at G h2]; rfl
  rw [ha]
  have hst3 : ∀ x ∈ ((.inr a : jA) :: As), jRA x := fun x hx9 => (List.mem_cons.mp hx9).elim (fun q => by rw [q]; exact trivial) (fun q => hst x (by simp [q]))
  have hpc : ∀ U : State, U.heap = H → s.WarmedH U.vm → jPc G (.inr a :: As) h (Value.ref (jgz G + (a - 2)) :: As.map (jV G)).toArray U := fun U hU hW => ⟨by rw [List.map_cons, ha], hst3, jstart hok hU hW⟩
  have hMet := E l G
  have hCB : CallB R s args (jmO M) ix (jmY N) (jmC N) (jmL N) (jmR N) (jws N) (jroom d' mc' ms') mc' ms' n := callB_of n hts (jws_good hN) rfl rfl rfl (hts _ hN.2.1) (hts _ hl) hN.2.2.1 ⟨by show d' + 1 + 1 ≤ _; omega, by show 8 + (jmL N + 11) + 64 * (d' + 1) ≤ _; have := hN.2.2.2.1; omega⟩
  have h8 := hlo
  have hst2 : ∀ x ∈ rest, jRA x := fun x hx9 => hst x (by simp [hx9])
  refine jcall (g := fun _ _ _ => F0 m pc ls []) (va_runV (As := As.map (jV G)) (rest := rest.map (jV G)) ⟨hx, hb, hml, hown, hts⟩ hMet ⟨hCB, hts _ hv.1, hts _ hv.2⟩ ⟨jPc_blind, by have hr1 := va_recv hok.2.1.1 hok.2.2.1 (jcl_get ci hci.1) (by have he := jW_get G h h2 hnn; rw [jE_obj hS hci.1] at he; exact he); rw [hci.2] at hr1; exact hr1, hpc⟩ rfl (by rw [List.length_map]; exact hn) hls.1 rfl (jcat_le hr) hd ⟨by omega, by omega⟩) hok hz (fun v h' H' locs' hQ hra hok' hz' => ?_)
  have k1 := hQ p l e R s m args below meth c G MC MS Z H' locs' (cells + mc') (slots + ms') ls cx hok' hls (fun x hx9 => (List.mem_append.mp hx9).elim (fun q => hra x (by cases v with
    | none => cases q
    | some y => rw [List.mem_singleton.mp q])) (hst2 x)) (by omega) (by omega) hz'
  rw [List.map_append] at k1
  exact k1
theorem V_callS {N : jM} {d' mc' ms' a n ix : Nat} {As rest : List jA} {st0 : List jA} (hd : decode (jmC M) pc = .ok (.invokestatic ix, 3)) (hN : jMt N n) (hv : Cond.static (jmY N) ∈ jTs) (hl : Cond.methodLink (jmO M) ix (jmY N) ∈ jTs) (hn : As.length = n) (hst0 : st0 = As.reverse ++ rest) (hr : rest.length ≤ 8) (hdd : d' + 1 ≤ d)
    (E : Ex N d' As h mc' ms' (fun v h' => V M d (pc + 3) L (v.toList ++ rest) h' mc ms Q)) : V M d pc L st0 h (mc' + mc) (ms' + ms) Q := by
  intro p l e R s m args below meth c G MC MS Z H locs cells slots ls cx hok hls hst hc hs hz
  obtain ⟨hx, hb, hml, hown, hts, hnm, hfr, hlo, hMC, hMS, hZ⟩ := id cx
  subst hst0
  rw [jmap_app2]
  have hst3 : ∀ x ∈ As, jRA x := fun x hx9 => hst x (by simp [hx9])
  have hpc : ∀ U : State, U.heap = H → s.WarmedH U.vm → jPc G As h (As.map (jV G)).toArray U := fun U hU hW => ⟨rfl, hst3, jstart hok hU hW⟩
  have hMet := E l G
  have hCB : CallB R s args (jmO M) ix (jmY N) (jmC N) (jmL N) (jmR N) (jws N) (jroom d' mc' ms') mc' ms' n := callB_of n hts (jws_good hN) rfl rfl rfl (hts _ hN.2.1) (hts _ hl) hN.2.2.1 ⟨by show d' + 1 + 1 ≤ _; omega, by show 8 + (jmL N + 11) + 64 * (d' + 1) ≤ _; have := hN.2.2.2.1; omega⟩
  have h8 := hlo
  have hst2 : ∀ x ∈ rest, jRA x := fun x hx9 => hst x (by simp [hx9])
  refine jcall (g := fun _ _ _ => F0 m pc ls []) (va_runS (As := As.map (jV G)) (rest := rest.map (jV G)) ⟨hx, hb, hml, hown, hts⟩ hMet ⟨hCB, hts _ hv⟩ ⟨jPc_blind, hpc⟩ rfl (by rw [List.length_map]; exact hn) hls.1 rfl (jcat_le hr) hd ⟨by omega, by omega⟩) hok hz (fun v h' H' locs' hQ hra hok' hz' => ?_)
  have k1 := hQ p l e R s m args below meth c G MC MS Z H' locs' (cells + mc') (slots + ms') ls cx hok' hls (fun x hx9 => (List.mem_append.mp hx9).elim (fun q => hra x (by cases v with
    | none => cases q
    | some y => rw [List.mem_singleton.mp q])) (hst2 x)) (by omega) (by omega) hz'
  rw [List.map_append] at k1
  exact k1
theorem V_callI {N : jM} {d' mc' ms' a n ix : Nat} {As rest : List jA} {st0 : List jA} (hd : decode (jmC M) pc = .ok (.invokespecial ix, 3)) (hN : jMt N n) (hv : (jmY N).name = "<init>" ∧ Cond.instanceMethod (jmY N) ∈ jTs) (hl : Cond.methodLink (jmO M) ix (jmY N) ∈ jTs) (hret : jmR N = none) {ci : Nat} (hS : (jS h a).1 = ci) (hci : ci < 10) (hn : As.length = n) (hst0 : st0 = As.reverse ++ .inr a :: rest) (hr : rest.length ≤ 8) (hdd : d' + 1 ≤ d)
    (E : Ex N d' (.inr a :: As) h mc' ms' (fun v h' => V M d (pc + 3) L (v.toList ++ rest) h' mc ms Q)) : V M d pc L st0 h (mc' + mc) (ms' + ms) Q := by
  intro p l e R s m args below meth c G MC MS Z H locs cells slots ls cx hok hls hst hc hs hz
  obtain ⟨hx, hb, hml, hown, hts, hnm, hfr, hlo, hMC, hMS, hZ⟩ := id cx
  subst hst0
  rw [jmap_app]
  obtain ⟨h2, hnn⟩ := jw_range hok.1 (a := a) (by rw [hS]; omega) (by rw [hS]; omega)
  have ha : jV G (.inr a) = .ref (jgz G + (a - 2)) := by show va_rf (jrf G a) = _; rw [jrf_at G h2]; rfl
  rw [ha]
  have hst3 : ∀ x ∈ ((.inr a : jA) :: As), jRA x := fun x hx9 => (List.mem_cons.mp hx9).elim (fun q => by rw [q]; exact trivial) (fun q => hst x (by simp [q]))
  have hpc : ∀ U : State, U.heap = H → s.WarmedH U.vm → jPc G (.inr a :: As) h (Value.ref (jgz G + (a - 2)) :: As.map (jV G)).toArray U := fun U hU hW => ⟨by rw [List.map_cons, ha], hst3, jstart hok hU hW⟩
  have hMet := E l G
  have hCB : CallB R s args (jmO M) ix (jmY N) (jmC N) (jmL N) (jmR N) (jws N) (jroom d' mc' ms') mc' ms' n := callB_of n hts (jws_good hN) rfl rfl rfl (hts _ hN.2.1) (hts _ hl) hN.2.2.1 ⟨by show d' + 1 + 1 ≤ _; omega, by show 8 + (jmL N + 11) + 64 * (d' + 1) ≤ _; have := hN.2.2.2.1; omega⟩
  have h8 := hlo
  have hst2 : ∀ x ∈ rest, jRA x := fun x hx9 => hst x (by simp [hx9])
  refine jcall (g := fun _ _ _ => F0 m pc ls []) (va_runI (As := As.map (jV G)) (rest := rest.map (jV G)) ⟨hx, hb, hml, hown, hts⟩ hMet ⟨by rw [hret] at hCB; exact hCB, hv.1, hts _ hv.2⟩ ⟨jPc_blind, hpc⟩ rfl (by rw [List.length_map]; exact hn) hls.1 rfl (jcat_le hr) hd ⟨by omega, by omega⟩) hok hz (fun v h' H' locs' hQ hra hok' hz' => ?_)
  have k1 := hQ p l e R s m args below meth c G MC MS Z H' locs' (cells + mc') (slots + ms') ls cx hok' hls (fun x hx9 => (List.mem_append.mp hx9).elim (fun q => hra x (by cases v with
    | none => cases q
    | some y => rw [List.mem_singleton.mp q])) (hst2 x)) (by omega) (by omega) hz'
  rw [List.map_append] at k1
  exact k1
theorem V_callInest {N : jM} {d' mc' ms' a n ix : Nat} {As rest : List jA} {st0 : List jA} (hd : decode (jmC M) pc = .ok (.invokespecial ix, 3)) (hN : jMt N n) (hv : (jmY N).name = "<init>" ∧ Cond.instanceMethod (jmY N) ∈ jTs) {host : String} (hl : Cond.methodLinkNest (jmO M) ix (jmY N) host ∈ lw_tbl) (hret : jmR N = none) {ci : Nat} (hS : (jS h a).1 = ci) (hci : ci < 10) (hn : As.length = n) (hst0 : st0 = As.reverse ++ .inr a :: rest) (hr : rest.length ≤ 8) (hdd : d' + 1 ≤ d)
    (E : Ex N d' (.inr a :: As) h mc' ms' (fun v h' => V M d (pc + 3) L (v.toList ++ rest) h' mc ms Q)) : V M d pc L st0 h (mc' + mc) (ms' + ms) Q := by
  intro p l e R s m args below meth c G MC MS Z H locs cells slots ls cx hok hls hst hc hs hz
  obtain ⟨hx, hb, hml, hown, hts, hnm, hfr, hlo, hMC, hMS, hZ⟩ := id cx
  subst hst0
  rw [jmap_app]
  obtain ⟨h2, hnn⟩ := jw_range hok.1 (a := a) (by rw [hS]; omega) (by rw [hS]; omega)
  have ha : jV G (.inr a) = .ref (jgz G + (a - 2)) := by show va_rf (jrf G a) = _; rw [jrf_at G h2]; rfl
  rw [ha]
  have hst3 : ∀ x ∈ ((.inr a : jA) :: As), jRA x := fun x hx9 => (List.mem_cons.mp hx9).elim (fun q => by rw [q]; exact trivial) (fun q => hst x (by simp [q]))
  have hpc : ∀ U : State, U.heap = H → s.WarmedH U.vm → jPc G (.inr a :: As) h (Value.ref (jgz G + (a - 2)) :: As.map (jV G)).toArray U := fun U hU hW => ⟨by rw [List.map_cons, ha], hst3, jstart hok hU hW⟩
  have hMet := E l G
  have hCB : va_CN R s args (jmO M) ix (jmY N) host (jmC N) (jmL N) (jmR N) (jws N) (jroom d' mc' ms') mc' ms' n := va_cnB n hts (jws_good hN) rfl rfl rfl (hok.2.1.2.1 _ hl rfl) (hts _ hN.2.1) hN.2.2.1 ⟨by show d' + 1 + 1 ≤ _; omega, by show 8 + (jmL N + 11) + 64 * (d' + 1) ≤ _; have := hN.2.2.2.1; omega⟩
  have h8 := hlo
  have hst2 : ∀ x ∈ rest, jRA x := fun x hx9 => hst x (by simp [hx9])
  refine jcall (g := fun _ _ _ => F0 m pc ls []) (va_runIN (As := As.map (jV G)) (rest := rest.map (jV G)) ⟨hx, hb, hml, hown, hts⟩ hMet ⟨by rw [hret] at hCB; exact hCB, hv.1, hts _ hv.2⟩ ⟨jPc_blind, hpc⟩ rfl (by rw [List.length_map]; exact hn) hls.1 rfl (jcat_le hr) hd ⟨by omega, by omega⟩) hok hz (fun v h' H' locs' hQ hra hok' hz' => ?_)
  have k1 := hQ p l e R s m args below meth c G MC MS Z H' locs' (cells + mc') (slots + ms') ls cx hok' hls (fun x hx9 => (List.mem_append.mp hx9).elim (fun q => hra x (by cases v with
    | none => cases q
    | some y => rw [List.mem_singleton.mp q])) (hst2 x)) (by omega) (by omega) hz'
  rw [List.map_append] at k1
  exact k1
theorem V_objI {ix a : Nat} (hd : decode (jmC M) pc = .ok (.invokespecial ix, 3)) (hl : Cond.methodLink (jmO M) ix Lib.objectInit ∈ jTs) (hin : Cond.instanceMethod Lib.objectInit ∈ jTs) (hcode : Cond.code Lib.objectInit ⟨#[0xb1]⟩ 1 none ∈ jTs) (ha : 2 ≤ a) (hr : st.length ≤ 8)
    (k : V M d (pc + 3) L st h mc ms Q) : V M d pc L (.inr a :: st) h mc ms Q := by
  intro p l e R s m args below meth c G MC MS Z H locs cells slots ls cx hok hls hst hc hs hz
  obtain ⟨hx, hb, hml, hown, hts, hnm, hfr, hlo, hMC, hMS, hZ⟩ := id cx
  have k1 := k p l e R s m args below meth c G MC MS Z H locs cells slots ls cx hok hls (jst_tl hst) hc hs hz
  rw [List.map_cons, show jV G (.inr a) = .ref (jgz G + (a - 2)) by show va_rf (jrf G a) = _; rw [jrf_at G ha]; rfl]
  exact W.objInit hx hb hown (hts _ hl) (hts _ hin) (hts _ hcode) rfl (hls.1.trans hml.symm) rfl hd (by omega) (by rw [jcat]; show 2 * 0 + _ + 12 ≤ _; omega) k1
theorem lg_sl_map (G : jG) : ∀ as : List jA, lg_sl (as.map (jV G)) = as.map (fun v => Slot.val (jV G v))
  | [] => rfl
  | v :: as => by
    rw [List.map_cons, List.map_cons, ← lg_sl_map G as]
    unfold lg_sl
    rw [List.flatMap_cons, if_neg (by rw [jV_cat]; decide)]
    rfl
/-- A CONTRACT OUT OF A WALK -/
theorem Ex_of_V {N : jM} {d' mc' ms' n : Nat} {as : List jA} {Q' : Option jA → jH → Prop} (hp : jMt N n) (hn : as.length ≤ jmL N) (hV : V N d' 0 (as.map some ++ List.replicate (jmL N - as.length) none) [] h mc' ms' Q') : Ex N d' as h mc' ms' Q' := by
  intro l G
  refine Met.ofW (cc := jmC N) (maxL := jmL N) (ret := jmR N) hp.2.2.2.2 rfl ?_
  intro p e s m margs below meth c s₁ B hml hv
  obtain ⟨rfl, hra, hok⟩ := hv
  have hx := B.exec
  have hb := B.bytes
  have hr := B.returns
  have hts0 := atoms_spec (ws := jws N) B.pre
  have hts : ∀ w ∈ jTs, w.before ((as.map (jV G)).toArray) s = true := fun w hw => hts0 w (List.mem_cons_of_mem _ hw)
  have hown : s.vm.findClass (jmO N) = some m.cls := findClass_of_methodNamed B.named
  have hnm : meth.name = (jmY N).name := (name_of_methodNamed B.named B.method).1
  have hlocks : meth.locks = false := B.notSynchronized
  have hl0 := lv_entry (as.map (jV G)) (n := jmL N) (by rw [lg_sl_map, List.length_map]; exact hn)
  rw [lg_entry_eq]
  have hls : jLs G ((lg_sl (as.map (jV G)) ++ List.replicate (jmL N - (lg_sl (as.map (jV G))).length) Slot.unset).toArray) (jmL N) (as.map some ++ List.replicate (jmL N - as.length) none) := by
    refine ⟨hl0.1, hl0.2.1, by simp; omega, fun i v hi => ?_⟩
    by_cases hlt : i < as.length
    · rw [List.getElem?_append_left (by simp; exact hlt), List.getElem?_map, List.getElem?_eq_getElem hlt] at hi
      have hv : as[i] = v := by simpa using hi
      refine ⟨?_, hra v (by rw [← hv]; exact List.getElem_mem hlt)⟩
      rw [lg_sl_map, List.getElem?_toArray, List.getElem?_append_left (by simp; exact hlt), List.getElem?_map, List.getElem?_eq_getElem hlt, hv]
      rfl
    · rw [List.getElem?_append_right (by simp; omega)] at hi
      have h9 := List.getElem?_eq_some_iff.mp hi
      obtain ⟨h10, h11⟩ := h9
      rw [List.getElem_replicate] at h11
      cases h11
  refine hV p l e (jroom d' mc' ms') s m _ below meth c G mc' ms' _ s.heap [] 0 0 _ ⟨hx, hb, hml, hown, hts, hnm, Nat.le_refl _, Nat.le_refl _, Nat.le_refl _, Nat.le_refl _, ?_⟩ hok hls (fun v hv => by cases hv) (Nat.zero_add _) (Nat.zero_add _) rfl
  intro v h' H' locs' pc' ls' hQ hok' hret hz' hdg
  have hend : ∀ t : State, t.heap = H' → s.WarmedH t.vm → jQc G mc' Q' (as.map (jV G)).toArray s (.returned (v.map (jV G))) t := by
    intro t ht hW
    obtain ⟨hw1, hst1, hP1, hS1, hsz1, hbz1, hz01, hX1⟩ := hok'
    exact ⟨v, h', rfl, hQ, jRet_ra hret, ⟨hw1, hst1.warm hW, by rw [ht]; exact hP1, by rw [ht]; exact ⟨hS1.1, hS1.2.1, fun _ q => by cases q⟩, by rw [ht]; exact hsz1, hbz1, hz01, by rw [ht]; exact hX1.moved hW.alike⟩, by rw [ht]; exact hz'⟩
  have hfree : ∀ q ∈ locs', jAt G q.base := hok'.2.2.2.1.2.2
  generalize hjr : jmR N = jr at hret hdg hr
  rcases jr with _ | ty
  · cases v with
    | none => exact W.vret hx hb hr hend hfree hdg
    | some x => exact absurd hret (by cases x <;> exact id)
  · cases v with
    | none => exact absurd hret (by cases ty <;> exact id)
    | some x =>
      cases x with
      | inr q => exact absurd hret (by cases ty <;> exact id)
      | inl z =>
        by_cases hti : ty = .int
        · subst hti
          exact W.iret hx hb hr hend hfree hdg
        · by_cases htb : ty = .boolean
          · subst htb
            refine W.zret hx hb hr ?_ hend hfree hdg
            rcases hret with rfl | rfl <;> decide
          · exact absurd hret (by cases ty <;> first | exact absurd rfl hti | exact absurd rfl htb | exact id)
end JL
end
section
/-! ===== new int[n][k], over V ===== -/
section JM
variable {M : jM} {d pc mc ms : Nat} {L : List (Option jA)} {st : List jA} {h : jH} {Q : Option jA → jH → Prop}
/-- the outer array, and behind it its rows -/
def jmul (h : jH) (N K : Nat) : jH :=
  (fun a k => if jN h ≤ a ∧ a ≤ jN h + N then 0 else jI h a k, fun a k => if jN h ≤ a ∧ a ≤ jN h + N then 0 else jP h a k, fun a k => if jN h ≤ a ∧ a ≤ jN h + N then 0 else jX h a k,
   fun a k => if jN h ≤ a ∧ a ≤ jN h + N then (if a = jN h ∧ k < N then jN h + 1 + k else 0) else jY h a k, fun a => if jN h ≤ a ∧ a ≤ jN h + N then (if a = jN h then (20, N) else (16, K)) else jS h a, jN h + 1 + N)
theorem jouter (c : ClassId) (N h0 : Nat) : ∀ i : Nat, Jvm.Free.Multi.outerC c N h0 i = arrV c N (fun j => va_rf (if j < i then some (h0 + 1 + j) else none))
  | 0 => by
    show ({ cls := c, slots := Array.replicate N .null, vm := .none } : Cell) = _
    rw [arrV_new]
    refine congrArg (arrV c N) (funext fun j => ?_)
    simp [va_rf]
  | i + 1 => by
    show (Jvm.Free.Multi.outerC c N h0 i).setSlot i (.ref (h0 + 1 + i)) = _
    rw [jouter c N h0 i, arrV_store]
    refine congrArg (arrV c N) (funext fun j => ?_)
    by_cases e : j = i
    · subst e
      simp [updV, va_rf]
    · by_cases h : j < i
      · simp [updV, e, h, Nat.lt_succ_of_lt h]
      · simp [updV, e, h, show ¬ j < i + 1 by omega]
theorem arrV_congr {c : ClassId} {N : Nat} {f g : Nat → Value} (h : ∀ j, j < N → f j = g j) : arrV c N f = arrV c N g := by
  unfold arrV
  congr 1
  exact Array.ext (by simp) (fun i h1 h2 => by
    have hi : i < N := by simpa using h1
    rw [Array.getElem_ofFn, Array.getElem_ofFn]
    exact h i hi)
theorem V_multi {ix : Nat} {n k0 : Int} (hd : decode (jmC M) pc = .ok (.multianewarray ix 2, 4)) (hcl : Cond.classLink (jmO M) ix ("[" ++ (FieldType.array .int).toString) ∈ jTs) (hac : Cond.arrayClass .int ∈ jTs) (h0 : 0 ≤ n) (h1 : n ≤ 10000) (g0 : 0 ≤ k0) (g1 : k0 ≤ 10000)
    (k : V M d (pc + 4) L (.inr (jN h) :: st) (jmul h n.toNat k0.toNat) mc ms Q) : V M d pc L (.inl k0 :: .inl n :: st) h (mc + (1 + n.toNat)) (ms + (n.toNat + n.toNat * k0.toNat)) Q := by
  intro p l e R s m args below meth c G MC MS Z H locs cells slots ls cx hok hls hst hc hs hz
  obtain ⟨hx, hb, hml, hown, hts, hnm, hfr, hlo, hMC, hMS, hZ⟩ := id cx
  have rk : jR k0 := jst_hd hst
  have rn : jR n := jst_hd (jst_tl hst)
  intro T hT X
  obtain ⟨hw, hs0, hP, hSS, hsz, hbz, hz0, hX⟩ := hok
  have en := j_ix rn
  have ek := j_ix rk
  obtain ⟨vm₁, cA, comp, -, fA, fC, hO, hIn, X', step⟩ := X.multianewarray2F hx hown (hts _ hcl) hs0.2.2.2.2 (hts _ hac) (g := F0 m pc ls (.int (Int32.ofInt k0) :: .int (Int32.ofInt n) :: st.map (jV G))) rfl (by rw [hb]; exact hd) rfl (j_nneg rn h0) (j_nneg rk g0)
    (by rw [en]; omega) (by rw [ek]; show k0.toNat * 4 ≤ _; omega) (by rw [ek]; omega) rfl rfl (by rw [en]; omega) (by rw [en, ek]; omega)
  rw [en, ek] at X' step
  have ec : comp = jgA G 16 := by
    have e2 := (hs0.1.2 0 (jgA G 16, .int) rfl).2
    exact Option.some.inj (fC.symm.trans (show _ = some (jgA G 16) from e2))
  have eA : cA = jgA G 20 := by
    have e2 := (hs0.1.2 4 (jgA G 20, .array .int) rfl).2
    exact Option.some.inj (fA.symm.trans (show _ = some (jgA G 20) from e2))
  subst ec
  subst eA
  have hTh : (T.setVm vm₁).heap = H := hT
  have f1 := (Jvm.Free.Multi.fill_facts (T.setVm vm₁) (jgA G 20) (jgA G 16) n.toNat k0.toNat (defaultValue .int) n.toNat).1
  have f2 := (Jvm.Free.Multi.fill_facts (T.setVm vm₁) (jgA G 20) (jgA G 16) n.toNat k0.toNat (defaultValue .int) n.toNat).2.1
  have hold0 : ∀ x : Nat, x < H.size → (Jvm.Free.Multi.fill (T.setVm vm₁) (jgA G 20) (jgA G 16) n.toNat k0.toNat (defaultValue .int) n.toNat).heap[x]? = H[x]? := fun x hx9 => by
    have := Jvm.Free.Multi.fill_old (T.setVm vm₁) (jgA G 20) (jgA G 16) n.toNat k0.toNat (defaultValue .int) (a := x) (by rw [hTh]; exact hx9) n.toNat
    rw [hTh] at this
    exact this
  have hrow := Jvm.Free.Multi.fill_inner (T.setVm vm₁) (jgA G 20) (jgA G 16) n.toNat k0.toNat (defaultValue .int) n.toNat
  rw [hTh] at f1 f2 hrow
  generalize Jvm.Free.Multi.fill (T.setVm vm₁) (jgA G 20) (jgA G 16) n.toNat k0.toNat (defaultValue .int) n.toNat = F at X' step f1 f2 hold0 hrow
  have h2 := hw.1
  have hEo : ∀ a, a < jN h → jE G (jmul h n.toNat k0.toNat) a = jE G h a := fun a ha => by
    have q : ¬ (jN h ≤ a ∧ a ≤ jN h + n.toNat) := by omega
    exact jE_eq (if_neg q) (funext fun _ => if_neg q) (funext fun _ => if_neg q) (funext fun _ => if_neg q) (funext fun _ => if_neg q)
  have hok' : jOk G (jmul h n.toNat k0.toNat) s.heap F.heap locs s := by
    obtain ⟨w2, wI, wX, w0, w1, wn, wl⟩ := hw
    refine ⟨⟨by show 2 ≤ jN h + 1 + n.toNat; omega, fun a j => ?_, fun a j => ?_, ?_, ?_, fun a ha => ?_, fun a => ?_⟩, hs0, ?_, ⟨?_, fun q hq hA => ?_, hSS.2.2⟩, ?_, hbz, hz0, ?_⟩
    · show jR (if _ then 0 else jI h a j)
      split
      · exact jR_0
      · exact wI a j
    · show jR (if _ then 0 else jX h a j)
      split
      · exact jR_0
      · exact wX a j
    · show (if jN h ≤ 0 ∧ 0 ≤ jN h + n.toNat then _ else jS h 0 : Nat × Nat).1 = 99
      rw [if_neg (by omega)]; exact w0
    · show (if jN h ≤ 1 ∧ 1 ≤ jN h + n.toNat then _ else jS h 1 : Nat × Nat).1 = 15
      rw [if_neg (by omega)]; exact w1
    · have ha : jN h + 1 + n.toNat ≤ a := ha
      show (if jN h ≤ a ∧ a ≤ jN h + n.toNat then _ else jS h a : Nat × Nat).1 = 99
      rw [if_neg (by omega)]; exact wn a (by omega)
    · show (if jN h ≤ a ∧ a ≤ jN h + n.toNat then (if a = jN h then (20, n.toNat) else (16, k0.toNat)) else jS h a : Nat × Nat).2 < _
      split
      · split
        · show n.toNat < _; omega
        · show k0.toNat < _; omega
      · exact wl a
    · intro j q hj
      have hjl : j < jN h + 1 + n.toNat - 2 := by
        have := (List.getElem?_eq_some_iff.mp hj).1
        rw [jW_len] at this
        exact this
      have hg := jW_get G (jmul h n.toNat k0.toNat) (a := j + 2) (by omega) (by show j + 2 < jN h + 1 + n.toNat; omega)
      rw [show j + 2 - 2 = j by omega, hj] at hg
      obtain rfl := Option.some.inj hg
      by_cases c1 : j + 2 < jN h
      · rw [hEo _ c1]
        have hg2 := jW_get G h (a := j + 2) (by omega) c1
        rw [show j + 2 - 2 = j by omega] at hg2
        exact (hP _ _ hg2).kept (hold0 _ (by show jgz G + j < _; omega))
      · have qin : jN h ≤ j + 2 ∧ j + 2 ≤ jN h + n.toNat := by omega
        by_cases c2 : j + 2 = jN h
        · have e0 : jS (jmul h n.toNat k0.toNat) (j + 2) = (20, n.toNat) := (if_pos qin).trans (if_pos c2)
          rw [jE_arr (c := 20) (by rw [e0]) (by decide), jar_r (by decide), e0]
          show F.heap[jgz G + j]? = some (vp_cell (jgA G 20) (n.toNat, .inr (.inr (.inr (.inr fun i => jrf G (jY (jmul h n.toNat k0.toNat) (j + 2) i))))))
          rw [vp_cell_q, show jgz G + j = H.size by omega, f2, jouter]
          refine congrArg some (arrV_congr fun i hi => ?_)
          rw [if_pos hi]
          show _ = va_rf (jrf G (if jN h ≤ j + 2 ∧ j + 2 ≤ jN h + n.toNat then (if j + 2 = jN h ∧ i < n.toNat then jN h + 1 + i else 0) else jY h (j + 2) i))
          rw [if_pos qin, if_pos ⟨c2, hi⟩, jrf_at G (by omega)]
          rw [show jgz G + (jN h + 1 + i - 2) = H.size + 1 + i by omega]
        · have e0 : jS (jmul h n.toNat k0.toNat) (j + 2) = (16, k0.toNat) := (if_pos qin).trans (if_neg c2)
          rw [jE_arr (c := 16) (by rw [e0]) (by decide), jar_i (by decide), e0]
          show F.heap[jgz G + j]? = some (vp_cell (jgA G 16) (k0.toNat, .inl fun i => Int32.ofInt (jX (jmul h n.toNat k0.toNat) (j + 2) i)))
          rw [vp_cell_i]
          have hr1 := hrow (j + 2 - jN h - 1) (by omega)
          rw [show H.size + 1 + (j + 2 - jN h - 1) = jgz G + j by omega] at hr1
          rw [hr1]
          unfold Jvm.Free.Multi.innerC
          rw [arrV_new]
          refine congrArg some (arrV_congr fun i hi => ?_)
          show _ = Value.int (Int32.ofInt (if jN h ≤ j + 2 ∧ j + 2 ≤ jN h + n.toNat then 0 else jX h (j + 2) i))
          rw [if_pos qin]
          rfl
    · have := hSS.1
      omega
    · exact (hold0 q (by have := hSS.1; omega)).trans (hSS.2.1 q hq hA)
    · show F.heap.size = jgz G + (jN h + 1 + n.toNat - 2)
      omega
    · have q : ¬ (jN h ≤ 1 ∧ 1 ≤ jN h + n.toNat) := by omega
      rw [show jS (jmul h n.toNat k0.toNat) 1 = jS h 1 from if_neg q, show jX (jmul h n.toNat k0.toNat) 1 = jX h 1 from funext fun _ => if_neg q]
      exact hX.kept (hold0 _ (by omega))
  obtain ⟨t, a1, b1⟩ := k p l e R s m args below meth c G MC MS Z F.heap locs (cells + 1 + n.toNat) (slots + n.toNat + n.toNat * k0.toNat) ls cx hok' hls (jst_cons (v := .inr (jN h)) trivial (jst_tl (jst_tl hst))) (by omega) (by omega) (by omega) F rfl X'
  refine ⟨t, step t ?_, b1⟩
  rw [List.map_cons, show jV G (.inr (jN h)) = .ref (jgz G + (jN h - 2)) from jrf_new G h h2, show jgz G + (jN h - 2) = T.heap.size by rw [hT]; omega] at a1
  exact a1
end JM
end
section
/-! ===== methods, links, fields: their words in the tables ===== -/
section JF
variable {M : jM} {d pc mc ms : Nat} {L : List (Option jA)} {st : List jA} {h : jH} {Q : Option jA → jH → Prop}
theorem V_topI {x y : Int} (e : x = y) (k : V M d pc L (.inl y :: st) h mc ms Q) : V M d pc L (.inl x :: st) h mc ms Q := e ▸ k
theorem V_topP {x y : Nat} (e : x = y) (k : V M d pc L (.inr y :: st) h mc ms Q) : V M d pc L (.inr x :: st) h mc ms Q := e ▸ k
theorem jI_at {a k : Nat} {v : Int} : jI (jsI h a k v) a k = v := ju_at
theorem jI_ne {a k k2 : Nat} {v : Int} (hk : k2 ≠ k) : jI (jsI h a k v) a k2 = jI h a k2 := ju_k hk
theorem jP_at {a k v : Nat} : jP (jsP h a k v) a k = v := ju_at
theorem jP_ne {a k k2 v : Nat} (hk : k2 ≠ k) : jP (jsP h a k v) a k2 = jP h a k2 := ju_k hk
theorem jX_at {a k : Nat} {v : Int} : jX (jsX h a k v) a k = v := ju_at
theorem jX_ne {a k k2 : Nat} {v : Int} (hk : k2 ≠ k) : jX (jsX h a k v) a k2 = jX h a k2 := ju_k hk
theorem jY_at {a k v : Nat} : jY (jsY h a k v) a k = v := ju_at
theorem jY_ne {a k k2 v : Nat} (hk : k2 ≠ k) : jY (jsY h a k v) a k2 = jY h a k2 := ju_k hk
def jb (p : Prop) [Decidable p] : Int := if p then 1 else 0
theorem jb01 (p : Prop) [Decidable p] : jb p = 0 ∨ jb p = 1 := by unfold jb; split; exact Or.inr rfl; exact Or.inl rfl
theorem jb_0 {p : Prop} [Decidable p] : jb p = 0 ↔ ¬ p := by unfold jb; split <;> simp_all
theorem jb_1 {p : Prop} [Decidable p] : jb p = 1 ↔ p := by unfold jb; split <;> simp_all
theorem jb_t {p : Prop} [Decidable p] (hp : p) : jb p = 1 := jb_1.mpr hp
theorem jb_f {p : Prop} [Decidable p] (hp : ¬ p) : jb p = 0 := jb_0.mpr hp
theorem V_ifb_eq {p : Prop} [Decidable p] {off : Int} {tgt : Nat} (hd : decode (jmC M) pc = .ok (.ifCond .eq off, 3)) (ht : (pc : Int) + off = (tgt : Int))
    (kt : ¬ p → V M d tgt L st h mc ms Q) (kf : p → V M d (pc + 3) L st h mc ms Q) : V M d pc L (.inl (jb p) :: st) h mc ms Q := V_if_eq hd ht (fun q => kt (jb_0.mp q)) (fun q => kf (by
      rcases Decidable.em p with z | z
      · exact z
      · exact absurd (jb_0.mpr z) q))
theorem V_ifb_ne {p : Prop} [Decidable p] {off : Int} {tgt : Nat} (hd : decode (jmC M) pc = .ok (.ifCond .ne off, 3)) (ht : (pc : Int) + off = (tgt : Int))
    (kt : p → V M d tgt L st h mc ms Q) (kf : ¬ p → V M d (pc + 3) L st h mc ms Q) : V M d pc L (.inl (jb p) :: st) h mc ms Q := V_if_ne hd ht (fun q => kt (by
      rcases Decidable.em p with z | z
      · exact z
      · exact absurd (jb_0.mpr z) q)) (fun q => kf (jb_0.mp q))
theorem V_reti {z : Int} (hR : jmR M = some .int) (hd : decode (jmC M) pc = .ok (.ireturn, 1)) (hQ : Q (some (.inl z)) h) : V M d pc L [.inl z] h 0 0 Q := by
  intro p l e R s m args below meth c G MC MS Z H locs cells slots ls cx hok hls hst hc hs hz
  exact V_ret (v := some (.inl z)) rfl rfl (by rw [hR]; exact hd) (by rw [hR]; exact jst_hd hst) rfl hQ p l e R s m args below meth c G MC MS Z H locs cells slots ls cx hok hls hst hc hs hz
theorem V_retz {z : Int} (hR : jmR M = some .boolean) (hd : decode (jmC M) pc = .ok (.ireturn, 1)) (hz : z = 0 ∨ z = 1) (hQ : Q (some (.inl z)) h) : V M d pc L [.inl z] h 0 0 Q :=
  V_ret (v := some (.inl z)) rfl rfl (by rw [hR]; exact hd) (by rw [hR]; exact hz) rfl hQ
end JF
theorem jacI : Cond.arrayClass .int ∈ jTs := jmem 123 (by decide +kernel) (by decide +kernel)
theorem jacZ : Cond.arrayClass .boolean ∈ jTs := jmem 369 (by decide +kernel) (by decide +kernel)
theorem jacN : Cond.native arraycopyName ∈ jTs := jmem 296 (by decide +kernel) (by decide +kernel)
theorem jacS : Cond.static arraycopyName ∈ jTs := jmem 295 (by decide +kernel) (by decide +kernel)
theorem jacY : Cond.initialized "java/lang/System" ∈ jTs := jmem 83 (by decide +kernel) (by decide +kernel)
theorem jobI : Cond.instanceMethod Lib.objectInit ∈ jTs := jmem 95 (by decide +kernel) (by decide +kernel)
theorem jobC : Cond.code Lib.objectInit ⟨#[0xb1]⟩ 1 none ∈ jTs := jmem 96 (by decide +kernel) (by decide +kernel)
theorem in0 : Cond.instantiable (jR_ 0) 4 ∈ jTs := jmem 216 (by decide +kernel) (by decide +kernel)
theorem ini0 : Cond.initialized (jR_ 0) ∈ jTs := jmem 80 (by decide +kernel) (by decide +kernel)
theorem in1 : Cond.instantiable (jR_ 1) 4 ∈ jTs := jmem 222 (by decide +kernel) (by decide +kernel)
theorem ini1 : Cond.initialized (jR_ 1) ∈ jTs := jmem 81 (by decide +kernel) (by decide +kernel)
theorem in2 : Cond.instantiable (jR_ 2) 13 ∈ jTs := jmem 125 (by decide +kernel) (by decide +kernel)
theorem ini2 : Cond.initialized (jR_ 2) ∈ jTs := jmem 77 (by decide +kernel) (by decide +kernel)
theorem in3 : Cond.instantiable (jR_ 3) 4 ∈ jTs := jmem 347 (by decide +kernel) (by decide +kernel)
theorem ini3 : Cond.initialized (jR_ 3) ∈ jTs := jmem 85 (by decide +kernel) (by decide +kernel)
theorem in4 : Cond.instantiable (jR_ 4) 2 ∈ jTs := jmem 330 (by decide +kernel) (by decide +kernel)
theorem ini4 : Cond.initialized (jR_ 4) ∈ jTs := jmem 84 (by decide +kernel) (by decide +kernel)
theorem in5 : Cond.instantiable (jR_ 5) 5 ∈ jTs := jmem 187 (by decide +kernel) (by decide +kernel)
theorem ini5 : Cond.initialized (jR_ 5) ∈ jTs := jmem 78 (by decide +kernel) (by decide +kernel)
theorem in6 : Cond.instantiable (jR_ 6) 7 ∈ jTs := jmem 209 (by decide +kernel) (by decide +kernel)
theorem ini6 : Cond.initialized (jR_ 6) ∈ jTs := jmem 79 (by decide +kernel) (by decide +kernel)
theorem in7 : Cond.instantiable (jR_ 7) 5 ∈ jTs := jmem 98 (by decide +kernel) (by decide +kernel)
theorem ini7 : Cond.initialized (jR_ 7) ∈ jTs := jmem 76 (by decide +kernel) (by decide +kernel)
theorem in8 : Cond.instantiable (jR_ 8) 14 ∈ jTs := jmem 90 (by decide +kernel) (by decide +kernel)
theorem ini8 : Cond.initialized (jR_ 8) ∈ jTs := jmem 75 (by decide +kernel) (by decide +kernel)
theorem in9 : Cond.instantiable (jR_ 9) 50 ∈ jTs := jmem 843 (by decide +kernel) (by decide +kernel)
theorem ini9 : Cond.initialized (jR_ 9) ∈ jTs := jmem 86 (by decide +kernel) (by decide +kernel)
abbrev MX0_init : jM := (yX0_init, cX0_init, 1, none)
theorem tX0_init : jMt MX0_init 0 := ⟨jmem 219 (by decide +kernel) (by decide +kernel), jmem 80 (by decide +kernel) (by decide +kernel), ⟨by decide, by decide, by decide +kernel⟩, by decide, by decide⟩
theorem iX0_init : (jmY MX0_init).name = "<init>" ∧ Cond.instanceMethod (jmY MX0_init) ∈ jTs := ⟨rfl, jmem 218 (by decide +kernel) (by decide +kernel)⟩
abbrev MX0_restart : jM := (yX0_restart, cX0_restart, 3, none)
theorem tX0_restart : jMt MX0_restart 2 := ⟨jmem 293 (by decide +kernel) (by decide +kernel), jmem 80 (by decide +kernel) (by decide +kernel), ⟨by decide, by decide, by decide +kernel⟩, by decide, by decide⟩
theorem vX0_restart : Cond.instanceMethod (jmY MX0_restart) ∈ jTs ∧ Cond.selects (jmY MX0_restart).cls (jmY MX0_restart) (jmY MX0_restart) ∈ jTs := ⟨jmem 291 (by decide +kernel) (by decide +kernel), jmem 292 (by decide +kernel) (by decide +kernel)⟩
abbrev MX0_copyFrom : jM := (yX0_copyFrom, cX0_copyFrom, 2, none)
theorem tX0_copyFrom : jMt MX0_copyFrom 1 := ⟨jmem 595 (by decide +kernel) (by decide +kernel), jmem 80 (by decide +kernel) (by decide +kernel), ⟨by decide, by decide, by decide +kernel⟩, by decide, by decide⟩
theorem vX0_copyFrom : Cond.instanceMethod (jmY MX0_copyFrom) ∈ jTs ∧ Cond.selects (jmY MX0_copyFrom).cls (jmY MX0_copyFrom) (jmY MX0_copyFrom) ∈ jTs := ⟨jmem 593 (by decide +kernel) (by decide +kernel), jmem 594 (by decide +kernel) (by decide +kernel)⟩
abbrev MX1_init : jM := (yX1_init, cX1_init, 2, none)
theorem tX1_init : jMt MX1_init 1 := ⟨jmem 225 (by decide +kernel) (by decide +kernel), jmem 81 (by decide +kernel) (by decide +kernel), ⟨by decide, by decide, by decide +kernel⟩, by decide, by decide⟩
theorem iX1_init : (jmY MX1_init).name = "<init>" ∧ Cond.instanceMethod (jmY MX1_init) ∈ jTs := ⟨rfl, jmem 224 (by decide +kernel) (by decide +kernel)⟩
abbrev MX1_add : jM := (yX1_add, cX1_add, 4, none)
theorem tX1_add : jMt MX1_add 3 := ⟨jmem 608 (by decide +kernel) (by decide +kernel), jmem 81 (by decide +kernel) (by decide +kernel), ⟨by decide, by decide, by decide +kernel⟩, by decide, by decide⟩
theorem vX1_add : Cond.instanceMethod (jmY MX1_add) ∈ jTs ∧ Cond.selects (jmY MX1_add).cls (jmY MX1_add) (jmY MX1_add) ∈ jTs := ⟨jmem 606 (by decide +kernel) (by decide +kernel), jmem 607 (by decide +kernel) (by decide +kernel)⟩
abbrev MX1_addAll : jM := (yX1_addAll, cX1_addAll, 3, none)
theorem tX1_addAll : jMt MX1_addAll 1 := ⟨jmem 604 (by decide +kernel) (by decide +kernel), jmem 81 (by decide +kernel) (by decide +kernel), ⟨by decide, by decide, by decide +kernel⟩, by decide, by decide⟩
theorem vX1_addAll : Cond.instanceMethod (jmY MX1_addAll) ∈ jTs ∧ Cond.selects (jmY MX1_addAll).cls (jmY MX1_addAll) (jmY MX1_addAll) ∈ jTs := ⟨jmem 602 (by decide +kernel) (by decide +kernel), jmem 603 (by decide +kernel) (by decide +kernel)⟩
abbrev MX1_copyFrom : jM := (yX1_copyFrom, cX1_copyFrom, 2, none)
theorem tX1_copyFrom : jMt MX1_copyFrom 1 := ⟨jmem 600 (by decide +kernel) (by decide +kernel), jmem 81 (by decide +kernel) (by decide +kernel), ⟨by decide, by decide, by decide +kernel⟩, by decide, by decide⟩
theorem vX1_copyFrom : Cond.instanceMethod (jmY MX1_copyFrom) ∈ jTs ∧ Cond.selects (jmY MX1_copyFrom).cls (jmY MX1_copyFrom) (jmY MX1_copyFrom) ∈ jTs := ⟨jmem 598 (by decide +kernel) (by decide +kernel), jmem 599 (by decide +kernel) (by decide +kernel)⟩
abbrev MX1_isNew : jM := (yX1_isNew, cX1_isNew, 4, (some .boolean))
theorem tX1_isNew : jMt MX1_isNew 2 := ⟨jmem 747 (by decide +kernel) (by decide +kernel), jmem 81 (by decide +kernel) (by decide +kernel), ⟨by decide, by decide, by decide +kernel⟩, by decide, by decide⟩
theorem vX1_isNew : Cond.instanceMethod (jmY MX1_isNew) ∈ jTs ∧ Cond.selects (jmY MX1_isNew).cls (jmY MX1_isNew) (jmY MX1_isNew) ∈ jTs := ⟨jmem 746 (by decide +kernel) (by decide +kernel), jmem 19 (by decide +kernel) (by decide +kernel)⟩
abbrev MX1_different : jM := (yX1_different, cX1_different, 5, (some .int))
theorem tX1_different : jMt MX1_different 2 := ⟨jmem 743 (by decide +kernel) (by decide +kernel), jmem 81 (by decide +kernel) (by decide +kernel), ⟨by decide, by decide, by decide +kernel⟩, by decide, by decide⟩
theorem vX1_different : Cond.instanceMethod (jmY MX1_different) ∈ jTs ∧ Cond.selects (jmY MX1_different).cls (jmY MX1_different) (jmY MX1_different) ∈ jTs := ⟨jmem 741 (by decide +kernel) (by decide +kernel), jmem 742 (by decide +kernel) (by decide +kernel)⟩
abbrev MX1_indexOf : jM := (yX1_indexOf, cX1_indexOf, 4, (some .int))
theorem tX1_indexOf : jMt MX1_indexOf 2 := ⟨jmem 760 (by decide +kernel) (by decide +kernel), jmem 81 (by decide +kernel) (by decide +kernel), ⟨by decide, by decide, by decide +kernel⟩, by decide, by decide⟩
theorem vX1_indexOf : Cond.instanceMethod (jmY MX1_indexOf) ∈ jTs ∧ Cond.selects (jmY MX1_indexOf).cls (jmY MX1_indexOf) (jmY MX1_indexOf) ∈ jTs := ⟨jmem 758 (by decide +kernel) (by decide +kernel), jmem 759 (by decide +kernel) (by decide +kernel)⟩
abbrev MX1_room : jM := (yX1_room, cX1_room, 9, (some .int))
theorem tX1_room : jMt MX1_room 4 := ⟨jmem 755 (by decide +kernel) (by decide +kernel), jmem 81 (by decide +kernel) (by decide +kernel), ⟨by decide, by decide, by decide +kernel⟩, by decide, by decide⟩
theorem vX1_room : Cond.instanceMethod (jmY MX1_room) ∈ jTs ∧ Cond.selects (jmY MX1_room).cls (jmY MX1_room) (jmY MX1_room) ∈ jTs := ⟨jmem 753 (by decide +kernel) (by decide +kernel), jmem 754 (by decide +kernel) (by decide +kernel)⟩
abbrev MX2_init : jM := (yX2_init, cX2_init, 1, none)
theorem tX2_init : jMt MX2_init 0 := ⟨jmem 128 (by decide +kernel) (by decide +kernel), jmem 77 (by decide +kernel) (by decide +kernel), ⟨by decide, by decide, by decide +kernel⟩, by decide, by decide⟩
theorem iX2_init : (jmY MX2_init).name = "<init>" ∧ Cond.instanceMethod (jmY MX2_init) ∈ jTs := ⟨rfl, jmem 127 (by decide +kernel) (by decide +kernel)⟩
abbrev MX2_empty : jM := (yX2_empty, cX2_empty, 1, none)
theorem tX2_empty : jMt MX2_empty 0 := ⟨jmem 442 (by decide +kernel) (by decide +kernel), jmem 77 (by decide +kernel) (by decide +kernel), ⟨by decide, by decide, by decide +kernel⟩, by decide, by decide⟩
theorem vX2_empty : Cond.instanceMethod (jmY MX2_empty) ∈ jTs ∧ Cond.selects (jmY MX2_empty).cls (jmY MX2_empty) (jmY MX2_empty) ∈ jTs := ⟨jmem 440 (by decide +kernel) (by decide +kernel), jmem 441 (by decide +kernel) (by decide +kernel)⟩
abbrev MX2_addScope : jM := (yX2_addScope, cX2_addScope, 4, (some .int))
theorem tX2_addScope : jMt MX2_addScope 2 := ⟨jmem 475 (by decide +kernel) (by decide +kernel), jmem 77 (by decide +kernel) (by decide +kernel), ⟨by decide, by decide, by decide +kernel⟩, by decide, by decide⟩
theorem vX2_addScope : Cond.instanceMethod (jmY MX2_addScope) ∈ jTs ∧ Cond.selects (jmY MX2_addScope).cls (jmY MX2_addScope) (jmY MX2_addScope) ∈ jTs := ⟨jmem 473 (by decide +kernel) (by decide +kernel), jmem 474 (by decide +kernel) (by decide +kernel)⟩
abbrev MX2_addSignal : jM := (yX2_addSignal, cX2_addSignal, 6, none)
theorem tX2_addSignal : jMt MX2_addSignal 4 := ⟨jmem 522 (by decide +kernel) (by decide +kernel), jmem 77 (by decide +kernel) (by decide +kernel), ⟨by decide, by decide, by decide +kernel⟩, by decide, by decide⟩
theorem vX2_addSignal : Cond.instanceMethod (jmY MX2_addSignal) ∈ jTs ∧ Cond.selects (jmY MX2_addSignal).cls (jmY MX2_addSignal) (jmY MX2_addSignal) ∈ jTs := ⟨jmem 520 (by decide +kernel) (by decide +kernel), jmem 521 (by decide +kernel) (by decide +kernel)⟩
abbrev MX2_beginCode : jM := (yX2_beginCode, cX2_beginCode, 1, none)
theorem tX2_beginCode : jMt MX2_beginCode 0 := ⟨jmem 499 (by decide +kernel) (by decide +kernel), jmem 77 (by decide +kernel) (by decide +kernel), ⟨by decide, by decide, by decide +kernel⟩, by decide, by decide⟩
theorem vX2_beginCode : Cond.instanceMethod (jmY MX2_beginCode) ∈ jTs ∧ Cond.selects (jmY MX2_beginCode).cls (jmY MX2_beginCode) (jmY MX2_beginCode) ∈ jTs := ⟨jmem 497 (by decide +kernel) (by decide +kernel), jmem 498 (by decide +kernel) (by decide +kernel)⟩
abbrev MX2_addCode : jM := (yX2_addCode, cX2_addCode, 2, none)
theorem tX2_addCode : jMt MX2_addCode 1 := ⟨jmem 515 (by decide +kernel) (by decide +kernel), jmem 77 (by decide +kernel) (by decide +kernel), ⟨by decide, by decide, by decide +kernel⟩, by decide, by decide⟩
theorem vX2_addCode : Cond.instanceMethod (jmY MX2_addCode) ∈ jTs ∧ Cond.selects (jmY MX2_addCode).cls (jmY MX2_addCode) (jmY MX2_addCode) ∈ jTs := ⟨jmem 513 (by decide +kernel) (by decide +kernel), jmem 514 (by decide +kernel) (by decide +kernel)⟩
abbrev MX2_named : jM := (yX2_named, cX2_named, 4, (some .int))
theorem tX2_named : jMt MX2_named 2 := ⟨jmem 471 (by decide +kernel) (by decide +kernel), jmem 77 (by decide +kernel) (by decide +kernel), ⟨by decide, by decide, by decide +kernel⟩, by decide, by decide⟩
theorem vX2_named : Cond.instanceMethod (jmY MX2_named) ∈ jTs ∧ Cond.selects (jmY MX2_named).cls (jmY MX2_named) (jmY MX2_named) ∈ jTs := ⟨jmem 469 (by decide +kernel) (by decide +kernel), jmem 470 (by decide +kernel) (by decide +kernel)⟩
abbrev MX2_depth : jM := (yX2_depth, cX2_depth, 4, (some .int))
theorem tX2_depth : jMt MX2_depth 1 := ⟨jmem 462 (by decide +kernel) (by decide +kernel), jmem 77 (by decide +kernel) (by decide +kernel), ⟨by decide, by decide, by decide +kernel⟩, by decide, by decide⟩
theorem vX2_depth : Cond.instanceMethod (jmY MX2_depth) ∈ jTs ∧ Cond.selects (jmY MX2_depth).cls (jmY MX2_depth) (jmY MX2_depth) ∈ jTs := ⟨jmem 460 (by decide +kernel) (by decide +kernel), jmem 461 (by decide +kernel) (by decide +kernel)⟩
abbrev MX2_pathName : jM := (yX2_pathName, cX2_pathName, 6, (some .int))
theorem tX2_pathName : jMt MX2_pathName 2 := ⟨jmem 573 (by decide +kernel) (by decide +kernel), jmem 77 (by decide +kernel) (by decide +kernel), ⟨by decide, by decide, by decide +kernel⟩, by decide, by decide⟩
theorem vX2_pathName : Cond.instanceMethod (jmY MX2_pathName) ∈ jTs ∧ Cond.selects (jmY MX2_pathName).cls (jmY MX2_pathName) (jmY MX2_pathName) ∈ jTs := ⟨jmem 571 (by decide +kernel) (by decide +kernel), jmem 572 (by decide +kernel) (by decide +kernel)⟩
abbrev MX2_complete : jM := (yX2_complete, cX2_complete, 3, none)
theorem tX2_complete : jMt MX2_complete 1 := ⟨jmem 547 (by decide +kernel) (by decide +kernel), jmem 77 (by decide +kernel) (by decide +kernel), ⟨by decide, by decide, by decide +kernel⟩, by decide, by decide⟩
theorem vX2_complete : Cond.instanceMethod (jmY MX2_complete) ∈ jTs ∧ Cond.selects (jmY MX2_complete).cls (jmY MX2_complete) (jmY MX2_complete) ∈ jTs := ⟨jmem 545 (by decide +kernel) (by decide +kernel), jmem 546 (by decide +kernel) (by decide +kernel)⟩
abbrev MX2_computed : jM := (yX2_computed, cX2_computed, 6, (some .int))
theorem tX2_computed : jMt MX2_computed 2 := ⟨jmem 551 (by decide +kernel) (by decide +kernel), jmem 77 (by decide +kernel) (by decide +kernel), ⟨by decide, by decide, by decide +kernel⟩, by decide, by decide⟩
theorem vX2_computed : Cond.instanceMethod (jmY MX2_computed) ∈ jTs ∧ Cond.selects (jmY MX2_computed).cls (jmY MX2_computed) (jmY MX2_computed) ∈ jTs := ⟨jmem 550 (by decide +kernel) (by decide +kernel), jmem 12 (by decide +kernel) (by decide +kernel)⟩
abbrev MX2_negated : jM := (yX2_negated, cX2_negated, 1, (some .int))
theorem tX2_negated : jMt MX2_negated 1 := ⟨jmem 554 (by decide +kernel) (by decide +kernel), jmem 77 (by decide +kernel) (by decide +kernel), ⟨by decide, by decide, by decide +kernel⟩, by decide, by decide⟩
theorem sX2_negated : Cond.static (jmY MX2_negated) ∈ jTs := jmem 553 (by decide +kernel) (by decide +kernel)
abbrev MX2_joined : jM := (yX2_joined, cX2_joined, 3, (some .int))
theorem tX2_joined : jMt MX2_joined 3 := ⟨jmem 557 (by decide +kernel) (by decide +kernel), jmem 77 (by decide +kernel) (by decide +kernel), ⟨by decide, by decide, by decide +kernel⟩, by decide, by decide⟩
theorem sX2_joined : Cond.static (jmY MX2_joined) ∈ jTs := jmem 556 (by decide +kernel) (by decide +kernel)
abbrev MX3_init : jM := (yX3_init, cX3_init, 1, none)
theorem tX3_init : jMt MX3_init 0 := ⟨jmem 350 (by decide +kernel) (by decide +kernel), jmem 85 (by decide +kernel) (by decide +kernel), ⟨by decide, by decide, by decide +kernel⟩, by decide, by decide⟩
theorem iX3_init : (jmY MX3_init).name = "<init>" ∧ Cond.instanceMethod (jmY MX3_init) ∈ jTs := ⟨rfl, jmem 349 (by decide +kernel) (by decide +kernel)⟩
abbrev MX3_read : jM := (yX3_read, cX3_read, 6, none)
theorem tX3_read : jMt MX3_read 2 := ⟨jmem 668 (by decide +kernel) (by decide +kernel), jmem 85 (by decide +kernel) (by decide +kernel), ⟨by decide, by decide, by decide +kernel⟩, by decide, by decide⟩
theorem vX3_read : Cond.instanceMethod (jmY MX3_read) ∈ jTs ∧ Cond.selects (jmY MX3_read).cls (jmY MX3_read) (jmY MX3_read) ∈ jTs := ⟨jmem 666 (by decide +kernel) (by decide +kernel), jmem 667 (by decide +kernel) (by decide +kernel)⟩
abbrev MX3_addMoment : jM := (yX3_addMoment, cX3_addMoment, 4, none)
theorem tX3_addMoment : jMt MX3_addMoment 1 := ⟨jmem 672 (by decide +kernel) (by decide +kernel), jmem 85 (by decide +kernel) (by decide +kernel), ⟨by decide, by decide, by decide +kernel⟩, by decide, by decide⟩
theorem vX3_addMoment : Cond.instanceMethod (jmY MX3_addMoment) ∈ jTs ∧ Cond.selects (jmY MX3_addMoment).cls (jmY MX3_addMoment) (jmY MX3_addMoment) ∈ jTs := ⟨jmem 671 (by decide +kernel) (by decide +kernel), jmem 16 (by decide +kernel) (by decide +kernel)⟩
abbrev MX3_after : jM := (yX3_after, cX3_after, 2, (some .int))
theorem tX3_after : jMt MX3_after 1 := ⟨jmem 698 (by decide +kernel) (by decide +kernel), jmem 85 (by decide +kernel) (by decide +kernel), ⟨by decide, by decide, by decide +kernel⟩, by decide, by decide⟩
theorem vX3_after : Cond.instanceMethod (jmY MX3_after) ∈ jTs ∧ Cond.selects (jmY MX3_after).cls (jmY MX3_after) (jmY MX3_after) ∈ jTs := ⟨jmem 696 (by decide +kernel) (by decide +kernel), jmem 697 (by decide +kernel) (by decide +kernel)⟩
abbrev MX3_isEdge : jM := (yX3_isEdge, cX3_isEdge, 6, (some .boolean))
theorem tX3_isEdge : jMt MX3_isEdge 3 := ⟨jmem 679 (by decide +kernel) (by decide +kernel), jmem 85 (by decide +kernel) (by decide +kernel), ⟨by decide, by decide, by decide +kernel⟩, by decide, by decide⟩
theorem vX3_isEdge : Cond.instanceMethod (jmY MX3_isEdge) ∈ jTs ∧ Cond.selects (jmY MX3_isEdge).cls (jmY MX3_isEdge) (jmY MX3_isEdge) ∈ jTs := ⟨jmem 677 (by decide +kernel) (by decide +kernel), jmem 678 (by decide +kernel) (by decide +kernel)⟩
abbrev MX3_hasEdgeOf : jM := (yX3_hasEdgeOf, cX3_hasEdgeOf, 4, (some .boolean))
theorem tX3_hasEdgeOf : jMt MX3_hasEdgeOf 2 := ⟨jmem 713 (by decide +kernel) (by decide +kernel), jmem 85 (by decide +kernel) (by decide +kernel), ⟨by decide, by decide, by decide +kernel⟩, by decide, by decide⟩
theorem vX3_hasEdgeOf : Cond.instanceMethod (jmY MX3_hasEdgeOf) ∈ jTs ∧ Cond.selects (jmY MX3_hasEdgeOf).cls (jmY MX3_hasEdgeOf) (jmY MX3_hasEdgeOf) ∈ jTs := ⟨jmem 711 (by decide +kernel) (by decide +kernel), jmem 712 (by decide +kernel) (by decide +kernel)⟩
abbrev MX3_hasEdgeAt : jM := (yX3_hasEdgeAt, cX3_hasEdgeAt, 4, (some .boolean))
theorem tX3_hasEdgeAt : jMt MX3_hasEdgeAt 2 := ⟨jmem 726 (by decide +kernel) (by decide +kernel), jmem 85 (by decide +kernel) (by decide +kernel), ⟨by decide, by decide, by decide +kernel⟩, by decide, by decide⟩
theorem vX3_hasEdgeAt : Cond.instanceMethod (jmY MX3_hasEdgeAt) ∈ jTs ∧ Cond.selects (jmY MX3_hasEdgeAt).cls (jmY MX3_hasEdgeAt) (jmY MX3_hasEdgeAt) ∈ jTs := ⟨jmem 725 (by decide +kernel) (by decide +kernel), jmem 17 (by decide +kernel) (by decide +kernel)⟩
abbrev MX3_follows : jM := (yX3_follows, cX3_follows, 6, (some .boolean))
theorem tX3_follows : jMt MX3_follows 3 := ⟨jmem 722 (by decide +kernel) (by decide +kernel), jmem 85 (by decide +kernel) (by decide +kernel), ⟨by decide, by decide, by decide +kernel⟩, by decide, by decide⟩
theorem vX3_follows : Cond.instanceMethod (jmY MX3_follows) ∈ jTs ∧ Cond.selects (jmY MX3_follows).cls (jmY MX3_follows) (jmY MX3_follows) ∈ jTs := ⟨jmem 720 (by decide +kernel) (by decide +kernel), jmem 721 (by decide +kernel) (by decide +kernel)⟩
abbrev MX3_greatestGroup : jM := (yX3_greatestGroup, cX3_greatestGroup, 8, (some .int))
theorem tX3_greatestGroup : jMt MX3_greatestGroup 2 := ⟨jmem 819 (by decide +kernel) (by decide +kernel), jmem 85 (by decide +kernel) (by decide +kernel), ⟨by decide, by decide, by decide +kernel⟩, by decide, by decide⟩
theorem vX3_greatestGroup : Cond.instanceMethod (jmY MX3_greatestGroup) ∈ jTs ∧ Cond.selects (jmY MX3_greatestGroup).cls (jmY MX3_greatestGroup) (jmY MX3_greatestGroup) ∈ jTs := ⟨jmem 817 (by decide +kernel) (by decide +kernel), jmem 818 (by decide +kernel) (by decide +kernel)⟩
abbrev MX4_init : jM := (yX4_init, cX4_init, 2, none)
theorem tX4_init : jMt MX4_init 0 := ⟨jmem 333 (by decide +kernel) (by decide +kernel), jmem 84 (by decide +kernel) (by decide +kernel), ⟨by decide, by decide, by decide +kernel⟩, by decide, by decide⟩
theorem iX4_init : (jmY MX4_init).name = "<init>" ∧ Cond.instanceMethod (jmY MX4_init) ∈ jTs := ⟨rfl, jmem 332 (by decide +kernel) (by decide +kernel)⟩
abbrev MX4_remember : jM := (yX4_remember, cX4_remember, 4, none)
theorem tX4_remember : jMt MX4_remember 1 := ⟨jmem 586 (by decide +kernel) (by decide +kernel), jmem 84 (by decide +kernel) (by decide +kernel), ⟨by decide, by decide, by decide +kernel⟩, by decide, by decide⟩
theorem vX4_remember : Cond.instanceMethod (jmY MX4_remember) ∈ jTs ∧ Cond.selects (jmY MX4_remember).cls (jmY MX4_remember) (jmY MX4_remember) ∈ jTs := ⟨jmem 584 (by decide +kernel) (by decide +kernel), jmem 585 (by decide +kernel) (by decide +kernel)⟩
abbrev MX4_bringBack : jM := (yX4_bringBack, cX4_bringBack, 2, none)
theorem tX4_bringBack : jMt MX4_bringBack 1 := ⟨jmem 637 (by decide +kernel) (by decide +kernel), jmem 84 (by decide +kernel) (by decide +kernel), ⟨by decide, by decide, by decide +kernel⟩, by decide, by decide⟩
theorem vX4_bringBack : Cond.instanceMethod (jmY MX4_bringBack) ∈ jTs ∧ Cond.selects (jmY MX4_bringBack).cls (jmY MX4_bringBack) (jmY MX4_bringBack) ∈ jTs := ⟨jmem 635 (by decide +kernel) (by decide +kernel), jmem 636 (by decide +kernel) (by decide +kernel)⟩
abbrev MX5_init : jM := (yX5_init, cX5_init, 3, none)
theorem tX5_init : jMt MX5_init 2 := ⟨jmem 190 (by decide +kernel) (by decide +kernel), jmem 78 (by decide +kernel) (by decide +kernel), ⟨by decide, by decide, by decide +kernel⟩, by decide, by decide⟩
theorem iX5_init : (jmY MX5_init).name = "<init>" ∧ Cond.instanceMethod (jmY MX5_init) ∈ jTs := ⟨rfl, jmem 189 (by decide +kernel) (by decide +kernel)⟩
abbrev MX5_read : jM := (yX5_read, cX5_read, 3, (some .int))
theorem tX5_read : jMt MX5_read 1 := ⟨jmem 438 (by decide +kernel) (by decide +kernel), jmem 78 (by decide +kernel) (by decide +kernel), ⟨by decide, by decide, by decide +kernel⟩, by decide, by decide⟩
theorem vX5_read : Cond.instanceMethod (jmY MX5_read) ∈ jTs ∧ Cond.selects (jmY MX5_read).cls (jmY MX5_read) (jmY MX5_read) ∈ jTs := ⟨jmem 436 (by decide +kernel) (by decide +kernel), jmem 437 (by decide +kernel) (by decide +kernel)⟩
abbrev MX5_readItem : jM := (yX5_readItem, cX5_readItem, 2, (some .boolean))
theorem tX5_readItem : jMt MX5_readItem 0 := ⟨jmem 454 (by decide +kernel) (by decide +kernel), jmem 78 (by decide +kernel) (by decide +kernel), ⟨by decide, by decide, by decide +kernel⟩, by decide, by decide⟩
theorem vX5_readItem : Cond.instanceMethod (jmY MX5_readItem) ∈ jTs ∧ Cond.selects (jmY MX5_readItem).cls (jmY MX5_readItem) (jmY MX5_readItem) ∈ jTs := ⟨jmem 453 (by decide +kernel) (by decide +kernel), jmem 2 (by decide +kernel) (by decide +kernel)⟩
abbrev MX5_readSign : jM := (yX5_readSign, cX5_readSign, 2, (some .boolean))
theorem tX5_readSign : jMt MX5_readSign 1 := ⟨jmem 511 (by decide +kernel) (by decide +kernel), jmem 78 (by decide +kernel) (by decide +kernel), ⟨by decide, by decide, by decide +kernel⟩, by decide, by decide⟩
theorem vX5_readSign : Cond.instanceMethod (jmY MX5_readSign) ∈ jTs ∧ Cond.selects (jmY MX5_readSign).cls (jmY MX5_readSign) (jmY MX5_readSign) ∈ jTs := ⟨jmem 510 (by decide +kernel) (by decide +kernel), jmem 10 (by decide +kernel) (by decide +kernel)⟩
abbrev MX5_readOpening : jM := (yX5_readOpening, cX5_readOpening, 3, (some .boolean))
theorem tX5_readOpening : jMt MX5_readOpening 0 := ⟨jmem 458 (by decide +kernel) (by decide +kernel), jmem 78 (by decide +kernel) (by decide +kernel), ⟨by decide, by decide, by decide +kernel⟩, by decide, by decide⟩
theorem vX5_readOpening : Cond.instanceMethod (jmY MX5_readOpening) ∈ jTs ∧ Cond.selects (jmY MX5_readOpening).cls (jmY MX5_readOpening) (jmY MX5_readOpening) ∈ jTs := ⟨jmem 457 (by decide +kernel) (by decide +kernel), jmem 3 (by decide +kernel) (by decide +kernel)⟩
abbrev MX5_readClosing : jM := (yX5_readClosing, cX5_readClosing, 1, (some .boolean))
theorem tX5_readClosing : jMt MX5_readClosing 0 := ⟨jmem 479 (by decide +kernel) (by decide +kernel), jmem 78 (by decide +kernel) (by decide +kernel), ⟨by decide, by decide, by decide +kernel⟩, by decide, by decide⟩
theorem vX5_readClosing : Cond.instanceMethod (jmY MX5_readClosing) ∈ jTs ∧ Cond.selects (jmY MX5_readClosing).cls (jmY MX5_readClosing) (jmY MX5_readClosing) ∈ jTs := ⟨jmem 478 (by decide +kernel) (by decide +kernel), jmem 4 (by decide +kernel) (by decide +kernel)⟩
abbrev MX5_readSignal : jM := (yX5_readSignal, cX5_readSignal, 4, (some .boolean))
theorem tX5_readSignal : jMt MX5_readSignal 0 := ⟨jmem 483 (by decide +kernel) (by decide +kernel), jmem 78 (by decide +kernel) (by decide +kernel), ⟨by decide, by decide, by decide +kernel⟩, by decide, by decide⟩
theorem vX5_readSignal : Cond.instanceMethod (jmY MX5_readSignal) ∈ jTs ∧ Cond.selects (jmY MX5_readSignal).cls (jmY MX5_readSignal) (jmY MX5_readSignal) ∈ jTs := ⟨jmem 482 (by decide +kernel) (by decide +kernel), jmem 5 (by decide +kernel) (by decide +kernel)⟩
abbrev MX5_readWidth : jM := (yX5_readWidth, cX5_readWidth, 2, (some .int))
theorem tX5_readWidth : jMt MX5_readWidth 0 := ⟨jmem 487 (by decide +kernel) (by decide +kernel), jmem 78 (by decide +kernel) (by decide +kernel), ⟨by decide, by decide, by decide +kernel⟩, by decide, by decide⟩
theorem vX5_readWidth : Cond.instanceMethod (jmY MX5_readWidth) ∈ jTs ∧ Cond.selects (jmY MX5_readWidth).cls (jmY MX5_readWidth) (jmY MX5_readWidth) ∈ jTs := ⟨jmem 486 (by decide +kernel) (by decide +kernel), jmem 6 (by decide +kernel) (by decide +kernel)⟩
abbrev MX5_readExpression : jM := (yX5_readExpression, cX5_readExpression, 3, (some .boolean))
theorem tX5_readExpression : jMt MX5_readExpression 0 := ⟨jmem 503 (by decide +kernel) (by decide +kernel), jmem 78 (by decide +kernel) (by decide +kernel), ⟨by decide, by decide, by decide +kernel⟩, by decide, by decide⟩
theorem vX5_readExpression : Cond.instanceMethod (jmY MX5_readExpression) ∈ jTs ∧ Cond.selects (jmY MX5_readExpression).cls (jmY MX5_readExpression) (jmY MX5_readExpression) ∈ jTs := ⟨jmem 502 (by decide +kernel) (by decide +kernel), jmem 8 (by decide +kernel) (by decide +kernel)⟩
abbrev MX5_isOperator : jM := (yX5_isOperator, cX5_isOperator, 1, (some .boolean))
theorem tX5_isOperator : jMt MX5_isOperator 1 := ⟨jmem 518 (by decide +kernel) (by decide +kernel), jmem 78 (by decide +kernel) (by decide +kernel), ⟨by decide, by decide, by decide +kernel⟩, by decide, by decide⟩
theorem sX5_isOperator : Cond.static (jmY MX5_isOperator) ∈ jTs := jmem 517 (by decide +kernel) (by decide +kernel)
abbrev MX5_readTerm : jM := (yX5_readTerm, cX5_readTerm, 4, (some .boolean))
theorem tX5_readTerm : jMt MX5_readTerm 0 := ⟨jmem 507 (by decide +kernel) (by decide +kernel), jmem 78 (by decide +kernel) (by decide +kernel), ⟨by decide, by decide, by decide +kernel⟩, by decide, by decide⟩
theorem vX5_readTerm : Cond.instanceMethod (jmY MX5_readTerm) ∈ jTs ∧ Cond.selects (jmY MX5_readTerm).cls (jmY MX5_readTerm) (jmY MX5_readTerm) ∈ jTs := ⟨jmem 506 (by decide +kernel) (by decide +kernel), jmem 9 (by decide +kernel) (by decide +kernel)⟩
abbrev MX5_readPath : jM := (yX5_readPath, cX5_readPath, 5, (some .int))
theorem tX5_readPath : jMt MX5_readPath 0 := ⟨jmem 495 (by decide +kernel) (by decide +kernel), jmem 78 (by decide +kernel) (by decide +kernel), ⟨by decide, by decide, by decide +kernel⟩, by decide, by decide⟩
theorem vX5_readPath : Cond.instanceMethod (jmY MX5_readPath) ∈ jTs ∧ Cond.selects (jmY MX5_readPath).cls (jmY MX5_readPath) (jmY MX5_readPath) ∈ jTs := ⟨jmem 494 (by decide +kernel) (by decide +kernel), jmem 7 (by decide +kernel) (by decide +kernel)⟩
abbrev MX6_init : jM := (yX6_init, cX6_init, 2, none)
theorem tX6_init : jMt MX6_init 0 := ⟨jmem 212 (by decide +kernel) (by decide +kernel), jmem 79 (by decide +kernel) (by decide +kernel), ⟨by decide, by decide, by decide +kernel⟩, by decide, by decide⟩
theorem iX6_init : (jmY MX6_init).name = "<init>" ∧ Cond.instanceMethod (jmY MX6_init) ∈ jTs := ⟨rfl, jmem 211 (by decide +kernel) (by decide +kernel)⟩
abbrev MX6_restart : jM := (yX6_restart, cX6_restart, 1, none)
theorem tX6_restart : jMt MX6_restart 0 := ⟨jmem 278 (by decide +kernel) (by decide +kernel), jmem 79 (by decide +kernel) (by decide +kernel), ⟨by decide, by decide, by decide +kernel⟩, by decide, by decide⟩
theorem vX6_restart : Cond.instanceMethod (jmY MX6_restart) ∈ jTs ∧ Cond.selects (jmY MX6_restart).cls (jmY MX6_restart) (jmY MX6_restart) ∈ jTs := ⟨jmem 276 (by decide +kernel) (by decide +kernel), jmem 277 (by decide +kernel) (by decide +kernel)⟩
abbrev MX6_copyFrom : jM := (yX6_copyFrom, cX6_copyFrom, 3, none)
theorem tX6_copyFrom : jMt MX6_copyFrom 1 := ⟨jmem 590 (by decide +kernel) (by decide +kernel), jmem 79 (by decide +kernel) (by decide +kernel), ⟨by decide, by decide, by decide +kernel⟩, by decide, by decide⟩
theorem vX6_copyFrom : Cond.instanceMethod (jmY MX6_copyFrom) ∈ jTs ∧ Cond.selects (jmY MX6_copyFrom).cls (jmY MX6_copyFrom) (jmY MX6_copyFrom) ∈ jTs := ⟨jmem 588 (by decide +kernel) (by decide +kernel), jmem 589 (by decide +kernel) (by decide +kernel)⟩
abbrev MX6_give : jM := (yX6_give, cX6_give, 3, none)
theorem tX6_give : jMt MX6_give 2 := ⟨jmem 612 (by decide +kernel) (by decide +kernel), jmem 79 (by decide +kernel) (by decide +kernel), ⟨by decide, by decide, by decide +kernel⟩, by decide, by decide⟩
theorem vX6_give : Cond.instanceMethod (jmY MX6_give) ∈ jTs ∧ Cond.selects (jmY MX6_give).cls (jmY MX6_give) (jmY MX6_give) ∈ jTs := ⟨jmem 610 (by decide +kernel) (by decide +kernel), jmem 611 (by decide +kernel) (by decide +kernel)⟩
abbrev MX6_turn : jM := (yX6_turn, cX6_turn, 2, none)
theorem tX6_turn : jMt MX6_turn 1 := ⟨jmem 625 (by decide +kernel) (by decide +kernel), jmem 79 (by decide +kernel) (by decide +kernel), ⟨by decide, by decide, by decide +kernel⟩, by decide, by decide⟩
theorem vX6_turn : Cond.instanceMethod (jmY MX6_turn) ∈ jTs ∧ Cond.selects (jmY MX6_turn).cls (jmY MX6_turn) (jmY MX6_turn) ∈ jTs := ⟨jmem 623 (by decide +kernel) (by decide +kernel), jmem 624 (by decide +kernel) (by decide +kernel)⟩
abbrev MX6_beginBlock : jM := (yX6_beginBlock, cX6_beginBlock, 1, none)
theorem tX6_beginBlock : jMt MX6_beginBlock 0 := ⟨jmem 285 (by decide +kernel) (by decide +kernel), jmem 79 (by decide +kernel) (by decide +kernel), ⟨by decide, by decide, by decide +kernel⟩, by decide, by decide⟩
theorem vX6_beginBlock : Cond.instanceMethod (jmY MX6_beginBlock) ∈ jTs ∧ Cond.selects (jmY MX6_beginBlock).cls (jmY MX6_beginBlock) (jmY MX6_beginBlock) ∈ jTs := ⟨jmem 284 (by decide +kernel) (by decide +kernel), jmem 0 (by decide +kernel) (by decide +kernel)⟩
abbrev MX6_loseOldest : jM := (yX6_loseOldest, cX6_loseOldest, 3, none)
theorem tX6_loseOldest : jMt MX6_loseOldest 0 := ⟨jmem 289 (by decide +kernel) (by decide +kernel), jmem 79 (by decide +kernel) (by decide +kernel), ⟨by decide, by decide, by decide +kernel⟩, by decide, by decide⟩
theorem vX6_loseOldest : Cond.instanceMethod (jmY MX6_loseOldest) ∈ jTs ∧ Cond.selects (jmY MX6_loseOldest).cls (jmY MX6_loseOldest) (jmY MX6_loseOldest) ∈ jTs := ⟨jmem 288 (by decide +kernel) (by decide +kernel), jmem 1 (by decide +kernel) (by decide +kernel)⟩
abbrev MX6_blockAt : jM := (yX6_blockAt, cX6_blockAt, 4, (some .int))
theorem tX6_blockAt : jMt MX6_blockAt 1 := ⟨jmem 657 (by decide +kernel) (by decide +kernel), jmem 79 (by decide +kernel) (by decide +kernel), ⟨by decide, by decide, by decide +kernel⟩, by decide, by decide⟩
theorem vX6_blockAt : Cond.instanceMethod (jmY MX6_blockAt) ∈ jTs ∧ Cond.selects (jmY MX6_blockAt).cls (jmY MX6_blockAt) (jmY MX6_blockAt) ∈ jTs := ⟨jmem 655 (by decide +kernel) (by decide +kernel), jmem 656 (by decide +kernel) (by decide +kernel)⟩
abbrev MX6_fillWires : jM := (yX6_fillWires, cX6_fillWires, 6, none)
theorem tX6_fillWires : jMt MX6_fillWires 2 := ⟨jmem 653 (by decide +kernel) (by decide +kernel), jmem 79 (by decide +kernel) (by decide +kernel), ⟨by decide, by decide, by decide +kernel⟩, by decide, by decide⟩
theorem vX6_fillWires : Cond.instanceMethod (jmY MX6_fillWires) ∈ jTs ∧ Cond.selects (jmY MX6_fillWires).cls (jmY MX6_fillWires) (jmY MX6_fillWires) ∈ jTs := ⟨jmem 651 (by decide +kernel) (by decide +kernel), jmem 652 (by decide +kernel) (by decide +kernel)⟩
abbrev MX7_init : jM := (yX7_init, cX7_init, 1, none)
theorem tX7_init : jMt MX7_init 0 := ⟨jmem 101 (by decide +kernel) (by decide +kernel), jmem 76 (by decide +kernel) (by decide +kernel), ⟨by decide, by decide, by decide +kernel⟩, by decide, by decide⟩
theorem iX7_init : (jmY MX7_init).name = "<init>" ∧ Cond.instanceMethod (jmY MX7_init) ∈ jTs := ⟨rfl, jmem 100 (by decide +kernel) (by decide +kernel)⟩
abbrev MX7_add : jM := (yX7_add, cX7_add, 2, none)
theorem tX7_add : jMt MX7_add 1 := ⟨jmem 422 (by decide +kernel) (by decide +kernel), jmem 76 (by decide +kernel) (by decide +kernel), ⟨by decide, by decide, by decide +kernel⟩, by decide, by decide⟩
theorem vX7_add : Cond.instanceMethod (jmY MX7_add) ∈ jTs ∧ Cond.selects (jmY MX7_add).cls (jmY MX7_add) (jmY MX7_add) ∈ jTs := ⟨jmem 420 (by decide +kernel) (by decide +kernel), jmem 421 (by decide +kernel) (by decide +kernel)⟩
abbrev MX7_empty : jM := (yX7_empty, cX7_empty, 1, none)
theorem tX7_empty : jMt MX7_empty 0 := ⟨jmem 430 (by decide +kernel) (by decide +kernel), jmem 76 (by decide +kernel) (by decide +kernel), ⟨by decide, by decide, by decide +kernel⟩, by decide, by decide⟩
theorem vX7_empty : Cond.instanceMethod (jmY MX7_empty) ∈ jTs ∧ Cond.selects (jmY MX7_empty).cls (jmY MX7_empty) (jmY MX7_empty) ∈ jTs := ⟨jmem 428 (by decide +kernel) (by decide +kernel), jmem 429 (by decide +kernel) (by decide +kernel)⟩
abbrev MX7_toFirst : jM := (yX7_toFirst, cX7_toFirst, 1, none)
theorem tX7_toFirst : jMt MX7_toFirst 0 := ⟨jmem 446 (by decide +kernel) (by decide +kernel), jmem 76 (by decide +kernel) (by decide +kernel), ⟨by decide, by decide, by decide +kernel⟩, by decide, by decide⟩
theorem vX7_toFirst : Cond.instanceMethod (jmY MX7_toFirst) ∈ jTs ∧ Cond.selects (jmY MX7_toFirst).cls (jmY MX7_toFirst) (jmY MX7_toFirst) ∈ jTs := ⟨jmem 444 (by decide +kernel) (by decide +kernel), jmem 445 (by decide +kernel) (by decide +kernel)⟩
abbrev MX7_toNext : jM := (yX7_toNext, cX7_toNext, 1, none)
theorem tX7_toNext : jMt MX7_toNext 0 := ⟨jmem 450 (by decide +kernel) (by decide +kernel), jmem 76 (by decide +kernel) (by decide +kernel), ⟨by decide, by decide, by decide +kernel⟩, by decide, by decide⟩
theorem vX7_toNext : Cond.instanceMethod (jmY MX7_toNext) ∈ jTs ∧ Cond.selects (jmY MX7_toNext).cls (jmY MX7_toNext) (jmY MX7_toNext) ∈ jTs := ⟨jmem 448 (by decide +kernel) (by decide +kernel), jmem 449 (by decide +kernel) (by decide +kernel)⟩
abbrev MX7_letter : jM := (yX7_letter, cX7_letter, 1, (some .int))
theorem tX7_letter : jMt MX7_letter 0 := ⟨jmem 467 (by decide +kernel) (by decide +kernel), jmem 76 (by decide +kernel) (by decide +kernel), ⟨by decide, by decide, by decide +kernel⟩, by decide, by decide⟩
theorem vX7_letter : Cond.instanceMethod (jmY MX7_letter) ∈ jTs ∧ Cond.selects (jmY MX7_letter).cls (jmY MX7_letter) (jmY MX7_letter) ∈ jTs := ⟨jmem 465 (by decide +kernel) (by decide +kernel), jmem 466 (by decide +kernel) (by decide +kernel)⟩
abbrev MX7_number : jM := (yX7_number, cX7_number, 4, (some .int))
theorem tX7_number : jMt MX7_number 0 := ⟨jmem 491 (by decide +kernel) (by decide +kernel), jmem 76 (by decide +kernel) (by decide +kernel), ⟨by decide, by decide, by decide +kernel⟩, by decide, by decide⟩
theorem vX7_number : Cond.instanceMethod (jmY MX7_number) ∈ jTs ∧ Cond.selects (jmY MX7_number).cls (jmY MX7_number) (jmY MX7_number) ∈ jTs := ⟨jmem 489 (by decide +kernel) (by decide +kernel), jmem 490 (by decide +kernel) (by decide +kernel)⟩
abbrev MX8_init : jM := (yX8_init, cX8_init, 2, none)
theorem tX8_init : jMt MX8_init 0 := ⟨jmem 93 (by decide +kernel) (by decide +kernel), jmem 75 (by decide +kernel) (by decide +kernel), ⟨by decide, by decide, by decide +kernel⟩, by decide, by decide⟩
theorem iX8_init : (jmY MX8_init).name = "<init>" ∧ Cond.instanceMethod (jmY MX8_init) ∈ jTs := ⟨rfl, jmem 92 (by decide +kernel) (by decide +kernel)⟩
abbrev MX8_type : jM := (yX8_type, cX8_type, 2, (some .int))
theorem tX8_type : jMt MX8_type 1 := ⟨jmem 418 (by decide +kernel) (by decide +kernel), jmem 75 (by decide +kernel) (by decide +kernel), ⟨by decide, by decide, by decide +kernel⟩, by decide, by decide⟩
theorem vX8_type : Cond.instanceMethod (jmY MX8_type) ∈ jTs ∧ Cond.selects (jmY MX8_type).cls (jmY MX8_type) (jmY MX8_type) ∈ jTs := ⟨jmem 416 (by decide +kernel) (by decide +kernel), jmem 417 (by decide +kernel) (by decide +kernel)⟩
abbrev MX8_clear : jM := (yX8_clear, cX8_clear, 2, (some .int))
theorem tX8_clear : jMt MX8_clear 0 := ⟨jmem 426 (by decide +kernel) (by decide +kernel), jmem 75 (by decide +kernel) (by decide +kernel), ⟨by decide, by decide, by decide +kernel⟩, by decide, by decide⟩
theorem vX8_clear : Cond.instanceMethod (jmY MX8_clear) ∈ jTs ∧ Cond.selects (jmY MX8_clear).cls (jmY MX8_clear) (jmY MX8_clear) ∈ jTs := ⟨jmem 424 (by decide +kernel) (by decide +kernel), jmem 425 (by decide +kernel) (by decide +kernel)⟩
abbrev MX8_tells : jM := (yX8_tells, cX8_tells, 4, (some .int))
theorem tX8_tells : jMt MX8_tells 0 := ⟨jmem 434 (by decide +kernel) (by decide +kernel), jmem 75 (by decide +kernel) (by decide +kernel), ⟨by decide, by decide, by decide +kernel⟩, by decide, by decide⟩
theorem vX8_tells : Cond.instanceMethod (jmY MX8_tells) ∈ jTs ∧ Cond.selects (jmY MX8_tells).cls (jmY MX8_tells) (jmY MX8_tells) ∈ jTs := ⟨jmem 432 (by decide +kernel) (by decide +kernel), jmem 433 (by decide +kernel) (by decide +kernel)⟩
abbrev MX8_node : jM := (yX8_node, cX8_node, 5, (some .int))
theorem tX8_node : jMt MX8_node 0 := ⟨jmem 527 (by decide +kernel) (by decide +kernel), jmem 75 (by decide +kernel) (by decide +kernel), ⟨by decide, by decide, by decide +kernel⟩, by decide, by decide⟩
theorem vX8_node : Cond.instanceMethod (jmY MX8_node) ∈ jTs ∧ Cond.selects (jmY MX8_node).cls (jmY MX8_node) (jmY MX8_node) ∈ jTs := ⟨jmem 525 (by decide +kernel) (by decide +kernel), jmem 526 (by decide +kernel) (by decide +kernel)⟩
abbrev MX8_about : jM := (yX8_about, cX8_about, 3, (some .int))
theorem tX8_about : jMt MX8_about 2 := ⟨jmem 535 (by decide +kernel) (by decide +kernel), jmem 75 (by decide +kernel) (by decide +kernel), ⟨by decide, by decide, by decide +kernel⟩, by decide, by decide⟩
theorem vX8_about : Cond.instanceMethod (jmY MX8_about) ∈ jTs ∧ Cond.selects (jmY MX8_about).cls (jmY MX8_about) (jmY MX8_about) ∈ jTs := ⟨jmem 533 (by decide +kernel) (by decide +kernel), jmem 534 (by decide +kernel) (by decide +kernel)⟩
abbrev MX8_scope : jM := (yX8_scope, cX8_scope, 3, (some .int))
theorem tX8_scope : jMt MX8_scope 2 := ⟨jmem 561 (by decide +kernel) (by decide +kernel), jmem 75 (by decide +kernel) (by decide +kernel), ⟨by decide, by decide, by decide +kernel⟩, by decide, by decide⟩
theorem vX8_scope : Cond.instanceMethod (jmY MX8_scope) ∈ jTs ∧ Cond.selects (jmY MX8_scope).cls (jmY MX8_scope) (jmY MX8_scope) ∈ jTs := ⟨jmem 559 (by decide +kernel) (by decide +kernel), jmem 560 (by decide +kernel) (by decide +kernel)⟩
abbrev MX8_listed : jM := (yX8_listed, cX8_listed, 6, (some .int))
theorem tX8_listed : jMt MX8_listed 2 := ⟨jmem 565 (by decide +kernel) (by decide +kernel), jmem 75 (by decide +kernel) (by decide +kernel), ⟨by decide, by decide, by decide +kernel⟩, by decide, by decide⟩
theorem vX8_listed : Cond.instanceMethod (jmY MX8_listed) ∈ jTs ∧ Cond.selects (jmY MX8_listed).cls (jmY MX8_listed) (jmY MX8_listed) ∈ jTs := ⟨jmem 563 (by decide +kernel) (by decide +kernel), jmem 564 (by decide +kernel) (by decide +kernel)⟩
abbrev MX8_path : jM := (yX8_path, cX8_path, 3, (some .int))
theorem tX8_path : jMt MX8_path 2 := ⟨jmem 569 (by decide +kernel) (by decide +kernel), jmem 75 (by decide +kernel) (by decide +kernel), ⟨by decide, by decide, by decide +kernel⟩, by decide, by decide⟩
theorem vX8_path : Cond.instanceMethod (jmY MX8_path) ∈ jTs ∧ Cond.selects (jmY MX8_path).cls (jmY MX8_path) (jmY MX8_path) ∈ jTs := ⟨jmem 567 (by decide +kernel) (by decide +kernel), jmem 568 (by decide +kernel) (by decide +kernel)⟩
abbrev MX8_sets : jM := (yX8_sets, cX8_sets, 3, (some .int))
theorem tX8_sets : jMt MX8_sets 2 := ⟨jmem 578 (by decide +kernel) (by decide +kernel), jmem 75 (by decide +kernel) (by decide +kernel), ⟨by decide, by decide, by decide +kernel⟩, by decide, by decide⟩
theorem vX8_sets : Cond.instanceMethod (jmY MX8_sets) ∈ jTs ∧ Cond.selects (jmY MX8_sets).cls (jmY MX8_sets) (jmY MX8_sets) ∈ jTs := ⟨jmem 576 (by decide +kernel) (by decide +kernel), jmem 577 (by decide +kernel) (by decide +kernel)⟩
abbrev MX8_passes : jM := (yX8_passes, cX8_passes, 2, (some .int))
theorem tX8_passes : jMt MX8_passes 1 := ⟨jmem 617 (by decide +kernel) (by decide +kernel), jmem 75 (by decide +kernel) (by decide +kernel), ⟨by decide, by decide, by decide +kernel⟩, by decide, by decide⟩
theorem vX8_passes : Cond.instanceMethod (jmY MX8_passes) ∈ jTs ∧ Cond.selects (jmY MX8_passes).cls (jmY MX8_passes) (jmY MX8_passes) ∈ jTs := ⟨jmem 615 (by decide +kernel) (by decide +kernel), jmem 616 (by decide +kernel) (by decide +kernel)⟩
abbrev MX8_dumps : jM := (yX8_dumps, cX8_dumps, 2, (some .int))
theorem tX8_dumps : jMt MX8_dumps 1 := ⟨jmem 621 (by decide +kernel) (by decide +kernel), jmem 75 (by decide +kernel) (by decide +kernel), ⟨by decide, by decide, by decide +kernel⟩, by decide, by decide⟩
theorem vX8_dumps : Cond.instanceMethod (jmY MX8_dumps) ∈ jTs ∧ Cond.selects (jmY MX8_dumps).cls (jmY MX8_dumps) (jmY MX8_dumps) ∈ jTs := ⟨jmem 619 (by decide +kernel) (by decide +kernel), jmem 620 (by decide +kernel) (by decide +kernel)⟩
abbrev MX8_sizes : jM := (yX8_sizes, cX8_sizes, 3, (some .int))
theorem tX8_sizes : jMt MX8_sizes 1 := ⟨jmem 629 (by decide +kernel) (by decide +kernel), jmem 75 (by decide +kernel) (by decide +kernel), ⟨by decide, by decide, by decide +kernel⟩, by decide, by decide⟩
theorem vX8_sizes : Cond.instanceMethod (jmY MX8_sizes) ∈ jTs ∧ Cond.selects (jmY MX8_sizes).cls (jmY MX8_sizes) (jmY MX8_sizes) ∈ jTs := ⟨jmem 627 (by decide +kernel) (by decide +kernel), jmem 628 (by decide +kernel) (by decide +kernel)⟩
abbrev MX8_undo : jM := (yX8_undo, cX8_undo, 1, (some .int))
theorem tX8_undo : jMt MX8_undo 0 := ⟨jmem 633 (by decide +kernel) (by decide +kernel), jmem 75 (by decide +kernel) (by decide +kernel), ⟨by decide, by decide, by decide +kernel⟩, by decide, by decide⟩
theorem vX8_undo : Cond.instanceMethod (jmY MX8_undo) ∈ jTs ∧ Cond.selects (jmY MX8_undo).cls (jmY MX8_undo) (jmY MX8_undo) ∈ jTs := ⟨jmem 631 (by decide +kernel) (by decide +kernel), jmem 632 (by decide +kernel) (by decide +kernel)⟩
abbrev MX8_at : jM := (yX8_at, cX8_at, 3, (some .int))
theorem tX8_at : jMt MX8_at 2 := ⟨jmem 641 (by decide +kernel) (by decide +kernel), jmem 75 (by decide +kernel) (by decide +kernel), ⟨by decide, by decide, by decide +kernel⟩, by decide, by decide⟩
theorem vX8_at : Cond.instanceMethod (jmY MX8_at) ∈ jTs ∧ Cond.selects (jmY MX8_at).cls (jmY MX8_at) (jmY MX8_at) ∈ jTs := ⟨jmem 639 (by decide +kernel) (by decide +kernel), jmem 640 (by decide +kernel) (by decide +kernel)⟩
abbrev MX8_edges : jM := (yX8_edges, cX8_edges, 8, (some .int))
theorem tX8_edges : jMt MX8_edges 4 := ⟨jmem 661 (by decide +kernel) (by decide +kernel), jmem 75 (by decide +kernel) (by decide +kernel), ⟨by decide, by decide, by decide +kernel⟩, by decide, by decide⟩
theorem vX8_edges : Cond.instanceMethod (jmY MX8_edges) ∈ jTs ∧ Cond.selects (jmY MX8_edges).cls (jmY MX8_edges) (jmY MX8_edges) ∈ jTs := ⟨jmem 659 (by decide +kernel) (by decide +kernel), jmem 660 (by decide +kernel) (by decide +kernel)⟩
abbrev MX8_next : jM := (yX8_next, cX8_next, 5, (some .int))
theorem tX8_next : jMt MX8_next 3 := ⟨jmem 683 (by decide +kernel) (by decide +kernel), jmem 75 (by decide +kernel) (by decide +kernel), ⟨by decide, by decide, by decide +kernel⟩, by decide, by decide⟩
theorem vX8_next : Cond.instanceMethod (jmY MX8_next) ∈ jTs ∧ Cond.selects (jmY MX8_next).cls (jmY MX8_next) (jmY MX8_next) ∈ jTs := ⟨jmem 681 (by decide +kernel) (by decide +kernel), jmem 682 (by decide +kernel) (by decide +kernel)⟩
abbrev MX8_previous : jM := (yX8_previous, cX8_previous, 5, (some .int))
theorem tX8_previous : jMt MX8_previous 3 := ⟨jmem 687 (by decide +kernel) (by decide +kernel), jmem 75 (by decide +kernel) (by decide +kernel), ⟨by decide, by decide, by decide +kernel⟩, by decide, by decide⟩
theorem vX8_previous : Cond.instanceMethod (jmY MX8_previous) ∈ jTs ∧ Cond.selects (jmY MX8_previous).cls (jmY MX8_previous) (jmY MX8_previous) ∈ jTs := ⟨jmem 685 (by decide +kernel) (by decide +kernel), jmem 686 (by decide +kernel) (by decide +kernel)⟩
abbrev MX8_first : jM := (yX8_first, cX8_first, 5, (some .int))
theorem tX8_first : jMt MX8_first 3 := ⟨jmem 691 (by decide +kernel) (by decide +kernel), jmem 75 (by decide +kernel) (by decide +kernel), ⟨by decide, by decide, by decide +kernel⟩, by decide, by decide⟩
theorem vX8_first : Cond.instanceMethod (jmY MX8_first) ∈ jTs ∧ Cond.selects (jmY MX8_first).cls (jmY MX8_first) (jmY MX8_first) ∈ jTs := ⟨jmem 689 (by decide +kernel) (by decide +kernel), jmem 690 (by decide +kernel) (by decide +kernel)⟩
abbrev MX8_holds : jM := (yX8_holds, cX8_holds, 7, (some .int))
theorem tX8_holds : jMt MX8_holds 3 := ⟨jmem 705 (by decide +kernel) (by decide +kernel), jmem 75 (by decide +kernel) (by decide +kernel), ⟨by decide, by decide, by decide +kernel⟩, by decide, by decide⟩
theorem vX8_holds : Cond.instanceMethod (jmY MX8_holds) ∈ jTs ∧ Cond.selects (jmY MX8_holds).cls (jmY MX8_holds) (jmY MX8_holds) ∈ jTs := ⟨jmem 703 (by decide +kernel) (by decide +kernel), jmem 704 (by decide +kernel) (by decide +kernel)⟩
abbrev MX8_ticks : jM := (yX8_ticks, cX8_ticks, 5, (some .int))
theorem tX8_ticks : jMt MX8_ticks 2 := ⟨jmem 709 (by decide +kernel) (by decide +kernel), jmem 75 (by decide +kernel) (by decide +kernel), ⟨by decide, by decide, by decide +kernel⟩, by decide, by decide⟩
theorem vX8_ticks : Cond.instanceMethod (jmY MX8_ticks) ∈ jTs ∧ Cond.selects (jmY MX8_ticks).cls (jmY MX8_ticks) (jmY MX8_ticks) ∈ jTs := ⟨jmem 707 (by decide +kernel) (by decide +kernel), jmem 708 (by decide +kernel) (by decide +kernel)⟩
abbrev MX8_delay : jM := (yX8_delay, cX8_delay, 4, (some .int))
theorem tX8_delay : jMt MX8_delay 2 := ⟨jmem 718 (by decide +kernel) (by decide +kernel), jmem 75 (by decide +kernel) (by decide +kernel), ⟨by decide, by decide, by decide +kernel⟩, by decide, by decide⟩
theorem vX8_delay : Cond.instanceMethod (jmY MX8_delay) ∈ jTs ∧ Cond.selects (jmY MX8_delay).cls (jmY MX8_delay) (jmY MX8_delay) ∈ jTs := ⟨jmem 716 (by decide +kernel) (by decide +kernel), jmem 717 (by decide +kernel) (by decide +kernel)⟩
abbrev MX8_jump : jM := (yX8_jump, cX8_jump, 2, (some .int))
theorem tX8_jump : jMt MX8_jump 1 := ⟨jmem 730 (by decide +kernel) (by decide +kernel), jmem 75 (by decide +kernel) (by decide +kernel), ⟨by decide, by decide, by decide +kernel⟩, by decide, by decide⟩
theorem vX8_jump : Cond.instanceMethod (jmY MX8_jump) ∈ jTs ∧ Cond.selects (jmY MX8_jump).cls (jmY MX8_jump) (jmY MX8_jump) ∈ jTs := ⟨jmem 728 (by decide +kernel) (by decide +kernel), jmem 729 (by decide +kernel) (by decide +kernel)⟩
abbrev MX8_block : jM := (yX8_block, cX8_block, 4, (some .int))
theorem tX8_block : jMt MX8_block 2 := ⟨jmem 735 (by decide +kernel) (by decide +kernel), jmem 75 (by decide +kernel) (by decide +kernel), ⟨by decide, by decide, by decide +kernel⟩, by decide, by decide⟩
theorem vX8_block : Cond.instanceMethod (jmY MX8_block) ∈ jTs ∧ Cond.selects (jmY MX8_block).cls (jmY MX8_block) (jmY MX8_block) ∈ jTs := ⟨jmem 733 (by decide +kernel) (by decide +kernel), jmem 734 (by decide +kernel) (by decide +kernel)⟩
abbrev MX8_frame : jM := (yX8_frame, cX8_frame, 3, (some .int))
theorem tX8_frame : jMt MX8_frame 2 := ⟨jmem 764 (by decide +kernel) (by decide +kernel), jmem 75 (by decide +kernel) (by decide +kernel), ⟨by decide, by decide, by decide +kernel⟩, by decide, by decide⟩
theorem vX8_frame : Cond.instanceMethod (jmY MX8_frame) ∈ jTs ∧ Cond.selects (jmY MX8_frame).cls (jmY MX8_frame) (jmY MX8_frame) ∈ jTs := ⟨jmem 762 (by decide +kernel) (by decide +kernel), jmem 763 (by decide +kernel) (by decide +kernel)⟩
abbrev MX8_change : jM := (yX8_change, cX8_change, 5, (some .int))
theorem tX8_change : jMt MX8_change 3 := ⟨jmem 768 (by decide +kernel) (by decide +kernel), jmem 75 (by decide +kernel) (by decide +kernel), ⟨by decide, by decide, by decide +kernel⟩, by decide, by decide⟩
theorem vX8_change : Cond.instanceMethod (jmY MX8_change) ∈ jTs ∧ Cond.selects (jmY MX8_change).cls (jmY MX8_change) (jmY MX8_change) ∈ jTs := ⟨jmem 766 (by decide +kernel) (by decide +kernel), jmem 767 (by decide +kernel) (by decide +kernel)⟩
abbrev MX8_packed : jM := (yX8_packed, cX8_packed, 2, (some .int))
theorem tX8_packed : jMt MX8_packed 1 := ⟨jmem 773 (by decide +kernel) (by decide +kernel), jmem 75 (by decide +kernel) (by decide +kernel), ⟨by decide, by decide, by decide +kernel⟩, by decide, by decide⟩
theorem vX8_packed : Cond.instanceMethod (jmY MX8_packed) ∈ jTs ∧ Cond.selects (jmY MX8_packed).cls (jmY MX8_packed) (jmY MX8_packed) ∈ jTs := ⟨jmem 771 (by decide +kernel) (by decide +kernel), jmem 772 (by decide +kernel) (by decide +kernel)⟩
abbrev MX8_best : jM := (yX8_best, cX8_best, 5, (some .int))
theorem tX8_best : jMt MX8_best 0 := ⟨jmem 789 (by decide +kernel) (by decide +kernel), jmem 75 (by decide +kernel) (by decide +kernel), ⟨by decide, by decide, by decide +kernel⟩, by decide, by decide⟩
theorem vX8_best : Cond.instanceMethod (jmY MX8_best) ∈ jTs ∧ Cond.selects (jmY MX8_best).cls (jmY MX8_best) (jmY MX8_best) ∈ jTs := ⟨jmem 787 (by decide +kernel) (by decide +kernel), jmem 788 (by decide +kernel) (by decide +kernel)⟩
abbrev MX8_sees : jM := (yX8_sees, cX8_sees, 3, (some .int))
theorem tX8_sees : jMt MX8_sees 2 := ⟨jmem 793 (by decide +kernel) (by decide +kernel), jmem 75 (by decide +kernel) (by decide +kernel), ⟨by decide, by decide, by decide +kernel⟩, by decide, by decide⟩
theorem vX8_sees : Cond.instanceMethod (jmY MX8_sees) ∈ jTs ∧ Cond.selects (jmY MX8_sees).cls (jmY MX8_sees) (jmY MX8_sees) ∈ jTs := ⟨jmem 791 (by decide +kernel) (by decide +kernel), jmem 792 (by decide +kernel) (by decide +kernel)⟩
abbrev MX8_forget : jM := (yX8_forget, cX8_forget, 2, (some .int))
theorem tX8_forget : jMt MX8_forget 0 := ⟨jmem 797 (by decide +kernel) (by decide +kernel), jmem 75 (by decide +kernel) (by decide +kernel), ⟨by decide, by decide, by decide +kernel⟩, by decide, by decide⟩
theorem vX8_forget : Cond.instanceMethod (jmY MX8_forget) ∈ jTs ∧ Cond.selects (jmY MX8_forget).cls (jmY MX8_forget) (jmY MX8_forget) ∈ jTs := ⟨jmem 795 (by decide +kernel) (by decide +kernel), jmem 796 (by decide +kernel) (by decide +kernel)⟩
abbrev MX8_which : jM := (yX8_which, cX8_which, 1, (some .int))
theorem tX8_which : jMt MX8_which 0 := ⟨jmem 801 (by decide +kernel) (by decide +kernel), jmem 75 (by decide +kernel) (by decide +kernel), ⟨by decide, by decide, by decide +kernel⟩, by decide, by decide⟩
theorem vX8_which : Cond.instanceMethod (jmY MX8_which) ∈ jTs ∧ Cond.selects (jmY MX8_which).cls (jmY MX8_which) (jmY MX8_which) ∈ jTs := ⟨jmem 799 (by decide +kernel) (by decide +kernel), jmem 800 (by decide +kernel) (by decide +kernel)⟩
abbrev MX8_look : jM := (yX8_look, cX8_look, 6, (some .int))
theorem tX8_look : jMt MX8_look 0 := ⟨jmem 809 (by decide +kernel) (by decide +kernel), jmem 75 (by decide +kernel) (by decide +kernel), ⟨by decide, by decide, by decide +kernel⟩, by decide, by decide⟩
theorem vX8_look : Cond.instanceMethod (jmY MX8_look) ∈ jTs ∧ Cond.selects (jmY MX8_look).cls (jmY MX8_look) (jmY MX8_look) ∈ jTs := ⟨jmem 807 (by decide +kernel) (by decide +kernel), jmem 808 (by decide +kernel) (by decide +kernel)⟩
abbrev MX8_keep : jM := (yX8_keep, cX8_keep, 2, (some .int))
theorem tX8_keep : jMt MX8_keep 1 := ⟨jmem 824 (by decide +kernel) (by decide +kernel), jmem 75 (by decide +kernel) (by decide +kernel), ⟨by decide, by decide, by decide +kernel⟩, by decide, by decide⟩
theorem vX8_keep : Cond.instanceMethod (jmY MX8_keep) ∈ jTs ∧ Cond.selects (jmY MX8_keep).cls (jmY MX8_keep) (jmY MX8_keep) ∈ jTs := ⟨jmem 822 (by decide +kernel) (by decide +kernel), jmem 823 (by decide +kernel) (by decide +kernel)⟩
abbrev MX8_back : jM := (yX8_back, cX8_back, 2, (some .int))
theorem tX8_back : jMt MX8_back 1 := ⟨jmem 829 (by decide +kernel) (by decide +kernel), jmem 75 (by decide +kernel) (by decide +kernel), ⟨by decide, by decide, by decide +kernel⟩, by decide, by decide⟩
theorem vX8_back : Cond.instanceMethod (jmY MX8_back) ∈ jTs ∧ Cond.selects (jmY MX8_back).cls (jmY MX8_back) (jmY MX8_back) ∈ jTs := ⟨jmem 827 (by decide +kernel) (by decide +kernel), jmem 828 (by decide +kernel) (by decide +kernel)⟩
abbrev MX8_count : jM := (yX8_count, cX8_count, 2, (some .int))
theorem tX8_count : jMt MX8_count 1 := ⟨jmem 833 (by decide +kernel) (by decide +kernel), jmem 75 (by decide +kernel) (by decide +kernel), ⟨by decide, by decide, by decide +kernel⟩, by decide, by decide⟩
theorem vX8_count : Cond.instanceMethod (jmY MX8_count) ∈ jTs ∧ Cond.selects (jmY MX8_count).cls (jmY MX8_count) (jmY MX8_count) ∈ jTs := ⟨jmem 831 (by decide +kernel) (by decide +kernel), jmem 832 (by decide +kernel) (by decide +kernel)⟩
abbrev MX8_isSignal : jM := (yX8_isSignal, cX8_isSignal, 2, (some .boolean))
theorem tX8_isSignal : jMt MX8_isSignal 1 := ⟨jmem 539 (by decide +kernel) (by decide +kernel), jmem 75 (by decide +kernel) (by decide +kernel), ⟨by decide, by decide, by decide +kernel⟩, by decide, by decide⟩
theorem vX8_isSignal : Cond.instanceMethod (jmY MX8_isSignal) ∈ jTs ∧ Cond.selects (jmY MX8_isSignal).cls (jmY MX8_isSignal) (jmY MX8_isSignal) ∈ jTs := ⟨jmem 538 (by decide +kernel) (by decide +kernel), jmem 11 (by decide +kernel) (by decide +kernel)⟩
abbrev MX8_isWire : jM := (yX8_isWire, cX8_isWire, 2, (some .boolean))
theorem tX8_isWire : jMt MX8_isWire 1 := ⟨jmem 582 (by decide +kernel) (by decide +kernel), jmem 75 (by decide +kernel) (by decide +kernel), ⟨by decide, by decide, by decide +kernel⟩, by decide, by decide⟩
theorem vX8_isWire : Cond.instanceMethod (jmY MX8_isWire) ∈ jTs ∧ Cond.selects (jmY MX8_isWire).cls (jmY MX8_isWire) (jmY MX8_isWire) ∈ jTs := ⟨jmem 581 (by decide +kernel) (by decide +kernel), jmem 13 (by decide +kernel) (by decide +kernel)⟩
abbrev MX8_isBlock : jM := (yX8_isBlock, cX8_isBlock, 2, (some .boolean))
theorem tX8_isBlock : jMt MX8_isBlock 1 := ⟨jmem 739 (by decide +kernel) (by decide +kernel), jmem 75 (by decide +kernel) (by decide +kernel), ⟨by decide, by decide, by decide +kernel⟩, by decide, by decide⟩
theorem vX8_isBlock : Cond.instanceMethod (jmY MX8_isBlock) ∈ jTs ∧ Cond.selects (jmY MX8_isBlock).cls (jmY MX8_isBlock) (jmY MX8_isBlock) ∈ jTs := ⟨jmem 738 (by decide +kernel) (by decide +kernel), jmem 18 (by decide +kernel) (by decide +kernel)⟩
abbrev MX8_isPast : jM := (yX8_isPast, cX8_isPast, 2, (some .boolean))
theorem tX8_isPast : jMt MX8_isPast 1 := ⟨jmem 645 (by decide +kernel) (by decide +kernel), jmem 75 (by decide +kernel) (by decide +kernel), ⟨by decide, by decide, by decide +kernel⟩, by decide, by decide⟩
theorem vX8_isPast : Cond.instanceMethod (jmY MX8_isPast) ∈ jTs ∧ Cond.selects (jmY MX8_isPast).cls (jmY MX8_isPast) (jmY MX8_isPast) ∈ jTs := ⟨jmem 644 (by decide +kernel) (by decide +kernel), jmem 14 (by decide +kernel) (by decide +kernel)⟩
abbrev MX8_isKind : jM := (yX8_isKind, cX8_isKind, 1, (some .boolean))
theorem tX8_isKind : jMt MX8_isKind 1 := ⟨jmem 664 (by decide +kernel) (by decide +kernel), jmem 75 (by decide +kernel) (by decide +kernel), ⟨by decide, by decide, by decide +kernel⟩, by decide, by decide⟩
theorem sX8_isKind : Cond.static (jmY MX8_isKind) ∈ jTs := jmem 663 (by decide +kernel) (by decide +kernel)
abbrev MX8_isRecordable : jM := (yX8_isRecordable, cX8_isRecordable, 1, (some .boolean))
theorem tX8_isRecordable : jMt MX8_isRecordable 1 := ⟨jmem 694 (by decide +kernel) (by decide +kernel), jmem 75 (by decide +kernel) (by decide +kernel), ⟨by decide, by decide, by decide +kernel⟩, by decide, by decide⟩
theorem sX8_isRecordable : Cond.static (jmY MX8_isRecordable) ∈ jTs := jmem 693 (by decide +kernel) (by decide +kernel)
abbrev MX8_orNone : jM := (yX8_orNone, cX8_orNone, 1, (some .int))
theorem tX8_orNone : jMt MX8_orNone 1 := ⟨jmem 542 (by decide +kernel) (by decide +kernel), jmem 75 (by decide +kernel) (by decide +kernel), ⟨by decide, by decide, by decide +kernel⟩, by decide, by decide⟩
theorem sX8_orNone : Cond.static (jmY MX8_orNone) ∈ jTs := jmem 541 (by decide +kernel) (by decide +kernel)
abbrev MX8_fillRow : jM := (yX8_fillRow, cX8_fillRow, 2, none)
theorem tX8_fillRow : jMt MX8_fillRow 1 := ⟨jmem 649 (by decide +kernel) (by decide +kernel), jmem 75 (by decide +kernel) (by decide +kernel), ⟨by decide, by decide, by decide +kernel⟩, by decide, by decide⟩
theorem vX8_fillRow : Cond.instanceMethod (jmY MX8_fillRow) ∈ jTs ∧ Cond.selects (jmY MX8_fillRow).cls (jmY MX8_fillRow) (jmY MX8_fillRow) ∈ jTs := ⟨jmem 648 (by decide +kernel) (by decide +kernel), jmem 15 (by decide +kernel) (by decide +kernel)⟩
abbrev MX8_roomOf : jM := (yX8_roomOf, cX8_roomOf, 2, (some .int))
theorem tX8_roomOf : jMt MX8_roomOf 1 := ⟨jmem 751 (by decide +kernel) (by decide +kernel), jmem 75 (by decide +kernel) (by decide +kernel), ⟨by decide, by decide, by decide +kernel⟩, by decide, by decide⟩
theorem vX8_roomOf : Cond.instanceMethod (jmY MX8_roomOf) ∈ jTs ∧ Cond.selects (jmY MX8_roomOf).cls (jmY MX8_roomOf) (jmY MX8_roomOf) ∈ jTs := ⟨jmem 750 (by decide +kernel) (by decide +kernel), jmem 20 (by decide +kernel) (by decide +kernel)⟩
abbrev MX8_roomOfAll : jM := (yX8_roomOfAll, cX8_roomOfAll, 3, (some .int))
theorem tX8_roomOfAll : jMt MX8_roomOfAll 0 := ⟨jmem 841 (by decide +kernel) (by decide +kernel), jmem 75 (by decide +kernel) (by decide +kernel), ⟨by decide, by decide, by decide +kernel⟩, by decide, by decide⟩
theorem vX8_roomOfAll : Cond.instanceMethod (jmY MX8_roomOfAll) ∈ jTs ∧ Cond.selects (jmY MX8_roomOfAll).cls (jmY MX8_roomOfAll) (jmY MX8_roomOfAll) ∈ jTs := ⟨jmem 840 (by decide +kernel) (by decide +kernel), jmem 25 (by decide +kernel) (by decide +kernel)⟩
abbrev MX8_changesInAll : jM := (yX8_changesInAll, cX8_changesInAll, 3, (some .int))
theorem tX8_changesInAll : jMt MX8_changesInAll 0 := ⟨jmem 837 (by decide +kernel) (by decide +kernel), jmem 75 (by decide +kernel) (by decide +kernel), ⟨by decide, by decide, by decide +kernel⟩, by decide, by decide⟩
theorem vX8_changesInAll : Cond.instanceMethod (jmY MX8_changesInAll) ∈ jTs ∧ Cond.selects (jmY MX8_changesInAll).cls (jmY MX8_changesInAll) (jmY MX8_changesInAll) ∈ jTs := ⟨jmem 836 (by decide +kernel) (by decide +kernel), jmem 24 (by decide +kernel) (by decide +kernel)⟩
abbrev MX8_roomDivided : jM := (yX8_roomDivided, cX8_roomDivided, 6, (some .int))
theorem tX8_roomDivided : jMt MX8_roomDivided 1 := ⟨jmem 777 (by decide +kernel) (by decide +kernel), jmem 75 (by decide +kernel) (by decide +kernel), ⟨by decide, by decide, by decide +kernel⟩, by decide, by decide⟩
theorem vX8_roomDivided : Cond.instanceMethod (jmY MX8_roomDivided) ∈ jTs ∧ Cond.selects (jmY MX8_roomDivided).cls (jmY MX8_roomDivided) (jmY MX8_roomDivided) ∈ jTs := ⟨jmem 776 (by decide +kernel) (by decide +kernel), jmem 21 (by decide +kernel) (by decide +kernel)⟩
abbrev MX8_roomOfGroup : jM := (yX8_roomOfGroup, cX8_roomOfGroup, 6, (some .int))
theorem tX8_roomOfGroup : jMt MX8_roomOfGroup 2 := ⟨jmem 782 (by decide +kernel) (by decide +kernel), jmem 75 (by decide +kernel) (by decide +kernel), ⟨by decide, by decide, by decide +kernel⟩, by decide, by decide⟩
theorem vX8_roomOfGroup : Cond.instanceMethod (jmY MX8_roomOfGroup) ∈ jTs ∧ Cond.selects (jmY MX8_roomOfGroup).cls (jmY MX8_roomOfGroup) (jmY MX8_roomOfGroup) ∈ jTs := ⟨jmem 781 (by decide +kernel) (by decide +kernel), jmem 22 (by decide +kernel) (by decide +kernel)⟩
abbrev MX8_agreeing : jM := (yX8_agreeing, cX8_agreeing, 4, (some .int))
theorem tX8_agreeing : jMt MX8_agreeing 0 := ⟨jmem 805 (by decide +kernel) (by decide +kernel), jmem 75 (by decide +kernel) (by decide +kernel), ⟨by decide, by decide, by decide +kernel⟩, by decide, by decide⟩
theorem vX8_agreeing : Cond.instanceMethod (jmY MX8_agreeing) ∈ jTs ∧ Cond.selects (jmY MX8_agreeing).cls (jmY MX8_agreeing) (jmY MX8_agreeing) ∈ jTs := ⟨jmem 804 (by decide +kernel) (by decide +kernel), jmem 23 (by decide +kernel) (by decide +kernel)⟩
abbrev MX9_init : jM := (yX9_init, cX9_init, 1, none)
theorem tX9_init : jMt MX9_init 0 := ⟨jmem 846 (by decide +kernel) (by decide +kernel), jmem 86 (by decide +kernel) (by decide +kernel), ⟨by decide, by decide, by decide +kernel⟩, by decide, by decide⟩
theorem iX9_init : (jmY MX9_init).name = "<init>" ∧ Cond.instanceMethod (jmY MX9_init) ∈ jTs := ⟨rfl, jmem 845 (by decide +kernel) (by decide +kernel)⟩
abbrev MX9_in : jM := (yX9_in, cX9_in, 3, (some .boolean))
theorem tX9_in : jMt MX9_in 3 := ⟨jmem 1016 (by decide +kernel) (by decide +kernel), jmem 86 (by decide +kernel) (by decide +kernel), ⟨by decide, by decide, by decide +kernel⟩, by decide, by decide⟩
theorem sX9_in : Cond.static (jmY MX9_in) ∈ jTs := jmem 1015 (by decide +kernel) (by decide +kernel)
abbrev MX9_type : jM := (yX9_type, cX9_type, 2, (some .int))
theorem tX9_type : jMt MX9_type 1 := ⟨jmem 1013 (by decide +kernel) (by decide +kernel), jmem 86 (by decide +kernel) (by decide +kernel), ⟨by decide, by decide, by decide +kernel⟩, by decide, by decide⟩
theorem vX9_type : Cond.instanceMethod (jmY MX9_type) ∈ jTs ∧ Cond.selects (jmY MX9_type).cls (jmY MX9_type) (jmY MX9_type) ∈ jTs := ⟨jmem 1011 (by decide +kernel) (by decide +kernel), jmem 1012 (by decide +kernel) (by decide +kernel)⟩
abbrev MX9_clear : jM := (yX9_clear, cX9_clear, 2, (some .int))
theorem tX9_clear : jMt MX9_clear 0 := ⟨jmem 1020 (by decide +kernel) (by decide +kernel), jmem 86 (by decide +kernel) (by decide +kernel), ⟨by decide, by decide, by decide +kernel⟩, by decide, by decide⟩
theorem vX9_clear : Cond.instanceMethod (jmY MX9_clear) ∈ jTs ∧ Cond.selects (jmY MX9_clear).cls (jmY MX9_clear) (jmY MX9_clear) ∈ jTs := ⟨jmem 1018 (by decide +kernel) (by decide +kernel), jmem 1019 (by decide +kernel) (by decide +kernel)⟩
abbrev MX9_isFigure : jM := (yX9_isFigure, cX9_isFigure, 2, (some .boolean))
theorem tX9_isFigure : jMt MX9_isFigure 1 := ⟨jmem 1032 (by decide +kernel) (by decide +kernel), jmem 86 (by decide +kernel) (by decide +kernel), ⟨by decide, by decide, by decide +kernel⟩, by decide, by decide⟩
theorem vX9_isFigure : Cond.instanceMethod (jmY MX9_isFigure) ∈ jTs ∧ Cond.selects (jmY MX9_isFigure).cls (jmY MX9_isFigure) (jmY MX9_isFigure) ∈ jTs := ⟨jmem 1031 (by decide +kernel) (by decide +kernel), jmem 29 (by decide +kernel) (by decide +kernel)⟩
abbrev MX9_isSign : jM := (yX9_isSign, cX9_isSign, 1, (some .boolean))
theorem tX9_isSign : jMt MX9_isSign 1 := ⟨jmem 1035 (by decide +kernel) (by decide +kernel), jmem 86 (by decide +kernel) (by decide +kernel), ⟨by decide, by decide, by decide +kernel⟩, by decide, by decide⟩
theorem sX9_isSign : Cond.static (jmY MX9_isSign) ∈ jTs := jmem 1034 (by decide +kernel) (by decide +kernel)
abbrev MX9_next : jM := (yX9_next, cX9_next, 2, none)
theorem tX9_next : jMt MX9_next 0 := ⟨jmem 1028 (by decide +kernel) (by decide +kernel), jmem 86 (by decide +kernel) (by decide +kernel), ⟨by decide, by decide, by decide +kernel⟩, by decide, by decide⟩
theorem vX9_next : Cond.instanceMethod (jmY MX9_next) ∈ jTs ∧ Cond.selects (jmY MX9_next).cls (jmY MX9_next) (jmY MX9_next) ∈ jTs := ⟨jmem 1027 (by decide +kernel) (by decide +kernel), jmem 28 (by decide +kernel) (by decide +kernel)⟩
abbrev MX9_is : jM := (yX9_is, cX9_is, 2, (some .boolean))
theorem tX9_is : jMt MX9_is 1 := ⟨jmem 1043 (by decide +kernel) (by decide +kernel), jmem 86 (by decide +kernel) (by decide +kernel), ⟨by decide, by decide, by decide +kernel⟩, by decide, by decide⟩
theorem vX9_is : Cond.instanceMethod (jmY MX9_is) ∈ jTs ∧ Cond.selects (jmY MX9_is).cls (jmY MX9_is) (jmY MX9_is) ∈ jTs := ⟨jmem 1042 (by decide +kernel) (by decide +kernel), jmem 31 (by decide +kernel) (by decide +kernel)⟩
abbrev MX9_due : jM := (yX9_due, cX9_due, 2, none)
theorem tX9_due : jMt MX9_due 1 := ⟨jmem 1051 (by decide +kernel) (by decide +kernel), jmem 86 (by decide +kernel) (by decide +kernel), ⟨by decide, by decide, by decide +kernel⟩, by decide, by decide⟩
theorem vX9_due : Cond.instanceMethod (jmY MX9_due) ∈ jTs ∧ Cond.selects (jmY MX9_due).cls (jmY MX9_due) (jmY MX9_due) ∈ jTs := ⟨jmem 1050 (by decide +kernel) (by decide +kernel), jmem 33 (by decide +kernel) (by decide +kernel)⟩
abbrev MX9_passes : jM := (yX9_passes, cX9_passes, 2, none)
theorem tX9_passes : jMt MX9_passes 1 := ⟨jmem 1055 (by decide +kernel) (by decide +kernel), jmem 86 (by decide +kernel) (by decide +kernel), ⟨by decide, by decide, by decide +kernel⟩, by decide, by decide⟩
theorem vX9_passes : Cond.instanceMethod (jmY MX9_passes) ∈ jTs ∧ Cond.selects (jmY MX9_passes).cls (jmY MX9_passes) (jmY MX9_passes) ∈ jTs := ⟨jmem 1054 (by decide +kernel) (by decide +kernel), jmem 34 (by decide +kernel) (by decide +kernel)⟩
abbrev MX9_newNodeBy : jM := (yX9_newNodeBy, cX9_newNodeBy, 5, (some .int))
theorem tX9_newNodeBy : jMt MX9_newNodeBy 2 := ⟨jmem 1059 (by decide +kernel) (by decide +kernel), jmem 86 (by decide +kernel) (by decide +kernel), ⟨by decide, by decide, by decide +kernel⟩, by decide, by decide⟩
theorem vX9_newNodeBy : Cond.instanceMethod (jmY MX9_newNodeBy) ∈ jTs ∧ Cond.selects (jmY MX9_newNodeBy).cls (jmY MX9_newNodeBy) (jmY MX9_newNodeBy) ∈ jTs := ⟨jmem 1058 (by decide +kernel) (by decide +kernel), jmem 35 (by decide +kernel) (by decide +kernel)⟩
abbrev MX9_newScopeBy : jM := (yX9_newScopeBy, cX9_newScopeBy, 5, (some .int))
theorem tX9_newScopeBy : jMt MX9_newScopeBy 2 := ⟨jmem 1063 (by decide +kernel) (by decide +kernel), jmem 86 (by decide +kernel) (by decide +kernel), ⟨by decide, by decide, by decide +kernel⟩, by decide, by decide⟩
theorem vX9_newScopeBy : Cond.instanceMethod (jmY MX9_newScopeBy) ∈ jTs ∧ Cond.selects (jmY MX9_newScopeBy).cls (jmY MX9_newScopeBy) (jmY MX9_newScopeBy) ∈ jTs := ⟨jmem 1062 (by decide +kernel) (by decide +kernel), jmem 36 (by decide +kernel) (by decide +kernel)⟩
abbrev MX9_opens : jM := (yX9_opens, cX9_opens, 2, none)
theorem tX9_opens : jMt MX9_opens 0 := ⟨jmem 1047 (by decide +kernel) (by decide +kernel), jmem 86 (by decide +kernel) (by decide +kernel), ⟨by decide, by decide, by decide +kernel⟩, by decide, by decide⟩
theorem vX9_opens : Cond.instanceMethod (jmY MX9_opens) ∈ jTs ∧ Cond.selects (jmY MX9_opens).cls (jmY MX9_opens) (jmY MX9_opens) ∈ jTs := ⟨jmem 1046 (by decide +kernel) (by decide +kernel), jmem 32 (by decide +kernel) (by decide +kernel)⟩
abbrev MX9_closes : jM := (yX9_closes, cX9_closes, 1, none)
theorem tX9_closes : jMt MX9_closes 0 := ⟨jmem 1067 (by decide +kernel) (by decide +kernel), jmem 86 (by decide +kernel) (by decide +kernel), ⟨by decide, by decide, by decide +kernel⟩, by decide, by decide⟩
theorem vX9_closes : Cond.instanceMethod (jmY MX9_closes) ∈ jTs ∧ Cond.selects (jmY MX9_closes).cls (jmY MX9_closes) (jmY MX9_closes) ∈ jTs := ⟨jmem 1066 (by decide +kernel) (by decide +kernel), jmem 37 (by decide +kernel) (by decide +kernel)⟩
abbrev MX9_readsPath : jM := (yX9_readsPath, cX9_readsPath, 4, (some .int))
theorem tX9_readsPath : jMt MX9_readsPath 0 := ⟨jmem 1075 (by decide +kernel) (by decide +kernel), jmem 86 (by decide +kernel) (by decide +kernel), ⟨by decide, by decide, by decide +kernel⟩, by decide, by decide⟩
theorem vX9_readsPath : Cond.instanceMethod (jmY MX9_readsPath) ∈ jTs ∧ Cond.selects (jmY MX9_readsPath).cls (jmY MX9_readsPath) (jmY MX9_readsPath) ∈ jTs := ⟨jmem 1074 (by decide +kernel) (by decide +kernel), jmem 39 (by decide +kernel) (by decide +kernel)⟩
abbrev MX9_emits : jM := (yX9_emits, cX9_emits, 4, none)
theorem tX9_emits : jMt MX9_emits 2 := ⟨jmem 1091 (by decide +kernel) (by decide +kernel), jmem 86 (by decide +kernel) (by decide +kernel), ⟨by decide, by decide, by decide +kernel⟩, by decide, by decide⟩
theorem vX9_emits : Cond.instanceMethod (jmY MX9_emits) ∈ jTs ∧ Cond.selects (jmY MX9_emits).cls (jmY MX9_emits) (jmY MX9_emits) ∈ jTs := ⟨jmem 1090 (by decide +kernel) (by decide +kernel), jmem 43 (by decide +kernel) (by decide +kernel)⟩
abbrev MX9_waitsFor : jM := (yX9_waitsFor, cX9_waitsFor, 2, none)
theorem tX9_waitsFor : jMt MX9_waitsFor 1 := ⟨jmem 1087 (by decide +kernel) (by decide +kernel), jmem 86 (by decide +kernel) (by decide +kernel), ⟨by decide, by decide, by decide +kernel⟩, by decide, by decide⟩
theorem vX9_waitsFor : Cond.instanceMethod (jmY MX9_waitsFor) ∈ jTs ∧ Cond.selects (jmY MX9_waitsFor).cls (jmY MX9_waitsFor) (jmY MX9_waitsFor) ∈ jTs := ⟨jmem 1086 (by decide +kernel) (by decide +kernel), jmem 42 (by decide +kernel) (by decide +kernel)⟩
abbrev MX9_wholeTerm : jM := (yX9_wholeTerm, cX9_wholeTerm, 1, none)
theorem tX9_wholeTerm : jMt MX9_wholeTerm 0 := ⟨jmem 1095 (by decide +kernel) (by decide +kernel), jmem 86 (by decide +kernel) (by decide +kernel), ⟨by decide, by decide, by decide +kernel⟩, by decide, by decide⟩
theorem vX9_wholeTerm : Cond.instanceMethod (jmY MX9_wholeTerm) ∈ jTs ∧ Cond.selects (jmY MX9_wholeTerm).cls (jmY MX9_wholeTerm) (jmY MX9_wholeTerm) ∈ jTs := ⟨jmem 1094 (by decide +kernel) (by decide +kernel), jmem 44 (by decide +kernel) (by decide +kernel)⟩
abbrev MX9_beginsTerm : jM := (yX9_beginsTerm, cX9_beginsTerm, 2, none)
theorem tX9_beginsTerm : jMt MX9_beginsTerm 0 := ⟨jmem 1083 (by decide +kernel) (by decide +kernel), jmem 86 (by decide +kernel) (by decide +kernel), ⟨by decide, by decide, by decide +kernel⟩, by decide, by decide⟩
theorem vX9_beginsTerm : Cond.instanceMethod (jmY MX9_beginsTerm) ∈ jTs ∧ Cond.selects (jmY MX9_beginsTerm).cls (jmY MX9_beginsTerm) (jmY MX9_beginsTerm) ∈ jTs := ⟨jmem 1082 (by decide +kernel) (by decide +kernel), jmem 41 (by decide +kernel) (by decide +kernel)⟩
abbrev MX9_isBetween : jM := (yX9_isBetween, cX9_isBetween, 1, (some .boolean))
theorem tX9_isBetween : jMt MX9_isBetween 0 := ⟨jmem 1099 (by decide +kernel) (by decide +kernel), jmem 86 (by decide +kernel) (by decide +kernel), ⟨by decide, by decide, by decide +kernel⟩, by decide, by decide⟩
theorem vX9_isBetween : Cond.instanceMethod (jmY MX9_isBetween) ∈ jTs ∧ Cond.selects (jmY MX9_isBetween).cls (jmY MX9_isBetween) (jmY MX9_isBetween) ∈ jTs := ⟨jmem 1098 (by decide +kernel) (by decide +kernel), jmem 45 (by decide +kernel) (by decide +kernel)⟩
abbrev MX9_readsExpression : jM := (yX9_readsExpression, cX9_readsExpression, 2, none)
theorem tX9_readsExpression : jMt MX9_readsExpression 0 := ⟨jmem 1079 (by decide +kernel) (by decide +kernel), jmem 86 (by decide +kernel) (by decide +kernel), ⟨by decide, by decide, by decide +kernel⟩, by decide, by decide⟩
theorem vX9_readsExpression : Cond.instanceMethod (jmY MX9_readsExpression) ∈ jTs ∧ Cond.selects (jmY MX9_readsExpression).cls (jmY MX9_readsExpression) (jmY MX9_readsExpression) ∈ jTs := ⟨jmem 1078 (by decide +kernel) (by decide +kernel), jmem 40 (by decide +kernel) (by decide +kernel)⟩
abbrev MX9_readsNode : jM := (yX9_readsNode, cX9_readsNode, 5, none)
theorem tX9_readsNode : jMt MX9_readsNode 0 := ⟨jmem 1071 (by decide +kernel) (by decide +kernel), jmem 86 (by decide +kernel) (by decide +kernel), ⟨by decide, by decide, by decide +kernel⟩, by decide, by decide⟩
theorem vX9_readsNode : Cond.instanceMethod (jmY MX9_readsNode) ∈ jTs ∧ Cond.selects (jmY MX9_readsNode).cls (jmY MX9_readsNode) (jmY MX9_readsNode) ∈ jTs := ⟨jmem 1070 (by decide +kernel) (by decide +kernel), jmem 38 (by decide +kernel) (by decide +kernel)⟩
abbrev MX9_readsItem : jM := (yX9_readsItem, cX9_readsItem, 1, none)
theorem tX9_readsItem : jMt MX9_readsItem 0 := ⟨jmem 1039 (by decide +kernel) (by decide +kernel), jmem 86 (by decide +kernel) (by decide +kernel), ⟨by decide, by decide, by decide +kernel⟩, by decide, by decide⟩
theorem vX9_readsItem : Cond.instanceMethod (jmY MX9_readsItem) ∈ jTs ∧ Cond.selects (jmY MX9_readsItem).cls (jmY MX9_readsItem) (jmY MX9_readsItem) ∈ jTs := ⟨jmem 1038 (by decide +kernel) (by decide +kernel), jmem 30 (by decide +kernel) (by decide +kernel)⟩
abbrev MX9_tells : jM := (yX9_tells, cX9_tells, 2, (some .int))
theorem tX9_tells : jMt MX9_tells 0 := ⟨jmem 1024 (by decide +kernel) (by decide +kernel), jmem 86 (by decide +kernel) (by decide +kernel), ⟨by decide, by decide, by decide +kernel⟩, by decide, by decide⟩
theorem vX9_tells : Cond.instanceMethod (jmY MX9_tells) ∈ jTs ∧ Cond.selects (jmY MX9_tells).cls (jmY MX9_tells) (jmY MX9_tells) ∈ jTs := ⟨jmem 1022 (by decide +kernel) (by decide +kernel), jmem 1023 (by decide +kernel) (by decide +kernel)⟩
abbrev MX9_takesOver : jM := (yX9_takesOver, cX9_takesOver, 2, none)
theorem tX9_takesOver : jMt MX9_takesOver 0 := ⟨jmem 1103 (by decide +kernel) (by decide +kernel), jmem 86 (by decide +kernel) (by decide +kernel), ⟨by decide, by decide, by decide +kernel⟩, by decide, by decide⟩
theorem vX9_takesOver : Cond.instanceMethod (jmY MX9_takesOver) ∈ jTs ∧ Cond.selects (jmY MX9_takesOver).cls (jmY MX9_takesOver) (jmY MX9_takesOver) ∈ jTs := ⟨jmem 1102 (by decide +kernel) (by decide +kernel), jmem 46 (by decide +kernel) (by decide +kernel)⟩
abbrev MX9_begins : jM := (yX9_begins, cX9_begins, 2, none)
theorem tX9_begins : jMt MX9_begins 0 := ⟨jmem 851 (by decide +kernel) (by decide +kernel), jmem 86 (by decide +kernel) (by decide +kernel), ⟨by decide, by decide, by decide +kernel⟩, by decide, by decide⟩
theorem vX9_begins : Cond.instanceMethod (jmY MX9_begins) ∈ jTs ∧ Cond.selects (jmY MX9_begins).cls (jmY MX9_begins) (jmY MX9_begins) ∈ jTs := ⟨jmem 850 (by decide +kernel) (by decide +kernel), jmem 26 (by decide +kernel) (by decide +kernel)⟩
abbrev MX9_nodeBy : jM := (yX9_nodeBy, cX9_nodeBy, 5, (some .int))
theorem tX9_nodeBy : jMt MX9_nodeBy 2 := ⟨jmem 1111 (by decide +kernel) (by decide +kernel), jmem 86 (by decide +kernel) (by decide +kernel), ⟨by decide, by decide, by decide +kernel⟩, by decide, by decide⟩
theorem vX9_nodeBy : Cond.instanceMethod (jmY MX9_nodeBy) ∈ jTs ∧ Cond.selects (jmY MX9_nodeBy).cls (jmY MX9_nodeBy) (jmY MX9_nodeBy) ∈ jTs := ⟨jmem 1110 (by decide +kernel) (by decide +kernel), jmem 47 (by decide +kernel) (by decide +kernel)⟩
abbrev MX9_scopeBy : jM := (yX9_scopeBy, cX9_scopeBy, 5, (some .int))
theorem tX9_scopeBy : jMt MX9_scopeBy 2 := ⟨jmem 1119 (by decide +kernel) (by decide +kernel), jmem 86 (by decide +kernel) (by decide +kernel), ⟨by decide, by decide, by decide +kernel⟩, by decide, by decide⟩
theorem vX9_scopeBy : Cond.instanceMethod (jmY MX9_scopeBy) ∈ jTs ∧ Cond.selects (jmY MX9_scopeBy).cls (jmY MX9_scopeBy) (jmY MX9_scopeBy) ∈ jTs := ⟨jmem 1118 (by decide +kernel) (by decide +kernel), jmem 49 (by decide +kernel) (by decide +kernel)⟩
abbrev MX9_node : jM := (yX9_node, cX9_node, 6, (some .int))
theorem tX9_node : jMt MX9_node 0 := ⟨jmem 1107 (by decide +kernel) (by decide +kernel), jmem 86 (by decide +kernel) (by decide +kernel), ⟨by decide, by decide, by decide +kernel⟩, by decide, by decide⟩
theorem vX9_node : Cond.instanceMethod (jmY MX9_node) ∈ jTs ∧ Cond.selects (jmY MX9_node).cls (jmY MX9_node) (jmY MX9_node) ∈ jTs := ⟨jmem 1105 (by decide +kernel) (by decide +kernel), jmem 1106 (by decide +kernel) (by decide +kernel)⟩
abbrev MX9_isNode : jM := (yX9_isNode, cX9_isNode, 2, (some .boolean))
theorem tX9_isNode : jMt MX9_isNode 1 := ⟨jmem 1127 (by decide +kernel) (by decide +kernel), jmem 86 (by decide +kernel) (by decide +kernel), ⟨by decide, by decide, by decide +kernel⟩, by decide, by decide⟩
theorem vX9_isNode : Cond.instanceMethod (jmY MX9_isNode) ∈ jTs ∧ Cond.selects (jmY MX9_isNode).cls (jmY MX9_isNode) (jmY MX9_isNode) ∈ jTs := ⟨jmem 1126 (by decide +kernel) (by decide +kernel), jmem 50 (by decide +kernel) (by decide +kernel)⟩
abbrev MX9_of : jM := (yX9_of, cX9_of, 3, (some .int))
theorem tX9_of : jMt MX9_of 2 := ⟨jmem 1115 (by decide +kernel) (by decide +kernel), jmem 86 (by decide +kernel) (by decide +kernel), ⟨by decide, by decide, by decide +kernel⟩, by decide, by decide⟩
theorem vX9_of : Cond.instanceMethod (jmY MX9_of) ∈ jTs ∧ Cond.selects (jmY MX9_of).cls (jmY MX9_of) (jmY MX9_of) ∈ jTs := ⟨jmem 1114 (by decide +kernel) (by decide +kernel), jmem 48 (by decide +kernel) (by decide +kernel)⟩
abbrev MX9_worked : jM := (yX9_worked, cX9_worked, 3, (some .int))
theorem tX9_worked : jMt MX9_worked 3 := ⟨jmem 1138 (by decide +kernel) (by decide +kernel), jmem 86 (by decide +kernel) (by decide +kernel), ⟨by decide, by decide, by decide +kernel⟩, by decide, by decide⟩
theorem sX9_worked : Cond.static (jmY MX9_worked) ∈ jTs := jmem 1137 (by decide +kernel) (by decide +kernel)
abbrev MX9_expressed : jM := (yX9_expressed, cX9_expressed, 7, (some .int))
theorem tX9_expressed : jMt MX9_expressed 1 := ⟨jmem 1135 (by decide +kernel) (by decide +kernel), jmem 86 (by decide +kernel) (by decide +kernel), ⟨by decide, by decide, by decide +kernel⟩, by decide, by decide⟩
theorem vX9_expressed : Cond.instanceMethod (jmY MX9_expressed) ∈ jTs ∧ Cond.selects (jmY MX9_expressed).cls (jmY MX9_expressed) (jmY MX9_expressed) ∈ jTs := ⟨jmem 1134 (by decide +kernel) (by decide +kernel), jmem 52 (by decide +kernel) (by decide +kernel)⟩
abbrev MX9_laysNodes : jM := (yX9_laysNodes, cX9_laysNodes, 2, none)
theorem tX9_laysNodes : jMt MX9_laysNodes 0 := ⟨jmem 1131 (by decide +kernel) (by decide +kernel), jmem 86 (by decide +kernel) (by decide +kernel), ⟨by decide, by decide, by decide +kernel⟩, by decide, by decide⟩
theorem vX9_laysNodes : Cond.instanceMethod (jmY MX9_laysNodes) ∈ jTs ∧ Cond.selects (jmY MX9_laysNodes).cls (jmY MX9_laysNodes) (jmY MX9_laysNodes) ∈ jTs := ⟨jmem 1130 (by decide +kernel) (by decide +kernel), jmem 51 (by decide +kernel) (by decide +kernel)⟩
abbrev MX9_about : jM := (yX9_about, cX9_about, 4, (some .int))
theorem tX9_about : jMt MX9_about 2 := ⟨jmem 1123 (by decide +kernel) (by decide +kernel), jmem 86 (by decide +kernel) (by decide +kernel), ⟨by decide, by decide, by decide +kernel⟩, by decide, by decide⟩
theorem vX9_about : Cond.instanceMethod (jmY MX9_about) ∈ jTs ∧ Cond.selects (jmY MX9_about).cls (jmY MX9_about) (jmY MX9_about) ∈ jTs := ⟨jmem 1121 (by decide +kernel) (by decide +kernel), jmem 1122 (by decide +kernel) (by decide +kernel)⟩
abbrev MX9_scope : jM := (yX9_scope, cX9_scope, 3, (some .int))
theorem tX9_scope : jMt MX9_scope 2 := ⟨jmem 1142 (by decide +kernel) (by decide +kernel), jmem 86 (by decide +kernel) (by decide +kernel), ⟨by decide, by decide, by decide +kernel⟩, by decide, by decide⟩
theorem vX9_scope : Cond.instanceMethod (jmY MX9_scope) ∈ jTs ∧ Cond.selects (jmY MX9_scope).cls (jmY MX9_scope) (jmY MX9_scope) ∈ jTs := ⟨jmem 1140 (by decide +kernel) (by decide +kernel), jmem 1141 (by decide +kernel) (by decide +kernel)⟩
abbrev MX9_listed : jM := (yX9_listed, cX9_listed, 8, (some .int))
theorem tX9_listed : jMt MX9_listed 2 := ⟨jmem 1146 (by decide +kernel) (by decide +kernel), jmem 86 (by decide +kernel) (by decide +kernel), ⟨by decide, by decide, by decide +kernel⟩, by decide, by decide⟩
theorem vX9_listed : Cond.instanceMethod (jmY MX9_listed) ∈ jTs ∧ Cond.selects (jmY MX9_listed).cls (jmY MX9_listed) (jmY MX9_listed) ∈ jTs := ⟨jmem 1144 (by decide +kernel) (by decide +kernel), jmem 1145 (by decide +kernel) (by decide +kernel)⟩
abbrev MX9_path : jM := (yX9_path, cX9_path, 7, (some .int))
theorem tX9_path : jMt MX9_path 2 := ⟨jmem 1150 (by decide +kernel) (by decide +kernel), jmem 86 (by decide +kernel) (by decide +kernel), ⟨by decide, by decide, by decide +kernel⟩, by decide, by decide⟩
theorem vX9_path : Cond.instanceMethod (jmY MX9_path) ∈ jTs ∧ Cond.selects (jmY MX9_path).cls (jmY MX9_path) (jmY MX9_path) ∈ jTs := ⟨jmem 1148 (by decide +kernel) (by decide +kernel), jmem 1149 (by decide +kernel) (by decide +kernel)⟩
abbrev MX9_block0 : jM := (yX9_block0, cX9_block0, 1, (some .int))
theorem tX9_block0 : jMt MX9_block0 1 := ⟨jmem 858 (by decide +kernel) (by decide +kernel), jmem 86 (by decide +kernel) (by decide +kernel), ⟨by decide, by decide, by decide +kernel⟩, by decide, by decide⟩
theorem sX9_block0 : Cond.static (jmY MX9_block0) ∈ jTs := jmem 857 (by decide +kernel) (by decide +kernel)
abbrev MX9_blockBegins : jM := (yX9_blockBegins, cX9_blockBegins, 3, none)
theorem tX9_blockBegins : jMt MX9_blockBegins 0 := ⟨jmem 855 (by decide +kernel) (by decide +kernel), jmem 86 (by decide +kernel) (by decide +kernel), ⟨by decide, by decide, by decide +kernel⟩, by decide, by decide⟩
theorem vX9_blockBegins : Cond.instanceMethod (jmY MX9_blockBegins) ∈ jTs ∧ Cond.selects (jmY MX9_blockBegins).cls (jmY MX9_blockBegins) (jmY MX9_blockBegins) ∈ jTs := ⟨jmem 854 (by decide +kernel) (by decide +kernel), jmem 27 (by decide +kernel) (by decide +kernel)⟩
abbrev MX9_notes : jM := (yX9_notes, cX9_notes, 2, none)
theorem tX9_notes : jMt MX9_notes 0 := ⟨jmem 1162 (by decide +kernel) (by decide +kernel), jmem 86 (by decide +kernel) (by decide +kernel), ⟨by decide, by decide, by decide +kernel⟩, by decide, by decide⟩
theorem vX9_notes : Cond.instanceMethod (jmY MX9_notes) ∈ jTs ∧ Cond.selects (jmY MX9_notes).cls (jmY MX9_notes) (jmY MX9_notes) ∈ jTs := ⟨jmem 1161 (by decide +kernel) (by decide +kernel), jmem 54 (by decide +kernel) (by decide +kernel)⟩
abbrev MX9_isWire : jM := (yX9_isWire, cX9_isWire, 2, (some .boolean))
theorem tX9_isWire : jMt MX9_isWire 1 := ⟨jmem 1158 (by decide +kernel) (by decide +kernel), jmem 86 (by decide +kernel) (by decide +kernel), ⟨by decide, by decide, by decide +kernel⟩, by decide, by decide⟩
theorem vX9_isWire : Cond.instanceMethod (jmY MX9_isWire) ∈ jTs ∧ Cond.selects (jmY MX9_isWire).cls (jmY MX9_isWire) (jmY MX9_isWire) ∈ jTs := ⟨jmem 1157 (by decide +kernel) (by decide +kernel), jmem 53 (by decide +kernel) (by decide +kernel)⟩
abbrev MX9_sets : jM := (yX9_sets, cX9_sets, 6, (some .int))
theorem tX9_sets : jMt MX9_sets 2 := ⟨jmem 1154 (by decide +kernel) (by decide +kernel), jmem 86 (by decide +kernel) (by decide +kernel), ⟨by decide, by decide, by decide +kernel⟩, by decide, by decide⟩
theorem vX9_sets : Cond.instanceMethod (jmY MX9_sets) ∈ jTs ∧ Cond.selects (jmY MX9_sets).cls (jmY MX9_sets) (jmY MX9_sets) ∈ jTs := ⟨jmem 1152 (by decide +kernel) (by decide +kernel), jmem 1153 (by decide +kernel) (by decide +kernel)⟩
abbrev MX9_passes_ : jM := (yX9_passes_, cX9_passes_, 2, (some .int))
theorem tX9_passes_ : jMt MX9_passes_ 1 := ⟨jmem 1166 (by decide +kernel) (by decide +kernel), jmem 86 (by decide +kernel) (by decide +kernel), ⟨by decide, by decide, by decide +kernel⟩, by decide, by decide⟩
theorem vX9_passes_ : Cond.instanceMethod (jmY MX9_passes_) ∈ jTs ∧ Cond.selects (jmY MX9_passes_).cls (jmY MX9_passes_) (jmY MX9_passes_) ∈ jTs := ⟨jmem 1164 (by decide +kernel) (by decide +kernel), jmem 1165 (by decide +kernel) (by decide +kernel)⟩
abbrev MX9_dumps : jM := (yX9_dumps, cX9_dumps, 2, (some .int))
theorem tX9_dumps : jMt MX9_dumps 1 := ⟨jmem 1170 (by decide +kernel) (by decide +kernel), jmem 86 (by decide +kernel) (by decide +kernel), ⟨by decide, by decide, by decide +kernel⟩, by decide, by decide⟩
theorem vX9_dumps : Cond.instanceMethod (jmY MX9_dumps) ∈ jTs ∧ Cond.selects (jmY MX9_dumps).cls (jmY MX9_dumps) (jmY MX9_dumps) ∈ jTs := ⟨jmem 1168 (by decide +kernel) (by decide +kernel), jmem 1169 (by decide +kernel) (by decide +kernel)⟩
abbrev MX9_sizes : jM := (yX9_sizes, cX9_sizes, 3, (some .int))
theorem tX9_sizes : jMt MX9_sizes 1 := ⟨jmem 1174 (by decide +kernel) (by decide +kernel), jmem 86 (by decide +kernel) (by decide +kernel), ⟨by decide, by decide, by decide +kernel⟩, by decide, by decide⟩
theorem vX9_sizes : Cond.instanceMethod (jmY MX9_sizes) ∈ jTs ∧ Cond.selects (jmY MX9_sizes).cls (jmY MX9_sizes) (jmY MX9_sizes) ∈ jTs := ⟨jmem 1172 (by decide +kernel) (by decide +kernel), jmem 1173 (by decide +kernel) (by decide +kernel)⟩
abbrev MX9_undo : jM := (yX9_undo, cX9_undo, 2, (some .int))
theorem tX9_undo : jMt MX9_undo 0 := ⟨jmem 1178 (by decide +kernel) (by decide +kernel), jmem 86 (by decide +kernel) (by decide +kernel), ⟨by decide, by decide, by decide +kernel⟩, by decide, by decide⟩
theorem vX9_undo : Cond.instanceMethod (jmY MX9_undo) ∈ jTs ∧ Cond.selects (jmY MX9_undo).cls (jmY MX9_undo) (jmY MX9_undo) ∈ jTs := ⟨jmem 1176 (by decide +kernel) (by decide +kernel), jmem 1177 (by decide +kernel) (by decide +kernel)⟩
abbrev MX9_isTime : jM := (yX9_isTime, cX9_isTime, 2, (some .boolean))
theorem tX9_isTime : jMt MX9_isTime 1 := ⟨jmem 1186 (by decide +kernel) (by decide +kernel), jmem 86 (by decide +kernel) (by decide +kernel), ⟨by decide, by decide, by decide +kernel⟩, by decide, by decide⟩
theorem vX9_isTime : Cond.instanceMethod (jmY MX9_isTime) ∈ jTs ∧ Cond.selects (jmY MX9_isTime).cls (jmY MX9_isTime) (jmY MX9_isTime) ∈ jTs := ⟨jmem 1185 (by decide +kernel) (by decide +kernel), jmem 55 (by decide +kernel) (by decide +kernel)⟩
abbrev MX9_blockAt : jM := (yX9_blockAt, cX9_blockAt, 4, (some .int))
theorem tX9_blockAt : jMt MX9_blockAt 1 := ⟨jmem 1194 (by decide +kernel) (by decide +kernel), jmem 86 (by decide +kernel) (by decide +kernel), ⟨by decide, by decide, by decide +kernel⟩, by decide, by decide⟩
theorem vX9_blockAt : Cond.instanceMethod (jmY MX9_blockAt) ∈ jTs ∧ Cond.selects (jmY MX9_blockAt).cls (jmY MX9_blockAt) (jmY MX9_blockAt) ∈ jTs := ⟨jmem 1193 (by decide +kernel) (by decide +kernel), jmem 57 (by decide +kernel) (by decide +kernel)⟩
abbrev MX9_laysAt : jM := (yX9_laysAt, cX9_laysAt, 5, none)
theorem tX9_laysAt : jMt MX9_laysAt 1 := ⟨jmem 1190 (by decide +kernel) (by decide +kernel), jmem 86 (by decide +kernel) (by decide +kernel), ⟨by decide, by decide, by decide +kernel⟩, by decide, by decide⟩
theorem vX9_laysAt : Cond.instanceMethod (jmY MX9_laysAt) ∈ jTs ∧ Cond.selects (jmY MX9_laysAt).cls (jmY MX9_laysAt) (jmY MX9_laysAt) ∈ jTs := ⟨jmem 1189 (by decide +kernel) (by decide +kernel), jmem 56 (by decide +kernel) (by decide +kernel)⟩
abbrev MX9_at : jM := (yX9_at, cX9_at, 3, (some .int))
theorem tX9_at : jMt MX9_at 2 := ⟨jmem 1182 (by decide +kernel) (by decide +kernel), jmem 86 (by decide +kernel) (by decide +kernel), ⟨by decide, by decide, by decide +kernel⟩, by decide, by decide⟩
theorem vX9_at : Cond.instanceMethod (jmY MX9_at) ∈ jTs ∧ Cond.selects (jmY MX9_at).cls (jmY MX9_at) (jmY MX9_at) ∈ jTs := ⟨jmem 1180 (by decide +kernel) (by decide +kernel), jmem 1181 (by decide +kernel) (by decide +kernel)⟩
abbrev MX9_laysTurns : jM := (yX9_laysTurns, cX9_laysTurns, 4, none)
theorem tX9_laysTurns : jMt MX9_laysTurns 0 := ⟨jmem 1209 (by decide +kernel) (by decide +kernel), jmem 86 (by decide +kernel) (by decide +kernel), ⟨by decide, by decide, by decide +kernel⟩, by decide, by decide⟩
theorem vX9_laysTurns : Cond.instanceMethod (jmY MX9_laysTurns) ∈ jTs ∧ Cond.selects (jmY MX9_laysTurns).cls (jmY MX9_laysTurns) (jmY MX9_laysTurns) ∈ jTs := ⟨jmem 1208 (by decide +kernel) (by decide +kernel), jmem 59 (by decide +kernel) (by decide +kernel)⟩
abbrev MX9_laysLine : jM := (yX9_laysLine, cX9_laysLine, 3, none)
theorem tX9_laysLine : jMt MX9_laysLine 1 := ⟨jmem 1205 (by decide +kernel) (by decide +kernel), jmem 86 (by decide +kernel) (by decide +kernel), ⟨by decide, by decide, by decide +kernel⟩, by decide, by decide⟩
theorem vX9_laysLine : Cond.instanceMethod (jmY MX9_laysLine) ∈ jTs ∧ Cond.selects (jmY MX9_laysLine).cls (jmY MX9_laysLine) (jmY MX9_laysLine) ∈ jTs := ⟨jmem 1204 (by decide +kernel) (by decide +kernel), jmem 58 (by decide +kernel) (by decide +kernel)⟩
abbrev MX9_isEdge : jM := (yX9_isEdge, cX9_isEdge, 3, (some .boolean))
theorem tX9_isEdge : jMt MX9_isEdge 2 := ⟨jmem 1213 (by decide +kernel) (by decide +kernel), jmem 86 (by decide +kernel) (by decide +kernel), ⟨by decide, by decide, by decide +kernel⟩, by decide, by decide⟩
theorem vX9_isEdge : Cond.instanceMethod (jmY MX9_isEdge) ∈ jTs ∧ Cond.selects (jmY MX9_isEdge).cls (jmY MX9_isEdge) (jmY MX9_isEdge) ∈ jTs := ⟨jmem 1212 (by decide +kernel) (by decide +kernel), jmem 60 (by decide +kernel) (by decide +kernel)⟩
abbrev MX9_isKind : jM := (yX9_isKind, cX9_isKind, 1, (some .boolean))
theorem tX9_isKind : jMt MX9_isKind 1 := ⟨jmem 1201 (by decide +kernel) (by decide +kernel), jmem 86 (by decide +kernel) (by decide +kernel), ⟨by decide, by decide, by decide +kernel⟩, by decide, by decide⟩
theorem sX9_isKind : Cond.static (jmY MX9_isKind) ∈ jTs := jmem 1200 (by decide +kernel) (by decide +kernel)
abbrev MX9_edges : jM := (yX9_edges, cX9_edges, 7, (some .int))
theorem tX9_edges : jMt MX9_edges 4 := ⟨jmem 1198 (by decide +kernel) (by decide +kernel), jmem 86 (by decide +kernel) (by decide +kernel), ⟨by decide, by decide, by decide +kernel⟩, by decide, by decide⟩
theorem vX9_edges : Cond.instanceMethod (jmY MX9_edges) ∈ jTs ∧ Cond.selects (jmY MX9_edges).cls (jmY MX9_edges) (jmY MX9_edges) ∈ jTs := ⟨jmem 1196 (by decide +kernel) (by decide +kernel), jmem 1197 (by decide +kernel) (by decide +kernel)⟩
abbrev MX9_next_ : jM := (yX9_next_, cX9_next_, 5, (some .int))
theorem tX9_next_ : jMt MX9_next_ 3 := ⟨jmem 1217 (by decide +kernel) (by decide +kernel), jmem 86 (by decide +kernel) (by decide +kernel), ⟨by decide, by decide, by decide +kernel⟩, by decide, by decide⟩
theorem vX9_next_ : Cond.instanceMethod (jmY MX9_next_) ∈ jTs ∧ Cond.selects (jmY MX9_next_).cls (jmY MX9_next_) (jmY MX9_next_) ∈ jTs := ⟨jmem 1215 (by decide +kernel) (by decide +kernel), jmem 1216 (by decide +kernel) (by decide +kernel)⟩
abbrev MX9_previous : jM := (yX9_previous, cX9_previous, 5, (some .int))
theorem tX9_previous : jMt MX9_previous 3 := ⟨jmem 1221 (by decide +kernel) (by decide +kernel), jmem 86 (by decide +kernel) (by decide +kernel), ⟨by decide, by decide, by decide +kernel⟩, by decide, by decide⟩
theorem vX9_previous : Cond.instanceMethod (jmY MX9_previous) ∈ jTs ∧ Cond.selects (jmY MX9_previous).cls (jmY MX9_previous) (jmY MX9_previous) ∈ jTs := ⟨jmem 1219 (by decide +kernel) (by decide +kernel), jmem 1220 (by decide +kernel) (by decide +kernel)⟩
abbrev MX9_first : jM := (yX9_first, cX9_first, 5, (some .int))
theorem tX9_first : jMt MX9_first 3 := ⟨jmem 1225 (by decide +kernel) (by decide +kernel), jmem 86 (by decide +kernel) (by decide +kernel), ⟨by decide, by decide, by decide +kernel⟩, by decide, by decide⟩
theorem vX9_first : Cond.instanceMethod (jmY MX9_first) ∈ jTs ∧ Cond.selects (jmY MX9_first).cls (jmY MX9_first) (jmY MX9_first) ∈ jTs := ⟨jmem 1223 (by decide +kernel) (by decide +kernel), jmem 1224 (by decide +kernel) (by decide +kernel)⟩
abbrev MX9_holds : jM := (yX9_holds, cX9_holds, 6, (some .int))
theorem tX9_holds : jMt MX9_holds 3 := ⟨jmem 1229 (by decide +kernel) (by decide +kernel), jmem 86 (by decide +kernel) (by decide +kernel), ⟨by decide, by decide, by decide +kernel⟩, by decide, by decide⟩
theorem vX9_holds : Cond.instanceMethod (jmY MX9_holds) ∈ jTs ∧ Cond.selects (jmY MX9_holds).cls (jmY MX9_holds) (jmY MX9_holds) ∈ jTs := ⟨jmem 1227 (by decide +kernel) (by decide +kernel), jmem 1228 (by decide +kernel) (by decide +kernel)⟩
abbrev MX9_isTick : jM := (yX9_isTick, cX9_isTick, 4, (some .boolean))
theorem tX9_isTick : jMt MX9_isTick 1 := ⟨jmem 1237 (by decide +kernel) (by decide +kernel), jmem 86 (by decide +kernel) (by decide +kernel), ⟨by decide, by decide, by decide +kernel⟩, by decide, by decide⟩
theorem vX9_isTick : Cond.instanceMethod (jmY MX9_isTick) ∈ jTs ∧ Cond.selects (jmY MX9_isTick).cls (jmY MX9_isTick) (jmY MX9_isTick) ∈ jTs := ⟨jmem 1236 (by decide +kernel) (by decide +kernel), jmem 61 (by decide +kernel) (by decide +kernel)⟩
abbrev MX9_ticks : jM := (yX9_ticks, cX9_ticks, 6, (some .int))
theorem tX9_ticks : jMt MX9_ticks 2 := ⟨jmem 1233 (by decide +kernel) (by decide +kernel), jmem 86 (by decide +kernel) (by decide +kernel), ⟨by decide, by decide, by decide +kernel⟩, by decide, by decide⟩
theorem vX9_ticks : Cond.instanceMethod (jmY MX9_ticks) ∈ jTs ∧ Cond.selects (jmY MX9_ticks).cls (jmY MX9_ticks) (jmY MX9_ticks) ∈ jTs := ⟨jmem 1231 (by decide +kernel) (by decide +kernel), jmem 1232 (by decide +kernel) (by decide +kernel)⟩
abbrev MX9_delay : jM := (yX9_delay, cX9_delay, 7, (some .int))
theorem tX9_delay : jMt MX9_delay 2 := ⟨jmem 1241 (by decide +kernel) (by decide +kernel), jmem 86 (by decide +kernel) (by decide +kernel), ⟨by decide, by decide, by decide +kernel⟩, by decide, by decide⟩
theorem vX9_delay : Cond.instanceMethod (jmY MX9_delay) ∈ jTs ∧ Cond.selects (jmY MX9_delay).cls (jmY MX9_delay) (jmY MX9_delay) ∈ jTs := ⟨jmem 1239 (by decide +kernel) (by decide +kernel), jmem 1240 (by decide +kernel) (by decide +kernel)⟩
abbrev MX9_jump : jM := (yX9_jump, cX9_jump, 2, (some .int))
theorem tX9_jump : jMt MX9_jump 1 := ⟨jmem 1245 (by decide +kernel) (by decide +kernel), jmem 86 (by decide +kernel) (by decide +kernel), ⟨by decide, by decide, by decide +kernel⟩, by decide, by decide⟩
theorem vX9_jump : Cond.instanceMethod (jmY MX9_jump) ∈ jTs ∧ Cond.selects (jmY MX9_jump).cls (jmY MX9_jump) (jmY MX9_jump) ∈ jTs := ⟨jmem 1243 (by decide +kernel) (by decide +kernel), jmem 1244 (by decide +kernel) (by decide +kernel)⟩
abbrev MX9_isBlock : jM := (yX9_isBlock, cX9_isBlock, 2, (some .boolean))
theorem tX9_isBlock : jMt MX9_isBlock 1 := ⟨jmem 1253 (by decide +kernel) (by decide +kernel), jmem 86 (by decide +kernel) (by decide +kernel), ⟨by decide, by decide, by decide +kernel⟩, by decide, by decide⟩
theorem vX9_isBlock : Cond.instanceMethod (jmY MX9_isBlock) ∈ jTs ∧ Cond.selects (jmY MX9_isBlock).cls (jmY MX9_isBlock) (jmY MX9_isBlock) ∈ jTs := ⟨jmem 1252 (by decide +kernel) (by decide +kernel), jmem 62 (by decide +kernel) (by decide +kernel)⟩
abbrev MX9_addsRow : jM := (yX9_addsRow, cX9_addsRow, 3, none)
theorem tX9_addsRow : jMt MX9_addsRow 1 := ⟨jmem 1261 (by decide +kernel) (by decide +kernel), jmem 86 (by decide +kernel) (by decide +kernel), ⟨by decide, by decide, by decide +kernel⟩, by decide, by decide⟩
theorem vX9_addsRow : Cond.instanceMethod (jmY MX9_addsRow) ∈ jTs ∧ Cond.selects (jmY MX9_addsRow).cls (jmY MX9_addsRow) (jmY MX9_addsRow) ∈ jTs := ⟨jmem 1260 (by decide +kernel) (by decide +kernel), jmem 64 (by decide +kernel) (by decide +kernel)⟩
abbrev MX9_placeOf : jM := (yX9_placeOf, cX9_placeOf, 3, (some .int))
theorem tX9_placeOf : jMt MX9_placeOf 1 := ⟨jmem 1269 (by decide +kernel) (by decide +kernel), jmem 86 (by decide +kernel) (by decide +kernel), ⟨by decide, by decide, by decide +kernel⟩, by decide, by decide⟩
theorem vX9_placeOf : Cond.instanceMethod (jmY MX9_placeOf) ∈ jTs ∧ Cond.selects (jmY MX9_placeOf).cls (jmY MX9_placeOf) (jmY MX9_placeOf) ∈ jTs := ⟨jmem 1268 (by decide +kernel) (by decide +kernel), jmem 66 (by decide +kernel) (by decide +kernel)⟩
abbrev MX9_roomOf : jM := (yX9_roomOf, cX9_roomOf, 8, (some .int))
theorem tX9_roomOf : jMt MX9_roomOf 3 := ⟨jmem 1265 (by decide +kernel) (by decide +kernel), jmem 86 (by decide +kernel) (by decide +kernel), ⟨by decide, by decide, by decide +kernel⟩, by decide, by decide⟩
theorem vX9_roomOf : Cond.instanceMethod (jmY MX9_roomOf) ∈ jTs ∧ Cond.selects (jmY MX9_roomOf).cls (jmY MX9_roomOf) (jmY MX9_roomOf) ∈ jTs := ⟨jmem 1264 (by decide +kernel) (by decide +kernel), jmem 65 (by decide +kernel) (by decide +kernel)⟩
abbrev MX9_roomOfBlock : jM := (yX9_roomOfBlock, cX9_roomOfBlock, 2, (some .int))
theorem tX9_roomOfBlock : jMt MX9_roomOfBlock 1 := ⟨jmem 1257 (by decide +kernel) (by decide +kernel), jmem 86 (by decide +kernel) (by decide +kernel), ⟨by decide, by decide, by decide +kernel⟩, by decide, by decide⟩
theorem vX9_roomOfBlock : Cond.instanceMethod (jmY MX9_roomOfBlock) ∈ jTs ∧ Cond.selects (jmY MX9_roomOfBlock).cls (jmY MX9_roomOfBlock) (jmY MX9_roomOfBlock) ∈ jTs := ⟨jmem 1256 (by decide +kernel) (by decide +kernel), jmem 63 (by decide +kernel) (by decide +kernel)⟩
abbrev MX9_block : jM := (yX9_block, cX9_block, 4, (some .int))
theorem tX9_block : jMt MX9_block 2 := ⟨jmem 1249 (by decide +kernel) (by decide +kernel), jmem 86 (by decide +kernel) (by decide +kernel), ⟨by decide, by decide, by decide +kernel⟩, by decide, by decide⟩
theorem vX9_block : Cond.instanceMethod (jmY MX9_block) ∈ jTs ∧ Cond.selects (jmY MX9_block).cls (jmY MX9_block) (jmY MX9_block) ∈ jTs := ⟨jmem 1247 (by decide +kernel) (by decide +kernel), jmem 1248 (by decide +kernel) (by decide +kernel)⟩
abbrev MX9_frame : jM := (yX9_frame, cX9_frame, 3, (some .int))
theorem tX9_frame : jMt MX9_frame 2 := ⟨jmem 1273 (by decide +kernel) (by decide +kernel), jmem 86 (by decide +kernel) (by decide +kernel), ⟨by decide, by decide, by decide +kernel⟩, by decide, by decide⟩
theorem vX9_frame : Cond.instanceMethod (jmY MX9_frame) ∈ jTs ∧ Cond.selects (jmY MX9_frame).cls (jmY MX9_frame) (jmY MX9_frame) ∈ jTs := ⟨jmem 1271 (by decide +kernel) (by decide +kernel), jmem 1272 (by decide +kernel) (by decide +kernel)⟩
abbrev MX9_nodeOfWire : jM := (yX9_nodeOfWire, cX9_nodeOfWire, 4, (some .int))
theorem tX9_nodeOfWire : jMt MX9_nodeOfWire 1 := ⟨jmem 1281 (by decide +kernel) (by decide +kernel), jmem 86 (by decide +kernel) (by decide +kernel), ⟨by decide, by decide, by decide +kernel⟩, by decide, by decide⟩
theorem vX9_nodeOfWire : Cond.instanceMethod (jmY MX9_nodeOfWire) ∈ jTs ∧ Cond.selects (jmY MX9_nodeOfWire).cls (jmY MX9_nodeOfWire) (jmY MX9_nodeOfWire) ∈ jTs := ⟨jmem 1280 (by decide +kernel) (by decide +kernel), jmem 67 (by decide +kernel) (by decide +kernel)⟩
abbrev MX9_change : jM := (yX9_change, cX9_change, 5, (some .int))
theorem tX9_change : jMt MX9_change 3 := ⟨jmem 1277 (by decide +kernel) (by decide +kernel), jmem 86 (by decide +kernel) (by decide +kernel), ⟨by decide, by decide, by decide +kernel⟩, by decide, by decide⟩
theorem vX9_change : Cond.instanceMethod (jmY MX9_change) ∈ jTs ∧ Cond.selects (jmY MX9_change).cls (jmY MX9_change) (jmY MX9_change) ∈ jTs := ⟨jmem 1275 (by decide +kernel) (by decide +kernel), jmem 1276 (by decide +kernel) (by decide +kernel)⟩
abbrev MX9_roomParted : jM := (yX9_roomParted, cX9_roomParted, 6, (some .int))
theorem tX9_roomParted : jMt MX9_roomParted 2 := ⟨jmem 1293 (by decide +kernel) (by decide +kernel), jmem 86 (by decide +kernel) (by decide +kernel), ⟨by decide, by decide, by decide +kernel⟩, by decide, by decide⟩
theorem vX9_roomParted : Cond.instanceMethod (jmY MX9_roomParted) ∈ jTs ∧ Cond.selects (jmY MX9_roomParted).cls (jmY MX9_roomParted) (jmY MX9_roomParted) ∈ jTs := ⟨jmem 1292 (by decide +kernel) (by decide +kernel), jmem 69 (by decide +kernel) (by decide +kernel)⟩
abbrev MX9_packedBy : jM := (yX9_packedBy, cX9_packedBy, 5, (some .int))
theorem tX9_packedBy : jMt MX9_packedBy 1 := ⟨jmem 1289 (by decide +kernel) (by decide +kernel), jmem 86 (by decide +kernel) (by decide +kernel), ⟨by decide, by decide, by decide +kernel⟩, by decide, by decide⟩
theorem vX9_packedBy : Cond.instanceMethod (jmY MX9_packedBy) ∈ jTs ∧ Cond.selects (jmY MX9_packedBy).cls (jmY MX9_packedBy) (jmY MX9_packedBy) ∈ jTs := ⟨jmem 1288 (by decide +kernel) (by decide +kernel), jmem 68 (by decide +kernel) (by decide +kernel)⟩
abbrev MX9_packed : jM := (yX9_packed, cX9_packed, 2, (some .int))
theorem tX9_packed : jMt MX9_packed 1 := ⟨jmem 1285 (by decide +kernel) (by decide +kernel), jmem 86 (by decide +kernel) (by decide +kernel), ⟨by decide, by decide, by decide +kernel⟩, by decide, by decide⟩
theorem vX9_packed : Cond.instanceMethod (jmY MX9_packed) ∈ jTs ∧ Cond.selects (jmY MX9_packed).cls (jmY MX9_packed) (jmY MX9_packed) ∈ jTs := ⟨jmem 1283 (by decide +kernel) (by decide +kernel), jmem 1284 (by decide +kernel) (by decide +kernel)⟩
abbrev MX9_best : jM := (yX9_best, cX9_best, 3, (some .int))
theorem tX9_best : jMt MX9_best 0 := ⟨jmem 1297 (by decide +kernel) (by decide +kernel), jmem 86 (by decide +kernel) (by decide +kernel), ⟨by decide, by decide, by decide +kernel⟩, by decide, by decide⟩
theorem vX9_best : Cond.instanceMethod (jmY MX9_best) ∈ jTs ∧ Cond.selects (jmY MX9_best).cls (jmY MX9_best) (jmY MX9_best) ∈ jTs := ⟨jmem 1295 (by decide +kernel) (by decide +kernel), jmem 1296 (by decide +kernel) (by decide +kernel)⟩
abbrev MX9_sees : jM := (yX9_sees, cX9_sees, 3, (some .int))
theorem tX9_sees : jMt MX9_sees 2 := ⟨jmem 1301 (by decide +kernel) (by decide +kernel), jmem 86 (by decide +kernel) (by decide +kernel), ⟨by decide, by decide, by decide +kernel⟩, by decide, by decide⟩
theorem vX9_sees : Cond.instanceMethod (jmY MX9_sees) ∈ jTs ∧ Cond.selects (jmY MX9_sees).cls (jmY MX9_sees) (jmY MX9_sees) ∈ jTs := ⟨jmem 1299 (by decide +kernel) (by decide +kernel), jmem 1300 (by decide +kernel) (by decide +kernel)⟩
abbrev MX9_forget : jM := (yX9_forget, cX9_forget, 2, (some .int))
theorem tX9_forget : jMt MX9_forget 0 := ⟨jmem 1305 (by decide +kernel) (by decide +kernel), jmem 86 (by decide +kernel) (by decide +kernel), ⟨by decide, by decide, by decide +kernel⟩, by decide, by decide⟩
theorem vX9_forget : Cond.instanceMethod (jmY MX9_forget) ∈ jTs ∧ Cond.selects (jmY MX9_forget).cls (jmY MX9_forget) (jmY MX9_forget) ∈ jTs := ⟨jmem 1303 (by decide +kernel) (by decide +kernel), jmem 1304 (by decide +kernel) (by decide +kernel)⟩
abbrev MX9_seen : jM := (yX9_seen, cX9_seen, 5, (some .int))
theorem tX9_seen : jMt MX9_seen 0 := ⟨jmem 1313 (by decide +kernel) (by decide +kernel), jmem 86 (by decide +kernel) (by decide +kernel), ⟨by decide, by decide, by decide +kernel⟩, by decide, by decide⟩
theorem vX9_seen : Cond.instanceMethod (jmY MX9_seen) ∈ jTs ∧ Cond.selects (jmY MX9_seen).cls (jmY MX9_seen) (jmY MX9_seen) ∈ jTs := ⟨jmem 1312 (by decide +kernel) (by decide +kernel), jmem 70 (by decide +kernel) (by decide +kernel)⟩
abbrev MX9_which : jM := (yX9_which, cX9_which, 1, (some .int))
theorem tX9_which : jMt MX9_which 0 := ⟨jmem 1309 (by decide +kernel) (by decide +kernel), jmem 86 (by decide +kernel) (by decide +kernel), ⟨by decide, by decide, by decide +kernel⟩, by decide, by decide⟩
theorem vX9_which : Cond.instanceMethod (jmY MX9_which) ∈ jTs ∧ Cond.selects (jmY MX9_which).cls (jmY MX9_which) (jmY MX9_which) ∈ jTs := ⟨jmem 1307 (by decide +kernel) (by decide +kernel), jmem 1308 (by decide +kernel) (by decide +kernel)⟩
abbrev MX9_mostAlike : jM := (yX9_mostAlike, cX9_mostAlike, 6, (some .int))
theorem tX9_mostAlike : jMt MX9_mostAlike 1 := ⟨jmem 1321 (by decide +kernel) (by decide +kernel), jmem 86 (by decide +kernel) (by decide +kernel), ⟨by decide, by decide, by decide +kernel⟩, by decide, by decide⟩
theorem vX9_mostAlike : Cond.instanceMethod (jmY MX9_mostAlike) ∈ jTs ∧ Cond.selects (jmY MX9_mostAlike).cls (jmY MX9_mostAlike) (jmY MX9_mostAlike) ∈ jTs := ⟨jmem 1320 (by decide +kernel) (by decide +kernel), jmem 71 (by decide +kernel) (by decide +kernel)⟩
abbrev MX9_look : jM := (yX9_look, cX9_look, 6, (some .int))
theorem tX9_look : jMt MX9_look 0 := ⟨jmem 1317 (by decide +kernel) (by decide +kernel), jmem 86 (by decide +kernel) (by decide +kernel), ⟨by decide, by decide, by decide +kernel⟩, by decide, by decide⟩
theorem vX9_look : Cond.instanceMethod (jmY MX9_look) ∈ jTs ∧ Cond.selects (jmY MX9_look).cls (jmY MX9_look) (jmY MX9_look) ∈ jTs := ⟨jmem 1315 (by decide +kernel) (by decide +kernel), jmem 1316 (by decide +kernel) (by decide +kernel)⟩
abbrev MX9_keep : jM := (yX9_keep, cX9_keep, 3, (some .int))
theorem tX9_keep : jMt MX9_keep 1 := ⟨jmem 1325 (by decide +kernel) (by decide +kernel), jmem 86 (by decide +kernel) (by decide +kernel), ⟨by decide, by decide, by decide +kernel⟩, by decide, by decide⟩
theorem vX9_keep : Cond.instanceMethod (jmY MX9_keep) ∈ jTs ∧ Cond.selects (jmY MX9_keep).cls (jmY MX9_keep) (jmY MX9_keep) ∈ jTs := ⟨jmem 1323 (by decide +kernel) (by decide +kernel), jmem 1324 (by decide +kernel) (by decide +kernel)⟩
abbrev MX9_back : jM := (yX9_back, cX9_back, 3, (some .int))
theorem tX9_back : jMt MX9_back 1 := ⟨jmem 1329 (by decide +kernel) (by decide +kernel), jmem 86 (by decide +kernel) (by decide +kernel), ⟨by decide, by decide, by decide +kernel⟩, by decide, by decide⟩
theorem vX9_back : Cond.instanceMethod (jmY MX9_back) ∈ jTs ∧ Cond.selects (jmY MX9_back).cls (jmY MX9_back) (jmY MX9_back) ∈ jTs := ⟨jmem 1327 (by decide +kernel) (by decide +kernel), jmem 1328 (by decide +kernel) (by decide +kernel)⟩
abbrev MX9_changes : jM := (yX9_changes, cX9_changes, 3, (some .int))
theorem tX9_changes : jMt MX9_changes 0 := ⟨jmem 1337 (by decide +kernel) (by decide +kernel), jmem 86 (by decide +kernel) (by decide +kernel), ⟨by decide, by decide, by decide +kernel⟩, by decide, by decide⟩
theorem vX9_changes : Cond.instanceMethod (jmY MX9_changes) ∈ jTs ∧ Cond.selects (jmY MX9_changes).cls (jmY MX9_changes) (jmY MX9_changes) ∈ jTs := ⟨jmem 1336 (by decide +kernel) (by decide +kernel), jmem 72 (by decide +kernel) (by decide +kernel)⟩
abbrev MX9_roomOfAll : jM := (yX9_roomOfAll, cX9_roomOfAll, 3, (some .int))
theorem tX9_roomOfAll : jMt MX9_roomOfAll 0 := ⟨jmem 1341 (by decide +kernel) (by decide +kernel), jmem 86 (by decide +kernel) (by decide +kernel), ⟨by decide, by decide, by decide +kernel⟩, by decide, by decide⟩
theorem vX9_roomOfAll : Cond.instanceMethod (jmY MX9_roomOfAll) ∈ jTs ∧ Cond.selects (jmY MX9_roomOfAll).cls (jmY MX9_roomOfAll) (jmY MX9_roomOfAll) ∈ jTs := ⟨jmem 1340 (by decide +kernel) (by decide +kernel), jmem 73 (by decide +kernel) (by decide +kernel)⟩
abbrev MX9_count : jM := (yX9_count, cX9_count, 2, (some .int))
theorem tX9_count : jMt MX9_count 1 := ⟨jmem 1333 (by decide +kernel) (by decide +kernel), jmem 86 (by decide +kernel) (by decide +kernel), ⟨by decide, by decide, by decide +kernel⟩, by decide, by decide⟩
theorem vX9_count : Cond.instanceMethod (jmY MX9_count) ∈ jTs ∧ Cond.selects (jmY MX9_count).cls (jmY MX9_count) (jmY MX9_count) ∈ jTs := ⟨jmem 1331 (by decide +kernel) (by decide +kernel), jmem 1332 (by decide +kernel) (by decide +kernel)⟩
abbrev MJ6_bitCount_0f7a4 : jM := (yJ6_bitCount_0f7a4, cJ6_bitCount_0f7a4, 1, (some .int))
theorem tJ6_bitCount_0f7a4 : jMt MJ6_bitCount_0f7a4 1 := ⟨jmem 812 (by decide +kernel) (by decide +kernel), jmem 88 (by decide +kernel) (by decide +kernel), ⟨by decide, by decide, by decide +kernel⟩, by decide, by decide⟩
theorem sJ6_bitCount_0f7a4 : Cond.static (jmY MJ6_bitCount_0f7a4) ∈ jTs := jmem 811 (by decide +kernel) (by decide +kernel)
abbrev MJ9_max_7cf53 : jM := (yJ9_max_7cf53, cJ9_max_7cf53, 2, (some .int))
theorem tJ9_max_7cf53 : Cond.code (jmY MJ9_max_7cf53) (jmC MJ9_max_7cf53) (jmL MJ9_max_7cf53) (jmR MJ9_max_7cf53) ∈ jTs ∧ Cond.initialized (jmY MJ9_max_7cf53).cls ∈ jTs := ⟨jmem 701 (by decide +kernel) (by decide +kernel), jmem 87 (by decide +kernel) (by decide +kernel)⟩
theorem sJ9_max_7cf53 : Cond.static (jmY MJ9_max_7cf53) ∈ jTs := jmem 700 (by decide +kernel) (by decide +kernel)
abbrev MJ9_min_7cf53 : jM := (yJ9_min_7cf53, cJ9_min_7cf53, 2, (some .int))
theorem tJ9_min_7cf53 : Cond.code (jmY MJ9_min_7cf53) (jmC MJ9_min_7cf53) (jmL MJ9_min_7cf53) (jmR MJ9_min_7cf53) ∈ jTs ∧ Cond.initialized (jmY MJ9_min_7cf53).cls ∈ jTs := ⟨jmem 785 (by decide +kernel) (by decide +kernel), jmem 87 (by decide +kernel) (by decide +kernel)⟩
theorem sJ9_min_7cf53 : Cond.static (jmY MJ9_min_7cf53) ∈ jTs := jmem 784 (by decide +kernel) (by decide +kernel)
abbrev MJ7_fill_53178 : jM := (yJ7_fill_53178, cJ7_fill_53178, 4, none)
theorem tJ7_fill_53178 : jMt MJ7_fill_53178 2 := ⟨jmem 281 (by decide +kernel) (by decide +kernel), jmem 82 (by decide +kernel) (by decide +kernel), ⟨by decide, by decide, by decide +kernel⟩, by decide, by decide⟩
theorem sJ7_fill_53178 : Cond.static (jmY MJ7_fill_53178) ∈ jTs := jmem 280 (by decide +kernel) (by decide +kernel)
abbrev ML_law : jM := (yL_law, cL_law, 4, (some .boolean))
theorem lX0_3 : Cond.methodLink RX0 3 Lib.objectInit ∈ jTs := jmem 220 (by decide +kernel) (by decide +kernel)
theorem fX0_9 : jFL RX0 9 0 2 := ⟨by decide, by decide, Or.inl (jmem 259 (by decide +kernel) (by decide +kernel))⟩
theorem gX0_9 : 0 < 10 ∧ 2 < jF_ 0 ∧ Cond.fieldLink RX0 9 (jT_ 0 2).1 (jT_ 0 2).2.1 (jT_ 0 2).2.2.1 ∈ jTs := ⟨by decide, by decide, jmem 259 (by decide +kernel) (by decide +kernel)⟩
theorem clX0_15 : Cond.classLink RX0 15 (jR_ 1) ∈ jTs := jmem 221 (by decide +kernel) (by decide +kernel)
theorem lX0_17 : Cond.methodLink RX0 17 (jmY MX1_init) ∈ jTs := jmem 223 (by decide +kernel) (by decide +kernel)
theorem fX0_20 : jFL RX0 20 0 3 := ⟨by decide, by decide, Or.inl (jmem 262 (by decide +kernel) (by decide +kernel))⟩
theorem gX0_20 : 0 < 10 ∧ 3 < jF_ 0 ∧ Cond.fieldLink RX0 20 (jT_ 0 3).1 (jT_ 0 3).2.1 (jT_ 0 3).2.2.1 ∈ jTs := ⟨by decide, by decide, jmem 262 (by decide +kernel) (by decide +kernel)⟩
theorem fX0_24 : jFL RX0 24 0 0 := ⟨by decide, by decide, Or.inl (jmem 251 (by decide +kernel) (by decide +kernel))⟩
theorem fX0_28 : jFL RX0 28 0 1 := ⟨by decide, by decide, Or.inl (jmem 255 (by decide +kernel) (by decide +kernel))⟩
theorem lX0_31 : Cond.methodLink RX0 31 arraycopyName ∈ jTs := jmem 294 (by decide +kernel) (by decide +kernel)
theorem fX0_37 : jFL RX0 37 1 0 := ⟨by decide, by decide, Or.inr ⟨"SignalWaves", jnem 228 (by decide +kernel)⟩⟩
theorem lX0_40 : Cond.methodLink RX0 40 (jmY MX0_restart) ∈ jTs := jmem 596 (by decide +kernel) (by decide +kernel)
theorem lX0_44 : Cond.methodLink RX0 44 (jmY MX1_copyFrom) ∈ jTs := jmem 597 (by decide +kernel) (by decide +kernel)
theorem lX1_1 : Cond.methodLink RX1 1 Lib.objectInit ∈ jTs := jmem 226 (by decide +kernel) (by decide +kernel)
theorem fX1_7 : jFL RX1 7 1 1 := ⟨by decide, by decide, Or.inl (jmem 232 (by decide +kernel) (by decide +kernel))⟩
theorem gX1_7 : 1 < 10 ∧ 1 < jF_ 1 ∧ Cond.fieldLink RX1 7 (jT_ 1 1).1 (jT_ 1 1).2.1 (jT_ 1 1).2.2.1 ∈ jTs := ⟨by decide, by decide, jmem 232 (by decide +kernel) (by decide +kernel)⟩
theorem fX1_13 : jFL RX1 13 1 2 := ⟨by decide, by decide, Or.inl (jmem 236 (by decide +kernel) (by decide +kernel))⟩
theorem gX1_13 : 1 < 10 ∧ 2 < jF_ 1 ∧ Cond.fieldLink RX1 13 (jT_ 1 2).1 (jT_ 1 2).2.1 (jT_ 1 2).2.2.1 ∈ jTs := ⟨by decide, by decide, jmem 236 (by decide +kernel) (by decide +kernel)⟩
theorem fX1_16 : jFL RX1 16 1 3 := ⟨by decide, by decide, Or.inl (jmem 239 (by decide +kernel) (by decide +kernel))⟩
theorem gX1_16 : 1 < 10 ∧ 3 < jF_ 1 ∧ Cond.fieldLink RX1 16 (jT_ 1 3).1 (jT_ 1 3).2.1 (jT_ 1 3).2.2.1 ∈ jTs := ⟨by decide, by decide, jmem 239 (by decide +kernel) (by decide +kernel)⟩
theorem fX1_19 : jFL RX1 19 1 0 := ⟨by decide, by decide, Or.inl (jmem 227 (by decide +kernel) (by decide +kernel))⟩
theorem lX1_23 : Cond.methodLink RX1 23 (jmY MX1_add) ∈ jTs := jmem 605 (by decide +kernel) (by decide +kernel)
theorem lX1_27 : Cond.methodLink RX1 27 (jmY MX1_addAll) ∈ jTs := jmem 601 (by decide +kernel) (by decide +kernel)
theorem lX1_31 : Cond.methodLink RX1 31 (jmY MX1_isNew) ∈ jTs := jmem 744 (by decide +kernel) (by decide +kernel)
theorem lX1_35 : Cond.methodLink RX1 35 (jmY MX1_different) ∈ jTs := jmem 756 (by decide +kernel) (by decide +kernel)
theorem lX1_39 : Cond.methodLink RX1 39 (jmY MX1_indexOf) ∈ jTs := jmem 757 (by decide +kernel) (by decide +kernel)
theorem lX2_3 : Cond.methodLink RX2 3 Lib.objectInit ∈ jTs := jmem 129 (by decide +kernel) (by decide +kernel)
theorem fX2_9 : jFL RX2 9 2 4 := ⟨by decide, by decide, Or.inl (jmem 143 (by decide +kernel) (by decide +kernel))⟩
theorem gX2_9 : 2 < 10 ∧ 4 < jF_ 2 ∧ Cond.fieldLink RX2 9 (jT_ 2 4).1 (jT_ 2 4).2.1 (jT_ 2 4).2.2.1 ∈ jTs := ⟨by decide, by decide, jmem 143 (by decide +kernel) (by decide +kernel)⟩
theorem fX2_15 : jFL RX2 15 2 5 := ⟨by decide, by decide, Or.inl (jmem 145 (by decide +kernel) (by decide +kernel))⟩
theorem gX2_15 : 2 < 10 ∧ 5 < jF_ 2 ∧ Cond.fieldLink RX2 15 (jT_ 2 5).1 (jT_ 2 5).2.1 (jT_ 2 5).2.2.1 ∈ jTs := ⟨by decide, by decide, jmem 145 (by decide +kernel) (by decide +kernel)⟩
theorem fX2_18 : jFL RX2 18 2 6 := ⟨by decide, by decide, Or.inl (jmem 147 (by decide +kernel) (by decide +kernel))⟩
theorem gX2_18 : 2 < 10 ∧ 6 < jF_ 2 ∧ Cond.fieldLink RX2 18 (jT_ 2 6).1 (jT_ 2 6).2.1 (jT_ 2 6).2.2.1 ∈ jTs := ⟨by decide, by decide, jmem 147 (by decide +kernel) (by decide +kernel)⟩
theorem fX2_21 : jFL RX2 21 2 7 := ⟨by decide, by decide, Or.inl (jmem 149 (by decide +kernel) (by decide +kernel))⟩
theorem gX2_21 : 2 < 10 ∧ 7 < jF_ 2 ∧ Cond.fieldLink RX2 21 (jT_ 2 7).1 (jT_ 2 7).2.1 (jT_ 2 7).2.2.1 ∈ jTs := ⟨by decide, by decide, jmem 149 (by decide +kernel) (by decide +kernel)⟩
theorem fX2_24 : jFL RX2 24 2 8 := ⟨by decide, by decide, Or.inl (jmem 151 (by decide +kernel) (by decide +kernel))⟩
theorem gX2_24 : 2 < 10 ∧ 8 < jF_ 2 ∧ Cond.fieldLink RX2 24 (jT_ 2 8).1 (jT_ 2 8).2.1 (jT_ 2 8).2.2.1 ∈ jTs := ⟨by decide, by decide, jmem 151 (by decide +kernel) (by decide +kernel)⟩
theorem fX2_27 : jFL RX2 27 2 9 := ⟨by decide, by decide, Or.inl (jmem 154 (by decide +kernel) (by decide +kernel))⟩
theorem gX2_27 : 2 < 10 ∧ 9 < jF_ 2 ∧ Cond.fieldLink RX2 27 (jT_ 2 9).1 (jT_ 2 9).2.1 (jT_ 2 9).2.2.1 ∈ jTs := ⟨by decide, by decide, jmem 154 (by decide +kernel) (by decide +kernel)⟩
theorem clX2_30 : Cond.classLink RX2 30 ("[" ++ (FieldType.array .int).toString) ∈ jTs := jmem 130 (by decide +kernel) (by decide +kernel)
theorem fX2_32 : jFL RX2 32 2 10 := ⟨by decide, by decide, Or.inl (jmem 156 (by decide +kernel) (by decide +kernel))⟩
theorem gX2_32 : 2 < 10 ∧ 10 < jF_ 2 ∧ Cond.fieldLink RX2 32 (jT_ 2 10).1 (jT_ 2 10).2.1 (jT_ 2 10).2.2.1 ∈ jTs := ⟨by decide, by decide, jmem 156 (by decide +kernel) (by decide +kernel)⟩
theorem fX2_35 : jFL RX2 35 2 11 := ⟨by decide, by decide, Or.inl (jmem 157 (by decide +kernel) (by decide +kernel))⟩
theorem gX2_35 : 2 < 10 ∧ 11 < jF_ 2 ∧ Cond.fieldLink RX2 35 (jT_ 2 11).1 (jT_ 2 11).2.1 (jT_ 2 11).2.2.1 ∈ jTs := ⟨by decide, by decide, jmem 157 (by decide +kernel) (by decide +kernel)⟩
theorem fX2_38 : jFL RX2 38 2 12 := ⟨by decide, by decide, Or.inl (jmem 158 (by decide +kernel) (by decide +kernel))⟩
theorem gX2_38 : 2 < 10 ∧ 12 < jF_ 2 ∧ Cond.fieldLink RX2 38 (jT_ 2 12).1 (jT_ 2 12).2.1 (jT_ 2 12).2.2.1 ∈ jTs := ⟨by decide, by decide, jmem 158 (by decide +kernel) (by decide +kernel)⟩
theorem fX2_41 : jFL RX2 41 2 0 := ⟨by decide, by decide, Or.inl (jmem 132 (by decide +kernel) (by decide +kernel))⟩
theorem fX2_45 : jFL RX2 45 2 1 := ⟨by decide, by decide, Or.inl (jmem 135 (by decide +kernel) (by decide +kernel))⟩
theorem fX2_48 : jFL RX2 48 2 2 := ⟨by decide, by decide, Or.inl (jmem 138 (by decide +kernel) (by decide +kernel))⟩
theorem fX2_51 : jFL RX2 51 2 3 := ⟨by decide, by decide, Or.inl (jmem 140 (by decide +kernel) (by decide +kernel))⟩
theorem lX2_54 : Cond.methodLink RX2 54 (jmY MX2_depth) ∈ jTs := jmem 574 (by decide +kernel) (by decide +kernel)
theorem lX2_58 : Cond.methodLink RX2 58 (jmY MX2_computed) ∈ jTs := jmem 548 (by decide +kernel) (by decide +kernel)
theorem lX2_62 : Cond.methodLink RX2 62 (jmY MX2_negated) ∈ jTs := jmem 552 (by decide +kernel) (by decide +kernel)
theorem lX2_65 : Cond.methodLink RX2 65 (jmY MX2_joined) ∈ jTs := jmem 555 (by decide +kernel) (by decide +kernel)
theorem lX3_3 : Cond.methodLink RX3 3 Lib.objectInit ∈ jTs := jmem 351 (by decide +kernel) (by decide +kernel)
theorem fX3_9 : jFL RX3 9 3 2 := ⟨by decide, by decide, Or.inl (jmem 356 (by decide +kernel) (by decide +kernel))⟩
theorem gX3_9 : 3 < 10 ∧ 2 < jF_ 3 ∧ Cond.fieldLink RX3 9 (jT_ 3 2).1 (jT_ 3 2).2.1 (jT_ 3 2).2.2.1 ∈ jTs := ⟨by decide, by decide, jmem 356 (by decide +kernel) (by decide +kernel)⟩
theorem clX3_15 : Cond.classLink RX3 15 ("[" ++ (FieldType.array .int).toString) ∈ jTs := jmem 352 (by decide +kernel) (by decide +kernel)
theorem fX3_17 : jFL RX3 17 3 3 := ⟨by decide, by decide, Or.inl (jmem 358 (by decide +kernel) (by decide +kernel))⟩
theorem gX3_17 : 3 < 10 ∧ 3 < jF_ 3 ∧ Cond.fieldLink RX3 17 (jT_ 3 3).1 (jT_ 3 3).2.1 (jT_ 3 3).2.2.1 ∈ jTs := ⟨by decide, by decide, jmem 358 (by decide +kernel) (by decide +kernel)⟩
theorem fX3_20 : jFL RX3 20 6 0 := ⟨by decide, by decide, Or.inr ⟨"SignalWaves", jnem 298 (by decide +kernel)⟩⟩
theorem fX3_26 : jFL RX3 26 3 1 := ⟨by decide, by decide, Or.inl (jmem 355 (by decide +kernel) (by decide +kernel))⟩
theorem fX3_29 : jFL RX3 29 3 0 := ⟨by decide, by decide, Or.inl (jmem 353 (by decide +kernel) (by decide +kernel))⟩
theorem lX3_32 : Cond.methodLink RX3 32 (jmY MX3_addMoment) ∈ jTs := jmem 669 (by decide +kernel) (by decide +kernel)
theorem fX3_36 : jFL RX3 36 6 4 := ⟨by decide, by decide, Or.inr ⟨"SignalWaves", jnem 307 (by decide +kernel)⟩⟩
theorem fX3_37 : jFL RX3 37 6 5 := ⟨by decide, by decide, Or.inr ⟨"SignalWaves", jnem 310 (by decide +kernel)⟩⟩
theorem fX3_41 : jFL RX3 41 0 0 := ⟨by decide, by decide, Or.inr ⟨"SignalWaves", jnem 252 (by decide +kernel)⟩⟩
theorem fX3_46 : jFL RX3 46 0 3 := ⟨by decide, by decide, Or.inr ⟨"SignalWaves", jnem 263 (by decide +kernel)⟩⟩
theorem fX3_50 : jFL RX3 50 1 0 := ⟨by decide, by decide, Or.inr ⟨"SignalWaves", jnem 229 (by decide +kernel)⟩⟩
theorem fX3_53 : jFL RX3 53 1 1 := ⟨by decide, by decide, Or.inr ⟨"SignalWaves", jnem 233 (by decide +kernel)⟩⟩
theorem fX3_54 : jFL RX3 54 0 1 := ⟨by decide, by decide, Or.inr ⟨"SignalWaves", jnem 256 (by decide +kernel)⟩⟩
theorem lX3_57 : Cond.methodLink RX3 57 (jmY MX6_fillWires) ∈ jTs := jmem 674 (by decide +kernel) (by decide +kernel)
theorem lX3_61 : Cond.methodLink RX3 61 (jmY MX2_complete) ∈ jTs := jmem 675 (by decide +kernel) (by decide +kernel)
theorem lX3_67 : Cond.methodLink RX3 67 arraycopyName ∈ jTs := jmem 673 (by decide +kernel) (by decide +kernel)
theorem lX3_73 : Cond.methodLink RX3 73 (jmY MX3_isEdge) ∈ jTs := jmem 714 (by decide +kernel) (by decide +kernel)
theorem lX3_77 : Cond.methodLink RX3 77 (jmY MX3_hasEdgeAt) ∈ jTs := jmem 723 (by decide +kernel) (by decide +kernel)
theorem lX3_81 : Cond.methodLink RX3 81 (jmY MJ9_max_7cf53) ∈ jTs := jmem 820 (by decide +kernel) (by decide +kernel)
theorem lX4_3 : Cond.methodLink RX4 3 Lib.objectInit ∈ jTs := jmem 334 (by decide +kernel) (by decide +kernel)
theorem clX4_9 : Cond.classLink RX4 9 (jR_ 6) ∈ jTs := jmem 335 (by decide +kernel) (by decide +kernel)
theorem fX4_11 : jFL RX4 11 4 1 := ⟨by decide, by decide, Or.inl (jmem 340 (by decide +kernel) (by decide +kernel))⟩
theorem gX4_11 : 4 < 10 ∧ 1 < jF_ 4 ∧ Cond.fieldLink RX4 11 (jT_ 4 1).1 (jT_ 4 1).2.1 (jT_ 4 1).2.2.1 ∈ jTs := ⟨by decide, by decide, jmem 340 (by decide +kernel) (by decide +kernel)⟩
theorem lX4_17 : Cond.methodLink RX4 17 (jmY MX6_init) ∈ jTs := jmem 337 (by decide +kernel) (by decide +kernel)
theorem fX4_18 : jFL RX4 18 4 0 := ⟨by decide, by decide, Or.inl (jmem 338 (by decide +kernel) (by decide +kernel))⟩
theorem lX4_22 : Cond.methodLink RX4 22 (jmY MX6_copyFrom) ∈ jTs := jmem 587 (by decide +kernel) (by decide +kernel)
theorem lX5_3 : Cond.methodLink RX5 3 Lib.objectInit ∈ jTs := jmem 191 (by decide +kernel) (by decide +kernel)
theorem fX5_9 : jFL RX5 9 5 0 := ⟨by decide, by decide, Or.inl (jmem 192 (by decide +kernel) (by decide +kernel))⟩
theorem gX5_9 : 5 < 10 ∧ 0 < jF_ 5 ∧ Cond.fieldLink RX5 9 (jT_ 5 0).1 (jT_ 5 0).2.1 (jT_ 5 0).2.2.1 ∈ jTs := ⟨by decide, by decide, jmem 192 (by decide +kernel) (by decide +kernel)⟩
theorem fX5_15 : jFL RX5 15 5 1 := ⟨by decide, by decide, Or.inl (jmem 193 (by decide +kernel) (by decide +kernel))⟩
theorem lX5_19 : Cond.methodLink RX5 19 (jmY MX2_empty) ∈ jTs := jmem 439 (by decide +kernel) (by decide +kernel)
theorem fX5_24 : jFL RX5 24 5 2 := ⟨by decide, by decide, Or.inl (jmem 194 (by decide +kernel) (by decide +kernel))⟩
theorem lX5_28 : Cond.methodLink RX5 28 (jmY MX7_toFirst) ∈ jTs := jmem 443 (by decide +kernel) (by decide +kernel)
theorem fX5_33 : jFL RX5 33 7 4 := ⟨by decide, by decide, Or.inr ⟨"SignalWaves", jnem 109 (by decide +kernel)⟩⟩
theorem lX5_36 : Cond.methodLink RX5 36 (jmY MX5_readItem) ∈ jTs := jmem 451 (by decide +kernel) (by decide +kernel)
theorem fX5_40 : jFL RX5 40 5 3 := ⟨by decide, by decide, Or.inl (jmem 195 (by decide +kernel) (by decide +kernel))⟩
theorem fX5_43 : jFL RX5 43 5 4 := ⟨by decide, by decide, Or.inl (jmem 196 (by decide +kernel) (by decide +kernel))⟩
theorem lX5_46 : Cond.methodLink RX5 46 (jmY MX5_readOpening) ∈ jTs := jmem 455 (by decide +kernel) (by decide +kernel)
theorem lX5_49 : Cond.methodLink RX5 49 (jmY MX5_readClosing) ∈ jTs := jmem 476 (by decide +kernel) (by decide +kernel)
theorem lX5_52 : Cond.methodLink RX5 52 (jmY MX5_readSignal) ∈ jTs := jmem 480 (by decide +kernel) (by decide +kernel)
theorem lX5_55 : Cond.methodLink RX5 55 (jmY MX5_readSign) ∈ jTs := jmem 508 (by decide +kernel) (by decide +kernel)
theorem lX5_59 : Cond.methodLink RX5 59 (jmY MX7_toNext) ∈ jTs := jmem 463 (by decide +kernel) (by decide +kernel)
theorem lX5_62 : Cond.methodLink RX5 62 (jmY MX2_depth) ∈ jTs := jmem 459 (by decide +kernel) (by decide +kernel)
theorem lX5_66 : Cond.methodLink RX5 66 (jmY MX7_letter) ∈ jTs := jmem 464 (by decide +kernel) (by decide +kernel)
theorem lX5_70 : Cond.methodLink RX5 70 (jmY MX2_named) ∈ jTs := jmem 468 (by decide +kernel) (by decide +kernel)
theorem fX5_74 : jFL RX5 74 2 3 := ⟨by decide, by decide, Or.inr ⟨"SignalWaves", jnem 141 (by decide +kernel)⟩⟩
theorem lX5_77 : Cond.methodLink RX5 77 (jmY MX2_addScope) ∈ jTs := jmem 472 (by decide +kernel) (by decide +kernel)
theorem fX5_80 : jFL RX5 80 2 8 := ⟨by decide, by decide, Or.inr ⟨"SignalWaves", jnem 152 (by decide +kernel)⟩⟩
theorem fX5_84 : jFL RX5 84 2 0 := ⟨by decide, by decide, Or.inr ⟨"SignalWaves", jnem 133 (by decide +kernel)⟩⟩
theorem fX5_87 : jFL RX5 87 2 1 := ⟨by decide, by decide, Or.inr ⟨"SignalWaves", jnem 136 (by decide +kernel)⟩⟩
theorem lX5_90 : Cond.methodLink RX5 90 (jmY MX5_readWidth) ∈ jTs := jmem 484 (by decide +kernel) (by decide +kernel)
theorem lX5_93 : Cond.methodLink RX5 93 (jmY MX5_readPath) ∈ jTs := jmem 492 (by decide +kernel) (by decide +kernel)
theorem fX5_96 : jFL RX5 96 2 2 := ⟨by decide, by decide, Or.inr ⟨"SignalWaves", jnem 139 (by decide +kernel)⟩⟩
theorem lX5_99 : Cond.methodLink RX5 99 (jmY MX2_beginCode) ∈ jTs := jmem 496 (by decide +kernel) (by decide +kernel)
theorem lX5_102 : Cond.methodLink RX5 102 (jmY MX5_readExpression) ∈ jTs := jmem 500 (by decide +kernel) (by decide +kernel)
theorem lX5_105 : Cond.methodLink RX5 105 (jmY MX2_addSignal) ∈ jTs := jmem 519 (by decide +kernel) (by decide +kernel)
theorem lX5_109 : Cond.methodLink RX5 109 (jmY MX7_number) ∈ jTs := jmem 488 (by decide +kernel) (by decide +kernel)
theorem lX5_112 : Cond.methodLink RX5 112 (jmY MX5_readTerm) ∈ jTs := jmem 504 (by decide +kernel) (by decide +kernel)
theorem lX5_115 : Cond.methodLink RX5 115 (jmY MX5_isOperator) ∈ jTs := jmem 516 (by decide +kernel) (by decide +kernel)
theorem lX5_118 : Cond.methodLink RX5 118 (jmY MX2_addCode) ∈ jTs := jmem 512 (by decide +kernel) (by decide +kernel)
theorem lX6_3 : Cond.methodLink RX6 3 Lib.objectInit ∈ jTs := jmem 213 (by decide +kernel) (by decide +kernel)
theorem clX6_9 : Cond.classLink RX6 9 (jR_ 0) ∈ jTs := jmem 214 (by decide +kernel) (by decide +kernel)
theorem fX6_11 : jFL RX6 11 6 5 := ⟨by decide, by decide, Or.inl (jmem 309 (by decide +kernel) (by decide +kernel))⟩
theorem gX6_11 : 6 < 10 ∧ 5 < jF_ 6 ∧ Cond.fieldLink RX6 11 (jT_ 6 5).1 (jT_ 6 5).2.1 (jT_ 6 5).2.2.1 ∈ jTs := ⟨by decide, by decide, jmem 309 (by decide +kernel) (by decide +kernel)⟩
theorem fX6_17 : jFL RX6 17 6 6 := ⟨by decide, by decide, Or.inl (jmem 312 (by decide +kernel) (by decide +kernel))⟩
theorem gX6_17 : 6 < 10 ∧ 6 < jF_ 6 ∧ Cond.fieldLink RX6 17 (jT_ 6 6).1 (jT_ 6 6).2.1 (jT_ 6 6).2.2.1 ∈ jTs := ⟨by decide, by decide, jmem 312 (by decide +kernel) (by decide +kernel)⟩
theorem lX6_21 : Cond.methodLinkNest RX6 21 (jmY MX0_init) "SignalWaves" ∈ lw_tbl := jnem 217 (by decide +kernel)
theorem lX6_22 : Cond.methodLink RX6 22 (jmY MX6_restart) ∈ jTs := jmem 275 (by decide +kernel) (by decide +kernel)
theorem fX6_25 : jFL RX6 25 6 0 := ⟨by decide, by decide, Or.inl (jmem 297 (by decide +kernel) (by decide +kernel))⟩
theorem fX6_29 : jFL RX6 29 6 1 := ⟨by decide, by decide, Or.inl (jmem 300 (by decide +kernel) (by decide +kernel))⟩
theorem fX6_33 : jFL RX6 33 6 2 := ⟨by decide, by decide, Or.inl (jmem 302 (by decide +kernel) (by decide +kernel))⟩
theorem fX6_36 : jFL RX6 36 6 3 := ⟨by decide, by decide, Or.inl (jmem 304 (by decide +kernel) (by decide +kernel))⟩
theorem fX6_39 : jFL RX6 39 6 4 := ⟨by decide, by decide, Or.inl (jmem 306 (by decide +kernel) (by decide +kernel))⟩
theorem lX6_42 : Cond.methodLink RX6 42 (jmY MJ7_fill_53178) ∈ jTs := jmem 279 (by decide +kernel) (by decide +kernel)
theorem lX6_48 : Cond.methodLink RX6 48 (jmY MX6_beginBlock) ∈ jTs := jmem 282 (by decide +kernel) (by decide +kernel)
theorem lX6_51 : Cond.methodLink RX6 51 arraycopyName ∈ jTs := jmem 591 (by decide +kernel) (by decide +kernel)
theorem lX6_57 : Cond.methodLink RX6 57 (jmY MX0_copyFrom) ∈ jTs := jmem 592 (by decide +kernel) (by decide +kernel)
theorem fX6_61 : jFL RX6 61 0 3 := ⟨by decide, by decide, Or.inr ⟨"SignalWaves", jnem 264 (by decide +kernel)⟩⟩
theorem fX6_65 : jFL RX6 65 1 0 := ⟨by decide, by decide, Or.inr ⟨"SignalWaves", jnem 230 (by decide +kernel)⟩⟩
theorem lX6_68 : Cond.methodLink RX6 68 (jmY MX1_add) ∈ jTs := jmem 613 (by decide +kernel) (by decide +kernel)
theorem fX6_72 : jFL RX6 72 0 1 := ⟨by decide, by decide, Or.inr ⟨"SignalWaves", jnem 257 (by decide +kernel)⟩⟩
theorem lX6_75 : Cond.methodLink RX6 75 (jmY MX6_loseOldest) ∈ jTs := jmem 286 (by decide +kernel) (by decide +kernel)
theorem lX6_78 : Cond.methodLink RX6 78 (jmY MX0_restart) ∈ jTs := jmem 290 (by decide +kernel) (by decide +kernel)
theorem fX6_81 : jFL RX6 81 0 0 := ⟨by decide, by decide, Or.inr ⟨"SignalWaves", jnem 253 (by decide +kernel)⟩⟩
theorem lX6_84 : Cond.methodLink RX6 84 (jmY MX6_blockAt) ∈ jTs := jmem 654 (by decide +kernel) (by decide +kernel)
theorem fX6_88 : jFL RX6 88 0 2 := ⟨by decide, by decide, Or.inr ⟨"SignalWaves", jnem 260 (by decide +kernel)⟩⟩
theorem fX6_91 : jFL RX6 91 1 1 := ⟨by decide, by decide, Or.inr ⟨"SignalWaves", jnem 234 (by decide +kernel)⟩⟩
theorem fX6_94 : jFL RX6 94 1 2 := ⟨by decide, by decide, Or.inr ⟨"SignalWaves", jnem 237 (by decide +kernel)⟩⟩
theorem fX6_97 : jFL RX6 97 1 3 := ⟨by decide, by decide, Or.inr ⟨"SignalWaves", jnem 240 (by decide +kernel)⟩⟩
theorem lX7_3 : Cond.methodLink RX7 3 Lib.objectInit ∈ jTs := jmem 102 (by decide +kernel) (by decide +kernel)
theorem fX7_9 : jFL RX7 9 7 0 := ⟨by decide, by decide, Or.inl (jmem 103 (by decide +kernel) (by decide +kernel))⟩
theorem gX7_9 : 7 < 10 ∧ 0 < jF_ 7 ∧ Cond.fieldLink RX7 9 (jT_ 7 0).1 (jT_ 7 0).2.1 (jT_ 7 0).2.2.1 ∈ jTs := ⟨by decide, by decide, jmem 103 (by decide +kernel) (by decide +kernel)⟩
theorem fX7_15 : jFL RX7 15 7 1 := ⟨by decide, by decide, Or.inl (jmem 104 (by decide +kernel) (by decide +kernel))⟩
theorem fX7_19 : jFL RX7 19 7 3 := ⟨by decide, by decide, Or.inl (jmem 108 (by decide +kernel) (by decide +kernel))⟩
theorem lX7_22 : Cond.methodLink RX7 22 (jmY MX7_toNext) ∈ jTs := jmem 447 (by decide +kernel) (by decide +kernel)
theorem fX7_25 : jFL RX7 25 7 2 := ⟨by decide, by decide, Or.inl (jmem 107 (by decide +kernel) (by decide +kernel))⟩
theorem fX7_28 : jFL RX7 28 7 4 := ⟨by decide, by decide, Or.inl (jmem 111 (by decide +kernel) (by decide +kernel))⟩
theorem lX8_3 : Cond.methodLink RX8 3 Lib.objectInit ∈ jTs := jmem 94 (by decide +kernel) (by decide +kernel)
theorem clX8_9 : Cond.classLink RX8 9 (jR_ 7) ∈ jTs := jmem 97 (by decide +kernel) (by decide +kernel)
theorem lX8_11 : Cond.methodLinkNest RX8 11 (jmY MX7_init) "SignalWaves" ∈ lw_tbl := jnem 99 (by decide +kernel)
theorem fX8_12 : jFL RX8 12 8 0 := ⟨by decide, by decide, Or.inl (jmem 372 (by decide +kernel) (by decide +kernel))⟩
theorem gX8_12 : 8 < 10 ∧ 0 < jF_ 8 ∧ Cond.fieldLink RX8 12 (jT_ 8 0).1 (jT_ 8 0).2.1 (jT_ 8 0).2.2.1 ∈ jTs := ⟨by decide, by decide, jmem 372 (by decide +kernel) (by decide +kernel)⟩
theorem clX8_16 : Cond.classLink RX8 16 (jR_ 2) ∈ jTs := jmem 124 (by decide +kernel) (by decide +kernel)
theorem lX8_18 : Cond.methodLinkNest RX8 18 (jmY MX2_init) "SignalWaves" ∈ lw_tbl := jnem 126 (by decide +kernel)
theorem fX8_19 : jFL RX8 19 8 1 := ⟨by decide, by decide, Or.inl (jmem 373 (by decide +kernel) (by decide +kernel))⟩
theorem fX8_23 : jFL RX8 23 8 2 := ⟨by decide, by decide, Or.inl (jmem 374 (by decide +kernel) (by decide +kernel))⟩
theorem clX8_26 : Cond.classLink RX8 26 (jR_ 5) ∈ jTs := jmem 186 (by decide +kernel) (by decide +kernel)
theorem lX8_28 : Cond.methodLink RX8 28 (jmY MX5_init) ∈ jTs := jmem 188 (by decide +kernel) (by decide +kernel)
theorem fX8_31 : jFL RX8 31 8 3 := ⟨by decide, by decide, Or.inl (jmem 375 (by decide +kernel) (by decide +kernel))⟩
theorem gX8_31 : 8 < 10 ∧ 3 < jF_ 8 ∧ Cond.fieldLink RX8 31 (jT_ 8 3).1 (jT_ 8 3).2.1 (jT_ 8 3).2.2.1 ∈ jTs := ⟨by decide, by decide, jmem 375 (by decide +kernel) (by decide +kernel)⟩
theorem clX8_35 : Cond.classLink RX8 35 (jR_ 6) ∈ jTs := jmem 208 (by decide +kernel) (by decide +kernel)
theorem lX8_37 : Cond.methodLink RX8 37 (jmY MX6_init) ∈ jTs := jmem 210 (by decide +kernel) (by decide +kernel)
theorem fX8_38 : jFL RX8 38 8 4 := ⟨by decide, by decide, Or.inl (jmem 376 (by decide +kernel) (by decide +kernel))⟩
theorem gX8_38 : 8 < 10 ∧ 4 < jF_ 8 ∧ Cond.fieldLink RX8 38 (jT_ 8 4).1 (jT_ 8 4).2.1 (jT_ 8 4).2.2.1 ∈ jTs := ⟨by decide, by decide, jmem 376 (by decide +kernel) (by decide +kernel)⟩
theorem clX8_42 : Cond.classLink RX8 42 (jR_ 4) ∈ jTs := jmem 329 (by decide +kernel) (by decide +kernel)
theorem lX8_44 : Cond.methodLink RX8 44 (jmY MX4_init) ∈ jTs := jmem 331 (by decide +kernel) (by decide +kernel)
theorem fX8_45 : jFL RX8 45 8 5 := ⟨by decide, by decide, Or.inl (jmem 377 (by decide +kernel) (by decide +kernel))⟩
theorem gX8_45 : 8 < 10 ∧ 5 < jF_ 8 ∧ Cond.fieldLink RX8 45 (jT_ 8 5).1 (jT_ 8 5).2.1 (jT_ 8 5).2.2.1 ∈ jTs := ⟨by decide, by decide, jmem 377 (by decide +kernel) (by decide +kernel)⟩
theorem fX8_49 : jFL RX8 49 8 6 := ⟨by decide, by decide, Or.inl (jmem 378 (by decide +kernel) (by decide +kernel))⟩
theorem gX8_49 : 8 < 10 ∧ 6 < jF_ 8 ∧ Cond.fieldLink RX8 49 (jT_ 8 6).1 (jT_ 8 6).2.1 (jT_ 8 6).2.2.1 ∈ jTs := ⟨by decide, by decide, jmem 378 (by decide +kernel) (by decide +kernel)⟩
theorem fX8_53 : jFL RX8 53 8 7 := ⟨by decide, by decide, Or.inl (jmem 379 (by decide +kernel) (by decide +kernel))⟩
theorem gX8_53 : 8 < 10 ∧ 7 < jF_ 8 ∧ Cond.fieldLink RX8 53 (jT_ 8 7).1 (jT_ 8 7).2.1 (jT_ 8 7).2.2.1 ∈ jTs := ⟨by decide, by decide, jmem 379 (by decide +kernel) (by decide +kernel)⟩
theorem fX8_57 : jFL RX8 57 8 8 := ⟨by decide, by decide, Or.inl (jmem 380 (by decide +kernel) (by decide +kernel))⟩
theorem gX8_57 : 8 < 10 ∧ 8 < jF_ 8 ∧ Cond.fieldLink RX8 57 (jT_ 8 8).1 (jT_ 8 8).2.1 (jT_ 8 8).2.2.1 ∈ jTs := ⟨by decide, by decide, jmem 380 (by decide +kernel) (by decide +kernel)⟩
theorem fX8_61 : jFL RX8 61 8 9 := ⟨by decide, by decide, Or.inl (jmem 381 (by decide +kernel) (by decide +kernel))⟩
theorem gX8_61 : 8 < 10 ∧ 9 < jF_ 8 ∧ Cond.fieldLink RX8 61 (jT_ 8 9).1 (jT_ 8 9).2.1 (jT_ 8 9).2.2.1 ∈ jTs := ⟨by decide, by decide, jmem 381 (by decide +kernel) (by decide +kernel)⟩
theorem clX8_64 : Cond.classLink RX8 64 (jR_ 3) ∈ jTs := jmem 346 (by decide +kernel) (by decide +kernel)
theorem lX8_66 : Cond.methodLinkNest RX8 66 (jmY MX3_init) "SignalWaves" ∈ lw_tbl := jnem 348 (by decide +kernel)
theorem fX8_67 : jFL RX8 67 8 11 := ⟨by decide, by decide, Or.inl (jmem 383 (by decide +kernel) (by decide +kernel))⟩
theorem gX8_67 : 8 < 10 ∧ 11 < jF_ 8 ∧ Cond.fieldLink RX8 67 (jT_ 8 11).1 (jT_ 8 11).2.1 (jT_ 8 11).2.2.1 ∈ jTs := ⟨by decide, by decide, jmem 383 (by decide +kernel) (by decide +kernel)⟩
theorem clX8_71 : Cond.classLink RX8 71 (jR_ 1) ∈ jTs := jmem 370 (by decide +kernel) (by decide +kernel)
theorem lX8_73 : Cond.methodLink RX8 73 (jmY MX1_init) ∈ jTs := jmem 371 (by decide +kernel) (by decide +kernel)
theorem fX8_76 : jFL RX8 76 8 12 := ⟨by decide, by decide, Or.inl (jmem 384 (by decide +kernel) (by decide +kernel))⟩
theorem gX8_76 : 8 < 10 ∧ 12 < jF_ 8 ∧ Cond.fieldLink RX8 76 (jT_ 8 12).1 (jT_ 8 12).2.1 (jT_ 8 12).2.2.1 ∈ jTs := ⟨by decide, by decide, jmem 384 (by decide +kernel) (by decide +kernel)⟩
theorem fX8_80 : jFL RX8 80 8 13 := ⟨by decide, by decide, Or.inl (jmem 385 (by decide +kernel) (by decide +kernel))⟩
theorem gX8_80 : 8 < 10 ∧ 13 < jF_ 8 ∧ Cond.fieldLink RX8 80 (jT_ 8 13).1 (jT_ 8 13).2.1 (jT_ 8 13).2.2.1 ∈ jTs := ⟨by decide, by decide, jmem 385 (by decide +kernel) (by decide +kernel)⟩
theorem fX8_83 : jFL RX8 83 7 1 := ⟨by decide, by decide, Or.inr ⟨"SignalWaves", jnem 105 (by decide +kernel)⟩⟩
theorem lX8_87 : Cond.methodLink RX8 87 (jmY MX7_add) ∈ jTs := jmem 419 (by decide +kernel) (by decide +kernel)
theorem lX8_90 : Cond.methodLink RX8 90 (jmY MX7_empty) ∈ jTs := jmem 427 (by decide +kernel) (by decide +kernel)
theorem lX8_93 : Cond.methodLink RX8 93 (jmY MX5_read) ∈ jTs := jmem 435 (by decide +kernel) (by decide +kernel)
theorem fX8_97 : jFL RX8 97 7 2 := ⟨by decide, by decide, Or.inr ⟨"SignalWaves", jnem 106 (by decide +kernel)⟩⟩
theorem lX8_100 : Cond.methodLink RX8 100 (jmY MX6_restart) ∈ jTs := jmem 523 (by decide +kernel) (by decide +kernel)
theorem fX8_103 : jFL RX8 103 4 0 := ⟨by decide, by decide, Or.inr ⟨"SignalWaves", jnem 339 (by decide +kernel)⟩⟩
theorem fX8_106 : jFL RX8 106 8 10 := ⟨by decide, by decide, Or.inl (jmem 382 (by decide +kernel) (by decide +kernel))⟩
theorem lX8_109 : Cond.methodLink RX8 109 (jmY MX7_toFirst) ∈ jTs := jmem 528 (by decide +kernel) (by decide +kernel)
theorem lX8_112 : Cond.methodLink RX8 112 (jmY MX7_letter) ∈ jTs := jmem 529 (by decide +kernel) (by decide +kernel)
theorem lX8_116 : Cond.methodLink RX8 116 (jmY MX2_named) ∈ jTs := jmem 530 (by decide +kernel) (by decide +kernel)
theorem lX8_120 : Cond.methodLink RX8 120 (jmY MX7_toNext) ∈ jTs := jmem 531 (by decide +kernel) (by decide +kernel)
theorem fX8_123 : jFL RX8 123 7 4 := ⟨by decide, by decide, Or.inr ⟨"SignalWaves", jnem 110 (by decide +kernel)⟩⟩
theorem lX8_126 : Cond.methodLink RX8 126 (jmY MX8_isSignal) ∈ jTs := jmem 536 (by decide +kernel) (by decide +kernel)
theorem fX8_130 : jFL RX8 130 2 4 := ⟨by decide, by decide, Or.inr ⟨"SignalWaves", jnem 144 (by decide +kernel)⟩⟩
theorem fX8_133 : jFL RX8 133 2 5 := ⟨by decide, by decide, Or.inr ⟨"SignalWaves", jnem 146 (by decide +kernel)⟩⟩
theorem fX8_136 : jFL RX8 136 2 6 := ⟨by decide, by decide, Or.inr ⟨"SignalWaves", jnem 148 (by decide +kernel)⟩⟩
theorem lX8_139 : Cond.methodLink RX8 139 (jmY MX8_orNone) ∈ jTs := jmem 540 (by decide +kernel) (by decide +kernel)
theorem fX8_143 : jFL RX8 143 2 7 := ⟨by decide, by decide, Or.inr ⟨"SignalWaves", jnem 150 (by decide +kernel)⟩⟩
theorem fX8_146 : jFL RX8 146 6 6 := ⟨by decide, by decide, Or.inr ⟨"SignalWaves", jnem 313 (by decide +kernel)⟩⟩
theorem lX8_149 : Cond.methodLink RX8 149 arraycopyName ∈ jTs := jmem 543 (by decide +kernel) (by decide +kernel)
theorem lX8_155 : Cond.methodLink RX8 155 (jmY MX2_complete) ∈ jTs := jmem 544 (by decide +kernel) (by decide +kernel)
theorem fX8_159 : jFL RX8 159 2 3 := ⟨by decide, by decide, Or.inr ⟨"SignalWaves", jnem 142 (by decide +kernel)⟩⟩
theorem fX8_162 : jFL RX8 162 2 8 := ⟨by decide, by decide, Or.inr ⟨"SignalWaves", jnem 153 (by decide +kernel)⟩⟩
theorem fX8_165 : jFL RX8 165 2 9 := ⟨by decide, by decide, Or.inr ⟨"SignalWaves", jnem 155 (by decide +kernel)⟩⟩
theorem lX8_168 : Cond.methodLink RX8 168 (jmY MX2_pathName) ∈ jTs := jmem 570 (by decide +kernel) (by decide +kernel)
theorem lX8_171 : Cond.methodLink RX8 171 (jmY MX8_isWire) ∈ jTs := jmem 579 (by decide +kernel) (by decide +kernel)
theorem lX8_174 : Cond.methodLink RX8 174 (jmY MX4_remember) ∈ jTs := jmem 583 (by decide +kernel) (by decide +kernel)
theorem lX8_178 : Cond.methodLink RX8 178 (jmY MX6_give) ∈ jTs := jmem 609 (by decide +kernel) (by decide +kernel)
theorem fX8_182 : jFL RX8 182 6 1 := ⟨by decide, by decide, Or.inr ⟨"SignalWaves", jnem 301 (by decide +kernel)⟩⟩
theorem fX8_186 : jFL RX8 186 6 0 := ⟨by decide, by decide, Or.inr ⟨"SignalWaves", jnem 299 (by decide +kernel)⟩⟩
theorem lX8_189 : Cond.methodLink RX8 189 (jmY MX6_turn) ∈ jTs := jmem 622 (by decide +kernel) (by decide +kernel)
theorem fX8_193 : jFL RX8 193 6 4 := ⟨by decide, by decide, Or.inr ⟨"SignalWaves", jnem 308 (by decide +kernel)⟩⟩
theorem fX8_194 : jFL RX8 194 6 2 := ⟨by decide, by decide, Or.inr ⟨"SignalWaves", jnem 303 (by decide +kernel)⟩⟩
theorem lX8_197 : Cond.methodLink RX8 197 (jmY MX4_bringBack) ∈ jTs := jmem 634 (by decide +kernel) (by decide +kernel)
theorem lX8_200 : Cond.methodLink RX8 200 (jmY MX8_isPast) ∈ jTs := jmem 642 (by decide +kernel) (by decide +kernel)
theorem lX8_203 : Cond.methodLink RX8 203 (jmY MX8_fillRow) ∈ jTs := jmem 646 (by decide +kernel) (by decide +kernel)
theorem lX8_206 : Cond.methodLink RX8 206 (jmY MX8_isKind) ∈ jTs := jmem 662 (by decide +kernel) (by decide +kernel)
theorem lX8_209 : Cond.methodLink RX8 209 (jmY MX3_read) ∈ jTs := jmem 665 (by decide +kernel) (by decide +kernel)
theorem fX8_212 : jFL RX8 212 3 0 := ⟨by decide, by decide, Or.inr ⟨"SignalWaves", jnem 354 (by decide +kernel)⟩⟩
theorem fX8_213 : jFL RX8 213 3 2 := ⟨by decide, by decide, Or.inr ⟨"SignalWaves", jnem 357 (by decide +kernel)⟩⟩
theorem lX8_216 : Cond.methodLink RX8 216 (jmY MX3_isEdge) ∈ jTs := jmem 676 (by decide +kernel) (by decide +kernel)
theorem lX8_220 : Cond.methodLink RX8 220 (jmY MX8_isRecordable) ∈ jTs := jmem 692 (by decide +kernel) (by decide +kernel)
theorem lX8_223 : Cond.methodLink RX8 223 (jmY MX3_after) ∈ jTs := jmem 695 (by decide +kernel) (by decide +kernel)
theorem fX8_226 : jFL RX8 226 3 3 := ⟨by decide, by decide, Or.inr ⟨"SignalWaves", jnem 359 (by decide +kernel)⟩⟩
theorem lX8_229 : Cond.methodLink RX8 229 (jmY MJ9_max_7cf53) ∈ jTs := jmem 699 (by decide +kernel) (by decide +kernel)
theorem fX8_234 : jFL RX8 234 2 0 := ⟨by decide, by decide, Or.inr ⟨"SignalWaves", jnem 134 (by decide +kernel)⟩⟩
theorem lX8_237 : Cond.methodLink RX8 237 (jmY MX3_hasEdgeOf) ∈ jTs := jmem 710 (by decide +kernel) (by decide +kernel)
theorem lX8_241 : Cond.methodLink RX8 241 (jmY MX3_follows) ∈ jTs := jmem 719 (by decide +kernel) (by decide +kernel)
theorem lX8_244 : Cond.methodLink RX8 244 (jmY MX6_blockAt) ∈ jTs := jmem 731 (by decide +kernel) (by decide +kernel)
theorem lX8_247 : Cond.methodLink RX8 247 (jmY MX8_isBlock) ∈ jTs := jmem 736 (by decide +kernel) (by decide +kernel)
theorem fX8_250 : jFL RX8 250 6 5 := ⟨by decide, by decide, Or.inr ⟨"SignalWaves", jnem 311 (by decide +kernel)⟩⟩
theorem fX8_254 : jFL RX8 254 0 0 := ⟨by decide, by decide, Or.inr ⟨"SignalWaves", jnem 254 (by decide +kernel)⟩⟩
theorem fX8_259 : jFL RX8 259 0 1 := ⟨by decide, by decide, Or.inr ⟨"SignalWaves", jnem 258 (by decide +kernel)⟩⟩
theorem fX8_262 : jFL RX8 262 0 3 := ⟨by decide, by decide, Or.inr ⟨"SignalWaves", jnem 265 (by decide +kernel)⟩⟩
theorem fX8_265 : jFL RX8 265 1 0 := ⟨by decide, by decide, Or.inr ⟨"SignalWaves", jnem 231 (by decide +kernel)⟩⟩
theorem lX8_266 : Cond.methodLink RX8 266 (jmY MX1_different) ∈ jTs := jmem 740 (by decide +kernel) (by decide +kernel)
theorem lX8_269 : Cond.methodLink RX8 269 (jmY MX8_roomOf) ∈ jTs := jmem 748 (by decide +kernel) (by decide +kernel)
theorem fX8_273 : jFL RX8 273 0 2 := ⟨by decide, by decide, Or.inr ⟨"SignalWaves", jnem 261 (by decide +kernel)⟩⟩
theorem fX8_276 : jFL RX8 276 1 1 := ⟨by decide, by decide, Or.inr ⟨"SignalWaves", jnem 235 (by decide +kernel)⟩⟩
theorem fX8_277 : jFL RX8 277 1 2 := ⟨by decide, by decide, Or.inr ⟨"SignalWaves", jnem 238 (by decide +kernel)⟩⟩
theorem fX8_280 : jFL RX8 280 1 3 := ⟨by decide, by decide, Or.inr ⟨"SignalWaves", jnem 241 (by decide +kernel)⟩⟩
theorem lX8_281 : Cond.methodLink RX8 281 (jmY MX1_indexOf) ∈ jTs := jmem 769 (by decide +kernel) (by decide +kernel)
theorem lX8_284 : Cond.methodLink RX8 284 (jmY MX8_roomDivided) ∈ jTs := jmem 774 (by decide +kernel) (by decide +kernel)
theorem lX8_287 : Cond.methodLink RX8 287 (jmY MX8_agreeing) ∈ jTs := jmem 802 (by decide +kernel) (by decide +kernel)
theorem lX8_290 : Cond.methodLink RX8 290 (jmY MJ6_bitCount_0f7a4) ∈ jTs := jmem 810 (by decide +kernel) (by decide +kernel)
theorem lX8_295 : Cond.methodLink RX8 295 (jmY MX3_greatestGroup) ∈ jTs := jmem 816 (by decide +kernel) (by decide +kernel)
theorem lX8_298 : Cond.methodLink RX8 298 (jmY MX6_copyFrom) ∈ jTs := jmem 825 (by decide +kernel) (by decide +kernel)
theorem fX8_301 : jFL RX8 301 2 1 := ⟨by decide, by decide, Or.inr ⟨"SignalWaves", jnem 137 (by decide +kernel)⟩⟩
theorem fX8_303 : jFL RX8 303 6 3 := ⟨by decide, by decide, Or.inr ⟨"SignalWaves", jnem 305 (by decide +kernel)⟩⟩
theorem lX8_306 : Cond.methodLink RX8 306 (jmY MX8_changesInAll) ∈ jTs := jmem 834 (by decide +kernel) (by decide +kernel)
theorem lX8_309 : Cond.methodLink RX8 309 (jmY MX8_roomOfAll) ∈ jTs := jmem 838 (by decide +kernel) (by decide +kernel)
theorem lX8_312 : Cond.methodLink RX8 312 (jmY MX6_fillWires) ∈ jTs := jmem 650 (by decide +kernel) (by decide +kernel)
theorem lX8_316 : Cond.methodLink RX8 316 (jmY MX1_room) ∈ jTs := jmem 752 (by decide +kernel) (by decide +kernel)
theorem lX8_320 : Cond.methodLink RX8 320 (jmY MX1_addAll) ∈ jTs := jmem 778 (by decide +kernel) (by decide +kernel)
theorem lX8_324 : Cond.methodLink RX8 324 (jmY MX8_roomOfGroup) ∈ jTs := jmem 779 (by decide +kernel) (by decide +kernel)
theorem lX8_327 : Cond.methodLink RX8 327 (jmY MJ9_min_7cf53) ∈ jTs := jmem 783 (by decide +kernel) (by decide +kernel)
theorem lX9_1 : Cond.methodLink RX9 1 Lib.objectInit ∈ jTs := jmem 847 (by decide +kernel) (by decide +kernel)
theorem fX9_7 : jFL RX9 7 9 0 := ⟨by decide, by decide, Or.inl (jmem 859 (by decide +kernel) (by decide +kernel))⟩
theorem gX9_7 : 9 < 10 ∧ 0 < jF_ 9 ∧ Cond.fieldLink RX9 7 (jT_ 9 0).1 (jT_ 9 0).2.1 (jT_ 9 0).2.2.1 ∈ jTs := ⟨by decide, by decide, jmem 859 (by decide +kernel) (by decide +kernel)⟩
theorem fX9_13 : jFL RX9 13 9 4 := ⟨by decide, by decide, Or.inl (jmem 863 (by decide +kernel) (by decide +kernel))⟩
theorem gX9_13 : 9 < 10 ∧ 4 < jF_ 9 ∧ Cond.fieldLink RX9 13 (jT_ 9 4).1 (jT_ 9 4).2.1 (jT_ 9 4).2.2.1 ∈ jTs := ⟨by decide, by decide, jmem 863 (by decide +kernel) (by decide +kernel)⟩
theorem fX9_16 : jFL RX9 16 9 5 := ⟨by decide, by decide, Or.inl (jmem 864 (by decide +kernel) (by decide +kernel))⟩
theorem gX9_16 : 9 < 10 ∧ 5 < jF_ 9 ∧ Cond.fieldLink RX9 16 (jT_ 9 5).1 (jT_ 9 5).2.1 (jT_ 9 5).2.2.1 ∈ jTs := ⟨by decide, by decide, jmem 864 (by decide +kernel) (by decide +kernel)⟩
theorem fX9_19 : jFL RX9 19 9 7 := ⟨by decide, by decide, Or.inl (jmem 866 (by decide +kernel) (by decide +kernel))⟩
theorem gX9_19 : 9 < 10 ∧ 7 < jF_ 9 ∧ Cond.fieldLink RX9 19 (jT_ 9 7).1 (jT_ 9 7).2.1 (jT_ 9 7).2.2.1 ∈ jTs := ⟨by decide, by decide, jmem 866 (by decide +kernel) (by decide +kernel)⟩
theorem fX9_22 : jFL RX9 22 9 8 := ⟨by decide, by decide, Or.inl (jmem 867 (by decide +kernel) (by decide +kernel))⟩
theorem gX9_22 : 9 < 10 ∧ 8 < jF_ 9 ∧ Cond.fieldLink RX9 22 (jT_ 9 8).1 (jT_ 9 8).2.1 (jT_ 9 8).2.2.1 ∈ jTs := ⟨by decide, by decide, jmem 867 (by decide +kernel) (by decide +kernel)⟩
theorem fX9_25 : jFL RX9 25 9 9 := ⟨by decide, by decide, Or.inl (jmem 868 (by decide +kernel) (by decide +kernel))⟩
theorem gX9_25 : 9 < 10 ∧ 9 < jF_ 9 ∧ Cond.fieldLink RX9 25 (jT_ 9 9).1 (jT_ 9 9).2.1 (jT_ 9 9).2.2.1 ∈ jTs := ⟨by decide, by decide, jmem 868 (by decide +kernel) (by decide +kernel)⟩
theorem fX9_28 : jFL RX9 28 9 10 := ⟨by decide, by decide, Or.inl (jmem 869 (by decide +kernel) (by decide +kernel))⟩
theorem gX9_28 : 9 < 10 ∧ 10 < jF_ 9 ∧ Cond.fieldLink RX9 28 (jT_ 9 10).1 (jT_ 9 10).2.1 (jT_ 9 10).2.2.1 ∈ jTs := ⟨by decide, by decide, jmem 869 (by decide +kernel) (by decide +kernel)⟩
theorem fX9_31 : jFL RX9 31 9 12 := ⟨by decide, by decide, Or.inl (jmem 871 (by decide +kernel) (by decide +kernel))⟩
theorem gX9_31 : 9 < 10 ∧ 12 < jF_ 9 ∧ Cond.fieldLink RX9 31 (jT_ 9 12).1 (jT_ 9 12).2.1 (jT_ 9 12).2.2.1 ∈ jTs := ⟨by decide, by decide, jmem 871 (by decide +kernel) (by decide +kernel)⟩
theorem fX9_34 : jFL RX9 34 9 13 := ⟨by decide, by decide, Or.inl (jmem 872 (by decide +kernel) (by decide +kernel))⟩
theorem gX9_34 : 9 < 10 ∧ 13 < jF_ 9 ∧ Cond.fieldLink RX9 34 (jT_ 9 13).1 (jT_ 9 13).2.1 (jT_ 9 13).2.2.1 ∈ jTs := ⟨by decide, by decide, jmem 872 (by decide +kernel) (by decide +kernel)⟩
theorem fX9_38 : jFL RX9 38 9 14 := ⟨by decide, by decide, Or.inl (jmem 873 (by decide +kernel) (by decide +kernel))⟩
theorem gX9_38 : 9 < 10 ∧ 14 < jF_ 9 ∧ Cond.fieldLink RX9 38 (jT_ 9 14).1 (jT_ 9 14).2.1 (jT_ 9 14).2.2.1 ∈ jTs := ⟨by decide, by decide, jmem 873 (by decide +kernel) (by decide +kernel)⟩
theorem fX9_41 : jFL RX9 41 9 21 := ⟨by decide, by decide, Or.inl (jmem 880 (by decide +kernel) (by decide +kernel))⟩
theorem gX9_41 : 9 < 10 ∧ 21 < jF_ 9 ∧ Cond.fieldLink RX9 41 (jT_ 9 21).1 (jT_ 9 21).2.1 (jT_ 9 21).2.2.1 ∈ jTs := ⟨by decide, by decide, jmem 880 (by decide +kernel) (by decide +kernel)⟩
theorem fX9_44 : jFL RX9 44 9 25 := ⟨by decide, by decide, Or.inl (jmem 884 (by decide +kernel) (by decide +kernel))⟩
theorem gX9_44 : 9 < 10 ∧ 25 < jF_ 9 ∧ Cond.fieldLink RX9 44 (jT_ 9 25).1 (jT_ 9 25).2.1 (jT_ 9 25).2.2.1 ∈ jTs := ⟨by decide, by decide, jmem 884 (by decide +kernel) (by decide +kernel)⟩
theorem fX9_47 : jFL RX9 47 9 26 := ⟨by decide, by decide, Or.inl (jmem 885 (by decide +kernel) (by decide +kernel))⟩
theorem gX9_47 : 9 < 10 ∧ 26 < jF_ 9 ∧ Cond.fieldLink RX9 47 (jT_ 9 26).1 (jT_ 9 26).2.1 (jT_ 9 26).2.2.1 ∈ jTs := ⟨by decide, by decide, jmem 885 (by decide +kernel) (by decide +kernel)⟩
theorem fX9_50 : jFL RX9 50 9 28 := ⟨by decide, by decide, Or.inl (jmem 887 (by decide +kernel) (by decide +kernel))⟩
theorem gX9_50 : 9 < 10 ∧ 28 < jF_ 9 ∧ Cond.fieldLink RX9 50 (jT_ 9 28).1 (jT_ 9 28).2.1 (jT_ 9 28).2.2.1 ∈ jTs := ⟨by decide, by decide, jmem 887 (by decide +kernel) (by decide +kernel)⟩
theorem fX9_53 : jFL RX9 53 9 29 := ⟨by decide, by decide, Or.inl (jmem 888 (by decide +kernel) (by decide +kernel))⟩
theorem gX9_53 : 9 < 10 ∧ 29 < jF_ 9 ∧ Cond.fieldLink RX9 53 (jT_ 9 29).1 (jT_ 9 29).2.1 (jT_ 9 29).2.2.1 ∈ jTs := ⟨by decide, by decide, jmem 888 (by decide +kernel) (by decide +kernel)⟩
theorem fX9_56 : jFL RX9 56 9 32 := ⟨by decide, by decide, Or.inl (jmem 891 (by decide +kernel) (by decide +kernel))⟩
theorem gX9_56 : 9 < 10 ∧ 32 < jF_ 9 ∧ Cond.fieldLink RX9 56 (jT_ 9 32).1 (jT_ 9 32).2.1 (jT_ 9 32).2.2.1 ∈ jTs := ⟨by decide, by decide, jmem 891 (by decide +kernel) (by decide +kernel)⟩
theorem fX9_59 : jFL RX9 59 9 36 := ⟨by decide, by decide, Or.inl (jmem 895 (by decide +kernel) (by decide +kernel))⟩
theorem gX9_59 : 9 < 10 ∧ 36 < jF_ 9 ∧ Cond.fieldLink RX9 59 (jT_ 9 36).1 (jT_ 9 36).2.1 (jT_ 9 36).2.2.1 ∈ jTs := ⟨by decide, by decide, jmem 895 (by decide +kernel) (by decide +kernel)⟩
theorem fX9_62 : jFL RX9 62 9 37 := ⟨by decide, by decide, Or.inl (jmem 896 (by decide +kernel) (by decide +kernel))⟩
theorem gX9_62 : 9 < 10 ∧ 37 < jF_ 9 ∧ Cond.fieldLink RX9 62 (jT_ 9 37).1 (jT_ 9 37).2.1 (jT_ 9 37).2.2.1 ∈ jTs := ⟨by decide, by decide, jmem 896 (by decide +kernel) (by decide +kernel)⟩
theorem fX9_65 : jFL RX9 65 9 38 := ⟨by decide, by decide, Or.inl (jmem 897 (by decide +kernel) (by decide +kernel))⟩
theorem gX9_65 : 9 < 10 ∧ 38 < jF_ 9 ∧ Cond.fieldLink RX9 65 (jT_ 9 38).1 (jT_ 9 38).2.1 (jT_ 9 38).2.2.1 ∈ jTs := ⟨by decide, by decide, jmem 897 (by decide +kernel) (by decide +kernel)⟩
theorem fX9_68 : jFL RX9 68 9 39 := ⟨by decide, by decide, Or.inl (jmem 898 (by decide +kernel) (by decide +kernel))⟩
theorem gX9_68 : 9 < 10 ∧ 39 < jF_ 9 ∧ Cond.fieldLink RX9 68 (jT_ 9 39).1 (jT_ 9 39).2.1 (jT_ 9 39).2.2.1 ∈ jTs := ⟨by decide, by decide, jmem 898 (by decide +kernel) (by decide +kernel)⟩
theorem fX9_71 : jFL RX9 71 9 40 := ⟨by decide, by decide, Or.inl (jmem 899 (by decide +kernel) (by decide +kernel))⟩
theorem gX9_71 : 9 < 10 ∧ 40 < jF_ 9 ∧ Cond.fieldLink RX9 71 (jT_ 9 40).1 (jT_ 9 40).2.1 (jT_ 9 40).2.2.1 ∈ jTs := ⟨by decide, by decide, jmem 899 (by decide +kernel) (by decide +kernel)⟩
theorem fX9_74 : jFL RX9 74 9 41 := ⟨by decide, by decide, Or.inl (jmem 900 (by decide +kernel) (by decide +kernel))⟩
theorem gX9_74 : 9 < 10 ∧ 41 < jF_ 9 ∧ Cond.fieldLink RX9 74 (jT_ 9 41).1 (jT_ 9 41).2.1 (jT_ 9 41).2.2.1 ∈ jTs := ⟨by decide, by decide, jmem 900 (by decide +kernel) (by decide +kernel)⟩
theorem fX9_77 : jFL RX9 77 9 42 := ⟨by decide, by decide, Or.inl (jmem 901 (by decide +kernel) (by decide +kernel))⟩
theorem gX9_77 : 9 < 10 ∧ 42 < jF_ 9 ∧ Cond.fieldLink RX9 77 (jT_ 9 42).1 (jT_ 9 42).2.1 (jT_ 9 42).2.2.1 ∈ jTs := ⟨by decide, by decide, jmem 901 (by decide +kernel) (by decide +kernel)⟩
theorem fX9_80 : jFL RX9 80 9 43 := ⟨by decide, by decide, Or.inl (jmem 902 (by decide +kernel) (by decide +kernel))⟩
theorem gX9_80 : 9 < 10 ∧ 43 < jF_ 9 ∧ Cond.fieldLink RX9 80 (jT_ 9 43).1 (jT_ 9 43).2.1 (jT_ 9 43).2.2.1 ∈ jTs := ⟨by decide, by decide, jmem 902 (by decide +kernel) (by decide +kernel)⟩
theorem fX9_83 : jFL RX9 83 9 44 := ⟨by decide, by decide, Or.inl (jmem 903 (by decide +kernel) (by decide +kernel))⟩
theorem gX9_83 : 9 < 10 ∧ 44 < jF_ 9 ∧ Cond.fieldLink RX9 83 (jT_ 9 44).1 (jT_ 9 44).2.1 (jT_ 9 44).2.2.1 ∈ jTs := ⟨by decide, by decide, jmem 903 (by decide +kernel) (by decide +kernel)⟩
theorem fX9_86 : jFL RX9 86 9 46 := ⟨by decide, by decide, Or.inl (jmem 905 (by decide +kernel) (by decide +kernel))⟩
theorem gX9_86 : 9 < 10 ∧ 46 < jF_ 9 ∧ Cond.fieldLink RX9 86 (jT_ 9 46).1 (jT_ 9 46).2.1 (jT_ 9 46).2.2.1 ∈ jTs := ⟨by decide, by decide, jmem 905 (by decide +kernel) (by decide +kernel)⟩
theorem fX9_89 : jFL RX9 89 9 48 := ⟨by decide, by decide, Or.inl (jmem 907 (by decide +kernel) (by decide +kernel))⟩
theorem gX9_89 : 9 < 10 ∧ 48 < jF_ 9 ∧ Cond.fieldLink RX9 89 (jT_ 9 48).1 (jT_ 9 48).2.1 (jT_ 9 48).2.2.1 ∈ jTs := ⟨by decide, by decide, jmem 907 (by decide +kernel) (by decide +kernel)⟩
theorem lX9_92 : Cond.methodLink RX9 92 (jmY MX9_begins) ∈ jTs := jmem 848 (by decide +kernel) (by decide +kernel)
theorem lX9_95 : Cond.methodLink RX9 95 (jmY MX9_in) ∈ jTs := jmem 1014 (by decide +kernel) (by decide +kernel)
theorem fX9_99 : jFL RX9 99 9 15 := ⟨by decide, by decide, Or.inl (jmem 874 (by decide +kernel) (by decide +kernel))⟩
theorem fX9_103 : jFL RX9 103 9 16 := ⟨by decide, by decide, Or.inl (jmem 875 (by decide +kernel) (by decide +kernel))⟩
theorem fX9_106 : jFL RX9 106 9 17 := ⟨by decide, by decide, Or.inl (jmem 876 (by decide +kernel) (by decide +kernel))⟩
theorem fX9_109 : jFL RX9 109 9 18 := ⟨by decide, by decide, Or.inl (jmem 877 (by decide +kernel) (by decide +kernel))⟩
theorem lX9_112 : Cond.methodLink RX9 112 (jmY MX9_isFigure) ∈ jTs := jmem 1029 (by decide +kernel) (by decide +kernel)
theorem fX9_116 : jFL RX9 116 9 19 := ⟨by decide, by decide, Or.inl (jmem 878 (by decide +kernel) (by decide +kernel))⟩
theorem lX9_119 : Cond.methodLink RX9 119 (jmY MX9_isSign) ∈ jTs := jmem 1033 (by decide +kernel) (by decide +kernel)
theorem fX9_122 : jFL RX9 122 9 20 := ⟨by decide, by decide, Or.inl (jmem 879 (by decide +kernel) (by decide +kernel))⟩
theorem lX9_125 : Cond.methodLink RX9 125 (jmY MX9_due) ∈ jTs := jmem 1048 (by decide +kernel) (by decide +kernel)
theorem lX9_129 : Cond.methodLink RX9 129 (jmY MX9_next) ∈ jTs := jmem 1025 (by decide +kernel) (by decide +kernel)
theorem fX9_132 : jFL RX9 132 9 22 := ⟨by decide, by decide, Or.inl (jmem 881 (by decide +kernel) (by decide +kernel))⟩
theorem fX9_135 : jFL RX9 135 9 27 := ⟨by decide, by decide, Or.inl (jmem 886 (by decide +kernel) (by decide +kernel))⟩
theorem fX9_138 : jFL RX9 138 9 31 := ⟨by decide, by decide, Or.inl (jmem 890 (by decide +kernel) (by decide +kernel))⟩
theorem lX9_141 : Cond.methodLink RX9 141 (jmY MX9_passes) ∈ jTs := jmem 1052 (by decide +kernel) (by decide +kernel)
theorem fX9_144 : jFL RX9 144 9 30 := ⟨by decide, by decide, Or.inl (jmem 889 (by decide +kernel) (by decide +kernel))⟩
theorem lX9_147 : Cond.methodLink RX9 147 (jmY MX9_newNodeBy) ∈ jTs := jmem 1056 (by decide +kernel) (by decide +kernel)
theorem lX9_151 : Cond.methodLink RX9 151 (jmY MX9_newScopeBy) ∈ jTs := jmem 1060 (by decide +kernel) (by decide +kernel)
theorem lX9_154 : Cond.methodLink RX9 154 (jmY MX9_is) ∈ jTs := jmem 1040 (by decide +kernel) (by decide +kernel)
theorem fX9_157 : jFL RX9 157 9 24 := ⟨by decide, by decide, Or.inl (jmem 883 (by decide +kernel) (by decide +kernel))⟩
theorem fX9_160 : jFL RX9 160 9 33 := ⟨by decide, by decide, Or.inl (jmem 892 (by decide +kernel) (by decide +kernel))⟩
theorem lX9_163 : Cond.methodLink RX9 163 (jmY MX9_emits) ∈ jTs := jmem 1088 (by decide +kernel) (by decide +kernel)
theorem fX9_167 : jFL RX9 167 9 35 := ⟨by decide, by decide, Or.inl (jmem 894 (by decide +kernel) (by decide +kernel))⟩
theorem lX9_170 : Cond.methodLink RX9 170 (jmY MX9_waitsFor) ∈ jTs := jmem 1084 (by decide +kernel) (by decide +kernel)
theorem fX9_174 : jFL RX9 174 9 34 := ⟨by decide, by decide, Or.inl (jmem 893 (by decide +kernel) (by decide +kernel))⟩
theorem lX9_177 : Cond.methodLink RX9 177 (jmY MX9_readsPath) ∈ jTs := jmem 1072 (by decide +kernel) (by decide +kernel)
theorem lX9_181 : Cond.methodLink RX9 181 (jmY MX9_beginsTerm) ∈ jTs := jmem 1080 (by decide +kernel) (by decide +kernel)
theorem lX9_184 : Cond.methodLink RX9 184 (jmY MX9_wholeTerm) ∈ jTs := jmem 1092 (by decide +kernel) (by decide +kernel)
theorem lX9_187 : Cond.methodLink RX9 187 (jmY MX9_isBetween) ∈ jTs := jmem 1096 (by decide +kernel) (by decide +kernel)
theorem fX9_191 : jFL RX9 191 9 23 := ⟨by decide, by decide, Or.inl (jmem 882 (by decide +kernel) (by decide +kernel))⟩
theorem lX9_194 : Cond.methodLink RX9 194 (jmY MX9_readsExpression) ∈ jTs := jmem 1076 (by decide +kernel) (by decide +kernel)
theorem lX9_197 : Cond.methodLink RX9 197 (jmY MX9_opens) ∈ jTs := jmem 1044 (by decide +kernel) (by decide +kernel)
theorem lX9_200 : Cond.methodLink RX9 200 (jmY MX9_closes) ∈ jTs := jmem 1064 (by decide +kernel) (by decide +kernel)
theorem lX9_203 : Cond.methodLink RX9 203 (jmY MX9_readsNode) ∈ jTs := jmem 1068 (by decide +kernel) (by decide +kernel)
theorem lX9_206 : Cond.methodLink RX9 206 (jmY MX9_readsItem) ∈ jTs := jmem 1036 (by decide +kernel) (by decide +kernel)
theorem lX9_209 : Cond.methodLink RX9 209 (jmY MX9_takesOver) ∈ jTs := jmem 1100 (by decide +kernel) (by decide +kernel)
theorem fX9_212 : jFL RX9 212 9 1 := ⟨by decide, by decide, Or.inl (jmem 860 (by decide +kernel) (by decide +kernel))⟩
theorem fX9_215 : jFL RX9 215 9 2 := ⟨by decide, by decide, Or.inl (jmem 861 (by decide +kernel) (by decide +kernel))⟩
theorem fX9_218 : jFL RX9 218 9 3 := ⟨by decide, by decide, Or.inl (jmem 862 (by decide +kernel) (by decide +kernel))⟩
theorem fX9_221 : jFL RX9 221 9 6 := ⟨by decide, by decide, Or.inl (jmem 865 (by decide +kernel) (by decide +kernel))⟩
theorem lX9_224 : Cond.methodLink RX9 224 (jmY MX9_blockBegins) ∈ jTs := jmem 852 (by decide +kernel) (by decide +kernel)
theorem fX9_227 : jFL RX9 227 9 11 := ⟨by decide, by decide, Or.inl (jmem 870 (by decide +kernel) (by decide +kernel))⟩
theorem fX9_230 : jFL RX9 230 9 49 := ⟨by decide, by decide, Or.inl (jmem 908 (by decide +kernel) (by decide +kernel))⟩
theorem lX9_233 : Cond.methodLink RX9 233 (jmY MX9_of) ∈ jTs := jmem 1112 (by decide +kernel) (by decide +kernel)
theorem lX9_236 : Cond.methodLink RX9 236 (jmY MX9_nodeBy) ∈ jTs := jmem 1108 (by decide +kernel) (by decide +kernel)
theorem lX9_239 : Cond.methodLink RX9 239 (jmY MX9_scopeBy) ∈ jTs := jmem 1116 (by decide +kernel) (by decide +kernel)
theorem lX9_242 : Cond.methodLink RX9 242 (jmY MX9_worked) ∈ jTs := jmem 1136 (by decide +kernel) (by decide +kernel)
theorem lX9_246 : Cond.methodLink RX9 246 (jmY MX9_expressed) ∈ jTs := jmem 1132 (by decide +kernel) (by decide +kernel)
theorem lX9_250 : Cond.methodLink RX9 250 (jmY MX9_isNode) ∈ jTs := jmem 1124 (by decide +kernel) (by decide +kernel)
theorem lX9_253 : Cond.methodLink RX9 253 (jmY MX9_laysNodes) ∈ jTs := jmem 1128 (by decide +kernel) (by decide +kernel)
theorem lX9_256 : Cond.methodLink RX9 256 (jmY MX9_block0) ∈ jTs := jmem 856 (by decide +kernel) (by decide +kernel)
theorem lX9_259 : Cond.methodLink RX9 259 (jmY MX9_isWire) ∈ jTs := jmem 1155 (by decide +kernel) (by decide +kernel)
theorem lX9_262 : Cond.methodLink RX9 262 (jmY MX9_notes) ∈ jTs := jmem 1159 (by decide +kernel) (by decide +kernel)
theorem lX9_265 : Cond.methodLink RX9 265 (jmY MX9_blockAt) ∈ jTs := jmem 1191 (by decide +kernel) (by decide +kernel)
theorem lX9_268 : Cond.methodLink RX9 268 (jmY MX9_isTime) ∈ jTs := jmem 1183 (by decide +kernel) (by decide +kernel)
theorem lX9_271 : Cond.methodLink RX9 271 (jmY MX9_laysAt) ∈ jTs := jmem 1187 (by decide +kernel) (by decide +kernel)
theorem lX9_274 : Cond.methodLink RX9 274 (jmY MX9_laysTurns) ∈ jTs := jmem 1206 (by decide +kernel) (by decide +kernel)
theorem lX9_277 : Cond.methodLink RX9 277 (jmY MX9_isKind) ∈ jTs := jmem 1199 (by decide +kernel) (by decide +kernel)
theorem lX9_280 : Cond.methodLink RX9 280 (jmY MX9_laysLine) ∈ jTs := jmem 1202 (by decide +kernel) (by decide +kernel)
theorem lX9_283 : Cond.methodLink RX9 283 (jmY MX9_isEdge) ∈ jTs := jmem 1210 (by decide +kernel) (by decide +kernel)
theorem lX9_287 : Cond.methodLink RX9 287 (jmY MX9_isTick) ∈ jTs := jmem 1234 (by decide +kernel) (by decide +kernel)
theorem fX9_290 : jFL RX9 290 9 45 := ⟨by decide, by decide, Or.inl (jmem 904 (by decide +kernel) (by decide +kernel))⟩
theorem fX9_293 : jFL RX9 293 9 47 := ⟨by decide, by decide, Or.inl (jmem 906 (by decide +kernel) (by decide +kernel))⟩
theorem lX9_296 : Cond.methodLink RX9 296 (jmY MX9_placeOf) ∈ jTs := jmem 1266 (by decide +kernel) (by decide +kernel)
theorem lX9_299 : Cond.methodLink RX9 299 (jmY MX9_addsRow) ∈ jTs := jmem 1258 (by decide +kernel) (by decide +kernel)
theorem lX9_302 : Cond.methodLink RX9 302 (jmY MX9_roomOf) ∈ jTs := jmem 1262 (by decide +kernel) (by decide +kernel)
theorem lX9_305 : Cond.methodLink RX9 305 (jmY MX9_isBlock) ∈ jTs := jmem 1250 (by decide +kernel) (by decide +kernel)
theorem lX9_308 : Cond.methodLink RX9 308 (jmY MX9_roomOfBlock) ∈ jTs := jmem 1254 (by decide +kernel) (by decide +kernel)
theorem lX9_311 : Cond.methodLink RX9 311 (jmY MX9_nodeOfWire) ∈ jTs := jmem 1278 (by decide +kernel) (by decide +kernel)
theorem lX9_314 : Cond.methodLink RX9 314 (jmY MX9_roomParted) ∈ jTs := jmem 1290 (by decide +kernel) (by decide +kernel)
theorem lX9_317 : Cond.methodLink RX9 317 (jmY MX9_packedBy) ∈ jTs := jmem 1286 (by decide +kernel) (by decide +kernel)
theorem lX9_320 : Cond.methodLink RX9 320 (jmY MX9_seen) ∈ jTs := jmem 1310 (by decide +kernel) (by decide +kernel)
theorem lX9_323 : Cond.methodLink RX9 323 (jmY MX9_mostAlike) ∈ jTs := jmem 1318 (by decide +kernel) (by decide +kernel)
theorem lX9_326 : Cond.methodLink RX9 326 (jmY MX9_changes) ∈ jTs := jmem 1334 (by decide +kernel) (by decide +kernel)
theorem lX9_329 : Cond.methodLink RX9 329 (jmY MX9_roomOfAll) ∈ jTs := jmem 1338 (by decide +kernel) (by decide +kernel)
theorem clL_7 : Cond.classLink RL 7 (jR_ 8) ∈ jTs := jmem 89 (by decide +kernel) (by decide +kernel)
theorem lL_9 : Cond.methodLink RL 9 (jmY MX8_init) ∈ jTs := jmem 91 (by decide +kernel) (by decide +kernel)
theorem clL_10 : Cond.classLink RL 10 (jR_ 9) ∈ jTs := jmem 842 (by decide +kernel) (by decide +kernel)
theorem lL_12 : Cond.methodLink RL 12 (jmY MX9_init) ∈ jTs := jmem 844 (by decide +kernel) (by decide +kernel)
theorem lL_13 : Cond.methodLink RL 13 (jmY MX8_type) ∈ jTs := jmem 415 (by decide +kernel) (by decide +kernel)
theorem lL_17 : Cond.methodLink RL 17 (jmY MX9_type) ∈ jTs := jmem 1010 (by decide +kernel) (by decide +kernel)
theorem lL_18 : Cond.methodLink RL 18 (jmY MX8_clear) ∈ jTs := jmem 423 (by decide +kernel) (by decide +kernel)
theorem lL_22 : Cond.methodLink RL 22 (jmY MX9_clear) ∈ jTs := jmem 1017 (by decide +kernel) (by decide +kernel)
theorem lL_23 : Cond.methodLink RL 23 (jmY MX8_tells) ∈ jTs := jmem 431 (by decide +kernel) (by decide +kernel)
theorem lL_26 : Cond.methodLink RL 26 (jmY MX9_tells) ∈ jTs := jmem 1021 (by decide +kernel) (by decide +kernel)
theorem lL_27 : Cond.methodLink RL 27 (jmY MX8_node) ∈ jTs := jmem 524 (by decide +kernel) (by decide +kernel)
theorem lL_30 : Cond.methodLink RL 30 (jmY MX9_node) ∈ jTs := jmem 1104 (by decide +kernel) (by decide +kernel)
theorem lL_31 : Cond.methodLink RL 31 (jmY MX8_about) ∈ jTs := jmem 532 (by decide +kernel) (by decide +kernel)
theorem lL_35 : Cond.methodLink RL 35 (jmY MX9_about) ∈ jTs := jmem 1120 (by decide +kernel) (by decide +kernel)
theorem lL_36 : Cond.methodLink RL 36 (jmY MX8_scope) ∈ jTs := jmem 558 (by decide +kernel) (by decide +kernel)
theorem lL_39 : Cond.methodLink RL 39 (jmY MX9_scope) ∈ jTs := jmem 1139 (by decide +kernel) (by decide +kernel)
theorem lL_40 : Cond.methodLink RL 40 (jmY MX8_listed) ∈ jTs := jmem 562 (by decide +kernel) (by decide +kernel)
theorem lL_43 : Cond.methodLink RL 43 (jmY MX9_listed) ∈ jTs := jmem 1143 (by decide +kernel) (by decide +kernel)
theorem lL_44 : Cond.methodLink RL 44 (jmY MX8_path) ∈ jTs := jmem 566 (by decide +kernel) (by decide +kernel)
theorem lL_47 : Cond.methodLink RL 47 (jmY MX9_path) ∈ jTs := jmem 1147 (by decide +kernel) (by decide +kernel)
theorem lL_48 : Cond.methodLink RL 48 (jmY MX8_sets) ∈ jTs := jmem 575 (by decide +kernel) (by decide +kernel)
theorem lL_51 : Cond.methodLink RL 51 (jmY MX9_sets) ∈ jTs := jmem 1151 (by decide +kernel) (by decide +kernel)
theorem lL_52 : Cond.methodLink RL 52 (jmY MX8_passes) ∈ jTs := jmem 614 (by decide +kernel) (by decide +kernel)
theorem lL_55 : Cond.methodLink RL 55 (jmY MX9_passes_) ∈ jTs := jmem 1163 (by decide +kernel) (by decide +kernel)
theorem lL_56 : Cond.methodLink RL 56 (jmY MX8_dumps) ∈ jTs := jmem 618 (by decide +kernel) (by decide +kernel)
theorem lL_59 : Cond.methodLink RL 59 (jmY MX9_dumps) ∈ jTs := jmem 1167 (by decide +kernel) (by decide +kernel)
theorem lL_60 : Cond.methodLink RL 60 (jmY MX8_sizes) ∈ jTs := jmem 626 (by decide +kernel) (by decide +kernel)
theorem lL_63 : Cond.methodLink RL 63 (jmY MX9_sizes) ∈ jTs := jmem 1171 (by decide +kernel) (by decide +kernel)
theorem lL_64 : Cond.methodLink RL 64 (jmY MX8_undo) ∈ jTs := jmem 630 (by decide +kernel) (by decide +kernel)
theorem lL_67 : Cond.methodLink RL 67 (jmY MX9_undo) ∈ jTs := jmem 1175 (by decide +kernel) (by decide +kernel)
theorem lL_68 : Cond.methodLink RL 68 (jmY MX8_at) ∈ jTs := jmem 638 (by decide +kernel) (by decide +kernel)
theorem lL_71 : Cond.methodLink RL 71 (jmY MX9_at) ∈ jTs := jmem 1179 (by decide +kernel) (by decide +kernel)
theorem lL_72 : Cond.methodLink RL 72 (jmY MX8_edges) ∈ jTs := jmem 658 (by decide +kernel) (by decide +kernel)
theorem lL_76 : Cond.methodLink RL 76 (jmY MX9_edges) ∈ jTs := jmem 1195 (by decide +kernel) (by decide +kernel)
theorem lL_77 : Cond.methodLink RL 77 (jmY MX8_next) ∈ jTs := jmem 680 (by decide +kernel) (by decide +kernel)
theorem lL_81 : Cond.methodLink RL 81 (jmY MX9_next_) ∈ jTs := jmem 1214 (by decide +kernel) (by decide +kernel)
theorem lL_82 : Cond.methodLink RL 82 (jmY MX8_previous) ∈ jTs := jmem 684 (by decide +kernel) (by decide +kernel)
theorem lL_85 : Cond.methodLink RL 85 (jmY MX9_previous) ∈ jTs := jmem 1218 (by decide +kernel) (by decide +kernel)
theorem lL_86 : Cond.methodLink RL 86 (jmY MX8_first) ∈ jTs := jmem 688 (by decide +kernel) (by decide +kernel)
theorem lL_89 : Cond.methodLink RL 89 (jmY MX9_first) ∈ jTs := jmem 1222 (by decide +kernel) (by decide +kernel)
theorem lL_90 : Cond.methodLink RL 90 (jmY MX8_holds) ∈ jTs := jmem 702 (by decide +kernel) (by decide +kernel)
theorem lL_93 : Cond.methodLink RL 93 (jmY MX9_holds) ∈ jTs := jmem 1226 (by decide +kernel) (by decide +kernel)
theorem lL_94 : Cond.methodLink RL 94 (jmY MX8_ticks) ∈ jTs := jmem 706 (by decide +kernel) (by decide +kernel)
theorem lL_97 : Cond.methodLink RL 97 (jmY MX9_ticks) ∈ jTs := jmem 1230 (by decide +kernel) (by decide +kernel)
theorem lL_98 : Cond.methodLink RL 98 (jmY MX8_delay) ∈ jTs := jmem 715 (by decide +kernel) (by decide +kernel)
theorem lL_101 : Cond.methodLink RL 101 (jmY MX9_delay) ∈ jTs := jmem 1238 (by decide +kernel) (by decide +kernel)
theorem lL_102 : Cond.methodLink RL 102 (jmY MX8_jump) ∈ jTs := jmem 727 (by decide +kernel) (by decide +kernel)
theorem lL_105 : Cond.methodLink RL 105 (jmY MX9_jump) ∈ jTs := jmem 1242 (by decide +kernel) (by decide +kernel)
theorem lL_106 : Cond.methodLink RL 106 (jmY MX8_block) ∈ jTs := jmem 732 (by decide +kernel) (by decide +kernel)
theorem lL_109 : Cond.methodLink RL 109 (jmY MX9_block) ∈ jTs := jmem 1246 (by decide +kernel) (by decide +kernel)
theorem lL_110 : Cond.methodLink RL 110 (jmY MX8_frame) ∈ jTs := jmem 761 (by decide +kernel) (by decide +kernel)
theorem lL_113 : Cond.methodLink RL 113 (jmY MX9_frame) ∈ jTs := jmem 1270 (by decide +kernel) (by decide +kernel)
theorem lL_114 : Cond.methodLink RL 114 (jmY MX8_change) ∈ jTs := jmem 765 (by decide +kernel) (by decide +kernel)
theorem lL_117 : Cond.methodLink RL 117 (jmY MX9_change) ∈ jTs := jmem 1274 (by decide +kernel) (by decide +kernel)
theorem lL_118 : Cond.methodLink RL 118 (jmY MX8_packed) ∈ jTs := jmem 770 (by decide +kernel) (by decide +kernel)
theorem lL_121 : Cond.methodLink RL 121 (jmY MX9_packed) ∈ jTs := jmem 1282 (by decide +kernel) (by decide +kernel)
theorem lL_122 : Cond.methodLink RL 122 (jmY MX8_best) ∈ jTs := jmem 786 (by decide +kernel) (by decide +kernel)
theorem lL_125 : Cond.methodLink RL 125 (jmY MX9_best) ∈ jTs := jmem 1294 (by decide +kernel) (by decide +kernel)
theorem lL_126 : Cond.methodLink RL 126 (jmY MX8_sees) ∈ jTs := jmem 790 (by decide +kernel) (by decide +kernel)
theorem lL_129 : Cond.methodLink RL 129 (jmY MX9_sees) ∈ jTs := jmem 1298 (by decide +kernel) (by decide +kernel)
theorem lL_130 : Cond.methodLink RL 130 (jmY MX8_forget) ∈ jTs := jmem 794 (by decide +kernel) (by decide +kernel)
theorem lL_133 : Cond.methodLink RL 133 (jmY MX9_forget) ∈ jTs := jmem 1302 (by decide +kernel) (by decide +kernel)
theorem lL_134 : Cond.methodLink RL 134 (jmY MX8_which) ∈ jTs := jmem 798 (by decide +kernel) (by decide +kernel)
theorem lL_137 : Cond.methodLink RL 137 (jmY MX9_which) ∈ jTs := jmem 1306 (by decide +kernel) (by decide +kernel)
theorem lL_138 : Cond.methodLink RL 138 (jmY MX8_look) ∈ jTs := jmem 806 (by decide +kernel) (by decide +kernel)
theorem lL_141 : Cond.methodLink RL 141 (jmY MX9_look) ∈ jTs := jmem 1314 (by decide +kernel) (by decide +kernel)
theorem lL_142 : Cond.methodLink RL 142 (jmY MX8_keep) ∈ jTs := jmem 821 (by decide +kernel) (by decide +kernel)
theorem lL_145 : Cond.methodLink RL 145 (jmY MX9_keep) ∈ jTs := jmem 1322 (by decide +kernel) (by decide +kernel)
theorem lL_146 : Cond.methodLink RL 146 (jmY MX8_back) ∈ jTs := jmem 826 (by decide +kernel) (by decide +kernel)
theorem lL_149 : Cond.methodLink RL 149 (jmY MX9_back) ∈ jTs := jmem 1326 (by decide +kernel) (by decide +kernel)
theorem lL_150 : Cond.methodLink RL 150 (jmY MX8_count) ∈ jTs := jmem 830 (by decide +kernel) (by decide +kernel)
theorem lL_153 : Cond.methodLink RL 153 (jmY MX9_count) ∈ jTs := jmem 1330 (by decide +kernel) (by decide +kernel)
end
section
/-! ===== Math.max, Math.min, over V ===== -/
section JN
variable {M : jM} {d pc mc ms : Nat} {L : List (Option jA)} {st : List jA} {h : jH} {Q : Option jA → jH → Prop}
theorem V_mmax {ix : Nat} {x y : Int} (hd : decode (jmC M) pc = .ok (.invokestatic ix, 3)) (hl : Cond.methodLink (jmO M) ix (jmY MJ9_max_7cf53) ∈ jTs) (hr : st.length ≤ 8)
    (k : V M d (pc + 3) L (.inl (max x y) :: st) h mc ms Q) : V M d pc L (.inl y :: .inl x :: st) h mc ms Q := by
  intro p l e R s m args below meth c G MC MS Z H locs cells slots ls cx hok hls hst hc hs hz
  obtain ⟨hx, hb, hml, hown, hts, hnm, hfr, hlo, hMC, hMS, hZ⟩ := id cx
  have hy1 : jR y := jst_hd hst
  have hx1 : jR x := jst_hd (jst_tl hst)
  have hm1 : jR (max x y) := ⟨by have := hx1.1; omega, by have := hx1.2; have := hy1.2; omega⟩
  have k1 := k p l e R s m args below meth c G MC MS Z H locs cells slots ls cx hok hls (jst_cons (v := .inl (max x y)) hm1 (jst_tl (jst_tl hst))) hc hs hz
  rw [List.map_cons, show jV G (.inl (max x y)) = .int (if Int32.ofInt x < Int32.ofInt y then Int32.ofInt y else Int32.ofInt x) by
    show Value.int (Int32.ofInt (max x y)) = _
    by_cases q : x < y
    · rw [if_pos ((jR_lt hx1 hy1).mpr q), show max x y = y by omega]
    · rw [if_neg (fun z => q ((jR_lt hx1 hy1).mp z)), show max x y = x by omega]] at k1
  exact va_mmax hx hb (hml.trans hls.1.symm) hown (hts _ hl) (hts _ sJ9_max_7cf53) (hts _ tJ9_max_7cf53.2) (hts _ tJ9_max_7cf53.1) (by omega) (by rw [jcat]; omega) (by omega) (by omega) hd k1
theorem V_mmin {ix : Nat} {x y : Int} (hd : decode (jmC M) pc = .ok (.invokestatic ix, 3)) (hl : Cond.methodLink (jmO M) ix (jmY MJ9_min_7cf53) ∈ jTs) (hr : st.length ≤ 8)
    (k : V M d (pc + 3) L (.inl (min x y) :: st) h mc ms Q) : V M d pc L (.inl y :: .inl x :: st) h mc ms Q := by
  intro p l e R s m args below meth c G MC MS Z H locs cells slots ls cx hok hls hst hc hs hz
  obtain ⟨hx, hb, hml, hown, hts, hnm, hfr, hlo, hMC, hMS, hZ⟩ := id cx
  have hy1 : jR y := jst_hd hst
  have hx1 : jR x := jst_hd (jst_tl hst)
  have hm1 : jR (min x y) := ⟨by have := hx1.1; have := hy1.1; omega, by have := hx1.2; omega⟩
  have k1 := k p l e R s m args below meth c G MC MS Z H locs cells slots ls cx hok hls (jst_cons (v := .inl (min x y)) hm1 (jst_tl (jst_tl hst))) hc hs hz
  rw [List.map_cons, show jV G (.inl (min x y)) = .int (if Int32.ofInt y < Int32.ofInt x then Int32.ofInt y else Int32.ofInt x) by
    show Value.int (Int32.ofInt (min x y)) = _
    by_cases q : y < x
    · rw [if_pos ((jR_lt hy1 hx1).mpr q), show min x y = y by omega]
    · rw [if_neg (fun z => q ((jR_lt hy1 hx1).mp z)), show min x y = x by omega]] at k1
  exact va_mmin hx hb (hml.trans hls.1.symm) hown (hts _ hl) (hts _ sJ9_min_7cf53) (hts _ tJ9_min_7cf53.2) (hts _ tJ9_min_7cf53.1) (by omega) (by rw [jcat]; omega) (by omega) (by omega) hd k1
end JN
end
section
/-! ===== leaf methods, as values ===== -/
section JP
def jop (sg x y : Int) : Int := if sg = 38 then (if x = 0 ∨ y = 0 then 0 else if x = -7 ∨ y = -7 then -7 else jand x y) else if x = -7 ∨ y = -7 then -7 else if sg = 124 then jor x y else if sg = 94 then jxor x y else if sg = 43 then jand (x + y) 255 else jand (x - y) 255
def jneg (x : Int) : Int := if x = -7 then -7 else if x = 0 then 1 else 0
def jlet (x : Int) : Int := if 97 ≤ x ∧ x ≤ 122 then x - 97 else -9
def jorn (x : Int) : Int := if x = -1 then -9 else x
def jaft (i n last nx : Int) : Int := if i + 1 < n then nx else last + 1
theorem dX9_in_0 : decode cX9_in 0 = .ok (.iload_n 0, 1) := by decide +kernel
theorem dX9_in_1 : decode cX9_in 1 = .ok (.iload_n 1, 1) := by decide +kernel
theorem dX9_in_2 : decode cX9_in 2 = .ok (.if_icmp .lt 12, 3) := by decide +kernel
theorem dX9_in_5 : decode cX9_in 5 = .ok (.iload_n 0, 1) := by decide +kernel
theorem dX9_in_6 : decode cX9_in 6 = .ok (.iload_n 2, 1) := by decide +kernel
theorem dX9_in_7 : decode cX9_in 7 = .ok (.if_icmp .gt 7, 3) := by decide +kernel
theorem dX9_in_10 : decode cX9_in 10 = .ok (.iconst 1, 1) := by decide +kernel
theorem dX9_in_11 : decode cX9_in 11 = .ok (.goto 4, 3) := by decide +kernel
theorem dX9_in_14 : decode cX9_in 14 = .ok (.iconst 0, 1) := by decide +kernel
theorem dX9_in_15 : decode cX9_in 15 = .ok (.ireturn, 1) := by decide +kernel
theorem bX9_in_0 {d : Nat} {Q : Option jA → jH → Prop} (i0 : Int) (i1 : Int) (i2 : Int) (h : jH)
    (q1 : (i0 < i1) → Q (some (.inl 0)) h)
    (q2 : (¬ (i0 < i1)) → (i2 < i0) → Q (some (.inl 0)) h)
    (q3 : (¬ (i0 < i1)) → (¬ (i2 < i0)) → Q (some (.inl 1)) h) :
    V MX9_in d 0 [some (.inl i0), some (.inl i1), some (.inl i2)] [] h 0 0 Q := by
  refine V_iload_n (i := 0) dX9_in_0 rfl rfl ?_
  refine V_iload_n (i := 1) dX9_in_1 rfl rfl ?_
  refine V_icmp_lt (tgt := 14) dX9_in_2 (by decide) (fun c1 => ?_) (fun c1 => ?_)
  · refine V_iconst dX9_in_14 ⟨by decide, by decide⟩ ?_
    exact V_retz rfl dX9_in_15 (by decide) (q1 c1)
  · refine V_iload_n (i := 0) dX9_in_5 rfl rfl ?_
    refine V_iload_n (i := 2) dX9_in_6 rfl rfl ?_
    refine V_icmp_gt (tgt := 14) dX9_in_7 (by decide) (fun c2 => ?_) (fun c2 => ?_)
    · refine V_iconst dX9_in_14 ⟨by decide, by decide⟩ ?_
      exact V_retz rfl dX9_in_15 (by decide) (q2 c1 c2)
    · refine V_iconst dX9_in_10 ⟨by decide, by decide⟩ ?_
      refine V_goto (tgt := 15) dX9_in_11 (by decide) ?_
      exact V_retz rfl dX9_in_15 (by decide) (q3 c1 c2)
theorem pX9_in {d : Nat} {z0 z1 z2 : Int} {h : jH}  : Ex MX9_in d [.inl z0, .inl z1, .inl z2] h 0 0 (fun r h2 => r = some (.inl (jb (z1 ≤ z0 ∧ z0 ≤ z2))) ∧ h2 = h) := by
  refine Ex_of_V tX9_in (Nat.le_of_ble_eq_true rfl) (bX9_in_0 z0 z1 z2 h ?_ ?_ ?_)
  all_goals intros
  all_goals first
    | assumption
    | omega
    | (constructor <;> omega)
    | (refine ⟨?_, rfl⟩; rw [jb_t]; first | omega | (refine ⟨?_, ?_⟩ <;> omega) | (refine ⟨?_, ?_, ?_⟩ <;> first | assumption | omega) | (simp_all; done))
    | (refine ⟨?_, rfl⟩; rw [jb_f]; first | omega | (simp_all; done))
    | (simp_all; done)
theorem dX9_block0_0 : decode cX9_block0 0 = .ok (.bipush 11, 2) := by decide +kernel
theorem dX9_block0_2 : decode cX9_block0 2 = .ok (.bipush 33, 2) := by decide +kernel
theorem dX9_block0_4 : decode cX9_block0 4 = .ok (.iload_n 0, 1) := by decide +kernel
theorem dX9_block0_5 : decode cX9_block0 5 = .ok (.imul, 1) := by decide +kernel
theorem dX9_block0_6 : decode cX9_block0 6 = .ok (.iadd, 1) := by decide +kernel
theorem dX9_block0_7 : decode cX9_block0 7 = .ok (.ireturn, 1) := by decide +kernel
theorem bX9_block0_0 {d : Nat} {Q : Option jA → jH → Prop} (i0 : Int) (h : jH)
    (r1 : jR (33 * i0))
    (r2 : jR (11 + (33 * i0)))
    (q1 : Q (some (.inl (11 + (33 * i0)))) h) :
    V MX9_block0 d 0 [some (.inl i0)] [] h 0 0 Q := by
  refine V_bipush dX9_block0_0 (by decide +kernel) ⟨by decide, by decide⟩ ?_
  refine V_bipush dX9_block0_2 (by decide +kernel) ⟨by decide, by decide⟩ ?_
  refine V_iload_n (i := 0) dX9_block0_4 rfl rfl ?_
  refine V_imul dX9_block0_5 r1 ?_
  refine V_iadd dX9_block0_6 r2 ?_
  exact V_reti rfl dX9_block0_7 q1
theorem pX9_block0 {d : Nat} {z0 : Int} {h : jH} (s0 : 0 ≤ z0) (s1 : z0 ≤ 6) : Ex MX9_block0 d [.inl z0] h 0 0 (fun r h2 => r = some (.inl (11 + (33 * z0))) ∧ h2 = h) := by
  refine Ex_of_V tX9_block0 (Nat.le_of_ble_eq_true rfl) (bX9_block0_0 z0 h ?_ ?_ ?_)
  all_goals intros
  all_goals first
    | assumption
    | omega
    | (constructor <;> omega)
    | exact ⟨rfl, rfl⟩
    | (refine ⟨congrArg (fun z => some (Sum.inl z)) ?_, rfl⟩; simp [jop, jneg, jlet, jorn, jaft, *]; done)
    | (refine ⟨congrArg (fun z => some (Sum.inl z)) ?_, rfl⟩; simp [jop, jneg, jlet, jorn, jaft, *] <;> omega)
    | (refine ⟨congrArg (fun z => some (Sum.inl z)) ?_, rfl⟩; simp_all [jop, jneg, jlet, jorn, jaft] <;> omega)
    | (simp_all; done)
theorem dX9_isNode_0 : decode cX9_isNode 0 = .ok (.iload_n 1, 1) := by decide +kernel
theorem dX9_isNode_1 : decode cX9_isNode 1 = .ok (.iconst 0, 1) := by decide +kernel
theorem dX9_isNode_2 : decode cX9_isNode 2 = .ok (.aload_n 0, 1) := by decide +kernel
theorem dX9_isNode_3 : decode cX9_isNode 3 = .ok (.getfield 212, 3) := by decide +kernel
theorem dX9_isNode_6 : decode cX9_isNode 6 = .ok (.iconst 1, 1) := by decide +kernel
theorem dX9_isNode_7 : decode cX9_isNode 7 = .ok (.isub, 1) := by decide +kernel
theorem dX9_isNode_8 : decode cX9_isNode 8 = .ok (.invokestatic 95, 3) := by decide +kernel
theorem dX9_isNode_11 : decode cX9_isNode 11 = .ok (.ireturn, 1) := by decide +kernel
theorem bX9_isNode_0 {d : Nat} {Q : Option jA → jH → Prop} (a0 : Nat) (i1 : Int) (h : jH)
    (s1 : (jS h a0).1 = 9)
    (r1 : jR ((jI h a0 1) - 1))
    (q1 : Q (some (.inl (jb (0 ≤ i1 ∧ i1 ≤ ((jI h a0 1) - 1))))) h) :
    V MX9_isNode (d + 1) 0 [some (.inr a0), some (.inl i1)] [] h 0 0 Q := by
  refine V_iload_n (i := 1) dX9_isNode_0 rfl rfl ?_
  refine V_iconst dX9_isNode_1 ⟨by decide, by decide⟩ ?_
  refine V_aload_n (i := 0) dX9_isNode_2 rfl rfl ?_
  refine V_getI dX9_isNode_3 fX9_212 rfl s1 ?_
  refine V_iconst dX9_isNode_6 ⟨by decide, by decide⟩ ?_
  refine V_isub dX9_isNode_7 r1 ?_
  refine V_callS (M := MX9_isNode) (d := (d + 1)) (mc' := 0) (ms' := 0) (mc := 0) (ms := 0) (a := 0) (As := [.inl i1, .inl 0, .inl ((jI h a0 1) - 1)]) (rest := []) dX9_isNode_8 tX9_in sX9_in lX9_95 rfl rfl (Nat.le_of_ble_eq_true rfl) (show d + 1 ≤ (d + 1) by omega) (Ex.mono (pX9_in (d := d) ) ?_)
  intro v h2 hq
  rw [hq.1, hq.2]
  show V MX9_isNode (d + 1) 11 [some (.inr a0), some (.inl i1)] [.inl (jb (0 ≤ i1 ∧ i1 ≤ ((jI h a0 1) - 1)))] h 0 0 Q
  exact V_retz rfl dX9_isNode_11 (jb01 _) q1
theorem pX9_isNode {d : Nat} {z1 : Int} {r0 : Nat} {h : jH} (s0 : (jS h r0).1 = 9) (s1 : 0 ≤ jI h r0 1) (s2 : jI h r0 1 ≤ 12) : Ex MX9_isNode (d + 1) [.inr r0, .inl z1] h 0 0 (fun r h2 => r = some (.inl (jb (0 ≤ z1 ∧ z1 ≤ (jI h r0 1) - 1))) ∧ h2 = h) := by
  refine Ex_of_V tX9_isNode (Nat.le_of_ble_eq_true rfl) (bX9_isNode_0 r0 z1 h ?_ ?_ ?_)
  all_goals intros
  all_goals first
    | assumption
    | omega
    | (constructor <;> omega)
    | (refine ⟨?_, rfl⟩; rw [jb_t]; first | omega | (refine ⟨?_, ?_⟩ <;> omega) | (refine ⟨?_, ?_, ?_⟩ <;> first | assumption | omega) | (simp_all; done))
    | (refine ⟨?_, rfl⟩; rw [jb_f]; first | omega | (simp_all; done))
    | (simp_all; done)
theorem dX9_of_0 : decode cX9_of 0 = .ok (.aload_n 0, 1) := by decide +kernel
theorem dX9_of_1 : decode cX9_of 1 = .ok (.getfield 7, 3) := by decide +kernel
theorem dX9_of_4 : decode cX9_of 4 = .ok (.bipush 6, 2) := by decide +kernel
theorem dX9_of_6 : decode cX9_of 6 = .ok (.iload_n 1, 1) := by decide +kernel
theorem dX9_of_7 : decode cX9_of 7 = .ok (.imul, 1) := by decide +kernel
theorem dX9_of_8 : decode cX9_of 8 = .ok (.iload_n 2, 1) := by decide +kernel
theorem dX9_of_9 : decode cX9_of 9 = .ok (.iadd, 1) := by decide +kernel
theorem dX9_of_10 : decode cX9_of 10 = .ok (.iaload, 1) := by decide +kernel
theorem dX9_of_11 : decode cX9_of 11 = .ok (.ireturn, 1) := by decide +kernel
theorem bX9_of_0 {d : Nat} {Q : Option jA → jH → Prop} (a0 : Nat) (i1 : Int) (i2 : Int) (h : jH)
    (s1 : (jS h a0).1 = 9)
    (r1 : jR (6 * i1))
    (r2 : jR ((6 * i1) + i2))
    (s2 : (jS h (jP h a0 0)).1 = 16)
    (s3 : 0 ≤ (6 * i1) + i2)
    (s4 : (6 * i1) + i2 < ((jS h (jP h a0 0)).2 : Int))
    (q1 : Q (some (.inl (jX h (jP h a0 0) (((6 * i1) + i2).toNat)))) h) :
    V MX9_of d 0 [some (.inr a0), some (.inl i1), some (.inl i2)] [] h 0 0 Q := by
  refine V_aload_n (i := 0) dX9_of_0 rfl rfl ?_
  refine V_getP dX9_of_1 fX9_7 rfl s1 ?_
  refine V_bipush dX9_of_4 (by decide +kernel) ⟨by decide, by decide⟩ ?_
  refine V_iload_n (i := 1) dX9_of_6 rfl rfl ?_
  refine V_imul dX9_of_7 r1 ?_
  refine V_iload_n (i := 2) dX9_of_8 rfl rfl ?_
  refine V_iadd dX9_of_9 r2 ?_
  refine V_iald dX9_of_10 s2 s3 s4 ?_
  exact V_reti rfl dX9_of_11 q1
theorem pX9_of {d : Nat} {z1 z2 : Int} {r0 : Nat} {h : jH} (s0 : (jS h r0).1 = 9) (s1 : (jS h (jP h r0 0)).1 = 16) (s2 : (jS h (jP h r0 0)).2 = 72) (s3 : 0 ≤ z1) (s4 : z1 < 12) (s5 : 0 ≤ z2) (s6 : z2 < 6) : Ex MX9_of d [.inr r0, .inl z1, .inl z2] h 0 0 (fun r h2 => r = some (.inl (jX h (jP h r0 0) (((6 * z1) + z2).toNat))) ∧ h2 = h) := by
  refine Ex_of_V tX9_of (Nat.le_of_ble_eq_true rfl) (bX9_of_0 r0 z1 z2 h ?_ ?_ ?_ ?_ ?_ ?_ ?_)
  all_goals intros
  all_goals first
    | assumption
    | omega
    | (constructor <;> omega)
    | exact ⟨rfl, rfl⟩
    | (refine ⟨congrArg (fun z => some (Sum.inl z)) ?_, rfl⟩; simp [jop, jneg, jlet, jorn, jaft, *]; done)
    | (refine ⟨congrArg (fun z => some (Sum.inl z)) ?_, rfl⟩; simp [jop, jneg, jlet, jorn, jaft, *] <;> omega)
    | (refine ⟨congrArg (fun z => some (Sum.inl z)) ?_, rfl⟩; simp_all [jop, jneg, jlet, jorn, jaft] <;> omega)
    | (simp_all; done)
theorem dX9_isTime_0 : decode cX9_isTime 0 = .ok (.iload_n 1, 1) := by decide +kernel
theorem dX9_isTime_1 : decode cX9_isTime 1 = .ok (.iconst 0, 1) := by decide +kernel
theorem dX9_isTime_2 : decode cX9_isTime 2 = .ok (.aload_n 0, 1) := by decide +kernel
theorem dX9_isTime_3 : decode cX9_isTime 3 = .ok (.getfield 25, 3) := by decide +kernel
theorem dX9_isTime_6 : decode cX9_isTime 6 = .ok (.iconst 0, 1) := by decide +kernel
theorem dX9_isTime_7 : decode cX9_isTime 7 = .ok (.iaload, 1) := by decide +kernel
theorem dX9_isTime_8 : decode cX9_isTime 8 = .ok (.invokestatic 95, 3) := by decide +kernel
theorem dX9_isTime_11 : decode cX9_isTime 11 = .ok (.ireturn, 1) := by decide +kernel
theorem bX9_isTime_0 {d : Nat} {Q : Option jA → jH → Prop} (a0 : Nat) (i1 : Int) (h : jH)
    (s1 : (jS h a0).1 = 9)
    (s2 : (jS h (jP h a0 9)).1 = 16)
    (s3 : 0 < ((jS h (jP h a0 9)).2 : Int))
    (q1 : Q (some (.inl (jb (0 ≤ i1 ∧ i1 ≤ (jX h (jP h a0 9) 0))))) h) :
    V MX9_isTime (d + 1) 0 [some (.inr a0), some (.inl i1)] [] h 0 0 Q := by
  refine V_iload_n (i := 1) dX9_isTime_0 rfl rfl ?_
  refine V_iconst dX9_isTime_1 ⟨by decide, by decide⟩ ?_
  refine V_aload_n (i := 0) dX9_isTime_2 rfl rfl ?_
  refine V_getP dX9_isTime_3 fX9_25 rfl s1 ?_
  refine V_iconst dX9_isTime_6 ⟨by decide, by decide⟩ ?_
  refine V_iald dX9_isTime_7 s2 (by decide) s3 ?_
  refine V_callS (M := MX9_isTime) (d := (d + 1)) (mc' := 0) (ms' := 0) (mc := 0) (ms := 0) (a := 0) (As := [.inl i1, .inl 0, .inl (jX h (jP h a0 9) 0)]) (rest := []) dX9_isTime_8 tX9_in sX9_in lX9_95 rfl rfl (Nat.le_of_ble_eq_true rfl) (show d + 1 ≤ (d + 1) by omega) (Ex.mono (pX9_in (d := d) ) ?_)
  intro v h2 hq
  rw [hq.1, hq.2]
  show V MX9_isTime (d + 1) 11 [some (.inr a0), some (.inl i1)] [.inl (jb (0 ≤ i1 ∧ i1 ≤ (jX h (jP h a0 9) 0)))] h 0 0 Q
  exact V_retz rfl dX9_isTime_11 (jb01 _) q1
theorem pX9_isTime {d : Nat} {z1 : Int} {r0 : Nat} {h : jH} (s0 : (jS h r0).1 = 9) (s1 : (jS h (jP h r0 9)).1 = 16) (s2 : (jS h (jP h r0 9)).2 = 209) : Ex MX9_isTime (d + 1) [.inr r0, .inl z1] h 0 0 (fun r h2 => r = some (.inl (jb (0 ≤ z1 ∧ z1 ≤ (jX h (jP h r0 9) 0)))) ∧ h2 = h) := by
  refine Ex_of_V tX9_isTime (Nat.le_of_ble_eq_true rfl) (bX9_isTime_0 r0 z1 h ?_ ?_ ?_ ?_)
  all_goals intros
  all_goals first
    | assumption
    | omega
    | (constructor <;> omega)
    | (refine ⟨?_, rfl⟩; rw [jb_t]; first | omega | (refine ⟨?_, ?_⟩ <;> omega) | (refine ⟨?_, ?_, ?_⟩ <;> first | assumption | omega) | (simp_all; done))
    | (refine ⟨?_, rfl⟩; rw [jb_f]; first | omega | (simp_all; done))
    | (simp_all; done)
theorem dX9_isKind_0 : decode cX9_isKind 0 = .ok (.iload_n 0, 1) := by decide +kernel
theorem dX9_isKind_1 : decode cX9_isKind 1 = .ok (.iconst 0, 1) := by decide +kernel
theorem dX9_isKind_2 : decode cX9_isKind 2 = .ok (.iconst 2, 1) := by decide +kernel
theorem dX9_isKind_3 : decode cX9_isKind 3 = .ok (.invokestatic 95, 3) := by decide +kernel
theorem dX9_isKind_6 : decode cX9_isKind 6 = .ok (.ireturn, 1) := by decide +kernel
theorem bX9_isKind_0 {d : Nat} {Q : Option jA → jH → Prop} (i0 : Int) (h : jH)
    (q1 : Q (some (.inl (jb (0 ≤ i0 ∧ i0 ≤ 2)))) h) :
    V MX9_isKind (d + 1) 0 [some (.inl i0)] [] h 0 0 Q := by
  refine V_iload_n (i := 0) dX9_isKind_0 rfl rfl ?_
  refine V_iconst dX9_isKind_1 ⟨by decide, by decide⟩ ?_
  refine V_iconst dX9_isKind_2 ⟨by decide, by decide⟩ ?_
  refine V_callS (M := MX9_isKind) (d := (d + 1)) (mc' := 0) (ms' := 0) (mc := 0) (ms := 0) (a := 0) (As := [.inl i0, .inl 0, .inl 2]) (rest := []) dX9_isKind_3 tX9_in sX9_in lX9_95 rfl rfl (Nat.le_of_ble_eq_true rfl) (show d + 1 ≤ (d + 1) by omega) (Ex.mono (pX9_in (d := d) ) ?_)
  intro v h2 hq
  rw [hq.1, hq.2]
  show V MX9_isKind (d + 1) 6 [some (.inl i0)] [.inl (jb (0 ≤ i0 ∧ i0 ≤ 2))] h 0 0 Q
  exact V_retz rfl dX9_isKind_6 (jb01 _) q1
theorem pX9_isKind {d : Nat} {z0 : Int} {h : jH}  : Ex MX9_isKind (d + 1) [.inl z0] h 0 0 (fun r h2 => r = some (.inl (jb (0 ≤ z0 ∧ z0 ≤ 2))) ∧ h2 = h) := by
  refine Ex_of_V tX9_isKind (Nat.le_of_ble_eq_true rfl) (bX9_isKind_0 z0 h ?_)
  all_goals intros
  all_goals first
    | assumption
    | omega
    | (constructor <;> omega)
    | (refine ⟨?_, rfl⟩; rw [jb_t]; first | omega | (refine ⟨?_, ?_⟩ <;> omega) | (refine ⟨?_, ?_, ?_⟩ <;> first | assumption | omega) | (simp_all; done))
    | (refine ⟨?_, rfl⟩; rw [jb_f]; first | omega | (simp_all; done))
    | (simp_all; done)
theorem dX9_isBlock_0 : decode cX9_isBlock 0 = .ok (.iload_n 1, 1) := by decide +kernel
theorem dX9_isBlock_1 : decode cX9_isBlock 1 = .ok (.iconst 0, 1) := by decide +kernel
theorem dX9_isBlock_2 : decode cX9_isBlock 2 = .ok (.aload_n 0, 1) := by decide +kernel
theorem dX9_isBlock_3 : decode cX9_isBlock 3 = .ok (.getfield 25, 3) := by decide +kernel
theorem dX9_isBlock_6 : decode cX9_isBlock 6 = .ok (.iconst 3, 1) := by decide +kernel
theorem dX9_isBlock_7 : decode cX9_isBlock 7 = .ok (.iaload, 1) := by decide +kernel
theorem dX9_isBlock_8 : decode cX9_isBlock 8 = .ok (.iconst 1, 1) := by decide +kernel
theorem dX9_isBlock_9 : decode cX9_isBlock 9 = .ok (.isub, 1) := by decide +kernel
theorem dX9_isBlock_10 : decode cX9_isBlock 10 = .ok (.invokestatic 95, 3) := by decide +kernel
theorem dX9_isBlock_13 : decode cX9_isBlock 13 = .ok (.ireturn, 1) := by decide +kernel
theorem bX9_isBlock_0 {d : Nat} {Q : Option jA → jH → Prop} (a0 : Nat) (i1 : Int) (h : jH)
    (s1 : (jS h a0).1 = 9)
    (s2 : (jS h (jP h a0 9)).1 = 16)
    (s3 : 3 < ((jS h (jP h a0 9)).2 : Int))
    (r1 : jR ((jX h (jP h a0 9) 3) - 1))
    (q1 : Q (some (.inl (jb (0 ≤ i1 ∧ i1 ≤ ((jX h (jP h a0 9) 3) - 1))))) h) :
    V MX9_isBlock (d + 1) 0 [some (.inr a0), some (.inl i1)] [] h 0 0 Q := by
  refine V_iload_n (i := 1) dX9_isBlock_0 rfl rfl ?_
  refine V_iconst dX9_isBlock_1 ⟨by decide, by decide⟩ ?_
  refine V_aload_n (i := 0) dX9_isBlock_2 rfl rfl ?_
  refine V_getP dX9_isBlock_3 fX9_25 rfl s1 ?_
  refine V_iconst dX9_isBlock_6 ⟨by decide, by decide⟩ ?_
  refine V_iald dX9_isBlock_7 s2 (by decide) s3 ?_
  refine V_iconst dX9_isBlock_8 ⟨by decide, by decide⟩ ?_
  refine V_isub dX9_isBlock_9 r1 ?_
  refine V_callS (M := MX9_isBlock) (d := (d + 1)) (mc' := 0) (ms' := 0) (mc := 0) (ms := 0) (a := 0) (As := [.inl i1, .inl 0, .inl ((jX h (jP h a0 9) 3) - 1)]) (rest := []) dX9_isBlock_10 tX9_in sX9_in lX9_95 rfl rfl (Nat.le_of_ble_eq_true rfl) (show d + 1 ≤ (d + 1) by omega) (Ex.mono (pX9_in (d := d) ) ?_)
  intro v h2 hq
  rw [hq.1, hq.2]
  show V MX9_isBlock (d + 1) 13 [some (.inr a0), some (.inl i1)] [.inl (jb (0 ≤ i1 ∧ i1 ≤ ((jX h (jP h a0 9) 3) - 1)))] h 0 0 Q
  exact V_retz rfl dX9_isBlock_13 (jb01 _) q1
theorem pX9_isBlock {d : Nat} {z1 : Int} {r0 : Nat} {h : jH} (s0 : (jS h r0).1 = 9) (s1 : (jS h (jP h r0 9)).1 = 16) (s2 : (jS h (jP h r0 9)).2 = 209) (s3 : 0 ≤ jX h (jP h r0 9) 3) (s4 : jX h (jP h r0 9) 3 ≤ 6) : Ex MX9_isBlock (d + 1) [.inr r0, .inl z1] h 0 0 (fun r h2 => r = some (.inl (jb (0 ≤ z1 ∧ z1 ≤ (jX h (jP h r0 9) 3) - 1))) ∧ h2 = h) := by
  refine Ex_of_V tX9_isBlock (Nat.le_of_ble_eq_true rfl) (bX9_isBlock_0 r0 z1 h ?_ ?_ ?_ ?_ ?_)
  all_goals intros
  all_goals first
    | assumption
    | omega
    | (constructor <;> omega)
    | (refine ⟨?_, rfl⟩; rw [jb_t]; first | omega | (refine ⟨?_, ?_⟩ <;> omega) | (refine ⟨?_, ?_, ?_⟩ <;> first | assumption | omega) | (simp_all; done))
    | (refine ⟨?_, rfl⟩; rw [jb_f]; first | omega | (simp_all; done))
    | (simp_all; done)
theorem dX9_isSign_0 : decode cX9_isSign 0 = .ok (.iload_n 0, 1) := by decide +kernel
theorem dX9_isSign_1 : decode cX9_isSign 1 = .ok (.bipush 91, 2) := by decide +kernel
theorem dX9_isSign_3 : decode cX9_isSign 3 = .ok (.if_icmp .eq 87, 3) := by decide +kernel
theorem dX9_isSign_6 : decode cX9_isSign 6 = .ok (.iload_n 0, 1) := by decide +kernel
theorem dX9_isSign_7 : decode cX9_isSign 7 = .ok (.bipush 93, 2) := by decide +kernel
theorem dX9_isSign_9 : decode cX9_isSign 9 = .ok (.if_icmp .eq 81, 3) := by decide +kernel
theorem dX9_isSign_12 : decode cX9_isSign 12 = .ok (.iload_n 0, 1) := by decide +kernel
theorem dX9_isSign_13 : decode cX9_isSign 13 = .ok (.bipush 58, 2) := by decide +kernel
theorem dX9_isSign_15 : decode cX9_isSign 15 = .ok (.if_icmp .eq 75, 3) := by decide +kernel
theorem dX9_isSign_18 : decode cX9_isSign 18 = .ok (.iload_n 0, 1) := by decide +kernel
theorem dX9_isSign_19 : decode cX9_isSign 19 = .ok (.bipush 64, 2) := by decide +kernel
theorem dX9_isSign_21 : decode cX9_isSign 21 = .ok (.if_icmp .eq 69, 3) := by decide +kernel
theorem dX9_isSign_24 : decode cX9_isSign 24 = .ok (.iload_n 0, 1) := by decide +kernel
theorem dX9_isSign_25 : decode cX9_isSign 25 = .ok (.bipush 61, 2) := by decide +kernel
theorem dX9_isSign_27 : decode cX9_isSign 27 = .ok (.if_icmp .eq 63, 3) := by decide +kernel
theorem dX9_isSign_30 : decode cX9_isSign 30 = .ok (.iload_n 0, 1) := by decide +kernel
theorem dX9_isSign_31 : decode cX9_isSign 31 = .ok (.bipush 46, 2) := by decide +kernel
theorem dX9_isSign_33 : decode cX9_isSign 33 = .ok (.if_icmp .eq 57, 3) := by decide +kernel
theorem dX9_isSign_36 : decode cX9_isSign 36 = .ok (.iload_n 0, 1) := by decide +kernel
theorem dX9_isSign_37 : decode cX9_isSign 37 = .ok (.bipush 38, 2) := by decide +kernel
theorem dX9_isSign_39 : decode cX9_isSign 39 = .ok (.if_icmp .eq 51, 3) := by decide +kernel
theorem dX9_isSign_42 : decode cX9_isSign 42 = .ok (.iload_n 0, 1) := by decide +kernel
theorem dX9_isSign_43 : decode cX9_isSign 43 = .ok (.bipush 124, 2) := by decide +kernel
theorem dX9_isSign_45 : decode cX9_isSign 45 = .ok (.if_icmp .eq 45, 3) := by decide +kernel
theorem dX9_isSign_48 : decode cX9_isSign 48 = .ok (.iload_n 0, 1) := by decide +kernel
theorem dX9_isSign_49 : decode cX9_isSign 49 = .ok (.bipush 94, 2) := by decide +kernel
theorem dX9_isSign_51 : decode cX9_isSign 51 = .ok (.if_icmp .eq 39, 3) := by decide +kernel
theorem dX9_isSign_54 : decode cX9_isSign 54 = .ok (.iload_n 0, 1) := by decide +kernel
theorem dX9_isSign_55 : decode cX9_isSign 55 = .ok (.bipush 43, 2) := by decide +kernel
theorem dX9_isSign_57 : decode cX9_isSign 57 = .ok (.if_icmp .eq 33, 3) := by decide +kernel
theorem dX9_isSign_60 : decode cX9_isSign 60 = .ok (.iload_n 0, 1) := by decide +kernel
theorem dX9_isSign_61 : decode cX9_isSign 61 = .ok (.bipush 45, 2) := by decide +kernel
theorem dX9_isSign_63 : decode cX9_isSign 63 = .ok (.if_icmp .eq 27, 3) := by decide +kernel
theorem dX9_isSign_66 : decode cX9_isSign 66 = .ok (.iload_n 0, 1) := by decide +kernel
theorem dX9_isSign_67 : decode cX9_isSign 67 = .ok (.bipush 33, 2) := by decide +kernel
theorem dX9_isSign_69 : decode cX9_isSign 69 = .ok (.if_icmp .eq 21, 3) := by decide +kernel
theorem dX9_isSign_72 : decode cX9_isSign 72 = .ok (.iload_n 0, 1) := by decide +kernel
theorem dX9_isSign_73 : decode cX9_isSign 73 = .ok (.bipush 40, 2) := by decide +kernel
theorem dX9_isSign_75 : decode cX9_isSign 75 = .ok (.if_icmp .eq 15, 3) := by decide +kernel
theorem dX9_isSign_78 : decode cX9_isSign 78 = .ok (.iload_n 0, 1) := by decide +kernel
theorem dX9_isSign_79 : decode cX9_isSign 79 = .ok (.bipush 41, 2) := by decide +kernel
theorem dX9_isSign_81 : decode cX9_isSign 81 = .ok (.if_icmp .eq 9, 3) := by decide +kernel
theorem dX9_isSign_84 : decode cX9_isSign 84 = .ok (.iload_n 0, 1) := by decide +kernel
theorem dX9_isSign_85 : decode cX9_isSign 85 = .ok (.bipush 59, 2) := by decide +kernel
theorem dX9_isSign_87 : decode cX9_isSign 87 = .ok (.if_icmp .ne 7, 3) := by decide +kernel
theorem dX9_isSign_90 : decode cX9_isSign 90 = .ok (.iconst 1, 1) := by decide +kernel
theorem dX9_isSign_91 : decode cX9_isSign 91 = .ok (.goto 4, 3) := by decide +kernel
theorem dX9_isSign_94 : decode cX9_isSign 94 = .ok (.iconst 0, 1) := by decide +kernel
theorem dX9_isSign_95 : decode cX9_isSign 95 = .ok (.ireturn, 1) := by decide +kernel
theorem bX9_isSign_0 {d : Nat} {Q : Option jA → jH → Prop} (i0 : Int) (h : jH)
    (q1 : (i0 = 91) → Q (some (.inl 1)) h)
    (q2 : (¬ (i0 = 91)) → (i0 = 93) → Q (some (.inl 1)) h)
    (q3 : (¬ (i0 = 91)) → (¬ (i0 = 93)) → (i0 = 58) → Q (some (.inl 1)) h)
    (q4 : (¬ (i0 = 91)) → (¬ (i0 = 93)) → (¬ (i0 = 58)) → (i0 = 64) → Q (some (.inl 1)) h)
    (q5 : (¬ (i0 = 91)) → (¬ (i0 = 93)) → (¬ (i0 = 58)) → (¬ (i0 = 64)) → (i0 = 61) → Q (some (.inl 1)) h)
    (q6 : (¬ (i0 = 91)) → (¬ (i0 = 93)) → (¬ (i0 = 58)) → (¬ (i0 = 64)) → (¬ (i0 = 61)) → (i0 = 46) → Q (some (.inl 1)) h)
    (q7 : (¬ (i0 = 91)) → (¬ (i0 = 93)) → (¬ (i0 = 58)) → (¬ (i0 = 64)) → (¬ (i0 = 61)) → (¬ (i0 = 46)) → (i0 = 38) → Q (some (.inl 1)) h)
    (q8 : (¬ (i0 = 91)) → (¬ (i0 = 93)) → (¬ (i0 = 58)) → (¬ (i0 = 64)) → (¬ (i0 = 61)) → (¬ (i0 = 46)) → (¬ (i0 = 38)) → (i0 = 124) → Q (some (.inl 1)) h)
    (q9 : (¬ (i0 = 91)) → (¬ (i0 = 93)) → (¬ (i0 = 58)) → (¬ (i0 = 64)) → (¬ (i0 = 61)) → (¬ (i0 = 46)) → (¬ (i0 = 38)) → (¬ (i0 = 124)) → (i0 = 94) → Q (some (.inl 1)) h)
    (q10 : (¬ (i0 = 91)) → (¬ (i0 = 93)) → (¬ (i0 = 58)) → (¬ (i0 = 64)) → (¬ (i0 = 61)) → (¬ (i0 = 46)) → (¬ (i0 = 38)) → (¬ (i0 = 124)) → (¬ (i0 = 94)) → (i0 = 43) → Q (some (.inl 1)) h)
    (q11 : (¬ (i0 = 91)) → (¬ (i0 = 93)) → (¬ (i0 = 58)) → (¬ (i0 = 64)) → (¬ (i0 = 61)) → (¬ (i0 = 46)) → (¬ (i0 = 38)) → (¬ (i0 = 124)) → (¬ (i0 = 94)) → (¬ (i0 = 43)) → (i0 = 45) → Q (some (.inl 1)) h)
    (q12 : (¬ (i0 = 91)) → (¬ (i0 = 93)) → (¬ (i0 = 58)) → (¬ (i0 = 64)) → (¬ (i0 = 61)) → (¬ (i0 = 46)) → (¬ (i0 = 38)) → (¬ (i0 = 124)) → (¬ (i0 = 94)) → (¬ (i0 = 43)) → (¬ (i0 = 45)) → (i0 = 33) → Q (some (.inl 1)) h)
    (q13 : (¬ (i0 = 91)) → (¬ (i0 = 93)) → (¬ (i0 = 58)) → (¬ (i0 = 64)) → (¬ (i0 = 61)) → (¬ (i0 = 46)) → (¬ (i0 = 38)) → (¬ (i0 = 124)) → (¬ (i0 = 94)) → (¬ (i0 = 43)) → (¬ (i0 = 45)) → (¬ (i0 = 33)) → (i0 = 40) → Q (some (.inl 1)) h)
    (q14 : (¬ (i0 = 91)) → (¬ (i0 = 93)) → (¬ (i0 = 58)) → (¬ (i0 = 64)) → (¬ (i0 = 61)) → (¬ (i0 = 46)) → (¬ (i0 = 38)) → (¬ (i0 = 124)) → (¬ (i0 = 94)) → (¬ (i0 = 43)) → (¬ (i0 = 45)) → (¬ (i0 = 33)) → (¬ (i0 = 40)) → (i0 = 41) → Q (some (.inl 1)) h)
    (q15 : (¬ (i0 = 91)) → (¬ (i0 = 93)) → (¬ (i0 = 58)) → (¬ (i0 = 64)) → (¬ (i0 = 61)) → (¬ (i0 = 46)) → (¬ (i0 = 38)) → (¬ (i0 = 124)) → (¬ (i0 = 94)) → (¬ (i0 = 43)) → (¬ (i0 = 45)) → (¬ (i0 = 33)) → (¬ (i0 = 40)) → (¬ (i0 = 41)) → (i0 ≠ 59) → Q (some (.inl 0)) h)
    (q16 : (¬ (i0 = 91)) → (¬ (i0 = 93)) → (¬ (i0 = 58)) → (¬ (i0 = 64)) → (¬ (i0 = 61)) → (¬ (i0 = 46)) → (¬ (i0 = 38)) → (¬ (i0 = 124)) → (¬ (i0 = 94)) → (¬ (i0 = 43)) → (¬ (i0 = 45)) → (¬ (i0 = 33)) → (¬ (i0 = 40)) → (¬ (i0 = 41)) → (i0 = 59) → Q (some (.inl 1)) h) :
    V MX9_isSign d 0 [some (.inl i0)] [] h 0 0 Q := by
  refine V_iload_n (i := 0) dX9_isSign_0 rfl rfl ?_
  refine V_bipush dX9_isSign_1 (by decide +kernel) ⟨by decide, by decide⟩ ?_
  refine V_icmp_eq (tgt := 90) dX9_isSign_3 (by decide) (fun c1 => ?_) (fun c1 => ?_)
  · refine V_iconst dX9_isSign_90 ⟨by decide, by decide⟩ ?_
    refine V_goto (tgt := 95) dX9_isSign_91 (by decide) ?_
    exact V_retz rfl dX9_isSign_95 (by decide) (q1 c1)
  · refine V_iload_n (i := 0) dX9_isSign_6 rfl rfl ?_
    refine V_bipush dX9_isSign_7 (by decide +kernel) ⟨by decide, by decide⟩ ?_
    refine V_icmp_eq (tgt := 90) dX9_isSign_9 (by decide) (fun c2 => ?_) (fun c2 => ?_)
    · refine V_iconst dX9_isSign_90 ⟨by decide, by decide⟩ ?_
      refine V_goto (tgt := 95) dX9_isSign_91 (by decide) ?_
      exact V_retz rfl dX9_isSign_95 (by decide) (q2 c1 c2)
    · refine V_iload_n (i := 0) dX9_isSign_12 rfl rfl ?_
      refine V_bipush dX9_isSign_13 (by decide +kernel) ⟨by decide, by decide⟩ ?_
      refine V_icmp_eq (tgt := 90) dX9_isSign_15 (by decide) (fun c3 => ?_) (fun c3 => ?_)
      · refine V_iconst dX9_isSign_90 ⟨by decide, by decide⟩ ?_
        refine V_goto (tgt := 95) dX9_isSign_91 (by decide) ?_
        exact V_retz rfl dX9_isSign_95 (by decide) (q3 c1 c2 c3)
      · refine V_iload_n (i := 0) dX9_isSign_18 rfl rfl ?_
        refine V_bipush dX9_isSign_19 (by decide +kernel) ⟨by decide, by decide⟩ ?_
        refine V_icmp_eq (tgt := 90) dX9_isSign_21 (by decide) (fun c4 => ?_) (fun c4 => ?_)
        · refine V_iconst dX9_isSign_90 ⟨by decide, by decide⟩ ?_
          refine V_goto (tgt := 95) dX9_isSign_91 (by decide) ?_
          exact V_retz rfl dX9_isSign_95 (by decide) (q4 c1 c2 c3 c4)
        · refine V_iload_n (i := 0) dX9_isSign_24 rfl rfl ?_
          refine V_bipush dX9_isSign_25 (by decide +kernel) ⟨by decide, by decide⟩ ?_
          refine V_icmp_eq (tgt := 90) dX9_isSign_27 (by decide) (fun c5 => ?_) (fun c5 => ?_)
          · refine V_iconst dX9_isSign_90 ⟨by decide, by decide⟩ ?_
            refine V_goto (tgt := 95) dX9_isSign_91 (by decide) ?_
            exact V_retz rfl dX9_isSign_95 (by decide) (q5 c1 c2 c3 c4 c5)
          · refine V_iload_n (i := 0) dX9_isSign_30 rfl rfl ?_
            refine V_bipush dX9_isSign_31 (by decide +kernel) ⟨by decide, by decide⟩ ?_
            refine V_icmp_eq (tgt := 90) dX9_isSign_33 (by decide) (fun c6 => ?_) (fun c6 => ?_)
            · refine V_iconst dX9_isSign_90 ⟨by decide, by decide⟩ ?_
              refine V_goto (tgt := 95) dX9_isSign_91 (by decide) ?_
              exact V_retz rfl dX9_isSign_95 (by decide) (q6 c1 c2 c3 c4 c5 c6)
            · refine V_iload_n (i := 0) dX9_isSign_36 rfl rfl ?_
              refine V_bipush dX9_isSign_37 (by decide +kernel) ⟨by decide, by decide⟩ ?_
              refine V_icmp_eq (tgt := 90) dX9_isSign_39 (by decide) (fun c7 => ?_) (fun c7 => ?_)
              · refine V_iconst dX9_isSign_90 ⟨by decide, by decide⟩ ?_
                refine V_goto (tgt := 95) dX9_isSign_91 (by decide) ?_
                exact V_retz rfl dX9_isSign_95 (by decide) (q7 c1 c2 c3 c4 c5 c6 c7)
              · refine V_iload_n (i := 0) dX9_isSign_42 rfl rfl ?_
                refine V_bipush dX9_isSign_43 (by decide +kernel) ⟨by decide, by decide⟩ ?_
                refine V_icmp_eq (tgt := 90) dX9_isSign_45 (by decide) (fun c8 => ?_) (fun c8 => ?_)
                · refine V_iconst dX9_isSign_90 ⟨by decide, by decide⟩ ?_
                  refine V_goto (tgt := 95) dX9_isSign_91 (by decide) ?_
                  exact V_retz rfl dX9_isSign_95 (by decide) (q8 c1 c2 c3 c4 c5 c6 c7 c8)
                · refine V_iload_n (i := 0) dX9_isSign_48 rfl rfl ?_
                  refine V_bipush dX9_isSign_49 (by decide +kernel) ⟨by decide, by decide⟩ ?_
                  refine V_icmp_eq (tgt := 90) dX9_isSign_51 (by decide) (fun c9 => ?_) (fun c9 => ?_)
                  · refine V_iconst dX9_isSign_90 ⟨by decide, by decide⟩ ?_
                    refine V_goto (tgt := 95) dX9_isSign_91 (by decide) ?_
                    exact V_retz rfl dX9_isSign_95 (by decide) (q9 c1 c2 c3 c4 c5 c6 c7 c8 c9)
                  · refine V_iload_n (i := 0) dX9_isSign_54 rfl rfl ?_
                    refine V_bipush dX9_isSign_55 (by decide +kernel) ⟨by decide, by decide⟩ ?_
                    refine V_icmp_eq (tgt := 90) dX9_isSign_57 (by decide) (fun c10 => ?_) (fun c10 => ?_)
                    · refine V_iconst dX9_isSign_90 ⟨by decide, by decide⟩ ?_
                      refine V_goto (tgt := 95) dX9_isSign_91 (by decide) ?_
                      exact V_retz rfl dX9_isSign_95 (by decide) (q10 c1 c2 c3 c4 c5 c6 c7 c8 c9 c10)
                    · refine V_iload_n (i := 0) dX9_isSign_60 rfl rfl ?_
                      refine V_bipush dX9_isSign_61 (by decide +kernel) ⟨by decide, by decide⟩ ?_
                      refine V_icmp_eq (tgt := 90) dX9_isSign_63 (by decide) (fun c11 => ?_) (fun c11 => ?_)
                      · refine V_iconst dX9_isSign_90 ⟨by decide, by decide⟩ ?_
                        refine V_goto (tgt := 95) dX9_isSign_91 (by decide) ?_
                        exact V_retz rfl dX9_isSign_95 (by decide) (q11 c1 c2 c3 c4 c5 c6 c7 c8 c9 c10 c11)
                      · refine V_iload_n (i := 0) dX9_isSign_66 rfl rfl ?_
                        refine V_bipush dX9_isSign_67 (by decide +kernel) ⟨by decide, by decide⟩ ?_
                        refine V_icmp_eq (tgt := 90) dX9_isSign_69 (by decide) (fun c12 => ?_) (fun c12 => ?_)
                        · refine V_iconst dX9_isSign_90 ⟨by decide, by decide⟩ ?_
                          refine V_goto (tgt := 95) dX9_isSign_91 (by decide) ?_
                          exact V_retz rfl dX9_isSign_95 (by decide) (q12 c1 c2 c3 c4 c5 c6 c7 c8 c9 c10 c11 c12)
                        · refine V_iload_n (i := 0) dX9_isSign_72 rfl rfl ?_
                          refine V_bipush dX9_isSign_73 (by decide +kernel) ⟨by decide, by decide⟩ ?_
                          refine V_icmp_eq (tgt := 90) dX9_isSign_75 (by decide) (fun c13 => ?_) (fun c13 => ?_)
                          · refine V_iconst dX9_isSign_90 ⟨by decide, by decide⟩ ?_
                            refine V_goto (tgt := 95) dX9_isSign_91 (by decide) ?_
                            exact V_retz rfl dX9_isSign_95 (by decide) (q13 c1 c2 c3 c4 c5 c6 c7 c8 c9 c10 c11 c12 c13)
                          · refine V_iload_n (i := 0) dX9_isSign_78 rfl rfl ?_
                            refine V_bipush dX9_isSign_79 (by decide +kernel) ⟨by decide, by decide⟩ ?_
                            refine V_icmp_eq (tgt := 90) dX9_isSign_81 (by decide) (fun c14 => ?_) (fun c14 => ?_)
                            · refine V_iconst dX9_isSign_90 ⟨by decide, by decide⟩ ?_
                              refine V_goto (tgt := 95) dX9_isSign_91 (by decide) ?_
                              exact V_retz rfl dX9_isSign_95 (by decide) (q14 c1 c2 c3 c4 c5 c6 c7 c8 c9 c10 c11 c12 c13 c14)
                            · refine V_iload_n (i := 0) dX9_isSign_84 rfl rfl ?_
                              refine V_bipush dX9_isSign_85 (by decide +kernel) ⟨by decide, by decide⟩ ?_
                              refine V_icmp_ne (tgt := 94) dX9_isSign_87 (by decide) (fun c15 => ?_) (fun c15 => ?_)
                              · refine V_iconst dX9_isSign_94 ⟨by decide, by decide⟩ ?_
                                exact V_retz rfl dX9_isSign_95 (by decide) (q15 c1 c2 c3 c4 c5 c6 c7 c8 c9 c10 c11 c12 c13 c14 c15)
                              · refine V_iconst dX9_isSign_90 ⟨by decide, by decide⟩ ?_
                                refine V_goto (tgt := 95) dX9_isSign_91 (by decide) ?_
                                exact V_retz rfl dX9_isSign_95 (by decide) (q16 c1 c2 c3 c4 c5 c6 c7 c8 c9 c10 c11 c12 c13 c14 c15)
theorem pX9_isSign {d : Nat} {z0 : Int} {h : jH}  : Ex MX9_isSign d [.inl z0] h 0 0 (fun r h2 => r = some (.inl (jb (z0 = 91 ∨ z0 = 93 ∨ z0 = 58 ∨ z0 = 64 ∨ z0 = 61 ∨ z0 = 46 ∨ z0 = 38 ∨ z0 = 124 ∨ z0 = 94 ∨ z0 = 43 ∨ z0 = 45 ∨ z0 = 33 ∨ z0 = 40 ∨ z0 = 41 ∨ z0 = 59))) ∧ h2 = h) := by
  refine Ex_of_V tX9_isSign (Nat.le_of_ble_eq_true rfl) (bX9_isSign_0 z0 h ?_ ?_ ?_ ?_ ?_ ?_ ?_ ?_ ?_ ?_ ?_ ?_ ?_ ?_ ?_ ?_)
  all_goals intros
  all_goals first
    | assumption
    | omega
    | (constructor <;> omega)
    | (refine ⟨?_, rfl⟩; rw [jb_t]; first | omega | (refine ⟨?_, ?_⟩ <;> omega) | (refine ⟨?_, ?_, ?_⟩ <;> first | assumption | omega) | (simp_all; done))
    | (refine ⟨?_, rfl⟩; rw [jb_f]; first | omega | (simp_all; done))
    | (simp_all; done)
theorem dX9_is_0 : decode cX9_is 0 = .ok (.aload_n 0, 1) := by decide +kernel
theorem dX9_is_1 : decode cX9_is 1 = .ok (.getfield 109, 3) := by decide +kernel
theorem dX9_is_4 : decode cX9_is 4 = .ok (.iconst 3, 1) := by decide +kernel
theorem dX9_is_5 : decode cX9_is 5 = .ok (.if_icmp .ne 15, 3) := by decide +kernel
theorem dX9_is_8 : decode cX9_is 8 = .ok (.aload_n 0, 1) := by decide +kernel
theorem dX9_is_9 : decode cX9_is 9 = .ok (.getfield 116, 3) := by decide +kernel
theorem dX9_is_12 : decode cX9_is 12 = .ok (.iload_n 1, 1) := by decide +kernel
theorem dX9_is_13 : decode cX9_is 13 = .ok (.if_icmp .ne 7, 3) := by decide +kernel
theorem dX9_is_16 : decode cX9_is 16 = .ok (.iconst 1, 1) := by decide +kernel
theorem dX9_is_17 : decode cX9_is 17 = .ok (.goto 4, 3) := by decide +kernel
theorem dX9_is_20 : decode cX9_is 20 = .ok (.iconst 0, 1) := by decide +kernel
theorem dX9_is_21 : decode cX9_is 21 = .ok (.ireturn, 1) := by decide +kernel
theorem bX9_is_0 {d : Nat} {Q : Option jA → jH → Prop} (a0 : Nat) (i1 : Int) (h : jH)
    (s1 : (jS h a0).1 = 9)
    (q1 : ((jI h a0 18) ≠ 3) → Q (some (.inl 0)) h)
    (q2 : ((jI h a0 18) = 3) → ((jI h a0 19) ≠ i1) → Q (some (.inl 0)) h)
    (q3 : ((jI h a0 18) = 3) → ((jI h a0 19) = i1) → Q (some (.inl 1)) h) :
    V MX9_is d 0 [some (.inr a0), some (.inl i1)] [] h 0 0 Q := by
  refine V_aload_n (i := 0) dX9_is_0 rfl rfl ?_
  refine V_getI dX9_is_1 fX9_109 rfl s1 ?_
  refine V_iconst dX9_is_4 ⟨by decide, by decide⟩ ?_
  refine V_icmp_ne (tgt := 20) dX9_is_5 (by decide) (fun c1 => ?_) (fun c1 => ?_)
  · refine V_iconst dX9_is_20 ⟨by decide, by decide⟩ ?_
    exact V_retz rfl dX9_is_21 (by decide) (q1 c1)
  · refine V_aload_n (i := 0) dX9_is_8 rfl rfl ?_
    refine V_getI dX9_is_9 fX9_116 rfl s1 ?_
    refine V_iload_n (i := 1) dX9_is_12 rfl rfl ?_
    refine V_icmp_ne (tgt := 20) dX9_is_13 (by decide) (fun c2 => ?_) (fun c2 => ?_)
    · refine V_iconst dX9_is_20 ⟨by decide, by decide⟩ ?_
      exact V_retz rfl dX9_is_21 (by decide) (q2 c1 c2)
    · refine V_iconst dX9_is_16 ⟨by decide, by decide⟩ ?_
      refine V_goto (tgt := 21) dX9_is_17 (by decide) ?_
      exact V_retz rfl dX9_is_21 (by decide) (q3 c1 c2)
theorem pX9_is {d : Nat} {z1 : Int} {r0 : Nat} {h : jH} (s0 : (jS h r0).1 = 9) : Ex MX9_is d [.inr r0, .inl z1] h 0 0 (fun r h2 => r = some (.inl (jb ((jI h r0 18) = 3 ∧ (jI h r0 19) = z1))) ∧ h2 = h) := by
  refine Ex_of_V tX9_is (Nat.le_of_ble_eq_true rfl) (bX9_is_0 r0 z1 h ?_ ?_ ?_ ?_)
  all_goals intros
  all_goals first
    | assumption
    | omega
    | (constructor <;> omega)
    | (refine ⟨?_, rfl⟩; rw [jb_t]; first | omega | (refine ⟨?_, ?_⟩ <;> omega) | (refine ⟨?_, ?_, ?_⟩ <;> first | assumption | omega) | (simp_all; done))
    | (refine ⟨?_, rfl⟩; rw [jb_f]; first | omega | (simp_all; done))
    | (simp_all; done)
theorem dX9_isBetween_0 : decode cX9_isBetween 0 = .ok (.aload_n 0, 1) := by decide +kernel
theorem dX9_isBetween_1 : decode cX9_isBetween 1 = .ok (.bipush 38, 2) := by decide +kernel
theorem dX9_isBetween_3 : decode cX9_isBetween 3 = .ok (.invokevirtual 154, 3) := by decide +kernel
theorem dX9_isBetween_6 : decode cX9_isBetween 6 = .ok (.ifCond .ne 39, 3) := by decide +kernel
theorem dX9_isBetween_9 : decode cX9_isBetween 9 = .ok (.aload_n 0, 1) := by decide +kernel
theorem dX9_isBetween_10 : decode cX9_isBetween 10 = .ok (.bipush 124, 2) := by decide +kernel
theorem dX9_isBetween_12 : decode cX9_isBetween 12 = .ok (.invokevirtual 154, 3) := by decide +kernel
theorem dX9_isBetween_15 : decode cX9_isBetween 15 = .ok (.ifCond .ne 30, 3) := by decide +kernel
theorem dX9_isBetween_18 : decode cX9_isBetween 18 = .ok (.aload_n 0, 1) := by decide +kernel
theorem dX9_isBetween_19 : decode cX9_isBetween 19 = .ok (.bipush 94, 2) := by decide +kernel
theorem dX9_isBetween_21 : decode cX9_isBetween 21 = .ok (.invokevirtual 154, 3) := by decide +kernel
theorem dX9_isBetween_24 : decode cX9_isBetween 24 = .ok (.ifCond .ne 21, 3) := by decide +kernel
theorem dX9_isBetween_27 : decode cX9_isBetween 27 = .ok (.aload_n 0, 1) := by decide +kernel
theorem dX9_isBetween_28 : decode cX9_isBetween 28 = .ok (.bipush 43, 2) := by decide +kernel
theorem dX9_isBetween_30 : decode cX9_isBetween 30 = .ok (.invokevirtual 154, 3) := by decide +kernel
theorem dX9_isBetween_33 : decode cX9_isBetween 33 = .ok (.ifCond .ne 12, 3) := by decide +kernel
theorem dX9_isBetween_36 : decode cX9_isBetween 36 = .ok (.aload_n 0, 1) := by decide +kernel
theorem dX9_isBetween_37 : decode cX9_isBetween 37 = .ok (.bipush 45, 2) := by decide +kernel
theorem dX9_isBetween_39 : decode cX9_isBetween 39 = .ok (.invokevirtual 154, 3) := by decide +kernel
theorem dX9_isBetween_42 : decode cX9_isBetween 42 = .ok (.ifCond .eq 7, 3) := by decide +kernel
theorem dX9_isBetween_45 : decode cX9_isBetween 45 = .ok (.iconst 1, 1) := by decide +kernel
theorem dX9_isBetween_46 : decode cX9_isBetween 46 = .ok (.goto 4, 3) := by decide +kernel
theorem dX9_isBetween_49 : decode cX9_isBetween 49 = .ok (.iconst 0, 1) := by decide +kernel
theorem dX9_isBetween_50 : decode cX9_isBetween 50 = .ok (.ireturn, 1) := by decide +kernel
theorem bX9_isBetween_0 {d : Nat} {Q : Option jA → jH → Prop} (a0 : Nat) (h : jH)
    (s1 : (jS h a0).1 = 9)
    (q1 : ((jI h a0 18) = 3 ∧ (jI h a0 19) = 38) → Q (some (.inl 1)) h)
    (q2 : (¬ ((jI h a0 18) = 3 ∧ (jI h a0 19) = 38)) → ((jI h a0 18) = 3 ∧ (jI h a0 19) = 124) → Q (some (.inl 1)) h)
    (q3 : (¬ ((jI h a0 18) = 3 ∧ (jI h a0 19) = 38)) → (¬ ((jI h a0 18) = 3 ∧ (jI h a0 19) = 124)) → ((jI h a0 18) = 3 ∧ (jI h a0 19) = 94) → Q (some (.inl 1)) h)
    (q4 : (¬ ((jI h a0 18) = 3 ∧ (jI h a0 19) = 38)) → (¬ ((jI h a0 18) = 3 ∧ (jI h a0 19) = 124)) → (¬ ((jI h a0 18) = 3 ∧ (jI h a0 19) = 94)) → ((jI h a0 18) = 3 ∧ (jI h a0 19) = 43) → Q (some (.inl 1)) h)
    (q5 : (¬ ((jI h a0 18) = 3 ∧ (jI h a0 19) = 38)) → (¬ ((jI h a0 18) = 3 ∧ (jI h a0 19) = 124)) → (¬ ((jI h a0 18) = 3 ∧ (jI h a0 19) = 94)) → (¬ ((jI h a0 18) = 3 ∧ (jI h a0 19) = 43)) → (¬ ((jI h a0 18) = 3 ∧ (jI h a0 19) = 45)) → Q (some (.inl 0)) h)
    (q6 : (¬ ((jI h a0 18) = 3 ∧ (jI h a0 19) = 38)) → (¬ ((jI h a0 18) = 3 ∧ (jI h a0 19) = 124)) → (¬ ((jI h a0 18) = 3 ∧ (jI h a0 19) = 94)) → (¬ ((jI h a0 18) = 3 ∧ (jI h a0 19) = 43)) → ((jI h a0 18) = 3 ∧ (jI h a0 19) = 45) → Q (some (.inl 1)) h) :
    V MX9_isBetween (d + 1) 0 [some (.inr a0)] [] h 0 0 Q := by
  refine V_aload_n (i := 0) dX9_isBetween_0 rfl rfl ?_
  refine V_bipush dX9_isBetween_1 (by decide +kernel) ⟨by decide, by decide⟩ ?_
  refine V_callV (M := MX9_isBetween) (d := (d + 1)) (mc' := 0) (ms' := 0) (mc := 0) (ms := 0) (As := [.inl 38]) (rest := []) dX9_isBetween_3 tX9_is vX9_is lX9_154 s1 ⟨by decide, rfl⟩ rfl rfl (Nat.le_of_ble_eq_true rfl) (show d + 1 ≤ (d + 1) by omega) (Ex.mono (pX9_is (d := d) s1) ?_)
  intro v h2 hq
  rw [hq.1, hq.2]
  show V MX9_isBetween (d + 1) 6 [some (.inr a0)] [.inl (jb ((jI h a0 18) = 3 ∧ (jI h a0 19) = 38))] h 0 0 Q
  refine V_ifb_ne (tgt := 45) dX9_isBetween_6 (by decide) (fun c1 => ?_) (fun c1 => ?_)
  · refine V_iconst dX9_isBetween_45 ⟨by decide, by decide⟩ ?_
    refine V_goto (tgt := 50) dX9_isBetween_46 (by decide) ?_
    exact V_retz rfl dX9_isBetween_50 (by decide) (q1 c1)
  · refine V_aload_n (i := 0) dX9_isBetween_9 rfl rfl ?_
    refine V_bipush dX9_isBetween_10 (by decide +kernel) ⟨by decide, by decide⟩ ?_
    refine V_callV (M := MX9_isBetween) (d := (d + 1)) (mc' := 0) (ms' := 0) (mc := 0) (ms := 0) (As := [.inl 124]) (rest := []) dX9_isBetween_12 tX9_is vX9_is lX9_154 s1 ⟨by decide, rfl⟩ rfl rfl (Nat.le_of_ble_eq_true rfl) (show d + 1 ≤ (d + 1) by omega) (Ex.mono (pX9_is (d := d) s1) ?_)
    intro v h2 hq
    rw [hq.1, hq.2]
    show V MX9_isBetween (d + 1) 15 [some (.inr a0)] [.inl (jb ((jI h a0 18) = 3 ∧ (jI h a0 19) = 124))] h 0 0 Q
    refine V_ifb_ne (tgt := 45) dX9_isBetween_15 (by decide) (fun c2 => ?_) (fun c2 => ?_)
    · refine V_iconst dX9_isBetween_45 ⟨by decide, by decide⟩ ?_
      refine V_goto (tgt := 50) dX9_isBetween_46 (by decide) ?_
      exact V_retz rfl dX9_isBetween_50 (by decide) (q2 c1 c2)
    · refine V_aload_n (i := 0) dX9_isBetween_18 rfl rfl ?_
      refine V_bipush dX9_isBetween_19 (by decide +kernel) ⟨by decide, by decide⟩ ?_
      refine V_callV (M := MX9_isBetween) (d := (d + 1)) (mc' := 0) (ms' := 0) (mc := 0) (ms := 0) (As := [.inl 94]) (rest := []) dX9_isBetween_21 tX9_is vX9_is lX9_154 s1 ⟨by decide, rfl⟩ rfl rfl (Nat.le_of_ble_eq_true rfl) (show d + 1 ≤ (d + 1) by omega) (Ex.mono (pX9_is (d := d) s1) ?_)
      intro v h2 hq
      rw [hq.1, hq.2]
      show V MX9_isBetween (d + 1) 24 [some (.inr a0)] [.inl (jb ((jI h a0 18) = 3 ∧ (jI h a0 19) = 94))] h 0 0 Q
      refine V_ifb_ne (tgt := 45) dX9_isBetween_24 (by decide) (fun c3 => ?_) (fun c3 => ?_)
      · refine V_iconst dX9_isBetween_45 ⟨by decide, by decide⟩ ?_
        refine V_goto (tgt := 50) dX9_isBetween_46 (by decide) ?_
        exact V_retz rfl dX9_isBetween_50 (by decide) (q3 c1 c2 c3)
      · refine V_aload_n (i := 0) dX9_isBetween_27 rfl rfl ?_
        refine V_bipush dX9_isBetween_28 (by decide +kernel) ⟨by decide, by decide⟩ ?_
        refine V_callV (M := MX9_isBetween) (d := (d + 1)) (mc' := 0) (ms' := 0) (mc := 0) (ms := 0) (As := [.inl 43]) (rest := []) dX9_isBetween_30 tX9_is vX9_is lX9_154 s1 ⟨by decide, rfl⟩ rfl rfl (Nat.le_of_ble_eq_true rfl) (show d + 1 ≤ (d + 1) by omega) (Ex.mono (pX9_is (d := d) s1) ?_)
        intro v h2 hq
        rw [hq.1, hq.2]
        show V MX9_isBetween (d + 1) 33 [some (.inr a0)] [.inl (jb ((jI h a0 18) = 3 ∧ (jI h a0 19) = 43))] h 0 0 Q
        refine V_ifb_ne (tgt := 45) dX9_isBetween_33 (by decide) (fun c4 => ?_) (fun c4 => ?_)
        · refine V_iconst dX9_isBetween_45 ⟨by decide, by decide⟩ ?_
          refine V_goto (tgt := 50) dX9_isBetween_46 (by decide) ?_
          exact V_retz rfl dX9_isBetween_50 (by decide) (q4 c1 c2 c3 c4)
        · refine V_aload_n (i := 0) dX9_isBetween_36 rfl rfl ?_
          refine V_bipush dX9_isBetween_37 (by decide +kernel) ⟨by decide, by decide⟩ ?_
          refine V_callV (M := MX9_isBetween) (d := (d + 1)) (mc' := 0) (ms' := 0) (mc := 0) (ms := 0) (As := [.inl 45]) (rest := []) dX9_isBetween_39 tX9_is vX9_is lX9_154 s1 ⟨by decide, rfl⟩ rfl rfl (Nat.le_of_ble_eq_true rfl) (show d + 1 ≤ (d + 1) by omega) (Ex.mono (pX9_is (d := d) s1) ?_)
          intro v h2 hq
          rw [hq.1, hq.2]
          show V MX9_isBetween (d + 1) 42 [some (.inr a0)] [.inl (jb ((jI h a0 18) = 3 ∧ (jI h a0 19) = 45))] h 0 0 Q
          refine V_ifb_eq (tgt := 49) dX9_isBetween_42 (by decide) (fun c5 => ?_) (fun c5 => ?_)
          · refine V_iconst dX9_isBetween_49 ⟨by decide, by decide⟩ ?_
            exact V_retz rfl dX9_isBetween_50 (by decide) (q5 c1 c2 c3 c4 c5)
          · refine V_iconst dX9_isBetween_45 ⟨by decide, by decide⟩ ?_
            refine V_goto (tgt := 50) dX9_isBetween_46 (by decide) ?_
            exact V_retz rfl dX9_isBetween_50 (by decide) (q6 c1 c2 c3 c4 c5)
theorem pX9_isBetween {d : Nat} {r0 : Nat} {h : jH} (s0 : (jS h r0).1 = 9) : Ex MX9_isBetween (d + 1) [.inr r0] h 0 0 (fun r h2 => r = some (.inl (jb ((jI h r0 18) = 3 ∧ ((jI h r0 19) = 38 ∨ (jI h r0 19) = 124 ∨ (jI h r0 19) = 94 ∨ (jI h r0 19) = 43 ∨ (jI h r0 19) = 45)))) ∧ h2 = h) := by
  refine Ex_of_V tX9_isBetween (Nat.le_of_ble_eq_true rfl) (bX9_isBetween_0 r0 h ?_ ?_ ?_ ?_ ?_ ?_ ?_)
  all_goals intros
  all_goals first
    | assumption
    | omega
    | (constructor <;> omega)
    | (refine ⟨?_, rfl⟩; rw [jb_t]; first | omega | (refine ⟨?_, ?_⟩ <;> omega) | (refine ⟨?_, ?_, ?_⟩ <;> first | assumption | omega) | (simp_all; done))
    | (refine ⟨?_, rfl⟩; rw [jb_f]; first | omega | (simp_all; done))
    | (simp_all; done)
theorem dX9_isFigure_0 : decode cX9_isFigure 0 = .ok (.iload_n 1, 1) := by decide +kernel
theorem dX9_isFigure_1 : decode cX9_isFigure 1 = .ok (.aload_n 0, 1) := by decide +kernel
theorem dX9_isFigure_2 : decode cX9_isFigure 2 = .ok (.getfield 99, 3) := by decide +kernel
theorem dX9_isFigure_5 : decode cX9_isFigure 5 = .ok (.if_icmp .ge 23, 3) := by decide +kernel
theorem dX9_isFigure_8 : decode cX9_isFigure 8 = .ok (.aload_n 0, 1) := by decide +kernel
theorem dX9_isFigure_9 : decode cX9_isFigure 9 = .ok (.getfield 38, 3) := by decide +kernel
theorem dX9_isFigure_12 : decode cX9_isFigure 12 = .ok (.iload_n 1, 1) := by decide +kernel
theorem dX9_isFigure_13 : decode cX9_isFigure 13 = .ok (.iaload, 1) := by decide +kernel
theorem dX9_isFigure_14 : decode cX9_isFigure 14 = .ok (.bipush 48, 2) := by decide +kernel
theorem dX9_isFigure_16 : decode cX9_isFigure 16 = .ok (.bipush 57, 2) := by decide +kernel
theorem dX9_isFigure_18 : decode cX9_isFigure 18 = .ok (.invokestatic 95, 3) := by decide +kernel
theorem dX9_isFigure_21 : decode cX9_isFigure 21 = .ok (.ifCond .eq 7, 3) := by decide +kernel
theorem dX9_isFigure_24 : decode cX9_isFigure 24 = .ok (.iconst 1, 1) := by decide +kernel
theorem dX9_isFigure_25 : decode cX9_isFigure 25 = .ok (.goto 4, 3) := by decide +kernel
theorem dX9_isFigure_28 : decode cX9_isFigure 28 = .ok (.iconst 0, 1) := by decide +kernel
theorem dX9_isFigure_29 : decode cX9_isFigure 29 = .ok (.ireturn, 1) := by decide +kernel
theorem bX9_isFigure_0 {d : Nat} {Q : Option jA → jH → Prop} (a0 : Nat) (i1 : Int) (h : jH)
    (s1 : (jS h a0).1 = 9)
    (q1 : ((jI h a0 15) ≤ i1) → Q (some (.inl 0)) h)
    (s2 : (jS h (jP h a0 14)).1 = 16)
    (s3 : (¬ ((jI h a0 15) ≤ i1)) → 0 ≤ i1)
    (s4 : (¬ ((jI h a0 15) ≤ i1)) → i1 < ((jS h (jP h a0 14)).2 : Int))
    (q2 : (¬ ((jI h a0 15) ≤ i1)) → (¬ (48 ≤ (jX h (jP h a0 14) ((i1).toNat)) ∧ (jX h (jP h a0 14) ((i1).toNat)) ≤ 57)) → Q (some (.inl 0)) h)
    (q3 : (¬ ((jI h a0 15) ≤ i1)) → (48 ≤ (jX h (jP h a0 14) ((i1).toNat)) ∧ (jX h (jP h a0 14) ((i1).toNat)) ≤ 57) → Q (some (.inl 1)) h) :
    V MX9_isFigure (d + 1) 0 [some (.inr a0), some (.inl i1)] [] h 0 0 Q := by
  refine V_iload_n (i := 1) dX9_isFigure_0 rfl rfl ?_
  refine V_aload_n (i := 0) dX9_isFigure_1 rfl rfl ?_
  refine V_getI dX9_isFigure_2 fX9_99 rfl s1 ?_
  refine V_icmp_ge (tgt := 28) dX9_isFigure_5 (by decide) (fun c1 => ?_) (fun c1 => ?_)
  · refine V_iconst dX9_isFigure_28 ⟨by decide, by decide⟩ ?_
    exact V_retz rfl dX9_isFigure_29 (by decide) (q1 c1)
  · refine V_aload_n (i := 0) dX9_isFigure_8 rfl rfl ?_
    refine V_getP dX9_isFigure_9 fX9_38 rfl s1 ?_
    refine V_iload_n (i := 1) dX9_isFigure_12 rfl rfl ?_
    refine V_iald dX9_isFigure_13 s2 (s3 c1) (s4 c1) ?_
    refine V_bipush dX9_isFigure_14 (by decide +kernel) ⟨by decide, by decide⟩ ?_
    refine V_bipush dX9_isFigure_16 (by decide +kernel) ⟨by decide, by decide⟩ ?_
    refine V_callS (M := MX9_isFigure) (d := (d + 1)) (mc' := 0) (ms' := 0) (mc := 0) (ms := 0) (a := 0) (As := [.inl (jX h (jP h a0 14) ((i1).toNat)), .inl 48, .inl 57]) (rest := []) dX9_isFigure_18 tX9_in sX9_in lX9_95 rfl rfl (Nat.le_of_ble_eq_true rfl) (show d + 1 ≤ (d + 1) by omega) (Ex.mono (pX9_in (d := d) ) ?_)
    intro v h2 hq
    rw [hq.1, hq.2]
    show V MX9_isFigure (d + 1) 21 [some (.inr a0), some (.inl i1)] [.inl (jb (48 ≤ (jX h (jP h a0 14) ((i1).toNat)) ∧ (jX h (jP h a0 14) ((i1).toNat)) ≤ 57))] h 0 0 Q
    refine V_ifb_eq (tgt := 28) dX9_isFigure_21 (by decide) (fun c2 => ?_) (fun c2 => ?_)
    · refine V_iconst dX9_isFigure_28 ⟨by decide, by decide⟩ ?_
      exact V_retz rfl dX9_isFigure_29 (by decide) (q2 c1 c2)
    · refine V_iconst dX9_isFigure_24 ⟨by decide, by decide⟩ ?_
      refine V_goto (tgt := 29) dX9_isFigure_25 (by decide) ?_
      exact V_retz rfl dX9_isFigure_29 (by decide) (q3 c1 c2)
theorem pX9_isFigure {d : Nat} {z1 : Int} {r0 : Nat} {h : jH} (s0 : (jS h r0).1 = 9) (s1 : (jS h (jP h r0 14)).1 = 16) (s2 : (jS h (jP h r0 14)).2 = 160) (s3 : jI h r0 15 ≤ 160) (s4 : 0 ≤ z1) : Ex MX9_isFigure (d + 1) [.inr r0, .inl z1] h 0 0 (fun r h2 => r = some (.inl (jb (z1 < (jI h r0 15) ∧ 48 ≤ (jX h (jP h r0 14) (z1.toNat)) ∧ (jX h (jP h r0 14) (z1.toNat)) ≤ 57))) ∧ h2 = h) := by
  refine Ex_of_V tX9_isFigure (Nat.le_of_ble_eq_true rfl) (bX9_isFigure_0 r0 z1 h ?_ ?_ ?_ ?_ ?_ ?_ ?_)
  all_goals intros
  all_goals first
    | assumption
    | omega
    | (constructor <;> omega)
    | (refine ⟨?_, rfl⟩; rw [jb_t]; first | omega | (refine ⟨?_, ?_⟩ <;> omega) | (refine ⟨?_, ?_, ?_⟩ <;> first | assumption | omega) | (simp_all; done))
    | (refine ⟨?_, rfl⟩; rw [jb_f]; first | omega | (simp_all; done))
    | (simp_all; done)
theorem dX9_isWire_0 : decode cX9_isWire 0 = .ok (.aload_n 0, 1) := by decide +kernel
theorem dX9_isWire_1 : decode cX9_isWire 1 = .ok (.iload_n 1, 1) := by decide +kernel
theorem dX9_isWire_2 : decode cX9_isWire 2 = .ok (.invokevirtual 250, 3) := by decide +kernel
theorem dX9_isWire_5 : decode cX9_isWire 5 = .ok (.ifCond .eq 16, 3) := by decide +kernel
theorem dX9_isWire_8 : decode cX9_isWire 8 = .ok (.aload_n 0, 1) := by decide +kernel
theorem dX9_isWire_9 : decode cX9_isWire 9 = .ok (.iload_n 1, 1) := by decide +kernel
theorem dX9_isWire_10 : decode cX9_isWire 10 = .ok (.iconst 0, 1) := by decide +kernel
theorem dX9_isWire_11 : decode cX9_isWire 11 = .ok (.invokevirtual 233, 3) := by decide +kernel
theorem dX9_isWire_14 : decode cX9_isWire 14 = .ok (.ifCond .ne 7, 3) := by decide +kernel
theorem dX9_isWire_17 : decode cX9_isWire 17 = .ok (.iconst 1, 1) := by decide +kernel
theorem dX9_isWire_18 : decode cX9_isWire 18 = .ok (.goto 4, 3) := by decide +kernel
theorem dX9_isWire_21 : decode cX9_isWire 21 = .ok (.iconst 0, 1) := by decide +kernel
theorem dX9_isWire_22 : decode cX9_isWire 22 = .ok (.ireturn, 1) := by decide +kernel
theorem bX9_isWire_0 {d : Nat} {Q : Option jA → jH → Prop} (a0 : Nat) (i1 : Int) (h : jH)
    (s1 : (jS h a0).1 = 9)
    (s2 : 0 ≤ jI h a0 1)
    (s3 : jI h a0 1 ≤ 12)
    (q1 : (¬ (0 ≤ i1 ∧ i1 ≤ (jI h a0 1) - 1)) → Q (some (.inl 0)) h)
    (s4 : (jS h (jP h a0 0)).1 = 16)
    (s5 : (0 ≤ i1 ∧ i1 ≤ (jI h a0 1) - 1) → (jS h (jP h a0 0)).2 = 72)
    (s6 : (0 ≤ i1 ∧ i1 ≤ (jI h a0 1) - 1) → 0 ≤ i1)
    (s7 : (0 ≤ i1 ∧ i1 ≤ (jI h a0 1) - 1) → i1 < 12)
    (q2 : (0 ≤ i1 ∧ i1 ≤ (jI h a0 1) - 1) → ((jX h (jP h a0 0) (((6 * i1) + 0).toNat)) ≠ 0) → Q (some (.inl 0)) h)
    (q3 : (0 ≤ i1 ∧ i1 ≤ (jI h a0 1) - 1) → ((jX h (jP h a0 0) (((6 * i1) + 0).toNat)) = 0) → Q (some (.inl 1)) h) :
    V MX9_isWire (d + 2) 0 [some (.inr a0), some (.inl i1)] [] h 0 0 Q := by
  refine V_aload_n (i := 0) dX9_isWire_0 rfl rfl ?_
  refine V_iload_n (i := 1) dX9_isWire_1 rfl rfl ?_
  refine V_callV (M := MX9_isWire) (d := (d + 2)) (mc' := 0) (ms' := 0) (mc := 0) (ms := 0) (As := [.inl i1]) (rest := []) dX9_isWire_2 tX9_isNode vX9_isNode lX9_250 s1 ⟨by decide, rfl⟩ rfl rfl (Nat.le_of_ble_eq_true rfl) (show (d + 1) + 1 ≤ (d + 2) by omega) (Ex.mono (pX9_isNode (d := d) s1 s2 s3) ?_)
  intro v h2 hq
  rw [hq.1, hq.2]
  show V MX9_isWire (d + 2) 5 [some (.inr a0), some (.inl i1)] [.inl (jb (0 ≤ i1 ∧ i1 ≤ (jI h a0 1) - 1))] h 0 0 Q
  refine V_ifb_eq (tgt := 21) dX9_isWire_5 (by decide) (fun c1 => ?_) (fun c1 => ?_)
  · refine V_iconst dX9_isWire_21 ⟨by decide, by decide⟩ ?_
    exact V_retz rfl dX9_isWire_22 (by decide) (q1 c1)
  · refine V_aload_n (i := 0) dX9_isWire_8 rfl rfl ?_
    refine V_iload_n (i := 1) dX9_isWire_9 rfl rfl ?_
    refine V_iconst dX9_isWire_10 ⟨by decide, by decide⟩ ?_
    refine V_callV (M := MX9_isWire) (d := (d + 2)) (mc' := 0) (ms' := 0) (mc := 0) (ms := 0) (As := [.inl i1, .inl 0]) (rest := []) dX9_isWire_11 tX9_of vX9_of lX9_233 s1 ⟨by decide, rfl⟩ rfl rfl (Nat.le_of_ble_eq_true rfl) (show d + 1 ≤ (d + 2) by omega) (Ex.mono (pX9_of (d := d) s1 s4 (s5 c1) (s6 c1) (s7 c1) (by decide) (by decide)) ?_)
    intro v h2 hq
    rw [hq.1, hq.2]
    show V MX9_isWire (d + 2) 14 [some (.inr a0), some (.inl i1)] [.inl (jX h (jP h a0 0) (((6 * i1) + 0).toNat))] h 0 0 Q
    refine V_if_ne (tgt := 21) dX9_isWire_14 (by decide) (fun c2 => ?_) (fun c2 => ?_)
    · refine V_iconst dX9_isWire_21 ⟨by decide, by decide⟩ ?_
      exact V_retz rfl dX9_isWire_22 (by decide) (q2 c1 c2)
    · refine V_iconst dX9_isWire_17 ⟨by decide, by decide⟩ ?_
      refine V_goto (tgt := 22) dX9_isWire_18 (by decide) ?_
      exact V_retz rfl dX9_isWire_22 (by decide) (q3 c1 c2)
theorem pX9_isWire {d : Nat} {z1 : Int} {r0 : Nat} {h : jH} (s0 : (jS h r0).1 = 9) (s1 : (jS h (jP h r0 0)).1 = 16) (s2 : (jS h (jP h r0 0)).2 = 72) (s3 : 0 ≤ jI h r0 1) (s4 : jI h r0 1 ≤ 12) : Ex MX9_isWire (d + 2) [.inr r0, .inl z1] h 0 0 (fun r h2 => r = some (.inl (jb (0 ≤ z1 ∧ z1 ≤ (jI h r0 1) - 1 ∧ (jX h (jP h r0 0) (((6 * z1) + 0).toNat)) = 0))) ∧ h2 = h) := by
  refine Ex_of_V tX9_isWire (Nat.le_of_ble_eq_true rfl) (bX9_isWire_0 r0 z1 h ?_ ?_ ?_ ?_ ?_ ?_ ?_ ?_ ?_ ?_)
  all_goals intros
  all_goals first
    | assumption
    | omega
    | (constructor <;> omega)
    | (refine ⟨?_, rfl⟩; rw [jb_t]; first | omega | (refine ⟨?_, ?_⟩ <;> omega) | (refine ⟨?_, ?_, ?_⟩ <;> first | assumption | omega) | (simp_all; done))
    | (refine ⟨?_, rfl⟩; rw [jb_f]; first | omega | (simp_all; done))
    | (simp_all; done)
theorem dX9_worked_0 : decode cX9_worked 0 = .ok (.iload_n 2, 1) := by decide +kernel
theorem dX9_worked_1 : decode cX9_worked 1 = .ok (.bipush 38, 2) := by decide +kernel
theorem dX9_worked_3 : decode cX9_worked 3 = .ok (.if_icmp .ne 36, 3) := by decide +kernel
theorem dX9_worked_6 : decode cX9_worked 6 = .ok (.iload_n 0, 1) := by decide +kernel
theorem dX9_worked_7 : decode cX9_worked 7 = .ok (.ifCond .eq 7, 3) := by decide +kernel
theorem dX9_worked_10 : decode cX9_worked 10 = .ok (.iload_n 1, 1) := by decide +kernel
theorem dX9_worked_11 : decode cX9_worked 11 = .ok (.ifCond .ne 7, 3) := by decide +kernel
theorem dX9_worked_14 : decode cX9_worked 14 = .ok (.iconst 0, 1) := by decide +kernel
theorem dX9_worked_15 : decode cX9_worked 15 = .ok (.goto 23, 3) := by decide +kernel
theorem dX9_worked_18 : decode cX9_worked 18 = .ok (.iload_n 0, 1) := by decide +kernel
theorem dX9_worked_19 : decode cX9_worked 19 = .ok (.bipush (-7), 2) := by decide +kernel
theorem dX9_worked_21 : decode cX9_worked 21 = .ok (.if_icmp .eq 9, 3) := by decide +kernel
theorem dX9_worked_24 : decode cX9_worked 24 = .ok (.iload_n 1, 1) := by decide +kernel
theorem dX9_worked_25 : decode cX9_worked 25 = .ok (.bipush (-7), 2) := by decide +kernel
theorem dX9_worked_27 : decode cX9_worked 27 = .ok (.if_icmp .ne 8, 3) := by decide +kernel
theorem dX9_worked_30 : decode cX9_worked 30 = .ok (.bipush (-7), 2) := by decide +kernel
theorem dX9_worked_32 : decode cX9_worked 32 = .ok (.goto 6, 3) := by decide +kernel
theorem dX9_worked_35 : decode cX9_worked 35 = .ok (.iload_n 0, 1) := by decide +kernel
theorem dX9_worked_36 : decode cX9_worked 36 = .ok (.iload_n 1, 1) := by decide +kernel
theorem dX9_worked_37 : decode cX9_worked 37 = .ok (.iand, 1) := by decide +kernel
theorem dX9_worked_38 : decode cX9_worked 38 = .ok (.ireturn, 1) := by decide +kernel
theorem dX9_worked_39 : decode cX9_worked 39 = .ok (.iload_n 0, 1) := by decide +kernel
theorem dX9_worked_40 : decode cX9_worked 40 = .ok (.bipush (-7), 2) := by decide +kernel
theorem dX9_worked_42 : decode cX9_worked 42 = .ok (.if_icmp .eq 9, 3) := by decide +kernel
theorem dX9_worked_45 : decode cX9_worked 45 = .ok (.iload_n 1, 1) := by decide +kernel
theorem dX9_worked_46 : decode cX9_worked 46 = .ok (.bipush (-7), 2) := by decide +kernel
theorem dX9_worked_48 : decode cX9_worked 48 = .ok (.if_icmp .ne 6, 3) := by decide +kernel
theorem dX9_worked_51 : decode cX9_worked 51 = .ok (.bipush (-7), 2) := by decide +kernel
theorem dX9_worked_53 : decode cX9_worked 53 = .ok (.ireturn, 1) := by decide +kernel
theorem dX9_worked_54 : decode cX9_worked 54 = .ok (.iload_n 2, 1) := by decide +kernel
theorem dX9_worked_55 : decode cX9_worked 55 = .ok (.bipush 124, 2) := by decide +kernel
theorem dX9_worked_57 : decode cX9_worked 57 = .ok (.if_icmp .ne 9, 3) := by decide +kernel
theorem dX9_worked_60 : decode cX9_worked 60 = .ok (.iload_n 0, 1) := by decide +kernel
theorem dX9_worked_61 : decode cX9_worked 61 = .ok (.iload_n 1, 1) := by decide +kernel
theorem dX9_worked_62 : decode cX9_worked 62 = .ok (.ior, 1) := by decide +kernel
theorem dX9_worked_63 : decode cX9_worked 63 = .ok (.goto 38, 3) := by decide +kernel
theorem dX9_worked_66 : decode cX9_worked 66 = .ok (.iload_n 2, 1) := by decide +kernel
theorem dX9_worked_67 : decode cX9_worked 67 = .ok (.bipush 94, 2) := by decide +kernel
theorem dX9_worked_69 : decode cX9_worked 69 = .ok (.if_icmp .ne 9, 3) := by decide +kernel
theorem dX9_worked_72 : decode cX9_worked 72 = .ok (.iload_n 0, 1) := by decide +kernel
theorem dX9_worked_73 : decode cX9_worked 73 = .ok (.iload_n 1, 1) := by decide +kernel
theorem dX9_worked_74 : decode cX9_worked 74 = .ok (.ixor, 1) := by decide +kernel
theorem dX9_worked_75 : decode cX9_worked 75 = .ok (.goto 26, 3) := by decide +kernel
theorem dX9_worked_78 : decode cX9_worked 78 = .ok (.iload_n 2, 1) := by decide +kernel
theorem dX9_worked_79 : decode cX9_worked 79 = .ok (.bipush 43, 2) := by decide +kernel
theorem dX9_worked_81 : decode cX9_worked 81 = .ok (.if_icmp .ne 13, 3) := by decide +kernel
theorem dX9_worked_84 : decode cX9_worked 84 = .ok (.iload_n 0, 1) := by decide +kernel
theorem dX9_worked_85 : decode cX9_worked 85 = .ok (.iload_n 1, 1) := by decide +kernel
theorem dX9_worked_86 : decode cX9_worked 86 = .ok (.iadd, 1) := by decide +kernel
theorem dX9_worked_87 : decode cX9_worked 87 = .ok (.sipush 255, 3) := by decide +kernel
theorem dX9_worked_90 : decode cX9_worked 90 = .ok (.iand, 1) := by decide +kernel
theorem dX9_worked_91 : decode cX9_worked 91 = .ok (.goto 10, 3) := by decide +kernel
theorem dX9_worked_94 : decode cX9_worked 94 = .ok (.iload_n 0, 1) := by decide +kernel
theorem dX9_worked_95 : decode cX9_worked 95 = .ok (.iload_n 1, 1) := by decide +kernel
theorem dX9_worked_96 : decode cX9_worked 96 = .ok (.isub, 1) := by decide +kernel
theorem dX9_worked_97 : decode cX9_worked 97 = .ok (.sipush 255, 3) := by decide +kernel
theorem dX9_worked_100 : decode cX9_worked 100 = .ok (.iand, 1) := by decide +kernel
theorem dX9_worked_101 : decode cX9_worked 101 = .ok (.ireturn, 1) := by decide +kernel
theorem bX9_worked_0 {d : Nat} {Q : Option jA → jH → Prop} (i0 : Int) (i1 : Int) (i2 : Int) (h : jH)
    (q1 : (i2 ≠ 38) → (i0 = ((-7))) → Q (some (.inl ((-7)))) h)
    (r1 : (i2 ≠ 38) → (¬ (i0 = ((-7)))) → (i1 ≠ ((-7))) → (i2 ≠ 124) → (i2 ≠ 94) → (i2 ≠ 43) → jR (i0 - i1))
    (q2 : (i2 ≠ 38) → (¬ (i0 = ((-7)))) → (i1 ≠ ((-7))) → (i2 ≠ 124) → (i2 ≠ 94) → (i2 ≠ 43) → Q (some (.inl (jand (i0 - i1) 255))) h)
    (r2 : (i2 ≠ 38) → (¬ (i0 = ((-7)))) → (i1 ≠ ((-7))) → (i2 ≠ 124) → (i2 ≠ 94) → (i2 = 43) → jR (i0 + i1))
    (q3 : (i2 ≠ 38) → (¬ (i0 = ((-7)))) → (i1 ≠ ((-7))) → (i2 ≠ 124) → (i2 ≠ 94) → (i2 = 43) → Q (some (.inl (jand (i0 + i1) 255))) h)
    (q4 : (i2 ≠ 38) → (¬ (i0 = ((-7)))) → (i1 ≠ ((-7))) → (i2 ≠ 124) → (i2 = 94) → Q (some (.inl (jxor i0 i1))) h)
    (q5 : (i2 ≠ 38) → (¬ (i0 = ((-7)))) → (i1 ≠ ((-7))) → (i2 = 124) → Q (some (.inl (jor i0 i1))) h)
    (q6 : (i2 ≠ 38) → (¬ (i0 = ((-7)))) → (i1 = ((-7))) → Q (some (.inl ((-7)))) h)
    (q7 : (i2 = 38) → (i0 = 0) → Q (some (.inl 0)) h)
    (q8 : (i2 = 38) → (¬ (i0 = 0)) → (i1 ≠ 0) → (i0 = ((-7))) → Q (some (.inl ((-7)))) h)
    (q9 : (i2 = 38) → (¬ (i0 = 0)) → (i1 ≠ 0) → (¬ (i0 = ((-7)))) → (i1 ≠ ((-7))) → Q (some (.inl (jand i0 i1))) h)
    (q10 : (i2 = 38) → (¬ (i0 = 0)) → (i1 ≠ 0) → (¬ (i0 = ((-7)))) → (i1 = ((-7))) → Q (some (.inl ((-7)))) h)
    (q11 : (i2 = 38) → (¬ (i0 = 0)) → (i1 = 0) → Q (some (.inl 0)) h) :
    V MX9_worked d 0 [some (.inl i0), some (.inl i1), some (.inl i2)] [] h 0 0 Q := by
  refine V_iload_n (i := 2) dX9_worked_0 rfl rfl ?_
  refine V_bipush dX9_worked_1 (by decide +kernel) ⟨by decide, by decide⟩ ?_
  refine V_icmp_ne (tgt := 39) dX9_worked_3 (by decide) (fun c1 => ?_) (fun c1 => ?_)
  · refine V_iload_n (i := 0) dX9_worked_39 rfl rfl ?_
    refine V_bipush dX9_worked_40 (by decide +kernel) ⟨by decide, by decide⟩ ?_
    refine V_icmp_eq (tgt := 51) dX9_worked_42 (by decide) (fun c2 => ?_) (fun c2 => ?_)
    · refine V_bipush dX9_worked_51 (by decide +kernel) ⟨by decide, by decide⟩ ?_
      exact V_reti rfl dX9_worked_53 (q1 c1 c2)
    · refine V_iload_n (i := 1) dX9_worked_45 rfl rfl ?_
      refine V_bipush dX9_worked_46 (by decide +kernel) ⟨by decide, by decide⟩ ?_
      refine V_icmp_ne (tgt := 54) dX9_worked_48 (by decide) (fun c3 => ?_) (fun c3 => ?_)
      · refine V_iload_n (i := 2) dX9_worked_54 rfl rfl ?_
        refine V_bipush dX9_worked_55 (by decide +kernel) ⟨by decide, by decide⟩ ?_
        refine V_icmp_ne (tgt := 66) dX9_worked_57 (by decide) (fun c4 => ?_) (fun c4 => ?_)
        · refine V_iload_n (i := 2) dX9_worked_66 rfl rfl ?_
          refine V_bipush dX9_worked_67 (by decide +kernel) ⟨by decide, by decide⟩ ?_
          refine V_icmp_ne (tgt := 78) dX9_worked_69 (by decide) (fun c5 => ?_) (fun c5 => ?_)
          · refine V_iload_n (i := 2) dX9_worked_78 rfl rfl ?_
            refine V_bipush dX9_worked_79 (by decide +kernel) ⟨by decide, by decide⟩ ?_
            refine V_icmp_ne (tgt := 94) dX9_worked_81 (by decide) (fun c6 => ?_) (fun c6 => ?_)
            · refine V_iload_n (i := 0) dX9_worked_94 rfl rfl ?_
              refine V_iload_n (i := 1) dX9_worked_95 rfl rfl ?_
              refine V_isub dX9_worked_96 (r1 c1 c2 c3 c4 c5 c6) ?_
              refine V_sipush dX9_worked_97 (by decide +kernel) ⟨by decide, by decide⟩ ?_
              refine V_iand dX9_worked_100 ?_
              exact V_reti rfl dX9_worked_101 (q2 c1 c2 c3 c4 c5 c6)
            · refine V_iload_n (i := 0) dX9_worked_84 rfl rfl ?_
              refine V_iload_n (i := 1) dX9_worked_85 rfl rfl ?_
              refine V_iadd dX9_worked_86 (r2 c1 c2 c3 c4 c5 c6) ?_
              refine V_sipush dX9_worked_87 (by decide +kernel) ⟨by decide, by decide⟩ ?_
              refine V_iand dX9_worked_90 ?_
              refine V_goto (tgt := 101) dX9_worked_91 (by decide) ?_
              exact V_reti rfl dX9_worked_101 (q3 c1 c2 c3 c4 c5 c6)
          · refine V_iload_n (i := 0) dX9_worked_72 rfl rfl ?_
            refine V_iload_n (i := 1) dX9_worked_73 rfl rfl ?_
            refine V_ixor dX9_worked_74 ?_
            refine V_goto (tgt := 101) dX9_worked_75 (by decide) ?_
            exact V_reti rfl dX9_worked_101 (q4 c1 c2 c3 c4 c5)
        · refine V_iload_n (i := 0) dX9_worked_60 rfl rfl ?_
          refine V_iload_n (i := 1) dX9_worked_61 rfl rfl ?_
          refine V_ior dX9_worked_62 ?_
          refine V_goto (tgt := 101) dX9_worked_63 (by decide) ?_
          exact V_reti rfl dX9_worked_101 (q5 c1 c2 c3 c4)
      · refine V_bipush dX9_worked_51 (by decide +kernel) ⟨by decide, by decide⟩ ?_
        exact V_reti rfl dX9_worked_53 (q6 c1 c2 c3)
  · refine V_iload_n (i := 0) dX9_worked_6 rfl rfl ?_
    refine V_if_eq (tgt := 14) dX9_worked_7 (by decide) (fun c7 => ?_) (fun c7 => ?_)
    · refine V_iconst dX9_worked_14 ⟨by decide, by decide⟩ ?_
      refine V_goto (tgt := 38) dX9_worked_15 (by decide) ?_
      exact V_reti rfl dX9_worked_38 (q7 c1 c7)
    · refine V_iload_n (i := 1) dX9_worked_10 rfl rfl ?_
      refine V_if_ne (tgt := 18) dX9_worked_11 (by decide) (fun c8 => ?_) (fun c8 => ?_)
      · refine V_iload_n (i := 0) dX9_worked_18 rfl rfl ?_
        refine V_bipush dX9_worked_19 (by decide +kernel) ⟨by decide, by decide⟩ ?_
        refine V_icmp_eq (tgt := 30) dX9_worked_21 (by decide) (fun c9 => ?_) (fun c9 => ?_)
        · refine V_bipush dX9_worked_30 (by decide +kernel) ⟨by decide, by decide⟩ ?_
          refine V_goto (tgt := 38) dX9_worked_32 (by decide) ?_
          exact V_reti rfl dX9_worked_38 (q8 c1 c7 c8 c9)
        · refine V_iload_n (i := 1) dX9_worked_24 rfl rfl ?_
          refine V_bipush dX9_worked_25 (by decide +kernel) ⟨by decide, by decide⟩ ?_
          refine V_icmp_ne (tgt := 35) dX9_worked_27 (by decide) (fun c10 => ?_) (fun c10 => ?_)
          · refine V_iload_n (i := 0) dX9_worked_35 rfl rfl ?_
            refine V_iload_n (i := 1) dX9_worked_36 rfl rfl ?_
            refine V_iand dX9_worked_37 ?_
            exact V_reti rfl dX9_worked_38 (q9 c1 c7 c8 c9 c10)
          · refine V_bipush dX9_worked_30 (by decide +kernel) ⟨by decide, by decide⟩ ?_
            refine V_goto (tgt := 38) dX9_worked_32 (by decide) ?_
            exact V_reti rfl dX9_worked_38 (q10 c1 c7 c8 c9 c10)
      · refine V_iconst dX9_worked_14 ⟨by decide, by decide⟩ ?_
        refine V_goto (tgt := 38) dX9_worked_15 (by decide) ?_
        exact V_reti rfl dX9_worked_38 (q11 c1 c7 c8)
theorem pX9_worked {d : Nat} {z0 z1 z2 : Int} {h : jH} (s0 : -7 ≤ z0) (s1 : z0 ≤ 255) (s2 : -7 ≤ z1) (s3 : z1 ≤ 255) : Ex MX9_worked d [.inl z0, .inl z1, .inl z2] h 0 0 (fun r h2 => r = some (.inl (jop z2 z0 z1)) ∧ h2 = h) := by
  refine Ex_of_V tX9_worked (Nat.le_of_ble_eq_true rfl) (bX9_worked_0 z0 z1 z2 h ?_ ?_ ?_ ?_ ?_ ?_ ?_ ?_ ?_ ?_ ?_ ?_ ?_)
  all_goals intros
  all_goals first
    | assumption
    | omega
    | (constructor <;> omega)
    | exact ⟨rfl, rfl⟩
    | (refine ⟨congrArg (fun z => some (Sum.inl z)) ?_, rfl⟩; simp [jop, jneg, jlet, jorn, jaft, *]; done)
    | (refine ⟨congrArg (fun z => some (Sum.inl z)) ?_, rfl⟩; simp [jop, jneg, jlet, jorn, jaft, *] <;> omega)
    | (refine ⟨congrArg (fun z => some (Sum.inl z)) ?_, rfl⟩; simp_all [jop, jneg, jlet, jorn, jaft] <;> omega)
    | (simp_all; done)
theorem dX2_negated_0 : decode cX2_negated 0 = .ok (.iload_n 0, 1) := by decide +kernel
theorem dX2_negated_1 : decode cX2_negated 1 = .ok (.bipush (-7), 2) := by decide +kernel
theorem dX2_negated_3 : decode cX2_negated 3 = .ok (.if_icmp .ne 6, 3) := by decide +kernel
theorem dX2_negated_6 : decode cX2_negated 6 = .ok (.bipush (-7), 2) := by decide +kernel
theorem dX2_negated_8 : decode cX2_negated 8 = .ok (.ireturn, 1) := by decide +kernel
theorem dX2_negated_9 : decode cX2_negated 9 = .ok (.iload_n 0, 1) := by decide +kernel
theorem dX2_negated_10 : decode cX2_negated 10 = .ok (.ifCond .ne 7, 3) := by decide +kernel
theorem dX2_negated_13 : decode cX2_negated 13 = .ok (.iconst 1, 1) := by decide +kernel
theorem dX2_negated_14 : decode cX2_negated 14 = .ok (.goto 4, 3) := by decide +kernel
theorem dX2_negated_17 : decode cX2_negated 17 = .ok (.iconst 0, 1) := by decide +kernel
theorem dX2_negated_18 : decode cX2_negated 18 = .ok (.ireturn, 1) := by decide +kernel
theorem bX2_negated_0 {d : Nat} {Q : Option jA → jH → Prop} (i0 : Int) (h : jH)
    (q1 : (i0 ≠ ((-7))) → (i0 ≠ 0) → Q (some (.inl 0)) h)
    (q2 : (i0 ≠ ((-7))) → (i0 = 0) → Q (some (.inl 1)) h)
    (q3 : (i0 = ((-7))) → Q (some (.inl ((-7)))) h) :
    V MX2_negated d 0 [some (.inl i0)] [] h 0 0 Q := by
  refine V_iload_n (i := 0) dX2_negated_0 rfl rfl ?_
  refine V_bipush dX2_negated_1 (by decide +kernel) ⟨by decide, by decide⟩ ?_
  refine V_icmp_ne (tgt := 9) dX2_negated_3 (by decide) (fun c1 => ?_) (fun c1 => ?_)
  · refine V_iload_n (i := 0) dX2_negated_9 rfl rfl ?_
    refine V_if_ne (tgt := 17) dX2_negated_10 (by decide) (fun c2 => ?_) (fun c2 => ?_)
    · refine V_iconst dX2_negated_17 ⟨by decide, by decide⟩ ?_
      exact V_reti rfl dX2_negated_18 (q1 c1 c2)
    · refine V_iconst dX2_negated_13 ⟨by decide, by decide⟩ ?_
      refine V_goto (tgt := 18) dX2_negated_14 (by decide) ?_
      exact V_reti rfl dX2_negated_18 (q2 c1 c2)
  · refine V_bipush dX2_negated_6 (by decide +kernel) ⟨by decide, by decide⟩ ?_
    exact V_reti rfl dX2_negated_8 (q3 c1)
theorem pX2_negated {d : Nat} {z0 : Int} {h : jH}  : Ex MX2_negated d [.inl z0] h 0 0 (fun r h2 => r = some (.inl (jneg z0)) ∧ h2 = h) := by
  refine Ex_of_V tX2_negated (Nat.le_of_ble_eq_true rfl) (bX2_negated_0 z0 h ?_ ?_ ?_)
  all_goals intros
  all_goals first
    | assumption
    | omega
    | (constructor <;> omega)
    | exact ⟨rfl, rfl⟩
    | (refine ⟨congrArg (fun z => some (Sum.inl z)) ?_, rfl⟩; simp [jop, jneg, jlet, jorn, jaft, *]; done)
    | (refine ⟨congrArg (fun z => some (Sum.inl z)) ?_, rfl⟩; simp [jop, jneg, jlet, jorn, jaft, *] <;> omega)
    | (refine ⟨congrArg (fun z => some (Sum.inl z)) ?_, rfl⟩; simp_all [jop, jneg, jlet, jorn, jaft] <;> omega)
    | (simp_all; done)
theorem dX2_joined_0 : decode cX2_joined 0 = .ok (.iload_n 0, 1) := by decide +kernel
theorem dX2_joined_1 : decode cX2_joined 1 = .ok (.bipush 38, 2) := by decide +kernel
theorem dX2_joined_3 : decode cX2_joined 3 = .ok (.if_icmp .ne 13, 3) := by decide +kernel
theorem dX2_joined_6 : decode cX2_joined 6 = .ok (.iload_n 1, 1) := by decide +kernel
theorem dX2_joined_7 : decode cX2_joined 7 = .ok (.ifCond .eq 7, 3) := by decide +kernel
theorem dX2_joined_10 : decode cX2_joined 10 = .ok (.iload_n 2, 1) := by decide +kernel
theorem dX2_joined_11 : decode cX2_joined 11 = .ok (.ifCond .ne 5, 3) := by decide +kernel
theorem dX2_joined_14 : decode cX2_joined 14 = .ok (.iconst 0, 1) := by decide +kernel
theorem dX2_joined_15 : decode cX2_joined 15 = .ok (.ireturn, 1) := by decide +kernel
theorem dX2_joined_16 : decode cX2_joined 16 = .ok (.iload_n 1, 1) := by decide +kernel
theorem dX2_joined_17 : decode cX2_joined 17 = .ok (.bipush (-7), 2) := by decide +kernel
theorem dX2_joined_19 : decode cX2_joined 19 = .ok (.if_icmp .eq 9, 3) := by decide +kernel
theorem dX2_joined_22 : decode cX2_joined 22 = .ok (.iload_n 2, 1) := by decide +kernel
theorem dX2_joined_23 : decode cX2_joined 23 = .ok (.bipush (-7), 2) := by decide +kernel
theorem dX2_joined_25 : decode cX2_joined 25 = .ok (.if_icmp .ne 6, 3) := by decide +kernel
theorem dX2_joined_28 : decode cX2_joined 28 = .ok (.bipush (-7), 2) := by decide +kernel
theorem dX2_joined_30 : decode cX2_joined 30 = .ok (.ireturn, 1) := by decide +kernel
theorem dX2_joined_31 : decode cX2_joined 31 = .ok (.iload_n 0, 1) := by decide +kernel
theorem dX2_joined_32 : decode cX2_joined 32 = .ok (.lookupswitch 64 #[(38, 44), (43, 56), (94, 52), (124, 48)], 44) := by decide +kernel
theorem dX2_joined_76 : decode cX2_joined 76 = .ok (.iload_n 1, 1) := by decide +kernel
theorem dX2_joined_77 : decode cX2_joined 77 = .ok (.iload_n 2, 1) := by decide +kernel
theorem dX2_joined_78 : decode cX2_joined 78 = .ok (.iand, 1) := by decide +kernel
theorem dX2_joined_79 : decode cX2_joined 79 = .ok (.ireturn, 1) := by decide +kernel
theorem dX2_joined_80 : decode cX2_joined 80 = .ok (.iload_n 1, 1) := by decide +kernel
theorem dX2_joined_81 : decode cX2_joined 81 = .ok (.iload_n 2, 1) := by decide +kernel
theorem dX2_joined_82 : decode cX2_joined 82 = .ok (.ior, 1) := by decide +kernel
theorem dX2_joined_83 : decode cX2_joined 83 = .ok (.ireturn, 1) := by decide +kernel
theorem dX2_joined_84 : decode cX2_joined 84 = .ok (.iload_n 1, 1) := by decide +kernel
theorem dX2_joined_85 : decode cX2_joined 85 = .ok (.iload_n 2, 1) := by decide +kernel
theorem dX2_joined_86 : decode cX2_joined 86 = .ok (.ixor, 1) := by decide +kernel
theorem dX2_joined_87 : decode cX2_joined 87 = .ok (.ireturn, 1) := by decide +kernel
theorem dX2_joined_88 : decode cX2_joined 88 = .ok (.iload_n 1, 1) := by decide +kernel
theorem dX2_joined_89 : decode cX2_joined 89 = .ok (.iload_n 2, 1) := by decide +kernel
theorem dX2_joined_90 : decode cX2_joined 90 = .ok (.iadd, 1) := by decide +kernel
theorem dX2_joined_91 : decode cX2_joined 91 = .ok (.sipush 255, 3) := by decide +kernel
theorem dX2_joined_94 : decode cX2_joined 94 = .ok (.iand, 1) := by decide +kernel
theorem dX2_joined_95 : decode cX2_joined 95 = .ok (.ireturn, 1) := by decide +kernel
theorem dX2_joined_96 : decode cX2_joined 96 = .ok (.iload_n 1, 1) := by decide +kernel
theorem dX2_joined_97 : decode cX2_joined 97 = .ok (.iload_n 2, 1) := by decide +kernel
theorem dX2_joined_98 : decode cX2_joined 98 = .ok (.isub, 1) := by decide +kernel
theorem dX2_joined_99 : decode cX2_joined 99 = .ok (.sipush 255, 3) := by decide +kernel
theorem dX2_joined_102 : decode cX2_joined 102 = .ok (.iand, 1) := by decide +kernel
theorem dX2_joined_103 : decode cX2_joined 103 = .ok (.ireturn, 1) := by decide +kernel
theorem bX2_joined_0 {d : Nat} {Q : Option jA → jH → Prop} (i0 : Int) (i1 : Int) (i2 : Int) (h : jH)
    (q1 : (i0 ≠ 38) → (i1 = ((-7))) → Q (some (.inl ((-7)))) h)
    (q2 : (i0 ≠ 38) → (¬ (i1 = ((-7)))) → (i2 ≠ ((-7))) → (i0 = 38) → Q (some (.inl (jand i1 i2))) h)
    (r1 : (i0 ≠ 38) → (¬ (i1 = ((-7)))) → (i2 ≠ ((-7))) → (¬ (i0 = 38)) → (i0 = 43) → jR (i1 + i2))
    (q3 : (i0 ≠ 38) → (¬ (i1 = ((-7)))) → (i2 ≠ ((-7))) → (¬ (i0 = 38)) → (i0 = 43) → Q (some (.inl (jand (i1 + i2) 255))) h)
    (q4 : (i0 ≠ 38) → (¬ (i1 = ((-7)))) → (i2 ≠ ((-7))) → (¬ (i0 = 38)) → (¬ (i0 = 43)) → (i0 = 94) → Q (some (.inl (jxor i1 i2))) h)
    (q5 : (i0 ≠ 38) → (¬ (i1 = ((-7)))) → (i2 ≠ ((-7))) → (¬ (i0 = 38)) → (¬ (i0 = 43)) → (¬ (i0 = 94)) → (i0 = 124) → Q (some (.inl (jor i1 i2))) h)
    (r2 : (i0 ≠ 38) → (¬ (i1 = ((-7)))) → (i2 ≠ ((-7))) → (¬ (i0 = 38)) → (¬ (i0 = 43)) → (¬ (i0 = 94)) → (¬ (i0 = 124)) → jR (i1 - i2))
    (q6 : (i0 ≠ 38) → (¬ (i1 = ((-7)))) → (i2 ≠ ((-7))) → (¬ (i0 = 38)) → (¬ (i0 = 43)) → (¬ (i0 = 94)) → (¬ (i0 = 124)) → Q (some (.inl (jand (i1 - i2) 255))) h)
    (q7 : (i0 ≠ 38) → (¬ (i1 = ((-7)))) → (i2 = ((-7))) → Q (some (.inl ((-7)))) h)
    (q8 : (i0 = 38) → (i1 = 0) → Q (some (.inl 0)) h)
    (q9 : (i0 = 38) → (¬ (i1 = 0)) → (i2 ≠ 0) → (i1 = ((-7))) → Q (some (.inl ((-7)))) h)
    (q10 : (i0 = 38) → (¬ (i1 = 0)) → (i2 ≠ 0) → (¬ (i1 = ((-7)))) → (i2 ≠ ((-7))) → (i0 = 38) → Q (some (.inl (jand i1 i2))) h)
    (r3 : (i0 = 38) → (¬ (i1 = 0)) → (i2 ≠ 0) → (¬ (i1 = ((-7)))) → (i2 ≠ ((-7))) → (¬ (i0 = 38)) → (i0 = 43) → jR (i1 + i2))
    (q11 : (i0 = 38) → (¬ (i1 = 0)) → (i2 ≠ 0) → (¬ (i1 = ((-7)))) → (i2 ≠ ((-7))) → (¬ (i0 = 38)) → (i0 = 43) → Q (some (.inl (jand (i1 + i2) 255))) h)
    (q12 : (i0 = 38) → (¬ (i1 = 0)) → (i2 ≠ 0) → (¬ (i1 = ((-7)))) → (i2 ≠ ((-7))) → (¬ (i0 = 38)) → (¬ (i0 = 43)) → (i0 = 94) → Q (some (.inl (jxor i1 i2))) h)
    (q13 : (i0 = 38) → (¬ (i1 = 0)) → (i2 ≠ 0) → (¬ (i1 = ((-7)))) → (i2 ≠ ((-7))) → (¬ (i0 = 38)) → (¬ (i0 = 43)) → (¬ (i0 = 94)) → (i0 = 124) → Q (some (.inl (jor i1 i2))) h)
    (r4 : (i0 = 38) → (¬ (i1 = 0)) → (i2 ≠ 0) → (¬ (i1 = ((-7)))) → (i2 ≠ ((-7))) → (¬ (i0 = 38)) → (¬ (i0 = 43)) → (¬ (i0 = 94)) → (¬ (i0 = 124)) → jR (i1 - i2))
    (q14 : (i0 = 38) → (¬ (i1 = 0)) → (i2 ≠ 0) → (¬ (i1 = ((-7)))) → (i2 ≠ ((-7))) → (¬ (i0 = 38)) → (¬ (i0 = 43)) → (¬ (i0 = 94)) → (¬ (i0 = 124)) → Q (some (.inl (jand (i1 - i2) 255))) h)
    (q15 : (i0 = 38) → (¬ (i1 = 0)) → (i2 ≠ 0) → (¬ (i1 = ((-7)))) → (i2 = ((-7))) → Q (some (.inl ((-7)))) h)
    (q16 : (i0 = 38) → (¬ (i1 = 0)) → (i2 = 0) → Q (some (.inl 0)) h) :
    V MX2_joined d 0 [some (.inl i0), some (.inl i1), some (.inl i2)] [] h 0 0 Q := by
  refine V_iload_n (i := 0) dX2_joined_0 rfl rfl ?_
  refine V_bipush dX2_joined_1 (by decide +kernel) ⟨by decide, by decide⟩ ?_
  refine V_icmp_ne (tgt := 16) dX2_joined_3 (by decide) (fun c1 => ?_) (fun c1 => ?_)
  · refine V_iload_n (i := 1) dX2_joined_16 rfl rfl ?_
    refine V_bipush dX2_joined_17 (by decide +kernel) ⟨by decide, by decide⟩ ?_
    refine V_icmp_eq (tgt := 28) dX2_joined_19 (by decide) (fun c2 => ?_) (fun c2 => ?_)
    · refine V_bipush dX2_joined_28 (by decide +kernel) ⟨by decide, by decide⟩ ?_
      exact V_reti rfl dX2_joined_30 (q1 c1 c2)
    · refine V_iload_n (i := 2) dX2_joined_22 rfl rfl ?_
      refine V_bipush dX2_joined_23 (by decide +kernel) ⟨by decide, by decide⟩ ?_
      refine V_icmp_ne (tgt := 31) dX2_joined_25 (by decide) (fun c3 => ?_) (fun c3 => ?_)
      · refine V_iload_n (i := 0) dX2_joined_31 rfl rfl ?_
        by_cases c4 : i0 = 38
        · refine V_look (off := 44) (tgt := 76) dX2_joined_32 (by decide) (by rw [c4]; decide) (by decide) ?_
          refine V_iload_n (i := 1) dX2_joined_76 rfl rfl ?_
          refine V_iload_n (i := 2) dX2_joined_77 rfl rfl ?_
          refine V_iand dX2_joined_78 ?_
          exact V_reti rfl dX2_joined_79 (q2 c1 c2 c3 c4)
        by_cases c5 : i0 = 43
        · refine V_look (off := 56) (tgt := 88) dX2_joined_32 (by decide) (by rw [c5]; decide) (by decide) ?_
          refine V_iload_n (i := 1) dX2_joined_88 rfl rfl ?_
          refine V_iload_n (i := 2) dX2_joined_89 rfl rfl ?_
          refine V_iadd dX2_joined_90 (r1 c1 c2 c3 c4 c5) ?_
          refine V_sipush dX2_joined_91 (by decide +kernel) ⟨by decide, by decide⟩ ?_
          refine V_iand dX2_joined_94 ?_
          exact V_reti rfl dX2_joined_95 (q3 c1 c2 c3 c4 c5)
        by_cases c6 : i0 = 94
        · refine V_look (off := 52) (tgt := 84) dX2_joined_32 (by decide) (by rw [c6]; decide) (by decide) ?_
          refine V_iload_n (i := 1) dX2_joined_84 rfl rfl ?_
          refine V_iload_n (i := 2) dX2_joined_85 rfl rfl ?_
          refine V_ixor dX2_joined_86 ?_
          exact V_reti rfl dX2_joined_87 (q4 c1 c2 c3 c4 c5 c6)
        by_cases c7 : i0 = 124
        · refine V_look (off := 48) (tgt := 80) dX2_joined_32 (by decide) (by rw [c7]; decide) (by decide) ?_
          refine V_iload_n (i := 1) dX2_joined_80 rfl rfl ?_
          refine V_iload_n (i := 2) dX2_joined_81 rfl rfl ?_
          refine V_ior dX2_joined_82 ?_
          exact V_reti rfl dX2_joined_83 (q5 c1 c2 c3 c4 c5 c6 c7)
        refine V_look (off := 64) (tgt := 96) dX2_joined_32 (by decide) (by simp [Op.lookupswitch.offset, Ne.symm c4, Ne.symm c5, Ne.symm c6, Ne.symm c7, c4, c5, c6, c7]) (by decide) ?_
        refine V_iload_n (i := 1) dX2_joined_96 rfl rfl ?_
        refine V_iload_n (i := 2) dX2_joined_97 rfl rfl ?_
        refine V_isub dX2_joined_98 (r2 c1 c2 c3 c4 c5 c6 c7) ?_
        refine V_sipush dX2_joined_99 (by decide +kernel) ⟨by decide, by decide⟩ ?_
        refine V_iand dX2_joined_102 ?_
        exact V_reti rfl dX2_joined_103 (q6 c1 c2 c3 c4 c5 c6 c7)
      · refine V_bipush dX2_joined_28 (by decide +kernel) ⟨by decide, by decide⟩ ?_
        exact V_reti rfl dX2_joined_30 (q7 c1 c2 c3)
  · refine V_iload_n (i := 1) dX2_joined_6 rfl rfl ?_
    refine V_if_eq (tgt := 14) dX2_joined_7 (by decide) (fun c8 => ?_) (fun c8 => ?_)
    · refine V_iconst dX2_joined_14 ⟨by decide, by decide⟩ ?_
      exact V_reti rfl dX2_joined_15 (q8 c1 c8)
    · refine V_iload_n (i := 2) dX2_joined_10 rfl rfl ?_
      refine V_if_ne (tgt := 16) dX2_joined_11 (by decide) (fun c9 => ?_) (fun c9 => ?_)
      · refine V_iload_n (i := 1) dX2_joined_16 rfl rfl ?_
        refine V_bipush dX2_joined_17 (by decide +kernel) ⟨by decide, by decide⟩ ?_
        refine V_icmp_eq (tgt := 28) dX2_joined_19 (by decide) (fun c10 => ?_) (fun c10 => ?_)
        · refine V_bipush dX2_joined_28 (by decide +kernel) ⟨by decide, by decide⟩ ?_
          exact V_reti rfl dX2_joined_30 (q9 c1 c8 c9 c10)
        · refine V_iload_n (i := 2) dX2_joined_22 rfl rfl ?_
          refine V_bipush dX2_joined_23 (by decide +kernel) ⟨by decide, by decide⟩ ?_
          refine V_icmp_ne (tgt := 31) dX2_joined_25 (by decide) (fun c11 => ?_) (fun c11 => ?_)
          · refine V_iload_n (i := 0) dX2_joined_31 rfl rfl ?_
            by_cases c12 : i0 = 38
            · refine V_look (off := 44) (tgt := 76) dX2_joined_32 (by decide) (by rw [c12]; decide) (by decide) ?_
              refine V_iload_n (i := 1) dX2_joined_76 rfl rfl ?_
              refine V_iload_n (i := 2) dX2_joined_77 rfl rfl ?_
              refine V_iand dX2_joined_78 ?_
              exact V_reti rfl dX2_joined_79 (q10 c1 c8 c9 c10 c11 c12)
            by_cases c13 : i0 = 43
            · refine V_look (off := 56) (tgt := 88) dX2_joined_32 (by decide) (by rw [c13]; decide) (by decide) ?_
              refine V_iload_n (i := 1) dX2_joined_88 rfl rfl ?_
              refine V_iload_n (i := 2) dX2_joined_89 rfl rfl ?_
              refine V_iadd dX2_joined_90 (r3 c1 c8 c9 c10 c11 c12 c13) ?_
              refine V_sipush dX2_joined_91 (by decide +kernel) ⟨by decide, by decide⟩ ?_
              refine V_iand dX2_joined_94 ?_
              exact V_reti rfl dX2_joined_95 (q11 c1 c8 c9 c10 c11 c12 c13)
            by_cases c14 : i0 = 94
            · refine V_look (off := 52) (tgt := 84) dX2_joined_32 (by decide) (by rw [c14]; decide) (by decide) ?_
              refine V_iload_n (i := 1) dX2_joined_84 rfl rfl ?_
              refine V_iload_n (i := 2) dX2_joined_85 rfl rfl ?_
              refine V_ixor dX2_joined_86 ?_
              exact V_reti rfl dX2_joined_87 (q12 c1 c8 c9 c10 c11 c12 c13 c14)
            by_cases c15 : i0 = 124
            · refine V_look (off := 48) (tgt := 80) dX2_joined_32 (by decide) (by rw [c15]; decide) (by decide) ?_
              refine V_iload_n (i := 1) dX2_joined_80 rfl rfl ?_
              refine V_iload_n (i := 2) dX2_joined_81 rfl rfl ?_
              refine V_ior dX2_joined_82 ?_
              exact V_reti rfl dX2_joined_83 (q13 c1 c8 c9 c10 c11 c12 c13 c14 c15)
            refine V_look (off := 64) (tgt := 96) dX2_joined_32 (by decide) (by simp [Op.lookupswitch.offset, Ne.symm c12, Ne.symm c13, Ne.symm c14, Ne.symm c15, c12, c13, c14, c15]) (by decide) ?_
            refine V_iload_n (i := 1) dX2_joined_96 rfl rfl ?_
            refine V_iload_n (i := 2) dX2_joined_97 rfl rfl ?_
            refine V_isub dX2_joined_98 (r4 c1 c8 c9 c10 c11 c12 c13 c14 c15) ?_
            refine V_sipush dX2_joined_99 (by decide +kernel) ⟨by decide, by decide⟩ ?_
            refine V_iand dX2_joined_102 ?_
            exact V_reti rfl dX2_joined_103 (q14 c1 c8 c9 c10 c11 c12 c13 c14 c15)
          · refine V_bipush dX2_joined_28 (by decide +kernel) ⟨by decide, by decide⟩ ?_
            exact V_reti rfl dX2_joined_30 (q15 c1 c8 c9 c10 c11)
      · refine V_iconst dX2_joined_14 ⟨by decide, by decide⟩ ?_
        exact V_reti rfl dX2_joined_15 (q16 c1 c8 c9)
theorem pX2_joined {d : Nat} {z0 z1 z2 : Int} {h : jH} (s0 : -7 ≤ z1) (s1 : z1 ≤ 255) (s2 : -7 ≤ z2) (s3 : z2 ≤ 255) : Ex MX2_joined d [.inl z0, .inl z1, .inl z2] h 0 0 (fun r h2 => r = some (.inl (jop z0 z1 z2)) ∧ h2 = h) := by
  refine Ex_of_V tX2_joined (Nat.le_of_ble_eq_true rfl) (bX2_joined_0 z0 z1 z2 h ?_ ?_ ?_ ?_ ?_ ?_ ?_ ?_ ?_ ?_ ?_ ?_ ?_ ?_ ?_ ?_ ?_ ?_ ?_ ?_)
  all_goals intros
  all_goals first
    | assumption
    | omega
    | (constructor <;> omega)
    | exact ⟨rfl, rfl⟩
    | (refine ⟨congrArg (fun z => some (Sum.inl z)) ?_, rfl⟩; simp [jop, jneg, jlet, jorn, jaft, *]; done)
    | (refine ⟨congrArg (fun z => some (Sum.inl z)) ?_, rfl⟩; simp [jop, jneg, jlet, jorn, jaft, *] <;> omega)
    | (refine ⟨congrArg (fun z => some (Sum.inl z)) ?_, rfl⟩; simp_all [jop, jneg, jlet, jorn, jaft] <;> omega)
    | (simp_all; done)
theorem dX7_letter_0 : decode cX7_letter 0 = .ok (.aload_n 0, 1) := by decide +kernel
theorem dX7_letter_1 : decode cX7_letter 1 = .ok (.getfield 28, 3) := by decide +kernel
theorem dX7_letter_4 : decode cX7_letter 4 = .ok (.bipush 97, 2) := by decide +kernel
theorem dX7_letter_6 : decode cX7_letter 6 = .ok (.if_icmp .lt 22, 3) := by decide +kernel
theorem dX7_letter_9 : decode cX7_letter 9 = .ok (.aload_n 0, 1) := by decide +kernel
theorem dX7_letter_10 : decode cX7_letter 10 = .ok (.getfield 28, 3) := by decide +kernel
theorem dX7_letter_13 : decode cX7_letter 13 = .ok (.bipush 122, 2) := by decide +kernel
theorem dX7_letter_15 : decode cX7_letter 15 = .ok (.if_icmp .gt 13, 3) := by decide +kernel
theorem dX7_letter_18 : decode cX7_letter 18 = .ok (.aload_n 0, 1) := by decide +kernel
theorem dX7_letter_19 : decode cX7_letter 19 = .ok (.getfield 28, 3) := by decide +kernel
theorem dX7_letter_22 : decode cX7_letter 22 = .ok (.bipush 97, 2) := by decide +kernel
theorem dX7_letter_24 : decode cX7_letter 24 = .ok (.isub, 1) := by decide +kernel
theorem dX7_letter_25 : decode cX7_letter 25 = .ok (.goto 5, 3) := by decide +kernel
theorem dX7_letter_28 : decode cX7_letter 28 = .ok (.bipush (-9), 2) := by decide +kernel
theorem dX7_letter_30 : decode cX7_letter 30 = .ok (.ireturn, 1) := by decide +kernel
theorem bX7_letter_0 {d : Nat} {Q : Option jA → jH → Prop} (a0 : Nat) (h : jH)
    (s1 : (jS h a0).1 = 7)
    (q1 : ((jI h a0 4) < 97) → Q (some (.inl ((-9)))) h)
    (q2 : (¬ ((jI h a0 4) < 97)) → (122 < (jI h a0 4)) → Q (some (.inl ((-9)))) h)
    (r1 : (¬ ((jI h a0 4) < 97)) → (¬ (122 < (jI h a0 4))) → jR ((jI h a0 4) - 97))
    (q3 : (¬ ((jI h a0 4) < 97)) → (¬ (122 < (jI h a0 4))) → Q (some (.inl ((jI h a0 4) - 97))) h) :
    V MX7_letter d 0 [some (.inr a0)] [] h 0 0 Q := by
  refine V_aload_n (i := 0) dX7_letter_0 rfl rfl ?_
  refine V_getI dX7_letter_1 fX7_28 rfl s1 ?_
  refine V_bipush dX7_letter_4 (by decide +kernel) ⟨by decide, by decide⟩ ?_
  refine V_icmp_lt (tgt := 28) dX7_letter_6 (by decide) (fun c1 => ?_) (fun c1 => ?_)
  · refine V_bipush dX7_letter_28 (by decide +kernel) ⟨by decide, by decide⟩ ?_
    exact V_reti rfl dX7_letter_30 (q1 c1)
  · refine V_aload_n (i := 0) dX7_letter_9 rfl rfl ?_
    refine V_getI dX7_letter_10 fX7_28 rfl s1 ?_
    refine V_bipush dX7_letter_13 (by decide +kernel) ⟨by decide, by decide⟩ ?_
    refine V_icmp_gt (tgt := 28) dX7_letter_15 (by decide) (fun c2 => ?_) (fun c2 => ?_)
    · refine V_bipush dX7_letter_28 (by decide +kernel) ⟨by decide, by decide⟩ ?_
      exact V_reti rfl dX7_letter_30 (q2 c1 c2)
    · refine V_aload_n (i := 0) dX7_letter_18 rfl rfl ?_
      refine V_getI dX7_letter_19 fX7_28 rfl s1 ?_
      refine V_bipush dX7_letter_22 (by decide +kernel) ⟨by decide, by decide⟩ ?_
      refine V_isub dX7_letter_24 (r1 c1 c2) ?_
      refine V_goto (tgt := 30) dX7_letter_25 (by decide) ?_
      exact V_reti rfl dX7_letter_30 (q3 c1 c2)
theorem pX7_letter {d : Nat} {r0 : Nat} {h : jH} (s0 : (jS h r0).1 = 7) : Ex MX7_letter d [.inr r0] h 0 0 (fun r h2 => r = some (.inl (jlet (jI h r0 4))) ∧ h2 = h) := by
  refine Ex_of_V tX7_letter (Nat.le_of_ble_eq_true rfl) (bX7_letter_0 r0 h ?_ ?_ ?_ ?_ ?_)
  all_goals intros
  all_goals first
    | assumption
    | omega
    | (constructor <;> omega)
    | exact ⟨rfl, rfl⟩
    | (refine ⟨congrArg (fun z => some (Sum.inl z)) ?_, rfl⟩; simp [jop, jneg, jlet, jorn, jaft, *]; done)
    | (refine ⟨congrArg (fun z => some (Sum.inl z)) ?_, rfl⟩; simp [jop, jneg, jlet, jorn, jaft, *] <;> omega)
    | (refine ⟨congrArg (fun z => some (Sum.inl z)) ?_, rfl⟩; simp_all [jop, jneg, jlet, jorn, jaft] <;> omega)
    | (simp_all; done)
theorem dX5_isOperator_0 : decode cX5_isOperator 0 = .ok (.iload_n 0, 1) := by decide +kernel
theorem dX5_isOperator_1 : decode cX5_isOperator 1 = .ok (.bipush 38, 2) := by decide +kernel
theorem dX5_isOperator_3 : decode cX5_isOperator 3 = .ok (.if_icmp .eq 27, 3) := by decide +kernel
theorem dX5_isOperator_6 : decode cX5_isOperator 6 = .ok (.iload_n 0, 1) := by decide +kernel
theorem dX5_isOperator_7 : decode cX5_isOperator 7 = .ok (.bipush 124, 2) := by decide +kernel
theorem dX5_isOperator_9 : decode cX5_isOperator 9 = .ok (.if_icmp .eq 21, 3) := by decide +kernel
theorem dX5_isOperator_12 : decode cX5_isOperator 12 = .ok (.iload_n 0, 1) := by decide +kernel
theorem dX5_isOperator_13 : decode cX5_isOperator 13 = .ok (.bipush 94, 2) := by decide +kernel
theorem dX5_isOperator_15 : decode cX5_isOperator 15 = .ok (.if_icmp .eq 15, 3) := by decide +kernel
theorem dX5_isOperator_18 : decode cX5_isOperator 18 = .ok (.iload_n 0, 1) := by decide +kernel
theorem dX5_isOperator_19 : decode cX5_isOperator 19 = .ok (.bipush 43, 2) := by decide +kernel
theorem dX5_isOperator_21 : decode cX5_isOperator 21 = .ok (.if_icmp .eq 9, 3) := by decide +kernel
theorem dX5_isOperator_24 : decode cX5_isOperator 24 = .ok (.iload_n 0, 1) := by decide +kernel
theorem dX5_isOperator_25 : decode cX5_isOperator 25 = .ok (.bipush 45, 2) := by decide +kernel
theorem dX5_isOperator_27 : decode cX5_isOperator 27 = .ok (.if_icmp .ne 7, 3) := by decide +kernel
theorem dX5_isOperator_30 : decode cX5_isOperator 30 = .ok (.iconst 1, 1) := by decide +kernel
theorem dX5_isOperator_31 : decode cX5_isOperator 31 = .ok (.goto 4, 3) := by decide +kernel
theorem dX5_isOperator_34 : decode cX5_isOperator 34 = .ok (.iconst 0, 1) := by decide +kernel
theorem dX5_isOperator_35 : decode cX5_isOperator 35 = .ok (.ireturn, 1) := by decide +kernel
theorem bX5_isOperator_0 {d : Nat} {Q : Option jA → jH → Prop} (i0 : Int) (h : jH)
    (q1 : (i0 = 38) → Q (some (.inl 1)) h)
    (q2 : (¬ (i0 = 38)) → (i0 = 124) → Q (some (.inl 1)) h)
    (q3 : (¬ (i0 = 38)) → (¬ (i0 = 124)) → (i0 = 94) → Q (some (.inl 1)) h)
    (q4 : (¬ (i0 = 38)) → (¬ (i0 = 124)) → (¬ (i0 = 94)) → (i0 = 43) → Q (some (.inl 1)) h)
    (q5 : (¬ (i0 = 38)) → (¬ (i0 = 124)) → (¬ (i0 = 94)) → (¬ (i0 = 43)) → (i0 ≠ 45) → Q (some (.inl 0)) h)
    (q6 : (¬ (i0 = 38)) → (¬ (i0 = 124)) → (¬ (i0 = 94)) → (¬ (i0 = 43)) → (i0 = 45) → Q (some (.inl 1)) h) :
    V MX5_isOperator d 0 [some (.inl i0)] [] h 0 0 Q := by
  refine V_iload_n (i := 0) dX5_isOperator_0 rfl rfl ?_
  refine V_bipush dX5_isOperator_1 (by decide +kernel) ⟨by decide, by decide⟩ ?_
  refine V_icmp_eq (tgt := 30) dX5_isOperator_3 (by decide) (fun c1 => ?_) (fun c1 => ?_)
  · refine V_iconst dX5_isOperator_30 ⟨by decide, by decide⟩ ?_
    refine V_goto (tgt := 35) dX5_isOperator_31 (by decide) ?_
    exact V_retz rfl dX5_isOperator_35 (by decide) (q1 c1)
  · refine V_iload_n (i := 0) dX5_isOperator_6 rfl rfl ?_
    refine V_bipush dX5_isOperator_7 (by decide +kernel) ⟨by decide, by decide⟩ ?_
    refine V_icmp_eq (tgt := 30) dX5_isOperator_9 (by decide) (fun c2 => ?_) (fun c2 => ?_)
    · refine V_iconst dX5_isOperator_30 ⟨by decide, by decide⟩ ?_
      refine V_goto (tgt := 35) dX5_isOperator_31 (by decide) ?_
      exact V_retz rfl dX5_isOperator_35 (by decide) (q2 c1 c2)
    · refine V_iload_n (i := 0) dX5_isOperator_12 rfl rfl ?_
      refine V_bipush dX5_isOperator_13 (by decide +kernel) ⟨by decide, by decide⟩ ?_
      refine V_icmp_eq (tgt := 30) dX5_isOperator_15 (by decide) (fun c3 => ?_) (fun c3 => ?_)
      · refine V_iconst dX5_isOperator_30 ⟨by decide, by decide⟩ ?_
        refine V_goto (tgt := 35) dX5_isOperator_31 (by decide) ?_
        exact V_retz rfl dX5_isOperator_35 (by decide) (q3 c1 c2 c3)
      · refine V_iload_n (i := 0) dX5_isOperator_18 rfl rfl ?_
        refine V_bipush dX5_isOperator_19 (by decide +kernel) ⟨by decide, by decide⟩ ?_
        refine V_icmp_eq (tgt := 30) dX5_isOperator_21 (by decide) (fun c4 => ?_) (fun c4 => ?_)
        · refine V_iconst dX5_isOperator_30 ⟨by decide, by decide⟩ ?_
          refine V_goto (tgt := 35) dX5_isOperator_31 (by decide) ?_
          exact V_retz rfl dX5_isOperator_35 (by decide) (q4 c1 c2 c3 c4)
        · refine V_iload_n (i := 0) dX5_isOperator_24 rfl rfl ?_
          refine V_bipush dX5_isOperator_25 (by decide +kernel) ⟨by decide, by decide⟩ ?_
          refine V_icmp_ne (tgt := 34) dX5_isOperator_27 (by decide) (fun c5 => ?_) (fun c5 => ?_)
          · refine V_iconst dX5_isOperator_34 ⟨by decide, by decide⟩ ?_
            exact V_retz rfl dX5_isOperator_35 (by decide) (q5 c1 c2 c3 c4 c5)
          · refine V_iconst dX5_isOperator_30 ⟨by decide, by decide⟩ ?_
            refine V_goto (tgt := 35) dX5_isOperator_31 (by decide) ?_
            exact V_retz rfl dX5_isOperator_35 (by decide) (q6 c1 c2 c3 c4 c5)
theorem pX5_isOperator {d : Nat} {z0 : Int} {h : jH}  : Ex MX5_isOperator d [.inl z0] h 0 0 (fun r h2 => r = some (.inl (jb (z0 = 38 ∨ z0 = 124 ∨ z0 = 94 ∨ z0 = 43 ∨ z0 = 45))) ∧ h2 = h) := by
  refine Ex_of_V tX5_isOperator (Nat.le_of_ble_eq_true rfl) (bX5_isOperator_0 z0 h ?_ ?_ ?_ ?_ ?_ ?_)
  all_goals intros
  all_goals first
    | assumption
    | omega
    | (constructor <;> omega)
    | (refine ⟨?_, rfl⟩; rw [jb_t]; first | omega | (refine ⟨?_, ?_⟩ <;> omega) | (refine ⟨?_, ?_, ?_⟩ <;> first | assumption | omega) | (simp_all; done))
    | (refine ⟨?_, rfl⟩; rw [jb_f]; first | omega | (simp_all; done))
    | (simp_all; done)
theorem dX8_isSignal_0 : decode cX8_isSignal 0 = .ok (.iload_n 1, 1) := by decide +kernel
theorem dX8_isSignal_1 : decode cX8_isSignal 1 = .ok (.ifCond .lt 18, 3) := by decide +kernel
theorem dX8_isSignal_4 : decode cX8_isSignal 4 = .ok (.iload_n 1, 1) := by decide +kernel
theorem dX8_isSignal_5 : decode cX8_isSignal 5 = .ok (.aload_n 0, 1) := by decide +kernel
theorem dX8_isSignal_6 : decode cX8_isSignal 6 = .ok (.getfield 19, 3) := by decide +kernel
theorem dX8_isSignal_9 : decode cX8_isSignal 9 = .ok (.getfield 234, 3) := by decide +kernel
theorem dX8_isSignal_12 : decode cX8_isSignal 12 = .ok (.if_icmp .ge 7, 3) := by decide +kernel
theorem dX8_isSignal_15 : decode cX8_isSignal 15 = .ok (.iconst 1, 1) := by decide +kernel
theorem dX8_isSignal_16 : decode cX8_isSignal 16 = .ok (.goto 4, 3) := by decide +kernel
theorem dX8_isSignal_19 : decode cX8_isSignal 19 = .ok (.iconst 0, 1) := by decide +kernel
theorem dX8_isSignal_20 : decode cX8_isSignal 20 = .ok (.ireturn, 1) := by decide +kernel
theorem bX8_isSignal_0 {d : Nat} {Q : Option jA → jH → Prop} (a0 : Nat) (i1 : Int) (h : jH)
    (q1 : (i1 < 0) → Q (some (.inl 0)) h)
    (s1 : (jS h a0).1 = 8)
    (s2 : (jS h (jP h a0 1)).1 = 2)
    (q2 : (¬ (i1 < 0)) → ((jI h (jP h a0 1) 0) ≤ i1) → Q (some (.inl 0)) h)
    (q3 : (¬ (i1 < 0)) → (¬ ((jI h (jP h a0 1) 0) ≤ i1)) → Q (some (.inl 1)) h) :
    V MX8_isSignal d 0 [some (.inr a0), some (.inl i1)] [] h 0 0 Q := by
  refine V_iload_n (i := 1) dX8_isSignal_0 rfl rfl ?_
  refine V_if_lt (tgt := 19) dX8_isSignal_1 (by decide) (fun c1 => ?_) (fun c1 => ?_)
  · refine V_iconst dX8_isSignal_19 ⟨by decide, by decide⟩ ?_
    exact V_retz rfl dX8_isSignal_20 (by decide) (q1 c1)
  · refine V_iload_n (i := 1) dX8_isSignal_4 rfl rfl ?_
    refine V_aload_n (i := 0) dX8_isSignal_5 rfl rfl ?_
    refine V_getP dX8_isSignal_6 fX8_19 rfl s1 ?_
    refine V_getI dX8_isSignal_9 fX8_234 rfl s2 ?_
    refine V_icmp_ge (tgt := 19) dX8_isSignal_12 (by decide) (fun c2 => ?_) (fun c2 => ?_)
    · refine V_iconst dX8_isSignal_19 ⟨by decide, by decide⟩ ?_
      exact V_retz rfl dX8_isSignal_20 (by decide) (q2 c1 c2)
    · refine V_iconst dX8_isSignal_15 ⟨by decide, by decide⟩ ?_
      refine V_goto (tgt := 20) dX8_isSignal_16 (by decide) ?_
      exact V_retz rfl dX8_isSignal_20 (by decide) (q3 c1 c2)
theorem pX8_isSignal {d : Nat} {z1 : Int} {r0 : Nat} {h : jH} (s0 : (jS h r0).1 = 8) (s1 : (jS h (jP h r0 1)).1 = 2) : Ex MX8_isSignal d [.inr r0, .inl z1] h 0 0 (fun r h2 => r = some (.inl (jb (0 ≤ z1 ∧ z1 < (jI h (jP h r0 1) 0)))) ∧ h2 = h) := by
  refine Ex_of_V tX8_isSignal (Nat.le_of_ble_eq_true rfl) (bX8_isSignal_0 r0 z1 h ?_ ?_ ?_ ?_ ?_)
  all_goals intros
  all_goals first
    | assumption
    | omega
    | (constructor <;> omega)
    | (refine ⟨?_, rfl⟩; rw [jb_t]; first | omega | (refine ⟨?_, ?_⟩ <;> omega) | (refine ⟨?_, ?_, ?_⟩ <;> first | assumption | omega) | (simp_all; done))
    | (refine ⟨?_, rfl⟩; rw [jb_f]; first | omega | (simp_all; done))
    | (simp_all; done)
theorem dX8_isWire_0 : decode cX8_isWire 0 = .ok (.aload_n 0, 1) := by decide +kernel
theorem dX8_isWire_1 : decode cX8_isWire 1 = .ok (.iload_n 1, 1) := by decide +kernel
theorem dX8_isWire_2 : decode cX8_isWire 2 = .ok (.invokevirtual 126, 3) := by decide +kernel
theorem dX8_isWire_5 : decode cX8_isWire 5 = .ok (.ifCond .eq 19, 3) := by decide +kernel
theorem dX8_isWire_8 : decode cX8_isWire 8 = .ok (.aload_n 0, 1) := by decide +kernel
theorem dX8_isWire_9 : decode cX8_isWire 9 = .ok (.getfield 19, 3) := by decide +kernel
theorem dX8_isWire_12 : decode cX8_isWire 12 = .ok (.getfield 130, 3) := by decide +kernel
theorem dX8_isWire_15 : decode cX8_isWire 15 = .ok (.iload_n 1, 1) := by decide +kernel
theorem dX8_isWire_16 : decode cX8_isWire 16 = .ok (.iaload, 1) := by decide +kernel
theorem dX8_isWire_17 : decode cX8_isWire 17 = .ok (.ifCond .ne 7, 3) := by decide +kernel
theorem dX8_isWire_20 : decode cX8_isWire 20 = .ok (.iconst 1, 1) := by decide +kernel
theorem dX8_isWire_21 : decode cX8_isWire 21 = .ok (.goto 4, 3) := by decide +kernel
theorem dX8_isWire_24 : decode cX8_isWire 24 = .ok (.iconst 0, 1) := by decide +kernel
theorem dX8_isWire_25 : decode cX8_isWire 25 = .ok (.ireturn, 1) := by decide +kernel
theorem bX8_isWire_0 {d : Nat} {Q : Option jA → jH → Prop} (a0 : Nat) (i1 : Int) (h : jH)
    (s1 : (jS h a0).1 = 8)
    (s2 : (jS h (jP h a0 1)).1 = 2)
    (q1 : (¬ (0 ≤ i1 ∧ i1 < (jI h (jP h a0 1) 0))) → Q (some (.inl 0)) h)
    (s3 : (jS h (jP h (jP h a0 1) 4)).1 = 16)
    (s4 : (0 ≤ i1 ∧ i1 < (jI h (jP h a0 1) 0)) → 0 ≤ i1)
    (s5 : (0 ≤ i1 ∧ i1 < (jI h (jP h a0 1) 0)) → i1 < ((jS h (jP h (jP h a0 1) 4)).2 : Int))
    (q2 : (0 ≤ i1 ∧ i1 < (jI h (jP h a0 1) 0)) → ((jX h (jP h (jP h a0 1) 4) ((i1).toNat)) ≠ 0) → Q (some (.inl 0)) h)
    (q3 : (0 ≤ i1 ∧ i1 < (jI h (jP h a0 1) 0)) → ((jX h (jP h (jP h a0 1) 4) ((i1).toNat)) = 0) → Q (some (.inl 1)) h) :
    V MX8_isWire (d + 1) 0 [some (.inr a0), some (.inl i1)] [] h 0 0 Q := by
  refine V_aload_n (i := 0) dX8_isWire_0 rfl rfl ?_
  refine V_iload_n (i := 1) dX8_isWire_1 rfl rfl ?_
  refine V_callV (M := MX8_isWire) (d := (d + 1)) (mc' := 0) (ms' := 0) (mc := 0) (ms := 0) (As := [.inl i1]) (rest := []) dX8_isWire_2 tX8_isSignal vX8_isSignal lX8_126 s1 ⟨by decide, rfl⟩ rfl rfl (Nat.le_of_ble_eq_true rfl) (show d + 1 ≤ (d + 1) by omega) (Ex.mono (pX8_isSignal (d := d) s1 s2) ?_)
  intro v h2 hq
  rw [hq.1, hq.2]
  show V MX8_isWire (d + 1) 5 [some (.inr a0), some (.inl i1)] [.inl (jb (0 ≤ i1 ∧ i1 < (jI h (jP h a0 1) 0)))] h 0 0 Q
  refine V_ifb_eq (tgt := 24) dX8_isWire_5 (by decide) (fun c1 => ?_) (fun c1 => ?_)
  · refine V_iconst dX8_isWire_24 ⟨by decide, by decide⟩ ?_
    exact V_retz rfl dX8_isWire_25 (by decide) (q1 c1)
  · refine V_aload_n (i := 0) dX8_isWire_8 rfl rfl ?_
    refine V_getP dX8_isWire_9 fX8_19 rfl s1 ?_
    refine V_getP dX8_isWire_12 fX8_130 rfl s2 ?_
    refine V_iload_n (i := 1) dX8_isWire_15 rfl rfl ?_
    refine V_iald dX8_isWire_16 s3 (s4 c1) (s5 c1) ?_
    refine V_if_ne (tgt := 24) dX8_isWire_17 (by decide) (fun c2 => ?_) (fun c2 => ?_)
    · refine V_iconst dX8_isWire_24 ⟨by decide, by decide⟩ ?_
      exact V_retz rfl dX8_isWire_25 (by decide) (q2 c1 c2)
    · refine V_iconst dX8_isWire_20 ⟨by decide, by decide⟩ ?_
      refine V_goto (tgt := 25) dX8_isWire_21 (by decide) ?_
      exact V_retz rfl dX8_isWire_25 (by decide) (q3 c1 c2)
theorem pX8_isWire {d : Nat} {z1 : Int} {r0 : Nat} {h : jH} (s0 : (jS h r0).1 = 8) (s1 : (jS h (jP h r0 1)).1 = 2) (s2 : (jS h (jP h (jP h r0 1) 4)).1 = 16) (s3 : (jS h (jP h (jP h r0 1) 4)).2 = 12) (s4 : jI h (jP h r0 1) 0 ≤ 12) : Ex MX8_isWire (d + 1) [.inr r0, .inl z1] h 0 0 (fun r h2 => r = some (.inl (jb (0 ≤ z1 ∧ z1 < (jI h (jP h r0 1) 0) ∧ (jX h (jP h (jP h r0 1) 4) (z1.toNat)) = 0))) ∧ h2 = h) := by
  refine Ex_of_V tX8_isWire (Nat.le_of_ble_eq_true rfl) (bX8_isWire_0 r0 z1 h ?_ ?_ ?_ ?_ ?_ ?_ ?_ ?_)
  all_goals intros
  all_goals first
    | assumption
    | omega
    | (constructor <;> omega)
    | (refine ⟨?_, rfl⟩; rw [jb_t]; first | omega | (refine ⟨?_, ?_⟩ <;> omega) | (refine ⟨?_, ?_, ?_⟩ <;> first | assumption | omega) | (simp_all; done))
    | (refine ⟨?_, rfl⟩; rw [jb_f]; first | omega | (simp_all; done))
    | (simp_all; done)
theorem dX8_isBlock_0 : decode cX8_isBlock 0 = .ok (.iload_n 1, 1) := by decide +kernel
theorem dX8_isBlock_1 : decode cX8_isBlock 1 = .ok (.ifCond .lt 18, 3) := by decide +kernel
theorem dX8_isBlock_4 : decode cX8_isBlock 4 = .ok (.iload_n 1, 1) := by decide +kernel
theorem dX8_isBlock_5 : decode cX8_isBlock 5 = .ok (.aload_n 0, 1) := by decide +kernel
theorem dX8_isBlock_6 : decode cX8_isBlock 6 = .ok (.getfield 38, 3) := by decide +kernel
theorem dX8_isBlock_9 : decode cX8_isBlock 9 = .ok (.getfield 193, 3) := by decide +kernel
theorem dX8_isBlock_12 : decode cX8_isBlock 12 = .ok (.if_icmp .ge 7, 3) := by decide +kernel
theorem dX8_isBlock_15 : decode cX8_isBlock 15 = .ok (.iconst 1, 1) := by decide +kernel
theorem dX8_isBlock_16 : decode cX8_isBlock 16 = .ok (.goto 4, 3) := by decide +kernel
theorem dX8_isBlock_19 : decode cX8_isBlock 19 = .ok (.iconst 0, 1) := by decide +kernel
theorem dX8_isBlock_20 : decode cX8_isBlock 20 = .ok (.ireturn, 1) := by decide +kernel
theorem bX8_isBlock_0 {d : Nat} {Q : Option jA → jH → Prop} (a0 : Nat) (i1 : Int) (h : jH)
    (q1 : (i1 < 0) → Q (some (.inl 0)) h)
    (s1 : (jS h a0).1 = 8)
    (s2 : (jS h (jP h a0 4)).1 = 6)
    (q2 : (¬ (i1 < 0)) → ((jI h (jP h a0 4) 4) ≤ i1) → Q (some (.inl 0)) h)
    (q3 : (¬ (i1 < 0)) → (¬ ((jI h (jP h a0 4) 4) ≤ i1)) → Q (some (.inl 1)) h) :
    V MX8_isBlock d 0 [some (.inr a0), some (.inl i1)] [] h 0 0 Q := by
  refine V_iload_n (i := 1) dX8_isBlock_0 rfl rfl ?_
  refine V_if_lt (tgt := 19) dX8_isBlock_1 (by decide) (fun c1 => ?_) (fun c1 => ?_)
  · refine V_iconst dX8_isBlock_19 ⟨by decide, by decide⟩ ?_
    exact V_retz rfl dX8_isBlock_20 (by decide) (q1 c1)
  · refine V_iload_n (i := 1) dX8_isBlock_4 rfl rfl ?_
    refine V_aload_n (i := 0) dX8_isBlock_5 rfl rfl ?_
    refine V_getP dX8_isBlock_6 fX8_38 rfl s1 ?_
    refine V_getI dX8_isBlock_9 fX8_193 rfl s2 ?_
    refine V_icmp_ge (tgt := 19) dX8_isBlock_12 (by decide) (fun c2 => ?_) (fun c2 => ?_)
    · refine V_iconst dX8_isBlock_19 ⟨by decide, by decide⟩ ?_
      exact V_retz rfl dX8_isBlock_20 (by decide) (q2 c1 c2)
    · refine V_iconst dX8_isBlock_15 ⟨by decide, by decide⟩ ?_
      refine V_goto (tgt := 20) dX8_isBlock_16 (by decide) ?_
      exact V_retz rfl dX8_isBlock_20 (by decide) (q3 c1 c2)
theorem pX8_isBlock {d : Nat} {z1 : Int} {r0 : Nat} {h : jH} (s0 : (jS h r0).1 = 8) (s1 : (jS h (jP h r0 4)).1 = 6) : Ex MX8_isBlock d [.inr r0, .inl z1] h 0 0 (fun r h2 => r = some (.inl (jb (0 ≤ z1 ∧ z1 < (jI h (jP h r0 4) 4)))) ∧ h2 = h) := by
  refine Ex_of_V tX8_isBlock (Nat.le_of_ble_eq_true rfl) (bX8_isBlock_0 r0 z1 h ?_ ?_ ?_ ?_ ?_)
  all_goals intros
  all_goals first
    | assumption
    | omega
    | (constructor <;> omega)
    | (refine ⟨?_, rfl⟩; rw [jb_t]; first | omega | (refine ⟨?_, ?_⟩ <;> omega) | (refine ⟨?_, ?_, ?_⟩ <;> first | assumption | omega) | (simp_all; done))
    | (refine ⟨?_, rfl⟩; rw [jb_f]; first | omega | (simp_all; done))
    | (simp_all; done)
theorem dX8_isPast_0 : decode cX8_isPast 0 = .ok (.iload_n 1, 1) := by decide +kernel
theorem dX8_isPast_1 : decode cX8_isPast 1 = .ok (.ifCond .lt 18, 3) := by decide +kernel
theorem dX8_isPast_4 : decode cX8_isPast 4 = .ok (.iload_n 1, 1) := by decide +kernel
theorem dX8_isPast_5 : decode cX8_isPast 5 = .ok (.aload_n 0, 1) := by decide +kernel
theorem dX8_isPast_6 : decode cX8_isPast 6 = .ok (.getfield 38, 3) := by decide +kernel
theorem dX8_isPast_9 : decode cX8_isPast 9 = .ok (.getfield 186, 3) := by decide +kernel
theorem dX8_isPast_12 : decode cX8_isPast 12 = .ok (.if_icmp .gt 7, 3) := by decide +kernel
theorem dX8_isPast_15 : decode cX8_isPast 15 = .ok (.iconst 1, 1) := by decide +kernel
theorem dX8_isPast_16 : decode cX8_isPast 16 = .ok (.goto 4, 3) := by decide +kernel
theorem dX8_isPast_19 : decode cX8_isPast 19 = .ok (.iconst 0, 1) := by decide +kernel
theorem dX8_isPast_20 : decode cX8_isPast 20 = .ok (.ireturn, 1) := by decide +kernel
theorem bX8_isPast_0 {d : Nat} {Q : Option jA → jH → Prop} (a0 : Nat) (i1 : Int) (h : jH)
    (q1 : (i1 < 0) → Q (some (.inl 0)) h)
    (s1 : (jS h a0).1 = 8)
    (s2 : (jS h (jP h a0 4)).1 = 6)
    (q2 : (¬ (i1 < 0)) → ((jI h (jP h a0 4) 0) < i1) → Q (some (.inl 0)) h)
    (q3 : (¬ (i1 < 0)) → (¬ ((jI h (jP h a0 4) 0) < i1)) → Q (some (.inl 1)) h) :
    V MX8_isPast d 0 [some (.inr a0), some (.inl i1)] [] h 0 0 Q := by
  refine V_iload_n (i := 1) dX8_isPast_0 rfl rfl ?_
  refine V_if_lt (tgt := 19) dX8_isPast_1 (by decide) (fun c1 => ?_) (fun c1 => ?_)
  · refine V_iconst dX8_isPast_19 ⟨by decide, by decide⟩ ?_
    exact V_retz rfl dX8_isPast_20 (by decide) (q1 c1)
  · refine V_iload_n (i := 1) dX8_isPast_4 rfl rfl ?_
    refine V_aload_n (i := 0) dX8_isPast_5 rfl rfl ?_
    refine V_getP dX8_isPast_6 fX8_38 rfl s1 ?_
    refine V_getI dX8_isPast_9 fX8_186 rfl s2 ?_
    refine V_icmp_gt (tgt := 19) dX8_isPast_12 (by decide) (fun c2 => ?_) (fun c2 => ?_)
    · refine V_iconst dX8_isPast_19 ⟨by decide, by decide⟩ ?_
      exact V_retz rfl dX8_isPast_20 (by decide) (q2 c1 c2)
    · refine V_iconst dX8_isPast_15 ⟨by decide, by decide⟩ ?_
      refine V_goto (tgt := 20) dX8_isPast_16 (by decide) ?_
      exact V_retz rfl dX8_isPast_20 (by decide) (q3 c1 c2)
theorem pX8_isPast {d : Nat} {z1 : Int} {r0 : Nat} {h : jH} (s0 : (jS h r0).1 = 8) (s1 : (jS h (jP h r0 4)).1 = 6) : Ex MX8_isPast d [.inr r0, .inl z1] h 0 0 (fun r h2 => r = some (.inl (jb (0 ≤ z1 ∧ z1 ≤ (jI h (jP h r0 4) 0)))) ∧ h2 = h) := by
  refine Ex_of_V tX8_isPast (Nat.le_of_ble_eq_true rfl) (bX8_isPast_0 r0 z1 h ?_ ?_ ?_ ?_ ?_)
  all_goals intros
  all_goals first
    | assumption
    | omega
    | (constructor <;> omega)
    | (refine ⟨?_, rfl⟩; rw [jb_t]; first | omega | (refine ⟨?_, ?_⟩ <;> omega) | (refine ⟨?_, ?_, ?_⟩ <;> first | assumption | omega) | (simp_all; done))
    | (refine ⟨?_, rfl⟩; rw [jb_f]; first | omega | (simp_all; done))
    | (simp_all; done)
theorem dX8_isKind_0 : decode cX8_isKind 0 = .ok (.iload_n 0, 1) := by decide +kernel
theorem dX8_isKind_1 : decode cX8_isKind 1 = .ok (.ifCond .lt 12, 3) := by decide +kernel
theorem dX8_isKind_4 : decode cX8_isKind 4 = .ok (.iload_n 0, 1) := by decide +kernel
theorem dX8_isKind_5 : decode cX8_isKind 5 = .ok (.iconst 2, 1) := by decide +kernel
theorem dX8_isKind_6 : decode cX8_isKind 6 = .ok (.if_icmp .gt 7, 3) := by decide +kernel
theorem dX8_isKind_9 : decode cX8_isKind 9 = .ok (.iconst 1, 1) := by decide +kernel
theorem dX8_isKind_10 : decode cX8_isKind 10 = .ok (.goto 4, 3) := by decide +kernel
theorem dX8_isKind_13 : decode cX8_isKind 13 = .ok (.iconst 0, 1) := by decide +kernel
theorem dX8_isKind_14 : decode cX8_isKind 14 = .ok (.ireturn, 1) := by decide +kernel
theorem bX8_isKind_0 {d : Nat} {Q : Option jA → jH → Prop} (i0 : Int) (h : jH)
    (q1 : (i0 < 0) → Q (some (.inl 0)) h)
    (q2 : (¬ (i0 < 0)) → (2 < i0) → Q (some (.inl 0)) h)
    (q3 : (¬ (i0 < 0)) → (¬ (2 < i0)) → Q (some (.inl 1)) h) :
    V MX8_isKind d 0 [some (.inl i0)] [] h 0 0 Q := by
  refine V_iload_n (i := 0) dX8_isKind_0 rfl rfl ?_
  refine V_if_lt (tgt := 13) dX8_isKind_1 (by decide) (fun c1 => ?_) (fun c1 => ?_)
  · refine V_iconst dX8_isKind_13 ⟨by decide, by decide⟩ ?_
    exact V_retz rfl dX8_isKind_14 (by decide) (q1 c1)
  · refine V_iload_n (i := 0) dX8_isKind_4 rfl rfl ?_
    refine V_iconst dX8_isKind_5 ⟨by decide, by decide⟩ ?_
    refine V_icmp_gt (tgt := 13) dX8_isKind_6 (by decide) (fun c2 => ?_) (fun c2 => ?_)
    · refine V_iconst dX8_isKind_13 ⟨by decide, by decide⟩ ?_
      exact V_retz rfl dX8_isKind_14 (by decide) (q2 c1 c2)
    · refine V_iconst dX8_isKind_9 ⟨by decide, by decide⟩ ?_
      refine V_goto (tgt := 14) dX8_isKind_10 (by decide) ?_
      exact V_retz rfl dX8_isKind_14 (by decide) (q3 c1 c2)
theorem pX8_isKind {d : Nat} {z0 : Int} {h : jH}  : Ex MX8_isKind d [.inl z0] h 0 0 (fun r h2 => r = some (.inl (jb (0 ≤ z0 ∧ z0 ≤ 2))) ∧ h2 = h) := by
  refine Ex_of_V tX8_isKind (Nat.le_of_ble_eq_true rfl) (bX8_isKind_0 z0 h ?_ ?_ ?_)
  all_goals intros
  all_goals first
    | assumption
    | omega
    | (constructor <;> omega)
    | (refine ⟨?_, rfl⟩; rw [jb_t]; first | omega | (refine ⟨?_, ?_⟩ <;> omega) | (refine ⟨?_, ?_, ?_⟩ <;> first | assumption | omega) | (simp_all; done))
    | (refine ⟨?_, rfl⟩; rw [jb_f]; first | omega | (simp_all; done))
    | (simp_all; done)
theorem dX8_isRecordable_0 : decode cX8_isRecordable 0 = .ok (.iload_n 0, 1) := by decide +kernel
theorem dX8_isRecordable_1 : decode cX8_isRecordable 1 = .ok (.bipush (-7), 2) := by decide +kernel
theorem dX8_isRecordable_3 : decode cX8_isRecordable 3 = .ok (.if_icmp .eq 14, 3) := by decide +kernel
theorem dX8_isRecordable_6 : decode cX8_isRecordable 6 = .ok (.iload_n 0, 1) := by decide +kernel
theorem dX8_isRecordable_7 : decode cX8_isRecordable 7 = .ok (.ifCond .lt 14, 3) := by decide +kernel
theorem dX8_isRecordable_10 : decode cX8_isRecordable 10 = .ok (.iload_n 0, 1) := by decide +kernel
theorem dX8_isRecordable_11 : decode cX8_isRecordable 11 = .ok (.sipush 255, 3) := by decide +kernel
theorem dX8_isRecordable_14 : decode cX8_isRecordable 14 = .ok (.if_icmp .gt 7, 3) := by decide +kernel
theorem dX8_isRecordable_17 : decode cX8_isRecordable 17 = .ok (.iconst 1, 1) := by decide +kernel
theorem dX8_isRecordable_18 : decode cX8_isRecordable 18 = .ok (.goto 4, 3) := by decide +kernel
theorem dX8_isRecordable_21 : decode cX8_isRecordable 21 = .ok (.iconst 0, 1) := by decide +kernel
theorem dX8_isRecordable_22 : decode cX8_isRecordable 22 = .ok (.ireturn, 1) := by decide +kernel
theorem bX8_isRecordable_0 {d : Nat} {Q : Option jA → jH → Prop} (i0 : Int) (h : jH)
    (q1 : (i0 = ((-7))) → Q (some (.inl 1)) h)
    (q2 : (¬ (i0 = ((-7)))) → (i0 < 0) → Q (some (.inl 0)) h)
    (q3 : (¬ (i0 = ((-7)))) → (¬ (i0 < 0)) → (255 < i0) → Q (some (.inl 0)) h)
    (q4 : (¬ (i0 = ((-7)))) → (¬ (i0 < 0)) → (¬ (255 < i0)) → Q (some (.inl 1)) h) :
    V MX8_isRecordable d 0 [some (.inl i0)] [] h 0 0 Q := by
  refine V_iload_n (i := 0) dX8_isRecordable_0 rfl rfl ?_
  refine V_bipush dX8_isRecordable_1 (by decide +kernel) ⟨by decide, by decide⟩ ?_
  refine V_icmp_eq (tgt := 17) dX8_isRecordable_3 (by decide) (fun c1 => ?_) (fun c1 => ?_)
  · refine V_iconst dX8_isRecordable_17 ⟨by decide, by decide⟩ ?_
    refine V_goto (tgt := 22) dX8_isRecordable_18 (by decide) ?_
    exact V_retz rfl dX8_isRecordable_22 (by decide) (q1 c1)
  · refine V_iload_n (i := 0) dX8_isRecordable_6 rfl rfl ?_
    refine V_if_lt (tgt := 21) dX8_isRecordable_7 (by decide) (fun c2 => ?_) (fun c2 => ?_)
    · refine V_iconst dX8_isRecordable_21 ⟨by decide, by decide⟩ ?_
      exact V_retz rfl dX8_isRecordable_22 (by decide) (q2 c1 c2)
    · refine V_iload_n (i := 0) dX8_isRecordable_10 rfl rfl ?_
      refine V_sipush dX8_isRecordable_11 (by decide +kernel) ⟨by decide, by decide⟩ ?_
      refine V_icmp_gt (tgt := 21) dX8_isRecordable_14 (by decide) (fun c3 => ?_) (fun c3 => ?_)
      · refine V_iconst dX8_isRecordable_21 ⟨by decide, by decide⟩ ?_
        exact V_retz rfl dX8_isRecordable_22 (by decide) (q3 c1 c2 c3)
      · refine V_iconst dX8_isRecordable_17 ⟨by decide, by decide⟩ ?_
        refine V_goto (tgt := 22) dX8_isRecordable_18 (by decide) ?_
        exact V_retz rfl dX8_isRecordable_22 (by decide) (q4 c1 c2 c3)
theorem pX8_isRecordable {d : Nat} {z0 : Int} {h : jH}  : Ex MX8_isRecordable d [.inl z0] h 0 0 (fun r h2 => r = some (.inl (jb (z0 = (-7) ∨ (0 ≤ z0 ∧ z0 ≤ 255)))) ∧ h2 = h) := by
  refine Ex_of_V tX8_isRecordable (Nat.le_of_ble_eq_true rfl) (bX8_isRecordable_0 z0 h ?_ ?_ ?_ ?_)
  all_goals intros
  all_goals first
    | assumption
    | omega
    | (constructor <;> omega)
    | (refine ⟨?_, rfl⟩; rw [jb_t]; first | omega | (refine ⟨?_, ?_⟩ <;> omega) | (refine ⟨?_, ?_, ?_⟩ <;> first | assumption | omega) | (simp_all; done))
    | (refine ⟨?_, rfl⟩; rw [jb_f]; first | omega | (simp_all; done))
    | (simp_all; done)
theorem dX8_orNone_0 : decode cX8_orNone 0 = .ok (.iload_n 0, 1) := by decide +kernel
theorem dX8_orNone_1 : decode cX8_orNone 1 = .ok (.iconst (-1), 1) := by decide +kernel
theorem dX8_orNone_2 : decode cX8_orNone 2 = .ok (.if_icmp .ne 8, 3) := by decide +kernel
theorem dX8_orNone_5 : decode cX8_orNone 5 = .ok (.bipush (-9), 2) := by decide +kernel
theorem dX8_orNone_7 : decode cX8_orNone 7 = .ok (.goto 4, 3) := by decide +kernel
theorem dX8_orNone_10 : decode cX8_orNone 10 = .ok (.iload_n 0, 1) := by decide +kernel
theorem dX8_orNone_11 : decode cX8_orNone 11 = .ok (.ireturn, 1) := by decide +kernel
theorem bX8_orNone_0 {d : Nat} {Q : Option jA → jH → Prop} (i0 : Int) (h : jH)
    (q1 : (i0 ≠ ((-1))) → Q (some (.inl i0)) h)
    (q2 : (i0 = ((-1))) → Q (some (.inl ((-9)))) h) :
    V MX8_orNone d 0 [some (.inl i0)] [] h 0 0 Q := by
  refine V_iload_n (i := 0) dX8_orNone_0 rfl rfl ?_
  refine V_iconst dX8_orNone_1 ⟨by decide, by decide⟩ ?_
  refine V_icmp_ne (tgt := 10) dX8_orNone_2 (by decide) (fun c1 => ?_) (fun c1 => ?_)
  · refine V_iload_n (i := 0) dX8_orNone_10 rfl rfl ?_
    exact V_reti rfl dX8_orNone_11 (q1 c1)
  · refine V_bipush dX8_orNone_5 (by decide +kernel) ⟨by decide, by decide⟩ ?_
    refine V_goto (tgt := 11) dX8_orNone_7 (by decide) ?_
    exact V_reti rfl dX8_orNone_11 (q2 c1)
theorem pX8_orNone {d : Nat} {z0 : Int} {h : jH}  : Ex MX8_orNone d [.inl z0] h 0 0 (fun r h2 => r = some (.inl (jorn z0)) ∧ h2 = h) := by
  refine Ex_of_V tX8_orNone (Nat.le_of_ble_eq_true rfl) (bX8_orNone_0 z0 h ?_ ?_)
  all_goals intros
  all_goals first
    | assumption
    | omega
    | (constructor <;> omega)
    | exact ⟨rfl, rfl⟩
    | (refine ⟨congrArg (fun z => some (Sum.inl z)) ?_, rfl⟩; simp [jop, jneg, jlet, jorn, jaft, *]; done)
    | (refine ⟨congrArg (fun z => some (Sum.inl z)) ?_, rfl⟩; simp [jop, jneg, jlet, jorn, jaft, *] <;> omega)
    | (refine ⟨congrArg (fun z => some (Sum.inl z)) ?_, rfl⟩; simp_all [jop, jneg, jlet, jorn, jaft] <;> omega)
    | (simp_all; done)
theorem dX3_after_0 : decode cX3_after 0 = .ok (.iload_n 1, 1) := by decide +kernel
theorem dX3_after_1 : decode cX3_after 1 = .ok (.iconst 1, 1) := by decide +kernel
theorem dX3_after_2 : decode cX3_after 2 = .ok (.iadd, 1) := by decide +kernel
theorem dX3_after_3 : decode cX3_after 3 = .ok (.aload_n 0, 1) := by decide +kernel
theorem dX3_after_4 : decode cX3_after 4 = .ok (.getfield 29, 3) := by decide +kernel
theorem dX3_after_7 : decode cX3_after 7 = .ok (.if_icmp .ge 14, 3) := by decide +kernel
theorem dX3_after_10 : decode cX3_after 10 = .ok (.aload_n 0, 1) := by decide +kernel
theorem dX3_after_11 : decode cX3_after 11 = .ok (.getfield 9, 3) := by decide +kernel
theorem dX3_after_14 : decode cX3_after 14 = .ok (.iload_n 1, 1) := by decide +kernel
theorem dX3_after_15 : decode cX3_after 15 = .ok (.iconst 1, 1) := by decide +kernel
theorem dX3_after_16 : decode cX3_after 16 = .ok (.iadd, 1) := by decide +kernel
theorem dX3_after_17 : decode cX3_after 17 = .ok (.iaload, 1) := by decide +kernel
theorem dX3_after_18 : decode cX3_after 18 = .ok (.goto 9, 3) := by decide +kernel
theorem dX3_after_21 : decode cX3_after 21 = .ok (.aload_n 0, 1) := by decide +kernel
theorem dX3_after_22 : decode cX3_after 22 = .ok (.getfield 26, 3) := by decide +kernel
theorem dX3_after_25 : decode cX3_after 25 = .ok (.iconst 1, 1) := by decide +kernel
theorem dX3_after_26 : decode cX3_after 26 = .ok (.iadd, 1) := by decide +kernel
theorem dX3_after_27 : decode cX3_after 27 = .ok (.ireturn, 1) := by decide +kernel
theorem bX3_after_0 {d : Nat} {Q : Option jA → jH → Prop} (a0 : Nat) (i1 : Int) (h : jH)
    (r1 : jR (i1 + 1))
    (s1 : (jS h a0).1 = 3)
    (r2 : ((jI h a0 0) ≤ (i1 + 1)) → jR ((jI h a0 1) + 1))
    (q1 : ((jI h a0 0) ≤ (i1 + 1)) → Q (some (.inl ((jI h a0 1) + 1))) h)
    (r3 : (¬ ((jI h a0 0) ≤ (i1 + 1))) → jR (i1 + 1))
    (s2 : (jS h (jP h a0 2)).1 = 16)
    (s3 : (¬ ((jI h a0 0) ≤ (i1 + 1))) → 0 ≤ i1 + 1)
    (s4 : (¬ ((jI h a0 0) ≤ (i1 + 1))) → i1 + 1 < ((jS h (jP h a0 2)).2 : Int))
    (q2 : (¬ ((jI h a0 0) ≤ (i1 + 1))) → Q (some (.inl (jX h (jP h a0 2) ((i1 + 1).toNat)))) h) :
    V MX3_after d 0 [some (.inr a0), some (.inl i1)] [] h 0 0 Q := by
  refine V_iload_n (i := 1) dX3_after_0 rfl rfl ?_
  refine V_iconst dX3_after_1 ⟨by decide, by decide⟩ ?_
  refine V_iadd dX3_after_2 r1 ?_
  refine V_aload_n (i := 0) dX3_after_3 rfl rfl ?_
  refine V_getI dX3_after_4 fX3_29 rfl s1 ?_
  refine V_icmp_ge (tgt := 21) dX3_after_7 (by decide) (fun c1 => ?_) (fun c1 => ?_)
  · refine V_aload_n (i := 0) dX3_after_21 rfl rfl ?_
    refine V_getI dX3_after_22 fX3_26 rfl s1 ?_
    refine V_iconst dX3_after_25 ⟨by decide, by decide⟩ ?_
    refine V_iadd dX3_after_26 (r2 c1) ?_
    exact V_reti rfl dX3_after_27 (q1 c1)
  · refine V_aload_n (i := 0) dX3_after_10 rfl rfl ?_
    refine V_getP dX3_after_11 fX3_9 rfl s1 ?_
    refine V_iload_n (i := 1) dX3_after_14 rfl rfl ?_
    refine V_iconst dX3_after_15 ⟨by decide, by decide⟩ ?_
    refine V_iadd dX3_after_16 (r3 c1) ?_
    refine V_iald dX3_after_17 s2 (s3 c1) (s4 c1) ?_
    refine V_goto (tgt := 27) dX3_after_18 (by decide) ?_
    exact V_reti rfl dX3_after_27 (q2 c1)
theorem pX3_after {d : Nat} {z1 : Int} {r0 : Nat} {h : jH} (s0 : (jS h r0).1 = 3) (s1 : (jS h (jP h r0 2)).1 = 16) (s2 : (jS h (jP h r0 2)).2 = 61) (s3 : 0 ≤ z1) (s4 : z1 < jI h r0 0) (s5 : jI h r0 0 ≤ 61) (s6 : 0 ≤ jI h r0 1) (s7 : jI h r0 1 ≤ 999) : Ex MX3_after d [.inr r0, .inl z1] h 0 0 (fun r h2 => r = some (.inl (jaft z1 (jI h r0 0) (jI h r0 1) (jX h (jP h r0 2) ((z1 + 1).toNat)))) ∧ h2 = h) := by
  refine Ex_of_V tX3_after (Nat.le_of_ble_eq_true rfl) (bX3_after_0 r0 z1 h ?_ ?_ ?_ ?_ ?_ ?_ ?_ ?_ ?_)
  all_goals intros
  all_goals first
    | assumption
    | omega
    | (constructor <;> omega)
    | exact ⟨rfl, rfl⟩
    | (refine ⟨congrArg (fun z => some (Sum.inl z)) ?_, rfl⟩; simp [jop, jneg, jlet, jorn, jaft, *]; done)
    | (refine ⟨congrArg (fun z => some (Sum.inl z)) ?_, rfl⟩; simp [jop, jneg, jlet, jorn, jaft, *] <;> omega)
    | (refine ⟨congrArg (fun z => some (Sum.inl z)) ?_, rfl⟩; simp_all [jop, jneg, jlet, jorn, jaft] <;> omega)
    | (simp_all; done)
end JP
end
