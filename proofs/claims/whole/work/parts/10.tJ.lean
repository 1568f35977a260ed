/-! ===== JDK methods: decode rows and trees ===== -/
theorem dJ6_bitCount_0f7a4_0 : decode cJ6_bitCount_0f7a4 0 = .ok (.iload_n 0, 1) := by decide +kernel
theorem dJ6_bitCount_0f7a4_1 : decode cJ6_bitCount_0f7a4 1 = .ok (.iload_n 0, 1) := by decide +kernel
theorem dJ6_bitCount_0f7a4_2 : decode cJ6_bitCount_0f7a4 2 = .ok (.iconst 1, 1) := by decide +kernel
theorem dJ6_bitCount_0f7a4_3 : decode cJ6_bitCount_0f7a4 3 = .ok (.iushr, 1) := by decide +kernel
theorem dJ6_bitCount_0f7a4_4 : decode cJ6_bitCount_0f7a4 4 = .ok (.ldc_w 265, 3) := by decide +kernel
theorem dJ6_bitCount_0f7a4_7 : decode cJ6_bitCount_0f7a4 7 = .ok (.iand, 1) := by decide +kernel
theorem dJ6_bitCount_0f7a4_8 : decode cJ6_bitCount_0f7a4 8 = .ok (.isub, 1) := by decide +kernel
theorem dJ6_bitCount_0f7a4_9 : decode cJ6_bitCount_0f7a4 9 = .ok (.istore_n 0, 1) := by decide +kernel
theorem dJ6_bitCount_0f7a4_10 : decode cJ6_bitCount_0f7a4 10 = .ok (.iload_n 0, 1) := by decide +kernel
theorem dJ6_bitCount_0f7a4_11 : decode cJ6_bitCount_0f7a4 11 = .ok (.ldc_w 266, 3) := by decide +kernel
theorem dJ6_bitCount_0f7a4_14 : decode cJ6_bitCount_0f7a4 14 = .ok (.iand, 1) := by decide +kernel
theorem dJ6_bitCount_0f7a4_15 : decode cJ6_bitCount_0f7a4 15 = .ok (.iload_n 0, 1) := by decide +kernel
theorem dJ6_bitCount_0f7a4_16 : decode cJ6_bitCount_0f7a4 16 = .ok (.iconst 2, 1) := by decide +kernel
theorem dJ6_bitCount_0f7a4_17 : decode cJ6_bitCount_0f7a4 17 = .ok (.iushr, 1) := by decide +kernel
theorem dJ6_bitCount_0f7a4_18 : decode cJ6_bitCount_0f7a4 18 = .ok (.ldc_w 266, 3) := by decide +kernel
theorem dJ6_bitCount_0f7a4_21 : decode cJ6_bitCount_0f7a4 21 = .ok (.iand, 1) := by decide +kernel
theorem dJ6_bitCount_0f7a4_22 : decode cJ6_bitCount_0f7a4 22 = .ok (.iadd, 1) := by decide +kernel
theorem dJ6_bitCount_0f7a4_23 : decode cJ6_bitCount_0f7a4 23 = .ok (.istore_n 0, 1) := by decide +kernel
theorem dJ6_bitCount_0f7a4_24 : decode cJ6_bitCount_0f7a4 24 = .ok (.iload_n 0, 1) := by decide +kernel
theorem dJ6_bitCount_0f7a4_25 : decode cJ6_bitCount_0f7a4 25 = .ok (.iload_n 0, 1) := by decide +kernel
theorem dJ6_bitCount_0f7a4_26 : decode cJ6_bitCount_0f7a4 26 = .ok (.iconst 4, 1) := by decide +kernel
theorem dJ6_bitCount_0f7a4_27 : decode cJ6_bitCount_0f7a4 27 = .ok (.iushr, 1) := by decide +kernel
theorem dJ6_bitCount_0f7a4_28 : decode cJ6_bitCount_0f7a4 28 = .ok (.iadd, 1) := by decide +kernel
theorem dJ6_bitCount_0f7a4_29 : decode cJ6_bitCount_0f7a4 29 = .ok (.ldc_w 267, 3) := by decide +kernel
theorem dJ6_bitCount_0f7a4_32 : decode cJ6_bitCount_0f7a4 32 = .ok (.iand, 1) := by decide +kernel
theorem dJ6_bitCount_0f7a4_33 : decode cJ6_bitCount_0f7a4 33 = .ok (.istore_n 0, 1) := by decide +kernel
theorem dJ6_bitCount_0f7a4_34 : decode cJ6_bitCount_0f7a4 34 = .ok (.iload_n 0, 1) := by decide +kernel
theorem dJ6_bitCount_0f7a4_35 : decode cJ6_bitCount_0f7a4 35 = .ok (.iload_n 0, 1) := by decide +kernel
theorem dJ6_bitCount_0f7a4_36 : decode cJ6_bitCount_0f7a4 36 = .ok (.bipush 8, 2) := by decide +kernel
theorem dJ6_bitCount_0f7a4_38 : decode cJ6_bitCount_0f7a4 38 = .ok (.iushr, 1) := by decide +kernel
theorem dJ6_bitCount_0f7a4_39 : decode cJ6_bitCount_0f7a4 39 = .ok (.iadd, 1) := by decide +kernel
theorem dJ6_bitCount_0f7a4_40 : decode cJ6_bitCount_0f7a4 40 = .ok (.istore_n 0, 1) := by decide +kernel
theorem dJ6_bitCount_0f7a4_41 : decode cJ6_bitCount_0f7a4 41 = .ok (.iload_n 0, 1) := by decide +kernel
theorem dJ6_bitCount_0f7a4_42 : decode cJ6_bitCount_0f7a4 42 = .ok (.iload_n 0, 1) := by decide +kernel
theorem dJ6_bitCount_0f7a4_43 : decode cJ6_bitCount_0f7a4 43 = .ok (.bipush 16, 2) := by decide +kernel
theorem dJ6_bitCount_0f7a4_45 : decode cJ6_bitCount_0f7a4 45 = .ok (.iushr, 1) := by decide +kernel
theorem dJ6_bitCount_0f7a4_46 : decode cJ6_bitCount_0f7a4 46 = .ok (.iadd, 1) := by decide +kernel
theorem dJ6_bitCount_0f7a4_47 : decode cJ6_bitCount_0f7a4 47 = .ok (.istore_n 0, 1) := by decide +kernel
theorem dJ6_bitCount_0f7a4_48 : decode cJ6_bitCount_0f7a4 48 = .ok (.iload_n 0, 1) := by decide +kernel
theorem dJ6_bitCount_0f7a4_49 : decode cJ6_bitCount_0f7a4 49 = .ok (.bipush 63, 2) := by decide +kernel
theorem dJ6_bitCount_0f7a4_51 : decode cJ6_bitCount_0f7a4 51 = .ok (.iand, 1) := by decide +kernel
theorem dJ6_bitCount_0f7a4_52 : decode cJ6_bitCount_0f7a4 52 = .ok (.ireturn, 1) := by decide +kernel
theorem bJ6_bitCount_0f7a4_0 {d : Nat} {Q : Option jA → jH → Prop} (i0 : Int) (h : jH)
    (r1 : jR (i0 - (jand (jushr i0 1) 1431655765)))
    (r2 : jR ((jand (i0 - (jand (jushr i0 1) 1431655765)) 858993459) + (jand (jushr (i0 - (jand (jushr i0 1) 1431655765)) 2) 858993459)))
    (r3 : jR (((jand (i0 - (jand (jushr i0 1) 1431655765)) 858993459) + (jand (jushr (i0 - (jand (jushr i0 1) 1431655765)) 2) 858993459)) + (jushr ((jand (i0 - (jand (jushr i0 1) 1431655765)) 858993459) + (jand (jushr (i0 - (jand (jushr i0 1) 1431655765)) 2) 858993459)) 4)))
    (r4 : jR ((jand (((jand (i0 - (jand (jushr i0 1) 1431655765)) 858993459) + (jand (jushr (i0 - (jand (jushr i0 1) 1431655765)) 2) 858993459)) + (jushr ((jand (i0 - (jand (jushr i0 1) 1431655765)) 858993459) + (jand (jushr (i0 - (jand (jushr i0 1) 1431655765)) 2) 858993459)) 4)) 252645135) + (jushr (jand (((jand (i0 - (jand (jushr i0 1) 1431655765)) 858993459) + (jand (jushr (i0 - (jand (jushr i0 1) 1431655765)) 2) 858993459)) + (jushr ((jand (i0 - (jand (jushr i0 1) 1431655765)) 858993459) + (jand (jushr (i0 - (jand (jushr i0 1) 1431655765)) 2) 858993459)) 4)) 252645135) 8)))
    (r5 : jR (((jand (((jand (i0 - (jand (jushr i0 1) 1431655765)) 858993459) + (jand (jushr (i0 - (jand (jushr i0 1) 1431655765)) 2) 858993459)) + (jushr ((jand (i0 - (jand (jushr i0 1) 1431655765)) 858993459) + (jand (jushr (i0 - (jand (jushr i0 1) 1431655765)) 2) 858993459)) 4)) 252645135) + (jushr (jand (((jand (i0 - (jand (jushr i0 1) 1431655765)) 858993459) + (jand (jushr (i0 - (jand (jushr i0 1) 1431655765)) 2) 858993459)) + (jushr ((jand (i0 - (jand (jushr i0 1) 1431655765)) 858993459) + (jand (jushr (i0 - (jand (jushr i0 1) 1431655765)) 2) 858993459)) 4)) 252645135) 8)) + (jushr ((jand (((jand (i0 - (jand (jushr i0 1) 1431655765)) 858993459) + (jand (jushr (i0 - (jand (jushr i0 1) 1431655765)) 2) 858993459)) + (jushr ((jand (i0 - (jand (jushr i0 1) 1431655765)) 858993459) + (jand (jushr (i0 - (jand (jushr i0 1) 1431655765)) 2) 858993459)) 4)) 252645135) + (jushr (jand (((jand (i0 - (jand (jushr i0 1) 1431655765)) 858993459) + (jand (jushr (i0 - (jand (jushr i0 1) 1431655765)) 2) 858993459)) + (jushr ((jand (i0 - (jand (jushr i0 1) 1431655765)) 858993459) + (jand (jushr (i0 - (jand (jushr i0 1) 1431655765)) 2) 858993459)) 4)) 252645135) 8)) 16)))
    (q1 : Q (some (.inl (jand (((jand (((jand (i0 - (jand (jushr i0 1) 1431655765)) 858993459) + (jand (jushr (i0 - (jand (jushr i0 1) 1431655765)) 2) 858993459)) + (jushr ((jand (i0 - (jand (jushr i0 1) 1431655765)) 858993459) + (jand (jushr (i0 - (jand (jushr i0 1) 1431655765)) 2) 858993459)) 4)) 252645135) + (jushr (jand (((jand (i0 - (jand (jushr i0 1) 1431655765)) 858993459) + (jand (jushr (i0 - (jand (jushr i0 1) 1431655765)) 2) 858993459)) + (jushr ((jand (i0 - (jand (jushr i0 1) 1431655765)) 858993459) + (jand (jushr (i0 - (jand (jushr i0 1) 1431655765)) 2) 858993459)) 4)) 252645135) 8)) + (jushr ((jand (((jand (i0 - (jand (jushr i0 1) 1431655765)) 858993459) + (jand (jushr (i0 - (jand (jushr i0 1) 1431655765)) 2) 858993459)) + (jushr ((jand (i0 - (jand (jushr i0 1) 1431655765)) 858993459) + (jand (jushr (i0 - (jand (jushr i0 1) 1431655765)) 2) 858993459)) 4)) 252645135) + (jushr (jand (((jand (i0 - (jand (jushr i0 1) 1431655765)) 858993459) + (jand (jushr (i0 - (jand (jushr i0 1) 1431655765)) 2) 858993459)) + (jushr ((jand (i0 - (jand (jushr i0 1) 1431655765)) 858993459) + (jand (jushr (i0 - (jand (jushr i0 1) 1431655765)) 2) 858993459)) 4)) 252645135) 8)) 16)) 63))) h) :
    V MJ6_bitCount_0f7a4 d 0 [some (.inl i0)] [] h 0 0 Q := by
  refine V_iload_n (i := 0) dJ6_bitCount_0f7a4_0 rfl rfl ?_
  refine V_iload_n (i := 0) dJ6_bitCount_0f7a4_1 rfl rfl ?_
  refine V_iconst dJ6_bitCount_0f7a4_2 ⟨by decide, by decide⟩ ?_
  refine V_iushr dJ6_bitCount_0f7a4_3 ?_
  refine V_ldcw (n := 1431655765) dJ6_bitCount_0f7a4_4 (jmem 810 (by decide +kernel) (by decide +kernel)) ⟨by decide, by decide⟩ ?_
  refine V_iand dJ6_bitCount_0f7a4_7 ?_
  refine V_isub dJ6_bitCount_0f7a4_8 r1 ?_
  refine V_istore_n (i := 0) dJ6_bitCount_0f7a4_9 rfl (by decide) ?_
  refine V_iload_n (i := 0) dJ6_bitCount_0f7a4_10 rfl rfl ?_
  refine V_ldcw (n := 858993459) dJ6_bitCount_0f7a4_11 (jmem 811 (by decide +kernel) (by decide +kernel)) ⟨by decide, by decide⟩ ?_
  refine V_iand dJ6_bitCount_0f7a4_14 ?_
  refine V_iload_n (i := 0) dJ6_bitCount_0f7a4_15 rfl rfl ?_
  refine V_iconst dJ6_bitCount_0f7a4_16 ⟨by decide, by decide⟩ ?_
  refine V_iushr dJ6_bitCount_0f7a4_17 ?_
  refine V_ldcw (n := 858993459) dJ6_bitCount_0f7a4_18 (jmem 811 (by decide +kernel) (by decide +kernel)) ⟨by decide, by decide⟩ ?_
  refine V_iand dJ6_bitCount_0f7a4_21 ?_
  refine V_iadd dJ6_bitCount_0f7a4_22 r2 ?_
  refine V_istore_n (i := 0) dJ6_bitCount_0f7a4_23 rfl (by decide) ?_
  refine V_iload_n (i := 0) dJ6_bitCount_0f7a4_24 rfl rfl ?_
  refine V_iload_n (i := 0) dJ6_bitCount_0f7a4_25 rfl rfl ?_
  refine V_iconst dJ6_bitCount_0f7a4_26 ⟨by decide, by decide⟩ ?_
  refine V_iushr dJ6_bitCount_0f7a4_27 ?_
  refine V_iadd dJ6_bitCount_0f7a4_28 r3 ?_
  refine V_ldcw (n := 252645135) dJ6_bitCount_0f7a4_29 (jmem 812 (by decide +kernel) (by decide +kernel)) ⟨by decide, by decide⟩ ?_
  refine V_iand dJ6_bitCount_0f7a4_32 ?_
  refine V_istore_n (i := 0) dJ6_bitCount_0f7a4_33 rfl (by decide) ?_
  refine V_iload_n (i := 0) dJ6_bitCount_0f7a4_34 rfl rfl ?_
  refine V_iload_n (i := 0) dJ6_bitCount_0f7a4_35 rfl rfl ?_
  refine V_bipush dJ6_bitCount_0f7a4_36 (by decide +kernel) ⟨by decide, by decide⟩ ?_
  refine V_iushr dJ6_bitCount_0f7a4_38 ?_
  refine V_iadd dJ6_bitCount_0f7a4_39 r4 ?_
  refine V_istore_n (i := 0) dJ6_bitCount_0f7a4_40 rfl (by decide) ?_
  refine V_iload_n (i := 0) dJ6_bitCount_0f7a4_41 rfl rfl ?_
  refine V_iload_n (i := 0) dJ6_bitCount_0f7a4_42 rfl rfl ?_
  refine V_bipush dJ6_bitCount_0f7a4_43 (by decide +kernel) ⟨by decide, by decide⟩ ?_
  refine V_iushr dJ6_bitCount_0f7a4_45 ?_
  refine V_iadd dJ6_bitCount_0f7a4_46 r5 ?_
  refine V_istore_n (i := 0) dJ6_bitCount_0f7a4_47 rfl (by decide) ?_
  refine V_iload_n (i := 0) dJ6_bitCount_0f7a4_48 rfl rfl ?_
  refine V_bipush dJ6_bitCount_0f7a4_49 (by decide +kernel) ⟨by decide, by decide⟩ ?_
  refine V_iand dJ6_bitCount_0f7a4_51 ?_
  exact V_reti rfl dJ6_bitCount_0f7a4_52 q1
theorem dJ7_fill_53178_0 : decode cJ7_fill_53178 0 = .ok (.iconst 0, 1) := by decide +kernel
theorem dJ7_fill_53178_1 : decode cJ7_fill_53178 1 = .ok (.istore_n 2, 1) := by decide +kernel
theorem dJ7_fill_53178_2 : decode cJ7_fill_53178 2 = .ok (.aload_n 0, 1) := by decide +kernel
theorem dJ7_fill_53178_3 : decode cJ7_fill_53178 3 = .ok (.arraylength, 1) := by decide +kernel
theorem dJ7_fill_53178_4 : decode cJ7_fill_53178 4 = .ok (.istore_n 3, 1) := by decide +kernel
theorem dJ7_fill_53178_5 : decode cJ7_fill_53178 5 = .ok (.iload_n 2, 1) := by decide +kernel
theorem dJ7_fill_53178_6 : decode cJ7_fill_53178 6 = .ok (.iload_n 3, 1) := by decide +kernel
theorem dJ7_fill_53178_7 : decode cJ7_fill_53178 7 = .ok (.if_icmp .ge 13, 3) := by decide +kernel
theorem dJ7_fill_53178_10 : decode cJ7_fill_53178 10 = .ok (.aload_n 0, 1) := by decide +kernel
theorem dJ7_fill_53178_11 : decode cJ7_fill_53178 11 = .ok (.iload_n 2, 1) := by decide +kernel
theorem dJ7_fill_53178_12 : decode cJ7_fill_53178 12 = .ok (.iload_n 1, 1) := by decide +kernel
theorem dJ7_fill_53178_13 : decode cJ7_fill_53178 13 = .ok (.iastore, 1) := by decide +kernel
theorem dJ7_fill_53178_14 : decode cJ7_fill_53178 14 = .ok (.iinc 2 1, 3) := by decide +kernel
theorem dJ7_fill_53178_17 : decode cJ7_fill_53178 17 = .ok (.goto (-12), 3) := by decide +kernel
theorem dJ7_fill_53178_20 : decode cJ7_fill_53178 20 = .ok (.return_, 1) := by decide +kernel
theorem bJ7_fill_53178_0 {d : Nat} {Q : Option jA → jH → Prop} (a0 : Nat) (i1 : Int) (u2 : Option jA) (u3 : Option jA) (h : jH)
    (s1 : (jS h a0).1 = 16)
    (k1 : V MJ7_fill_53178 d 5 [some (.inr a0), some (.inl i1), some (.inl 0), some (.inl (((jS h a0).2 : Int)))] [] h 0 0 Q) :
    V MJ7_fill_53178 d 0 [some (.inr a0), some (.inl i1), u2, u3] [] h 0 0 Q := by
  refine V_iconst dJ7_fill_53178_0 ⟨by decide, by decide⟩ ?_
  refine V_istore_n (i := 2) dJ7_fill_53178_1 rfl (by decide) ?_
  refine V_aload_n (i := 0) dJ7_fill_53178_2 rfl rfl ?_
  refine V_alen (t := 0) dJ7_fill_53178_3 s1 (by decide) ?_
  refine V_istore_n (i := 3) dJ7_fill_53178_4 rfl (by decide) ?_
  exact k1
theorem bJ7_fill_53178_5 {d : Nat} {Q : Option jA → jH → Prop} (a0 : Nat) (i1 : Int) (i2 : Int) (i3 : Int) (h : jH)
    (q1 : (i3 ≤ i2) → Q none h)
    (s1 : (jS h a0).1 = 16)
    (s2 : (¬ (i3 ≤ i2)) → 0 ≤ i2)
    (s3 : (¬ (i3 ≤ i2)) → i2 < ((jS h a0).2 : Int))
    (r1 : (¬ (i3 ≤ i2)) → jR (i2 + 1))
    (k1 : (¬ (i3 ≤ i2)) → V MJ7_fill_53178 d 5 [some (.inr a0), some (.inl i1), some (.inl (i2 + 1)), some (.inl i3)] [] (jsX h a0 ((i2).toNat) i1) 0 0 Q) :
    V MJ7_fill_53178 d 5 [some (.inr a0), some (.inl i1), some (.inl i2), some (.inl i3)] [] h 0 0 Q := by
  refine V_iload_n (i := 2) dJ7_fill_53178_5 rfl rfl ?_
  refine V_iload_n (i := 3) dJ7_fill_53178_6 rfl rfl ?_
  refine V_icmp_ge (tgt := 20) dJ7_fill_53178_7 (by decide) (fun c1 => ?_) (fun c1 => ?_)
  · exact V_ret (v := none) rfl rfl dJ7_fill_53178_20 trivial rfl (q1 c1)
  · refine V_aload_n (i := 0) dJ7_fill_53178_10 rfl rfl ?_
    refine V_iload_n (i := 2) dJ7_fill_53178_11 rfl rfl ?_
    refine V_iload_n (i := 1) dJ7_fill_53178_12 rfl rfl ?_
    refine V_iast dJ7_fill_53178_13 s1 (s2 c1) (s3 c1) ?_
    refine V_iinc (i := 2) dJ7_fill_53178_14 rfl (by decide) (r1 c1) ?_
    refine V_goto (tgt := 5) dJ7_fill_53178_17 (by decide) ?_
    exact (k1 c1)
