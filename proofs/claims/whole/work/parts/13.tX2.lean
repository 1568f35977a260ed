/-! ===== Design: decode rows and trees ===== -/
theorem dX2_empty_0 : decode cX2_empty 0 = .ok (.aload_n 0, 1) := by decide +kernel
theorem dX2_empty_1 : decode cX2_empty 1 = .ok (.iconst 0, 1) := by decide +kernel
theorem dX2_empty_2 : decode cX2_empty 2 = .ok (.putfield 41, 3) := by decide +kernel
theorem dX2_empty_5 : decode cX2_empty 5 = .ok (.aload_n 0, 1) := by decide +kernel
theorem dX2_empty_6 : decode cX2_empty 6 = .ok (.iconst 0, 1) := by decide +kernel
theorem dX2_empty_7 : decode cX2_empty 7 = .ok (.putfield 45, 3) := by decide +kernel
theorem dX2_empty_10 : decode cX2_empty 10 = .ok (.aload_n 0, 1) := by decide +kernel
theorem dX2_empty_11 : decode cX2_empty 11 = .ok (.iconst 0, 1) := by decide +kernel
theorem dX2_empty_12 : decode cX2_empty 12 = .ok (.putfield 48, 3) := by decide +kernel
theorem dX2_empty_15 : decode cX2_empty 15 = .ok (.aload_n 0, 1) := by decide +kernel
theorem dX2_empty_16 : decode cX2_empty 16 = .ok (.iconst 0, 1) := by decide +kernel
theorem dX2_empty_17 : decode cX2_empty 17 = .ok (.putfield 51, 3) := by decide +kernel
theorem dX2_empty_20 : decode cX2_empty 20 = .ok (.return_, 1) := by decide +kernel
theorem bX2_empty_0 {d : Nat} {Q : Option jA → jH → Prop} (a0 : Nat) (h : jH)
    (s1 : (jS h a0).1 = 2)
    (q1 : Q none (jsI (jsI (jsI (jsI h a0 0 0) a0 1 0) a0 2 0) a0 3 0)) :
    V MX2_empty d 0 [some (.inr a0)] [] h 0 0 Q := by
  refine V_aload_n (i := 0) dX2_empty_0 rfl rfl ?_
  refine V_iconst dX2_empty_1 ⟨by decide, by decide⟩ ?_
  refine V_putI (ci := 2) (kf := 0) dX2_empty_2 fX2_41 rfl rfl s1 ?_
  refine V_aload_n (i := 0) dX2_empty_5 rfl rfl ?_
  refine V_iconst dX2_empty_6 ⟨by decide, by decide⟩ ?_
  refine V_putI (ci := 2) (kf := 1) dX2_empty_7 fX2_45 rfl rfl s1 ?_
  refine V_aload_n (i := 0) dX2_empty_10 rfl rfl ?_
  refine V_iconst dX2_empty_11 ⟨by decide, by decide⟩ ?_
  refine V_putI (ci := 2) (kf := 2) dX2_empty_12 fX2_48 rfl rfl s1 ?_
  refine V_aload_n (i := 0) dX2_empty_15 rfl rfl ?_
  refine V_iconst dX2_empty_16 ⟨by decide, by decide⟩ ?_
  refine V_putI (ci := 2) (kf := 3) dX2_empty_17 fX2_51 rfl rfl s1 ?_
  exact V_ret (v := none) rfl rfl dX2_empty_20 trivial rfl q1
theorem dX2_addScope_0 : decode cX2_addScope 0 = .ok (.aload_n 0, 1) := by decide +kernel
theorem dX2_addScope_1 : decode cX2_addScope 1 = .ok (.getfield 51, 3) := by decide +kernel
theorem dX2_addScope_4 : decode cX2_addScope 4 = .ok (.istore_n 3, 1) := by decide +kernel
theorem dX2_addScope_5 : decode cX2_addScope 5 = .ok (.iload_n 3, 1) := by decide +kernel
theorem dX2_addScope_6 : decode cX2_addScope 6 = .ok (.bipush 6, 2) := by decide +kernel
theorem dX2_addScope_8 : decode cX2_addScope 8 = .ok (.if_icmp .ge 27, 3) := by decide +kernel
theorem dX2_addScope_11 : decode cX2_addScope 11 = .ok (.aload_n 0, 1) := by decide +kernel
theorem dX2_addScope_12 : decode cX2_addScope 12 = .ok (.getfield 24, 3) := by decide +kernel
theorem dX2_addScope_15 : decode cX2_addScope 15 = .ok (.iload_n 3, 1) := by decide +kernel
theorem dX2_addScope_16 : decode cX2_addScope 16 = .ok (.iload_n 1, 1) := by decide +kernel
theorem dX2_addScope_17 : decode cX2_addScope 17 = .ok (.iastore, 1) := by decide +kernel
theorem dX2_addScope_18 : decode cX2_addScope 18 = .ok (.aload_n 0, 1) := by decide +kernel
theorem dX2_addScope_19 : decode cX2_addScope 19 = .ok (.getfield 27, 3) := by decide +kernel
theorem dX2_addScope_22 : decode cX2_addScope 22 = .ok (.iload_n 3, 1) := by decide +kernel
theorem dX2_addScope_23 : decode cX2_addScope 23 = .ok (.iload_n 2, 1) := by decide +kernel
theorem dX2_addScope_24 : decode cX2_addScope 24 = .ok (.iastore, 1) := by decide +kernel
theorem dX2_addScope_25 : decode cX2_addScope 25 = .ok (.aload_n 0, 1) := by decide +kernel
theorem dX2_addScope_26 : decode cX2_addScope 26 = .ok (.dup, 1) := by decide +kernel
theorem dX2_addScope_27 : decode cX2_addScope 27 = .ok (.getfield 51, 3) := by decide +kernel
theorem dX2_addScope_30 : decode cX2_addScope 30 = .ok (.iconst 1, 1) := by decide +kernel
theorem dX2_addScope_31 : decode cX2_addScope 31 = .ok (.iadd, 1) := by decide +kernel
theorem dX2_addScope_32 : decode cX2_addScope 32 = .ok (.putfield 51, 3) := by decide +kernel
theorem dX2_addScope_35 : decode cX2_addScope 35 = .ok (.iload_n 3, 1) := by decide +kernel
theorem dX2_addScope_36 : decode cX2_addScope 36 = .ok (.ireturn, 1) := by decide +kernel
theorem bX2_addScope_0 {d : Nat} {Q : Option jA → jH → Prop} (a0 : Nat) (i1 : Int) (i2 : Int) (u3 : Option jA) (h : jH)
    (s1 : (jS h a0).1 = 2)
    (q1 : (6 ≤ (jI h a0 3)) → Q (some (.inl (jI h a0 3))) h)
    (s2 : (jS h (jP h a0 8)).1 = 16)
    (s3 : (¬ (6 ≤ (jI h a0 3))) → 0 ≤ jI h a0 3)
    (s4 : (¬ (6 ≤ (jI h a0 3))) → jI h a0 3 < ((jS h (jP h a0 8)).2 : Int))
    (s5 : (jS h (jP h a0 9)).1 = 16)
    (s6 : (¬ (6 ≤ (jI h a0 3))) → jI h a0 3 < ((jS h (jP h a0 9)).2 : Int))
    (r1 : (¬ (6 ≤ (jI h a0 3))) → jR ((jI h a0 3) + 1))
    (q2 : (¬ (6 ≤ (jI h a0 3))) → Q (some (.inl (jI h a0 3))) (jsI (jsX (jsX h (jP h a0 8) ((jI h a0 3).toNat) i1) (jP h a0 9) ((jI h a0 3).toNat) i2) a0 3 ((jI h a0 3) + 1))) :
    V MX2_addScope d 0 [some (.inr a0), some (.inl i1), some (.inl i2), u3] [] h 0 0 Q := by
  refine V_aload_n (i := 0) dX2_addScope_0 rfl rfl ?_
  refine V_getI dX2_addScope_1 fX2_51 rfl s1 ?_
  refine V_istore_n (i := 3) dX2_addScope_4 rfl (by decide) ?_
  refine V_iload_n (i := 3) dX2_addScope_5 rfl rfl ?_
  refine V_bipush dX2_addScope_6 (by decide +kernel) ⟨by decide, by decide⟩ ?_
  refine V_icmp_ge (tgt := 35) dX2_addScope_8 (by decide) (fun c1 => ?_) (fun c1 => ?_)
  · refine V_iload_n (i := 3) dX2_addScope_35 rfl rfl ?_
    exact V_reti rfl dX2_addScope_36 (q1 c1)
  · refine V_aload_n (i := 0) dX2_addScope_11 rfl rfl ?_
    refine V_getP dX2_addScope_12 fX2_24 rfl s1 ?_
    refine V_iload_n (i := 3) dX2_addScope_15 rfl rfl ?_
    refine V_iload_n (i := 1) dX2_addScope_16 rfl rfl ?_
    refine V_iast dX2_addScope_17 s2 (s3 c1) (s4 c1) ?_
    refine V_aload_n (i := 0) dX2_addScope_18 rfl rfl ?_
    refine V_getP dX2_addScope_19 fX2_27 rfl s1 ?_
    refine V_iload_n (i := 3) dX2_addScope_22 rfl rfl ?_
    refine V_iload_n (i := 2) dX2_addScope_23 rfl rfl ?_
    refine V_iast dX2_addScope_24 s5 (s3 c1) (s6 c1) ?_
    refine V_aload_n (i := 0) dX2_addScope_25 rfl rfl ?_
    refine V_dup dX2_addScope_26 ?_
    refine V_getI dX2_addScope_27 fX2_51 rfl s1 ?_
    refine V_iconst dX2_addScope_30 ⟨by decide, by decide⟩ ?_
    refine V_iadd dX2_addScope_31 (r1 c1) ?_
    refine V_putI (ci := 2) (kf := 3) dX2_addScope_32 fX2_51 rfl rfl s1 ?_
    refine V_iload_n (i := 3) dX2_addScope_35 rfl rfl ?_
    exact V_reti rfl dX2_addScope_36 (q2 c1)
theorem dX2_addSignal_0 : decode cX2_addSignal 0 = .ok (.aload_n 0, 1) := by decide +kernel
theorem dX2_addSignal_1 : decode cX2_addSignal 1 = .ok (.getfield 41, 3) := by decide +kernel
theorem dX2_addSignal_4 : decode cX2_addSignal 4 = .ok (.istore 5, 2) := by decide +kernel
theorem dX2_addSignal_6 : decode cX2_addSignal 6 = .ok (.iload 5, 2) := by decide +kernel
theorem dX2_addSignal_8 : decode cX2_addSignal 8 = .ok (.bipush 12, 2) := by decide +kernel
theorem dX2_addSignal_10 : decode cX2_addSignal 10 = .ok (.if_icmp .lt 4, 3) := by decide +kernel
theorem dX2_addSignal_13 : decode cX2_addSignal 13 = .ok (.return_, 1) := by decide +kernel
theorem dX2_addSignal_14 : decode cX2_addSignal 14 = .ok (.aload_n 0, 1) := by decide +kernel
theorem dX2_addSignal_15 : decode cX2_addSignal 15 = .ok (.getfield 9, 3) := by decide +kernel
theorem dX2_addSignal_18 : decode cX2_addSignal 18 = .ok (.iload 5, 2) := by decide +kernel
theorem dX2_addSignal_20 : decode cX2_addSignal 20 = .ok (.iload_n 1, 1) := by decide +kernel
theorem dX2_addSignal_21 : decode cX2_addSignal 21 = .ok (.iastore, 1) := by decide +kernel
theorem dX2_addSignal_22 : decode cX2_addSignal 22 = .ok (.aload_n 0, 1) := by decide +kernel
theorem dX2_addSignal_23 : decode cX2_addSignal 23 = .ok (.getfield 18, 3) := by decide +kernel
theorem dX2_addSignal_26 : decode cX2_addSignal 26 = .ok (.iload 5, 2) := by decide +kernel
theorem dX2_addSignal_28 : decode cX2_addSignal 28 = .ok (.iload_n 2, 1) := by decide +kernel
theorem dX2_addSignal_29 : decode cX2_addSignal 29 = .ok (.iastore, 1) := by decide +kernel
theorem dX2_addSignal_30 : decode cX2_addSignal 30 = .ok (.aload_n 0, 1) := by decide +kernel
theorem dX2_addSignal_31 : decode cX2_addSignal 31 = .ok (.getfield 21, 3) := by decide +kernel
theorem dX2_addSignal_34 : decode cX2_addSignal 34 = .ok (.iload 5, 2) := by decide +kernel
theorem dX2_addSignal_36 : decode cX2_addSignal 36 = .ok (.iload_n 3, 1) := by decide +kernel
theorem dX2_addSignal_37 : decode cX2_addSignal 37 = .ok (.iastore, 1) := by decide +kernel
theorem dX2_addSignal_38 : decode cX2_addSignal 38 = .ok (.aload_n 0, 1) := by decide +kernel
theorem dX2_addSignal_39 : decode cX2_addSignal 39 = .ok (.getfield 15, 3) := by decide +kernel
theorem dX2_addSignal_42 : decode cX2_addSignal 42 = .ok (.iload 5, 2) := by decide +kernel
theorem dX2_addSignal_44 : decode cX2_addSignal 44 = .ok (.iload 4, 2) := by decide +kernel
theorem dX2_addSignal_46 : decode cX2_addSignal 46 = .ok (.iastore, 1) := by decide +kernel
theorem dX2_addSignal_47 : decode cX2_addSignal 47 = .ok (.aload_n 0, 1) := by decide +kernel
theorem dX2_addSignal_48 : decode cX2_addSignal 48 = .ok (.dup, 1) := by decide +kernel
theorem dX2_addSignal_49 : decode cX2_addSignal 49 = .ok (.getfield 41, 3) := by decide +kernel
theorem dX2_addSignal_52 : decode cX2_addSignal 52 = .ok (.iconst 1, 1) := by decide +kernel
theorem dX2_addSignal_53 : decode cX2_addSignal 53 = .ok (.iadd, 1) := by decide +kernel
theorem dX2_addSignal_54 : decode cX2_addSignal 54 = .ok (.putfield 41, 3) := by decide +kernel
theorem dX2_addSignal_57 : decode cX2_addSignal 57 = .ok (.iload_n 1, 1) := by decide +kernel
theorem dX2_addSignal_58 : decode cX2_addSignal 58 = .ok (.ifCond .ne 16, 3) := by decide +kernel
theorem dX2_addSignal_61 : decode cX2_addSignal 61 = .ok (.aload_n 0, 1) := by decide +kernel
theorem dX2_addSignal_62 : decode cX2_addSignal 62 = .ok (.dup, 1) := by decide +kernel
theorem dX2_addSignal_63 : decode cX2_addSignal 63 = .ok (.getfield 45, 3) := by decide +kernel
theorem dX2_addSignal_66 : decode cX2_addSignal 66 = .ok (.iconst 1, 1) := by decide +kernel
theorem dX2_addSignal_67 : decode cX2_addSignal 67 = .ok (.iadd, 1) := by decide +kernel
theorem dX2_addSignal_68 : decode cX2_addSignal 68 = .ok (.putfield 45, 3) := by decide +kernel
theorem dX2_addSignal_71 : decode cX2_addSignal 71 = .ok (.goto 18, 3) := by decide +kernel
theorem dX2_addSignal_74 : decode cX2_addSignal 74 = .ok (.iload_n 1, 1) := by decide +kernel
theorem dX2_addSignal_75 : decode cX2_addSignal 75 = .ok (.iconst 2, 1) := by decide +kernel
theorem dX2_addSignal_76 : decode cX2_addSignal 76 = .ok (.if_icmp .ne 13, 3) := by decide +kernel
theorem dX2_addSignal_79 : decode cX2_addSignal 79 = .ok (.aload_n 0, 1) := by decide +kernel
theorem dX2_addSignal_80 : decode cX2_addSignal 80 = .ok (.dup, 1) := by decide +kernel
theorem dX2_addSignal_81 : decode cX2_addSignal 81 = .ok (.getfield 48, 3) := by decide +kernel
theorem dX2_addSignal_84 : decode cX2_addSignal 84 = .ok (.iconst 1, 1) := by decide +kernel
theorem dX2_addSignal_85 : decode cX2_addSignal 85 = .ok (.iadd, 1) := by decide +kernel
theorem dX2_addSignal_86 : decode cX2_addSignal 86 = .ok (.putfield 48, 3) := by decide +kernel
theorem dX2_addSignal_89 : decode cX2_addSignal 89 = .ok (.return_, 1) := by decide +kernel
theorem bX2_addSignal_0 {d : Nat} {Q : Option jA → jH → Prop} (a0 : Nat) (i1 : Int) (i2 : Int) (i3 : Int) (i4 : Int) (u5 : Option jA) (h : jH)
    (s1 : (jS h a0).1 = 2)
    (s2 : (jS h (jP h a0 4)).1 = 16)
    (s3 : ((jI h a0 0) < 12) → 0 ≤ jI h a0 0)
    (s4 : ((jI h a0 0) < 12) → jI h a0 0 < ((jS h (jP h a0 4)).2 : Int))
    (s5 : (jS h (jP h a0 6)).1 = 16)
    (s6 : ((jI h a0 0) < 12) → jI h a0 0 < ((jS h (jP h a0 6)).2 : Int))
    (s7 : (jS h (jP h a0 7)).1 = 16)
    (s8 : ((jI h a0 0) < 12) → jI h a0 0 < ((jS h (jP h a0 7)).2 : Int))
    (s9 : (jS h (jP h a0 5)).1 = 16)
    (s10 : ((jI h a0 0) < 12) → jI h a0 0 < ((jS h (jP h a0 5)).2 : Int))
    (r1 : ((jI h a0 0) < 12) → jR ((jI h a0 0) + 1))
    (q1 : ((jI h a0 0) < 12) → (i1 ≠ 0) → (i1 ≠ 2) → Q none (jsI (jsX (jsX (jsX (jsX h (jP h a0 4) ((jI h a0 0).toNat) i1) (jP h a0 6) ((jI h a0 0).toNat) i2) (jP h a0 7) ((jI h a0 0).toNat) i3) (jP h a0 5) ((jI h a0 0).toNat) i4) a0 0 ((jI h a0 0) + 1)))
    (r2 : ((jI h a0 0) < 12) → (i1 ≠ 0) → (i1 = 2) → jR ((jI h a0 2) + 1))
    (q2 : ((jI h a0 0) < 12) → (i1 ≠ 0) → (i1 = 2) → Q none (jsI (jsI (jsX (jsX (jsX (jsX h (jP h a0 4) ((jI h a0 0).toNat) i1) (jP h a0 6) ((jI h a0 0).toNat) i2) (jP h a0 7) ((jI h a0 0).toNat) i3) (jP h a0 5) ((jI h a0 0).toNat) i4) a0 0 ((jI h a0 0) + 1)) a0 2 ((jI h a0 2) + 1)))
    (r3 : ((jI h a0 0) < 12) → (i1 = 0) → jR ((jI h a0 1) + 1))
    (q3 : ((jI h a0 0) < 12) → (i1 = 0) → Q none (jsI (jsI (jsX (jsX (jsX (jsX h (jP h a0 4) ((jI h a0 0).toNat) i1) (jP h a0 6) ((jI h a0 0).toNat) i2) (jP h a0 7) ((jI h a0 0).toNat) i3) (jP h a0 5) ((jI h a0 0).toNat) i4) a0 0 ((jI h a0 0) + 1)) a0 1 ((jI h a0 1) + 1)))
    (q4 : (¬ ((jI h a0 0) < 12)) → Q none h) :
    V MX2_addSignal d 0 [some (.inr a0), some (.inl i1), some (.inl i2), some (.inl i3), some (.inl i4), u5] [] h 0 0 Q := by
  refine V_aload_n (i := 0) dX2_addSignal_0 rfl rfl ?_
  refine V_getI dX2_addSignal_1 fX2_41 rfl s1 ?_
  refine V_istore (i := 5) dX2_addSignal_4 (by decide) ?_
  refine V_iload (i := 5) dX2_addSignal_6 rfl ?_
  refine V_bipush dX2_addSignal_8 (by decide +kernel) ⟨by decide, by decide⟩ ?_
  refine V_icmp_lt (tgt := 14) dX2_addSignal_10 (by decide) (fun c1 => ?_) (fun c1 => ?_)
  · refine V_aload_n (i := 0) dX2_addSignal_14 rfl rfl ?_
    refine V_getP dX2_addSignal_15 fX2_9 rfl s1 ?_
    refine V_iload (i := 5) dX2_addSignal_18 rfl ?_
    refine V_iload_n (i := 1) dX2_addSignal_20 rfl rfl ?_
    refine V_iast dX2_addSignal_21 s2 (s3 c1) (s4 c1) ?_
    refine V_aload_n (i := 0) dX2_addSignal_22 rfl rfl ?_
    refine V_getP dX2_addSignal_23 fX2_18 rfl s1 ?_
    refine V_iload (i := 5) dX2_addSignal_26 rfl ?_
    refine V_iload_n (i := 2) dX2_addSignal_28 rfl rfl ?_
    refine V_iast dX2_addSignal_29 s5 (s3 c1) (s6 c1) ?_
    refine V_aload_n (i := 0) dX2_addSignal_30 rfl rfl ?_
    refine V_getP dX2_addSignal_31 fX2_21 rfl s1 ?_
    refine V_iload (i := 5) dX2_addSignal_34 rfl ?_
    refine V_iload_n (i := 3) dX2_addSignal_36 rfl rfl ?_
    refine V_iast dX2_addSignal_37 s7 (s3 c1) (s8 c1) ?_
    refine V_aload_n (i := 0) dX2_addSignal_38 rfl rfl ?_
    refine V_getP dX2_addSignal_39 fX2_15 rfl s1 ?_
    refine V_iload (i := 5) dX2_addSignal_42 rfl ?_
    refine V_iload (i := 4) dX2_addSignal_44 rfl ?_
    refine V_iast dX2_addSignal_46 s9 (s3 c1) (s10 c1) ?_
    refine V_aload_n (i := 0) dX2_addSignal_47 rfl rfl ?_
    refine V_dup dX2_addSignal_48 ?_
    refine V_getI dX2_addSignal_49 fX2_41 rfl s1 ?_
    refine V_iconst dX2_addSignal_52 ⟨by decide, by decide⟩ ?_
    refine V_iadd dX2_addSignal_53 (r1 c1) ?_
    refine V_putI (ci := 2) (kf := 0) dX2_addSignal_54 fX2_41 rfl rfl s1 ?_
    refine V_iload_n (i := 1) dX2_addSignal_57 rfl rfl ?_
    refine V_if_ne (tgt := 74) dX2_addSignal_58 (by decide) (fun c2 => ?_) (fun c2 => ?_)
    · refine V_iload_n (i := 1) dX2_addSignal_74 rfl rfl ?_
      refine V_iconst dX2_addSignal_75 ⟨by decide, by decide⟩ ?_
      refine V_icmp_ne (tgt := 89) dX2_addSignal_76 (by decide) (fun c3 => ?_) (fun c3 => ?_)
      · exact V_ret (v := none) rfl rfl dX2_addSignal_89 trivial rfl (q1 c1 c2 c3)
      · refine V_aload_n (i := 0) dX2_addSignal_79 rfl rfl ?_
        refine V_dup dX2_addSignal_80 ?_
        refine V_getI dX2_addSignal_81 fX2_48 rfl s1 ?_
        refine V_topI (jI_ne (by decide)) ?_
        refine V_iconst dX2_addSignal_84 ⟨by decide, by decide⟩ ?_
        refine V_iadd dX2_addSignal_85 (r2 c1 c2 c3) ?_
        refine V_putI (ci := 2) (kf := 2) dX2_addSignal_86 fX2_48 rfl rfl s1 ?_
        exact V_ret (v := none) rfl rfl dX2_addSignal_89 trivial rfl (q2 c1 c2 c3)
    · refine V_aload_n (i := 0) dX2_addSignal_61 rfl rfl ?_
      refine V_dup dX2_addSignal_62 ?_
      refine V_getI dX2_addSignal_63 fX2_45 rfl s1 ?_
      refine V_topI (jI_ne (by decide)) ?_
      refine V_iconst dX2_addSignal_66 ⟨by decide, by decide⟩ ?_
      refine V_iadd dX2_addSignal_67 (r3 c1 c2) ?_
      refine V_putI (ci := 2) (kf := 1) dX2_addSignal_68 fX2_45 rfl rfl s1 ?_
      refine V_goto (tgt := 89) dX2_addSignal_71 (by decide) ?_
      exact V_ret (v := none) rfl rfl dX2_addSignal_89 trivial rfl (q3 c1 c2)
  · exact V_ret (v := none) rfl rfl dX2_addSignal_13 trivial rfl (q4 c1)
theorem dX2_beginCode_0 : decode cX2_beginCode 0 = .ok (.aload_n 0, 1) := by decide +kernel
theorem dX2_beginCode_1 : decode cX2_beginCode 1 = .ok (.getfield 41, 3) := by decide +kernel
theorem dX2_beginCode_4 : decode cX2_beginCode 4 = .ok (.bipush 12, 2) := by decide +kernel
theorem dX2_beginCode_6 : decode cX2_beginCode 6 = .ok (.if_icmp .ge 13, 3) := by decide +kernel
theorem dX2_beginCode_9 : decode cX2_beginCode 9 = .ok (.aload_n 0, 1) := by decide +kernel
theorem dX2_beginCode_10 : decode cX2_beginCode 10 = .ok (.getfield 35, 3) := by decide +kernel
theorem dX2_beginCode_13 : decode cX2_beginCode 13 = .ok (.aload_n 0, 1) := by decide +kernel
theorem dX2_beginCode_14 : decode cX2_beginCode 14 = .ok (.getfield 41, 3) := by decide +kernel
theorem dX2_beginCode_17 : decode cX2_beginCode 17 = .ok (.iconst 0, 1) := by decide +kernel
theorem dX2_beginCode_18 : decode cX2_beginCode 18 = .ok (.iastore, 1) := by decide +kernel
theorem dX2_beginCode_19 : decode cX2_beginCode 19 = .ok (.return_, 1) := by decide +kernel
theorem bX2_beginCode_0 {d : Nat} {Q : Option jA → jH → Prop} (a0 : Nat) (h : jH)
    (s1 : (jS h a0).1 = 2)
    (q1 : (12 ≤ (jI h a0 0)) → Q none h)
    (s2 : (jS h (jP h a0 11)).1 = 16)
    (s3 : (¬ (12 ≤ (jI h a0 0))) → 0 ≤ jI h a0 0)
    (s4 : (¬ (12 ≤ (jI h a0 0))) → jI h a0 0 < ((jS h (jP h a0 11)).2 : Int))
    (q2 : (¬ (12 ≤ (jI h a0 0))) → Q none (jsX h (jP h a0 11) ((jI h a0 0).toNat) 0)) :
    V MX2_beginCode d 0 [some (.inr a0)] [] h 0 0 Q := by
  refine V_aload_n (i := 0) dX2_beginCode_0 rfl rfl ?_
  refine V_getI dX2_beginCode_1 fX2_41 rfl s1 ?_
  refine V_bipush dX2_beginCode_4 (by decide +kernel) ⟨by decide, by decide⟩ ?_
  refine V_icmp_ge (tgt := 19) dX2_beginCode_6 (by decide) (fun c1 => ?_) (fun c1 => ?_)
  · exact V_ret (v := none) rfl rfl dX2_beginCode_19 trivial rfl (q1 c1)
  · refine V_aload_n (i := 0) dX2_beginCode_9 rfl rfl ?_
    refine V_getP dX2_beginCode_10 fX2_35 rfl s1 ?_
    refine V_aload_n (i := 0) dX2_beginCode_13 rfl rfl ?_
    refine V_getI dX2_beginCode_14 fX2_41 rfl s1 ?_
    refine V_iconst dX2_beginCode_17 ⟨by decide, by decide⟩ ?_
    refine V_iast dX2_beginCode_18 s2 (s3 c1) (s4 c1) ?_
    exact V_ret (v := none) rfl rfl dX2_beginCode_19 trivial rfl (q2 c1)
theorem dX2_addCode_0 : decode cX2_addCode 0 = .ok (.aload_n 0, 1) := by decide +kernel
theorem dX2_addCode_1 : decode cX2_addCode 1 = .ok (.getfield 41, 3) := by decide +kernel
theorem dX2_addCode_4 : decode cX2_addCode 4 = .ok (.bipush 12, 2) := by decide +kernel
theorem dX2_addCode_6 : decode cX2_addCode 6 = .ok (.if_icmp .ge 50, 3) := by decide +kernel
theorem dX2_addCode_9 : decode cX2_addCode 9 = .ok (.aload_n 0, 1) := by decide +kernel
theorem dX2_addCode_10 : decode cX2_addCode 10 = .ok (.getfield 35, 3) := by decide +kernel
theorem dX2_addCode_13 : decode cX2_addCode 13 = .ok (.aload_n 0, 1) := by decide +kernel
theorem dX2_addCode_14 : decode cX2_addCode 14 = .ok (.getfield 41, 3) := by decide +kernel
theorem dX2_addCode_17 : decode cX2_addCode 17 = .ok (.iaload, 1) := by decide +kernel
theorem dX2_addCode_18 : decode cX2_addCode 18 = .ok (.bipush 17, 2) := by decide +kernel
theorem dX2_addCode_20 : decode cX2_addCode 20 = .ok (.if_icmp .ge 36, 3) := by decide +kernel
theorem dX2_addCode_23 : decode cX2_addCode 23 = .ok (.aload_n 0, 1) := by decide +kernel
theorem dX2_addCode_24 : decode cX2_addCode 24 = .ok (.getfield 32, 3) := by decide +kernel
theorem dX2_addCode_27 : decode cX2_addCode 27 = .ok (.aload_n 0, 1) := by decide +kernel
theorem dX2_addCode_28 : decode cX2_addCode 28 = .ok (.getfield 41, 3) := by decide +kernel
theorem dX2_addCode_31 : decode cX2_addCode 31 = .ok (.aaload, 1) := by decide +kernel
theorem dX2_addCode_32 : decode cX2_addCode 32 = .ok (.aload_n 0, 1) := by decide +kernel
theorem dX2_addCode_33 : decode cX2_addCode 33 = .ok (.getfield 35, 3) := by decide +kernel
theorem dX2_addCode_36 : decode cX2_addCode 36 = .ok (.aload_n 0, 1) := by decide +kernel
theorem dX2_addCode_37 : decode cX2_addCode 37 = .ok (.getfield 41, 3) := by decide +kernel
theorem dX2_addCode_40 : decode cX2_addCode 40 = .ok (.iaload, 1) := by decide +kernel
theorem dX2_addCode_41 : decode cX2_addCode 41 = .ok (.iload_n 1, 1) := by decide +kernel
theorem dX2_addCode_42 : decode cX2_addCode 42 = .ok (.iastore, 1) := by decide +kernel
theorem dX2_addCode_43 : decode cX2_addCode 43 = .ok (.aload_n 0, 1) := by decide +kernel
theorem dX2_addCode_44 : decode cX2_addCode 44 = .ok (.getfield 35, 3) := by decide +kernel
theorem dX2_addCode_47 : decode cX2_addCode 47 = .ok (.aload_n 0, 1) := by decide +kernel
theorem dX2_addCode_48 : decode cX2_addCode 48 = .ok (.getfield 41, 3) := by decide +kernel
theorem dX2_addCode_51 : decode cX2_addCode 51 = .ok (.dup2, 1) := by decide +kernel
theorem dX2_addCode_52 : decode cX2_addCode 52 = .ok (.iaload, 1) := by decide +kernel
theorem dX2_addCode_53 : decode cX2_addCode 53 = .ok (.iconst 1, 1) := by decide +kernel
theorem dX2_addCode_54 : decode cX2_addCode 54 = .ok (.iadd, 1) := by decide +kernel
theorem dX2_addCode_55 : decode cX2_addCode 55 = .ok (.iastore, 1) := by decide +kernel
theorem dX2_addCode_56 : decode cX2_addCode 56 = .ok (.return_, 1) := by decide +kernel
theorem bX2_addCode_0 {d : Nat} {Q : Option jA → jH → Prop} (a0 : Nat) (i1 : Int) (h : jH)
    (s1 : (jS h a0).1 = 2)
    (q1 : (12 ≤ (jI h a0 0)) → Q none h)
    (s2 : (jS h (jP h a0 11)).1 = 16)
    (s3 : (¬ (12 ≤ (jI h a0 0))) → 0 ≤ jI h a0 0)
    (s4 : (¬ (12 ≤ (jI h a0 0))) → jI h a0 0 < ((jS h (jP h a0 11)).2 : Int))
    (q2 : (¬ (12 ≤ (jI h a0 0))) → (17 ≤ (jX h (jP h a0 11) ((jI h a0 0).toNat))) → Q none h)
    (s5 : (jS h (jP h a0 10)).1 = 20)
    (s6 : (¬ (12 ≤ (jI h a0 0))) → (¬ (17 ≤ (jX h (jP h a0 11) ((jI h a0 0).toNat)))) → jI h a0 0 < ((jS h (jP h a0 10)).2 : Int))
    (s7 : (¬ (12 ≤ (jI h a0 0))) → (¬ (17 ≤ (jX h (jP h a0 11) ((jI h a0 0).toNat)))) → (jS h (jY h (jP h a0 10) ((jI h a0 0).toNat))).1 = 16)
    (s8 : (¬ (12 ≤ (jI h a0 0))) → (¬ (17 ≤ (jX h (jP h a0 11) ((jI h a0 0).toNat)))) → 0 ≤ jX h (jP h a0 11) ((jI h a0 0).toNat))
    (s9 : (¬ (12 ≤ (jI h a0 0))) → (¬ (17 ≤ (jX h (jP h a0 11) ((jI h a0 0).toNat)))) → jX h (jP h a0 11) ((jI h a0 0).toNat) < ((jS h (jY h (jP h a0 10) ((jI h a0 0).toNat))).2 : Int))
    (r1 : (¬ (12 ≤ (jI h a0 0))) → (¬ (17 ≤ (jX h (jP h a0 11) ((jI h a0 0).toNat)))) → jR ((jX (jsX h (jY h (jP h a0 10) ((jI h a0 0).toNat)) ((jX h (jP h a0 11) ((jI h a0 0).toNat)).toNat) i1) (jP h a0 11) ((jI h a0 0).toNat)) + 1))
    (q3 : (¬ (12 ≤ (jI h a0 0))) → (¬ (17 ≤ (jX h (jP h a0 11) ((jI h a0 0).toNat)))) → Q none (jsX (jsX h (jY h (jP h a0 10) ((jI h a0 0).toNat)) ((jX h (jP h a0 11) ((jI h a0 0).toNat)).toNat) i1) (jP h a0 11) ((jI h a0 0).toNat) ((jX (jsX h (jY h (jP h a0 10) ((jI h a0 0).toNat)) ((jX h (jP h a0 11) ((jI h a0 0).toNat)).toNat) i1) (jP h a0 11) ((jI h a0 0).toNat)) + 1))) :
    V MX2_addCode d 0 [some (.inr a0), some (.inl i1)] [] h 0 0 Q := by
  refine V_aload_n (i := 0) dX2_addCode_0 rfl rfl ?_
  refine V_getI dX2_addCode_1 fX2_41 rfl s1 ?_
  refine V_bipush dX2_addCode_4 (by decide +kernel) ⟨by decide, by decide⟩ ?_
  refine V_icmp_ge (tgt := 56) dX2_addCode_6 (by decide) (fun c1 => ?_) (fun c1 => ?_)
  · exact V_ret (v := none) rfl rfl dX2_addCode_56 trivial rfl (q1 c1)
  · refine V_aload_n (i := 0) dX2_addCode_9 rfl rfl ?_
    refine V_getP dX2_addCode_10 fX2_35 rfl s1 ?_
    refine V_aload_n (i := 0) dX2_addCode_13 rfl rfl ?_
    refine V_getI dX2_addCode_14 fX2_41 rfl s1 ?_
    refine V_iald dX2_addCode_17 s2 (s3 c1) (s4 c1) ?_
    refine V_bipush dX2_addCode_18 (by decide +kernel) ⟨by decide, by decide⟩ ?_
    refine V_icmp_ge (tgt := 56) dX2_addCode_20 (by decide) (fun c2 => ?_) (fun c2 => ?_)
    · exact V_ret (v := none) rfl rfl dX2_addCode_56 trivial rfl (q2 c1 c2)
    · refine V_aload_n (i := 0) dX2_addCode_23 rfl rfl ?_
      refine V_getP dX2_addCode_24 fX2_32 rfl s1 ?_
      refine V_aload_n (i := 0) dX2_addCode_27 rfl rfl ?_
      refine V_getI dX2_addCode_28 fX2_41 rfl s1 ?_
      refine V_aald20 dX2_addCode_31 s5 (s3 c1) (s6 c1 c2) ?_
      refine V_aload_n (i := 0) dX2_addCode_32 rfl rfl ?_
      refine V_getP dX2_addCode_33 fX2_35 rfl s1 ?_
      refine V_aload_n (i := 0) dX2_addCode_36 rfl rfl ?_
      refine V_getI dX2_addCode_37 fX2_41 rfl s1 ?_
      refine V_iald dX2_addCode_40 s2 (s3 c1) (s4 c1) ?_
      refine V_iload_n (i := 1) dX2_addCode_41 rfl rfl ?_
      refine V_iast dX2_addCode_42 (s7 c1 c2) (s8 c1 c2) (s9 c1 c2) ?_
      refine V_aload_n (i := 0) dX2_addCode_43 rfl rfl ?_
      refine V_getP dX2_addCode_44 fX2_35 rfl s1 ?_
      refine V_aload_n (i := 0) dX2_addCode_47 rfl rfl ?_
      refine V_getI dX2_addCode_48 fX2_41 rfl s1 ?_
      refine V_dup2 dX2_addCode_51 ?_
      refine V_iald dX2_addCode_52 s2 (s3 c1) (s4 c1) ?_
      refine V_iconst dX2_addCode_53 ⟨by decide, by decide⟩ ?_
      refine V_iadd dX2_addCode_54 (r1 c1 c2) ?_
      refine V_iast dX2_addCode_55 s2 (s3 c1) (s4 c1) ?_
      exact V_ret (v := none) rfl rfl dX2_addCode_56 trivial rfl (q3 c1 c2)
theorem dX2_named_0 : decode cX2_named 0 = .ok (.iconst 0, 1) := by decide +kernel
theorem dX2_named_1 : decode cX2_named 1 = .ok (.istore_n 3, 1) := by decide +kernel
theorem dX2_named_2 : decode cX2_named 2 = .ok (.iload_n 3, 1) := by decide +kernel
theorem dX2_named_3 : decode cX2_named 3 = .ok (.aload_n 0, 1) := by decide +kernel
theorem dX2_named_4 : decode cX2_named 4 = .ok (.getfield 41, 3) := by decide +kernel
theorem dX2_named_7 : decode cX2_named 7 = .ok (.if_icmp .ge 31, 3) := by decide +kernel
theorem dX2_named_10 : decode cX2_named 10 = .ok (.aload_n 0, 1) := by decide +kernel
theorem dX2_named_11 : decode cX2_named 11 = .ok (.getfield 18, 3) := by decide +kernel
theorem dX2_named_14 : decode cX2_named 14 = .ok (.iload_n 3, 1) := by decide +kernel
theorem dX2_named_15 : decode cX2_named 15 = .ok (.iaload, 1) := by decide +kernel
theorem dX2_named_16 : decode cX2_named 16 = .ok (.iload_n 1, 1) := by decide +kernel
theorem dX2_named_17 : decode cX2_named 17 = .ok (.if_icmp .ne 15, 3) := by decide +kernel
theorem dX2_named_20 : decode cX2_named 20 = .ok (.aload_n 0, 1) := by decide +kernel
theorem dX2_named_21 : decode cX2_named 21 = .ok (.getfield 21, 3) := by decide +kernel
theorem dX2_named_24 : decode cX2_named 24 = .ok (.iload_n 3, 1) := by decide +kernel
theorem dX2_named_25 : decode cX2_named 25 = .ok (.iaload, 1) := by decide +kernel
theorem dX2_named_26 : decode cX2_named 26 = .ok (.iload_n 2, 1) := by decide +kernel
theorem dX2_named_27 : decode cX2_named 27 = .ok (.if_icmp .ne 5, 3) := by decide +kernel
theorem dX2_named_30 : decode cX2_named 30 = .ok (.iload_n 3, 1) := by decide +kernel
theorem dX2_named_31 : decode cX2_named 31 = .ok (.ireturn, 1) := by decide +kernel
theorem dX2_named_32 : decode cX2_named 32 = .ok (.iinc 3 1, 3) := by decide +kernel
theorem dX2_named_35 : decode cX2_named 35 = .ok (.goto (-33), 3) := by decide +kernel
theorem dX2_named_38 : decode cX2_named 38 = .ok (.iconst 0, 1) := by decide +kernel
theorem dX2_named_39 : decode cX2_named 39 = .ok (.istore_n 3, 1) := by decide +kernel
theorem dX2_named_40 : decode cX2_named 40 = .ok (.iload_n 3, 1) := by decide +kernel
theorem dX2_named_41 : decode cX2_named 41 = .ok (.aload_n 0, 1) := by decide +kernel
theorem dX2_named_42 : decode cX2_named 42 = .ok (.getfield 51, 3) := by decide +kernel
theorem dX2_named_45 : decode cX2_named 45 = .ok (.if_icmp .ge 34, 3) := by decide +kernel
theorem dX2_named_48 : decode cX2_named 48 = .ok (.aload_n 0, 1) := by decide +kernel
theorem dX2_named_49 : decode cX2_named 49 = .ok (.getfield 24, 3) := by decide +kernel
theorem dX2_named_52 : decode cX2_named 52 = .ok (.iload_n 3, 1) := by decide +kernel
theorem dX2_named_53 : decode cX2_named 53 = .ok (.iaload, 1) := by decide +kernel
theorem dX2_named_54 : decode cX2_named 54 = .ok (.iload_n 1, 1) := by decide +kernel
theorem dX2_named_55 : decode cX2_named 55 = .ok (.if_icmp .ne 18, 3) := by decide +kernel
theorem dX2_named_58 : decode cX2_named 58 = .ok (.aload_n 0, 1) := by decide +kernel
theorem dX2_named_59 : decode cX2_named 59 = .ok (.getfield 27, 3) := by decide +kernel
theorem dX2_named_62 : decode cX2_named 62 = .ok (.iload_n 3, 1) := by decide +kernel
theorem dX2_named_63 : decode cX2_named 63 = .ok (.iaload, 1) := by decide +kernel
theorem dX2_named_64 : decode cX2_named 64 = .ok (.iload_n 2, 1) := by decide +kernel
theorem dX2_named_65 : decode cX2_named 65 = .ok (.if_icmp .ne 8, 3) := by decide +kernel
theorem dX2_named_68 : decode cX2_named 68 = .ok (.bipush 100, 2) := by decide +kernel
theorem dX2_named_70 : decode cX2_named 70 = .ok (.iload_n 3, 1) := by decide +kernel
theorem dX2_named_71 : decode cX2_named 71 = .ok (.iadd, 1) := by decide +kernel
theorem dX2_named_72 : decode cX2_named 72 = .ok (.ireturn, 1) := by decide +kernel
theorem dX2_named_73 : decode cX2_named 73 = .ok (.iinc 3 1, 3) := by decide +kernel
theorem dX2_named_76 : decode cX2_named 76 = .ok (.goto (-36), 3) := by decide +kernel
theorem dX2_named_79 : decode cX2_named 79 = .ok (.bipush (-9), 2) := by decide +kernel
theorem dX2_named_81 : decode cX2_named 81 = .ok (.ireturn, 1) := by decide +kernel
theorem bX2_named_0 {d : Nat} {Q : Option jA → jH → Prop} (a0 : Nat) (i1 : Int) (i2 : Int) (u3 : Option jA) (h : jH)
    (k1 : V MX2_named d 2 [some (.inr a0), some (.inl i1), some (.inl i2), some (.inl 0)] [] h 0 0 Q) :
    V MX2_named d 0 [some (.inr a0), some (.inl i1), some (.inl i2), u3] [] h 0 0 Q := by
  refine V_iconst dX2_named_0 ⟨by decide, by decide⟩ ?_
  refine V_istore_n (i := 3) dX2_named_1 rfl (by decide) ?_
  exact k1
theorem bX2_named_2 {d : Nat} {Q : Option jA → jH → Prop} (a0 : Nat) (i1 : Int) (i2 : Int) (i3 : Int) (h : jH)
    (s1 : (jS h a0).1 = 2)
    (k1 : ((jI h a0 0) ≤ i3) → V MX2_named d 40 [some (.inr a0), some (.inl i1), some (.inl i2), some (.inl 0)] [] h 0 0 Q)
    (s2 : (jS h (jP h a0 6)).1 = 16)
    (s3 : (¬ ((jI h a0 0) ≤ i3)) → 0 ≤ i3)
    (s4 : (¬ ((jI h a0 0) ≤ i3)) → i3 < ((jS h (jP h a0 6)).2 : Int))
    (r1 : (¬ ((jI h a0 0) ≤ i3)) → ((jX h (jP h a0 6) ((i3).toNat)) ≠ i1) → jR (i3 + 1))
    (k2 : (¬ ((jI h a0 0) ≤ i3)) → ((jX h (jP h a0 6) ((i3).toNat)) ≠ i1) → V MX2_named d 2 [some (.inr a0), some (.inl i1), some (.inl i2), some (.inl (i3 + 1))] [] h 0 0 Q)
    (s5 : (jS h (jP h a0 7)).1 = 16)
    (s6 : (¬ ((jI h a0 0) ≤ i3)) → ((jX h (jP h a0 6) ((i3).toNat)) = i1) → i3 < ((jS h (jP h a0 7)).2 : Int))
    (r2 : (¬ ((jI h a0 0) ≤ i3)) → ((jX h (jP h a0 6) ((i3).toNat)) = i1) → ((jX h (jP h a0 7) ((i3).toNat)) ≠ i2) → jR (i3 + 1))
    (k3 : (¬ ((jI h a0 0) ≤ i3)) → ((jX h (jP h a0 6) ((i3).toNat)) = i1) → ((jX h (jP h a0 7) ((i3).toNat)) ≠ i2) → V MX2_named d 2 [some (.inr a0), some (.inl i1), some (.inl i2), some (.inl (i3 + 1))] [] h 0 0 Q)
    (q1 : (¬ ((jI h a0 0) ≤ i3)) → ((jX h (jP h a0 6) ((i3).toNat)) = i1) → ((jX h (jP h a0 7) ((i3).toNat)) = i2) → Q (some (.inl i3)) h) :
    V MX2_named d 2 [some (.inr a0), some (.inl i1), some (.inl i2), some (.inl i3)] [] h 0 0 Q := by
  refine V_iload_n (i := 3) dX2_named_2 rfl rfl ?_
  refine V_aload_n (i := 0) dX2_named_3 rfl rfl ?_
  refine V_getI dX2_named_4 fX2_41 rfl s1 ?_
  refine V_icmp_ge (tgt := 38) dX2_named_7 (by decide) (fun c1 => ?_) (fun c1 => ?_)
  · refine V_iconst dX2_named_38 ⟨by decide, by decide⟩ ?_
    refine V_istore_n (i := 3) dX2_named_39 rfl (by decide) ?_
    exact (k1 c1)
  · refine V_aload_n (i := 0) dX2_named_10 rfl rfl ?_
    refine V_getP dX2_named_11 fX2_18 rfl s1 ?_
    refine V_iload_n (i := 3) dX2_named_14 rfl rfl ?_
    refine V_iald dX2_named_15 s2 (s3 c1) (s4 c1) ?_
    refine V_iload_n (i := 1) dX2_named_16 rfl rfl ?_
    refine V_icmp_ne (tgt := 32) dX2_named_17 (by decide) (fun c2 => ?_) (fun c2 => ?_)
    · refine V_iinc (i := 3) dX2_named_32 rfl (by decide) (r1 c1 c2) ?_
      refine V_goto (tgt := 2) dX2_named_35 (by decide) ?_
      exact (k2 c1 c2)
    · refine V_aload_n (i := 0) dX2_named_20 rfl rfl ?_
      refine V_getP dX2_named_21 fX2_21 rfl s1 ?_
      refine V_iload_n (i := 3) dX2_named_24 rfl rfl ?_
      refine V_iald dX2_named_25 s5 (s3 c1) (s6 c1 c2) ?_
      refine V_iload_n (i := 2) dX2_named_26 rfl rfl ?_
      refine V_icmp_ne (tgt := 32) dX2_named_27 (by decide) (fun c3 => ?_) (fun c3 => ?_)
      · refine V_iinc (i := 3) dX2_named_32 rfl (by decide) (r2 c1 c2 c3) ?_
        refine V_goto (tgt := 2) dX2_named_35 (by decide) ?_
        exact (k3 c1 c2 c3)
      · refine V_iload_n (i := 3) dX2_named_30 rfl rfl ?_
        exact V_reti rfl dX2_named_31 (q1 c1 c2 c3)
theorem bX2_named_40 {d : Nat} {Q : Option jA → jH → Prop} (a0 : Nat) (i1 : Int) (i2 : Int) (i3 : Int) (h : jH)
    (s1 : (jS h a0).1 = 2)
    (q1 : ((jI h a0 3) ≤ i3) → Q (some (.inl ((-9)))) h)
    (s2 : (jS h (jP h a0 8)).1 = 16)
    (s3 : (¬ ((jI h a0 3) ≤ i3)) → 0 ≤ i3)
    (s4 : (¬ ((jI h a0 3) ≤ i3)) → i3 < ((jS h (jP h a0 8)).2 : Int))
    (r1 : (¬ ((jI h a0 3) ≤ i3)) → ((jX h (jP h a0 8) ((i3).toNat)) ≠ i1) → jR (i3 + 1))
    (k1 : (¬ ((jI h a0 3) ≤ i3)) → ((jX h (jP h a0 8) ((i3).toNat)) ≠ i1) → V MX2_named d 40 [some (.inr a0), some (.inl i1), some (.inl i2), some (.inl (i3 + 1))] [] h 0 0 Q)
    (s5 : (jS h (jP h a0 9)).1 = 16)
    (s6 : (¬ ((jI h a0 3) ≤ i3)) → ((jX h (jP h a0 8) ((i3).toNat)) = i1) → i3 < ((jS h (jP h a0 9)).2 : Int))
    (r2 : (¬ ((jI h a0 3) ≤ i3)) → ((jX h (jP h a0 8) ((i3).toNat)) = i1) → ((jX h (jP h a0 9) ((i3).toNat)) ≠ i2) → jR (i3 + 1))
    (k2 : (¬ ((jI h a0 3) ≤ i3)) → ((jX h (jP h a0 8) ((i3).toNat)) = i1) → ((jX h (jP h a0 9) ((i3).toNat)) ≠ i2) → V MX2_named d 40 [some (.inr a0), some (.inl i1), some (.inl i2), some (.inl (i3 + 1))] [] h 0 0 Q)
    (r3 : (¬ ((jI h a0 3) ≤ i3)) → ((jX h (jP h a0 8) ((i3).toNat)) = i1) → ((jX h (jP h a0 9) ((i3).toNat)) = i2) → jR (100 + i3))
    (q2 : (¬ ((jI h a0 3) ≤ i3)) → ((jX h (jP h a0 8) ((i3).toNat)) = i1) → ((jX h (jP h a0 9) ((i3).toNat)) = i2) → Q (some (.inl (100 + i3))) h) :
    V MX2_named d 40 [some (.inr a0), some (.inl i1), some (.inl i2), some (.inl i3)] [] h 0 0 Q := by
  refine V_iload_n (i := 3) dX2_named_40 rfl rfl ?_
  refine V_aload_n (i := 0) dX2_named_41 rfl rfl ?_
  refine V_getI dX2_named_42 fX2_51 rfl s1 ?_
  refine V_icmp_ge (tgt := 79) dX2_named_45 (by decide) (fun c1 => ?_) (fun c1 => ?_)
  · refine V_bipush dX2_named_79 (by decide +kernel) ⟨by decide, by decide⟩ ?_
    exact V_reti rfl dX2_named_81 (q1 c1)
  · refine V_aload_n (i := 0) dX2_named_48 rfl rfl ?_
    refine V_getP dX2_named_49 fX2_24 rfl s1 ?_
    refine V_iload_n (i := 3) dX2_named_52 rfl rfl ?_
    refine V_iald dX2_named_53 s2 (s3 c1) (s4 c1) ?_
    refine V_iload_n (i := 1) dX2_named_54 rfl rfl ?_
    refine V_icmp_ne (tgt := 73) dX2_named_55 (by decide) (fun c2 => ?_) (fun c2 => ?_)
    · refine V_iinc (i := 3) dX2_named_73 rfl (by decide) (r1 c1 c2) ?_
      refine V_goto (tgt := 40) dX2_named_76 (by decide) ?_
      exact (k1 c1 c2)
    · refine V_aload_n (i := 0) dX2_named_58 rfl rfl ?_
      refine V_getP dX2_named_59 fX2_27 rfl s1 ?_
      refine V_iload_n (i := 3) dX2_named_62 rfl rfl ?_
      refine V_iald dX2_named_63 s5 (s3 c1) (s6 c1 c2) ?_
      refine V_iload_n (i := 2) dX2_named_64 rfl rfl ?_
      refine V_icmp_ne (tgt := 73) dX2_named_65 (by decide) (fun c3 => ?_) (fun c3 => ?_)
      · refine V_iinc (i := 3) dX2_named_73 rfl (by decide) (r2 c1 c2 c3) ?_
        refine V_goto (tgt := 40) dX2_named_76 (by decide) ?_
        exact (k2 c1 c2 c3)
      · refine V_bipush dX2_named_68 (by decide +kernel) ⟨by decide, by decide⟩ ?_
        refine V_iload_n (i := 3) dX2_named_70 rfl rfl ?_
        refine V_iadd dX2_named_71 (r3 c1 c2 c3) ?_
        exact V_reti rfl dX2_named_72 (q2 c1 c2 c3)
theorem dX2_depth_0 : decode cX2_depth 0 = .ok (.iconst 0, 1) := by decide +kernel
theorem dX2_depth_1 : decode cX2_depth 1 = .ok (.istore_n 2, 1) := by decide +kernel
theorem dX2_depth_2 : decode cX2_depth 2 = .ok (.iload_n 1, 1) := by decide +kernel
theorem dX2_depth_3 : decode cX2_depth 3 = .ok (.istore_n 3, 1) := by decide +kernel
theorem dX2_depth_4 : decode cX2_depth 4 = .ok (.iload_n 3, 1) := by decide +kernel
theorem dX2_depth_5 : decode cX2_depth 5 = .ok (.ifCond .lt 21, 3) := by decide +kernel
theorem dX2_depth_8 : decode cX2_depth 8 = .ok (.iload_n 2, 1) := by decide +kernel
theorem dX2_depth_9 : decode cX2_depth 9 = .ok (.iconst 4, 1) := by decide +kernel
theorem dX2_depth_10 : decode cX2_depth 10 = .ok (.if_icmp .ge 16, 3) := by decide +kernel
theorem dX2_depth_13 : decode cX2_depth 13 = .ok (.iinc 2 1, 3) := by decide +kernel
theorem dX2_depth_16 : decode cX2_depth 16 = .ok (.aload_n 0, 1) := by decide +kernel
theorem dX2_depth_17 : decode cX2_depth 17 = .ok (.getfield 24, 3) := by decide +kernel
theorem dX2_depth_20 : decode cX2_depth 20 = .ok (.iload_n 3, 1) := by decide +kernel
theorem dX2_depth_21 : decode cX2_depth 21 = .ok (.iaload, 1) := by decide +kernel
theorem dX2_depth_22 : decode cX2_depth 22 = .ok (.istore_n 3, 1) := by decide +kernel
theorem dX2_depth_23 : decode cX2_depth 23 = .ok (.goto (-19), 3) := by decide +kernel
theorem dX2_depth_26 : decode cX2_depth 26 = .ok (.iload_n 2, 1) := by decide +kernel
theorem dX2_depth_27 : decode cX2_depth 27 = .ok (.ireturn, 1) := by decide +kernel
theorem bX2_depth_0 {d : Nat} {Q : Option jA → jH → Prop} (a0 : Nat) (i1 : Int) (u2 : Option jA) (u3 : Option jA) (h : jH)
    (k1 : V MX2_depth d 4 [some (.inr a0), some (.inl i1), some (.inl 0), some (.inl i1)] [] h 0 0 Q) :
    V MX2_depth d 0 [some (.inr a0), some (.inl i1), u2, u3] [] h 0 0 Q := by
  refine V_iconst dX2_depth_0 ⟨by decide, by decide⟩ ?_
  refine V_istore_n (i := 2) dX2_depth_1 rfl (by decide) ?_
  refine V_iload_n (i := 1) dX2_depth_2 rfl rfl ?_
  refine V_istore_n (i := 3) dX2_depth_3 rfl (by decide) ?_
  exact k1
theorem bX2_depth_4 {d : Nat} {Q : Option jA → jH → Prop} (a0 : Nat) (i1 : Int) (i2 : Int) (i3 : Int) (h : jH)
    (q1 : (i3 < 0) → Q (some (.inl i2)) h)
    (q2 : (¬ (i3 < 0)) → (4 ≤ i2) → Q (some (.inl i2)) h)
    (r1 : (¬ (i3 < 0)) → (¬ (4 ≤ i2)) → jR (i2 + 1))
    (s1 : (jS h a0).1 = 2)
    (s2 : (jS h (jP h a0 8)).1 = 16)
    (s3 : (¬ (i3 < 0)) → (¬ (4 ≤ i2)) → 0 ≤ i3)
    (s4 : (¬ (i3 < 0)) → (¬ (4 ≤ i2)) → i3 < ((jS h (jP h a0 8)).2 : Int))
    (k1 : (¬ (i3 < 0)) → (¬ (4 ≤ i2)) → V MX2_depth d 4 [some (.inr a0), some (.inl i1), some (.inl (i2 + 1)), some (.inl (jX h (jP h a0 8) ((i3).toNat)))] [] h 0 0 Q) :
    V MX2_depth d 4 [some (.inr a0), some (.inl i1), some (.inl i2), some (.inl i3)] [] h 0 0 Q := by
  refine V_iload_n (i := 3) dX2_depth_4 rfl rfl ?_
  refine V_if_lt (tgt := 26) dX2_depth_5 (by decide) (fun c1 => ?_) (fun c1 => ?_)
  · refine V_iload_n (i := 2) dX2_depth_26 rfl rfl ?_
    exact V_reti rfl dX2_depth_27 (q1 c1)
  · refine V_iload_n (i := 2) dX2_depth_8 rfl rfl ?_
    refine V_iconst dX2_depth_9 ⟨by decide, by decide⟩ ?_
    refine V_icmp_ge (tgt := 26) dX2_depth_10 (by decide) (fun c2 => ?_) (fun c2 => ?_)
    · refine V_iload_n (i := 2) dX2_depth_26 rfl rfl ?_
      exact V_reti rfl dX2_depth_27 (q2 c1 c2)
    · refine V_iinc (i := 2) dX2_depth_13 rfl (by decide) (r1 c1 c2) ?_
      refine V_aload_n (i := 0) dX2_depth_16 rfl rfl ?_
      refine V_getP dX2_depth_17 fX2_24 rfl s1 ?_
      refine V_iload_n (i := 3) dX2_depth_20 rfl rfl ?_
      refine V_iald dX2_depth_21 s2 (s3 c1 c2) (s4 c1 c2) ?_
      refine V_istore_n (i := 3) dX2_depth_22 rfl (by decide) ?_
      refine V_goto (tgt := 4) dX2_depth_23 (by decide) ?_
      exact (k1 c1 c2)
theorem dX2_pathName_0 : decode cX2_pathName 0 = .ok (.aload_n 0, 1) := by decide +kernel
theorem dX2_pathName_1 : decode cX2_pathName 1 = .ok (.aload_n 0, 1) := by decide +kernel
theorem dX2_pathName_2 : decode cX2_pathName 2 = .ok (.getfield 18, 3) := by decide +kernel
theorem dX2_pathName_5 : decode cX2_pathName 5 = .ok (.iload_n 1, 1) := by decide +kernel
theorem dX2_pathName_6 : decode cX2_pathName 6 = .ok (.iaload, 1) := by decide +kernel
theorem dX2_pathName_7 : decode cX2_pathName 7 = .ok (.invokevirtual 54, 3) := by decide +kernel
theorem dX2_pathName_10 : decode cX2_pathName 10 = .ok (.istore_n 3, 1) := by decide +kernel
theorem dX2_pathName_11 : decode cX2_pathName 11 = .ok (.iload_n 2, 1) := by decide +kernel
theorem dX2_pathName_12 : decode cX2_pathName 12 = .ok (.iload_n 3, 1) := by decide +kernel
theorem dX2_pathName_13 : decode cX2_pathName 13 = .ok (.if_icmp .le 6, 3) := by decide +kernel
theorem dX2_pathName_16 : decode cX2_pathName 16 = .ok (.bipush (-9), 2) := by decide +kernel
theorem dX2_pathName_18 : decode cX2_pathName 18 = .ok (.ireturn, 1) := by decide +kernel
theorem dX2_pathName_19 : decode cX2_pathName 19 = .ok (.iload_n 2, 1) := by decide +kernel
theorem dX2_pathName_20 : decode cX2_pathName 20 = .ok (.iload_n 3, 1) := by decide +kernel
theorem dX2_pathName_21 : decode cX2_pathName 21 = .ok (.if_icmp .ne 10, 3) := by decide +kernel
theorem dX2_pathName_24 : decode cX2_pathName 24 = .ok (.aload_n 0, 1) := by decide +kernel
theorem dX2_pathName_25 : decode cX2_pathName 25 = .ok (.getfield 21, 3) := by decide +kernel
theorem dX2_pathName_28 : decode cX2_pathName 28 = .ok (.iload_n 1, 1) := by decide +kernel
theorem dX2_pathName_29 : decode cX2_pathName 29 = .ok (.iaload, 1) := by decide +kernel
theorem dX2_pathName_30 : decode cX2_pathName 30 = .ok (.ireturn, 1) := by decide +kernel
theorem dX2_pathName_31 : decode cX2_pathName 31 = .ok (.aload_n 0, 1) := by decide +kernel
theorem dX2_pathName_32 : decode cX2_pathName 32 = .ok (.getfield 18, 3) := by decide +kernel
theorem dX2_pathName_35 : decode cX2_pathName 35 = .ok (.iload_n 1, 1) := by decide +kernel
theorem dX2_pathName_36 : decode cX2_pathName 36 = .ok (.iaload, 1) := by decide +kernel
theorem dX2_pathName_37 : decode cX2_pathName 37 = .ok (.istore 4, 2) := by decide +kernel
theorem dX2_pathName_39 : decode cX2_pathName 39 = .ok (.iload_n 3, 1) := by decide +kernel
theorem dX2_pathName_40 : decode cX2_pathName 40 = .ok (.iconst 1, 1) := by decide +kernel
theorem dX2_pathName_41 : decode cX2_pathName 41 = .ok (.isub, 1) := by decide +kernel
theorem dX2_pathName_42 : decode cX2_pathName 42 = .ok (.istore 5, 2) := by decide +kernel
theorem dX2_pathName_44 : decode cX2_pathName 44 = .ok (.iload 5, 2) := by decide +kernel
theorem dX2_pathName_46 : decode cX2_pathName 46 = .ok (.iload_n 2, 1) := by decide +kernel
theorem dX2_pathName_47 : decode cX2_pathName 47 = .ok (.if_icmp .le 23, 3) := by decide +kernel
theorem dX2_pathName_50 : decode cX2_pathName 50 = .ok (.iload 4, 2) := by decide +kernel
theorem dX2_pathName_52 : decode cX2_pathName 52 = .ok (.ifCond .lt 18, 3) := by decide +kernel
theorem dX2_pathName_55 : decode cX2_pathName 55 = .ok (.aload_n 0, 1) := by decide +kernel
theorem dX2_pathName_56 : decode cX2_pathName 56 = .ok (.getfield 24, 3) := by decide +kernel
theorem dX2_pathName_59 : decode cX2_pathName 59 = .ok (.iload 4, 2) := by decide +kernel
theorem dX2_pathName_61 : decode cX2_pathName 61 = .ok (.iaload, 1) := by decide +kernel
theorem dX2_pathName_62 : decode cX2_pathName 62 = .ok (.istore 4, 2) := by decide +kernel
theorem dX2_pathName_64 : decode cX2_pathName 64 = .ok (.iinc 5 (-1), 3) := by decide +kernel
theorem dX2_pathName_67 : decode cX2_pathName 67 = .ok (.goto (-23), 3) := by decide +kernel
theorem dX2_pathName_70 : decode cX2_pathName 70 = .ok (.iload 4, 2) := by decide +kernel
theorem dX2_pathName_72 : decode cX2_pathName 72 = .ok (.ifCond .lt 13, 3) := by decide +kernel
theorem dX2_pathName_75 : decode cX2_pathName 75 = .ok (.aload_n 0, 1) := by decide +kernel
theorem dX2_pathName_76 : decode cX2_pathName 76 = .ok (.getfield 27, 3) := by decide +kernel
theorem dX2_pathName_79 : decode cX2_pathName 79 = .ok (.iload 4, 2) := by decide +kernel
theorem dX2_pathName_81 : decode cX2_pathName 81 = .ok (.iaload, 1) := by decide +kernel
theorem dX2_pathName_82 : decode cX2_pathName 82 = .ok (.goto 5, 3) := by decide +kernel
theorem dX2_pathName_85 : decode cX2_pathName 85 = .ok (.bipush (-9), 2) := by decide +kernel
theorem dX2_pathName_87 : decode cX2_pathName 87 = .ok (.ireturn, 1) := by decide +kernel
theorem bX2_pathName_0 {d : Nat} {Q : Option jA → jH → Prop} (a0 : Nat) (i1 : Int) (i2 : Int) (u3 : Option jA) (u4 : Option jA) (u5 : Option jA) (h : jH)
    (s1 : (jS h a0).1 = 2)
    (s2 : (jS h (jP h a0 6)).1 = 16)
    (s3 : 0 ≤ i1)
    (s4 : i1 < ((jS h (jP h a0 6)).2 : Int))
    (e1 : Ex MX2_depth d [.inr a0, .inl (jX h (jP h a0 6) ((i1).toNat))] h 0 0 (fun v h2 => V MX2_pathName (d + 1) 10 [some (.inr a0), some (.inl i1), some (.inl i2), u3, u4, u5] (v.toList ++ []) h2 0 0 Q)) :
    V MX2_pathName (d + 1) 0 [some (.inr a0), some (.inl i1), some (.inl i2), u3, u4, u5] [] h 0 0 Q := by
  refine V_aload_n (i := 0) dX2_pathName_0 rfl rfl ?_
  refine V_aload_n (i := 0) dX2_pathName_1 rfl rfl ?_
  refine V_getP dX2_pathName_2 fX2_18 rfl s1 ?_
  refine V_iload_n (i := 1) dX2_pathName_5 rfl rfl ?_
  refine V_iald dX2_pathName_6 s2 s3 s4 ?_
  exact V_callV (M := MX2_pathName) (d := (d + 1)) (mc' := 0) (ms' := 0) (mc := 0) (ms := 0) (As := [.inl (jX h (jP h a0 6) ((i1).toNat))]) (rest := []) dX2_pathName_7 tX2_depth vX2_depth lX2_54 s1 ⟨by decide, rfl⟩ rfl rfl (Nat.le_of_ble_eq_true rfl) (show d + 1 ≤ (d + 1) by omega) e1
theorem bX2_pathName_44 {d : Nat} {Q : Option jA → jH → Prop} (a0 : Nat) (i1 : Int) (i2 : Int) (i3 : Int) (i4 : Int) (i5 : Int) (h : jH)
    (q1 : (i5 ≤ i2) → (i4 < 0) → Q (some (.inl ((-9)))) h)
    (s1 : (jS h a0).1 = 2)
    (s2 : (jS h (jP h a0 9)).1 = 16)
    (s3 : (i5 ≤ i2) → (¬ (i4 < 0)) → 0 ≤ i4)
    (s4 : (i5 ≤ i2) → (¬ (i4 < 0)) → i4 < ((jS h (jP h a0 9)).2 : Int))
    (q2 : (i5 ≤ i2) → (¬ (i4 < 0)) → Q (some (.inl (jX h (jP h a0 9) ((i4).toNat)))) h)
    (q3 : (¬ (i5 ≤ i2)) → (i4 < 0) → (i4 < 0) → Q (some (.inl ((-9)))) h)
    (s5 : (¬ (i5 ≤ i2)) → (i4 < 0) → (¬ (i4 < 0)) → 0 ≤ i4)
    (s6 : (¬ (i5 ≤ i2)) → (i4 < 0) → (¬ (i4 < 0)) → i4 < ((jS h (jP h a0 9)).2 : Int))
    (q4 : (¬ (i5 ≤ i2)) → (i4 < 0) → (¬ (i4 < 0)) → Q (some (.inl (jX h (jP h a0 9) ((i4).toNat)))) h)
    (s7 : (jS h (jP h a0 8)).1 = 16)
    (s8 : (¬ (i5 ≤ i2)) → (¬ (i4 < 0)) → 0 ≤ i4)
    (s9 : (¬ (i5 ≤ i2)) → (¬ (i4 < 0)) → i4 < ((jS h (jP h a0 8)).2 : Int))
    (r1 : (¬ (i5 ≤ i2)) → (¬ (i4 < 0)) → jR (i5 + (-1)))
    (k1 : (¬ (i5 ≤ i2)) → (¬ (i4 < 0)) → V MX2_pathName (d + 1) 44 [some (.inr a0), some (.inl i1), some (.inl i2), some (.inl i3), some (.inl (jX h (jP h a0 8) ((i4).toNat))), some (.inl (i5 + (-1)))] [] h 0 0 Q) :
    V MX2_pathName (d + 1) 44 [some (.inr a0), some (.inl i1), some (.inl i2), some (.inl i3), some (.inl i4), some (.inl i5)] [] h 0 0 Q := by
  refine V_iload (i := 5) dX2_pathName_44 rfl ?_
  refine V_iload_n (i := 2) dX2_pathName_46 rfl rfl ?_
  refine V_icmp_le (tgt := 70) dX2_pathName_47 (by decide) (fun c1 => ?_) (fun c1 => ?_)
  · refine V_iload (i := 4) dX2_pathName_70 rfl ?_
    refine V_if_lt (tgt := 85) dX2_pathName_72 (by decide) (fun c2 => ?_) (fun c2 => ?_)
    · refine V_bipush dX2_pathName_85 (by decide +kernel) ⟨by decide, by decide⟩ ?_
      exact V_reti rfl dX2_pathName_87 (q1 c1 c2)
    · refine V_aload_n (i := 0) dX2_pathName_75 rfl rfl ?_
      refine V_getP dX2_pathName_76 fX2_27 rfl s1 ?_
      refine V_iload (i := 4) dX2_pathName_79 rfl ?_
      refine V_iald dX2_pathName_81 s2 (s3 c1 c2) (s4 c1 c2) ?_
      refine V_goto (tgt := 87) dX2_pathName_82 (by decide) ?_
      exact V_reti rfl dX2_pathName_87 (q2 c1 c2)
  · refine V_iload (i := 4) dX2_pathName_50 rfl ?_
    refine V_if_lt (tgt := 70) dX2_pathName_52 (by decide) (fun c3 => ?_) (fun c3 => ?_)
    · refine V_iload (i := 4) dX2_pathName_70 rfl ?_
      refine V_if_lt (tgt := 85) dX2_pathName_72 (by decide) (fun c4 => ?_) (fun c4 => ?_)
      · refine V_bipush dX2_pathName_85 (by decide +kernel) ⟨by decide, by decide⟩ ?_
        exact V_reti rfl dX2_pathName_87 (q3 c1 c3 c4)
      · refine V_aload_n (i := 0) dX2_pathName_75 rfl rfl ?_
        refine V_getP dX2_pathName_76 fX2_27 rfl s1 ?_
        refine V_iload (i := 4) dX2_pathName_79 rfl ?_
        refine V_iald dX2_pathName_81 s2 (s5 c1 c3 c4) (s6 c1 c3 c4) ?_
        refine V_goto (tgt := 87) dX2_pathName_82 (by decide) ?_
        exact V_reti rfl dX2_pathName_87 (q4 c1 c3 c4)
    · refine V_aload_n (i := 0) dX2_pathName_55 rfl rfl ?_
      refine V_getP dX2_pathName_56 fX2_24 rfl s1 ?_
      refine V_iload (i := 4) dX2_pathName_59 rfl ?_
      refine V_iald dX2_pathName_61 s7 (s8 c1 c3) (s9 c1 c3) ?_
      refine V_istore (i := 4) dX2_pathName_62 (by decide) ?_
      refine V_iinc (i := 5) dX2_pathName_64 rfl (by decide) (r1 c1 c3) ?_
      refine V_goto (tgt := 44) dX2_pathName_67 (by decide) ?_
      exact (k1 c1 c3)
theorem bX2_pathName_10 {d : Nat} {Q : Option jA → jH → Prop} (a0 : Nat) (i1 : Int) (i2 : Int) (u3 : Option jA) (u4 : Option jA) (u5 : Option jA) (p0 : Int) (h : jH)
    (s1 : (jS h a0).1 = 2)
    (s2 : (jS h (jP h a0 6)).1 = 16)
    (s3 : (i2 ≤ p0) → (i2 ≠ p0) → 0 ≤ i1)
    (s4 : (i2 ≤ p0) → (i2 ≠ p0) → i1 < ((jS h (jP h a0 6)).2 : Int))
    (r1 : (i2 ≤ p0) → (i2 ≠ p0) → jR (p0 - 1))
    (k1 : (i2 ≤ p0) → (i2 ≠ p0) → V MX2_pathName (d + 1) 44 [some (.inr a0), some (.inl i1), some (.inl i2), some (.inl p0), some (.inl (jX h (jP h a0 6) ((i1).toNat))), some (.inl (p0 - 1))] [] h 0 0 Q)
    (s5 : (jS h (jP h a0 7)).1 = 16)
    (s6 : (i2 ≤ p0) → (i2 = p0) → 0 ≤ i1)
    (s7 : (i2 ≤ p0) → (i2 = p0) → i1 < ((jS h (jP h a0 7)).2 : Int))
    (q1 : (i2 ≤ p0) → (i2 = p0) → Q (some (.inl (jX h (jP h a0 7) ((i1).toNat)))) h)
    (q2 : (¬ (i2 ≤ p0)) → Q (some (.inl ((-9)))) h) :
    V MX2_pathName (d + 1) 10 [some (.inr a0), some (.inl i1), some (.inl i2), u3, u4, u5] [.inl p0] h 0 0 Q := by
  refine V_istore_n (i := 3) dX2_pathName_10 rfl (by decide) ?_
  refine V_iload_n (i := 2) dX2_pathName_11 rfl rfl ?_
  refine V_iload_n (i := 3) dX2_pathName_12 rfl rfl ?_
  refine V_icmp_le (tgt := 19) dX2_pathName_13 (by decide) (fun c1 => ?_) (fun c1 => ?_)
  · refine V_iload_n (i := 2) dX2_pathName_19 rfl rfl ?_
    refine V_iload_n (i := 3) dX2_pathName_20 rfl rfl ?_
    refine V_icmp_ne (tgt := 31) dX2_pathName_21 (by decide) (fun c2 => ?_) (fun c2 => ?_)
    · refine V_aload_n (i := 0) dX2_pathName_31 rfl rfl ?_
      refine V_getP dX2_pathName_32 fX2_18 rfl s1 ?_
      refine V_iload_n (i := 1) dX2_pathName_35 rfl rfl ?_
      refine V_iald dX2_pathName_36 s2 (s3 c1 c2) (s4 c1 c2) ?_
      refine V_istore (i := 4) dX2_pathName_37 (by decide) ?_
      refine V_iload_n (i := 3) dX2_pathName_39 rfl rfl ?_
      refine V_iconst dX2_pathName_40 ⟨by decide, by decide⟩ ?_
      refine V_isub dX2_pathName_41 (r1 c1 c2) ?_
      refine V_istore (i := 5) dX2_pathName_42 (by decide) ?_
      exact (k1 c1 c2)
    · refine V_aload_n (i := 0) dX2_pathName_24 rfl rfl ?_
      refine V_getP dX2_pathName_25 fX2_21 rfl s1 ?_
      refine V_iload_n (i := 1) dX2_pathName_28 rfl rfl ?_
      refine V_iald dX2_pathName_29 s5 (s6 c1 c2) (s7 c1 c2) ?_
      exact V_reti rfl dX2_pathName_30 (q1 c1 c2)
  · refine V_bipush dX2_pathName_16 (by decide +kernel) ⟨by decide, by decide⟩ ?_
    exact V_reti rfl dX2_pathName_18 (q2 c1)
theorem dX2_complete_0 : decode cX2_complete 0 = .ok (.iconst 0, 1) := by decide +kernel
theorem dX2_complete_1 : decode cX2_complete 1 = .ok (.istore_n 2, 1) := by decide +kernel
theorem dX2_complete_2 : decode cX2_complete 2 = .ok (.iload_n 2, 1) := by decide +kernel
theorem dX2_complete_3 : decode cX2_complete 3 = .ok (.aload_n 0, 1) := by decide +kernel
theorem dX2_complete_4 : decode cX2_complete 4 = .ok (.getfield 41, 3) := by decide +kernel
theorem dX2_complete_7 : decode cX2_complete 7 = .ok (.if_icmp .ge 52, 3) := by decide +kernel
theorem dX2_complete_10 : decode cX2_complete 10 = .ok (.aload_n 0, 1) := by decide +kernel
theorem dX2_complete_11 : decode cX2_complete 11 = .ok (.getfield 9, 3) := by decide +kernel
theorem dX2_complete_14 : decode cX2_complete 14 = .ok (.iload_n 2, 1) := by decide +kernel
theorem dX2_complete_15 : decode cX2_complete 15 = .ok (.iaload, 1) := by decide +kernel
theorem dX2_complete_16 : decode cX2_complete 16 = .ok (.iconst 1, 1) := by decide +kernel
theorem dX2_complete_17 : decode cX2_complete 17 = .ok (.if_icmp .ne 17, 3) := by decide +kernel
theorem dX2_complete_20 : decode cX2_complete 20 = .ok (.aload_n 1, 1) := by decide +kernel
theorem dX2_complete_21 : decode cX2_complete 21 = .ok (.iload_n 2, 1) := by decide +kernel
theorem dX2_complete_22 : decode cX2_complete 22 = .ok (.aload_n 1, 1) := by decide +kernel
theorem dX2_complete_23 : decode cX2_complete 23 = .ok (.aload_n 0, 1) := by decide +kernel
theorem dX2_complete_24 : decode cX2_complete 24 = .ok (.getfield 15, 3) := by decide +kernel
theorem dX2_complete_27 : decode cX2_complete 27 = .ok (.iload_n 2, 1) := by decide +kernel
theorem dX2_complete_28 : decode cX2_complete 28 = .ok (.iaload, 1) := by decide +kernel
theorem dX2_complete_29 : decode cX2_complete 29 = .ok (.iaload, 1) := by decide +kernel
theorem dX2_complete_30 : decode cX2_complete 30 = .ok (.iastore, 1) := by decide +kernel
theorem dX2_complete_31 : decode cX2_complete 31 = .ok (.goto 22, 3) := by decide +kernel
theorem dX2_complete_34 : decode cX2_complete 34 = .ok (.aload_n 0, 1) := by decide +kernel
theorem dX2_complete_35 : decode cX2_complete 35 = .ok (.getfield 9, 3) := by decide +kernel
theorem dX2_complete_38 : decode cX2_complete 38 = .ok (.iload_n 2, 1) := by decide +kernel
theorem dX2_complete_39 : decode cX2_complete 39 = .ok (.iaload, 1) := by decide +kernel
theorem dX2_complete_40 : decode cX2_complete 40 = .ok (.iconst 2, 1) := by decide +kernel
theorem dX2_complete_41 : decode cX2_complete 41 = .ok (.if_icmp .ne 12, 3) := by decide +kernel
theorem dX2_complete_44 : decode cX2_complete 44 = .ok (.aload_n 1, 1) := by decide +kernel
theorem dX2_complete_45 : decode cX2_complete 45 = .ok (.iload_n 2, 1) := by decide +kernel
theorem dX2_complete_46 : decode cX2_complete 46 = .ok (.aload_n 0, 1) := by decide +kernel
theorem dX2_complete_47 : decode cX2_complete 47 = .ok (.iload_n 2, 1) := by decide +kernel
theorem dX2_complete_48 : decode cX2_complete 48 = .ok (.aload_n 1, 1) := by decide +kernel
theorem dX2_complete_49 : decode cX2_complete 49 = .ok (.invokevirtual 58, 3) := by decide +kernel
theorem dX2_complete_52 : decode cX2_complete 52 = .ok (.iastore, 1) := by decide +kernel
theorem dX2_complete_53 : decode cX2_complete 53 = .ok (.iinc 2 1, 3) := by decide +kernel
theorem dX2_complete_56 : decode cX2_complete 56 = .ok (.goto (-54), 3) := by decide +kernel
theorem dX2_complete_59 : decode cX2_complete 59 = .ok (.return_, 1) := by decide +kernel
theorem bX2_complete_0 {d : Nat} {Q : Option jA → jH → Prop} (a0 : Nat) (a1 : Nat) (u2 : Option jA) (h : jH)
    (k1 : V MX2_complete (d + 2) 2 [some (.inr a0), some (.inr a1), some (.inl 0)] [] h 0 0 Q) :
    V MX2_complete (d + 2) 0 [some (.inr a0), some (.inr a1), u2] [] h 0 0 Q := by
  refine V_iconst dX2_complete_0 ⟨by decide, by decide⟩ ?_
  refine V_istore_n (i := 2) dX2_complete_1 rfl (by decide) ?_
  exact k1
theorem bX2_complete_2 {d : Nat} {Q : Option jA → jH → Prop} (a0 : Nat) (a1 : Nat) (i2 : Int) (h : jH)
    (s1 : (jS h a0).1 = 2)
    (q1 : ((jI h a0 0) ≤ i2) → Q none h)
    (s2 : (jS h (jP h a0 4)).1 = 16)
    (s3 : (¬ ((jI h a0 0) ≤ i2)) → 0 ≤ i2)
    (s4 : (¬ ((jI h a0 0) ≤ i2)) → i2 < ((jS h (jP h a0 4)).2 : Int))
    (r1 : (¬ ((jI h a0 0) ≤ i2)) → ((jX h (jP h a0 4) ((i2).toNat)) ≠ 1) → ((jX h (jP h a0 4) ((i2).toNat)) ≠ 2) → jR (i2 + 1))
    (k1 : (¬ ((jI h a0 0) ≤ i2)) → ((jX h (jP h a0 4) ((i2).toNat)) ≠ 1) → ((jX h (jP h a0 4) ((i2).toNat)) ≠ 2) → V MX2_complete (d + 2) 2 [some (.inr a0), some (.inr a1), some (.inl (i2 + 1))] [] h 0 0 Q)
    (e1 : (¬ ((jI h a0 0) ≤ i2)) → ((jX h (jP h a0 4) ((i2).toNat)) ≠ 1) → ((jX h (jP h a0 4) ((i2).toNat)) = 2) → Ex MX2_computed (d + 1) [.inr a0, .inl i2, .inr a1] h 0 0 (fun v h2 => V MX2_complete (d + 2) 52 [some (.inr a0), some (.inr a1), some (.inl i2)] (v.toList ++ [.inl i2, .inr a1]) h2 0 0 Q))
    (s5 : (jS h (jP h a0 5)).1 = 16)
    (s6 : (¬ ((jI h a0 0) ≤ i2)) → ((jX h (jP h a0 4) ((i2).toNat)) = 1) → i2 < ((jS h (jP h a0 5)).2 : Int))
    (s7 : (jS h a1).1 = 16)
    (s8 : (¬ ((jI h a0 0) ≤ i2)) → ((jX h (jP h a0 4) ((i2).toNat)) = 1) → 0 ≤ jX h (jP h a0 5) ((i2).toNat))
    (s9 : (¬ ((jI h a0 0) ≤ i2)) → ((jX h (jP h a0 4) ((i2).toNat)) = 1) → jX h (jP h a0 5) ((i2).toNat) < ((jS h a1).2 : Int))
    (s10 : (¬ ((jI h a0 0) ≤ i2)) → ((jX h (jP h a0 4) ((i2).toNat)) = 1) → i2 < ((jS h a1).2 : Int))
    (r2 : (¬ ((jI h a0 0) ≤ i2)) → ((jX h (jP h a0 4) ((i2).toNat)) = 1) → jR (i2 + 1))
    (k2 : (¬ ((jI h a0 0) ≤ i2)) → ((jX h (jP h a0 4) ((i2).toNat)) = 1) → V MX2_complete (d + 2) 2 [some (.inr a0), some (.inr a1), some (.inl (i2 + 1))] [] (jsX h a1 ((i2).toNat) (jX h a1 ((jX h (jP h a0 5) ((i2).toNat)).toNat))) 0 0 Q) :
    V MX2_complete (d + 2) 2 [some (.inr a0), some (.inr a1), some (.inl i2)] [] h 0 0 Q := by
  refine V_iload_n (i := 2) dX2_complete_2 rfl rfl ?_
  refine V_aload_n (i := 0) dX2_complete_3 rfl rfl ?_
  refine V_getI dX2_complete_4 fX2_41 rfl s1 ?_
  refine V_icmp_ge (tgt := 59) dX2_complete_7 (by decide) (fun c1 => ?_) (fun c1 => ?_)
  · exact V_ret (v := none) rfl rfl dX2_complete_59 trivial rfl (q1 c1)
  · refine V_aload_n (i := 0) dX2_complete_10 rfl rfl ?_
    refine V_getP dX2_complete_11 fX2_9 rfl s1 ?_
    refine V_iload_n (i := 2) dX2_complete_14 rfl rfl ?_
    refine V_iald dX2_complete_15 s2 (s3 c1) (s4 c1) ?_
    refine V_iconst dX2_complete_16 ⟨by decide, by decide⟩ ?_
    refine V_icmp_ne (tgt := 34) dX2_complete_17 (by decide) (fun c2 => ?_) (fun c2 => ?_)
    · refine V_aload_n (i := 0) dX2_complete_34 rfl rfl ?_
      refine V_getP dX2_complete_35 fX2_9 rfl s1 ?_
      refine V_iload_n (i := 2) dX2_complete_38 rfl rfl ?_
      refine V_iald dX2_complete_39 s2 (s3 c1) (s4 c1) ?_
      refine V_iconst dX2_complete_40 ⟨by decide, by decide⟩ ?_
      refine V_icmp_ne (tgt := 53) dX2_complete_41 (by decide) (fun c3 => ?_) (fun c3 => ?_)
      · refine V_iinc (i := 2) dX2_complete_53 rfl (by decide) (r1 c1 c2 c3) ?_
        refine V_goto (tgt := 2) dX2_complete_56 (by decide) ?_
        exact (k1 c1 c2 c3)
      · refine V_aload_n (i := 1) dX2_complete_44 rfl rfl ?_
        refine V_iload_n (i := 2) dX2_complete_45 rfl rfl ?_
        refine V_aload_n (i := 0) dX2_complete_46 rfl rfl ?_
        refine V_iload_n (i := 2) dX2_complete_47 rfl rfl ?_
        refine V_aload_n (i := 1) dX2_complete_48 rfl rfl ?_
        exact V_callV (M := MX2_complete) (d := (d + 2)) (mc' := 0) (ms' := 0) (mc := 0) (ms := 0) (As := [.inl i2, .inr a1]) (rest := [.inl i2, .inr a1]) dX2_complete_49 tX2_computed vX2_computed lX2_58 s1 ⟨by decide, rfl⟩ rfl rfl (Nat.le_of_ble_eq_true rfl) (show (d + 1) + 1 ≤ (d + 2) by omega) (e1 c1 c2 c3)
    · refine V_aload_n (i := 1) dX2_complete_20 rfl rfl ?_
      refine V_iload_n (i := 2) dX2_complete_21 rfl rfl ?_
      refine V_aload_n (i := 1) dX2_complete_22 rfl rfl ?_
      refine V_aload_n (i := 0) dX2_complete_23 rfl rfl ?_
      refine V_getP dX2_complete_24 fX2_15 rfl s1 ?_
      refine V_iload_n (i := 2) dX2_complete_27 rfl rfl ?_
      refine V_iald dX2_complete_28 s5 (s3 c1) (s6 c1 c2) ?_
      refine V_iald dX2_complete_29 s7 (s8 c1 c2) (s9 c1 c2) ?_
      refine V_iast dX2_complete_30 s7 (s3 c1) (s10 c1 c2) ?_
      refine V_goto (tgt := 53) dX2_complete_31 (by decide) ?_
      refine V_iinc (i := 2) dX2_complete_53 rfl (by decide) (r2 c1 c2) ?_
      refine V_goto (tgt := 2) dX2_complete_56 (by decide) ?_
      exact (k2 c1 c2)
theorem bX2_complete_52 {d : Nat} {Q : Option jA → jH → Prop} (a0 : Nat) (a1 : Nat) (i2 : Int) (p0 : Int) (p1 : Int) (q2 : Nat) (h : jH)
    (s1 : (jS h q2).1 = 16)
    (s2 : 0 ≤ p1)
    (s3 : p1 < ((jS h q2).2 : Int))
    (r1 : jR (i2 + 1))
    (k1 : V MX2_complete (d + 2) 2 [some (.inr a0), some (.inr a1), some (.inl (i2 + 1))] [] (jsX h q2 ((p1).toNat) p0) 0 0 Q) :
    V MX2_complete (d + 2) 52 [some (.inr a0), some (.inr a1), some (.inl i2)] [.inl p0, .inl p1, .inr q2] h 0 0 Q := by
  refine V_iast dX2_complete_52 s1 s2 s3 ?_
  refine V_iinc (i := 2) dX2_complete_53 rfl (by decide) r1 ?_
  refine V_goto (tgt := 2) dX2_complete_56 (by decide) ?_
  exact k1
theorem dX2_computed_0 : decode cX2_computed 0 = .ok (.iconst 0, 1) := by decide +kernel
theorem dX2_computed_1 : decode cX2_computed 1 = .ok (.istore_n 3, 1) := by decide +kernel
theorem dX2_computed_2 : decode cX2_computed 2 = .ok (.iconst 0, 1) := by decide +kernel
theorem dX2_computed_3 : decode cX2_computed 3 = .ok (.istore 4, 2) := by decide +kernel
theorem dX2_computed_5 : decode cX2_computed 5 = .ok (.iload 4, 2) := by decide +kernel
theorem dX2_computed_7 : decode cX2_computed 7 = .ok (.aload_n 0, 1) := by decide +kernel
theorem dX2_computed_8 : decode cX2_computed 8 = .ok (.getfield 35, 3) := by decide +kernel
theorem dX2_computed_11 : decode cX2_computed 11 = .ok (.iload_n 1, 1) := by decide +kernel
theorem dX2_computed_12 : decode cX2_computed 12 = .ok (.iaload, 1) := by decide +kernel
theorem dX2_computed_13 : decode cX2_computed 13 = .ok (.if_icmp .ge 142, 3) := by decide +kernel
theorem dX2_computed_16 : decode cX2_computed 16 = .ok (.aload_n 0, 1) := by decide +kernel
theorem dX2_computed_17 : decode cX2_computed 17 = .ok (.getfield 32, 3) := by decide +kernel
theorem dX2_computed_20 : decode cX2_computed 20 = .ok (.iload_n 1, 1) := by decide +kernel
theorem dX2_computed_21 : decode cX2_computed 21 = .ok (.aaload, 1) := by decide +kernel
theorem dX2_computed_22 : decode cX2_computed 22 = .ok (.iload 4, 2) := by decide +kernel
theorem dX2_computed_24 : decode cX2_computed 24 = .ok (.iaload, 1) := by decide +kernel
theorem dX2_computed_25 : decode cX2_computed 25 = .ok (.istore 5, 2) := by decide +kernel
theorem dX2_computed_27 : decode cX2_computed 27 = .ok (.iload 5, 2) := by decide +kernel
theorem dX2_computed_29 : decode cX2_computed 29 = .ok (.ifCond .lt 45, 3) := by decide +kernel
theorem dX2_computed_32 : decode cX2_computed 32 = .ok (.iload_n 3, 1) := by decide +kernel
theorem dX2_computed_33 : decode cX2_computed 33 = .ok (.aload_n 0, 1) := by decide +kernel
theorem dX2_computed_34 : decode cX2_computed 34 = .ok (.getfield 38, 3) := by decide +kernel
theorem dX2_computed_37 : decode cX2_computed 37 = .ok (.arraylength, 1) := by decide +kernel
theorem dX2_computed_38 : decode cX2_computed 38 = .ok (.if_icmp .ge 36, 3) := by decide +kernel
theorem dX2_computed_41 : decode cX2_computed 41 = .ok (.aload_n 0, 1) := by decide +kernel
theorem dX2_computed_42 : decode cX2_computed 42 = .ok (.getfield 38, 3) := by decide +kernel
theorem dX2_computed_45 : decode cX2_computed 45 = .ok (.iload_n 3, 1) := by decide +kernel
theorem dX2_computed_46 : decode cX2_computed 46 = .ok (.iload 5, 2) := by decide +kernel
theorem dX2_computed_48 : decode cX2_computed 48 = .ok (.sipush 1000, 3) := by decide +kernel
theorem dX2_computed_51 : decode cX2_computed 51 = .ok (.if_icmp .ge 8, 3) := by decide +kernel
theorem dX2_computed_54 : decode cX2_computed 54 = .ok (.iload 5, 2) := by decide +kernel
theorem dX2_computed_56 : decode cX2_computed 56 = .ok (.goto 11, 3) := by decide +kernel
theorem dX2_computed_59 : decode cX2_computed 59 = .ok (.aload_n 2, 1) := by decide +kernel
theorem dX2_computed_60 : decode cX2_computed 60 = .ok (.iload 5, 2) := by decide +kernel
theorem dX2_computed_62 : decode cX2_computed 62 = .ok (.sipush 1000, 3) := by decide +kernel
theorem dX2_computed_65 : decode cX2_computed 65 = .ok (.isub, 1) := by decide +kernel
theorem dX2_computed_66 : decode cX2_computed 66 = .ok (.iaload, 1) := by decide +kernel
theorem dX2_computed_67 : decode cX2_computed 67 = .ok (.iastore, 1) := by decide +kernel
theorem dX2_computed_68 : decode cX2_computed 68 = .ok (.iinc 3 1, 3) := by decide +kernel
theorem dX2_computed_71 : decode cX2_computed 71 = .ok (.goto 78, 3) := by decide +kernel
theorem dX2_computed_74 : decode cX2_computed 74 = .ok (.iload 5, 2) := by decide +kernel
theorem dX2_computed_76 : decode cX2_computed 76 = .ok (.bipush (-33), 2) := by decide +kernel
theorem dX2_computed_78 : decode cX2_computed 78 = .ok (.if_icmp .ne 30, 3) := by decide +kernel
theorem dX2_computed_81 : decode cX2_computed 81 = .ok (.iload_n 3, 1) := by decide +kernel
theorem dX2_computed_82 : decode cX2_computed 82 = .ok (.iconst 1, 1) := by decide +kernel
theorem dX2_computed_83 : decode cX2_computed 83 = .ok (.if_icmp .lt 25, 3) := by decide +kernel
theorem dX2_computed_86 : decode cX2_computed 86 = .ok (.aload_n 0, 1) := by decide +kernel
theorem dX2_computed_87 : decode cX2_computed 87 = .ok (.getfield 38, 3) := by decide +kernel
theorem dX2_computed_90 : decode cX2_computed 90 = .ok (.iload_n 3, 1) := by decide +kernel
theorem dX2_computed_91 : decode cX2_computed 91 = .ok (.iconst 1, 1) := by decide +kernel
theorem dX2_computed_92 : decode cX2_computed 92 = .ok (.isub, 1) := by decide +kernel
theorem dX2_computed_93 : decode cX2_computed 93 = .ok (.aload_n 0, 1) := by decide +kernel
theorem dX2_computed_94 : decode cX2_computed 94 = .ok (.getfield 38, 3) := by decide +kernel
theorem dX2_computed_97 : decode cX2_computed 97 = .ok (.iload_n 3, 1) := by decide +kernel
theorem dX2_computed_98 : decode cX2_computed 98 = .ok (.iconst 1, 1) := by decide +kernel
theorem dX2_computed_99 : decode cX2_computed 99 = .ok (.isub, 1) := by decide +kernel
theorem dX2_computed_100 : decode cX2_computed 100 = .ok (.iaload, 1) := by decide +kernel
theorem dX2_computed_101 : decode cX2_computed 101 = .ok (.invokestatic 62, 3) := by decide +kernel
theorem dX2_computed_104 : decode cX2_computed 104 = .ok (.iastore, 1) := by decide +kernel
theorem dX2_computed_105 : decode cX2_computed 105 = .ok (.goto 44, 3) := by decide +kernel
theorem dX2_computed_108 : decode cX2_computed 108 = .ok (.iload 5, 2) := by decide +kernel
theorem dX2_computed_110 : decode cX2_computed 110 = .ok (.ifCond .ge 39, 3) := by decide +kernel
theorem dX2_computed_113 : decode cX2_computed 113 = .ok (.iload_n 3, 1) := by decide +kernel
theorem dX2_computed_114 : decode cX2_computed 114 = .ok (.iconst 2, 1) := by decide +kernel
theorem dX2_computed_115 : decode cX2_computed 115 = .ok (.if_icmp .lt 34, 3) := by decide +kernel
theorem dX2_computed_118 : decode cX2_computed 118 = .ok (.iinc 3 (-1), 3) := by decide +kernel
theorem dX2_computed_121 : decode cX2_computed 121 = .ok (.aload_n 0, 1) := by decide +kernel
theorem dX2_computed_122 : decode cX2_computed 122 = .ok (.getfield 38, 3) := by decide +kernel
theorem dX2_computed_125 : decode cX2_computed 125 = .ok (.iload_n 3, 1) := by decide +kernel
theorem dX2_computed_126 : decode cX2_computed 126 = .ok (.iconst 1, 1) := by decide +kernel
theorem dX2_computed_127 : decode cX2_computed 127 = .ok (.isub, 1) := by decide +kernel
theorem dX2_computed_128 : decode cX2_computed 128 = .ok (.iload 5, 2) := by decide +kernel
theorem dX2_computed_130 : decode cX2_computed 130 = .ok (.ineg, 1) := by decide +kernel
theorem dX2_computed_131 : decode cX2_computed 131 = .ok (.aload_n 0, 1) := by decide +kernel
theorem dX2_computed_132 : decode cX2_computed 132 = .ok (.getfield 38, 3) := by decide +kernel
theorem dX2_computed_135 : decode cX2_computed 135 = .ok (.iload_n 3, 1) := by decide +kernel
theorem dX2_computed_136 : decode cX2_computed 136 = .ok (.iconst 1, 1) := by decide +kernel
theorem dX2_computed_137 : decode cX2_computed 137 = .ok (.isub, 1) := by decide +kernel
theorem dX2_computed_138 : decode cX2_computed 138 = .ok (.iaload, 1) := by decide +kernel
theorem dX2_computed_139 : decode cX2_computed 139 = .ok (.aload_n 0, 1) := by decide +kernel
theorem dX2_computed_140 : decode cX2_computed 140 = .ok (.getfield 38, 3) := by decide +kernel
theorem dX2_computed_143 : decode cX2_computed 143 = .ok (.iload_n 3, 1) := by decide +kernel
theorem dX2_computed_144 : decode cX2_computed 144 = .ok (.iaload, 1) := by decide +kernel
theorem dX2_computed_145 : decode cX2_computed 145 = .ok (.invokestatic 65, 3) := by decide +kernel
theorem dX2_computed_148 : decode cX2_computed 148 = .ok (.iastore, 1) := by decide +kernel
theorem dX2_computed_149 : decode cX2_computed 149 = .ok (.iinc 4 1, 3) := by decide +kernel
theorem dX2_computed_152 : decode cX2_computed 152 = .ok (.goto (-147), 3) := by decide +kernel
theorem dX2_computed_155 : decode cX2_computed 155 = .ok (.aload_n 0, 1) := by decide +kernel
theorem dX2_computed_156 : decode cX2_computed 156 = .ok (.getfield 38, 3) := by decide +kernel
theorem dX2_computed_159 : decode cX2_computed 159 = .ok (.iconst 0, 1) := by decide +kernel
theorem dX2_computed_160 : decode cX2_computed 160 = .ok (.iaload, 1) := by decide +kernel
theorem dX2_computed_161 : decode cX2_computed 161 = .ok (.ireturn, 1) := by decide +kernel
theorem bX2_computed_0 {d : Nat} {Q : Option jA → jH → Prop} (a0 : Nat) (i1 : Int) (a2 : Nat) (u3 : Option jA) (u4 : Option jA) (u5 : Option jA) (h : jH)
    (k1 : V MX2_computed (d + 1) 5 [some (.inr a0), some (.inl i1), some (.inr a2), some (.inl 0), some (.inl 0), u5] [] h 0 0 Q) :
    V MX2_computed (d + 1) 0 [some (.inr a0), some (.inl i1), some (.inr a2), u3, u4, u5] [] h 0 0 Q := by
  refine V_iconst dX2_computed_0 ⟨by decide, by decide⟩ ?_
  refine V_istore_n (i := 3) dX2_computed_1 rfl (by decide) ?_
  refine V_iconst dX2_computed_2 ⟨by decide, by decide⟩ ?_
  refine V_istore (i := 4) dX2_computed_3 (by decide) ?_
  exact k1
theorem bX2_computed_5 {d : Nat} {Q : Option jA → jH → Prop} (a0 : Nat) (i1 : Int) (a2 : Nat) (i3 : Int) (i4 : Int) (u5 : Option jA) (h : jH)
    (s1 : (jS h a0).1 = 2)
    (s2 : (jS h (jP h a0 11)).1 = 16)
    (s3 : 0 ≤ i1)
    (s4 : i1 < ((jS h (jP h a0 11)).2 : Int))
    (s5 : (jS h (jP h a0 12)).1 = 16)
    (s6 : ((jX h (jP h a0 11) ((i1).toNat)) ≤ i4) → 0 < ((jS h (jP h a0 12)).2 : Int))
    (q1 : ((jX h (jP h a0 11) ((i1).toNat)) ≤ i4) → Q (some (.inl (jX h (jP h a0 12) 0))) h)
    (s7 : (jS h (jP h a0 10)).1 = 20)
    (s8 : (¬ ((jX h (jP h a0 11) ((i1).toNat)) ≤ i4)) → i1 < ((jS h (jP h a0 10)).2 : Int))
    (s9 : (¬ ((jX h (jP h a0 11) ((i1).toNat)) ≤ i4)) → (jS h (jY h (jP h a0 10) ((i1).toNat))).1 = 16)
    (s10 : (¬ ((jX h (jP h a0 11) ((i1).toNat)) ≤ i4)) → 0 ≤ i4)
    (s11 : (¬ ((jX h (jP h a0 11) ((i1).toNat)) ≤ i4)) → i4 < ((jS h (jY h (jP h a0 10) ((i1).toNat))).2 : Int))
    (k1 : (¬ ((jX h (jP h a0 11) ((i1).toNat)) ≤ i4)) → ((jX h (jY h (jP h a0 10) ((i1).toNat)) ((i4).toNat)) < 0) → V MX2_computed (d + 1) 74 [some (.inr a0), some (.inl i1), some (.inr a2), some (.inl i3), some (.inl i4), some (.inl (jX h (jY h (jP h a0 10) ((i1).toNat)) ((i4).toNat)))] [] h 0 0 Q)
    (k2 : (¬ ((jX h (jP h a0 11) ((i1).toNat)) ≤ i4)) → (¬ ((jX h (jY h (jP h a0 10) ((i1).toNat)) ((i4).toNat)) < 0)) → ((((jS h (jP h a0 12)).2 : Int)) ≤ i3) → V MX2_computed (d + 1) 74 [some (.inr a0), some (.inl i1), some (.inr a2), some (.inl i3), some (.inl i4), some (.inl (jX h (jY h (jP h a0 10) ((i1).toNat)) ((i4).toNat)))] [] h 0 0 Q)
    (r1 : (¬ ((jX h (jP h a0 11) ((i1).toNat)) ≤ i4)) → (¬ ((jX h (jY h (jP h a0 10) ((i1).toNat)) ((i4).toNat)) < 0)) → (¬ ((((jS h (jP h a0 12)).2 : Int)) ≤ i3)) → (1000 ≤ (jX h (jY h (jP h a0 10) ((i1).toNat)) ((i4).toNat))) → jR ((jX h (jY h (jP h a0 10) ((i1).toNat)) ((i4).toNat)) - 1000))
    (s12 : (jS h a2).1 = 16)
    (s13 : (¬ ((jX h (jP h a0 11) ((i1).toNat)) ≤ i4)) → (¬ ((jX h (jY h (jP h a0 10) ((i1).toNat)) ((i4).toNat)) < 0)) → (¬ ((((jS h (jP h a0 12)).2 : Int)) ≤ i3)) → (1000 ≤ (jX h (jY h (jP h a0 10) ((i1).toNat)) ((i4).toNat))) → 0 ≤ (jX h (jY h (jP h a0 10) ((i1).toNat)) ((i4).toNat)) - 1000)
    (s14 : (¬ ((jX h (jP h a0 11) ((i1).toNat)) ≤ i4)) → (¬ ((jX h (jY h (jP h a0 10) ((i1).toNat)) ((i4).toNat)) < 0)) → (¬ ((((jS h (jP h a0 12)).2 : Int)) ≤ i3)) → (1000 ≤ (jX h (jY h (jP h a0 10) ((i1).toNat)) ((i4).toNat))) → (jX h (jY h (jP h a0 10) ((i1).toNat)) ((i4).toNat)) - 1000 < ((jS h a2).2 : Int))
    (k3 : (¬ ((jX h (jP h a0 11) ((i1).toNat)) ≤ i4)) → (¬ ((jX h (jY h (jP h a0 10) ((i1).toNat)) ((i4).toNat)) < 0)) → (¬ ((((jS h (jP h a0 12)).2 : Int)) ≤ i3)) → (1000 ≤ (jX h (jY h (jP h a0 10) ((i1).toNat)) ((i4).toNat))) → V MX2_computed (d + 1) 67 [some (.inr a0), some (.inl i1), some (.inr a2), some (.inl i3), some (.inl i4), some (.inl (jX h (jY h (jP h a0 10) ((i1).toNat)) ((i4).toNat)))] [.inl (jX h a2 (((jX h (jY h (jP h a0 10) ((i1).toNat)) ((i4).toNat)) - 1000).toNat)), .inl i3, .inr (jP h a0 12)] h 0 0 Q)
    (k4 : (¬ ((jX h (jP h a0 11) ((i1).toNat)) ≤ i4)) → (¬ ((jX h (jY h (jP h a0 10) ((i1).toNat)) ((i4).toNat)) < 0)) → (¬ ((((jS h (jP h a0 12)).2 : Int)) ≤ i3)) → (¬ (1000 ≤ (jX h (jY h (jP h a0 10) ((i1).toNat)) ((i4).toNat)))) → V MX2_computed (d + 1) 67 [some (.inr a0), some (.inl i1), some (.inr a2), some (.inl i3), some (.inl i4), some (.inl (jX h (jY h (jP h a0 10) ((i1).toNat)) ((i4).toNat)))] [.inl (jX h (jY h (jP h a0 10) ((i1).toNat)) ((i4).toNat)), .inl i3, .inr (jP h a0 12)] h 0 0 Q) :
    V MX2_computed (d + 1) 5 [some (.inr a0), some (.inl i1), some (.inr a2), some (.inl i3), some (.inl i4), u5] [] h 0 0 Q := by
  refine V_iload (i := 4) dX2_computed_5 rfl ?_
  refine V_aload_n (i := 0) dX2_computed_7 rfl rfl ?_
  refine V_getP dX2_computed_8 fX2_35 rfl s1 ?_
  refine V_iload_n (i := 1) dX2_computed_11 rfl rfl ?_
  refine V_iald dX2_computed_12 s2 s3 s4 ?_
  refine V_icmp_ge (tgt := 155) dX2_computed_13 (by decide) (fun c1 => ?_) (fun c1 => ?_)
  · refine V_aload_n (i := 0) dX2_computed_155 rfl rfl ?_
    refine V_getP dX2_computed_156 fX2_38 rfl s1 ?_
    refine V_iconst dX2_computed_159 ⟨by decide, by decide⟩ ?_
    refine V_iald dX2_computed_160 s5 (by decide) (s6 c1) ?_
    exact V_reti rfl dX2_computed_161 (q1 c1)
  · refine V_aload_n (i := 0) dX2_computed_16 rfl rfl ?_
    refine V_getP dX2_computed_17 fX2_32 rfl s1 ?_
    refine V_iload_n (i := 1) dX2_computed_20 rfl rfl ?_
    refine V_aald20 dX2_computed_21 s7 s3 (s8 c1) ?_
    refine V_iload (i := 4) dX2_computed_22 rfl ?_
    refine V_iald dX2_computed_24 (s9 c1) (s10 c1) (s11 c1) ?_
    refine V_istore (i := 5) dX2_computed_25 (by decide) ?_
    refine V_iload (i := 5) dX2_computed_27 rfl ?_
    refine V_if_lt (tgt := 74) dX2_computed_29 (by decide) (fun c2 => ?_) (fun c2 => ?_)
    · exact (k1 c1 c2)
    · refine V_iload_n (i := 3) dX2_computed_32 rfl rfl ?_
      refine V_aload_n (i := 0) dX2_computed_33 rfl rfl ?_
      refine V_getP dX2_computed_34 fX2_38 rfl s1 ?_
      refine V_alen (t := 0) dX2_computed_37 s5 (by decide) ?_
      refine V_icmp_ge (tgt := 74) dX2_computed_38 (by decide) (fun c3 => ?_) (fun c3 => ?_)
      · exact (k2 c1 c2 c3)
      · refine V_aload_n (i := 0) dX2_computed_41 rfl rfl ?_
        refine V_getP dX2_computed_42 fX2_38 rfl s1 ?_
        refine V_iload_n (i := 3) dX2_computed_45 rfl rfl ?_
        refine V_iload (i := 5) dX2_computed_46 rfl ?_
        refine V_sipush dX2_computed_48 (by decide +kernel) ⟨by decide, by decide⟩ ?_
        refine V_icmp_ge (tgt := 59) dX2_computed_51 (by decide) (fun c4 => ?_) (fun c4 => ?_)
        · refine V_aload_n (i := 2) dX2_computed_59 rfl rfl ?_
          refine V_iload (i := 5) dX2_computed_60 rfl ?_
          refine V_sipush dX2_computed_62 (by decide +kernel) ⟨by decide, by decide⟩ ?_
          refine V_isub dX2_computed_65 (r1 c1 c2 c3 c4) ?_
          refine V_iald dX2_computed_66 s12 (s13 c1 c2 c3 c4) (s14 c1 c2 c3 c4) ?_
          exact (k3 c1 c2 c3 c4)
        · refine V_iload (i := 5) dX2_computed_54 rfl ?_
          refine V_goto (tgt := 67) dX2_computed_56 (by decide) ?_
          exact (k4 c1 c2 c3 c4)
theorem bX2_computed_67 {d : Nat} {Q : Option jA → jH → Prop} (a0 : Nat) (i1 : Int) (a2 : Nat) (i3 : Int) (i4 : Int) (i5 : Int) (p0 : Int) (p1 : Int) (q2 : Nat) (h : jH)
    (s1 : (jS h q2).1 = 16)
    (s2 : 0 ≤ p1)
    (s3 : p1 < ((jS h q2).2 : Int))
    (r1 : jR (i3 + 1))
    (k1 : V MX2_computed (d + 1) 149 [some (.inr a0), some (.inl i1), some (.inr a2), some (.inl (i3 + 1)), some (.inl i4), some (.inl i5)] [] (jsX h q2 ((p1).toNat) p0) 0 0 Q) :
    V MX2_computed (d + 1) 67 [some (.inr a0), some (.inl i1), some (.inr a2), some (.inl i3), some (.inl i4), some (.inl i5)] [.inl p0, .inl p1, .inr q2] h 0 0 Q := by
  refine V_iast dX2_computed_67 s1 s2 s3 ?_
  refine V_iinc (i := 3) dX2_computed_68 rfl (by decide) r1 ?_
  refine V_goto (tgt := 149) dX2_computed_71 (by decide) ?_
  exact k1
theorem bX2_computed_74 {d : Nat} {Q : Option jA → jH → Prop} (a0 : Nat) (i1 : Int) (a2 : Nat) (i3 : Int) (i4 : Int) (i5 : Int) (h : jH)
    (k1 : (i5 ≠ ((-33))) → V MX2_computed (d + 1) 108 [some (.inr a0), some (.inl i1), some (.inr a2), some (.inl i3), some (.inl i4), some (.inl i5)] [] h 0 0 Q)
    (k2 : (i5 = ((-33))) → (i3 < 1) → V MX2_computed (d + 1) 108 [some (.inr a0), some (.inl i1), some (.inr a2), some (.inl i3), some (.inl i4), some (.inl i5)] [] h 0 0 Q)
    (s1 : (jS h a0).1 = 2)
    (r1 : (i5 = ((-33))) → (¬ (i3 < 1)) → jR (i3 - 1))
    (r2 : (i5 = ((-33))) → (¬ (i3 < 1)) → jR (i3 - 1))
    (s2 : (jS h (jP h a0 12)).1 = 16)
    (s3 : (i5 = ((-33))) → (¬ (i3 < 1)) → 0 ≤ i3 - 1)
    (s4 : (i5 = ((-33))) → (¬ (i3 < 1)) → i3 - 1 < ((jS h (jP h a0 12)).2 : Int))
    (k3 : (i5 = ((-33))) → (¬ (i3 < 1)) → V MX2_computed (d + 1) 149 [some (.inr a0), some (.inl i1), some (.inr a2), some (.inl i3), some (.inl i4), some (.inl i5)] [] (jsX h (jP h a0 12) ((i3 - 1).toNat) (jneg (jX h (jP h a0 12) ((i3 - 1).toNat)))) 0 0 Q) :
    V MX2_computed (d + 1) 74 [some (.inr a0), some (.inl i1), some (.inr a2), some (.inl i3), some (.inl i4), some (.inl i5)] [] h 0 0 Q := by
  refine V_iload (i := 5) dX2_computed_74 rfl ?_
  refine V_bipush dX2_computed_76 (by decide +kernel) ⟨by decide, by decide⟩ ?_
  refine V_icmp_ne (tgt := 108) dX2_computed_78 (by decide) (fun c1 => ?_) (fun c1 => ?_)
  · exact (k1 c1)
  · refine V_iload_n (i := 3) dX2_computed_81 rfl rfl ?_
    refine V_iconst dX2_computed_82 ⟨by decide, by decide⟩ ?_
    refine V_icmp_lt (tgt := 108) dX2_computed_83 (by decide) (fun c2 => ?_) (fun c2 => ?_)
    · exact (k2 c1 c2)
    · refine V_aload_n (i := 0) dX2_computed_86 rfl rfl ?_
      refine V_getP dX2_computed_87 fX2_38 rfl s1 ?_
      refine V_iload_n (i := 3) dX2_computed_90 rfl rfl ?_
      refine V_iconst dX2_computed_91 ⟨by decide, by decide⟩ ?_
      refine V_isub dX2_computed_92 (r1 c1 c2) ?_
      refine V_aload_n (i := 0) dX2_computed_93 rfl rfl ?_
      refine V_getP dX2_computed_94 fX2_38 rfl s1 ?_
      refine V_iload_n (i := 3) dX2_computed_97 rfl rfl ?_
      refine V_iconst dX2_computed_98 ⟨by decide, by decide⟩ ?_
      refine V_isub dX2_computed_99 (r2 c1 c2) ?_
      refine V_iald dX2_computed_100 s2 (s3 c1 c2) (s4 c1 c2) ?_
      refine V_callS (M := MX2_computed) (d := (d + 1)) (mc' := 0) (ms' := 0) (mc := 0) (ms := 0) (a := 0) (As := [.inl (jX h (jP h a0 12) ((i3 - 1).toNat))]) (rest := [.inl (i3 - 1), .inr (jP h a0 12)]) dX2_computed_101 tX2_negated sX2_negated lX2_62 rfl rfl (Nat.le_of_ble_eq_true rfl) (show d + 1 ≤ (d + 1) by omega) (Ex.mono (pX2_negated (d := d) ) ?_)
      intro v h2 hq
      rw [hq.1, hq.2]
      show V MX2_computed (d + 1) 104 [some (.inr a0), some (.inl i1), some (.inr a2), some (.inl i3), some (.inl i4), some (.inl i5)] [.inl (jneg (jX h (jP h a0 12) ((i3 - 1).toNat))), .inl (i3 - 1), .inr (jP h a0 12)] h 0 0 Q
      refine V_iast dX2_computed_104 s2 (s3 c1 c2) (s4 c1 c2) ?_
      refine V_goto (tgt := 149) dX2_computed_105 (by decide) ?_
      exact (k3 c1 c2)
theorem bX2_computed_108 {d : Nat} {Q : Option jA → jH → Prop} (a0 : Nat) (i1 : Int) (a2 : Nat) (i3 : Int) (i4 : Int) (i5 : Int) (h : jH)
    (k1 : (0 ≤ i5) → V MX2_computed (d + 1) 149 [some (.inr a0), some (.inl i1), some (.inr a2), some (.inl i3), some (.inl i4), some (.inl i5)] [] h 0 0 Q)
    (k2 : (¬ (0 ≤ i5)) → (i3 < 2) → V MX2_computed (d + 1) 149 [some (.inr a0), some (.inl i1), some (.inr a2), some (.inl i3), some (.inl i4), some (.inl i5)] [] h 0 0 Q)
    (r1 : (¬ (0 ≤ i5)) → (¬ (i3 < 2)) → jR (i3 + (-1)))
    (s1 : (jS h a0).1 = 2)
    (r2 : (¬ (0 ≤ i5)) → (¬ (i3 < 2)) → jR ((i3 + (-1)) - 1))
    (r3 : (¬ (0 ≤ i5)) → (¬ (i3 < 2)) → jR (-i5))
    (r4 : (¬ (0 ≤ i5)) → (¬ (i3 < 2)) → jR ((i3 + (-1)) - 1))
    (s2 : (jS h (jP h a0 12)).1 = 16)
    (s3 : (¬ (0 ≤ i5)) → (¬ (i3 < 2)) → 0 ≤ (i3 + (-1)) - 1)
    (s4 : (¬ (0 ≤ i5)) → (¬ (i3 < 2)) → (i3 + (-1)) - 1 < ((jS h (jP h a0 12)).2 : Int))
    (s5 : (¬ (0 ≤ i5)) → (¬ (i3 < 2)) → 0 ≤ i3 + (-1))
    (s6 : (¬ (0 ≤ i5)) → (¬ (i3 < 2)) → i3 + (-1) < ((jS h (jP h a0 12)).2 : Int))
    (s7 : (¬ (0 ≤ i5)) → (¬ (i3 < 2)) → -7 ≤ (jX h (jP h a0 12) (((i3 + (-1)) - 1).toNat)))
    (s8 : (¬ (0 ≤ i5)) → (¬ (i3 < 2)) → (jX h (jP h a0 12) (((i3 + (-1)) - 1).toNat)) ≤ 255)
    (s9 : (¬ (0 ≤ i5)) → (¬ (i3 < 2)) → -7 ≤ (jX h (jP h a0 12) ((i3 + (-1)).toNat)))
    (s10 : (¬ (0 ≤ i5)) → (¬ (i3 < 2)) → (jX h (jP h a0 12) ((i3 + (-1)).toNat)) ≤ 255)
    (k3 : (¬ (0 ≤ i5)) → (¬ (i3 < 2)) → V MX2_computed (d + 1) 149 [some (.inr a0), some (.inl i1), some (.inr a2), some (.inl (i3 + (-1))), some (.inl i4), some (.inl i5)] [] (jsX h (jP h a0 12) (((i3 + (-1)) - 1).toNat) (jop (-i5) (jX h (jP h a0 12) (((i3 + (-1)) - 1).toNat)) (jX h (jP h a0 12) ((i3 + (-1)).toNat)))) 0 0 Q) :
    V MX2_computed (d + 1) 108 [some (.inr a0), some (.inl i1), some (.inr a2), some (.inl i3), some (.inl i4), some (.inl i5)] [] h 0 0 Q := by
  refine V_iload (i := 5) dX2_computed_108 rfl ?_
  refine V_if_ge (tgt := 149) dX2_computed_110 (by decide) (fun c1 => ?_) (fun c1 => ?_)
  · exact (k1 c1)
  · refine V_iload_n (i := 3) dX2_computed_113 rfl rfl ?_
    refine V_iconst dX2_computed_114 ⟨by decide, by decide⟩ ?_
    refine V_icmp_lt (tgt := 149) dX2_computed_115 (by decide) (fun c2 => ?_) (fun c2 => ?_)
    · exact (k2 c1 c2)
    · refine V_iinc (i := 3) dX2_computed_118 rfl (by decide) (r1 c1 c2) ?_
      refine V_aload_n (i := 0) dX2_computed_121 rfl rfl ?_
      refine V_getP dX2_computed_122 fX2_38 rfl s1 ?_
      refine V_iload_n (i := 3) dX2_computed_125 rfl rfl ?_
      refine V_iconst dX2_computed_126 ⟨by decide, by decide⟩ ?_
      refine V_isub dX2_computed_127 (r2 c1 c2) ?_
      refine V_iload (i := 5) dX2_computed_128 rfl ?_
      refine V_ineg dX2_computed_130 (r3 c1 c2) ?_
      refine V_aload_n (i := 0) dX2_computed_131 rfl rfl ?_
      refine V_getP dX2_computed_132 fX2_38 rfl s1 ?_
      refine V_iload_n (i := 3) dX2_computed_135 rfl rfl ?_
      refine V_iconst dX2_computed_136 ⟨by decide, by decide⟩ ?_
      refine V_isub dX2_computed_137 (r4 c1 c2) ?_
      refine V_iald dX2_computed_138 s2 (s3 c1 c2) (s4 c1 c2) ?_
      refine V_aload_n (i := 0) dX2_computed_139 rfl rfl ?_
      refine V_getP dX2_computed_140 fX2_38 rfl s1 ?_
      refine V_iload_n (i := 3) dX2_computed_143 rfl rfl ?_
      refine V_iald dX2_computed_144 s2 (s5 c1 c2) (s6 c1 c2) ?_
      refine V_callS (M := MX2_computed) (d := (d + 1)) (mc' := 0) (ms' := 0) (mc := 0) (ms := 0) (a := 0) (As := [.inl (-i5), .inl (jX h (jP h a0 12) (((i3 + (-1)) - 1).toNat)), .inl (jX h (jP h a0 12) ((i3 + (-1)).toNat))]) (rest := [.inl ((i3 + (-1)) - 1), .inr (jP h a0 12)]) dX2_computed_145 tX2_joined sX2_joined lX2_65 rfl rfl (Nat.le_of_ble_eq_true rfl) (show d + 1 ≤ (d + 1) by omega) (Ex.mono (pX2_joined (d := d) (s7 c1 c2) (s8 c1 c2) (s9 c1 c2) (s10 c1 c2)) ?_)
      intro v h2 hq
      rw [hq.1, hq.2]
      show V MX2_computed (d + 1) 148 [some (.inr a0), some (.inl i1), some (.inr a2), some (.inl (i3 + (-1))), some (.inl i4), some (.inl i5)] [.inl (jop (-i5) (jX h (jP h a0 12) (((i3 + (-1)) - 1).toNat)) (jX h (jP h a0 12) ((i3 + (-1)).toNat))), .inl ((i3 + (-1)) - 1), .inr (jP h a0 12)] h 0 0 Q
      refine V_iast dX2_computed_148 s2 (s3 c1 c2) (s4 c1 c2) ?_
      exact (k3 c1 c2)
theorem bX2_computed_149 {d : Nat} {Q : Option jA → jH → Prop} (a0 : Nat) (i1 : Int) (a2 : Nat) (i3 : Int) (i4 : Int) (i5 : Int) (h : jH)
    (r1 : jR (i4 + 1))
    (k1 : V MX2_computed (d + 1) 5 [some (.inr a0), some (.inl i1), some (.inr a2), some (.inl i3), some (.inl (i4 + 1)), some (.inl i5)] [] h 0 0 Q) :
    V MX2_computed (d + 1) 149 [some (.inr a0), some (.inl i1), some (.inr a2), some (.inl i3), some (.inl i4), some (.inl i5)] [] h 0 0 Q := by
  refine V_iinc (i := 4) dX2_computed_149 rfl (by decide) r1 ?_
  refine V_goto (tgt := 5) dX2_computed_152 (by decide) ?_
  exact k1
