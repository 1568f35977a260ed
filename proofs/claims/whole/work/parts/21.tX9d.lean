/-! ===== SignalWavesModel 4: decode rows and trees ===== -/
theorem dX9_placeOf_0 : decode cX9_placeOf 0 = .ok (.iconst 0, 1) := by decide +kernel
theorem dX9_placeOf_1 : decode cX9_placeOf 1 = .ok (.istore_n 2, 1) := by decide +kernel
theorem dX9_placeOf_2 : decode cX9_placeOf 2 = .ok (.iload_n 2, 1) := by decide +kernel
theorem dX9_placeOf_3 : decode cX9_placeOf 3 = .ok (.aload_n 0, 1) := by decide +kernel
theorem dX9_placeOf_4 : decode cX9_placeOf 4 = .ok (.getfield 293, 3) := by decide +kernel
theorem dX9_placeOf_7 : decode cX9_placeOf 7 = .ok (.if_icmp .ge 21, 3) := by decide +kernel
theorem dX9_placeOf_10 : decode cX9_placeOf 10 = .ok (.aload_n 0, 1) := by decide +kernel
theorem dX9_placeOf_11 : decode cX9_placeOf 11 = .ok (.getfield 86, 3) := by decide +kernel
theorem dX9_placeOf_14 : decode cX9_placeOf 14 = .ok (.iload_n 2, 1) := by decide +kernel
theorem dX9_placeOf_15 : decode cX9_placeOf 15 = .ok (.iaload, 1) := by decide +kernel
theorem dX9_placeOf_16 : decode cX9_placeOf 16 = .ok (.iload_n 1, 1) := by decide +kernel
theorem dX9_placeOf_17 : decode cX9_placeOf 17 = .ok (.if_icmp .ne 5, 3) := by decide +kernel
theorem dX9_placeOf_20 : decode cX9_placeOf 20 = .ok (.iload_n 2, 1) := by decide +kernel
theorem dX9_placeOf_21 : decode cX9_placeOf 21 = .ok (.ireturn, 1) := by decide +kernel
theorem dX9_placeOf_22 : decode cX9_placeOf 22 = .ok (.iinc 2 1, 3) := by decide +kernel
theorem dX9_placeOf_25 : decode cX9_placeOf 25 = .ok (.goto (-23), 3) := by decide +kernel
theorem dX9_placeOf_28 : decode cX9_placeOf 28 = .ok (.aload_n 0, 1) := by decide +kernel
theorem dX9_placeOf_29 : decode cX9_placeOf 29 = .ok (.getfield 86, 3) := by decide +kernel
theorem dX9_placeOf_32 : decode cX9_placeOf 32 = .ok (.aload_n 0, 1) := by decide +kernel
theorem dX9_placeOf_33 : decode cX9_placeOf 33 = .ok (.getfield 293, 3) := by decide +kernel
theorem dX9_placeOf_36 : decode cX9_placeOf 36 = .ok (.iload_n 1, 1) := by decide +kernel
theorem dX9_placeOf_37 : decode cX9_placeOf 37 = .ok (.iastore, 1) := by decide +kernel
theorem dX9_placeOf_38 : decode cX9_placeOf 38 = .ok (.aload_n 0, 1) := by decide +kernel
theorem dX9_placeOf_39 : decode cX9_placeOf 39 = .ok (.dup, 1) := by decide +kernel
theorem dX9_placeOf_40 : decode cX9_placeOf 40 = .ok (.getfield 293, 3) := by decide +kernel
theorem dX9_placeOf_43 : decode cX9_placeOf 43 = .ok (.iconst 1, 1) := by decide +kernel
theorem dX9_placeOf_44 : decode cX9_placeOf 44 = .ok (.iadd, 1) := by decide +kernel
theorem dX9_placeOf_45 : decode cX9_placeOf 45 = .ok (.putfield 293, 3) := by decide +kernel
theorem dX9_placeOf_48 : decode cX9_placeOf 48 = .ok (.aload_n 0, 1) := by decide +kernel
theorem dX9_placeOf_49 : decode cX9_placeOf 49 = .ok (.getfield 293, 3) := by decide +kernel
theorem dX9_placeOf_52 : decode cX9_placeOf 52 = .ok (.iconst 1, 1) := by decide +kernel
theorem dX9_placeOf_53 : decode cX9_placeOf 53 = .ok (.isub, 1) := by decide +kernel
theorem dX9_placeOf_54 : decode cX9_placeOf 54 = .ok (.ireturn, 1) := by decide +kernel
theorem bX9_placeOf_0 {d : Nat} {Q : Option jA → jH → Prop} (a0 : Nat) (i1 : Int) (u2 : Option jA) (h : jH)
    (k1 : V MX9_placeOf d 2 [some (.inr a0), some (.inl i1), some (.inl 0)] [] h 0 0 Q) :
    V MX9_placeOf d 0 [some (.inr a0), some (.inl i1), u2] [] h 0 0 Q := by
  refine V_iconst dX9_placeOf_0 ⟨by decide, by decide⟩ ?_
  refine V_istore_n (i := 2) dX9_placeOf_1 rfl (by decide) ?_
  exact k1
theorem bX9_placeOf_2 {d : Nat} {Q : Option jA → jH → Prop} (a0 : Nat) (i1 : Int) (i2 : Int) (h : jH)
    (s1 : (jS h a0).1 = 9)
    (s2 : (jS h (jP h a0 46)).1 = 16)
    (s3 : ((jI h a0 47) ≤ i2) → 0 ≤ jI h a0 47)
    (s4 : ((jI h a0 47) ≤ i2) → jI h a0 47 < ((jS h (jP h a0 46)).2 : Int))
    (r1 : ((jI h a0 47) ≤ i2) → jR ((jI h a0 47) + 1))
    (r2 : ((jI h a0 47) ≤ i2) → jR (((jI h a0 47) + 1) - 1))
    (q1 : ((jI h a0 47) ≤ i2) → Q (some (.inl (((jI h a0 47) + 1) - 1))) (jsI (jsX h (jP h a0 46) ((jI h a0 47).toNat) i1) a0 47 ((jI h a0 47) + 1)))
    (s5 : (¬ ((jI h a0 47) ≤ i2)) → 0 ≤ i2)
    (s6 : (¬ ((jI h a0 47) ≤ i2)) → i2 < ((jS h (jP h a0 46)).2 : Int))
    (r3 : (¬ ((jI h a0 47) ≤ i2)) → ((jX h (jP h a0 46) ((i2).toNat)) ≠ i1) → jR (i2 + 1))
    (k1 : (¬ ((jI h a0 47) ≤ i2)) → ((jX h (jP h a0 46) ((i2).toNat)) ≠ i1) → V MX9_placeOf d 2 [some (.inr a0), some (.inl i1), some (.inl (i2 + 1))] [] h 0 0 Q)
    (q2 : (¬ ((jI h a0 47) ≤ i2)) → ((jX h (jP h a0 46) ((i2).toNat)) = i1) → Q (some (.inl i2)) h) :
    V MX9_placeOf d 2 [some (.inr a0), some (.inl i1), some (.inl i2)] [] h 0 0 Q := by
  refine V_iload_n (i := 2) dX9_placeOf_2 rfl rfl ?_
  refine V_aload_n (i := 0) dX9_placeOf_3 rfl rfl ?_
  refine V_getI dX9_placeOf_4 fX9_293 rfl s1 ?_
  refine V_icmp_ge (tgt := 28) dX9_placeOf_7 (by decide) (fun c1 => ?_) (fun c1 => ?_)
  · refine V_aload_n (i := 0) dX9_placeOf_28 rfl rfl ?_
    refine V_getP dX9_placeOf_29 fX9_86 rfl s1 ?_
    refine V_aload_n (i := 0) dX9_placeOf_32 rfl rfl ?_
    refine V_getI dX9_placeOf_33 fX9_293 rfl s1 ?_
    refine V_iload_n (i := 1) dX9_placeOf_36 rfl rfl ?_
    refine V_iast dX9_placeOf_37 s2 (s3 c1) (s4 c1) ?_
    refine V_aload_n (i := 0) dX9_placeOf_38 rfl rfl ?_
    refine V_dup dX9_placeOf_39 ?_
    refine V_getI dX9_placeOf_40 fX9_293 rfl s1 ?_
    refine V_iconst dX9_placeOf_43 ⟨by decide, by decide⟩ ?_
    refine V_iadd dX9_placeOf_44 (r1 c1) ?_
    refine V_putI (ci := 9) (kf := 47) dX9_placeOf_45 fX9_293 rfl rfl s1 ?_
    refine V_aload_n (i := 0) dX9_placeOf_48 rfl rfl ?_
    refine V_getI dX9_placeOf_49 fX9_293 rfl s1 ?_
    refine V_topI (jI_at) ?_
    refine V_iconst dX9_placeOf_52 ⟨by decide, by decide⟩ ?_
    refine V_isub dX9_placeOf_53 (r2 c1) ?_
    exact V_reti rfl dX9_placeOf_54 (q1 c1)
  · refine V_aload_n (i := 0) dX9_placeOf_10 rfl rfl ?_
    refine V_getP dX9_placeOf_11 fX9_86 rfl s1 ?_
    refine V_iload_n (i := 2) dX9_placeOf_14 rfl rfl ?_
    refine V_iald dX9_placeOf_15 s2 (s5 c1) (s6 c1) ?_
    refine V_iload_n (i := 1) dX9_placeOf_16 rfl rfl ?_
    refine V_icmp_ne (tgt := 22) dX9_placeOf_17 (by decide) (fun c2 => ?_) (fun c2 => ?_)
    · refine V_iinc (i := 2) dX9_placeOf_22 rfl (by decide) (r3 c1 c2) ?_
      refine V_goto (tgt := 2) dX9_placeOf_25 (by decide) ?_
      exact (k1 c1 c2)
    · refine V_iload_n (i := 2) dX9_placeOf_20 rfl rfl ?_
      exact V_reti rfl dX9_placeOf_21 (q2 c1 c2)
theorem dX9_roomOf_0 : decode cX9_roomOf 0 = .ok (.aload_n 0, 1) := by decide +kernel
theorem dX9_roomOf_1 : decode cX9_roomOf 1 = .ok (.iconst 0, 1) := by decide +kernel
theorem dX9_roomOf_2 : decode cX9_roomOf 2 = .ok (.putfield 293, 3) := by decide +kernel
theorem dX9_roomOf_5 : decode cX9_roomOf 5 = .ok (.iconst 2, 1) := by decide +kernel
theorem dX9_roomOf_6 : decode cX9_roomOf 6 = .ok (.aload_n 0, 1) := by decide +kernel
theorem dX9_roomOf_7 : decode cX9_roomOf 7 = .ok (.getfield 215, 3) := by decide +kernel
theorem dX9_roomOf_10 : decode cX9_roomOf 10 = .ok (.iadd, 1) := by decide +kernel
theorem dX9_roomOf_11 : decode cX9_roomOf 11 = .ok (.istore 4, 2) := by decide +kernel
theorem dX9_roomOf_13 : decode cX9_roomOf 13 = .ok (.iload_n 3, 1) := by decide +kernel
theorem dX9_roomOf_14 : decode cX9_roomOf 14 = .ok (.istore 5, 2) := by decide +kernel
theorem dX9_roomOf_16 : decode cX9_roomOf 16 = .ok (.iload_n 1, 1) := by decide +kernel
theorem dX9_roomOf_17 : decode cX9_roomOf 17 = .ok (.istore 6, 2) := by decide +kernel
theorem dX9_roomOf_19 : decode cX9_roomOf 19 = .ok (.iload 6, 2) := by decide +kernel
theorem dX9_roomOf_21 : decode cX9_roomOf 21 = .ok (.iload_n 1, 1) := by decide +kernel
theorem dX9_roomOf_22 : decode cX9_roomOf 22 = .ok (.iload_n 2, 1) := by decide +kernel
theorem dX9_roomOf_23 : decode cX9_roomOf 23 = .ok (.iadd, 1) := by decide +kernel
theorem dX9_roomOf_24 : decode cX9_roomOf 24 = .ok (.if_icmp .ge 79, 3) := by decide +kernel
theorem dX9_roomOf_27 : decode cX9_roomOf 27 = .ok (.aload_n 0, 1) := by decide +kernel
theorem dX9_roomOf_28 : decode cX9_roomOf 28 = .ok (.getfield 80, 3) := by decide +kernel
theorem dX9_roomOf_31 : decode cX9_roomOf 31 = .ok (.iload 6, 2) := by decide +kernel
theorem dX9_roomOf_33 : decode cX9_roomOf 33 = .ok (.iaload, 1) := by decide +kernel
theorem dX9_roomOf_34 : decode cX9_roomOf 34 = .ok (.iload 5, 2) := by decide +kernel
theorem dX9_roomOf_36 : decode cX9_roomOf 36 = .ok (.isub, 1) := by decide +kernel
theorem dX9_roomOf_37 : decode cX9_roomOf 37 = .ok (.istore 7, 2) := by decide +kernel
theorem dX9_roomOf_39 : decode cX9_roomOf 39 = .ok (.iload 4, 2) := by decide +kernel
theorem dX9_roomOf_41 : decode cX9_roomOf 41 = .ok (.iconst 1, 1) := by decide +kernel
theorem dX9_roomOf_42 : decode cX9_roomOf 42 = .ok (.aload_n 0, 1) := by decide +kernel
theorem dX9_roomOf_43 : decode cX9_roomOf 43 = .ok (.aload_n 0, 1) := by decide +kernel
theorem dX9_roomOf_44 : decode cX9_roomOf 44 = .ok (.getfield 83, 3) := by decide +kernel
theorem dX9_roomOf_47 : decode cX9_roomOf 47 = .ok (.iload 6, 2) := by decide +kernel
theorem dX9_roomOf_49 : decode cX9_roomOf 49 = .ok (.iaload, 1) := by decide +kernel
theorem dX9_roomOf_50 : decode cX9_roomOf 50 = .ok (.invokevirtual 296, 3) := by decide +kernel
theorem dX9_roomOf_53 : decode cX9_roomOf 53 = .ok (.iconst 1, 1) := by decide +kernel
theorem dX9_roomOf_54 : decode cX9_roomOf 54 = .ok (.if_icmp .le 7, 3) := by decide +kernel
theorem dX9_roomOf_57 : decode cX9_roomOf 57 = .ok (.iconst 1, 1) := by decide +kernel
theorem dX9_roomOf_58 : decode cX9_roomOf 58 = .ok (.goto 4, 3) := by decide +kernel
theorem dX9_roomOf_61 : decode cX9_roomOf 61 = .ok (.iconst 0, 1) := by decide +kernel
theorem dX9_roomOf_62 : decode cX9_roomOf 62 = .ok (.iadd, 1) := by decide +kernel
theorem dX9_roomOf_63 : decode cX9_roomOf 63 = .ok (.iload 7, 2) := by decide +kernel
theorem dX9_roomOf_65 : decode cX9_roomOf 65 = .ok (.ifCond .ne 7, 3) := by decide +kernel
theorem dX9_roomOf_68 : decode cX9_roomOf 68 = .ok (.iconst 0, 1) := by decide +kernel
theorem dX9_roomOf_69 : decode cX9_roomOf 69 = .ok (.goto 15, 3) := by decide +kernel
theorem dX9_roomOf_72 : decode cX9_roomOf 72 = .ok (.iload 7, 2) := by decide +kernel
theorem dX9_roomOf_74 : decode cX9_roomOf 74 = .ok (.bipush 16, 2) := by decide +kernel
theorem dX9_roomOf_76 : decode cX9_roomOf 76 = .ok (.if_icmp .ge 7, 3) := by decide +kernel
theorem dX9_roomOf_79 : decode cX9_roomOf 79 = .ok (.iconst 1, 1) := by decide +kernel
theorem dX9_roomOf_80 : decode cX9_roomOf 80 = .ok (.goto 4, 3) := by decide +kernel
theorem dX9_roomOf_83 : decode cX9_roomOf 83 = .ok (.iconst 2, 1) := by decide +kernel
theorem dX9_roomOf_84 : decode cX9_roomOf 84 = .ok (.iadd, 1) := by decide +kernel
theorem dX9_roomOf_85 : decode cX9_roomOf 85 = .ok (.iadd, 1) := by decide +kernel
theorem dX9_roomOf_86 : decode cX9_roomOf 86 = .ok (.istore 4, 2) := by decide +kernel
theorem dX9_roomOf_88 : decode cX9_roomOf 88 = .ok (.aload_n 0, 1) := by decide +kernel
theorem dX9_roomOf_89 : decode cX9_roomOf 89 = .ok (.getfield 80, 3) := by decide +kernel
theorem dX9_roomOf_92 : decode cX9_roomOf 92 = .ok (.iload 6, 2) := by decide +kernel
theorem dX9_roomOf_94 : decode cX9_roomOf 94 = .ok (.iaload, 1) := by decide +kernel
theorem dX9_roomOf_95 : decode cX9_roomOf 95 = .ok (.istore 5, 2) := by decide +kernel
theorem dX9_roomOf_97 : decode cX9_roomOf 97 = .ok (.iinc 6 1, 3) := by decide +kernel
theorem dX9_roomOf_100 : decode cX9_roomOf 100 = .ok (.goto (-81), 3) := by decide +kernel
theorem dX9_roomOf_103 : decode cX9_roomOf 103 = .ok (.iload 4, 2) := by decide +kernel
theorem dX9_roomOf_105 : decode cX9_roomOf 105 = .ok (.iconst 2, 1) := by decide +kernel
theorem dX9_roomOf_106 : decode cX9_roomOf 106 = .ok (.aload_n 0, 1) := by decide +kernel
theorem dX9_roomOf_107 : decode cX9_roomOf 107 = .ok (.getfield 293, 3) := by decide +kernel
theorem dX9_roomOf_110 : decode cX9_roomOf 110 = .ok (.imul, 1) := by decide +kernel
theorem dX9_roomOf_111 : decode cX9_roomOf 111 = .ok (.iadd, 1) := by decide +kernel
theorem dX9_roomOf_112 : decode cX9_roomOf 112 = .ok (.ireturn, 1) := by decide +kernel
theorem bX9_roomOf_0 {d : Nat} {Q : Option jA → jH → Prop} (a0 : Nat) (i1 : Int) (i2 : Int) (i3 : Int) (u4 : Option jA) (u5 : Option jA) (u6 : Option jA) (u7 : Option jA) (h : jH)
    (s1 : (jS h a0).1 = 9)
    (r1 : jR (2 + (jI h a0 2)))
    (k1 : V MX9_roomOf (d + 1) 19 [some (.inr a0), some (.inl i1), some (.inl i2), some (.inl i3), some (.inl (2 + (jI h a0 2))), some (.inl i3), some (.inl i1), u7] [] (jsI h a0 47 0) 0 0 Q) :
    V MX9_roomOf (d + 1) 0 [some (.inr a0), some (.inl i1), some (.inl i2), some (.inl i3), u4, u5, u6, u7] [] h 0 0 Q := by
  refine V_aload_n (i := 0) dX9_roomOf_0 rfl rfl ?_
  refine V_iconst dX9_roomOf_1 ⟨by decide, by decide⟩ ?_
  refine V_putI (ci := 9) (kf := 47) dX9_roomOf_2 fX9_293 rfl rfl s1 ?_
  refine V_iconst dX9_roomOf_5 ⟨by decide, by decide⟩ ?_
  refine V_aload_n (i := 0) dX9_roomOf_6 rfl rfl ?_
  refine V_getI dX9_roomOf_7 fX9_215 rfl s1 ?_
  refine V_topI (jI_ne (by decide)) ?_
  refine V_iadd dX9_roomOf_10 r1 ?_
  refine V_istore (i := 4) dX9_roomOf_11 (by decide) ?_
  refine V_iload_n (i := 3) dX9_roomOf_13 rfl rfl ?_
  refine V_istore (i := 5) dX9_roomOf_14 (by decide) ?_
  refine V_iload_n (i := 1) dX9_roomOf_16 rfl rfl ?_
  refine V_istore (i := 6) dX9_roomOf_17 (by decide) ?_
  exact k1
theorem bX9_roomOf_19 {d : Nat} {Q : Option jA → jH → Prop} (a0 : Nat) (i1 : Int) (i2 : Int) (i3 : Int) (i4 : Int) (i5 : Int) (i6 : Int) (u7 : Option jA) (h : jH)
    (r1 : jR (i1 + i2))
    (s1 : (jS h a0).1 = 9)
    (r2 : ((i1 + i2) ≤ i6) → jR (2 * (jI h a0 47)))
    (r3 : ((i1 + i2) ≤ i6) → jR (i4 + (2 * (jI h a0 47))))
    (q1 : ((i1 + i2) ≤ i6) → Q (some (.inl (i4 + (2 * (jI h a0 47))))) h)
    (s2 : (jS h (jP h a0 43)).1 = 16)
    (s3 : (¬ ((i1 + i2) ≤ i6)) → 0 ≤ i6)
    (s4 : (¬ ((i1 + i2) ≤ i6)) → i6 < ((jS h (jP h a0 43)).2 : Int))
    (r4 : (¬ ((i1 + i2) ≤ i6)) → jR ((jX h (jP h a0 43) ((i6).toNat)) - i5))
    (s5 : (jS h (jP h a0 44)).1 = 16)
    (s6 : (¬ ((i1 + i2) ≤ i6)) → i6 < ((jS h (jP h a0 44)).2 : Int))
    (e1 : (¬ ((i1 + i2) ≤ i6)) → Ex MX9_placeOf d [.inr a0, .inl (jX h (jP h a0 44) ((i6).toNat))] h 0 0 (fun v h2 => V MX9_roomOf (d + 1) 53 [some (.inr a0), some (.inl i1), some (.inl i2), some (.inl i3), some (.inl i4), some (.inl i5), some (.inl i6), some (.inl ((jX h (jP h a0 43) ((i6).toNat)) - i5))] (v.toList ++ [.inl 1, .inl i4]) h2 0 0 Q)) :
    V MX9_roomOf (d + 1) 19 [some (.inr a0), some (.inl i1), some (.inl i2), some (.inl i3), some (.inl i4), some (.inl i5), some (.inl i6), u7] [] h 0 0 Q := by
  refine V_iload (i := 6) dX9_roomOf_19 rfl ?_
  refine V_iload_n (i := 1) dX9_roomOf_21 rfl rfl ?_
  refine V_iload_n (i := 2) dX9_roomOf_22 rfl rfl ?_
  refine V_iadd dX9_roomOf_23 r1 ?_
  refine V_icmp_ge (tgt := 103) dX9_roomOf_24 (by decide) (fun c1 => ?_) (fun c1 => ?_)
  · refine V_iload (i := 4) dX9_roomOf_103 rfl ?_
    refine V_iconst dX9_roomOf_105 ⟨by decide, by decide⟩ ?_
    refine V_aload_n (i := 0) dX9_roomOf_106 rfl rfl ?_
    refine V_getI dX9_roomOf_107 fX9_293 rfl s1 ?_
    refine V_imul dX9_roomOf_110 (r2 c1) ?_
    refine V_iadd dX9_roomOf_111 (r3 c1) ?_
    exact V_reti rfl dX9_roomOf_112 (q1 c1)
  · refine V_aload_n (i := 0) dX9_roomOf_27 rfl rfl ?_
    refine V_getP dX9_roomOf_28 fX9_80 rfl s1 ?_
    refine V_iload (i := 6) dX9_roomOf_31 rfl ?_
    refine V_iald dX9_roomOf_33 s2 (s3 c1) (s4 c1) ?_
    refine V_iload (i := 5) dX9_roomOf_34 rfl ?_
    refine V_isub dX9_roomOf_36 (r4 c1) ?_
    refine V_istore (i := 7) dX9_roomOf_37 (by decide) ?_
    refine V_iload (i := 4) dX9_roomOf_39 rfl ?_
    refine V_iconst dX9_roomOf_41 ⟨by decide, by decide⟩ ?_
    refine V_aload_n (i := 0) dX9_roomOf_42 rfl rfl ?_
    refine V_aload_n (i := 0) dX9_roomOf_43 rfl rfl ?_
    refine V_getP dX9_roomOf_44 fX9_83 rfl s1 ?_
    refine V_iload (i := 6) dX9_roomOf_47 rfl ?_
    refine V_iald dX9_roomOf_49 s5 (s3 c1) (s6 c1) ?_
    exact V_callV (M := MX9_roomOf) (d := (d + 1)) (mc' := 0) (ms' := 0) (mc := 0) (ms := 0) (As := [.inl (jX h (jP h a0 44) ((i6).toNat))]) (rest := [.inl 1, .inl i4]) dX9_roomOf_50 tX9_placeOf vX9_placeOf lX9_296 s1 ⟨by decide, rfl⟩ rfl rfl (Nat.le_of_ble_eq_true rfl) (show d + 1 ≤ (d + 1) by omega) (e1 c1)
theorem bX9_roomOf_62 {d : Nat} {Q : Option jA → jH → Prop} (a0 : Nat) (i1 : Int) (i2 : Int) (i3 : Int) (i4 : Int) (i5 : Int) (i6 : Int) (i7 : Int) (p0 : Int) (p1 : Int) (p2 : Int) (h : jH)
    (r1 : jR (p1 + p0))
    (k1 : (i7 ≠ 0) → (16 ≤ i7) → V MX9_roomOf (d + 1) 84 [some (.inr a0), some (.inl i1), some (.inl i2), some (.inl i3), some (.inl i4), some (.inl i5), some (.inl i6), some (.inl i7)] [.inl 2, .inl (p1 + p0), .inl p2] h 0 0 Q)
    (k2 : (i7 ≠ 0) → (¬ (16 ≤ i7)) → V MX9_roomOf (d + 1) 84 [some (.inr a0), some (.inl i1), some (.inl i2), some (.inl i3), some (.inl i4), some (.inl i5), some (.inl i6), some (.inl i7)] [.inl 1, .inl (p1 + p0), .inl p2] h 0 0 Q)
    (k3 : (i7 = 0) → V MX9_roomOf (d + 1) 84 [some (.inr a0), some (.inl i1), some (.inl i2), some (.inl i3), some (.inl i4), some (.inl i5), some (.inl i6), some (.inl i7)] [.inl 0, .inl (p1 + p0), .inl p2] h 0 0 Q) :
    V MX9_roomOf (d + 1) 62 [some (.inr a0), some (.inl i1), some (.inl i2), some (.inl i3), some (.inl i4), some (.inl i5), some (.inl i6), some (.inl i7)] [.inl p0, .inl p1, .inl p2] h 0 0 Q := by
  refine V_iadd dX9_roomOf_62 r1 ?_
  refine V_iload (i := 7) dX9_roomOf_63 rfl ?_
  refine V_if_ne (tgt := 72) dX9_roomOf_65 (by decide) (fun c1 => ?_) (fun c1 => ?_)
  · refine V_iload (i := 7) dX9_roomOf_72 rfl ?_
    refine V_bipush dX9_roomOf_74 (by decide +kernel) ⟨by decide, by decide⟩ ?_
    refine V_icmp_ge (tgt := 83) dX9_roomOf_76 (by decide) (fun c2 => ?_) (fun c2 => ?_)
    · refine V_iconst dX9_roomOf_83 ⟨by decide, by decide⟩ ?_
      exact (k1 c1 c2)
    · refine V_iconst dX9_roomOf_79 ⟨by decide, by decide⟩ ?_
      refine V_goto (tgt := 84) dX9_roomOf_80 (by decide) ?_
      exact (k2 c1 c2)
  · refine V_iconst dX9_roomOf_68 ⟨by decide, by decide⟩ ?_
    refine V_goto (tgt := 84) dX9_roomOf_69 (by decide) ?_
    exact (k3 c1)
theorem bX9_roomOf_84 {d : Nat} {Q : Option jA → jH → Prop} (a0 : Nat) (i1 : Int) (i2 : Int) (i3 : Int) (i4 : Int) (i5 : Int) (i6 : Int) (i7 : Int) (p0 : Int) (p1 : Int) (p2 : Int) (h : jH)
    (r1 : jR (p1 + p0))
    (r2 : jR (p2 + (p1 + p0)))
    (s1 : (jS h a0).1 = 9)
    (s2 : (jS h (jP h a0 43)).1 = 16)
    (s3 : 0 ≤ i6)
    (s4 : i6 < ((jS h (jP h a0 43)).2 : Int))
    (r3 : jR (i6 + 1))
    (k1 : V MX9_roomOf (d + 1) 19 [some (.inr a0), some (.inl i1), some (.inl i2), some (.inl i3), some (.inl (p2 + (p1 + p0))), some (.inl (jX h (jP h a0 43) ((i6).toNat))), some (.inl (i6 + 1)), some (.inl i7)] [] h 0 0 Q) :
    V MX9_roomOf (d + 1) 84 [some (.inr a0), some (.inl i1), some (.inl i2), some (.inl i3), some (.inl i4), some (.inl i5), some (.inl i6), some (.inl i7)] [.inl p0, .inl p1, .inl p2] h 0 0 Q := by
  refine V_iadd dX9_roomOf_84 r1 ?_
  refine V_iadd dX9_roomOf_85 r2 ?_
  refine V_istore (i := 4) dX9_roomOf_86 (by decide) ?_
  refine V_aload_n (i := 0) dX9_roomOf_88 rfl rfl ?_
  refine V_getP dX9_roomOf_89 fX9_80 rfl s1 ?_
  refine V_iload (i := 6) dX9_roomOf_92 rfl ?_
  refine V_iald dX9_roomOf_94 s2 s3 s4 ?_
  refine V_istore (i := 5) dX9_roomOf_95 (by decide) ?_
  refine V_iinc (i := 6) dX9_roomOf_97 rfl (by decide) r3 ?_
  refine V_goto (tgt := 19) dX9_roomOf_100 (by decide) ?_
  exact k1
theorem bX9_roomOf_53 {d : Nat} {Q : Option jA → jH → Prop} (a0 : Nat) (i1 : Int) (i2 : Int) (i3 : Int) (i4 : Int) (i5 : Int) (i6 : Int) (i7 : Int) (p0 : Int) (p1 : Int) (p2 : Int) (h : jH)
    (k1 : (p0 ≤ 1) → V MX9_roomOf (d + 1) 62 [some (.inr a0), some (.inl i1), some (.inl i2), some (.inl i3), some (.inl i4), some (.inl i5), some (.inl i6), some (.inl i7)] [.inl 0, .inl p1, .inl p2] h 0 0 Q)
    (k2 : (¬ (p0 ≤ 1)) → V MX9_roomOf (d + 1) 62 [some (.inr a0), some (.inl i1), some (.inl i2), some (.inl i3), some (.inl i4), some (.inl i5), some (.inl i6), some (.inl i7)] [.inl 1, .inl p1, .inl p2] h 0 0 Q) :
    V MX9_roomOf (d + 1) 53 [some (.inr a0), some (.inl i1), some (.inl i2), some (.inl i3), some (.inl i4), some (.inl i5), some (.inl i6), some (.inl i7)] [.inl p0, .inl p1, .inl p2] h 0 0 Q := by
  refine V_iconst dX9_roomOf_53 ⟨by decide, by decide⟩ ?_
  refine V_icmp_le (tgt := 61) dX9_roomOf_54 (by decide) (fun c1 => ?_) (fun c1 => ?_)
  · refine V_iconst dX9_roomOf_61 ⟨by decide, by decide⟩ ?_
    exact (k1 c1)
  · refine V_iconst dX9_roomOf_57 ⟨by decide, by decide⟩ ?_
    refine V_goto (tgt := 62) dX9_roomOf_58 (by decide) ?_
    exact (k2 c1)
theorem dX9_roomOfBlock_0 : decode cX9_roomOfBlock 0 = .ok (.aload_n 0, 1) := by decide +kernel
theorem dX9_roomOfBlock_1 : decode cX9_roomOfBlock 1 = .ok (.iconst 0, 1) := by decide +kernel
theorem dX9_roomOfBlock_2 : decode cX9_roomOfBlock 2 = .ok (.putfield 290, 3) := by decide +kernel
theorem dX9_roomOfBlock_5 : decode cX9_roomOfBlock 5 = .ok (.aload_n 0, 1) := by decide +kernel
theorem dX9_roomOfBlock_6 : decode cX9_roomOfBlock 6 = .ok (.iload_n 1, 1) := by decide +kernel
theorem dX9_roomOfBlock_7 : decode cX9_roomOfBlock 7 = .ok (.invokevirtual 299, 3) := by decide +kernel
theorem dX9_roomOfBlock_10 : decode cX9_roomOfBlock 10 = .ok (.aload_n 0, 1) := by decide +kernel
theorem dX9_roomOfBlock_11 : decode cX9_roomOfBlock 11 = .ok (.iconst 0, 1) := by decide +kernel
theorem dX9_roomOfBlock_12 : decode cX9_roomOfBlock 12 = .ok (.aload_n 0, 1) := by decide +kernel
theorem dX9_roomOfBlock_13 : decode cX9_roomOfBlock 13 = .ok (.getfield 290, 3) := by decide +kernel
theorem dX9_roomOfBlock_16 : decode cX9_roomOfBlock 16 = .ok (.aload_n 0, 1) := by decide +kernel
theorem dX9_roomOfBlock_17 : decode cX9_roomOfBlock 17 = .ok (.getfield 25, 3) := by decide +kernel
theorem dX9_roomOfBlock_20 : decode cX9_roomOfBlock 20 = .ok (.iload_n 1, 1) := by decide +kernel
theorem dX9_roomOfBlock_21 : decode cX9_roomOfBlock 21 = .ok (.invokestatic 256, 3) := by decide +kernel
theorem dX9_roomOfBlock_24 : decode cX9_roomOfBlock 24 = .ok (.iaload, 1) := by decide +kernel
theorem dX9_roomOfBlock_25 : decode cX9_roomOfBlock 25 = .ok (.invokevirtual 302, 3) := by decide +kernel
theorem dX9_roomOfBlock_28 : decode cX9_roomOfBlock 28 = .ok (.ireturn, 1) := by decide +kernel
theorem bX9_roomOfBlock_0 {d : Nat} {Q : Option jA → jH → Prop} (a0 : Nat) (i1 : Int) (h : jH)
    (s1 : (jS h a0).1 = 9)
    (e1 : Ex MX9_addsRow (d + 1) [.inr a0, .inl i1] (jsI h a0 45 0) 0 0 (fun v h2 => V MX9_roomOfBlock (d + 2) 10 [some (.inr a0), some (.inl i1)] (v.toList ++ []) h2 0 0 Q)) :
    V MX9_roomOfBlock (d + 2) 0 [some (.inr a0), some (.inl i1)] [] h 0 0 Q := by
  refine V_aload_n (i := 0) dX9_roomOfBlock_0 rfl rfl ?_
  refine V_iconst dX9_roomOfBlock_1 ⟨by decide, by decide⟩ ?_
  refine V_putI (ci := 9) (kf := 45) dX9_roomOfBlock_2 fX9_290 rfl rfl s1 ?_
  refine V_aload_n (i := 0) dX9_roomOfBlock_5 rfl rfl ?_
  refine V_iload_n (i := 1) dX9_roomOfBlock_6 rfl rfl ?_
  exact V_callV (M := MX9_roomOfBlock) (d := (d + 2)) (mc' := 0) (ms' := 0) (mc := 0) (ms := 0) (As := [.inl i1]) (rest := []) dX9_roomOfBlock_7 tX9_addsRow vX9_addsRow lX9_299 s1 ⟨by decide, rfl⟩ rfl rfl (Nat.le_of_ble_eq_true rfl) (show (d + 1) + 1 ≤ (d + 2) by omega) e1
theorem bX9_roomOfBlock_10 {d : Nat} {Q : Option jA → jH → Prop} (a0 : Nat) (i1 : Int) (h : jH)
    (s1 : (jS h a0).1 = 9)
    (s2 : 0 ≤ i1)
    (s3 : i1 ≤ 6)
    (s4 : (jS h (jP h a0 9)).1 = 16)
    (s5 : 0 ≤ 11 + (33 * i1))
    (s6 : 11 + (33 * i1) < ((jS h (jP h a0 9)).2 : Int))
    (e1 : Ex MX9_roomOf (d + 1) [.inr a0, .inl 0, .inl (jI h a0 45), .inl (jX h (jP h a0 9) ((11 + (33 * i1)).toNat))] h 0 0 (fun v h2 => V MX9_roomOfBlock (d + 2) 28 [some (.inr a0), some (.inl i1)] (v.toList ++ []) h2 0 0 Q)) :
    V MX9_roomOfBlock (d + 2) 10 [some (.inr a0), some (.inl i1)] [] h 0 0 Q := by
  refine V_aload_n (i := 0) dX9_roomOfBlock_10 rfl rfl ?_
  refine V_iconst dX9_roomOfBlock_11 ⟨by decide, by decide⟩ ?_
  refine V_aload_n (i := 0) dX9_roomOfBlock_12 rfl rfl ?_
  refine V_getI dX9_roomOfBlock_13 fX9_290 rfl s1 ?_
  refine V_aload_n (i := 0) dX9_roomOfBlock_16 rfl rfl ?_
  refine V_getP dX9_roomOfBlock_17 fX9_25 rfl s1 ?_
  refine V_iload_n (i := 1) dX9_roomOfBlock_20 rfl rfl ?_
  refine V_callS (M := MX9_roomOfBlock) (d := (d + 2)) (mc' := 0) (ms' := 0) (mc := 0) (ms := 0) (a := 0) (As := [.inl i1]) (rest := [.inr (jP h a0 9), .inl (jI h a0 45), .inl 0, .inr a0]) dX9_roomOfBlock_21 tX9_block0 sX9_block0 lX9_256 rfl rfl (Nat.le_of_ble_eq_true rfl) (show d + 1 ≤ (d + 2) by omega) (Ex.mono (pX9_block0 (d := d) s2 s3) ?_)
  intro v h2 hq
  rw [hq.1, hq.2]
  show V MX9_roomOfBlock (d + 2) 24 [some (.inr a0), some (.inl i1)] [.inl (11 + (33 * i1)), .inr (jP h a0 9), .inl (jI h a0 45), .inl 0, .inr a0] h 0 0 Q
  refine V_iald dX9_roomOfBlock_24 s4 s5 s6 ?_
  exact V_callV (M := MX9_roomOfBlock) (d := (d + 2)) (mc' := 0) (ms' := 0) (mc := 0) (ms := 0) (As := [.inl 0, .inl (jI h a0 45), .inl (jX h (jP h a0 9) ((11 + (33 * i1)).toNat))]) (rest := []) dX9_roomOfBlock_25 tX9_roomOf vX9_roomOf lX9_302 s1 ⟨by decide, rfl⟩ rfl rfl (Nat.le_of_ble_eq_true rfl) (show (d + 1) + 1 ≤ (d + 2) by omega) e1
theorem bX9_roomOfBlock_28 {d : Nat} {Q : Option jA → jH → Prop} (a0 : Nat) (i1 : Int) (p0 : Int) (h : jH)
    (q1 : Q (some (.inl p0)) h) :
    V MX9_roomOfBlock (d + 2) 28 [some (.inr a0), some (.inl i1)] [.inl p0] h 0 0 Q := by
  exact V_reti rfl dX9_roomOfBlock_28 q1
theorem dX9_block_0 : decode cX9_block 0 = .ok (.aload_n 0, 1) := by decide +kernel
theorem dX9_block_1 : decode cX9_block 1 = .ok (.iload_n 1, 1) := by decide +kernel
theorem dX9_block_2 : decode cX9_block 2 = .ok (.invokevirtual 305, 3) := by decide +kernel
theorem dX9_block_5 : decode cX9_block 5 = .ok (.ifCond .eq 12, 3) := by decide +kernel
theorem dX9_block_8 : decode cX9_block 8 = .ok (.iload_n 2, 1) := by decide +kernel
theorem dX9_block_9 : decode cX9_block 9 = .ok (.iconst 0, 1) := by decide +kernel
theorem dX9_block_10 : decode cX9_block 10 = .ok (.iconst 4, 1) := by decide +kernel
theorem dX9_block_11 : decode cX9_block 11 = .ok (.invokestatic 95, 3) := by decide +kernel
theorem dX9_block_14 : decode cX9_block 14 = .ok (.ifCond .ne 5, 3) := by decide +kernel
theorem dX9_block_17 : decode cX9_block 17 = .ok (.iconst (-1), 1) := by decide +kernel
theorem dX9_block_18 : decode cX9_block 18 = .ok (.ireturn, 1) := by decide +kernel
theorem dX9_block_19 : decode cX9_block 19 = .ok (.iload_n 2, 1) := by decide +kernel
theorem dX9_block_20 : decode cX9_block 20 = .ok (.iconst 3, 1) := by decide +kernel
theorem dX9_block_21 : decode cX9_block 21 = .ok (.if_icmp .ge 15, 3) := by decide +kernel
theorem dX9_block_24 : decode cX9_block 24 = .ok (.aload_n 0, 1) := by decide +kernel
theorem dX9_block_25 : decode cX9_block 25 = .ok (.getfield 25, 3) := by decide +kernel
theorem dX9_block_28 : decode cX9_block 28 = .ok (.iload_n 1, 1) := by decide +kernel
theorem dX9_block_29 : decode cX9_block 29 = .ok (.invokestatic 256, 3) := by decide +kernel
theorem dX9_block_32 : decode cX9_block 32 = .ok (.iload_n 2, 1) := by decide +kernel
theorem dX9_block_33 : decode cX9_block 33 = .ok (.iadd, 1) := by decide +kernel
theorem dX9_block_34 : decode cX9_block 34 = .ok (.iaload, 1) := by decide +kernel
theorem dX9_block_35 : decode cX9_block 35 = .ok (.ireturn, 1) := by decide +kernel
theorem dX9_block_36 : decode cX9_block 36 = .ok (.aload_n 0, 1) := by decide +kernel
theorem dX9_block_37 : decode cX9_block 37 = .ok (.iload_n 1, 1) := by decide +kernel
theorem dX9_block_38 : decode cX9_block 38 = .ok (.invokevirtual 308, 3) := by decide +kernel
theorem dX9_block_41 : decode cX9_block 41 = .ok (.istore_n 3, 1) := by decide +kernel
theorem dX9_block_42 : decode cX9_block 42 = .ok (.iload_n 2, 1) := by decide +kernel
theorem dX9_block_43 : decode cX9_block 43 = .ok (.iconst 3, 1) := by decide +kernel
theorem dX9_block_44 : decode cX9_block 44 = .ok (.if_icmp .ne 10, 3) := by decide +kernel
theorem dX9_block_47 : decode cX9_block 47 = .ok (.aload_n 0, 1) := by decide +kernel
theorem dX9_block_48 : decode cX9_block 48 = .ok (.getfield 293, 3) := by decide +kernel
theorem dX9_block_51 : decode cX9_block 51 = .ok (.goto 4, 3) := by decide +kernel
theorem dX9_block_54 : decode cX9_block 54 = .ok (.iload_n 3, 1) := by decide +kernel
theorem dX9_block_55 : decode cX9_block 55 = .ok (.ireturn, 1) := by decide +kernel
theorem bX9_block_0 {d : Nat} {Q : Option jA → jH → Prop} (a0 : Nat) (i1 : Int) (i2 : Int) (u3 : Option jA) (h : jH)
    (s1 : (jS h a0).1 = 9)
    (s2 : (jS h (jP h a0 9)).1 = 16)
    (s3 : (jS h (jP h a0 9)).2 = 209)
    (s4 : 0 ≤ jX h (jP h a0 9) 3)
    (s5 : jX h (jP h a0 9) 3 ≤ 6)
    (q1 : (¬ (0 ≤ i1 ∧ i1 ≤ (jX h (jP h a0 9) 3) - 1)) → Q (some (.inl ((-1)))) h)
    (e1 : (0 ≤ i1 ∧ i1 ≤ (jX h (jP h a0 9) 3) - 1) → (0 ≤ i2 ∧ i2 ≤ 4) → (3 ≤ i2) → Ex MX9_roomOfBlock (d + 2) [.inr a0, .inl i1] h 0 0 (fun v h2 => V MX9_block (d + 3) 41 [some (.inr a0), some (.inl i1), some (.inl i2), u3] (v.toList ++ []) h2 0 0 Q))
    (s6 : (0 ≤ i1 ∧ i1 ≤ (jX h (jP h a0 9) 3) - 1) → (0 ≤ i2 ∧ i2 ≤ 4) → (¬ (3 ≤ i2)) → 0 ≤ i1)
    (s7 : (0 ≤ i1 ∧ i1 ≤ (jX h (jP h a0 9) 3) - 1) → (0 ≤ i2 ∧ i2 ≤ 4) → (¬ (3 ≤ i2)) → i1 ≤ 6)
    (r1 : (0 ≤ i1 ∧ i1 ≤ (jX h (jP h a0 9) 3) - 1) → (0 ≤ i2 ∧ i2 ≤ 4) → (¬ (3 ≤ i2)) → jR ((11 + (33 * i1)) + i2))
    (s8 : (0 ≤ i1 ∧ i1 ≤ (jX h (jP h a0 9) 3) - 1) → (0 ≤ i2 ∧ i2 ≤ 4) → (¬ (3 ≤ i2)) → 0 ≤ (11 + (33 * i1)) + i2)
    (s9 : (0 ≤ i1 ∧ i1 ≤ (jX h (jP h a0 9) 3) - 1) → (0 ≤ i2 ∧ i2 ≤ 4) → (¬ (3 ≤ i2)) → (11 + (33 * i1)) + i2 < ((jS h (jP h a0 9)).2 : Int))
    (q2 : (0 ≤ i1 ∧ i1 ≤ (jX h (jP h a0 9) 3) - 1) → (0 ≤ i2 ∧ i2 ≤ 4) → (¬ (3 ≤ i2)) → Q (some (.inl (jX h (jP h a0 9) (((11 + (33 * i1)) + i2).toNat)))) h)
    (q3 : (0 ≤ i1 ∧ i1 ≤ (jX h (jP h a0 9) 3) - 1) → (¬ (0 ≤ i2 ∧ i2 ≤ 4)) → Q (some (.inl ((-1)))) h) :
    V MX9_block (d + 3) 0 [some (.inr a0), some (.inl i1), some (.inl i2), u3] [] h 0 0 Q := by
  refine V_aload_n (i := 0) dX9_block_0 rfl rfl ?_
  refine V_iload_n (i := 1) dX9_block_1 rfl rfl ?_
  refine V_callV (M := MX9_block) (d := (d + 3)) (mc' := 0) (ms' := 0) (mc := 0) (ms := 0) (As := [.inl i1]) (rest := []) dX9_block_2 tX9_isBlock vX9_isBlock lX9_305 s1 ⟨by decide, rfl⟩ rfl rfl (Nat.le_of_ble_eq_true rfl) (show (d + 1) + 1 ≤ (d + 3) by omega) (Ex.mono (pX9_isBlock (d := d) s1 s2 s3 s4 s5) ?_)
  intro v h2 hq
  rw [hq.1, hq.2]
  show V MX9_block (d + 3) 5 [some (.inr a0), some (.inl i1), some (.inl i2), u3] [.inl (jb (0 ≤ i1 ∧ i1 ≤ (jX h (jP h a0 9) 3) - 1))] h 0 0 Q
  refine V_ifb_eq (tgt := 17) dX9_block_5 (by decide) (fun c1 => ?_) (fun c1 => ?_)
  · refine V_iconst dX9_block_17 ⟨by decide, by decide⟩ ?_
    exact V_reti rfl dX9_block_18 (q1 c1)
  · refine V_iload_n (i := 2) dX9_block_8 rfl rfl ?_
    refine V_iconst dX9_block_9 ⟨by decide, by decide⟩ ?_
    refine V_iconst dX9_block_10 ⟨by decide, by decide⟩ ?_
    refine V_callS (M := MX9_block) (d := (d + 3)) (mc' := 0) (ms' := 0) (mc := 0) (ms := 0) (a := 0) (As := [.inl i2, .inl 0, .inl 4]) (rest := []) dX9_block_11 tX9_in sX9_in lX9_95 rfl rfl (Nat.le_of_ble_eq_true rfl) (show d + 1 ≤ (d + 3) by omega) (Ex.mono (pX9_in (d := d) ) ?_)
    intro v h2 hq
    rw [hq.1, hq.2]
    show V MX9_block (d + 3) 14 [some (.inr a0), some (.inl i1), some (.inl i2), u3] [.inl (jb (0 ≤ i2 ∧ i2 ≤ 4))] h 0 0 Q
    refine V_ifb_ne (tgt := 19) dX9_block_14 (by decide) (fun c2 => ?_) (fun c2 => ?_)
    · refine V_iload_n (i := 2) dX9_block_19 rfl rfl ?_
      refine V_iconst dX9_block_20 ⟨by decide, by decide⟩ ?_
      refine V_icmp_ge (tgt := 36) dX9_block_21 (by decide) (fun c3 => ?_) (fun c3 => ?_)
      · refine V_aload_n (i := 0) dX9_block_36 rfl rfl ?_
        refine V_iload_n (i := 1) dX9_block_37 rfl rfl ?_
        exact V_callV (M := MX9_block) (d := (d + 3)) (mc' := 0) (ms' := 0) (mc := 0) (ms := 0) (As := [.inl i1]) (rest := []) dX9_block_38 tX9_roomOfBlock vX9_roomOfBlock lX9_308 s1 ⟨by decide, rfl⟩ rfl rfl (Nat.le_of_ble_eq_true rfl) (show (d + 2) + 1 ≤ (d + 3) by omega) (e1 c1 c2 c3)
      · refine V_aload_n (i := 0) dX9_block_24 rfl rfl ?_
        refine V_getP dX9_block_25 fX9_25 rfl s1 ?_
        refine V_iload_n (i := 1) dX9_block_28 rfl rfl ?_
        refine V_callS (M := MX9_block) (d := (d + 3)) (mc' := 0) (ms' := 0) (mc := 0) (ms := 0) (a := 0) (As := [.inl i1]) (rest := [.inr (jP h a0 9)]) dX9_block_29 tX9_block0 sX9_block0 lX9_256 rfl rfl (Nat.le_of_ble_eq_true rfl) (show d + 1 ≤ (d + 3) by omega) (Ex.mono (pX9_block0 (d := d) (s6 c1 c2 c3) (s7 c1 c2 c3)) ?_)
        intro v h2 hq
        rw [hq.1, hq.2]
        show V MX9_block (d + 3) 32 [some (.inr a0), some (.inl i1), some (.inl i2), u3] [.inl (11 + (33 * i1)), .inr (jP h a0 9)] h 0 0 Q
        refine V_iload_n (i := 2) dX9_block_32 rfl rfl ?_
        refine V_iadd dX9_block_33 (r1 c1 c2 c3) ?_
        refine V_iald dX9_block_34 s2 (s8 c1 c2 c3) (s9 c1 c2 c3) ?_
        exact V_reti rfl dX9_block_35 (q2 c1 c2 c3)
    · refine V_iconst dX9_block_17 ⟨by decide, by decide⟩ ?_
      exact V_reti rfl dX9_block_18 (q3 c1 c2)
theorem bX9_block_41 {d : Nat} {Q : Option jA → jH → Prop} (a0 : Nat) (i1 : Int) (i2 : Int) (u3 : Option jA) (p0 : Int) (h : jH)
    (q1 : (i2 ≠ 3) → Q (some (.inl p0)) h)
    (s1 : (jS h a0).1 = 9)
    (q2 : (i2 = 3) → Q (some (.inl (jI h a0 47))) h) :
    V MX9_block (d + 3) 41 [some (.inr a0), some (.inl i1), some (.inl i2), u3] [.inl p0] h 0 0 Q := by
  refine V_istore_n (i := 3) dX9_block_41 rfl (by decide) ?_
  refine V_iload_n (i := 2) dX9_block_42 rfl rfl ?_
  refine V_iconst dX9_block_43 ⟨by decide, by decide⟩ ?_
  refine V_icmp_ne (tgt := 54) dX9_block_44 (by decide) (fun c1 => ?_) (fun c1 => ?_)
  · refine V_iload_n (i := 3) dX9_block_54 rfl rfl ?_
    exact V_reti rfl dX9_block_55 (q1 c1)
  · refine V_aload_n (i := 0) dX9_block_47 rfl rfl ?_
    refine V_getI dX9_block_48 fX9_293 rfl s1 ?_
    refine V_goto (tgt := 55) dX9_block_51 (by decide) ?_
    exact V_reti rfl dX9_block_55 (q2 c1)
theorem dX9_frame_0 : decode cX9_frame 0 = .ok (.aload_n 0, 1) := by decide +kernel
theorem dX9_frame_1 : decode cX9_frame 1 = .ok (.iload_n 1, 1) := by decide +kernel
theorem dX9_frame_2 : decode cX9_frame 2 = .ok (.invokevirtual 305, 3) := by decide +kernel
theorem dX9_frame_5 : decode cX9_frame 5 = .ok (.ifCond .eq 32, 3) := by decide +kernel
theorem dX9_frame_8 : decode cX9_frame 8 = .ok (.aload_n 0, 1) := by decide +kernel
theorem dX9_frame_9 : decode cX9_frame 9 = .ok (.iload_n 2, 1) := by decide +kernel
theorem dX9_frame_10 : decode cX9_frame 10 = .ok (.invokevirtual 259, 3) := by decide +kernel
theorem dX9_frame_13 : decode cX9_frame 13 = .ok (.ifCond .eq 24, 3) := by decide +kernel
theorem dX9_frame_16 : decode cX9_frame 16 = .ok (.aload_n 0, 1) := by decide +kernel
theorem dX9_frame_17 : decode cX9_frame 17 = .ok (.getfield 25, 3) := by decide +kernel
theorem dX9_frame_20 : decode cX9_frame 20 = .ok (.iload_n 1, 1) := by decide +kernel
theorem dX9_frame_21 : decode cX9_frame 21 = .ok (.invokestatic 256, 3) := by decide +kernel
theorem dX9_frame_24 : decode cX9_frame 24 = .ok (.iconst 3, 1) := by decide +kernel
theorem dX9_frame_25 : decode cX9_frame 25 = .ok (.iadd, 1) := by decide +kernel
theorem dX9_frame_26 : decode cX9_frame 26 = .ok (.aload_n 0, 1) := by decide +kernel
theorem dX9_frame_27 : decode cX9_frame 27 = .ok (.iload_n 2, 1) := by decide +kernel
theorem dX9_frame_28 : decode cX9_frame 28 = .ok (.iconst 5, 1) := by decide +kernel
theorem dX9_frame_29 : decode cX9_frame 29 = .ok (.invokevirtual 233, 3) := by decide +kernel
theorem dX9_frame_32 : decode cX9_frame 32 = .ok (.iadd, 1) := by decide +kernel
theorem dX9_frame_33 : decode cX9_frame 33 = .ok (.iaload, 1) := by decide +kernel
theorem dX9_frame_34 : decode cX9_frame 34 = .ok (.goto 4, 3) := by decide +kernel
theorem dX9_frame_37 : decode cX9_frame 37 = .ok (.iconst (-1), 1) := by decide +kernel
theorem dX9_frame_38 : decode cX9_frame 38 = .ok (.ireturn, 1) := by decide +kernel
theorem bX9_frame_0 {d : Nat} {Q : Option jA → jH → Prop} (a0 : Nat) (i1 : Int) (i2 : Int) (h : jH)
    (s1 : (jS h a0).1 = 9)
    (s2 : (jS h (jP h a0 9)).1 = 16)
    (s3 : (jS h (jP h a0 9)).2 = 209)
    (s4 : 0 ≤ jX h (jP h a0 9) 3)
    (s5 : jX h (jP h a0 9) 3 ≤ 6)
    (q1 : (¬ (0 ≤ i1 ∧ i1 ≤ (jX h (jP h a0 9) 3) - 1)) → Q (some (.inl ((-1)))) h)
    (s6 : (jS h (jP h a0 0)).1 = 16)
    (s7 : (jS h (jP h a0 0)).2 = 72)
    (s8 : (0 ≤ i1 ∧ i1 ≤ (jX h (jP h a0 9) 3) - 1) → 0 ≤ jI h a0 1)
    (s9 : (0 ≤ i1 ∧ i1 ≤ (jX h (jP h a0 9) 3) - 1) → jI h a0 1 ≤ 12)
    (q2 : (0 ≤ i1 ∧ i1 ≤ (jX h (jP h a0 9) 3) - 1) → (¬ (0 ≤ i2 ∧ i2 ≤ (jI h a0 1) - 1 ∧ (jX h (jP h a0 0) (((6 * i2) + 0).toNat)) = 0)) → Q (some (.inl ((-1)))) h)
    (s10 : (0 ≤ i1 ∧ i1 ≤ (jX h (jP h a0 9) 3) - 1) → (0 ≤ i2 ∧ i2 ≤ (jI h a0 1) - 1 ∧ (jX h (jP h a0 0) (((6 * i2) + 0).toNat)) = 0) → 0 ≤ i1)
    (s11 : (0 ≤ i1 ∧ i1 ≤ (jX h (jP h a0 9) 3) - 1) → (0 ≤ i2 ∧ i2 ≤ (jI h a0 1) - 1 ∧ (jX h (jP h a0 0) (((6 * i2) + 0).toNat)) = 0) → i1 ≤ 6)
    (r1 : (0 ≤ i1 ∧ i1 ≤ (jX h (jP h a0 9) 3) - 1) → (0 ≤ i2 ∧ i2 ≤ (jI h a0 1) - 1 ∧ (jX h (jP h a0 0) (((6 * i2) + 0).toNat)) = 0) → jR ((11 + (33 * i1)) + 3))
    (s12 : (0 ≤ i1 ∧ i1 ≤ (jX h (jP h a0 9) 3) - 1) → (0 ≤ i2 ∧ i2 ≤ (jI h a0 1) - 1 ∧ (jX h (jP h a0 0) (((6 * i2) + 0).toNat)) = 0) → 0 ≤ i2)
    (s13 : (0 ≤ i1 ∧ i1 ≤ (jX h (jP h a0 9) 3) - 1) → (0 ≤ i2 ∧ i2 ≤ (jI h a0 1) - 1 ∧ (jX h (jP h a0 0) (((6 * i2) + 0).toNat)) = 0) → i2 < 12)
    (r2 : (0 ≤ i1 ∧ i1 ≤ (jX h (jP h a0 9) 3) - 1) → (0 ≤ i2 ∧ i2 ≤ (jI h a0 1) - 1 ∧ (jX h (jP h a0 0) (((6 * i2) + 0).toNat)) = 0) → jR (((11 + (33 * i1)) + 3) + (jX h (jP h a0 0) (((6 * i2) + 5).toNat))))
    (s14 : (0 ≤ i1 ∧ i1 ≤ (jX h (jP h a0 9) 3) - 1) → (0 ≤ i2 ∧ i2 ≤ (jI h a0 1) - 1 ∧ (jX h (jP h a0 0) (((6 * i2) + 0).toNat)) = 0) → 0 ≤ ((11 + (33 * i1)) + 3) + (jX h (jP h a0 0) (((6 * i2) + 5).toNat)))
    (s15 : (0 ≤ i1 ∧ i1 ≤ (jX h (jP h a0 9) 3) - 1) → (0 ≤ i2 ∧ i2 ≤ (jI h a0 1) - 1 ∧ (jX h (jP h a0 0) (((6 * i2) + 0).toNat)) = 0) → ((11 + (33 * i1)) + 3) + (jX h (jP h a0 0) (((6 * i2) + 5).toNat)) < ((jS h (jP h a0 9)).2 : Int))
    (q3 : (0 ≤ i1 ∧ i1 ≤ (jX h (jP h a0 9) 3) - 1) → (0 ≤ i2 ∧ i2 ≤ (jI h a0 1) - 1 ∧ (jX h (jP h a0 0) (((6 * i2) + 0).toNat)) = 0) → Q (some (.inl (jX h (jP h a0 9) ((((11 + (33 * i1)) + 3) + (jX h (jP h a0 0) (((6 * i2) + 5).toNat))).toNat)))) h) :
    V MX9_frame (d + 3) 0 [some (.inr a0), some (.inl i1), some (.inl i2)] [] h 0 0 Q := by
  refine V_aload_n (i := 0) dX9_frame_0 rfl rfl ?_
  refine V_iload_n (i := 1) dX9_frame_1 rfl rfl ?_
  refine V_callV (M := MX9_frame) (d := (d + 3)) (mc' := 0) (ms' := 0) (mc := 0) (ms := 0) (As := [.inl i1]) (rest := []) dX9_frame_2 tX9_isBlock vX9_isBlock lX9_305 s1 ⟨by decide, rfl⟩ rfl rfl (Nat.le_of_ble_eq_true rfl) (show (d + 1) + 1 ≤ (d + 3) by omega) (Ex.mono (pX9_isBlock (d := d) s1 s2 s3 s4 s5) ?_)
  intro v h2 hq
  rw [hq.1, hq.2]
  show V MX9_frame (d + 3) 5 [some (.inr a0), some (.inl i1), some (.inl i2)] [.inl (jb (0 ≤ i1 ∧ i1 ≤ (jX h (jP h a0 9) 3) - 1))] h 0 0 Q
  refine V_ifb_eq (tgt := 37) dX9_frame_5 (by decide) (fun c1 => ?_) (fun c1 => ?_)
  · refine V_iconst dX9_frame_37 ⟨by decide, by decide⟩ ?_
    exact V_reti rfl dX9_frame_38 (q1 c1)
  · refine V_aload_n (i := 0) dX9_frame_8 rfl rfl ?_
    refine V_iload_n (i := 2) dX9_frame_9 rfl rfl ?_
    refine V_callV (M := MX9_frame) (d := (d + 3)) (mc' := 0) (ms' := 0) (mc := 0) (ms := 0) (As := [.inl i2]) (rest := []) dX9_frame_10 tX9_isWire vX9_isWire lX9_259 s1 ⟨by decide, rfl⟩ rfl rfl (Nat.le_of_ble_eq_true rfl) (show (d + 2) + 1 ≤ (d + 3) by omega) (Ex.mono (pX9_isWire (d := d) s1 s6 s7 (s8 c1) (s9 c1)) ?_)
    intro v h2 hq
    rw [hq.1, hq.2]
    show V MX9_frame (d + 3) 13 [some (.inr a0), some (.inl i1), some (.inl i2)] [.inl (jb (0 ≤ i2 ∧ i2 ≤ (jI h a0 1) - 1 ∧ (jX h (jP h a0 0) (((6 * i2) + 0).toNat)) = 0))] h 0 0 Q
    refine V_ifb_eq (tgt := 37) dX9_frame_13 (by decide) (fun c2 => ?_) (fun c2 => ?_)
    · refine V_iconst dX9_frame_37 ⟨by decide, by decide⟩ ?_
      exact V_reti rfl dX9_frame_38 (q2 c1 c2)
    · refine V_aload_n (i := 0) dX9_frame_16 rfl rfl ?_
      refine V_getP dX9_frame_17 fX9_25 rfl s1 ?_
      refine V_iload_n (i := 1) dX9_frame_20 rfl rfl ?_
      refine V_callS (M := MX9_frame) (d := (d + 3)) (mc' := 0) (ms' := 0) (mc := 0) (ms := 0) (a := 0) (As := [.inl i1]) (rest := [.inr (jP h a0 9)]) dX9_frame_21 tX9_block0 sX9_block0 lX9_256 rfl rfl (Nat.le_of_ble_eq_true rfl) (show d + 1 ≤ (d + 3) by omega) (Ex.mono (pX9_block0 (d := d) (s10 c1 c2) (s11 c1 c2)) ?_)
      intro v h2 hq
      rw [hq.1, hq.2]
      show V MX9_frame (d + 3) 24 [some (.inr a0), some (.inl i1), some (.inl i2)] [.inl (11 + (33 * i1)), .inr (jP h a0 9)] h 0 0 Q
      refine V_iconst dX9_frame_24 ⟨by decide, by decide⟩ ?_
      refine V_iadd dX9_frame_25 (r1 c1 c2) ?_
      refine V_aload_n (i := 0) dX9_frame_26 rfl rfl ?_
      refine V_iload_n (i := 2) dX9_frame_27 rfl rfl ?_
      refine V_iconst dX9_frame_28 ⟨by decide, by decide⟩ ?_
      refine V_callV (M := MX9_frame) (d := (d + 3)) (mc' := 0) (ms' := 0) (mc := 0) (ms := 0) (As := [.inl i2, .inl 5]) (rest := [.inl ((11 + (33 * i1)) + 3), .inr (jP h a0 9)]) dX9_frame_29 tX9_of vX9_of lX9_233 s1 ⟨by decide, rfl⟩ rfl rfl (Nat.le_of_ble_eq_true rfl) (show d + 1 ≤ (d + 3) by omega) (Ex.mono (pX9_of (d := d) s1 s6 s7 (s12 c1 c2) (s13 c1 c2) (by decide) (by decide)) ?_)
      intro v h2 hq
      rw [hq.1, hq.2]
      show V MX9_frame (d + 3) 32 [some (.inr a0), some (.inl i1), some (.inl i2)] [.inl (jX h (jP h a0 0) (((6 * i2) + 5).toNat)), .inl ((11 + (33 * i1)) + 3), .inr (jP h a0 9)] h 0 0 Q
      refine V_iadd dX9_frame_32 (r2 c1 c2) ?_
      refine V_iald dX9_frame_33 s2 (s14 c1 c2) (s15 c1 c2) ?_
      refine V_goto (tgt := 38) dX9_frame_34 (by decide) ?_
      exact V_reti rfl dX9_frame_38 (q3 c1 c2)
theorem dX9_nodeOfWire_0 : decode cX9_nodeOfWire 0 = .ok (.bipush (-9), 2) := by decide +kernel
theorem dX9_nodeOfWire_2 : decode cX9_nodeOfWire 2 = .ok (.istore_n 2, 1) := by decide +kernel
theorem dX9_nodeOfWire_3 : decode cX9_nodeOfWire 3 = .ok (.iconst 0, 1) := by decide +kernel
theorem dX9_nodeOfWire_4 : decode cX9_nodeOfWire 4 = .ok (.istore_n 3, 1) := by decide +kernel
theorem dX9_nodeOfWire_5 : decode cX9_nodeOfWire 5 = .ok (.iload_n 3, 1) := by decide +kernel
theorem dX9_nodeOfWire_6 : decode cX9_nodeOfWire 6 = .ok (.aload_n 0, 1) := by decide +kernel
theorem dX9_nodeOfWire_7 : decode cX9_nodeOfWire 7 = .ok (.getfield 212, 3) := by decide +kernel
theorem dX9_nodeOfWire_10 : decode cX9_nodeOfWire 10 = .ok (.if_icmp .ge 34, 3) := by decide +kernel
theorem dX9_nodeOfWire_13 : decode cX9_nodeOfWire 13 = .ok (.aload_n 0, 1) := by decide +kernel
theorem dX9_nodeOfWire_14 : decode cX9_nodeOfWire 14 = .ok (.iload_n 3, 1) := by decide +kernel
theorem dX9_nodeOfWire_15 : decode cX9_nodeOfWire 15 = .ok (.iconst 0, 1) := by decide +kernel
theorem dX9_nodeOfWire_16 : decode cX9_nodeOfWire 16 = .ok (.invokevirtual 233, 3) := by decide +kernel
theorem dX9_nodeOfWire_19 : decode cX9_nodeOfWire 19 = .ok (.ifCond .ne 17, 3) := by decide +kernel
theorem dX9_nodeOfWire_22 : decode cX9_nodeOfWire 22 = .ok (.aload_n 0, 1) := by decide +kernel
theorem dX9_nodeOfWire_23 : decode cX9_nodeOfWire 23 = .ok (.iload_n 3, 1) := by decide +kernel
theorem dX9_nodeOfWire_24 : decode cX9_nodeOfWire 24 = .ok (.iconst 5, 1) := by decide +kernel
theorem dX9_nodeOfWire_25 : decode cX9_nodeOfWire 25 = .ok (.invokevirtual 233, 3) := by decide +kernel
theorem dX9_nodeOfWire_28 : decode cX9_nodeOfWire 28 = .ok (.iload_n 1, 1) := by decide +kernel
theorem dX9_nodeOfWire_29 : decode cX9_nodeOfWire 29 = .ok (.if_icmp .ne 7, 3) := by decide +kernel
theorem dX9_nodeOfWire_32 : decode cX9_nodeOfWire 32 = .ok (.iload_n 3, 1) := by decide +kernel
theorem dX9_nodeOfWire_33 : decode cX9_nodeOfWire 33 = .ok (.goto 4, 3) := by decide +kernel
theorem dX9_nodeOfWire_36 : decode cX9_nodeOfWire 36 = .ok (.iload_n 2, 1) := by decide +kernel
theorem dX9_nodeOfWire_37 : decode cX9_nodeOfWire 37 = .ok (.istore_n 2, 1) := by decide +kernel
theorem dX9_nodeOfWire_38 : decode cX9_nodeOfWire 38 = .ok (.iinc 3 1, 3) := by decide +kernel
theorem dX9_nodeOfWire_41 : decode cX9_nodeOfWire 41 = .ok (.goto (-36), 3) := by decide +kernel
theorem dX9_nodeOfWire_44 : decode cX9_nodeOfWire 44 = .ok (.iload_n 2, 1) := by decide +kernel
theorem dX9_nodeOfWire_45 : decode cX9_nodeOfWire 45 = .ok (.ireturn, 1) := by decide +kernel
theorem bX9_nodeOfWire_0 {d : Nat} {Q : Option jA → jH → Prop} (a0 : Nat) (i1 : Int) (u2 : Option jA) (u3 : Option jA) (h : jH)
    (k1 : V MX9_nodeOfWire (d + 1) 5 [some (.inr a0), some (.inl i1), some (.inl ((-9))), some (.inl 0)] [] h 0 0 Q) :
    V MX9_nodeOfWire (d + 1) 0 [some (.inr a0), some (.inl i1), u2, u3] [] h 0 0 Q := by
  refine V_bipush dX9_nodeOfWire_0 (by decide +kernel) ⟨by decide, by decide⟩ ?_
  refine V_istore_n (i := 2) dX9_nodeOfWire_2 rfl (by decide) ?_
  refine V_iconst dX9_nodeOfWire_3 ⟨by decide, by decide⟩ ?_
  refine V_istore_n (i := 3) dX9_nodeOfWire_4 rfl (by decide) ?_
  exact k1
theorem bX9_nodeOfWire_5 {d : Nat} {Q : Option jA → jH → Prop} (a0 : Nat) (i1 : Int) (i2 : Int) (i3 : Int) (h : jH)
    (s1 : (jS h a0).1 = 9)
    (q1 : ((jI h a0 1) ≤ i3) → Q (some (.inl i2)) h)
    (s2 : (jS h (jP h a0 0)).1 = 16)
    (s3 : (jS h (jP h a0 0)).2 = 72)
    (s4 : (¬ ((jI h a0 1) ≤ i3)) → 0 ≤ i3)
    (s5 : (¬ ((jI h a0 1) ≤ i3)) → i3 < 12)
    (r1 : (¬ ((jI h a0 1) ≤ i3)) → ((jX h (jP h a0 0) (((6 * i3) + 0).toNat)) ≠ 0) → jR (i3 + 1))
    (k1 : (¬ ((jI h a0 1) ≤ i3)) → ((jX h (jP h a0 0) (((6 * i3) + 0).toNat)) ≠ 0) → V MX9_nodeOfWire (d + 1) 5 [some (.inr a0), some (.inl i1), some (.inl i2), some (.inl (i3 + 1))] [] h 0 0 Q)
    (r2 : (¬ ((jI h a0 1) ≤ i3)) → ((jX h (jP h a0 0) (((6 * i3) + 0).toNat)) = 0) → ((jX h (jP h a0 0) (((6 * i3) + 5).toNat)) ≠ i1) → jR (i3 + 1))
    (k2 : (¬ ((jI h a0 1) ≤ i3)) → ((jX h (jP h a0 0) (((6 * i3) + 0).toNat)) = 0) → ((jX h (jP h a0 0) (((6 * i3) + 5).toNat)) ≠ i1) → V MX9_nodeOfWire (d + 1) 5 [some (.inr a0), some (.inl i1), some (.inl i2), some (.inl (i3 + 1))] [] h 0 0 Q)
    (r3 : (¬ ((jI h a0 1) ≤ i3)) → ((jX h (jP h a0 0) (((6 * i3) + 0).toNat)) = 0) → ((jX h (jP h a0 0) (((6 * i3) + 5).toNat)) = i1) → jR (i3 + 1))
    (k3 : (¬ ((jI h a0 1) ≤ i3)) → ((jX h (jP h a0 0) (((6 * i3) + 0).toNat)) = 0) → ((jX h (jP h a0 0) (((6 * i3) + 5).toNat)) = i1) → V MX9_nodeOfWire (d + 1) 5 [some (.inr a0), some (.inl i1), some (.inl i3), some (.inl (i3 + 1))] [] h 0 0 Q) :
    V MX9_nodeOfWire (d + 1) 5 [some (.inr a0), some (.inl i1), some (.inl i2), some (.inl i3)] [] h 0 0 Q := by
  refine V_iload_n (i := 3) dX9_nodeOfWire_5 rfl rfl ?_
  refine V_aload_n (i := 0) dX9_nodeOfWire_6 rfl rfl ?_
  refine V_getI dX9_nodeOfWire_7 fX9_212 rfl s1 ?_
  refine V_icmp_ge (tgt := 44) dX9_nodeOfWire_10 (by decide) (fun c1 => ?_) (fun c1 => ?_)
  · refine V_iload_n (i := 2) dX9_nodeOfWire_44 rfl rfl ?_
    exact V_reti rfl dX9_nodeOfWire_45 (q1 c1)
  · refine V_aload_n (i := 0) dX9_nodeOfWire_13 rfl rfl ?_
    refine V_iload_n (i := 3) dX9_nodeOfWire_14 rfl rfl ?_
    refine V_iconst dX9_nodeOfWire_15 ⟨by decide, by decide⟩ ?_
    refine V_callV (M := MX9_nodeOfWire) (d := (d + 1)) (mc' := 0) (ms' := 0) (mc := 0) (ms := 0) (As := [.inl i3, .inl 0]) (rest := []) dX9_nodeOfWire_16 tX9_of vX9_of lX9_233 s1 ⟨by decide, rfl⟩ rfl rfl (Nat.le_of_ble_eq_true rfl) (show d + 1 ≤ (d + 1) by omega) (Ex.mono (pX9_of (d := d) s1 s2 s3 (s4 c1) (s5 c1) (by decide) (by decide)) ?_)
    intro v h2 hq
    rw [hq.1, hq.2]
    show V MX9_nodeOfWire (d + 1) 19 [some (.inr a0), some (.inl i1), some (.inl i2), some (.inl i3)] [.inl (jX h (jP h a0 0) (((6 * i3) + 0).toNat))] h 0 0 Q
    refine V_if_ne (tgt := 36) dX9_nodeOfWire_19 (by decide) (fun c2 => ?_) (fun c2 => ?_)
    · refine V_iload_n (i := 2) dX9_nodeOfWire_36 rfl rfl ?_
      refine V_istore_n (i := 2) dX9_nodeOfWire_37 rfl (by decide) ?_
      refine V_iinc (i := 3) dX9_nodeOfWire_38 rfl (by decide) (r1 c1 c2) ?_
      refine V_goto (tgt := 5) dX9_nodeOfWire_41 (by decide) ?_
      exact (k1 c1 c2)
    · refine V_aload_n (i := 0) dX9_nodeOfWire_22 rfl rfl ?_
      refine V_iload_n (i := 3) dX9_nodeOfWire_23 rfl rfl ?_
      refine V_iconst dX9_nodeOfWire_24 ⟨by decide, by decide⟩ ?_
      refine V_callV (M := MX9_nodeOfWire) (d := (d + 1)) (mc' := 0) (ms' := 0) (mc := 0) (ms := 0) (As := [.inl i3, .inl 5]) (rest := []) dX9_nodeOfWire_25 tX9_of vX9_of lX9_233 s1 ⟨by decide, rfl⟩ rfl rfl (Nat.le_of_ble_eq_true rfl) (show d + 1 ≤ (d + 1) by omega) (Ex.mono (pX9_of (d := d) s1 s2 s3 (s4 c1) (s5 c1) (by decide) (by decide)) ?_)
      intro v h2 hq
      rw [hq.1, hq.2]
      show V MX9_nodeOfWire (d + 1) 28 [some (.inr a0), some (.inl i1), some (.inl i2), some (.inl i3)] [.inl (jX h (jP h a0 0) (((6 * i3) + 5).toNat))] h 0 0 Q
      refine V_iload_n (i := 1) dX9_nodeOfWire_28 rfl rfl ?_
      refine V_icmp_ne (tgt := 36) dX9_nodeOfWire_29 (by decide) (fun c3 => ?_) (fun c3 => ?_)
      · refine V_iload_n (i := 2) dX9_nodeOfWire_36 rfl rfl ?_
        refine V_istore_n (i := 2) dX9_nodeOfWire_37 rfl (by decide) ?_
        refine V_iinc (i := 3) dX9_nodeOfWire_38 rfl (by decide) (r2 c1 c2 c3) ?_
        refine V_goto (tgt := 5) dX9_nodeOfWire_41 (by decide) ?_
        exact (k2 c1 c2 c3)
      · refine V_iload_n (i := 3) dX9_nodeOfWire_32 rfl rfl ?_
        refine V_goto (tgt := 37) dX9_nodeOfWire_33 (by decide) ?_
        refine V_istore_n (i := 2) dX9_nodeOfWire_37 rfl (by decide) ?_
        refine V_iinc (i := 3) dX9_nodeOfWire_38 rfl (by decide) (r3 c1 c2 c3) ?_
        refine V_goto (tgt := 5) dX9_nodeOfWire_41 (by decide) ?_
        exact (k3 c1 c2 c3)
theorem dX9_change_0 : decode cX9_change 0 = .ok (.aload_n 0, 1) := by decide +kernel
theorem dX9_change_1 : decode cX9_change 1 = .ok (.iload_n 1, 1) := by decide +kernel
theorem dX9_change_2 : decode cX9_change 2 = .ok (.invokevirtual 305, 3) := by decide +kernel
theorem dX9_change_5 : decode cX9_change 5 = .ok (.ifCond .eq 16, 3) := by decide +kernel
theorem dX9_change_8 : decode cX9_change 8 = .ok (.iload_n 2, 1) := by decide +kernel
theorem dX9_change_9 : decode cX9_change 9 = .ok (.ifCond .lt 12, 3) := by decide +kernel
theorem dX9_change_12 : decode cX9_change 12 = .ok (.iload_n 3, 1) := by decide +kernel
theorem dX9_change_13 : decode cX9_change 13 = .ok (.iconst 0, 1) := by decide +kernel
theorem dX9_change_14 : decode cX9_change 14 = .ok (.iconst 3, 1) := by decide +kernel
theorem dX9_change_15 : decode cX9_change 15 = .ok (.invokestatic 95, 3) := by decide +kernel
theorem dX9_change_18 : decode cX9_change 18 = .ok (.ifCond .ne 5, 3) := by decide +kernel
theorem dX9_change_21 : decode cX9_change 21 = .ok (.iconst (-1), 1) := by decide +kernel
theorem dX9_change_22 : decode cX9_change 22 = .ok (.ireturn, 1) := by decide +kernel
theorem dX9_change_23 : decode cX9_change 23 = .ok (.iload_n 2, 1) := by decide +kernel
theorem dX9_change_24 : decode cX9_change 24 = .ok (.aload_n 0, 1) := by decide +kernel
theorem dX9_change_25 : decode cX9_change 25 = .ok (.getfield 25, 3) := by decide +kernel
theorem dX9_change_28 : decode cX9_change 28 = .ok (.iload_n 1, 1) := by decide +kernel
theorem dX9_change_29 : decode cX9_change 29 = .ok (.invokestatic 256, 3) := by decide +kernel
theorem dX9_change_32 : decode cX9_change 32 = .ok (.iconst 2, 1) := by decide +kernel
theorem dX9_change_33 : decode cX9_change 33 = .ok (.iadd, 1) := by decide +kernel
theorem dX9_change_34 : decode cX9_change 34 = .ok (.iaload, 1) := by decide +kernel
theorem dX9_change_35 : decode cX9_change 35 = .ok (.if_icmp .lt 6, 3) := by decide +kernel
theorem dX9_change_38 : decode cX9_change 38 = .ok (.bipush (-9), 2) := by decide +kernel
theorem dX9_change_40 : decode cX9_change 40 = .ok (.ireturn, 1) := by decide +kernel
theorem dX9_change_41 : decode cX9_change 41 = .ok (.iload_n 3, 1) := by decide +kernel
theorem dX9_change_42 : decode cX9_change 42 = .ok (.iconst 3, 1) := by decide +kernel
theorem dX9_change_43 : decode cX9_change 43 = .ok (.if_icmp .ne 20, 3) := by decide +kernel
theorem dX9_change_46 : decode cX9_change 46 = .ok (.aload_n 0, 1) := by decide +kernel
theorem dX9_change_47 : decode cX9_change 47 = .ok (.iload_n 1, 1) := by decide +kernel
theorem dX9_change_48 : decode cX9_change 48 = .ok (.invokevirtual 308, 3) := by decide +kernel
theorem dX9_change_51 : decode cX9_change 51 = .ok (.pop, 1) := by decide +kernel
theorem dX9_change_52 : decode cX9_change 52 = .ok (.aload_n 0, 1) := by decide +kernel
theorem dX9_change_53 : decode cX9_change 53 = .ok (.aload_n 0, 1) := by decide +kernel
theorem dX9_change_54 : decode cX9_change 54 = .ok (.getfield 83, 3) := by decide +kernel
theorem dX9_change_57 : decode cX9_change 57 = .ok (.iload_n 2, 1) := by decide +kernel
theorem dX9_change_58 : decode cX9_change 58 = .ok (.iaload, 1) := by decide +kernel
theorem dX9_change_59 : decode cX9_change 59 = .ok (.invokevirtual 296, 3) := by decide +kernel
theorem dX9_change_62 : decode cX9_change 62 = .ok (.ireturn, 1) := by decide +kernel
theorem dX9_change_63 : decode cX9_change 63 = .ok (.aload_n 0, 1) := by decide +kernel
theorem dX9_change_64 : decode cX9_change 64 = .ok (.getfield 25, 3) := by decide +kernel
theorem dX9_change_67 : decode cX9_change 67 = .ok (.iload_n 1, 1) := by decide +kernel
theorem dX9_change_68 : decode cX9_change 68 = .ok (.invokestatic 256, 3) := by decide +kernel
theorem dX9_change_71 : decode cX9_change 71 = .ok (.bipush 9, 2) := by decide +kernel
theorem dX9_change_73 : decode cX9_change 73 = .ok (.iadd, 1) := by decide +kernel
theorem dX9_change_74 : decode cX9_change 74 = .ok (.iconst 3, 1) := by decide +kernel
theorem dX9_change_75 : decode cX9_change 75 = .ok (.iload_n 2, 1) := by decide +kernel
theorem dX9_change_76 : decode cX9_change 76 = .ok (.imul, 1) := by decide +kernel
theorem dX9_change_77 : decode cX9_change 77 = .ok (.iadd, 1) := by decide +kernel
theorem dX9_change_78 : decode cX9_change 78 = .ok (.iload_n 3, 1) := by decide +kernel
theorem dX9_change_79 : decode cX9_change 79 = .ok (.iadd, 1) := by decide +kernel
theorem dX9_change_80 : decode cX9_change 80 = .ok (.iaload, 1) := by decide +kernel
theorem dX9_change_81 : decode cX9_change 81 = .ok (.istore 4, 2) := by decide +kernel
theorem dX9_change_83 : decode cX9_change 83 = .ok (.iload_n 3, 1) := by decide +kernel
theorem dX9_change_84 : decode cX9_change 84 = .ok (.iconst 1, 1) := by decide +kernel
theorem dX9_change_85 : decode cX9_change 85 = .ok (.if_icmp .ne 12, 3) := by decide +kernel
theorem dX9_change_88 : decode cX9_change 88 = .ok (.aload_n 0, 1) := by decide +kernel
theorem dX9_change_89 : decode cX9_change 89 = .ok (.iload 4, 2) := by decide +kernel
theorem dX9_change_91 : decode cX9_change 91 = .ok (.invokevirtual 311, 3) := by decide +kernel
theorem dX9_change_94 : decode cX9_change 94 = .ok (.goto 5, 3) := by decide +kernel
theorem dX9_change_97 : decode cX9_change 97 = .ok (.iload 4, 2) := by decide +kernel
theorem dX9_change_99 : decode cX9_change 99 = .ok (.ireturn, 1) := by decide +kernel
theorem bX9_change_0 {d : Nat} {Q : Option jA → jH → Prop} (a0 : Nat) (i1 : Int) (i2 : Int) (i3 : Int) (u4 : Option jA) (h : jH)
    (s1 : (jS h a0).1 = 9)
    (s2 : (jS h (jP h a0 9)).1 = 16)
    (s3 : (jS h (jP h a0 9)).2 = 209)
    (s4 : 0 ≤ jX h (jP h a0 9) 3)
    (s5 : jX h (jP h a0 9) 3 ≤ 6)
    (q1 : (¬ (0 ≤ i1 ∧ i1 ≤ (jX h (jP h a0 9) 3) - 1)) → Q (some (.inl ((-1)))) h)
    (q2 : (0 ≤ i1 ∧ i1 ≤ (jX h (jP h a0 9) 3) - 1) → (i2 < 0) → Q (some (.inl ((-1)))) h)
    (s6 : (0 ≤ i1 ∧ i1 ≤ (jX h (jP h a0 9) 3) - 1) → (¬ (i2 < 0)) → (0 ≤ i3 ∧ i3 ≤ 3) → 0 ≤ i1)
    (s7 : (0 ≤ i1 ∧ i1 ≤ (jX h (jP h a0 9) 3) - 1) → (¬ (i2 < 0)) → (0 ≤ i3 ∧ i3 ≤ 3) → i1 ≤ 6)
    (r1 : (0 ≤ i1 ∧ i1 ≤ (jX h (jP h a0 9) 3) - 1) → (¬ (i2 < 0)) → (0 ≤ i3 ∧ i3 ≤ 3) → jR ((11 + (33 * i1)) + 2))
    (s8 : (0 ≤ i1 ∧ i1 ≤ (jX h (jP h a0 9) 3) - 1) → (¬ (i2 < 0)) → (0 ≤ i3 ∧ i3 ≤ 3) → 0 ≤ (11 + (33 * i1)) + 2)
    (s9 : (0 ≤ i1 ∧ i1 ≤ (jX h (jP h a0 9) 3) - 1) → (¬ (i2 < 0)) → (0 ≤ i3 ∧ i3 ≤ 3) → (11 + (33 * i1)) + 2 < ((jS h (jP h a0 9)).2 : Int))
    (r2 : (0 ≤ i1 ∧ i1 ≤ (jX h (jP h a0 9) 3) - 1) → (¬ (i2 < 0)) → (0 ≤ i3 ∧ i3 ≤ 3) → (i2 < (jX h (jP h a0 9) (((11 + (33 * i1)) + 2).toNat))) → (i3 ≠ 3) → jR ((11 + (33 * i1)) + 9))
    (r3 : (0 ≤ i1 ∧ i1 ≤ (jX h (jP h a0 9) 3) - 1) → (¬ (i2 < 0)) → (0 ≤ i3 ∧ i3 ≤ 3) → (i2 < (jX h (jP h a0 9) (((11 + (33 * i1)) + 2).toNat))) → (i3 ≠ 3) → jR (3 * i2))
    (r4 : (0 ≤ i1 ∧ i1 ≤ (jX h (jP h a0 9) 3) - 1) → (¬ (i2 < 0)) → (0 ≤ i3 ∧ i3 ≤ 3) → (i2 < (jX h (jP h a0 9) (((11 + (33 * i1)) + 2).toNat))) → (i3 ≠ 3) → jR (((11 + (33 * i1)) + 9) + (3 * i2)))
    (r5 : (0 ≤ i1 ∧ i1 ≤ (jX h (jP h a0 9) 3) - 1) → (¬ (i2 < 0)) → (0 ≤ i3 ∧ i3 ≤ 3) → (i2 < (jX h (jP h a0 9) (((11 + (33 * i1)) + 2).toNat))) → (i3 ≠ 3) → jR ((((11 + (33 * i1)) + 9) + (3 * i2)) + i3))
    (s10 : (0 ≤ i1 ∧ i1 ≤ (jX h (jP h a0 9) 3) - 1) → (¬ (i2 < 0)) → (0 ≤ i3 ∧ i3 ≤ 3) → (i2 < (jX h (jP h a0 9) (((11 + (33 * i1)) + 2).toNat))) → (i3 ≠ 3) → 0 ≤ (((11 + (33 * i1)) + 9) + (3 * i2)) + i3)
    (s11 : (0 ≤ i1 ∧ i1 ≤ (jX h (jP h a0 9) 3) - 1) → (¬ (i2 < 0)) → (0 ≤ i3 ∧ i3 ≤ 3) → (i2 < (jX h (jP h a0 9) (((11 + (33 * i1)) + 2).toNat))) → (i3 ≠ 3) → (((11 + (33 * i1)) + 9) + (3 * i2)) + i3 < ((jS h (jP h a0 9)).2 : Int))
    (q3 : (0 ≤ i1 ∧ i1 ≤ (jX h (jP h a0 9) 3) - 1) → (¬ (i2 < 0)) → (0 ≤ i3 ∧ i3 ≤ 3) → (i2 < (jX h (jP h a0 9) (((11 + (33 * i1)) + 2).toNat))) → (i3 ≠ 3) → (i3 ≠ 1) → Q (some (.inl (jX h (jP h a0 9) (((((11 + (33 * i1)) + 9) + (3 * i2)) + i3).toNat)))) h)
    (e1 : (0 ≤ i1 ∧ i1 ≤ (jX h (jP h a0 9) 3) - 1) → (¬ (i2 < 0)) → (0 ≤ i3 ∧ i3 ≤ 3) → (i2 < (jX h (jP h a0 9) (((11 + (33 * i1)) + 2).toNat))) → (i3 ≠ 3) → (i3 = 1) → Ex MX9_nodeOfWire (d + 1) [.inr a0, .inl (jX h (jP h a0 9) (((((11 + (33 * i1)) + 9) + (3 * i2)) + i3).toNat))] h 0 0 (fun v h2 => V MX9_change (d + 3) 94 [some (.inr a0), some (.inl i1), some (.inl i2), some (.inl i3), some (.inl (jX h (jP h a0 9) (((((11 + (33 * i1)) + 9) + (3 * i2)) + i3).toNat)))] (v.toList ++ []) h2 0 0 Q))
    (e2 : (0 ≤ i1 ∧ i1 ≤ (jX h (jP h a0 9) 3) - 1) → (¬ (i2 < 0)) → (0 ≤ i3 ∧ i3 ≤ 3) → (i2 < (jX h (jP h a0 9) (((11 + (33 * i1)) + 2).toNat))) → (i3 = 3) → Ex MX9_roomOfBlock (d + 2) [.inr a0, .inl i1] h 0 0 (fun v h2 => V MX9_change (d + 3) 51 [some (.inr a0), some (.inl i1), some (.inl i2), some (.inl i3), u4] (v.toList ++ []) h2 0 0 Q))
    (q4 : (0 ≤ i1 ∧ i1 ≤ (jX h (jP h a0 9) 3) - 1) → (¬ (i2 < 0)) → (0 ≤ i3 ∧ i3 ≤ 3) → (¬ (i2 < (jX h (jP h a0 9) (((11 + (33 * i1)) + 2).toNat)))) → Q (some (.inl ((-9)))) h)
    (q5 : (0 ≤ i1 ∧ i1 ≤ (jX h (jP h a0 9) 3) - 1) → (¬ (i2 < 0)) → (¬ (0 ≤ i3 ∧ i3 ≤ 3)) → Q (some (.inl ((-1)))) h) :
    V MX9_change (d + 3) 0 [some (.inr a0), some (.inl i1), some (.inl i2), some (.inl i3), u4] [] h 0 0 Q := by
  refine V_aload_n (i := 0) dX9_change_0 rfl rfl ?_
  refine V_iload_n (i := 1) dX9_change_1 rfl rfl ?_
  refine V_callV (M := MX9_change) (d := (d + 3)) (mc' := 0) (ms' := 0) (mc := 0) (ms := 0) (As := [.inl i1]) (rest := []) dX9_change_2 tX9_isBlock vX9_isBlock lX9_305 s1 ⟨by decide, rfl⟩ rfl rfl (Nat.le_of_ble_eq_true rfl) (show (d + 1) + 1 ≤ (d + 3) by omega) (Ex.mono (pX9_isBlock (d := d) s1 s2 s3 s4 s5) ?_)
  intro v h2 hq
  rw [hq.1, hq.2]
  show V MX9_change (d + 3) 5 [some (.inr a0), some (.inl i1), some (.inl i2), some (.inl i3), u4] [.inl (jb (0 ≤ i1 ∧ i1 ≤ (jX h (jP h a0 9) 3) - 1))] h 0 0 Q
  refine V_ifb_eq (tgt := 21) dX9_change_5 (by decide) (fun c1 => ?_) (fun c1 => ?_)
  · refine V_iconst dX9_change_21 ⟨by decide, by decide⟩ ?_
    exact V_reti rfl dX9_change_22 (q1 c1)
  · refine V_iload_n (i := 2) dX9_change_8 rfl rfl ?_
    refine V_if_lt (tgt := 21) dX9_change_9 (by decide) (fun c2 => ?_) (fun c2 => ?_)
    · refine V_iconst dX9_change_21 ⟨by decide, by decide⟩ ?_
      exact V_reti rfl dX9_change_22 (q2 c1 c2)
    · refine V_iload_n (i := 3) dX9_change_12 rfl rfl ?_
      refine V_iconst dX9_change_13 ⟨by decide, by decide⟩ ?_
      refine V_iconst dX9_change_14 ⟨by decide, by decide⟩ ?_
      refine V_callS (M := MX9_change) (d := (d + 3)) (mc' := 0) (ms' := 0) (mc := 0) (ms := 0) (a := 0) (As := [.inl i3, .inl 0, .inl 3]) (rest := []) dX9_change_15 tX9_in sX9_in lX9_95 rfl rfl (Nat.le_of_ble_eq_true rfl) (show d + 1 ≤ (d + 3) by omega) (Ex.mono (pX9_in (d := d) ) ?_)
      intro v h2 hq
      rw [hq.1, hq.2]
      show V MX9_change (d + 3) 18 [some (.inr a0), some (.inl i1), some (.inl i2), some (.inl i3), u4] [.inl (jb (0 ≤ i3 ∧ i3 ≤ 3))] h 0 0 Q
      refine V_ifb_ne (tgt := 23) dX9_change_18 (by decide) (fun c3 => ?_) (fun c3 => ?_)
      · refine V_iload_n (i := 2) dX9_change_23 rfl rfl ?_
        refine V_aload_n (i := 0) dX9_change_24 rfl rfl ?_
        refine V_getP dX9_change_25 fX9_25 rfl s1 ?_
        refine V_iload_n (i := 1) dX9_change_28 rfl rfl ?_
        refine V_callS (M := MX9_change) (d := (d + 3)) (mc' := 0) (ms' := 0) (mc := 0) (ms := 0) (a := 0) (As := [.inl i1]) (rest := [.inr (jP h a0 9), .inl i2]) dX9_change_29 tX9_block0 sX9_block0 lX9_256 rfl rfl (Nat.le_of_ble_eq_true rfl) (show d + 1 ≤ (d + 3) by omega) (Ex.mono (pX9_block0 (d := d) (s6 c1 c2 c3) (s7 c1 c2 c3)) ?_)
        intro v h2 hq
        rw [hq.1, hq.2]
        show V MX9_change (d + 3) 32 [some (.inr a0), some (.inl i1), some (.inl i2), some (.inl i3), u4] [.inl (11 + (33 * i1)), .inr (jP h a0 9), .inl i2] h 0 0 Q
        refine V_iconst dX9_change_32 ⟨by decide, by decide⟩ ?_
        refine V_iadd dX9_change_33 (r1 c1 c2 c3) ?_
        refine V_iald dX9_change_34 s2 (s8 c1 c2 c3) (s9 c1 c2 c3) ?_
        refine V_icmp_lt (tgt := 41) dX9_change_35 (by decide) (fun c4 => ?_) (fun c4 => ?_)
        · refine V_iload_n (i := 3) dX9_change_41 rfl rfl ?_
          refine V_iconst dX9_change_42 ⟨by decide, by decide⟩ ?_
          refine V_icmp_ne (tgt := 63) dX9_change_43 (by decide) (fun c5 => ?_) (fun c5 => ?_)
          · refine V_aload_n (i := 0) dX9_change_63 rfl rfl ?_
            refine V_getP dX9_change_64 fX9_25 rfl s1 ?_
            refine V_iload_n (i := 1) dX9_change_67 rfl rfl ?_
            refine V_callS (M := MX9_change) (d := (d + 3)) (mc' := 0) (ms' := 0) (mc := 0) (ms := 0) (a := 0) (As := [.inl i1]) (rest := [.inr (jP h a0 9)]) dX9_change_68 tX9_block0 sX9_block0 lX9_256 rfl rfl (Nat.le_of_ble_eq_true rfl) (show d + 1 ≤ (d + 3) by omega) (Ex.mono (pX9_block0 (d := d) (s6 c1 c2 c3) (s7 c1 c2 c3)) ?_)
            intro v h2 hq
            rw [hq.1, hq.2]
            show V MX9_change (d + 3) 71 [some (.inr a0), some (.inl i1), some (.inl i2), some (.inl i3), u4] [.inl (11 + (33 * i1)), .inr (jP h a0 9)] h 0 0 Q
            refine V_bipush dX9_change_71 (by decide +kernel) ⟨by decide, by decide⟩ ?_
            refine V_iadd dX9_change_73 (r2 c1 c2 c3 c4 c5) ?_
            refine V_iconst dX9_change_74 ⟨by decide, by decide⟩ ?_
            refine V_iload_n (i := 2) dX9_change_75 rfl rfl ?_
            refine V_imul dX9_change_76 (r3 c1 c2 c3 c4 c5) ?_
            refine V_iadd dX9_change_77 (r4 c1 c2 c3 c4 c5) ?_
            refine V_iload_n (i := 3) dX9_change_78 rfl rfl ?_
            refine V_iadd dX9_change_79 (r5 c1 c2 c3 c4 c5) ?_
            refine V_iald dX9_change_80 s2 (s10 c1 c2 c3 c4 c5) (s11 c1 c2 c3 c4 c5) ?_
            refine V_istore (i := 4) dX9_change_81 (by decide) ?_
            refine V_iload_n (i := 3) dX9_change_83 rfl rfl ?_
            refine V_iconst dX9_change_84 ⟨by decide, by decide⟩ ?_
            refine V_icmp_ne (tgt := 97) dX9_change_85 (by decide) (fun c6 => ?_) (fun c6 => ?_)
            · refine V_iload (i := 4) dX9_change_97 rfl ?_
              exact V_reti rfl dX9_change_99 (q3 c1 c2 c3 c4 c5 c6)
            · refine V_aload_n (i := 0) dX9_change_88 rfl rfl ?_
              refine V_iload (i := 4) dX9_change_89 rfl ?_
              exact V_callV (M := MX9_change) (d := (d + 3)) (mc' := 0) (ms' := 0) (mc := 0) (ms := 0) (As := [.inl (jX h (jP h a0 9) (((((11 + (33 * i1)) + 9) + (3 * i2)) + i3).toNat))]) (rest := []) dX9_change_91 tX9_nodeOfWire vX9_nodeOfWire lX9_311 s1 ⟨by decide, rfl⟩ rfl rfl (Nat.le_of_ble_eq_true rfl) (show (d + 1) + 1 ≤ (d + 3) by omega) (e1 c1 c2 c3 c4 c5 c6)
          · refine V_aload_n (i := 0) dX9_change_46 rfl rfl ?_
            refine V_iload_n (i := 1) dX9_change_47 rfl rfl ?_
            exact V_callV (M := MX9_change) (d := (d + 3)) (mc' := 0) (ms' := 0) (mc := 0) (ms := 0) (As := [.inl i1]) (rest := []) dX9_change_48 tX9_roomOfBlock vX9_roomOfBlock lX9_308 s1 ⟨by decide, rfl⟩ rfl rfl (Nat.le_of_ble_eq_true rfl) (show (d + 2) + 1 ≤ (d + 3) by omega) (e2 c1 c2 c3 c4 c5)
        · refine V_bipush dX9_change_38 (by decide +kernel) ⟨by decide, by decide⟩ ?_
          exact V_reti rfl dX9_change_40 (q4 c1 c2 c3 c4)
      · refine V_iconst dX9_change_21 ⟨by decide, by decide⟩ ?_
        exact V_reti rfl dX9_change_22 (q5 c1 c2 c3)
theorem bX9_change_94 {d : Nat} {Q : Option jA → jH → Prop} (a0 : Nat) (i1 : Int) (i2 : Int) (i3 : Int) (i4 : Int) (p0 : Int) (h : jH)
    (q1 : Q (some (.inl p0)) h) :
    V MX9_change (d + 3) 94 [some (.inr a0), some (.inl i1), some (.inl i2), some (.inl i3), some (.inl i4)] [.inl p0] h 0 0 Q := by
  refine V_goto (tgt := 99) dX9_change_94 (by decide) ?_
  exact V_reti rfl dX9_change_99 q1
theorem bX9_change_51 {d : Nat} {Q : Option jA → jH → Prop} (a0 : Nat) (i1 : Int) (i2 : Int) (i3 : Int) (u4 : Option jA) (p0 : Int) (h : jH)
    (s1 : (jS h a0).1 = 9)
    (s2 : (jS h (jP h a0 44)).1 = 16)
    (s3 : 0 ≤ i2)
    (s4 : i2 < ((jS h (jP h a0 44)).2 : Int))
    (e1 : Ex MX9_placeOf d [.inr a0, .inl (jX h (jP h a0 44) ((i2).toNat))] h 0 0 (fun v h2 => V MX9_change (d + 3) 62 [some (.inr a0), some (.inl i1), some (.inl i2), some (.inl i3), u4] (v.toList ++ []) h2 0 0 Q)) :
    V MX9_change (d + 3) 51 [some (.inr a0), some (.inl i1), some (.inl i2), some (.inl i3), u4] [.inl p0] h 0 0 Q := by
  refine V_pop dX9_change_51 ?_
  refine V_aload_n (i := 0) dX9_change_52 rfl rfl ?_
  refine V_aload_n (i := 0) dX9_change_53 rfl rfl ?_
  refine V_getP dX9_change_54 fX9_83 rfl s1 ?_
  refine V_iload_n (i := 2) dX9_change_57 rfl rfl ?_
  refine V_iald dX9_change_58 s2 s3 s4 ?_
  exact V_callV (M := MX9_change) (d := (d + 3)) (mc' := 0) (ms' := 0) (mc := 0) (ms := 0) (As := [.inl (jX h (jP h a0 44) ((i2).toNat))]) (rest := []) dX9_change_59 tX9_placeOf vX9_placeOf lX9_296 s1 ⟨by decide, rfl⟩ rfl rfl (Nat.le_of_ble_eq_true rfl) (show d + 1 ≤ (d + 3) by omega) e1
theorem bX9_change_62 {d : Nat} {Q : Option jA → jH → Prop} (a0 : Nat) (i1 : Int) (i2 : Int) (i3 : Int) (u4 : Option jA) (p0 : Int) (h : jH)
    (q1 : Q (some (.inl p0)) h) :
    V MX9_change (d + 3) 62 [some (.inr a0), some (.inl i1), some (.inl i2), some (.inl i3), u4] [.inl p0] h 0 0 Q := by
  exact V_reti rfl dX9_change_62 q1
theorem dX9_roomParted_0 : decode cX9_roomParted 0 = .ok (.iconst 0, 1) := by decide +kernel
theorem dX9_roomParted_1 : decode cX9_roomParted 1 = .ok (.istore_n 3, 1) := by decide +kernel
theorem dX9_roomParted_2 : decode cX9_roomParted 2 = .ok (.iconst 0, 1) := by decide +kernel
theorem dX9_roomParted_3 : decode cX9_roomParted 3 = .ok (.istore 4, 2) := by decide +kernel
theorem dX9_roomParted_5 : decode cX9_roomParted 5 = .ok (.iload 4, 2) := by decide +kernel
theorem dX9_roomParted_7 : decode cX9_roomParted 7 = .ok (.aload_n 0, 1) := by decide +kernel
theorem dX9_roomParted_8 : decode cX9_roomParted 8 = .ok (.getfield 290, 3) := by decide +kernel
theorem dX9_roomParted_11 : decode cX9_roomParted 11 = .ok (.if_icmp .lt 8, 3) := by decide +kernel
theorem dX9_roomParted_14 : decode cX9_roomParted 14 = .ok (.iload 4, 2) := by decide +kernel
theorem dX9_roomParted_16 : decode cX9_roomParted 16 = .ok (.ifCond .ne 63, 3) := by decide +kernel
theorem dX9_roomParted_19 : decode cX9_roomParted 19 = .ok (.aload_n 0, 1) := by decide +kernel
theorem dX9_roomParted_20 : decode cX9_roomParted 20 = .ok (.getfield 290, 3) := by decide +kernel
theorem dX9_roomParted_23 : decode cX9_roomParted 23 = .ok (.iload 4, 2) := by decide +kernel
theorem dX9_roomParted_25 : decode cX9_roomParted 25 = .ok (.isub, 1) := by decide +kernel
theorem dX9_roomParted_26 : decode cX9_roomParted 26 = .ok (.iload_n 1, 1) := by decide +kernel
theorem dX9_roomParted_27 : decode cX9_roomParted 27 = .ok (.if_icmp .ge 13, 3) := by decide +kernel
theorem dX9_roomParted_30 : decode cX9_roomParted 30 = .ok (.aload_n 0, 1) := by decide +kernel
theorem dX9_roomParted_31 : decode cX9_roomParted 31 = .ok (.getfield 290, 3) := by decide +kernel
theorem dX9_roomParted_34 : decode cX9_roomParted 34 = .ok (.iload 4, 2) := by decide +kernel
theorem dX9_roomParted_36 : decode cX9_roomParted 36 = .ok (.isub, 1) := by decide +kernel
theorem dX9_roomParted_37 : decode cX9_roomParted 37 = .ok (.goto 4, 3) := by decide +kernel
theorem dX9_roomParted_40 : decode cX9_roomParted 40 = .ok (.iload_n 1, 1) := by decide +kernel
theorem dX9_roomParted_41 : decode cX9_roomParted 41 = .ok (.istore 5, 2) := by decide +kernel
theorem dX9_roomParted_43 : decode cX9_roomParted 43 = .ok (.iload_n 3, 1) := by decide +kernel
theorem dX9_roomParted_44 : decode cX9_roomParted 44 = .ok (.aload_n 0, 1) := by decide +kernel
theorem dX9_roomParted_45 : decode cX9_roomParted 45 = .ok (.iload 4, 2) := by decide +kernel
theorem dX9_roomParted_47 : decode cX9_roomParted 47 = .ok (.iload 5, 2) := by decide +kernel
theorem dX9_roomParted_49 : decode cX9_roomParted 49 = .ok (.iload 4, 2) := by decide +kernel
theorem dX9_roomParted_51 : decode cX9_roomParted 51 = .ok (.ifCond .ne 7, 3) := by decide +kernel
theorem dX9_roomParted_54 : decode cX9_roomParted 54 = .ok (.iload_n 2, 1) := by decide +kernel
theorem dX9_roomParted_55 : decode cX9_roomParted 55 = .ok (.goto 10, 3) := by decide +kernel
theorem dX9_roomParted_58 : decode cX9_roomParted 58 = .ok (.aload_n 0, 1) := by decide +kernel
theorem dX9_roomParted_59 : decode cX9_roomParted 59 = .ok (.getfield 80, 3) := by decide +kernel
theorem dX9_roomParted_62 : decode cX9_roomParted 62 = .ok (.iload 4, 2) := by decide +kernel
theorem dX9_roomParted_64 : decode cX9_roomParted 64 = .ok (.iaload, 1) := by decide +kernel
theorem dX9_roomParted_65 : decode cX9_roomParted 65 = .ok (.invokevirtual 302, 3) := by decide +kernel
theorem dX9_roomParted_68 : decode cX9_roomParted 68 = .ok (.iadd, 1) := by decide +kernel
theorem dX9_roomParted_69 : decode cX9_roomParted 69 = .ok (.istore_n 3, 1) := by decide +kernel
theorem dX9_roomParted_70 : decode cX9_roomParted 70 = .ok (.iload 4, 2) := by decide +kernel
theorem dX9_roomParted_72 : decode cX9_roomParted 72 = .ok (.iload_n 1, 1) := by decide +kernel
theorem dX9_roomParted_73 : decode cX9_roomParted 73 = .ok (.iadd, 1) := by decide +kernel
theorem dX9_roomParted_74 : decode cX9_roomParted 74 = .ok (.istore 4, 2) := by decide +kernel
theorem dX9_roomParted_76 : decode cX9_roomParted 76 = .ok (.goto (-71), 3) := by decide +kernel
theorem dX9_roomParted_79 : decode cX9_roomParted 79 = .ok (.iload_n 3, 1) := by decide +kernel
theorem dX9_roomParted_80 : decode cX9_roomParted 80 = .ok (.ireturn, 1) := by decide +kernel
theorem bX9_roomParted_0 {d : Nat} {Q : Option jA → jH → Prop} (a0 : Nat) (i1 : Int) (i2 : Int) (u3 : Option jA) (u4 : Option jA) (u5 : Option jA) (h : jH)
    (k1 : V MX9_roomParted (d + 2) 5 [some (.inr a0), some (.inl i1), some (.inl i2), some (.inl 0), some (.inl 0), u5] [] h 0 0 Q) :
    V MX9_roomParted (d + 2) 0 [some (.inr a0), some (.inl i1), some (.inl i2), u3, u4, u5] [] h 0 0 Q := by
  refine V_iconst dX9_roomParted_0 ⟨by decide, by decide⟩ ?_
  refine V_istore_n (i := 3) dX9_roomParted_1 rfl (by decide) ?_
  refine V_iconst dX9_roomParted_2 ⟨by decide, by decide⟩ ?_
  refine V_istore (i := 4) dX9_roomParted_3 (by decide) ?_
  exact k1
theorem bX9_roomParted_5 {d : Nat} {Q : Option jA → jH → Prop} (a0 : Nat) (i1 : Int) (i2 : Int) (i3 : Int) (i4 : Int) (u5 : Option jA) (h : jH)
    (s1 : (jS h a0).1 = 9)
    (r1 : (i4 < (jI h a0 45)) → jR ((jI h a0 45) - i4))
    (s2 : (jS h (jP h a0 43)).1 = 16)
    (s3 : (i4 < (jI h a0 45)) → (i1 ≤ ((jI h a0 45) - i4)) → (i4 ≠ 0) → 0 ≤ i4)
    (s4 : (i4 < (jI h a0 45)) → (i1 ≤ ((jI h a0 45) - i4)) → (i4 ≠ 0) → i4 < ((jS h (jP h a0 43)).2 : Int))
    (e1 : (i4 < (jI h a0 45)) → (i1 ≤ ((jI h a0 45) - i4)) → (i4 ≠ 0) → Ex MX9_roomOf (d + 1) [.inr a0, .inl i4, .inl i1, .inl (jX h (jP h a0 43) ((i4).toNat))] h 0 0 (fun v h2 => V MX9_roomParted (d + 2) 68 [some (.inr a0), some (.inl i1), some (.inl i2), some (.inl i3), some (.inl i4), some (.inl i1)] (v.toList ++ [.inl i3]) h2 0 0 Q))
    (e2 : (i4 < (jI h a0 45)) → (i1 ≤ ((jI h a0 45) - i4)) → (i4 = 0) → Ex MX9_roomOf (d + 1) [.inr a0, .inl i4, .inl i1, .inl i2] h 0 0 (fun v h2 => V MX9_roomParted (d + 2) 68 [some (.inr a0), some (.inl i1), some (.inl i2), some (.inl i3), some (.inl i4), some (.inl i1)] (v.toList ++ [.inl i3]) h2 0 0 Q))
    (r2 : (i4 < (jI h a0 45)) → (¬ (i1 ≤ ((jI h a0 45) - i4))) → jR ((jI h a0 45) - i4))
    (s5 : (i4 < (jI h a0 45)) → (¬ (i1 ≤ ((jI h a0 45) - i4))) → (i4 ≠ 0) → 0 ≤ i4)
    (s6 : (i4 < (jI h a0 45)) → (¬ (i1 ≤ ((jI h a0 45) - i4))) → (i4 ≠ 0) → i4 < ((jS h (jP h a0 43)).2 : Int))
    (e3 : (i4 < (jI h a0 45)) → (¬ (i1 ≤ ((jI h a0 45) - i4))) → (i4 ≠ 0) → Ex MX9_roomOf (d + 1) [.inr a0, .inl i4, .inl ((jI h a0 45) - i4), .inl (jX h (jP h a0 43) ((i4).toNat))] h 0 0 (fun v h2 => V MX9_roomParted (d + 2) 68 [some (.inr a0), some (.inl i1), some (.inl i2), some (.inl i3), some (.inl i4), some (.inl ((jI h a0 45) - i4))] (v.toList ++ [.inl i3]) h2 0 0 Q))
    (e4 : (i4 < (jI h a0 45)) → (¬ (i1 ≤ ((jI h a0 45) - i4))) → (i4 = 0) → Ex MX9_roomOf (d + 1) [.inr a0, .inl i4, .inl ((jI h a0 45) - i4), .inl i2] h 0 0 (fun v h2 => V MX9_roomParted (d + 2) 68 [some (.inr a0), some (.inl i1), some (.inl i2), some (.inl i3), some (.inl i4), some (.inl ((jI h a0 45) - i4))] (v.toList ++ [.inl i3]) h2 0 0 Q))
    (q1 : (¬ (i4 < (jI h a0 45))) → (i4 ≠ 0) → Q (some (.inl i3)) h)
    (r3 : (¬ (i4 < (jI h a0 45))) → (i4 = 0) → jR ((jI h a0 45) - i4))
    (s7 : (¬ (i4 < (jI h a0 45))) → (i4 = 0) → (i1 ≤ ((jI h a0 45) - i4)) → (i4 ≠ 0) → 0 ≤ i4)
    (s8 : (¬ (i4 < (jI h a0 45))) → (i4 = 0) → (i1 ≤ ((jI h a0 45) - i4)) → (i4 ≠ 0) → i4 < ((jS h (jP h a0 43)).2 : Int))
    (e5 : (¬ (i4 < (jI h a0 45))) → (i4 = 0) → (i1 ≤ ((jI h a0 45) - i4)) → (i4 ≠ 0) → Ex MX9_roomOf (d + 1) [.inr a0, .inl i4, .inl i1, .inl (jX h (jP h a0 43) ((i4).toNat))] h 0 0 (fun v h2 => V MX9_roomParted (d + 2) 68 [some (.inr a0), some (.inl i1), some (.inl i2), some (.inl i3), some (.inl i4), some (.inl i1)] (v.toList ++ [.inl i3]) h2 0 0 Q))
    (e6 : (¬ (i4 < (jI h a0 45))) → (i4 = 0) → (i1 ≤ ((jI h a0 45) - i4)) → (i4 = 0) → Ex MX9_roomOf (d + 1) [.inr a0, .inl i4, .inl i1, .inl i2] h 0 0 (fun v h2 => V MX9_roomParted (d + 2) 68 [some (.inr a0), some (.inl i1), some (.inl i2), some (.inl i3), some (.inl i4), some (.inl i1)] (v.toList ++ [.inl i3]) h2 0 0 Q))
    (r4 : (¬ (i4 < (jI h a0 45))) → (i4 = 0) → (¬ (i1 ≤ ((jI h a0 45) - i4))) → jR ((jI h a0 45) - i4))
    (s9 : (¬ (i4 < (jI h a0 45))) → (i4 = 0) → (¬ (i1 ≤ ((jI h a0 45) - i4))) → (i4 ≠ 0) → 0 ≤ i4)
    (s10 : (¬ (i4 < (jI h a0 45))) → (i4 = 0) → (¬ (i1 ≤ ((jI h a0 45) - i4))) → (i4 ≠ 0) → i4 < ((jS h (jP h a0 43)).2 : Int))
    (e7 : (¬ (i4 < (jI h a0 45))) → (i4 = 0) → (¬ (i1 ≤ ((jI h a0 45) - i4))) → (i4 ≠ 0) → Ex MX9_roomOf (d + 1) [.inr a0, .inl i4, .inl ((jI h a0 45) - i4), .inl (jX h (jP h a0 43) ((i4).toNat))] h 0 0 (fun v h2 => V MX9_roomParted (d + 2) 68 [some (.inr a0), some (.inl i1), some (.inl i2), some (.inl i3), some (.inl i4), some (.inl ((jI h a0 45) - i4))] (v.toList ++ [.inl i3]) h2 0 0 Q))
    (e8 : (¬ (i4 < (jI h a0 45))) → (i4 = 0) → (¬ (i1 ≤ ((jI h a0 45) - i4))) → (i4 = 0) → Ex MX9_roomOf (d + 1) [.inr a0, .inl i4, .inl ((jI h a0 45) - i4), .inl i2] h 0 0 (fun v h2 => V MX9_roomParted (d + 2) 68 [some (.inr a0), some (.inl i1), some (.inl i2), some (.inl i3), some (.inl i4), some (.inl ((jI h a0 45) - i4))] (v.toList ++ [.inl i3]) h2 0 0 Q)) :
    V MX9_roomParted (d + 2) 5 [some (.inr a0), some (.inl i1), some (.inl i2), some (.inl i3), some (.inl i4), u5] [] h 0 0 Q := by
  refine V_iload (i := 4) dX9_roomParted_5 rfl ?_
  refine V_aload_n (i := 0) dX9_roomParted_7 rfl rfl ?_
  refine V_getI dX9_roomParted_8 fX9_290 rfl s1 ?_
  refine V_icmp_lt (tgt := 19) dX9_roomParted_11 (by decide) (fun c1 => ?_) (fun c1 => ?_)
  · refine V_aload_n (i := 0) dX9_roomParted_19 rfl rfl ?_
    refine V_getI dX9_roomParted_20 fX9_290 rfl s1 ?_
    refine V_iload (i := 4) dX9_roomParted_23 rfl ?_
    refine V_isub dX9_roomParted_25 (r1 c1) ?_
    refine V_iload_n (i := 1) dX9_roomParted_26 rfl rfl ?_
    refine V_icmp_ge (tgt := 40) dX9_roomParted_27 (by decide) (fun c2 => ?_) (fun c2 => ?_)
    · refine V_iload_n (i := 1) dX9_roomParted_40 rfl rfl ?_
      refine V_istore (i := 5) dX9_roomParted_41 (by decide) ?_
      refine V_iload_n (i := 3) dX9_roomParted_43 rfl rfl ?_
      refine V_aload_n (i := 0) dX9_roomParted_44 rfl rfl ?_
      refine V_iload (i := 4) dX9_roomParted_45 rfl ?_
      refine V_iload (i := 5) dX9_roomParted_47 rfl ?_
      refine V_iload (i := 4) dX9_roomParted_49 rfl ?_
      refine V_if_ne (tgt := 58) dX9_roomParted_51 (by decide) (fun c3 => ?_) (fun c3 => ?_)
      · refine V_aload_n (i := 0) dX9_roomParted_58 rfl rfl ?_
        refine V_getP dX9_roomParted_59 fX9_80 rfl s1 ?_
        refine V_iload (i := 4) dX9_roomParted_62 rfl ?_
        refine V_iald dX9_roomParted_64 s2 (s3 c1 c2 c3) (s4 c1 c2 c3) ?_
        exact V_callV (M := MX9_roomParted) (d := (d + 2)) (mc' := 0) (ms' := 0) (mc := 0) (ms := 0) (As := [.inl i4, .inl i1, .inl (jX h (jP h a0 43) ((i4).toNat))]) (rest := [.inl i3]) dX9_roomParted_65 tX9_roomOf vX9_roomOf lX9_302 s1 ⟨by decide, rfl⟩ rfl rfl (Nat.le_of_ble_eq_true rfl) (show (d + 1) + 1 ≤ (d + 2) by omega) (e1 c1 c2 c3)
      · refine V_iload_n (i := 2) dX9_roomParted_54 rfl rfl ?_
        refine V_goto (tgt := 65) dX9_roomParted_55 (by decide) ?_
        exact V_callV (M := MX9_roomParted) (d := (d + 2)) (mc' := 0) (ms' := 0) (mc := 0) (ms := 0) (As := [.inl i4, .inl i1, .inl i2]) (rest := [.inl i3]) dX9_roomParted_65 tX9_roomOf vX9_roomOf lX9_302 s1 ⟨by decide, rfl⟩ rfl rfl (Nat.le_of_ble_eq_true rfl) (show (d + 1) + 1 ≤ (d + 2) by omega) (e2 c1 c2 c3)
    · refine V_aload_n (i := 0) dX9_roomParted_30 rfl rfl ?_
      refine V_getI dX9_roomParted_31 fX9_290 rfl s1 ?_
      refine V_iload (i := 4) dX9_roomParted_34 rfl ?_
      refine V_isub dX9_roomParted_36 (r2 c1 c2) ?_
      refine V_goto (tgt := 41) dX9_roomParted_37 (by decide) ?_
      refine V_istore (i := 5) dX9_roomParted_41 (by decide) ?_
      refine V_iload_n (i := 3) dX9_roomParted_43 rfl rfl ?_
      refine V_aload_n (i := 0) dX9_roomParted_44 rfl rfl ?_
      refine V_iload (i := 4) dX9_roomParted_45 rfl ?_
      refine V_iload (i := 5) dX9_roomParted_47 rfl ?_
      refine V_iload (i := 4) dX9_roomParted_49 rfl ?_
      refine V_if_ne (tgt := 58) dX9_roomParted_51 (by decide) (fun c4 => ?_) (fun c4 => ?_)
      · refine V_aload_n (i := 0) dX9_roomParted_58 rfl rfl ?_
        refine V_getP dX9_roomParted_59 fX9_80 rfl s1 ?_
        refine V_iload (i := 4) dX9_roomParted_62 rfl ?_
        refine V_iald dX9_roomParted_64 s2 (s5 c1 c2 c4) (s6 c1 c2 c4) ?_
        exact V_callV (M := MX9_roomParted) (d := (d + 2)) (mc' := 0) (ms' := 0) (mc := 0) (ms := 0) (As := [.inl i4, .inl ((jI h a0 45) - i4), .inl (jX h (jP h a0 43) ((i4).toNat))]) (rest := [.inl i3]) dX9_roomParted_65 tX9_roomOf vX9_roomOf lX9_302 s1 ⟨by decide, rfl⟩ rfl rfl (Nat.le_of_ble_eq_true rfl) (show (d + 1) + 1 ≤ (d + 2) by omega) (e3 c1 c2 c4)
      · refine V_iload_n (i := 2) dX9_roomParted_54 rfl rfl ?_
        refine V_goto (tgt := 65) dX9_roomParted_55 (by decide) ?_
        exact V_callV (M := MX9_roomParted) (d := (d + 2)) (mc' := 0) (ms' := 0) (mc := 0) (ms := 0) (As := [.inl i4, .inl ((jI h a0 45) - i4), .inl i2]) (rest := [.inl i3]) dX9_roomParted_65 tX9_roomOf vX9_roomOf lX9_302 s1 ⟨by decide, rfl⟩ rfl rfl (Nat.le_of_ble_eq_true rfl) (show (d + 1) + 1 ≤ (d + 2) by omega) (e4 c1 c2 c4)
  · refine V_iload (i := 4) dX9_roomParted_14 rfl ?_
    refine V_if_ne (tgt := 79) dX9_roomParted_16 (by decide) (fun c5 => ?_) (fun c5 => ?_)
    · refine V_iload_n (i := 3) dX9_roomParted_79 rfl rfl ?_
      exact V_reti rfl dX9_roomParted_80 (q1 c1 c5)
    · refine V_aload_n (i := 0) dX9_roomParted_19 rfl rfl ?_
      refine V_getI dX9_roomParted_20 fX9_290 rfl s1 ?_
      refine V_iload (i := 4) dX9_roomParted_23 rfl ?_
      refine V_isub dX9_roomParted_25 (r3 c1 c5) ?_
      refine V_iload_n (i := 1) dX9_roomParted_26 rfl rfl ?_
      refine V_icmp_ge (tgt := 40) dX9_roomParted_27 (by decide) (fun c6 => ?_) (fun c6 => ?_)
      · refine V_iload_n (i := 1) dX9_roomParted_40 rfl rfl ?_
        refine V_istore (i := 5) dX9_roomParted_41 (by decide) ?_
        refine V_iload_n (i := 3) dX9_roomParted_43 rfl rfl ?_
        refine V_aload_n (i := 0) dX9_roomParted_44 rfl rfl ?_
        refine V_iload (i := 4) dX9_roomParted_45 rfl ?_
        refine V_iload (i := 5) dX9_roomParted_47 rfl ?_
        refine V_iload (i := 4) dX9_roomParted_49 rfl ?_
        refine V_if_ne (tgt := 58) dX9_roomParted_51 (by decide) (fun c7 => ?_) (fun c7 => ?_)
        · refine V_aload_n (i := 0) dX9_roomParted_58 rfl rfl ?_
          refine V_getP dX9_roomParted_59 fX9_80 rfl s1 ?_
          refine V_iload (i := 4) dX9_roomParted_62 rfl ?_
          refine V_iald dX9_roomParted_64 s2 (s7 c1 c5 c6 c7) (s8 c1 c5 c6 c7) ?_
          exact V_callV (M := MX9_roomParted) (d := (d + 2)) (mc' := 0) (ms' := 0) (mc := 0) (ms := 0) (As := [.inl i4, .inl i1, .inl (jX h (jP h a0 43) ((i4).toNat))]) (rest := [.inl i3]) dX9_roomParted_65 tX9_roomOf vX9_roomOf lX9_302 s1 ⟨by decide, rfl⟩ rfl rfl (Nat.le_of_ble_eq_true rfl) (show (d + 1) + 1 ≤ (d + 2) by omega) (e5 c1 c5 c6 c7)
        · refine V_iload_n (i := 2) dX9_roomParted_54 rfl rfl ?_
          refine V_goto (tgt := 65) dX9_roomParted_55 (by decide) ?_
          exact V_callV (M := MX9_roomParted) (d := (d + 2)) (mc' := 0) (ms' := 0) (mc := 0) (ms := 0) (As := [.inl i4, .inl i1, .inl i2]) (rest := [.inl i3]) dX9_roomParted_65 tX9_roomOf vX9_roomOf lX9_302 s1 ⟨by decide, rfl⟩ rfl rfl (Nat.le_of_ble_eq_true rfl) (show (d + 1) + 1 ≤ (d + 2) by omega) (e6 c1 c5 c6 c7)
      · refine V_aload_n (i := 0) dX9_roomParted_30 rfl rfl ?_
        refine V_getI dX9_roomParted_31 fX9_290 rfl s1 ?_
        refine V_iload (i := 4) dX9_roomParted_34 rfl ?_
        refine V_isub dX9_roomParted_36 (r4 c1 c5 c6) ?_
        refine V_goto (tgt := 41) dX9_roomParted_37 (by decide) ?_
        refine V_istore (i := 5) dX9_roomParted_41 (by decide) ?_
        refine V_iload_n (i := 3) dX9_roomParted_43 rfl rfl ?_
        refine V_aload_n (i := 0) dX9_roomParted_44 rfl rfl ?_
        refine V_iload (i := 4) dX9_roomParted_45 rfl ?_
        refine V_iload (i := 5) dX9_roomParted_47 rfl ?_
        refine V_iload (i := 4) dX9_roomParted_49 rfl ?_
        refine V_if_ne (tgt := 58) dX9_roomParted_51 (by decide) (fun c8 => ?_) (fun c8 => ?_)
        · refine V_aload_n (i := 0) dX9_roomParted_58 rfl rfl ?_
          refine V_getP dX9_roomParted_59 fX9_80 rfl s1 ?_
          refine V_iload (i := 4) dX9_roomParted_62 rfl ?_
          refine V_iald dX9_roomParted_64 s2 (s9 c1 c5 c6 c8) (s10 c1 c5 c6 c8) ?_
          exact V_callV (M := MX9_roomParted) (d := (d + 2)) (mc' := 0) (ms' := 0) (mc := 0) (ms := 0) (As := [.inl i4, .inl ((jI h a0 45) - i4), .inl (jX h (jP h a0 43) ((i4).toNat))]) (rest := [.inl i3]) dX9_roomParted_65 tX9_roomOf vX9_roomOf lX9_302 s1 ⟨by decide, rfl⟩ rfl rfl (Nat.le_of_ble_eq_true rfl) (show (d + 1) + 1 ≤ (d + 2) by omega) (e7 c1 c5 c6 c8)
        · refine V_iload_n (i := 2) dX9_roomParted_54 rfl rfl ?_
          refine V_goto (tgt := 65) dX9_roomParted_55 (by decide) ?_
          exact V_callV (M := MX9_roomParted) (d := (d + 2)) (mc' := 0) (ms' := 0) (mc := 0) (ms := 0) (As := [.inl i4, .inl ((jI h a0 45) - i4), .inl i2]) (rest := [.inl i3]) dX9_roomParted_65 tX9_roomOf vX9_roomOf lX9_302 s1 ⟨by decide, rfl⟩ rfl rfl (Nat.le_of_ble_eq_true rfl) (show (d + 1) + 1 ≤ (d + 2) by omega) (e8 c1 c5 c6 c8)
theorem bX9_roomParted_68 {d : Nat} {Q : Option jA → jH → Prop} (a0 : Nat) (i1 : Int) (i2 : Int) (i3 : Int) (i4 : Int) (i5 : Int) (p0 : Int) (p1 : Int) (h : jH)
    (r1 : jR (p1 + p0))
    (r2 : jR (i4 + i1))
    (k1 : V MX9_roomParted (d + 2) 5 [some (.inr a0), some (.inl i1), some (.inl i2), some (.inl (p1 + p0)), some (.inl (i4 + i1)), some (.inl i5)] [] h 0 0 Q) :
    V MX9_roomParted (d + 2) 68 [some (.inr a0), some (.inl i1), some (.inl i2), some (.inl i3), some (.inl i4), some (.inl i5)] [.inl p0, .inl p1] h 0 0 Q := by
  refine V_iadd dX9_roomParted_68 r1 ?_
  refine V_istore_n (i := 3) dX9_roomParted_69 rfl (by decide) ?_
  refine V_iload (i := 4) dX9_roomParted_70 rfl ?_
  refine V_iload_n (i := 1) dX9_roomParted_72 rfl rfl ?_
  refine V_iadd dX9_roomParted_73 r2 ?_
  refine V_istore (i := 4) dX9_roomParted_74 (by decide) ?_
  refine V_goto (tgt := 5) dX9_roomParted_76 (by decide) ?_
  exact k1
theorem dX9_packedBy_0 : decode cX9_packedBy 0 = .ok (.iconst 0, 1) := by decide +kernel
theorem dX9_packedBy_1 : decode cX9_packedBy 1 = .ok (.istore_n 2, 1) := by decide +kernel
theorem dX9_packedBy_2 : decode cX9_packedBy 2 = .ok (.bipush (-9), 2) := by decide +kernel
theorem dX9_packedBy_4 : decode cX9_packedBy 4 = .ok (.istore_n 3, 1) := by decide +kernel
theorem dX9_packedBy_5 : decode cX9_packedBy 5 = .ok (.aload_n 0, 1) := by decide +kernel
theorem dX9_packedBy_6 : decode cX9_packedBy 6 = .ok (.iconst 0, 1) := by decide +kernel
theorem dX9_packedBy_7 : decode cX9_packedBy 7 = .ok (.putfield 290, 3) := by decide +kernel
theorem dX9_packedBy_10 : decode cX9_packedBy 10 = .ok (.iconst 0, 1) := by decide +kernel
theorem dX9_packedBy_11 : decode cX9_packedBy 11 = .ok (.istore 4, 2) := by decide +kernel
theorem dX9_packedBy_13 : decode cX9_packedBy 13 = .ok (.iload 4, 2) := by decide +kernel
theorem dX9_packedBy_15 : decode cX9_packedBy 15 = .ok (.aload_n 0, 1) := by decide +kernel
theorem dX9_packedBy_16 : decode cX9_packedBy 16 = .ok (.getfield 25, 3) := by decide +kernel
theorem dX9_packedBy_19 : decode cX9_packedBy 19 = .ok (.iconst 3, 1) := by decide +kernel
theorem dX9_packedBy_20 : decode cX9_packedBy 20 = .ok (.iaload, 1) := by decide +kernel
theorem dX9_packedBy_21 : decode cX9_packedBy 21 = .ok (.if_icmp .ge 83, 3) := by decide +kernel
theorem dX9_packedBy_24 : decode cX9_packedBy 24 = .ok (.iload_n 3, 1) := by decide +kernel
theorem dX9_packedBy_25 : decode cX9_packedBy 25 = .ok (.bipush (-9), 2) := by decide +kernel
theorem dX9_packedBy_27 : decode cX9_packedBy 27 = .ok (.if_icmp .ne 16, 3) := by decide +kernel
theorem dX9_packedBy_30 : decode cX9_packedBy 30 = .ok (.aload_n 0, 1) := by decide +kernel
theorem dX9_packedBy_31 : decode cX9_packedBy 31 = .ok (.getfield 25, 3) := by decide +kernel
theorem dX9_packedBy_34 : decode cX9_packedBy 34 = .ok (.iload 4, 2) := by decide +kernel
theorem dX9_packedBy_36 : decode cX9_packedBy 36 = .ok (.invokestatic 256, 3) := by decide +kernel
theorem dX9_packedBy_39 : decode cX9_packedBy 39 = .ok (.iaload, 1) := by decide +kernel
theorem dX9_packedBy_40 : decode cX9_packedBy 40 = .ok (.goto 4, 3) := by decide +kernel
theorem dX9_packedBy_43 : decode cX9_packedBy 43 = .ok (.iload_n 3, 1) := by decide +kernel
theorem dX9_packedBy_44 : decode cX9_packedBy 44 = .ok (.istore_n 3, 1) := by decide +kernel
theorem dX9_packedBy_45 : decode cX9_packedBy 45 = .ok (.aload_n 0, 1) := by decide +kernel
theorem dX9_packedBy_46 : decode cX9_packedBy 46 = .ok (.iload 4, 2) := by decide +kernel
theorem dX9_packedBy_48 : decode cX9_packedBy 48 = .ok (.invokevirtual 299, 3) := by decide +kernel
theorem dX9_packedBy_51 : decode cX9_packedBy 51 = .ok (.aload_n 0, 1) := by decide +kernel
theorem dX9_packedBy_52 : decode cX9_packedBy 52 = .ok (.getfield 25, 3) := by decide +kernel
theorem dX9_packedBy_55 : decode cX9_packedBy 55 = .ok (.iload 4, 2) := by decide +kernel
theorem dX9_packedBy_57 : decode cX9_packedBy 57 = .ok (.invokestatic 256, 3) := by decide +kernel
theorem dX9_packedBy_60 : decode cX9_packedBy 60 = .ok (.iconst 1, 1) := by decide +kernel
theorem dX9_packedBy_61 : decode cX9_packedBy 61 = .ok (.iadd, 1) := by decide +kernel
theorem dX9_packedBy_62 : decode cX9_packedBy 62 = .ok (.iaload, 1) := by decide +kernel
theorem dX9_packedBy_63 : decode cX9_packedBy 63 = .ok (.bipush (-9), 2) := by decide +kernel
theorem dX9_packedBy_65 : decode cX9_packedBy 65 = .ok (.if_icmp .ne 16, 3) := by decide +kernel
theorem dX9_packedBy_68 : decode cX9_packedBy 68 = .ok (.iload 4, 2) := by decide +kernel
theorem dX9_packedBy_70 : decode cX9_packedBy 70 = .ok (.aload_n 0, 1) := by decide +kernel
theorem dX9_packedBy_71 : decode cX9_packedBy 71 = .ok (.getfield 25, 3) := by decide +kernel
theorem dX9_packedBy_74 : decode cX9_packedBy 74 = .ok (.iconst 3, 1) := by decide +kernel
theorem dX9_packedBy_75 : decode cX9_packedBy 75 = .ok (.iaload, 1) := by decide +kernel
theorem dX9_packedBy_76 : decode cX9_packedBy 76 = .ok (.iconst 1, 1) := by decide +kernel
theorem dX9_packedBy_77 : decode cX9_packedBy 77 = .ok (.isub, 1) := by decide +kernel
theorem dX9_packedBy_78 : decode cX9_packedBy 78 = .ok (.if_icmp .ne 20, 3) := by decide +kernel
theorem dX9_packedBy_81 : decode cX9_packedBy 81 = .ok (.iload_n 2, 1) := by decide +kernel
theorem dX9_packedBy_82 : decode cX9_packedBy 82 = .ok (.aload_n 0, 1) := by decide +kernel
theorem dX9_packedBy_83 : decode cX9_packedBy 83 = .ok (.iload_n 1, 1) := by decide +kernel
theorem dX9_packedBy_84 : decode cX9_packedBy 84 = .ok (.iload_n 3, 1) := by decide +kernel
theorem dX9_packedBy_85 : decode cX9_packedBy 85 = .ok (.invokevirtual 314, 3) := by decide +kernel
theorem dX9_packedBy_88 : decode cX9_packedBy 88 = .ok (.iadd, 1) := by decide +kernel
theorem dX9_packedBy_89 : decode cX9_packedBy 89 = .ok (.istore_n 2, 1) := by decide +kernel
theorem dX9_packedBy_90 : decode cX9_packedBy 90 = .ok (.bipush (-9), 2) := by decide +kernel
theorem dX9_packedBy_92 : decode cX9_packedBy 92 = .ok (.istore_n 3, 1) := by decide +kernel
theorem dX9_packedBy_93 : decode cX9_packedBy 93 = .ok (.aload_n 0, 1) := by decide +kernel
theorem dX9_packedBy_94 : decode cX9_packedBy 94 = .ok (.iconst 0, 1) := by decide +kernel
theorem dX9_packedBy_95 : decode cX9_packedBy 95 = .ok (.putfield 290, 3) := by decide +kernel
theorem dX9_packedBy_98 : decode cX9_packedBy 98 = .ok (.iinc 4 1, 3) := by decide +kernel
theorem dX9_packedBy_101 : decode cX9_packedBy 101 = .ok (.goto (-88), 3) := by decide +kernel
theorem dX9_packedBy_104 : decode cX9_packedBy 104 = .ok (.iload_n 2, 1) := by decide +kernel
theorem dX9_packedBy_105 : decode cX9_packedBy 105 = .ok (.ireturn, 1) := by decide +kernel
theorem bX9_packedBy_0 {d : Nat} {Q : Option jA → jH → Prop} (a0 : Nat) (i1 : Int) (u2 : Option jA) (u3 : Option jA) (u4 : Option jA) (h : jH)
    (s1 : (jS h a0).1 = 9)
    (k1 : V MX9_packedBy (d + 3) 13 [some (.inr a0), some (.inl i1), some (.inl 0), some (.inl ((-9))), some (.inl 0)] [] (jsI h a0 45 0) 0 0 Q) :
    V MX9_packedBy (d + 3) 0 [some (.inr a0), some (.inl i1), u2, u3, u4] [] h 0 0 Q := by
  refine V_iconst dX9_packedBy_0 ⟨by decide, by decide⟩ ?_
  refine V_istore_n (i := 2) dX9_packedBy_1 rfl (by decide) ?_
  refine V_bipush dX9_packedBy_2 (by decide +kernel) ⟨by decide, by decide⟩ ?_
  refine V_istore_n (i := 3) dX9_packedBy_4 rfl (by decide) ?_
  refine V_aload_n (i := 0) dX9_packedBy_5 rfl rfl ?_
  refine V_iconst dX9_packedBy_6 ⟨by decide, by decide⟩ ?_
  refine V_putI (ci := 9) (kf := 45) dX9_packedBy_7 fX9_290 rfl rfl s1 ?_
  refine V_iconst dX9_packedBy_10 ⟨by decide, by decide⟩ ?_
  refine V_istore (i := 4) dX9_packedBy_11 (by decide) ?_
  exact k1
theorem bX9_packedBy_13 {d : Nat} {Q : Option jA → jH → Prop} (a0 : Nat) (i1 : Int) (i2 : Int) (i3 : Int) (i4 : Int) (h : jH)
    (s1 : (jS h a0).1 = 9)
    (s2 : (jS h (jP h a0 9)).1 = 16)
    (s3 : 3 < ((jS h (jP h a0 9)).2 : Int))
    (q1 : ((jX h (jP h a0 9) 3) ≤ i4) → Q (some (.inl i2)) h)
    (e1 : (¬ ((jX h (jP h a0 9) 3) ≤ i4)) → (i3 ≠ ((-9))) → Ex MX9_addsRow (d + 1) [.inr a0, .inl i4] h 0 0 (fun v h2 => V MX9_packedBy (d + 3) 51 [some (.inr a0), some (.inl i1), some (.inl i2), some (.inl i3), some (.inl i4)] (v.toList ++ []) h2 0 0 Q))
    (s4 : (¬ ((jX h (jP h a0 9) 3) ≤ i4)) → (i3 = ((-9))) → 0 ≤ i4)
    (s5 : (¬ ((jX h (jP h a0 9) 3) ≤ i4)) → (i3 = ((-9))) → i4 ≤ 6)
    (s6 : (¬ ((jX h (jP h a0 9) 3) ≤ i4)) → (i3 = ((-9))) → 0 ≤ 11 + (33 * i4))
    (s7 : (¬ ((jX h (jP h a0 9) 3) ≤ i4)) → (i3 = ((-9))) → 11 + (33 * i4) < ((jS h (jP h a0 9)).2 : Int))
    (e2 : (¬ ((jX h (jP h a0 9) 3) ≤ i4)) → (i3 = ((-9))) → Ex MX9_addsRow (d + 1) [.inr a0, .inl i4] h 0 0 (fun v h2 => V MX9_packedBy (d + 3) 51 [some (.inr a0), some (.inl i1), some (.inl i2), some (.inl (jX h (jP h a0 9) ((11 + (33 * i4)).toNat))), some (.inl i4)] (v.toList ++ []) h2 0 0 Q)) :
    V MX9_packedBy (d + 3) 13 [some (.inr a0), some (.inl i1), some (.inl i2), some (.inl i3), some (.inl i4)] [] h 0 0 Q := by
  refine V_iload (i := 4) dX9_packedBy_13 rfl ?_
  refine V_aload_n (i := 0) dX9_packedBy_15 rfl rfl ?_
  refine V_getP dX9_packedBy_16 fX9_25 rfl s1 ?_
  refine V_iconst dX9_packedBy_19 ⟨by decide, by decide⟩ ?_
  refine V_iald dX9_packedBy_20 s2 (by decide) s3 ?_
  refine V_icmp_ge (tgt := 104) dX9_packedBy_21 (by decide) (fun c1 => ?_) (fun c1 => ?_)
  · refine V_iload_n (i := 2) dX9_packedBy_104 rfl rfl ?_
    exact V_reti rfl dX9_packedBy_105 (q1 c1)
  · refine V_iload_n (i := 3) dX9_packedBy_24 rfl rfl ?_
    refine V_bipush dX9_packedBy_25 (by decide +kernel) ⟨by decide, by decide⟩ ?_
    refine V_icmp_ne (tgt := 43) dX9_packedBy_27 (by decide) (fun c2 => ?_) (fun c2 => ?_)
    · refine V_iload_n (i := 3) dX9_packedBy_43 rfl rfl ?_
      refine V_istore_n (i := 3) dX9_packedBy_44 rfl (by decide) ?_
      refine V_aload_n (i := 0) dX9_packedBy_45 rfl rfl ?_
      refine V_iload (i := 4) dX9_packedBy_46 rfl ?_
      exact V_callV (M := MX9_packedBy) (d := (d + 3)) (mc' := 0) (ms' := 0) (mc := 0) (ms := 0) (As := [.inl i4]) (rest := []) dX9_packedBy_48 tX9_addsRow vX9_addsRow lX9_299 s1 ⟨by decide, rfl⟩ rfl rfl (Nat.le_of_ble_eq_true rfl) (show (d + 1) + 1 ≤ (d + 3) by omega) (e1 c1 c2)
    · refine V_aload_n (i := 0) dX9_packedBy_30 rfl rfl ?_
      refine V_getP dX9_packedBy_31 fX9_25 rfl s1 ?_
      refine V_iload (i := 4) dX9_packedBy_34 rfl ?_
      refine V_callS (M := MX9_packedBy) (d := (d + 3)) (mc' := 0) (ms' := 0) (mc := 0) (ms := 0) (a := 0) (As := [.inl i4]) (rest := [.inr (jP h a0 9)]) dX9_packedBy_36 tX9_block0 sX9_block0 lX9_256 rfl rfl (Nat.le_of_ble_eq_true rfl) (show d + 1 ≤ (d + 3) by omega) (Ex.mono (pX9_block0 (d := d) (s4 c1 c2) (s5 c1 c2)) ?_)
      intro v h2 hq
      rw [hq.1, hq.2]
      show V MX9_packedBy (d + 3) 39 [some (.inr a0), some (.inl i1), some (.inl i2), some (.inl i3), some (.inl i4)] [.inl (11 + (33 * i4)), .inr (jP h a0 9)] h 0 0 Q
      refine V_iald dX9_packedBy_39 s2 (s6 c1 c2) (s7 c1 c2) ?_
      refine V_goto (tgt := 44) dX9_packedBy_40 (by decide) ?_
      refine V_istore_n (i := 3) dX9_packedBy_44 rfl (by decide) ?_
      refine V_aload_n (i := 0) dX9_packedBy_45 rfl rfl ?_
      refine V_iload (i := 4) dX9_packedBy_46 rfl ?_
      exact V_callV (M := MX9_packedBy) (d := (d + 3)) (mc' := 0) (ms' := 0) (mc := 0) (ms := 0) (As := [.inl i4]) (rest := []) dX9_packedBy_48 tX9_addsRow vX9_addsRow lX9_299 s1 ⟨by decide, rfl⟩ rfl rfl (Nat.le_of_ble_eq_true rfl) (show (d + 1) + 1 ≤ (d + 3) by omega) (e2 c1 c2)
theorem bX9_packedBy_51 {d : Nat} {Q : Option jA → jH → Prop} (a0 : Nat) (i1 : Int) (i2 : Int) (i3 : Int) (i4 : Int) (h : jH)
    (s1 : (jS h a0).1 = 9)
    (s2 : 0 ≤ i4)
    (s3 : i4 ≤ 6)
    (r1 : jR ((11 + (33 * i4)) + 1))
    (s4 : (jS h (jP h a0 9)).1 = 16)
    (s5 : 0 ≤ (11 + (33 * i4)) + 1)
    (s6 : (11 + (33 * i4)) + 1 < ((jS h (jP h a0 9)).2 : Int))
    (e1 : ((jX h (jP h a0 9) (((11 + (33 * i4)) + 1).toNat)) ≠ ((-9))) → Ex MX9_roomParted (d + 2) [.inr a0, .inl i1, .inl i3] h 0 0 (fun v h2 => V MX9_packedBy (d + 3) 88 [some (.inr a0), some (.inl i1), some (.inl i2), some (.inl i3), some (.inl i4)] (v.toList ++ [.inl i2]) h2 0 0 Q))
    (s7 : ((jX h (jP h a0 9) (((11 + (33 * i4)) + 1).toNat)) = ((-9))) → 3 < ((jS h (jP h a0 9)).2 : Int))
    (r2 : ((jX h (jP h a0 9) (((11 + (33 * i4)) + 1).toNat)) = ((-9))) → jR ((jX h (jP h a0 9) 3) - 1))
    (r3 : ((jX h (jP h a0 9) (((11 + (33 * i4)) + 1).toNat)) = ((-9))) → (i4 ≠ ((jX h (jP h a0 9) 3) - 1)) → jR (i4 + 1))
    (k1 : ((jX h (jP h a0 9) (((11 + (33 * i4)) + 1).toNat)) = ((-9))) → (i4 ≠ ((jX h (jP h a0 9) 3) - 1)) → V MX9_packedBy (d + 3) 13 [some (.inr a0), some (.inl i1), some (.inl i2), some (.inl i3), some (.inl (i4 + 1))] [] h 0 0 Q)
    (e2 : ((jX h (jP h a0 9) (((11 + (33 * i4)) + 1).toNat)) = ((-9))) → (i4 = ((jX h (jP h a0 9) 3) - 1)) → Ex MX9_roomParted (d + 2) [.inr a0, .inl i1, .inl i3] h 0 0 (fun v h2 => V MX9_packedBy (d + 3) 88 [some (.inr a0), some (.inl i1), some (.inl i2), some (.inl i3), some (.inl i4)] (v.toList ++ [.inl i2]) h2 0 0 Q)) :
    V MX9_packedBy (d + 3) 51 [some (.inr a0), some (.inl i1), some (.inl i2), some (.inl i3), some (.inl i4)] [] h 0 0 Q := by
  refine V_aload_n (i := 0) dX9_packedBy_51 rfl rfl ?_
  refine V_getP dX9_packedBy_52 fX9_25 rfl s1 ?_
  refine V_iload (i := 4) dX9_packedBy_55 rfl ?_
  refine V_callS (M := MX9_packedBy) (d := (d + 3)) (mc' := 0) (ms' := 0) (mc := 0) (ms := 0) (a := 0) (As := [.inl i4]) (rest := [.inr (jP h a0 9)]) dX9_packedBy_57 tX9_block0 sX9_block0 lX9_256 rfl rfl (Nat.le_of_ble_eq_true rfl) (show d + 1 ≤ (d + 3) by omega) (Ex.mono (pX9_block0 (d := d) s2 s3) ?_)
  intro v h2 hq
  rw [hq.1, hq.2]
  show V MX9_packedBy (d + 3) 60 [some (.inr a0), some (.inl i1), some (.inl i2), some (.inl i3), some (.inl i4)] [.inl (11 + (33 * i4)), .inr (jP h a0 9)] h 0 0 Q
  refine V_iconst dX9_packedBy_60 ⟨by decide, by decide⟩ ?_
  refine V_iadd dX9_packedBy_61 r1 ?_
  refine V_iald dX9_packedBy_62 s4 s5 s6 ?_
  refine V_bipush dX9_packedBy_63 (by decide +kernel) ⟨by decide, by decide⟩ ?_
  refine V_icmp_ne (tgt := 81) dX9_packedBy_65 (by decide) (fun c1 => ?_) (fun c1 => ?_)
  · refine V_iload_n (i := 2) dX9_packedBy_81 rfl rfl ?_
    refine V_aload_n (i := 0) dX9_packedBy_82 rfl rfl ?_
    refine V_iload_n (i := 1) dX9_packedBy_83 rfl rfl ?_
    refine V_iload_n (i := 3) dX9_packedBy_84 rfl rfl ?_
    exact V_callV (M := MX9_packedBy) (d := (d + 3)) (mc' := 0) (ms' := 0) (mc := 0) (ms := 0) (As := [.inl i1, .inl i3]) (rest := [.inl i2]) dX9_packedBy_85 tX9_roomParted vX9_roomParted lX9_314 s1 ⟨by decide, rfl⟩ rfl rfl (Nat.le_of_ble_eq_true rfl) (show (d + 2) + 1 ≤ (d + 3) by omega) (e1 c1)
  · refine V_iload (i := 4) dX9_packedBy_68 rfl ?_
    refine V_aload_n (i := 0) dX9_packedBy_70 rfl rfl ?_
    refine V_getP dX9_packedBy_71 fX9_25 rfl s1 ?_
    refine V_iconst dX9_packedBy_74 ⟨by decide, by decide⟩ ?_
    refine V_iald dX9_packedBy_75 s4 (by decide) (s7 c1) ?_
    refine V_iconst dX9_packedBy_76 ⟨by decide, by decide⟩ ?_
    refine V_isub dX9_packedBy_77 (r2 c1) ?_
    refine V_icmp_ne (tgt := 98) dX9_packedBy_78 (by decide) (fun c2 => ?_) (fun c2 => ?_)
    · refine V_iinc (i := 4) dX9_packedBy_98 rfl (by decide) (r3 c1 c2) ?_
      refine V_goto (tgt := 13) dX9_packedBy_101 (by decide) ?_
      exact (k1 c1 c2)
    · refine V_iload_n (i := 2) dX9_packedBy_81 rfl rfl ?_
      refine V_aload_n (i := 0) dX9_packedBy_82 rfl rfl ?_
      refine V_iload_n (i := 1) dX9_packedBy_83 rfl rfl ?_
      refine V_iload_n (i := 3) dX9_packedBy_84 rfl rfl ?_
      exact V_callV (M := MX9_packedBy) (d := (d + 3)) (mc' := 0) (ms' := 0) (mc := 0) (ms := 0) (As := [.inl i1, .inl i3]) (rest := [.inl i2]) dX9_packedBy_85 tX9_roomParted vX9_roomParted lX9_314 s1 ⟨by decide, rfl⟩ rfl rfl (Nat.le_of_ble_eq_true rfl) (show (d + 2) + 1 ≤ (d + 3) by omega) (e2 c1 c2)
theorem bX9_packedBy_88 {d : Nat} {Q : Option jA → jH → Prop} (a0 : Nat) (i1 : Int) (i2 : Int) (i3 : Int) (i4 : Int) (p0 : Int) (p1 : Int) (h : jH)
    (r1 : jR (p1 + p0))
    (s1 : (jS h a0).1 = 9)
    (r2 : jR (i4 + 1))
    (k1 : V MX9_packedBy (d + 3) 13 [some (.inr a0), some (.inl i1), some (.inl (p1 + p0)), some (.inl ((-9))), some (.inl (i4 + 1))] [] (jsI h a0 45 0) 0 0 Q) :
    V MX9_packedBy (d + 3) 88 [some (.inr a0), some (.inl i1), some (.inl i2), some (.inl i3), some (.inl i4)] [.inl p0, .inl p1] h 0 0 Q := by
  refine V_iadd dX9_packedBy_88 r1 ?_
  refine V_istore_n (i := 2) dX9_packedBy_89 rfl (by decide) ?_
  refine V_bipush dX9_packedBy_90 (by decide +kernel) ⟨by decide, by decide⟩ ?_
  refine V_istore_n (i := 3) dX9_packedBy_92 rfl (by decide) ?_
  refine V_aload_n (i := 0) dX9_packedBy_93 rfl rfl ?_
  refine V_iconst dX9_packedBy_94 ⟨by decide, by decide⟩ ?_
  refine V_putI (ci := 9) (kf := 45) dX9_packedBy_95 fX9_290 rfl rfl s1 ?_
  refine V_iinc (i := 4) dX9_packedBy_98 rfl (by decide) r2 ?_
  refine V_goto (tgt := 13) dX9_packedBy_101 (by decide) ?_
  exact k1
theorem dX9_packed_0 : decode cX9_packed 0 = .ok (.iload_n 1, 1) := by decide +kernel
theorem dX9_packed_1 : decode cX9_packed 1 = .ok (.iconst 1, 1) := by decide +kernel
theorem dX9_packed_2 : decode cX9_packed 2 = .ok (.bipush 8, 2) := by decide +kernel
theorem dX9_packed_4 : decode cX9_packed 4 = .ok (.invokestatic 95, 3) := by decide +kernel
theorem dX9_packed_7 : decode cX9_packed 7 = .ok (.ifCond .eq 11, 3) := by decide +kernel
theorem dX9_packed_10 : decode cX9_packed 10 = .ok (.aload_n 0, 1) := by decide +kernel
theorem dX9_packed_11 : decode cX9_packed 11 = .ok (.iload_n 1, 1) := by decide +kernel
theorem dX9_packed_12 : decode cX9_packed 12 = .ok (.invokevirtual 317, 3) := by decide +kernel
theorem dX9_packed_15 : decode cX9_packed 15 = .ok (.goto 4, 3) := by decide +kernel
theorem dX9_packed_18 : decode cX9_packed 18 = .ok (.iconst (-1), 1) := by decide +kernel
theorem dX9_packed_19 : decode cX9_packed 19 = .ok (.ireturn, 1) := by decide +kernel
theorem bX9_packed_0 {d : Nat} {Q : Option jA → jH → Prop} (a0 : Nat) (i1 : Int) (h : jH)
    (q1 : (¬ (1 ≤ i1 ∧ i1 ≤ 8)) → Q (some (.inl ((-1)))) h)
    (e1 : (1 ≤ i1 ∧ i1 ≤ 8) → Ex MX9_packedBy (d + 3) [.inr a0, .inl i1] h 0 0 (fun v h2 => V MX9_packed (d + 4) 15 [some (.inr a0), some (.inl i1)] (v.toList ++ []) h2 0 0 Q))
    (s1 : (jS h a0).1 = 9) :
    V MX9_packed (d + 4) 0 [some (.inr a0), some (.inl i1)] [] h 0 0 Q := by
  refine V_iload_n (i := 1) dX9_packed_0 rfl rfl ?_
  refine V_iconst dX9_packed_1 ⟨by decide, by decide⟩ ?_
  refine V_bipush dX9_packed_2 (by decide +kernel) ⟨by decide, by decide⟩ ?_
  refine V_callS (M := MX9_packed) (d := (d + 4)) (mc' := 0) (ms' := 0) (mc := 0) (ms := 0) (a := 0) (As := [.inl i1, .inl 1, .inl 8]) (rest := []) dX9_packed_4 tX9_in sX9_in lX9_95 rfl rfl (Nat.le_of_ble_eq_true rfl) (show d + 1 ≤ (d + 4) by omega) (Ex.mono (pX9_in (d := d) ) ?_)
  intro v h2 hq
  rw [hq.1, hq.2]
  show V MX9_packed (d + 4) 7 [some (.inr a0), some (.inl i1)] [.inl (jb (1 ≤ i1 ∧ i1 ≤ 8))] h 0 0 Q
  refine V_ifb_eq (tgt := 18) dX9_packed_7 (by decide) (fun c1 => ?_) (fun c1 => ?_)
  · refine V_iconst dX9_packed_18 ⟨by decide, by decide⟩ ?_
    exact V_reti rfl dX9_packed_19 (q1 c1)
  · refine V_aload_n (i := 0) dX9_packed_10 rfl rfl ?_
    refine V_iload_n (i := 1) dX9_packed_11 rfl rfl ?_
    exact V_callV (M := MX9_packed) (d := (d + 4)) (mc' := 0) (ms' := 0) (mc := 0) (ms := 0) (As := [.inl i1]) (rest := []) dX9_packed_12 tX9_packedBy vX9_packedBy lX9_317 s1 ⟨by decide, rfl⟩ rfl rfl (Nat.le_of_ble_eq_true rfl) (show (d + 3) + 1 ≤ (d + 4) by omega) (e1 c1)
theorem bX9_packed_15 {d : Nat} {Q : Option jA → jH → Prop} (a0 : Nat) (i1 : Int) (p0 : Int) (h : jH)
    (q1 : Q (some (.inl p0)) h) :
    V MX9_packed (d + 4) 15 [some (.inr a0), some (.inl i1)] [.inl p0] h 0 0 Q := by
  refine V_goto (tgt := 19) dX9_packed_15 (by decide) ?_
  exact V_reti rfl dX9_packed_19 q1
theorem dX9_best_0 : decode cX9_best 0 = .ok (.iconst 1, 1) := by decide +kernel
theorem dX9_best_1 : decode cX9_best 1 = .ok (.istore_n 1, 1) := by decide +kernel
theorem dX9_best_2 : decode cX9_best 2 = .ok (.iconst 2, 1) := by decide +kernel
theorem dX9_best_3 : decode cX9_best 3 = .ok (.istore_n 2, 1) := by decide +kernel
theorem dX9_best_4 : decode cX9_best 4 = .ok (.iload_n 2, 1) := by decide +kernel
theorem dX9_best_5 : decode cX9_best 5 = .ok (.bipush 9, 2) := by decide +kernel
theorem dX9_best_7 : decode cX9_best 7 = .ok (.if_icmp .ge 28, 3) := by decide +kernel
theorem dX9_best_10 : decode cX9_best 10 = .ok (.aload_n 0, 1) := by decide +kernel
theorem dX9_best_11 : decode cX9_best 11 = .ok (.iload_n 2, 1) := by decide +kernel
theorem dX9_best_12 : decode cX9_best 12 = .ok (.invokevirtual 317, 3) := by decide +kernel
theorem dX9_best_15 : decode cX9_best 15 = .ok (.aload_n 0, 1) := by decide +kernel
theorem dX9_best_16 : decode cX9_best 16 = .ok (.iload_n 1, 1) := by decide +kernel
theorem dX9_best_17 : decode cX9_best 17 = .ok (.invokevirtual 317, 3) := by decide +kernel
theorem dX9_best_20 : decode cX9_best 20 = .ok (.if_icmp .ge 7, 3) := by decide +kernel
theorem dX9_best_23 : decode cX9_best 23 = .ok (.iload_n 2, 1) := by decide +kernel
theorem dX9_best_24 : decode cX9_best 24 = .ok (.goto 4, 3) := by decide +kernel
theorem dX9_best_27 : decode cX9_best 27 = .ok (.iload_n 1, 1) := by decide +kernel
theorem dX9_best_28 : decode cX9_best 28 = .ok (.istore_n 1, 1) := by decide +kernel
theorem dX9_best_29 : decode cX9_best 29 = .ok (.iinc 2 1, 3) := by decide +kernel
theorem dX9_best_32 : decode cX9_best 32 = .ok (.goto (-28), 3) := by decide +kernel
theorem dX9_best_35 : decode cX9_best 35 = .ok (.iload_n 1, 1) := by decide +kernel
theorem dX9_best_36 : decode cX9_best 36 = .ok (.ireturn, 1) := by decide +kernel
theorem bX9_best_0 {d : Nat} {Q : Option jA → jH → Prop} (a0 : Nat) (u1 : Option jA) (u2 : Option jA) (h : jH)
    (k1 : V MX9_best (d + 4) 4 [some (.inr a0), some (.inl 1), some (.inl 2)] [] h 0 0 Q) :
    V MX9_best (d + 4) 0 [some (.inr a0), u1, u2] [] h 0 0 Q := by
  refine V_iconst dX9_best_0 ⟨by decide, by decide⟩ ?_
  refine V_istore_n (i := 1) dX9_best_1 rfl (by decide) ?_
  refine V_iconst dX9_best_2 ⟨by decide, by decide⟩ ?_
  refine V_istore_n (i := 2) dX9_best_3 rfl (by decide) ?_
  exact k1
theorem bX9_best_4 {d : Nat} {Q : Option jA → jH → Prop} (a0 : Nat) (i1 : Int) (i2 : Int) (h : jH)
    (q1 : (9 ≤ i2) → Q (some (.inl i1)) h)
    (e1 : (¬ (9 ≤ i2)) → Ex MX9_packedBy (d + 3) [.inr a0, .inl i2] h 0 0 (fun v h2 => V MX9_best (d + 4) 15 [some (.inr a0), some (.inl i1), some (.inl i2)] (v.toList ++ []) h2 0 0 Q))
    (s1 : (jS h a0).1 = 9) :
    V MX9_best (d + 4) 4 [some (.inr a0), some (.inl i1), some (.inl i2)] [] h 0 0 Q := by
  refine V_iload_n (i := 2) dX9_best_4 rfl rfl ?_
  refine V_bipush dX9_best_5 (by decide +kernel) ⟨by decide, by decide⟩ ?_
  refine V_icmp_ge (tgt := 35) dX9_best_7 (by decide) (fun c1 => ?_) (fun c1 => ?_)
  · refine V_iload_n (i := 1) dX9_best_35 rfl rfl ?_
    exact V_reti rfl dX9_best_36 (q1 c1)
  · refine V_aload_n (i := 0) dX9_best_10 rfl rfl ?_
    refine V_iload_n (i := 2) dX9_best_11 rfl rfl ?_
    exact V_callV (M := MX9_best) (d := (d + 4)) (mc' := 0) (ms' := 0) (mc := 0) (ms := 0) (As := [.inl i2]) (rest := []) dX9_best_12 tX9_packedBy vX9_packedBy lX9_317 s1 ⟨by decide, rfl⟩ rfl rfl (Nat.le_of_ble_eq_true rfl) (show (d + 3) + 1 ≤ (d + 4) by omega) (e1 c1)
theorem bX9_best_15 {d : Nat} {Q : Option jA → jH → Prop} (a0 : Nat) (i1 : Int) (i2 : Int) (p0 : Int) (h : jH)
    (e1 : Ex MX9_packedBy (d + 3) [.inr a0, .inl i1] h 0 0 (fun v h2 => V MX9_best (d + 4) 20 [some (.inr a0), some (.inl i1), some (.inl i2)] (v.toList ++ [.inl p0]) h2 0 0 Q))
    (s1 : (jS h a0).1 = 9) :
    V MX9_best (d + 4) 15 [some (.inr a0), some (.inl i1), some (.inl i2)] [.inl p0] h 0 0 Q := by
  refine V_aload_n (i := 0) dX9_best_15 rfl rfl ?_
  refine V_iload_n (i := 1) dX9_best_16 rfl rfl ?_
  exact V_callV (M := MX9_best) (d := (d + 4)) (mc' := 0) (ms' := 0) (mc := 0) (ms := 0) (As := [.inl i1]) (rest := [.inl p0]) dX9_best_17 tX9_packedBy vX9_packedBy lX9_317 s1 ⟨by decide, rfl⟩ rfl rfl (Nat.le_of_ble_eq_true rfl) (show (d + 3) + 1 ≤ (d + 4) by omega) e1
theorem bX9_best_20 {d : Nat} {Q : Option jA → jH → Prop} (a0 : Nat) (i1 : Int) (i2 : Int) (p0 : Int) (p1 : Int) (h : jH)
    (r1 : (p0 ≤ p1) → jR (i2 + 1))
    (k1 : (p0 ≤ p1) → V MX9_best (d + 4) 4 [some (.inr a0), some (.inl i1), some (.inl (i2 + 1))] [] h 0 0 Q)
    (r2 : (¬ (p0 ≤ p1)) → jR (i2 + 1))
    (k2 : (¬ (p0 ≤ p1)) → V MX9_best (d + 4) 4 [some (.inr a0), some (.inl i2), some (.inl (i2 + 1))] [] h 0 0 Q) :
    V MX9_best (d + 4) 20 [some (.inr a0), some (.inl i1), some (.inl i2)] [.inl p0, .inl p1] h 0 0 Q := by
  refine V_icmp_ge (tgt := 27) dX9_best_20 (by decide) (fun c1 => ?_) (fun c1 => ?_)
  · refine V_iload_n (i := 1) dX9_best_27 rfl rfl ?_
    refine V_istore_n (i := 1) dX9_best_28 rfl (by decide) ?_
    refine V_iinc (i := 2) dX9_best_29 rfl (by decide) (r1 c1) ?_
    refine V_goto (tgt := 4) dX9_best_32 (by decide) ?_
    exact (k1 c1)
  · refine V_iload_n (i := 2) dX9_best_23 rfl rfl ?_
    refine V_goto (tgt := 28) dX9_best_24 (by decide) ?_
    refine V_istore_n (i := 1) dX9_best_28 rfl (by decide) ?_
    refine V_iinc (i := 2) dX9_best_29 rfl (by decide) (r2 c1) ?_
    refine V_goto (tgt := 4) dX9_best_32 (by decide) ?_
    exact (k2 c1)
theorem dX9_sees_0 : decode cX9_sees 0 = .ok (.iload_n 1, 1) := by decide +kernel
theorem dX9_sees_1 : decode cX9_sees 1 = .ok (.iconst 0, 1) := by decide +kernel
theorem dX9_sees_2 : decode cX9_sees 2 = .ok (.sipush 999, 3) := by decide +kernel
theorem dX9_sees_5 : decode cX9_sees 5 = .ok (.invokestatic 95, 3) := by decide +kernel
theorem dX9_sees_8 : decode cX9_sees 8 = .ok (.ifCond .eq 20, 3) := by decide +kernel
theorem dX9_sees_11 : decode cX9_sees 11 = .ok (.iload_n 2, 1) := by decide +kernel
theorem dX9_sees_12 : decode cX9_sees 12 = .ok (.iconst 0, 1) := by decide +kernel
theorem dX9_sees_13 : decode cX9_sees 13 = .ok (.sipush 255, 3) := by decide +kernel
theorem dX9_sees_16 : decode cX9_sees 16 = .ok (.invokestatic 95, 3) := by decide +kernel
theorem dX9_sees_19 : decode cX9_sees 19 = .ok (.ifCond .ne 11, 3) := by decide +kernel
theorem dX9_sees_22 : decode cX9_sees 22 = .ok (.iload_n 2, 1) := by decide +kernel
theorem dX9_sees_23 : decode cX9_sees 23 = .ok (.bipush (-7), 2) := by decide +kernel
theorem dX9_sees_25 : decode cX9_sees 25 = .ok (.if_icmp .eq 5, 3) := by decide +kernel
theorem dX9_sees_28 : decode cX9_sees 28 = .ok (.iconst (-1), 1) := by decide +kernel
theorem dX9_sees_29 : decode cX9_sees 29 = .ok (.ireturn, 1) := by decide +kernel
theorem dX9_sees_30 : decode cX9_sees 30 = .ok (.aload_n 0, 1) := by decide +kernel
theorem dX9_sees_31 : decode cX9_sees 31 = .ok (.getfield 230, 3) := by decide +kernel
theorem dX9_sees_34 : decode cX9_sees 34 = .ok (.bipush 6, 2) := by decide +kernel
theorem dX9_sees_36 : decode cX9_sees 36 = .ok (.if_icmp .ne 6, 3) := by decide +kernel
theorem dX9_sees_39 : decode cX9_sees 39 = .ok (.bipush (-3), 2) := by decide +kernel
theorem dX9_sees_41 : decode cX9_sees 41 = .ok (.ireturn, 1) := by decide +kernel
theorem dX9_sees_42 : decode cX9_sees 42 = .ok (.aload_n 0, 1) := by decide +kernel
theorem dX9_sees_43 : decode cX9_sees 43 = .ok (.getfield 89, 3) := by decide +kernel
theorem dX9_sees_46 : decode cX9_sees 46 = .ok (.iconst 2, 1) := by decide +kernel
theorem dX9_sees_47 : decode cX9_sees 47 = .ok (.aload_n 0, 1) := by decide +kernel
theorem dX9_sees_48 : decode cX9_sees 48 = .ok (.getfield 230, 3) := by decide +kernel
theorem dX9_sees_51 : decode cX9_sees 51 = .ok (.imul, 1) := by decide +kernel
theorem dX9_sees_52 : decode cX9_sees 52 = .ok (.iload_n 1, 1) := by decide +kernel
theorem dX9_sees_53 : decode cX9_sees 53 = .ok (.iastore, 1) := by decide +kernel
theorem dX9_sees_54 : decode cX9_sees 54 = .ok (.aload_n 0, 1) := by decide +kernel
theorem dX9_sees_55 : decode cX9_sees 55 = .ok (.getfield 89, 3) := by decide +kernel
theorem dX9_sees_58 : decode cX9_sees 58 = .ok (.iconst 2, 1) := by decide +kernel
theorem dX9_sees_59 : decode cX9_sees 59 = .ok (.aload_n 0, 1) := by decide +kernel
theorem dX9_sees_60 : decode cX9_sees 60 = .ok (.getfield 230, 3) := by decide +kernel
theorem dX9_sees_63 : decode cX9_sees 63 = .ok (.imul, 1) := by decide +kernel
theorem dX9_sees_64 : decode cX9_sees 64 = .ok (.iconst 1, 1) := by decide +kernel
theorem dX9_sees_65 : decode cX9_sees 65 = .ok (.iadd, 1) := by decide +kernel
theorem dX9_sees_66 : decode cX9_sees 66 = .ok (.iload_n 2, 1) := by decide +kernel
theorem dX9_sees_67 : decode cX9_sees 67 = .ok (.iastore, 1) := by decide +kernel
theorem dX9_sees_68 : decode cX9_sees 68 = .ok (.aload_n 0, 1) := by decide +kernel
theorem dX9_sees_69 : decode cX9_sees 69 = .ok (.dup, 1) := by decide +kernel
theorem dX9_sees_70 : decode cX9_sees 70 = .ok (.getfield 230, 3) := by decide +kernel
theorem dX9_sees_73 : decode cX9_sees 73 = .ok (.iconst 1, 1) := by decide +kernel
theorem dX9_sees_74 : decode cX9_sees 74 = .ok (.iadd, 1) := by decide +kernel
theorem dX9_sees_75 : decode cX9_sees 75 = .ok (.putfield 230, 3) := by decide +kernel
theorem dX9_sees_78 : decode cX9_sees 78 = .ok (.aload_n 0, 1) := by decide +kernel
theorem dX9_sees_79 : decode cX9_sees 79 = .ok (.getfield 230, 3) := by decide +kernel
theorem dX9_sees_82 : decode cX9_sees 82 = .ok (.ireturn, 1) := by decide +kernel
theorem bX9_sees_0 {d : Nat} {Q : Option jA → jH → Prop} (a0 : Nat) (i1 : Int) (i2 : Int) (h : jH)
    (q1 : (¬ (0 ≤ i1 ∧ i1 ≤ 999)) → Q (some (.inl ((-1)))) h)
    (s1 : (jS h a0).1 = 9)
    (r1 : (0 ≤ i1 ∧ i1 ≤ 999) → (0 ≤ i2 ∧ i2 ≤ 255) → ((jI h a0 49) ≠ 6) → jR (2 * (jI h a0 49)))
    (s2 : (jS h (jP h a0 48)).1 = 16)
    (s3 : (0 ≤ i1 ∧ i1 ≤ 999) → (0 ≤ i2 ∧ i2 ≤ 255) → ((jI h a0 49) ≠ 6) → 0 ≤ 2 * (jI h a0 49))
    (s4 : (0 ≤ i1 ∧ i1 ≤ 999) → (0 ≤ i2 ∧ i2 ≤ 255) → ((jI h a0 49) ≠ 6) → 2 * (jI h a0 49) < ((jS h (jP h a0 48)).2 : Int))
    (r2 : (0 ≤ i1 ∧ i1 ≤ 999) → (0 ≤ i2 ∧ i2 ≤ 255) → ((jI h a0 49) ≠ 6) → jR (2 * (jI h a0 49)))
    (r3 : (0 ≤ i1 ∧ i1 ≤ 999) → (0 ≤ i2 ∧ i2 ≤ 255) → ((jI h a0 49) ≠ 6) → jR ((2 * (jI h a0 49)) + 1))
    (s5 : (0 ≤ i1 ∧ i1 ≤ 999) → (0 ≤ i2 ∧ i2 ≤ 255) → ((jI h a0 49) ≠ 6) → 0 ≤ (2 * (jI h a0 49)) + 1)
    (s6 : (0 ≤ i1 ∧ i1 ≤ 999) → (0 ≤ i2 ∧ i2 ≤ 255) → ((jI h a0 49) ≠ 6) → (2 * (jI h a0 49)) + 1 < ((jS h (jP h a0 48)).2 : Int))
    (r4 : (0 ≤ i1 ∧ i1 ≤ 999) → (0 ≤ i2 ∧ i2 ≤ 255) → ((jI h a0 49) ≠ 6) → jR ((jI h a0 49) + 1))
    (q2 : (0 ≤ i1 ∧ i1 ≤ 999) → (0 ≤ i2 ∧ i2 ≤ 255) → ((jI h a0 49) ≠ 6) → Q (some (.inl ((jI h a0 49) + 1))) (jsI (jsX (jsX h (jP h a0 48) ((2 * (jI h a0 49)).toNat) i1) (jP h a0 48) (((2 * (jI h a0 49)) + 1).toNat) i2) a0 49 ((jI h a0 49) + 1)))
    (q3 : (0 ≤ i1 ∧ i1 ≤ 999) → (0 ≤ i2 ∧ i2 ≤ 255) → ((jI h a0 49) = 6) → Q (some (.inl ((-3)))) h)
    (r5 : (0 ≤ i1 ∧ i1 ≤ 999) → (¬ (0 ≤ i2 ∧ i2 ≤ 255)) → (i2 = ((-7))) → ((jI h a0 49) ≠ 6) → jR (2 * (jI h a0 49)))
    (s7 : (0 ≤ i1 ∧ i1 ≤ 999) → (¬ (0 ≤ i2 ∧ i2 ≤ 255)) → (i2 = ((-7))) → ((jI h a0 49) ≠ 6) → 0 ≤ 2 * (jI h a0 49))
    (s8 : (0 ≤ i1 ∧ i1 ≤ 999) → (¬ (0 ≤ i2 ∧ i2 ≤ 255)) → (i2 = ((-7))) → ((jI h a0 49) ≠ 6) → 2 * (jI h a0 49) < ((jS h (jP h a0 48)).2 : Int))
    (r6 : (0 ≤ i1 ∧ i1 ≤ 999) → (¬ (0 ≤ i2 ∧ i2 ≤ 255)) → (i2 = ((-7))) → ((jI h a0 49) ≠ 6) → jR (2 * (jI h a0 49)))
    (r7 : (0 ≤ i1 ∧ i1 ≤ 999) → (¬ (0 ≤ i2 ∧ i2 ≤ 255)) → (i2 = ((-7))) → ((jI h a0 49) ≠ 6) → jR ((2 * (jI h a0 49)) + 1))
    (s9 : (0 ≤ i1 ∧ i1 ≤ 999) → (¬ (0 ≤ i2 ∧ i2 ≤ 255)) → (i2 = ((-7))) → ((jI h a0 49) ≠ 6) → 0 ≤ (2 * (jI h a0 49)) + 1)
    (s10 : (0 ≤ i1 ∧ i1 ≤ 999) → (¬ (0 ≤ i2 ∧ i2 ≤ 255)) → (i2 = ((-7))) → ((jI h a0 49) ≠ 6) → (2 * (jI h a0 49)) + 1 < ((jS h (jP h a0 48)).2 : Int))
    (r8 : (0 ≤ i1 ∧ i1 ≤ 999) → (¬ (0 ≤ i2 ∧ i2 ≤ 255)) → (i2 = ((-7))) → ((jI h a0 49) ≠ 6) → jR ((jI h a0 49) + 1))
    (q4 : (0 ≤ i1 ∧ i1 ≤ 999) → (¬ (0 ≤ i2 ∧ i2 ≤ 255)) → (i2 = ((-7))) → ((jI h a0 49) ≠ 6) → Q (some (.inl ((jI h a0 49) + 1))) (jsI (jsX (jsX h (jP h a0 48) ((2 * (jI h a0 49)).toNat) i1) (jP h a0 48) (((2 * (jI h a0 49)) + 1).toNat) i2) a0 49 ((jI h a0 49) + 1)))
    (q5 : (0 ≤ i1 ∧ i1 ≤ 999) → (¬ (0 ≤ i2 ∧ i2 ≤ 255)) → (i2 = ((-7))) → ((jI h a0 49) = 6) → Q (some (.inl ((-3)))) h)
    (q6 : (0 ≤ i1 ∧ i1 ≤ 999) → (¬ (0 ≤ i2 ∧ i2 ≤ 255)) → (¬ (i2 = ((-7)))) → Q (some (.inl ((-1)))) h) :
    V MX9_sees (d + 1) 0 [some (.inr a0), some (.inl i1), some (.inl i2)] [] h 0 0 Q := by
  refine V_iload_n (i := 1) dX9_sees_0 rfl rfl ?_
  refine V_iconst dX9_sees_1 ⟨by decide, by decide⟩ ?_
  refine V_sipush dX9_sees_2 (by decide +kernel) ⟨by decide, by decide⟩ ?_
  refine V_callS (M := MX9_sees) (d := (d + 1)) (mc' := 0) (ms' := 0) (mc := 0) (ms := 0) (a := 0) (As := [.inl i1, .inl 0, .inl 999]) (rest := []) dX9_sees_5 tX9_in sX9_in lX9_95 rfl rfl (Nat.le_of_ble_eq_true rfl) (show d + 1 ≤ (d + 1) by omega) (Ex.mono (pX9_in (d := d) ) ?_)
  intro v h2 hq
  rw [hq.1, hq.2]
  show V MX9_sees (d + 1) 8 [some (.inr a0), some (.inl i1), some (.inl i2)] [.inl (jb (0 ≤ i1 ∧ i1 ≤ 999))] h 0 0 Q
  refine V_ifb_eq (tgt := 28) dX9_sees_8 (by decide) (fun c1 => ?_) (fun c1 => ?_)
  · refine V_iconst dX9_sees_28 ⟨by decide, by decide⟩ ?_
    exact V_reti rfl dX9_sees_29 (q1 c1)
  · refine V_iload_n (i := 2) dX9_sees_11 rfl rfl ?_
    refine V_iconst dX9_sees_12 ⟨by decide, by decide⟩ ?_
    refine V_sipush dX9_sees_13 (by decide +kernel) ⟨by decide, by decide⟩ ?_
    refine V_callS (M := MX9_sees) (d := (d + 1)) (mc' := 0) (ms' := 0) (mc := 0) (ms := 0) (a := 0) (As := [.inl i2, .inl 0, .inl 255]) (rest := []) dX9_sees_16 tX9_in sX9_in lX9_95 rfl rfl (Nat.le_of_ble_eq_true rfl) (show d + 1 ≤ (d + 1) by omega) (Ex.mono (pX9_in (d := d) ) ?_)
    intro v h2 hq
    rw [hq.1, hq.2]
    show V MX9_sees (d + 1) 19 [some (.inr a0), some (.inl i1), some (.inl i2)] [.inl (jb (0 ≤ i2 ∧ i2 ≤ 255))] h 0 0 Q
    refine V_ifb_ne (tgt := 30) dX9_sees_19 (by decide) (fun c2 => ?_) (fun c2 => ?_)
    · refine V_aload_n (i := 0) dX9_sees_30 rfl rfl ?_
      refine V_getI dX9_sees_31 fX9_230 rfl s1 ?_
      refine V_bipush dX9_sees_34 (by decide +kernel) ⟨by decide, by decide⟩ ?_
      refine V_icmp_ne (tgt := 42) dX9_sees_36 (by decide) (fun c3 => ?_) (fun c3 => ?_)
      · refine V_aload_n (i := 0) dX9_sees_42 rfl rfl ?_
        refine V_getP dX9_sees_43 fX9_89 rfl s1 ?_
        refine V_iconst dX9_sees_46 ⟨by decide, by decide⟩ ?_
        refine V_aload_n (i := 0) dX9_sees_47 rfl rfl ?_
        refine V_getI dX9_sees_48 fX9_230 rfl s1 ?_
        refine V_imul dX9_sees_51 (r1 c1 c2 c3) ?_
        refine V_iload_n (i := 1) dX9_sees_52 rfl rfl ?_
        refine V_iast dX9_sees_53 s2 (s3 c1 c2 c3) (s4 c1 c2 c3) ?_
        refine V_aload_n (i := 0) dX9_sees_54 rfl rfl ?_
        refine V_getP dX9_sees_55 fX9_89 rfl s1 ?_
        refine V_iconst dX9_sees_58 ⟨by decide, by decide⟩ ?_
        refine V_aload_n (i := 0) dX9_sees_59 rfl rfl ?_
        refine V_getI dX9_sees_60 fX9_230 rfl s1 ?_
        refine V_imul dX9_sees_63 (r2 c1 c2 c3) ?_
        refine V_iconst dX9_sees_64 ⟨by decide, by decide⟩ ?_
        refine V_iadd dX9_sees_65 (r3 c1 c2 c3) ?_
        refine V_iload_n (i := 2) dX9_sees_66 rfl rfl ?_
        refine V_iast dX9_sees_67 s2 (s5 c1 c2 c3) (s6 c1 c2 c3) ?_
        refine V_aload_n (i := 0) dX9_sees_68 rfl rfl ?_
        refine V_dup dX9_sees_69 ?_
        refine V_getI dX9_sees_70 fX9_230 rfl s1 ?_
        refine V_iconst dX9_sees_73 ⟨by decide, by decide⟩ ?_
        refine V_iadd dX9_sees_74 (r4 c1 c2 c3) ?_
        refine V_putI (ci := 9) (kf := 49) dX9_sees_75 fX9_230 rfl rfl s1 ?_
        refine V_aload_n (i := 0) dX9_sees_78 rfl rfl ?_
        refine V_getI dX9_sees_79 fX9_230 rfl s1 ?_
        refine V_topI (jI_at) ?_
        exact V_reti rfl dX9_sees_82 (q2 c1 c2 c3)
      · refine V_bipush dX9_sees_39 (by decide +kernel) ⟨by decide, by decide⟩ ?_
        exact V_reti rfl dX9_sees_41 (q3 c1 c2 c3)
    · refine V_iload_n (i := 2) dX9_sees_22 rfl rfl ?_
      refine V_bipush dX9_sees_23 (by decide +kernel) ⟨by decide, by decide⟩ ?_
      refine V_icmp_eq (tgt := 30) dX9_sees_25 (by decide) (fun c4 => ?_) (fun c4 => ?_)
      · refine V_aload_n (i := 0) dX9_sees_30 rfl rfl ?_
        refine V_getI dX9_sees_31 fX9_230 rfl s1 ?_
        refine V_bipush dX9_sees_34 (by decide +kernel) ⟨by decide, by decide⟩ ?_
        refine V_icmp_ne (tgt := 42) dX9_sees_36 (by decide) (fun c5 => ?_) (fun c5 => ?_)
        · refine V_aload_n (i := 0) dX9_sees_42 rfl rfl ?_
          refine V_getP dX9_sees_43 fX9_89 rfl s1 ?_
          refine V_iconst dX9_sees_46 ⟨by decide, by decide⟩ ?_
          refine V_aload_n (i := 0) dX9_sees_47 rfl rfl ?_
          refine V_getI dX9_sees_48 fX9_230 rfl s1 ?_
          refine V_imul dX9_sees_51 (r5 c1 c2 c4 c5) ?_
          refine V_iload_n (i := 1) dX9_sees_52 rfl rfl ?_
          refine V_iast dX9_sees_53 s2 (s7 c1 c2 c4 c5) (s8 c1 c2 c4 c5) ?_
          refine V_aload_n (i := 0) dX9_sees_54 rfl rfl ?_
          refine V_getP dX9_sees_55 fX9_89 rfl s1 ?_
          refine V_iconst dX9_sees_58 ⟨by decide, by decide⟩ ?_
          refine V_aload_n (i := 0) dX9_sees_59 rfl rfl ?_
          refine V_getI dX9_sees_60 fX9_230 rfl s1 ?_
          refine V_imul dX9_sees_63 (r6 c1 c2 c4 c5) ?_
          refine V_iconst dX9_sees_64 ⟨by decide, by decide⟩ ?_
          refine V_iadd dX9_sees_65 (r7 c1 c2 c4 c5) ?_
          refine V_iload_n (i := 2) dX9_sees_66 rfl rfl ?_
          refine V_iast dX9_sees_67 s2 (s9 c1 c2 c4 c5) (s10 c1 c2 c4 c5) ?_
          refine V_aload_n (i := 0) dX9_sees_68 rfl rfl ?_
          refine V_dup dX9_sees_69 ?_
          refine V_getI dX9_sees_70 fX9_230 rfl s1 ?_
          refine V_iconst dX9_sees_73 ⟨by decide, by decide⟩ ?_
          refine V_iadd dX9_sees_74 (r8 c1 c2 c4 c5) ?_
          refine V_putI (ci := 9) (kf := 49) dX9_sees_75 fX9_230 rfl rfl s1 ?_
          refine V_aload_n (i := 0) dX9_sees_78 rfl rfl ?_
          refine V_getI dX9_sees_79 fX9_230 rfl s1 ?_
          refine V_topI (jI_at) ?_
          exact V_reti rfl dX9_sees_82 (q4 c1 c2 c4 c5)
        · refine V_bipush dX9_sees_39 (by decide +kernel) ⟨by decide, by decide⟩ ?_
          exact V_reti rfl dX9_sees_41 (q5 c1 c2 c4 c5)
      · refine V_iconst dX9_sees_28 ⟨by decide, by decide⟩ ?_
        exact V_reti rfl dX9_sees_29 (q6 c1 c2 c4)
theorem dX9_forget_0 : decode cX9_forget 0 = .ok (.aload_n 0, 1) := by decide +kernel
theorem dX9_forget_1 : decode cX9_forget 1 = .ok (.getfield 230, 3) := by decide +kernel
theorem dX9_forget_4 : decode cX9_forget 4 = .ok (.istore_n 1, 1) := by decide +kernel
theorem dX9_forget_5 : decode cX9_forget 5 = .ok (.aload_n 0, 1) := by decide +kernel
theorem dX9_forget_6 : decode cX9_forget 6 = .ok (.iconst 0, 1) := by decide +kernel
theorem dX9_forget_7 : decode cX9_forget 7 = .ok (.putfield 230, 3) := by decide +kernel
theorem dX9_forget_10 : decode cX9_forget 10 = .ok (.iload_n 1, 1) := by decide +kernel
theorem dX9_forget_11 : decode cX9_forget 11 = .ok (.ireturn, 1) := by decide +kernel
theorem bX9_forget_0 {d : Nat} {Q : Option jA → jH → Prop} (a0 : Nat) (u1 : Option jA) (h : jH)
    (s1 : (jS h a0).1 = 9)
    (q1 : Q (some (.inl (jI h a0 49))) (jsI h a0 49 0)) :
    V MX9_forget d 0 [some (.inr a0), u1] [] h 0 0 Q := by
  refine V_aload_n (i := 0) dX9_forget_0 rfl rfl ?_
  refine V_getI dX9_forget_1 fX9_230 rfl s1 ?_
  refine V_istore_n (i := 1) dX9_forget_4 rfl (by decide) ?_
  refine V_aload_n (i := 0) dX9_forget_5 rfl rfl ?_
  refine V_iconst dX9_forget_6 ⟨by decide, by decide⟩ ?_
  refine V_putI (ci := 9) (kf := 49) dX9_forget_7 fX9_230 rfl rfl s1 ?_
  refine V_iload_n (i := 1) dX9_forget_10 rfl rfl ?_
  exact V_reti rfl dX9_forget_11 q1
theorem dX9_seen_0 : decode cX9_seen 0 = .ok (.iconst 1, 1) := by decide +kernel
theorem dX9_seen_1 : decode cX9_seen 1 = .ok (.aload_n 0, 1) := by decide +kernel
theorem dX9_seen_2 : decode cX9_seen 2 = .ok (.getfield 212, 3) := by decide +kernel
theorem dX9_seen_5 : decode cX9_seen 5 = .ok (.ishl, 1) := by decide +kernel
theorem dX9_seen_6 : decode cX9_seen 6 = .ok (.iconst 1, 1) := by decide +kernel
theorem dX9_seen_7 : decode cX9_seen 7 = .ok (.isub, 1) := by decide +kernel
theorem dX9_seen_8 : decode cX9_seen 8 = .ok (.istore_n 1, 1) := by decide +kernel
theorem dX9_seen_9 : decode cX9_seen 9 = .ok (.iconst 0, 1) := by decide +kernel
theorem dX9_seen_10 : decode cX9_seen 10 = .ok (.istore_n 2, 1) := by decide +kernel
theorem dX9_seen_11 : decode cX9_seen 11 = .ok (.iload_n 2, 1) := by decide +kernel
theorem dX9_seen_12 : decode cX9_seen 12 = .ok (.aload_n 0, 1) := by decide +kernel
theorem dX9_seen_13 : decode cX9_seen 13 = .ok (.getfield 230, 3) := by decide +kernel
theorem dX9_seen_16 : decode cX9_seen 16 = .ok (.if_icmp .ge 93, 3) := by decide +kernel
theorem dX9_seen_19 : decode cX9_seen 19 = .ok (.aload_n 0, 1) := by decide +kernel
theorem dX9_seen_20 : decode cX9_seen 20 = .ok (.aload_n 0, 1) := by decide +kernel
theorem dX9_seen_21 : decode cX9_seen 21 = .ok (.getfield 89, 3) := by decide +kernel
theorem dX9_seen_24 : decode cX9_seen 24 = .ok (.iconst 2, 1) := by decide +kernel
theorem dX9_seen_25 : decode cX9_seen 25 = .ok (.iload_n 2, 1) := by decide +kernel
theorem dX9_seen_26 : decode cX9_seen 26 = .ok (.imul, 1) := by decide +kernel
theorem dX9_seen_27 : decode cX9_seen 27 = .ok (.iaload, 1) := by decide +kernel
theorem dX9_seen_28 : decode cX9_seen 28 = .ok (.invokevirtual 268, 3) := by decide +kernel
theorem dX9_seen_31 : decode cX9_seen 31 = .ok (.istore_n 3, 1) := by decide +kernel
theorem dX9_seen_32 : decode cX9_seen 32 = .ok (.iload_n 3, 1) := by decide +kernel
theorem dX9_seen_33 : decode cX9_seen 33 = .ok (.ifCond .eq 15, 3) := by decide +kernel
theorem dX9_seen_36 : decode cX9_seen 36 = .ok (.aload_n 0, 1) := by decide +kernel
theorem dX9_seen_37 : decode cX9_seen 37 = .ok (.aload_n 0, 1) := by decide +kernel
theorem dX9_seen_38 : decode cX9_seen 38 = .ok (.getfield 89, 3) := by decide +kernel
theorem dX9_seen_41 : decode cX9_seen 41 = .ok (.iconst 2, 1) := by decide +kernel
theorem dX9_seen_42 : decode cX9_seen 42 = .ok (.iload_n 2, 1) := by decide +kernel
theorem dX9_seen_43 : decode cX9_seen 43 = .ok (.imul, 1) := by decide +kernel
theorem dX9_seen_44 : decode cX9_seen 44 = .ok (.iaload, 1) := by decide +kernel
theorem dX9_seen_45 : decode cX9_seen 45 = .ok (.invokevirtual 271, 3) := by decide +kernel
theorem dX9_seen_48 : decode cX9_seen 48 = .ok (.iconst 0, 1) := by decide +kernel
theorem dX9_seen_49 : decode cX9_seen 49 = .ok (.istore 4, 2) := by decide +kernel
theorem dX9_seen_51 : decode cX9_seen 51 = .ok (.iload 4, 2) := by decide +kernel
theorem dX9_seen_53 : decode cX9_seen 53 = .ok (.aload_n 0, 1) := by decide +kernel
theorem dX9_seen_54 : decode cX9_seen 54 = .ok (.getfield 212, 3) := by decide +kernel
theorem dX9_seen_57 : decode cX9_seen 57 = .ok (.if_icmp .ge 46, 3) := by decide +kernel
theorem dX9_seen_60 : decode cX9_seen 60 = .ok (.iload_n 3, 1) := by decide +kernel
theorem dX9_seen_61 : decode cX9_seen 61 = .ok (.ifCond .eq 27, 3) := by decide +kernel
theorem dX9_seen_64 : decode cX9_seen 64 = .ok (.aload_n 0, 1) := by decide +kernel
theorem dX9_seen_65 : decode cX9_seen 65 = .ok (.getfield 59, 3) := by decide +kernel
theorem dX9_seen_68 : decode cX9_seen 68 = .ok (.iload 4, 2) := by decide +kernel
theorem dX9_seen_70 : decode cX9_seen 70 = .ok (.iaload, 1) := by decide +kernel
theorem dX9_seen_71 : decode cX9_seen 71 = .ok (.aload_n 0, 1) := by decide +kernel
theorem dX9_seen_72 : decode cX9_seen 72 = .ok (.getfield 89, 3) := by decide +kernel
theorem dX9_seen_75 : decode cX9_seen 75 = .ok (.iconst 2, 1) := by decide +kernel
theorem dX9_seen_76 : decode cX9_seen 76 = .ok (.iload_n 2, 1) := by decide +kernel
theorem dX9_seen_77 : decode cX9_seen 77 = .ok (.imul, 1) := by decide +kernel
theorem dX9_seen_78 : decode cX9_seen 78 = .ok (.iconst 1, 1) := by decide +kernel
theorem dX9_seen_79 : decode cX9_seen 79 = .ok (.iadd, 1) := by decide +kernel
theorem dX9_seen_80 : decode cX9_seen 80 = .ok (.iaload, 1) := by decide +kernel
theorem dX9_seen_81 : decode cX9_seen 81 = .ok (.if_icmp .ne 7, 3) := by decide +kernel
theorem dX9_seen_84 : decode cX9_seen 84 = .ok (.iload_n 1, 1) := by decide +kernel
theorem dX9_seen_85 : decode cX9_seen 85 = .ok (.goto 11, 3) := by decide +kernel
theorem dX9_seen_88 : decode cX9_seen 88 = .ok (.iload_n 1, 1) := by decide +kernel
theorem dX9_seen_89 : decode cX9_seen 89 = .ok (.iconst 1, 1) := by decide +kernel
theorem dX9_seen_90 : decode cX9_seen 90 = .ok (.iload 4, 2) := by decide +kernel
theorem dX9_seen_92 : decode cX9_seen 92 = .ok (.ishl, 1) := by decide +kernel
theorem dX9_seen_93 : decode cX9_seen 93 = .ok (.iconst (-1), 1) := by decide +kernel
theorem dX9_seen_94 : decode cX9_seen 94 = .ok (.ixor, 1) := by decide +kernel
theorem dX9_seen_95 : decode cX9_seen 95 = .ok (.iand, 1) := by decide +kernel
theorem dX9_seen_96 : decode cX9_seen 96 = .ok (.istore_n 1, 1) := by decide +kernel
theorem dX9_seen_97 : decode cX9_seen 97 = .ok (.iinc 4 1, 3) := by decide +kernel
theorem dX9_seen_100 : decode cX9_seen 100 = .ok (.goto (-49), 3) := by decide +kernel
theorem dX9_seen_103 : decode cX9_seen 103 = .ok (.iinc 2 1, 3) := by decide +kernel
theorem dX9_seen_106 : decode cX9_seen 106 = .ok (.goto (-95), 3) := by decide +kernel
theorem dX9_seen_109 : decode cX9_seen 109 = .ok (.iload_n 1, 1) := by decide +kernel
theorem dX9_seen_110 : decode cX9_seen 110 = .ok (.ireturn, 1) := by decide +kernel
theorem bX9_seen_0 {d : Nat} {Q : Option jA → jH → Prop} (a0 : Nat) (u1 : Option jA) (u2 : Option jA) (u3 : Option jA) (u4 : Option jA) (h : jH)
    (s1 : (jS h a0).1 = 9)
    (r1 : jR ((jshl 1 (jI h a0 1)) - 1))
    (k1 : V MX9_seen (d + 4) 11 [some (.inr a0), some (.inl ((jshl 1 (jI h a0 1)) - 1)), some (.inl 0), u3, u4] [] h 0 0 Q) :
    V MX9_seen (d + 4) 0 [some (.inr a0), u1, u2, u3, u4] [] h 0 0 Q := by
  refine V_iconst dX9_seen_0 ⟨by decide, by decide⟩ ?_
  refine V_aload_n (i := 0) dX9_seen_1 rfl rfl ?_
  refine V_getI dX9_seen_2 fX9_212 rfl s1 ?_
  refine V_ishl dX9_seen_5 ?_
  refine V_iconst dX9_seen_6 ⟨by decide, by decide⟩ ?_
  refine V_isub dX9_seen_7 r1 ?_
  refine V_istore_n (i := 1) dX9_seen_8 rfl (by decide) ?_
  refine V_iconst dX9_seen_9 ⟨by decide, by decide⟩ ?_
  refine V_istore_n (i := 2) dX9_seen_10 rfl (by decide) ?_
  exact k1
theorem bX9_seen_11 {d : Nat} {Q : Option jA → jH → Prop} (a0 : Nat) (i1 : Int) (i2 : Int) (u3 : Option jA) (u4 : Option jA) (h : jH)
    (s1 : (jS h a0).1 = 9)
    (q1 : ((jI h a0 49) ≤ i2) → Q (some (.inl i1)) h)
    (r1 : (¬ ((jI h a0 49) ≤ i2)) → jR (2 * i2))
    (s2 : (jS h (jP h a0 48)).1 = 16)
    (s3 : (¬ ((jI h a0 49) ≤ i2)) → 0 ≤ 2 * i2)
    (s4 : (¬ ((jI h a0 49) ≤ i2)) → 2 * i2 < ((jS h (jP h a0 48)).2 : Int))
    (s5 : (jS h (jP h a0 9)).1 = 16)
    (s6 : (jS h (jP h a0 9)).2 = 209)
    (k1 : (¬ ((jI h a0 49) ≤ i2)) → (¬ (0 ≤ (jX h (jP h a0 48) ((2 * i2).toNat)) ∧ (jX h (jP h a0 48) ((2 * i2).toNat)) ≤ (jX h (jP h a0 9) 0))) → V MX9_seen (d + 4) 51 [some (.inr a0), some (.inl i1), some (.inl i2), some (.inl (jb (0 ≤ (jX h (jP h a0 48) ((2 * i2).toNat)) ∧ (jX h (jP h a0 48) ((2 * i2).toNat)) ≤ (jX h (jP h a0 9) 0)))), some (.inl 0)] [] h 0 0 Q)
    (r2 : (¬ ((jI h a0 49) ≤ i2)) → (0 ≤ (jX h (jP h a0 48) ((2 * i2).toNat)) ∧ (jX h (jP h a0 48) ((2 * i2).toNat)) ≤ (jX h (jP h a0 9) 0)) → jR (2 * i2))
    (e1 : (¬ ((jI h a0 49) ≤ i2)) → (0 ≤ (jX h (jP h a0 48) ((2 * i2).toNat)) ∧ (jX h (jP h a0 48) ((2 * i2).toNat)) ≤ (jX h (jP h a0 9) 0)) → Ex MX9_laysAt (d + 3) [.inr a0, .inl (jX h (jP h a0 48) ((2 * i2).toNat))] h 0 0 (fun v h2 => V MX9_seen (d + 4) 48 [some (.inr a0), some (.inl i1), some (.inl i2), some (.inl (jb (0 ≤ (jX h (jP h a0 48) ((2 * i2).toNat)) ∧ (jX h (jP h a0 48) ((2 * i2).toNat)) ≤ (jX h (jP h a0 9) 0)))), u4] (v.toList ++ []) h2 0 0 Q)) :
    V MX9_seen (d + 4) 11 [some (.inr a0), some (.inl i1), some (.inl i2), u3, u4] [] h 0 0 Q := by
  refine V_iload_n (i := 2) dX9_seen_11 rfl rfl ?_
  refine V_aload_n (i := 0) dX9_seen_12 rfl rfl ?_
  refine V_getI dX9_seen_13 fX9_230 rfl s1 ?_
  refine V_icmp_ge (tgt := 109) dX9_seen_16 (by decide) (fun c1 => ?_) (fun c1 => ?_)
  · refine V_iload_n (i := 1) dX9_seen_109 rfl rfl ?_
    exact V_reti rfl dX9_seen_110 (q1 c1)
  · refine V_aload_n (i := 0) dX9_seen_19 rfl rfl ?_
    refine V_aload_n (i := 0) dX9_seen_20 rfl rfl ?_
    refine V_getP dX9_seen_21 fX9_89 rfl s1 ?_
    refine V_iconst dX9_seen_24 ⟨by decide, by decide⟩ ?_
    refine V_iload_n (i := 2) dX9_seen_25 rfl rfl ?_
    refine V_imul dX9_seen_26 (r1 c1) ?_
    refine V_iald dX9_seen_27 s2 (s3 c1) (s4 c1) ?_
    refine V_callV (M := MX9_seen) (d := (d + 4)) (mc' := 0) (ms' := 0) (mc := 0) (ms := 0) (As := [.inl (jX h (jP h a0 48) ((2 * i2).toNat))]) (rest := []) dX9_seen_28 tX9_isTime vX9_isTime lX9_268 s1 ⟨by decide, rfl⟩ rfl rfl (Nat.le_of_ble_eq_true rfl) (show (d + 1) + 1 ≤ (d + 4) by omega) (Ex.mono (pX9_isTime (d := d) s1 s5 s6) ?_)
    intro v h2 hq
    rw [hq.1, hq.2]
    show V MX9_seen (d + 4) 31 [some (.inr a0), some (.inl i1), some (.inl i2), u3, u4] [.inl (jb (0 ≤ (jX h (jP h a0 48) ((2 * i2).toNat)) ∧ (jX h (jP h a0 48) ((2 * i2).toNat)) ≤ (jX h (jP h a0 9) 0)))] h 0 0 Q
    refine V_istore_n (i := 3) dX9_seen_31 rfl (by decide) ?_
    refine V_iload_n (i := 3) dX9_seen_32 rfl rfl ?_
    refine V_ifb_eq (tgt := 48) dX9_seen_33 (by decide) (fun c2 => ?_) (fun c2 => ?_)
    · refine V_iconst dX9_seen_48 ⟨by decide, by decide⟩ ?_
      refine V_istore (i := 4) dX9_seen_49 (by decide) ?_
      exact (k1 c1 c2)
    · refine V_aload_n (i := 0) dX9_seen_36 rfl rfl ?_
      refine V_aload_n (i := 0) dX9_seen_37 rfl rfl ?_
      refine V_getP dX9_seen_38 fX9_89 rfl s1 ?_
      refine V_iconst dX9_seen_41 ⟨by decide, by decide⟩ ?_
      refine V_iload_n (i := 2) dX9_seen_42 rfl rfl ?_
      refine V_imul dX9_seen_43 (r2 c1 c2) ?_
      refine V_iald dX9_seen_44 s2 (s3 c1) (s4 c1) ?_
      exact V_callV (M := MX9_seen) (d := (d + 4)) (mc' := 0) (ms' := 0) (mc := 0) (ms := 0) (As := [.inl (jX h (jP h a0 48) ((2 * i2).toNat))]) (rest := []) dX9_seen_45 tX9_laysAt vX9_laysAt lX9_271 s1 ⟨by decide, rfl⟩ rfl rfl (Nat.le_of_ble_eq_true rfl) (show (d + 3) + 1 ≤ (d + 4) by omega) (e1 c1 c2)
theorem bX9_seen_51 {d : Nat} {Q : Option jA → jH → Prop} (a0 : Nat) (i1 : Int) (i2 : Int) (i3 : Int) (i4 : Int) (h : jH)
    (s1 : (jS h a0).1 = 9)
    (r1 : ((jI h a0 1) ≤ i4) → jR (i2 + 1))
    (k1 : ((jI h a0 1) ≤ i4) → V MX9_seen (d + 4) 11 [some (.inr a0), some (.inl i1), some (.inl (i2 + 1)), some (.inl i3), some (.inl i4)] [] h 0 0 Q)
    (r2 : (¬ ((jI h a0 1) ≤ i4)) → (i3 = 0) → jR (i4 + 1))
    (k2 : (¬ ((jI h a0 1) ≤ i4)) → (i3 = 0) → V MX9_seen (d + 4) 51 [some (.inr a0), some (.inl (jand i1 (jxor (jshl 1 i4) ((-1))))), some (.inl i2), some (.inl i3), some (.inl (i4 + 1))] [] h 0 0 Q)
    (s2 : (jS h (jP h a0 36)).1 = 16)
    (s3 : (¬ ((jI h a0 1) ≤ i4)) → (¬ (i3 = 0)) → 0 ≤ i4)
    (s4 : (¬ ((jI h a0 1) ≤ i4)) → (¬ (i3 = 0)) → i4 < ((jS h (jP h a0 36)).2 : Int))
    (r3 : (¬ ((jI h a0 1) ≤ i4)) → (¬ (i3 = 0)) → jR (2 * i2))
    (r4 : (¬ ((jI h a0 1) ≤ i4)) → (¬ (i3 = 0)) → jR ((2 * i2) + 1))
    (s5 : (jS h (jP h a0 48)).1 = 16)
    (s6 : (¬ ((jI h a0 1) ≤ i4)) → (¬ (i3 = 0)) → 0 ≤ (2 * i2) + 1)
    (s7 : (¬ ((jI h a0 1) ≤ i4)) → (¬ (i3 = 0)) → (2 * i2) + 1 < ((jS h (jP h a0 48)).2 : Int))
    (r5 : (¬ ((jI h a0 1) ≤ i4)) → (¬ (i3 = 0)) → ((jX h (jP h a0 36) ((i4).toNat)) ≠ (jX h (jP h a0 48) (((2 * i2) + 1).toNat))) → jR (i4 + 1))
    (k3 : (¬ ((jI h a0 1) ≤ i4)) → (¬ (i3 = 0)) → ((jX h (jP h a0 36) ((i4).toNat)) ≠ (jX h (jP h a0 48) (((2 * i2) + 1).toNat))) → V MX9_seen (d + 4) 51 [some (.inr a0), some (.inl (jand i1 (jxor (jshl 1 i4) ((-1))))), some (.inl i2), some (.inl i3), some (.inl (i4 + 1))] [] h 0 0 Q)
    (r6 : (¬ ((jI h a0 1) ≤ i4)) → (¬ (i3 = 0)) → ((jX h (jP h a0 36) ((i4).toNat)) = (jX h (jP h a0 48) (((2 * i2) + 1).toNat))) → jR (i4 + 1))
    (k4 : (¬ ((jI h a0 1) ≤ i4)) → (¬ (i3 = 0)) → ((jX h (jP h a0 36) ((i4).toNat)) = (jX h (jP h a0 48) (((2 * i2) + 1).toNat))) → V MX9_seen (d + 4) 51 [some (.inr a0), some (.inl i1), some (.inl i2), some (.inl i3), some (.inl (i4 + 1))] [] h 0 0 Q) :
    V MX9_seen (d + 4) 51 [some (.inr a0), some (.inl i1), some (.inl i2), some (.inl i3), some (.inl i4)] [] h 0 0 Q := by
  refine V_iload (i := 4) dX9_seen_51 rfl ?_
  refine V_aload_n (i := 0) dX9_seen_53 rfl rfl ?_
  refine V_getI dX9_seen_54 fX9_212 rfl s1 ?_
  refine V_icmp_ge (tgt := 103) dX9_seen_57 (by decide) (fun c1 => ?_) (fun c1 => ?_)
  · refine V_iinc (i := 2) dX9_seen_103 rfl (by decide) (r1 c1) ?_
    refine V_goto (tgt := 11) dX9_seen_106 (by decide) ?_
    exact (k1 c1)
  · refine V_iload_n (i := 3) dX9_seen_60 rfl rfl ?_
    refine V_if_eq (tgt := 88) dX9_seen_61 (by decide) (fun c2 => ?_) (fun c2 => ?_)
    · refine V_iload_n (i := 1) dX9_seen_88 rfl rfl ?_
      refine V_iconst dX9_seen_89 ⟨by decide, by decide⟩ ?_
      refine V_iload (i := 4) dX9_seen_90 rfl ?_
      refine V_ishl dX9_seen_92 ?_
      refine V_iconst dX9_seen_93 ⟨by decide, by decide⟩ ?_
      refine V_ixor dX9_seen_94 ?_
      refine V_iand dX9_seen_95 ?_
      refine V_istore_n (i := 1) dX9_seen_96 rfl (by decide) ?_
      refine V_iinc (i := 4) dX9_seen_97 rfl (by decide) (r2 c1 c2) ?_
      refine V_goto (tgt := 51) dX9_seen_100 (by decide) ?_
      exact (k2 c1 c2)
    · refine V_aload_n (i := 0) dX9_seen_64 rfl rfl ?_
      refine V_getP dX9_seen_65 fX9_59 rfl s1 ?_
      refine V_iload (i := 4) dX9_seen_68 rfl ?_
      refine V_iald dX9_seen_70 s2 (s3 c1 c2) (s4 c1 c2) ?_
      refine V_aload_n (i := 0) dX9_seen_71 rfl rfl ?_
      refine V_getP dX9_seen_72 fX9_89 rfl s1 ?_
      refine V_iconst dX9_seen_75 ⟨by decide, by decide⟩ ?_
      refine V_iload_n (i := 2) dX9_seen_76 rfl rfl ?_
      refine V_imul dX9_seen_77 (r3 c1 c2) ?_
      refine V_iconst dX9_seen_78 ⟨by decide, by decide⟩ ?_
      refine V_iadd dX9_seen_79 (r4 c1 c2) ?_
      refine V_iald dX9_seen_80 s5 (s6 c1 c2) (s7 c1 c2) ?_
      refine V_icmp_ne (tgt := 88) dX9_seen_81 (by decide) (fun c3 => ?_) (fun c3 => ?_)
      · refine V_iload_n (i := 1) dX9_seen_88 rfl rfl ?_
        refine V_iconst dX9_seen_89 ⟨by decide, by decide⟩ ?_
        refine V_iload (i := 4) dX9_seen_90 rfl ?_
        refine V_ishl dX9_seen_92 ?_
        refine V_iconst dX9_seen_93 ⟨by decide, by decide⟩ ?_
        refine V_ixor dX9_seen_94 ?_
        refine V_iand dX9_seen_95 ?_
        refine V_istore_n (i := 1) dX9_seen_96 rfl (by decide) ?_
        refine V_iinc (i := 4) dX9_seen_97 rfl (by decide) (r5 c1 c2 c3) ?_
        refine V_goto (tgt := 51) dX9_seen_100 (by decide) ?_
        exact (k3 c1 c2 c3)
      · refine V_iload_n (i := 1) dX9_seen_84 rfl rfl ?_
        refine V_goto (tgt := 96) dX9_seen_85 (by decide) ?_
        refine V_istore_n (i := 1) dX9_seen_96 rfl (by decide) ?_
        refine V_iinc (i := 4) dX9_seen_97 rfl (by decide) (r6 c1 c2 c3) ?_
        refine V_goto (tgt := 51) dX9_seen_100 (by decide) ?_
        exact (k4 c1 c2 c3)
theorem bX9_seen_48 {d : Nat} {Q : Option jA → jH → Prop} (a0 : Nat) (i1 : Int) (i2 : Int) (i3 : Int) (u4 : Option jA) (h : jH)
    (k1 : V MX9_seen (d + 4) 51 [some (.inr a0), some (.inl i1), some (.inl i2), some (.inl i3), some (.inl 0)] [] h 0 0 Q) :
    V MX9_seen (d + 4) 48 [some (.inr a0), some (.inl i1), some (.inl i2), some (.inl i3), u4] [] h 0 0 Q := by
  refine V_iconst dX9_seen_48 ⟨by decide, by decide⟩ ?_
  refine V_istore (i := 4) dX9_seen_49 (by decide) ?_
  exact k1
theorem dX9_which_0 : decode cX9_which 0 = .ok (.aload_n 0, 1) := by decide +kernel
theorem dX9_which_1 : decode cX9_which 1 = .ok (.invokevirtual 320, 3) := by decide +kernel
theorem dX9_which_4 : decode cX9_which 4 = .ok (.ireturn, 1) := by decide +kernel
theorem bX9_which_0 {d : Nat} {Q : Option jA → jH → Prop} (a0 : Nat) (h : jH)
    (e1 : Ex MX9_seen (d + 4) [.inr a0] h 0 0 (fun v h2 => V MX9_which (d + 5) 4 [some (.inr a0)] (v.toList ++ []) h2 0 0 Q))
    (s1 : (jS h a0).1 = 9) :
    V MX9_which (d + 5) 0 [some (.inr a0)] [] h 0 0 Q := by
  refine V_aload_n (i := 0) dX9_which_0 rfl rfl ?_
  exact V_callV (M := MX9_which) (d := (d + 5)) (mc' := 0) (ms' := 0) (mc := 0) (ms := 0) (As := []) (rest := []) dX9_which_1 tX9_seen vX9_seen lX9_320 s1 ⟨by decide, rfl⟩ rfl rfl (Nat.le_of_ble_eq_true rfl) (show (d + 4) + 1 ≤ (d + 5) by omega) e1
theorem bX9_which_4 {d : Nat} {Q : Option jA → jH → Prop} (a0 : Nat) (p0 : Int) (h : jH)
    (q1 : Q (some (.inl p0)) h) :
    V MX9_which (d + 5) 4 [some (.inr a0)] [.inl p0] h 0 0 Q := by
  exact V_reti rfl dX9_which_4 q1
theorem dX9_mostAlike_0 : decode cX9_mostAlike 0 = .ok (.iconst 0, 1) := by decide +kernel
theorem dX9_mostAlike_1 : decode cX9_mostAlike 1 = .ok (.istore_n 2, 1) := by decide +kernel
theorem dX9_mostAlike_2 : decode cX9_mostAlike 2 = .ok (.iconst 0, 1) := by decide +kernel
theorem dX9_mostAlike_3 : decode cX9_mostAlike 3 = .ok (.istore_n 3, 1) := by decide +kernel
theorem dX9_mostAlike_4 : decode cX9_mostAlike 4 = .ok (.iload_n 3, 1) := by decide +kernel
theorem dX9_mostAlike_5 : decode cX9_mostAlike 5 = .ok (.aload_n 0, 1) := by decide +kernel
theorem dX9_mostAlike_6 : decode cX9_mostAlike 6 = .ok (.getfield 212, 3) := by decide +kernel
theorem dX9_mostAlike_9 : decode cX9_mostAlike 9 = .ok (.if_icmp .ge 88, 3) := by decide +kernel
theorem dX9_mostAlike_12 : decode cX9_mostAlike 12 = .ok (.iconst 0, 1) := by decide +kernel
theorem dX9_mostAlike_13 : decode cX9_mostAlike 13 = .ok (.istore 4, 2) := by decide +kernel
theorem dX9_mostAlike_15 : decode cX9_mostAlike 15 = .ok (.iconst 0, 1) := by decide +kernel
theorem dX9_mostAlike_16 : decode cX9_mostAlike 16 = .ok (.istore 5, 2) := by decide +kernel
theorem dX9_mostAlike_18 : decode cX9_mostAlike 18 = .ok (.iload 5, 2) := by decide +kernel
theorem dX9_mostAlike_20 : decode cX9_mostAlike 20 = .ok (.aload_n 0, 1) := by decide +kernel
theorem dX9_mostAlike_21 : decode cX9_mostAlike 21 = .ok (.getfield 212, 3) := by decide +kernel
theorem dX9_mostAlike_24 : decode cX9_mostAlike 24 = .ok (.if_icmp .ge 54, 3) := by decide +kernel
theorem dX9_mostAlike_27 : decode cX9_mostAlike 27 = .ok (.iload 4, 2) := by decide +kernel
theorem dX9_mostAlike_29 : decode cX9_mostAlike 29 = .ok (.iload_n 1, 1) := by decide +kernel
theorem dX9_mostAlike_30 : decode cX9_mostAlike 30 = .ok (.iload_n 3, 1) := by decide +kernel
theorem dX9_mostAlike_31 : decode cX9_mostAlike 31 = .ok (.ishr, 1) := by decide +kernel
theorem dX9_mostAlike_32 : decode cX9_mostAlike 32 = .ok (.iconst 1, 1) := by decide +kernel
theorem dX9_mostAlike_33 : decode cX9_mostAlike 33 = .ok (.iand, 1) := by decide +kernel
theorem dX9_mostAlike_34 : decode cX9_mostAlike 34 = .ok (.iconst 1, 1) := by decide +kernel
theorem dX9_mostAlike_35 : decode cX9_mostAlike 35 = .ok (.if_icmp .ne 33, 3) := by decide +kernel
theorem dX9_mostAlike_38 : decode cX9_mostAlike 38 = .ok (.iload_n 1, 1) := by decide +kernel
theorem dX9_mostAlike_39 : decode cX9_mostAlike 39 = .ok (.iload 5, 2) := by decide +kernel
theorem dX9_mostAlike_41 : decode cX9_mostAlike 41 = .ok (.ishr, 1) := by decide +kernel
theorem dX9_mostAlike_42 : decode cX9_mostAlike 42 = .ok (.iconst 1, 1) := by decide +kernel
theorem dX9_mostAlike_43 : decode cX9_mostAlike 43 = .ok (.iand, 1) := by decide +kernel
theorem dX9_mostAlike_44 : decode cX9_mostAlike 44 = .ok (.iconst 1, 1) := by decide +kernel
theorem dX9_mostAlike_45 : decode cX9_mostAlike 45 = .ok (.if_icmp .ne 23, 3) := by decide +kernel
theorem dX9_mostAlike_48 : decode cX9_mostAlike 48 = .ok (.aload_n 0, 1) := by decide +kernel
theorem dX9_mostAlike_49 : decode cX9_mostAlike 49 = .ok (.getfield 59, 3) := by decide +kernel
theorem dX9_mostAlike_52 : decode cX9_mostAlike 52 = .ok (.iload_n 3, 1) := by decide +kernel
theorem dX9_mostAlike_53 : decode cX9_mostAlike 53 = .ok (.iaload, 1) := by decide +kernel
theorem dX9_mostAlike_54 : decode cX9_mostAlike 54 = .ok (.aload_n 0, 1) := by decide +kernel
theorem dX9_mostAlike_55 : decode cX9_mostAlike 55 = .ok (.getfield 59, 3) := by decide +kernel
theorem dX9_mostAlike_58 : decode cX9_mostAlike 58 = .ok (.iload 5, 2) := by decide +kernel
theorem dX9_mostAlike_60 : decode cX9_mostAlike 60 = .ok (.iaload, 1) := by decide +kernel
theorem dX9_mostAlike_61 : decode cX9_mostAlike 61 = .ok (.if_icmp .ne 7, 3) := by decide +kernel
theorem dX9_mostAlike_64 : decode cX9_mostAlike 64 = .ok (.iconst 1, 1) := by decide +kernel
theorem dX9_mostAlike_65 : decode cX9_mostAlike 65 = .ok (.goto 4, 3) := by decide +kernel
theorem dX9_mostAlike_68 : decode cX9_mostAlike 68 = .ok (.iconst 0, 1) := by decide +kernel
theorem dX9_mostAlike_69 : decode cX9_mostAlike 69 = .ok (.iadd, 1) := by decide +kernel
theorem dX9_mostAlike_70 : decode cX9_mostAlike 70 = .ok (.istore 4, 2) := by decide +kernel
theorem dX9_mostAlike_72 : decode cX9_mostAlike 72 = .ok (.iinc 5 1, 3) := by decide +kernel
theorem dX9_mostAlike_75 : decode cX9_mostAlike 75 = .ok (.goto (-57), 3) := by decide +kernel
theorem dX9_mostAlike_78 : decode cX9_mostAlike 78 = .ok (.iload 4, 2) := by decide +kernel
theorem dX9_mostAlike_80 : decode cX9_mostAlike 80 = .ok (.iload_n 2, 1) := by decide +kernel
theorem dX9_mostAlike_81 : decode cX9_mostAlike 81 = .ok (.if_icmp .le 8, 3) := by decide +kernel
theorem dX9_mostAlike_84 : decode cX9_mostAlike 84 = .ok (.iload 4, 2) := by decide +kernel
theorem dX9_mostAlike_86 : decode cX9_mostAlike 86 = .ok (.goto 4, 3) := by decide +kernel
theorem dX9_mostAlike_89 : decode cX9_mostAlike 89 = .ok (.iload_n 2, 1) := by decide +kernel
theorem dX9_mostAlike_90 : decode cX9_mostAlike 90 = .ok (.istore_n 2, 1) := by decide +kernel
theorem dX9_mostAlike_91 : decode cX9_mostAlike 91 = .ok (.iinc 3 1, 3) := by decide +kernel
theorem dX9_mostAlike_94 : decode cX9_mostAlike 94 = .ok (.goto (-90), 3) := by decide +kernel
theorem dX9_mostAlike_97 : decode cX9_mostAlike 97 = .ok (.iload_n 2, 1) := by decide +kernel
theorem dX9_mostAlike_98 : decode cX9_mostAlike 98 = .ok (.ireturn, 1) := by decide +kernel
theorem bX9_mostAlike_0 {d : Nat} {Q : Option jA → jH → Prop} (a0 : Nat) (i1 : Int) (u2 : Option jA) (u3 : Option jA) (u4 : Option jA) (u5 : Option jA) (h : jH)
    (k1 : V MX9_mostAlike d 4 [some (.inr a0), some (.inl i1), some (.inl 0), some (.inl 0), u4, u5] [] h 0 0 Q) :
    V MX9_mostAlike d 0 [some (.inr a0), some (.inl i1), u2, u3, u4, u5] [] h 0 0 Q := by
  refine V_iconst dX9_mostAlike_0 ⟨by decide, by decide⟩ ?_
  refine V_istore_n (i := 2) dX9_mostAlike_1 rfl (by decide) ?_
  refine V_iconst dX9_mostAlike_2 ⟨by decide, by decide⟩ ?_
  refine V_istore_n (i := 3) dX9_mostAlike_3 rfl (by decide) ?_
  exact k1
theorem bX9_mostAlike_4 {d : Nat} {Q : Option jA → jH → Prop} (a0 : Nat) (i1 : Int) (i2 : Int) (i3 : Int) (u4 : Option jA) (u5 : Option jA) (h : jH)
    (s1 : (jS h a0).1 = 9)
    (q1 : ((jI h a0 1) ≤ i3) → Q (some (.inl i2)) h)
    (k1 : (¬ ((jI h a0 1) ≤ i3)) → V MX9_mostAlike d 18 [some (.inr a0), some (.inl i1), some (.inl i2), some (.inl i3), some (.inl 0), some (.inl 0)] [] h 0 0 Q) :
    V MX9_mostAlike d 4 [some (.inr a0), some (.inl i1), some (.inl i2), some (.inl i3), u4, u5] [] h 0 0 Q := by
  refine V_iload_n (i := 3) dX9_mostAlike_4 rfl rfl ?_
  refine V_aload_n (i := 0) dX9_mostAlike_5 rfl rfl ?_
  refine V_getI dX9_mostAlike_6 fX9_212 rfl s1 ?_
  refine V_icmp_ge (tgt := 97) dX9_mostAlike_9 (by decide) (fun c1 => ?_) (fun c1 => ?_)
  · refine V_iload_n (i := 2) dX9_mostAlike_97 rfl rfl ?_
    exact V_reti rfl dX9_mostAlike_98 (q1 c1)
  · refine V_iconst dX9_mostAlike_12 ⟨by decide, by decide⟩ ?_
    refine V_istore (i := 4) dX9_mostAlike_13 (by decide) ?_
    refine V_iconst dX9_mostAlike_15 ⟨by decide, by decide⟩ ?_
    refine V_istore (i := 5) dX9_mostAlike_16 (by decide) ?_
    exact (k1 c1)
theorem bX9_mostAlike_18 {d : Nat} {Q : Option jA → jH → Prop} (a0 : Nat) (i1 : Int) (i2 : Int) (i3 : Int) (i4 : Int) (i5 : Int) (h : jH)
    (s1 : (jS h a0).1 = 9)
    (r1 : ((jI h a0 1) ≤ i5) → (i4 ≤ i2) → jR (i3 + 1))
    (k1 : ((jI h a0 1) ≤ i5) → (i4 ≤ i2) → V MX9_mostAlike d 4 [some (.inr a0), some (.inl i1), some (.inl i2), some (.inl (i3 + 1)), some (.inl i4), some (.inl i5)] [] h 0 0 Q)
    (r2 : ((jI h a0 1) ≤ i5) → (¬ (i4 ≤ i2)) → jR (i3 + 1))
    (k2 : ((jI h a0 1) ≤ i5) → (¬ (i4 ≤ i2)) → V MX9_mostAlike d 4 [some (.inr a0), some (.inl i1), some (.inl i4), some (.inl (i3 + 1)), some (.inl i4), some (.inl i5)] [] h 0 0 Q)
    (r3 : (¬ ((jI h a0 1) ≤ i5)) → ((jand (jshr i1 i3) 1) ≠ 1) → jR (i4 + 0))
    (r4 : (¬ ((jI h a0 1) ≤ i5)) → ((jand (jshr i1 i3) 1) ≠ 1) → jR (i5 + 1))
    (k3 : (¬ ((jI h a0 1) ≤ i5)) → ((jand (jshr i1 i3) 1) ≠ 1) → V MX9_mostAlike d 18 [some (.inr a0), some (.inl i1), some (.inl i2), some (.inl i3), some (.inl (i4 + 0)), some (.inl (i5 + 1))] [] h 0 0 Q)
    (r5 : (¬ ((jI h a0 1) ≤ i5)) → ((jand (jshr i1 i3) 1) = 1) → ((jand (jshr i1 i5) 1) ≠ 1) → jR (i4 + 0))
    (r6 : (¬ ((jI h a0 1) ≤ i5)) → ((jand (jshr i1 i3) 1) = 1) → ((jand (jshr i1 i5) 1) ≠ 1) → jR (i5 + 1))
    (k4 : (¬ ((jI h a0 1) ≤ i5)) → ((jand (jshr i1 i3) 1) = 1) → ((jand (jshr i1 i5) 1) ≠ 1) → V MX9_mostAlike d 18 [some (.inr a0), some (.inl i1), some (.inl i2), some (.inl i3), some (.inl (i4 + 0)), some (.inl (i5 + 1))] [] h 0 0 Q)
    (s2 : (jS h (jP h a0 36)).1 = 16)
    (s3 : (¬ ((jI h a0 1) ≤ i5)) → ((jand (jshr i1 i3) 1) = 1) → ((jand (jshr i1 i5) 1) = 1) → 0 ≤ i3)
    (s4 : (¬ ((jI h a0 1) ≤ i5)) → ((jand (jshr i1 i3) 1) = 1) → ((jand (jshr i1 i5) 1) = 1) → i3 < ((jS h (jP h a0 36)).2 : Int))
    (s5 : (¬ ((jI h a0 1) ≤ i5)) → ((jand (jshr i1 i3) 1) = 1) → ((jand (jshr i1 i5) 1) = 1) → 0 ≤ i5)
    (s6 : (¬ ((jI h a0 1) ≤ i5)) → ((jand (jshr i1 i3) 1) = 1) → ((jand (jshr i1 i5) 1) = 1) → i5 < ((jS h (jP h a0 36)).2 : Int))
    (r7 : (¬ ((jI h a0 1) ≤ i5)) → ((jand (jshr i1 i3) 1) = 1) → ((jand (jshr i1 i5) 1) = 1) → ((jX h (jP h a0 36) ((i3).toNat)) ≠ (jX h (jP h a0 36) ((i5).toNat))) → jR (i4 + 0))
    (r8 : (¬ ((jI h a0 1) ≤ i5)) → ((jand (jshr i1 i3) 1) = 1) → ((jand (jshr i1 i5) 1) = 1) → ((jX h (jP h a0 36) ((i3).toNat)) ≠ (jX h (jP h a0 36) ((i5).toNat))) → jR (i5 + 1))
    (k5 : (¬ ((jI h a0 1) ≤ i5)) → ((jand (jshr i1 i3) 1) = 1) → ((jand (jshr i1 i5) 1) = 1) → ((jX h (jP h a0 36) ((i3).toNat)) ≠ (jX h (jP h a0 36) ((i5).toNat))) → V MX9_mostAlike d 18 [some (.inr a0), some (.inl i1), some (.inl i2), some (.inl i3), some (.inl (i4 + 0)), some (.inl (i5 + 1))] [] h 0 0 Q)
    (r9 : (¬ ((jI h a0 1) ≤ i5)) → ((jand (jshr i1 i3) 1) = 1) → ((jand (jshr i1 i5) 1) = 1) → ((jX h (jP h a0 36) ((i3).toNat)) = (jX h (jP h a0 36) ((i5).toNat))) → jR (i4 + 1))
    (r10 : (¬ ((jI h a0 1) ≤ i5)) → ((jand (jshr i1 i3) 1) = 1) → ((jand (jshr i1 i5) 1) = 1) → ((jX h (jP h a0 36) ((i3).toNat)) = (jX h (jP h a0 36) ((i5).toNat))) → jR (i5 + 1))
    (k6 : (¬ ((jI h a0 1) ≤ i5)) → ((jand (jshr i1 i3) 1) = 1) → ((jand (jshr i1 i5) 1) = 1) → ((jX h (jP h a0 36) ((i3).toNat)) = (jX h (jP h a0 36) ((i5).toNat))) → V MX9_mostAlike d 18 [some (.inr a0), some (.inl i1), some (.inl i2), some (.inl i3), some (.inl (i4 + 1)), some (.inl (i5 + 1))] [] h 0 0 Q) :
    V MX9_mostAlike d 18 [some (.inr a0), some (.inl i1), some (.inl i2), some (.inl i3), some (.inl i4), some (.inl i5)] [] h 0 0 Q := by
  refine V_iload (i := 5) dX9_mostAlike_18 rfl ?_
  refine V_aload_n (i := 0) dX9_mostAlike_20 rfl rfl ?_
  refine V_getI dX9_mostAlike_21 fX9_212 rfl s1 ?_
  refine V_icmp_ge (tgt := 78) dX9_mostAlike_24 (by decide) (fun c1 => ?_) (fun c1 => ?_)
  · refine V_iload (i := 4) dX9_mostAlike_78 rfl ?_
    refine V_iload_n (i := 2) dX9_mostAlike_80 rfl rfl ?_
    refine V_icmp_le (tgt := 89) dX9_mostAlike_81 (by decide) (fun c2 => ?_) (fun c2 => ?_)
    · refine V_iload_n (i := 2) dX9_mostAlike_89 rfl rfl ?_
      refine V_istore_n (i := 2) dX9_mostAlike_90 rfl (by decide) ?_
      refine V_iinc (i := 3) dX9_mostAlike_91 rfl (by decide) (r1 c1 c2) ?_
      refine V_goto (tgt := 4) dX9_mostAlike_94 (by decide) ?_
      exact (k1 c1 c2)
    · refine V_iload (i := 4) dX9_mostAlike_84 rfl ?_
      refine V_goto (tgt := 90) dX9_mostAlike_86 (by decide) ?_
      refine V_istore_n (i := 2) dX9_mostAlike_90 rfl (by decide) ?_
      refine V_iinc (i := 3) dX9_mostAlike_91 rfl (by decide) (r2 c1 c2) ?_
      refine V_goto (tgt := 4) dX9_mostAlike_94 (by decide) ?_
      exact (k2 c1 c2)
  · refine V_iload (i := 4) dX9_mostAlike_27 rfl ?_
    refine V_iload_n (i := 1) dX9_mostAlike_29 rfl rfl ?_
    refine V_iload_n (i := 3) dX9_mostAlike_30 rfl rfl ?_
    refine V_ishr dX9_mostAlike_31 ?_
    refine V_iconst dX9_mostAlike_32 ⟨by decide, by decide⟩ ?_
    refine V_iand dX9_mostAlike_33 ?_
    refine V_iconst dX9_mostAlike_34 ⟨by decide, by decide⟩ ?_
    refine V_icmp_ne (tgt := 68) dX9_mostAlike_35 (by decide) (fun c3 => ?_) (fun c3 => ?_)
    · refine V_iconst dX9_mostAlike_68 ⟨by decide, by decide⟩ ?_
      refine V_iadd dX9_mostAlike_69 (r3 c1 c3) ?_
      refine V_istore (i := 4) dX9_mostAlike_70 (by decide) ?_
      refine V_iinc (i := 5) dX9_mostAlike_72 rfl (by decide) (r4 c1 c3) ?_
      refine V_goto (tgt := 18) dX9_mostAlike_75 (by decide) ?_
      exact (k3 c1 c3)
    · refine V_iload_n (i := 1) dX9_mostAlike_38 rfl rfl ?_
      refine V_iload (i := 5) dX9_mostAlike_39 rfl ?_
      refine V_ishr dX9_mostAlike_41 ?_
      refine V_iconst dX9_mostAlike_42 ⟨by decide, by decide⟩ ?_
      refine V_iand dX9_mostAlike_43 ?_
      refine V_iconst dX9_mostAlike_44 ⟨by decide, by decide⟩ ?_
      refine V_icmp_ne (tgt := 68) dX9_mostAlike_45 (by decide) (fun c4 => ?_) (fun c4 => ?_)
      · refine V_iconst dX9_mostAlike_68 ⟨by decide, by decide⟩ ?_
        refine V_iadd dX9_mostAlike_69 (r5 c1 c3 c4) ?_
        refine V_istore (i := 4) dX9_mostAlike_70 (by decide) ?_
        refine V_iinc (i := 5) dX9_mostAlike_72 rfl (by decide) (r6 c1 c3 c4) ?_
        refine V_goto (tgt := 18) dX9_mostAlike_75 (by decide) ?_
        exact (k4 c1 c3 c4)
      · refine V_aload_n (i := 0) dX9_mostAlike_48 rfl rfl ?_
        refine V_getP dX9_mostAlike_49 fX9_59 rfl s1 ?_
        refine V_iload_n (i := 3) dX9_mostAlike_52 rfl rfl ?_
        refine V_iald dX9_mostAlike_53 s2 (s3 c1 c3 c4) (s4 c1 c3 c4) ?_
        refine V_aload_n (i := 0) dX9_mostAlike_54 rfl rfl ?_
        refine V_getP dX9_mostAlike_55 fX9_59 rfl s1 ?_
        refine V_iload (i := 5) dX9_mostAlike_58 rfl ?_
        refine V_iald dX9_mostAlike_60 s2 (s5 c1 c3 c4) (s6 c1 c3 c4) ?_
        refine V_icmp_ne (tgt := 68) dX9_mostAlike_61 (by decide) (fun c5 => ?_) (fun c5 => ?_)
        · refine V_iconst dX9_mostAlike_68 ⟨by decide, by decide⟩ ?_
          refine V_iadd dX9_mostAlike_69 (r7 c1 c3 c4 c5) ?_
          refine V_istore (i := 4) dX9_mostAlike_70 (by decide) ?_
          refine V_iinc (i := 5) dX9_mostAlike_72 rfl (by decide) (r8 c1 c3 c4 c5) ?_
          refine V_goto (tgt := 18) dX9_mostAlike_75 (by decide) ?_
          exact (k5 c1 c3 c4 c5)
        · refine V_iconst dX9_mostAlike_64 ⟨by decide, by decide⟩ ?_
          refine V_goto (tgt := 69) dX9_mostAlike_65 (by decide) ?_
          refine V_iadd dX9_mostAlike_69 (r9 c1 c3 c4 c5) ?_
          refine V_istore (i := 4) dX9_mostAlike_70 (by decide) ?_
          refine V_iinc (i := 5) dX9_mostAlike_72 rfl (by decide) (r10 c1 c3 c4 c5) ?_
          refine V_goto (tgt := 18) dX9_mostAlike_75 (by decide) ?_
          exact (k6 c1 c3 c4 c5)
theorem dX9_look_0 : decode cX9_look 0 = .ok (.aload_n 0, 1) := by decide +kernel
theorem dX9_look_1 : decode cX9_look 1 = .ok (.invokevirtual 320, 3) := by decide +kernel
theorem dX9_look_4 : decode cX9_look 4 = .ok (.istore_n 1, 1) := by decide +kernel
theorem dX9_look_5 : decode cX9_look 5 = .ok (.iload_n 1, 1) := by decide +kernel
theorem dX9_look_6 : decode cX9_look 6 = .ok (.iload_n 1, 1) := by decide +kernel
theorem dX9_look_7 : decode cX9_look 7 = .ok (.iconst 1, 1) := by decide +kernel
theorem dX9_look_8 : decode cX9_look 8 = .ok (.isub, 1) := by decide +kernel
theorem dX9_look_9 : decode cX9_look 9 = .ok (.iand, 1) := by decide +kernel
theorem dX9_look_10 : decode cX9_look 10 = .ok (.ifCond .ne 6, 3) := by decide +kernel
theorem dX9_look_13 : decode cX9_look 13 = .ok (.bipush (-9), 2) := by decide +kernel
theorem dX9_look_15 : decode cX9_look 15 = .ok (.ireturn, 1) := by decide +kernel
theorem dX9_look_16 : decode cX9_look 16 = .ok (.aload_n 0, 1) := by decide +kernel
theorem dX9_look_17 : decode cX9_look 17 = .ok (.invokevirtual 274, 3) := by decide +kernel
theorem dX9_look_20 : decode cX9_look 20 = .ok (.bipush (-9), 2) := by decide +kernel
theorem dX9_look_22 : decode cX9_look 22 = .ok (.istore_n 2, 1) := by decide +kernel
theorem dX9_look_23 : decode cX9_look 23 = .ok (.iconst 0, 1) := by decide +kernel
theorem dX9_look_24 : decode cX9_look 24 = .ok (.istore_n 3, 1) := by decide +kernel
theorem dX9_look_25 : decode cX9_look 25 = .ok (.iconst 0, 1) := by decide +kernel
theorem dX9_look_26 : decode cX9_look 26 = .ok (.istore 4, 2) := by decide +kernel
theorem dX9_look_28 : decode cX9_look 28 = .ok (.iload 4, 2) := by decide +kernel
theorem dX9_look_30 : decode cX9_look 30 = .ok (.aload_n 0, 1) := by decide +kernel
theorem dX9_look_31 : decode cX9_look 31 = .ok (.getfield 25, 3) := by decide +kernel
theorem dX9_look_34 : decode cX9_look 34 = .ok (.iconst 0, 1) := by decide +kernel
theorem dX9_look_35 : decode cX9_look 35 = .ok (.iaload, 1) := by decide +kernel
theorem dX9_look_36 : decode cX9_look 36 = .ok (.if_icmp .gt 50, 3) := by decide +kernel
theorem dX9_look_39 : decode cX9_look 39 = .ok (.aload_n 0, 1) := by decide +kernel
theorem dX9_look_40 : decode cX9_look 40 = .ok (.getfield 68, 3) := by decide +kernel
theorem dX9_look_43 : decode cX9_look 43 = .ok (.iload 4, 2) := by decide +kernel
theorem dX9_look_45 : decode cX9_look 45 = .ok (.baload, 1) := by decide +kernel
theorem dX9_look_46 : decode cX9_look 46 = .ok (.ifCond .eq 34, 3) := by decide +kernel
theorem dX9_look_49 : decode cX9_look 49 = .ok (.aload_n 0, 1) := by decide +kernel
theorem dX9_look_50 : decode cX9_look 50 = .ok (.iload 4, 2) := by decide +kernel
theorem dX9_look_52 : decode cX9_look 52 = .ok (.invokevirtual 271, 3) := by decide +kernel
theorem dX9_look_55 : decode cX9_look 55 = .ok (.aload_n 0, 1) := by decide +kernel
theorem dX9_look_56 : decode cX9_look 56 = .ok (.iload_n 1, 1) := by decide +kernel
theorem dX9_look_57 : decode cX9_look 57 = .ok (.invokevirtual 323, 3) := by decide +kernel
theorem dX9_look_60 : decode cX9_look 60 = .ok (.istore 5, 2) := by decide +kernel
theorem dX9_look_62 : decode cX9_look 62 = .ok (.iload_n 2, 1) := by decide +kernel
theorem dX9_look_63 : decode cX9_look 63 = .ok (.bipush (-9), 2) := by decide +kernel
theorem dX9_look_65 : decode cX9_look 65 = .ok (.if_icmp .eq 9, 3) := by decide +kernel
theorem dX9_look_68 : decode cX9_look 68 = .ok (.iload 5, 2) := by decide +kernel
theorem dX9_look_70 : decode cX9_look 70 = .ok (.iload_n 3, 1) := by decide +kernel
theorem dX9_look_71 : decode cX9_look 71 = .ok (.if_icmp .ge 9, 3) := by decide +kernel
theorem dX9_look_74 : decode cX9_look 74 = .ok (.iload 4, 2) := by decide +kernel
theorem dX9_look_76 : decode cX9_look 76 = .ok (.istore_n 2, 1) := by decide +kernel
theorem dX9_look_77 : decode cX9_look 77 = .ok (.iload 5, 2) := by decide +kernel
theorem dX9_look_79 : decode cX9_look 79 = .ok (.istore_n 3, 1) := by decide +kernel
theorem dX9_look_80 : decode cX9_look 80 = .ok (.iinc 4 1, 3) := by decide +kernel
theorem dX9_look_83 : decode cX9_look 83 = .ok (.goto (-55), 3) := by decide +kernel
theorem dX9_look_86 : decode cX9_look 86 = .ok (.iload_n 2, 1) := by decide +kernel
theorem dX9_look_87 : decode cX9_look 87 = .ok (.ireturn, 1) := by decide +kernel
theorem bX9_look_0 {d : Nat} {Q : Option jA → jH → Prop} (a0 : Nat) (u1 : Option jA) (u2 : Option jA) (u3 : Option jA) (u4 : Option jA) (u5 : Option jA) (h : jH)
    (e1 : Ex MX9_seen (d + 4) [.inr a0] h 0 0 (fun v h2 => V MX9_look (d + 5) 4 [some (.inr a0), u1, u2, u3, u4, u5] (v.toList ++ []) h2 0 0 Q))
    (s1 : (jS h a0).1 = 9) :
    V MX9_look (d + 5) 0 [some (.inr a0), u1, u2, u3, u4, u5] [] h 0 0 Q := by
  refine V_aload_n (i := 0) dX9_look_0 rfl rfl ?_
  exact V_callV (M := MX9_look) (d := (d + 5)) (mc' := 0) (ms' := 0) (mc := 0) (ms := 0) (As := []) (rest := []) dX9_look_1 tX9_seen vX9_seen lX9_320 s1 ⟨by decide, rfl⟩ rfl rfl (Nat.le_of_ble_eq_true rfl) (show (d + 4) + 1 ≤ (d + 5) by omega) e1
theorem bX9_look_28 {d : Nat} {Q : Option jA → jH → Prop} (a0 : Nat) (i1 : Int) (i2 : Int) (i3 : Int) (i4 : Int) (u5 : Option jA) (h : jH)
    (s1 : (jS h a0).1 = 9)
    (s2 : (jS h (jP h a0 9)).1 = 16)
    (s3 : 0 < ((jS h (jP h a0 9)).2 : Int))
    (q1 : ((jX h (jP h a0 9) 0) < i4) → Q (some (.inl i2)) h)
    (s4 : (jS h (jP h a0 39)).1 = 17)
    (s5 : (¬ ((jX h (jP h a0 9) 0) < i4)) → 0 ≤ i4)
    (s6 : (¬ ((jX h (jP h a0 9) 0) < i4)) → i4 < ((jS h (jP h a0 39)).2 : Int))
    (r1 : (¬ ((jX h (jP h a0 9) 0) < i4)) → ((jX h (jP h a0 39) ((i4).toNat)) = 0) → jR (i4 + 1))
    (k1 : (¬ ((jX h (jP h a0 9) 0) < i4)) → ((jX h (jP h a0 39) ((i4).toNat)) = 0) → V MX9_look (d + 5) 28 [some (.inr a0), some (.inl i1), some (.inl i2), some (.inl i3), some (.inl (i4 + 1)), u5] [] h 0 0 Q)
    (e1 : (¬ ((jX h (jP h a0 9) 0) < i4)) → (¬ ((jX h (jP h a0 39) ((i4).toNat)) = 0)) → Ex MX9_laysAt (d + 3) [.inr a0, .inl i4] h 0 0 (fun v h2 => V MX9_look (d + 5) 55 [some (.inr a0), some (.inl i1), some (.inl i2), some (.inl i3), some (.inl i4), u5] (v.toList ++ []) h2 0 0 Q)) :
    V MX9_look (d + 5) 28 [some (.inr a0), some (.inl i1), some (.inl i2), some (.inl i3), some (.inl i4), u5] [] h 0 0 Q := by
  refine V_iload (i := 4) dX9_look_28 rfl ?_
  refine V_aload_n (i := 0) dX9_look_30 rfl rfl ?_
  refine V_getP dX9_look_31 fX9_25 rfl s1 ?_
  refine V_iconst dX9_look_34 ⟨by decide, by decide⟩ ?_
  refine V_iald dX9_look_35 s2 (by decide) s3 ?_
  refine V_icmp_gt (tgt := 86) dX9_look_36 (by decide) (fun c1 => ?_) (fun c1 => ?_)
  · refine V_iload_n (i := 2) dX9_look_86 rfl rfl ?_
    exact V_reti rfl dX9_look_87 (q1 c1)
  · refine V_aload_n (i := 0) dX9_look_39 rfl rfl ?_
    refine V_getP dX9_look_40 fX9_68 rfl s1 ?_
    refine V_iload (i := 4) dX9_look_43 rfl ?_
    refine V_zald dX9_look_45 s4 (s5 c1) (s6 c1) ?_
    refine V_if_eq (tgt := 80) dX9_look_46 (by decide) (fun c2 => ?_) (fun c2 => ?_)
    · refine V_iinc (i := 4) dX9_look_80 rfl (by decide) (r1 c1 c2) ?_
      refine V_goto (tgt := 28) dX9_look_83 (by decide) ?_
      exact (k1 c1 c2)
    · refine V_aload_n (i := 0) dX9_look_49 rfl rfl ?_
      refine V_iload (i := 4) dX9_look_50 rfl ?_
      exact V_callV (M := MX9_look) (d := (d + 5)) (mc' := 0) (ms' := 0) (mc := 0) (ms := 0) (As := [.inl i4]) (rest := []) dX9_look_52 tX9_laysAt vX9_laysAt lX9_271 s1 ⟨by decide, rfl⟩ rfl rfl (Nat.le_of_ble_eq_true rfl) (show (d + 3) + 1 ≤ (d + 5) by omega) (e1 c1 c2)
theorem bX9_look_4 {d : Nat} {Q : Option jA → jH → Prop} (a0 : Nat) (u1 : Option jA) (u2 : Option jA) (u3 : Option jA) (u4 : Option jA) (u5 : Option jA) (p0 : Int) (h : jH)
    (r1 : jR (p0 - 1))
    (e1 : ((jand p0 (p0 - 1)) ≠ 0) → Ex MX9_laysTurns (d + 1) [.inr a0] h 0 0 (fun v h2 => V MX9_look (d + 5) 20 [some (.inr a0), some (.inl p0), u2, u3, u4, u5] (v.toList ++ []) h2 0 0 Q))
    (s1 : (jS h a0).1 = 9)
    (q1 : ((jand p0 (p0 - 1)) = 0) → Q (some (.inl ((-9)))) h) :
    V MX9_look (d + 5) 4 [some (.inr a0), u1, u2, u3, u4, u5] [.inl p0] h 0 0 Q := by
  refine V_istore_n (i := 1) dX9_look_4 rfl (by decide) ?_
  refine V_iload_n (i := 1) dX9_look_5 rfl rfl ?_
  refine V_iload_n (i := 1) dX9_look_6 rfl rfl ?_
  refine V_iconst dX9_look_7 ⟨by decide, by decide⟩ ?_
  refine V_isub dX9_look_8 r1 ?_
  refine V_iand dX9_look_9 ?_
  refine V_if_ne (tgt := 16) dX9_look_10 (by decide) (fun c1 => ?_) (fun c1 => ?_)
  · refine V_aload_n (i := 0) dX9_look_16 rfl rfl ?_
    exact V_callV (M := MX9_look) (d := (d + 5)) (mc' := 0) (ms' := 0) (mc := 0) (ms := 0) (As := []) (rest := []) dX9_look_17 tX9_laysTurns vX9_laysTurns lX9_274 s1 ⟨by decide, rfl⟩ rfl rfl (Nat.le_of_ble_eq_true rfl) (show (d + 1) + 1 ≤ (d + 5) by omega) (e1 c1)
  · refine V_bipush dX9_look_13 (by decide +kernel) ⟨by decide, by decide⟩ ?_
    exact V_reti rfl dX9_look_15 (q1 c1)
theorem bX9_look_55 {d : Nat} {Q : Option jA → jH → Prop} (a0 : Nat) (i1 : Int) (i2 : Int) (i3 : Int) (i4 : Int) (u5 : Option jA) (h : jH)
    (e1 : Ex MX9_mostAlike d [.inr a0, .inl i1] h 0 0 (fun v h2 => V MX9_look (d + 5) 60 [some (.inr a0), some (.inl i1), some (.inl i2), some (.inl i3), some (.inl i4), u5] (v.toList ++ []) h2 0 0 Q))
    (s1 : (jS h a0).1 = 9) :
    V MX9_look (d + 5) 55 [some (.inr a0), some (.inl i1), some (.inl i2), some (.inl i3), some (.inl i4), u5] [] h 0 0 Q := by
  refine V_aload_n (i := 0) dX9_look_55 rfl rfl ?_
  refine V_iload_n (i := 1) dX9_look_56 rfl rfl ?_
  exact V_callV (M := MX9_look) (d := (d + 5)) (mc' := 0) (ms' := 0) (mc := 0) (ms := 0) (As := [.inl i1]) (rest := []) dX9_look_57 tX9_mostAlike vX9_mostAlike lX9_323 s1 ⟨by decide, rfl⟩ rfl rfl (Nat.le_of_ble_eq_true rfl) (show d + 1 ≤ (d + 5) by omega) e1
theorem bX9_look_20 {d : Nat} {Q : Option jA → jH → Prop} (a0 : Nat) (i1 : Int) (u2 : Option jA) (u3 : Option jA) (u4 : Option jA) (u5 : Option jA) (h : jH)
    (k1 : V MX9_look (d + 5) 28 [some (.inr a0), some (.inl i1), some (.inl ((-9))), some (.inl 0), some (.inl 0), u5] [] h 0 0 Q) :
    V MX9_look (d + 5) 20 [some (.inr a0), some (.inl i1), u2, u3, u4, u5] [] h 0 0 Q := by
  refine V_bipush dX9_look_20 (by decide +kernel) ⟨by decide, by decide⟩ ?_
  refine V_istore_n (i := 2) dX9_look_22 rfl (by decide) ?_
  refine V_iconst dX9_look_23 ⟨by decide, by decide⟩ ?_
  refine V_istore_n (i := 3) dX9_look_24 rfl (by decide) ?_
  refine V_iconst dX9_look_25 ⟨by decide, by decide⟩ ?_
  refine V_istore (i := 4) dX9_look_26 (by decide) ?_
  exact k1
theorem bX9_look_60 {d : Nat} {Q : Option jA → jH → Prop} (a0 : Nat) (i1 : Int) (i2 : Int) (i3 : Int) (i4 : Int) (u5 : Option jA) (p0 : Int) (h : jH)
    (r1 : (i2 = ((-9))) → jR (i4 + 1))
    (k1 : (i2 = ((-9))) → V MX9_look (d + 5) 28 [some (.inr a0), some (.inl i1), some (.inl i4), some (.inl p0), some (.inl (i4 + 1)), some (.inl p0)] [] h 0 0 Q)
    (r2 : (¬ (i2 = ((-9)))) → (i3 ≤ p0) → jR (i4 + 1))
    (k2 : (¬ (i2 = ((-9)))) → (i3 ≤ p0) → V MX9_look (d + 5) 28 [some (.inr a0), some (.inl i1), some (.inl i2), some (.inl i3), some (.inl (i4 + 1)), some (.inl p0)] [] h 0 0 Q)
    (r3 : (¬ (i2 = ((-9)))) → (¬ (i3 ≤ p0)) → jR (i4 + 1))
    (k3 : (¬ (i2 = ((-9)))) → (¬ (i3 ≤ p0)) → V MX9_look (d + 5) 28 [some (.inr a0), some (.inl i1), some (.inl i4), some (.inl p0), some (.inl (i4 + 1)), some (.inl p0)] [] h 0 0 Q) :
    V MX9_look (d + 5) 60 [some (.inr a0), some (.inl i1), some (.inl i2), some (.inl i3), some (.inl i4), u5] [.inl p0] h 0 0 Q := by
  refine V_istore (i := 5) dX9_look_60 (by decide) ?_
  refine V_iload_n (i := 2) dX9_look_62 rfl rfl ?_
  refine V_bipush dX9_look_63 (by decide +kernel) ⟨by decide, by decide⟩ ?_
  refine V_icmp_eq (tgt := 74) dX9_look_65 (by decide) (fun c1 => ?_) (fun c1 => ?_)
  · refine V_iload (i := 4) dX9_look_74 rfl ?_
    refine V_istore_n (i := 2) dX9_look_76 rfl (by decide) ?_
    refine V_iload (i := 5) dX9_look_77 rfl ?_
    refine V_istore_n (i := 3) dX9_look_79 rfl (by decide) ?_
    refine V_iinc (i := 4) dX9_look_80 rfl (by decide) (r1 c1) ?_
    refine V_goto (tgt := 28) dX9_look_83 (by decide) ?_
    exact (k1 c1)
  · refine V_iload (i := 5) dX9_look_68 rfl ?_
    refine V_iload_n (i := 3) dX9_look_70 rfl rfl ?_
    refine V_icmp_ge (tgt := 80) dX9_look_71 (by decide) (fun c2 => ?_) (fun c2 => ?_)
    · refine V_iinc (i := 4) dX9_look_80 rfl (by decide) (r2 c1 c2) ?_
      refine V_goto (tgt := 28) dX9_look_83 (by decide) ?_
      exact (k2 c1 c2)
    · refine V_iload (i := 4) dX9_look_74 rfl ?_
      refine V_istore_n (i := 2) dX9_look_76 rfl (by decide) ?_
      refine V_iload (i := 5) dX9_look_77 rfl ?_
      refine V_istore_n (i := 3) dX9_look_79 rfl (by decide) ?_
      refine V_iinc (i := 4) dX9_look_80 rfl (by decide) (r3 c1 c2) ?_
      refine V_goto (tgt := 28) dX9_look_83 (by decide) ?_
      exact (k3 c1 c2)
theorem dX9_keep_0 : decode cX9_keep 0 = .ok (.iload_n 1, 1) := by decide +kernel
theorem dX9_keep_1 : decode cX9_keep 1 = .ok (.iconst 0, 1) := by decide +kernel
theorem dX9_keep_2 : decode cX9_keep 2 = .ok (.iconst 1, 1) := by decide +kernel
theorem dX9_keep_3 : decode cX9_keep 3 = .ok (.invokestatic 95, 3) := by decide +kernel
theorem dX9_keep_6 : decode cX9_keep 6 = .ok (.ifCond .ne 5, 3) := by decide +kernel
theorem dX9_keep_9 : decode cX9_keep 9 = .ok (.iconst (-1), 1) := by decide +kernel
theorem dX9_keep_10 : decode cX9_keep 10 = .ok (.ireturn, 1) := by decide +kernel
theorem dX9_keep_11 : decode cX9_keep 11 = .ok (.iconst 0, 1) := by decide +kernel
theorem dX9_keep_12 : decode cX9_keep 12 = .ok (.istore_n 2, 1) := by decide +kernel
theorem dX9_keep_13 : decode cX9_keep 13 = .ok (.iload_n 2, 1) := by decide +kernel
theorem dX9_keep_14 : decode cX9_keep 14 = .ok (.sipush 209, 3) := by decide +kernel
theorem dX9_keep_17 : decode cX9_keep 17 = .ok (.if_icmp .ge 27, 3) := by decide +kernel
theorem dX9_keep_20 : decode cX9_keep 20 = .ok (.aload_n 0, 1) := by decide +kernel
theorem dX9_keep_21 : decode cX9_keep 21 = .ok (.getfield 31, 3) := by decide +kernel
theorem dX9_keep_24 : decode cX9_keep 24 = .ok (.sipush 209, 3) := by decide +kernel
theorem dX9_keep_27 : decode cX9_keep 27 = .ok (.iload_n 1, 1) := by decide +kernel
theorem dX9_keep_28 : decode cX9_keep 28 = .ok (.imul, 1) := by decide +kernel
theorem dX9_keep_29 : decode cX9_keep 29 = .ok (.iload_n 2, 1) := by decide +kernel
theorem dX9_keep_30 : decode cX9_keep 30 = .ok (.iadd, 1) := by decide +kernel
theorem dX9_keep_31 : decode cX9_keep 31 = .ok (.aload_n 0, 1) := by decide +kernel
theorem dX9_keep_32 : decode cX9_keep 32 = .ok (.getfield 25, 3) := by decide +kernel
theorem dX9_keep_35 : decode cX9_keep 35 = .ok (.iload_n 2, 1) := by decide +kernel
theorem dX9_keep_36 : decode cX9_keep 36 = .ok (.iaload, 1) := by decide +kernel
theorem dX9_keep_37 : decode cX9_keep 37 = .ok (.iastore, 1) := by decide +kernel
theorem dX9_keep_38 : decode cX9_keep 38 = .ok (.iinc 2 1, 3) := by decide +kernel
theorem dX9_keep_41 : decode cX9_keep 41 = .ok (.goto (-28), 3) := by decide +kernel
theorem dX9_keep_44 : decode cX9_keep 44 = .ok (.aload_n 0, 1) := by decide +kernel
theorem dX9_keep_45 : decode cX9_keep 45 = .ok (.getfield 34, 3) := by decide +kernel
theorem dX9_keep_48 : decode cX9_keep 48 = .ok (.iload_n 1, 1) := by decide +kernel
theorem dX9_keep_49 : decode cX9_keep 49 = .ok (.iconst 1, 1) := by decide +kernel
theorem dX9_keep_50 : decode cX9_keep 50 = .ok (.bastore, 1) := by decide +kernel
theorem dX9_keep_51 : decode cX9_keep 51 = .ok (.aload_n 0, 1) := by decide +kernel
theorem dX9_keep_52 : decode cX9_keep 52 = .ok (.getfield 25, 3) := by decide +kernel
theorem dX9_keep_55 : decode cX9_keep 55 = .ok (.iconst 0, 1) := by decide +kernel
theorem dX9_keep_56 : decode cX9_keep 56 = .ok (.iaload, 1) := by decide +kernel
theorem dX9_keep_57 : decode cX9_keep 57 = .ok (.ireturn, 1) := by decide +kernel
theorem bX9_keep_0 {d : Nat} {Q : Option jA → jH → Prop} (a0 : Nat) (i1 : Int) (u2 : Option jA) (h : jH)
    (k1 : (0 ≤ i1 ∧ i1 ≤ 1) → V MX9_keep (d + 1) 13 [some (.inr a0), some (.inl i1), some (.inl 0)] [] h 0 0 Q)
    (q1 : (¬ (0 ≤ i1 ∧ i1 ≤ 1)) → Q (some (.inl ((-1)))) h) :
    V MX9_keep (d + 1) 0 [some (.inr a0), some (.inl i1), u2] [] h 0 0 Q := by
  refine V_iload_n (i := 1) dX9_keep_0 rfl rfl ?_
  refine V_iconst dX9_keep_1 ⟨by decide, by decide⟩ ?_
  refine V_iconst dX9_keep_2 ⟨by decide, by decide⟩ ?_
  refine V_callS (M := MX9_keep) (d := (d + 1)) (mc' := 0) (ms' := 0) (mc := 0) (ms := 0) (a := 0) (As := [.inl i1, .inl 0, .inl 1]) (rest := []) dX9_keep_3 tX9_in sX9_in lX9_95 rfl rfl (Nat.le_of_ble_eq_true rfl) (show d + 1 ≤ (d + 1) by omega) (Ex.mono (pX9_in (d := d) ) ?_)
  intro v h2 hq
  rw [hq.1, hq.2]
  show V MX9_keep (d + 1) 6 [some (.inr a0), some (.inl i1), u2] [.inl (jb (0 ≤ i1 ∧ i1 ≤ 1))] h 0 0 Q
  refine V_ifb_ne (tgt := 11) dX9_keep_6 (by decide) (fun c1 => ?_) (fun c1 => ?_)
  · refine V_iconst dX9_keep_11 ⟨by decide, by decide⟩ ?_
    refine V_istore_n (i := 2) dX9_keep_12 rfl (by decide) ?_
    exact (k1 c1)
  · refine V_iconst dX9_keep_9 ⟨by decide, by decide⟩ ?_
    exact V_reti rfl dX9_keep_10 (q1 c1)
theorem bX9_keep_13 {d : Nat} {Q : Option jA → jH → Prop} (a0 : Nat) (i1 : Int) (i2 : Int) (h : jH)
    (s1 : (jS h a0).1 = 9)
    (s2 : (jS h (jP h a0 13)).1 = 17)
    (s3 : (209 ≤ i2) → 0 ≤ i1)
    (s4 : (209 ≤ i2) → i1 < ((jS h (jP h a0 13)).2 : Int))
    (s5 : (jS h (jP h a0 9)).1 = 16)
    (s6 : (209 ≤ i2) → 0 < ((jS h (jP h a0 9)).2 : Int))
    (q1 : (209 ≤ i2) → Q (some (.inl (jX (jsX h (jP h a0 13) ((i1).toNat) 1) (jP h a0 9) 0))) (jsX h (jP h a0 13) ((i1).toNat) 1))
    (r1 : (¬ (209 ≤ i2)) → jR (209 * i1))
    (r2 : (¬ (209 ≤ i2)) → jR ((209 * i1) + i2))
    (s7 : (¬ (209 ≤ i2)) → 0 ≤ i2)
    (s8 : (¬ (209 ≤ i2)) → i2 < ((jS h (jP h a0 9)).2 : Int))
    (s9 : (jS h (jP h a0 12)).1 = 16)
    (s10 : (¬ (209 ≤ i2)) → 0 ≤ (209 * i1) + i2)
    (s11 : (¬ (209 ≤ i2)) → (209 * i1) + i2 < ((jS h (jP h a0 12)).2 : Int))
    (r3 : (¬ (209 ≤ i2)) → jR (i2 + 1))
    (k1 : (¬ (209 ≤ i2)) → V MX9_keep (d + 1) 13 [some (.inr a0), some (.inl i1), some (.inl (i2 + 1))] [] (jsX h (jP h a0 12) (((209 * i1) + i2).toNat) (jX h (jP h a0 9) ((i2).toNat))) 0 0 Q) :
    V MX9_keep (d + 1) 13 [some (.inr a0), some (.inl i1), some (.inl i2)] [] h 0 0 Q := by
  refine V_iload_n (i := 2) dX9_keep_13 rfl rfl ?_
  refine V_sipush dX9_keep_14 (by decide +kernel) ⟨by decide, by decide⟩ ?_
  refine V_icmp_ge (tgt := 44) dX9_keep_17 (by decide) (fun c1 => ?_) (fun c1 => ?_)
  · refine V_aload_n (i := 0) dX9_keep_44 rfl rfl ?_
    refine V_getP dX9_keep_45 fX9_34 rfl s1 ?_
    refine V_iload_n (i := 1) dX9_keep_48 rfl rfl ?_
    refine V_iconst dX9_keep_49 ⟨by decide, by decide⟩ ?_
    refine V_zast dX9_keep_50 s2 (s3 c1) (s4 c1) (by decide) ?_
    refine V_aload_n (i := 0) dX9_keep_51 rfl rfl ?_
    refine V_getP dX9_keep_52 fX9_25 rfl s1 ?_
    refine V_iconst dX9_keep_55 ⟨by decide, by decide⟩ ?_
    refine V_iald dX9_keep_56 s5 (by decide) (s6 c1) ?_
    exact V_reti rfl dX9_keep_57 (q1 c1)
  · refine V_aload_n (i := 0) dX9_keep_20 rfl rfl ?_
    refine V_getP dX9_keep_21 fX9_31 rfl s1 ?_
    refine V_sipush dX9_keep_24 (by decide +kernel) ⟨by decide, by decide⟩ ?_
    refine V_iload_n (i := 1) dX9_keep_27 rfl rfl ?_
    refine V_imul dX9_keep_28 (r1 c1) ?_
    refine V_iload_n (i := 2) dX9_keep_29 rfl rfl ?_
    refine V_iadd dX9_keep_30 (r2 c1) ?_
    refine V_aload_n (i := 0) dX9_keep_31 rfl rfl ?_
    refine V_getP dX9_keep_32 fX9_25 rfl s1 ?_
    refine V_iload_n (i := 2) dX9_keep_35 rfl rfl ?_
    refine V_iald dX9_keep_36 s5 (s7 c1) (s8 c1) ?_
    refine V_iast dX9_keep_37 s9 (s10 c1) (s11 c1) ?_
    refine V_iinc (i := 2) dX9_keep_38 rfl (by decide) (r3 c1) ?_
    refine V_goto (tgt := 13) dX9_keep_41 (by decide) ?_
    exact (k1 c1)
theorem dX9_back_0 : decode cX9_back 0 = .ok (.iload_n 1, 1) := by decide +kernel
theorem dX9_back_1 : decode cX9_back 1 = .ok (.iconst 0, 1) := by decide +kernel
theorem dX9_back_2 : decode cX9_back 2 = .ok (.iconst 1, 1) := by decide +kernel
theorem dX9_back_3 : decode cX9_back 3 = .ok (.invokestatic 95, 3) := by decide +kernel
theorem dX9_back_6 : decode cX9_back 6 = .ok (.ifCond .ne 5, 3) := by decide +kernel
theorem dX9_back_9 : decode cX9_back 9 = .ok (.iconst (-1), 1) := by decide +kernel
theorem dX9_back_10 : decode cX9_back 10 = .ok (.ireturn, 1) := by decide +kernel
theorem dX9_back_11 : decode cX9_back 11 = .ok (.aload_n 0, 1) := by decide +kernel
theorem dX9_back_12 : decode cX9_back 12 = .ok (.getfield 34, 3) := by decide +kernel
theorem dX9_back_15 : decode cX9_back 15 = .ok (.iload_n 1, 1) := by decide +kernel
theorem dX9_back_16 : decode cX9_back 16 = .ok (.baload, 1) := by decide +kernel
theorem dX9_back_17 : decode cX9_back 17 = .ok (.ifCond .ne 6, 3) := by decide +kernel
theorem dX9_back_20 : decode cX9_back 20 = .ok (.bipush (-2), 2) := by decide +kernel
theorem dX9_back_22 : decode cX9_back 22 = .ok (.ireturn, 1) := by decide +kernel
theorem dX9_back_23 : decode cX9_back 23 = .ok (.iconst 0, 1) := by decide +kernel
theorem dX9_back_24 : decode cX9_back 24 = .ok (.istore_n 2, 1) := by decide +kernel
theorem dX9_back_25 : decode cX9_back 25 = .ok (.iload_n 2, 1) := by decide +kernel
theorem dX9_back_26 : decode cX9_back 26 = .ok (.sipush 209, 3) := by decide +kernel
theorem dX9_back_29 : decode cX9_back 29 = .ok (.if_icmp .ge 27, 3) := by decide +kernel
theorem dX9_back_32 : decode cX9_back 32 = .ok (.aload_n 0, 1) := by decide +kernel
theorem dX9_back_33 : decode cX9_back 33 = .ok (.getfield 25, 3) := by decide +kernel
theorem dX9_back_36 : decode cX9_back 36 = .ok (.iload_n 2, 1) := by decide +kernel
theorem dX9_back_37 : decode cX9_back 37 = .ok (.aload_n 0, 1) := by decide +kernel
theorem dX9_back_38 : decode cX9_back 38 = .ok (.getfield 31, 3) := by decide +kernel
theorem dX9_back_41 : decode cX9_back 41 = .ok (.sipush 209, 3) := by decide +kernel
theorem dX9_back_44 : decode cX9_back 44 = .ok (.iload_n 1, 1) := by decide +kernel
theorem dX9_back_45 : decode cX9_back 45 = .ok (.imul, 1) := by decide +kernel
theorem dX9_back_46 : decode cX9_back 46 = .ok (.iload_n 2, 1) := by decide +kernel
theorem dX9_back_47 : decode cX9_back 47 = .ok (.iadd, 1) := by decide +kernel
theorem dX9_back_48 : decode cX9_back 48 = .ok (.iaload, 1) := by decide +kernel
theorem dX9_back_49 : decode cX9_back 49 = .ok (.iastore, 1) := by decide +kernel
theorem dX9_back_50 : decode cX9_back 50 = .ok (.iinc 2 1, 3) := by decide +kernel
theorem dX9_back_53 : decode cX9_back 53 = .ok (.goto (-28), 3) := by decide +kernel
theorem dX9_back_56 : decode cX9_back 56 = .ok (.aload_n 0, 1) := by decide +kernel
theorem dX9_back_57 : decode cX9_back 57 = .ok (.iconst 0, 1) := by decide +kernel
theorem dX9_back_58 : decode cX9_back 58 = .ok (.putfield 227, 3) := by decide +kernel
theorem dX9_back_61 : decode cX9_back 61 = .ok (.aload_n 0, 1) := by decide +kernel
theorem dX9_back_62 : decode cX9_back 62 = .ok (.getfield 25, 3) := by decide +kernel
theorem dX9_back_65 : decode cX9_back 65 = .ok (.iconst 0, 1) := by decide +kernel
theorem dX9_back_66 : decode cX9_back 66 = .ok (.iaload, 1) := by decide +kernel
theorem dX9_back_67 : decode cX9_back 67 = .ok (.ireturn, 1) := by decide +kernel
theorem bX9_back_0 {d : Nat} {Q : Option jA → jH → Prop} (a0 : Nat) (i1 : Int) (u2 : Option jA) (h : jH)
    (s1 : (jS h a0).1 = 9)
    (s2 : (jS h (jP h a0 13)).1 = 17)
    (s3 : (0 ≤ i1 ∧ i1 ≤ 1) → 0 ≤ i1)
    (s4 : (0 ≤ i1 ∧ i1 ≤ 1) → i1 < ((jS h (jP h a0 13)).2 : Int))
    (k1 : (0 ≤ i1 ∧ i1 ≤ 1) → ((jX h (jP h a0 13) ((i1).toNat)) ≠ 0) → V MX9_back (d + 1) 25 [some (.inr a0), some (.inl i1), some (.inl 0)] [] h 0 0 Q)
    (q1 : (0 ≤ i1 ∧ i1 ≤ 1) → ((jX h (jP h a0 13) ((i1).toNat)) = 0) → Q (some (.inl ((-2)))) h)
    (q2 : (¬ (0 ≤ i1 ∧ i1 ≤ 1)) → Q (some (.inl ((-1)))) h) :
    V MX9_back (d + 1) 0 [some (.inr a0), some (.inl i1), u2] [] h 0 0 Q := by
  refine V_iload_n (i := 1) dX9_back_0 rfl rfl ?_
  refine V_iconst dX9_back_1 ⟨by decide, by decide⟩ ?_
  refine V_iconst dX9_back_2 ⟨by decide, by decide⟩ ?_
  refine V_callS (M := MX9_back) (d := (d + 1)) (mc' := 0) (ms' := 0) (mc := 0) (ms := 0) (a := 0) (As := [.inl i1, .inl 0, .inl 1]) (rest := []) dX9_back_3 tX9_in sX9_in lX9_95 rfl rfl (Nat.le_of_ble_eq_true rfl) (show d + 1 ≤ (d + 1) by omega) (Ex.mono (pX9_in (d := d) ) ?_)
  intro v h2 hq
  rw [hq.1, hq.2]
  show V MX9_back (d + 1) 6 [some (.inr a0), some (.inl i1), u2] [.inl (jb (0 ≤ i1 ∧ i1 ≤ 1))] h 0 0 Q
  refine V_ifb_ne (tgt := 11) dX9_back_6 (by decide) (fun c1 => ?_) (fun c1 => ?_)
  · refine V_aload_n (i := 0) dX9_back_11 rfl rfl ?_
    refine V_getP dX9_back_12 fX9_34 rfl s1 ?_
    refine V_iload_n (i := 1) dX9_back_15 rfl rfl ?_
    refine V_zald dX9_back_16 s2 (s3 c1) (s4 c1) ?_
    refine V_if_ne (tgt := 23) dX9_back_17 (by decide) (fun c2 => ?_) (fun c2 => ?_)
    · refine V_iconst dX9_back_23 ⟨by decide, by decide⟩ ?_
      refine V_istore_n (i := 2) dX9_back_24 rfl (by decide) ?_
      exact (k1 c1 c2)
    · refine V_bipush dX9_back_20 (by decide +kernel) ⟨by decide, by decide⟩ ?_
      exact V_reti rfl dX9_back_22 (q1 c1 c2)
  · refine V_iconst dX9_back_9 ⟨by decide, by decide⟩ ?_
    exact V_reti rfl dX9_back_10 (q2 c1)
theorem bX9_back_25 {d : Nat} {Q : Option jA → jH → Prop} (a0 : Nat) (i1 : Int) (i2 : Int) (h : jH)
    (s1 : (jS h a0).1 = 9)
    (s2 : (jS h (jP h a0 9)).1 = 16)
    (s3 : (209 ≤ i2) → 0 < ((jS h (jP h a0 9)).2 : Int))
    (q1 : (209 ≤ i2) → Q (some (.inl (jX h (jP h a0 9) 0))) (jsI h a0 11 0))
    (r1 : (¬ (209 ≤ i2)) → jR (209 * i1))
    (r2 : (¬ (209 ≤ i2)) → jR ((209 * i1) + i2))
    (s4 : (jS h (jP h a0 12)).1 = 16)
    (s5 : (¬ (209 ≤ i2)) → 0 ≤ (209 * i1) + i2)
    (s6 : (¬ (209 ≤ i2)) → (209 * i1) + i2 < ((jS h (jP h a0 12)).2 : Int))
    (s7 : (¬ (209 ≤ i2)) → 0 ≤ i2)
    (s8 : (¬ (209 ≤ i2)) → i2 < ((jS h (jP h a0 9)).2 : Int))
    (r3 : (¬ (209 ≤ i2)) → jR (i2 + 1))
    (k1 : (¬ (209 ≤ i2)) → V MX9_back (d + 1) 25 [some (.inr a0), some (.inl i1), some (.inl (i2 + 1))] [] (jsX h (jP h a0 9) ((i2).toNat) (jX h (jP h a0 12) (((209 * i1) + i2).toNat))) 0 0 Q) :
    V MX9_back (d + 1) 25 [some (.inr a0), some (.inl i1), some (.inl i2)] [] h 0 0 Q := by
  refine V_iload_n (i := 2) dX9_back_25 rfl rfl ?_
  refine V_sipush dX9_back_26 (by decide +kernel) ⟨by decide, by decide⟩ ?_
  refine V_icmp_ge (tgt := 56) dX9_back_29 (by decide) (fun c1 => ?_) (fun c1 => ?_)
  · refine V_aload_n (i := 0) dX9_back_56 rfl rfl ?_
    refine V_iconst dX9_back_57 ⟨by decide, by decide⟩ ?_
    refine V_putI (ci := 9) (kf := 11) dX9_back_58 fX9_227 rfl rfl s1 ?_
    refine V_aload_n (i := 0) dX9_back_61 rfl rfl ?_
    refine V_getP dX9_back_62 fX9_25 rfl s1 ?_
    refine V_iconst dX9_back_65 ⟨by decide, by decide⟩ ?_
    refine V_iald dX9_back_66 s2 (by decide) (s3 c1) ?_
    exact V_reti rfl dX9_back_67 (q1 c1)
  · refine V_aload_n (i := 0) dX9_back_32 rfl rfl ?_
    refine V_getP dX9_back_33 fX9_25 rfl s1 ?_
    refine V_iload_n (i := 2) dX9_back_36 rfl rfl ?_
    refine V_aload_n (i := 0) dX9_back_37 rfl rfl ?_
    refine V_getP dX9_back_38 fX9_31 rfl s1 ?_
    refine V_sipush dX9_back_41 (by decide +kernel) ⟨by decide, by decide⟩ ?_
    refine V_iload_n (i := 1) dX9_back_44 rfl rfl ?_
    refine V_imul dX9_back_45 (r1 c1) ?_
    refine V_iload_n (i := 2) dX9_back_46 rfl rfl ?_
    refine V_iadd dX9_back_47 (r2 c1) ?_
    refine V_iald dX9_back_48 s4 (s5 c1) (s6 c1) ?_
    refine V_iast dX9_back_49 s2 (s7 c1) (s8 c1) ?_
    refine V_iinc (i := 2) dX9_back_50 rfl (by decide) (r3 c1) ?_
    refine V_goto (tgt := 25) dX9_back_53 (by decide) ?_
    exact (k1 c1)
theorem dX9_changes_0 : decode cX9_changes 0 = .ok (.iconst 0, 1) := by decide +kernel
theorem dX9_changes_1 : decode cX9_changes 1 = .ok (.istore_n 1, 1) := by decide +kernel
theorem dX9_changes_2 : decode cX9_changes 2 = .ok (.iconst 0, 1) := by decide +kernel
theorem dX9_changes_3 : decode cX9_changes 3 = .ok (.istore_n 2, 1) := by decide +kernel
theorem dX9_changes_4 : decode cX9_changes 4 = .ok (.iload_n 2, 1) := by decide +kernel
theorem dX9_changes_5 : decode cX9_changes 5 = .ok (.aload_n 0, 1) := by decide +kernel
theorem dX9_changes_6 : decode cX9_changes 6 = .ok (.getfield 25, 3) := by decide +kernel
theorem dX9_changes_9 : decode cX9_changes 9 = .ok (.iconst 3, 1) := by decide +kernel
theorem dX9_changes_10 : decode cX9_changes 10 = .ok (.iaload, 1) := by decide +kernel
theorem dX9_changes_11 : decode cX9_changes 11 = .ok (.if_icmp .ge 23, 3) := by decide +kernel
theorem dX9_changes_14 : decode cX9_changes 14 = .ok (.iload_n 1, 1) := by decide +kernel
theorem dX9_changes_15 : decode cX9_changes 15 = .ok (.aload_n 0, 1) := by decide +kernel
theorem dX9_changes_16 : decode cX9_changes 16 = .ok (.getfield 25, 3) := by decide +kernel
theorem dX9_changes_19 : decode cX9_changes 19 = .ok (.iload_n 2, 1) := by decide +kernel
theorem dX9_changes_20 : decode cX9_changes 20 = .ok (.invokestatic 256, 3) := by decide +kernel
theorem dX9_changes_23 : decode cX9_changes 23 = .ok (.iconst 2, 1) := by decide +kernel
theorem dX9_changes_24 : decode cX9_changes 24 = .ok (.iadd, 1) := by decide +kernel
theorem dX9_changes_25 : decode cX9_changes 25 = .ok (.iaload, 1) := by decide +kernel
theorem dX9_changes_26 : decode cX9_changes 26 = .ok (.iadd, 1) := by decide +kernel
theorem dX9_changes_27 : decode cX9_changes 27 = .ok (.istore_n 1, 1) := by decide +kernel
theorem dX9_changes_28 : decode cX9_changes 28 = .ok (.iinc 2 1, 3) := by decide +kernel
theorem dX9_changes_31 : decode cX9_changes 31 = .ok (.goto (-27), 3) := by decide +kernel
theorem dX9_changes_34 : decode cX9_changes 34 = .ok (.iload_n 1, 1) := by decide +kernel
theorem dX9_changes_35 : decode cX9_changes 35 = .ok (.ireturn, 1) := by decide +kernel
theorem bX9_changes_0 {d : Nat} {Q : Option jA → jH → Prop} (a0 : Nat) (u1 : Option jA) (u2 : Option jA) (h : jH)
    (k1 : V MX9_changes (d + 1) 4 [some (.inr a0), some (.inl 0), some (.inl 0)] [] h 0 0 Q) :
    V MX9_changes (d + 1) 0 [some (.inr a0), u1, u2] [] h 0 0 Q := by
  refine V_iconst dX9_changes_0 ⟨by decide, by decide⟩ ?_
  refine V_istore_n (i := 1) dX9_changes_1 rfl (by decide) ?_
  refine V_iconst dX9_changes_2 ⟨by decide, by decide⟩ ?_
  refine V_istore_n (i := 2) dX9_changes_3 rfl (by decide) ?_
  exact k1
theorem bX9_changes_4 {d : Nat} {Q : Option jA → jH → Prop} (a0 : Nat) (i1 : Int) (i2 : Int) (h : jH)
    (s1 : (jS h a0).1 = 9)
    (s2 : (jS h (jP h a0 9)).1 = 16)
    (s3 : 3 < ((jS h (jP h a0 9)).2 : Int))
    (q1 : ((jX h (jP h a0 9) 3) ≤ i2) → Q (some (.inl i1)) h)
    (s4 : (¬ ((jX h (jP h a0 9) 3) ≤ i2)) → 0 ≤ i2)
    (s5 : (¬ ((jX h (jP h a0 9) 3) ≤ i2)) → i2 ≤ 6)
    (r1 : (¬ ((jX h (jP h a0 9) 3) ≤ i2)) → jR ((11 + (33 * i2)) + 2))
    (s6 : (¬ ((jX h (jP h a0 9) 3) ≤ i2)) → 0 ≤ (11 + (33 * i2)) + 2)
    (s7 : (¬ ((jX h (jP h a0 9) 3) ≤ i2)) → (11 + (33 * i2)) + 2 < ((jS h (jP h a0 9)).2 : Int))
    (r2 : (¬ ((jX h (jP h a0 9) 3) ≤ i2)) → jR (i1 + (jX h (jP h a0 9) (((11 + (33 * i2)) + 2).toNat))))
    (r3 : (¬ ((jX h (jP h a0 9) 3) ≤ i2)) → jR (i2 + 1))
    (k1 : (¬ ((jX h (jP h a0 9) 3) ≤ i2)) → V MX9_changes (d + 1) 4 [some (.inr a0), some (.inl (i1 + (jX h (jP h a0 9) (((11 + (33 * i2)) + 2).toNat)))), some (.inl (i2 + 1))] [] h 0 0 Q) :
    V MX9_changes (d + 1) 4 [some (.inr a0), some (.inl i1), some (.inl i2)] [] h 0 0 Q := by
  refine V_iload_n (i := 2) dX9_changes_4 rfl rfl ?_
  refine V_aload_n (i := 0) dX9_changes_5 rfl rfl ?_
  refine V_getP dX9_changes_6 fX9_25 rfl s1 ?_
  refine V_iconst dX9_changes_9 ⟨by decide, by decide⟩ ?_
  refine V_iald dX9_changes_10 s2 (by decide) s3 ?_
  refine V_icmp_ge (tgt := 34) dX9_changes_11 (by decide) (fun c1 => ?_) (fun c1 => ?_)
  · refine V_iload_n (i := 1) dX9_changes_34 rfl rfl ?_
    exact V_reti rfl dX9_changes_35 (q1 c1)
  · refine V_iload_n (i := 1) dX9_changes_14 rfl rfl ?_
    refine V_aload_n (i := 0) dX9_changes_15 rfl rfl ?_
    refine V_getP dX9_changes_16 fX9_25 rfl s1 ?_
    refine V_iload_n (i := 2) dX9_changes_19 rfl rfl ?_
    refine V_callS (M := MX9_changes) (d := (d + 1)) (mc' := 0) (ms' := 0) (mc := 0) (ms := 0) (a := 0) (As := [.inl i2]) (rest := [.inr (jP h a0 9), .inl i1]) dX9_changes_20 tX9_block0 sX9_block0 lX9_256 rfl rfl (Nat.le_of_ble_eq_true rfl) (show d + 1 ≤ (d + 1) by omega) (Ex.mono (pX9_block0 (d := d) (s4 c1) (s5 c1)) ?_)
    intro v h2 hq
    rw [hq.1, hq.2]
    show V MX9_changes (d + 1) 23 [some (.inr a0), some (.inl i1), some (.inl i2)] [.inl (11 + (33 * i2)), .inr (jP h a0 9), .inl i1] h 0 0 Q
    refine V_iconst dX9_changes_23 ⟨by decide, by decide⟩ ?_
    refine V_iadd dX9_changes_24 (r1 c1) ?_
    refine V_iald dX9_changes_25 s2 (s6 c1) (s7 c1) ?_
    refine V_iadd dX9_changes_26 (r2 c1) ?_
    refine V_istore_n (i := 1) dX9_changes_27 rfl (by decide) ?_
    refine V_iinc (i := 2) dX9_changes_28 rfl (by decide) (r3 c1) ?_
    refine V_goto (tgt := 4) dX9_changes_31 (by decide) ?_
    exact (k1 c1)
theorem dX9_roomOfAll_0 : decode cX9_roomOfAll 0 = .ok (.iconst 0, 1) := by decide +kernel
theorem dX9_roomOfAll_1 : decode cX9_roomOfAll 1 = .ok (.istore_n 1, 1) := by decide +kernel
theorem dX9_roomOfAll_2 : decode cX9_roomOfAll 2 = .ok (.iconst 0, 1) := by decide +kernel
theorem dX9_roomOfAll_3 : decode cX9_roomOfAll 3 = .ok (.istore_n 2, 1) := by decide +kernel
theorem dX9_roomOfAll_4 : decode cX9_roomOfAll 4 = .ok (.iload_n 2, 1) := by decide +kernel
theorem dX9_roomOfAll_5 : decode cX9_roomOfAll 5 = .ok (.aload_n 0, 1) := by decide +kernel
theorem dX9_roomOfAll_6 : decode cX9_roomOfAll 6 = .ok (.getfield 25, 3) := by decide +kernel
theorem dX9_roomOfAll_9 : decode cX9_roomOfAll 9 = .ok (.iconst 3, 1) := by decide +kernel
theorem dX9_roomOfAll_10 : decode cX9_roomOfAll 10 = .ok (.iaload, 1) := by decide +kernel
theorem dX9_roomOfAll_11 : decode cX9_roomOfAll 11 = .ok (.if_icmp .ge 17, 3) := by decide +kernel
theorem dX9_roomOfAll_14 : decode cX9_roomOfAll 14 = .ok (.iload_n 1, 1) := by decide +kernel
theorem dX9_roomOfAll_15 : decode cX9_roomOfAll 15 = .ok (.aload_n 0, 1) := by decide +kernel
theorem dX9_roomOfAll_16 : decode cX9_roomOfAll 16 = .ok (.iload_n 2, 1) := by decide +kernel
theorem dX9_roomOfAll_17 : decode cX9_roomOfAll 17 = .ok (.invokevirtual 308, 3) := by decide +kernel
theorem dX9_roomOfAll_20 : decode cX9_roomOfAll 20 = .ok (.iadd, 1) := by decide +kernel
theorem dX9_roomOfAll_21 : decode cX9_roomOfAll 21 = .ok (.istore_n 1, 1) := by decide +kernel
theorem dX9_roomOfAll_22 : decode cX9_roomOfAll 22 = .ok (.iinc 2 1, 3) := by decide +kernel
theorem dX9_roomOfAll_25 : decode cX9_roomOfAll 25 = .ok (.goto (-21), 3) := by decide +kernel
theorem dX9_roomOfAll_28 : decode cX9_roomOfAll 28 = .ok (.iload_n 1, 1) := by decide +kernel
theorem dX9_roomOfAll_29 : decode cX9_roomOfAll 29 = .ok (.ireturn, 1) := by decide +kernel
theorem bX9_roomOfAll_0 {d : Nat} {Q : Option jA → jH → Prop} (a0 : Nat) (u1 : Option jA) (u2 : Option jA) (h : jH)
    (k1 : V MX9_roomOfAll (d + 3) 4 [some (.inr a0), some (.inl 0), some (.inl 0)] [] h 0 0 Q) :
    V MX9_roomOfAll (d + 3) 0 [some (.inr a0), u1, u2] [] h 0 0 Q := by
  refine V_iconst dX9_roomOfAll_0 ⟨by decide, by decide⟩ ?_
  refine V_istore_n (i := 1) dX9_roomOfAll_1 rfl (by decide) ?_
  refine V_iconst dX9_roomOfAll_2 ⟨by decide, by decide⟩ ?_
  refine V_istore_n (i := 2) dX9_roomOfAll_3 rfl (by decide) ?_
  exact k1
theorem bX9_roomOfAll_4 {d : Nat} {Q : Option jA → jH → Prop} (a0 : Nat) (i1 : Int) (i2 : Int) (h : jH)
    (s1 : (jS h a0).1 = 9)
    (s2 : (jS h (jP h a0 9)).1 = 16)
    (s3 : 3 < ((jS h (jP h a0 9)).2 : Int))
    (q1 : ((jX h (jP h a0 9) 3) ≤ i2) → Q (some (.inl i1)) h)
    (e1 : (¬ ((jX h (jP h a0 9) 3) ≤ i2)) → Ex MX9_roomOfBlock (d + 2) [.inr a0, .inl i2] h 0 0 (fun v h2 => V MX9_roomOfAll (d + 3) 20 [some (.inr a0), some (.inl i1), some (.inl i2)] (v.toList ++ [.inl i1]) h2 0 0 Q)) :
    V MX9_roomOfAll (d + 3) 4 [some (.inr a0), some (.inl i1), some (.inl i2)] [] h 0 0 Q := by
  refine V_iload_n (i := 2) dX9_roomOfAll_4 rfl rfl ?_
  refine V_aload_n (i := 0) dX9_roomOfAll_5 rfl rfl ?_
  refine V_getP dX9_roomOfAll_6 fX9_25 rfl s1 ?_
  refine V_iconst dX9_roomOfAll_9 ⟨by decide, by decide⟩ ?_
  refine V_iald dX9_roomOfAll_10 s2 (by decide) s3 ?_
  refine V_icmp_ge (tgt := 28) dX9_roomOfAll_11 (by decide) (fun c1 => ?_) (fun c1 => ?_)
  · refine V_iload_n (i := 1) dX9_roomOfAll_28 rfl rfl ?_
    exact V_reti rfl dX9_roomOfAll_29 (q1 c1)
  · refine V_iload_n (i := 1) dX9_roomOfAll_14 rfl rfl ?_
    refine V_aload_n (i := 0) dX9_roomOfAll_15 rfl rfl ?_
    refine V_iload_n (i := 2) dX9_roomOfAll_16 rfl rfl ?_
    exact V_callV (M := MX9_roomOfAll) (d := (d + 3)) (mc' := 0) (ms' := 0) (mc := 0) (ms := 0) (As := [.inl i2]) (rest := [.inl i1]) dX9_roomOfAll_17 tX9_roomOfBlock vX9_roomOfBlock lX9_308 s1 ⟨by decide, rfl⟩ rfl rfl (Nat.le_of_ble_eq_true rfl) (show (d + 2) + 1 ≤ (d + 3) by omega) (e1 c1)
theorem bX9_roomOfAll_20 {d : Nat} {Q : Option jA → jH → Prop} (a0 : Nat) (i1 : Int) (i2 : Int) (p0 : Int) (p1 : Int) (h : jH)
    (r1 : jR (p1 + p0))
    (r2 : jR (i2 + 1))
    (k1 : V MX9_roomOfAll (d + 3) 4 [some (.inr a0), some (.inl (p1 + p0)), some (.inl (i2 + 1))] [] h 0 0 Q) :
    V MX9_roomOfAll (d + 3) 20 [some (.inr a0), some (.inl i1), some (.inl i2)] [.inl p0, .inl p1] h 0 0 Q := by
  refine V_iadd dX9_roomOfAll_20 r1 ?_
  refine V_istore_n (i := 1) dX9_roomOfAll_21 rfl (by decide) ?_
  refine V_iinc (i := 2) dX9_roomOfAll_22 rfl (by decide) r2 ?_
  refine V_goto (tgt := 4) dX9_roomOfAll_25 (by decide) ?_
  exact k1
theorem dX9_count_0 : decode cX9_count 0 = .ok (.iload_n 1, 1) := by decide +kernel
theorem dX9_count_1 : decode cX9_count 1 = .ok (.tableswitch 142 0 12 #[67, 72, 77, 82, 89, 96, 103, 110, 117, 122, 127, 132, 137], 67) := by decide +kernel
theorem dX9_count_68 : decode cX9_count 68 = .ok (.aload_n 0, 1) := by decide +kernel
theorem dX9_count_69 : decode cX9_count 69 = .ok (.getfield 212, 3) := by decide +kernel
theorem dX9_count_72 : decode cX9_count 72 = .ok (.ireturn, 1) := by decide +kernel
theorem dX9_count_73 : decode cX9_count 73 = .ok (.aload_n 0, 1) := by decide +kernel
theorem dX9_count_74 : decode cX9_count 74 = .ok (.getfield 215, 3) := by decide +kernel
theorem dX9_count_77 : decode cX9_count 77 = .ok (.ireturn, 1) := by decide +kernel
theorem dX9_count_78 : decode cX9_count 78 = .ok (.aload_n 0, 1) := by decide +kernel
theorem dX9_count_79 : decode cX9_count 79 = .ok (.getfield 221, 3) := by decide +kernel
theorem dX9_count_82 : decode cX9_count 82 = .ok (.ireturn, 1) := by decide +kernel
theorem dX9_count_83 : decode cX9_count 83 = .ok (.aload_n 0, 1) := by decide +kernel
theorem dX9_count_84 : decode cX9_count 84 = .ok (.getfield 25, 3) := by decide +kernel
theorem dX9_count_87 : decode cX9_count 87 = .ok (.iconst 0, 1) := by decide +kernel
theorem dX9_count_88 : decode cX9_count 88 = .ok (.iaload, 1) := by decide +kernel
theorem dX9_count_89 : decode cX9_count 89 = .ok (.ireturn, 1) := by decide +kernel
theorem dX9_count_90 : decode cX9_count 90 = .ok (.aload_n 0, 1) := by decide +kernel
theorem dX9_count_91 : decode cX9_count 91 = .ok (.getfield 25, 3) := by decide +kernel
theorem dX9_count_94 : decode cX9_count 94 = .ok (.iconst 1, 1) := by decide +kernel
theorem dX9_count_95 : decode cX9_count 95 = .ok (.iaload, 1) := by decide +kernel
theorem dX9_count_96 : decode cX9_count 96 = .ok (.ireturn, 1) := by decide +kernel
theorem dX9_count_97 : decode cX9_count 97 = .ok (.aload_n 0, 1) := by decide +kernel
theorem dX9_count_98 : decode cX9_count 98 = .ok (.getfield 25, 3) := by decide +kernel
theorem dX9_count_101 : decode cX9_count 101 = .ok (.iconst 2, 1) := by decide +kernel
theorem dX9_count_102 : decode cX9_count 102 = .ok (.iaload, 1) := by decide +kernel
theorem dX9_count_103 : decode cX9_count 103 = .ok (.ireturn, 1) := by decide +kernel
theorem dX9_count_104 : decode cX9_count 104 = .ok (.aload_n 0, 1) := by decide +kernel
theorem dX9_count_105 : decode cX9_count 105 = .ok (.getfield 25, 3) := by decide +kernel
theorem dX9_count_108 : decode cX9_count 108 = .ok (.iconst 3, 1) := by decide +kernel
theorem dX9_count_109 : decode cX9_count 109 = .ok (.iaload, 1) := by decide +kernel
theorem dX9_count_110 : decode cX9_count 110 = .ok (.ireturn, 1) := by decide +kernel
theorem dX9_count_111 : decode cX9_count 111 = .ok (.aload_n 0, 1) := by decide +kernel
theorem dX9_count_112 : decode cX9_count 112 = .ok (.getfield 25, 3) := by decide +kernel
theorem dX9_count_115 : decode cX9_count 115 = .ok (.iconst 4, 1) := by decide +kernel
theorem dX9_count_116 : decode cX9_count 116 = .ok (.iaload, 1) := by decide +kernel
theorem dX9_count_117 : decode cX9_count 117 = .ok (.ireturn, 1) := by decide +kernel
theorem dX9_count_118 : decode cX9_count 118 = .ok (.aload_n 0, 1) := by decide +kernel
theorem dX9_count_119 : decode cX9_count 119 = .ok (.invokevirtual 326, 3) := by decide +kernel
theorem dX9_count_122 : decode cX9_count 122 = .ok (.ireturn, 1) := by decide +kernel
theorem dX9_count_123 : decode cX9_count 123 = .ok (.aload_n 0, 1) := by decide +kernel
theorem dX9_count_124 : decode cX9_count 124 = .ok (.invokevirtual 329, 3) := by decide +kernel
theorem dX9_count_127 : decode cX9_count 127 = .ok (.ireturn, 1) := by decide +kernel
theorem dX9_count_128 : decode cX9_count 128 = .ok (.aload_n 0, 1) := by decide +kernel
theorem dX9_count_129 : decode cX9_count 129 = .ok (.getfield 230, 3) := by decide +kernel
theorem dX9_count_132 : decode cX9_count 132 = .ok (.ireturn, 1) := by decide +kernel
theorem dX9_count_133 : decode cX9_count 133 = .ok (.aload_n 0, 1) := by decide +kernel
theorem dX9_count_134 : decode cX9_count 134 = .ok (.getfield 99, 3) := by decide +kernel
theorem dX9_count_137 : decode cX9_count 137 = .ok (.ireturn, 1) := by decide +kernel
theorem dX9_count_138 : decode cX9_count 138 = .ok (.aload_n 0, 1) := by decide +kernel
theorem dX9_count_139 : decode cX9_count 139 = .ok (.getfield 227, 3) := by decide +kernel
theorem dX9_count_142 : decode cX9_count 142 = .ok (.ireturn, 1) := by decide +kernel
theorem dX9_count_143 : decode cX9_count 143 = .ok (.iconst (-1), 1) := by decide +kernel
theorem dX9_count_144 : decode cX9_count 144 = .ok (.ireturn, 1) := by decide +kernel
theorem bX9_count_0 {d : Nat} {Q : Option jA → jH → Prop} (a0 : Nat) (i1 : Int) (h : jH)
    (s1 : (jS h a0).1 = 9)
    (q1 : (i1 = 0) → Q (some (.inl (jI h a0 1))) h)
    (q2 : (¬ (i1 = 0)) → (i1 = 1) → Q (some (.inl (jI h a0 2))) h)
    (q3 : (¬ (i1 = 0)) → (¬ (i1 = 1)) → (i1 = 2) → Q (some (.inl (jI h a0 6))) h)
    (s2 : (jS h (jP h a0 9)).1 = 16)
    (s3 : (¬ (i1 = 0)) → (¬ (i1 = 1)) → (¬ (i1 = 2)) → (i1 = 3) → 0 < ((jS h (jP h a0 9)).2 : Int))
    (q4 : (¬ (i1 = 0)) → (¬ (i1 = 1)) → (¬ (i1 = 2)) → (i1 = 3) → Q (some (.inl (jX h (jP h a0 9) 0))) h)
    (s4 : (¬ (i1 = 0)) → (¬ (i1 = 1)) → (¬ (i1 = 2)) → (¬ (i1 = 3)) → (i1 = 4) → 1 < ((jS h (jP h a0 9)).2 : Int))
    (q5 : (¬ (i1 = 0)) → (¬ (i1 = 1)) → (¬ (i1 = 2)) → (¬ (i1 = 3)) → (i1 = 4) → Q (some (.inl (jX h (jP h a0 9) 1))) h)
    (s5 : (¬ (i1 = 0)) → (¬ (i1 = 1)) → (¬ (i1 = 2)) → (¬ (i1 = 3)) → (¬ (i1 = 4)) → (i1 = 5) → 2 < ((jS h (jP h a0 9)).2 : Int))
    (q6 : (¬ (i1 = 0)) → (¬ (i1 = 1)) → (¬ (i1 = 2)) → (¬ (i1 = 3)) → (¬ (i1 = 4)) → (i1 = 5) → Q (some (.inl (jX h (jP h a0 9) 2))) h)
    (s6 : (¬ (i1 = 0)) → (¬ (i1 = 1)) → (¬ (i1 = 2)) → (¬ (i1 = 3)) → (¬ (i1 = 4)) → (¬ (i1 = 5)) → (i1 = 6) → 3 < ((jS h (jP h a0 9)).2 : Int))
    (q7 : (¬ (i1 = 0)) → (¬ (i1 = 1)) → (¬ (i1 = 2)) → (¬ (i1 = 3)) → (¬ (i1 = 4)) → (¬ (i1 = 5)) → (i1 = 6) → Q (some (.inl (jX h (jP h a0 9) 3))) h)
    (s7 : (¬ (i1 = 0)) → (¬ (i1 = 1)) → (¬ (i1 = 2)) → (¬ (i1 = 3)) → (¬ (i1 = 4)) → (¬ (i1 = 5)) → (¬ (i1 = 6)) → (i1 = 7) → 4 < ((jS h (jP h a0 9)).2 : Int))
    (q8 : (¬ (i1 = 0)) → (¬ (i1 = 1)) → (¬ (i1 = 2)) → (¬ (i1 = 3)) → (¬ (i1 = 4)) → (¬ (i1 = 5)) → (¬ (i1 = 6)) → (i1 = 7) → Q (some (.inl (jX h (jP h a0 9) 4))) h)
    (e1 : (¬ (i1 = 0)) → (¬ (i1 = 1)) → (¬ (i1 = 2)) → (¬ (i1 = 3)) → (¬ (i1 = 4)) → (¬ (i1 = 5)) → (¬ (i1 = 6)) → (¬ (i1 = 7)) → (i1 = 8) → Ex MX9_changes (d + 1) [.inr a0] h 0 0 (fun v h2 => V MX9_count (d + 4) 122 [some (.inr a0), some (.inl i1)] (v.toList ++ []) h2 0 0 Q))
    (e2 : (¬ (i1 = 0)) → (¬ (i1 = 1)) → (¬ (i1 = 2)) → (¬ (i1 = 3)) → (¬ (i1 = 4)) → (¬ (i1 = 5)) → (¬ (i1 = 6)) → (¬ (i1 = 7)) → (¬ (i1 = 8)) → (i1 = 9) → Ex MX9_roomOfAll (d + 3) [.inr a0] h 0 0 (fun v h2 => V MX9_count (d + 4) 127 [some (.inr a0), some (.inl i1)] (v.toList ++ []) h2 0 0 Q))
    (q9 : (¬ (i1 = 0)) → (¬ (i1 = 1)) → (¬ (i1 = 2)) → (¬ (i1 = 3)) → (¬ (i1 = 4)) → (¬ (i1 = 5)) → (¬ (i1 = 6)) → (¬ (i1 = 7)) → (¬ (i1 = 8)) → (¬ (i1 = 9)) → (i1 = 10) → Q (some (.inl (jI h a0 49))) h)
    (q10 : (¬ (i1 = 0)) → (¬ (i1 = 1)) → (¬ (i1 = 2)) → (¬ (i1 = 3)) → (¬ (i1 = 4)) → (¬ (i1 = 5)) → (¬ (i1 = 6)) → (¬ (i1 = 7)) → (¬ (i1 = 8)) → (¬ (i1 = 9)) → (¬ (i1 = 10)) → (i1 = 11) → Q (some (.inl (jI h a0 15))) h)
    (q11 : (¬ (i1 = 0)) → (¬ (i1 = 1)) → (¬ (i1 = 2)) → (¬ (i1 = 3)) → (¬ (i1 = 4)) → (¬ (i1 = 5)) → (¬ (i1 = 6)) → (¬ (i1 = 7)) → (¬ (i1 = 8)) → (¬ (i1 = 9)) → (¬ (i1 = 10)) → (¬ (i1 = 11)) → (i1 = 12) → Q (some (.inl (jI h a0 11))) h)
    (q12 : (¬ (i1 = 0)) → (¬ (i1 = 1)) → (¬ (i1 = 2)) → (¬ (i1 = 3)) → (¬ (i1 = 4)) → (¬ (i1 = 5)) → (¬ (i1 = 6)) → (¬ (i1 = 7)) → (¬ (i1 = 8)) → (¬ (i1 = 9)) → (¬ (i1 = 10)) → (¬ (i1 = 11)) → (¬ (i1 = 12)) → Q (some (.inl ((-1)))) h) :
    V MX9_count (d + 4) 0 [some (.inr a0), some (.inl i1)] [] h 0 0 Q := by
  refine V_iload_n (i := 1) dX9_count_0 rfl rfl ?_
  by_cases c1 : i1 = 0
  · refine V_tabIn (off := 67) (tgt := 68) dX9_count_1 (by omega) (by omega) (by rw [c1]; rfl) (by decide) ?_
    refine V_aload_n (i := 0) dX9_count_68 rfl rfl ?_
    refine V_getI dX9_count_69 fX9_212 rfl s1 ?_
    exact V_reti rfl dX9_count_72 (q1 c1)
  by_cases c2 : i1 = 1
  · refine V_tabIn (off := 72) (tgt := 73) dX9_count_1 (by omega) (by omega) (by rw [c2]; rfl) (by decide) ?_
    refine V_aload_n (i := 0) dX9_count_73 rfl rfl ?_
    refine V_getI dX9_count_74 fX9_215 rfl s1 ?_
    exact V_reti rfl dX9_count_77 (q2 c1 c2)
  by_cases c3 : i1 = 2
  · refine V_tabIn (off := 77) (tgt := 78) dX9_count_1 (by omega) (by omega) (by rw [c3]; rfl) (by decide) ?_
    refine V_aload_n (i := 0) dX9_count_78 rfl rfl ?_
    refine V_getI dX9_count_79 fX9_221 rfl s1 ?_
    exact V_reti rfl dX9_count_82 (q3 c1 c2 c3)
  by_cases c4 : i1 = 3
  · refine V_tabIn (off := 82) (tgt := 83) dX9_count_1 (by omega) (by omega) (by rw [c4]; rfl) (by decide) ?_
    refine V_aload_n (i := 0) dX9_count_83 rfl rfl ?_
    refine V_getP dX9_count_84 fX9_25 rfl s1 ?_
    refine V_iconst dX9_count_87 ⟨by decide, by decide⟩ ?_
    refine V_iald dX9_count_88 s2 (by decide) (s3 c1 c2 c3 c4) ?_
    exact V_reti rfl dX9_count_89 (q4 c1 c2 c3 c4)
  by_cases c5 : i1 = 4
  · refine V_tabIn (off := 89) (tgt := 90) dX9_count_1 (by omega) (by omega) (by rw [c5]; rfl) (by decide) ?_
    refine V_aload_n (i := 0) dX9_count_90 rfl rfl ?_
    refine V_getP dX9_count_91 fX9_25 rfl s1 ?_
    refine V_iconst dX9_count_94 ⟨by decide, by decide⟩ ?_
    refine V_iald dX9_count_95 s2 (by decide) (s4 c1 c2 c3 c4 c5) ?_
    exact V_reti rfl dX9_count_96 (q5 c1 c2 c3 c4 c5)
  by_cases c6 : i1 = 5
  · refine V_tabIn (off := 96) (tgt := 97) dX9_count_1 (by omega) (by omega) (by rw [c6]; rfl) (by decide) ?_
    refine V_aload_n (i := 0) dX9_count_97 rfl rfl ?_
    refine V_getP dX9_count_98 fX9_25 rfl s1 ?_
    refine V_iconst dX9_count_101 ⟨by decide, by decide⟩ ?_
    refine V_iald dX9_count_102 s2 (by decide) (s5 c1 c2 c3 c4 c5 c6) ?_
    exact V_reti rfl dX9_count_103 (q6 c1 c2 c3 c4 c5 c6)
  by_cases c7 : i1 = 6
  · refine V_tabIn (off := 103) (tgt := 104) dX9_count_1 (by omega) (by omega) (by rw [c7]; rfl) (by decide) ?_
    refine V_aload_n (i := 0) dX9_count_104 rfl rfl ?_
    refine V_getP dX9_count_105 fX9_25 rfl s1 ?_
    refine V_iconst dX9_count_108 ⟨by decide, by decide⟩ ?_
    refine V_iald dX9_count_109 s2 (by decide) (s6 c1 c2 c3 c4 c5 c6 c7) ?_
    exact V_reti rfl dX9_count_110 (q7 c1 c2 c3 c4 c5 c6 c7)
  by_cases c8 : i1 = 7
  · refine V_tabIn (off := 110) (tgt := 111) dX9_count_1 (by omega) (by omega) (by rw [c8]; rfl) (by decide) ?_
    refine V_aload_n (i := 0) dX9_count_111 rfl rfl ?_
    refine V_getP dX9_count_112 fX9_25 rfl s1 ?_
    refine V_iconst dX9_count_115 ⟨by decide, by decide⟩ ?_
    refine V_iald dX9_count_116 s2 (by decide) (s7 c1 c2 c3 c4 c5 c6 c7 c8) ?_
    exact V_reti rfl dX9_count_117 (q8 c1 c2 c3 c4 c5 c6 c7 c8)
  by_cases c9 : i1 = 8
  · refine V_tabIn (off := 117) (tgt := 118) dX9_count_1 (by omega) (by omega) (by rw [c9]; rfl) (by decide) ?_
    refine V_aload_n (i := 0) dX9_count_118 rfl rfl ?_
    exact V_callV (M := MX9_count) (d := (d + 4)) (mc' := 0) (ms' := 0) (mc := 0) (ms := 0) (As := []) (rest := []) dX9_count_119 tX9_changes vX9_changes lX9_326 s1 ⟨by decide, rfl⟩ rfl rfl (Nat.le_of_ble_eq_true rfl) (show (d + 1) + 1 ≤ (d + 4) by omega) (e1 c1 c2 c3 c4 c5 c6 c7 c8 c9)
  by_cases c10 : i1 = 9
  · refine V_tabIn (off := 122) (tgt := 123) dX9_count_1 (by omega) (by omega) (by rw [c10]; rfl) (by decide) ?_
    refine V_aload_n (i := 0) dX9_count_123 rfl rfl ?_
    exact V_callV (M := MX9_count) (d := (d + 4)) (mc' := 0) (ms' := 0) (mc := 0) (ms := 0) (As := []) (rest := []) dX9_count_124 tX9_roomOfAll vX9_roomOfAll lX9_329 s1 ⟨by decide, rfl⟩ rfl rfl (Nat.le_of_ble_eq_true rfl) (show (d + 3) + 1 ≤ (d + 4) by omega) (e2 c1 c2 c3 c4 c5 c6 c7 c8 c9 c10)
  by_cases c11 : i1 = 10
  · refine V_tabIn (off := 127) (tgt := 128) dX9_count_1 (by omega) (by omega) (by rw [c11]; rfl) (by decide) ?_
    refine V_aload_n (i := 0) dX9_count_128 rfl rfl ?_
    refine V_getI dX9_count_129 fX9_230 rfl s1 ?_
    exact V_reti rfl dX9_count_132 (q9 c1 c2 c3 c4 c5 c6 c7 c8 c9 c10 c11)
  by_cases c12 : i1 = 11
  · refine V_tabIn (off := 132) (tgt := 133) dX9_count_1 (by omega) (by omega) (by rw [c12]; rfl) (by decide) ?_
    refine V_aload_n (i := 0) dX9_count_133 rfl rfl ?_
    refine V_getI dX9_count_134 fX9_99 rfl s1 ?_
    exact V_reti rfl dX9_count_137 (q10 c1 c2 c3 c4 c5 c6 c7 c8 c9 c10 c11 c12)
  by_cases c13 : i1 = 12
  · refine V_tabIn (off := 137) (tgt := 138) dX9_count_1 (by omega) (by omega) (by rw [c13]; rfl) (by decide) ?_
    refine V_aload_n (i := 0) dX9_count_138 rfl rfl ?_
    refine V_getI dX9_count_139 fX9_227 rfl s1 ?_
    exact V_reti rfl dX9_count_142 (q11 c1 c2 c3 c4 c5 c6 c7 c8 c9 c10 c11 c12 c13)
  refine V_tabOut (tgt := 143) dX9_count_1 (by omega) (by decide) ?_
  refine V_iconst dX9_count_143 ⟨by decide, by decide⟩ ?_
  exact V_reti rfl dX9_count_144 (q12 c1 c2 c3 c4 c5 c6 c7 c8 c9 c10 c11 c12 c13)
theorem bX9_count_122 {d : Nat} {Q : Option jA → jH → Prop} (a0 : Nat) (i1 : Int) (p0 : Int) (h : jH)
    (q1 : Q (some (.inl p0)) h) :
    V MX9_count (d + 4) 122 [some (.inr a0), some (.inl i1)] [.inl p0] h 0 0 Q := by
  exact V_reti rfl dX9_count_122 q1
theorem bX9_count_127 {d : Nat} {Q : Option jA → jH → Prop} (a0 : Nat) (i1 : Int) (p0 : Int) (h : jH)
    (q1 : Q (some (.inl p0)) h) :
    V MX9_count (d + 4) 127 [some (.inr a0), some (.inl i1)] [.inl p0] h 0 0 Q := by
  exact V_reti rfl dX9_count_127 q1
