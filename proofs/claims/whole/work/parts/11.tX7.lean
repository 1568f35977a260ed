/-! ===== Text, Changes: decode rows and trees ===== -/
theorem dX7_add_0 : decode cX7_add 0 = .ok (.aload_n 0, 1) := by decide +kernel
theorem dX7_add_1 : decode cX7_add 1 = .ok (.getfield 15, 3) := by decide +kernel
theorem dX7_add_4 : decode cX7_add 4 = .ok (.aload_n 0, 1) := by decide +kernel
theorem dX7_add_5 : decode cX7_add 5 = .ok (.getfield 9, 3) := by decide +kernel
theorem dX7_add_8 : decode cX7_add 8 = .ok (.arraylength, 1) := by decide +kernel
theorem dX7_add_9 : decode cX7_add 9 = .ok (.if_icmp .ge 23, 3) := by decide +kernel
theorem dX7_add_12 : decode cX7_add 12 = .ok (.aload_n 0, 1) := by decide +kernel
theorem dX7_add_13 : decode cX7_add 13 = .ok (.getfield 9, 3) := by decide +kernel
theorem dX7_add_16 : decode cX7_add 16 = .ok (.aload_n 0, 1) := by decide +kernel
theorem dX7_add_17 : decode cX7_add 17 = .ok (.getfield 15, 3) := by decide +kernel
theorem dX7_add_20 : decode cX7_add 20 = .ok (.iload_n 1, 1) := by decide +kernel
theorem dX7_add_21 : decode cX7_add 21 = .ok (.iastore, 1) := by decide +kernel
theorem dX7_add_22 : decode cX7_add 22 = .ok (.aload_n 0, 1) := by decide +kernel
theorem dX7_add_23 : decode cX7_add 23 = .ok (.dup, 1) := by decide +kernel
theorem dX7_add_24 : decode cX7_add 24 = .ok (.getfield 15, 3) := by decide +kernel
theorem dX7_add_27 : decode cX7_add 27 = .ok (.iconst 1, 1) := by decide +kernel
theorem dX7_add_28 : decode cX7_add 28 = .ok (.iadd, 1) := by decide +kernel
theorem dX7_add_29 : decode cX7_add 29 = .ok (.putfield 15, 3) := by decide +kernel
theorem dX7_add_32 : decode cX7_add 32 = .ok (.return_, 1) := by decide +kernel
theorem bX7_add_0 {d : Nat} {Q : Option jA → jH → Prop} (a0 : Nat) (i1 : Int) (h : jH)
    (s1 : (jS h a0).1 = 7)
    (s2 : (jS h (jP h a0 0)).1 = 16)
    (q1 : ((((jS h (jP h a0 0)).2 : Int)) ≤ (jI h a0 1)) → Q none h)
    (s3 : (¬ ((((jS h (jP h a0 0)).2 : Int)) ≤ (jI h a0 1))) → 0 ≤ jI h a0 1)
    (s4 : (¬ ((((jS h (jP h a0 0)).2 : Int)) ≤ (jI h a0 1))) → jI h a0 1 < ((jS h (jP h a0 0)).2 : Int))
    (r1 : (¬ ((((jS h (jP h a0 0)).2 : Int)) ≤ (jI h a0 1))) → jR ((jI h a0 1) + 1))
    (q2 : (¬ ((((jS h (jP h a0 0)).2 : Int)) ≤ (jI h a0 1))) → Q none (jsI (jsX h (jP h a0 0) ((jI h a0 1).toNat) i1) a0 1 ((jI h a0 1) + 1))) :
    V MX7_add d 0 [some (.inr a0), some (.inl i1)] [] h 0 0 Q := by
  refine V_aload_n (i := 0) dX7_add_0 rfl rfl ?_
  refine V_getI dX7_add_1 fX7_15 rfl s1 ?_
  refine V_aload_n (i := 0) dX7_add_4 rfl rfl ?_
  refine V_getP dX7_add_5 fX7_9 rfl s1 ?_
  refine V_alen (t := 0) dX7_add_8 s2 (by decide) ?_
  refine V_icmp_ge (tgt := 32) dX7_add_9 (by decide) (fun c1 => ?_) (fun c1 => ?_)
  · exact V_ret (v := none) rfl rfl dX7_add_32 trivial rfl (q1 c1)
  · refine V_aload_n (i := 0) dX7_add_12 rfl rfl ?_
    refine V_getP dX7_add_13 fX7_9 rfl s1 ?_
    refine V_aload_n (i := 0) dX7_add_16 rfl rfl ?_
    refine V_getI dX7_add_17 fX7_15 rfl s1 ?_
    refine V_iload_n (i := 1) dX7_add_20 rfl rfl ?_
    refine V_iast dX7_add_21 s2 (s3 c1) (s4 c1) ?_
    refine V_aload_n (i := 0) dX7_add_22 rfl rfl ?_
    refine V_dup dX7_add_23 ?_
    refine V_getI dX7_add_24 fX7_15 rfl s1 ?_
    refine V_iconst dX7_add_27 ⟨by decide, by decide⟩ ?_
    refine V_iadd dX7_add_28 (r1 c1) ?_
    refine V_putI (ci := 7) (kf := 1) dX7_add_29 fX7_15 rfl rfl s1 ?_
    exact V_ret (v := none) rfl rfl dX7_add_32 trivial rfl (q2 c1)
theorem dX7_empty_0 : decode cX7_empty 0 = .ok (.aload_n 0, 1) := by decide +kernel
theorem dX7_empty_1 : decode cX7_empty 1 = .ok (.iconst 0, 1) := by decide +kernel
theorem dX7_empty_2 : decode cX7_empty 2 = .ok (.putfield 15, 3) := by decide +kernel
theorem dX7_empty_5 : decode cX7_empty 5 = .ok (.return_, 1) := by decide +kernel
theorem bX7_empty_0 {d : Nat} {Q : Option jA → jH → Prop} (a0 : Nat) (h : jH)
    (s1 : (jS h a0).1 = 7)
    (q1 : Q none (jsI h a0 1 0)) :
    V MX7_empty d 0 [some (.inr a0)] [] h 0 0 Q := by
  refine V_aload_n (i := 0) dX7_empty_0 rfl rfl ?_
  refine V_iconst dX7_empty_1 ⟨by decide, by decide⟩ ?_
  refine V_putI (ci := 7) (kf := 1) dX7_empty_2 fX7_15 rfl rfl s1 ?_
  exact V_ret (v := none) rfl rfl dX7_empty_5 trivial rfl q1
theorem dX7_toFirst_0 : decode cX7_toFirst 0 = .ok (.aload_n 0, 1) := by decide +kernel
theorem dX7_toFirst_1 : decode cX7_toFirst 1 = .ok (.iconst 0, 1) := by decide +kernel
theorem dX7_toFirst_2 : decode cX7_toFirst 2 = .ok (.putfield 19, 3) := by decide +kernel
theorem dX7_toFirst_5 : decode cX7_toFirst 5 = .ok (.aload_n 0, 1) := by decide +kernel
theorem dX7_toFirst_6 : decode cX7_toFirst 6 = .ok (.invokevirtual 22, 3) := by decide +kernel
theorem dX7_toFirst_9 : decode cX7_toFirst 9 = .ok (.return_, 1) := by decide +kernel
theorem bX7_toFirst_0 {d : Nat} {Q : Option jA → jH → Prop} (a0 : Nat) (h : jH)
    (s1 : (jS h a0).1 = 7)
    (e1 : Ex MX7_toNext d [.inr a0] (jsI h a0 3 0) 0 0 (fun v h2 => V MX7_toFirst (d + 1) 9 [some (.inr a0)] (v.toList ++ []) h2 0 0 Q)) :
    V MX7_toFirst (d + 1) 0 [some (.inr a0)] [] h 0 0 Q := by
  refine V_aload_n (i := 0) dX7_toFirst_0 rfl rfl ?_
  refine V_iconst dX7_toFirst_1 ⟨by decide, by decide⟩ ?_
  refine V_putI (ci := 7) (kf := 3) dX7_toFirst_2 fX7_19 rfl rfl s1 ?_
  refine V_aload_n (i := 0) dX7_toFirst_5 rfl rfl ?_
  exact V_callV (M := MX7_toFirst) (d := (d + 1)) (mc' := 0) (ms' := 0) (mc := 0) (ms := 0) (As := []) (rest := []) dX7_toFirst_6 tX7_toNext vX7_toNext lX7_22 s1 ⟨by decide, rfl⟩ rfl rfl (Nat.le_of_ble_eq_true rfl) (show d + 1 ≤ (d + 1) by omega) e1
theorem bX7_toFirst_9 {d : Nat} {Q : Option jA → jH → Prop} (a0 : Nat) (h : jH)
    (q1 : Q none h) :
    V MX7_toFirst (d + 1) 9 [some (.inr a0)] [] h 0 0 Q := by
  exact V_ret (v := none) rfl rfl dX7_toFirst_9 trivial rfl q1
theorem dX7_toNext_0 : decode cX7_toNext 0 = .ok (.aload_n 0, 1) := by decide +kernel
theorem dX7_toNext_1 : decode cX7_toNext 1 = .ok (.aload_n 0, 1) := by decide +kernel
theorem dX7_toNext_2 : decode cX7_toNext 2 = .ok (.getfield 19, 3) := by decide +kernel
theorem dX7_toNext_5 : decode cX7_toNext 5 = .ok (.putfield 25, 3) := by decide +kernel
theorem dX7_toNext_8 : decode cX7_toNext 8 = .ok (.aload_n 0, 1) := by decide +kernel
theorem dX7_toNext_9 : decode cX7_toNext 9 = .ok (.getfield 25, 3) := by decide +kernel
theorem dX7_toNext_12 : decode cX7_toNext 12 = .ok (.aload_n 0, 1) := by decide +kernel
theorem dX7_toNext_13 : decode cX7_toNext 13 = .ok (.getfield 15, 3) := by decide +kernel
theorem dX7_toNext_16 : decode cX7_toNext 16 = .ok (.if_icmp .ge 30, 3) := by decide +kernel
theorem dX7_toNext_19 : decode cX7_toNext 19 = .ok (.aload_n 0, 1) := by decide +kernel
theorem dX7_toNext_20 : decode cX7_toNext 20 = .ok (.getfield 9, 3) := by decide +kernel
theorem dX7_toNext_23 : decode cX7_toNext 23 = .ok (.aload_n 0, 1) := by decide +kernel
theorem dX7_toNext_24 : decode cX7_toNext 24 = .ok (.getfield 25, 3) := by decide +kernel
theorem dX7_toNext_27 : decode cX7_toNext 27 = .ok (.iaload, 1) := by decide +kernel
theorem dX7_toNext_28 : decode cX7_toNext 28 = .ok (.bipush 32, 2) := by decide +kernel
theorem dX7_toNext_30 : decode cX7_toNext 30 = .ok (.if_icmp .ne 16, 3) := by decide +kernel
theorem dX7_toNext_33 : decode cX7_toNext 33 = .ok (.aload_n 0, 1) := by decide +kernel
theorem dX7_toNext_34 : decode cX7_toNext 34 = .ok (.dup, 1) := by decide +kernel
theorem dX7_toNext_35 : decode cX7_toNext 35 = .ok (.getfield 25, 3) := by decide +kernel
theorem dX7_toNext_38 : decode cX7_toNext 38 = .ok (.iconst 1, 1) := by decide +kernel
theorem dX7_toNext_39 : decode cX7_toNext 39 = .ok (.iadd, 1) := by decide +kernel
theorem dX7_toNext_40 : decode cX7_toNext 40 = .ok (.putfield 25, 3) := by decide +kernel
theorem dX7_toNext_43 : decode cX7_toNext 43 = .ok (.goto (-35), 3) := by decide +kernel
theorem dX7_toNext_46 : decode cX7_toNext 46 = .ok (.aload_n 0, 1) := by decide +kernel
theorem dX7_toNext_47 : decode cX7_toNext 47 = .ok (.aload_n 0, 1) := by decide +kernel
theorem dX7_toNext_48 : decode cX7_toNext 48 = .ok (.getfield 25, 3) := by decide +kernel
theorem dX7_toNext_51 : decode cX7_toNext 51 = .ok (.aload_n 0, 1) := by decide +kernel
theorem dX7_toNext_52 : decode cX7_toNext 52 = .ok (.getfield 15, 3) := by decide +kernel
theorem dX7_toNext_55 : decode cX7_toNext 55 = .ok (.if_icmp .ge 15, 3) := by decide +kernel
theorem dX7_toNext_58 : decode cX7_toNext 58 = .ok (.aload_n 0, 1) := by decide +kernel
theorem dX7_toNext_59 : decode cX7_toNext 59 = .ok (.getfield 9, 3) := by decide +kernel
theorem dX7_toNext_62 : decode cX7_toNext 62 = .ok (.aload_n 0, 1) := by decide +kernel
theorem dX7_toNext_63 : decode cX7_toNext 63 = .ok (.getfield 25, 3) := by decide +kernel
theorem dX7_toNext_66 : decode cX7_toNext 66 = .ok (.iaload, 1) := by decide +kernel
theorem dX7_toNext_67 : decode cX7_toNext 67 = .ok (.goto 5, 3) := by decide +kernel
theorem dX7_toNext_70 : decode cX7_toNext 70 = .ok (.bipush (-9), 2) := by decide +kernel
theorem dX7_toNext_72 : decode cX7_toNext 72 = .ok (.putfield 28, 3) := by decide +kernel
theorem dX7_toNext_75 : decode cX7_toNext 75 = .ok (.aload_n 0, 1) := by decide +kernel
theorem dX7_toNext_76 : decode cX7_toNext 76 = .ok (.aload_n 0, 1) := by decide +kernel
theorem dX7_toNext_77 : decode cX7_toNext 77 = .ok (.getfield 25, 3) := by decide +kernel
theorem dX7_toNext_80 : decode cX7_toNext 80 = .ok (.aload_n 0, 1) := by decide +kernel
theorem dX7_toNext_81 : decode cX7_toNext 81 = .ok (.getfield 15, 3) := by decide +kernel
theorem dX7_toNext_84 : decode cX7_toNext 84 = .ok (.if_icmp .ge 12, 3) := by decide +kernel
theorem dX7_toNext_87 : decode cX7_toNext 87 = .ok (.aload_n 0, 1) := by decide +kernel
theorem dX7_toNext_88 : decode cX7_toNext 88 = .ok (.getfield 25, 3) := by decide +kernel
theorem dX7_toNext_91 : decode cX7_toNext 91 = .ok (.iconst 1, 1) := by decide +kernel
theorem dX7_toNext_92 : decode cX7_toNext 92 = .ok (.iadd, 1) := by decide +kernel
theorem dX7_toNext_93 : decode cX7_toNext 93 = .ok (.goto 7, 3) := by decide +kernel
theorem dX7_toNext_96 : decode cX7_toNext 96 = .ok (.aload_n 0, 1) := by decide +kernel
theorem dX7_toNext_97 : decode cX7_toNext 97 = .ok (.getfield 15, 3) := by decide +kernel
theorem dX7_toNext_100 : decode cX7_toNext 100 = .ok (.putfield 19, 3) := by decide +kernel
theorem dX7_toNext_103 : decode cX7_toNext 103 = .ok (.aload_n 0, 1) := by decide +kernel
theorem dX7_toNext_104 : decode cX7_toNext 104 = .ok (.getfield 28, 3) := by decide +kernel
theorem dX7_toNext_107 : decode cX7_toNext 107 = .ok (.bipush 48, 2) := by decide +kernel
theorem dX7_toNext_109 : decode cX7_toNext 109 = .ok (.if_icmp .lt 64, 3) := by decide +kernel
theorem dX7_toNext_112 : decode cX7_toNext 112 = .ok (.aload_n 0, 1) := by decide +kernel
theorem dX7_toNext_113 : decode cX7_toNext 113 = .ok (.getfield 28, 3) := by decide +kernel
theorem dX7_toNext_116 : decode cX7_toNext 116 = .ok (.bipush 57, 2) := by decide +kernel
theorem dX7_toNext_118 : decode cX7_toNext 118 = .ok (.if_icmp .gt 55, 3) := by decide +kernel
theorem dX7_toNext_121 : decode cX7_toNext 121 = .ok (.aload_n 0, 1) := by decide +kernel
theorem dX7_toNext_122 : decode cX7_toNext 122 = .ok (.getfield 19, 3) := by decide +kernel
theorem dX7_toNext_125 : decode cX7_toNext 125 = .ok (.aload_n 0, 1) := by decide +kernel
theorem dX7_toNext_126 : decode cX7_toNext 126 = .ok (.getfield 15, 3) := by decide +kernel
theorem dX7_toNext_129 : decode cX7_toNext 129 = .ok (.if_icmp .ge 44, 3) := by decide +kernel
theorem dX7_toNext_132 : decode cX7_toNext 132 = .ok (.aload_n 0, 1) := by decide +kernel
theorem dX7_toNext_133 : decode cX7_toNext 133 = .ok (.getfield 9, 3) := by decide +kernel
theorem dX7_toNext_136 : decode cX7_toNext 136 = .ok (.aload_n 0, 1) := by decide +kernel
theorem dX7_toNext_137 : decode cX7_toNext 137 = .ok (.getfield 19, 3) := by decide +kernel
theorem dX7_toNext_140 : decode cX7_toNext 140 = .ok (.iaload, 1) := by decide +kernel
theorem dX7_toNext_141 : decode cX7_toNext 141 = .ok (.bipush 48, 2) := by decide +kernel
theorem dX7_toNext_143 : decode cX7_toNext 143 = .ok (.if_icmp .lt 30, 3) := by decide +kernel
theorem dX7_toNext_146 : decode cX7_toNext 146 = .ok (.aload_n 0, 1) := by decide +kernel
theorem dX7_toNext_147 : decode cX7_toNext 147 = .ok (.getfield 9, 3) := by decide +kernel
theorem dX7_toNext_150 : decode cX7_toNext 150 = .ok (.aload_n 0, 1) := by decide +kernel
theorem dX7_toNext_151 : decode cX7_toNext 151 = .ok (.getfield 19, 3) := by decide +kernel
theorem dX7_toNext_154 : decode cX7_toNext 154 = .ok (.iaload, 1) := by decide +kernel
theorem dX7_toNext_155 : decode cX7_toNext 155 = .ok (.bipush 57, 2) := by decide +kernel
theorem dX7_toNext_157 : decode cX7_toNext 157 = .ok (.if_icmp .gt 16, 3) := by decide +kernel
theorem dX7_toNext_160 : decode cX7_toNext 160 = .ok (.aload_n 0, 1) := by decide +kernel
theorem dX7_toNext_161 : decode cX7_toNext 161 = .ok (.dup, 1) := by decide +kernel
theorem dX7_toNext_162 : decode cX7_toNext 162 = .ok (.getfield 19, 3) := by decide +kernel
theorem dX7_toNext_165 : decode cX7_toNext 165 = .ok (.iconst 1, 1) := by decide +kernel
theorem dX7_toNext_166 : decode cX7_toNext 166 = .ok (.iadd, 1) := by decide +kernel
theorem dX7_toNext_167 : decode cX7_toNext 167 = .ok (.putfield 19, 3) := by decide +kernel
theorem dX7_toNext_170 : decode cX7_toNext 170 = .ok (.goto (-49), 3) := by decide +kernel
theorem dX7_toNext_173 : decode cX7_toNext 173 = .ok (.return_, 1) := by decide +kernel
theorem bX7_toNext_0 {d : Nat} {Q : Option jA → jH → Prop} (a0 : Nat) (h : jH)
    (s1 : (jS h a0).1 = 7)
    (k1 : V MX7_toNext d 8 [some (.inr a0)] [] (jsI h a0 2 (jI h a0 3)) 0 0 Q) :
    V MX7_toNext d 0 [some (.inr a0)] [] h 0 0 Q := by
  refine V_aload_n (i := 0) dX7_toNext_0 rfl rfl ?_
  refine V_aload_n (i := 0) dX7_toNext_1 rfl rfl ?_
  refine V_getI dX7_toNext_2 fX7_19 rfl s1 ?_
  refine V_putI (ci := 7) (kf := 2) dX7_toNext_5 fX7_25 rfl rfl s1 ?_
  exact k1
theorem bX7_toNext_8 {d : Nat} {Q : Option jA → jH → Prop} (a0 : Nat) (h : jH)
    (s1 : (jS h a0).1 = 7)
    (k1 : ((jI h a0 1) ≤ (jI h a0 2)) → V MX7_toNext d 46 [some (.inr a0)] [] h 0 0 Q)
    (s2 : (jS h (jP h a0 0)).1 = 16)
    (s3 : (¬ ((jI h a0 1) ≤ (jI h a0 2))) → 0 ≤ jI h a0 2)
    (s4 : (¬ ((jI h a0 1) ≤ (jI h a0 2))) → jI h a0 2 < ((jS h (jP h a0 0)).2 : Int))
    (k2 : (¬ ((jI h a0 1) ≤ (jI h a0 2))) → ((jX h (jP h a0 0) ((jI h a0 2).toNat)) ≠ 32) → V MX7_toNext d 46 [some (.inr a0)] [] h 0 0 Q)
    (r1 : (¬ ((jI h a0 1) ≤ (jI h a0 2))) → ((jX h (jP h a0 0) ((jI h a0 2).toNat)) = 32) → jR ((jI h a0 2) + 1))
    (k3 : (¬ ((jI h a0 1) ≤ (jI h a0 2))) → ((jX h (jP h a0 0) ((jI h a0 2).toNat)) = 32) → V MX7_toNext d 8 [some (.inr a0)] [] (jsI h a0 2 ((jI h a0 2) + 1)) 0 0 Q) :
    V MX7_toNext d 8 [some (.inr a0)] [] h 0 0 Q := by
  refine V_aload_n (i := 0) dX7_toNext_8 rfl rfl ?_
  refine V_getI dX7_toNext_9 fX7_25 rfl s1 ?_
  refine V_aload_n (i := 0) dX7_toNext_12 rfl rfl ?_
  refine V_getI dX7_toNext_13 fX7_15 rfl s1 ?_
  refine V_icmp_ge (tgt := 46) dX7_toNext_16 (by decide) (fun c1 => ?_) (fun c1 => ?_)
  · exact (k1 c1)
  · refine V_aload_n (i := 0) dX7_toNext_19 rfl rfl ?_
    refine V_getP dX7_toNext_20 fX7_9 rfl s1 ?_
    refine V_aload_n (i := 0) dX7_toNext_23 rfl rfl ?_
    refine V_getI dX7_toNext_24 fX7_25 rfl s1 ?_
    refine V_iald dX7_toNext_27 s2 (s3 c1) (s4 c1) ?_
    refine V_bipush dX7_toNext_28 (by decide +kernel) ⟨by decide, by decide⟩ ?_
    refine V_icmp_ne (tgt := 46) dX7_toNext_30 (by decide) (fun c2 => ?_) (fun c2 => ?_)
    · exact (k2 c1 c2)
    · refine V_aload_n (i := 0) dX7_toNext_33 rfl rfl ?_
      refine V_dup dX7_toNext_34 ?_
      refine V_getI dX7_toNext_35 fX7_25 rfl s1 ?_
      refine V_iconst dX7_toNext_38 ⟨by decide, by decide⟩ ?_
      refine V_iadd dX7_toNext_39 (r1 c1 c2) ?_
      refine V_putI (ci := 7) (kf := 2) dX7_toNext_40 fX7_25 rfl rfl s1 ?_
      refine V_goto (tgt := 8) dX7_toNext_43 (by decide) ?_
      exact (k3 c1 c2)
theorem bX7_toNext_46 {d : Nat} {Q : Option jA → jH → Prop} (a0 : Nat) (h : jH)
    (s1 : (jS h a0).1 = 7)
    (k1 : ((jI h a0 1) ≤ (jI h a0 2)) → V MX7_toNext d 72 [some (.inr a0)] [.inl ((-9)), .inr a0] h 0 0 Q)
    (s2 : (jS h (jP h a0 0)).1 = 16)
    (s3 : (¬ ((jI h a0 1) ≤ (jI h a0 2))) → 0 ≤ jI h a0 2)
    (s4 : (¬ ((jI h a0 1) ≤ (jI h a0 2))) → jI h a0 2 < ((jS h (jP h a0 0)).2 : Int))
    (k2 : (¬ ((jI h a0 1) ≤ (jI h a0 2))) → V MX7_toNext d 72 [some (.inr a0)] [.inl (jX h (jP h a0 0) ((jI h a0 2).toNat)), .inr a0] h 0 0 Q) :
    V MX7_toNext d 46 [some (.inr a0)] [] h 0 0 Q := by
  refine V_aload_n (i := 0) dX7_toNext_46 rfl rfl ?_
  refine V_aload_n (i := 0) dX7_toNext_47 rfl rfl ?_
  refine V_getI dX7_toNext_48 fX7_25 rfl s1 ?_
  refine V_aload_n (i := 0) dX7_toNext_51 rfl rfl ?_
  refine V_getI dX7_toNext_52 fX7_15 rfl s1 ?_
  refine V_icmp_ge (tgt := 70) dX7_toNext_55 (by decide) (fun c1 => ?_) (fun c1 => ?_)
  · refine V_bipush dX7_toNext_70 (by decide +kernel) ⟨by decide, by decide⟩ ?_
    exact (k1 c1)
  · refine V_aload_n (i := 0) dX7_toNext_58 rfl rfl ?_
    refine V_getP dX7_toNext_59 fX7_9 rfl s1 ?_
    refine V_aload_n (i := 0) dX7_toNext_62 rfl rfl ?_
    refine V_getI dX7_toNext_63 fX7_25 rfl s1 ?_
    refine V_iald dX7_toNext_66 s2 (s3 c1) (s4 c1) ?_
    refine V_goto (tgt := 72) dX7_toNext_67 (by decide) ?_
    exact (k2 c1)
theorem bX7_toNext_72 {d : Nat} {Q : Option jA → jH → Prop} (a0 : Nat) (p0 : Int) (q1 : Nat) (h : jH)
    (s1 : (jS h q1).1 = 7)
    (s2 : (jS h a0).1 = 7)
    (k1 : ((jI h a0 1) ≤ (jI h a0 2)) → V MX7_toNext d 100 [some (.inr a0)] [.inl (jI h a0 1), .inr a0] (jsI h q1 4 p0) 0 0 Q)
    (r1 : (¬ ((jI h a0 1) ≤ (jI h a0 2))) → jR ((jI h a0 2) + 1))
    (k2 : (¬ ((jI h a0 1) ≤ (jI h a0 2))) → V MX7_toNext d 100 [some (.inr a0)] [.inl ((jI h a0 2) + 1), .inr a0] (jsI h q1 4 p0) 0 0 Q) :
    V MX7_toNext d 72 [some (.inr a0)] [.inl p0, .inr q1] h 0 0 Q := by
  refine V_putI (ci := 7) (kf := 4) dX7_toNext_72 fX7_28 rfl rfl s1 ?_
  refine V_aload_n (i := 0) dX7_toNext_75 rfl rfl ?_
  refine V_aload_n (i := 0) dX7_toNext_76 rfl rfl ?_
  refine V_getI dX7_toNext_77 fX7_25 rfl s2 ?_
  refine V_topI (jI_ne (by decide)) ?_
  refine V_aload_n (i := 0) dX7_toNext_80 rfl rfl ?_
  refine V_getI dX7_toNext_81 fX7_15 rfl s2 ?_
  refine V_topI (jI_ne (by decide)) ?_
  refine V_icmp_ge (tgt := 96) dX7_toNext_84 (by decide) (fun c1 => ?_) (fun c1 => ?_)
  · refine V_aload_n (i := 0) dX7_toNext_96 rfl rfl ?_
    refine V_getI dX7_toNext_97 fX7_15 rfl s2 ?_
    refine V_topI (jI_ne (by decide)) ?_
    exact (k1 c1)
  · refine V_aload_n (i := 0) dX7_toNext_87 rfl rfl ?_
    refine V_getI dX7_toNext_88 fX7_25 rfl s2 ?_
    refine V_topI (jI_ne (by decide)) ?_
    refine V_iconst dX7_toNext_91 ⟨by decide, by decide⟩ ?_
    refine V_iadd dX7_toNext_92 (r1 c1) ?_
    refine V_goto (tgt := 100) dX7_toNext_93 (by decide) ?_
    exact (k2 c1)
theorem bX7_toNext_100 {d : Nat} {Q : Option jA → jH → Prop} (a0 : Nat) (p0 : Int) (q1 : Nat) (h : jH)
    (s1 : (jS h q1).1 = 7)
    (s2 : (jS h a0).1 = 7)
    (k1 : ((jI h a0 4) < 48) → V MX7_toNext d 173 [some (.inr a0)] [] (jsI h q1 3 p0) 0 0 Q)
    (k2 : (¬ ((jI h a0 4) < 48)) → (57 < (jI h a0 4)) → V MX7_toNext d 173 [some (.inr a0)] [] (jsI h q1 3 p0) 0 0 Q)
    (k3 : (¬ ((jI h a0 4) < 48)) → (¬ (57 < (jI h a0 4))) → V MX7_toNext d 121 [some (.inr a0)] [] (jsI h q1 3 p0) 0 0 Q) :
    V MX7_toNext d 100 [some (.inr a0)] [.inl p0, .inr q1] h 0 0 Q := by
  refine V_putI (ci := 7) (kf := 3) dX7_toNext_100 fX7_19 rfl rfl s1 ?_
  refine V_aload_n (i := 0) dX7_toNext_103 rfl rfl ?_
  refine V_getI dX7_toNext_104 fX7_28 rfl s2 ?_
  refine V_topI (jI_ne (by decide)) ?_
  refine V_bipush dX7_toNext_107 (by decide +kernel) ⟨by decide, by decide⟩ ?_
  refine V_icmp_lt (tgt := 173) dX7_toNext_109 (by decide) (fun c1 => ?_) (fun c1 => ?_)
  · exact (k1 c1)
  · refine V_aload_n (i := 0) dX7_toNext_112 rfl rfl ?_
    refine V_getI dX7_toNext_113 fX7_28 rfl s2 ?_
    refine V_topI (jI_ne (by decide)) ?_
    refine V_bipush dX7_toNext_116 (by decide +kernel) ⟨by decide, by decide⟩ ?_
    refine V_icmp_gt (tgt := 173) dX7_toNext_118 (by decide) (fun c2 => ?_) (fun c2 => ?_)
    · exact (k2 c1 c2)
    · exact (k3 c1 c2)
theorem bX7_toNext_121 {d : Nat} {Q : Option jA → jH → Prop} (a0 : Nat) (h : jH)
    (s1 : (jS h a0).1 = 7)
    (k1 : ((jI h a0 1) ≤ (jI h a0 3)) → V MX7_toNext d 173 [some (.inr a0)] [] h 0 0 Q)
    (s2 : (jS h (jP h a0 0)).1 = 16)
    (s3 : (¬ ((jI h a0 1) ≤ (jI h a0 3))) → 0 ≤ jI h a0 3)
    (s4 : (¬ ((jI h a0 1) ≤ (jI h a0 3))) → jI h a0 3 < ((jS h (jP h a0 0)).2 : Int))
    (k2 : (¬ ((jI h a0 1) ≤ (jI h a0 3))) → ((jX h (jP h a0 0) ((jI h a0 3).toNat)) < 48) → V MX7_toNext d 173 [some (.inr a0)] [] h 0 0 Q)
    (k3 : (¬ ((jI h a0 1) ≤ (jI h a0 3))) → (¬ ((jX h (jP h a0 0) ((jI h a0 3).toNat)) < 48)) → (57 < (jX h (jP h a0 0) ((jI h a0 3).toNat))) → V MX7_toNext d 173 [some (.inr a0)] [] h 0 0 Q)
    (r1 : (¬ ((jI h a0 1) ≤ (jI h a0 3))) → (¬ ((jX h (jP h a0 0) ((jI h a0 3).toNat)) < 48)) → (¬ (57 < (jX h (jP h a0 0) ((jI h a0 3).toNat)))) → jR ((jI h a0 3) + 1))
    (k4 : (¬ ((jI h a0 1) ≤ (jI h a0 3))) → (¬ ((jX h (jP h a0 0) ((jI h a0 3).toNat)) < 48)) → (¬ (57 < (jX h (jP h a0 0) ((jI h a0 3).toNat)))) → V MX7_toNext d 121 [some (.inr a0)] [] (jsI h a0 3 ((jI h a0 3) + 1)) 0 0 Q) :
    V MX7_toNext d 121 [some (.inr a0)] [] h 0 0 Q := by
  refine V_aload_n (i := 0) dX7_toNext_121 rfl rfl ?_
  refine V_getI dX7_toNext_122 fX7_19 rfl s1 ?_
  refine V_aload_n (i := 0) dX7_toNext_125 rfl rfl ?_
  refine V_getI dX7_toNext_126 fX7_15 rfl s1 ?_
  refine V_icmp_ge (tgt := 173) dX7_toNext_129 (by decide) (fun c1 => ?_) (fun c1 => ?_)
  · exact (k1 c1)
  · refine V_aload_n (i := 0) dX7_toNext_132 rfl rfl ?_
    refine V_getP dX7_toNext_133 fX7_9 rfl s1 ?_
    refine V_aload_n (i := 0) dX7_toNext_136 rfl rfl ?_
    refine V_getI dX7_toNext_137 fX7_19 rfl s1 ?_
    refine V_iald dX7_toNext_140 s2 (s3 c1) (s4 c1) ?_
    refine V_bipush dX7_toNext_141 (by decide +kernel) ⟨by decide, by decide⟩ ?_
    refine V_icmp_lt (tgt := 173) dX7_toNext_143 (by decide) (fun c2 => ?_) (fun c2 => ?_)
    · exact (k2 c1 c2)
    · refine V_aload_n (i := 0) dX7_toNext_146 rfl rfl ?_
      refine V_getP dX7_toNext_147 fX7_9 rfl s1 ?_
      refine V_aload_n (i := 0) dX7_toNext_150 rfl rfl ?_
      refine V_getI dX7_toNext_151 fX7_19 rfl s1 ?_
      refine V_iald dX7_toNext_154 s2 (s3 c1) (s4 c1) ?_
      refine V_bipush dX7_toNext_155 (by decide +kernel) ⟨by decide, by decide⟩ ?_
      refine V_icmp_gt (tgt := 173) dX7_toNext_157 (by decide) (fun c3 => ?_) (fun c3 => ?_)
      · exact (k3 c1 c2 c3)
      · refine V_aload_n (i := 0) dX7_toNext_160 rfl rfl ?_
        refine V_dup dX7_toNext_161 ?_
        refine V_getI dX7_toNext_162 fX7_19 rfl s1 ?_
        refine V_iconst dX7_toNext_165 ⟨by decide, by decide⟩ ?_
        refine V_iadd dX7_toNext_166 (r1 c1 c2 c3) ?_
        refine V_putI (ci := 7) (kf := 3) dX7_toNext_167 fX7_19 rfl rfl s1 ?_
        refine V_goto (tgt := 121) dX7_toNext_170 (by decide) ?_
        exact (k4 c1 c2 c3)
theorem bX7_toNext_173 {d : Nat} {Q : Option jA → jH → Prop} (a0 : Nat) (h : jH)
    (q1 : Q none h) :
    V MX7_toNext d 173 [some (.inr a0)] [] h 0 0 Q := by
  exact V_ret (v := none) rfl rfl dX7_toNext_173 trivial rfl q1
theorem dX7_number_0 : decode cX7_number 0 = .ok (.aload_n 0, 1) := by decide +kernel
theorem dX7_number_1 : decode cX7_number 1 = .ok (.getfield 19, 3) := by decide +kernel
theorem dX7_number_4 : decode cX7_number 4 = .ok (.aload_n 0, 1) := by decide +kernel
theorem dX7_number_5 : decode cX7_number 5 = .ok (.getfield 25, 3) := by decide +kernel
theorem dX7_number_8 : decode cX7_number 8 = .ok (.isub, 1) := by decide +kernel
theorem dX7_number_9 : decode cX7_number 9 = .ok (.istore_n 1, 1) := by decide +kernel
theorem dX7_number_10 : decode cX7_number 10 = .ok (.aload_n 0, 1) := by decide +kernel
theorem dX7_number_11 : decode cX7_number 11 = .ok (.getfield 28, 3) := by decide +kernel
theorem dX7_number_14 : decode cX7_number 14 = .ok (.bipush 48, 2) := by decide +kernel
theorem dX7_number_16 : decode cX7_number 16 = .ok (.if_icmp .lt 31, 3) := by decide +kernel
theorem dX7_number_19 : decode cX7_number 19 = .ok (.aload_n 0, 1) := by decide +kernel
theorem dX7_number_20 : decode cX7_number 20 = .ok (.getfield 28, 3) := by decide +kernel
theorem dX7_number_23 : decode cX7_number 23 = .ok (.bipush 57, 2) := by decide +kernel
theorem dX7_number_25 : decode cX7_number 25 = .ok (.if_icmp .gt 22, 3) := by decide +kernel
theorem dX7_number_28 : decode cX7_number 28 = .ok (.iload_n 1, 1) := by decide +kernel
theorem dX7_number_29 : decode cX7_number 29 = .ok (.iconst 3, 1) := by decide +kernel
theorem dX7_number_30 : decode cX7_number 30 = .ok (.if_icmp .gt 17, 3) := by decide +kernel
theorem dX7_number_33 : decode cX7_number 33 = .ok (.aload_n 0, 1) := by decide +kernel
theorem dX7_number_34 : decode cX7_number 34 = .ok (.getfield 28, 3) := by decide +kernel
theorem dX7_number_37 : decode cX7_number 37 = .ok (.bipush 48, 2) := by decide +kernel
theorem dX7_number_39 : decode cX7_number 39 = .ok (.if_icmp .ne 11, 3) := by decide +kernel
theorem dX7_number_42 : decode cX7_number 42 = .ok (.iload_n 1, 1) := by decide +kernel
theorem dX7_number_43 : decode cX7_number 43 = .ok (.iconst 1, 1) := by decide +kernel
theorem dX7_number_44 : decode cX7_number 44 = .ok (.if_icmp .le 6, 3) := by decide +kernel
theorem dX7_number_47 : decode cX7_number 47 = .ok (.bipush (-9), 2) := by decide +kernel
theorem dX7_number_49 : decode cX7_number 49 = .ok (.ireturn, 1) := by decide +kernel
theorem dX7_number_50 : decode cX7_number 50 = .ok (.iconst 0, 1) := by decide +kernel
theorem dX7_number_51 : decode cX7_number 51 = .ok (.istore_n 2, 1) := by decide +kernel
theorem dX7_number_52 : decode cX7_number 52 = .ok (.aload_n 0, 1) := by decide +kernel
theorem dX7_number_53 : decode cX7_number 53 = .ok (.getfield 25, 3) := by decide +kernel
theorem dX7_number_56 : decode cX7_number 56 = .ok (.istore_n 3, 1) := by decide +kernel
theorem dX7_number_57 : decode cX7_number 57 = .ok (.iload_n 3, 1) := by decide +kernel
theorem dX7_number_58 : decode cX7_number 58 = .ok (.aload_n 0, 1) := by decide +kernel
theorem dX7_number_59 : decode cX7_number 59 = .ok (.getfield 19, 3) := by decide +kernel
theorem dX7_number_62 : decode cX7_number 62 = .ok (.if_icmp .ge 24, 3) := by decide +kernel
theorem dX7_number_65 : decode cX7_number 65 = .ok (.bipush 10, 2) := by decide +kernel
theorem dX7_number_67 : decode cX7_number 67 = .ok (.iload_n 2, 1) := by decide +kernel
theorem dX7_number_68 : decode cX7_number 68 = .ok (.imul, 1) := by decide +kernel
theorem dX7_number_69 : decode cX7_number 69 = .ok (.aload_n 0, 1) := by decide +kernel
theorem dX7_number_70 : decode cX7_number 70 = .ok (.getfield 9, 3) := by decide +kernel
theorem dX7_number_73 : decode cX7_number 73 = .ok (.iload_n 3, 1) := by decide +kernel
theorem dX7_number_74 : decode cX7_number 74 = .ok (.iaload, 1) := by decide +kernel
theorem dX7_number_75 : decode cX7_number 75 = .ok (.iadd, 1) := by decide +kernel
theorem dX7_number_76 : decode cX7_number 76 = .ok (.bipush 48, 2) := by decide +kernel
theorem dX7_number_78 : decode cX7_number 78 = .ok (.isub, 1) := by decide +kernel
theorem dX7_number_79 : decode cX7_number 79 = .ok (.istore_n 2, 1) := by decide +kernel
theorem dX7_number_80 : decode cX7_number 80 = .ok (.iinc 3 1, 3) := by decide +kernel
theorem dX7_number_83 : decode cX7_number 83 = .ok (.goto (-26), 3) := by decide +kernel
theorem dX7_number_86 : decode cX7_number 86 = .ok (.iload_n 2, 1) := by decide +kernel
theorem dX7_number_87 : decode cX7_number 87 = .ok (.sipush 255, 3) := by decide +kernel
theorem dX7_number_90 : decode cX7_number 90 = .ok (.if_icmp .gt 7, 3) := by decide +kernel
theorem dX7_number_93 : decode cX7_number 93 = .ok (.iload_n 2, 1) := by decide +kernel
theorem dX7_number_94 : decode cX7_number 94 = .ok (.goto 5, 3) := by decide +kernel
theorem dX7_number_97 : decode cX7_number 97 = .ok (.bipush (-9), 2) := by decide +kernel
theorem dX7_number_99 : decode cX7_number 99 = .ok (.ireturn, 1) := by decide +kernel
theorem bX7_number_0 {d : Nat} {Q : Option jA → jH → Prop} (a0 : Nat) (u1 : Option jA) (u2 : Option jA) (u3 : Option jA) (h : jH)
    (s1 : (jS h a0).1 = 7)
    (r1 : jR ((jI h a0 3) - (jI h a0 2)))
    (q1 : ((jI h a0 4) < 48) → Q (some (.inl ((-9)))) h)
    (q2 : (¬ ((jI h a0 4) < 48)) → (57 < (jI h a0 4)) → Q (some (.inl ((-9)))) h)
    (q3 : (¬ ((jI h a0 4) < 48)) → (¬ (57 < (jI h a0 4))) → (3 < ((jI h a0 3) - (jI h a0 2))) → Q (some (.inl ((-9)))) h)
    (k1 : (¬ ((jI h a0 4) < 48)) → (¬ (57 < (jI h a0 4))) → (¬ (3 < ((jI h a0 3) - (jI h a0 2)))) → ((jI h a0 4) ≠ 48) → V MX7_number d 57 [some (.inr a0), some (.inl ((jI h a0 3) - (jI h a0 2))), some (.inl 0), some (.inl (jI h a0 2))] [] h 0 0 Q)
    (k2 : (¬ ((jI h a0 4) < 48)) → (¬ (57 < (jI h a0 4))) → (¬ (3 < ((jI h a0 3) - (jI h a0 2)))) → ((jI h a0 4) = 48) → (((jI h a0 3) - (jI h a0 2)) ≤ 1) → V MX7_number d 57 [some (.inr a0), some (.inl ((jI h a0 3) - (jI h a0 2))), some (.inl 0), some (.inl (jI h a0 2))] [] h 0 0 Q)
    (q4 : (¬ ((jI h a0 4) < 48)) → (¬ (57 < (jI h a0 4))) → (¬ (3 < ((jI h a0 3) - (jI h a0 2)))) → ((jI h a0 4) = 48) → (¬ (((jI h a0 3) - (jI h a0 2)) ≤ 1)) → Q (some (.inl ((-9)))) h) :
    V MX7_number d 0 [some (.inr a0), u1, u2, u3] [] h 0 0 Q := by
  refine V_aload_n (i := 0) dX7_number_0 rfl rfl ?_
  refine V_getI dX7_number_1 fX7_19 rfl s1 ?_
  refine V_aload_n (i := 0) dX7_number_4 rfl rfl ?_
  refine V_getI dX7_number_5 fX7_25 rfl s1 ?_
  refine V_isub dX7_number_8 r1 ?_
  refine V_istore_n (i := 1) dX7_number_9 rfl (by decide) ?_
  refine V_aload_n (i := 0) dX7_number_10 rfl rfl ?_
  refine V_getI dX7_number_11 fX7_28 rfl s1 ?_
  refine V_bipush dX7_number_14 (by decide +kernel) ⟨by decide, by decide⟩ ?_
  refine V_icmp_lt (tgt := 47) dX7_number_16 (by decide) (fun c1 => ?_) (fun c1 => ?_)
  · refine V_bipush dX7_number_47 (by decide +kernel) ⟨by decide, by decide⟩ ?_
    exact V_reti rfl dX7_number_49 (q1 c1)
  · refine V_aload_n (i := 0) dX7_number_19 rfl rfl ?_
    refine V_getI dX7_number_20 fX7_28 rfl s1 ?_
    refine V_bipush dX7_number_23 (by decide +kernel) ⟨by decide, by decide⟩ ?_
    refine V_icmp_gt (tgt := 47) dX7_number_25 (by decide) (fun c2 => ?_) (fun c2 => ?_)
    · refine V_bipush dX7_number_47 (by decide +kernel) ⟨by decide, by decide⟩ ?_
      exact V_reti rfl dX7_number_49 (q2 c1 c2)
    · refine V_iload_n (i := 1) dX7_number_28 rfl rfl ?_
      refine V_iconst dX7_number_29 ⟨by decide, by decide⟩ ?_
      refine V_icmp_gt (tgt := 47) dX7_number_30 (by decide) (fun c3 => ?_) (fun c3 => ?_)
      · refine V_bipush dX7_number_47 (by decide +kernel) ⟨by decide, by decide⟩ ?_
        exact V_reti rfl dX7_number_49 (q3 c1 c2 c3)
      · refine V_aload_n (i := 0) dX7_number_33 rfl rfl ?_
        refine V_getI dX7_number_34 fX7_28 rfl s1 ?_
        refine V_bipush dX7_number_37 (by decide +kernel) ⟨by decide, by decide⟩ ?_
        refine V_icmp_ne (tgt := 50) dX7_number_39 (by decide) (fun c4 => ?_) (fun c4 => ?_)
        · refine V_iconst dX7_number_50 ⟨by decide, by decide⟩ ?_
          refine V_istore_n (i := 2) dX7_number_51 rfl (by decide) ?_
          refine V_aload_n (i := 0) dX7_number_52 rfl rfl ?_
          refine V_getI dX7_number_53 fX7_25 rfl s1 ?_
          refine V_istore_n (i := 3) dX7_number_56 rfl (by decide) ?_
          exact (k1 c1 c2 c3 c4)
        · refine V_iload_n (i := 1) dX7_number_42 rfl rfl ?_
          refine V_iconst dX7_number_43 ⟨by decide, by decide⟩ ?_
          refine V_icmp_le (tgt := 50) dX7_number_44 (by decide) (fun c5 => ?_) (fun c5 => ?_)
          · refine V_iconst dX7_number_50 ⟨by decide, by decide⟩ ?_
            refine V_istore_n (i := 2) dX7_number_51 rfl (by decide) ?_
            refine V_aload_n (i := 0) dX7_number_52 rfl rfl ?_
            refine V_getI dX7_number_53 fX7_25 rfl s1 ?_
            refine V_istore_n (i := 3) dX7_number_56 rfl (by decide) ?_
            exact (k2 c1 c2 c3 c4 c5)
          · refine V_bipush dX7_number_47 (by decide +kernel) ⟨by decide, by decide⟩ ?_
            exact V_reti rfl dX7_number_49 (q4 c1 c2 c3 c4 c5)
theorem bX7_number_57 {d : Nat} {Q : Option jA → jH → Prop} (a0 : Nat) (i1 : Int) (i2 : Int) (i3 : Int) (h : jH)
    (s1 : (jS h a0).1 = 7)
    (q1 : ((jI h a0 3) ≤ i3) → (255 < i2) → Q (some (.inl ((-9)))) h)
    (q2 : ((jI h a0 3) ≤ i3) → (¬ (255 < i2)) → Q (some (.inl i2)) h)
    (r1 : (¬ ((jI h a0 3) ≤ i3)) → jR (10 * i2))
    (s2 : (jS h (jP h a0 0)).1 = 16)
    (s3 : (¬ ((jI h a0 3) ≤ i3)) → 0 ≤ i3)
    (s4 : (¬ ((jI h a0 3) ≤ i3)) → i3 < ((jS h (jP h a0 0)).2 : Int))
    (r2 : (¬ ((jI h a0 3) ≤ i3)) → jR ((10 * i2) + (jX h (jP h a0 0) ((i3).toNat))))
    (r3 : (¬ ((jI h a0 3) ≤ i3)) → jR (((10 * i2) + (jX h (jP h a0 0) ((i3).toNat))) - 48))
    (r4 : (¬ ((jI h a0 3) ≤ i3)) → jR (i3 + 1))
    (k1 : (¬ ((jI h a0 3) ≤ i3)) → V MX7_number d 57 [some (.inr a0), some (.inl i1), some (.inl (((10 * i2) + (jX h (jP h a0 0) ((i3).toNat))) - 48)), some (.inl (i3 + 1))] [] h 0 0 Q) :
    V MX7_number d 57 [some (.inr a0), some (.inl i1), some (.inl i2), some (.inl i3)] [] h 0 0 Q := by
  refine V_iload_n (i := 3) dX7_number_57 rfl rfl ?_
  refine V_aload_n (i := 0) dX7_number_58 rfl rfl ?_
  refine V_getI dX7_number_59 fX7_19 rfl s1 ?_
  refine V_icmp_ge (tgt := 86) dX7_number_62 (by decide) (fun c1 => ?_) (fun c1 => ?_)
  · refine V_iload_n (i := 2) dX7_number_86 rfl rfl ?_
    refine V_sipush dX7_number_87 (by decide +kernel) ⟨by decide, by decide⟩ ?_
    refine V_icmp_gt (tgt := 97) dX7_number_90 (by decide) (fun c2 => ?_) (fun c2 => ?_)
    · refine V_bipush dX7_number_97 (by decide +kernel) ⟨by decide, by decide⟩ ?_
      exact V_reti rfl dX7_number_99 (q1 c1 c2)
    · refine V_iload_n (i := 2) dX7_number_93 rfl rfl ?_
      refine V_goto (tgt := 99) dX7_number_94 (by decide) ?_
      exact V_reti rfl dX7_number_99 (q2 c1 c2)
  · refine V_bipush dX7_number_65 (by decide +kernel) ⟨by decide, by decide⟩ ?_
    refine V_iload_n (i := 2) dX7_number_67 rfl rfl ?_
    refine V_imul dX7_number_68 (r1 c1) ?_
    refine V_aload_n (i := 0) dX7_number_69 rfl rfl ?_
    refine V_getP dX7_number_70 fX7_9 rfl s1 ?_
    refine V_iload_n (i := 3) dX7_number_73 rfl rfl ?_
    refine V_iald dX7_number_74 s2 (s3 c1) (s4 c1) ?_
    refine V_iadd dX7_number_75 (r2 c1) ?_
    refine V_bipush dX7_number_76 (by decide +kernel) ⟨by decide, by decide⟩ ?_
    refine V_isub dX7_number_78 (r3 c1) ?_
    refine V_istore_n (i := 2) dX7_number_79 rfl (by decide) ?_
    refine V_iinc (i := 3) dX7_number_80 rfl (by decide) (r4 c1) ?_
    refine V_goto (tgt := 57) dX7_number_83 (by decide) ?_
    exact (k1 c1)
theorem dX1_add_0 : decode cX1_add 0 = .ok (.aload_n 0, 1) := by decide +kernel
theorem dX1_add_1 : decode cX1_add 1 = .ok (.getfield 19, 3) := by decide +kernel
theorem dX1_add_4 : decode cX1_add 4 = .ok (.aload_n 0, 1) := by decide +kernel
theorem dX1_add_5 : decode cX1_add 5 = .ok (.getfield 7, 3) := by decide +kernel
theorem dX1_add_8 : decode cX1_add 8 = .ok (.arraylength, 1) := by decide +kernel
theorem dX1_add_9 : decode cX1_add 9 = .ok (.if_icmp .ge 43, 3) := by decide +kernel
theorem dX1_add_12 : decode cX1_add 12 = .ok (.aload_n 0, 1) := by decide +kernel
theorem dX1_add_13 : decode cX1_add 13 = .ok (.getfield 7, 3) := by decide +kernel
theorem dX1_add_16 : decode cX1_add 16 = .ok (.aload_n 0, 1) := by decide +kernel
theorem dX1_add_17 : decode cX1_add 17 = .ok (.getfield 19, 3) := by decide +kernel
theorem dX1_add_20 : decode cX1_add 20 = .ok (.iload_n 1, 1) := by decide +kernel
theorem dX1_add_21 : decode cX1_add 21 = .ok (.iastore, 1) := by decide +kernel
theorem dX1_add_22 : decode cX1_add 22 = .ok (.aload_n 0, 1) := by decide +kernel
theorem dX1_add_23 : decode cX1_add 23 = .ok (.getfield 13, 3) := by decide +kernel
theorem dX1_add_26 : decode cX1_add 26 = .ok (.aload_n 0, 1) := by decide +kernel
theorem dX1_add_27 : decode cX1_add 27 = .ok (.getfield 19, 3) := by decide +kernel
theorem dX1_add_30 : decode cX1_add 30 = .ok (.iload_n 2, 1) := by decide +kernel
theorem dX1_add_31 : decode cX1_add 31 = .ok (.iastore, 1) := by decide +kernel
theorem dX1_add_32 : decode cX1_add 32 = .ok (.aload_n 0, 1) := by decide +kernel
theorem dX1_add_33 : decode cX1_add 33 = .ok (.getfield 16, 3) := by decide +kernel
theorem dX1_add_36 : decode cX1_add 36 = .ok (.aload_n 0, 1) := by decide +kernel
theorem dX1_add_37 : decode cX1_add 37 = .ok (.getfield 19, 3) := by decide +kernel
theorem dX1_add_40 : decode cX1_add 40 = .ok (.iload_n 3, 1) := by decide +kernel
theorem dX1_add_41 : decode cX1_add 41 = .ok (.iastore, 1) := by decide +kernel
theorem dX1_add_42 : decode cX1_add 42 = .ok (.aload_n 0, 1) := by decide +kernel
theorem dX1_add_43 : decode cX1_add 43 = .ok (.dup, 1) := by decide +kernel
theorem dX1_add_44 : decode cX1_add 44 = .ok (.getfield 19, 3) := by decide +kernel
theorem dX1_add_47 : decode cX1_add 47 = .ok (.iconst 1, 1) := by decide +kernel
theorem dX1_add_48 : decode cX1_add 48 = .ok (.iadd, 1) := by decide +kernel
theorem dX1_add_49 : decode cX1_add 49 = .ok (.putfield 19, 3) := by decide +kernel
theorem dX1_add_52 : decode cX1_add 52 = .ok (.return_, 1) := by decide +kernel
theorem bX1_add_0 {d : Nat} {Q : Option jA → jH → Prop} (a0 : Nat) (i1 : Int) (i2 : Int) (i3 : Int) (h : jH)
    (s1 : (jS h a0).1 = 1)
    (s2 : (jS h (jP h a0 1)).1 = 16)
    (q1 : ((((jS h (jP h a0 1)).2 : Int)) ≤ (jI h a0 0)) → Q none h)
    (s3 : (¬ ((((jS h (jP h a0 1)).2 : Int)) ≤ (jI h a0 0))) → 0 ≤ jI h a0 0)
    (s4 : (¬ ((((jS h (jP h a0 1)).2 : Int)) ≤ (jI h a0 0))) → jI h a0 0 < ((jS h (jP h a0 1)).2 : Int))
    (s5 : (jS h (jP h a0 2)).1 = 16)
    (s6 : (¬ ((((jS h (jP h a0 1)).2 : Int)) ≤ (jI h a0 0))) → jI h a0 0 < ((jS h (jP h a0 2)).2 : Int))
    (s7 : (jS h (jP h a0 3)).1 = 16)
    (s8 : (¬ ((((jS h (jP h a0 1)).2 : Int)) ≤ (jI h a0 0))) → jI h a0 0 < ((jS h (jP h a0 3)).2 : Int))
    (r1 : (¬ ((((jS h (jP h a0 1)).2 : Int)) ≤ (jI h a0 0))) → jR ((jI h a0 0) + 1))
    (q2 : (¬ ((((jS h (jP h a0 1)).2 : Int)) ≤ (jI h a0 0))) → Q none (jsI (jsX (jsX (jsX h (jP h a0 1) ((jI h a0 0).toNat) i1) (jP h a0 2) ((jI h a0 0).toNat) i2) (jP h a0 3) ((jI h a0 0).toNat) i3) a0 0 ((jI h a0 0) + 1))) :
    V MX1_add d 0 [some (.inr a0), some (.inl i1), some (.inl i2), some (.inl i3)] [] h 0 0 Q := by
  refine V_aload_n (i := 0) dX1_add_0 rfl rfl ?_
  refine V_getI dX1_add_1 fX1_19 rfl s1 ?_
  refine V_aload_n (i := 0) dX1_add_4 rfl rfl ?_
  refine V_getP dX1_add_5 fX1_7 rfl s1 ?_
  refine V_alen (t := 0) dX1_add_8 s2 (by decide) ?_
  refine V_icmp_ge (tgt := 52) dX1_add_9 (by decide) (fun c1 => ?_) (fun c1 => ?_)
  · exact V_ret (v := none) rfl rfl dX1_add_52 trivial rfl (q1 c1)
  · refine V_aload_n (i := 0) dX1_add_12 rfl rfl ?_
    refine V_getP dX1_add_13 fX1_7 rfl s1 ?_
    refine V_aload_n (i := 0) dX1_add_16 rfl rfl ?_
    refine V_getI dX1_add_17 fX1_19 rfl s1 ?_
    refine V_iload_n (i := 1) dX1_add_20 rfl rfl ?_
    refine V_iast dX1_add_21 s2 (s3 c1) (s4 c1) ?_
    refine V_aload_n (i := 0) dX1_add_22 rfl rfl ?_
    refine V_getP dX1_add_23 fX1_13 rfl s1 ?_
    refine V_aload_n (i := 0) dX1_add_26 rfl rfl ?_
    refine V_getI dX1_add_27 fX1_19 rfl s1 ?_
    refine V_iload_n (i := 2) dX1_add_30 rfl rfl ?_
    refine V_iast dX1_add_31 s5 (s3 c1) (s6 c1) ?_
    refine V_aload_n (i := 0) dX1_add_32 rfl rfl ?_
    refine V_getP dX1_add_33 fX1_16 rfl s1 ?_
    refine V_aload_n (i := 0) dX1_add_36 rfl rfl ?_
    refine V_getI dX1_add_37 fX1_19 rfl s1 ?_
    refine V_iload_n (i := 3) dX1_add_40 rfl rfl ?_
    refine V_iast dX1_add_41 s7 (s3 c1) (s8 c1) ?_
    refine V_aload_n (i := 0) dX1_add_42 rfl rfl ?_
    refine V_dup dX1_add_43 ?_
    refine V_getI dX1_add_44 fX1_19 rfl s1 ?_
    refine V_iconst dX1_add_47 ⟨by decide, by decide⟩ ?_
    refine V_iadd dX1_add_48 (r1 c1) ?_
    refine V_putI (ci := 1) (kf := 0) dX1_add_49 fX1_19 rfl rfl s1 ?_
    exact V_ret (v := none) rfl rfl dX1_add_52 trivial rfl (q2 c1)
theorem dX1_addAll_0 : decode cX1_addAll 0 = .ok (.iconst 0, 1) := by decide +kernel
theorem dX1_addAll_1 : decode cX1_addAll 1 = .ok (.istore_n 2, 1) := by decide +kernel
theorem dX1_addAll_2 : decode cX1_addAll 2 = .ok (.iload_n 2, 1) := by decide +kernel
theorem dX1_addAll_3 : decode cX1_addAll 3 = .ok (.aload_n 1, 1) := by decide +kernel
theorem dX1_addAll_4 : decode cX1_addAll 4 = .ok (.getfield 19, 3) := by decide +kernel
theorem dX1_addAll_7 : decode cX1_addAll 7 = .ok (.if_icmp .ge 31, 3) := by decide +kernel
theorem dX1_addAll_10 : decode cX1_addAll 10 = .ok (.aload_n 0, 1) := by decide +kernel
theorem dX1_addAll_11 : decode cX1_addAll 11 = .ok (.aload_n 1, 1) := by decide +kernel
theorem dX1_addAll_12 : decode cX1_addAll 12 = .ok (.getfield 7, 3) := by decide +kernel
theorem dX1_addAll_15 : decode cX1_addAll 15 = .ok (.iload_n 2, 1) := by decide +kernel
theorem dX1_addAll_16 : decode cX1_addAll 16 = .ok (.iaload, 1) := by decide +kernel
theorem dX1_addAll_17 : decode cX1_addAll 17 = .ok (.aload_n 1, 1) := by decide +kernel
theorem dX1_addAll_18 : decode cX1_addAll 18 = .ok (.getfield 13, 3) := by decide +kernel
theorem dX1_addAll_21 : decode cX1_addAll 21 = .ok (.iload_n 2, 1) := by decide +kernel
theorem dX1_addAll_22 : decode cX1_addAll 22 = .ok (.iaload, 1) := by decide +kernel
theorem dX1_addAll_23 : decode cX1_addAll 23 = .ok (.aload_n 1, 1) := by decide +kernel
theorem dX1_addAll_24 : decode cX1_addAll 24 = .ok (.getfield 16, 3) := by decide +kernel
theorem dX1_addAll_27 : decode cX1_addAll 27 = .ok (.iload_n 2, 1) := by decide +kernel
theorem dX1_addAll_28 : decode cX1_addAll 28 = .ok (.iaload, 1) := by decide +kernel
theorem dX1_addAll_29 : decode cX1_addAll 29 = .ok (.invokevirtual 23, 3) := by decide +kernel
theorem dX1_addAll_32 : decode cX1_addAll 32 = .ok (.iinc 2 1, 3) := by decide +kernel
theorem dX1_addAll_35 : decode cX1_addAll 35 = .ok (.goto (-33), 3) := by decide +kernel
theorem dX1_addAll_38 : decode cX1_addAll 38 = .ok (.return_, 1) := by decide +kernel
theorem bX1_addAll_0 {d : Nat} {Q : Option jA → jH → Prop} (a0 : Nat) (a1 : Nat) (u2 : Option jA) (h : jH)
    (k1 : V MX1_addAll (d + 1) 2 [some (.inr a0), some (.inr a1), some (.inl 0)] [] h 0 0 Q) :
    V MX1_addAll (d + 1) 0 [some (.inr a0), some (.inr a1), u2] [] h 0 0 Q := by
  refine V_iconst dX1_addAll_0 ⟨by decide, by decide⟩ ?_
  refine V_istore_n (i := 2) dX1_addAll_1 rfl (by decide) ?_
  exact k1
theorem bX1_addAll_2 {d : Nat} {Q : Option jA → jH → Prop} (a0 : Nat) (a1 : Nat) (i2 : Int) (h : jH)
    (s1 : (jS h a1).1 = 1)
    (q1 : ((jI h a1 0) ≤ i2) → Q none h)
    (s2 : (jS h (jP h a1 1)).1 = 16)
    (s3 : (¬ ((jI h a1 0) ≤ i2)) → 0 ≤ i2)
    (s4 : (¬ ((jI h a1 0) ≤ i2)) → i2 < ((jS h (jP h a1 1)).2 : Int))
    (s5 : (jS h (jP h a1 2)).1 = 16)
    (s6 : (¬ ((jI h a1 0) ≤ i2)) → i2 < ((jS h (jP h a1 2)).2 : Int))
    (s7 : (jS h (jP h a1 3)).1 = 16)
    (s8 : (¬ ((jI h a1 0) ≤ i2)) → i2 < ((jS h (jP h a1 3)).2 : Int))
    (e1 : (¬ ((jI h a1 0) ≤ i2)) → Ex MX1_add d [.inr a0, .inl (jX h (jP h a1 1) ((i2).toNat)), .inl (jX h (jP h a1 2) ((i2).toNat)), .inl (jX h (jP h a1 3) ((i2).toNat))] h 0 0 (fun v h2 => V MX1_addAll (d + 1) 32 [some (.inr a0), some (.inr a1), some (.inl i2)] (v.toList ++ []) h2 0 0 Q))
    (s9 : (jS h a0).1 = 1) :
    V MX1_addAll (d + 1) 2 [some (.inr a0), some (.inr a1), some (.inl i2)] [] h 0 0 Q := by
  refine V_iload_n (i := 2) dX1_addAll_2 rfl rfl ?_
  refine V_aload_n (i := 1) dX1_addAll_3 rfl rfl ?_
  refine V_getI dX1_addAll_4 fX1_19 rfl s1 ?_
  refine V_icmp_ge (tgt := 38) dX1_addAll_7 (by decide) (fun c1 => ?_) (fun c1 => ?_)
  · exact V_ret (v := none) rfl rfl dX1_addAll_38 trivial rfl (q1 c1)
  · refine V_aload_n (i := 0) dX1_addAll_10 rfl rfl ?_
    refine V_aload_n (i := 1) dX1_addAll_11 rfl rfl ?_
    refine V_getP dX1_addAll_12 fX1_7 rfl s1 ?_
    refine V_iload_n (i := 2) dX1_addAll_15 rfl rfl ?_
    refine V_iald dX1_addAll_16 s2 (s3 c1) (s4 c1) ?_
    refine V_aload_n (i := 1) dX1_addAll_17 rfl rfl ?_
    refine V_getP dX1_addAll_18 fX1_13 rfl s1 ?_
    refine V_iload_n (i := 2) dX1_addAll_21 rfl rfl ?_
    refine V_iald dX1_addAll_22 s5 (s3 c1) (s6 c1) ?_
    refine V_aload_n (i := 1) dX1_addAll_23 rfl rfl ?_
    refine V_getP dX1_addAll_24 fX1_16 rfl s1 ?_
    refine V_iload_n (i := 2) dX1_addAll_27 rfl rfl ?_
    refine V_iald dX1_addAll_28 s7 (s3 c1) (s8 c1) ?_
    exact V_callV (M := MX1_addAll) (d := (d + 1)) (mc' := 0) (ms' := 0) (mc := 0) (ms := 0) (As := [.inl (jX h (jP h a1 1) ((i2).toNat)), .inl (jX h (jP h a1 2) ((i2).toNat)), .inl (jX h (jP h a1 3) ((i2).toNat))]) (rest := []) dX1_addAll_29 tX1_add vX1_add lX1_23 s9 ⟨by decide, rfl⟩ rfl rfl (Nat.le_of_ble_eq_true rfl) (show d + 1 ≤ (d + 1) by omega) (e1 c1)
theorem bX1_addAll_32 {d : Nat} {Q : Option jA → jH → Prop} (a0 : Nat) (a1 : Nat) (i2 : Int) (h : jH)
    (r1 : jR (i2 + 1))
    (k1 : V MX1_addAll (d + 1) 2 [some (.inr a0), some (.inr a1), some (.inl (i2 + 1))] [] h 0 0 Q) :
    V MX1_addAll (d + 1) 32 [some (.inr a0), some (.inr a1), some (.inl i2)] [] h 0 0 Q := by
  refine V_iinc (i := 2) dX1_addAll_32 rfl (by decide) r1 ?_
  refine V_goto (tgt := 2) dX1_addAll_35 (by decide) ?_
  exact k1
theorem dX1_copyFrom_0 : decode cX1_copyFrom 0 = .ok (.aload_n 0, 1) := by decide +kernel
theorem dX1_copyFrom_1 : decode cX1_copyFrom 1 = .ok (.iconst 0, 1) := by decide +kernel
theorem dX1_copyFrom_2 : decode cX1_copyFrom 2 = .ok (.putfield 19, 3) := by decide +kernel
theorem dX1_copyFrom_5 : decode cX1_copyFrom 5 = .ok (.aload_n 0, 1) := by decide +kernel
theorem dX1_copyFrom_6 : decode cX1_copyFrom 6 = .ok (.aload_n 1, 1) := by decide +kernel
theorem dX1_copyFrom_7 : decode cX1_copyFrom 7 = .ok (.invokevirtual 27, 3) := by decide +kernel
theorem dX1_copyFrom_10 : decode cX1_copyFrom 10 = .ok (.return_, 1) := by decide +kernel
theorem bX1_copyFrom_0 {d : Nat} {Q : Option jA → jH → Prop} (a0 : Nat) (a1 : Nat) (h : jH)
    (s1 : (jS h a0).1 = 1)
    (e1 : Ex MX1_addAll (d + 1) [.inr a0, .inr a1] (jsI h a0 0 0) 0 0 (fun v h2 => V MX1_copyFrom (d + 2) 10 [some (.inr a0), some (.inr a1)] (v.toList ++ []) h2 0 0 Q)) :
    V MX1_copyFrom (d + 2) 0 [some (.inr a0), some (.inr a1)] [] h 0 0 Q := by
  refine V_aload_n (i := 0) dX1_copyFrom_0 rfl rfl ?_
  refine V_iconst dX1_copyFrom_1 ⟨by decide, by decide⟩ ?_
  refine V_putI (ci := 1) (kf := 0) dX1_copyFrom_2 fX1_19 rfl rfl s1 ?_
  refine V_aload_n (i := 0) dX1_copyFrom_5 rfl rfl ?_
  refine V_aload_n (i := 1) dX1_copyFrom_6 rfl rfl ?_
  exact V_callV (M := MX1_copyFrom) (d := (d + 2)) (mc' := 0) (ms' := 0) (mc := 0) (ms := 0) (As := [.inr a1]) (rest := []) dX1_copyFrom_7 tX1_addAll vX1_addAll lX1_27 s1 ⟨by decide, rfl⟩ rfl rfl (Nat.le_of_ble_eq_true rfl) (show (d + 1) + 1 ≤ (d + 2) by omega) e1
theorem bX1_copyFrom_10 {d : Nat} {Q : Option jA → jH → Prop} (a0 : Nat) (a1 : Nat) (h : jH)
    (q1 : Q none h) :
    V MX1_copyFrom (d + 2) 10 [some (.inr a0), some (.inr a1)] [] h 0 0 Q := by
  exact V_ret (v := none) rfl rfl dX1_copyFrom_10 trivial rfl q1
theorem dX1_isNew_0 : decode cX1_isNew 0 = .ok (.iload_n 2, 1) := by decide +kernel
theorem dX1_isNew_1 : decode cX1_isNew 1 = .ok (.istore_n 3, 1) := by decide +kernel
theorem dX1_isNew_2 : decode cX1_isNew 2 = .ok (.iload_n 3, 1) := by decide +kernel
theorem dX1_isNew_3 : decode cX1_isNew 3 = .ok (.iload_n 1, 1) := by decide +kernel
theorem dX1_isNew_4 : decode cX1_isNew 4 = .ok (.if_icmp .ge 26, 3) := by decide +kernel
theorem dX1_isNew_7 : decode cX1_isNew 7 = .ok (.aload_n 0, 1) := by decide +kernel
theorem dX1_isNew_8 : decode cX1_isNew 8 = .ok (.getfield 16, 3) := by decide +kernel
theorem dX1_isNew_11 : decode cX1_isNew 11 = .ok (.iload_n 3, 1) := by decide +kernel
theorem dX1_isNew_12 : decode cX1_isNew 12 = .ok (.iaload, 1) := by decide +kernel
theorem dX1_isNew_13 : decode cX1_isNew 13 = .ok (.aload_n 0, 1) := by decide +kernel
theorem dX1_isNew_14 : decode cX1_isNew 14 = .ok (.getfield 16, 3) := by decide +kernel
theorem dX1_isNew_17 : decode cX1_isNew 17 = .ok (.iload_n 1, 1) := by decide +kernel
theorem dX1_isNew_18 : decode cX1_isNew 18 = .ok (.iaload, 1) := by decide +kernel
theorem dX1_isNew_19 : decode cX1_isNew 19 = .ok (.if_icmp .ne 5, 3) := by decide +kernel
theorem dX1_isNew_22 : decode cX1_isNew 22 = .ok (.iconst 0, 1) := by decide +kernel
theorem dX1_isNew_23 : decode cX1_isNew 23 = .ok (.ireturn, 1) := by decide +kernel
theorem dX1_isNew_24 : decode cX1_isNew 24 = .ok (.iinc 3 1, 3) := by decide +kernel
theorem dX1_isNew_27 : decode cX1_isNew 27 = .ok (.goto (-25), 3) := by decide +kernel
theorem dX1_isNew_30 : decode cX1_isNew 30 = .ok (.iconst 1, 1) := by decide +kernel
theorem dX1_isNew_31 : decode cX1_isNew 31 = .ok (.ireturn, 1) := by decide +kernel
theorem bX1_isNew_0 {d : Nat} {Q : Option jA → jH → Prop} (a0 : Nat) (i1 : Int) (i2 : Int) (u3 : Option jA) (h : jH)
    (k1 : V MX1_isNew d 2 [some (.inr a0), some (.inl i1), some (.inl i2), some (.inl i2)] [] h 0 0 Q) :
    V MX1_isNew d 0 [some (.inr a0), some (.inl i1), some (.inl i2), u3] [] h 0 0 Q := by
  refine V_iload_n (i := 2) dX1_isNew_0 rfl rfl ?_
  refine V_istore_n (i := 3) dX1_isNew_1 rfl (by decide) ?_
  exact k1
theorem bX1_isNew_2 {d : Nat} {Q : Option jA → jH → Prop} (a0 : Nat) (i1 : Int) (i2 : Int) (i3 : Int) (h : jH)
    (q1 : (i1 ≤ i3) → Q (some (.inl 1)) h)
    (s1 : (jS h a0).1 = 1)
    (s2 : (jS h (jP h a0 3)).1 = 16)
    (s3 : (¬ (i1 ≤ i3)) → 0 ≤ i3)
    (s4 : (¬ (i1 ≤ i3)) → i3 < ((jS h (jP h a0 3)).2 : Int))
    (s5 : (¬ (i1 ≤ i3)) → 0 ≤ i1)
    (s6 : (¬ (i1 ≤ i3)) → i1 < ((jS h (jP h a0 3)).2 : Int))
    (r1 : (¬ (i1 ≤ i3)) → ((jX h (jP h a0 3) ((i3).toNat)) ≠ (jX h (jP h a0 3) ((i1).toNat))) → jR (i3 + 1))
    (k1 : (¬ (i1 ≤ i3)) → ((jX h (jP h a0 3) ((i3).toNat)) ≠ (jX h (jP h a0 3) ((i1).toNat))) → V MX1_isNew d 2 [some (.inr a0), some (.inl i1), some (.inl i2), some (.inl (i3 + 1))] [] h 0 0 Q)
    (q2 : (¬ (i1 ≤ i3)) → ((jX h (jP h a0 3) ((i3).toNat)) = (jX h (jP h a0 3) ((i1).toNat))) → Q (some (.inl 0)) h) :
    V MX1_isNew d 2 [some (.inr a0), some (.inl i1), some (.inl i2), some (.inl i3)] [] h 0 0 Q := by
  refine V_iload_n (i := 3) dX1_isNew_2 rfl rfl ?_
  refine V_iload_n (i := 1) dX1_isNew_3 rfl rfl ?_
  refine V_icmp_ge (tgt := 30) dX1_isNew_4 (by decide) (fun c1 => ?_) (fun c1 => ?_)
  · refine V_iconst dX1_isNew_30 ⟨by decide, by decide⟩ ?_
    exact V_retz rfl dX1_isNew_31 (by decide) (q1 c1)
  · refine V_aload_n (i := 0) dX1_isNew_7 rfl rfl ?_
    refine V_getP dX1_isNew_8 fX1_16 rfl s1 ?_
    refine V_iload_n (i := 3) dX1_isNew_11 rfl rfl ?_
    refine V_iald dX1_isNew_12 s2 (s3 c1) (s4 c1) ?_
    refine V_aload_n (i := 0) dX1_isNew_13 rfl rfl ?_
    refine V_getP dX1_isNew_14 fX1_16 rfl s1 ?_
    refine V_iload_n (i := 1) dX1_isNew_17 rfl rfl ?_
    refine V_iald dX1_isNew_18 s2 (s5 c1) (s6 c1) ?_
    refine V_icmp_ne (tgt := 24) dX1_isNew_19 (by decide) (fun c2 => ?_) (fun c2 => ?_)
    · refine V_iinc (i := 3) dX1_isNew_24 rfl (by decide) (r1 c1 c2) ?_
      refine V_goto (tgt := 2) dX1_isNew_27 (by decide) ?_
      exact (k1 c1 c2)
    · refine V_iconst dX1_isNew_22 ⟨by decide, by decide⟩ ?_
      exact V_retz rfl dX1_isNew_23 (by decide) (q2 c1 c2)
theorem dX1_different_0 : decode cX1_different 0 = .ok (.iconst 0, 1) := by decide +kernel
theorem dX1_different_1 : decode cX1_different 1 = .ok (.istore_n 3, 1) := by decide +kernel
theorem dX1_different_2 : decode cX1_different 2 = .ok (.iload_n 1, 1) := by decide +kernel
theorem dX1_different_3 : decode cX1_different 3 = .ok (.istore 4, 2) := by decide +kernel
theorem dX1_different_5 : decode cX1_different 5 = .ok (.iload 4, 2) := by decide +kernel
theorem dX1_different_7 : decode cX1_different 7 = .ok (.iload_n 2, 1) := by decide +kernel
theorem dX1_different_8 : decode cX1_different 8 = .ok (.if_icmp .ge 22, 3) := by decide +kernel
theorem dX1_different_11 : decode cX1_different 11 = .ok (.aload_n 0, 1) := by decide +kernel
theorem dX1_different_12 : decode cX1_different 12 = .ok (.iload 4, 2) := by decide +kernel
theorem dX1_different_14 : decode cX1_different 14 = .ok (.iload_n 1, 1) := by decide +kernel
theorem dX1_different_15 : decode cX1_different 15 = .ok (.invokevirtual 31, 3) := by decide +kernel
theorem dX1_different_18 : decode cX1_different 18 = .ok (.ifCond .eq 6, 3) := by decide +kernel
theorem dX1_different_21 : decode cX1_different 21 = .ok (.iinc 3 1, 3) := by decide +kernel
theorem dX1_different_24 : decode cX1_different 24 = .ok (.iinc 4 1, 3) := by decide +kernel
theorem dX1_different_27 : decode cX1_different 27 = .ok (.goto (-22), 3) := by decide +kernel
theorem dX1_different_30 : decode cX1_different 30 = .ok (.iload_n 3, 1) := by decide +kernel
theorem dX1_different_31 : decode cX1_different 31 = .ok (.ireturn, 1) := by decide +kernel
theorem bX1_different_0 {d : Nat} {Q : Option jA → jH → Prop} (a0 : Nat) (i1 : Int) (i2 : Int) (u3 : Option jA) (u4 : Option jA) (h : jH)
    (k1 : V MX1_different (d + 1) 5 [some (.inr a0), some (.inl i1), some (.inl i2), some (.inl 0), some (.inl i1)] [] h 0 0 Q) :
    V MX1_different (d + 1) 0 [some (.inr a0), some (.inl i1), some (.inl i2), u3, u4] [] h 0 0 Q := by
  refine V_iconst dX1_different_0 ⟨by decide, by decide⟩ ?_
  refine V_istore_n (i := 3) dX1_different_1 rfl (by decide) ?_
  refine V_iload_n (i := 1) dX1_different_2 rfl rfl ?_
  refine V_istore (i := 4) dX1_different_3 (by decide) ?_
  exact k1
theorem bX1_different_5 {d : Nat} {Q : Option jA → jH → Prop} (a0 : Nat) (i1 : Int) (i2 : Int) (i3 : Int) (i4 : Int) (h : jH)
    (q1 : (i2 ≤ i4) → Q (some (.inl i3)) h)
    (e1 : (¬ (i2 ≤ i4)) → Ex MX1_isNew d [.inr a0, .inl i4, .inl i1] h 0 0 (fun v h2 => V MX1_different (d + 1) 18 [some (.inr a0), some (.inl i1), some (.inl i2), some (.inl i3), some (.inl i4)] (v.toList ++ []) h2 0 0 Q))
    (s1 : (jS h a0).1 = 1) :
    V MX1_different (d + 1) 5 [some (.inr a0), some (.inl i1), some (.inl i2), some (.inl i3), some (.inl i4)] [] h 0 0 Q := by
  refine V_iload (i := 4) dX1_different_5 rfl ?_
  refine V_iload_n (i := 2) dX1_different_7 rfl rfl ?_
  refine V_icmp_ge (tgt := 30) dX1_different_8 (by decide) (fun c1 => ?_) (fun c1 => ?_)
  · refine V_iload_n (i := 3) dX1_different_30 rfl rfl ?_
    exact V_reti rfl dX1_different_31 (q1 c1)
  · refine V_aload_n (i := 0) dX1_different_11 rfl rfl ?_
    refine V_iload (i := 4) dX1_different_12 rfl ?_
    refine V_iload_n (i := 1) dX1_different_14 rfl rfl ?_
    exact V_callV (M := MX1_different) (d := (d + 1)) (mc' := 0) (ms' := 0) (mc := 0) (ms := 0) (As := [.inl i4, .inl i1]) (rest := []) dX1_different_15 tX1_isNew vX1_isNew lX1_31 s1 ⟨by decide, rfl⟩ rfl rfl (Nat.le_of_ble_eq_true rfl) (show d + 1 ≤ (d + 1) by omega) (e1 c1)
theorem bX1_different_18 {d : Nat} {Q : Option jA → jH → Prop} (a0 : Nat) (i1 : Int) (i2 : Int) (i3 : Int) (i4 : Int) (p0 : Int) (h : jH)
    (r1 : (p0 = 0) → jR (i4 + 1))
    (k1 : (p0 = 0) → V MX1_different (d + 1) 5 [some (.inr a0), some (.inl i1), some (.inl i2), some (.inl i3), some (.inl (i4 + 1))] [] h 0 0 Q)
    (r2 : (¬ (p0 = 0)) → jR (i3 + 1))
    (r3 : (¬ (p0 = 0)) → jR (i4 + 1))
    (k2 : (¬ (p0 = 0)) → V MX1_different (d + 1) 5 [some (.inr a0), some (.inl i1), some (.inl i2), some (.inl (i3 + 1)), some (.inl (i4 + 1))] [] h 0 0 Q) :
    V MX1_different (d + 1) 18 [some (.inr a0), some (.inl i1), some (.inl i2), some (.inl i3), some (.inl i4)] [.inl p0] h 0 0 Q := by
  refine V_if_eq (tgt := 24) dX1_different_18 (by decide) (fun c1 => ?_) (fun c1 => ?_)
  · refine V_iinc (i := 4) dX1_different_24 rfl (by decide) (r1 c1) ?_
    refine V_goto (tgt := 5) dX1_different_27 (by decide) ?_
    exact (k1 c1)
  · refine V_iinc (i := 3) dX1_different_21 rfl (by decide) (r2 c1) ?_
    refine V_iinc (i := 4) dX1_different_24 rfl (by decide) (r3 c1) ?_
    refine V_goto (tgt := 5) dX1_different_27 (by decide) ?_
    exact (k2 c1)
theorem dX1_indexOf_0 : decode cX1_indexOf 0 = .ok (.iload_n 2, 1) := by decide +kernel
theorem dX1_indexOf_1 : decode cX1_indexOf 1 = .ok (.istore_n 3, 1) := by decide +kernel
theorem dX1_indexOf_2 : decode cX1_indexOf 2 = .ok (.iload_n 3, 1) := by decide +kernel
theorem dX1_indexOf_3 : decode cX1_indexOf 3 = .ok (.iload_n 1, 1) := by decide +kernel
theorem dX1_indexOf_4 : decode cX1_indexOf 4 = .ok (.if_icmp .ge 24, 3) := by decide +kernel
theorem dX1_indexOf_7 : decode cX1_indexOf 7 = .ok (.aload_n 0, 1) := by decide +kernel
theorem dX1_indexOf_8 : decode cX1_indexOf 8 = .ok (.getfield 16, 3) := by decide +kernel
theorem dX1_indexOf_11 : decode cX1_indexOf 11 = .ok (.iload_n 3, 1) := by decide +kernel
theorem dX1_indexOf_12 : decode cX1_indexOf 12 = .ok (.iaload, 1) := by decide +kernel
theorem dX1_indexOf_13 : decode cX1_indexOf 13 = .ok (.aload_n 0, 1) := by decide +kernel
theorem dX1_indexOf_14 : decode cX1_indexOf 14 = .ok (.getfield 16, 3) := by decide +kernel
theorem dX1_indexOf_17 : decode cX1_indexOf 17 = .ok (.iload_n 1, 1) := by decide +kernel
theorem dX1_indexOf_18 : decode cX1_indexOf 18 = .ok (.iaload, 1) := by decide +kernel
theorem dX1_indexOf_19 : decode cX1_indexOf 19 = .ok (.if_icmp .eq 9, 3) := by decide +kernel
theorem dX1_indexOf_22 : decode cX1_indexOf 22 = .ok (.iinc 3 1, 3) := by decide +kernel
theorem dX1_indexOf_25 : decode cX1_indexOf 25 = .ok (.goto (-23), 3) := by decide +kernel
theorem dX1_indexOf_28 : decode cX1_indexOf 28 = .ok (.aload_n 0, 1) := by decide +kernel
theorem dX1_indexOf_29 : decode cX1_indexOf 29 = .ok (.iload_n 2, 1) := by decide +kernel
theorem dX1_indexOf_30 : decode cX1_indexOf 30 = .ok (.iload_n 3, 1) := by decide +kernel
theorem dX1_indexOf_31 : decode cX1_indexOf 31 = .ok (.invokevirtual 35, 3) := by decide +kernel
theorem dX1_indexOf_34 : decode cX1_indexOf 34 = .ok (.ireturn, 1) := by decide +kernel
theorem bX1_indexOf_0 {d : Nat} {Q : Option jA → jH → Prop} (a0 : Nat) (i1 : Int) (i2 : Int) (u3 : Option jA) (h : jH)
    (k1 : V MX1_indexOf (d + 2) 2 [some (.inr a0), some (.inl i1), some (.inl i2), some (.inl i2)] [] h 0 0 Q) :
    V MX1_indexOf (d + 2) 0 [some (.inr a0), some (.inl i1), some (.inl i2), u3] [] h 0 0 Q := by
  refine V_iload_n (i := 2) dX1_indexOf_0 rfl rfl ?_
  refine V_istore_n (i := 3) dX1_indexOf_1 rfl (by decide) ?_
  exact k1
theorem bX1_indexOf_2 {d : Nat} {Q : Option jA → jH → Prop} (a0 : Nat) (i1 : Int) (i2 : Int) (i3 : Int) (h : jH)
    (e1 : (i1 ≤ i3) → Ex MX1_different (d + 1) [.inr a0, .inl i2, .inl i3] h 0 0 (fun v h2 => V MX1_indexOf (d + 2) 34 [some (.inr a0), some (.inl i1), some (.inl i2), some (.inl i3)] (v.toList ++ []) h2 0 0 Q))
    (s1 : (jS h a0).1 = 1)
    (s2 : (jS h (jP h a0 3)).1 = 16)
    (s3 : (¬ (i1 ≤ i3)) → 0 ≤ i3)
    (s4 : (¬ (i1 ≤ i3)) → i3 < ((jS h (jP h a0 3)).2 : Int))
    (s5 : (¬ (i1 ≤ i3)) → 0 ≤ i1)
    (s6 : (¬ (i1 ≤ i3)) → i1 < ((jS h (jP h a0 3)).2 : Int))
    (e2 : (¬ (i1 ≤ i3)) → ((jX h (jP h a0 3) ((i3).toNat)) = (jX h (jP h a0 3) ((i1).toNat))) → Ex MX1_different (d + 1) [.inr a0, .inl i2, .inl i3] h 0 0 (fun v h2 => V MX1_indexOf (d + 2) 34 [some (.inr a0), some (.inl i1), some (.inl i2), some (.inl i3)] (v.toList ++ []) h2 0 0 Q))
    (r1 : (¬ (i1 ≤ i3)) → (¬ ((jX h (jP h a0 3) ((i3).toNat)) = (jX h (jP h a0 3) ((i1).toNat)))) → jR (i3 + 1))
    (k1 : (¬ (i1 ≤ i3)) → (¬ ((jX h (jP h a0 3) ((i3).toNat)) = (jX h (jP h a0 3) ((i1).toNat)))) → V MX1_indexOf (d + 2) 2 [some (.inr a0), some (.inl i1), some (.inl i2), some (.inl (i3 + 1))] [] h 0 0 Q) :
    V MX1_indexOf (d + 2) 2 [some (.inr a0), some (.inl i1), some (.inl i2), some (.inl i3)] [] h 0 0 Q := by
  refine V_iload_n (i := 3) dX1_indexOf_2 rfl rfl ?_
  refine V_iload_n (i := 1) dX1_indexOf_3 rfl rfl ?_
  refine V_icmp_ge (tgt := 28) dX1_indexOf_4 (by decide) (fun c1 => ?_) (fun c1 => ?_)
  · refine V_aload_n (i := 0) dX1_indexOf_28 rfl rfl ?_
    refine V_iload_n (i := 2) dX1_indexOf_29 rfl rfl ?_
    refine V_iload_n (i := 3) dX1_indexOf_30 rfl rfl ?_
    exact V_callV (M := MX1_indexOf) (d := (d + 2)) (mc' := 0) (ms' := 0) (mc := 0) (ms := 0) (As := [.inl i2, .inl i3]) (rest := []) dX1_indexOf_31 tX1_different vX1_different lX1_35 s1 ⟨by decide, rfl⟩ rfl rfl (Nat.le_of_ble_eq_true rfl) (show (d + 1) + 1 ≤ (d + 2) by omega) (e1 c1)
  · refine V_aload_n (i := 0) dX1_indexOf_7 rfl rfl ?_
    refine V_getP dX1_indexOf_8 fX1_16 rfl s1 ?_
    refine V_iload_n (i := 3) dX1_indexOf_11 rfl rfl ?_
    refine V_iald dX1_indexOf_12 s2 (s3 c1) (s4 c1) ?_
    refine V_aload_n (i := 0) dX1_indexOf_13 rfl rfl ?_
    refine V_getP dX1_indexOf_14 fX1_16 rfl s1 ?_
    refine V_iload_n (i := 1) dX1_indexOf_17 rfl rfl ?_
    refine V_iald dX1_indexOf_18 s2 (s5 c1) (s6 c1) ?_
    refine V_icmp_eq (tgt := 28) dX1_indexOf_19 (by decide) (fun c2 => ?_) (fun c2 => ?_)
    · refine V_aload_n (i := 0) dX1_indexOf_28 rfl rfl ?_
      refine V_iload_n (i := 2) dX1_indexOf_29 rfl rfl ?_
      refine V_iload_n (i := 3) dX1_indexOf_30 rfl rfl ?_
      exact V_callV (M := MX1_indexOf) (d := (d + 2)) (mc' := 0) (ms' := 0) (mc := 0) (ms := 0) (As := [.inl i2, .inl i3]) (rest := []) dX1_indexOf_31 tX1_different vX1_different lX1_35 s1 ⟨by decide, rfl⟩ rfl rfl (Nat.le_of_ble_eq_true rfl) (show (d + 1) + 1 ≤ (d + 2) by omega) (e2 c1 c2)
    · refine V_iinc (i := 3) dX1_indexOf_22 rfl (by decide) (r1 c1 c2) ?_
      refine V_goto (tgt := 2) dX1_indexOf_25 (by decide) ?_
      exact (k1 c1 c2)
theorem bX1_indexOf_34 {d : Nat} {Q : Option jA → jH → Prop} (a0 : Nat) (i1 : Int) (i2 : Int) (i3 : Int) (p0 : Int) (h : jH)
    (q1 : Q (some (.inl p0)) h) :
    V MX1_indexOf (d + 2) 34 [some (.inr a0), some (.inl i1), some (.inl i2), some (.inl i3)] [.inl p0] h 0 0 Q := by
  exact V_reti rfl dX1_indexOf_34 q1
theorem dX1_room_0 : decode cX1_room 0 = .ok (.iconst 2, 1) := by decide +kernel
theorem dX1_room_1 : decode cX1_room 1 = .ok (.iload_n 1, 1) := by decide +kernel
theorem dX1_room_2 : decode cX1_room 2 = .ok (.iadd, 1) := by decide +kernel
theorem dX1_room_3 : decode cX1_room 3 = .ok (.iconst 2, 1) := by decide +kernel
theorem dX1_room_4 : decode cX1_room 4 = .ok (.aload_n 0, 1) := by decide +kernel
theorem dX1_room_5 : decode cX1_room 5 = .ok (.iload_n 3, 1) := by decide +kernel
theorem dX1_room_6 : decode cX1_room 6 = .ok (.iload 4, 2) := by decide +kernel
theorem dX1_room_8 : decode cX1_room 8 = .ok (.invokevirtual 35, 3) := by decide +kernel
theorem dX1_room_11 : decode cX1_room 11 = .ok (.imul, 1) := by decide +kernel
theorem dX1_room_12 : decode cX1_room 12 = .ok (.iadd, 1) := by decide +kernel
theorem dX1_room_13 : decode cX1_room 13 = .ok (.istore 5, 2) := by decide +kernel
theorem dX1_room_15 : decode cX1_room 15 = .ok (.iload_n 2, 1) := by decide +kernel
theorem dX1_room_16 : decode cX1_room 16 = .ok (.istore 6, 2) := by decide +kernel
theorem dX1_room_18 : decode cX1_room 18 = .ok (.iload_n 3, 1) := by decide +kernel
theorem dX1_room_19 : decode cX1_room 19 = .ok (.istore 7, 2) := by decide +kernel
theorem dX1_room_21 : decode cX1_room 21 = .ok (.iload 7, 2) := by decide +kernel
theorem dX1_room_23 : decode cX1_room 23 = .ok (.iload 4, 2) := by decide +kernel
theorem dX1_room_25 : decode cX1_room 25 = .ok (.if_icmp .ge 69, 3) := by decide +kernel
theorem dX1_room_28 : decode cX1_room 28 = .ok (.aload_n 0, 1) := by decide +kernel
theorem dX1_room_29 : decode cX1_room 29 = .ok (.getfield 7, 3) := by decide +kernel
theorem dX1_room_32 : decode cX1_room 32 = .ok (.iload 7, 2) := by decide +kernel
theorem dX1_room_34 : decode cX1_room 34 = .ok (.iaload, 1) := by decide +kernel
theorem dX1_room_35 : decode cX1_room 35 = .ok (.iload 6, 2) := by decide +kernel
theorem dX1_room_37 : decode cX1_room 37 = .ok (.isub, 1) := by decide +kernel
theorem dX1_room_38 : decode cX1_room 38 = .ok (.istore 8, 2) := by decide +kernel
theorem dX1_room_40 : decode cX1_room 40 = .ok (.iinc 5 1, 3) := by decide +kernel
theorem dX1_room_43 : decode cX1_room 43 = .ok (.aload_n 0, 1) := by decide +kernel
theorem dX1_room_44 : decode cX1_room 44 = .ok (.iload 7, 2) := by decide +kernel
theorem dX1_room_46 : decode cX1_room 46 = .ok (.iload_n 3, 1) := by decide +kernel
theorem dX1_room_47 : decode cX1_room 47 = .ok (.invokevirtual 39, 3) := by decide +kernel
theorem dX1_room_50 : decode cX1_room 50 = .ok (.iconst 2, 1) := by decide +kernel
theorem dX1_room_51 : decode cX1_room 51 = .ok (.if_icmp .lt 6, 3) := by decide +kernel
theorem dX1_room_54 : decode cX1_room 54 = .ok (.iinc 5 1, 3) := by decide +kernel
theorem dX1_room_57 : decode cX1_room 57 = .ok (.iload 8, 2) := by decide +kernel
theorem dX1_room_59 : decode cX1_room 59 = .ok (.ifCond .le 20, 3) := by decide +kernel
theorem dX1_room_62 : decode cX1_room 62 = .ok (.iload 5, 2) := by decide +kernel
theorem dX1_room_64 : decode cX1_room 64 = .ok (.iload 8, 2) := by decide +kernel
theorem dX1_room_66 : decode cX1_room 66 = .ok (.bipush 16, 2) := by decide +kernel
theorem dX1_room_68 : decode cX1_room 68 = .ok (.if_icmp .ge 7, 3) := by decide +kernel
theorem dX1_room_71 : decode cX1_room 71 = .ok (.iconst 1, 1) := by decide +kernel
theorem dX1_room_72 : decode cX1_room 72 = .ok (.goto 4, 3) := by decide +kernel
theorem dX1_room_75 : decode cX1_room 75 = .ok (.iconst 2, 1) := by decide +kernel
theorem dX1_room_76 : decode cX1_room 76 = .ok (.iadd, 1) := by decide +kernel
theorem dX1_room_77 : decode cX1_room 77 = .ok (.istore 5, 2) := by decide +kernel
theorem dX1_room_79 : decode cX1_room 79 = .ok (.aload_n 0, 1) := by decide +kernel
theorem dX1_room_80 : decode cX1_room 80 = .ok (.getfield 7, 3) := by decide +kernel
theorem dX1_room_83 : decode cX1_room 83 = .ok (.iload 7, 2) := by decide +kernel
theorem dX1_room_85 : decode cX1_room 85 = .ok (.iaload, 1) := by decide +kernel
theorem dX1_room_86 : decode cX1_room 86 = .ok (.istore 6, 2) := by decide +kernel
theorem dX1_room_88 : decode cX1_room 88 = .ok (.iinc 7 1, 3) := by decide +kernel
theorem dX1_room_91 : decode cX1_room 91 = .ok (.goto (-70), 3) := by decide +kernel
theorem dX1_room_94 : decode cX1_room 94 = .ok (.iload 5, 2) := by decide +kernel
theorem dX1_room_96 : decode cX1_room 96 = .ok (.ireturn, 1) := by decide +kernel
theorem bX1_room_0 {d : Nat} {Q : Option jA → jH → Prop} (a0 : Nat) (i1 : Int) (i2 : Int) (i3 : Int) (i4 : Int) (u5 : Option jA) (u6 : Option jA) (u7 : Option jA) (u8 : Option jA) (h : jH)
    (r1 : jR (2 + i1))
    (e1 : Ex MX1_different (d + 1) [.inr a0, .inl i3, .inl i4] h 0 0 (fun v h2 => V MX1_room (d + 3) 11 [some (.inr a0), some (.inl i1), some (.inl i2), some (.inl i3), some (.inl i4), u5, u6, u7, u8] (v.toList ++ [.inl 2, .inl (2 + i1)]) h2 0 0 Q))
    (s1 : (jS h a0).1 = 1) :
    V MX1_room (d + 3) 0 [some (.inr a0), some (.inl i1), some (.inl i2), some (.inl i3), some (.inl i4), u5, u6, u7, u8] [] h 0 0 Q := by
  refine V_iconst dX1_room_0 ⟨by decide, by decide⟩ ?_
  refine V_iload_n (i := 1) dX1_room_1 rfl rfl ?_
  refine V_iadd dX1_room_2 r1 ?_
  refine V_iconst dX1_room_3 ⟨by decide, by decide⟩ ?_
  refine V_aload_n (i := 0) dX1_room_4 rfl rfl ?_
  refine V_iload_n (i := 3) dX1_room_5 rfl rfl ?_
  refine V_iload (i := 4) dX1_room_6 rfl ?_
  exact V_callV (M := MX1_room) (d := (d + 3)) (mc' := 0) (ms' := 0) (mc := 0) (ms := 0) (As := [.inl i3, .inl i4]) (rest := [.inl 2, .inl (2 + i1)]) dX1_room_8 tX1_different vX1_different lX1_35 s1 ⟨by decide, rfl⟩ rfl rfl (Nat.le_of_ble_eq_true rfl) (show (d + 1) + 1 ≤ (d + 3) by omega) e1
theorem bX1_room_21 {d : Nat} {Q : Option jA → jH → Prop} (a0 : Nat) (i1 : Int) (i2 : Int) (i3 : Int) (i4 : Int) (i5 : Int) (i6 : Int) (i7 : Int) (u8 : Option jA) (h : jH)
    (q1 : (i4 ≤ i7) → Q (some (.inl i5)) h)
    (s1 : (jS h a0).1 = 1)
    (s2 : (jS h (jP h a0 1)).1 = 16)
    (s3 : (¬ (i4 ≤ i7)) → 0 ≤ i7)
    (s4 : (¬ (i4 ≤ i7)) → i7 < ((jS h (jP h a0 1)).2 : Int))
    (r1 : (¬ (i4 ≤ i7)) → jR ((jX h (jP h a0 1) ((i7).toNat)) - i6))
    (r2 : (¬ (i4 ≤ i7)) → jR (i5 + 1))
    (e1 : (¬ (i4 ≤ i7)) → Ex MX1_indexOf (d + 2) [.inr a0, .inl i7, .inl i3] h 0 0 (fun v h2 => V MX1_room (d + 3) 50 [some (.inr a0), some (.inl i1), some (.inl i2), some (.inl i3), some (.inl i4), some (.inl (i5 + 1)), some (.inl i6), some (.inl i7), some (.inl ((jX h (jP h a0 1) ((i7).toNat)) - i6))] (v.toList ++ []) h2 0 0 Q)) :
    V MX1_room (d + 3) 21 [some (.inr a0), some (.inl i1), some (.inl i2), some (.inl i3), some (.inl i4), some (.inl i5), some (.inl i6), some (.inl i7), u8] [] h 0 0 Q := by
  refine V_iload (i := 7) dX1_room_21 rfl ?_
  refine V_iload (i := 4) dX1_room_23 rfl ?_
  refine V_icmp_ge (tgt := 94) dX1_room_25 (by decide) (fun c1 => ?_) (fun c1 => ?_)
  · refine V_iload (i := 5) dX1_room_94 rfl ?_
    exact V_reti rfl dX1_room_96 (q1 c1)
  · refine V_aload_n (i := 0) dX1_room_28 rfl rfl ?_
    refine V_getP dX1_room_29 fX1_7 rfl s1 ?_
    refine V_iload (i := 7) dX1_room_32 rfl ?_
    refine V_iald dX1_room_34 s2 (s3 c1) (s4 c1) ?_
    refine V_iload (i := 6) dX1_room_35 rfl ?_
    refine V_isub dX1_room_37 (r1 c1) ?_
    refine V_istore (i := 8) dX1_room_38 (by decide) ?_
    refine V_iinc (i := 5) dX1_room_40 rfl (by decide) (r2 c1) ?_
    refine V_aload_n (i := 0) dX1_room_43 rfl rfl ?_
    refine V_iload (i := 7) dX1_room_44 rfl ?_
    refine V_iload_n (i := 3) dX1_room_46 rfl rfl ?_
    exact V_callV (M := MX1_room) (d := (d + 3)) (mc' := 0) (ms' := 0) (mc := 0) (ms := 0) (As := [.inl i7, .inl i3]) (rest := []) dX1_room_47 tX1_indexOf vX1_indexOf lX1_39 s1 ⟨by decide, rfl⟩ rfl rfl (Nat.le_of_ble_eq_true rfl) (show (d + 2) + 1 ≤ (d + 3) by omega) (e1 c1)
theorem bX1_room_57 {d : Nat} {Q : Option jA → jH → Prop} (a0 : Nat) (i1 : Int) (i2 : Int) (i3 : Int) (i4 : Int) (i5 : Int) (i6 : Int) (i7 : Int) (i8 : Int) (h : jH)
    (k1 : (i8 ≤ 0) → V MX1_room (d + 3) 79 [some (.inr a0), some (.inl i1), some (.inl i2), some (.inl i3), some (.inl i4), some (.inl i5), some (.inl i6), some (.inl i7), some (.inl i8)] [] h 0 0 Q)
    (k2 : (¬ (i8 ≤ 0)) → (16 ≤ i8) → V MX1_room (d + 3) 76 [some (.inr a0), some (.inl i1), some (.inl i2), some (.inl i3), some (.inl i4), some (.inl i5), some (.inl i6), some (.inl i7), some (.inl i8)] [.inl 2, .inl i5] h 0 0 Q)
    (k3 : (¬ (i8 ≤ 0)) → (¬ (16 ≤ i8)) → V MX1_room (d + 3) 76 [some (.inr a0), some (.inl i1), some (.inl i2), some (.inl i3), some (.inl i4), some (.inl i5), some (.inl i6), some (.inl i7), some (.inl i8)] [.inl 1, .inl i5] h 0 0 Q) :
    V MX1_room (d + 3) 57 [some (.inr a0), some (.inl i1), some (.inl i2), some (.inl i3), some (.inl i4), some (.inl i5), some (.inl i6), some (.inl i7), some (.inl i8)] [] h 0 0 Q := by
  refine V_iload (i := 8) dX1_room_57 rfl ?_
  refine V_if_le (tgt := 79) dX1_room_59 (by decide) (fun c1 => ?_) (fun c1 => ?_)
  · exact (k1 c1)
  · refine V_iload (i := 5) dX1_room_62 rfl ?_
    refine V_iload (i := 8) dX1_room_64 rfl ?_
    refine V_bipush dX1_room_66 (by decide +kernel) ⟨by decide, by decide⟩ ?_
    refine V_icmp_ge (tgt := 75) dX1_room_68 (by decide) (fun c2 => ?_) (fun c2 => ?_)
    · refine V_iconst dX1_room_75 ⟨by decide, by decide⟩ ?_
      exact (k2 c1 c2)
    · refine V_iconst dX1_room_71 ⟨by decide, by decide⟩ ?_
      refine V_goto (tgt := 76) dX1_room_72 (by decide) ?_
      exact (k3 c1 c2)
theorem bX1_room_76 {d : Nat} {Q : Option jA → jH → Prop} (a0 : Nat) (i1 : Int) (i2 : Int) (i3 : Int) (i4 : Int) (i5 : Int) (i6 : Int) (i7 : Int) (i8 : Int) (p0 : Int) (p1 : Int) (h : jH)
    (r1 : jR (p1 + p0))
    (k1 : V MX1_room (d + 3) 79 [some (.inr a0), some (.inl i1), some (.inl i2), some (.inl i3), some (.inl i4), some (.inl (p1 + p0)), some (.inl i6), some (.inl i7), some (.inl i8)] [] h 0 0 Q) :
    V MX1_room (d + 3) 76 [some (.inr a0), some (.inl i1), some (.inl i2), some (.inl i3), some (.inl i4), some (.inl i5), some (.inl i6), some (.inl i7), some (.inl i8)] [.inl p0, .inl p1] h 0 0 Q := by
  refine V_iadd dX1_room_76 r1 ?_
  refine V_istore (i := 5) dX1_room_77 (by decide) ?_
  exact k1
theorem bX1_room_79 {d : Nat} {Q : Option jA → jH → Prop} (a0 : Nat) (i1 : Int) (i2 : Int) (i3 : Int) (i4 : Int) (i5 : Int) (i6 : Int) (i7 : Int) (i8 : Int) (h : jH)
    (s1 : (jS h a0).1 = 1)
    (s2 : (jS h (jP h a0 1)).1 = 16)
    (s3 : 0 ≤ i7)
    (s4 : i7 < ((jS h (jP h a0 1)).2 : Int))
    (r1 : jR (i7 + 1))
    (k1 : V MX1_room (d + 3) 21 [some (.inr a0), some (.inl i1), some (.inl i2), some (.inl i3), some (.inl i4), some (.inl i5), some (.inl (jX h (jP h a0 1) ((i7).toNat))), some (.inl (i7 + 1)), some (.inl i8)] [] h 0 0 Q) :
    V MX1_room (d + 3) 79 [some (.inr a0), some (.inl i1), some (.inl i2), some (.inl i3), some (.inl i4), some (.inl i5), some (.inl i6), some (.inl i7), some (.inl i8)] [] h 0 0 Q := by
  refine V_aload_n (i := 0) dX1_room_79 rfl rfl ?_
  refine V_getP dX1_room_80 fX1_7 rfl s1 ?_
  refine V_iload (i := 7) dX1_room_83 rfl ?_
  refine V_iald dX1_room_85 s2 s3 s4 ?_
  refine V_istore (i := 6) dX1_room_86 (by decide) ?_
  refine V_iinc (i := 7) dX1_room_88 rfl (by decide) r1 ?_
  refine V_goto (tgt := 21) dX1_room_91 (by decide) ?_
  exact k1
theorem bX1_room_11 {d : Nat} {Q : Option jA → jH → Prop} (a0 : Nat) (i1 : Int) (i2 : Int) (i3 : Int) (i4 : Int) (u5 : Option jA) (u6 : Option jA) (u7 : Option jA) (u8 : Option jA) (p0 : Int) (p1 : Int) (p2 : Int) (h : jH)
    (r1 : jR (p1 * p0))
    (r2 : jR (p2 + (p1 * p0)))
    (k1 : V MX1_room (d + 3) 21 [some (.inr a0), some (.inl i1), some (.inl i2), some (.inl i3), some (.inl i4), some (.inl (p2 + (p1 * p0))), some (.inl i2), some (.inl i3), u8] [] h 0 0 Q) :
    V MX1_room (d + 3) 11 [some (.inr a0), some (.inl i1), some (.inl i2), some (.inl i3), some (.inl i4), u5, u6, u7, u8] [.inl p0, .inl p1, .inl p2] h 0 0 Q := by
  refine V_imul dX1_room_11 r1 ?_
  refine V_iadd dX1_room_12 r2 ?_
  refine V_istore (i := 5) dX1_room_13 (by decide) ?_
  refine V_iload_n (i := 2) dX1_room_15 rfl rfl ?_
  refine V_istore (i := 6) dX1_room_16 (by decide) ?_
  refine V_iload_n (i := 3) dX1_room_18 rfl rfl ?_
  refine V_istore (i := 7) dX1_room_19 (by decide) ?_
  exact k1
theorem bX1_room_50 {d : Nat} {Q : Option jA → jH → Prop} (a0 : Nat) (i1 : Int) (i2 : Int) (i3 : Int) (i4 : Int) (i5 : Int) (i6 : Int) (i7 : Int) (i8 : Int) (p0 : Int) (h : jH)
    (k1 : (p0 < 2) → V MX1_room (d + 3) 57 [some (.inr a0), some (.inl i1), some (.inl i2), some (.inl i3), some (.inl i4), some (.inl i5), some (.inl i6), some (.inl i7), some (.inl i8)] [] h 0 0 Q)
    (r1 : (¬ (p0 < 2)) → jR (i5 + 1))
    (k2 : (¬ (p0 < 2)) → V MX1_room (d + 3) 57 [some (.inr a0), some (.inl i1), some (.inl i2), some (.inl i3), some (.inl i4), some (.inl (i5 + 1)), some (.inl i6), some (.inl i7), some (.inl i8)] [] h 0 0 Q) :
    V MX1_room (d + 3) 50 [some (.inr a0), some (.inl i1), some (.inl i2), some (.inl i3), some (.inl i4), some (.inl i5), some (.inl i6), some (.inl i7), some (.inl i8)] [.inl p0] h 0 0 Q := by
  refine V_iconst dX1_room_50 ⟨by decide, by decide⟩ ?_
  refine V_icmp_lt (tgt := 57) dX1_room_51 (by decide) (fun c1 => ?_) (fun c1 => ?_)
  · exact (k1 c1)
  · refine V_iinc (i := 5) dX1_room_54 rfl (by decide) (r1 c1) ?_
    exact (k2 c1)
