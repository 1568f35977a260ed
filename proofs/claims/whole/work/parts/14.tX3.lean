/-! ===== History: decode rows and trees ===== -/
theorem dX3_read_0 : decode cX3_read 0 = .ok (.aload_n 0, 1) := by decide +kernel
theorem dX3_read_1 : decode cX3_read 1 = .ok (.aload_n 2, 1) := by decide +kernel
theorem dX3_read_2 : decode cX3_read 2 = .ok (.getfield 20, 3) := by decide +kernel
theorem dX3_read_5 : decode cX3_read 5 = .ok (.putfield 26, 3) := by decide +kernel
theorem dX3_read_8 : decode cX3_read 8 = .ok (.aload_n 0, 1) := by decide +kernel
theorem dX3_read_9 : decode cX3_read 9 = .ok (.iconst 0, 1) := by decide +kernel
theorem dX3_read_10 : decode cX3_read 10 = .ok (.putfield 29, 3) := by decide +kernel
theorem dX3_read_13 : decode cX3_read 13 = .ok (.aload_n 0, 1) := by decide +kernel
theorem dX3_read_14 : decode cX3_read 14 = .ok (.iconst 0, 1) := by decide +kernel
theorem dX3_read_15 : decode cX3_read 15 = .ok (.invokevirtual 32, 3) := by decide +kernel
theorem dX3_read_18 : decode cX3_read 18 = .ok (.iconst 0, 1) := by decide +kernel
theorem dX3_read_19 : decode cX3_read 19 = .ok (.istore_n 3, 1) := by decide +kernel
theorem dX3_read_20 : decode cX3_read 20 = .ok (.iload_n 3, 1) := by decide +kernel
theorem dX3_read_21 : decode cX3_read 21 = .ok (.aload_n 2, 1) := by decide +kernel
theorem dX3_read_22 : decode cX3_read 22 = .ok (.getfield 36, 3) := by decide +kernel
theorem dX3_read_25 : decode cX3_read 25 = .ok (.if_icmp .ge 84, 3) := by decide +kernel
theorem dX3_read_28 : decode cX3_read 28 = .ok (.aload_n 2, 1) := by decide +kernel
theorem dX3_read_29 : decode cX3_read 29 = .ok (.getfield 37, 3) := by decide +kernel
theorem dX3_read_32 : decode cX3_read 32 = .ok (.iload_n 3, 1) := by decide +kernel
theorem dX3_read_33 : decode cX3_read 33 = .ok (.aaload, 1) := by decide +kernel
theorem dX3_read_34 : decode cX3_read 34 = .ok (.astore 4, 2) := by decide +kernel
theorem dX3_read_36 : decode cX3_read 36 = .ok (.aload_n 0, 1) := by decide +kernel
theorem dX3_read_37 : decode cX3_read 37 = .ok (.aload 4, 2) := by decide +kernel
theorem dX3_read_39 : decode cX3_read 39 = .ok (.getfield 41, 3) := by decide +kernel
theorem dX3_read_42 : decode cX3_read 42 = .ok (.invokevirtual 32, 3) := by decide +kernel
theorem dX3_read_45 : decode cX3_read 45 = .ok (.iconst 0, 1) := by decide +kernel
theorem dX3_read_46 : decode cX3_read 46 = .ok (.istore 5, 2) := by decide +kernel
theorem dX3_read_48 : decode cX3_read 48 = .ok (.iload 5, 2) := by decide +kernel
theorem dX3_read_50 : decode cX3_read 50 = .ok (.aload 4, 2) := by decide +kernel
theorem dX3_read_52 : decode cX3_read 52 = .ok (.getfield 46, 3) := by decide +kernel
theorem dX3_read_55 : decode cX3_read 55 = .ok (.getfield 50, 3) := by decide +kernel
theorem dX3_read_58 : decode cX3_read 58 = .ok (.if_icmp .ge 24, 3) := by decide +kernel
theorem dX3_read_61 : decode cX3_read 61 = .ok (.aload_n 0, 1) := by decide +kernel
theorem dX3_read_62 : decode cX3_read 62 = .ok (.aload 4, 2) := by decide +kernel
theorem dX3_read_64 : decode cX3_read 64 = .ok (.getfield 46, 3) := by decide +kernel
theorem dX3_read_67 : decode cX3_read 67 = .ok (.getfield 53, 3) := by decide +kernel
theorem dX3_read_70 : decode cX3_read 70 = .ok (.iload 5, 2) := by decide +kernel
theorem dX3_read_72 : decode cX3_read 72 = .ok (.iaload, 1) := by decide +kernel
theorem dX3_read_73 : decode cX3_read 73 = .ok (.invokevirtual 32, 3) := by decide +kernel
theorem dX3_read_76 : decode cX3_read 76 = .ok (.iinc 5 1, 3) := by decide +kernel
theorem dX3_read_79 : decode cX3_read 79 = .ok (.goto (-31), 3) := by decide +kernel
theorem dX3_read_82 : decode cX3_read 82 = .ok (.aload 4, 2) := by decide +kernel
theorem dX3_read_84 : decode cX3_read 84 = .ok (.getfield 54, 3) := by decide +kernel
theorem dX3_read_87 : decode cX3_read 87 = .ok (.bipush (-9), 2) := by decide +kernel
theorem dX3_read_89 : decode cX3_read 89 = .ok (.if_icmp .eq 14, 3) := by decide +kernel
theorem dX3_read_92 : decode cX3_read 92 = .ok (.aload_n 0, 1) := by decide +kernel
theorem dX3_read_93 : decode cX3_read 93 = .ok (.aload 4, 2) := by decide +kernel
theorem dX3_read_95 : decode cX3_read 95 = .ok (.getfield 54, 3) := by decide +kernel
theorem dX3_read_98 : decode cX3_read 98 = .ok (.iconst 1, 1) := by decide +kernel
theorem dX3_read_99 : decode cX3_read 99 = .ok (.iadd, 1) := by decide +kernel
theorem dX3_read_100 : decode cX3_read 100 = .ok (.invokevirtual 32, 3) := by decide +kernel
theorem dX3_read_103 : decode cX3_read 103 = .ok (.iinc 3 1, 3) := by decide +kernel
theorem dX3_read_106 : decode cX3_read 106 = .ok (.goto (-86), 3) := by decide +kernel
theorem dX3_read_109 : decode cX3_read 109 = .ok (.iconst 0, 1) := by decide +kernel
theorem dX3_read_110 : decode cX3_read 110 = .ok (.istore_n 3, 1) := by decide +kernel
theorem dX3_read_111 : decode cX3_read 111 = .ok (.iload_n 3, 1) := by decide +kernel
theorem dX3_read_112 : decode cX3_read 112 = .ok (.aload_n 0, 1) := by decide +kernel
theorem dX3_read_113 : decode cX3_read 113 = .ok (.getfield 29, 3) := by decide +kernel
theorem dX3_read_116 : decode cX3_read 116 = .ok (.if_icmp .ge 35, 3) := by decide +kernel
theorem dX3_read_119 : decode cX3_read 119 = .ok (.aload_n 2, 1) := by decide +kernel
theorem dX3_read_120 : decode cX3_read 120 = .ok (.aload_n 0, 1) := by decide +kernel
theorem dX3_read_121 : decode cX3_read 121 = .ok (.getfield 17, 3) := by decide +kernel
theorem dX3_read_124 : decode cX3_read 124 = .ok (.iload_n 3, 1) := by decide +kernel
theorem dX3_read_125 : decode cX3_read 125 = .ok (.aaload, 1) := by decide +kernel
theorem dX3_read_126 : decode cX3_read 126 = .ok (.aload_n 0, 1) := by decide +kernel
theorem dX3_read_127 : decode cX3_read 127 = .ok (.getfield 9, 3) := by decide +kernel
theorem dX3_read_130 : decode cX3_read 130 = .ok (.iload_n 3, 1) := by decide +kernel
theorem dX3_read_131 : decode cX3_read 131 = .ok (.iaload, 1) := by decide +kernel
theorem dX3_read_132 : decode cX3_read 132 = .ok (.invokevirtual 57, 3) := by decide +kernel
theorem dX3_read_135 : decode cX3_read 135 = .ok (.aload_n 1, 1) := by decide +kernel
theorem dX3_read_136 : decode cX3_read 136 = .ok (.aload_n 0, 1) := by decide +kernel
theorem dX3_read_137 : decode cX3_read 137 = .ok (.getfield 17, 3) := by decide +kernel
theorem dX3_read_140 : decode cX3_read 140 = .ok (.iload_n 3, 1) := by decide +kernel
theorem dX3_read_141 : decode cX3_read 141 = .ok (.aaload, 1) := by decide +kernel
theorem dX3_read_142 : decode cX3_read 142 = .ok (.invokevirtual 61, 3) := by decide +kernel
theorem dX3_read_145 : decode cX3_read 145 = .ok (.iinc 3 1, 3) := by decide +kernel
theorem dX3_read_148 : decode cX3_read 148 = .ok (.goto (-37), 3) := by decide +kernel
theorem dX3_read_151 : decode cX3_read 151 = .ok (.return_, 1) := by decide +kernel
theorem bX3_read_0 {d : Nat} {Q : Option jA → jH → Prop} (a0 : Nat) (a1 : Nat) (a2 : Nat) (u3 : Option jA) (u4 : Option jA) (u5 : Option jA) (h : jH)
    (s1 : (jS h a2).1 = 6)
    (s2 : (jS h a0).1 = 3)
    (e1 : Ex MX3_addMoment d [.inr a0, .inl 0] (jsI (jsI h a0 1 (jI h a2 0)) a0 0 0) 0 0 (fun v h2 => V MX3_read (d + 3) 18 [some (.inr a0), some (.inr a1), some (.inr a2), u3, u4, u5] (v.toList ++ []) h2 0 0 Q)) :
    V MX3_read (d + 3) 0 [some (.inr a0), some (.inr a1), some (.inr a2), u3, u4, u5] [] h 0 0 Q := by
  refine V_aload_n (i := 0) dX3_read_0 rfl rfl ?_
  refine V_aload_n (i := 2) dX3_read_1 rfl rfl ?_
  refine V_getI dX3_read_2 fX3_20 rfl s1 ?_
  refine V_putI (ci := 3) (kf := 1) dX3_read_5 fX3_26 rfl rfl s2 ?_
  refine V_aload_n (i := 0) dX3_read_8 rfl rfl ?_
  refine V_iconst dX3_read_9 ⟨by decide, by decide⟩ ?_
  refine V_putI (ci := 3) (kf := 0) dX3_read_10 fX3_29 rfl rfl s2 ?_
  refine V_aload_n (i := 0) dX3_read_13 rfl rfl ?_
  refine V_iconst dX3_read_14 ⟨by decide, by decide⟩ ?_
  exact V_callV (M := MX3_read) (d := (d + 3)) (mc' := 0) (ms' := 0) (mc := 0) (ms := 0) (As := [.inl 0]) (rest := []) dX3_read_15 tX3_addMoment vX3_addMoment lX3_32 s2 ⟨by decide, rfl⟩ rfl rfl (Nat.le_of_ble_eq_true rfl) (show d + 1 ≤ (d + 3) by omega) e1
theorem bX3_read_20 {d : Nat} {Q : Option jA → jH → Prop} (a0 : Nat) (a1 : Nat) (a2 : Nat) (i3 : Int) (u4 : Option jA) (u5 : Option jA) (h : jH)
    (s1 : (jS h a2).1 = 6)
    (k1 : ((jI h a2 4) ≤ i3) → V MX3_read (d + 3) 111 [some (.inr a0), some (.inr a1), some (.inr a2), some (.inl 0), u4, u5] [] h 0 0 Q)
    (s2 : (jS h (jP h a2 5)).1 = 18)
    (s3 : (¬ ((jI h a2 4) ≤ i3)) → 0 ≤ i3)
    (s4 : (¬ ((jI h a2 4) ≤ i3)) → i3 < ((jS h (jP h a2 5)).2 : Int))
    (s5 : (¬ ((jI h a2 4) ≤ i3)) → (jS h (jY h (jP h a2 5) ((i3).toNat))).1 = 0)
    (e1 : (¬ ((jI h a2 4) ≤ i3)) → Ex MX3_addMoment d [.inr a0, .inl (jI h (jY h (jP h a2 5) ((i3).toNat)) 0)] h 0 0 (fun v h2 => V MX3_read (d + 3) 45 [some (.inr a0), some (.inr a1), some (.inr a2), some (.inl i3), some (.inr (jY h (jP h a2 5) ((i3).toNat))), u5] (v.toList ++ []) h2 0 0 Q))
    (s6 : (jS h a0).1 = 3) :
    V MX3_read (d + 3) 20 [some (.inr a0), some (.inr a1), some (.inr a2), some (.inl i3), u4, u5] [] h 0 0 Q := by
  refine V_iload_n (i := 3) dX3_read_20 rfl rfl ?_
  refine V_aload_n (i := 2) dX3_read_21 rfl rfl ?_
  refine V_getI dX3_read_22 fX3_36 rfl s1 ?_
  refine V_icmp_ge (tgt := 109) dX3_read_25 (by decide) (fun c1 => ?_) (fun c1 => ?_)
  · refine V_iconst dX3_read_109 ⟨by decide, by decide⟩ ?_
    refine V_istore_n (i := 3) dX3_read_110 rfl (by decide) ?_
    exact (k1 c1)
  · refine V_aload_n (i := 2) dX3_read_28 rfl rfl ?_
    refine V_getP dX3_read_29 fX3_37 rfl s1 ?_
    refine V_iload_n (i := 3) dX3_read_32 rfl rfl ?_
    refine V_aald18 dX3_read_33 s2 (s3 c1) (s4 c1) ?_
    refine V_astore (i := 4) dX3_read_34 (by decide) ?_
    refine V_aload_n (i := 0) dX3_read_36 rfl rfl ?_
    refine V_aload (i := 4) dX3_read_37 rfl ?_
    refine V_getI dX3_read_39 fX3_41 rfl (s5 c1) ?_
    exact V_callV (M := MX3_read) (d := (d + 3)) (mc' := 0) (ms' := 0) (mc := 0) (ms := 0) (As := [.inl (jI h (jY h (jP h a2 5) ((i3).toNat)) 0)]) (rest := []) dX3_read_42 tX3_addMoment vX3_addMoment lX3_32 s6 ⟨by decide, rfl⟩ rfl rfl (Nat.le_of_ble_eq_true rfl) (show d + 1 ≤ (d + 3) by omega) (e1 c1)
theorem bX3_read_48 {d : Nat} {Q : Option jA → jH → Prop} (a0 : Nat) (a1 : Nat) (a2 : Nat) (i3 : Int) (a4 : Nat) (i5 : Int) (h : jH)
    (s1 : (jS h a4).1 = 0)
    (s2 : (jS h (jP h a4 3)).1 = 1)
    (r1 : ((jI h (jP h a4 3) 0) ≤ i5) → ((jI h a4 1) = ((-9))) → jR (i3 + 1))
    (k1 : ((jI h (jP h a4 3) 0) ≤ i5) → ((jI h a4 1) = ((-9))) → V MX3_read (d + 3) 20 [some (.inr a0), some (.inr a1), some (.inr a2), some (.inl (i3 + 1)), some (.inr a4), some (.inl i5)] [] h 0 0 Q)
    (r2 : ((jI h (jP h a4 3) 0) ≤ i5) → (¬ ((jI h a4 1) = ((-9)))) → jR ((jI h a4 1) + 1))
    (e1 : ((jI h (jP h a4 3) 0) ≤ i5) → (¬ ((jI h a4 1) = ((-9)))) → Ex MX3_addMoment d [.inr a0, .inl ((jI h a4 1) + 1)] h 0 0 (fun v h2 => V MX3_read (d + 3) 103 [some (.inr a0), some (.inr a1), some (.inr a2), some (.inl i3), some (.inr a4), some (.inl i5)] (v.toList ++ []) h2 0 0 Q))
    (s3 : (jS h a0).1 = 3)
    (s4 : (jS h (jP h (jP h a4 3) 1)).1 = 16)
    (s5 : (¬ ((jI h (jP h a4 3) 0) ≤ i5)) → 0 ≤ i5)
    (s6 : (¬ ((jI h (jP h a4 3) 0) ≤ i5)) → i5 < ((jS h (jP h (jP h a4 3) 1)).2 : Int))
    (e2 : (¬ ((jI h (jP h a4 3) 0) ≤ i5)) → Ex MX3_addMoment d [.inr a0, .inl (jX h (jP h (jP h a4 3) 1) ((i5).toNat))] h 0 0 (fun v h2 => V MX3_read (d + 3) 76 [some (.inr a0), some (.inr a1), some (.inr a2), some (.inl i3), some (.inr a4), some (.inl i5)] (v.toList ++ []) h2 0 0 Q)) :
    V MX3_read (d + 3) 48 [some (.inr a0), some (.inr a1), some (.inr a2), some (.inl i3), some (.inr a4), some (.inl i5)] [] h 0 0 Q := by
  refine V_iload (i := 5) dX3_read_48 rfl ?_
  refine V_aload (i := 4) dX3_read_50 rfl ?_
  refine V_getP dX3_read_52 fX3_46 rfl s1 ?_
  refine V_getI dX3_read_55 fX3_50 rfl s2 ?_
  refine V_icmp_ge (tgt := 82) dX3_read_58 (by decide) (fun c1 => ?_) (fun c1 => ?_)
  · refine V_aload (i := 4) dX3_read_82 rfl ?_
    refine V_getI dX3_read_84 fX3_54 rfl s1 ?_
    refine V_bipush dX3_read_87 (by decide +kernel) ⟨by decide, by decide⟩ ?_
    refine V_icmp_eq (tgt := 103) dX3_read_89 (by decide) (fun c2 => ?_) (fun c2 => ?_)
    · refine V_iinc (i := 3) dX3_read_103 rfl (by decide) (r1 c1 c2) ?_
      refine V_goto (tgt := 20) dX3_read_106 (by decide) ?_
      exact (k1 c1 c2)
    · refine V_aload_n (i := 0) dX3_read_92 rfl rfl ?_
      refine V_aload (i := 4) dX3_read_93 rfl ?_
      refine V_getI dX3_read_95 fX3_54 rfl s1 ?_
      refine V_iconst dX3_read_98 ⟨by decide, by decide⟩ ?_
      refine V_iadd dX3_read_99 (r2 c1 c2) ?_
      exact V_callV (M := MX3_read) (d := (d + 3)) (mc' := 0) (ms' := 0) (mc := 0) (ms := 0) (As := [.inl ((jI h a4 1) + 1)]) (rest := []) dX3_read_100 tX3_addMoment vX3_addMoment lX3_32 s3 ⟨by decide, rfl⟩ rfl rfl (Nat.le_of_ble_eq_true rfl) (show d + 1 ≤ (d + 3) by omega) (e1 c1 c2)
  · refine V_aload_n (i := 0) dX3_read_61 rfl rfl ?_
    refine V_aload (i := 4) dX3_read_62 rfl ?_
    refine V_getP dX3_read_64 fX3_46 rfl s1 ?_
    refine V_getP dX3_read_67 fX3_53 rfl s2 ?_
    refine V_iload (i := 5) dX3_read_70 rfl ?_
    refine V_iald dX3_read_72 s4 (s5 c1) (s6 c1) ?_
    exact V_callV (M := MX3_read) (d := (d + 3)) (mc' := 0) (ms' := 0) (mc := 0) (ms := 0) (As := [.inl (jX h (jP h (jP h a4 3) 1) ((i5).toNat))]) (rest := []) dX3_read_73 tX3_addMoment vX3_addMoment lX3_32 s3 ⟨by decide, rfl⟩ rfl rfl (Nat.le_of_ble_eq_true rfl) (show d + 1 ≤ (d + 3) by omega) (e2 c1)
theorem bX3_read_111 {d : Nat} {Q : Option jA → jH → Prop} (a0 : Nat) (a1 : Nat) (a2 : Nat) (i3 : Int) (u4 : Option jA) (u5 : Option jA) (h : jH)
    (s1 : (jS h a0).1 = 3)
    (q1 : ((jI h a0 0) ≤ i3) → Q none h)
    (s2 : (jS h (jP h a0 3)).1 = 20)
    (s3 : (¬ ((jI h a0 0) ≤ i3)) → 0 ≤ i3)
    (s4 : (¬ ((jI h a0 0) ≤ i3)) → i3 < ((jS h (jP h a0 3)).2 : Int))
    (s5 : (jS h (jP h a0 2)).1 = 16)
    (s6 : (¬ ((jI h a0 0) ≤ i3)) → i3 < ((jS h (jP h a0 2)).2 : Int))
    (e1 : (¬ ((jI h a0 0) ≤ i3)) → Ex MX6_fillWires (d + 1) [.inr a2, .inr (jY h (jP h a0 3) ((i3).toNat)), .inl (jX h (jP h a0 2) ((i3).toNat))] h 0 0 (fun v h2 => V MX3_read (d + 3) 135 [some (.inr a0), some (.inr a1), some (.inr a2), some (.inl i3), u4, u5] (v.toList ++ []) h2 0 0 Q))
    (s7 : (jS h a2).1 = 6) :
    V MX3_read (d + 3) 111 [some (.inr a0), some (.inr a1), some (.inr a2), some (.inl i3), u4, u5] [] h 0 0 Q := by
  refine V_iload_n (i := 3) dX3_read_111 rfl rfl ?_
  refine V_aload_n (i := 0) dX3_read_112 rfl rfl ?_
  refine V_getI dX3_read_113 fX3_29 rfl s1 ?_
  refine V_icmp_ge (tgt := 151) dX3_read_116 (by decide) (fun c1 => ?_) (fun c1 => ?_)
  · exact V_ret (v := none) rfl rfl dX3_read_151 trivial rfl (q1 c1)
  · refine V_aload_n (i := 2) dX3_read_119 rfl rfl ?_
    refine V_aload_n (i := 0) dX3_read_120 rfl rfl ?_
    refine V_getP dX3_read_121 fX3_17 rfl s1 ?_
    refine V_iload_n (i := 3) dX3_read_124 rfl rfl ?_
    refine V_aald20 dX3_read_125 s2 (s3 c1) (s4 c1) ?_
    refine V_aload_n (i := 0) dX3_read_126 rfl rfl ?_
    refine V_getP dX3_read_127 fX3_9 rfl s1 ?_
    refine V_iload_n (i := 3) dX3_read_130 rfl rfl ?_
    refine V_iald dX3_read_131 s5 (s3 c1) (s6 c1) ?_
    exact V_callV (M := MX3_read) (d := (d + 3)) (mc' := 0) (ms' := 0) (mc := 0) (ms := 0) (As := [.inr (jY h (jP h a0 3) ((i3).toNat)), .inl (jX h (jP h a0 2) ((i3).toNat))]) (rest := []) dX3_read_132 tX6_fillWires vX6_fillWires lX3_57 s7 ⟨by decide, rfl⟩ rfl rfl (Nat.le_of_ble_eq_true rfl) (show (d + 1) + 1 ≤ (d + 3) by omega) (e1 c1)
theorem bX3_read_18 {d : Nat} {Q : Option jA → jH → Prop} (a0 : Nat) (a1 : Nat) (a2 : Nat) (u3 : Option jA) (u4 : Option jA) (u5 : Option jA) (h : jH)
    (k1 : V MX3_read (d + 3) 20 [some (.inr a0), some (.inr a1), some (.inr a2), some (.inl 0), u4, u5] [] h 0 0 Q) :
    V MX3_read (d + 3) 18 [some (.inr a0), some (.inr a1), some (.inr a2), u3, u4, u5] [] h 0 0 Q := by
  refine V_iconst dX3_read_18 ⟨by decide, by decide⟩ ?_
  refine V_istore_n (i := 3) dX3_read_19 rfl (by decide) ?_
  exact k1
theorem bX3_read_45 {d : Nat} {Q : Option jA → jH → Prop} (a0 : Nat) (a1 : Nat) (a2 : Nat) (i3 : Int) (a4 : Nat) (u5 : Option jA) (h : jH)
    (k1 : V MX3_read (d + 3) 48 [some (.inr a0), some (.inr a1), some (.inr a2), some (.inl i3), some (.inr a4), some (.inl 0)] [] h 0 0 Q) :
    V MX3_read (d + 3) 45 [some (.inr a0), some (.inr a1), some (.inr a2), some (.inl i3), some (.inr a4), u5] [] h 0 0 Q := by
  refine V_iconst dX3_read_45 ⟨by decide, by decide⟩ ?_
  refine V_istore (i := 5) dX3_read_46 (by decide) ?_
  exact k1
theorem bX3_read_103 {d : Nat} {Q : Option jA → jH → Prop} (a0 : Nat) (a1 : Nat) (a2 : Nat) (i3 : Int) (a4 : Nat) (i5 : Int) (h : jH)
    (r1 : jR (i3 + 1))
    (k1 : V MX3_read (d + 3) 20 [some (.inr a0), some (.inr a1), some (.inr a2), some (.inl (i3 + 1)), some (.inr a4), some (.inl i5)] [] h 0 0 Q) :
    V MX3_read (d + 3) 103 [some (.inr a0), some (.inr a1), some (.inr a2), some (.inl i3), some (.inr a4), some (.inl i5)] [] h 0 0 Q := by
  refine V_iinc (i := 3) dX3_read_103 rfl (by decide) r1 ?_
  refine V_goto (tgt := 20) dX3_read_106 (by decide) ?_
  exact k1
theorem bX3_read_76 {d : Nat} {Q : Option jA → jH → Prop} (a0 : Nat) (a1 : Nat) (a2 : Nat) (i3 : Int) (a4 : Nat) (i5 : Int) (h : jH)
    (r1 : jR (i5 + 1))
    (k1 : V MX3_read (d + 3) 48 [some (.inr a0), some (.inr a1), some (.inr a2), some (.inl i3), some (.inr a4), some (.inl (i5 + 1))] [] h 0 0 Q) :
    V MX3_read (d + 3) 76 [some (.inr a0), some (.inr a1), some (.inr a2), some (.inl i3), some (.inr a4), some (.inl i5)] [] h 0 0 Q := by
  refine V_iinc (i := 5) dX3_read_76 rfl (by decide) r1 ?_
  refine V_goto (tgt := 48) dX3_read_79 (by decide) ?_
  exact k1
theorem bX3_read_135 {d : Nat} {Q : Option jA → jH → Prop} (a0 : Nat) (a1 : Nat) (a2 : Nat) (i3 : Int) (u4 : Option jA) (u5 : Option jA) (h : jH)
    (s1 : (jS h a0).1 = 3)
    (s2 : (jS h (jP h a0 3)).1 = 20)
    (s3 : 0 ≤ i3)
    (s4 : i3 < ((jS h (jP h a0 3)).2 : Int))
    (e1 : Ex MX2_complete (d + 2) [.inr a1, .inr (jY h (jP h a0 3) ((i3).toNat))] h 0 0 (fun v h2 => V MX3_read (d + 3) 145 [some (.inr a0), some (.inr a1), some (.inr a2), some (.inl i3), u4, u5] (v.toList ++ []) h2 0 0 Q))
    (s5 : (jS h a1).1 = 2) :
    V MX3_read (d + 3) 135 [some (.inr a0), some (.inr a1), some (.inr a2), some (.inl i3), u4, u5] [] h 0 0 Q := by
  refine V_aload_n (i := 1) dX3_read_135 rfl rfl ?_
  refine V_aload_n (i := 0) dX3_read_136 rfl rfl ?_
  refine V_getP dX3_read_137 fX3_17 rfl s1 ?_
  refine V_iload_n (i := 3) dX3_read_140 rfl rfl ?_
  refine V_aald20 dX3_read_141 s2 s3 s4 ?_
  exact V_callV (M := MX3_read) (d := (d + 3)) (mc' := 0) (ms' := 0) (mc := 0) (ms := 0) (As := [.inr (jY h (jP h a0 3) ((i3).toNat))]) (rest := []) dX3_read_142 tX2_complete vX2_complete lX3_61 s5 ⟨by decide, rfl⟩ rfl rfl (Nat.le_of_ble_eq_true rfl) (show (d + 2) + 1 ≤ (d + 3) by omega) e1
theorem bX3_read_145 {d : Nat} {Q : Option jA → jH → Prop} (a0 : Nat) (a1 : Nat) (a2 : Nat) (i3 : Int) (u4 : Option jA) (u5 : Option jA) (h : jH)
    (r1 : jR (i3 + 1))
    (k1 : V MX3_read (d + 3) 111 [some (.inr a0), some (.inr a1), some (.inr a2), some (.inl (i3 + 1)), u4, u5] [] h 0 0 Q) :
    V MX3_read (d + 3) 145 [some (.inr a0), some (.inr a1), some (.inr a2), some (.inl i3), u4, u5] [] h 0 0 Q := by
  refine V_iinc (i := 3) dX3_read_145 rfl (by decide) r1 ?_
  refine V_goto (tgt := 111) dX3_read_148 (by decide) ?_
  exact k1
theorem dX3_addMoment_0 : decode cX3_addMoment 0 = .ok (.aload_n 0, 1) := by decide +kernel
theorem dX3_addMoment_1 : decode cX3_addMoment 1 = .ok (.getfield 29, 3) := by decide +kernel
theorem dX3_addMoment_4 : decode cX3_addMoment 4 = .ok (.istore_n 2, 1) := by decide +kernel
theorem dX3_addMoment_5 : decode cX3_addMoment 5 = .ok (.iload_n 2, 1) := by decide +kernel
theorem dX3_addMoment_6 : decode cX3_addMoment 6 = .ok (.ifCond .le 21, 3) := by decide +kernel
theorem dX3_addMoment_9 : decode cX3_addMoment 9 = .ok (.aload_n 0, 1) := by decide +kernel
theorem dX3_addMoment_10 : decode cX3_addMoment 10 = .ok (.getfield 9, 3) := by decide +kernel
theorem dX3_addMoment_13 : decode cX3_addMoment 13 = .ok (.iload_n 2, 1) := by decide +kernel
theorem dX3_addMoment_14 : decode cX3_addMoment 14 = .ok (.iconst 1, 1) := by decide +kernel
theorem dX3_addMoment_15 : decode cX3_addMoment 15 = .ok (.isub, 1) := by decide +kernel
theorem dX3_addMoment_16 : decode cX3_addMoment 16 = .ok (.iaload, 1) := by decide +kernel
theorem dX3_addMoment_17 : decode cX3_addMoment 17 = .ok (.iload_n 1, 1) := by decide +kernel
theorem dX3_addMoment_18 : decode cX3_addMoment 18 = .ok (.if_icmp .lt 9, 3) := by decide +kernel
theorem dX3_addMoment_21 : decode cX3_addMoment 21 = .ok (.iinc 2 (-1), 3) := by decide +kernel
theorem dX3_addMoment_24 : decode cX3_addMoment 24 = .ok (.goto (-19), 3) := by decide +kernel
theorem dX3_addMoment_27 : decode cX3_addMoment 27 = .ok (.iload_n 2, 1) := by decide +kernel
theorem dX3_addMoment_28 : decode cX3_addMoment 28 = .ok (.aload_n 0, 1) := by decide +kernel
theorem dX3_addMoment_29 : decode cX3_addMoment 29 = .ok (.getfield 29, 3) := by decide +kernel
theorem dX3_addMoment_32 : decode cX3_addMoment 32 = .ok (.if_icmp .eq 13, 3) := by decide +kernel
theorem dX3_addMoment_35 : decode cX3_addMoment 35 = .ok (.aload_n 0, 1) := by decide +kernel
theorem dX3_addMoment_36 : decode cX3_addMoment 36 = .ok (.getfield 9, 3) := by decide +kernel
theorem dX3_addMoment_39 : decode cX3_addMoment 39 = .ok (.iload_n 2, 1) := by decide +kernel
theorem dX3_addMoment_40 : decode cX3_addMoment 40 = .ok (.iaload, 1) := by decide +kernel
theorem dX3_addMoment_41 : decode cX3_addMoment 41 = .ok (.iload_n 1, 1) := by decide +kernel
theorem dX3_addMoment_42 : decode cX3_addMoment 42 = .ok (.if_icmp .eq 7, 3) := by decide +kernel
theorem dX3_addMoment_45 : decode cX3_addMoment 45 = .ok (.iconst 1, 1) := by decide +kernel
theorem dX3_addMoment_46 : decode cX3_addMoment 46 = .ok (.goto 4, 3) := by decide +kernel
theorem dX3_addMoment_49 : decode cX3_addMoment 49 = .ok (.iconst 0, 1) := by decide +kernel
theorem dX3_addMoment_50 : decode cX3_addMoment 50 = .ok (.istore_n 3, 1) := by decide +kernel
theorem dX3_addMoment_51 : decode cX3_addMoment 51 = .ok (.iload_n 3, 1) := by decide +kernel
theorem dX3_addMoment_52 : decode cX3_addMoment 52 = .ok (.ifCond .eq 61, 3) := by decide +kernel
theorem dX3_addMoment_55 : decode cX3_addMoment 55 = .ok (.iload_n 1, 1) := by decide +kernel
theorem dX3_addMoment_56 : decode cX3_addMoment 56 = .ok (.aload_n 0, 1) := by decide +kernel
theorem dX3_addMoment_57 : decode cX3_addMoment 57 = .ok (.getfield 26, 3) := by decide +kernel
theorem dX3_addMoment_60 : decode cX3_addMoment 60 = .ok (.if_icmp .gt 53, 3) := by decide +kernel
theorem dX3_addMoment_63 : decode cX3_addMoment 63 = .ok (.aload_n 0, 1) := by decide +kernel
theorem dX3_addMoment_64 : decode cX3_addMoment 64 = .ok (.getfield 29, 3) := by decide +kernel
theorem dX3_addMoment_67 : decode cX3_addMoment 67 = .ok (.aload_n 0, 1) := by decide +kernel
theorem dX3_addMoment_68 : decode cX3_addMoment 68 = .ok (.getfield 9, 3) := by decide +kernel
theorem dX3_addMoment_71 : decode cX3_addMoment 71 = .ok (.arraylength, 1) := by decide +kernel
theorem dX3_addMoment_72 : decode cX3_addMoment 72 = .ok (.if_icmp .ge 41, 3) := by decide +kernel
theorem dX3_addMoment_75 : decode cX3_addMoment 75 = .ok (.aload_n 0, 1) := by decide +kernel
theorem dX3_addMoment_76 : decode cX3_addMoment 76 = .ok (.getfield 9, 3) := by decide +kernel
theorem dX3_addMoment_79 : decode cX3_addMoment 79 = .ok (.iload_n 2, 1) := by decide +kernel
theorem dX3_addMoment_80 : decode cX3_addMoment 80 = .ok (.aload_n 0, 1) := by decide +kernel
theorem dX3_addMoment_81 : decode cX3_addMoment 81 = .ok (.getfield 9, 3) := by decide +kernel
theorem dX3_addMoment_84 : decode cX3_addMoment 84 = .ok (.iload_n 2, 1) := by decide +kernel
theorem dX3_addMoment_85 : decode cX3_addMoment 85 = .ok (.iconst 1, 1) := by decide +kernel
theorem dX3_addMoment_86 : decode cX3_addMoment 86 = .ok (.iadd, 1) := by decide +kernel
theorem dX3_addMoment_87 : decode cX3_addMoment 87 = .ok (.aload_n 0, 1) := by decide +kernel
theorem dX3_addMoment_88 : decode cX3_addMoment 88 = .ok (.getfield 29, 3) := by decide +kernel
theorem dX3_addMoment_91 : decode cX3_addMoment 91 = .ok (.iload_n 2, 1) := by decide +kernel
theorem dX3_addMoment_92 : decode cX3_addMoment 92 = .ok (.isub, 1) := by decide +kernel
theorem dX3_addMoment_93 : decode cX3_addMoment 93 = .ok (.invokestatic 67, 3) := by decide +kernel
theorem dX3_addMoment_96 : decode cX3_addMoment 96 = .ok (.aload_n 0, 1) := by decide +kernel
theorem dX3_addMoment_97 : decode cX3_addMoment 97 = .ok (.getfield 9, 3) := by decide +kernel
theorem dX3_addMoment_100 : decode cX3_addMoment 100 = .ok (.iload_n 2, 1) := by decide +kernel
theorem dX3_addMoment_101 : decode cX3_addMoment 101 = .ok (.iload_n 1, 1) := by decide +kernel
theorem dX3_addMoment_102 : decode cX3_addMoment 102 = .ok (.iastore, 1) := by decide +kernel
theorem dX3_addMoment_103 : decode cX3_addMoment 103 = .ok (.aload_n 0, 1) := by decide +kernel
theorem dX3_addMoment_104 : decode cX3_addMoment 104 = .ok (.dup, 1) := by decide +kernel
theorem dX3_addMoment_105 : decode cX3_addMoment 105 = .ok (.getfield 29, 3) := by decide +kernel
theorem dX3_addMoment_108 : decode cX3_addMoment 108 = .ok (.iconst 1, 1) := by decide +kernel
theorem dX3_addMoment_109 : decode cX3_addMoment 109 = .ok (.iadd, 1) := by decide +kernel
theorem dX3_addMoment_110 : decode cX3_addMoment 110 = .ok (.putfield 29, 3) := by decide +kernel
theorem dX3_addMoment_113 : decode cX3_addMoment 113 = .ok (.return_, 1) := by decide +kernel
theorem bX3_addMoment_0 {d : Nat} {Q : Option jA → jH → Prop} (a0 : Nat) (i1 : Int) (u2 : Option jA) (u3 : Option jA) (h : jH)
    (s1 : (jS h a0).1 = 3)
    (k1 : V MX3_addMoment d 5 [some (.inr a0), some (.inl i1), some (.inl (jI h a0 0)), u3] [] h 0 0 Q) :
    V MX3_addMoment d 0 [some (.inr a0), some (.inl i1), u2, u3] [] h 0 0 Q := by
  refine V_aload_n (i := 0) dX3_addMoment_0 rfl rfl ?_
  refine V_getI dX3_addMoment_1 fX3_29 rfl s1 ?_
  refine V_istore_n (i := 2) dX3_addMoment_4 rfl (by decide) ?_
  exact k1
theorem bX3_addMoment_5 {d : Nat} {Q : Option jA → jH → Prop} (a0 : Nat) (i1 : Int) (i2 : Int) (u3 : Option jA) (h : jH)
    (k1 : (i2 ≤ 0) → V MX3_addMoment d 27 [some (.inr a0), some (.inl i1), some (.inl i2), u3] [] h 0 0 Q)
    (s1 : (jS h a0).1 = 3)
    (r1 : (¬ (i2 ≤ 0)) → jR (i2 - 1))
    (s2 : (jS h (jP h a0 2)).1 = 16)
    (s3 : (¬ (i2 ≤ 0)) → 0 ≤ i2 - 1)
    (s4 : (¬ (i2 ≤ 0)) → i2 - 1 < ((jS h (jP h a0 2)).2 : Int))
    (k2 : (¬ (i2 ≤ 0)) → ((jX h (jP h a0 2) ((i2 - 1).toNat)) < i1) → V MX3_addMoment d 27 [some (.inr a0), some (.inl i1), some (.inl i2), u3] [] h 0 0 Q)
    (r2 : (¬ (i2 ≤ 0)) → (¬ ((jX h (jP h a0 2) ((i2 - 1).toNat)) < i1)) → jR (i2 + (-1)))
    (k3 : (¬ (i2 ≤ 0)) → (¬ ((jX h (jP h a0 2) ((i2 - 1).toNat)) < i1)) → V MX3_addMoment d 5 [some (.inr a0), some (.inl i1), some (.inl (i2 + (-1))), u3] [] h 0 0 Q) :
    V MX3_addMoment d 5 [some (.inr a0), some (.inl i1), some (.inl i2), u3] [] h 0 0 Q := by
  refine V_iload_n (i := 2) dX3_addMoment_5 rfl rfl ?_
  refine V_if_le (tgt := 27) dX3_addMoment_6 (by decide) (fun c1 => ?_) (fun c1 => ?_)
  · exact (k1 c1)
  · refine V_aload_n (i := 0) dX3_addMoment_9 rfl rfl ?_
    refine V_getP dX3_addMoment_10 fX3_9 rfl s1 ?_
    refine V_iload_n (i := 2) dX3_addMoment_13 rfl rfl ?_
    refine V_iconst dX3_addMoment_14 ⟨by decide, by decide⟩ ?_
    refine V_isub dX3_addMoment_15 (r1 c1) ?_
    refine V_iald dX3_addMoment_16 s2 (s3 c1) (s4 c1) ?_
    refine V_iload_n (i := 1) dX3_addMoment_17 rfl rfl ?_
    refine V_icmp_lt (tgt := 27) dX3_addMoment_18 (by decide) (fun c2 => ?_) (fun c2 => ?_)
    · exact (k2 c1 c2)
    · refine V_iinc (i := 2) dX3_addMoment_21 rfl (by decide) (r2 c1 c2) ?_
      refine V_goto (tgt := 5) dX3_addMoment_24 (by decide) ?_
      exact (k3 c1 c2)
theorem bX3_addMoment_27 {d : Nat} {Q : Option jA → jH → Prop} (a0 : Nat) (i1 : Int) (i2 : Int) (u3 : Option jA) (h : jH)
    (s1 : (jS h a0).1 = 3)
    (k1 : (i2 = (jI h a0 0)) → V MX3_addMoment d 45 [some (.inr a0), some (.inl i1), some (.inl i2), u3] [] h 0 0 Q)
    (s2 : (jS h (jP h a0 2)).1 = 16)
    (s3 : (¬ (i2 = (jI h a0 0))) → 0 ≤ i2)
    (s4 : (¬ (i2 = (jI h a0 0))) → i2 < ((jS h (jP h a0 2)).2 : Int))
    (k2 : (¬ (i2 = (jI h a0 0))) → ((jX h (jP h a0 2) ((i2).toNat)) = i1) → V MX3_addMoment d 50 [some (.inr a0), some (.inl i1), some (.inl i2), u3] [.inl 0] h 0 0 Q)
    (k3 : (¬ (i2 = (jI h a0 0))) → (¬ ((jX h (jP h a0 2) ((i2).toNat)) = i1)) → V MX3_addMoment d 45 [some (.inr a0), some (.inl i1), some (.inl i2), u3] [] h 0 0 Q) :
    V MX3_addMoment d 27 [some (.inr a0), some (.inl i1), some (.inl i2), u3] [] h 0 0 Q := by
  refine V_iload_n (i := 2) dX3_addMoment_27 rfl rfl ?_
  refine V_aload_n (i := 0) dX3_addMoment_28 rfl rfl ?_
  refine V_getI dX3_addMoment_29 fX3_29 rfl s1 ?_
  refine V_icmp_eq (tgt := 45) dX3_addMoment_32 (by decide) (fun c1 => ?_) (fun c1 => ?_)
  · exact (k1 c1)
  · refine V_aload_n (i := 0) dX3_addMoment_35 rfl rfl ?_
    refine V_getP dX3_addMoment_36 fX3_9 rfl s1 ?_
    refine V_iload_n (i := 2) dX3_addMoment_39 rfl rfl ?_
    refine V_iald dX3_addMoment_40 s2 (s3 c1) (s4 c1) ?_
    refine V_iload_n (i := 1) dX3_addMoment_41 rfl rfl ?_
    refine V_icmp_eq (tgt := 49) dX3_addMoment_42 (by decide) (fun c2 => ?_) (fun c2 => ?_)
    · refine V_iconst dX3_addMoment_49 ⟨by decide, by decide⟩ ?_
      exact (k2 c1 c2)
    · exact (k3 c1 c2)
theorem bX3_addMoment_45 {d : Nat} {Q : Option jA → jH → Prop} (a0 : Nat) (i1 : Int) (i2 : Int) (u3 : Option jA) (h : jH)
    (k1 : V MX3_addMoment d 50 [some (.inr a0), some (.inl i1), some (.inl i2), u3] [.inl 1] h 0 0 Q) :
    V MX3_addMoment d 45 [some (.inr a0), some (.inl i1), some (.inl i2), u3] [] h 0 0 Q := by
  refine V_iconst dX3_addMoment_45 ⟨by decide, by decide⟩ ?_
  refine V_goto (tgt := 50) dX3_addMoment_46 (by decide) ?_
  exact k1
theorem bX3_addMoment_50 {d : Nat} {Q : Option jA → jH → Prop} (a0 : Nat) (i1 : Int) (i2 : Int) (u3 : Option jA) (p0 : Int) (h : jH)
    (k1 : (p0 = 0) → V MX3_addMoment d 113 [some (.inr a0), some (.inl i1), some (.inl i2), some (.inl p0)] [] h 0 0 Q)
    (s1 : (jS h a0).1 = 3)
    (k2 : (¬ (p0 = 0)) → ((jI h a0 1) < i1) → V MX3_addMoment d 113 [some (.inr a0), some (.inl i1), some (.inl i2), some (.inl p0)] [] h 0 0 Q)
    (s2 : (jS h (jP h a0 2)).1 = 16)
    (k3 : (¬ (p0 = 0)) → (¬ ((jI h a0 1) < i1)) → ((((jS h (jP h a0 2)).2 : Int)) ≤ (jI h a0 0)) → V MX3_addMoment d 113 [some (.inr a0), some (.inl i1), some (.inl i2), some (.inl p0)] [] h 0 0 Q)
    (r1 : (¬ (p0 = 0)) → (¬ ((jI h a0 1) < i1)) → (¬ ((((jS h (jP h a0 2)).2 : Int)) ≤ (jI h a0 0))) → jR (i2 + 1))
    (r2 : (¬ (p0 = 0)) → (¬ ((jI h a0 1) < i1)) → (¬ ((((jS h (jP h a0 2)).2 : Int)) ≤ (jI h a0 0))) → jR ((jI h a0 0) - i2))
    (s3 : (¬ (p0 = 0)) → (¬ ((jI h a0 1) < i1)) → (¬ ((((jS h (jP h a0 2)).2 : Int)) ≤ (jI h a0 0))) → 0 ≤ i2)
    (s4 : (¬ (p0 = 0)) → (¬ ((jI h a0 1) < i1)) → (¬ ((((jS h (jP h a0 2)).2 : Int)) ≤ (jI h a0 0))) → 0 ≤ i2 + 1)
    (s5 : (¬ (p0 = 0)) → (¬ ((jI h a0 1) < i1)) → (¬ ((((jS h (jP h a0 2)).2 : Int)) ≤ (jI h a0 0))) → 0 ≤ (jI h a0 0) - i2)
    (s6 : (¬ (p0 = 0)) → (¬ ((jI h a0 1) < i1)) → (¬ ((((jS h (jP h a0 2)).2 : Int)) ≤ (jI h a0 0))) → i2 + ((jI h a0 0) - i2) ≤ ((jS h (jP h a0 2)).2 : Int))
    (s7 : (¬ (p0 = 0)) → (¬ ((jI h a0 1) < i1)) → (¬ ((((jS h (jP h a0 2)).2 : Int)) ≤ (jI h a0 0))) → i2 + 1 + ((jI h a0 0) - i2) ≤ ((jS h (jP h a0 2)).2 : Int))
    (s8 : (¬ (p0 = 0)) → (¬ ((jI h a0 1) < i1)) → (¬ ((((jS h (jP h a0 2)).2 : Int)) ≤ (jI h a0 0))) → i2 < ((jS h (jP h a0 2)).2 : Int))
    (r3 : (¬ (p0 = 0)) → (¬ ((jI h a0 1) < i1)) → (¬ ((((jS h (jP h a0 2)).2 : Int)) ≤ (jI h a0 0))) → jR ((jI h a0 0) + 1))
    (k4 : (¬ (p0 = 0)) → (¬ ((jI h a0 1) < i1)) → (¬ ((((jS h (jP h a0 2)).2 : Int)) ≤ (jI h a0 0))) → V MX3_addMoment d 113 [some (.inr a0), some (.inl i1), some (.inl i2), some (.inl p0)] [] (jsI (jsX (jcpy h (jP h a0 2) ((i2).toNat) (jP h a0 2) ((i2 + 1).toNat) (((jI h a0 0) - i2).toNat)) (jP h a0 2) ((i2).toNat) i1) a0 0 ((jI h a0 0) + 1)) 0 0 Q) :
    V MX3_addMoment d 50 [some (.inr a0), some (.inl i1), some (.inl i2), u3] [.inl p0] h 0 0 Q := by
  refine V_istore_n (i := 3) dX3_addMoment_50 rfl (by decide) ?_
  refine V_iload_n (i := 3) dX3_addMoment_51 rfl rfl ?_
  refine V_if_eq (tgt := 113) dX3_addMoment_52 (by decide) (fun c1 => ?_) (fun c1 => ?_)
  · exact (k1 c1)
  · refine V_iload_n (i := 1) dX3_addMoment_55 rfl rfl ?_
    refine V_aload_n (i := 0) dX3_addMoment_56 rfl rfl ?_
    refine V_getI dX3_addMoment_57 fX3_26 rfl s1 ?_
    refine V_icmp_gt (tgt := 113) dX3_addMoment_60 (by decide) (fun c2 => ?_) (fun c2 => ?_)
    · exact (k2 c1 c2)
    · refine V_aload_n (i := 0) dX3_addMoment_63 rfl rfl ?_
      refine V_getI dX3_addMoment_64 fX3_29 rfl s1 ?_
      refine V_aload_n (i := 0) dX3_addMoment_67 rfl rfl ?_
      refine V_getP dX3_addMoment_68 fX3_9 rfl s1 ?_
      refine V_alen (t := 0) dX3_addMoment_71 s2 (by decide) ?_
      refine V_icmp_ge (tgt := 113) dX3_addMoment_72 (by decide) (fun c3 => ?_) (fun c3 => ?_)
      · exact (k3 c1 c2 c3)
      · refine V_aload_n (i := 0) dX3_addMoment_75 rfl rfl ?_
        refine V_getP dX3_addMoment_76 fX3_9 rfl s1 ?_
        refine V_iload_n (i := 2) dX3_addMoment_79 rfl rfl ?_
        refine V_aload_n (i := 0) dX3_addMoment_80 rfl rfl ?_
        refine V_getP dX3_addMoment_81 fX3_9 rfl s1 ?_
        refine V_iload_n (i := 2) dX3_addMoment_84 rfl rfl ?_
        refine V_iconst dX3_addMoment_85 ⟨by decide, by decide⟩ ?_
        refine V_iadd dX3_addMoment_86 (r1 c1 c2 c3) ?_
        refine V_aload_n (i := 0) dX3_addMoment_87 rfl rfl ?_
        refine V_getI dX3_addMoment_88 fX3_29 rfl s1 ?_
        refine V_iload_n (i := 2) dX3_addMoment_91 rfl rfl ?_
        refine V_isub dX3_addMoment_92 (r2 c1 c2 c3) ?_
        refine V_copy dX3_addMoment_93 lX3_67 jacN jacS jacY s2 s2 (s3 c1 c2 c3) (s4 c1 c2 c3) (s5 c1 c2 c3) (s6 c1 c2 c3) (s7 c1 c2 c3) (Nat.le_of_ble_eq_true rfl) ?_
        refine V_aload_n (i := 0) dX3_addMoment_96 rfl rfl ?_
        refine V_getP dX3_addMoment_97 fX3_9 rfl s1 ?_
        refine V_iload_n (i := 2) dX3_addMoment_100 rfl rfl ?_
        refine V_iload_n (i := 1) dX3_addMoment_101 rfl rfl ?_
        refine V_iast dX3_addMoment_102 s2 (s3 c1 c2 c3) (s8 c1 c2 c3) ?_
        refine V_aload_n (i := 0) dX3_addMoment_103 rfl rfl ?_
        refine V_dup dX3_addMoment_104 ?_
        refine V_getI dX3_addMoment_105 fX3_29 rfl s1 ?_
        refine V_iconst dX3_addMoment_108 ⟨by decide, by decide⟩ ?_
        refine V_iadd dX3_addMoment_109 (r3 c1 c2 c3) ?_
        refine V_putI (ci := 3) (kf := 0) dX3_addMoment_110 fX3_29 rfl rfl s1 ?_
        exact (k4 c1 c2 c3)
theorem bX3_addMoment_113 {d : Nat} {Q : Option jA → jH → Prop} (a0 : Nat) (i1 : Int) (i2 : Int) (i3 : Int) (h : jH)
    (q1 : Q none h) :
    V MX3_addMoment d 113 [some (.inr a0), some (.inl i1), some (.inl i2), some (.inl i3)] [] h 0 0 Q := by
  exact V_ret (v := none) rfl rfl dX3_addMoment_113 trivial rfl q1
theorem dX3_isEdge_0 : decode cX3_isEdge 0 = .ok (.iload_n 3, 1) := by decide +kernel
theorem dX3_isEdge_1 : decode cX3_isEdge 1 = .ok (.ifCond .ne 5, 3) := by decide +kernel
theorem dX3_isEdge_4 : decode cX3_isEdge 4 = .ok (.iconst 0, 1) := by decide +kernel
theorem dX3_isEdge_5 : decode cX3_isEdge 5 = .ok (.ireturn, 1) := by decide +kernel
theorem dX3_isEdge_6 : decode cX3_isEdge 6 = .ok (.aload_n 0, 1) := by decide +kernel
theorem dX3_isEdge_7 : decode cX3_isEdge 7 = .ok (.getfield 17, 3) := by decide +kernel
theorem dX3_isEdge_10 : decode cX3_isEdge 10 = .ok (.iload_n 3, 1) := by decide +kernel
theorem dX3_isEdge_11 : decode cX3_isEdge 11 = .ok (.iconst 1, 1) := by decide +kernel
theorem dX3_isEdge_12 : decode cX3_isEdge 12 = .ok (.isub, 1) := by decide +kernel
theorem dX3_isEdge_13 : decode cX3_isEdge 13 = .ok (.aaload, 1) := by decide +kernel
theorem dX3_isEdge_14 : decode cX3_isEdge 14 = .ok (.iload_n 1, 1) := by decide +kernel
theorem dX3_isEdge_15 : decode cX3_isEdge 15 = .ok (.iaload, 1) := by decide +kernel
theorem dX3_isEdge_16 : decode cX3_isEdge 16 = .ok (.istore 4, 2) := by decide +kernel
theorem dX3_isEdge_18 : decode cX3_isEdge 18 = .ok (.aload_n 0, 1) := by decide +kernel
theorem dX3_isEdge_19 : decode cX3_isEdge 19 = .ok (.getfield 17, 3) := by decide +kernel
theorem dX3_isEdge_22 : decode cX3_isEdge 22 = .ok (.iload_n 3, 1) := by decide +kernel
theorem dX3_isEdge_23 : decode cX3_isEdge 23 = .ok (.aaload, 1) := by decide +kernel
theorem dX3_isEdge_24 : decode cX3_isEdge 24 = .ok (.iload_n 1, 1) := by decide +kernel
theorem dX3_isEdge_25 : decode cX3_isEdge 25 = .ok (.iaload, 1) := by decide +kernel
theorem dX3_isEdge_26 : decode cX3_isEdge 26 = .ok (.istore 5, 2) := by decide +kernel
theorem dX3_isEdge_28 : decode cX3_isEdge 28 = .ok (.iload 4, 2) := by decide +kernel
theorem dX3_isEdge_30 : decode cX3_isEdge 30 = .ok (.bipush (-7), 2) := by decide +kernel
theorem dX3_isEdge_32 : decode cX3_isEdge 32 = .ok (.if_icmp .eq 17, 3) := by decide +kernel
theorem dX3_isEdge_35 : decode cX3_isEdge 35 = .ok (.iload 5, 2) := by decide +kernel
theorem dX3_isEdge_37 : decode cX3_isEdge 37 = .ok (.bipush (-7), 2) := by decide +kernel
theorem dX3_isEdge_39 : decode cX3_isEdge 39 = .ok (.if_icmp .eq 10, 3) := by decide +kernel
theorem dX3_isEdge_42 : decode cX3_isEdge 42 = .ok (.iload 4, 2) := by decide +kernel
theorem dX3_isEdge_44 : decode cX3_isEdge 44 = .ok (.iload 5, 2) := by decide +kernel
theorem dX3_isEdge_46 : decode cX3_isEdge 46 = .ok (.if_icmp .ne 5, 3) := by decide +kernel
theorem dX3_isEdge_49 : decode cX3_isEdge 49 = .ok (.iconst 0, 1) := by decide +kernel
theorem dX3_isEdge_50 : decode cX3_isEdge 50 = .ok (.ireturn, 1) := by decide +kernel
theorem dX3_isEdge_51 : decode cX3_isEdge 51 = .ok (.iload_n 2, 1) := by decide +kernel
theorem dX3_isEdge_52 : decode cX3_isEdge 52 = .ok (.ifCond .eq 28, 3) := by decide +kernel
theorem dX3_isEdge_55 : decode cX3_isEdge 55 = .ok (.iload_n 2, 1) := by decide +kernel
theorem dX3_isEdge_56 : decode cX3_isEdge 56 = .ok (.iconst 1, 1) := by decide +kernel
theorem dX3_isEdge_57 : decode cX3_isEdge 57 = .ok (.if_icmp .ne 7, 3) := by decide +kernel
theorem dX3_isEdge_60 : decode cX3_isEdge 60 = .ok (.iconst 1, 1) := by decide +kernel
theorem dX3_isEdge_61 : decode cX3_isEdge 61 = .ok (.goto 4, 3) := by decide +kernel
theorem dX3_isEdge_64 : decode cX3_isEdge 64 = .ok (.iconst 0, 1) := by decide +kernel
theorem dX3_isEdge_65 : decode cX3_isEdge 65 = .ok (.iload 5, 2) := by decide +kernel
theorem dX3_isEdge_67 : decode cX3_isEdge 67 = .ok (.iload 4, 2) := by decide +kernel
theorem dX3_isEdge_69 : decode cX3_isEdge 69 = .ok (.if_icmp .le 7, 3) := by decide +kernel
theorem dX3_isEdge_72 : decode cX3_isEdge 72 = .ok (.iconst 1, 1) := by decide +kernel
theorem dX3_isEdge_73 : decode cX3_isEdge 73 = .ok (.goto 4, 3) := by decide +kernel
theorem dX3_isEdge_76 : decode cX3_isEdge 76 = .ok (.iconst 0, 1) := by decide +kernel
theorem dX3_isEdge_77 : decode cX3_isEdge 77 = .ok (.if_icmp .ne 7, 3) := by decide +kernel
theorem dX3_isEdge_80 : decode cX3_isEdge 80 = .ok (.iconst 1, 1) := by decide +kernel
theorem dX3_isEdge_81 : decode cX3_isEdge 81 = .ok (.goto 4, 3) := by decide +kernel
theorem dX3_isEdge_84 : decode cX3_isEdge 84 = .ok (.iconst 0, 1) := by decide +kernel
theorem dX3_isEdge_85 : decode cX3_isEdge 85 = .ok (.ireturn, 1) := by decide +kernel
theorem bX3_isEdge_0 {d : Nat} {Q : Option jA → jH → Prop} (a0 : Nat) (i1 : Int) (i2 : Int) (i3 : Int) (u4 : Option jA) (u5 : Option jA) (h : jH)
    (s1 : (jS h a0).1 = 3)
    (r1 : (i3 ≠ 0) → jR (i3 - 1))
    (s2 : (jS h (jP h a0 3)).1 = 20)
    (s3 : (i3 ≠ 0) → 0 ≤ i3 - 1)
    (s4 : (i3 ≠ 0) → i3 - 1 < ((jS h (jP h a0 3)).2 : Int))
    (s5 : (i3 ≠ 0) → (jS h (jY h (jP h a0 3) ((i3 - 1).toNat))).1 = 16)
    (s6 : (i3 ≠ 0) → 0 ≤ i1)
    (s7 : (i3 ≠ 0) → i1 < ((jS h (jY h (jP h a0 3) ((i3 - 1).toNat))).2 : Int))
    (s8 : (i3 ≠ 0) → 0 ≤ i3)
    (s9 : (i3 ≠ 0) → i3 < ((jS h (jP h a0 3)).2 : Int))
    (s10 : (i3 ≠ 0) → (jS h (jY h (jP h a0 3) ((i3).toNat))).1 = 16)
    (s11 : (i3 ≠ 0) → i1 < ((jS h (jY h (jP h a0 3) ((i3).toNat))).2 : Int))
    (q1 : (i3 ≠ 0) → ((jX h (jY h (jP h a0 3) ((i3 - 1).toNat)) ((i1).toNat)) = ((-7))) → Q (some (.inl 0)) h)
    (q2 : (i3 ≠ 0) → (¬ ((jX h (jY h (jP h a0 3) ((i3 - 1).toNat)) ((i1).toNat)) = ((-7)))) → ((jX h (jY h (jP h a0 3) ((i3).toNat)) ((i1).toNat)) = ((-7))) → Q (some (.inl 0)) h)
    (q3 : (i3 ≠ 0) → (¬ ((jX h (jY h (jP h a0 3) ((i3 - 1).toNat)) ((i1).toNat)) = ((-7)))) → (¬ ((jX h (jY h (jP h a0 3) ((i3).toNat)) ((i1).toNat)) = ((-7)))) → ((jX h (jY h (jP h a0 3) ((i3 - 1).toNat)) ((i1).toNat)) ≠ (jX h (jY h (jP h a0 3) ((i3).toNat)) ((i1).toNat))) → (i2 = 0) → Q (some (.inl 1)) h)
    (q4 : (i3 ≠ 0) → (¬ ((jX h (jY h (jP h a0 3) ((i3 - 1).toNat)) ((i1).toNat)) = ((-7)))) → (¬ ((jX h (jY h (jP h a0 3) ((i3).toNat)) ((i1).toNat)) = ((-7)))) → ((jX h (jY h (jP h a0 3) ((i3 - 1).toNat)) ((i1).toNat)) ≠ (jX h (jY h (jP h a0 3) ((i3).toNat)) ((i1).toNat))) → (¬ (i2 = 0)) → (i2 ≠ 1) → ((jX h (jY h (jP h a0 3) ((i3).toNat)) ((i1).toNat)) ≤ (jX h (jY h (jP h a0 3) ((i3 - 1).toNat)) ((i1).toNat))) → Q (some (.inl 1)) h)
    (q5 : (i3 ≠ 0) → (¬ ((jX h (jY h (jP h a0 3) ((i3 - 1).toNat)) ((i1).toNat)) = ((-7)))) → (¬ ((jX h (jY h (jP h a0 3) ((i3).toNat)) ((i1).toNat)) = ((-7)))) → ((jX h (jY h (jP h a0 3) ((i3 - 1).toNat)) ((i1).toNat)) ≠ (jX h (jY h (jP h a0 3) ((i3).toNat)) ((i1).toNat))) → (¬ (i2 = 0)) → (i2 ≠ 1) → (¬ ((jX h (jY h (jP h a0 3) ((i3).toNat)) ((i1).toNat)) ≤ (jX h (jY h (jP h a0 3) ((i3 - 1).toNat)) ((i1).toNat)))) → Q (some (.inl 0)) h)
    (q6 : (i3 ≠ 0) → (¬ ((jX h (jY h (jP h a0 3) ((i3 - 1).toNat)) ((i1).toNat)) = ((-7)))) → (¬ ((jX h (jY h (jP h a0 3) ((i3).toNat)) ((i1).toNat)) = ((-7)))) → ((jX h (jY h (jP h a0 3) ((i3 - 1).toNat)) ((i1).toNat)) ≠ (jX h (jY h (jP h a0 3) ((i3).toNat)) ((i1).toNat))) → (¬ (i2 = 0)) → (i2 = 1) → ((jX h (jY h (jP h a0 3) ((i3).toNat)) ((i1).toNat)) ≤ (jX h (jY h (jP h a0 3) ((i3 - 1).toNat)) ((i1).toNat))) → Q (some (.inl 0)) h)
    (q7 : (i3 ≠ 0) → (¬ ((jX h (jY h (jP h a0 3) ((i3 - 1).toNat)) ((i1).toNat)) = ((-7)))) → (¬ ((jX h (jY h (jP h a0 3) ((i3).toNat)) ((i1).toNat)) = ((-7)))) → ((jX h (jY h (jP h a0 3) ((i3 - 1).toNat)) ((i1).toNat)) ≠ (jX h (jY h (jP h a0 3) ((i3).toNat)) ((i1).toNat))) → (¬ (i2 = 0)) → (i2 = 1) → (¬ ((jX h (jY h (jP h a0 3) ((i3).toNat)) ((i1).toNat)) ≤ (jX h (jY h (jP h a0 3) ((i3 - 1).toNat)) ((i1).toNat)))) → Q (some (.inl 1)) h)
    (q8 : (i3 ≠ 0) → (¬ ((jX h (jY h (jP h a0 3) ((i3 - 1).toNat)) ((i1).toNat)) = ((-7)))) → (¬ ((jX h (jY h (jP h a0 3) ((i3).toNat)) ((i1).toNat)) = ((-7)))) → ((jX h (jY h (jP h a0 3) ((i3 - 1).toNat)) ((i1).toNat)) = (jX h (jY h (jP h a0 3) ((i3).toNat)) ((i1).toNat))) → Q (some (.inl 0)) h)
    (q9 : (i3 = 0) → Q (some (.inl 0)) h) :
    V MX3_isEdge d 0 [some (.inr a0), some (.inl i1), some (.inl i2), some (.inl i3), u4, u5] [] h 0 0 Q := by
  refine V_iload_n (i := 3) dX3_isEdge_0 rfl rfl ?_
  refine V_if_ne (tgt := 6) dX3_isEdge_1 (by decide) (fun c1 => ?_) (fun c1 => ?_)
  · refine V_aload_n (i := 0) dX3_isEdge_6 rfl rfl ?_
    refine V_getP dX3_isEdge_7 fX3_17 rfl s1 ?_
    refine V_iload_n (i := 3) dX3_isEdge_10 rfl rfl ?_
    refine V_iconst dX3_isEdge_11 ⟨by decide, by decide⟩ ?_
    refine V_isub dX3_isEdge_12 (r1 c1) ?_
    refine V_aald20 dX3_isEdge_13 s2 (s3 c1) (s4 c1) ?_
    refine V_iload_n (i := 1) dX3_isEdge_14 rfl rfl ?_
    refine V_iald dX3_isEdge_15 (s5 c1) (s6 c1) (s7 c1) ?_
    refine V_istore (i := 4) dX3_isEdge_16 (by decide) ?_
    refine V_aload_n (i := 0) dX3_isEdge_18 rfl rfl ?_
    refine V_getP dX3_isEdge_19 fX3_17 rfl s1 ?_
    refine V_iload_n (i := 3) dX3_isEdge_22 rfl rfl ?_
    refine V_aald20 dX3_isEdge_23 s2 (s8 c1) (s9 c1) ?_
    refine V_iload_n (i := 1) dX3_isEdge_24 rfl rfl ?_
    refine V_iald dX3_isEdge_25 (s10 c1) (s6 c1) (s11 c1) ?_
    refine V_istore (i := 5) dX3_isEdge_26 (by decide) ?_
    refine V_iload (i := 4) dX3_isEdge_28 rfl ?_
    refine V_bipush dX3_isEdge_30 (by decide +kernel) ⟨by decide, by decide⟩ ?_
    refine V_icmp_eq (tgt := 49) dX3_isEdge_32 (by decide) (fun c2 => ?_) (fun c2 => ?_)
    · refine V_iconst dX3_isEdge_49 ⟨by decide, by decide⟩ ?_
      exact V_retz rfl dX3_isEdge_50 (by decide) (q1 c1 c2)
    · refine V_iload (i := 5) dX3_isEdge_35 rfl ?_
      refine V_bipush dX3_isEdge_37 (by decide +kernel) ⟨by decide, by decide⟩ ?_
      refine V_icmp_eq (tgt := 49) dX3_isEdge_39 (by decide) (fun c3 => ?_) (fun c3 => ?_)
      · refine V_iconst dX3_isEdge_49 ⟨by decide, by decide⟩ ?_
        exact V_retz rfl dX3_isEdge_50 (by decide) (q2 c1 c2 c3)
      · refine V_iload (i := 4) dX3_isEdge_42 rfl ?_
        refine V_iload (i := 5) dX3_isEdge_44 rfl ?_
        refine V_icmp_ne (tgt := 51) dX3_isEdge_46 (by decide) (fun c4 => ?_) (fun c4 => ?_)
        · refine V_iload_n (i := 2) dX3_isEdge_51 rfl rfl ?_
          refine V_if_eq (tgt := 80) dX3_isEdge_52 (by decide) (fun c5 => ?_) (fun c5 => ?_)
          · refine V_iconst dX3_isEdge_80 ⟨by decide, by decide⟩ ?_
            refine V_goto (tgt := 85) dX3_isEdge_81 (by decide) ?_
            exact V_retz rfl dX3_isEdge_85 (by decide) (q3 c1 c2 c3 c4 c5)
          · refine V_iload_n (i := 2) dX3_isEdge_55 rfl rfl ?_
            refine V_iconst dX3_isEdge_56 ⟨by decide, by decide⟩ ?_
            refine V_icmp_ne (tgt := 64) dX3_isEdge_57 (by decide) (fun c6 => ?_) (fun c6 => ?_)
            · refine V_iconst dX3_isEdge_64 ⟨by decide, by decide⟩ ?_
              refine V_iload (i := 5) dX3_isEdge_65 rfl ?_
              refine V_iload (i := 4) dX3_isEdge_67 rfl ?_
              refine V_icmp_le (tgt := 76) dX3_isEdge_69 (by decide) (fun c7 => ?_) (fun c7 => ?_)
              · refine V_iconst dX3_isEdge_76 ⟨by decide, by decide⟩ ?_
                refine V_icmp_ne (tgt := 84) dX3_isEdge_77 (by decide) (fun c8 => ?_) (fun c8 => ?_)
                · exact absurd c8 (by decide)
                · refine V_iconst dX3_isEdge_80 ⟨by decide, by decide⟩ ?_
                  refine V_goto (tgt := 85) dX3_isEdge_81 (by decide) ?_
                  exact V_retz rfl dX3_isEdge_85 (by decide) (q4 c1 c2 c3 c4 c5 c6 c7)
              · refine V_iconst dX3_isEdge_72 ⟨by decide, by decide⟩ ?_
                refine V_goto (tgt := 77) dX3_isEdge_73 (by decide) ?_
                refine V_icmp_ne (tgt := 84) dX3_isEdge_77 (by decide) (fun c9 => ?_) (fun c9 => ?_)
                · refine V_iconst dX3_isEdge_84 ⟨by decide, by decide⟩ ?_
                  exact V_retz rfl dX3_isEdge_85 (by decide) (q5 c1 c2 c3 c4 c5 c6 c7)
                · exact absurd c9 (by decide)
            · refine V_iconst dX3_isEdge_60 ⟨by decide, by decide⟩ ?_
              refine V_goto (tgt := 65) dX3_isEdge_61 (by decide) ?_
              refine V_iload (i := 5) dX3_isEdge_65 rfl ?_
              refine V_iload (i := 4) dX3_isEdge_67 rfl ?_
              refine V_icmp_le (tgt := 76) dX3_isEdge_69 (by decide) (fun c10 => ?_) (fun c10 => ?_)
              · refine V_iconst dX3_isEdge_76 ⟨by decide, by decide⟩ ?_
                refine V_icmp_ne (tgt := 84) dX3_isEdge_77 (by decide) (fun c11 => ?_) (fun c11 => ?_)
                · refine V_iconst dX3_isEdge_84 ⟨by decide, by decide⟩ ?_
                  exact V_retz rfl dX3_isEdge_85 (by decide) (q6 c1 c2 c3 c4 c5 c6 c10)
                · exact absurd c11 (by decide)
              · refine V_iconst dX3_isEdge_72 ⟨by decide, by decide⟩ ?_
                refine V_goto (tgt := 77) dX3_isEdge_73 (by decide) ?_
                refine V_icmp_ne (tgt := 84) dX3_isEdge_77 (by decide) (fun c12 => ?_) (fun c12 => ?_)
                · exact absurd c12 (by decide)
                · refine V_iconst dX3_isEdge_80 ⟨by decide, by decide⟩ ?_
                  refine V_goto (tgt := 85) dX3_isEdge_81 (by decide) ?_
                  exact V_retz rfl dX3_isEdge_85 (by decide) (q7 c1 c2 c3 c4 c5 c6 c10)
        · refine V_iconst dX3_isEdge_49 ⟨by decide, by decide⟩ ?_
          exact V_retz rfl dX3_isEdge_50 (by decide) (q8 c1 c2 c3 c4)
  · refine V_iconst dX3_isEdge_4 ⟨by decide, by decide⟩ ?_
    exact V_retz rfl dX3_isEdge_5 (by decide) (q9 c1)
theorem dX3_hasEdgeOf_0 : decode cX3_hasEdgeOf 0 = .ok (.iconst 0, 1) := by decide +kernel
theorem dX3_hasEdgeOf_1 : decode cX3_hasEdgeOf 1 = .ok (.istore_n 3, 1) := by decide +kernel
theorem dX3_hasEdgeOf_2 : decode cX3_hasEdgeOf 2 = .ok (.iload_n 3, 1) := by decide +kernel
theorem dX3_hasEdgeOf_3 : decode cX3_hasEdgeOf 3 = .ok (.bipush 12, 2) := by decide +kernel
theorem dX3_hasEdgeOf_5 : decode cX3_hasEdgeOf 5 = .ok (.if_icmp .ge 30, 3) := by decide +kernel
theorem dX3_hasEdgeOf_8 : decode cX3_hasEdgeOf 8 = .ok (.iload_n 1, 1) := by decide +kernel
theorem dX3_hasEdgeOf_9 : decode cX3_hasEdgeOf 9 = .ok (.iload_n 3, 1) := by decide +kernel
theorem dX3_hasEdgeOf_10 : decode cX3_hasEdgeOf 10 = .ok (.ishr, 1) := by decide +kernel
theorem dX3_hasEdgeOf_11 : decode cX3_hasEdgeOf 11 = .ok (.iconst 1, 1) := by decide +kernel
theorem dX3_hasEdgeOf_12 : decode cX3_hasEdgeOf 12 = .ok (.iand, 1) := by decide +kernel
theorem dX3_hasEdgeOf_13 : decode cX3_hasEdgeOf 13 = .ok (.iconst 1, 1) := by decide +kernel
theorem dX3_hasEdgeOf_14 : decode cX3_hasEdgeOf 14 = .ok (.if_icmp .ne 15, 3) := by decide +kernel
theorem dX3_hasEdgeOf_17 : decode cX3_hasEdgeOf 17 = .ok (.aload_n 0, 1) := by decide +kernel
theorem dX3_hasEdgeOf_18 : decode cX3_hasEdgeOf 18 = .ok (.iload_n 3, 1) := by decide +kernel
theorem dX3_hasEdgeOf_19 : decode cX3_hasEdgeOf 19 = .ok (.iconst 0, 1) := by decide +kernel
theorem dX3_hasEdgeOf_20 : decode cX3_hasEdgeOf 20 = .ok (.iload_n 2, 1) := by decide +kernel
theorem dX3_hasEdgeOf_21 : decode cX3_hasEdgeOf 21 = .ok (.invokevirtual 73, 3) := by decide +kernel
theorem dX3_hasEdgeOf_24 : decode cX3_hasEdgeOf 24 = .ok (.ifCond .eq 5, 3) := by decide +kernel
theorem dX3_hasEdgeOf_27 : decode cX3_hasEdgeOf 27 = .ok (.iconst 1, 1) := by decide +kernel
theorem dX3_hasEdgeOf_28 : decode cX3_hasEdgeOf 28 = .ok (.ireturn, 1) := by decide +kernel
theorem dX3_hasEdgeOf_29 : decode cX3_hasEdgeOf 29 = .ok (.iinc 3 1, 3) := by decide +kernel
theorem dX3_hasEdgeOf_32 : decode cX3_hasEdgeOf 32 = .ok (.goto (-30), 3) := by decide +kernel
theorem dX3_hasEdgeOf_35 : decode cX3_hasEdgeOf 35 = .ok (.iconst 0, 1) := by decide +kernel
theorem dX3_hasEdgeOf_36 : decode cX3_hasEdgeOf 36 = .ok (.ireturn, 1) := by decide +kernel
theorem bX3_hasEdgeOf_0 {d : Nat} {Q : Option jA → jH → Prop} (a0 : Nat) (i1 : Int) (i2 : Int) (u3 : Option jA) (h : jH)
    (k1 : V MX3_hasEdgeOf (d + 1) 2 [some (.inr a0), some (.inl i1), some (.inl i2), some (.inl 0)] [] h 0 0 Q) :
    V MX3_hasEdgeOf (d + 1) 0 [some (.inr a0), some (.inl i1), some (.inl i2), u3] [] h 0 0 Q := by
  refine V_iconst dX3_hasEdgeOf_0 ⟨by decide, by decide⟩ ?_
  refine V_istore_n (i := 3) dX3_hasEdgeOf_1 rfl (by decide) ?_
  exact k1
theorem bX3_hasEdgeOf_2 {d : Nat} {Q : Option jA → jH → Prop} (a0 : Nat) (i1 : Int) (i2 : Int) (i3 : Int) (h : jH)
    (q1 : (12 ≤ i3) → Q (some (.inl 0)) h)
    (r1 : (¬ (12 ≤ i3)) → ((jand (jshr i1 i3) 1) ≠ 1) → jR (i3 + 1))
    (k1 : (¬ (12 ≤ i3)) → ((jand (jshr i1 i3) 1) ≠ 1) → V MX3_hasEdgeOf (d + 1) 2 [some (.inr a0), some (.inl i1), some (.inl i2), some (.inl (i3 + 1))] [] h 0 0 Q)
    (e1 : (¬ (12 ≤ i3)) → ((jand (jshr i1 i3) 1) = 1) → Ex MX3_isEdge d [.inr a0, .inl i3, .inl 0, .inl i2] h 0 0 (fun v h2 => V MX3_hasEdgeOf (d + 1) 24 [some (.inr a0), some (.inl i1), some (.inl i2), some (.inl i3)] (v.toList ++ []) h2 0 0 Q))
    (s1 : (jS h a0).1 = 3) :
    V MX3_hasEdgeOf (d + 1) 2 [some (.inr a0), some (.inl i1), some (.inl i2), some (.inl i3)] [] h 0 0 Q := by
  refine V_iload_n (i := 3) dX3_hasEdgeOf_2 rfl rfl ?_
  refine V_bipush dX3_hasEdgeOf_3 (by decide +kernel) ⟨by decide, by decide⟩ ?_
  refine V_icmp_ge (tgt := 35) dX3_hasEdgeOf_5 (by decide) (fun c1 => ?_) (fun c1 => ?_)
  · refine V_iconst dX3_hasEdgeOf_35 ⟨by decide, by decide⟩ ?_
    exact V_retz rfl dX3_hasEdgeOf_36 (by decide) (q1 c1)
  · refine V_iload_n (i := 1) dX3_hasEdgeOf_8 rfl rfl ?_
    refine V_iload_n (i := 3) dX3_hasEdgeOf_9 rfl rfl ?_
    refine V_ishr dX3_hasEdgeOf_10 ?_
    refine V_iconst dX3_hasEdgeOf_11 ⟨by decide, by decide⟩ ?_
    refine V_iand dX3_hasEdgeOf_12 ?_
    refine V_iconst dX3_hasEdgeOf_13 ⟨by decide, by decide⟩ ?_
    refine V_icmp_ne (tgt := 29) dX3_hasEdgeOf_14 (by decide) (fun c2 => ?_) (fun c2 => ?_)
    · refine V_iinc (i := 3) dX3_hasEdgeOf_29 rfl (by decide) (r1 c1 c2) ?_
      refine V_goto (tgt := 2) dX3_hasEdgeOf_32 (by decide) ?_
      exact (k1 c1 c2)
    · refine V_aload_n (i := 0) dX3_hasEdgeOf_17 rfl rfl ?_
      refine V_iload_n (i := 3) dX3_hasEdgeOf_18 rfl rfl ?_
      refine V_iconst dX3_hasEdgeOf_19 ⟨by decide, by decide⟩ ?_
      refine V_iload_n (i := 2) dX3_hasEdgeOf_20 rfl rfl ?_
      exact V_callV (M := MX3_hasEdgeOf) (d := (d + 1)) (mc' := 0) (ms' := 0) (mc := 0) (ms := 0) (As := [.inl i3, .inl 0, .inl i2]) (rest := []) dX3_hasEdgeOf_21 tX3_isEdge vX3_isEdge lX3_73 s1 ⟨by decide, rfl⟩ rfl rfl (Nat.le_of_ble_eq_true rfl) (show d + 1 ≤ (d + 1) by omega) (e1 c1 c2)
theorem bX3_hasEdgeOf_24 {d : Nat} {Q : Option jA → jH → Prop} (a0 : Nat) (i1 : Int) (i2 : Int) (i3 : Int) (p0 : Int) (h : jH)
    (r1 : (p0 = 0) → jR (i3 + 1))
    (k1 : (p0 = 0) → V MX3_hasEdgeOf (d + 1) 2 [some (.inr a0), some (.inl i1), some (.inl i2), some (.inl (i3 + 1))] [] h 0 0 Q)
    (q1 : (¬ (p0 = 0)) → Q (some (.inl 1)) h) :
    V MX3_hasEdgeOf (d + 1) 24 [some (.inr a0), some (.inl i1), some (.inl i2), some (.inl i3)] [.inl p0] h 0 0 Q := by
  refine V_if_eq (tgt := 29) dX3_hasEdgeOf_24 (by decide) (fun c1 => ?_) (fun c1 => ?_)
  · refine V_iinc (i := 3) dX3_hasEdgeOf_29 rfl (by decide) (r1 c1) ?_
    refine V_goto (tgt := 2) dX3_hasEdgeOf_32 (by decide) ?_
    exact (k1 c1)
  · refine V_iconst dX3_hasEdgeOf_27 ⟨by decide, by decide⟩ ?_
    exact V_retz rfl dX3_hasEdgeOf_28 (by decide) (q1 c1)
theorem dX3_hasEdgeAt_0 : decode cX3_hasEdgeAt 0 = .ok (.iconst 0, 1) := by decide +kernel
theorem dX3_hasEdgeAt_1 : decode cX3_hasEdgeAt 1 = .ok (.istore_n 3, 1) := by decide +kernel
theorem dX3_hasEdgeAt_2 : decode cX3_hasEdgeAt 2 = .ok (.iload_n 3, 1) := by decide +kernel
theorem dX3_hasEdgeAt_3 : decode cX3_hasEdgeAt 3 = .ok (.aload_n 0, 1) := by decide +kernel
theorem dX3_hasEdgeAt_4 : decode cX3_hasEdgeAt 4 = .ok (.getfield 29, 3) := by decide +kernel
theorem dX3_hasEdgeAt_7 : decode cX3_hasEdgeAt 7 = .ok (.if_icmp .ge 27, 3) := by decide +kernel
theorem dX3_hasEdgeAt_10 : decode cX3_hasEdgeAt 10 = .ok (.aload_n 0, 1) := by decide +kernel
theorem dX3_hasEdgeAt_11 : decode cX3_hasEdgeAt 11 = .ok (.getfield 9, 3) := by decide +kernel
theorem dX3_hasEdgeAt_14 : decode cX3_hasEdgeAt 14 = .ok (.iload_n 3, 1) := by decide +kernel
theorem dX3_hasEdgeAt_15 : decode cX3_hasEdgeAt 15 = .ok (.iaload, 1) := by decide +kernel
theorem dX3_hasEdgeAt_16 : decode cX3_hasEdgeAt 16 = .ok (.iload_n 2, 1) := by decide +kernel
theorem dX3_hasEdgeAt_17 : decode cX3_hasEdgeAt 17 = .ok (.if_icmp .ne 11, 3) := by decide +kernel
theorem dX3_hasEdgeAt_20 : decode cX3_hasEdgeAt 20 = .ok (.aload_n 0, 1) := by decide +kernel
theorem dX3_hasEdgeAt_21 : decode cX3_hasEdgeAt 21 = .ok (.iload_n 1, 1) := by decide +kernel
theorem dX3_hasEdgeAt_22 : decode cX3_hasEdgeAt 22 = .ok (.iconst 0, 1) := by decide +kernel
theorem dX3_hasEdgeAt_23 : decode cX3_hasEdgeAt 23 = .ok (.iload_n 3, 1) := by decide +kernel
theorem dX3_hasEdgeAt_24 : decode cX3_hasEdgeAt 24 = .ok (.invokevirtual 73, 3) := by decide +kernel
theorem dX3_hasEdgeAt_27 : decode cX3_hasEdgeAt 27 = .ok (.ireturn, 1) := by decide +kernel
theorem dX3_hasEdgeAt_28 : decode cX3_hasEdgeAt 28 = .ok (.iinc 3 1, 3) := by decide +kernel
theorem dX3_hasEdgeAt_31 : decode cX3_hasEdgeAt 31 = .ok (.goto (-29), 3) := by decide +kernel
theorem dX3_hasEdgeAt_34 : decode cX3_hasEdgeAt 34 = .ok (.iconst 0, 1) := by decide +kernel
theorem dX3_hasEdgeAt_35 : decode cX3_hasEdgeAt 35 = .ok (.ireturn, 1) := by decide +kernel
theorem bX3_hasEdgeAt_0 {d : Nat} {Q : Option jA → jH → Prop} (a0 : Nat) (i1 : Int) (i2 : Int) (u3 : Option jA) (h : jH)
    (k1 : V MX3_hasEdgeAt (d + 1) 2 [some (.inr a0), some (.inl i1), some (.inl i2), some (.inl 0)] [] h 0 0 Q) :
    V MX3_hasEdgeAt (d + 1) 0 [some (.inr a0), some (.inl i1), some (.inl i2), u3] [] h 0 0 Q := by
  refine V_iconst dX3_hasEdgeAt_0 ⟨by decide, by decide⟩ ?_
  refine V_istore_n (i := 3) dX3_hasEdgeAt_1 rfl (by decide) ?_
  exact k1
theorem bX3_hasEdgeAt_2 {d : Nat} {Q : Option jA → jH → Prop} (a0 : Nat) (i1 : Int) (i2 : Int) (i3 : Int) (h : jH)
    (s1 : (jS h a0).1 = 3)
    (q1 : ((jI h a0 0) ≤ i3) → Q (some (.inl 0)) h)
    (s2 : (jS h (jP h a0 2)).1 = 16)
    (s3 : (¬ ((jI h a0 0) ≤ i3)) → 0 ≤ i3)
    (s4 : (¬ ((jI h a0 0) ≤ i3)) → i3 < ((jS h (jP h a0 2)).2 : Int))
    (r1 : (¬ ((jI h a0 0) ≤ i3)) → ((jX h (jP h a0 2) ((i3).toNat)) ≠ i2) → jR (i3 + 1))
    (k1 : (¬ ((jI h a0 0) ≤ i3)) → ((jX h (jP h a0 2) ((i3).toNat)) ≠ i2) → V MX3_hasEdgeAt (d + 1) 2 [some (.inr a0), some (.inl i1), some (.inl i2), some (.inl (i3 + 1))] [] h 0 0 Q)
    (e1 : (¬ ((jI h a0 0) ≤ i3)) → ((jX h (jP h a0 2) ((i3).toNat)) = i2) → Ex MX3_isEdge d [.inr a0, .inl i1, .inl 0, .inl i3] h 0 0 (fun v h2 => V MX3_hasEdgeAt (d + 1) 27 [some (.inr a0), some (.inl i1), some (.inl i2), some (.inl i3)] (v.toList ++ []) h2 0 0 Q)) :
    V MX3_hasEdgeAt (d + 1) 2 [some (.inr a0), some (.inl i1), some (.inl i2), some (.inl i3)] [] h 0 0 Q := by
  refine V_iload_n (i := 3) dX3_hasEdgeAt_2 rfl rfl ?_
  refine V_aload_n (i := 0) dX3_hasEdgeAt_3 rfl rfl ?_
  refine V_getI dX3_hasEdgeAt_4 fX3_29 rfl s1 ?_
  refine V_icmp_ge (tgt := 34) dX3_hasEdgeAt_7 (by decide) (fun c1 => ?_) (fun c1 => ?_)
  · refine V_iconst dX3_hasEdgeAt_34 ⟨by decide, by decide⟩ ?_
    exact V_retz rfl dX3_hasEdgeAt_35 (by decide) (q1 c1)
  · refine V_aload_n (i := 0) dX3_hasEdgeAt_10 rfl rfl ?_
    refine V_getP dX3_hasEdgeAt_11 fX3_9 rfl s1 ?_
    refine V_iload_n (i := 3) dX3_hasEdgeAt_14 rfl rfl ?_
    refine V_iald dX3_hasEdgeAt_15 s2 (s3 c1) (s4 c1) ?_
    refine V_iload_n (i := 2) dX3_hasEdgeAt_16 rfl rfl ?_
    refine V_icmp_ne (tgt := 28) dX3_hasEdgeAt_17 (by decide) (fun c2 => ?_) (fun c2 => ?_)
    · refine V_iinc (i := 3) dX3_hasEdgeAt_28 rfl (by decide) (r1 c1 c2) ?_
      refine V_goto (tgt := 2) dX3_hasEdgeAt_31 (by decide) ?_
      exact (k1 c1 c2)
    · refine V_aload_n (i := 0) dX3_hasEdgeAt_20 rfl rfl ?_
      refine V_iload_n (i := 1) dX3_hasEdgeAt_21 rfl rfl ?_
      refine V_iconst dX3_hasEdgeAt_22 ⟨by decide, by decide⟩ ?_
      refine V_iload_n (i := 3) dX3_hasEdgeAt_23 rfl rfl ?_
      exact V_callV (M := MX3_hasEdgeAt) (d := (d + 1)) (mc' := 0) (ms' := 0) (mc := 0) (ms := 0) (As := [.inl i1, .inl 0, .inl i3]) (rest := []) dX3_hasEdgeAt_24 tX3_isEdge vX3_isEdge lX3_73 s1 ⟨by decide, rfl⟩ rfl rfl (Nat.le_of_ble_eq_true rfl) (show d + 1 ≤ (d + 1) by omega) (e1 c1 c2)
theorem bX3_hasEdgeAt_27 {d : Nat} {Q : Option jA → jH → Prop} (a0 : Nat) (i1 : Int) (i2 : Int) (i3 : Int) (p0 : Int) (h : jH)
    (q1 : Q (some (.inl p0)) h)
    (z1 : p0 = 0 ∨ p0 = 1) :
    V MX3_hasEdgeAt (d + 1) 27 [some (.inr a0), some (.inl i1), some (.inl i2), some (.inl i3)] [.inl p0] h 0 0 Q := by
  exact V_retz rfl dX3_hasEdgeAt_27 z1 q1
theorem dX3_follows_0 : decode cX3_follows 0 = .ok (.iconst 0, 1) := by decide +kernel
theorem dX3_follows_1 : decode cX3_follows 1 = .ok (.istore 4, 2) := by decide +kernel
theorem dX3_follows_3 : decode cX3_follows 3 = .ok (.iconst 0, 1) := by decide +kernel
theorem dX3_follows_4 : decode cX3_follows 4 = .ok (.istore 5, 2) := by decide +kernel
theorem dX3_follows_6 : decode cX3_follows 6 = .ok (.iload 5, 2) := by decide +kernel
theorem dX3_follows_8 : decode cX3_follows 8 = .ok (.aload_n 0, 1) := by decide +kernel
theorem dX3_follows_9 : decode cX3_follows 9 = .ok (.getfield 29, 3) := by decide +kernel
theorem dX3_follows_12 : decode cX3_follows 12 = .ok (.if_icmp .ge 58, 3) := by decide +kernel
theorem dX3_follows_15 : decode cX3_follows 15 = .ok (.aload_n 0, 1) := by decide +kernel
theorem dX3_follows_16 : decode cX3_follows 16 = .ok (.getfield 9, 3) := by decide +kernel
theorem dX3_follows_19 : decode cX3_follows 19 = .ok (.iload 5, 2) := by decide +kernel
theorem dX3_follows_21 : decode cX3_follows 21 = .ok (.iaload, 1) := by decide +kernel
theorem dX3_follows_22 : decode cX3_follows 22 = .ok (.iload_n 3, 1) := by decide +kernel
theorem dX3_follows_23 : decode cX3_follows 23 = .ok (.iadd, 1) := by decide +kernel
theorem dX3_follows_24 : decode cX3_follows 24 = .ok (.aload_n 0, 1) := by decide +kernel
theorem dX3_follows_25 : decode cX3_follows 25 = .ok (.getfield 26, 3) := by decide +kernel
theorem dX3_follows_28 : decode cX3_follows 28 = .ok (.if_icmp .gt 36, 3) := by decide +kernel
theorem dX3_follows_31 : decode cX3_follows 31 = .ok (.aload_n 0, 1) := by decide +kernel
theorem dX3_follows_32 : decode cX3_follows 32 = .ok (.iload_n 1, 1) := by decide +kernel
theorem dX3_follows_33 : decode cX3_follows 33 = .ok (.iconst 0, 1) := by decide +kernel
theorem dX3_follows_34 : decode cX3_follows 34 = .ok (.iload 5, 2) := by decide +kernel
theorem dX3_follows_36 : decode cX3_follows 36 = .ok (.invokevirtual 73, 3) := by decide +kernel
theorem dX3_follows_39 : decode cX3_follows 39 = .ok (.ifCond .eq 25, 3) := by decide +kernel
theorem dX3_follows_42 : decode cX3_follows 42 = .ok (.aload_n 0, 1) := by decide +kernel
theorem dX3_follows_43 : decode cX3_follows 43 = .ok (.iload_n 2, 1) := by decide +kernel
theorem dX3_follows_44 : decode cX3_follows 44 = .ok (.aload_n 0, 1) := by decide +kernel
theorem dX3_follows_45 : decode cX3_follows 45 = .ok (.getfield 9, 3) := by decide +kernel
theorem dX3_follows_48 : decode cX3_follows 48 = .ok (.iload 5, 2) := by decide +kernel
theorem dX3_follows_50 : decode cX3_follows 50 = .ok (.iaload, 1) := by decide +kernel
theorem dX3_follows_51 : decode cX3_follows 51 = .ok (.iload_n 3, 1) := by decide +kernel
theorem dX3_follows_52 : decode cX3_follows 52 = .ok (.iadd, 1) := by decide +kernel
theorem dX3_follows_53 : decode cX3_follows 53 = .ok (.invokevirtual 77, 3) := by decide +kernel
theorem dX3_follows_56 : decode cX3_follows 56 = .ok (.ifCond .ne 5, 3) := by decide +kernel
theorem dX3_follows_59 : decode cX3_follows 59 = .ok (.iconst 0, 1) := by decide +kernel
theorem dX3_follows_60 : decode cX3_follows 60 = .ok (.ireturn, 1) := by decide +kernel
theorem dX3_follows_61 : decode cX3_follows 61 = .ok (.iconst 1, 1) := by decide +kernel
theorem dX3_follows_62 : decode cX3_follows 62 = .ok (.istore 4, 2) := by decide +kernel
theorem dX3_follows_64 : decode cX3_follows 64 = .ok (.iinc 5 1, 3) := by decide +kernel
theorem dX3_follows_67 : decode cX3_follows 67 = .ok (.goto (-61), 3) := by decide +kernel
theorem dX3_follows_70 : decode cX3_follows 70 = .ok (.iload 4, 2) := by decide +kernel
theorem dX3_follows_72 : decode cX3_follows 72 = .ok (.ireturn, 1) := by decide +kernel
theorem bX3_follows_0 {d : Nat} {Q : Option jA → jH → Prop} (a0 : Nat) (i1 : Int) (i2 : Int) (i3 : Int) (u4 : Option jA) (u5 : Option jA) (h : jH)
    (k1 : V MX3_follows (d + 2) 6 [some (.inr a0), some (.inl i1), some (.inl i2), some (.inl i3), some (.inl 0), some (.inl 0)] [] h 0 0 Q) :
    V MX3_follows (d + 2) 0 [some (.inr a0), some (.inl i1), some (.inl i2), some (.inl i3), u4, u5] [] h 0 0 Q := by
  refine V_iconst dX3_follows_0 ⟨by decide, by decide⟩ ?_
  refine V_istore (i := 4) dX3_follows_1 (by decide) ?_
  refine V_iconst dX3_follows_3 ⟨by decide, by decide⟩ ?_
  refine V_istore (i := 5) dX3_follows_4 (by decide) ?_
  exact k1
theorem bX3_follows_6 {d : Nat} {Q : Option jA → jH → Prop} (a0 : Nat) (i1 : Int) (i2 : Int) (i3 : Int) (i4 : Int) (i5 : Int) (h : jH)
    (s1 : (jS h a0).1 = 3)
    (q1 : ((jI h a0 0) ≤ i5) → Q (some (.inl i4)) h)
    (z1 : ((jI h a0 0) ≤ i5) → i4 = 0 ∨ i4 = 1)
    (s2 : (jS h (jP h a0 2)).1 = 16)
    (s3 : (¬ ((jI h a0 0) ≤ i5)) → 0 ≤ i5)
    (s4 : (¬ ((jI h a0 0) ≤ i5)) → i5 < ((jS h (jP h a0 2)).2 : Int))
    (r1 : (¬ ((jI h a0 0) ≤ i5)) → jR ((jX h (jP h a0 2) ((i5).toNat)) + i3))
    (r2 : (¬ ((jI h a0 0) ≤ i5)) → ((jI h a0 1) < ((jX h (jP h a0 2) ((i5).toNat)) + i3)) → jR (i5 + 1))
    (k1 : (¬ ((jI h a0 0) ≤ i5)) → ((jI h a0 1) < ((jX h (jP h a0 2) ((i5).toNat)) + i3)) → V MX3_follows (d + 2) 6 [some (.inr a0), some (.inl i1), some (.inl i2), some (.inl i3), some (.inl i4), some (.inl (i5 + 1))] [] h 0 0 Q)
    (e1 : (¬ ((jI h a0 0) ≤ i5)) → (¬ ((jI h a0 1) < ((jX h (jP h a0 2) ((i5).toNat)) + i3))) → Ex MX3_isEdge d [.inr a0, .inl i1, .inl 0, .inl i5] h 0 0 (fun v h2 => V MX3_follows (d + 2) 39 [some (.inr a0), some (.inl i1), some (.inl i2), some (.inl i3), some (.inl i4), some (.inl i5)] (v.toList ++ []) h2 0 0 Q)) :
    V MX3_follows (d + 2) 6 [some (.inr a0), some (.inl i1), some (.inl i2), some (.inl i3), some (.inl i4), some (.inl i5)] [] h 0 0 Q := by
  refine V_iload (i := 5) dX3_follows_6 rfl ?_
  refine V_aload_n (i := 0) dX3_follows_8 rfl rfl ?_
  refine V_getI dX3_follows_9 fX3_29 rfl s1 ?_
  refine V_icmp_ge (tgt := 70) dX3_follows_12 (by decide) (fun c1 => ?_) (fun c1 => ?_)
  · refine V_iload (i := 4) dX3_follows_70 rfl ?_
    exact V_retz rfl dX3_follows_72 (z1 c1) (q1 c1)
  · refine V_aload_n (i := 0) dX3_follows_15 rfl rfl ?_
    refine V_getP dX3_follows_16 fX3_9 rfl s1 ?_
    refine V_iload (i := 5) dX3_follows_19 rfl ?_
    refine V_iald dX3_follows_21 s2 (s3 c1) (s4 c1) ?_
    refine V_iload_n (i := 3) dX3_follows_22 rfl rfl ?_
    refine V_iadd dX3_follows_23 (r1 c1) ?_
    refine V_aload_n (i := 0) dX3_follows_24 rfl rfl ?_
    refine V_getI dX3_follows_25 fX3_26 rfl s1 ?_
    refine V_icmp_gt (tgt := 64) dX3_follows_28 (by decide) (fun c2 => ?_) (fun c2 => ?_)
    · refine V_iinc (i := 5) dX3_follows_64 rfl (by decide) (r2 c1 c2) ?_
      refine V_goto (tgt := 6) dX3_follows_67 (by decide) ?_
      exact (k1 c1 c2)
    · refine V_aload_n (i := 0) dX3_follows_31 rfl rfl ?_
      refine V_iload_n (i := 1) dX3_follows_32 rfl rfl ?_
      refine V_iconst dX3_follows_33 ⟨by decide, by decide⟩ ?_
      refine V_iload (i := 5) dX3_follows_34 rfl ?_
      exact V_callV (M := MX3_follows) (d := (d + 2)) (mc' := 0) (ms' := 0) (mc := 0) (ms := 0) (As := [.inl i1, .inl 0, .inl i5]) (rest := []) dX3_follows_36 tX3_isEdge vX3_isEdge lX3_73 s1 ⟨by decide, rfl⟩ rfl rfl (Nat.le_of_ble_eq_true rfl) (show d + 1 ≤ (d + 2) by omega) (e1 c1 c2)
theorem bX3_follows_39 {d : Nat} {Q : Option jA → jH → Prop} (a0 : Nat) (i1 : Int) (i2 : Int) (i3 : Int) (i4 : Int) (i5 : Int) (p0 : Int) (h : jH)
    (r1 : (p0 = 0) → jR (i5 + 1))
    (k1 : (p0 = 0) → V MX3_follows (d + 2) 6 [some (.inr a0), some (.inl i1), some (.inl i2), some (.inl i3), some (.inl i4), some (.inl (i5 + 1))] [] h 0 0 Q)
    (s1 : (jS h a0).1 = 3)
    (s2 : (jS h (jP h a0 2)).1 = 16)
    (s3 : (¬ (p0 = 0)) → 0 ≤ i5)
    (s4 : (¬ (p0 = 0)) → i5 < ((jS h (jP h a0 2)).2 : Int))
    (r2 : (¬ (p0 = 0)) → jR ((jX h (jP h a0 2) ((i5).toNat)) + i3))
    (e1 : (¬ (p0 = 0)) → Ex MX3_hasEdgeAt (d + 1) [.inr a0, .inl i2, .inl ((jX h (jP h a0 2) ((i5).toNat)) + i3)] h 0 0 (fun v h2 => V MX3_follows (d + 2) 56 [some (.inr a0), some (.inl i1), some (.inl i2), some (.inl i3), some (.inl i4), some (.inl i5)] (v.toList ++ []) h2 0 0 Q)) :
    V MX3_follows (d + 2) 39 [some (.inr a0), some (.inl i1), some (.inl i2), some (.inl i3), some (.inl i4), some (.inl i5)] [.inl p0] h 0 0 Q := by
  refine V_if_eq (tgt := 64) dX3_follows_39 (by decide) (fun c1 => ?_) (fun c1 => ?_)
  · refine V_iinc (i := 5) dX3_follows_64 rfl (by decide) (r1 c1) ?_
    refine V_goto (tgt := 6) dX3_follows_67 (by decide) ?_
    exact (k1 c1)
  · refine V_aload_n (i := 0) dX3_follows_42 rfl rfl ?_
    refine V_iload_n (i := 2) dX3_follows_43 rfl rfl ?_
    refine V_aload_n (i := 0) dX3_follows_44 rfl rfl ?_
    refine V_getP dX3_follows_45 fX3_9 rfl s1 ?_
    refine V_iload (i := 5) dX3_follows_48 rfl ?_
    refine V_iald dX3_follows_50 s2 (s3 c1) (s4 c1) ?_
    refine V_iload_n (i := 3) dX3_follows_51 rfl rfl ?_
    refine V_iadd dX3_follows_52 (r2 c1) ?_
    exact V_callV (M := MX3_follows) (d := (d + 2)) (mc' := 0) (ms' := 0) (mc := 0) (ms := 0) (As := [.inl i2, .inl ((jX h (jP h a0 2) ((i5).toNat)) + i3)]) (rest := []) dX3_follows_53 tX3_hasEdgeAt vX3_hasEdgeAt lX3_77 s1 ⟨by decide, rfl⟩ rfl rfl (Nat.le_of_ble_eq_true rfl) (show (d + 1) + 1 ≤ (d + 2) by omega) (e1 c1)
theorem bX3_follows_56 {d : Nat} {Q : Option jA → jH → Prop} (a0 : Nat) (i1 : Int) (i2 : Int) (i3 : Int) (i4 : Int) (i5 : Int) (p0 : Int) (h : jH)
    (r1 : (p0 ≠ 0) → jR (i5 + 1))
    (k1 : (p0 ≠ 0) → V MX3_follows (d + 2) 6 [some (.inr a0), some (.inl i1), some (.inl i2), some (.inl i3), some (.inl 1), some (.inl (i5 + 1))] [] h 0 0 Q)
    (q1 : (p0 = 0) → Q (some (.inl 0)) h) :
    V MX3_follows (d + 2) 56 [some (.inr a0), some (.inl i1), some (.inl i2), some (.inl i3), some (.inl i4), some (.inl i5)] [.inl p0] h 0 0 Q := by
  refine V_if_ne (tgt := 61) dX3_follows_56 (by decide) (fun c1 => ?_) (fun c1 => ?_)
  · refine V_iconst dX3_follows_61 ⟨by decide, by decide⟩ ?_
    refine V_istore (i := 4) dX3_follows_62 (by decide) ?_
    refine V_iinc (i := 5) dX3_follows_64 rfl (by decide) (r1 c1) ?_
    refine V_goto (tgt := 6) dX3_follows_67 (by decide) ?_
    exact (k1 c1)
  · refine V_iconst dX3_follows_59 ⟨by decide, by decide⟩ ?_
    exact V_retz rfl dX3_follows_60 (by decide) (q1 c1)
theorem dX3_greatestGroup_0 : decode cX3_greatestGroup 0 = .ok (.iconst 0, 1) := by decide +kernel
theorem dX3_greatestGroup_1 : decode cX3_greatestGroup 1 = .ok (.istore_n 3, 1) := by decide +kernel
theorem dX3_greatestGroup_2 : decode cX3_greatestGroup 2 = .ok (.iconst 0, 1) := by decide +kernel
theorem dX3_greatestGroup_3 : decode cX3_greatestGroup 3 = .ok (.istore 4, 2) := by decide +kernel
theorem dX3_greatestGroup_5 : decode cX3_greatestGroup 5 = .ok (.iload 4, 2) := by decide +kernel
theorem dX3_greatestGroup_7 : decode cX3_greatestGroup 7 = .ok (.bipush 12, 2) := by decide +kernel
theorem dX3_greatestGroup_9 : decode cX3_greatestGroup 9 = .ok (.if_icmp .ge 91, 3) := by decide +kernel
theorem dX3_greatestGroup_12 : decode cX3_greatestGroup 12 = .ok (.iconst 0, 1) := by decide +kernel
theorem dX3_greatestGroup_13 : decode cX3_greatestGroup 13 = .ok (.istore 5, 2) := by decide +kernel
theorem dX3_greatestGroup_15 : decode cX3_greatestGroup 15 = .ok (.iconst 0, 1) := by decide +kernel
theorem dX3_greatestGroup_16 : decode cX3_greatestGroup 16 = .ok (.istore 6, 2) := by decide +kernel
theorem dX3_greatestGroup_18 : decode cX3_greatestGroup 18 = .ok (.iload 6, 2) := by decide +kernel
theorem dX3_greatestGroup_20 : decode cX3_greatestGroup 20 = .ok (.bipush 12, 2) := by decide +kernel
theorem dX3_greatestGroup_22 : decode cX3_greatestGroup 22 = .ok (.if_icmp .ge 65, 3) := by decide +kernel
theorem dX3_greatestGroup_25 : decode cX3_greatestGroup 25 = .ok (.iload_n 1, 1) := by decide +kernel
theorem dX3_greatestGroup_26 : decode cX3_greatestGroup 26 = .ok (.iload 4, 2) := by decide +kernel
theorem dX3_greatestGroup_28 : decode cX3_greatestGroup 28 = .ok (.ishr, 1) := by decide +kernel
theorem dX3_greatestGroup_29 : decode cX3_greatestGroup 29 = .ok (.iconst 1, 1) := by decide +kernel
theorem dX3_greatestGroup_30 : decode cX3_greatestGroup 30 = .ok (.iand, 1) := by decide +kernel
theorem dX3_greatestGroup_31 : decode cX3_greatestGroup 31 = .ok (.iconst 1, 1) := by decide +kernel
theorem dX3_greatestGroup_32 : decode cX3_greatestGroup 32 = .ok (.if_icmp .ne 17, 3) := by decide +kernel
theorem dX3_greatestGroup_35 : decode cX3_greatestGroup 35 = .ok (.iload_n 1, 1) := by decide +kernel
theorem dX3_greatestGroup_36 : decode cX3_greatestGroup 36 = .ok (.iload 6, 2) := by decide +kernel
theorem dX3_greatestGroup_38 : decode cX3_greatestGroup 38 = .ok (.ishr, 1) := by decide +kernel
theorem dX3_greatestGroup_39 : decode cX3_greatestGroup 39 = .ok (.iconst 1, 1) := by decide +kernel
theorem dX3_greatestGroup_40 : decode cX3_greatestGroup 40 = .ok (.iand, 1) := by decide +kernel
theorem dX3_greatestGroup_41 : decode cX3_greatestGroup 41 = .ok (.iconst 1, 1) := by decide +kernel
theorem dX3_greatestGroup_42 : decode cX3_greatestGroup 42 = .ok (.if_icmp .ne 7, 3) := by decide +kernel
theorem dX3_greatestGroup_45 : decode cX3_greatestGroup 45 = .ok (.iconst 1, 1) := by decide +kernel
theorem dX3_greatestGroup_46 : decode cX3_greatestGroup 46 = .ok (.goto 4, 3) := by decide +kernel
theorem dX3_greatestGroup_49 : decode cX3_greatestGroup 49 = .ok (.iconst 0, 1) := by decide +kernel
theorem dX3_greatestGroup_50 : decode cX3_greatestGroup 50 = .ok (.istore 7, 2) := by decide +kernel
theorem dX3_greatestGroup_52 : decode cX3_greatestGroup 52 = .ok (.iload 7, 2) := by decide +kernel
theorem dX3_greatestGroup_54 : decode cX3_greatestGroup 54 = .ok (.ifCond .eq 27, 3) := by decide +kernel
theorem dX3_greatestGroup_57 : decode cX3_greatestGroup 57 = .ok (.aload_n 0, 1) := by decide +kernel
theorem dX3_greatestGroup_58 : decode cX3_greatestGroup 58 = .ok (.getfield 17, 3) := by decide +kernel
theorem dX3_greatestGroup_61 : decode cX3_greatestGroup 61 = .ok (.iload_n 2, 1) := by decide +kernel
theorem dX3_greatestGroup_62 : decode cX3_greatestGroup 62 = .ok (.aaload, 1) := by decide +kernel
theorem dX3_greatestGroup_63 : decode cX3_greatestGroup 63 = .ok (.iload 4, 2) := by decide +kernel
theorem dX3_greatestGroup_65 : decode cX3_greatestGroup 65 = .ok (.iaload, 1) := by decide +kernel
theorem dX3_greatestGroup_66 : decode cX3_greatestGroup 66 = .ok (.aload_n 0, 1) := by decide +kernel
theorem dX3_greatestGroup_67 : decode cX3_greatestGroup 67 = .ok (.getfield 17, 3) := by decide +kernel
theorem dX3_greatestGroup_70 : decode cX3_greatestGroup 70 = .ok (.iload_n 2, 1) := by decide +kernel
theorem dX3_greatestGroup_71 : decode cX3_greatestGroup 71 = .ok (.aaload, 1) := by decide +kernel
theorem dX3_greatestGroup_72 : decode cX3_greatestGroup 72 = .ok (.iload 6, 2) := by decide +kernel
theorem dX3_greatestGroup_74 : decode cX3_greatestGroup 74 = .ok (.iaload, 1) := by decide +kernel
theorem dX3_greatestGroup_75 : decode cX3_greatestGroup 75 = .ok (.if_icmp .ne 6, 3) := by decide +kernel
theorem dX3_greatestGroup_78 : decode cX3_greatestGroup 78 = .ok (.iinc 5 1, 3) := by decide +kernel
theorem dX3_greatestGroup_81 : decode cX3_greatestGroup 81 = .ok (.iinc 6 1, 3) := by decide +kernel
theorem dX3_greatestGroup_84 : decode cX3_greatestGroup 84 = .ok (.goto (-66), 3) := by decide +kernel
theorem dX3_greatestGroup_87 : decode cX3_greatestGroup 87 = .ok (.iload_n 3, 1) := by decide +kernel
theorem dX3_greatestGroup_88 : decode cX3_greatestGroup 88 = .ok (.iload 5, 2) := by decide +kernel
theorem dX3_greatestGroup_90 : decode cX3_greatestGroup 90 = .ok (.invokestatic 81, 3) := by decide +kernel
theorem dX3_greatestGroup_93 : decode cX3_greatestGroup 93 = .ok (.istore_n 3, 1) := by decide +kernel
theorem dX3_greatestGroup_94 : decode cX3_greatestGroup 94 = .ok (.iinc 4 1, 3) := by decide +kernel
theorem dX3_greatestGroup_97 : decode cX3_greatestGroup 97 = .ok (.goto (-92), 3) := by decide +kernel
theorem dX3_greatestGroup_100 : decode cX3_greatestGroup 100 = .ok (.iload_n 3, 1) := by decide +kernel
theorem dX3_greatestGroup_101 : decode cX3_greatestGroup 101 = .ok (.ireturn, 1) := by decide +kernel
theorem bX3_greatestGroup_0 {d : Nat} {Q : Option jA → jH → Prop} (a0 : Nat) (i1 : Int) (i2 : Int) (u3 : Option jA) (u4 : Option jA) (u5 : Option jA) (u6 : Option jA) (u7 : Option jA) (h : jH)
    (k1 : V MX3_greatestGroup d 5 [some (.inr a0), some (.inl i1), some (.inl i2), some (.inl 0), some (.inl 0), u5, u6, u7] [] h 0 0 Q) :
    V MX3_greatestGroup d 0 [some (.inr a0), some (.inl i1), some (.inl i2), u3, u4, u5, u6, u7] [] h 0 0 Q := by
  refine V_iconst dX3_greatestGroup_0 ⟨by decide, by decide⟩ ?_
  refine V_istore_n (i := 3) dX3_greatestGroup_1 rfl (by decide) ?_
  refine V_iconst dX3_greatestGroup_2 ⟨by decide, by decide⟩ ?_
  refine V_istore (i := 4) dX3_greatestGroup_3 (by decide) ?_
  exact k1
theorem bX3_greatestGroup_5 {d : Nat} {Q : Option jA → jH → Prop} (a0 : Nat) (i1 : Int) (i2 : Int) (i3 : Int) (i4 : Int) (u5 : Option jA) (u6 : Option jA) (u7 : Option jA) (h : jH)
    (q1 : (12 ≤ i4) → Q (some (.inl i3)) h)
    (k1 : (¬ (12 ≤ i4)) → V MX3_greatestGroup d 18 [some (.inr a0), some (.inl i1), some (.inl i2), some (.inl i3), some (.inl i4), some (.inl 0), some (.inl 0), u7] [] h 0 0 Q) :
    V MX3_greatestGroup d 5 [some (.inr a0), some (.inl i1), some (.inl i2), some (.inl i3), some (.inl i4), u5, u6, u7] [] h 0 0 Q := by
  refine V_iload (i := 4) dX3_greatestGroup_5 rfl ?_
  refine V_bipush dX3_greatestGroup_7 (by decide +kernel) ⟨by decide, by decide⟩ ?_
  refine V_icmp_ge (tgt := 100) dX3_greatestGroup_9 (by decide) (fun c1 => ?_) (fun c1 => ?_)
  · refine V_iload_n (i := 3) dX3_greatestGroup_100 rfl rfl ?_
    exact V_reti rfl dX3_greatestGroup_101 (q1 c1)
  · refine V_iconst dX3_greatestGroup_12 ⟨by decide, by decide⟩ ?_
    refine V_istore (i := 5) dX3_greatestGroup_13 (by decide) ?_
    refine V_iconst dX3_greatestGroup_15 ⟨by decide, by decide⟩ ?_
    refine V_istore (i := 6) dX3_greatestGroup_16 (by decide) ?_
    exact (k1 c1)
theorem bX3_greatestGroup_18 {d : Nat} {Q : Option jA → jH → Prop} (a0 : Nat) (i1 : Int) (i2 : Int) (i3 : Int) (i4 : Int) (i5 : Int) (i6 : Int) (u7 : Option jA) (h : jH)
    (r1 : (12 ≤ i6) → jR (i4 + 1))
    (k1 : (12 ≤ i6) → V MX3_greatestGroup d 5 [some (.inr a0), some (.inl i1), some (.inl i2), some (.inl (max i3 i5)), some (.inl (i4 + 1)), some (.inl i5), some (.inl i6), u7] [] h 0 0 Q)
    (r2 : (¬ (12 ≤ i6)) → ((jand (jshr i1 i4) 1) ≠ 1) → jR (i6 + 1))
    (k2 : (¬ (12 ≤ i6)) → ((jand (jshr i1 i4) 1) ≠ 1) → V MX3_greatestGroup d 18 [some (.inr a0), some (.inl i1), some (.inl i2), some (.inl i3), some (.inl i4), some (.inl i5), some (.inl (i6 + 1)), some (.inl 0)] [] h 0 0 Q)
    (r3 : (¬ (12 ≤ i6)) → ((jand (jshr i1 i4) 1) = 1) → ((jand (jshr i1 i6) 1) ≠ 1) → jR (i6 + 1))
    (k3 : (¬ (12 ≤ i6)) → ((jand (jshr i1 i4) 1) = 1) → ((jand (jshr i1 i6) 1) ≠ 1) → V MX3_greatestGroup d 18 [some (.inr a0), some (.inl i1), some (.inl i2), some (.inl i3), some (.inl i4), some (.inl i5), some (.inl (i6 + 1)), some (.inl 0)] [] h 0 0 Q)
    (s1 : (jS h a0).1 = 3)
    (s2 : (jS h (jP h a0 3)).1 = 20)
    (s3 : (¬ (12 ≤ i6)) → ((jand (jshr i1 i4) 1) = 1) → ((jand (jshr i1 i6) 1) = 1) → 0 ≤ i2)
    (s4 : (¬ (12 ≤ i6)) → ((jand (jshr i1 i4) 1) = 1) → ((jand (jshr i1 i6) 1) = 1) → i2 < ((jS h (jP h a0 3)).2 : Int))
    (s5 : (¬ (12 ≤ i6)) → ((jand (jshr i1 i4) 1) = 1) → ((jand (jshr i1 i6) 1) = 1) → (jS h (jY h (jP h a0 3) ((i2).toNat))).1 = 16)
    (s6 : (¬ (12 ≤ i6)) → ((jand (jshr i1 i4) 1) = 1) → ((jand (jshr i1 i6) 1) = 1) → 0 ≤ i4)
    (s7 : (¬ (12 ≤ i6)) → ((jand (jshr i1 i4) 1) = 1) → ((jand (jshr i1 i6) 1) = 1) → i4 < ((jS h (jY h (jP h a0 3) ((i2).toNat))).2 : Int))
    (s8 : (¬ (12 ≤ i6)) → ((jand (jshr i1 i4) 1) = 1) → ((jand (jshr i1 i6) 1) = 1) → 0 ≤ i6)
    (s9 : (¬ (12 ≤ i6)) → ((jand (jshr i1 i4) 1) = 1) → ((jand (jshr i1 i6) 1) = 1) → i6 < ((jS h (jY h (jP h a0 3) ((i2).toNat))).2 : Int))
    (r4 : (¬ (12 ≤ i6)) → ((jand (jshr i1 i4) 1) = 1) → ((jand (jshr i1 i6) 1) = 1) → ((jX h (jY h (jP h a0 3) ((i2).toNat)) ((i4).toNat)) ≠ (jX h (jY h (jP h a0 3) ((i2).toNat)) ((i6).toNat))) → jR (i6 + 1))
    (k4 : (¬ (12 ≤ i6)) → ((jand (jshr i1 i4) 1) = 1) → ((jand (jshr i1 i6) 1) = 1) → ((jX h (jY h (jP h a0 3) ((i2).toNat)) ((i4).toNat)) ≠ (jX h (jY h (jP h a0 3) ((i2).toNat)) ((i6).toNat))) → V MX3_greatestGroup d 18 [some (.inr a0), some (.inl i1), some (.inl i2), some (.inl i3), some (.inl i4), some (.inl i5), some (.inl (i6 + 1)), some (.inl 1)] [] h 0 0 Q)
    (r5 : (¬ (12 ≤ i6)) → ((jand (jshr i1 i4) 1) = 1) → ((jand (jshr i1 i6) 1) = 1) → ((jX h (jY h (jP h a0 3) ((i2).toNat)) ((i4).toNat)) = (jX h (jY h (jP h a0 3) ((i2).toNat)) ((i6).toNat))) → jR (i5 + 1))
    (r6 : (¬ (12 ≤ i6)) → ((jand (jshr i1 i4) 1) = 1) → ((jand (jshr i1 i6) 1) = 1) → ((jX h (jY h (jP h a0 3) ((i2).toNat)) ((i4).toNat)) = (jX h (jY h (jP h a0 3) ((i2).toNat)) ((i6).toNat))) → jR (i6 + 1))
    (k5 : (¬ (12 ≤ i6)) → ((jand (jshr i1 i4) 1) = 1) → ((jand (jshr i1 i6) 1) = 1) → ((jX h (jY h (jP h a0 3) ((i2).toNat)) ((i4).toNat)) = (jX h (jY h (jP h a0 3) ((i2).toNat)) ((i6).toNat))) → V MX3_greatestGroup d 18 [some (.inr a0), some (.inl i1), some (.inl i2), some (.inl i3), some (.inl i4), some (.inl (i5 + 1)), some (.inl (i6 + 1)), some (.inl 1)] [] h 0 0 Q) :
    V MX3_greatestGroup d 18 [some (.inr a0), some (.inl i1), some (.inl i2), some (.inl i3), some (.inl i4), some (.inl i5), some (.inl i6), u7] [] h 0 0 Q := by
  refine V_iload (i := 6) dX3_greatestGroup_18 rfl ?_
  refine V_bipush dX3_greatestGroup_20 (by decide +kernel) ⟨by decide, by decide⟩ ?_
  refine V_icmp_ge (tgt := 87) dX3_greatestGroup_22 (by decide) (fun c1 => ?_) (fun c1 => ?_)
  · refine V_iload_n (i := 3) dX3_greatestGroup_87 rfl rfl ?_
    refine V_iload (i := 5) dX3_greatestGroup_88 rfl ?_
    refine V_mmax dX3_greatestGroup_90 lX3_81 (Nat.le_of_ble_eq_true rfl) ?_
    refine V_istore_n (i := 3) dX3_greatestGroup_93 rfl (by decide) ?_
    refine V_iinc (i := 4) dX3_greatestGroup_94 rfl (by decide) (r1 c1) ?_
    refine V_goto (tgt := 5) dX3_greatestGroup_97 (by decide) ?_
    exact (k1 c1)
  · refine V_iload_n (i := 1) dX3_greatestGroup_25 rfl rfl ?_
    refine V_iload (i := 4) dX3_greatestGroup_26 rfl ?_
    refine V_ishr dX3_greatestGroup_28 ?_
    refine V_iconst dX3_greatestGroup_29 ⟨by decide, by decide⟩ ?_
    refine V_iand dX3_greatestGroup_30 ?_
    refine V_iconst dX3_greatestGroup_31 ⟨by decide, by decide⟩ ?_
    refine V_icmp_ne (tgt := 49) dX3_greatestGroup_32 (by decide) (fun c2 => ?_) (fun c2 => ?_)
    · refine V_iconst dX3_greatestGroup_49 ⟨by decide, by decide⟩ ?_
      refine V_istore (i := 7) dX3_greatestGroup_50 (by decide) ?_
      refine V_iload (i := 7) dX3_greatestGroup_52 rfl ?_
      refine V_if_eq (tgt := 81) dX3_greatestGroup_54 (by decide) (fun c3 => ?_) (fun c3 => ?_)
      · refine V_iinc (i := 6) dX3_greatestGroup_81 rfl (by decide) (r2 c1 c2) ?_
        refine V_goto (tgt := 18) dX3_greatestGroup_84 (by decide) ?_
        exact (k2 c1 c2)
      · exact absurd c3 (by decide)
    · refine V_iload_n (i := 1) dX3_greatestGroup_35 rfl rfl ?_
      refine V_iload (i := 6) dX3_greatestGroup_36 rfl ?_
      refine V_ishr dX3_greatestGroup_38 ?_
      refine V_iconst dX3_greatestGroup_39 ⟨by decide, by decide⟩ ?_
      refine V_iand dX3_greatestGroup_40 ?_
      refine V_iconst dX3_greatestGroup_41 ⟨by decide, by decide⟩ ?_
      refine V_icmp_ne (tgt := 49) dX3_greatestGroup_42 (by decide) (fun c4 => ?_) (fun c4 => ?_)
      · refine V_iconst dX3_greatestGroup_49 ⟨by decide, by decide⟩ ?_
        refine V_istore (i := 7) dX3_greatestGroup_50 (by decide) ?_
        refine V_iload (i := 7) dX3_greatestGroup_52 rfl ?_
        refine V_if_eq (tgt := 81) dX3_greatestGroup_54 (by decide) (fun c5 => ?_) (fun c5 => ?_)
        · refine V_iinc (i := 6) dX3_greatestGroup_81 rfl (by decide) (r3 c1 c2 c4) ?_
          refine V_goto (tgt := 18) dX3_greatestGroup_84 (by decide) ?_
          exact (k3 c1 c2 c4)
        · exact absurd c5 (by decide)
      · refine V_iconst dX3_greatestGroup_45 ⟨by decide, by decide⟩ ?_
        refine V_goto (tgt := 50) dX3_greatestGroup_46 (by decide) ?_
        refine V_istore (i := 7) dX3_greatestGroup_50 (by decide) ?_
        refine V_iload (i := 7) dX3_greatestGroup_52 rfl ?_
        refine V_if_eq (tgt := 81) dX3_greatestGroup_54 (by decide) (fun c6 => ?_) (fun c6 => ?_)
        · exact absurd c6 (by decide)
        · refine V_aload_n (i := 0) dX3_greatestGroup_57 rfl rfl ?_
          refine V_getP dX3_greatestGroup_58 fX3_17 rfl s1 ?_
          refine V_iload_n (i := 2) dX3_greatestGroup_61 rfl rfl ?_
          refine V_aald20 dX3_greatestGroup_62 s2 (s3 c1 c2 c4) (s4 c1 c2 c4) ?_
          refine V_iload (i := 4) dX3_greatestGroup_63 rfl ?_
          refine V_iald dX3_greatestGroup_65 (s5 c1 c2 c4) (s6 c1 c2 c4) (s7 c1 c2 c4) ?_
          refine V_aload_n (i := 0) dX3_greatestGroup_66 rfl rfl ?_
          refine V_getP dX3_greatestGroup_67 fX3_17 rfl s1 ?_
          refine V_iload_n (i := 2) dX3_greatestGroup_70 rfl rfl ?_
          refine V_aald20 dX3_greatestGroup_71 s2 (s3 c1 c2 c4) (s4 c1 c2 c4) ?_
          refine V_iload (i := 6) dX3_greatestGroup_72 rfl ?_
          refine V_iald dX3_greatestGroup_74 (s5 c1 c2 c4) (s8 c1 c2 c4) (s9 c1 c2 c4) ?_
          refine V_icmp_ne (tgt := 81) dX3_greatestGroup_75 (by decide) (fun c7 => ?_) (fun c7 => ?_)
          · refine V_iinc (i := 6) dX3_greatestGroup_81 rfl (by decide) (r4 c1 c2 c4 c7) ?_
            refine V_goto (tgt := 18) dX3_greatestGroup_84 (by decide) ?_
            exact (k4 c1 c2 c4 c7)
          · refine V_iinc (i := 5) dX3_greatestGroup_78 rfl (by decide) (r5 c1 c2 c4 c7) ?_
            refine V_iinc (i := 6) dX3_greatestGroup_81 rfl (by decide) (r6 c1 c2 c4 c7) ?_
            refine V_goto (tgt := 18) dX3_greatestGroup_84 (by decide) ?_
            exact (k5 c1 c2 c4 c7)
