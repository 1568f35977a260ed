/-! ===== SignalWaves 1: decode rows and trees ===== -/
theorem dX8_type_0 : decode cX8_type 0 = .ok (.iload_n 1, 1) := by decide +kernel
theorem dX8_type_1 : decode cX8_type 1 = .ok (.ifCond .lt 10, 3) := by decide +kernel
theorem dX8_type_4 : decode cX8_type 4 = .ok (.iload_n 1, 1) := by decide +kernel
theorem dX8_type_5 : decode cX8_type 5 = .ok (.sipush 255, 3) := by decide +kernel
theorem dX8_type_8 : decode cX8_type 8 = .ok (.if_icmp .le 5, 3) := by decide +kernel
theorem dX8_type_11 : decode cX8_type 11 = .ok (.iconst (-1), 1) := by decide +kernel
theorem dX8_type_12 : decode cX8_type 12 = .ok (.ireturn, 1) := by decide +kernel
theorem dX8_type_13 : decode cX8_type 13 = .ok (.aload_n 0, 1) := by decide +kernel
theorem dX8_type_14 : decode cX8_type 14 = .ok (.getfield 12, 3) := by decide +kernel
theorem dX8_type_17 : decode cX8_type 17 = .ok (.getfield 83, 3) := by decide +kernel
theorem dX8_type_20 : decode cX8_type 20 = .ok (.sipush 160, 3) := by decide +kernel
theorem dX8_type_23 : decode cX8_type 23 = .ok (.if_icmp .lt 6, 3) := by decide +kernel
theorem dX8_type_26 : decode cX8_type 26 = .ok (.bipush (-3), 2) := by decide +kernel
theorem dX8_type_28 : decode cX8_type 28 = .ok (.ireturn, 1) := by decide +kernel
theorem dX8_type_29 : decode cX8_type 29 = .ok (.aload_n 0, 1) := by decide +kernel
theorem dX8_type_30 : decode cX8_type 30 = .ok (.getfield 12, 3) := by decide +kernel
theorem dX8_type_33 : decode cX8_type 33 = .ok (.iload_n 1, 1) := by decide +kernel
theorem dX8_type_34 : decode cX8_type 34 = .ok (.invokevirtual 87, 3) := by decide +kernel
theorem dX8_type_37 : decode cX8_type 37 = .ok (.aload_n 0, 1) := by decide +kernel
theorem dX8_type_38 : decode cX8_type 38 = .ok (.getfield 12, 3) := by decide +kernel
theorem dX8_type_41 : decode cX8_type 41 = .ok (.getfield 83, 3) := by decide +kernel
theorem dX8_type_44 : decode cX8_type 44 = .ok (.ireturn, 1) := by decide +kernel
theorem bX8_type_0 {d : Nat} {Q : Option jA → jH → Prop} (a0 : Nat) (i1 : Int) (h : jH)
    (q1 : (i1 < 0) → Q (some (.inl ((-1)))) h)
    (s1 : (jS h a0).1 = 8)
    (s2 : (jS h (jP h a0 0)).1 = 7)
    (e1 : (¬ (i1 < 0)) → (i1 ≤ 255) → ((jI h (jP h a0 0) 1) < 160) → Ex MX7_add d [.inr (jP h a0 0), .inl i1] h 0 0 (fun v h2 => V MX8_type (d + 1) 37 [some (.inr a0), some (.inl i1)] (v.toList ++ []) h2 0 0 Q))
    (q2 : (¬ (i1 < 0)) → (i1 ≤ 255) → (¬ ((jI h (jP h a0 0) 1) < 160)) → Q (some (.inl ((-3)))) h)
    (q3 : (¬ (i1 < 0)) → (¬ (i1 ≤ 255)) → Q (some (.inl ((-1)))) h) :
    V MX8_type (d + 1) 0 [some (.inr a0), some (.inl i1)] [] h 0 0 Q := by
  refine V_iload_n (i := 1) dX8_type_0 rfl rfl ?_
  refine V_if_lt (tgt := 11) dX8_type_1 (by decide) (fun c1 => ?_) (fun c1 => ?_)
  · refine V_iconst dX8_type_11 ⟨by decide, by decide⟩ ?_
    exact V_reti rfl dX8_type_12 (q1 c1)
  · refine V_iload_n (i := 1) dX8_type_4 rfl rfl ?_
    refine V_sipush dX8_type_5 (by decide +kernel) ⟨by decide, by decide⟩ ?_
    refine V_icmp_le (tgt := 13) dX8_type_8 (by decide) (fun c2 => ?_) (fun c2 => ?_)
    · refine V_aload_n (i := 0) dX8_type_13 rfl rfl ?_
      refine V_getP dX8_type_14 fX8_12 rfl s1 ?_
      refine V_getI dX8_type_17 fX8_83 rfl s2 ?_
      refine V_sipush dX8_type_20 (by decide +kernel) ⟨by decide, by decide⟩ ?_
      refine V_icmp_lt (tgt := 29) dX8_type_23 (by decide) (fun c3 => ?_) (fun c3 => ?_)
      · refine V_aload_n (i := 0) dX8_type_29 rfl rfl ?_
        refine V_getP dX8_type_30 fX8_12 rfl s1 ?_
        refine V_iload_n (i := 1) dX8_type_33 rfl rfl ?_
        exact V_callV (M := MX8_type) (d := (d + 1)) (mc' := 0) (ms' := 0) (mc := 0) (ms := 0) (As := [.inl i1]) (rest := []) dX8_type_34 tX7_add vX7_add lX8_87 s2 ⟨by decide, rfl⟩ rfl rfl (Nat.le_of_ble_eq_true rfl) (show d + 1 ≤ (d + 1) by omega) (e1 c1 c2 c3)
      · refine V_bipush dX8_type_26 (by decide +kernel) ⟨by decide, by decide⟩ ?_
        exact V_reti rfl dX8_type_28 (q2 c1 c2 c3)
    · refine V_iconst dX8_type_11 ⟨by decide, by decide⟩ ?_
      exact V_reti rfl dX8_type_12 (q3 c1 c2)
theorem bX8_type_37 {d : Nat} {Q : Option jA → jH → Prop} (a0 : Nat) (i1 : Int) (h : jH)
    (s1 : (jS h a0).1 = 8)
    (s2 : (jS h (jP h a0 0)).1 = 7)
    (q1 : Q (some (.inl (jI h (jP h a0 0) 1))) h) :
    V MX8_type (d + 1) 37 [some (.inr a0), some (.inl i1)] [] h 0 0 Q := by
  refine V_aload_n (i := 0) dX8_type_37 rfl rfl ?_
  refine V_getP dX8_type_38 fX8_12 rfl s1 ?_
  refine V_getI dX8_type_41 fX8_83 rfl s2 ?_
  exact V_reti rfl dX8_type_44 q1
theorem dX8_clear_0 : decode cX8_clear 0 = .ok (.aload_n 0, 1) := by decide +kernel
theorem dX8_clear_1 : decode cX8_clear 1 = .ok (.getfield 12, 3) := by decide +kernel
theorem dX8_clear_4 : decode cX8_clear 4 = .ok (.getfield 83, 3) := by decide +kernel
theorem dX8_clear_7 : decode cX8_clear 7 = .ok (.istore_n 1, 1) := by decide +kernel
theorem dX8_clear_8 : decode cX8_clear 8 = .ok (.aload_n 0, 1) := by decide +kernel
theorem dX8_clear_9 : decode cX8_clear 9 = .ok (.getfield 12, 3) := by decide +kernel
theorem dX8_clear_12 : decode cX8_clear 12 = .ok (.invokevirtual 90, 3) := by decide +kernel
theorem dX8_clear_15 : decode cX8_clear 15 = .ok (.iload_n 1, 1) := by decide +kernel
theorem dX8_clear_16 : decode cX8_clear 16 = .ok (.ireturn, 1) := by decide +kernel
theorem bX8_clear_0 {d : Nat} {Q : Option jA → jH → Prop} (a0 : Nat) (u1 : Option jA) (h : jH)
    (s1 : (jS h a0).1 = 8)
    (s2 : (jS h (jP h a0 0)).1 = 7)
    (e1 : Ex MX7_empty d [.inr (jP h a0 0)] h 0 0 (fun v h2 => V MX8_clear (d + 1) 15 [some (.inr a0), some (.inl (jI h (jP h a0 0) 1))] (v.toList ++ []) h2 0 0 Q)) :
    V MX8_clear (d + 1) 0 [some (.inr a0), u1] [] h 0 0 Q := by
  refine V_aload_n (i := 0) dX8_clear_0 rfl rfl ?_
  refine V_getP dX8_clear_1 fX8_12 rfl s1 ?_
  refine V_getI dX8_clear_4 fX8_83 rfl s2 ?_
  refine V_istore_n (i := 1) dX8_clear_7 rfl (by decide) ?_
  refine V_aload_n (i := 0) dX8_clear_8 rfl rfl ?_
  refine V_getP dX8_clear_9 fX8_12 rfl s1 ?_
  exact V_callV (M := MX8_clear) (d := (d + 1)) (mc' := 0) (ms' := 0) (mc := 0) (ms := 0) (As := []) (rest := []) dX8_clear_12 tX7_empty vX7_empty lX8_90 s2 ⟨by decide, rfl⟩ rfl rfl (Nat.le_of_ble_eq_true rfl) (show d + 1 ≤ (d + 1) by omega) e1
theorem bX8_clear_15 {d : Nat} {Q : Option jA → jH → Prop} (a0 : Nat) (i1 : Int) (h : jH)
    (q1 : Q (some (.inl i1)) h) :
    V MX8_clear (d + 1) 15 [some (.inr a0), some (.inl i1)] [] h 0 0 Q := by
  refine V_iload_n (i := 1) dX8_clear_15 rfl rfl ?_
  exact V_reti rfl dX8_clear_16 q1
theorem dX8_tells_0 : decode cX8_tells 0 = .ok (.aload_n 0, 1) := by decide +kernel
theorem dX8_tells_1 : decode cX8_tells 1 = .ok (.getfield 31, 3) := by decide +kernel
theorem dX8_tells_4 : decode cX8_tells 4 = .ok (.aload_n 0, 1) := by decide +kernel
theorem dX8_tells_5 : decode cX8_tells 5 = .ok (.getfield 23, 3) := by decide +kernel
theorem dX8_tells_8 : decode cX8_tells 8 = .ok (.invokevirtual 93, 3) := by decide +kernel
theorem dX8_tells_11 : decode cX8_tells 11 = .ok (.istore_n 1, 1) := by decide +kernel
theorem dX8_tells_12 : decode cX8_tells 12 = .ok (.iload_n 1, 1) := by decide +kernel
theorem dX8_tells_13 : decode cX8_tells 13 = .ok (.bipush (-9), 2) := by decide +kernel
theorem dX8_tells_15 : decode cX8_tells 15 = .ok (.if_icmp .ne 14, 3) := by decide +kernel
theorem dX8_tells_18 : decode cX8_tells 18 = .ok (.bipush (-10), 2) := by decide +kernel
theorem dX8_tells_20 : decode cX8_tells 20 = .ok (.aload_n 0, 1) := by decide +kernel
theorem dX8_tells_21 : decode cX8_tells 21 = .ok (.getfield 12, 3) := by decide +kernel
theorem dX8_tells_24 : decode cX8_tells 24 = .ok (.getfield 97, 3) := by decide +kernel
theorem dX8_tells_27 : decode cX8_tells 27 = .ok (.isub, 1) := by decide +kernel
theorem dX8_tells_28 : decode cX8_tells 28 = .ok (.ireturn, 1) := by decide +kernel
theorem dX8_tells_29 : decode cX8_tells 29 = .ok (.aload_n 0, 1) := by decide +kernel
theorem dX8_tells_30 : decode cX8_tells 30 = .ok (.getfield 19, 3) := by decide +kernel
theorem dX8_tells_33 : decode cX8_tells 33 = .ok (.astore_n 2, 1) := by decide +kernel
theorem dX8_tells_34 : decode cX8_tells 34 = .ok (.aload_n 0, 1) := by decide +kernel
theorem dX8_tells_35 : decode cX8_tells 35 = .ok (.aload_n 0, 1) := by decide +kernel
theorem dX8_tells_36 : decode cX8_tells 36 = .ok (.getfield 23, 3) := by decide +kernel
theorem dX8_tells_39 : decode cX8_tells 39 = .ok (.putfield 19, 3) := by decide +kernel
theorem dX8_tells_42 : decode cX8_tells 42 = .ok (.aload_n 0, 1) := by decide +kernel
theorem dX8_tells_43 : decode cX8_tells 43 = .ok (.aload_n 2, 1) := by decide +kernel
theorem dX8_tells_44 : decode cX8_tells 44 = .ok (.putfield 23, 3) := by decide +kernel
theorem dX8_tells_47 : decode cX8_tells 47 = .ok (.aload_n 0, 1) := by decide +kernel
theorem dX8_tells_48 : decode cX8_tells 48 = .ok (.getfield 38, 3) := by decide +kernel
theorem dX8_tells_51 : decode cX8_tells 51 = .ok (.invokevirtual 100, 3) := by decide +kernel
theorem dX8_tells_54 : decode cX8_tells 54 = .ok (.aload_n 0, 1) := by decide +kernel
theorem dX8_tells_55 : decode cX8_tells 55 = .ok (.getfield 45, 3) := by decide +kernel
theorem dX8_tells_58 : decode cX8_tells 58 = .ok (.iconst 0, 1) := by decide +kernel
theorem dX8_tells_59 : decode cX8_tells 59 = .ok (.putfield 103, 3) := by decide +kernel
theorem dX8_tells_62 : decode cX8_tells 62 = .ok (.iconst 0, 1) := by decide +kernel
theorem dX8_tells_63 : decode cX8_tells 63 = .ok (.istore_n 3, 1) := by decide +kernel
theorem dX8_tells_64 : decode cX8_tells 64 = .ok (.iload_n 3, 1) := by decide +kernel
theorem dX8_tells_65 : decode cX8_tells 65 = .ok (.aload_n 0, 1) := by decide +kernel
theorem dX8_tells_66 : decode cX8_tells 66 = .ok (.getfield 53, 3) := by decide +kernel
theorem dX8_tells_69 : decode cX8_tells 69 = .ok (.arraylength, 1) := by decide +kernel
theorem dX8_tells_70 : decode cX8_tells 70 = .ok (.if_icmp .ge 16, 3) := by decide +kernel
theorem dX8_tells_73 : decode cX8_tells 73 = .ok (.aload_n 0, 1) := by decide +kernel
theorem dX8_tells_74 : decode cX8_tells 74 = .ok (.getfield 53, 3) := by decide +kernel
theorem dX8_tells_77 : decode cX8_tells 77 = .ok (.iload_n 3, 1) := by decide +kernel
theorem dX8_tells_78 : decode cX8_tells 78 = .ok (.iconst 0, 1) := by decide +kernel
theorem dX8_tells_79 : decode cX8_tells 79 = .ok (.bastore, 1) := by decide +kernel
theorem dX8_tells_80 : decode cX8_tells 80 = .ok (.iinc 3 1, 3) := by decide +kernel
theorem dX8_tells_83 : decode cX8_tells 83 = .ok (.goto (-19), 3) := by decide +kernel
theorem dX8_tells_86 : decode cX8_tells 86 = .ok (.aload_n 0, 1) := by decide +kernel
theorem dX8_tells_87 : decode cX8_tells 87 = .ok (.iconst 0, 1) := by decide +kernel
theorem dX8_tells_88 : decode cX8_tells 88 = .ok (.putfield 106, 3) := by decide +kernel
theorem dX8_tells_91 : decode cX8_tells 91 = .ok (.aload_n 0, 1) := by decide +kernel
theorem dX8_tells_92 : decode cX8_tells 92 = .ok (.getfield 12, 3) := by decide +kernel
theorem dX8_tells_95 : decode cX8_tells 95 = .ok (.invokevirtual 90, 3) := by decide +kernel
theorem dX8_tells_98 : decode cX8_tells 98 = .ok (.iload_n 1, 1) := by decide +kernel
theorem dX8_tells_99 : decode cX8_tells 99 = .ok (.ireturn, 1) := by decide +kernel
theorem bX8_tells_0 {d : Nat} {Q : Option jA → jH → Prop} (a0 : Nat) (u1 : Option jA) (u2 : Option jA) (u3 : Option jA) (h : jH)
    (s1 : (jS h a0).1 = 8)
    (e1 : Ex MX5_read (d + 11) [.inr (jP h a0 3), .inr (jP h a0 2)] h 0 0 (fun v h2 => V MX8_tells (d + 12) 11 [some (.inr a0), u1, u2, u3] (v.toList ++ []) h2 0 0 Q))
    (s2 : (jS h (jP h a0 3)).1 = 5) :
    V MX8_tells (d + 12) 0 [some (.inr a0), u1, u2, u3] [] h 0 0 Q := by
  refine V_aload_n (i := 0) dX8_tells_0 rfl rfl ?_
  refine V_getP dX8_tells_1 fX8_31 rfl s1 ?_
  refine V_aload_n (i := 0) dX8_tells_4 rfl rfl ?_
  refine V_getP dX8_tells_5 fX8_23 rfl s1 ?_
  exact V_callV (M := MX8_tells) (d := (d + 12)) (mc' := 0) (ms' := 0) (mc := 0) (ms := 0) (As := [.inr (jP h a0 2)]) (rest := []) dX8_tells_8 tX5_read vX5_read lX8_93 s2 ⟨by decide, rfl⟩ rfl rfl (Nat.le_of_ble_eq_true rfl) (show (d + 11) + 1 ≤ (d + 12) by omega) e1
theorem bX8_tells_64 {d : Nat} {Q : Option jA → jH → Prop} (a0 : Nat) (i1 : Int) (a2 : Nat) (i3 : Int) (h : jH)
    (s1 : (jS h a0).1 = 8)
    (s2 : (jS h (jP h a0 7)).1 = 17)
    (e1 : ((((jS h (jP h a0 7)).2 : Int)) ≤ i3) → Ex MX7_empty d [.inr (jP h a0 0)] (jsI h a0 10 0) 0 0 (fun v h2 => V MX8_tells (d + 12) 98 [some (.inr a0), some (.inl i1), some (.inr a2), some (.inl i3)] (v.toList ++ []) h2 0 0 Q))
    (s3 : (jS h (jP h a0 0)).1 = 7)
    (s4 : (¬ ((((jS h (jP h a0 7)).2 : Int)) ≤ i3)) → 0 ≤ i3)
    (s5 : (¬ ((((jS h (jP h a0 7)).2 : Int)) ≤ i3)) → i3 < ((jS h (jP h a0 7)).2 : Int))
    (r1 : (¬ ((((jS h (jP h a0 7)).2 : Int)) ≤ i3)) → jR (i3 + 1))
    (k1 : (¬ ((((jS h (jP h a0 7)).2 : Int)) ≤ i3)) → V MX8_tells (d + 12) 64 [some (.inr a0), some (.inl i1), some (.inr a2), some (.inl (i3 + 1))] [] (jsX h (jP h a0 7) ((i3).toNat) 0) 0 0 Q) :
    V MX8_tells (d + 12) 64 [some (.inr a0), some (.inl i1), some (.inr a2), some (.inl i3)] [] h 0 0 Q := by
  refine V_iload_n (i := 3) dX8_tells_64 rfl rfl ?_
  refine V_aload_n (i := 0) dX8_tells_65 rfl rfl ?_
  refine V_getP dX8_tells_66 fX8_53 rfl s1 ?_
  refine V_alen (t := 1) dX8_tells_69 s2 (by decide) ?_
  refine V_icmp_ge (tgt := 86) dX8_tells_70 (by decide) (fun c1 => ?_) (fun c1 => ?_)
  · refine V_aload_n (i := 0) dX8_tells_86 rfl rfl ?_
    refine V_iconst dX8_tells_87 ⟨by decide, by decide⟩ ?_
    refine V_putI (ci := 8) (kf := 10) dX8_tells_88 fX8_106 rfl rfl s1 ?_
    refine V_aload_n (i := 0) dX8_tells_91 rfl rfl ?_
    refine V_getP dX8_tells_92 fX8_12 rfl s1 ?_
    exact V_callV (M := MX8_tells) (d := (d + 12)) (mc' := 0) (ms' := 0) (mc := 0) (ms := 0) (As := []) (rest := []) dX8_tells_95 tX7_empty vX7_empty lX8_90 s3 ⟨by decide, rfl⟩ rfl rfl (Nat.le_of_ble_eq_true rfl) (show d + 1 ≤ (d + 12) by omega) (e1 c1)
  · refine V_aload_n (i := 0) dX8_tells_73 rfl rfl ?_
    refine V_getP dX8_tells_74 fX8_53 rfl s1 ?_
    refine V_iload_n (i := 3) dX8_tells_77 rfl rfl ?_
    refine V_iconst dX8_tells_78 ⟨by decide, by decide⟩ ?_
    refine V_zast dX8_tells_79 s2 (s4 c1) (s5 c1) (by decide) ?_
    refine V_iinc (i := 3) dX8_tells_80 rfl (by decide) (r1 c1) ?_
    refine V_goto (tgt := 64) dX8_tells_83 (by decide) ?_
    exact (k1 c1)
theorem bX8_tells_11 {d : Nat} {Q : Option jA → jH → Prop} (a0 : Nat) (u1 : Option jA) (u2 : Option jA) (u3 : Option jA) (p0 : Int) (h : jH)
    (s1 : (jS h a0).1 = 8)
    (e1 : (p0 ≠ ((-9))) → Ex MX6_restart (d + 2) [.inr (jP h a0 4)] (jsP (jsP h a0 1 (jP h a0 2)) a0 2 (jP h a0 1)) 0 0 (fun v h2 => V MX8_tells (d + 12) 54 [some (.inr a0), some (.inl p0), some (.inr (jP h a0 1)), u3] (v.toList ++ []) h2 0 0 Q))
    (s2 : (jS h (jP h a0 4)).1 = 6)
    (s3 : (jS h (jP h a0 0)).1 = 7)
    (r1 : (p0 = ((-9))) → jR (((-10)) - (jI h (jP h a0 0) 2)))
    (q1 : (p0 = ((-9))) → Q (some (.inl (((-10)) - (jI h (jP h a0 0) 2)))) h) :
    V MX8_tells (d + 12) 11 [some (.inr a0), u1, u2, u3] [.inl p0] h 0 0 Q := by
  refine V_istore_n (i := 1) dX8_tells_11 rfl (by decide) ?_
  refine V_iload_n (i := 1) dX8_tells_12 rfl rfl ?_
  refine V_bipush dX8_tells_13 (by decide +kernel) ⟨by decide, by decide⟩ ?_
  refine V_icmp_ne (tgt := 29) dX8_tells_15 (by decide) (fun c1 => ?_) (fun c1 => ?_)
  · refine V_aload_n (i := 0) dX8_tells_29 rfl rfl ?_
    refine V_getP dX8_tells_30 fX8_19 rfl s1 ?_
    refine V_astore_n (i := 2) dX8_tells_33 rfl (by decide) ?_
    refine V_aload_n (i := 0) dX8_tells_34 rfl rfl ?_
    refine V_aload_n (i := 0) dX8_tells_35 rfl rfl ?_
    refine V_getP dX8_tells_36 fX8_23 rfl s1 ?_
    refine V_putP (ci := 8) (kf := 1) dX8_tells_39 fX8_19 rfl rfl s1 ?_
    refine V_aload_n (i := 0) dX8_tells_42 rfl rfl ?_
    refine V_aload_n (i := 2) dX8_tells_43 rfl rfl ?_
    refine V_putP (ci := 8) (kf := 2) dX8_tells_44 fX8_23 rfl rfl s1 ?_
    refine V_aload_n (i := 0) dX8_tells_47 rfl rfl ?_
    refine V_getP dX8_tells_48 fX8_38 rfl s1 ?_
    refine V_topP ((jP_ne (by decide)).trans (jP_ne (by decide))) ?_
    exact V_callV (M := MX8_tells) (d := (d + 12)) (mc' := 0) (ms' := 0) (mc := 0) (ms := 0) (As := []) (rest := []) dX8_tells_51 tX6_restart vX6_restart lX8_100 s2 ⟨by decide, rfl⟩ rfl rfl (Nat.le_of_ble_eq_true rfl) (show (d + 2) + 1 ≤ (d + 12) by omega) (e1 c1)
  · refine V_bipush dX8_tells_18 (by decide +kernel) ⟨by decide, by decide⟩ ?_
    refine V_aload_n (i := 0) dX8_tells_20 rfl rfl ?_
    refine V_getP dX8_tells_21 fX8_12 rfl s1 ?_
    refine V_getI dX8_tells_24 fX8_97 rfl s3 ?_
    refine V_isub dX8_tells_27 (r1 c1) ?_
    exact V_reti rfl dX8_tells_28 (q1 c1)
theorem bX8_tells_98 {d : Nat} {Q : Option jA → jH → Prop} (a0 : Nat) (i1 : Int) (a2 : Nat) (i3 : Int) (h : jH)
    (q1 : Q (some (.inl i1)) h) :
    V MX8_tells (d + 12) 98 [some (.inr a0), some (.inl i1), some (.inr a2), some (.inl i3)] [] h 0 0 Q := by
  refine V_iload_n (i := 1) dX8_tells_98 rfl rfl ?_
  exact V_reti rfl dX8_tells_99 q1
theorem bX8_tells_54 {d : Nat} {Q : Option jA → jH → Prop} (a0 : Nat) (i1 : Int) (a2 : Nat) (u3 : Option jA) (h : jH)
    (s1 : (jS h a0).1 = 8)
    (s2 : (jS h (jP h a0 5)).1 = 4)
    (k1 : V MX8_tells (d + 12) 64 [some (.inr a0), some (.inl i1), some (.inr a2), some (.inl 0)] [] (jsI h (jP h a0 5) 0 0) 0 0 Q) :
    V MX8_tells (d + 12) 54 [some (.inr a0), some (.inl i1), some (.inr a2), u3] [] h 0 0 Q := by
  refine V_aload_n (i := 0) dX8_tells_54 rfl rfl ?_
  refine V_getP dX8_tells_55 fX8_45 rfl s1 ?_
  refine V_iconst dX8_tells_58 ⟨by decide, by decide⟩ ?_
  refine V_putI (ci := 4) (kf := 0) dX8_tells_59 fX8_103 rfl rfl s2 ?_
  refine V_iconst dX8_tells_62 ⟨by decide, by decide⟩ ?_
  refine V_istore_n (i := 3) dX8_tells_63 rfl (by decide) ?_
  exact k1
theorem dX8_node_0 : decode cX8_node 0 = .ok (.iconst (-1), 1) := by decide +kernel
theorem dX8_node_1 : decode cX8_node 1 = .ok (.istore_n 1, 1) := by decide +kernel
theorem dX8_node_2 : decode cX8_node 2 = .ok (.aload_n 0, 1) := by decide +kernel
theorem dX8_node_3 : decode cX8_node 3 = .ok (.getfield 12, 3) := by decide +kernel
theorem dX8_node_6 : decode cX8_node 6 = .ok (.invokevirtual 109, 3) := by decide +kernel
theorem dX8_node_9 : decode cX8_node 9 = .ok (.iconst 0, 1) := by decide +kernel
theorem dX8_node_10 : decode cX8_node 10 = .ok (.istore_n 2, 1) := by decide +kernel
theorem dX8_node_11 : decode cX8_node 11 = .ok (.iload_n 2, 1) := by decide +kernel
theorem dX8_node_12 : decode cX8_node 12 = .ok (.sipush 160, 3) := by decide +kernel
theorem dX8_node_15 : decode cX8_node 15 = .ok (.if_icmp .ge 134, 3) := by decide +kernel
theorem dX8_node_18 : decode cX8_node 18 = .ok (.aload_n 0, 1) := by decide +kernel
theorem dX8_node_19 : decode cX8_node 19 = .ok (.getfield 12, 3) := by decide +kernel
theorem dX8_node_22 : decode cX8_node 22 = .ok (.invokevirtual 112, 3) := by decide +kernel
theorem dX8_node_25 : decode cX8_node 25 = .ok (.istore_n 3, 1) := by decide +kernel
theorem dX8_node_26 : decode cX8_node 26 = .ok (.iload_n 3, 1) := by decide +kernel
theorem dX8_node_27 : decode cX8_node 27 = .ok (.bipush (-9), 2) := by decide +kernel
theorem dX8_node_29 : decode cX8_node 29 = .ok (.if_icmp .ne 14, 3) := by decide +kernel
theorem dX8_node_32 : decode cX8_node 32 = .ok (.bipush (-10), 2) := by decide +kernel
theorem dX8_node_34 : decode cX8_node 34 = .ok (.aload_n 0, 1) := by decide +kernel
theorem dX8_node_35 : decode cX8_node 35 = .ok (.getfield 12, 3) := by decide +kernel
theorem dX8_node_38 : decode cX8_node 38 = .ok (.getfield 97, 3) := by decide +kernel
theorem dX8_node_41 : decode cX8_node 41 = .ok (.isub, 1) := by decide +kernel
theorem dX8_node_42 : decode cX8_node 42 = .ok (.ireturn, 1) := by decide +kernel
theorem dX8_node_43 : decode cX8_node 43 = .ok (.aload_n 0, 1) := by decide +kernel
theorem dX8_node_44 : decode cX8_node 44 = .ok (.getfield 19, 3) := by decide +kernel
theorem dX8_node_47 : decode cX8_node 47 = .ok (.iload_n 1, 1) := by decide +kernel
theorem dX8_node_48 : decode cX8_node 48 = .ok (.iload_n 3, 1) := by decide +kernel
theorem dX8_node_49 : decode cX8_node 49 = .ok (.invokevirtual 116, 3) := by decide +kernel
theorem dX8_node_52 : decode cX8_node 52 = .ok (.istore 4, 2) := by decide +kernel
theorem dX8_node_54 : decode cX8_node 54 = .ok (.aload_n 0, 1) := by decide +kernel
theorem dX8_node_55 : decode cX8_node 55 = .ok (.getfield 12, 3) := by decide +kernel
theorem dX8_node_58 : decode cX8_node 58 = .ok (.invokevirtual 120, 3) := by decide +kernel
theorem dX8_node_61 : decode cX8_node 61 = .ok (.aload_n 0, 1) := by decide +kernel
theorem dX8_node_62 : decode cX8_node 62 = .ok (.getfield 12, 3) := by decide +kernel
theorem dX8_node_65 : decode cX8_node 65 = .ok (.getfield 123, 3) := by decide +kernel
theorem dX8_node_68 : decode cX8_node 68 = .ok (.bipush (-9), 2) := by decide +kernel
theorem dX8_node_70 : decode cX8_node 70 = .ok (.if_icmp .ne 25, 3) := by decide +kernel
theorem dX8_node_73 : decode cX8_node 73 = .ok (.aload_n 0, 1) := by decide +kernel
theorem dX8_node_74 : decode cX8_node 74 = .ok (.getfield 12, 3) := by decide +kernel
theorem dX8_node_77 : decode cX8_node 77 = .ok (.invokevirtual 90, 3) := by decide +kernel
theorem dX8_node_80 : decode cX8_node 80 = .ok (.iload 4, 2) := by decide +kernel
theorem dX8_node_82 : decode cX8_node 82 = .ok (.bipush 100, 2) := by decide +kernel
theorem dX8_node_84 : decode cX8_node 84 = .ok (.if_icmp .ge 8, 3) := by decide +kernel
theorem dX8_node_87 : decode cX8_node 87 = .ok (.iload 4, 2) := by decide +kernel
theorem dX8_node_89 : decode cX8_node 89 = .ok (.goto 5, 3) := by decide +kernel
theorem dX8_node_92 : decode cX8_node 92 = .ok (.bipush (-9), 2) := by decide +kernel
theorem dX8_node_94 : decode cX8_node 94 = .ok (.ireturn, 1) := by decide +kernel
theorem dX8_node_95 : decode cX8_node 95 = .ok (.aload_n 0, 1) := by decide +kernel
theorem dX8_node_96 : decode cX8_node 96 = .ok (.getfield 12, 3) := by decide +kernel
theorem dX8_node_99 : decode cX8_node 99 = .ok (.getfield 123, 3) := by decide +kernel
theorem dX8_node_102 : decode cX8_node 102 = .ok (.bipush 46, 2) := by decide +kernel
theorem dX8_node_104 : decode cX8_node 104 = .ok (.if_icmp .eq 14, 3) := by decide +kernel
theorem dX8_node_107 : decode cX8_node 107 = .ok (.bipush (-10), 2) := by decide +kernel
theorem dX8_node_109 : decode cX8_node 109 = .ok (.aload_n 0, 1) := by decide +kernel
theorem dX8_node_110 : decode cX8_node 110 = .ok (.getfield 12, 3) := by decide +kernel
theorem dX8_node_113 : decode cX8_node 113 = .ok (.getfield 97, 3) := by decide +kernel
theorem dX8_node_116 : decode cX8_node 116 = .ok (.isub, 1) := by decide +kernel
theorem dX8_node_117 : decode cX8_node 117 = .ok (.ireturn, 1) := by decide +kernel
theorem dX8_node_118 : decode cX8_node 118 = .ok (.aload_n 0, 1) := by decide +kernel
theorem dX8_node_119 : decode cX8_node 119 = .ok (.getfield 12, 3) := by decide +kernel
theorem dX8_node_122 : decode cX8_node 122 = .ok (.invokevirtual 120, 3) := by decide +kernel
theorem dX8_node_125 : decode cX8_node 125 = .ok (.iload 4, 2) := by decide +kernel
theorem dX8_node_127 : decode cX8_node 127 = .ok (.bipush 100, 2) := by decide +kernel
theorem dX8_node_129 : decode cX8_node 129 = .ok (.if_icmp .lt 11, 3) := by decide +kernel
theorem dX8_node_132 : decode cX8_node 132 = .ok (.iload 4, 2) := by decide +kernel
theorem dX8_node_134 : decode cX8_node 134 = .ok (.bipush 100, 2) := by decide +kernel
theorem dX8_node_136 : decode cX8_node 136 = .ok (.isub, 1) := by decide +kernel
theorem dX8_node_137 : decode cX8_node 137 = .ok (.goto 5, 3) := by decide +kernel
theorem dX8_node_140 : decode cX8_node 140 = .ok (.bipush (-2), 2) := by decide +kernel
theorem dX8_node_142 : decode cX8_node 142 = .ok (.istore_n 1, 1) := by decide +kernel
theorem dX8_node_143 : decode cX8_node 143 = .ok (.iinc 2 1, 3) := by decide +kernel
theorem dX8_node_146 : decode cX8_node 146 = .ok (.goto (-135), 3) := by decide +kernel
theorem dX8_node_149 : decode cX8_node 149 = .ok (.bipush (-10), 2) := by decide +kernel
theorem dX8_node_151 : decode cX8_node 151 = .ok (.aload_n 0, 1) := by decide +kernel
theorem dX8_node_152 : decode cX8_node 152 = .ok (.getfield 12, 3) := by decide +kernel
theorem dX8_node_155 : decode cX8_node 155 = .ok (.getfield 97, 3) := by decide +kernel
theorem dX8_node_158 : decode cX8_node 158 = .ok (.isub, 1) := by decide +kernel
theorem dX8_node_159 : decode cX8_node 159 = .ok (.ireturn, 1) := by decide +kernel
theorem bX8_node_0 {d : Nat} {Q : Option jA → jH → Prop} (a0 : Nat) (u1 : Option jA) (u2 : Option jA) (u3 : Option jA) (u4 : Option jA) (h : jH)
    (s1 : (jS h a0).1 = 8)
    (e1 : Ex MX7_toFirst (d + 1) [.inr (jP h a0 0)] h 0 0 (fun v h2 => V MX8_node (d + 2) 9 [some (.inr a0), some (.inl ((-1))), u2, u3, u4] (v.toList ++ []) h2 0 0 Q))
    (s2 : (jS h (jP h a0 0)).1 = 7) :
    V MX8_node (d + 2) 0 [some (.inr a0), u1, u2, u3, u4] [] h 0 0 Q := by
  refine V_iconst dX8_node_0 ⟨by decide, by decide⟩ ?_
  refine V_istore_n (i := 1) dX8_node_1 rfl (by decide) ?_
  refine V_aload_n (i := 0) dX8_node_2 rfl rfl ?_
  refine V_getP dX8_node_3 fX8_12 rfl s1 ?_
  exact V_callV (M := MX8_node) (d := (d + 2)) (mc' := 0) (ms' := 0) (mc := 0) (ms := 0) (As := []) (rest := []) dX8_node_6 tX7_toFirst vX7_toFirst lX8_109 s2 ⟨by decide, rfl⟩ rfl rfl (Nat.le_of_ble_eq_true rfl) (show (d + 1) + 1 ≤ (d + 2) by omega) e1
theorem bX8_node_11 {d : Nat} {Q : Option jA → jH → Prop} (a0 : Nat) (i1 : Int) (i2 : Int) (u3 : Option jA) (u4 : Option jA) (h : jH)
    (s1 : (jS h a0).1 = 8)
    (s2 : (jS h (jP h a0 0)).1 = 7)
    (r1 : (160 ≤ i2) → jR (((-10)) - (jI h (jP h a0 0) 2)))
    (q1 : (160 ≤ i2) → Q (some (.inl (((-10)) - (jI h (jP h a0 0) 2)))) h)
    (e1 : (¬ (160 ≤ i2)) → ((jlet (jI h (jP h a0 0) 4)) ≠ ((-9))) → Ex MX2_named d [.inr (jP h a0 1), .inl i1, .inl (jlet (jI h (jP h a0 0) 4))] h 0 0 (fun v h2 => V MX8_node (d + 2) 52 [some (.inr a0), some (.inl i1), some (.inl i2), some (.inl (jlet (jI h (jP h a0 0) 4))), u4] (v.toList ++ []) h2 0 0 Q))
    (s3 : (jS h (jP h a0 1)).1 = 2)
    (r2 : (¬ (160 ≤ i2)) → ((jlet (jI h (jP h a0 0) 4)) = ((-9))) → jR (((-10)) - (jI h (jP h a0 0) 2)))
    (q2 : (¬ (160 ≤ i2)) → ((jlet (jI h (jP h a0 0) 4)) = ((-9))) → Q (some (.inl (((-10)) - (jI h (jP h a0 0) 2)))) h) :
    V MX8_node (d + 2) 11 [some (.inr a0), some (.inl i1), some (.inl i2), u3, u4] [] h 0 0 Q := by
  refine V_iload_n (i := 2) dX8_node_11 rfl rfl ?_
  refine V_sipush dX8_node_12 (by decide +kernel) ⟨by decide, by decide⟩ ?_
  refine V_icmp_ge (tgt := 149) dX8_node_15 (by decide) (fun c1 => ?_) (fun c1 => ?_)
  · refine V_bipush dX8_node_149 (by decide +kernel) ⟨by decide, by decide⟩ ?_
    refine V_aload_n (i := 0) dX8_node_151 rfl rfl ?_
    refine V_getP dX8_node_152 fX8_12 rfl s1 ?_
    refine V_getI dX8_node_155 fX8_97 rfl s2 ?_
    refine V_isub dX8_node_158 (r1 c1) ?_
    exact V_reti rfl dX8_node_159 (q1 c1)
  · refine V_aload_n (i := 0) dX8_node_18 rfl rfl ?_
    refine V_getP dX8_node_19 fX8_12 rfl s1 ?_
    refine V_callV (M := MX8_node) (d := (d + 2)) (mc' := 0) (ms' := 0) (mc := 0) (ms := 0) (As := []) (rest := []) dX8_node_22 tX7_letter vX7_letter lX8_112 s2 ⟨by decide, rfl⟩ rfl rfl (Nat.le_of_ble_eq_true rfl) (show d + 1 ≤ (d + 2) by omega) (Ex.mono (pX7_letter (d := d) s2) ?_)
    intro v h2 hq
    rw [hq.1, hq.2]
    show V MX8_node (d + 2) 25 [some (.inr a0), some (.inl i1), some (.inl i2), u3, u4] [.inl (jlet (jI h (jP h a0 0) 4))] h 0 0 Q
    refine V_istore_n (i := 3) dX8_node_25 rfl (by decide) ?_
    refine V_iload_n (i := 3) dX8_node_26 rfl rfl ?_
    refine V_bipush dX8_node_27 (by decide +kernel) ⟨by decide, by decide⟩ ?_
    refine V_icmp_ne (tgt := 43) dX8_node_29 (by decide) (fun c2 => ?_) (fun c2 => ?_)
    · refine V_aload_n (i := 0) dX8_node_43 rfl rfl ?_
      refine V_getP dX8_node_44 fX8_19 rfl s1 ?_
      refine V_iload_n (i := 1) dX8_node_47 rfl rfl ?_
      refine V_iload_n (i := 3) dX8_node_48 rfl rfl ?_
      exact V_callV (M := MX8_node) (d := (d + 2)) (mc' := 0) (ms' := 0) (mc := 0) (ms := 0) (As := [.inl i1, .inl (jlet (jI h (jP h a0 0) 4))]) (rest := []) dX8_node_49 tX2_named vX2_named lX8_116 s3 ⟨by decide, rfl⟩ rfl rfl (Nat.le_of_ble_eq_true rfl) (show d + 1 ≤ (d + 2) by omega) (e1 c1 c2)
    · refine V_bipush dX8_node_32 (by decide +kernel) ⟨by decide, by decide⟩ ?_
      refine V_aload_n (i := 0) dX8_node_34 rfl rfl ?_
      refine V_getP dX8_node_35 fX8_12 rfl s1 ?_
      refine V_getI dX8_node_38 fX8_97 rfl s2 ?_
      refine V_isub dX8_node_41 (r2 c1 c2) ?_
      exact V_reti rfl dX8_node_42 (q2 c1 c2)
theorem bX8_node_9 {d : Nat} {Q : Option jA → jH → Prop} (a0 : Nat) (i1 : Int) (u2 : Option jA) (u3 : Option jA) (u4 : Option jA) (h : jH)
    (k1 : V MX8_node (d + 2) 11 [some (.inr a0), some (.inl i1), some (.inl 0), u3, u4] [] h 0 0 Q) :
    V MX8_node (d + 2) 9 [some (.inr a0), some (.inl i1), u2, u3, u4] [] h 0 0 Q := by
  refine V_iconst dX8_node_9 ⟨by decide, by decide⟩ ?_
  refine V_istore_n (i := 2) dX8_node_10 rfl (by decide) ?_
  exact k1
theorem bX8_node_52 {d : Nat} {Q : Option jA → jH → Prop} (a0 : Nat) (i1 : Int) (i2 : Int) (i3 : Int) (u4 : Option jA) (p0 : Int) (h : jH)
    (s1 : (jS h a0).1 = 8)
    (e1 : Ex MX7_toNext d [.inr (jP h a0 0)] h 0 0 (fun v h2 => V MX8_node (d + 2) 61 [some (.inr a0), some (.inl i1), some (.inl i2), some (.inl i3), some (.inl p0)] (v.toList ++ []) h2 0 0 Q))
    (s2 : (jS h (jP h a0 0)).1 = 7) :
    V MX8_node (d + 2) 52 [some (.inr a0), some (.inl i1), some (.inl i2), some (.inl i3), u4] [.inl p0] h 0 0 Q := by
  refine V_istore (i := 4) dX8_node_52 (by decide) ?_
  refine V_aload_n (i := 0) dX8_node_54 rfl rfl ?_
  refine V_getP dX8_node_55 fX8_12 rfl s1 ?_
  exact V_callV (M := MX8_node) (d := (d + 2)) (mc' := 0) (ms' := 0) (mc := 0) (ms := 0) (As := []) (rest := []) dX8_node_58 tX7_toNext vX7_toNext lX8_120 s2 ⟨by decide, rfl⟩ rfl rfl (Nat.le_of_ble_eq_true rfl) (show d + 1 ≤ (d + 2) by omega) e1
theorem bX8_node_61 {d : Nat} {Q : Option jA → jH → Prop} (a0 : Nat) (i1 : Int) (i2 : Int) (i3 : Int) (i4 : Int) (h : jH)
    (s1 : (jS h a0).1 = 8)
    (s2 : (jS h (jP h a0 0)).1 = 7)
    (e1 : ((jI h (jP h a0 0) 4) ≠ ((-9))) → ((jI h (jP h a0 0) 4) = 46) → Ex MX7_toNext d [.inr (jP h a0 0)] h 0 0 (fun v h2 => V MX8_node (d + 2) 125 [some (.inr a0), some (.inl i1), some (.inl i2), some (.inl i3), some (.inl i4)] (v.toList ++ []) h2 0 0 Q))
    (r1 : ((jI h (jP h a0 0) 4) ≠ ((-9))) → (¬ ((jI h (jP h a0 0) 4) = 46)) → jR (((-10)) - (jI h (jP h a0 0) 2)))
    (q1 : ((jI h (jP h a0 0) 4) ≠ ((-9))) → (¬ ((jI h (jP h a0 0) 4) = 46)) → Q (some (.inl (((-10)) - (jI h (jP h a0 0) 2)))) h)
    (e2 : ((jI h (jP h a0 0) 4) = ((-9))) → Ex MX7_empty d [.inr (jP h a0 0)] h 0 0 (fun v h2 => V MX8_node (d + 2) 80 [some (.inr a0), some (.inl i1), some (.inl i2), some (.inl i3), some (.inl i4)] (v.toList ++ []) h2 0 0 Q)) :
    V MX8_node (d + 2) 61 [some (.inr a0), some (.inl i1), some (.inl i2), some (.inl i3), some (.inl i4)] [] h 0 0 Q := by
  refine V_aload_n (i := 0) dX8_node_61 rfl rfl ?_
  refine V_getP dX8_node_62 fX8_12 rfl s1 ?_
  refine V_getI dX8_node_65 fX8_123 rfl s2 ?_
  refine V_bipush dX8_node_68 (by decide +kernel) ⟨by decide, by decide⟩ ?_
  refine V_icmp_ne (tgt := 95) dX8_node_70 (by decide) (fun c1 => ?_) (fun c1 => ?_)
  · refine V_aload_n (i := 0) dX8_node_95 rfl rfl ?_
    refine V_getP dX8_node_96 fX8_12 rfl s1 ?_
    refine V_getI dX8_node_99 fX8_123 rfl s2 ?_
    refine V_bipush dX8_node_102 (by decide +kernel) ⟨by decide, by decide⟩ ?_
    refine V_icmp_eq (tgt := 118) dX8_node_104 (by decide) (fun c2 => ?_) (fun c2 => ?_)
    · refine V_aload_n (i := 0) dX8_node_118 rfl rfl ?_
      refine V_getP dX8_node_119 fX8_12 rfl s1 ?_
      exact V_callV (M := MX8_node) (d := (d + 2)) (mc' := 0) (ms' := 0) (mc := 0) (ms := 0) (As := []) (rest := []) dX8_node_122 tX7_toNext vX7_toNext lX8_120 s2 ⟨by decide, rfl⟩ rfl rfl (Nat.le_of_ble_eq_true rfl) (show d + 1 ≤ (d + 2) by omega) (e1 c1 c2)
    · refine V_bipush dX8_node_107 (by decide +kernel) ⟨by decide, by decide⟩ ?_
      refine V_aload_n (i := 0) dX8_node_109 rfl rfl ?_
      refine V_getP dX8_node_110 fX8_12 rfl s1 ?_
      refine V_getI dX8_node_113 fX8_97 rfl s2 ?_
      refine V_isub dX8_node_116 (r1 c1 c2) ?_
      exact V_reti rfl dX8_node_117 (q1 c1 c2)
  · refine V_aload_n (i := 0) dX8_node_73 rfl rfl ?_
    refine V_getP dX8_node_74 fX8_12 rfl s1 ?_
    exact V_callV (M := MX8_node) (d := (d + 2)) (mc' := 0) (ms' := 0) (mc := 0) (ms := 0) (As := []) (rest := []) dX8_node_77 tX7_empty vX7_empty lX8_90 s2 ⟨by decide, rfl⟩ rfl rfl (Nat.le_of_ble_eq_true rfl) (show d + 1 ≤ (d + 2) by omega) (e2 c1)
theorem bX8_node_125 {d : Nat} {Q : Option jA → jH → Prop} (a0 : Nat) (i1 : Int) (i2 : Int) (i3 : Int) (i4 : Int) (h : jH)
    (r1 : (i4 < 100) → jR (i2 + 1))
    (k1 : (i4 < 100) → V MX8_node (d + 2) 11 [some (.inr a0), some (.inl ((-2))), some (.inl (i2 + 1)), some (.inl i3), some (.inl i4)] [] h 0 0 Q)
    (r2 : (¬ (i4 < 100)) → jR (i4 - 100))
    (r3 : (¬ (i4 < 100)) → jR (i2 + 1))
    (k2 : (¬ (i4 < 100)) → V MX8_node (d + 2) 11 [some (.inr a0), some (.inl (i4 - 100)), some (.inl (i2 + 1)), some (.inl i3), some (.inl i4)] [] h 0 0 Q) :
    V MX8_node (d + 2) 125 [some (.inr a0), some (.inl i1), some (.inl i2), some (.inl i3), some (.inl i4)] [] h 0 0 Q := by
  refine V_iload (i := 4) dX8_node_125 rfl ?_
  refine V_bipush dX8_node_127 (by decide +kernel) ⟨by decide, by decide⟩ ?_
  refine V_icmp_lt (tgt := 140) dX8_node_129 (by decide) (fun c1 => ?_) (fun c1 => ?_)
  · refine V_bipush dX8_node_140 (by decide +kernel) ⟨by decide, by decide⟩ ?_
    refine V_istore_n (i := 1) dX8_node_142 rfl (by decide) ?_
    refine V_iinc (i := 2) dX8_node_143 rfl (by decide) (r1 c1) ?_
    refine V_goto (tgt := 11) dX8_node_146 (by decide) ?_
    exact (k1 c1)
  · refine V_iload (i := 4) dX8_node_132 rfl ?_
    refine V_bipush dX8_node_134 (by decide +kernel) ⟨by decide, by decide⟩ ?_
    refine V_isub dX8_node_136 (r2 c1) ?_
    refine V_goto (tgt := 142) dX8_node_137 (by decide) ?_
    refine V_istore_n (i := 1) dX8_node_142 rfl (by decide) ?_
    refine V_iinc (i := 2) dX8_node_143 rfl (by decide) (r3 c1) ?_
    refine V_goto (tgt := 11) dX8_node_146 (by decide) ?_
    exact (k2 c1)
theorem bX8_node_80 {d : Nat} {Q : Option jA → jH → Prop} (a0 : Nat) (i1 : Int) (i2 : Int) (i3 : Int) (i4 : Int) (h : jH)
    (q1 : (100 ≤ i4) → Q (some (.inl ((-9)))) h)
    (q2 : (¬ (100 ≤ i4)) → Q (some (.inl i4)) h) :
    V MX8_node (d + 2) 80 [some (.inr a0), some (.inl i1), some (.inl i2), some (.inl i3), some (.inl i4)] [] h 0 0 Q := by
  refine V_iload (i := 4) dX8_node_80 rfl ?_
  refine V_bipush dX8_node_82 (by decide +kernel) ⟨by decide, by decide⟩ ?_
  refine V_icmp_ge (tgt := 92) dX8_node_84 (by decide) (fun c1 => ?_) (fun c1 => ?_)
  · refine V_bipush dX8_node_92 (by decide +kernel) ⟨by decide, by decide⟩ ?_
    exact V_reti rfl dX8_node_94 (q1 c1)
  · refine V_iload (i := 4) dX8_node_87 rfl ?_
    refine V_goto (tgt := 94) dX8_node_89 (by decide) ?_
    exact V_reti rfl dX8_node_94 (q2 c1)
theorem dX8_about_0 : decode cX8_about 0 = .ok (.aload_n 0, 1) := by decide +kernel
theorem dX8_about_1 : decode cX8_about 1 = .ok (.iload_n 1, 1) := by decide +kernel
theorem dX8_about_2 : decode cX8_about 2 = .ok (.invokevirtual 126, 3) := by decide +kernel
theorem dX8_about_5 : decode cX8_about 5 = .ok (.ifCond .ne 5, 3) := by decide +kernel
theorem dX8_about_8 : decode cX8_about 8 = .ok (.iconst (-1), 1) := by decide +kernel
theorem dX8_about_9 : decode cX8_about 9 = .ok (.ireturn, 1) := by decide +kernel
theorem dX8_about_10 : decode cX8_about 10 = .ok (.iload_n 2, 1) := by decide +kernel
theorem dX8_about_11 : decode cX8_about 11 = .ok (.tableswitch 161 0 5 #[37, 47, 74, 102, 115, 125], 37) := by decide +kernel
theorem dX8_about_48 : decode cX8_about 48 = .ok (.aload_n 0, 1) := by decide +kernel
theorem dX8_about_49 : decode cX8_about 49 = .ok (.getfield 19, 3) := by decide +kernel
theorem dX8_about_52 : decode cX8_about 52 = .ok (.getfield 130, 3) := by decide +kernel
theorem dX8_about_55 : decode cX8_about 55 = .ok (.iload_n 1, 1) := by decide +kernel
theorem dX8_about_56 : decode cX8_about 56 = .ok (.iaload, 1) := by decide +kernel
theorem dX8_about_57 : decode cX8_about 57 = .ok (.ireturn, 1) := by decide +kernel
theorem dX8_about_58 : decode cX8_about 58 = .ok (.aload_n 0, 1) := by decide +kernel
theorem dX8_about_59 : decode cX8_about 59 = .ok (.getfield 19, 3) := by decide +kernel
theorem dX8_about_62 : decode cX8_about 62 = .ok (.getfield 130, 3) := by decide +kernel
theorem dX8_about_65 : decode cX8_about 65 = .ok (.iload_n 1, 1) := by decide +kernel
theorem dX8_about_66 : decode cX8_about 66 = .ok (.iaload, 1) := by decide +kernel
theorem dX8_about_67 : decode cX8_about 67 = .ok (.ifCond .ne 15, 3) := by decide +kernel
theorem dX8_about_70 : decode cX8_about 70 = .ok (.aload_n 0, 1) := by decide +kernel
theorem dX8_about_71 : decode cX8_about 71 = .ok (.getfield 19, 3) := by decide +kernel
theorem dX8_about_74 : decode cX8_about 74 = .ok (.getfield 133, 3) := by decide +kernel
theorem dX8_about_77 : decode cX8_about 77 = .ok (.iload_n 1, 1) := by decide +kernel
theorem dX8_about_78 : decode cX8_about 78 = .ok (.iaload, 1) := by decide +kernel
theorem dX8_about_79 : decode cX8_about 79 = .ok (.goto 5, 3) := by decide +kernel
theorem dX8_about_82 : decode cX8_about 82 = .ok (.bipush (-9), 2) := by decide +kernel
theorem dX8_about_84 : decode cX8_about 84 = .ok (.ireturn, 1) := by decide +kernel
theorem dX8_about_85 : decode cX8_about 85 = .ok (.aload_n 0, 1) := by decide +kernel
theorem dX8_about_86 : decode cX8_about 86 = .ok (.getfield 19, 3) := by decide +kernel
theorem dX8_about_89 : decode cX8_about 89 = .ok (.getfield 130, 3) := by decide +kernel
theorem dX8_about_92 : decode cX8_about 92 = .ok (.iload_n 1, 1) := by decide +kernel
theorem dX8_about_93 : decode cX8_about 93 = .ok (.iaload, 1) := by decide +kernel
theorem dX8_about_94 : decode cX8_about 94 = .ok (.iconst 1, 1) := by decide +kernel
theorem dX8_about_95 : decode cX8_about 95 = .ok (.if_icmp .ne 15, 3) := by decide +kernel
theorem dX8_about_98 : decode cX8_about 98 = .ok (.aload_n 0, 1) := by decide +kernel
theorem dX8_about_99 : decode cX8_about 99 = .ok (.getfield 19, 3) := by decide +kernel
theorem dX8_about_102 : decode cX8_about 102 = .ok (.getfield 133, 3) := by decide +kernel
theorem dX8_about_105 : decode cX8_about 105 = .ok (.iload_n 1, 1) := by decide +kernel
theorem dX8_about_106 : decode cX8_about 106 = .ok (.iaload, 1) := by decide +kernel
theorem dX8_about_107 : decode cX8_about 107 = .ok (.goto 5, 3) := by decide +kernel
theorem dX8_about_110 : decode cX8_about 110 = .ok (.bipush (-9), 2) := by decide +kernel
theorem dX8_about_112 : decode cX8_about 112 = .ok (.ireturn, 1) := by decide +kernel
theorem dX8_about_113 : decode cX8_about 113 = .ok (.aload_n 0, 1) := by decide +kernel
theorem dX8_about_114 : decode cX8_about 114 = .ok (.getfield 19, 3) := by decide +kernel
theorem dX8_about_117 : decode cX8_about 117 = .ok (.getfield 136, 3) := by decide +kernel
theorem dX8_about_120 : decode cX8_about 120 = .ok (.iload_n 1, 1) := by decide +kernel
theorem dX8_about_121 : decode cX8_about 121 = .ok (.iaload, 1) := by decide +kernel
theorem dX8_about_122 : decode cX8_about 122 = .ok (.invokestatic 139, 3) := by decide +kernel
theorem dX8_about_125 : decode cX8_about 125 = .ok (.ireturn, 1) := by decide +kernel
theorem dX8_about_126 : decode cX8_about 126 = .ok (.aload_n 0, 1) := by decide +kernel
theorem dX8_about_127 : decode cX8_about 127 = .ok (.getfield 19, 3) := by decide +kernel
theorem dX8_about_130 : decode cX8_about 130 = .ok (.getfield 143, 3) := by decide +kernel
theorem dX8_about_133 : decode cX8_about 133 = .ok (.iload_n 1, 1) := by decide +kernel
theorem dX8_about_134 : decode cX8_about 134 = .ok (.iaload, 1) := by decide +kernel
theorem dX8_about_135 : decode cX8_about 135 = .ok (.ireturn, 1) := by decide +kernel
theorem dX8_about_136 : decode cX8_about 136 = .ok (.aload_n 0, 1) := by decide +kernel
theorem dX8_about_137 : decode cX8_about 137 = .ok (.getfield 38, 3) := by decide +kernel
theorem dX8_about_140 : decode cX8_about 140 = .ok (.getfield 146, 3) := by decide +kernel
theorem dX8_about_143 : decode cX8_about 143 = .ok (.iconst 0, 1) := by decide +kernel
theorem dX8_about_144 : decode cX8_about 144 = .ok (.aload_n 0, 1) := by decide +kernel
theorem dX8_about_145 : decode cX8_about 145 = .ok (.getfield 80, 3) := by decide +kernel
theorem dX8_about_148 : decode cX8_about 148 = .ok (.iconst 0, 1) := by decide +kernel
theorem dX8_about_149 : decode cX8_about 149 = .ok (.bipush 12, 2) := by decide +kernel
theorem dX8_about_151 : decode cX8_about 151 = .ok (.invokestatic 149, 3) := by decide +kernel
theorem dX8_about_154 : decode cX8_about 154 = .ok (.aload_n 0, 1) := by decide +kernel
theorem dX8_about_155 : decode cX8_about 155 = .ok (.getfield 19, 3) := by decide +kernel
theorem dX8_about_158 : decode cX8_about 158 = .ok (.aload_n 0, 1) := by decide +kernel
theorem dX8_about_159 : decode cX8_about 159 = .ok (.getfield 80, 3) := by decide +kernel
theorem dX8_about_162 : decode cX8_about 162 = .ok (.invokevirtual 155, 3) := by decide +kernel
theorem dX8_about_165 : decode cX8_about 165 = .ok (.aload_n 0, 1) := by decide +kernel
theorem dX8_about_166 : decode cX8_about 166 = .ok (.getfield 80, 3) := by decide +kernel
theorem dX8_about_169 : decode cX8_about 169 = .ok (.iload_n 1, 1) := by decide +kernel
theorem dX8_about_170 : decode cX8_about 170 = .ok (.iaload, 1) := by decide +kernel
theorem dX8_about_171 : decode cX8_about 171 = .ok (.ireturn, 1) := by decide +kernel
theorem dX8_about_172 : decode cX8_about 172 = .ok (.iconst (-1), 1) := by decide +kernel
theorem dX8_about_173 : decode cX8_about 173 = .ok (.ireturn, 1) := by decide +kernel
theorem bX8_about_0 {d : Nat} {Q : Option jA → jH → Prop} (a0 : Nat) (i1 : Int) (i2 : Int) (h : jH)
    (s1 : (jS h a0).1 = 8)
    (s2 : (jS h (jP h a0 1)).1 = 2)
    (s3 : (jS h (jP h (jP h a0 1) 4)).1 = 16)
    (s4 : (0 ≤ i1 ∧ i1 < (jI h (jP h a0 1) 0)) → (i2 = 0) → 0 ≤ i1)
    (s5 : (0 ≤ i1 ∧ i1 < (jI h (jP h a0 1) 0)) → (i2 = 0) → i1 < ((jS h (jP h (jP h a0 1) 4)).2 : Int))
    (q1 : (0 ≤ i1 ∧ i1 < (jI h (jP h a0 1) 0)) → (i2 = 0) → Q (some (.inl (jX h (jP h (jP h a0 1) 4) ((i1).toNat)))) h)
    (s6 : (0 ≤ i1 ∧ i1 < (jI h (jP h a0 1) 0)) → (¬ (i2 = 0)) → (i2 = 1) → 0 ≤ i1)
    (s7 : (0 ≤ i1 ∧ i1 < (jI h (jP h a0 1) 0)) → (¬ (i2 = 0)) → (i2 = 1) → i1 < ((jS h (jP h (jP h a0 1) 4)).2 : Int))
    (k1 : (0 ≤ i1 ∧ i1 < (jI h (jP h a0 1) 0)) → (¬ (i2 = 0)) → (i2 = 1) → ((jX h (jP h (jP h a0 1) 4) ((i1).toNat)) ≠ 0) → V MX8_about (d + 3) 84 [some (.inr a0), some (.inl i1), some (.inl i2)] [.inl ((-9))] h 0 0 Q)
    (s8 : (jS h (jP h (jP h a0 1) 5)).1 = 16)
    (s9 : (0 ≤ i1 ∧ i1 < (jI h (jP h a0 1) 0)) → (¬ (i2 = 0)) → (i2 = 1) → ((jX h (jP h (jP h a0 1) 4) ((i1).toNat)) = 0) → i1 < ((jS h (jP h (jP h a0 1) 5)).2 : Int))
    (k2 : (0 ≤ i1 ∧ i1 < (jI h (jP h a0 1) 0)) → (¬ (i2 = 0)) → (i2 = 1) → ((jX h (jP h (jP h a0 1) 4) ((i1).toNat)) = 0) → V MX8_about (d + 3) 84 [some (.inr a0), some (.inl i1), some (.inl i2)] [.inl (jX h (jP h (jP h a0 1) 5) ((i1).toNat))] h 0 0 Q)
    (s10 : (0 ≤ i1 ∧ i1 < (jI h (jP h a0 1) 0)) → (¬ (i2 = 0)) → (¬ (i2 = 1)) → (i2 = 2) → 0 ≤ i1)
    (s11 : (0 ≤ i1 ∧ i1 < (jI h (jP h a0 1) 0)) → (¬ (i2 = 0)) → (¬ (i2 = 1)) → (i2 = 2) → i1 < ((jS h (jP h (jP h a0 1) 4)).2 : Int))
    (k3 : (0 ≤ i1 ∧ i1 < (jI h (jP h a0 1) 0)) → (¬ (i2 = 0)) → (¬ (i2 = 1)) → (i2 = 2) → ((jX h (jP h (jP h a0 1) 4) ((i1).toNat)) ≠ 1) → V MX8_about (d + 3) 112 [some (.inr a0), some (.inl i1), some (.inl i2)] [.inl ((-9))] h 0 0 Q)
    (s12 : (0 ≤ i1 ∧ i1 < (jI h (jP h a0 1) 0)) → (¬ (i2 = 0)) → (¬ (i2 = 1)) → (i2 = 2) → ((jX h (jP h (jP h a0 1) 4) ((i1).toNat)) = 1) → i1 < ((jS h (jP h (jP h a0 1) 5)).2 : Int))
    (k4 : (0 ≤ i1 ∧ i1 < (jI h (jP h a0 1) 0)) → (¬ (i2 = 0)) → (¬ (i2 = 1)) → (i2 = 2) → ((jX h (jP h (jP h a0 1) 4) ((i1).toNat)) = 1) → V MX8_about (d + 3) 112 [some (.inr a0), some (.inl i1), some (.inl i2)] [.inl (jX h (jP h (jP h a0 1) 5) ((i1).toNat))] h 0 0 Q)
    (s13 : (jS h (jP h (jP h a0 1) 6)).1 = 16)
    (s14 : (0 ≤ i1 ∧ i1 < (jI h (jP h a0 1) 0)) → (¬ (i2 = 0)) → (¬ (i2 = 1)) → (¬ (i2 = 2)) → (i2 = 3) → 0 ≤ i1)
    (s15 : (0 ≤ i1 ∧ i1 < (jI h (jP h a0 1) 0)) → (¬ (i2 = 0)) → (¬ (i2 = 1)) → (¬ (i2 = 2)) → (i2 = 3) → i1 < ((jS h (jP h (jP h a0 1) 6)).2 : Int))
    (q2 : (0 ≤ i1 ∧ i1 < (jI h (jP h a0 1) 0)) → (¬ (i2 = 0)) → (¬ (i2 = 1)) → (¬ (i2 = 2)) → (i2 = 3) → Q (some (.inl (jorn (jX h (jP h (jP h a0 1) 6) ((i1).toNat))))) h)
    (s16 : (jS h (jP h (jP h a0 1) 7)).1 = 16)
    (s17 : (0 ≤ i1 ∧ i1 < (jI h (jP h a0 1) 0)) → (¬ (i2 = 0)) → (¬ (i2 = 1)) → (¬ (i2 = 2)) → (¬ (i2 = 3)) → (i2 = 4) → 0 ≤ i1)
    (s18 : (0 ≤ i1 ∧ i1 < (jI h (jP h a0 1) 0)) → (¬ (i2 = 0)) → (¬ (i2 = 1)) → (¬ (i2 = 2)) → (¬ (i2 = 3)) → (i2 = 4) → i1 < ((jS h (jP h (jP h a0 1) 7)).2 : Int))
    (q3 : (0 ≤ i1 ∧ i1 < (jI h (jP h a0 1) 0)) → (¬ (i2 = 0)) → (¬ (i2 = 1)) → (¬ (i2 = 2)) → (¬ (i2 = 3)) → (i2 = 4) → Q (some (.inl (jX h (jP h (jP h a0 1) 7) ((i1).toNat)))) h)
    (s19 : (jS h (jP h a0 4)).1 = 6)
    (s20 : (jS h (jP h (jP h a0 4) 6)).1 = 16)
    (s21 : (jS h (jP h a0 13)).1 = 16)
    (s22 : (0 ≤ i1 ∧ i1 < (jI h (jP h a0 1) 0)) → (¬ (i2 = 0)) → (¬ (i2 = 1)) → (¬ (i2 = 2)) → (¬ (i2 = 3)) → (¬ (i2 = 4)) → (i2 = 5) → 0 + 12 ≤ ((jS h (jP h (jP h a0 4) 6)).2 : Int))
    (s23 : (0 ≤ i1 ∧ i1 < (jI h (jP h a0 1) 0)) → (¬ (i2 = 0)) → (¬ (i2 = 1)) → (¬ (i2 = 2)) → (¬ (i2 = 3)) → (¬ (i2 = 4)) → (i2 = 5) → 0 + 12 ≤ ((jS h (jP h a0 13)).2 : Int))
    (e1 : (0 ≤ i1 ∧ i1 < (jI h (jP h a0 1) 0)) → (¬ (i2 = 0)) → (¬ (i2 = 1)) → (¬ (i2 = 2)) → (¬ (i2 = 3)) → (¬ (i2 = 4)) → (i2 = 5) → Ex MX2_complete (d + 2) [.inr (jP h a0 1), .inr (jP h a0 13)] (jcpy h (jP h (jP h a0 4) 6) 0 (jP h a0 13) 0 12) 0 0 (fun v h2 => V MX8_about (d + 3) 165 [some (.inr a0), some (.inl i1), some (.inl i2)] (v.toList ++ []) h2 0 0 Q))
    (q4 : (0 ≤ i1 ∧ i1 < (jI h (jP h a0 1) 0)) → (¬ (i2 = 0)) → (¬ (i2 = 1)) → (¬ (i2 = 2)) → (¬ (i2 = 3)) → (¬ (i2 = 4)) → (¬ (i2 = 5)) → Q (some (.inl ((-1)))) h)
    (q5 : (¬ (0 ≤ i1 ∧ i1 < (jI h (jP h a0 1) 0))) → Q (some (.inl ((-1)))) h) :
    V MX8_about (d + 3) 0 [some (.inr a0), some (.inl i1), some (.inl i2)] [] h 0 0 Q := by
  refine V_aload_n (i := 0) dX8_about_0 rfl rfl ?_
  refine V_iload_n (i := 1) dX8_about_1 rfl rfl ?_
  refine V_callV (M := MX8_about) (d := (d + 3)) (mc' := 0) (ms' := 0) (mc := 0) (ms := 0) (As := [.inl i1]) (rest := []) dX8_about_2 tX8_isSignal vX8_isSignal lX8_126 s1 ⟨by decide, rfl⟩ rfl rfl (Nat.le_of_ble_eq_true rfl) (show d + 1 ≤ (d + 3) by omega) (Ex.mono (pX8_isSignal (d := d) s1 s2) ?_)
  intro v h2 hq
  rw [hq.1, hq.2]
  show V MX8_about (d + 3) 5 [some (.inr a0), some (.inl i1), some (.inl i2)] [.inl (jb (0 ≤ i1 ∧ i1 < (jI h (jP h a0 1) 0)))] h 0 0 Q
  refine V_ifb_ne (tgt := 10) dX8_about_5 (by decide) (fun c1 => ?_) (fun c1 => ?_)
  · refine V_iload_n (i := 2) dX8_about_10 rfl rfl ?_
    by_cases c2 : i2 = 0
    · refine V_tabIn (off := 37) (tgt := 48) dX8_about_11 (by omega) (by omega) (by rw [c2]; rfl) (by decide) ?_
      refine V_aload_n (i := 0) dX8_about_48 rfl rfl ?_
      refine V_getP dX8_about_49 fX8_19 rfl s1 ?_
      refine V_getP dX8_about_52 fX8_130 rfl s2 ?_
      refine V_iload_n (i := 1) dX8_about_55 rfl rfl ?_
      refine V_iald dX8_about_56 s3 (s4 c1 c2) (s5 c1 c2) ?_
      exact V_reti rfl dX8_about_57 (q1 c1 c2)
    by_cases c3 : i2 = 1
    · refine V_tabIn (off := 47) (tgt := 58) dX8_about_11 (by omega) (by omega) (by rw [c3]; rfl) (by decide) ?_
      refine V_aload_n (i := 0) dX8_about_58 rfl rfl ?_
      refine V_getP dX8_about_59 fX8_19 rfl s1 ?_
      refine V_getP dX8_about_62 fX8_130 rfl s2 ?_
      refine V_iload_n (i := 1) dX8_about_65 rfl rfl ?_
      refine V_iald dX8_about_66 s3 (s6 c1 c2 c3) (s7 c1 c2 c3) ?_
      refine V_if_ne (tgt := 82) dX8_about_67 (by decide) (fun c4 => ?_) (fun c4 => ?_)
      · refine V_bipush dX8_about_82 (by decide +kernel) ⟨by decide, by decide⟩ ?_
        exact (k1 c1 c2 c3 c4)
      · refine V_aload_n (i := 0) dX8_about_70 rfl rfl ?_
        refine V_getP dX8_about_71 fX8_19 rfl s1 ?_
        refine V_getP dX8_about_74 fX8_133 rfl s2 ?_
        refine V_iload_n (i := 1) dX8_about_77 rfl rfl ?_
        refine V_iald dX8_about_78 s8 (s6 c1 c2 c3) (s9 c1 c2 c3 c4) ?_
        refine V_goto (tgt := 84) dX8_about_79 (by decide) ?_
        exact (k2 c1 c2 c3 c4)
    by_cases c5 : i2 = 2
    · refine V_tabIn (off := 74) (tgt := 85) dX8_about_11 (by omega) (by omega) (by rw [c5]; rfl) (by decide) ?_
      refine V_aload_n (i := 0) dX8_about_85 rfl rfl ?_
      refine V_getP dX8_about_86 fX8_19 rfl s1 ?_
      refine V_getP dX8_about_89 fX8_130 rfl s2 ?_
      refine V_iload_n (i := 1) dX8_about_92 rfl rfl ?_
      refine V_iald dX8_about_93 s3 (s10 c1 c2 c3 c5) (s11 c1 c2 c3 c5) ?_
      refine V_iconst dX8_about_94 ⟨by decide, by decide⟩ ?_
      refine V_icmp_ne (tgt := 110) dX8_about_95 (by decide) (fun c6 => ?_) (fun c6 => ?_)
      · refine V_bipush dX8_about_110 (by decide +kernel) ⟨by decide, by decide⟩ ?_
        exact (k3 c1 c2 c3 c5 c6)
      · refine V_aload_n (i := 0) dX8_about_98 rfl rfl ?_
        refine V_getP dX8_about_99 fX8_19 rfl s1 ?_
        refine V_getP dX8_about_102 fX8_133 rfl s2 ?_
        refine V_iload_n (i := 1) dX8_about_105 rfl rfl ?_
        refine V_iald dX8_about_106 s8 (s10 c1 c2 c3 c5) (s12 c1 c2 c3 c5 c6) ?_
        refine V_goto (tgt := 112) dX8_about_107 (by decide) ?_
        exact (k4 c1 c2 c3 c5 c6)
    by_cases c7 : i2 = 3
    · refine V_tabIn (off := 102) (tgt := 113) dX8_about_11 (by omega) (by omega) (by rw [c7]; rfl) (by decide) ?_
      refine V_aload_n (i := 0) dX8_about_113 rfl rfl ?_
      refine V_getP dX8_about_114 fX8_19 rfl s1 ?_
      refine V_getP dX8_about_117 fX8_136 rfl s2 ?_
      refine V_iload_n (i := 1) dX8_about_120 rfl rfl ?_
      refine V_iald dX8_about_121 s13 (s14 c1 c2 c3 c5 c7) (s15 c1 c2 c3 c5 c7) ?_
      refine V_callS (M := MX8_about) (d := (d + 3)) (mc' := 0) (ms' := 0) (mc := 0) (ms := 0) (a := 0) (As := [.inl (jX h (jP h (jP h a0 1) 6) ((i1).toNat))]) (rest := []) dX8_about_122 tX8_orNone sX8_orNone lX8_139 rfl rfl (Nat.le_of_ble_eq_true rfl) (show d + 1 ≤ (d + 3) by omega) (Ex.mono (pX8_orNone (d := d) ) ?_)
      intro v h2 hq
      rw [hq.1, hq.2]
      show V MX8_about (d + 3) 125 [some (.inr a0), some (.inl i1), some (.inl i2)] [.inl (jorn (jX h (jP h (jP h a0 1) 6) ((i1).toNat)))] h 0 0 Q
      exact V_reti rfl dX8_about_125 (q2 c1 c2 c3 c5 c7)
    by_cases c8 : i2 = 4
    · refine V_tabIn (off := 115) (tgt := 126) dX8_about_11 (by omega) (by omega) (by rw [c8]; rfl) (by decide) ?_
      refine V_aload_n (i := 0) dX8_about_126 rfl rfl ?_
      refine V_getP dX8_about_127 fX8_19 rfl s1 ?_
      refine V_getP dX8_about_130 fX8_143 rfl s2 ?_
      refine V_iload_n (i := 1) dX8_about_133 rfl rfl ?_
      refine V_iald dX8_about_134 s16 (s17 c1 c2 c3 c5 c7 c8) (s18 c1 c2 c3 c5 c7 c8) ?_
      exact V_reti rfl dX8_about_135 (q3 c1 c2 c3 c5 c7 c8)
    by_cases c9 : i2 = 5
    · refine V_tabIn (off := 125) (tgt := 136) dX8_about_11 (by omega) (by omega) (by rw [c9]; rfl) (by decide) ?_
      refine V_aload_n (i := 0) dX8_about_136 rfl rfl ?_
      refine V_getP dX8_about_137 fX8_38 rfl s1 ?_
      refine V_getP dX8_about_140 fX8_146 rfl s19 ?_
      refine V_iconst dX8_about_143 ⟨by decide, by decide⟩ ?_
      refine V_aload_n (i := 0) dX8_about_144 rfl rfl ?_
      refine V_getP dX8_about_145 fX8_80 rfl s1 ?_
      refine V_iconst dX8_about_148 ⟨by decide, by decide⟩ ?_
      refine V_bipush dX8_about_149 (by decide +kernel) ⟨by decide, by decide⟩ ?_
      refine V_copy dX8_about_151 lX8_149 jacN jacS jacY s20 s21 (by decide) (by decide) (by decide) (s22 c1 c2 c3 c5 c7 c8 c9) (s23 c1 c2 c3 c5 c7 c8 c9) (Nat.le_of_ble_eq_true rfl) ?_
      refine V_aload_n (i := 0) dX8_about_154 rfl rfl ?_
      refine V_getP dX8_about_155 fX8_19 rfl s1 ?_
      refine V_aload_n (i := 0) dX8_about_158 rfl rfl ?_
      refine V_getP dX8_about_159 fX8_80 rfl s1 ?_
      exact V_callV (M := MX8_about) (d := (d + 3)) (mc' := 0) (ms' := 0) (mc := 0) (ms := 0) (As := [.inr (jP h a0 13)]) (rest := []) dX8_about_162 tX2_complete vX2_complete lX8_155 s2 ⟨by decide, rfl⟩ rfl rfl (Nat.le_of_ble_eq_true rfl) (show (d + 2) + 1 ≤ (d + 3) by omega) (e1 c1 c2 c3 c5 c7 c8 c9)
    refine V_tabOut (tgt := 172) dX8_about_11 (by omega) (by decide) ?_
    refine V_iconst dX8_about_172 ⟨by decide, by decide⟩ ?_
    exact V_reti rfl dX8_about_173 (q4 c1 c2 c3 c5 c7 c8 c9)
  · refine V_iconst dX8_about_8 ⟨by decide, by decide⟩ ?_
    exact V_reti rfl dX8_about_9 (q5 c1)
theorem bX8_about_84 {d : Nat} {Q : Option jA → jH → Prop} (a0 : Nat) (i1 : Int) (i2 : Int) (p0 : Int) (h : jH)
    (q1 : Q (some (.inl p0)) h) :
    V MX8_about (d + 3) 84 [some (.inr a0), some (.inl i1), some (.inl i2)] [.inl p0] h 0 0 Q := by
  exact V_reti rfl dX8_about_84 q1
theorem bX8_about_112 {d : Nat} {Q : Option jA → jH → Prop} (a0 : Nat) (i1 : Int) (i2 : Int) (p0 : Int) (h : jH)
    (q1 : Q (some (.inl p0)) h) :
    V MX8_about (d + 3) 112 [some (.inr a0), some (.inl i1), some (.inl i2)] [.inl p0] h 0 0 Q := by
  exact V_reti rfl dX8_about_112 q1
theorem bX8_about_165 {d : Nat} {Q : Option jA → jH → Prop} (a0 : Nat) (i1 : Int) (i2 : Int) (h : jH)
    (s1 : (jS h a0).1 = 8)
    (s2 : (jS h (jP h a0 13)).1 = 16)
    (s3 : 0 ≤ i1)
    (s4 : i1 < ((jS h (jP h a0 13)).2 : Int))
    (q1 : Q (some (.inl (jX h (jP h a0 13) ((i1).toNat)))) h) :
    V MX8_about (d + 3) 165 [some (.inr a0), some (.inl i1), some (.inl i2)] [] h 0 0 Q := by
  refine V_aload_n (i := 0) dX8_about_165 rfl rfl ?_
  refine V_getP dX8_about_166 fX8_80 rfl s1 ?_
  refine V_iload_n (i := 1) dX8_about_169 rfl rfl ?_
  refine V_iald dX8_about_170 s2 s3 s4 ?_
  exact V_reti rfl dX8_about_171 q1
theorem dX8_scope_0 : decode cX8_scope 0 = .ok (.iload_n 1, 1) := by decide +kernel
theorem dX8_scope_1 : decode cX8_scope 1 = .ok (.ifCond .lt 14, 3) := by decide +kernel
theorem dX8_scope_4 : decode cX8_scope 4 = .ok (.iload_n 1, 1) := by decide +kernel
theorem dX8_scope_5 : decode cX8_scope 5 = .ok (.aload_n 0, 1) := by decide +kernel
theorem dX8_scope_6 : decode cX8_scope 6 = .ok (.getfield 19, 3) := by decide +kernel
theorem dX8_scope_9 : decode cX8_scope 9 = .ok (.getfield 159, 3) := by decide +kernel
theorem dX8_scope_12 : decode cX8_scope 12 = .ok (.if_icmp .lt 5, 3) := by decide +kernel
theorem dX8_scope_15 : decode cX8_scope 15 = .ok (.iconst (-1), 1) := by decide +kernel
theorem dX8_scope_16 : decode cX8_scope 16 = .ok (.ireturn, 1) := by decide +kernel
theorem dX8_scope_17 : decode cX8_scope 17 = .ok (.iload_n 2, 1) := by decide +kernel
theorem dX8_scope_18 : decode cX8_scope 18 = .ok (.lookupswitch 49 #[(0, 26), (1, 39)], 26) := by decide +kernel
theorem dX8_scope_44 : decode cX8_scope 44 = .ok (.aload_n 0, 1) := by decide +kernel
theorem dX8_scope_45 : decode cX8_scope 45 = .ok (.getfield 19, 3) := by decide +kernel
theorem dX8_scope_48 : decode cX8_scope 48 = .ok (.getfield 162, 3) := by decide +kernel
theorem dX8_scope_51 : decode cX8_scope 51 = .ok (.iload_n 1, 1) := by decide +kernel
theorem dX8_scope_52 : decode cX8_scope 52 = .ok (.iaload, 1) := by decide +kernel
theorem dX8_scope_53 : decode cX8_scope 53 = .ok (.invokestatic 139, 3) := by decide +kernel
theorem dX8_scope_56 : decode cX8_scope 56 = .ok (.ireturn, 1) := by decide +kernel
theorem dX8_scope_57 : decode cX8_scope 57 = .ok (.aload_n 0, 1) := by decide +kernel
theorem dX8_scope_58 : decode cX8_scope 58 = .ok (.getfield 19, 3) := by decide +kernel
theorem dX8_scope_61 : decode cX8_scope 61 = .ok (.getfield 165, 3) := by decide +kernel
theorem dX8_scope_64 : decode cX8_scope 64 = .ok (.iload_n 1, 1) := by decide +kernel
theorem dX8_scope_65 : decode cX8_scope 65 = .ok (.iaload, 1) := by decide +kernel
theorem dX8_scope_66 : decode cX8_scope 66 = .ok (.ireturn, 1) := by decide +kernel
theorem dX8_scope_67 : decode cX8_scope 67 = .ok (.iconst (-1), 1) := by decide +kernel
theorem dX8_scope_68 : decode cX8_scope 68 = .ok (.ireturn, 1) := by decide +kernel
theorem bX8_scope_0 {d : Nat} {Q : Option jA → jH → Prop} (a0 : Nat) (i1 : Int) (i2 : Int) (h : jH)
    (q1 : (i1 < 0) → Q (some (.inl ((-1)))) h)
    (s1 : (jS h a0).1 = 8)
    (s2 : (jS h (jP h a0 1)).1 = 2)
    (s3 : (jS h (jP h (jP h a0 1) 8)).1 = 16)
    (s4 : (¬ (i1 < 0)) → (i1 < (jI h (jP h a0 1) 3)) → (i2 = 0) → 0 ≤ i1)
    (s5 : (¬ (i1 < 0)) → (i1 < (jI h (jP h a0 1) 3)) → (i2 = 0) → i1 < ((jS h (jP h (jP h a0 1) 8)).2 : Int))
    (q2 : (¬ (i1 < 0)) → (i1 < (jI h (jP h a0 1) 3)) → (i2 = 0) → Q (some (.inl (jorn (jX h (jP h (jP h a0 1) 8) ((i1).toNat))))) h)
    (s6 : (jS h (jP h (jP h a0 1) 9)).1 = 16)
    (s7 : (¬ (i1 < 0)) → (i1 < (jI h (jP h a0 1) 3)) → (¬ (i2 = 0)) → (i2 = 1) → 0 ≤ i1)
    (s8 : (¬ (i1 < 0)) → (i1 < (jI h (jP h a0 1) 3)) → (¬ (i2 = 0)) → (i2 = 1) → i1 < ((jS h (jP h (jP h a0 1) 9)).2 : Int))
    (q3 : (¬ (i1 < 0)) → (i1 < (jI h (jP h a0 1) 3)) → (¬ (i2 = 0)) → (i2 = 1) → Q (some (.inl (jX h (jP h (jP h a0 1) 9) ((i1).toNat)))) h)
    (q4 : (¬ (i1 < 0)) → (i1 < (jI h (jP h a0 1) 3)) → (¬ (i2 = 0)) → (¬ (i2 = 1)) → Q (some (.inl ((-1)))) h)
    (q5 : (¬ (i1 < 0)) → (¬ (i1 < (jI h (jP h a0 1) 3))) → Q (some (.inl ((-1)))) h) :
    V MX8_scope (d + 1) 0 [some (.inr a0), some (.inl i1), some (.inl i2)] [] h 0 0 Q := by
  refine V_iload_n (i := 1) dX8_scope_0 rfl rfl ?_
  refine V_if_lt (tgt := 15) dX8_scope_1 (by decide) (fun c1 => ?_) (fun c1 => ?_)
  · refine V_iconst dX8_scope_15 ⟨by decide, by decide⟩ ?_
    exact V_reti rfl dX8_scope_16 (q1 c1)
  · refine V_iload_n (i := 1) dX8_scope_4 rfl rfl ?_
    refine V_aload_n (i := 0) dX8_scope_5 rfl rfl ?_
    refine V_getP dX8_scope_6 fX8_19 rfl s1 ?_
    refine V_getI dX8_scope_9 fX8_159 rfl s2 ?_
    refine V_icmp_lt (tgt := 17) dX8_scope_12 (by decide) (fun c2 => ?_) (fun c2 => ?_)
    · refine V_iload_n (i := 2) dX8_scope_17 rfl rfl ?_
      by_cases c3 : i2 = 0
      · refine V_look (off := 26) (tgt := 44) dX8_scope_18 (by decide) (by rw [c3]; decide) (by decide) ?_
        refine V_aload_n (i := 0) dX8_scope_44 rfl rfl ?_
        refine V_getP dX8_scope_45 fX8_19 rfl s1 ?_
        refine V_getP dX8_scope_48 fX8_162 rfl s2 ?_
        refine V_iload_n (i := 1) dX8_scope_51 rfl rfl ?_
        refine V_iald dX8_scope_52 s3 (s4 c1 c2 c3) (s5 c1 c2 c3) ?_
        refine V_callS (M := MX8_scope) (d := (d + 1)) (mc' := 0) (ms' := 0) (mc := 0) (ms := 0) (a := 0) (As := [.inl (jX h (jP h (jP h a0 1) 8) ((i1).toNat))]) (rest := []) dX8_scope_53 tX8_orNone sX8_orNone lX8_139 rfl rfl (Nat.le_of_ble_eq_true rfl) (show d + 1 ≤ (d + 1) by omega) (Ex.mono (pX8_orNone (d := d) ) ?_)
        intro v h2 hq
        rw [hq.1, hq.2]
        show V MX8_scope (d + 1) 56 [some (.inr a0), some (.inl i1), some (.inl i2)] [.inl (jorn (jX h (jP h (jP h a0 1) 8) ((i1).toNat)))] h 0 0 Q
        exact V_reti rfl dX8_scope_56 (q2 c1 c2 c3)
      by_cases c4 : i2 = 1
      · refine V_look (off := 39) (tgt := 57) dX8_scope_18 (by decide) (by rw [c4]; decide) (by decide) ?_
        refine V_aload_n (i := 0) dX8_scope_57 rfl rfl ?_
        refine V_getP dX8_scope_58 fX8_19 rfl s1 ?_
        refine V_getP dX8_scope_61 fX8_165 rfl s2 ?_
        refine V_iload_n (i := 1) dX8_scope_64 rfl rfl ?_
        refine V_iald dX8_scope_65 s6 (s7 c1 c2 c3 c4) (s8 c1 c2 c3 c4) ?_
        exact V_reti rfl dX8_scope_66 (q3 c1 c2 c3 c4)
      refine V_look (off := 49) (tgt := 67) dX8_scope_18 (by decide) (by simp [Op.lookupswitch.offset, Ne.symm c3, Ne.symm c4, c3, c4]) (by decide) ?_
      refine V_iconst dX8_scope_67 ⟨by decide, by decide⟩ ?_
      exact V_reti rfl dX8_scope_68 (q4 c1 c2 c3 c4)
    · refine V_iconst dX8_scope_15 ⟨by decide, by decide⟩ ?_
      exact V_reti rfl dX8_scope_16 (q5 c1 c2)
theorem dX8_listed_0 : decode cX8_listed 0 = .ok (.iload_n 1, 1) := by decide +kernel
theorem dX8_listed_1 : decode cX8_listed 1 = .ok (.iconst (-1), 1) := by decide +kernel
theorem dX8_listed_2 : decode cX8_listed 2 = .ok (.if_icmp .lt 18, 3) := by decide +kernel
theorem dX8_listed_5 : decode cX8_listed 5 = .ok (.iload_n 1, 1) := by decide +kernel
theorem dX8_listed_6 : decode cX8_listed 6 = .ok (.aload_n 0, 1) := by decide +kernel
theorem dX8_listed_7 : decode cX8_listed 7 = .ok (.getfield 19, 3) := by decide +kernel
theorem dX8_listed_10 : decode cX8_listed 10 = .ok (.getfield 159, 3) := by decide +kernel
theorem dX8_listed_13 : decode cX8_listed 13 = .ok (.if_icmp .ge 7, 3) := by decide +kernel
theorem dX8_listed_16 : decode cX8_listed 16 = .ok (.iload_n 2, 1) := by decide +kernel
theorem dX8_listed_17 : decode cX8_listed 17 = .ok (.ifCond .ge 5, 3) := by decide +kernel
theorem dX8_listed_20 : decode cX8_listed 20 = .ok (.iconst (-1), 1) := by decide +kernel
theorem dX8_listed_21 : decode cX8_listed 21 = .ok (.ireturn, 1) := by decide +kernel
theorem dX8_listed_22 : decode cX8_listed 22 = .ok (.iconst 0, 1) := by decide +kernel
theorem dX8_listed_23 : decode cX8_listed 23 = .ok (.istore_n 3, 1) := by decide +kernel
theorem dX8_listed_24 : decode cX8_listed 24 = .ok (.iconst 0, 1) := by decide +kernel
theorem dX8_listed_25 : decode cX8_listed 25 = .ok (.istore 4, 2) := by decide +kernel
theorem dX8_listed_27 : decode cX8_listed 27 = .ok (.iload 4, 2) := by decide +kernel
theorem dX8_listed_29 : decode cX8_listed 29 = .ok (.bipush 26, 2) := by decide +kernel
theorem dX8_listed_31 : decode cX8_listed 31 = .ok (.if_icmp .ge 46, 3) := by decide +kernel
theorem dX8_listed_34 : decode cX8_listed 34 = .ok (.aload_n 0, 1) := by decide +kernel
theorem dX8_listed_35 : decode cX8_listed 35 = .ok (.getfield 19, 3) := by decide +kernel
theorem dX8_listed_38 : decode cX8_listed 38 = .ok (.iload_n 1, 1) := by decide +kernel
theorem dX8_listed_39 : decode cX8_listed 39 = .ok (.iload 4, 2) := by decide +kernel
theorem dX8_listed_41 : decode cX8_listed 41 = .ok (.invokevirtual 116, 3) := by decide +kernel
theorem dX8_listed_44 : decode cX8_listed 44 = .ok (.istore 5, 2) := by decide +kernel
theorem dX8_listed_46 : decode cX8_listed 46 = .ok (.iload 5, 2) := by decide +kernel
theorem dX8_listed_48 : decode cX8_listed 48 = .ok (.bipush (-9), 2) := by decide +kernel
theorem dX8_listed_50 : decode cX8_listed 50 = .ok (.if_icmp .eq 11, 3) := by decide +kernel
theorem dX8_listed_53 : decode cX8_listed 53 = .ok (.iload_n 3, 1) := by decide +kernel
theorem dX8_listed_54 : decode cX8_listed 54 = .ok (.iload_n 2, 1) := by decide +kernel
theorem dX8_listed_55 : decode cX8_listed 55 = .ok (.if_icmp .ne 6, 3) := by decide +kernel
theorem dX8_listed_58 : decode cX8_listed 58 = .ok (.iload 5, 2) := by decide +kernel
theorem dX8_listed_60 : decode cX8_listed 60 = .ok (.ireturn, 1) := by decide +kernel
theorem dX8_listed_61 : decode cX8_listed 61 = .ok (.iload 5, 2) := by decide +kernel
theorem dX8_listed_63 : decode cX8_listed 63 = .ok (.bipush (-9), 2) := by decide +kernel
theorem dX8_listed_65 : decode cX8_listed 65 = .ok (.if_icmp .eq 6, 3) := by decide +kernel
theorem dX8_listed_68 : decode cX8_listed 68 = .ok (.iinc 3 1, 3) := by decide +kernel
theorem dX8_listed_71 : decode cX8_listed 71 = .ok (.iinc 4 1, 3) := by decide +kernel
theorem dX8_listed_74 : decode cX8_listed 74 = .ok (.goto (-47), 3) := by decide +kernel
theorem dX8_listed_77 : decode cX8_listed 77 = .ok (.bipush (-9), 2) := by decide +kernel
theorem dX8_listed_79 : decode cX8_listed 79 = .ok (.ireturn, 1) := by decide +kernel
theorem bX8_listed_0 {d : Nat} {Q : Option jA → jH → Prop} (a0 : Nat) (i1 : Int) (i2 : Int) (u3 : Option jA) (u4 : Option jA) (u5 : Option jA) (h : jH)
    (q1 : (i1 < ((-1))) → Q (some (.inl ((-1)))) h)
    (s1 : (jS h a0).1 = 8)
    (s2 : (jS h (jP h a0 1)).1 = 2)
    (q2 : (¬ (i1 < ((-1)))) → ((jI h (jP h a0 1) 3) ≤ i1) → Q (some (.inl ((-1)))) h)
    (k1 : (¬ (i1 < ((-1)))) → (¬ ((jI h (jP h a0 1) 3) ≤ i1)) → (0 ≤ i2) → V MX8_listed (d + 1) 27 [some (.inr a0), some (.inl i1), some (.inl i2), some (.inl 0), some (.inl 0), u5] [] h 0 0 Q)
    (q3 : (¬ (i1 < ((-1)))) → (¬ ((jI h (jP h a0 1) 3) ≤ i1)) → (¬ (0 ≤ i2)) → Q (some (.inl ((-1)))) h) :
    V MX8_listed (d + 1) 0 [some (.inr a0), some (.inl i1), some (.inl i2), u3, u4, u5] [] h 0 0 Q := by
  refine V_iload_n (i := 1) dX8_listed_0 rfl rfl ?_
  refine V_iconst dX8_listed_1 ⟨by decide, by decide⟩ ?_
  refine V_icmp_lt (tgt := 20) dX8_listed_2 (by decide) (fun c1 => ?_) (fun c1 => ?_)
  · refine V_iconst dX8_listed_20 ⟨by decide, by decide⟩ ?_
    exact V_reti rfl dX8_listed_21 (q1 c1)
  · refine V_iload_n (i := 1) dX8_listed_5 rfl rfl ?_
    refine V_aload_n (i := 0) dX8_listed_6 rfl rfl ?_
    refine V_getP dX8_listed_7 fX8_19 rfl s1 ?_
    refine V_getI dX8_listed_10 fX8_159 rfl s2 ?_
    refine V_icmp_ge (tgt := 20) dX8_listed_13 (by decide) (fun c2 => ?_) (fun c2 => ?_)
    · refine V_iconst dX8_listed_20 ⟨by decide, by decide⟩ ?_
      exact V_reti rfl dX8_listed_21 (q2 c1 c2)
    · refine V_iload_n (i := 2) dX8_listed_16 rfl rfl ?_
      refine V_if_ge (tgt := 22) dX8_listed_17 (by decide) (fun c3 => ?_) (fun c3 => ?_)
      · refine V_iconst dX8_listed_22 ⟨by decide, by decide⟩ ?_
        refine V_istore_n (i := 3) dX8_listed_23 rfl (by decide) ?_
        refine V_iconst dX8_listed_24 ⟨by decide, by decide⟩ ?_
        refine V_istore (i := 4) dX8_listed_25 (by decide) ?_
        exact (k1 c1 c2 c3)
      · refine V_iconst dX8_listed_20 ⟨by decide, by decide⟩ ?_
        exact V_reti rfl dX8_listed_21 (q3 c1 c2 c3)
theorem bX8_listed_27 {d : Nat} {Q : Option jA → jH → Prop} (a0 : Nat) (i1 : Int) (i2 : Int) (i3 : Int) (i4 : Int) (u5 : Option jA) (h : jH)
    (q1 : (26 ≤ i4) → Q (some (.inl ((-9)))) h)
    (s1 : (jS h a0).1 = 8)
    (e1 : (¬ (26 ≤ i4)) → Ex MX2_named d [.inr (jP h a0 1), .inl i1, .inl i4] h 0 0 (fun v h2 => V MX8_listed (d + 1) 44 [some (.inr a0), some (.inl i1), some (.inl i2), some (.inl i3), some (.inl i4), u5] (v.toList ++ []) h2 0 0 Q))
    (s2 : (jS h (jP h a0 1)).1 = 2) :
    V MX8_listed (d + 1) 27 [some (.inr a0), some (.inl i1), some (.inl i2), some (.inl i3), some (.inl i4), u5] [] h 0 0 Q := by
  refine V_iload (i := 4) dX8_listed_27 rfl ?_
  refine V_bipush dX8_listed_29 (by decide +kernel) ⟨by decide, by decide⟩ ?_
  refine V_icmp_ge (tgt := 77) dX8_listed_31 (by decide) (fun c1 => ?_) (fun c1 => ?_)
  · refine V_bipush dX8_listed_77 (by decide +kernel) ⟨by decide, by decide⟩ ?_
    exact V_reti rfl dX8_listed_79 (q1 c1)
  · refine V_aload_n (i := 0) dX8_listed_34 rfl rfl ?_
    refine V_getP dX8_listed_35 fX8_19 rfl s1 ?_
    refine V_iload_n (i := 1) dX8_listed_38 rfl rfl ?_
    refine V_iload (i := 4) dX8_listed_39 rfl ?_
    exact V_callV (M := MX8_listed) (d := (d + 1)) (mc' := 0) (ms' := 0) (mc := 0) (ms := 0) (As := [.inl i1, .inl i4]) (rest := []) dX8_listed_41 tX2_named vX2_named lX8_116 s2 ⟨by decide, rfl⟩ rfl rfl (Nat.le_of_ble_eq_true rfl) (show d + 1 ≤ (d + 1) by omega) (e1 c1)
theorem bX8_listed_44 {d : Nat} {Q : Option jA → jH → Prop} (a0 : Nat) (i1 : Int) (i2 : Int) (i3 : Int) (i4 : Int) (u5 : Option jA) (p0 : Int) (h : jH)
    (r1 : (p0 = ((-9))) → (p0 = ((-9))) → jR (i4 + 1))
    (k1 : (p0 = ((-9))) → (p0 = ((-9))) → V MX8_listed (d + 1) 27 [some (.inr a0), some (.inl i1), some (.inl i2), some (.inl i3), some (.inl (i4 + 1)), some (.inl p0)] [] h 0 0 Q)
    (r2 : (p0 = ((-9))) → (¬ (p0 = ((-9)))) → jR (i3 + 1))
    (r3 : (p0 = ((-9))) → (¬ (p0 = ((-9)))) → jR (i4 + 1))
    (k2 : (p0 = ((-9))) → (¬ (p0 = ((-9)))) → V MX8_listed (d + 1) 27 [some (.inr a0), some (.inl i1), some (.inl i2), some (.inl (i3 + 1)), some (.inl (i4 + 1)), some (.inl p0)] [] h 0 0 Q)
    (r4 : (¬ (p0 = ((-9)))) → (i3 ≠ i2) → (p0 = ((-9))) → jR (i4 + 1))
    (k3 : (¬ (p0 = ((-9)))) → (i3 ≠ i2) → (p0 = ((-9))) → V MX8_listed (d + 1) 27 [some (.inr a0), some (.inl i1), some (.inl i2), some (.inl i3), some (.inl (i4 + 1)), some (.inl p0)] [] h 0 0 Q)
    (r5 : (¬ (p0 = ((-9)))) → (i3 ≠ i2) → (¬ (p0 = ((-9)))) → jR (i3 + 1))
    (r6 : (¬ (p0 = ((-9)))) → (i3 ≠ i2) → (¬ (p0 = ((-9)))) → jR (i4 + 1))
    (k4 : (¬ (p0 = ((-9)))) → (i3 ≠ i2) → (¬ (p0 = ((-9)))) → V MX8_listed (d + 1) 27 [some (.inr a0), some (.inl i1), some (.inl i2), some (.inl (i3 + 1)), some (.inl (i4 + 1)), some (.inl p0)] [] h 0 0 Q)
    (q1 : (¬ (p0 = ((-9)))) → (i3 = i2) → Q (some (.inl p0)) h) :
    V MX8_listed (d + 1) 44 [some (.inr a0), some (.inl i1), some (.inl i2), some (.inl i3), some (.inl i4), u5] [.inl p0] h 0 0 Q := by
  refine V_istore (i := 5) dX8_listed_44 (by decide) ?_
  refine V_iload (i := 5) dX8_listed_46 rfl ?_
  refine V_bipush dX8_listed_48 (by decide +kernel) ⟨by decide, by decide⟩ ?_
  refine V_icmp_eq (tgt := 61) dX8_listed_50 (by decide) (fun c1 => ?_) (fun c1 => ?_)
  · refine V_iload (i := 5) dX8_listed_61 rfl ?_
    refine V_bipush dX8_listed_63 (by decide +kernel) ⟨by decide, by decide⟩ ?_
    refine V_icmp_eq (tgt := 71) dX8_listed_65 (by decide) (fun c2 => ?_) (fun c2 => ?_)
    · refine V_iinc (i := 4) dX8_listed_71 rfl (by decide) (r1 c1 c2) ?_
      refine V_goto (tgt := 27) dX8_listed_74 (by decide) ?_
      exact (k1 c1 c2)
    · refine V_iinc (i := 3) dX8_listed_68 rfl (by decide) (r2 c1 c2) ?_
      refine V_iinc (i := 4) dX8_listed_71 rfl (by decide) (r3 c1 c2) ?_
      refine V_goto (tgt := 27) dX8_listed_74 (by decide) ?_
      exact (k2 c1 c2)
  · refine V_iload_n (i := 3) dX8_listed_53 rfl rfl ?_
    refine V_iload_n (i := 2) dX8_listed_54 rfl rfl ?_
    refine V_icmp_ne (tgt := 61) dX8_listed_55 (by decide) (fun c3 => ?_) (fun c3 => ?_)
    · refine V_iload (i := 5) dX8_listed_61 rfl ?_
      refine V_bipush dX8_listed_63 (by decide +kernel) ⟨by decide, by decide⟩ ?_
      refine V_icmp_eq (tgt := 71) dX8_listed_65 (by decide) (fun c4 => ?_) (fun c4 => ?_)
      · refine V_iinc (i := 4) dX8_listed_71 rfl (by decide) (r4 c1 c3 c4) ?_
        refine V_goto (tgt := 27) dX8_listed_74 (by decide) ?_
        exact (k3 c1 c3 c4)
      · refine V_iinc (i := 3) dX8_listed_68 rfl (by decide) (r5 c1 c3 c4) ?_
        refine V_iinc (i := 4) dX8_listed_71 rfl (by decide) (r6 c1 c3 c4) ?_
        refine V_goto (tgt := 27) dX8_listed_74 (by decide) ?_
        exact (k4 c1 c3 c4)
    · refine V_iload (i := 5) dX8_listed_58 rfl ?_
      exact V_reti rfl dX8_listed_60 (q1 c1 c3)
theorem dX8_path_0 : decode cX8_path 0 = .ok (.aload_n 0, 1) := by decide +kernel
theorem dX8_path_1 : decode cX8_path 1 = .ok (.iload_n 1, 1) := by decide +kernel
theorem dX8_path_2 : decode cX8_path 2 = .ok (.invokevirtual 126, 3) := by decide +kernel
theorem dX8_path_5 : decode cX8_path 5 = .ok (.ifCond .eq 7, 3) := by decide +kernel
theorem dX8_path_8 : decode cX8_path 8 = .ok (.iload_n 2, 1) := by decide +kernel
theorem dX8_path_9 : decode cX8_path 9 = .ok (.ifCond .ge 5, 3) := by decide +kernel
theorem dX8_path_12 : decode cX8_path 12 = .ok (.iconst (-1), 1) := by decide +kernel
theorem dX8_path_13 : decode cX8_path 13 = .ok (.ireturn, 1) := by decide +kernel
theorem dX8_path_14 : decode cX8_path 14 = .ok (.aload_n 0, 1) := by decide +kernel
theorem dX8_path_15 : decode cX8_path 15 = .ok (.getfield 19, 3) := by decide +kernel
theorem dX8_path_18 : decode cX8_path 18 = .ok (.iload_n 1, 1) := by decide +kernel
theorem dX8_path_19 : decode cX8_path 19 = .ok (.iload_n 2, 1) := by decide +kernel
theorem dX8_path_20 : decode cX8_path 20 = .ok (.invokevirtual 168, 3) := by decide +kernel
theorem dX8_path_23 : decode cX8_path 23 = .ok (.ireturn, 1) := by decide +kernel
theorem bX8_path_0 {d : Nat} {Q : Option jA → jH → Prop} (a0 : Nat) (i1 : Int) (i2 : Int) (h : jH)
    (s1 : (jS h a0).1 = 8)
    (s2 : (jS h (jP h a0 1)).1 = 2)
    (q1 : (¬ (0 ≤ i1 ∧ i1 < (jI h (jP h a0 1) 0))) → Q (some (.inl ((-1)))) h)
    (e1 : (0 ≤ i1 ∧ i1 < (jI h (jP h a0 1) 0)) → (0 ≤ i2) → Ex MX2_pathName (d + 1) [.inr (jP h a0 1), .inl i1, .inl i2] h 0 0 (fun v h2 => V MX8_path (d + 2) 23 [some (.inr a0), some (.inl i1), some (.inl i2)] (v.toList ++ []) h2 0 0 Q))
    (q2 : (0 ≤ i1 ∧ i1 < (jI h (jP h a0 1) 0)) → (¬ (0 ≤ i2)) → Q (some (.inl ((-1)))) h) :
    V MX8_path (d + 2) 0 [some (.inr a0), some (.inl i1), some (.inl i2)] [] h 0 0 Q := by
  refine V_aload_n (i := 0) dX8_path_0 rfl rfl ?_
  refine V_iload_n (i := 1) dX8_path_1 rfl rfl ?_
  refine V_callV (M := MX8_path) (d := (d + 2)) (mc' := 0) (ms' := 0) (mc := 0) (ms := 0) (As := [.inl i1]) (rest := []) dX8_path_2 tX8_isSignal vX8_isSignal lX8_126 s1 ⟨by decide, rfl⟩ rfl rfl (Nat.le_of_ble_eq_true rfl) (show d + 1 ≤ (d + 2) by omega) (Ex.mono (pX8_isSignal (d := d) s1 s2) ?_)
  intro v h2 hq
  rw [hq.1, hq.2]
  show V MX8_path (d + 2) 5 [some (.inr a0), some (.inl i1), some (.inl i2)] [.inl (jb (0 ≤ i1 ∧ i1 < (jI h (jP h a0 1) 0)))] h 0 0 Q
  refine V_ifb_eq (tgt := 12) dX8_path_5 (by decide) (fun c1 => ?_) (fun c1 => ?_)
  · refine V_iconst dX8_path_12 ⟨by decide, by decide⟩ ?_
    exact V_reti rfl dX8_path_13 (q1 c1)
  · refine V_iload_n (i := 2) dX8_path_8 rfl rfl ?_
    refine V_if_ge (tgt := 14) dX8_path_9 (by decide) (fun c2 => ?_) (fun c2 => ?_)
    · refine V_aload_n (i := 0) dX8_path_14 rfl rfl ?_
      refine V_getP dX8_path_15 fX8_19 rfl s1 ?_
      refine V_iload_n (i := 1) dX8_path_18 rfl rfl ?_
      refine V_iload_n (i := 2) dX8_path_19 rfl rfl ?_
      exact V_callV (M := MX8_path) (d := (d + 2)) (mc' := 0) (ms' := 0) (mc := 0) (ms := 0) (As := [.inl i1, .inl i2]) (rest := []) dX8_path_20 tX2_pathName vX2_pathName lX8_168 s2 ⟨by decide, rfl⟩ rfl rfl (Nat.le_of_ble_eq_true rfl) (show (d + 1) + 1 ≤ (d + 2) by omega) (e1 c1 c2)
    · refine V_iconst dX8_path_12 ⟨by decide, by decide⟩ ?_
      exact V_reti rfl dX8_path_13 (q2 c1 c2)
theorem bX8_path_23 {d : Nat} {Q : Option jA → jH → Prop} (a0 : Nat) (i1 : Int) (i2 : Int) (p0 : Int) (h : jH)
    (q1 : Q (some (.inl p0)) h) :
    V MX8_path (d + 2) 23 [some (.inr a0), some (.inl i1), some (.inl i2)] [.inl p0] h 0 0 Q := by
  exact V_reti rfl dX8_path_23 q1
theorem dX8_sets_0 : decode cX8_sets 0 = .ok (.aload_n 0, 1) := by decide +kernel
theorem dX8_sets_1 : decode cX8_sets 1 = .ok (.iload_n 1, 1) := by decide +kernel
theorem dX8_sets_2 : decode cX8_sets 2 = .ok (.invokevirtual 171, 3) := by decide +kernel
theorem dX8_sets_5 : decode cX8_sets 5 = .ok (.ifCond .eq 22, 3) := by decide +kernel
theorem dX8_sets_8 : decode cX8_sets 8 = .ok (.iload_n 2, 1) := by decide +kernel
theorem dX8_sets_9 : decode cX8_sets 9 = .ok (.ifCond .lt 18, 3) := by decide +kernel
theorem dX8_sets_12 : decode cX8_sets 12 = .ok (.iload_n 2, 1) := by decide +kernel
theorem dX8_sets_13 : decode cX8_sets 13 = .ok (.iconst 1, 1) := by decide +kernel
theorem dX8_sets_14 : decode cX8_sets 14 = .ok (.aload_n 0, 1) := by decide +kernel
theorem dX8_sets_15 : decode cX8_sets 15 = .ok (.getfield 19, 3) := by decide +kernel
theorem dX8_sets_18 : decode cX8_sets 18 = .ok (.getfield 133, 3) := by decide +kernel
theorem dX8_sets_21 : decode cX8_sets 21 = .ok (.iload_n 1, 1) := by decide +kernel
theorem dX8_sets_22 : decode cX8_sets 22 = .ok (.iaload, 1) := by decide +kernel
theorem dX8_sets_23 : decode cX8_sets 23 = .ok (.ishl, 1) := by decide +kernel
theorem dX8_sets_24 : decode cX8_sets 24 = .ok (.if_icmp .lt 5, 3) := by decide +kernel
theorem dX8_sets_27 : decode cX8_sets 27 = .ok (.iconst (-1), 1) := by decide +kernel
theorem dX8_sets_28 : decode cX8_sets 28 = .ok (.ireturn, 1) := by decide +kernel
theorem dX8_sets_29 : decode cX8_sets 29 = .ok (.aload_n 0, 1) := by decide +kernel
theorem dX8_sets_30 : decode cX8_sets 30 = .ok (.getfield 38, 3) := by decide +kernel
theorem dX8_sets_33 : decode cX8_sets 33 = .ok (.getfield 146, 3) := by decide +kernel
theorem dX8_sets_36 : decode cX8_sets 36 = .ok (.iload_n 1, 1) := by decide +kernel
theorem dX8_sets_37 : decode cX8_sets 37 = .ok (.iaload, 1) := by decide +kernel
theorem dX8_sets_38 : decode cX8_sets 38 = .ok (.iload_n 2, 1) := by decide +kernel
theorem dX8_sets_39 : decode cX8_sets 39 = .ok (.if_icmp .ne 6, 3) := by decide +kernel
theorem dX8_sets_42 : decode cX8_sets 42 = .ok (.bipush (-2), 2) := by decide +kernel
theorem dX8_sets_44 : decode cX8_sets 44 = .ok (.ireturn, 1) := by decide +kernel
theorem dX8_sets_45 : decode cX8_sets 45 = .ok (.aload_n 0, 1) := by decide +kernel
theorem dX8_sets_46 : decode cX8_sets 46 = .ok (.getfield 45, 3) := by decide +kernel
theorem dX8_sets_49 : decode cX8_sets 49 = .ok (.aload_n 0, 1) := by decide +kernel
theorem dX8_sets_50 : decode cX8_sets 50 = .ok (.getfield 38, 3) := by decide +kernel
theorem dX8_sets_53 : decode cX8_sets 53 = .ok (.invokevirtual 174, 3) := by decide +kernel
theorem dX8_sets_56 : decode cX8_sets 56 = .ok (.aload_n 0, 1) := by decide +kernel
theorem dX8_sets_57 : decode cX8_sets 57 = .ok (.getfield 38, 3) := by decide +kernel
theorem dX8_sets_60 : decode cX8_sets 60 = .ok (.iload_n 1, 1) := by decide +kernel
theorem dX8_sets_61 : decode cX8_sets 61 = .ok (.iload_n 2, 1) := by decide +kernel
theorem dX8_sets_62 : decode cX8_sets 62 = .ok (.invokevirtual 178, 3) := by decide +kernel
theorem dX8_sets_65 : decode cX8_sets 65 = .ok (.aload_n 0, 1) := by decide +kernel
theorem dX8_sets_66 : decode cX8_sets 66 = .ok (.getfield 38, 3) := by decide +kernel
theorem dX8_sets_69 : decode cX8_sets 69 = .ok (.getfield 182, 3) := by decide +kernel
theorem dX8_sets_72 : decode cX8_sets 72 = .ok (.ifCond .eq 7, 3) := by decide +kernel
theorem dX8_sets_75 : decode cX8_sets 75 = .ok (.iconst 1, 1) := by decide +kernel
theorem dX8_sets_76 : decode cX8_sets 76 = .ok (.goto 4, 3) := by decide +kernel
theorem dX8_sets_79 : decode cX8_sets 79 = .ok (.iconst 0, 1) := by decide +kernel
theorem dX8_sets_80 : decode cX8_sets 80 = .ok (.ireturn, 1) := by decide +kernel
theorem bX8_sets_0 {d : Nat} {Q : Option jA → jH → Prop} (a0 : Nat) (i1 : Int) (i2 : Int) (h : jH)
    (s1 : (jS h a0).1 = 8)
    (s2 : (jS h (jP h a0 1)).1 = 2)
    (s3 : (jS h (jP h (jP h a0 1) 4)).1 = 16)
    (s4 : (jS h (jP h (jP h a0 1) 4)).2 = 12)
    (s5 : jI h (jP h a0 1) 0 ≤ 12)
    (q1 : (¬ (0 ≤ i1 ∧ i1 < (jI h (jP h a0 1) 0) ∧ (jX h (jP h (jP h a0 1) 4) (i1.toNat)) = 0)) → Q (some (.inl ((-1)))) h)
    (q2 : (0 ≤ i1 ∧ i1 < (jI h (jP h a0 1) 0) ∧ (jX h (jP h (jP h a0 1) 4) (i1.toNat)) = 0) → (i2 < 0) → Q (some (.inl ((-1)))) h)
    (s6 : (jS h (jP h (jP h a0 1) 5)).1 = 16)
    (s7 : (0 ≤ i1 ∧ i1 < (jI h (jP h a0 1) 0) ∧ (jX h (jP h (jP h a0 1) 4) (i1.toNat)) = 0) → (¬ (i2 < 0)) → 0 ≤ i1)
    (s8 : (0 ≤ i1 ∧ i1 < (jI h (jP h a0 1) 0) ∧ (jX h (jP h (jP h a0 1) 4) (i1.toNat)) = 0) → (¬ (i2 < 0)) → i1 < ((jS h (jP h (jP h a0 1) 5)).2 : Int))
    (s9 : (jS h (jP h a0 4)).1 = 6)
    (s10 : (jS h (jP h (jP h a0 4) 6)).1 = 16)
    (s11 : (0 ≤ i1 ∧ i1 < (jI h (jP h a0 1) 0) ∧ (jX h (jP h (jP h a0 1) 4) (i1.toNat)) = 0) → (¬ (i2 < 0)) → (i2 < (jshl 1 (jX h (jP h (jP h a0 1) 5) ((i1).toNat)))) → i1 < ((jS h (jP h (jP h a0 4) 6)).2 : Int))
    (e1 : (0 ≤ i1 ∧ i1 < (jI h (jP h a0 1) 0) ∧ (jX h (jP h (jP h a0 1) 4) (i1.toNat)) = 0) → (¬ (i2 < 0)) → (i2 < (jshl 1 (jX h (jP h (jP h a0 1) 5) ((i1).toNat)))) → ((jX h (jP h (jP h a0 4) 6) ((i1).toNat)) ≠ i2) → Ex MX4_remember (d + 5) [.inr (jP h a0 5), .inr (jP h a0 4)] h 0 0 (fun v h2 => V MX8_sets (d + 6) 56 [some (.inr a0), some (.inl i1), some (.inl i2)] (v.toList ++ []) h2 0 0 Q))
    (s12 : (jS h (jP h a0 5)).1 = 4)
    (q3 : (0 ≤ i1 ∧ i1 < (jI h (jP h a0 1) 0) ∧ (jX h (jP h (jP h a0 1) 4) (i1.toNat)) = 0) → (¬ (i2 < 0)) → (i2 < (jshl 1 (jX h (jP h (jP h a0 1) 5) ((i1).toNat)))) → ((jX h (jP h (jP h a0 4) 6) ((i1).toNat)) = i2) → Q (some (.inl ((-2)))) h)
    (q4 : (0 ≤ i1 ∧ i1 < (jI h (jP h a0 1) 0) ∧ (jX h (jP h (jP h a0 1) 4) (i1.toNat)) = 0) → (¬ (i2 < 0)) → (¬ (i2 < (jshl 1 (jX h (jP h (jP h a0 1) 5) ((i1).toNat))))) → Q (some (.inl ((-1)))) h) :
    V MX8_sets (d + 6) 0 [some (.inr a0), some (.inl i1), some (.inl i2)] [] h 0 0 Q := by
  refine V_aload_n (i := 0) dX8_sets_0 rfl rfl ?_
  refine V_iload_n (i := 1) dX8_sets_1 rfl rfl ?_
  refine V_callV (M := MX8_sets) (d := (d + 6)) (mc' := 0) (ms' := 0) (mc := 0) (ms := 0) (As := [.inl i1]) (rest := []) dX8_sets_2 tX8_isWire vX8_isWire lX8_171 s1 ⟨by decide, rfl⟩ rfl rfl (Nat.le_of_ble_eq_true rfl) (show (d + 1) + 1 ≤ (d + 6) by omega) (Ex.mono (pX8_isWire (d := d) s1 s2 s3 s4 s5) ?_)
  intro v h2 hq
  rw [hq.1, hq.2]
  show V MX8_sets (d + 6) 5 [some (.inr a0), some (.inl i1), some (.inl i2)] [.inl (jb (0 ≤ i1 ∧ i1 < (jI h (jP h a0 1) 0) ∧ (jX h (jP h (jP h a0 1) 4) (i1.toNat)) = 0))] h 0 0 Q
  refine V_ifb_eq (tgt := 27) dX8_sets_5 (by decide) (fun c1 => ?_) (fun c1 => ?_)
  · refine V_iconst dX8_sets_27 ⟨by decide, by decide⟩ ?_
    exact V_reti rfl dX8_sets_28 (q1 c1)
  · refine V_iload_n (i := 2) dX8_sets_8 rfl rfl ?_
    refine V_if_lt (tgt := 27) dX8_sets_9 (by decide) (fun c2 => ?_) (fun c2 => ?_)
    · refine V_iconst dX8_sets_27 ⟨by decide, by decide⟩ ?_
      exact V_reti rfl dX8_sets_28 (q2 c1 c2)
    · refine V_iload_n (i := 2) dX8_sets_12 rfl rfl ?_
      refine V_iconst dX8_sets_13 ⟨by decide, by decide⟩ ?_
      refine V_aload_n (i := 0) dX8_sets_14 rfl rfl ?_
      refine V_getP dX8_sets_15 fX8_19 rfl s1 ?_
      refine V_getP dX8_sets_18 fX8_133 rfl s2 ?_
      refine V_iload_n (i := 1) dX8_sets_21 rfl rfl ?_
      refine V_iald dX8_sets_22 s6 (s7 c1 c2) (s8 c1 c2) ?_
      refine V_ishl dX8_sets_23 ?_
      refine V_icmp_lt (tgt := 29) dX8_sets_24 (by decide) (fun c3 => ?_) (fun c3 => ?_)
      · refine V_aload_n (i := 0) dX8_sets_29 rfl rfl ?_
        refine V_getP dX8_sets_30 fX8_38 rfl s1 ?_
        refine V_getP dX8_sets_33 fX8_146 rfl s9 ?_
        refine V_iload_n (i := 1) dX8_sets_36 rfl rfl ?_
        refine V_iald dX8_sets_37 s10 (s7 c1 c2) (s11 c1 c2 c3) ?_
        refine V_iload_n (i := 2) dX8_sets_38 rfl rfl ?_
        refine V_icmp_ne (tgt := 45) dX8_sets_39 (by decide) (fun c4 => ?_) (fun c4 => ?_)
        · refine V_aload_n (i := 0) dX8_sets_45 rfl rfl ?_
          refine V_getP dX8_sets_46 fX8_45 rfl s1 ?_
          refine V_aload_n (i := 0) dX8_sets_49 rfl rfl ?_
          refine V_getP dX8_sets_50 fX8_38 rfl s1 ?_
          exact V_callV (M := MX8_sets) (d := (d + 6)) (mc' := 0) (ms' := 0) (mc := 0) (ms := 0) (As := [.inr (jP h a0 4)]) (rest := []) dX8_sets_53 tX4_remember vX4_remember lX8_174 s12 ⟨by decide, rfl⟩ rfl rfl (Nat.le_of_ble_eq_true rfl) (show (d + 5) + 1 ≤ (d + 6) by omega) (e1 c1 c2 c3 c4)
        · refine V_bipush dX8_sets_42 (by decide +kernel) ⟨by decide, by decide⟩ ?_
          exact V_reti rfl dX8_sets_44 (q3 c1 c2 c3 c4)
      · refine V_iconst dX8_sets_27 ⟨by decide, by decide⟩ ?_
        exact V_reti rfl dX8_sets_28 (q4 c1 c2 c3)
theorem bX8_sets_56 {d : Nat} {Q : Option jA → jH → Prop} (a0 : Nat) (i1 : Int) (i2 : Int) (h : jH)
    (s1 : (jS h a0).1 = 8)
    (e1 : Ex MX6_give (d + 2) [.inr (jP h a0 4), .inl i1, .inl i2] h 0 0 (fun v h2 => V MX8_sets (d + 6) 65 [some (.inr a0), some (.inl i1), some (.inl i2)] (v.toList ++ []) h2 0 0 Q))
    (s2 : (jS h (jP h a0 4)).1 = 6) :
    V MX8_sets (d + 6) 56 [some (.inr a0), some (.inl i1), some (.inl i2)] [] h 0 0 Q := by
  refine V_aload_n (i := 0) dX8_sets_56 rfl rfl ?_
  refine V_getP dX8_sets_57 fX8_38 rfl s1 ?_
  refine V_iload_n (i := 1) dX8_sets_60 rfl rfl ?_
  refine V_iload_n (i := 2) dX8_sets_61 rfl rfl ?_
  exact V_callV (M := MX8_sets) (d := (d + 6)) (mc' := 0) (ms' := 0) (mc := 0) (ms := 0) (As := [.inl i1, .inl i2]) (rest := []) dX8_sets_62 tX6_give vX6_give lX8_178 s2 ⟨by decide, rfl⟩ rfl rfl (Nat.le_of_ble_eq_true rfl) (show (d + 2) + 1 ≤ (d + 6) by omega) e1
theorem bX8_sets_65 {d : Nat} {Q : Option jA → jH → Prop} (a0 : Nat) (i1 : Int) (i2 : Int) (h : jH)
    (s1 : (jS h a0).1 = 8)
    (s2 : (jS h (jP h a0 4)).1 = 6)
    (q1 : ((jI h (jP h a0 4) 1) = 0) → Q (some (.inl 0)) h)
    (q2 : (¬ ((jI h (jP h a0 4) 1) = 0)) → Q (some (.inl 1)) h) :
    V MX8_sets (d + 6) 65 [some (.inr a0), some (.inl i1), some (.inl i2)] [] h 0 0 Q := by
  refine V_aload_n (i := 0) dX8_sets_65 rfl rfl ?_
  refine V_getP dX8_sets_66 fX8_38 rfl s1 ?_
  refine V_getI dX8_sets_69 fX8_182 rfl s2 ?_
  refine V_if_eq (tgt := 79) dX8_sets_72 (by decide) (fun c1 => ?_) (fun c1 => ?_)
  · refine V_iconst dX8_sets_79 ⟨by decide, by decide⟩ ?_
    exact V_reti rfl dX8_sets_80 (q1 c1)
  · refine V_iconst dX8_sets_75 ⟨by decide, by decide⟩ ?_
    refine V_goto (tgt := 80) dX8_sets_76 (by decide) ?_
    exact V_reti rfl dX8_sets_80 (q2 c1)
theorem dX8_passes_0 : decode cX8_passes 0 = .ok (.iload_n 1, 1) := by decide +kernel
theorem dX8_passes_1 : decode cX8_passes 1 = .ok (.iconst 1, 1) := by decide +kernel
theorem dX8_passes_2 : decode cX8_passes 2 = .ok (.if_icmp .lt 9, 3) := by decide +kernel
theorem dX8_passes_5 : decode cX8_passes 5 = .ok (.iload_n 1, 1) := by decide +kernel
theorem dX8_passes_6 : decode cX8_passes 6 = .ok (.bipush 99, 2) := by decide +kernel
theorem dX8_passes_8 : decode cX8_passes 8 = .ok (.if_icmp .le 5, 3) := by decide +kernel
theorem dX8_passes_11 : decode cX8_passes 11 = .ok (.iconst (-1), 1) := by decide +kernel
theorem dX8_passes_12 : decode cX8_passes 12 = .ok (.ireturn, 1) := by decide +kernel
theorem dX8_passes_13 : decode cX8_passes 13 = .ok (.aload_n 0, 1) := by decide +kernel
theorem dX8_passes_14 : decode cX8_passes 14 = .ok (.getfield 38, 3) := by decide +kernel
theorem dX8_passes_17 : decode cX8_passes 17 = .ok (.getfield 186, 3) := by decide +kernel
theorem dX8_passes_20 : decode cX8_passes 20 = .ok (.iload_n 1, 1) := by decide +kernel
theorem dX8_passes_21 : decode cX8_passes 21 = .ok (.iadd, 1) := by decide +kernel
theorem dX8_passes_22 : decode cX8_passes 22 = .ok (.sipush 999, 3) := by decide +kernel
theorem dX8_passes_25 : decode cX8_passes 25 = .ok (.if_icmp .le 6, 3) := by decide +kernel
theorem dX8_passes_28 : decode cX8_passes 28 = .ok (.bipush (-2), 2) := by decide +kernel
theorem dX8_passes_30 : decode cX8_passes 30 = .ok (.ireturn, 1) := by decide +kernel
theorem dX8_passes_31 : decode cX8_passes 31 = .ok (.aload_n 0, 1) := by decide +kernel
theorem dX8_passes_32 : decode cX8_passes 32 = .ok (.getfield 45, 3) := by decide +kernel
theorem dX8_passes_35 : decode cX8_passes 35 = .ok (.aload_n 0, 1) := by decide +kernel
theorem dX8_passes_36 : decode cX8_passes 36 = .ok (.getfield 38, 3) := by decide +kernel
theorem dX8_passes_39 : decode cX8_passes 39 = .ok (.invokevirtual 174, 3) := by decide +kernel
theorem dX8_passes_42 : decode cX8_passes 42 = .ok (.aload_n 0, 1) := by decide +kernel
theorem dX8_passes_43 : decode cX8_passes 43 = .ok (.getfield 38, 3) := by decide +kernel
theorem dX8_passes_46 : decode cX8_passes 46 = .ok (.dup, 1) := by decide +kernel
theorem dX8_passes_47 : decode cX8_passes 47 = .ok (.getfield 186, 3) := by decide +kernel
theorem dX8_passes_50 : decode cX8_passes 50 = .ok (.iload_n 1, 1) := by decide +kernel
theorem dX8_passes_51 : decode cX8_passes 51 = .ok (.iadd, 1) := by decide +kernel
theorem dX8_passes_52 : decode cX8_passes 52 = .ok (.putfield 186, 3) := by decide +kernel
theorem dX8_passes_55 : decode cX8_passes 55 = .ok (.aload_n 0, 1) := by decide +kernel
theorem dX8_passes_56 : decode cX8_passes 56 = .ok (.getfield 38, 3) := by decide +kernel
theorem dX8_passes_59 : decode cX8_passes 59 = .ok (.getfield 186, 3) := by decide +kernel
theorem dX8_passes_62 : decode cX8_passes 62 = .ok (.ireturn, 1) := by decide +kernel
theorem bX8_passes_0 {d : Nat} {Q : Option jA → jH → Prop} (a0 : Nat) (i1 : Int) (h : jH)
    (q1 : (i1 < 1) → Q (some (.inl ((-1)))) h)
    (s1 : (jS h a0).1 = 8)
    (s2 : (jS h (jP h a0 4)).1 = 6)
    (r1 : (¬ (i1 < 1)) → (i1 ≤ 99) → jR ((jI h (jP h a0 4) 0) + i1))
    (e1 : (¬ (i1 < 1)) → (i1 ≤ 99) → (((jI h (jP h a0 4) 0) + i1) ≤ 999) → Ex MX4_remember (d + 5) [.inr (jP h a0 5), .inr (jP h a0 4)] h 0 0 (fun v h2 => V MX8_passes (d + 6) 42 [some (.inr a0), some (.inl i1)] (v.toList ++ []) h2 0 0 Q))
    (s3 : (jS h (jP h a0 5)).1 = 4)
    (q2 : (¬ (i1 < 1)) → (i1 ≤ 99) → (¬ (((jI h (jP h a0 4) 0) + i1) ≤ 999)) → Q (some (.inl ((-2)))) h)
    (q3 : (¬ (i1 < 1)) → (¬ (i1 ≤ 99)) → Q (some (.inl ((-1)))) h) :
    V MX8_passes (d + 6) 0 [some (.inr a0), some (.inl i1)] [] h 0 0 Q := by
  refine V_iload_n (i := 1) dX8_passes_0 rfl rfl ?_
  refine V_iconst dX8_passes_1 ⟨by decide, by decide⟩ ?_
  refine V_icmp_lt (tgt := 11) dX8_passes_2 (by decide) (fun c1 => ?_) (fun c1 => ?_)
  · refine V_iconst dX8_passes_11 ⟨by decide, by decide⟩ ?_
    exact V_reti rfl dX8_passes_12 (q1 c1)
  · refine V_iload_n (i := 1) dX8_passes_5 rfl rfl ?_
    refine V_bipush dX8_passes_6 (by decide +kernel) ⟨by decide, by decide⟩ ?_
    refine V_icmp_le (tgt := 13) dX8_passes_8 (by decide) (fun c2 => ?_) (fun c2 => ?_)
    · refine V_aload_n (i := 0) dX8_passes_13 rfl rfl ?_
      refine V_getP dX8_passes_14 fX8_38 rfl s1 ?_
      refine V_getI dX8_passes_17 fX8_186 rfl s2 ?_
      refine V_iload_n (i := 1) dX8_passes_20 rfl rfl ?_
      refine V_iadd dX8_passes_21 (r1 c1 c2) ?_
      refine V_sipush dX8_passes_22 (by decide +kernel) ⟨by decide, by decide⟩ ?_
      refine V_icmp_le (tgt := 31) dX8_passes_25 (by decide) (fun c3 => ?_) (fun c3 => ?_)
      · refine V_aload_n (i := 0) dX8_passes_31 rfl rfl ?_
        refine V_getP dX8_passes_32 fX8_45 rfl s1 ?_
        refine V_aload_n (i := 0) dX8_passes_35 rfl rfl ?_
        refine V_getP dX8_passes_36 fX8_38 rfl s1 ?_
        exact V_callV (M := MX8_passes) (d := (d + 6)) (mc' := 0) (ms' := 0) (mc := 0) (ms := 0) (As := [.inr (jP h a0 4)]) (rest := []) dX8_passes_39 tX4_remember vX4_remember lX8_174 s3 ⟨by decide, rfl⟩ rfl rfl (Nat.le_of_ble_eq_true rfl) (show (d + 5) + 1 ≤ (d + 6) by omega) (e1 c1 c2 c3)
      · refine V_bipush dX8_passes_28 (by decide +kernel) ⟨by decide, by decide⟩ ?_
        exact V_reti rfl dX8_passes_30 (q2 c1 c2 c3)
    · refine V_iconst dX8_passes_11 ⟨by decide, by decide⟩ ?_
      exact V_reti rfl dX8_passes_12 (q3 c1 c2)
theorem bX8_passes_42 {d : Nat} {Q : Option jA → jH → Prop} (a0 : Nat) (i1 : Int) (h : jH)
    (s1 : (jS h a0).1 = 8)
    (s2 : (jS h (jP h a0 4)).1 = 6)
    (r1 : jR ((jI h (jP h a0 4) 0) + i1))
    (q1 : Q (some (.inl ((jI h (jP h a0 4) 0) + i1))) (jsI h (jP h a0 4) 0 ((jI h (jP h a0 4) 0) + i1))) :
    V MX8_passes (d + 6) 42 [some (.inr a0), some (.inl i1)] [] h 0 0 Q := by
  refine V_aload_n (i := 0) dX8_passes_42 rfl rfl ?_
  refine V_getP dX8_passes_43 fX8_38 rfl s1 ?_
  refine V_dup dX8_passes_46 ?_
  refine V_getI dX8_passes_47 fX8_186 rfl s2 ?_
  refine V_iload_n (i := 1) dX8_passes_50 rfl rfl ?_
  refine V_iadd dX8_passes_51 r1 ?_
  refine V_putI (ci := 6) (kf := 0) dX8_passes_52 fX8_186 rfl rfl s2 ?_
  refine V_aload_n (i := 0) dX8_passes_55 rfl rfl ?_
  refine V_getP dX8_passes_56 fX8_38 rfl s1 ?_
  refine V_getI dX8_passes_59 fX8_186 rfl s2 ?_
  refine V_topI (jI_at) ?_
  exact V_reti rfl dX8_passes_62 q1
theorem dX8_dumps_0 : decode cX8_dumps 0 = .ok (.iload_n 1, 1) := by decide +kernel
theorem dX8_dumps_1 : decode cX8_dumps 1 = .ok (.ifCond .eq 10, 3) := by decide +kernel
theorem dX8_dumps_4 : decode cX8_dumps 4 = .ok (.iload_n 1, 1) := by decide +kernel
theorem dX8_dumps_5 : decode cX8_dumps 5 = .ok (.iconst 1, 1) := by decide +kernel
theorem dX8_dumps_6 : decode cX8_dumps 6 = .ok (.if_icmp .eq 5, 3) := by decide +kernel
theorem dX8_dumps_9 : decode cX8_dumps 9 = .ok (.iconst (-1), 1) := by decide +kernel
theorem dX8_dumps_10 : decode cX8_dumps 10 = .ok (.ireturn, 1) := by decide +kernel
theorem dX8_dumps_11 : decode cX8_dumps 11 = .ok (.aload_n 0, 1) := by decide +kernel
theorem dX8_dumps_12 : decode cX8_dumps 12 = .ok (.getfield 38, 3) := by decide +kernel
theorem dX8_dumps_15 : decode cX8_dumps 15 = .ok (.getfield 182, 3) := by decide +kernel
theorem dX8_dumps_18 : decode cX8_dumps 18 = .ok (.iload_n 1, 1) := by decide +kernel
theorem dX8_dumps_19 : decode cX8_dumps 19 = .ok (.iconst 1, 1) := by decide +kernel
theorem dX8_dumps_20 : decode cX8_dumps 20 = .ok (.if_icmp .ne 7, 3) := by decide +kernel
theorem dX8_dumps_23 : decode cX8_dumps 23 = .ok (.iconst 1, 1) := by decide +kernel
theorem dX8_dumps_24 : decode cX8_dumps 24 = .ok (.goto 4, 3) := by decide +kernel
theorem dX8_dumps_27 : decode cX8_dumps 27 = .ok (.iconst 0, 1) := by decide +kernel
theorem dX8_dumps_28 : decode cX8_dumps 28 = .ok (.if_icmp .ne 6, 3) := by decide +kernel
theorem dX8_dumps_31 : decode cX8_dumps 31 = .ok (.bipush (-2), 2) := by decide +kernel
theorem dX8_dumps_33 : decode cX8_dumps 33 = .ok (.ireturn, 1) := by decide +kernel
theorem dX8_dumps_34 : decode cX8_dumps 34 = .ok (.aload_n 0, 1) := by decide +kernel
theorem dX8_dumps_35 : decode cX8_dumps 35 = .ok (.getfield 45, 3) := by decide +kernel
theorem dX8_dumps_38 : decode cX8_dumps 38 = .ok (.aload_n 0, 1) := by decide +kernel
theorem dX8_dumps_39 : decode cX8_dumps 39 = .ok (.getfield 38, 3) := by decide +kernel
theorem dX8_dumps_42 : decode cX8_dumps 42 = .ok (.invokevirtual 174, 3) := by decide +kernel
theorem dX8_dumps_45 : decode cX8_dumps 45 = .ok (.aload_n 0, 1) := by decide +kernel
theorem dX8_dumps_46 : decode cX8_dumps 46 = .ok (.getfield 38, 3) := by decide +kernel
theorem dX8_dumps_49 : decode cX8_dumps 49 = .ok (.iload_n 1, 1) := by decide +kernel
theorem dX8_dumps_50 : decode cX8_dumps 50 = .ok (.iconst 1, 1) := by decide +kernel
theorem dX8_dumps_51 : decode cX8_dumps 51 = .ok (.if_icmp .ne 7, 3) := by decide +kernel
theorem dX8_dumps_54 : decode cX8_dumps 54 = .ok (.iconst 1, 1) := by decide +kernel
theorem dX8_dumps_55 : decode cX8_dumps 55 = .ok (.goto 4, 3) := by decide +kernel
theorem dX8_dumps_58 : decode cX8_dumps 58 = .ok (.iconst 0, 1) := by decide +kernel
theorem dX8_dumps_59 : decode cX8_dumps 59 = .ok (.invokevirtual 189, 3) := by decide +kernel
theorem dX8_dumps_62 : decode cX8_dumps 62 = .ok (.aload_n 0, 1) := by decide +kernel
theorem dX8_dumps_63 : decode cX8_dumps 63 = .ok (.getfield 38, 3) := by decide +kernel
theorem dX8_dumps_66 : decode cX8_dumps 66 = .ok (.getfield 193, 3) := by decide +kernel
theorem dX8_dumps_69 : decode cX8_dumps 69 = .ok (.ireturn, 1) := by decide +kernel
theorem bX8_dumps_0 {d : Nat} {Q : Option jA → jH → Prop} (a0 : Nat) (i1 : Int) (h : jH)
    (s1 : (jS h a0).1 = 8)
    (s2 : (jS h (jP h a0 4)).1 = 6)
    (e1 : (i1 = 0) → (i1 ≠ 1) → ((jI h (jP h a0 4) 1) ≠ 0) → Ex MX4_remember (d + 5) [.inr (jP h a0 5), .inr (jP h a0 4)] h 0 0 (fun v h2 => V MX8_dumps (d + 6) 45 [some (.inr a0), some (.inl i1)] (v.toList ++ []) h2 0 0 Q))
    (s3 : (jS h (jP h a0 5)).1 = 4)
    (q1 : (i1 = 0) → (i1 ≠ 1) → ((jI h (jP h a0 4) 1) = 0) → Q (some (.inl ((-2)))) h)
    (e2 : (i1 = 0) → (i1 = 1) → ((jI h (jP h a0 4) 1) ≠ 1) → Ex MX4_remember (d + 5) [.inr (jP h a0 5), .inr (jP h a0 4)] h 0 0 (fun v h2 => V MX8_dumps (d + 6) 45 [some (.inr a0), some (.inl i1)] (v.toList ++ []) h2 0 0 Q))
    (q2 : (i1 = 0) → (i1 = 1) → ((jI h (jP h a0 4) 1) = 1) → Q (some (.inl ((-2)))) h)
    (e3 : (¬ (i1 = 0)) → (i1 = 1) → (i1 ≠ 1) → ((jI h (jP h a0 4) 1) ≠ 0) → Ex MX4_remember (d + 5) [.inr (jP h a0 5), .inr (jP h a0 4)] h 0 0 (fun v h2 => V MX8_dumps (d + 6) 45 [some (.inr a0), some (.inl i1)] (v.toList ++ []) h2 0 0 Q))
    (q3 : (¬ (i1 = 0)) → (i1 = 1) → (i1 ≠ 1) → ((jI h (jP h a0 4) 1) = 0) → Q (some (.inl ((-2)))) h)
    (e4 : (¬ (i1 = 0)) → (i1 = 1) → (i1 = 1) → ((jI h (jP h a0 4) 1) ≠ 1) → Ex MX4_remember (d + 5) [.inr (jP h a0 5), .inr (jP h a0 4)] h 0 0 (fun v h2 => V MX8_dumps (d + 6) 45 [some (.inr a0), some (.inl i1)] (v.toList ++ []) h2 0 0 Q))
    (q4 : (¬ (i1 = 0)) → (i1 = 1) → (i1 = 1) → ((jI h (jP h a0 4) 1) = 1) → Q (some (.inl ((-2)))) h)
    (q5 : (¬ (i1 = 0)) → (¬ (i1 = 1)) → Q (some (.inl ((-1)))) h) :
    V MX8_dumps (d + 6) 0 [some (.inr a0), some (.inl i1)] [] h 0 0 Q := by
  refine V_iload_n (i := 1) dX8_dumps_0 rfl rfl ?_
  refine V_if_eq (tgt := 11) dX8_dumps_1 (by decide) (fun c1 => ?_) (fun c1 => ?_)
  · refine V_aload_n (i := 0) dX8_dumps_11 rfl rfl ?_
    refine V_getP dX8_dumps_12 fX8_38 rfl s1 ?_
    refine V_getI dX8_dumps_15 fX8_182 rfl s2 ?_
    refine V_iload_n (i := 1) dX8_dumps_18 rfl rfl ?_
    refine V_iconst dX8_dumps_19 ⟨by decide, by decide⟩ ?_
    refine V_icmp_ne (tgt := 27) dX8_dumps_20 (by decide) (fun c2 => ?_) (fun c2 => ?_)
    · refine V_iconst dX8_dumps_27 ⟨by decide, by decide⟩ ?_
      refine V_icmp_ne (tgt := 34) dX8_dumps_28 (by decide) (fun c3 => ?_) (fun c3 => ?_)
      · refine V_aload_n (i := 0) dX8_dumps_34 rfl rfl ?_
        refine V_getP dX8_dumps_35 fX8_45 rfl s1 ?_
        refine V_aload_n (i := 0) dX8_dumps_38 rfl rfl ?_
        refine V_getP dX8_dumps_39 fX8_38 rfl s1 ?_
        exact V_callV (M := MX8_dumps) (d := (d + 6)) (mc' := 0) (ms' := 0) (mc := 0) (ms := 0) (As := [.inr (jP h a0 4)]) (rest := []) dX8_dumps_42 tX4_remember vX4_remember lX8_174 s3 ⟨by decide, rfl⟩ rfl rfl (Nat.le_of_ble_eq_true rfl) (show (d + 5) + 1 ≤ (d + 6) by omega) (e1 c1 c2 c3)
      · refine V_bipush dX8_dumps_31 (by decide +kernel) ⟨by decide, by decide⟩ ?_
        exact V_reti rfl dX8_dumps_33 (q1 c1 c2 c3)
    · refine V_iconst dX8_dumps_23 ⟨by decide, by decide⟩ ?_
      refine V_goto (tgt := 28) dX8_dumps_24 (by decide) ?_
      refine V_icmp_ne (tgt := 34) dX8_dumps_28 (by decide) (fun c4 => ?_) (fun c4 => ?_)
      · refine V_aload_n (i := 0) dX8_dumps_34 rfl rfl ?_
        refine V_getP dX8_dumps_35 fX8_45 rfl s1 ?_
        refine V_aload_n (i := 0) dX8_dumps_38 rfl rfl ?_
        refine V_getP dX8_dumps_39 fX8_38 rfl s1 ?_
        exact V_callV (M := MX8_dumps) (d := (d + 6)) (mc' := 0) (ms' := 0) (mc := 0) (ms := 0) (As := [.inr (jP h a0 4)]) (rest := []) dX8_dumps_42 tX4_remember vX4_remember lX8_174 s3 ⟨by decide, rfl⟩ rfl rfl (Nat.le_of_ble_eq_true rfl) (show (d + 5) + 1 ≤ (d + 6) by omega) (e2 c1 c2 c4)
      · refine V_bipush dX8_dumps_31 (by decide +kernel) ⟨by decide, by decide⟩ ?_
        exact V_reti rfl dX8_dumps_33 (q2 c1 c2 c4)
  · refine V_iload_n (i := 1) dX8_dumps_4 rfl rfl ?_
    refine V_iconst dX8_dumps_5 ⟨by decide, by decide⟩ ?_
    refine V_icmp_eq (tgt := 11) dX8_dumps_6 (by decide) (fun c5 => ?_) (fun c5 => ?_)
    · refine V_aload_n (i := 0) dX8_dumps_11 rfl rfl ?_
      refine V_getP dX8_dumps_12 fX8_38 rfl s1 ?_
      refine V_getI dX8_dumps_15 fX8_182 rfl s2 ?_
      refine V_iload_n (i := 1) dX8_dumps_18 rfl rfl ?_
      refine V_iconst dX8_dumps_19 ⟨by decide, by decide⟩ ?_
      refine V_icmp_ne (tgt := 27) dX8_dumps_20 (by decide) (fun c6 => ?_) (fun c6 => ?_)
      · refine V_iconst dX8_dumps_27 ⟨by decide, by decide⟩ ?_
        refine V_icmp_ne (tgt := 34) dX8_dumps_28 (by decide) (fun c7 => ?_) (fun c7 => ?_)
        · refine V_aload_n (i := 0) dX8_dumps_34 rfl rfl ?_
          refine V_getP dX8_dumps_35 fX8_45 rfl s1 ?_
          refine V_aload_n (i := 0) dX8_dumps_38 rfl rfl ?_
          refine V_getP dX8_dumps_39 fX8_38 rfl s1 ?_
          exact V_callV (M := MX8_dumps) (d := (d + 6)) (mc' := 0) (ms' := 0) (mc := 0) (ms := 0) (As := [.inr (jP h a0 4)]) (rest := []) dX8_dumps_42 tX4_remember vX4_remember lX8_174 s3 ⟨by decide, rfl⟩ rfl rfl (Nat.le_of_ble_eq_true rfl) (show (d + 5) + 1 ≤ (d + 6) by omega) (e3 c1 c5 c6 c7)
        · refine V_bipush dX8_dumps_31 (by decide +kernel) ⟨by decide, by decide⟩ ?_
          exact V_reti rfl dX8_dumps_33 (q3 c1 c5 c6 c7)
      · refine V_iconst dX8_dumps_23 ⟨by decide, by decide⟩ ?_
        refine V_goto (tgt := 28) dX8_dumps_24 (by decide) ?_
        refine V_icmp_ne (tgt := 34) dX8_dumps_28 (by decide) (fun c8 => ?_) (fun c8 => ?_)
        · refine V_aload_n (i := 0) dX8_dumps_34 rfl rfl ?_
          refine V_getP dX8_dumps_35 fX8_45 rfl s1 ?_
          refine V_aload_n (i := 0) dX8_dumps_38 rfl rfl ?_
          refine V_getP dX8_dumps_39 fX8_38 rfl s1 ?_
          exact V_callV (M := MX8_dumps) (d := (d + 6)) (mc' := 0) (ms' := 0) (mc := 0) (ms := 0) (As := [.inr (jP h a0 4)]) (rest := []) dX8_dumps_42 tX4_remember vX4_remember lX8_174 s3 ⟨by decide, rfl⟩ rfl rfl (Nat.le_of_ble_eq_true rfl) (show (d + 5) + 1 ≤ (d + 6) by omega) (e4 c1 c5 c6 c8)
        · refine V_bipush dX8_dumps_31 (by decide +kernel) ⟨by decide, by decide⟩ ?_
          exact V_reti rfl dX8_dumps_33 (q4 c1 c5 c6 c8)
    · refine V_iconst dX8_dumps_9 ⟨by decide, by decide⟩ ?_
      exact V_reti rfl dX8_dumps_10 (q5 c1 c5)
theorem bX8_dumps_45 {d : Nat} {Q : Option jA → jH → Prop} (a0 : Nat) (i1 : Int) (h : jH)
    (s1 : (jS h a0).1 = 8)
    (e1 : (i1 ≠ 1) → Ex MX6_turn (d + 2) [.inr (jP h a0 4), .inl 0] h 0 0 (fun v h2 => V MX8_dumps (d + 6) 62 [some (.inr a0), some (.inl i1)] (v.toList ++ []) h2 0 0 Q))
    (s2 : (jS h (jP h a0 4)).1 = 6)
    (e2 : (i1 = 1) → Ex MX6_turn (d + 2) [.inr (jP h a0 4), .inl 1] h 0 0 (fun v h2 => V MX8_dumps (d + 6) 62 [some (.inr a0), some (.inl i1)] (v.toList ++ []) h2 0 0 Q)) :
    V MX8_dumps (d + 6) 45 [some (.inr a0), some (.inl i1)] [] h 0 0 Q := by
  refine V_aload_n (i := 0) dX8_dumps_45 rfl rfl ?_
  refine V_getP dX8_dumps_46 fX8_38 rfl s1 ?_
  refine V_iload_n (i := 1) dX8_dumps_49 rfl rfl ?_
  refine V_iconst dX8_dumps_50 ⟨by decide, by decide⟩ ?_
  refine V_icmp_ne (tgt := 58) dX8_dumps_51 (by decide) (fun c1 => ?_) (fun c1 => ?_)
  · refine V_iconst dX8_dumps_58 ⟨by decide, by decide⟩ ?_
    exact V_callV (M := MX8_dumps) (d := (d + 6)) (mc' := 0) (ms' := 0) (mc := 0) (ms := 0) (As := [.inl 0]) (rest := []) dX8_dumps_59 tX6_turn vX6_turn lX8_189 s2 ⟨by decide, rfl⟩ rfl rfl (Nat.le_of_ble_eq_true rfl) (show (d + 2) + 1 ≤ (d + 6) by omega) (e1 c1)
  · refine V_iconst dX8_dumps_54 ⟨by decide, by decide⟩ ?_
    refine V_goto (tgt := 59) dX8_dumps_55 (by decide) ?_
    exact V_callV (M := MX8_dumps) (d := (d + 6)) (mc' := 0) (ms' := 0) (mc := 0) (ms := 0) (As := [.inl 1]) (rest := []) dX8_dumps_59 tX6_turn vX6_turn lX8_189 s2 ⟨by decide, rfl⟩ rfl rfl (Nat.le_of_ble_eq_true rfl) (show (d + 2) + 1 ≤ (d + 6) by omega) (e2 c1)
theorem bX8_dumps_62 {d : Nat} {Q : Option jA → jH → Prop} (a0 : Nat) (i1 : Int) (h : jH)
    (s1 : (jS h a0).1 = 8)
    (s2 : (jS h (jP h a0 4)).1 = 6)
    (q1 : Q (some (.inl (jI h (jP h a0 4) 4))) h) :
    V MX8_dumps (d + 6) 62 [some (.inr a0), some (.inl i1)] [] h 0 0 Q := by
  refine V_aload_n (i := 0) dX8_dumps_62 rfl rfl ?_
  refine V_getP dX8_dumps_63 fX8_38 rfl s1 ?_
  refine V_getI dX8_dumps_66 fX8_193 rfl s2 ?_
  exact V_reti rfl dX8_dumps_69 q1
theorem dX8_sizes_0 : decode cX8_sizes 0 = .ok (.iload_n 1, 1) := by decide +kernel
theorem dX8_sizes_1 : decode cX8_sizes 1 = .ok (.iconst 1, 1) := by decide +kernel
theorem dX8_sizes_2 : decode cX8_sizes 2 = .ok (.if_icmp .lt 9, 3) := by decide +kernel
theorem dX8_sizes_5 : decode cX8_sizes 5 = .ok (.iload_n 1, 1) := by decide +kernel
theorem dX8_sizes_6 : decode cX8_sizes 6 = .ok (.bipush 8, 2) := by decide +kernel
theorem dX8_sizes_8 : decode cX8_sizes 8 = .ok (.if_icmp .le 5, 3) := by decide +kernel
theorem dX8_sizes_11 : decode cX8_sizes 11 = .ok (.iconst (-1), 1) := by decide +kernel
theorem dX8_sizes_12 : decode cX8_sizes 12 = .ok (.ireturn, 1) := by decide +kernel
theorem dX8_sizes_13 : decode cX8_sizes 13 = .ok (.iload_n 1, 1) := by decide +kernel
theorem dX8_sizes_14 : decode cX8_sizes 14 = .ok (.aload_n 0, 1) := by decide +kernel
theorem dX8_sizes_15 : decode cX8_sizes 15 = .ok (.getfield 38, 3) := by decide +kernel
theorem dX8_sizes_18 : decode cX8_sizes 18 = .ok (.getfield 194, 3) := by decide +kernel
theorem dX8_sizes_21 : decode cX8_sizes 21 = .ok (.if_icmp .ne 6, 3) := by decide +kernel
theorem dX8_sizes_24 : decode cX8_sizes 24 = .ok (.bipush (-2), 2) := by decide +kernel
theorem dX8_sizes_26 : decode cX8_sizes 26 = .ok (.ireturn, 1) := by decide +kernel
theorem dX8_sizes_27 : decode cX8_sizes 27 = .ok (.aload_n 0, 1) := by decide +kernel
theorem dX8_sizes_28 : decode cX8_sizes 28 = .ok (.getfield 45, 3) := by decide +kernel
theorem dX8_sizes_31 : decode cX8_sizes 31 = .ok (.aload_n 0, 1) := by decide +kernel
theorem dX8_sizes_32 : decode cX8_sizes 32 = .ok (.getfield 38, 3) := by decide +kernel
theorem dX8_sizes_35 : decode cX8_sizes 35 = .ok (.invokevirtual 174, 3) := by decide +kernel
theorem dX8_sizes_38 : decode cX8_sizes 38 = .ok (.aload_n 0, 1) := by decide +kernel
theorem dX8_sizes_39 : decode cX8_sizes 39 = .ok (.getfield 38, 3) := by decide +kernel
theorem dX8_sizes_42 : decode cX8_sizes 42 = .ok (.getfield 194, 3) := by decide +kernel
theorem dX8_sizes_45 : decode cX8_sizes 45 = .ok (.istore_n 2, 1) := by decide +kernel
theorem dX8_sizes_46 : decode cX8_sizes 46 = .ok (.aload_n 0, 1) := by decide +kernel
theorem dX8_sizes_47 : decode cX8_sizes 47 = .ok (.getfield 38, 3) := by decide +kernel
theorem dX8_sizes_50 : decode cX8_sizes 50 = .ok (.iload_n 1, 1) := by decide +kernel
theorem dX8_sizes_51 : decode cX8_sizes 51 = .ok (.putfield 194, 3) := by decide +kernel
theorem dX8_sizes_54 : decode cX8_sizes 54 = .ok (.iload_n 2, 1) := by decide +kernel
theorem dX8_sizes_55 : decode cX8_sizes 55 = .ok (.ireturn, 1) := by decide +kernel
theorem bX8_sizes_0 {d : Nat} {Q : Option jA → jH → Prop} (a0 : Nat) (i1 : Int) (u2 : Option jA) (h : jH)
    (q1 : (i1 < 1) → Q (some (.inl ((-1)))) h)
    (s1 : (jS h a0).1 = 8)
    (s2 : (jS h (jP h a0 4)).1 = 6)
    (e1 : (¬ (i1 < 1)) → (i1 ≤ 8) → (i1 ≠ (jI h (jP h a0 4) 2)) → Ex MX4_remember (d + 5) [.inr (jP h a0 5), .inr (jP h a0 4)] h 0 0 (fun v h2 => V MX8_sizes (d + 6) 38 [some (.inr a0), some (.inl i1), u2] (v.toList ++ []) h2 0 0 Q))
    (s3 : (jS h (jP h a0 5)).1 = 4)
    (q2 : (¬ (i1 < 1)) → (i1 ≤ 8) → (i1 = (jI h (jP h a0 4) 2)) → Q (some (.inl ((-2)))) h)
    (q3 : (¬ (i1 < 1)) → (¬ (i1 ≤ 8)) → Q (some (.inl ((-1)))) h) :
    V MX8_sizes (d + 6) 0 [some (.inr a0), some (.inl i1), u2] [] h 0 0 Q := by
  refine V_iload_n (i := 1) dX8_sizes_0 rfl rfl ?_
  refine V_iconst dX8_sizes_1 ⟨by decide, by decide⟩ ?_
  refine V_icmp_lt (tgt := 11) dX8_sizes_2 (by decide) (fun c1 => ?_) (fun c1 => ?_)
  · refine V_iconst dX8_sizes_11 ⟨by decide, by decide⟩ ?_
    exact V_reti rfl dX8_sizes_12 (q1 c1)
  · refine V_iload_n (i := 1) dX8_sizes_5 rfl rfl ?_
    refine V_bipush dX8_sizes_6 (by decide +kernel) ⟨by decide, by decide⟩ ?_
    refine V_icmp_le (tgt := 13) dX8_sizes_8 (by decide) (fun c2 => ?_) (fun c2 => ?_)
    · refine V_iload_n (i := 1) dX8_sizes_13 rfl rfl ?_
      refine V_aload_n (i := 0) dX8_sizes_14 rfl rfl ?_
      refine V_getP dX8_sizes_15 fX8_38 rfl s1 ?_
      refine V_getI dX8_sizes_18 fX8_194 rfl s2 ?_
      refine V_icmp_ne (tgt := 27) dX8_sizes_21 (by decide) (fun c3 => ?_) (fun c3 => ?_)
      · refine V_aload_n (i := 0) dX8_sizes_27 rfl rfl ?_
        refine V_getP dX8_sizes_28 fX8_45 rfl s1 ?_
        refine V_aload_n (i := 0) dX8_sizes_31 rfl rfl ?_
        refine V_getP dX8_sizes_32 fX8_38 rfl s1 ?_
        exact V_callV (M := MX8_sizes) (d := (d + 6)) (mc' := 0) (ms' := 0) (mc := 0) (ms := 0) (As := [.inr (jP h a0 4)]) (rest := []) dX8_sizes_35 tX4_remember vX4_remember lX8_174 s3 ⟨by decide, rfl⟩ rfl rfl (Nat.le_of_ble_eq_true rfl) (show (d + 5) + 1 ≤ (d + 6) by omega) (e1 c1 c2 c3)
      · refine V_bipush dX8_sizes_24 (by decide +kernel) ⟨by decide, by decide⟩ ?_
        exact V_reti rfl dX8_sizes_26 (q2 c1 c2 c3)
    · refine V_iconst dX8_sizes_11 ⟨by decide, by decide⟩ ?_
      exact V_reti rfl dX8_sizes_12 (q3 c1 c2)
theorem bX8_sizes_38 {d : Nat} {Q : Option jA → jH → Prop} (a0 : Nat) (i1 : Int) (u2 : Option jA) (h : jH)
    (s1 : (jS h a0).1 = 8)
    (s2 : (jS h (jP h a0 4)).1 = 6)
    (q1 : Q (some (.inl (jI h (jP h a0 4) 2))) (jsI h (jP h a0 4) 2 i1)) :
    V MX8_sizes (d + 6) 38 [some (.inr a0), some (.inl i1), u2] [] h 0 0 Q := by
  refine V_aload_n (i := 0) dX8_sizes_38 rfl rfl ?_
  refine V_getP dX8_sizes_39 fX8_38 rfl s1 ?_
  refine V_getI dX8_sizes_42 fX8_194 rfl s2 ?_
  refine V_istore_n (i := 2) dX8_sizes_45 rfl (by decide) ?_
  refine V_aload_n (i := 0) dX8_sizes_46 rfl rfl ?_
  refine V_getP dX8_sizes_47 fX8_38 rfl s1 ?_
  refine V_iload_n (i := 1) dX8_sizes_50 rfl rfl ?_
  refine V_putI (ci := 6) (kf := 2) dX8_sizes_51 fX8_194 rfl rfl s2 ?_
  refine V_iload_n (i := 2) dX8_sizes_54 rfl rfl ?_
  exact V_reti rfl dX8_sizes_55 q1
theorem dX8_undo_0 : decode cX8_undo 0 = .ok (.aload_n 0, 1) := by decide +kernel
theorem dX8_undo_1 : decode cX8_undo 1 = .ok (.getfield 45, 3) := by decide +kernel
theorem dX8_undo_4 : decode cX8_undo 4 = .ok (.getfield 103, 3) := by decide +kernel
theorem dX8_undo_7 : decode cX8_undo 7 = .ok (.ifCond .ne 6, 3) := by decide +kernel
theorem dX8_undo_10 : decode cX8_undo 10 = .ok (.bipush (-2), 2) := by decide +kernel
theorem dX8_undo_12 : decode cX8_undo 12 = .ok (.ireturn, 1) := by decide +kernel
theorem dX8_undo_13 : decode cX8_undo 13 = .ok (.aload_n 0, 1) := by decide +kernel
theorem dX8_undo_14 : decode cX8_undo 14 = .ok (.getfield 45, 3) := by decide +kernel
theorem dX8_undo_17 : decode cX8_undo 17 = .ok (.aload_n 0, 1) := by decide +kernel
theorem dX8_undo_18 : decode cX8_undo 18 = .ok (.getfield 38, 3) := by decide +kernel
theorem dX8_undo_21 : decode cX8_undo 21 = .ok (.invokevirtual 197, 3) := by decide +kernel
theorem dX8_undo_24 : decode cX8_undo 24 = .ok (.aload_n 0, 1) := by decide +kernel
theorem dX8_undo_25 : decode cX8_undo 25 = .ok (.getfield 45, 3) := by decide +kernel
theorem dX8_undo_28 : decode cX8_undo 28 = .ok (.getfield 103, 3) := by decide +kernel
theorem dX8_undo_31 : decode cX8_undo 31 = .ok (.ireturn, 1) := by decide +kernel
theorem bX8_undo_0 {d : Nat} {Q : Option jA → jH → Prop} (a0 : Nat) (h : jH)
    (s1 : (jS h a0).1 = 8)
    (s2 : (jS h (jP h a0 5)).1 = 4)
    (e1 : ((jI h (jP h a0 5) 0) ≠ 0) → Ex MX4_bringBack (d + 5) [.inr (jP h a0 5), .inr (jP h a0 4)] h 0 0 (fun v h2 => V MX8_undo (d + 6) 24 [some (.inr a0)] (v.toList ++ []) h2 0 0 Q))
    (q1 : ((jI h (jP h a0 5) 0) = 0) → Q (some (.inl ((-2)))) h) :
    V MX8_undo (d + 6) 0 [some (.inr a0)] [] h 0 0 Q := by
  refine V_aload_n (i := 0) dX8_undo_0 rfl rfl ?_
  refine V_getP dX8_undo_1 fX8_45 rfl s1 ?_
  refine V_getI dX8_undo_4 fX8_103 rfl s2 ?_
  refine V_if_ne (tgt := 13) dX8_undo_7 (by decide) (fun c1 => ?_) (fun c1 => ?_)
  · refine V_aload_n (i := 0) dX8_undo_13 rfl rfl ?_
    refine V_getP dX8_undo_14 fX8_45 rfl s1 ?_
    refine V_aload_n (i := 0) dX8_undo_17 rfl rfl ?_
    refine V_getP dX8_undo_18 fX8_38 rfl s1 ?_
    exact V_callV (M := MX8_undo) (d := (d + 6)) (mc' := 0) (ms' := 0) (mc := 0) (ms := 0) (As := [.inr (jP h a0 4)]) (rest := []) dX8_undo_21 tX4_bringBack vX4_bringBack lX8_197 s2 ⟨by decide, rfl⟩ rfl rfl (Nat.le_of_ble_eq_true rfl) (show (d + 5) + 1 ≤ (d + 6) by omega) (e1 c1)
  · refine V_bipush dX8_undo_10 (by decide +kernel) ⟨by decide, by decide⟩ ?_
    exact V_reti rfl dX8_undo_12 (q1 c1)
theorem bX8_undo_24 {d : Nat} {Q : Option jA → jH → Prop} (a0 : Nat) (h : jH)
    (s1 : (jS h a0).1 = 8)
    (s2 : (jS h (jP h a0 5)).1 = 4)
    (q1 : Q (some (.inl (jI h (jP h a0 5) 0))) h) :
    V MX8_undo (d + 6) 24 [some (.inr a0)] [] h 0 0 Q := by
  refine V_aload_n (i := 0) dX8_undo_24 rfl rfl ?_
  refine V_getP dX8_undo_25 fX8_45 rfl s1 ?_
  refine V_getI dX8_undo_28 fX8_103 rfl s2 ?_
  exact V_reti rfl dX8_undo_31 q1
theorem dX8_at_0 : decode cX8_at 0 = .ok (.aload_n 0, 1) := by decide +kernel
theorem dX8_at_1 : decode cX8_at 1 = .ok (.iload_n 1, 1) := by decide +kernel
theorem dX8_at_2 : decode cX8_at 2 = .ok (.invokevirtual 126, 3) := by decide +kernel
theorem dX8_at_5 : decode cX8_at 5 = .ok (.ifCond .eq 11, 3) := by decide +kernel
theorem dX8_at_8 : decode cX8_at 8 = .ok (.aload_n 0, 1) := by decide +kernel
theorem dX8_at_9 : decode cX8_at 9 = .ok (.iload_n 2, 1) := by decide +kernel
theorem dX8_at_10 : decode cX8_at 10 = .ok (.invokevirtual 200, 3) := by decide +kernel
theorem dX8_at_13 : decode cX8_at 13 = .ok (.ifCond .ne 5, 3) := by decide +kernel
theorem dX8_at_16 : decode cX8_at 16 = .ok (.iconst (-1), 1) := by decide +kernel
theorem dX8_at_17 : decode cX8_at 17 = .ok (.ireturn, 1) := by decide +kernel
theorem dX8_at_18 : decode cX8_at 18 = .ok (.aload_n 0, 1) := by decide +kernel
theorem dX8_at_19 : decode cX8_at 19 = .ok (.iload_n 2, 1) := by decide +kernel
theorem dX8_at_20 : decode cX8_at 20 = .ok (.invokevirtual 203, 3) := by decide +kernel
theorem dX8_at_23 : decode cX8_at 23 = .ok (.aload_n 0, 1) := by decide +kernel
theorem dX8_at_24 : decode cX8_at 24 = .ok (.getfield 80, 3) := by decide +kernel
theorem dX8_at_27 : decode cX8_at 27 = .ok (.iload_n 1, 1) := by decide +kernel
theorem dX8_at_28 : decode cX8_at 28 = .ok (.iaload, 1) := by decide +kernel
theorem dX8_at_29 : decode cX8_at 29 = .ok (.ireturn, 1) := by decide +kernel
theorem bX8_at_0 {d : Nat} {Q : Option jA → jH → Prop} (a0 : Nat) (i1 : Int) (i2 : Int) (h : jH)
    (s1 : (jS h a0).1 = 8)
    (s2 : (jS h (jP h a0 1)).1 = 2)
    (q1 : (¬ (0 ≤ i1 ∧ i1 < (jI h (jP h a0 1) 0))) → Q (some (.inl ((-1)))) h)
    (s3 : (jS h (jP h a0 4)).1 = 6)
    (e1 : (0 ≤ i1 ∧ i1 < (jI h (jP h a0 1) 0)) → (0 ≤ i2 ∧ i2 ≤ (jI h (jP h a0 4) 0)) → Ex MX8_fillRow (d + 3) [.inr a0, .inl i2] h 0 0 (fun v h2 => V MX8_at (d + 4) 23 [some (.inr a0), some (.inl i1), some (.inl i2)] (v.toList ++ []) h2 0 0 Q))
    (q2 : (0 ≤ i1 ∧ i1 < (jI h (jP h a0 1) 0)) → (¬ (0 ≤ i2 ∧ i2 ≤ (jI h (jP h a0 4) 0))) → Q (some (.inl ((-1)))) h) :
    V MX8_at (d + 4) 0 [some (.inr a0), some (.inl i1), some (.inl i2)] [] h 0 0 Q := by
  refine V_aload_n (i := 0) dX8_at_0 rfl rfl ?_
  refine V_iload_n (i := 1) dX8_at_1 rfl rfl ?_
  refine V_callV (M := MX8_at) (d := (d + 4)) (mc' := 0) (ms' := 0) (mc := 0) (ms := 0) (As := [.inl i1]) (rest := []) dX8_at_2 tX8_isSignal vX8_isSignal lX8_126 s1 ⟨by decide, rfl⟩ rfl rfl (Nat.le_of_ble_eq_true rfl) (show d + 1 ≤ (d + 4) by omega) (Ex.mono (pX8_isSignal (d := d) s1 s2) ?_)
  intro v h2 hq
  rw [hq.1, hq.2]
  show V MX8_at (d + 4) 5 [some (.inr a0), some (.inl i1), some (.inl i2)] [.inl (jb (0 ≤ i1 ∧ i1 < (jI h (jP h a0 1) 0)))] h 0 0 Q
  refine V_ifb_eq (tgt := 16) dX8_at_5 (by decide) (fun c1 => ?_) (fun c1 => ?_)
  · refine V_iconst dX8_at_16 ⟨by decide, by decide⟩ ?_
    exact V_reti rfl dX8_at_17 (q1 c1)
  · refine V_aload_n (i := 0) dX8_at_8 rfl rfl ?_
    refine V_iload_n (i := 2) dX8_at_9 rfl rfl ?_
    refine V_callV (M := MX8_at) (d := (d + 4)) (mc' := 0) (ms' := 0) (mc := 0) (ms := 0) (As := [.inl i2]) (rest := []) dX8_at_10 tX8_isPast vX8_isPast lX8_200 s1 ⟨by decide, rfl⟩ rfl rfl (Nat.le_of_ble_eq_true rfl) (show d + 1 ≤ (d + 4) by omega) (Ex.mono (pX8_isPast (d := d) s1 s3) ?_)
    intro v h2 hq
    rw [hq.1, hq.2]
    show V MX8_at (d + 4) 13 [some (.inr a0), some (.inl i1), some (.inl i2)] [.inl (jb (0 ≤ i2 ∧ i2 ≤ (jI h (jP h a0 4) 0)))] h 0 0 Q
    refine V_ifb_ne (tgt := 18) dX8_at_13 (by decide) (fun c2 => ?_) (fun c2 => ?_)
    · refine V_aload_n (i := 0) dX8_at_18 rfl rfl ?_
      refine V_iload_n (i := 2) dX8_at_19 rfl rfl ?_
      exact V_callV (M := MX8_at) (d := (d + 4)) (mc' := 0) (ms' := 0) (mc := 0) (ms := 0) (As := [.inl i2]) (rest := []) dX8_at_20 tX8_fillRow vX8_fillRow lX8_203 s1 ⟨by decide, rfl⟩ rfl rfl (Nat.le_of_ble_eq_true rfl) (show (d + 3) + 1 ≤ (d + 4) by omega) (e1 c1 c2)
    · refine V_iconst dX8_at_16 ⟨by decide, by decide⟩ ?_
      exact V_reti rfl dX8_at_17 (q2 c1 c2)
theorem bX8_at_23 {d : Nat} {Q : Option jA → jH → Prop} (a0 : Nat) (i1 : Int) (i2 : Int) (h : jH)
    (s1 : (jS h a0).1 = 8)
    (s2 : (jS h (jP h a0 13)).1 = 16)
    (s3 : 0 ≤ i1)
    (s4 : i1 < ((jS h (jP h a0 13)).2 : Int))
    (q1 : Q (some (.inl (jX h (jP h a0 13) ((i1).toNat)))) h) :
    V MX8_at (d + 4) 23 [some (.inr a0), some (.inl i1), some (.inl i2)] [] h 0 0 Q := by
  refine V_aload_n (i := 0) dX8_at_23 rfl rfl ?_
  refine V_getP dX8_at_24 fX8_80 rfl s1 ?_
  refine V_iload_n (i := 1) dX8_at_27 rfl rfl ?_
  refine V_iald dX8_at_28 s2 s3 s4 ?_
  exact V_reti rfl dX8_at_29 q1
theorem dX8_edges_0 : decode cX8_edges 0 = .ok (.aload_n 0, 1) := by decide +kernel
theorem dX8_edges_1 : decode cX8_edges 1 = .ok (.iload_n 1, 1) := by decide +kernel
theorem dX8_edges_2 : decode cX8_edges 2 = .ok (.invokevirtual 126, 3) := by decide +kernel
theorem dX8_edges_5 : decode cX8_edges 5 = .ok (.ifCond .eq 33, 3) := by decide +kernel
theorem dX8_edges_8 : decode cX8_edges 8 = .ok (.iload_n 2, 1) := by decide +kernel
theorem dX8_edges_9 : decode cX8_edges 9 = .ok (.invokestatic 206, 3) := by decide +kernel
theorem dX8_edges_12 : decode cX8_edges 12 = .ok (.ifCond .eq 26, 3) := by decide +kernel
theorem dX8_edges_15 : decode cX8_edges 15 = .ok (.aload_n 0, 1) := by decide +kernel
theorem dX8_edges_16 : decode cX8_edges 16 = .ok (.iload_n 3, 1) := by decide +kernel
theorem dX8_edges_17 : decode cX8_edges 17 = .ok (.invokevirtual 200, 3) := by decide +kernel
theorem dX8_edges_20 : decode cX8_edges 20 = .ok (.ifCond .eq 18, 3) := by decide +kernel
theorem dX8_edges_23 : decode cX8_edges 23 = .ok (.aload_n 0, 1) := by decide +kernel
theorem dX8_edges_24 : decode cX8_edges 24 = .ok (.iload 4, 2) := by decide +kernel
theorem dX8_edges_26 : decode cX8_edges 26 = .ok (.invokevirtual 200, 3) := by decide +kernel
theorem dX8_edges_29 : decode cX8_edges 29 = .ok (.ifCond .eq 9, 3) := by decide +kernel
theorem dX8_edges_32 : decode cX8_edges 32 = .ok (.iload_n 3, 1) := by decide +kernel
theorem dX8_edges_33 : decode cX8_edges 33 = .ok (.iload 4, 2) := by decide +kernel
theorem dX8_edges_35 : decode cX8_edges 35 = .ok (.if_icmp .le 5, 3) := by decide +kernel
theorem dX8_edges_38 : decode cX8_edges 38 = .ok (.iconst (-1), 1) := by decide +kernel
theorem dX8_edges_39 : decode cX8_edges 39 = .ok (.ireturn, 1) := by decide +kernel
theorem dX8_edges_40 : decode cX8_edges 40 = .ok (.aload_n 0, 1) := by decide +kernel
theorem dX8_edges_41 : decode cX8_edges 41 = .ok (.getfield 67, 3) := by decide +kernel
theorem dX8_edges_44 : decode cX8_edges 44 = .ok (.aload_n 0, 1) := by decide +kernel
theorem dX8_edges_45 : decode cX8_edges 45 = .ok (.getfield 19, 3) := by decide +kernel
theorem dX8_edges_48 : decode cX8_edges 48 = .ok (.aload_n 0, 1) := by decide +kernel
theorem dX8_edges_49 : decode cX8_edges 49 = .ok (.getfield 38, 3) := by decide +kernel
theorem dX8_edges_52 : decode cX8_edges 52 = .ok (.invokevirtual 209, 3) := by decide +kernel
theorem dX8_edges_55 : decode cX8_edges 55 = .ok (.iconst 0, 1) := by decide +kernel
theorem dX8_edges_56 : decode cX8_edges 56 = .ok (.istore 5, 2) := by decide +kernel
theorem dX8_edges_58 : decode cX8_edges 58 = .ok (.iconst 0, 1) := by decide +kernel
theorem dX8_edges_59 : decode cX8_edges 59 = .ok (.istore 6, 2) := by decide +kernel
theorem dX8_edges_61 : decode cX8_edges 61 = .ok (.iload 6, 2) := by decide +kernel
theorem dX8_edges_63 : decode cX8_edges 63 = .ok (.aload_n 0, 1) := by decide +kernel
theorem dX8_edges_64 : decode cX8_edges 64 = .ok (.getfield 67, 3) := by decide +kernel
theorem dX8_edges_67 : decode cX8_edges 67 = .ok (.getfield 212, 3) := by decide +kernel
theorem dX8_edges_70 : decode cX8_edges 70 = .ok (.if_icmp .ge 51, 3) := by decide +kernel
theorem dX8_edges_73 : decode cX8_edges 73 = .ok (.aload_n 0, 1) := by decide +kernel
theorem dX8_edges_74 : decode cX8_edges 74 = .ok (.getfield 67, 3) := by decide +kernel
theorem dX8_edges_77 : decode cX8_edges 77 = .ok (.getfield 213, 3) := by decide +kernel
theorem dX8_edges_80 : decode cX8_edges 80 = .ok (.iload 6, 2) := by decide +kernel
theorem dX8_edges_82 : decode cX8_edges 82 = .ok (.iaload, 1) := by decide +kernel
theorem dX8_edges_83 : decode cX8_edges 83 = .ok (.istore 7, 2) := by decide +kernel
theorem dX8_edges_85 : decode cX8_edges 85 = .ok (.iload 7, 2) := by decide +kernel
theorem dX8_edges_87 : decode cX8_edges 87 = .ok (.iload_n 3, 1) := by decide +kernel
theorem dX8_edges_88 : decode cX8_edges 88 = .ok (.if_icmp .lt 27, 3) := by decide +kernel
theorem dX8_edges_91 : decode cX8_edges 91 = .ok (.iload 7, 2) := by decide +kernel
theorem dX8_edges_93 : decode cX8_edges 93 = .ok (.iload 4, 2) := by decide +kernel
theorem dX8_edges_95 : decode cX8_edges 95 = .ok (.if_icmp .gt 20, 3) := by decide +kernel
theorem dX8_edges_98 : decode cX8_edges 98 = .ok (.aload_n 0, 1) := by decide +kernel
theorem dX8_edges_99 : decode cX8_edges 99 = .ok (.getfield 67, 3) := by decide +kernel
theorem dX8_edges_102 : decode cX8_edges 102 = .ok (.iload_n 1, 1) := by decide +kernel
theorem dX8_edges_103 : decode cX8_edges 103 = .ok (.iload_n 2, 1) := by decide +kernel
theorem dX8_edges_104 : decode cX8_edges 104 = .ok (.iload 6, 2) := by decide +kernel
theorem dX8_edges_106 : decode cX8_edges 106 = .ok (.invokevirtual 216, 3) := by decide +kernel
theorem dX8_edges_109 : decode cX8_edges 109 = .ok (.ifCond .eq 6, 3) := by decide +kernel
theorem dX8_edges_112 : decode cX8_edges 112 = .ok (.iinc 5 1, 3) := by decide +kernel
theorem dX8_edges_115 : decode cX8_edges 115 = .ok (.iinc 6 1, 3) := by decide +kernel
theorem dX8_edges_118 : decode cX8_edges 118 = .ok (.goto (-57), 3) := by decide +kernel
theorem dX8_edges_121 : decode cX8_edges 121 = .ok (.iload 5, 2) := by decide +kernel
theorem dX8_edges_123 : decode cX8_edges 123 = .ok (.ireturn, 1) := by decide +kernel
theorem bX8_edges_0 {d : Nat} {Q : Option jA → jH → Prop} (a0 : Nat) (i1 : Int) (i2 : Int) (i3 : Int) (i4 : Int) (u5 : Option jA) (u6 : Option jA) (u7 : Option jA) (h : jH)
    (s1 : (jS h a0).1 = 8)
    (s2 : (jS h (jP h a0 1)).1 = 2)
    (q1 : (¬ (0 ≤ i1 ∧ i1 < (jI h (jP h a0 1) 0))) → Q (some (.inl ((-1)))) h)
    (q2 : (0 ≤ i1 ∧ i1 < (jI h (jP h a0 1) 0)) → (¬ (0 ≤ i2 ∧ i2 ≤ 2)) → Q (some (.inl ((-1)))) h)
    (s3 : (jS h (jP h a0 4)).1 = 6)
    (q3 : (0 ≤ i1 ∧ i1 < (jI h (jP h a0 1) 0)) → (0 ≤ i2 ∧ i2 ≤ 2) → (¬ (0 ≤ i3 ∧ i3 ≤ (jI h (jP h a0 4) 0))) → Q (some (.inl ((-1)))) h)
    (q4 : (0 ≤ i1 ∧ i1 < (jI h (jP h a0 1) 0)) → (0 ≤ i2 ∧ i2 ≤ 2) → (0 ≤ i3 ∧ i3 ≤ (jI h (jP h a0 4) 0)) → (¬ (0 ≤ i4 ∧ i4 ≤ (jI h (jP h a0 4) 0))) → Q (some (.inl ((-1)))) h)
    (e1 : (0 ≤ i1 ∧ i1 < (jI h (jP h a0 1) 0)) → (0 ≤ i2 ∧ i2 ≤ 2) → (0 ≤ i3 ∧ i3 ≤ (jI h (jP h a0 4) 0)) → (0 ≤ i4 ∧ i4 ≤ (jI h (jP h a0 4) 0)) → (i3 ≤ i4) → Ex MX3_read (d + 3) [.inr (jP h a0 11), .inr (jP h a0 1), .inr (jP h a0 4)] h 0 0 (fun v h2 => V MX8_edges (d + 4) 55 [some (.inr a0), some (.inl i1), some (.inl i2), some (.inl i3), some (.inl i4), u5, u6, u7] (v.toList ++ []) h2 0 0 Q))
    (s4 : (jS h (jP h a0 11)).1 = 3)
    (q5 : (0 ≤ i1 ∧ i1 < (jI h (jP h a0 1) 0)) → (0 ≤ i2 ∧ i2 ≤ 2) → (0 ≤ i3 ∧ i3 ≤ (jI h (jP h a0 4) 0)) → (0 ≤ i4 ∧ i4 ≤ (jI h (jP h a0 4) 0)) → (¬ (i3 ≤ i4)) → Q (some (.inl ((-1)))) h) :
    V MX8_edges (d + 4) 0 [some (.inr a0), some (.inl i1), some (.inl i2), some (.inl i3), some (.inl i4), u5, u6, u7] [] h 0 0 Q := by
  refine V_aload_n (i := 0) dX8_edges_0 rfl rfl ?_
  refine V_iload_n (i := 1) dX8_edges_1 rfl rfl ?_
  refine V_callV (M := MX8_edges) (d := (d + 4)) (mc' := 0) (ms' := 0) (mc := 0) (ms := 0) (As := [.inl i1]) (rest := []) dX8_edges_2 tX8_isSignal vX8_isSignal lX8_126 s1 ⟨by decide, rfl⟩ rfl rfl (Nat.le_of_ble_eq_true rfl) (show d + 1 ≤ (d + 4) by omega) (Ex.mono (pX8_isSignal (d := d) s1 s2) ?_)
  intro v h2 hq
  rw [hq.1, hq.2]
  show V MX8_edges (d + 4) 5 [some (.inr a0), some (.inl i1), some (.inl i2), some (.inl i3), some (.inl i4), u5, u6, u7] [.inl (jb (0 ≤ i1 ∧ i1 < (jI h (jP h a0 1) 0)))] h 0 0 Q
  refine V_ifb_eq (tgt := 38) dX8_edges_5 (by decide) (fun c1 => ?_) (fun c1 => ?_)
  · refine V_iconst dX8_edges_38 ⟨by decide, by decide⟩ ?_
    exact V_reti rfl dX8_edges_39 (q1 c1)
  · refine V_iload_n (i := 2) dX8_edges_8 rfl rfl ?_
    refine V_callS (M := MX8_edges) (d := (d + 4)) (mc' := 0) (ms' := 0) (mc := 0) (ms := 0) (a := 0) (As := [.inl i2]) (rest := []) dX8_edges_9 tX8_isKind sX8_isKind lX8_206 rfl rfl (Nat.le_of_ble_eq_true rfl) (show d + 1 ≤ (d + 4) by omega) (Ex.mono (pX8_isKind (d := d) ) ?_)
    intro v h2 hq
    rw [hq.1, hq.2]
    show V MX8_edges (d + 4) 12 [some (.inr a0), some (.inl i1), some (.inl i2), some (.inl i3), some (.inl i4), u5, u6, u7] [.inl (jb (0 ≤ i2 ∧ i2 ≤ 2))] h 0 0 Q
    refine V_ifb_eq (tgt := 38) dX8_edges_12 (by decide) (fun c2 => ?_) (fun c2 => ?_)
    · refine V_iconst dX8_edges_38 ⟨by decide, by decide⟩ ?_
      exact V_reti rfl dX8_edges_39 (q2 c1 c2)
    · refine V_aload_n (i := 0) dX8_edges_15 rfl rfl ?_
      refine V_iload_n (i := 3) dX8_edges_16 rfl rfl ?_
      refine V_callV (M := MX8_edges) (d := (d + 4)) (mc' := 0) (ms' := 0) (mc := 0) (ms := 0) (As := [.inl i3]) (rest := []) dX8_edges_17 tX8_isPast vX8_isPast lX8_200 s1 ⟨by decide, rfl⟩ rfl rfl (Nat.le_of_ble_eq_true rfl) (show d + 1 ≤ (d + 4) by omega) (Ex.mono (pX8_isPast (d := d) s1 s3) ?_)
      intro v h2 hq
      rw [hq.1, hq.2]
      show V MX8_edges (d + 4) 20 [some (.inr a0), some (.inl i1), some (.inl i2), some (.inl i3), some (.inl i4), u5, u6, u7] [.inl (jb (0 ≤ i3 ∧ i3 ≤ (jI h (jP h a0 4) 0)))] h 0 0 Q
      refine V_ifb_eq (tgt := 38) dX8_edges_20 (by decide) (fun c3 => ?_) (fun c3 => ?_)
      · refine V_iconst dX8_edges_38 ⟨by decide, by decide⟩ ?_
        exact V_reti rfl dX8_edges_39 (q3 c1 c2 c3)
      · refine V_aload_n (i := 0) dX8_edges_23 rfl rfl ?_
        refine V_iload (i := 4) dX8_edges_24 rfl ?_
        refine V_callV (M := MX8_edges) (d := (d + 4)) (mc' := 0) (ms' := 0) (mc := 0) (ms := 0) (As := [.inl i4]) (rest := []) dX8_edges_26 tX8_isPast vX8_isPast lX8_200 s1 ⟨by decide, rfl⟩ rfl rfl (Nat.le_of_ble_eq_true rfl) (show d + 1 ≤ (d + 4) by omega) (Ex.mono (pX8_isPast (d := d) s1 s3) ?_)
        intro v h2 hq
        rw [hq.1, hq.2]
        show V MX8_edges (d + 4) 29 [some (.inr a0), some (.inl i1), some (.inl i2), some (.inl i3), some (.inl i4), u5, u6, u7] [.inl (jb (0 ≤ i4 ∧ i4 ≤ (jI h (jP h a0 4) 0)))] h 0 0 Q
        refine V_ifb_eq (tgt := 38) dX8_edges_29 (by decide) (fun c4 => ?_) (fun c4 => ?_)
        · refine V_iconst dX8_edges_38 ⟨by decide, by decide⟩ ?_
          exact V_reti rfl dX8_edges_39 (q4 c1 c2 c3 c4)
        · refine V_iload_n (i := 3) dX8_edges_32 rfl rfl ?_
          refine V_iload (i := 4) dX8_edges_33 rfl ?_
          refine V_icmp_le (tgt := 40) dX8_edges_35 (by decide) (fun c5 => ?_) (fun c5 => ?_)
          · refine V_aload_n (i := 0) dX8_edges_40 rfl rfl ?_
            refine V_getP dX8_edges_41 fX8_67 rfl s1 ?_
            refine V_aload_n (i := 0) dX8_edges_44 rfl rfl ?_
            refine V_getP dX8_edges_45 fX8_19 rfl s1 ?_
            refine V_aload_n (i := 0) dX8_edges_48 rfl rfl ?_
            refine V_getP dX8_edges_49 fX8_38 rfl s1 ?_
            exact V_callV (M := MX8_edges) (d := (d + 4)) (mc' := 0) (ms' := 0) (mc := 0) (ms := 0) (As := [.inr (jP h a0 1), .inr (jP h a0 4)]) (rest := []) dX8_edges_52 tX3_read vX3_read lX8_209 s4 ⟨by decide, rfl⟩ rfl rfl (Nat.le_of_ble_eq_true rfl) (show (d + 3) + 1 ≤ (d + 4) by omega) (e1 c1 c2 c3 c4 c5)
          · refine V_iconst dX8_edges_38 ⟨by decide, by decide⟩ ?_
            exact V_reti rfl dX8_edges_39 (q5 c1 c2 c3 c4 c5)
theorem bX8_edges_61 {d : Nat} {Q : Option jA → jH → Prop} (a0 : Nat) (i1 : Int) (i2 : Int) (i3 : Int) (i4 : Int) (i5 : Int) (i6 : Int) (u7 : Option jA) (h : jH)
    (s1 : (jS h a0).1 = 8)
    (s2 : (jS h (jP h a0 11)).1 = 3)
    (q1 : ((jI h (jP h a0 11) 0) ≤ i6) → Q (some (.inl i5)) h)
    (s3 : (jS h (jP h (jP h a0 11) 2)).1 = 16)
    (s4 : (¬ ((jI h (jP h a0 11) 0) ≤ i6)) → 0 ≤ i6)
    (s5 : (¬ ((jI h (jP h a0 11) 0) ≤ i6)) → i6 < ((jS h (jP h (jP h a0 11) 2)).2 : Int))
    (r1 : (¬ ((jI h (jP h a0 11) 0) ≤ i6)) → ((jX h (jP h (jP h a0 11) 2) ((i6).toNat)) < i3) → jR (i6 + 1))
    (k1 : (¬ ((jI h (jP h a0 11) 0) ≤ i6)) → ((jX h (jP h (jP h a0 11) 2) ((i6).toNat)) < i3) → V MX8_edges (d + 4) 61 [some (.inr a0), some (.inl i1), some (.inl i2), some (.inl i3), some (.inl i4), some (.inl i5), some (.inl (i6 + 1)), some (.inl (jX h (jP h (jP h a0 11) 2) ((i6).toNat)))] [] h 0 0 Q)
    (r2 : (¬ ((jI h (jP h a0 11) 0) ≤ i6)) → (¬ ((jX h (jP h (jP h a0 11) 2) ((i6).toNat)) < i3)) → (i4 < (jX h (jP h (jP h a0 11) 2) ((i6).toNat))) → jR (i6 + 1))
    (k2 : (¬ ((jI h (jP h a0 11) 0) ≤ i6)) → (¬ ((jX h (jP h (jP h a0 11) 2) ((i6).toNat)) < i3)) → (i4 < (jX h (jP h (jP h a0 11) 2) ((i6).toNat))) → V MX8_edges (d + 4) 61 [some (.inr a0), some (.inl i1), some (.inl i2), some (.inl i3), some (.inl i4), some (.inl i5), some (.inl (i6 + 1)), some (.inl (jX h (jP h (jP h a0 11) 2) ((i6).toNat)))] [] h 0 0 Q)
    (e1 : (¬ ((jI h (jP h a0 11) 0) ≤ i6)) → (¬ ((jX h (jP h (jP h a0 11) 2) ((i6).toNat)) < i3)) → (¬ (i4 < (jX h (jP h (jP h a0 11) 2) ((i6).toNat)))) → Ex MX3_isEdge d [.inr (jP h a0 11), .inl i1, .inl i2, .inl i6] h 0 0 (fun v h2 => V MX8_edges (d + 4) 109 [some (.inr a0), some (.inl i1), some (.inl i2), some (.inl i3), some (.inl i4), some (.inl i5), some (.inl i6), some (.inl (jX h (jP h (jP h a0 11) 2) ((i6).toNat)))] (v.toList ++ []) h2 0 0 Q)) :
    V MX8_edges (d + 4) 61 [some (.inr a0), some (.inl i1), some (.inl i2), some (.inl i3), some (.inl i4), some (.inl i5), some (.inl i6), u7] [] h 0 0 Q := by
  refine V_iload (i := 6) dX8_edges_61 rfl ?_
  refine V_aload_n (i := 0) dX8_edges_63 rfl rfl ?_
  refine V_getP dX8_edges_64 fX8_67 rfl s1 ?_
  refine V_getI dX8_edges_67 fX8_212 rfl s2 ?_
  refine V_icmp_ge (tgt := 121) dX8_edges_70 (by decide) (fun c1 => ?_) (fun c1 => ?_)
  · refine V_iload (i := 5) dX8_edges_121 rfl ?_
    exact V_reti rfl dX8_edges_123 (q1 c1)
  · refine V_aload_n (i := 0) dX8_edges_73 rfl rfl ?_
    refine V_getP dX8_edges_74 fX8_67 rfl s1 ?_
    refine V_getP dX8_edges_77 fX8_213 rfl s2 ?_
    refine V_iload (i := 6) dX8_edges_80 rfl ?_
    refine V_iald dX8_edges_82 s3 (s4 c1) (s5 c1) ?_
    refine V_istore (i := 7) dX8_edges_83 (by decide) ?_
    refine V_iload (i := 7) dX8_edges_85 rfl ?_
    refine V_iload_n (i := 3) dX8_edges_87 rfl rfl ?_
    refine V_icmp_lt (tgt := 115) dX8_edges_88 (by decide) (fun c2 => ?_) (fun c2 => ?_)
    · refine V_iinc (i := 6) dX8_edges_115 rfl (by decide) (r1 c1 c2) ?_
      refine V_goto (tgt := 61) dX8_edges_118 (by decide) ?_
      exact (k1 c1 c2)
    · refine V_iload (i := 7) dX8_edges_91 rfl ?_
      refine V_iload (i := 4) dX8_edges_93 rfl ?_
      refine V_icmp_gt (tgt := 115) dX8_edges_95 (by decide) (fun c3 => ?_) (fun c3 => ?_)
      · refine V_iinc (i := 6) dX8_edges_115 rfl (by decide) (r2 c1 c2 c3) ?_
        refine V_goto (tgt := 61) dX8_edges_118 (by decide) ?_
        exact (k2 c1 c2 c3)
      · refine V_aload_n (i := 0) dX8_edges_98 rfl rfl ?_
        refine V_getP dX8_edges_99 fX8_67 rfl s1 ?_
        refine V_iload_n (i := 1) dX8_edges_102 rfl rfl ?_
        refine V_iload_n (i := 2) dX8_edges_103 rfl rfl ?_
        refine V_iload (i := 6) dX8_edges_104 rfl ?_
        exact V_callV (M := MX8_edges) (d := (d + 4)) (mc' := 0) (ms' := 0) (mc := 0) (ms := 0) (As := [.inl i1, .inl i2, .inl i6]) (rest := []) dX8_edges_106 tX3_isEdge vX3_isEdge lX8_216 s2 ⟨by decide, rfl⟩ rfl rfl (Nat.le_of_ble_eq_true rfl) (show d + 1 ≤ (d + 4) by omega) (e1 c1 c2 c3)
theorem bX8_edges_55 {d : Nat} {Q : Option jA → jH → Prop} (a0 : Nat) (i1 : Int) (i2 : Int) (i3 : Int) (i4 : Int) (u5 : Option jA) (u6 : Option jA) (u7 : Option jA) (h : jH)
    (k1 : V MX8_edges (d + 4) 61 [some (.inr a0), some (.inl i1), some (.inl i2), some (.inl i3), some (.inl i4), some (.inl 0), some (.inl 0), u7] [] h 0 0 Q) :
    V MX8_edges (d + 4) 55 [some (.inr a0), some (.inl i1), some (.inl i2), some (.inl i3), some (.inl i4), u5, u6, u7] [] h 0 0 Q := by
  refine V_iconst dX8_edges_55 ⟨by decide, by decide⟩ ?_
  refine V_istore (i := 5) dX8_edges_56 (by decide) ?_
  refine V_iconst dX8_edges_58 ⟨by decide, by decide⟩ ?_
  refine V_istore (i := 6) dX8_edges_59 (by decide) ?_
  exact k1
theorem bX8_edges_109 {d : Nat} {Q : Option jA → jH → Prop} (a0 : Nat) (i1 : Int) (i2 : Int) (i3 : Int) (i4 : Int) (i5 : Int) (i6 : Int) (i7 : Int) (p0 : Int) (h : jH)
    (r1 : (p0 = 0) → jR (i6 + 1))
    (k1 : (p0 = 0) → V MX8_edges (d + 4) 61 [some (.inr a0), some (.inl i1), some (.inl i2), some (.inl i3), some (.inl i4), some (.inl i5), some (.inl (i6 + 1)), some (.inl i7)] [] h 0 0 Q)
    (r2 : (¬ (p0 = 0)) → jR (i5 + 1))
    (r3 : (¬ (p0 = 0)) → jR (i6 + 1))
    (k2 : (¬ (p0 = 0)) → V MX8_edges (d + 4) 61 [some (.inr a0), some (.inl i1), some (.inl i2), some (.inl i3), some (.inl i4), some (.inl (i5 + 1)), some (.inl (i6 + 1)), some (.inl i7)] [] h 0 0 Q) :
    V MX8_edges (d + 4) 109 [some (.inr a0), some (.inl i1), some (.inl i2), some (.inl i3), some (.inl i4), some (.inl i5), some (.inl i6), some (.inl i7)] [.inl p0] h 0 0 Q := by
  refine V_if_eq (tgt := 115) dX8_edges_109 (by decide) (fun c1 => ?_) (fun c1 => ?_)
  · refine V_iinc (i := 6) dX8_edges_115 rfl (by decide) (r1 c1) ?_
    refine V_goto (tgt := 61) dX8_edges_118 (by decide) ?_
    exact (k1 c1)
  · refine V_iinc (i := 5) dX8_edges_112 rfl (by decide) (r2 c1) ?_
    refine V_iinc (i := 6) dX8_edges_115 rfl (by decide) (r3 c1) ?_
    refine V_goto (tgt := 61) dX8_edges_118 (by decide) ?_
    exact (k2 c1)
theorem dX8_next_0 : decode cX8_next 0 = .ok (.aload_n 0, 1) := by decide +kernel
theorem dX8_next_1 : decode cX8_next 1 = .ok (.iload_n 1, 1) := by decide +kernel
theorem dX8_next_2 : decode cX8_next 2 = .ok (.invokevirtual 126, 3) := by decide +kernel
theorem dX8_next_5 : decode cX8_next 5 = .ok (.ifCond .eq 18, 3) := by decide +kernel
theorem dX8_next_8 : decode cX8_next 8 = .ok (.iload_n 2, 1) := by decide +kernel
theorem dX8_next_9 : decode cX8_next 9 = .ok (.invokestatic 206, 3) := by decide +kernel
theorem dX8_next_12 : decode cX8_next 12 = .ok (.ifCond .eq 11, 3) := by decide +kernel
theorem dX8_next_15 : decode cX8_next 15 = .ok (.aload_n 0, 1) := by decide +kernel
theorem dX8_next_16 : decode cX8_next 16 = .ok (.iload_n 3, 1) := by decide +kernel
theorem dX8_next_17 : decode cX8_next 17 = .ok (.invokevirtual 200, 3) := by decide +kernel
theorem dX8_next_20 : decode cX8_next 20 = .ok (.ifCond .ne 5, 3) := by decide +kernel
theorem dX8_next_23 : decode cX8_next 23 = .ok (.iconst (-1), 1) := by decide +kernel
theorem dX8_next_24 : decode cX8_next 24 = .ok (.ireturn, 1) := by decide +kernel
theorem dX8_next_25 : decode cX8_next 25 = .ok (.aload_n 0, 1) := by decide +kernel
theorem dX8_next_26 : decode cX8_next 26 = .ok (.getfield 67, 3) := by decide +kernel
theorem dX8_next_29 : decode cX8_next 29 = .ok (.aload_n 0, 1) := by decide +kernel
theorem dX8_next_30 : decode cX8_next 30 = .ok (.getfield 19, 3) := by decide +kernel
theorem dX8_next_33 : decode cX8_next 33 = .ok (.aload_n 0, 1) := by decide +kernel
theorem dX8_next_34 : decode cX8_next 34 = .ok (.getfield 38, 3) := by decide +kernel
theorem dX8_next_37 : decode cX8_next 37 = .ok (.invokevirtual 209, 3) := by decide +kernel
theorem dX8_next_40 : decode cX8_next 40 = .ok (.iconst 0, 1) := by decide +kernel
theorem dX8_next_41 : decode cX8_next 41 = .ok (.istore 4, 2) := by decide +kernel
theorem dX8_next_43 : decode cX8_next 43 = .ok (.iload 4, 2) := by decide +kernel
theorem dX8_next_45 : decode cX8_next 45 = .ok (.aload_n 0, 1) := by decide +kernel
theorem dX8_next_46 : decode cX8_next 46 = .ok (.getfield 67, 3) := by decide +kernel
theorem dX8_next_49 : decode cX8_next 49 = .ok (.getfield 212, 3) := by decide +kernel
theorem dX8_next_52 : decode cX8_next 52 = .ok (.if_icmp .ge 48, 3) := by decide +kernel
theorem dX8_next_55 : decode cX8_next 55 = .ok (.aload_n 0, 1) := by decide +kernel
theorem dX8_next_56 : decode cX8_next 56 = .ok (.getfield 67, 3) := by decide +kernel
theorem dX8_next_59 : decode cX8_next 59 = .ok (.getfield 213, 3) := by decide +kernel
theorem dX8_next_62 : decode cX8_next 62 = .ok (.iload 4, 2) := by decide +kernel
theorem dX8_next_64 : decode cX8_next 64 = .ok (.iaload, 1) := by decide +kernel
theorem dX8_next_65 : decode cX8_next 65 = .ok (.iload_n 3, 1) := by decide +kernel
theorem dX8_next_66 : decode cX8_next 66 = .ok (.if_icmp .le 28, 3) := by decide +kernel
theorem dX8_next_69 : decode cX8_next 69 = .ok (.aload_n 0, 1) := by decide +kernel
theorem dX8_next_70 : decode cX8_next 70 = .ok (.getfield 67, 3) := by decide +kernel
theorem dX8_next_73 : decode cX8_next 73 = .ok (.iload_n 1, 1) := by decide +kernel
theorem dX8_next_74 : decode cX8_next 74 = .ok (.iload_n 2, 1) := by decide +kernel
theorem dX8_next_75 : decode cX8_next 75 = .ok (.iload 4, 2) := by decide +kernel
theorem dX8_next_77 : decode cX8_next 77 = .ok (.invokevirtual 216, 3) := by decide +kernel
theorem dX8_next_80 : decode cX8_next 80 = .ok (.ifCond .eq 14, 3) := by decide +kernel
theorem dX8_next_83 : decode cX8_next 83 = .ok (.aload_n 0, 1) := by decide +kernel
theorem dX8_next_84 : decode cX8_next 84 = .ok (.getfield 67, 3) := by decide +kernel
theorem dX8_next_87 : decode cX8_next 87 = .ok (.getfield 213, 3) := by decide +kernel
theorem dX8_next_90 : decode cX8_next 90 = .ok (.iload 4, 2) := by decide +kernel
theorem dX8_next_92 : decode cX8_next 92 = .ok (.iaload, 1) := by decide +kernel
theorem dX8_next_93 : decode cX8_next 93 = .ok (.ireturn, 1) := by decide +kernel
theorem dX8_next_94 : decode cX8_next 94 = .ok (.iinc 4 1, 3) := by decide +kernel
theorem dX8_next_97 : decode cX8_next 97 = .ok (.goto (-54), 3) := by decide +kernel
theorem dX8_next_100 : decode cX8_next 100 = .ok (.bipush (-9), 2) := by decide +kernel
theorem dX8_next_102 : decode cX8_next 102 = .ok (.ireturn, 1) := by decide +kernel
theorem bX8_next_0 {d : Nat} {Q : Option jA → jH → Prop} (a0 : Nat) (i1 : Int) (i2 : Int) (i3 : Int) (u4 : Option jA) (h : jH)
    (s1 : (jS h a0).1 = 8)
    (s2 : (jS h (jP h a0 1)).1 = 2)
    (q1 : (¬ (0 ≤ i1 ∧ i1 < (jI h (jP h a0 1) 0))) → Q (some (.inl ((-1)))) h)
    (q2 : (0 ≤ i1 ∧ i1 < (jI h (jP h a0 1) 0)) → (¬ (0 ≤ i2 ∧ i2 ≤ 2)) → Q (some (.inl ((-1)))) h)
    (s3 : (jS h (jP h a0 4)).1 = 6)
    (e1 : (0 ≤ i1 ∧ i1 < (jI h (jP h a0 1) 0)) → (0 ≤ i2 ∧ i2 ≤ 2) → (0 ≤ i3 ∧ i3 ≤ (jI h (jP h a0 4) 0)) → Ex MX3_read (d + 3) [.inr (jP h a0 11), .inr (jP h a0 1), .inr (jP h a0 4)] h 0 0 (fun v h2 => V MX8_next (d + 4) 40 [some (.inr a0), some (.inl i1), some (.inl i2), some (.inl i3), u4] (v.toList ++ []) h2 0 0 Q))
    (s4 : (jS h (jP h a0 11)).1 = 3)
    (q3 : (0 ≤ i1 ∧ i1 < (jI h (jP h a0 1) 0)) → (0 ≤ i2 ∧ i2 ≤ 2) → (¬ (0 ≤ i3 ∧ i3 ≤ (jI h (jP h a0 4) 0))) → Q (some (.inl ((-1)))) h) :
    V MX8_next (d + 4) 0 [some (.inr a0), some (.inl i1), some (.inl i2), some (.inl i3), u4] [] h 0 0 Q := by
  refine V_aload_n (i := 0) dX8_next_0 rfl rfl ?_
  refine V_iload_n (i := 1) dX8_next_1 rfl rfl ?_
  refine V_callV (M := MX8_next) (d := (d + 4)) (mc' := 0) (ms' := 0) (mc := 0) (ms := 0) (As := [.inl i1]) (rest := []) dX8_next_2 tX8_isSignal vX8_isSignal lX8_126 s1 ⟨by decide, rfl⟩ rfl rfl (Nat.le_of_ble_eq_true rfl) (show d + 1 ≤ (d + 4) by omega) (Ex.mono (pX8_isSignal (d := d) s1 s2) ?_)
  intro v h2 hq
  rw [hq.1, hq.2]
  show V MX8_next (d + 4) 5 [some (.inr a0), some (.inl i1), some (.inl i2), some (.inl i3), u4] [.inl (jb (0 ≤ i1 ∧ i1 < (jI h (jP h a0 1) 0)))] h 0 0 Q
  refine V_ifb_eq (tgt := 23) dX8_next_5 (by decide) (fun c1 => ?_) (fun c1 => ?_)
  · refine V_iconst dX8_next_23 ⟨by decide, by decide⟩ ?_
    exact V_reti rfl dX8_next_24 (q1 c1)
  · refine V_iload_n (i := 2) dX8_next_8 rfl rfl ?_
    refine V_callS (M := MX8_next) (d := (d + 4)) (mc' := 0) (ms' := 0) (mc := 0) (ms := 0) (a := 0) (As := [.inl i2]) (rest := []) dX8_next_9 tX8_isKind sX8_isKind lX8_206 rfl rfl (Nat.le_of_ble_eq_true rfl) (show d + 1 ≤ (d + 4) by omega) (Ex.mono (pX8_isKind (d := d) ) ?_)
    intro v h2 hq
    rw [hq.1, hq.2]
    show V MX8_next (d + 4) 12 [some (.inr a0), some (.inl i1), some (.inl i2), some (.inl i3), u4] [.inl (jb (0 ≤ i2 ∧ i2 ≤ 2))] h 0 0 Q
    refine V_ifb_eq (tgt := 23) dX8_next_12 (by decide) (fun c2 => ?_) (fun c2 => ?_)
    · refine V_iconst dX8_next_23 ⟨by decide, by decide⟩ ?_
      exact V_reti rfl dX8_next_24 (q2 c1 c2)
    · refine V_aload_n (i := 0) dX8_next_15 rfl rfl ?_
      refine V_iload_n (i := 3) dX8_next_16 rfl rfl ?_
      refine V_callV (M := MX8_next) (d := (d + 4)) (mc' := 0) (ms' := 0) (mc := 0) (ms := 0) (As := [.inl i3]) (rest := []) dX8_next_17 tX8_isPast vX8_isPast lX8_200 s1 ⟨by decide, rfl⟩ rfl rfl (Nat.le_of_ble_eq_true rfl) (show d + 1 ≤ (d + 4) by omega) (Ex.mono (pX8_isPast (d := d) s1 s3) ?_)
      intro v h2 hq
      rw [hq.1, hq.2]
      show V MX8_next (d + 4) 20 [some (.inr a0), some (.inl i1), some (.inl i2), some (.inl i3), u4] [.inl (jb (0 ≤ i3 ∧ i3 ≤ (jI h (jP h a0 4) 0)))] h 0 0 Q
      refine V_ifb_ne (tgt := 25) dX8_next_20 (by decide) (fun c3 => ?_) (fun c3 => ?_)
      · refine V_aload_n (i := 0) dX8_next_25 rfl rfl ?_
        refine V_getP dX8_next_26 fX8_67 rfl s1 ?_
        refine V_aload_n (i := 0) dX8_next_29 rfl rfl ?_
        refine V_getP dX8_next_30 fX8_19 rfl s1 ?_
        refine V_aload_n (i := 0) dX8_next_33 rfl rfl ?_
        refine V_getP dX8_next_34 fX8_38 rfl s1 ?_
        exact V_callV (M := MX8_next) (d := (d + 4)) (mc' := 0) (ms' := 0) (mc := 0) (ms := 0) (As := [.inr (jP h a0 1), .inr (jP h a0 4)]) (rest := []) dX8_next_37 tX3_read vX3_read lX8_209 s4 ⟨by decide, rfl⟩ rfl rfl (Nat.le_of_ble_eq_true rfl) (show (d + 3) + 1 ≤ (d + 4) by omega) (e1 c1 c2 c3)
      · refine V_iconst dX8_next_23 ⟨by decide, by decide⟩ ?_
        exact V_reti rfl dX8_next_24 (q3 c1 c2 c3)
theorem bX8_next_43 {d : Nat} {Q : Option jA → jH → Prop} (a0 : Nat) (i1 : Int) (i2 : Int) (i3 : Int) (i4 : Int) (h : jH)
    (s1 : (jS h a0).1 = 8)
    (s2 : (jS h (jP h a0 11)).1 = 3)
    (q1 : ((jI h (jP h a0 11) 0) ≤ i4) → Q (some (.inl ((-9)))) h)
    (s3 : (jS h (jP h (jP h a0 11) 2)).1 = 16)
    (s4 : (¬ ((jI h (jP h a0 11) 0) ≤ i4)) → 0 ≤ i4)
    (s5 : (¬ ((jI h (jP h a0 11) 0) ≤ i4)) → i4 < ((jS h (jP h (jP h a0 11) 2)).2 : Int))
    (r1 : (¬ ((jI h (jP h a0 11) 0) ≤ i4)) → ((jX h (jP h (jP h a0 11) 2) ((i4).toNat)) ≤ i3) → jR (i4 + 1))
    (k1 : (¬ ((jI h (jP h a0 11) 0) ≤ i4)) → ((jX h (jP h (jP h a0 11) 2) ((i4).toNat)) ≤ i3) → V MX8_next (d + 4) 43 [some (.inr a0), some (.inl i1), some (.inl i2), some (.inl i3), some (.inl (i4 + 1))] [] h 0 0 Q)
    (e1 : (¬ ((jI h (jP h a0 11) 0) ≤ i4)) → (¬ ((jX h (jP h (jP h a0 11) 2) ((i4).toNat)) ≤ i3)) → Ex MX3_isEdge d [.inr (jP h a0 11), .inl i1, .inl i2, .inl i4] h 0 0 (fun v h2 => V MX8_next (d + 4) 80 [some (.inr a0), some (.inl i1), some (.inl i2), some (.inl i3), some (.inl i4)] (v.toList ++ []) h2 0 0 Q)) :
    V MX8_next (d + 4) 43 [some (.inr a0), some (.inl i1), some (.inl i2), some (.inl i3), some (.inl i4)] [] h 0 0 Q := by
  refine V_iload (i := 4) dX8_next_43 rfl ?_
  refine V_aload_n (i := 0) dX8_next_45 rfl rfl ?_
  refine V_getP dX8_next_46 fX8_67 rfl s1 ?_
  refine V_getI dX8_next_49 fX8_212 rfl s2 ?_
  refine V_icmp_ge (tgt := 100) dX8_next_52 (by decide) (fun c1 => ?_) (fun c1 => ?_)
  · refine V_bipush dX8_next_100 (by decide +kernel) ⟨by decide, by decide⟩ ?_
    exact V_reti rfl dX8_next_102 (q1 c1)
  · refine V_aload_n (i := 0) dX8_next_55 rfl rfl ?_
    refine V_getP dX8_next_56 fX8_67 rfl s1 ?_
    refine V_getP dX8_next_59 fX8_213 rfl s2 ?_
    refine V_iload (i := 4) dX8_next_62 rfl ?_
    refine V_iald dX8_next_64 s3 (s4 c1) (s5 c1) ?_
    refine V_iload_n (i := 3) dX8_next_65 rfl rfl ?_
    refine V_icmp_le (tgt := 94) dX8_next_66 (by decide) (fun c2 => ?_) (fun c2 => ?_)
    · refine V_iinc (i := 4) dX8_next_94 rfl (by decide) (r1 c1 c2) ?_
      refine V_goto (tgt := 43) dX8_next_97 (by decide) ?_
      exact (k1 c1 c2)
    · refine V_aload_n (i := 0) dX8_next_69 rfl rfl ?_
      refine V_getP dX8_next_70 fX8_67 rfl s1 ?_
      refine V_iload_n (i := 1) dX8_next_73 rfl rfl ?_
      refine V_iload_n (i := 2) dX8_next_74 rfl rfl ?_
      refine V_iload (i := 4) dX8_next_75 rfl ?_
      exact V_callV (M := MX8_next) (d := (d + 4)) (mc' := 0) (ms' := 0) (mc := 0) (ms := 0) (As := [.inl i1, .inl i2, .inl i4]) (rest := []) dX8_next_77 tX3_isEdge vX3_isEdge lX8_216 s2 ⟨by decide, rfl⟩ rfl rfl (Nat.le_of_ble_eq_true rfl) (show d + 1 ≤ (d + 4) by omega) (e1 c1 c2)
theorem bX8_next_40 {d : Nat} {Q : Option jA → jH → Prop} (a0 : Nat) (i1 : Int) (i2 : Int) (i3 : Int) (u4 : Option jA) (h : jH)
    (k1 : V MX8_next (d + 4) 43 [some (.inr a0), some (.inl i1), some (.inl i2), some (.inl i3), some (.inl 0)] [] h 0 0 Q) :
    V MX8_next (d + 4) 40 [some (.inr a0), some (.inl i1), some (.inl i2), some (.inl i3), u4] [] h 0 0 Q := by
  refine V_iconst dX8_next_40 ⟨by decide, by decide⟩ ?_
  refine V_istore (i := 4) dX8_next_41 (by decide) ?_
  exact k1
theorem bX8_next_80 {d : Nat} {Q : Option jA → jH → Prop} (a0 : Nat) (i1 : Int) (i2 : Int) (i3 : Int) (i4 : Int) (p0 : Int) (h : jH)
    (r1 : (p0 = 0) → jR (i4 + 1))
    (k1 : (p0 = 0) → V MX8_next (d + 4) 43 [some (.inr a0), some (.inl i1), some (.inl i2), some (.inl i3), some (.inl (i4 + 1))] [] h 0 0 Q)
    (s1 : (jS h a0).1 = 8)
    (s2 : (jS h (jP h a0 11)).1 = 3)
    (s3 : (jS h (jP h (jP h a0 11) 2)).1 = 16)
    (s4 : (¬ (p0 = 0)) → 0 ≤ i4)
    (s5 : (¬ (p0 = 0)) → i4 < ((jS h (jP h (jP h a0 11) 2)).2 : Int))
    (q1 : (¬ (p0 = 0)) → Q (some (.inl (jX h (jP h (jP h a0 11) 2) ((i4).toNat)))) h) :
    V MX8_next (d + 4) 80 [some (.inr a0), some (.inl i1), some (.inl i2), some (.inl i3), some (.inl i4)] [.inl p0] h 0 0 Q := by
  refine V_if_eq (tgt := 94) dX8_next_80 (by decide) (fun c1 => ?_) (fun c1 => ?_)
  · refine V_iinc (i := 4) dX8_next_94 rfl (by decide) (r1 c1) ?_
    refine V_goto (tgt := 43) dX8_next_97 (by decide) ?_
    exact (k1 c1)
  · refine V_aload_n (i := 0) dX8_next_83 rfl rfl ?_
    refine V_getP dX8_next_84 fX8_67 rfl s1 ?_
    refine V_getP dX8_next_87 fX8_213 rfl s2 ?_
    refine V_iload (i := 4) dX8_next_90 rfl ?_
    refine V_iald dX8_next_92 s3 (s4 c1) (s5 c1) ?_
    exact V_reti rfl dX8_next_93 (q1 c1)
theorem dX8_previous_0 : decode cX8_previous 0 = .ok (.aload_n 0, 1) := by decide +kernel
theorem dX8_previous_1 : decode cX8_previous 1 = .ok (.iload_n 1, 1) := by decide +kernel
theorem dX8_previous_2 : decode cX8_previous 2 = .ok (.invokevirtual 126, 3) := by decide +kernel
theorem dX8_previous_5 : decode cX8_previous 5 = .ok (.ifCond .eq 18, 3) := by decide +kernel
theorem dX8_previous_8 : decode cX8_previous 8 = .ok (.iload_n 2, 1) := by decide +kernel
theorem dX8_previous_9 : decode cX8_previous 9 = .ok (.invokestatic 206, 3) := by decide +kernel
theorem dX8_previous_12 : decode cX8_previous 12 = .ok (.ifCond .eq 11, 3) := by decide +kernel
theorem dX8_previous_15 : decode cX8_previous 15 = .ok (.aload_n 0, 1) := by decide +kernel
theorem dX8_previous_16 : decode cX8_previous 16 = .ok (.iload_n 3, 1) := by decide +kernel
theorem dX8_previous_17 : decode cX8_previous 17 = .ok (.invokevirtual 200, 3) := by decide +kernel
theorem dX8_previous_20 : decode cX8_previous 20 = .ok (.ifCond .ne 5, 3) := by decide +kernel
theorem dX8_previous_23 : decode cX8_previous 23 = .ok (.iconst (-1), 1) := by decide +kernel
theorem dX8_previous_24 : decode cX8_previous 24 = .ok (.ireturn, 1) := by decide +kernel
theorem dX8_previous_25 : decode cX8_previous 25 = .ok (.aload_n 0, 1) := by decide +kernel
theorem dX8_previous_26 : decode cX8_previous 26 = .ok (.getfield 67, 3) := by decide +kernel
theorem dX8_previous_29 : decode cX8_previous 29 = .ok (.aload_n 0, 1) := by decide +kernel
theorem dX8_previous_30 : decode cX8_previous 30 = .ok (.getfield 19, 3) := by decide +kernel
theorem dX8_previous_33 : decode cX8_previous 33 = .ok (.aload_n 0, 1) := by decide +kernel
theorem dX8_previous_34 : decode cX8_previous 34 = .ok (.getfield 38, 3) := by decide +kernel
theorem dX8_previous_37 : decode cX8_previous 37 = .ok (.invokevirtual 209, 3) := by decide +kernel
theorem dX8_previous_40 : decode cX8_previous 40 = .ok (.aload_n 0, 1) := by decide +kernel
theorem dX8_previous_41 : decode cX8_previous 41 = .ok (.getfield 67, 3) := by decide +kernel
theorem dX8_previous_44 : decode cX8_previous 44 = .ok (.getfield 212, 3) := by decide +kernel
theorem dX8_previous_47 : decode cX8_previous 47 = .ok (.iconst 1, 1) := by decide +kernel
theorem dX8_previous_48 : decode cX8_previous 48 = .ok (.isub, 1) := by decide +kernel
theorem dX8_previous_49 : decode cX8_previous 49 = .ok (.istore 4, 2) := by decide +kernel
theorem dX8_previous_51 : decode cX8_previous 51 = .ok (.iload 4, 2) := by decide +kernel
theorem dX8_previous_53 : decode cX8_previous 53 = .ok (.ifCond .lt 48, 3) := by decide +kernel
theorem dX8_previous_56 : decode cX8_previous 56 = .ok (.aload_n 0, 1) := by decide +kernel
theorem dX8_previous_57 : decode cX8_previous 57 = .ok (.getfield 67, 3) := by decide +kernel
theorem dX8_previous_60 : decode cX8_previous 60 = .ok (.getfield 213, 3) := by decide +kernel
theorem dX8_previous_63 : decode cX8_previous 63 = .ok (.iload 4, 2) := by decide +kernel
theorem dX8_previous_65 : decode cX8_previous 65 = .ok (.iaload, 1) := by decide +kernel
theorem dX8_previous_66 : decode cX8_previous 66 = .ok (.iload_n 3, 1) := by decide +kernel
theorem dX8_previous_67 : decode cX8_previous 67 = .ok (.if_icmp .ge 28, 3) := by decide +kernel
theorem dX8_previous_70 : decode cX8_previous 70 = .ok (.aload_n 0, 1) := by decide +kernel
theorem dX8_previous_71 : decode cX8_previous 71 = .ok (.getfield 67, 3) := by decide +kernel
theorem dX8_previous_74 : decode cX8_previous 74 = .ok (.iload_n 1, 1) := by decide +kernel
theorem dX8_previous_75 : decode cX8_previous 75 = .ok (.iload_n 2, 1) := by decide +kernel
theorem dX8_previous_76 : decode cX8_previous 76 = .ok (.iload 4, 2) := by decide +kernel
theorem dX8_previous_78 : decode cX8_previous 78 = .ok (.invokevirtual 216, 3) := by decide +kernel
theorem dX8_previous_81 : decode cX8_previous 81 = .ok (.ifCond .eq 14, 3) := by decide +kernel
theorem dX8_previous_84 : decode cX8_previous 84 = .ok (.aload_n 0, 1) := by decide +kernel
theorem dX8_previous_85 : decode cX8_previous 85 = .ok (.getfield 67, 3) := by decide +kernel
theorem dX8_previous_88 : decode cX8_previous 88 = .ok (.getfield 213, 3) := by decide +kernel
theorem dX8_previous_91 : decode cX8_previous 91 = .ok (.iload 4, 2) := by decide +kernel
theorem dX8_previous_93 : decode cX8_previous 93 = .ok (.iaload, 1) := by decide +kernel
theorem dX8_previous_94 : decode cX8_previous 94 = .ok (.ireturn, 1) := by decide +kernel
theorem dX8_previous_95 : decode cX8_previous 95 = .ok (.iinc 4 (-1), 3) := by decide +kernel
theorem dX8_previous_98 : decode cX8_previous 98 = .ok (.goto (-47), 3) := by decide +kernel
theorem dX8_previous_101 : decode cX8_previous 101 = .ok (.bipush (-9), 2) := by decide +kernel
theorem dX8_previous_103 : decode cX8_previous 103 = .ok (.ireturn, 1) := by decide +kernel
theorem bX8_previous_0 {d : Nat} {Q : Option jA → jH → Prop} (a0 : Nat) (i1 : Int) (i2 : Int) (i3 : Int) (u4 : Option jA) (h : jH)
    (s1 : (jS h a0).1 = 8)
    (s2 : (jS h (jP h a0 1)).1 = 2)
    (q1 : (¬ (0 ≤ i1 ∧ i1 < (jI h (jP h a0 1) 0))) → Q (some (.inl ((-1)))) h)
    (q2 : (0 ≤ i1 ∧ i1 < (jI h (jP h a0 1) 0)) → (¬ (0 ≤ i2 ∧ i2 ≤ 2)) → Q (some (.inl ((-1)))) h)
    (s3 : (jS h (jP h a0 4)).1 = 6)
    (e1 : (0 ≤ i1 ∧ i1 < (jI h (jP h a0 1) 0)) → (0 ≤ i2 ∧ i2 ≤ 2) → (0 ≤ i3 ∧ i3 ≤ (jI h (jP h a0 4) 0)) → Ex MX3_read (d + 3) [.inr (jP h a0 11), .inr (jP h a0 1), .inr (jP h a0 4)] h 0 0 (fun v h2 => V MX8_previous (d + 4) 40 [some (.inr a0), some (.inl i1), some (.inl i2), some (.inl i3), u4] (v.toList ++ []) h2 0 0 Q))
    (s4 : (jS h (jP h a0 11)).1 = 3)
    (q3 : (0 ≤ i1 ∧ i1 < (jI h (jP h a0 1) 0)) → (0 ≤ i2 ∧ i2 ≤ 2) → (¬ (0 ≤ i3 ∧ i3 ≤ (jI h (jP h a0 4) 0))) → Q (some (.inl ((-1)))) h) :
    V MX8_previous (d + 4) 0 [some (.inr a0), some (.inl i1), some (.inl i2), some (.inl i3), u4] [] h 0 0 Q := by
  refine V_aload_n (i := 0) dX8_previous_0 rfl rfl ?_
  refine V_iload_n (i := 1) dX8_previous_1 rfl rfl ?_
  refine V_callV (M := MX8_previous) (d := (d + 4)) (mc' := 0) (ms' := 0) (mc := 0) (ms := 0) (As := [.inl i1]) (rest := []) dX8_previous_2 tX8_isSignal vX8_isSignal lX8_126 s1 ⟨by decide, rfl⟩ rfl rfl (Nat.le_of_ble_eq_true rfl) (show d + 1 ≤ (d + 4) by omega) (Ex.mono (pX8_isSignal (d := d) s1 s2) ?_)
  intro v h2 hq
  rw [hq.1, hq.2]
  show V MX8_previous (d + 4) 5 [some (.inr a0), some (.inl i1), some (.inl i2), some (.inl i3), u4] [.inl (jb (0 ≤ i1 ∧ i1 < (jI h (jP h a0 1) 0)))] h 0 0 Q
  refine V_ifb_eq (tgt := 23) dX8_previous_5 (by decide) (fun c1 => ?_) (fun c1 => ?_)
  · refine V_iconst dX8_previous_23 ⟨by decide, by decide⟩ ?_
    exact V_reti rfl dX8_previous_24 (q1 c1)
  · refine V_iload_n (i := 2) dX8_previous_8 rfl rfl ?_
    refine V_callS (M := MX8_previous) (d := (d + 4)) (mc' := 0) (ms' := 0) (mc := 0) (ms := 0) (a := 0) (As := [.inl i2]) (rest := []) dX8_previous_9 tX8_isKind sX8_isKind lX8_206 rfl rfl (Nat.le_of_ble_eq_true rfl) (show d + 1 ≤ (d + 4) by omega) (Ex.mono (pX8_isKind (d := d) ) ?_)
    intro v h2 hq
    rw [hq.1, hq.2]
    show V MX8_previous (d + 4) 12 [some (.inr a0), some (.inl i1), some (.inl i2), some (.inl i3), u4] [.inl (jb (0 ≤ i2 ∧ i2 ≤ 2))] h 0 0 Q
    refine V_ifb_eq (tgt := 23) dX8_previous_12 (by decide) (fun c2 => ?_) (fun c2 => ?_)
    · refine V_iconst dX8_previous_23 ⟨by decide, by decide⟩ ?_
      exact V_reti rfl dX8_previous_24 (q2 c1 c2)
    · refine V_aload_n (i := 0) dX8_previous_15 rfl rfl ?_
      refine V_iload_n (i := 3) dX8_previous_16 rfl rfl ?_
      refine V_callV (M := MX8_previous) (d := (d + 4)) (mc' := 0) (ms' := 0) (mc := 0) (ms := 0) (As := [.inl i3]) (rest := []) dX8_previous_17 tX8_isPast vX8_isPast lX8_200 s1 ⟨by decide, rfl⟩ rfl rfl (Nat.le_of_ble_eq_true rfl) (show d + 1 ≤ (d + 4) by omega) (Ex.mono (pX8_isPast (d := d) s1 s3) ?_)
      intro v h2 hq
      rw [hq.1, hq.2]
      show V MX8_previous (d + 4) 20 [some (.inr a0), some (.inl i1), some (.inl i2), some (.inl i3), u4] [.inl (jb (0 ≤ i3 ∧ i3 ≤ (jI h (jP h a0 4) 0)))] h 0 0 Q
      refine V_ifb_ne (tgt := 25) dX8_previous_20 (by decide) (fun c3 => ?_) (fun c3 => ?_)
      · refine V_aload_n (i := 0) dX8_previous_25 rfl rfl ?_
        refine V_getP dX8_previous_26 fX8_67 rfl s1 ?_
        refine V_aload_n (i := 0) dX8_previous_29 rfl rfl ?_
        refine V_getP dX8_previous_30 fX8_19 rfl s1 ?_
        refine V_aload_n (i := 0) dX8_previous_33 rfl rfl ?_
        refine V_getP dX8_previous_34 fX8_38 rfl s1 ?_
        exact V_callV (M := MX8_previous) (d := (d + 4)) (mc' := 0) (ms' := 0) (mc := 0) (ms := 0) (As := [.inr (jP h a0 1), .inr (jP h a0 4)]) (rest := []) dX8_previous_37 tX3_read vX3_read lX8_209 s4 ⟨by decide, rfl⟩ rfl rfl (Nat.le_of_ble_eq_true rfl) (show (d + 3) + 1 ≤ (d + 4) by omega) (e1 c1 c2 c3)
      · refine V_iconst dX8_previous_23 ⟨by decide, by decide⟩ ?_
        exact V_reti rfl dX8_previous_24 (q3 c1 c2 c3)
theorem bX8_previous_51 {d : Nat} {Q : Option jA → jH → Prop} (a0 : Nat) (i1 : Int) (i2 : Int) (i3 : Int) (i4 : Int) (h : jH)
    (q1 : (i4 < 0) → Q (some (.inl ((-9)))) h)
    (s1 : (jS h a0).1 = 8)
    (s2 : (jS h (jP h a0 11)).1 = 3)
    (s3 : (jS h (jP h (jP h a0 11) 2)).1 = 16)
    (s4 : (¬ (i4 < 0)) → 0 ≤ i4)
    (s5 : (¬ (i4 < 0)) → i4 < ((jS h (jP h (jP h a0 11) 2)).2 : Int))
    (r1 : (¬ (i4 < 0)) → (i3 ≤ (jX h (jP h (jP h a0 11) 2) ((i4).toNat))) → jR (i4 + (-1)))
    (k1 : (¬ (i4 < 0)) → (i3 ≤ (jX h (jP h (jP h a0 11) 2) ((i4).toNat))) → V MX8_previous (d + 4) 51 [some (.inr a0), some (.inl i1), some (.inl i2), some (.inl i3), some (.inl (i4 + (-1)))] [] h 0 0 Q)
    (e1 : (¬ (i4 < 0)) → (¬ (i3 ≤ (jX h (jP h (jP h a0 11) 2) ((i4).toNat)))) → Ex MX3_isEdge d [.inr (jP h a0 11), .inl i1, .inl i2, .inl i4] h 0 0 (fun v h2 => V MX8_previous (d + 4) 81 [some (.inr a0), some (.inl i1), some (.inl i2), some (.inl i3), some (.inl i4)] (v.toList ++ []) h2 0 0 Q)) :
    V MX8_previous (d + 4) 51 [some (.inr a0), some (.inl i1), some (.inl i2), some (.inl i3), some (.inl i4)] [] h 0 0 Q := by
  refine V_iload (i := 4) dX8_previous_51 rfl ?_
  refine V_if_lt (tgt := 101) dX8_previous_53 (by decide) (fun c1 => ?_) (fun c1 => ?_)
  · refine V_bipush dX8_previous_101 (by decide +kernel) ⟨by decide, by decide⟩ ?_
    exact V_reti rfl dX8_previous_103 (q1 c1)
  · refine V_aload_n (i := 0) dX8_previous_56 rfl rfl ?_
    refine V_getP dX8_previous_57 fX8_67 rfl s1 ?_
    refine V_getP dX8_previous_60 fX8_213 rfl s2 ?_
    refine V_iload (i := 4) dX8_previous_63 rfl ?_
    refine V_iald dX8_previous_65 s3 (s4 c1) (s5 c1) ?_
    refine V_iload_n (i := 3) dX8_previous_66 rfl rfl ?_
    refine V_icmp_ge (tgt := 95) dX8_previous_67 (by decide) (fun c2 => ?_) (fun c2 => ?_)
    · refine V_iinc (i := 4) dX8_previous_95 rfl (by decide) (r1 c1 c2) ?_
      refine V_goto (tgt := 51) dX8_previous_98 (by decide) ?_
      exact (k1 c1 c2)
    · refine V_aload_n (i := 0) dX8_previous_70 rfl rfl ?_
      refine V_getP dX8_previous_71 fX8_67 rfl s1 ?_
      refine V_iload_n (i := 1) dX8_previous_74 rfl rfl ?_
      refine V_iload_n (i := 2) dX8_previous_75 rfl rfl ?_
      refine V_iload (i := 4) dX8_previous_76 rfl ?_
      exact V_callV (M := MX8_previous) (d := (d + 4)) (mc' := 0) (ms' := 0) (mc := 0) (ms := 0) (As := [.inl i1, .inl i2, .inl i4]) (rest := []) dX8_previous_78 tX3_isEdge vX3_isEdge lX8_216 s2 ⟨by decide, rfl⟩ rfl rfl (Nat.le_of_ble_eq_true rfl) (show d + 1 ≤ (d + 4) by omega) (e1 c1 c2)
theorem bX8_previous_40 {d : Nat} {Q : Option jA → jH → Prop} (a0 : Nat) (i1 : Int) (i2 : Int) (i3 : Int) (u4 : Option jA) (h : jH)
    (s1 : (jS h a0).1 = 8)
    (s2 : (jS h (jP h a0 11)).1 = 3)
    (r1 : jR ((jI h (jP h a0 11) 0) - 1))
    (k1 : V MX8_previous (d + 4) 51 [some (.inr a0), some (.inl i1), some (.inl i2), some (.inl i3), some (.inl ((jI h (jP h a0 11) 0) - 1))] [] h 0 0 Q) :
    V MX8_previous (d + 4) 40 [some (.inr a0), some (.inl i1), some (.inl i2), some (.inl i3), u4] [] h 0 0 Q := by
  refine V_aload_n (i := 0) dX8_previous_40 rfl rfl ?_
  refine V_getP dX8_previous_41 fX8_67 rfl s1 ?_
  refine V_getI dX8_previous_44 fX8_212 rfl s2 ?_
  refine V_iconst dX8_previous_47 ⟨by decide, by decide⟩ ?_
  refine V_isub dX8_previous_48 r1 ?_
  refine V_istore (i := 4) dX8_previous_49 (by decide) ?_
  exact k1
theorem bX8_previous_81 {d : Nat} {Q : Option jA → jH → Prop} (a0 : Nat) (i1 : Int) (i2 : Int) (i3 : Int) (i4 : Int) (p0 : Int) (h : jH)
    (r1 : (p0 = 0) → jR (i4 + (-1)))
    (k1 : (p0 = 0) → V MX8_previous (d + 4) 51 [some (.inr a0), some (.inl i1), some (.inl i2), some (.inl i3), some (.inl (i4 + (-1)))] [] h 0 0 Q)
    (s1 : (jS h a0).1 = 8)
    (s2 : (jS h (jP h a0 11)).1 = 3)
    (s3 : (jS h (jP h (jP h a0 11) 2)).1 = 16)
    (s4 : (¬ (p0 = 0)) → 0 ≤ i4)
    (s5 : (¬ (p0 = 0)) → i4 < ((jS h (jP h (jP h a0 11) 2)).2 : Int))
    (q1 : (¬ (p0 = 0)) → Q (some (.inl (jX h (jP h (jP h a0 11) 2) ((i4).toNat)))) h) :
    V MX8_previous (d + 4) 81 [some (.inr a0), some (.inl i1), some (.inl i2), some (.inl i3), some (.inl i4)] [.inl p0] h 0 0 Q := by
  refine V_if_eq (tgt := 95) dX8_previous_81 (by decide) (fun c1 => ?_) (fun c1 => ?_)
  · refine V_iinc (i := 4) dX8_previous_95 rfl (by decide) (r1 c1) ?_
    refine V_goto (tgt := 51) dX8_previous_98 (by decide) ?_
    exact (k1 c1)
  · refine V_aload_n (i := 0) dX8_previous_84 rfl rfl ?_
    refine V_getP dX8_previous_85 fX8_67 rfl s1 ?_
    refine V_getP dX8_previous_88 fX8_213 rfl s2 ?_
    refine V_iload (i := 4) dX8_previous_91 rfl ?_
    refine V_iald dX8_previous_93 s3 (s4 c1) (s5 c1) ?_
    exact V_reti rfl dX8_previous_94 (q1 c1)
theorem dX8_first_0 : decode cX8_first 0 = .ok (.aload_n 0, 1) := by decide +kernel
theorem dX8_first_1 : decode cX8_first 1 = .ok (.iload_n 1, 1) := by decide +kernel
theorem dX8_first_2 : decode cX8_first 2 = .ok (.invokevirtual 126, 3) := by decide +kernel
theorem dX8_first_5 : decode cX8_first 5 = .ok (.ifCond .eq 18, 3) := by decide +kernel
theorem dX8_first_8 : decode cX8_first 8 = .ok (.iload_n 2, 1) := by decide +kernel
theorem dX8_first_9 : decode cX8_first 9 = .ok (.invokestatic 220, 3) := by decide +kernel
theorem dX8_first_12 : decode cX8_first 12 = .ok (.ifCond .eq 11, 3) := by decide +kernel
theorem dX8_first_15 : decode cX8_first 15 = .ok (.aload_n 0, 1) := by decide +kernel
theorem dX8_first_16 : decode cX8_first 16 = .ok (.iload_n 3, 1) := by decide +kernel
theorem dX8_first_17 : decode cX8_first 17 = .ok (.invokevirtual 200, 3) := by decide +kernel
theorem dX8_first_20 : decode cX8_first 20 = .ok (.ifCond .ne 5, 3) := by decide +kernel
theorem dX8_first_23 : decode cX8_first 23 = .ok (.iconst (-1), 1) := by decide +kernel
theorem dX8_first_24 : decode cX8_first 24 = .ok (.ireturn, 1) := by decide +kernel
theorem dX8_first_25 : decode cX8_first 25 = .ok (.aload_n 0, 1) := by decide +kernel
theorem dX8_first_26 : decode cX8_first 26 = .ok (.getfield 67, 3) := by decide +kernel
theorem dX8_first_29 : decode cX8_first 29 = .ok (.aload_n 0, 1) := by decide +kernel
theorem dX8_first_30 : decode cX8_first 30 = .ok (.getfield 19, 3) := by decide +kernel
theorem dX8_first_33 : decode cX8_first 33 = .ok (.aload_n 0, 1) := by decide +kernel
theorem dX8_first_34 : decode cX8_first 34 = .ok (.getfield 38, 3) := by decide +kernel
theorem dX8_first_37 : decode cX8_first 37 = .ok (.invokevirtual 209, 3) := by decide +kernel
theorem dX8_first_40 : decode cX8_first 40 = .ok (.iconst 0, 1) := by decide +kernel
theorem dX8_first_41 : decode cX8_first 41 = .ok (.istore 4, 2) := by decide +kernel
theorem dX8_first_43 : decode cX8_first 43 = .ok (.iload 4, 2) := by decide +kernel
theorem dX8_first_45 : decode cX8_first 45 = .ok (.aload_n 0, 1) := by decide +kernel
theorem dX8_first_46 : decode cX8_first 46 = .ok (.getfield 67, 3) := by decide +kernel
theorem dX8_first_49 : decode cX8_first 49 = .ok (.getfield 212, 3) := by decide +kernel
theorem dX8_first_52 : decode cX8_first 52 = .ok (.if_icmp .ge 53, 3) := by decide +kernel
theorem dX8_first_55 : decode cX8_first 55 = .ok (.aload_n 0, 1) := by decide +kernel
theorem dX8_first_56 : decode cX8_first 56 = .ok (.getfield 67, 3) := by decide +kernel
theorem dX8_first_59 : decode cX8_first 59 = .ok (.iload 4, 2) := by decide +kernel
theorem dX8_first_61 : decode cX8_first 61 = .ok (.invokevirtual 223, 3) := by decide +kernel
theorem dX8_first_64 : decode cX8_first 64 = .ok (.iload_n 3, 1) := by decide +kernel
theorem dX8_first_65 : decode cX8_first 65 = .ok (.if_icmp .le 34, 3) := by decide +kernel
theorem dX8_first_68 : decode cX8_first 68 = .ok (.aload_n 0, 1) := by decide +kernel
theorem dX8_first_69 : decode cX8_first 69 = .ok (.getfield 67, 3) := by decide +kernel
theorem dX8_first_72 : decode cX8_first 72 = .ok (.getfield 226, 3) := by decide +kernel
theorem dX8_first_75 : decode cX8_first 75 = .ok (.iload 4, 2) := by decide +kernel
theorem dX8_first_77 : decode cX8_first 77 = .ok (.aaload, 1) := by decide +kernel
theorem dX8_first_78 : decode cX8_first 78 = .ok (.iload_n 1, 1) := by decide +kernel
theorem dX8_first_79 : decode cX8_first 79 = .ok (.iaload, 1) := by decide +kernel
theorem dX8_first_80 : decode cX8_first 80 = .ok (.iload_n 2, 1) := by decide +kernel
theorem dX8_first_81 : decode cX8_first 81 = .ok (.if_icmp .ne 18, 3) := by decide +kernel
theorem dX8_first_84 : decode cX8_first 84 = .ok (.iload_n 3, 1) := by decide +kernel
theorem dX8_first_85 : decode cX8_first 85 = .ok (.aload_n 0, 1) := by decide +kernel
theorem dX8_first_86 : decode cX8_first 86 = .ok (.getfield 67, 3) := by decide +kernel
theorem dX8_first_89 : decode cX8_first 89 = .ok (.getfield 213, 3) := by decide +kernel
theorem dX8_first_92 : decode cX8_first 92 = .ok (.iload 4, 2) := by decide +kernel
theorem dX8_first_94 : decode cX8_first 94 = .ok (.iaload, 1) := by decide +kernel
theorem dX8_first_95 : decode cX8_first 95 = .ok (.invokestatic 229, 3) := by decide +kernel
theorem dX8_first_98 : decode cX8_first 98 = .ok (.ireturn, 1) := by decide +kernel
theorem dX8_first_99 : decode cX8_first 99 = .ok (.iinc 4 1, 3) := by decide +kernel
theorem dX8_first_102 : decode cX8_first 102 = .ok (.goto (-59), 3) := by decide +kernel
theorem dX8_first_105 : decode cX8_first 105 = .ok (.bipush (-9), 2) := by decide +kernel
theorem dX8_first_107 : decode cX8_first 107 = .ok (.ireturn, 1) := by decide +kernel
theorem bX8_first_0 {d : Nat} {Q : Option jA → jH → Prop} (a0 : Nat) (i1 : Int) (i2 : Int) (i3 : Int) (u4 : Option jA) (h : jH)
    (s1 : (jS h a0).1 = 8)
    (s2 : (jS h (jP h a0 1)).1 = 2)
    (q1 : (¬ (0 ≤ i1 ∧ i1 < (jI h (jP h a0 1) 0))) → Q (some (.inl ((-1)))) h)
    (q2 : (0 ≤ i1 ∧ i1 < (jI h (jP h a0 1) 0)) → (¬ (i2 = (-7) ∨ (0 ≤ i2 ∧ i2 ≤ 255))) → Q (some (.inl ((-1)))) h)
    (s3 : (jS h (jP h a0 4)).1 = 6)
    (e1 : (0 ≤ i1 ∧ i1 < (jI h (jP h a0 1) 0)) → (i2 = (-7) ∨ (0 ≤ i2 ∧ i2 ≤ 255)) → (0 ≤ i3 ∧ i3 ≤ (jI h (jP h a0 4) 0)) → Ex MX3_read (d + 3) [.inr (jP h a0 11), .inr (jP h a0 1), .inr (jP h a0 4)] h 0 0 (fun v h2 => V MX8_first (d + 4) 40 [some (.inr a0), some (.inl i1), some (.inl i2), some (.inl i3), u4] (v.toList ++ []) h2 0 0 Q))
    (s4 : (jS h (jP h a0 11)).1 = 3)
    (q3 : (0 ≤ i1 ∧ i1 < (jI h (jP h a0 1) 0)) → (i2 = (-7) ∨ (0 ≤ i2 ∧ i2 ≤ 255)) → (¬ (0 ≤ i3 ∧ i3 ≤ (jI h (jP h a0 4) 0))) → Q (some (.inl ((-1)))) h) :
    V MX8_first (d + 4) 0 [some (.inr a0), some (.inl i1), some (.inl i2), some (.inl i3), u4] [] h 0 0 Q := by
  refine V_aload_n (i := 0) dX8_first_0 rfl rfl ?_
  refine V_iload_n (i := 1) dX8_first_1 rfl rfl ?_
  refine V_callV (M := MX8_first) (d := (d + 4)) (mc' := 0) (ms' := 0) (mc := 0) (ms := 0) (As := [.inl i1]) (rest := []) dX8_first_2 tX8_isSignal vX8_isSignal lX8_126 s1 ⟨by decide, rfl⟩ rfl rfl (Nat.le_of_ble_eq_true rfl) (show d + 1 ≤ (d + 4) by omega) (Ex.mono (pX8_isSignal (d := d) s1 s2) ?_)
  intro v h2 hq
  rw [hq.1, hq.2]
  show V MX8_first (d + 4) 5 [some (.inr a0), some (.inl i1), some (.inl i2), some (.inl i3), u4] [.inl (jb (0 ≤ i1 ∧ i1 < (jI h (jP h a0 1) 0)))] h 0 0 Q
  refine V_ifb_eq (tgt := 23) dX8_first_5 (by decide) (fun c1 => ?_) (fun c1 => ?_)
  · refine V_iconst dX8_first_23 ⟨by decide, by decide⟩ ?_
    exact V_reti rfl dX8_first_24 (q1 c1)
  · refine V_iload_n (i := 2) dX8_first_8 rfl rfl ?_
    refine V_callS (M := MX8_first) (d := (d + 4)) (mc' := 0) (ms' := 0) (mc := 0) (ms := 0) (a := 0) (As := [.inl i2]) (rest := []) dX8_first_9 tX8_isRecordable sX8_isRecordable lX8_220 rfl rfl (Nat.le_of_ble_eq_true rfl) (show d + 1 ≤ (d + 4) by omega) (Ex.mono (pX8_isRecordable (d := d) ) ?_)
    intro v h2 hq
    rw [hq.1, hq.2]
    show V MX8_first (d + 4) 12 [some (.inr a0), some (.inl i1), some (.inl i2), some (.inl i3), u4] [.inl (jb (i2 = (-7) ∨ (0 ≤ i2 ∧ i2 ≤ 255)))] h 0 0 Q
    refine V_ifb_eq (tgt := 23) dX8_first_12 (by decide) (fun c2 => ?_) (fun c2 => ?_)
    · refine V_iconst dX8_first_23 ⟨by decide, by decide⟩ ?_
      exact V_reti rfl dX8_first_24 (q2 c1 c2)
    · refine V_aload_n (i := 0) dX8_first_15 rfl rfl ?_
      refine V_iload_n (i := 3) dX8_first_16 rfl rfl ?_
      refine V_callV (M := MX8_first) (d := (d + 4)) (mc' := 0) (ms' := 0) (mc := 0) (ms := 0) (As := [.inl i3]) (rest := []) dX8_first_17 tX8_isPast vX8_isPast lX8_200 s1 ⟨by decide, rfl⟩ rfl rfl (Nat.le_of_ble_eq_true rfl) (show d + 1 ≤ (d + 4) by omega) (Ex.mono (pX8_isPast (d := d) s1 s3) ?_)
      intro v h2 hq
      rw [hq.1, hq.2]
      show V MX8_first (d + 4) 20 [some (.inr a0), some (.inl i1), some (.inl i2), some (.inl i3), u4] [.inl (jb (0 ≤ i3 ∧ i3 ≤ (jI h (jP h a0 4) 0)))] h 0 0 Q
      refine V_ifb_ne (tgt := 25) dX8_first_20 (by decide) (fun c3 => ?_) (fun c3 => ?_)
      · refine V_aload_n (i := 0) dX8_first_25 rfl rfl ?_
        refine V_getP dX8_first_26 fX8_67 rfl s1 ?_
        refine V_aload_n (i := 0) dX8_first_29 rfl rfl ?_
        refine V_getP dX8_first_30 fX8_19 rfl s1 ?_
        refine V_aload_n (i := 0) dX8_first_33 rfl rfl ?_
        refine V_getP dX8_first_34 fX8_38 rfl s1 ?_
        exact V_callV (M := MX8_first) (d := (d + 4)) (mc' := 0) (ms' := 0) (mc := 0) (ms := 0) (As := [.inr (jP h a0 1), .inr (jP h a0 4)]) (rest := []) dX8_first_37 tX3_read vX3_read lX8_209 s4 ⟨by decide, rfl⟩ rfl rfl (Nat.le_of_ble_eq_true rfl) (show (d + 3) + 1 ≤ (d + 4) by omega) (e1 c1 c2 c3)
      · refine V_iconst dX8_first_23 ⟨by decide, by decide⟩ ?_
        exact V_reti rfl dX8_first_24 (q3 c1 c2 c3)
theorem bX8_first_43 {d : Nat} {Q : Option jA → jH → Prop} (a0 : Nat) (i1 : Int) (i2 : Int) (i3 : Int) (i4 : Int) (h : jH)
    (s1 : (jS h a0).1 = 8)
    (s2 : (jS h (jP h a0 11)).1 = 3)
    (q1 : ((jI h (jP h a0 11) 0) ≤ i4) → Q (some (.inl ((-9)))) h)
    (s3 : (jS h (jP h (jP h a0 11) 2)).1 = 16)
    (s4 : (jS h (jP h (jP h a0 11) 2)).2 = 61)
    (s5 : (¬ ((jI h (jP h a0 11) 0) ≤ i4)) → 0 ≤ i4)
    (s6 : (¬ ((jI h (jP h a0 11) 0) ≤ i4)) → i4 < jI h (jP h a0 11) 0)
    (s7 : (¬ ((jI h (jP h a0 11) 0) ≤ i4)) → jI h (jP h a0 11) 0 ≤ 61)
    (s8 : (¬ ((jI h (jP h a0 11) 0) ≤ i4)) → 0 ≤ jI h (jP h a0 11) 1)
    (s9 : (¬ ((jI h (jP h a0 11) 0) ≤ i4)) → jI h (jP h a0 11) 1 ≤ 999)
    (r1 : (¬ ((jI h (jP h a0 11) 0) ≤ i4)) → ((jaft i4 (jI h (jP h a0 11) 0) (jI h (jP h a0 11) 1) (jX h (jP h (jP h a0 11) 2) ((i4 + 1).toNat))) ≤ i3) → jR (i4 + 1))
    (k1 : (¬ ((jI h (jP h a0 11) 0) ≤ i4)) → ((jaft i4 (jI h (jP h a0 11) 0) (jI h (jP h a0 11) 1) (jX h (jP h (jP h a0 11) 2) ((i4 + 1).toNat))) ≤ i3) → V MX8_first (d + 4) 43 [some (.inr a0), some (.inl i1), some (.inl i2), some (.inl i3), some (.inl (i4 + 1))] [] h 0 0 Q)
    (s10 : (jS h (jP h (jP h a0 11) 3)).1 = 20)
    (s11 : (¬ ((jI h (jP h a0 11) 0) ≤ i4)) → (¬ ((jaft i4 (jI h (jP h a0 11) 0) (jI h (jP h a0 11) 1) (jX h (jP h (jP h a0 11) 2) ((i4 + 1).toNat))) ≤ i3)) → i4 < ((jS h (jP h (jP h a0 11) 3)).2 : Int))
    (s12 : (¬ ((jI h (jP h a0 11) 0) ≤ i4)) → (¬ ((jaft i4 (jI h (jP h a0 11) 0) (jI h (jP h a0 11) 1) (jX h (jP h (jP h a0 11) 2) ((i4 + 1).toNat))) ≤ i3)) → (jS h (jY h (jP h (jP h a0 11) 3) ((i4).toNat))).1 = 16)
    (s13 : (¬ ((jI h (jP h a0 11) 0) ≤ i4)) → (¬ ((jaft i4 (jI h (jP h a0 11) 0) (jI h (jP h a0 11) 1) (jX h (jP h (jP h a0 11) 2) ((i4 + 1).toNat))) ≤ i3)) → 0 ≤ i1)
    (s14 : (¬ ((jI h (jP h a0 11) 0) ≤ i4)) → (¬ ((jaft i4 (jI h (jP h a0 11) 0) (jI h (jP h a0 11) 1) (jX h (jP h (jP h a0 11) 2) ((i4 + 1).toNat))) ≤ i3)) → i1 < ((jS h (jY h (jP h (jP h a0 11) 3) ((i4).toNat))).2 : Int))
    (r2 : (¬ ((jI h (jP h a0 11) 0) ≤ i4)) → (¬ ((jaft i4 (jI h (jP h a0 11) 0) (jI h (jP h a0 11) 1) (jX h (jP h (jP h a0 11) 2) ((i4 + 1).toNat))) ≤ i3)) → ((jX h (jY h (jP h (jP h a0 11) 3) ((i4).toNat)) ((i1).toNat)) ≠ i2) → jR (i4 + 1))
    (k2 : (¬ ((jI h (jP h a0 11) 0) ≤ i4)) → (¬ ((jaft i4 (jI h (jP h a0 11) 0) (jI h (jP h a0 11) 1) (jX h (jP h (jP h a0 11) 2) ((i4 + 1).toNat))) ≤ i3)) → ((jX h (jY h (jP h (jP h a0 11) 3) ((i4).toNat)) ((i1).toNat)) ≠ i2) → V MX8_first (d + 4) 43 [some (.inr a0), some (.inl i1), some (.inl i2), some (.inl i3), some (.inl (i4 + 1))] [] h 0 0 Q)
    (s15 : (¬ ((jI h (jP h a0 11) 0) ≤ i4)) → (¬ ((jaft i4 (jI h (jP h a0 11) 0) (jI h (jP h a0 11) 1) (jX h (jP h (jP h a0 11) 2) ((i4 + 1).toNat))) ≤ i3)) → ((jX h (jY h (jP h (jP h a0 11) 3) ((i4).toNat)) ((i1).toNat)) = i2) → i4 < ((jS h (jP h (jP h a0 11) 2)).2 : Int))
    (q2 : (¬ ((jI h (jP h a0 11) 0) ≤ i4)) → (¬ ((jaft i4 (jI h (jP h a0 11) 0) (jI h (jP h a0 11) 1) (jX h (jP h (jP h a0 11) 2) ((i4 + 1).toNat))) ≤ i3)) → ((jX h (jY h (jP h (jP h a0 11) 3) ((i4).toNat)) ((i1).toNat)) = i2) → Q (some (.inl (max i3 (jX h (jP h (jP h a0 11) 2) ((i4).toNat))))) h) :
    V MX8_first (d + 4) 43 [some (.inr a0), some (.inl i1), some (.inl i2), some (.inl i3), some (.inl i4)] [] h 0 0 Q := by
  refine V_iload (i := 4) dX8_first_43 rfl ?_
  refine V_aload_n (i := 0) dX8_first_45 rfl rfl ?_
  refine V_getP dX8_first_46 fX8_67 rfl s1 ?_
  refine V_getI dX8_first_49 fX8_212 rfl s2 ?_
  refine V_icmp_ge (tgt := 105) dX8_first_52 (by decide) (fun c1 => ?_) (fun c1 => ?_)
  · refine V_bipush dX8_first_105 (by decide +kernel) ⟨by decide, by decide⟩ ?_
    exact V_reti rfl dX8_first_107 (q1 c1)
  · refine V_aload_n (i := 0) dX8_first_55 rfl rfl ?_
    refine V_getP dX8_first_56 fX8_67 rfl s1 ?_
    refine V_iload (i := 4) dX8_first_59 rfl ?_
    refine V_callV (M := MX8_first) (d := (d + 4)) (mc' := 0) (ms' := 0) (mc := 0) (ms := 0) (As := [.inl i4]) (rest := []) dX8_first_61 tX3_after vX3_after lX8_223 s2 ⟨by decide, rfl⟩ rfl rfl (Nat.le_of_ble_eq_true rfl) (show d + 1 ≤ (d + 4) by omega) (Ex.mono (pX3_after (d := d) s2 s3 s4 (s5 c1) (s6 c1) (s7 c1) (s8 c1) (s9 c1)) ?_)
    intro v h2 hq
    rw [hq.1, hq.2]
    show V MX8_first (d + 4) 64 [some (.inr a0), some (.inl i1), some (.inl i2), some (.inl i3), some (.inl i4)] [.inl (jaft i4 (jI h (jP h a0 11) 0) (jI h (jP h a0 11) 1) (jX h (jP h (jP h a0 11) 2) ((i4 + 1).toNat)))] h 0 0 Q
    refine V_iload_n (i := 3) dX8_first_64 rfl rfl ?_
    refine V_icmp_le (tgt := 99) dX8_first_65 (by decide) (fun c2 => ?_) (fun c2 => ?_)
    · refine V_iinc (i := 4) dX8_first_99 rfl (by decide) (r1 c1 c2) ?_
      refine V_goto (tgt := 43) dX8_first_102 (by decide) ?_
      exact (k1 c1 c2)
    · refine V_aload_n (i := 0) dX8_first_68 rfl rfl ?_
      refine V_getP dX8_first_69 fX8_67 rfl s1 ?_
      refine V_getP dX8_first_72 fX8_226 rfl s2 ?_
      refine V_iload (i := 4) dX8_first_75 rfl ?_
      refine V_aald20 dX8_first_77 s10 (s5 c1) (s11 c1 c2) ?_
      refine V_iload_n (i := 1) dX8_first_78 rfl rfl ?_
      refine V_iald dX8_first_79 (s12 c1 c2) (s13 c1 c2) (s14 c1 c2) ?_
      refine V_iload_n (i := 2) dX8_first_80 rfl rfl ?_
      refine V_icmp_ne (tgt := 99) dX8_first_81 (by decide) (fun c3 => ?_) (fun c3 => ?_)
      · refine V_iinc (i := 4) dX8_first_99 rfl (by decide) (r2 c1 c2 c3) ?_
        refine V_goto (tgt := 43) dX8_first_102 (by decide) ?_
        exact (k2 c1 c2 c3)
      · refine V_iload_n (i := 3) dX8_first_84 rfl rfl ?_
        refine V_aload_n (i := 0) dX8_first_85 rfl rfl ?_
        refine V_getP dX8_first_86 fX8_67 rfl s1 ?_
        refine V_getP dX8_first_89 fX8_213 rfl s2 ?_
        refine V_iload (i := 4) dX8_first_92 rfl ?_
        refine V_iald dX8_first_94 s3 (s5 c1) (s15 c1 c2 c3) ?_
        refine V_mmax dX8_first_95 lX8_229 (Nat.le_of_ble_eq_true rfl) ?_
        exact V_reti rfl dX8_first_98 (q2 c1 c2 c3)
theorem bX8_first_40 {d : Nat} {Q : Option jA → jH → Prop} (a0 : Nat) (i1 : Int) (i2 : Int) (i3 : Int) (u4 : Option jA) (h : jH)
    (k1 : V MX8_first (d + 4) 43 [some (.inr a0), some (.inl i1), some (.inl i2), some (.inl i3), some (.inl 0)] [] h 0 0 Q) :
    V MX8_first (d + 4) 40 [some (.inr a0), some (.inl i1), some (.inl i2), some (.inl i3), u4] [] h 0 0 Q := by
  refine V_iconst dX8_first_40 ⟨by decide, by decide⟩ ?_
  refine V_istore (i := 4) dX8_first_41 (by decide) ?_
  exact k1
theorem dX8_holds_0 : decode cX8_holds 0 = .ok (.aload_n 0, 1) := by decide +kernel
theorem dX8_holds_1 : decode cX8_holds 1 = .ok (.iload_n 1, 1) := by decide +kernel
theorem dX8_holds_2 : decode cX8_holds 2 = .ok (.invokevirtual 126, 3) := by decide +kernel
theorem dX8_holds_5 : decode cX8_holds 5 = .ok (.ifCond .eq 23, 3) := by decide +kernel
theorem dX8_holds_8 : decode cX8_holds 8 = .ok (.iload_n 2, 1) := by decide +kernel
theorem dX8_holds_9 : decode cX8_holds 9 = .ok (.iconst 1, 1) := by decide +kernel
theorem dX8_holds_10 : decode cX8_holds 10 = .ok (.if_icmp .lt 18, 3) := by decide +kernel
theorem dX8_holds_13 : decode cX8_holds 13 = .ok (.iload_n 2, 1) := by decide +kernel
theorem dX8_holds_14 : decode cX8_holds 14 = .ok (.sipush 999, 3) := by decide +kernel
theorem dX8_holds_17 : decode cX8_holds 17 = .ok (.if_icmp .gt 11, 3) := by decide +kernel
theorem dX8_holds_20 : decode cX8_holds 20 = .ok (.aload_n 0, 1) := by decide +kernel
theorem dX8_holds_21 : decode cX8_holds 21 = .ok (.iload_n 3, 1) := by decide +kernel
theorem dX8_holds_22 : decode cX8_holds 22 = .ok (.invokevirtual 200, 3) := by decide +kernel
theorem dX8_holds_25 : decode cX8_holds 25 = .ok (.ifCond .ne 5, 3) := by decide +kernel
theorem dX8_holds_28 : decode cX8_holds 28 = .ok (.iconst (-1), 1) := by decide +kernel
theorem dX8_holds_29 : decode cX8_holds 29 = .ok (.ireturn, 1) := by decide +kernel
theorem dX8_holds_30 : decode cX8_holds 30 = .ok (.aload_n 0, 1) := by decide +kernel
theorem dX8_holds_31 : decode cX8_holds 31 = .ok (.getfield 67, 3) := by decide +kernel
theorem dX8_holds_34 : decode cX8_holds 34 = .ok (.aload_n 0, 1) := by decide +kernel
theorem dX8_holds_35 : decode cX8_holds 35 = .ok (.getfield 19, 3) := by decide +kernel
theorem dX8_holds_38 : decode cX8_holds 38 = .ok (.aload_n 0, 1) := by decide +kernel
theorem dX8_holds_39 : decode cX8_holds 39 = .ok (.getfield 38, 3) := by decide +kernel
theorem dX8_holds_42 : decode cX8_holds 42 = .ok (.invokevirtual 209, 3) := by decide +kernel
theorem dX8_holds_45 : decode cX8_holds 45 = .ok (.bipush (-9), 2) := by decide +kernel
theorem dX8_holds_47 : decode cX8_holds 47 = .ok (.istore 4, 2) := by decide +kernel
theorem dX8_holds_49 : decode cX8_holds 49 = .ok (.iconst 0, 1) := by decide +kernel
theorem dX8_holds_50 : decode cX8_holds 50 = .ok (.istore 5, 2) := by decide +kernel
theorem dX8_holds_52 : decode cX8_holds 52 = .ok (.iload 5, 2) := by decide +kernel
theorem dX8_holds_54 : decode cX8_holds 54 = .ok (.aload_n 0, 1) := by decide +kernel
theorem dX8_holds_55 : decode cX8_holds 55 = .ok (.getfield 67, 3) := by decide +kernel
theorem dX8_holds_58 : decode cX8_holds 58 = .ok (.getfield 212, 3) := by decide +kernel
theorem dX8_holds_61 : decode cX8_holds 61 = .ok (.if_icmp .ge 91, 3) := by decide +kernel
theorem dX8_holds_64 : decode cX8_holds 64 = .ok (.aload_n 0, 1) := by decide +kernel
theorem dX8_holds_65 : decode cX8_holds 65 = .ok (.getfield 67, 3) := by decide +kernel
theorem dX8_holds_68 : decode cX8_holds 68 = .ok (.getfield 226, 3) := by decide +kernel
theorem dX8_holds_71 : decode cX8_holds 71 = .ok (.iload 5, 2) := by decide +kernel
theorem dX8_holds_73 : decode cX8_holds 73 = .ok (.aaload, 1) := by decide +kernel
theorem dX8_holds_74 : decode cX8_holds 74 = .ok (.iload_n 1, 1) := by decide +kernel
theorem dX8_holds_75 : decode cX8_holds 75 = .ok (.iaload, 1) := by decide +kernel
theorem dX8_holds_76 : decode cX8_holds 76 = .ok (.istore 6, 2) := by decide +kernel
theorem dX8_holds_78 : decode cX8_holds 78 = .ok (.iload 6, 2) := by decide +kernel
theorem dX8_holds_80 : decode cX8_holds 80 = .ok (.bipush (-7), 2) := by decide +kernel
theorem dX8_holds_82 : decode cX8_holds 82 = .ok (.if_icmp .eq 8, 3) := by decide +kernel
theorem dX8_holds_85 : decode cX8_holds 85 = .ok (.iload 6, 2) := by decide +kernel
theorem dX8_holds_87 : decode cX8_holds 87 = .ok (.ifCond .ne 10, 3) := by decide +kernel
theorem dX8_holds_90 : decode cX8_holds 90 = .ok (.bipush (-9), 2) := by decide +kernel
theorem dX8_holds_92 : decode cX8_holds 92 = .ok (.istore 4, 2) := by decide +kernel
theorem dX8_holds_94 : decode cX8_holds 94 = .ok (.goto 26, 3) := by decide +kernel
theorem dX8_holds_97 : decode cX8_holds 97 = .ok (.iload 4, 2) := by decide +kernel
theorem dX8_holds_99 : decode cX8_holds 99 = .ok (.bipush (-9), 2) := by decide +kernel
theorem dX8_holds_101 : decode cX8_holds 101 = .ok (.if_icmp .ne 19, 3) := by decide +kernel
theorem dX8_holds_104 : decode cX8_holds 104 = .ok (.iload_n 3, 1) := by decide +kernel
theorem dX8_holds_105 : decode cX8_holds 105 = .ok (.aload_n 0, 1) := by decide +kernel
theorem dX8_holds_106 : decode cX8_holds 106 = .ok (.getfield 67, 3) := by decide +kernel
theorem dX8_holds_109 : decode cX8_holds 109 = .ok (.getfield 213, 3) := by decide +kernel
theorem dX8_holds_112 : decode cX8_holds 112 = .ok (.iload 5, 2) := by decide +kernel
theorem dX8_holds_114 : decode cX8_holds 114 = .ok (.iaload, 1) := by decide +kernel
theorem dX8_holds_115 : decode cX8_holds 115 = .ok (.invokestatic 229, 3) := by decide +kernel
theorem dX8_holds_118 : decode cX8_holds 118 = .ok (.istore 4, 2) := by decide +kernel
theorem dX8_holds_120 : decode cX8_holds 120 = .ok (.iload 4, 2) := by decide +kernel
theorem dX8_holds_122 : decode cX8_holds 122 = .ok (.bipush (-9), 2) := by decide +kernel
theorem dX8_holds_124 : decode cX8_holds 124 = .ok (.if_icmp .eq 22, 3) := by decide +kernel
theorem dX8_holds_127 : decode cX8_holds 127 = .ok (.aload_n 0, 1) := by decide +kernel
theorem dX8_holds_128 : decode cX8_holds 128 = .ok (.getfield 67, 3) := by decide +kernel
theorem dX8_holds_131 : decode cX8_holds 131 = .ok (.iload 5, 2) := by decide +kernel
theorem dX8_holds_133 : decode cX8_holds 133 = .ok (.invokevirtual 223, 3) := by decide +kernel
theorem dX8_holds_136 : decode cX8_holds 136 = .ok (.iload 4, 2) := by decide +kernel
theorem dX8_holds_138 : decode cX8_holds 138 = .ok (.isub, 1) := by decide +kernel
theorem dX8_holds_139 : decode cX8_holds 139 = .ok (.iload_n 2, 1) := by decide +kernel
theorem dX8_holds_140 : decode cX8_holds 140 = .ok (.if_icmp .lt 6, 3) := by decide +kernel
theorem dX8_holds_143 : decode cX8_holds 143 = .ok (.iload 4, 2) := by decide +kernel
theorem dX8_holds_145 : decode cX8_holds 145 = .ok (.ireturn, 1) := by decide +kernel
theorem dX8_holds_146 : decode cX8_holds 146 = .ok (.iinc 5 1, 3) := by decide +kernel
theorem dX8_holds_149 : decode cX8_holds 149 = .ok (.goto (-97), 3) := by decide +kernel
theorem dX8_holds_152 : decode cX8_holds 152 = .ok (.bipush (-9), 2) := by decide +kernel
theorem dX8_holds_154 : decode cX8_holds 154 = .ok (.ireturn, 1) := by decide +kernel
theorem bX8_holds_0 {d : Nat} {Q : Option jA → jH → Prop} (a0 : Nat) (i1 : Int) (i2 : Int) (i3 : Int) (u4 : Option jA) (u5 : Option jA) (u6 : Option jA) (h : jH)
    (s1 : (jS h a0).1 = 8)
    (s2 : (jS h (jP h a0 1)).1 = 2)
    (k1 : (¬ (0 ≤ i1 ∧ i1 < (jI h (jP h a0 1) 0))) → V MX8_holds (d + 4) 28 [some (.inr a0), some (.inl i1), some (.inl i2), some (.inl i3), u4, u5, u6] [] h 0 0 Q)
    (k2 : (0 ≤ i1 ∧ i1 < (jI h (jP h a0 1) 0)) → (i2 < 1) → V MX8_holds (d + 4) 28 [some (.inr a0), some (.inl i1), some (.inl i2), some (.inl i3), u4, u5, u6] [] h 0 0 Q)
    (k3 : (0 ≤ i1 ∧ i1 < (jI h (jP h a0 1) 0)) → (¬ (i2 < 1)) → (999 < i2) → V MX8_holds (d + 4) 28 [some (.inr a0), some (.inl i1), some (.inl i2), some (.inl i3), u4, u5, u6] [] h 0 0 Q)
    (s3 : (jS h (jP h a0 4)).1 = 6)
    (e1 : (0 ≤ i1 ∧ i1 < (jI h (jP h a0 1) 0)) → (¬ (i2 < 1)) → (¬ (999 < i2)) → (0 ≤ i3 ∧ i3 ≤ (jI h (jP h a0 4) 0)) → Ex MX3_read (d + 3) [.inr (jP h a0 11), .inr (jP h a0 1), .inr (jP h a0 4)] h 0 0 (fun v h2 => V MX8_holds (d + 4) 45 [some (.inr a0), some (.inl i1), some (.inl i2), some (.inl i3), u4, u5, u6] (v.toList ++ []) h2 0 0 Q))
    (s4 : (jS h (jP h a0 11)).1 = 3)
    (k4 : (0 ≤ i1 ∧ i1 < (jI h (jP h a0 1) 0)) → (¬ (i2 < 1)) → (¬ (999 < i2)) → (¬ (0 ≤ i3 ∧ i3 ≤ (jI h (jP h a0 4) 0))) → V MX8_holds (d + 4) 28 [some (.inr a0), some (.inl i1), some (.inl i2), some (.inl i3), u4, u5, u6] [] h 0 0 Q) :
    V MX8_holds (d + 4) 0 [some (.inr a0), some (.inl i1), some (.inl i2), some (.inl i3), u4, u5, u6] [] h 0 0 Q := by
  refine V_aload_n (i := 0) dX8_holds_0 rfl rfl ?_
  refine V_iload_n (i := 1) dX8_holds_1 rfl rfl ?_
  refine V_callV (M := MX8_holds) (d := (d + 4)) (mc' := 0) (ms' := 0) (mc := 0) (ms := 0) (As := [.inl i1]) (rest := []) dX8_holds_2 tX8_isSignal vX8_isSignal lX8_126 s1 ⟨by decide, rfl⟩ rfl rfl (Nat.le_of_ble_eq_true rfl) (show d + 1 ≤ (d + 4) by omega) (Ex.mono (pX8_isSignal (d := d) s1 s2) ?_)
  intro v h2 hq
  rw [hq.1, hq.2]
  show V MX8_holds (d + 4) 5 [some (.inr a0), some (.inl i1), some (.inl i2), some (.inl i3), u4, u5, u6] [.inl (jb (0 ≤ i1 ∧ i1 < (jI h (jP h a0 1) 0)))] h 0 0 Q
  refine V_ifb_eq (tgt := 28) dX8_holds_5 (by decide) (fun c1 => ?_) (fun c1 => ?_)
  · exact (k1 c1)
  · refine V_iload_n (i := 2) dX8_holds_8 rfl rfl ?_
    refine V_iconst dX8_holds_9 ⟨by decide, by decide⟩ ?_
    refine V_icmp_lt (tgt := 28) dX8_holds_10 (by decide) (fun c2 => ?_) (fun c2 => ?_)
    · exact (k2 c1 c2)
    · refine V_iload_n (i := 2) dX8_holds_13 rfl rfl ?_
      refine V_sipush dX8_holds_14 (by decide +kernel) ⟨by decide, by decide⟩ ?_
      refine V_icmp_gt (tgt := 28) dX8_holds_17 (by decide) (fun c3 => ?_) (fun c3 => ?_)
      · exact (k3 c1 c2 c3)
      · refine V_aload_n (i := 0) dX8_holds_20 rfl rfl ?_
        refine V_iload_n (i := 3) dX8_holds_21 rfl rfl ?_
        refine V_callV (M := MX8_holds) (d := (d + 4)) (mc' := 0) (ms' := 0) (mc := 0) (ms := 0) (As := [.inl i3]) (rest := []) dX8_holds_22 tX8_isPast vX8_isPast lX8_200 s1 ⟨by decide, rfl⟩ rfl rfl (Nat.le_of_ble_eq_true rfl) (show d + 1 ≤ (d + 4) by omega) (Ex.mono (pX8_isPast (d := d) s1 s3) ?_)
        intro v h2 hq
        rw [hq.1, hq.2]
        show V MX8_holds (d + 4) 25 [some (.inr a0), some (.inl i1), some (.inl i2), some (.inl i3), u4, u5, u6] [.inl (jb (0 ≤ i3 ∧ i3 ≤ (jI h (jP h a0 4) 0)))] h 0 0 Q
        refine V_ifb_ne (tgt := 30) dX8_holds_25 (by decide) (fun c4 => ?_) (fun c4 => ?_)
        · refine V_aload_n (i := 0) dX8_holds_30 rfl rfl ?_
          refine V_getP dX8_holds_31 fX8_67 rfl s1 ?_
          refine V_aload_n (i := 0) dX8_holds_34 rfl rfl ?_
          refine V_getP dX8_holds_35 fX8_19 rfl s1 ?_
          refine V_aload_n (i := 0) dX8_holds_38 rfl rfl ?_
          refine V_getP dX8_holds_39 fX8_38 rfl s1 ?_
          exact V_callV (M := MX8_holds) (d := (d + 4)) (mc' := 0) (ms' := 0) (mc := 0) (ms := 0) (As := [.inr (jP h a0 1), .inr (jP h a0 4)]) (rest := []) dX8_holds_42 tX3_read vX3_read lX8_209 s4 ⟨by decide, rfl⟩ rfl rfl (Nat.le_of_ble_eq_true rfl) (show (d + 3) + 1 ≤ (d + 4) by omega) (e1 c1 c2 c3 c4)
        · exact (k4 c1 c2 c3 c4)
theorem bX8_holds_28 {d : Nat} {Q : Option jA → jH → Prop} (a0 : Nat) (i1 : Int) (i2 : Int) (i3 : Int) (u4 : Option jA) (u5 : Option jA) (u6 : Option jA) (h : jH)
    (q1 : Q (some (.inl ((-1)))) h) :
    V MX8_holds (d + 4) 28 [some (.inr a0), some (.inl i1), some (.inl i2), some (.inl i3), u4, u5, u6] [] h 0 0 Q := by
  refine V_iconst dX8_holds_28 ⟨by decide, by decide⟩ ?_
  exact V_reti rfl dX8_holds_29 q1
theorem bX8_holds_52 {d : Nat} {Q : Option jA → jH → Prop} (a0 : Nat) (i1 : Int) (i2 : Int) (i3 : Int) (i4 : Int) (i5 : Int) (u6 : Option jA) (h : jH)
    (s1 : (jS h a0).1 = 8)
    (s2 : (jS h (jP h a0 11)).1 = 3)
    (q1 : ((jI h (jP h a0 11) 0) ≤ i5) → Q (some (.inl ((-9)))) h)
    (s3 : (jS h (jP h (jP h a0 11) 3)).1 = 20)
    (s4 : (¬ ((jI h (jP h a0 11) 0) ≤ i5)) → 0 ≤ i5)
    (s5 : (¬ ((jI h (jP h a0 11) 0) ≤ i5)) → i5 < ((jS h (jP h (jP h a0 11) 3)).2 : Int))
    (s6 : (¬ ((jI h (jP h a0 11) 0) ≤ i5)) → (jS h (jY h (jP h (jP h a0 11) 3) ((i5).toNat))).1 = 16)
    (s7 : (¬ ((jI h (jP h a0 11) 0) ≤ i5)) → 0 ≤ i1)
    (s8 : (¬ ((jI h (jP h a0 11) 0) ≤ i5)) → i1 < ((jS h (jY h (jP h (jP h a0 11) 3) ((i5).toNat))).2 : Int))
    (k1 : (¬ ((jI h (jP h a0 11) 0) ≤ i5)) → ((jX h (jY h (jP h (jP h a0 11) 3) ((i5).toNat)) ((i1).toNat)) = ((-7))) → V MX8_holds (d + 4) 90 [some (.inr a0), some (.inl i1), some (.inl i2), some (.inl i3), some (.inl i4), some (.inl i5), some (.inl (jX h (jY h (jP h (jP h a0 11) 3) ((i5).toNat)) ((i1).toNat)))] [] h 0 0 Q)
    (k2 : (¬ ((jI h (jP h a0 11) 0) ≤ i5)) → (¬ ((jX h (jY h (jP h (jP h a0 11) 3) ((i5).toNat)) ((i1).toNat)) = ((-7)))) → ((jX h (jY h (jP h (jP h a0 11) 3) ((i5).toNat)) ((i1).toNat)) ≠ 0) → (i4 ≠ ((-9))) → V MX8_holds (d + 4) 120 [some (.inr a0), some (.inl i1), some (.inl i2), some (.inl i3), some (.inl i4), some (.inl i5), some (.inl (jX h (jY h (jP h (jP h a0 11) 3) ((i5).toNat)) ((i1).toNat)))] [] h 0 0 Q)
    (s9 : (jS h (jP h (jP h a0 11) 2)).1 = 16)
    (s10 : (¬ ((jI h (jP h a0 11) 0) ≤ i5)) → (¬ ((jX h (jY h (jP h (jP h a0 11) 3) ((i5).toNat)) ((i1).toNat)) = ((-7)))) → ((jX h (jY h (jP h (jP h a0 11) 3) ((i5).toNat)) ((i1).toNat)) ≠ 0) → (i4 = ((-9))) → i5 < ((jS h (jP h (jP h a0 11) 2)).2 : Int))
    (k3 : (¬ ((jI h (jP h a0 11) 0) ≤ i5)) → (¬ ((jX h (jY h (jP h (jP h a0 11) 3) ((i5).toNat)) ((i1).toNat)) = ((-7)))) → ((jX h (jY h (jP h (jP h a0 11) 3) ((i5).toNat)) ((i1).toNat)) ≠ 0) → (i4 = ((-9))) → V MX8_holds (d + 4) 120 [some (.inr a0), some (.inl i1), some (.inl i2), some (.inl i3), some (.inl (max i3 (jX h (jP h (jP h a0 11) 2) ((i5).toNat)))), some (.inl i5), some (.inl (jX h (jY h (jP h (jP h a0 11) 3) ((i5).toNat)) ((i1).toNat)))] [] h 0 0 Q)
    (k4 : (¬ ((jI h (jP h a0 11) 0) ≤ i5)) → (¬ ((jX h (jY h (jP h (jP h a0 11) 3) ((i5).toNat)) ((i1).toNat)) = ((-7)))) → ((jX h (jY h (jP h (jP h a0 11) 3) ((i5).toNat)) ((i1).toNat)) = 0) → V MX8_holds (d + 4) 90 [some (.inr a0), some (.inl i1), some (.inl i2), some (.inl i3), some (.inl i4), some (.inl i5), some (.inl (jX h (jY h (jP h (jP h a0 11) 3) ((i5).toNat)) ((i1).toNat)))] [] h 0 0 Q) :
    V MX8_holds (d + 4) 52 [some (.inr a0), some (.inl i1), some (.inl i2), some (.inl i3), some (.inl i4), some (.inl i5), u6] [] h 0 0 Q := by
  refine V_iload (i := 5) dX8_holds_52 rfl ?_
  refine V_aload_n (i := 0) dX8_holds_54 rfl rfl ?_
  refine V_getP dX8_holds_55 fX8_67 rfl s1 ?_
  refine V_getI dX8_holds_58 fX8_212 rfl s2 ?_
  refine V_icmp_ge (tgt := 152) dX8_holds_61 (by decide) (fun c1 => ?_) (fun c1 => ?_)
  · refine V_bipush dX8_holds_152 (by decide +kernel) ⟨by decide, by decide⟩ ?_
    exact V_reti rfl dX8_holds_154 (q1 c1)
  · refine V_aload_n (i := 0) dX8_holds_64 rfl rfl ?_
    refine V_getP dX8_holds_65 fX8_67 rfl s1 ?_
    refine V_getP dX8_holds_68 fX8_226 rfl s2 ?_
    refine V_iload (i := 5) dX8_holds_71 rfl ?_
    refine V_aald20 dX8_holds_73 s3 (s4 c1) (s5 c1) ?_
    refine V_iload_n (i := 1) dX8_holds_74 rfl rfl ?_
    refine V_iald dX8_holds_75 (s6 c1) (s7 c1) (s8 c1) ?_
    refine V_istore (i := 6) dX8_holds_76 (by decide) ?_
    refine V_iload (i := 6) dX8_holds_78 rfl ?_
    refine V_bipush dX8_holds_80 (by decide +kernel) ⟨by decide, by decide⟩ ?_
    refine V_icmp_eq (tgt := 90) dX8_holds_82 (by decide) (fun c2 => ?_) (fun c2 => ?_)
    · exact (k1 c1 c2)
    · refine V_iload (i := 6) dX8_holds_85 rfl ?_
      refine V_if_ne (tgt := 97) dX8_holds_87 (by decide) (fun c3 => ?_) (fun c3 => ?_)
      · refine V_iload (i := 4) dX8_holds_97 rfl ?_
        refine V_bipush dX8_holds_99 (by decide +kernel) ⟨by decide, by decide⟩ ?_
        refine V_icmp_ne (tgt := 120) dX8_holds_101 (by decide) (fun c4 => ?_) (fun c4 => ?_)
        · exact (k2 c1 c2 c3 c4)
        · refine V_iload_n (i := 3) dX8_holds_104 rfl rfl ?_
          refine V_aload_n (i := 0) dX8_holds_105 rfl rfl ?_
          refine V_getP dX8_holds_106 fX8_67 rfl s1 ?_
          refine V_getP dX8_holds_109 fX8_213 rfl s2 ?_
          refine V_iload (i := 5) dX8_holds_112 rfl ?_
          refine V_iald dX8_holds_114 s9 (s4 c1) (s10 c1 c2 c3 c4) ?_
          refine V_mmax dX8_holds_115 lX8_229 (Nat.le_of_ble_eq_true rfl) ?_
          refine V_istore (i := 4) dX8_holds_118 (by decide) ?_
          exact (k3 c1 c2 c3 c4)
      · exact (k4 c1 c2 c3)
theorem bX8_holds_90 {d : Nat} {Q : Option jA → jH → Prop} (a0 : Nat) (i1 : Int) (i2 : Int) (i3 : Int) (i4 : Int) (i5 : Int) (i6 : Int) (h : jH)
    (k1 : V MX8_holds (d + 4) 120 [some (.inr a0), some (.inl i1), some (.inl i2), some (.inl i3), some (.inl ((-9))), some (.inl i5), some (.inl i6)] [] h 0 0 Q) :
    V MX8_holds (d + 4) 90 [some (.inr a0), some (.inl i1), some (.inl i2), some (.inl i3), some (.inl i4), some (.inl i5), some (.inl i6)] [] h 0 0 Q := by
  refine V_bipush dX8_holds_90 (by decide +kernel) ⟨by decide, by decide⟩ ?_
  refine V_istore (i := 4) dX8_holds_92 (by decide) ?_
  refine V_goto (tgt := 120) dX8_holds_94 (by decide) ?_
  exact k1
theorem bX8_holds_120 {d : Nat} {Q : Option jA → jH → Prop} (a0 : Nat) (i1 : Int) (i2 : Int) (i3 : Int) (i4 : Int) (i5 : Int) (i6 : Int) (h : jH)
    (k1 : (i4 = ((-9))) → V MX8_holds (d + 4) 146 [some (.inr a0), some (.inl i1), some (.inl i2), some (.inl i3), some (.inl i4), some (.inl i5), some (.inl i6)] [] h 0 0 Q)
    (s1 : (jS h a0).1 = 8)
    (s2 : (jS h (jP h a0 11)).1 = 3)
    (s3 : (jS h (jP h (jP h a0 11) 2)).1 = 16)
    (s4 : (jS h (jP h (jP h a0 11) 2)).2 = 61)
    (s5 : (¬ (i4 = ((-9)))) → 0 ≤ i5)
    (s6 : (¬ (i4 = ((-9)))) → i5 < jI h (jP h a0 11) 0)
    (s7 : (¬ (i4 = ((-9)))) → jI h (jP h a0 11) 0 ≤ 61)
    (s8 : (¬ (i4 = ((-9)))) → 0 ≤ jI h (jP h a0 11) 1)
    (s9 : (¬ (i4 = ((-9)))) → jI h (jP h a0 11) 1 ≤ 999)
    (r1 : (¬ (i4 = ((-9)))) → jR ((jaft i5 (jI h (jP h a0 11) 0) (jI h (jP h a0 11) 1) (jX h (jP h (jP h a0 11) 2) ((i5 + 1).toNat))) - i4))
    (k2 : (¬ (i4 = ((-9)))) → (((jaft i5 (jI h (jP h a0 11) 0) (jI h (jP h a0 11) 1) (jX h (jP h (jP h a0 11) 2) ((i5 + 1).toNat))) - i4) < i2) → V MX8_holds (d + 4) 146 [some (.inr a0), some (.inl i1), some (.inl i2), some (.inl i3), some (.inl i4), some (.inl i5), some (.inl i6)] [] h 0 0 Q)
    (q1 : (¬ (i4 = ((-9)))) → (¬ (((jaft i5 (jI h (jP h a0 11) 0) (jI h (jP h a0 11) 1) (jX h (jP h (jP h a0 11) 2) ((i5 + 1).toNat))) - i4) < i2)) → Q (some (.inl i4)) h) :
    V MX8_holds (d + 4) 120 [some (.inr a0), some (.inl i1), some (.inl i2), some (.inl i3), some (.inl i4), some (.inl i5), some (.inl i6)] [] h 0 0 Q := by
  refine V_iload (i := 4) dX8_holds_120 rfl ?_
  refine V_bipush dX8_holds_122 (by decide +kernel) ⟨by decide, by decide⟩ ?_
  refine V_icmp_eq (tgt := 146) dX8_holds_124 (by decide) (fun c1 => ?_) (fun c1 => ?_)
  · exact (k1 c1)
  · refine V_aload_n (i := 0) dX8_holds_127 rfl rfl ?_
    refine V_getP dX8_holds_128 fX8_67 rfl s1 ?_
    refine V_iload (i := 5) dX8_holds_131 rfl ?_
    refine V_callV (M := MX8_holds) (d := (d + 4)) (mc' := 0) (ms' := 0) (mc := 0) (ms := 0) (As := [.inl i5]) (rest := []) dX8_holds_133 tX3_after vX3_after lX8_223 s2 ⟨by decide, rfl⟩ rfl rfl (Nat.le_of_ble_eq_true rfl) (show d + 1 ≤ (d + 4) by omega) (Ex.mono (pX3_after (d := d) s2 s3 s4 (s5 c1) (s6 c1) (s7 c1) (s8 c1) (s9 c1)) ?_)
    intro v h2 hq
    rw [hq.1, hq.2]
    show V MX8_holds (d + 4) 136 [some (.inr a0), some (.inl i1), some (.inl i2), some (.inl i3), some (.inl i4), some (.inl i5), some (.inl i6)] [.inl (jaft i5 (jI h (jP h a0 11) 0) (jI h (jP h a0 11) 1) (jX h (jP h (jP h a0 11) 2) ((i5 + 1).toNat)))] h 0 0 Q
    refine V_iload (i := 4) dX8_holds_136 rfl ?_
    refine V_isub dX8_holds_138 (r1 c1) ?_
    refine V_iload_n (i := 2) dX8_holds_139 rfl rfl ?_
    refine V_icmp_lt (tgt := 146) dX8_holds_140 (by decide) (fun c2 => ?_) (fun c2 => ?_)
    · exact (k2 c1 c2)
    · refine V_iload (i := 4) dX8_holds_143 rfl ?_
      exact V_reti rfl dX8_holds_145 (q1 c1 c2)
theorem bX8_holds_146 {d : Nat} {Q : Option jA → jH → Prop} (a0 : Nat) (i1 : Int) (i2 : Int) (i3 : Int) (i4 : Int) (i5 : Int) (i6 : Int) (h : jH)
    (r1 : jR (i5 + 1))
    (k1 : V MX8_holds (d + 4) 52 [some (.inr a0), some (.inl i1), some (.inl i2), some (.inl i3), some (.inl i4), some (.inl (i5 + 1)), some (.inl i6)] [] h 0 0 Q) :
    V MX8_holds (d + 4) 146 [some (.inr a0), some (.inl i1), some (.inl i2), some (.inl i3), some (.inl i4), some (.inl i5), some (.inl i6)] [] h 0 0 Q := by
  refine V_iinc (i := 5) dX8_holds_146 rfl (by decide) r1 ?_
  refine V_goto (tgt := 52) dX8_holds_149 (by decide) ?_
  exact k1
theorem bX8_holds_45 {d : Nat} {Q : Option jA → jH → Prop} (a0 : Nat) (i1 : Int) (i2 : Int) (i3 : Int) (u4 : Option jA) (u5 : Option jA) (u6 : Option jA) (h : jH)
    (k1 : V MX8_holds (d + 4) 52 [some (.inr a0), some (.inl i1), some (.inl i2), some (.inl i3), some (.inl ((-9))), some (.inl 0), u6] [] h 0 0 Q) :
    V MX8_holds (d + 4) 45 [some (.inr a0), some (.inl i1), some (.inl i2), some (.inl i3), u4, u5, u6] [] h 0 0 Q := by
  refine V_bipush dX8_holds_45 (by decide +kernel) ⟨by decide, by decide⟩ ?_
  refine V_istore (i := 4) dX8_holds_47 (by decide) ?_
  refine V_iconst dX8_holds_49 ⟨by decide, by decide⟩ ?_
  refine V_istore (i := 5) dX8_holds_50 (by decide) ?_
  exact k1
theorem dX8_ticks_0 : decode cX8_ticks 0 = .ok (.iload_n 1, 1) := by decide +kernel
theorem dX8_ticks_1 : decode cX8_ticks 1 = .ok (.ifCond .lt 21, 3) := by decide +kernel
theorem dX8_ticks_4 : decode cX8_ticks 4 = .ok (.iload_n 1, 1) := by decide +kernel
theorem dX8_ticks_5 : decode cX8_ticks 5 = .ok (.iconst 1, 1) := by decide +kernel
theorem dX8_ticks_6 : decode cX8_ticks 6 = .ok (.aload_n 0, 1) := by decide +kernel
theorem dX8_ticks_7 : decode cX8_ticks 7 = .ok (.getfield 19, 3) := by decide +kernel
theorem dX8_ticks_10 : decode cX8_ticks 10 = .ok (.getfield 234, 3) := by decide +kernel
theorem dX8_ticks_13 : decode cX8_ticks 13 = .ok (.ishl, 1) := by decide +kernel
theorem dX8_ticks_14 : decode cX8_ticks 14 = .ok (.if_icmp .ge 8, 3) := by decide +kernel
theorem dX8_ticks_17 : decode cX8_ticks 17 = .ok (.iload_n 2, 1) := by decide +kernel
theorem dX8_ticks_18 : decode cX8_ticks 18 = .ok (.iconst (-1), 1) := by decide +kernel
theorem dX8_ticks_19 : decode cX8_ticks 19 = .ok (.if_icmp .ge 5, 3) := by decide +kernel
theorem dX8_ticks_22 : decode cX8_ticks 22 = .ok (.iconst (-1), 1) := by decide +kernel
theorem dX8_ticks_23 : decode cX8_ticks 23 = .ok (.ireturn, 1) := by decide +kernel
theorem dX8_ticks_24 : decode cX8_ticks 24 = .ok (.aload_n 0, 1) := by decide +kernel
theorem dX8_ticks_25 : decode cX8_ticks 25 = .ok (.getfield 67, 3) := by decide +kernel
theorem dX8_ticks_28 : decode cX8_ticks 28 = .ok (.aload_n 0, 1) := by decide +kernel
theorem dX8_ticks_29 : decode cX8_ticks 29 = .ok (.getfield 19, 3) := by decide +kernel
theorem dX8_ticks_32 : decode cX8_ticks 32 = .ok (.aload_n 0, 1) := by decide +kernel
theorem dX8_ticks_33 : decode cX8_ticks 33 = .ok (.getfield 38, 3) := by decide +kernel
theorem dX8_ticks_36 : decode cX8_ticks 36 = .ok (.invokevirtual 209, 3) := by decide +kernel
theorem dX8_ticks_39 : decode cX8_ticks 39 = .ok (.iconst 0, 1) := by decide +kernel
theorem dX8_ticks_40 : decode cX8_ticks 40 = .ok (.istore_n 3, 1) := by decide +kernel
theorem dX8_ticks_41 : decode cX8_ticks 41 = .ok (.iconst 0, 1) := by decide +kernel
theorem dX8_ticks_42 : decode cX8_ticks 42 = .ok (.istore 4, 2) := by decide +kernel
theorem dX8_ticks_44 : decode cX8_ticks 44 = .ok (.iload 4, 2) := by decide +kernel
theorem dX8_ticks_46 : decode cX8_ticks 46 = .ok (.aload_n 0, 1) := by decide +kernel
theorem dX8_ticks_47 : decode cX8_ticks 47 = .ok (.getfield 67, 3) := by decide +kernel
theorem dX8_ticks_50 : decode cX8_ticks 50 = .ok (.getfield 212, 3) := by decide +kernel
theorem dX8_ticks_53 : decode cX8_ticks 53 = .ok (.if_icmp .ge 41, 3) := by decide +kernel
theorem dX8_ticks_56 : decode cX8_ticks 56 = .ok (.aload_n 0, 1) := by decide +kernel
theorem dX8_ticks_57 : decode cX8_ticks 57 = .ok (.getfield 67, 3) := by decide +kernel
theorem dX8_ticks_60 : decode cX8_ticks 60 = .ok (.iload_n 1, 1) := by decide +kernel
theorem dX8_ticks_61 : decode cX8_ticks 61 = .ok (.iload 4, 2) := by decide +kernel
theorem dX8_ticks_63 : decode cX8_ticks 63 = .ok (.invokevirtual 237, 3) := by decide +kernel
theorem dX8_ticks_66 : decode cX8_ticks 66 = .ok (.ifCond .eq 22, 3) := by decide +kernel
theorem dX8_ticks_69 : decode cX8_ticks 69 = .ok (.iload_n 3, 1) := by decide +kernel
theorem dX8_ticks_70 : decode cX8_ticks 70 = .ok (.iload_n 2, 1) := by decide +kernel
theorem dX8_ticks_71 : decode cX8_ticks 71 = .ok (.if_icmp .ne 14, 3) := by decide +kernel
theorem dX8_ticks_74 : decode cX8_ticks 74 = .ok (.aload_n 0, 1) := by decide +kernel
theorem dX8_ticks_75 : decode cX8_ticks 75 = .ok (.getfield 67, 3) := by decide +kernel
theorem dX8_ticks_78 : decode cX8_ticks 78 = .ok (.getfield 213, 3) := by decide +kernel
theorem dX8_ticks_81 : decode cX8_ticks 81 = .ok (.iload 4, 2) := by decide +kernel
theorem dX8_ticks_83 : decode cX8_ticks 83 = .ok (.iaload, 1) := by decide +kernel
theorem dX8_ticks_84 : decode cX8_ticks 84 = .ok (.ireturn, 1) := by decide +kernel
theorem dX8_ticks_85 : decode cX8_ticks 85 = .ok (.iinc 3 1, 3) := by decide +kernel
theorem dX8_ticks_88 : decode cX8_ticks 88 = .ok (.iinc 4 1, 3) := by decide +kernel
theorem dX8_ticks_91 : decode cX8_ticks 91 = .ok (.goto (-47), 3) := by decide +kernel
theorem dX8_ticks_94 : decode cX8_ticks 94 = .ok (.iload_n 2, 1) := by decide +kernel
theorem dX8_ticks_95 : decode cX8_ticks 95 = .ok (.iconst (-1), 1) := by decide +kernel
theorem dX8_ticks_96 : decode cX8_ticks 96 = .ok (.if_icmp .ne 7, 3) := by decide +kernel
theorem dX8_ticks_99 : decode cX8_ticks 99 = .ok (.iload_n 3, 1) := by decide +kernel
theorem dX8_ticks_100 : decode cX8_ticks 100 = .ok (.goto 5, 3) := by decide +kernel
theorem dX8_ticks_103 : decode cX8_ticks 103 = .ok (.bipush (-9), 2) := by decide +kernel
theorem dX8_ticks_105 : decode cX8_ticks 105 = .ok (.ireturn, 1) := by decide +kernel
theorem bX8_ticks_0 {d : Nat} {Q : Option jA → jH → Prop} (a0 : Nat) (i1 : Int) (i2 : Int) (u3 : Option jA) (u4 : Option jA) (h : jH)
    (q1 : (i1 < 0) → Q (some (.inl ((-1)))) h)
    (s1 : (jS h a0).1 = 8)
    (s2 : (jS h (jP h a0 1)).1 = 2)
    (q2 : (¬ (i1 < 0)) → ((jshl 1 (jI h (jP h a0 1) 0)) ≤ i1) → Q (some (.inl ((-1)))) h)
    (e1 : (¬ (i1 < 0)) → (¬ ((jshl 1 (jI h (jP h a0 1) 0)) ≤ i1)) → (((-1)) ≤ i2) → Ex MX3_read (d + 3) [.inr (jP h a0 11), .inr (jP h a0 1), .inr (jP h a0 4)] h 0 0 (fun v h2 => V MX8_ticks (d + 4) 39 [some (.inr a0), some (.inl i1), some (.inl i2), u3, u4] (v.toList ++ []) h2 0 0 Q))
    (s3 : (jS h (jP h a0 11)).1 = 3)
    (q3 : (¬ (i1 < 0)) → (¬ ((jshl 1 (jI h (jP h a0 1) 0)) ≤ i1)) → (¬ (((-1)) ≤ i2)) → Q (some (.inl ((-1)))) h) :
    V MX8_ticks (d + 4) 0 [some (.inr a0), some (.inl i1), some (.inl i2), u3, u4] [] h 0 0 Q := by
  refine V_iload_n (i := 1) dX8_ticks_0 rfl rfl ?_
  refine V_if_lt (tgt := 22) dX8_ticks_1 (by decide) (fun c1 => ?_) (fun c1 => ?_)
  · refine V_iconst dX8_ticks_22 ⟨by decide, by decide⟩ ?_
    exact V_reti rfl dX8_ticks_23 (q1 c1)
  · refine V_iload_n (i := 1) dX8_ticks_4 rfl rfl ?_
    refine V_iconst dX8_ticks_5 ⟨by decide, by decide⟩ ?_
    refine V_aload_n (i := 0) dX8_ticks_6 rfl rfl ?_
    refine V_getP dX8_ticks_7 fX8_19 rfl s1 ?_
    refine V_getI dX8_ticks_10 fX8_234 rfl s2 ?_
    refine V_ishl dX8_ticks_13 ?_
    refine V_icmp_ge (tgt := 22) dX8_ticks_14 (by decide) (fun c2 => ?_) (fun c2 => ?_)
    · refine V_iconst dX8_ticks_22 ⟨by decide, by decide⟩ ?_
      exact V_reti rfl dX8_ticks_23 (q2 c1 c2)
    · refine V_iload_n (i := 2) dX8_ticks_17 rfl rfl ?_
      refine V_iconst dX8_ticks_18 ⟨by decide, by decide⟩ ?_
      refine V_icmp_ge (tgt := 24) dX8_ticks_19 (by decide) (fun c3 => ?_) (fun c3 => ?_)
      · refine V_aload_n (i := 0) dX8_ticks_24 rfl rfl ?_
        refine V_getP dX8_ticks_25 fX8_67 rfl s1 ?_
        refine V_aload_n (i := 0) dX8_ticks_28 rfl rfl ?_
        refine V_getP dX8_ticks_29 fX8_19 rfl s1 ?_
        refine V_aload_n (i := 0) dX8_ticks_32 rfl rfl ?_
        refine V_getP dX8_ticks_33 fX8_38 rfl s1 ?_
        exact V_callV (M := MX8_ticks) (d := (d + 4)) (mc' := 0) (ms' := 0) (mc := 0) (ms := 0) (As := [.inr (jP h a0 1), .inr (jP h a0 4)]) (rest := []) dX8_ticks_36 tX3_read vX3_read lX8_209 s3 ⟨by decide, rfl⟩ rfl rfl (Nat.le_of_ble_eq_true rfl) (show (d + 3) + 1 ≤ (d + 4) by omega) (e1 c1 c2 c3)
      · refine V_iconst dX8_ticks_22 ⟨by decide, by decide⟩ ?_
        exact V_reti rfl dX8_ticks_23 (q3 c1 c2 c3)
theorem bX8_ticks_44 {d : Nat} {Q : Option jA → jH → Prop} (a0 : Nat) (i1 : Int) (i2 : Int) (i3 : Int) (i4 : Int) (h : jH)
    (s1 : (jS h a0).1 = 8)
    (s2 : (jS h (jP h a0 11)).1 = 3)
    (q1 : ((jI h (jP h a0 11) 0) ≤ i4) → (i2 ≠ ((-1))) → Q (some (.inl ((-9)))) h)
    (q2 : ((jI h (jP h a0 11) 0) ≤ i4) → (i2 = ((-1))) → Q (some (.inl i3)) h)
    (e1 : (¬ ((jI h (jP h a0 11) 0) ≤ i4)) → Ex MX3_hasEdgeOf (d + 1) [.inr (jP h a0 11), .inl i1, .inl i4] h 0 0 (fun v h2 => V MX8_ticks (d + 4) 66 [some (.inr a0), some (.inl i1), some (.inl i2), some (.inl i3), some (.inl i4)] (v.toList ++ []) h2 0 0 Q)) :
    V MX8_ticks (d + 4) 44 [some (.inr a0), some (.inl i1), some (.inl i2), some (.inl i3), some (.inl i4)] [] h 0 0 Q := by
  refine V_iload (i := 4) dX8_ticks_44 rfl ?_
  refine V_aload_n (i := 0) dX8_ticks_46 rfl rfl ?_
  refine V_getP dX8_ticks_47 fX8_67 rfl s1 ?_
  refine V_getI dX8_ticks_50 fX8_212 rfl s2 ?_
  refine V_icmp_ge (tgt := 94) dX8_ticks_53 (by decide) (fun c1 => ?_) (fun c1 => ?_)
  · refine V_iload_n (i := 2) dX8_ticks_94 rfl rfl ?_
    refine V_iconst dX8_ticks_95 ⟨by decide, by decide⟩ ?_
    refine V_icmp_ne (tgt := 103) dX8_ticks_96 (by decide) (fun c2 => ?_) (fun c2 => ?_)
    · refine V_bipush dX8_ticks_103 (by decide +kernel) ⟨by decide, by decide⟩ ?_
      exact V_reti rfl dX8_ticks_105 (q1 c1 c2)
    · refine V_iload_n (i := 3) dX8_ticks_99 rfl rfl ?_
      refine V_goto (tgt := 105) dX8_ticks_100 (by decide) ?_
      exact V_reti rfl dX8_ticks_105 (q2 c1 c2)
  · refine V_aload_n (i := 0) dX8_ticks_56 rfl rfl ?_
    refine V_getP dX8_ticks_57 fX8_67 rfl s1 ?_
    refine V_iload_n (i := 1) dX8_ticks_60 rfl rfl ?_
    refine V_iload (i := 4) dX8_ticks_61 rfl ?_
    exact V_callV (M := MX8_ticks) (d := (d + 4)) (mc' := 0) (ms' := 0) (mc := 0) (ms := 0) (As := [.inl i1, .inl i4]) (rest := []) dX8_ticks_63 tX3_hasEdgeOf vX3_hasEdgeOf lX8_237 s2 ⟨by decide, rfl⟩ rfl rfl (Nat.le_of_ble_eq_true rfl) (show (d + 1) + 1 ≤ (d + 4) by omega) (e1 c1)
theorem bX8_ticks_39 {d : Nat} {Q : Option jA → jH → Prop} (a0 : Nat) (i1 : Int) (i2 : Int) (u3 : Option jA) (u4 : Option jA) (h : jH)
    (k1 : V MX8_ticks (d + 4) 44 [some (.inr a0), some (.inl i1), some (.inl i2), some (.inl 0), some (.inl 0)] [] h 0 0 Q) :
    V MX8_ticks (d + 4) 39 [some (.inr a0), some (.inl i1), some (.inl i2), u3, u4] [] h 0 0 Q := by
  refine V_iconst dX8_ticks_39 ⟨by decide, by decide⟩ ?_
  refine V_istore_n (i := 3) dX8_ticks_40 rfl (by decide) ?_
  refine V_iconst dX8_ticks_41 ⟨by decide, by decide⟩ ?_
  refine V_istore (i := 4) dX8_ticks_42 (by decide) ?_
  exact k1
theorem bX8_ticks_66 {d : Nat} {Q : Option jA → jH → Prop} (a0 : Nat) (i1 : Int) (i2 : Int) (i3 : Int) (i4 : Int) (p0 : Int) (h : jH)
    (r1 : (p0 = 0) → jR (i4 + 1))
    (k1 : (p0 = 0) → V MX8_ticks (d + 4) 44 [some (.inr a0), some (.inl i1), some (.inl i2), some (.inl i3), some (.inl (i4 + 1))] [] h 0 0 Q)
    (r2 : (¬ (p0 = 0)) → (i3 ≠ i2) → jR (i3 + 1))
    (r3 : (¬ (p0 = 0)) → (i3 ≠ i2) → jR (i4 + 1))
    (k2 : (¬ (p0 = 0)) → (i3 ≠ i2) → V MX8_ticks (d + 4) 44 [some (.inr a0), some (.inl i1), some (.inl i2), some (.inl (i3 + 1)), some (.inl (i4 + 1))] [] h 0 0 Q)
    (s1 : (jS h a0).1 = 8)
    (s2 : (jS h (jP h a0 11)).1 = 3)
    (s3 : (jS h (jP h (jP h a0 11) 2)).1 = 16)
    (s4 : (¬ (p0 = 0)) → (i3 = i2) → 0 ≤ i4)
    (s5 : (¬ (p0 = 0)) → (i3 = i2) → i4 < ((jS h (jP h (jP h a0 11) 2)).2 : Int))
    (q1 : (¬ (p0 = 0)) → (i3 = i2) → Q (some (.inl (jX h (jP h (jP h a0 11) 2) ((i4).toNat)))) h) :
    V MX8_ticks (d + 4) 66 [some (.inr a0), some (.inl i1), some (.inl i2), some (.inl i3), some (.inl i4)] [.inl p0] h 0 0 Q := by
  refine V_if_eq (tgt := 88) dX8_ticks_66 (by decide) (fun c1 => ?_) (fun c1 => ?_)
  · refine V_iinc (i := 4) dX8_ticks_88 rfl (by decide) (r1 c1) ?_
    refine V_goto (tgt := 44) dX8_ticks_91 (by decide) ?_
    exact (k1 c1)
  · refine V_iload_n (i := 3) dX8_ticks_69 rfl rfl ?_
    refine V_iload_n (i := 2) dX8_ticks_70 rfl rfl ?_
    refine V_icmp_ne (tgt := 85) dX8_ticks_71 (by decide) (fun c2 => ?_) (fun c2 => ?_)
    · refine V_iinc (i := 3) dX8_ticks_85 rfl (by decide) (r2 c1 c2) ?_
      refine V_iinc (i := 4) dX8_ticks_88 rfl (by decide) (r3 c1 c2) ?_
      refine V_goto (tgt := 44) dX8_ticks_91 (by decide) ?_
      exact (k2 c1 c2)
    · refine V_aload_n (i := 0) dX8_ticks_74 rfl rfl ?_
      refine V_getP dX8_ticks_75 fX8_67 rfl s1 ?_
      refine V_getP dX8_ticks_78 fX8_213 rfl s2 ?_
      refine V_iload (i := 4) dX8_ticks_81 rfl ?_
      refine V_iald dX8_ticks_83 s3 (s4 c1 c2) (s5 c1 c2) ?_
      exact V_reti rfl dX8_ticks_84 (q1 c1 c2)
theorem dX8_delay_0 : decode cX8_delay 0 = .ok (.aload_n 0, 1) := by decide +kernel
theorem dX8_delay_1 : decode cX8_delay 1 = .ok (.iload_n 1, 1) := by decide +kernel
theorem dX8_delay_2 : decode cX8_delay 2 = .ok (.invokevirtual 126, 3) := by decide +kernel
theorem dX8_delay_5 : decode cX8_delay 5 = .ok (.ifCond .eq 11, 3) := by decide +kernel
theorem dX8_delay_8 : decode cX8_delay 8 = .ok (.aload_n 0, 1) := by decide +kernel
theorem dX8_delay_9 : decode cX8_delay 9 = .ok (.iload_n 2, 1) := by decide +kernel
theorem dX8_delay_10 : decode cX8_delay 10 = .ok (.invokevirtual 126, 3) := by decide +kernel
theorem dX8_delay_13 : decode cX8_delay 13 = .ok (.ifCond .ne 5, 3) := by decide +kernel
theorem dX8_delay_16 : decode cX8_delay 16 = .ok (.iconst (-1), 1) := by decide +kernel
theorem dX8_delay_17 : decode cX8_delay 17 = .ok (.ireturn, 1) := by decide +kernel
theorem dX8_delay_18 : decode cX8_delay 18 = .ok (.aload_n 0, 1) := by decide +kernel
theorem dX8_delay_19 : decode cX8_delay 19 = .ok (.getfield 67, 3) := by decide +kernel
theorem dX8_delay_22 : decode cX8_delay 22 = .ok (.aload_n 0, 1) := by decide +kernel
theorem dX8_delay_23 : decode cX8_delay 23 = .ok (.getfield 19, 3) := by decide +kernel
theorem dX8_delay_26 : decode cX8_delay 26 = .ok (.aload_n 0, 1) := by decide +kernel
theorem dX8_delay_27 : decode cX8_delay 27 = .ok (.getfield 38, 3) := by decide +kernel
theorem dX8_delay_30 : decode cX8_delay 30 = .ok (.invokevirtual 209, 3) := by decide +kernel
theorem dX8_delay_33 : decode cX8_delay 33 = .ok (.iconst 0, 1) := by decide +kernel
theorem dX8_delay_34 : decode cX8_delay 34 = .ok (.istore_n 3, 1) := by decide +kernel
theorem dX8_delay_35 : decode cX8_delay 35 = .ok (.iload_n 3, 1) := by decide +kernel
theorem dX8_delay_36 : decode cX8_delay 36 = .ok (.bipush 50, 2) := by decide +kernel
theorem dX8_delay_38 : decode cX8_delay 38 = .ok (.if_icmp .gt 24, 3) := by decide +kernel
theorem dX8_delay_41 : decode cX8_delay 41 = .ok (.aload_n 0, 1) := by decide +kernel
theorem dX8_delay_42 : decode cX8_delay 42 = .ok (.getfield 67, 3) := by decide +kernel
theorem dX8_delay_45 : decode cX8_delay 45 = .ok (.iload_n 1, 1) := by decide +kernel
theorem dX8_delay_46 : decode cX8_delay 46 = .ok (.iload_n 2, 1) := by decide +kernel
theorem dX8_delay_47 : decode cX8_delay 47 = .ok (.iload_n 3, 1) := by decide +kernel
theorem dX8_delay_48 : decode cX8_delay 48 = .ok (.invokevirtual 241, 3) := by decide +kernel
theorem dX8_delay_51 : decode cX8_delay 51 = .ok (.ifCond .eq 5, 3) := by decide +kernel
theorem dX8_delay_54 : decode cX8_delay 54 = .ok (.iload_n 3, 1) := by decide +kernel
theorem dX8_delay_55 : decode cX8_delay 55 = .ok (.ireturn, 1) := by decide +kernel
theorem dX8_delay_56 : decode cX8_delay 56 = .ok (.iinc 3 1, 3) := by decide +kernel
theorem dX8_delay_59 : decode cX8_delay 59 = .ok (.goto (-24), 3) := by decide +kernel
theorem dX8_delay_62 : decode cX8_delay 62 = .ok (.bipush (-9), 2) := by decide +kernel
theorem dX8_delay_64 : decode cX8_delay 64 = .ok (.ireturn, 1) := by decide +kernel
theorem bX8_delay_0 {d : Nat} {Q : Option jA → jH → Prop} (a0 : Nat) (i1 : Int) (i2 : Int) (u3 : Option jA) (h : jH)
    (s1 : (jS h a0).1 = 8)
    (s2 : (jS h (jP h a0 1)).1 = 2)
    (q1 : (¬ (0 ≤ i1 ∧ i1 < (jI h (jP h a0 1) 0))) → Q (some (.inl ((-1)))) h)
    (e1 : (0 ≤ i1 ∧ i1 < (jI h (jP h a0 1) 0)) → (0 ≤ i2 ∧ i2 < (jI h (jP h a0 1) 0)) → Ex MX3_read (d + 3) [.inr (jP h a0 11), .inr (jP h a0 1), .inr (jP h a0 4)] h 0 0 (fun v h2 => V MX8_delay (d + 4) 33 [some (.inr a0), some (.inl i1), some (.inl i2), u3] (v.toList ++ []) h2 0 0 Q))
    (s3 : (jS h (jP h a0 11)).1 = 3)
    (q2 : (0 ≤ i1 ∧ i1 < (jI h (jP h a0 1) 0)) → (¬ (0 ≤ i2 ∧ i2 < (jI h (jP h a0 1) 0))) → Q (some (.inl ((-1)))) h) :
    V MX8_delay (d + 4) 0 [some (.inr a0), some (.inl i1), some (.inl i2), u3] [] h 0 0 Q := by
  refine V_aload_n (i := 0) dX8_delay_0 rfl rfl ?_
  refine V_iload_n (i := 1) dX8_delay_1 rfl rfl ?_
  refine V_callV (M := MX8_delay) (d := (d + 4)) (mc' := 0) (ms' := 0) (mc := 0) (ms := 0) (As := [.inl i1]) (rest := []) dX8_delay_2 tX8_isSignal vX8_isSignal lX8_126 s1 ⟨by decide, rfl⟩ rfl rfl (Nat.le_of_ble_eq_true rfl) (show d + 1 ≤ (d + 4) by omega) (Ex.mono (pX8_isSignal (d := d) s1 s2) ?_)
  intro v h2 hq
  rw [hq.1, hq.2]
  show V MX8_delay (d + 4) 5 [some (.inr a0), some (.inl i1), some (.inl i2), u3] [.inl (jb (0 ≤ i1 ∧ i1 < (jI h (jP h a0 1) 0)))] h 0 0 Q
  refine V_ifb_eq (tgt := 16) dX8_delay_5 (by decide) (fun c1 => ?_) (fun c1 => ?_)
  · refine V_iconst dX8_delay_16 ⟨by decide, by decide⟩ ?_
    exact V_reti rfl dX8_delay_17 (q1 c1)
  · refine V_aload_n (i := 0) dX8_delay_8 rfl rfl ?_
    refine V_iload_n (i := 2) dX8_delay_9 rfl rfl ?_
    refine V_callV (M := MX8_delay) (d := (d + 4)) (mc' := 0) (ms' := 0) (mc := 0) (ms := 0) (As := [.inl i2]) (rest := []) dX8_delay_10 tX8_isSignal vX8_isSignal lX8_126 s1 ⟨by decide, rfl⟩ rfl rfl (Nat.le_of_ble_eq_true rfl) (show d + 1 ≤ (d + 4) by omega) (Ex.mono (pX8_isSignal (d := d) s1 s2) ?_)
    intro v h2 hq
    rw [hq.1, hq.2]
    show V MX8_delay (d + 4) 13 [some (.inr a0), some (.inl i1), some (.inl i2), u3] [.inl (jb (0 ≤ i2 ∧ i2 < (jI h (jP h a0 1) 0)))] h 0 0 Q
    refine V_ifb_ne (tgt := 18) dX8_delay_13 (by decide) (fun c2 => ?_) (fun c2 => ?_)
    · refine V_aload_n (i := 0) dX8_delay_18 rfl rfl ?_
      refine V_getP dX8_delay_19 fX8_67 rfl s1 ?_
      refine V_aload_n (i := 0) dX8_delay_22 rfl rfl ?_
      refine V_getP dX8_delay_23 fX8_19 rfl s1 ?_
      refine V_aload_n (i := 0) dX8_delay_26 rfl rfl ?_
      refine V_getP dX8_delay_27 fX8_38 rfl s1 ?_
      exact V_callV (M := MX8_delay) (d := (d + 4)) (mc' := 0) (ms' := 0) (mc := 0) (ms := 0) (As := [.inr (jP h a0 1), .inr (jP h a0 4)]) (rest := []) dX8_delay_30 tX3_read vX3_read lX8_209 s3 ⟨by decide, rfl⟩ rfl rfl (Nat.le_of_ble_eq_true rfl) (show (d + 3) + 1 ≤ (d + 4) by omega) (e1 c1 c2)
    · refine V_iconst dX8_delay_16 ⟨by decide, by decide⟩ ?_
      exact V_reti rfl dX8_delay_17 (q2 c1 c2)
theorem bX8_delay_35 {d : Nat} {Q : Option jA → jH → Prop} (a0 : Nat) (i1 : Int) (i2 : Int) (i3 : Int) (h : jH)
    (q1 : (50 < i3) → Q (some (.inl ((-9)))) h)
    (s1 : (jS h a0).1 = 8)
    (e1 : (¬ (50 < i3)) → Ex MX3_follows (d + 2) [.inr (jP h a0 11), .inl i1, .inl i2, .inl i3] h 0 0 (fun v h2 => V MX8_delay (d + 4) 51 [some (.inr a0), some (.inl i1), some (.inl i2), some (.inl i3)] (v.toList ++ []) h2 0 0 Q))
    (s2 : (jS h (jP h a0 11)).1 = 3) :
    V MX8_delay (d + 4) 35 [some (.inr a0), some (.inl i1), some (.inl i2), some (.inl i3)] [] h 0 0 Q := by
  refine V_iload_n (i := 3) dX8_delay_35 rfl rfl ?_
  refine V_bipush dX8_delay_36 (by decide +kernel) ⟨by decide, by decide⟩ ?_
  refine V_icmp_gt (tgt := 62) dX8_delay_38 (by decide) (fun c1 => ?_) (fun c1 => ?_)
  · refine V_bipush dX8_delay_62 (by decide +kernel) ⟨by decide, by decide⟩ ?_
    exact V_reti rfl dX8_delay_64 (q1 c1)
  · refine V_aload_n (i := 0) dX8_delay_41 rfl rfl ?_
    refine V_getP dX8_delay_42 fX8_67 rfl s1 ?_
    refine V_iload_n (i := 1) dX8_delay_45 rfl rfl ?_
    refine V_iload_n (i := 2) dX8_delay_46 rfl rfl ?_
    refine V_iload_n (i := 3) dX8_delay_47 rfl rfl ?_
    exact V_callV (M := MX8_delay) (d := (d + 4)) (mc' := 0) (ms' := 0) (mc := 0) (ms := 0) (As := [.inl i1, .inl i2, .inl i3]) (rest := []) dX8_delay_48 tX3_follows vX3_follows lX8_241 s2 ⟨by decide, rfl⟩ rfl rfl (Nat.le_of_ble_eq_true rfl) (show (d + 2) + 1 ≤ (d + 4) by omega) (e1 c1)
theorem bX8_delay_33 {d : Nat} {Q : Option jA → jH → Prop} (a0 : Nat) (i1 : Int) (i2 : Int) (u3 : Option jA) (h : jH)
    (k1 : V MX8_delay (d + 4) 35 [some (.inr a0), some (.inl i1), some (.inl i2), some (.inl 0)] [] h 0 0 Q) :
    V MX8_delay (d + 4) 33 [some (.inr a0), some (.inl i1), some (.inl i2), u3] [] h 0 0 Q := by
  refine V_iconst dX8_delay_33 ⟨by decide, by decide⟩ ?_
  refine V_istore_n (i := 3) dX8_delay_34 rfl (by decide) ?_
  exact k1
theorem bX8_delay_51 {d : Nat} {Q : Option jA → jH → Prop} (a0 : Nat) (i1 : Int) (i2 : Int) (i3 : Int) (p0 : Int) (h : jH)
    (r1 : (p0 = 0) → jR (i3 + 1))
    (k1 : (p0 = 0) → V MX8_delay (d + 4) 35 [some (.inr a0), some (.inl i1), some (.inl i2), some (.inl (i3 + 1))] [] h 0 0 Q)
    (q1 : (¬ (p0 = 0)) → Q (some (.inl i3)) h) :
    V MX8_delay (d + 4) 51 [some (.inr a0), some (.inl i1), some (.inl i2), some (.inl i3)] [.inl p0] h 0 0 Q := by
  refine V_if_eq (tgt := 56) dX8_delay_51 (by decide) (fun c1 => ?_) (fun c1 => ?_)
  · refine V_iinc (i := 3) dX8_delay_56 rfl (by decide) (r1 c1) ?_
    refine V_goto (tgt := 35) dX8_delay_59 (by decide) ?_
    exact (k1 c1)
  · refine V_iload_n (i := 3) dX8_delay_54 rfl rfl ?_
    exact V_reti rfl dX8_delay_55 (q1 c1)
theorem dX8_jump_0 : decode cX8_jump 0 = .ok (.aload_n 0, 1) := by decide +kernel
theorem dX8_jump_1 : decode cX8_jump 1 = .ok (.iload_n 1, 1) := by decide +kernel
theorem dX8_jump_2 : decode cX8_jump 2 = .ok (.invokevirtual 200, 3) := by decide +kernel
theorem dX8_jump_5 : decode cX8_jump 5 = .ok (.ifCond .eq 14, 3) := by decide +kernel
theorem dX8_jump_8 : decode cX8_jump 8 = .ok (.aload_n 0, 1) := by decide +kernel
theorem dX8_jump_9 : decode cX8_jump 9 = .ok (.getfield 38, 3) := by decide +kernel
theorem dX8_jump_12 : decode cX8_jump 12 = .ok (.iload_n 1, 1) := by decide +kernel
theorem dX8_jump_13 : decode cX8_jump 13 = .ok (.invokevirtual 244, 3) := by decide +kernel
theorem dX8_jump_16 : decode cX8_jump 16 = .ok (.goto 4, 3) := by decide +kernel
theorem dX8_jump_19 : decode cX8_jump 19 = .ok (.iconst (-1), 1) := by decide +kernel
theorem dX8_jump_20 : decode cX8_jump 20 = .ok (.ireturn, 1) := by decide +kernel
theorem bX8_jump_0 {d : Nat} {Q : Option jA → jH → Prop} (a0 : Nat) (i1 : Int) (h : jH)
    (s1 : (jS h a0).1 = 8)
    (s2 : (jS h (jP h a0 4)).1 = 6)
    (q1 : (¬ (0 ≤ i1 ∧ i1 ≤ (jI h (jP h a0 4) 0))) → Q (some (.inl ((-1)))) h)
    (e1 : (0 ≤ i1 ∧ i1 ≤ (jI h (jP h a0 4) 0)) → Ex MX6_blockAt d [.inr (jP h a0 4), .inl i1] h 0 0 (fun v h2 => V MX8_jump (d + 1) 16 [some (.inr a0), some (.inl i1)] (v.toList ++ []) h2 0 0 Q)) :
    V MX8_jump (d + 1) 0 [some (.inr a0), some (.inl i1)] [] h 0 0 Q := by
  refine V_aload_n (i := 0) dX8_jump_0 rfl rfl ?_
  refine V_iload_n (i := 1) dX8_jump_1 rfl rfl ?_
  refine V_callV (M := MX8_jump) (d := (d + 1)) (mc' := 0) (ms' := 0) (mc := 0) (ms := 0) (As := [.inl i1]) (rest := []) dX8_jump_2 tX8_isPast vX8_isPast lX8_200 s1 ⟨by decide, rfl⟩ rfl rfl (Nat.le_of_ble_eq_true rfl) (show d + 1 ≤ (d + 1) by omega) (Ex.mono (pX8_isPast (d := d) s1 s2) ?_)
  intro v h2 hq
  rw [hq.1, hq.2]
  show V MX8_jump (d + 1) 5 [some (.inr a0), some (.inl i1)] [.inl (jb (0 ≤ i1 ∧ i1 ≤ (jI h (jP h a0 4) 0)))] h 0 0 Q
  refine V_ifb_eq (tgt := 19) dX8_jump_5 (by decide) (fun c1 => ?_) (fun c1 => ?_)
  · refine V_iconst dX8_jump_19 ⟨by decide, by decide⟩ ?_
    exact V_reti rfl dX8_jump_20 (q1 c1)
  · refine V_aload_n (i := 0) dX8_jump_8 rfl rfl ?_
    refine V_getP dX8_jump_9 fX8_38 rfl s1 ?_
    refine V_iload_n (i := 1) dX8_jump_12 rfl rfl ?_
    exact V_callV (M := MX8_jump) (d := (d + 1)) (mc' := 0) (ms' := 0) (mc := 0) (ms := 0) (As := [.inl i1]) (rest := []) dX8_jump_13 tX6_blockAt vX6_blockAt lX8_244 s2 ⟨by decide, rfl⟩ rfl rfl (Nat.le_of_ble_eq_true rfl) (show d + 1 ≤ (d + 1) by omega) (e1 c1)
theorem bX8_jump_16 {d : Nat} {Q : Option jA → jH → Prop} (a0 : Nat) (i1 : Int) (p0 : Int) (h : jH)
    (q1 : Q (some (.inl p0)) h) :
    V MX8_jump (d + 1) 16 [some (.inr a0), some (.inl i1)] [.inl p0] h 0 0 Q := by
  refine V_goto (tgt := 20) dX8_jump_16 (by decide) ?_
  exact V_reti rfl dX8_jump_20 q1
theorem dX8_block_0 : decode cX8_block 0 = .ok (.aload_n 0, 1) := by decide +kernel
theorem dX8_block_1 : decode cX8_block 1 = .ok (.iload_n 1, 1) := by decide +kernel
theorem dX8_block_2 : decode cX8_block 2 = .ok (.invokevirtual 247, 3) := by decide +kernel
theorem dX8_block_5 : decode cX8_block 5 = .ok (.ifCond .ne 5, 3) := by decide +kernel
theorem dX8_block_8 : decode cX8_block 8 = .ok (.iconst (-1), 1) := by decide +kernel
theorem dX8_block_9 : decode cX8_block 9 = .ok (.ireturn, 1) := by decide +kernel
theorem dX8_block_10 : decode cX8_block 10 = .ok (.aload_n 0, 1) := by decide +kernel
theorem dX8_block_11 : decode cX8_block 11 = .ok (.getfield 38, 3) := by decide +kernel
theorem dX8_block_14 : decode cX8_block 14 = .ok (.getfield 250, 3) := by decide +kernel
theorem dX8_block_17 : decode cX8_block 17 = .ok (.iload_n 1, 1) := by decide +kernel
theorem dX8_block_18 : decode cX8_block 18 = .ok (.aaload, 1) := by decide +kernel
theorem dX8_block_19 : decode cX8_block 19 = .ok (.astore_n 3, 1) := by decide +kernel
theorem dX8_block_20 : decode cX8_block 20 = .ok (.iload_n 2, 1) := by decide +kernel
theorem dX8_block_21 : decode cX8_block 21 = .ok (.tableswitch 75 0 4 #[35, 40, 45, 53, 69], 35) := by decide +kernel
theorem dX8_block_56 : decode cX8_block 56 = .ok (.aload_n 3, 1) := by decide +kernel
theorem dX8_block_57 : decode cX8_block 57 = .ok (.getfield 254, 3) := by decide +kernel
theorem dX8_block_60 : decode cX8_block 60 = .ok (.ireturn, 1) := by decide +kernel
theorem dX8_block_61 : decode cX8_block 61 = .ok (.aload_n 3, 1) := by decide +kernel
theorem dX8_block_62 : decode cX8_block 62 = .ok (.getfield 259, 3) := by decide +kernel
theorem dX8_block_65 : decode cX8_block 65 = .ok (.ireturn, 1) := by decide +kernel
theorem dX8_block_66 : decode cX8_block 66 = .ok (.aload_n 3, 1) := by decide +kernel
theorem dX8_block_67 : decode cX8_block 67 = .ok (.getfield 262, 3) := by decide +kernel
theorem dX8_block_70 : decode cX8_block 70 = .ok (.getfield 265, 3) := by decide +kernel
theorem dX8_block_73 : decode cX8_block 73 = .ok (.ireturn, 1) := by decide +kernel
theorem dX8_block_74 : decode cX8_block 74 = .ok (.aload_n 3, 1) := by decide +kernel
theorem dX8_block_75 : decode cX8_block 75 = .ok (.getfield 262, 3) := by decide +kernel
theorem dX8_block_78 : decode cX8_block 78 = .ok (.iconst 0, 1) := by decide +kernel
theorem dX8_block_79 : decode cX8_block 79 = .ok (.aload_n 3, 1) := by decide +kernel
theorem dX8_block_80 : decode cX8_block 80 = .ok (.getfield 262, 3) := by decide +kernel
theorem dX8_block_83 : decode cX8_block 83 = .ok (.getfield 265, 3) := by decide +kernel
theorem dX8_block_86 : decode cX8_block 86 = .ok (.invokevirtual 266, 3) := by decide +kernel
theorem dX8_block_89 : decode cX8_block 89 = .ok (.ireturn, 1) := by decide +kernel
theorem dX8_block_90 : decode cX8_block 90 = .ok (.aload_n 0, 1) := by decide +kernel
theorem dX8_block_91 : decode cX8_block 91 = .ok (.aload_n 3, 1) := by decide +kernel
theorem dX8_block_92 : decode cX8_block 92 = .ok (.invokevirtual 269, 3) := by decide +kernel
theorem dX8_block_95 : decode cX8_block 95 = .ok (.ireturn, 1) := by decide +kernel
theorem dX8_block_96 : decode cX8_block 96 = .ok (.iconst (-1), 1) := by decide +kernel
theorem dX8_block_97 : decode cX8_block 97 = .ok (.ireturn, 1) := by decide +kernel
theorem bX8_block_0 {d : Nat} {Q : Option jA → jH → Prop} (a0 : Nat) (i1 : Int) (i2 : Int) (u3 : Option jA) (h : jH)
    (s1 : (jS h a0).1 = 8)
    (s2 : (jS h (jP h a0 4)).1 = 6)
    (s3 : (jS h (jP h (jP h a0 4) 5)).1 = 18)
    (s4 : (0 ≤ i1 ∧ i1 < (jI h (jP h a0 4) 4)) → 0 ≤ i1)
    (s5 : (0 ≤ i1 ∧ i1 < (jI h (jP h a0 4) 4)) → i1 < ((jS h (jP h (jP h a0 4) 5)).2 : Int))
    (s6 : (0 ≤ i1 ∧ i1 < (jI h (jP h a0 4) 4)) → (i2 = 0) → (jS h (jY h (jP h (jP h a0 4) 5) ((i1).toNat))).1 = 0)
    (q1 : (0 ≤ i1 ∧ i1 < (jI h (jP h a0 4) 4)) → (i2 = 0) → Q (some (.inl (jI h (jY h (jP h (jP h a0 4) 5) ((i1).toNat)) 0))) h)
    (s7 : (0 ≤ i1 ∧ i1 < (jI h (jP h a0 4) 4)) → (¬ (i2 = 0)) → (i2 = 1) → (jS h (jY h (jP h (jP h a0 4) 5) ((i1).toNat))).1 = 0)
    (q2 : (0 ≤ i1 ∧ i1 < (jI h (jP h a0 4) 4)) → (¬ (i2 = 0)) → (i2 = 1) → Q (some (.inl (jI h (jY h (jP h (jP h a0 4) 5) ((i1).toNat)) 1))) h)
    (s8 : (0 ≤ i1 ∧ i1 < (jI h (jP h a0 4) 4)) → (¬ (i2 = 0)) → (¬ (i2 = 1)) → (i2 = 2) → (jS h (jY h (jP h (jP h a0 4) 5) ((i1).toNat))).1 = 0)
    (s9 : (0 ≤ i1 ∧ i1 < (jI h (jP h a0 4) 4)) → (¬ (i2 = 0)) → (¬ (i2 = 1)) → (i2 = 2) → (jS h (jP h (jY h (jP h (jP h a0 4) 5) ((i1).toNat)) 3)).1 = 1)
    (q3 : (0 ≤ i1 ∧ i1 < (jI h (jP h a0 4) 4)) → (¬ (i2 = 0)) → (¬ (i2 = 1)) → (i2 = 2) → Q (some (.inl (jI h (jP h (jY h (jP h (jP h a0 4) 5) ((i1).toNat)) 3) 0))) h)
    (s10 : (0 ≤ i1 ∧ i1 < (jI h (jP h a0 4) 4)) → (¬ (i2 = 0)) → (¬ (i2 = 1)) → (¬ (i2 = 2)) → (i2 = 3) → (jS h (jY h (jP h (jP h a0 4) 5) ((i1).toNat))).1 = 0)
    (s11 : (0 ≤ i1 ∧ i1 < (jI h (jP h a0 4) 4)) → (¬ (i2 = 0)) → (¬ (i2 = 1)) → (¬ (i2 = 2)) → (i2 = 3) → (jS h (jP h (jY h (jP h (jP h a0 4) 5) ((i1).toNat)) 3)).1 = 1)
    (e1 : (0 ≤ i1 ∧ i1 < (jI h (jP h a0 4) 4)) → (¬ (i2 = 0)) → (¬ (i2 = 1)) → (¬ (i2 = 2)) → (i2 = 3) → Ex MX1_different (d + 1) [.inr (jP h (jY h (jP h (jP h a0 4) 5) ((i1).toNat)) 3), .inl 0, .inl (jI h (jP h (jY h (jP h (jP h a0 4) 5) ((i1).toNat)) 3) 0)] h 0 0 (fun v h2 => V MX8_block (d + 5) 89 [some (.inr a0), some (.inl i1), some (.inl i2), some (.inr (jY h (jP h (jP h a0 4) 5) ((i1).toNat)))] (v.toList ++ []) h2 0 0 Q))
    (e2 : (0 ≤ i1 ∧ i1 < (jI h (jP h a0 4) 4)) → (¬ (i2 = 0)) → (¬ (i2 = 1)) → (¬ (i2 = 2)) → (¬ (i2 = 3)) → (i2 = 4) → Ex MX8_roomOf (d + 4) [.inr a0, .inr (jY h (jP h (jP h a0 4) 5) ((i1).toNat))] h 0 0 (fun v h2 => V MX8_block (d + 5) 95 [some (.inr a0), some (.inl i1), some (.inl i2), some (.inr (jY h (jP h (jP h a0 4) 5) ((i1).toNat)))] (v.toList ++ []) h2 0 0 Q))
    (q4 : (0 ≤ i1 ∧ i1 < (jI h (jP h a0 4) 4)) → (¬ (i2 = 0)) → (¬ (i2 = 1)) → (¬ (i2 = 2)) → (¬ (i2 = 3)) → (¬ (i2 = 4)) → Q (some (.inl ((-1)))) h)
    (q5 : (¬ (0 ≤ i1 ∧ i1 < (jI h (jP h a0 4) 4))) → Q (some (.inl ((-1)))) h) :
    V MX8_block (d + 5) 0 [some (.inr a0), some (.inl i1), some (.inl i2), u3] [] h 0 0 Q := by
  refine V_aload_n (i := 0) dX8_block_0 rfl rfl ?_
  refine V_iload_n (i := 1) dX8_block_1 rfl rfl ?_
  refine V_callV (M := MX8_block) (d := (d + 5)) (mc' := 0) (ms' := 0) (mc := 0) (ms := 0) (As := [.inl i1]) (rest := []) dX8_block_2 tX8_isBlock vX8_isBlock lX8_247 s1 ⟨by decide, rfl⟩ rfl rfl (Nat.le_of_ble_eq_true rfl) (show d + 1 ≤ (d + 5) by omega) (Ex.mono (pX8_isBlock (d := d) s1 s2) ?_)
  intro v h2 hq
  rw [hq.1, hq.2]
  show V MX8_block (d + 5) 5 [some (.inr a0), some (.inl i1), some (.inl i2), u3] [.inl (jb (0 ≤ i1 ∧ i1 < (jI h (jP h a0 4) 4)))] h 0 0 Q
  refine V_ifb_ne (tgt := 10) dX8_block_5 (by decide) (fun c1 => ?_) (fun c1 => ?_)
  · refine V_aload_n (i := 0) dX8_block_10 rfl rfl ?_
    refine V_getP dX8_block_11 fX8_38 rfl s1 ?_
    refine V_getP dX8_block_14 fX8_250 rfl s2 ?_
    refine V_iload_n (i := 1) dX8_block_17 rfl rfl ?_
    refine V_aald18 dX8_block_18 s3 (s4 c1) (s5 c1) ?_
    refine V_astore_n (i := 3) dX8_block_19 rfl (by decide) ?_
    refine V_iload_n (i := 2) dX8_block_20 rfl rfl ?_
    by_cases c2 : i2 = 0
    · refine V_tabIn (off := 35) (tgt := 56) dX8_block_21 (by omega) (by omega) (by rw [c2]; rfl) (by decide) ?_
      refine V_aload_n (i := 3) dX8_block_56 rfl rfl ?_
      refine V_getI dX8_block_57 fX8_254 rfl (s6 c1 c2) ?_
      exact V_reti rfl dX8_block_60 (q1 c1 c2)
    by_cases c3 : i2 = 1
    · refine V_tabIn (off := 40) (tgt := 61) dX8_block_21 (by omega) (by omega) (by rw [c3]; rfl) (by decide) ?_
      refine V_aload_n (i := 3) dX8_block_61 rfl rfl ?_
      refine V_getI dX8_block_62 fX8_259 rfl (s7 c1 c2 c3) ?_
      exact V_reti rfl dX8_block_65 (q2 c1 c2 c3)
    by_cases c4 : i2 = 2
    · refine V_tabIn (off := 45) (tgt := 66) dX8_block_21 (by omega) (by omega) (by rw [c4]; rfl) (by decide) ?_
      refine V_aload_n (i := 3) dX8_block_66 rfl rfl ?_
      refine V_getP dX8_block_67 fX8_262 rfl (s8 c1 c2 c3 c4) ?_
      refine V_getI dX8_block_70 fX8_265 rfl (s9 c1 c2 c3 c4) ?_
      exact V_reti rfl dX8_block_73 (q3 c1 c2 c3 c4)
    by_cases c5 : i2 = 3
    · refine V_tabIn (off := 53) (tgt := 74) dX8_block_21 (by omega) (by omega) (by rw [c5]; rfl) (by decide) ?_
      refine V_aload_n (i := 3) dX8_block_74 rfl rfl ?_
      refine V_getP dX8_block_75 fX8_262 rfl (s10 c1 c2 c3 c4 c5) ?_
      refine V_iconst dX8_block_78 ⟨by decide, by decide⟩ ?_
      refine V_aload_n (i := 3) dX8_block_79 rfl rfl ?_
      refine V_getP dX8_block_80 fX8_262 rfl (s10 c1 c2 c3 c4 c5) ?_
      refine V_getI dX8_block_83 fX8_265 rfl (s11 c1 c2 c3 c4 c5) ?_
      exact V_callV (M := MX8_block) (d := (d + 5)) (mc' := 0) (ms' := 0) (mc := 0) (ms := 0) (As := [.inl 0, .inl (jI h (jP h (jY h (jP h (jP h a0 4) 5) ((i1).toNat)) 3) 0)]) (rest := []) dX8_block_86 tX1_different vX1_different lX8_266 (s11 c1 c2 c3 c4 c5) ⟨by decide, rfl⟩ rfl rfl (Nat.le_of_ble_eq_true rfl) (show (d + 1) + 1 ≤ (d + 5) by omega) (e1 c1 c2 c3 c4 c5)
    by_cases c6 : i2 = 4
    · refine V_tabIn (off := 69) (tgt := 90) dX8_block_21 (by omega) (by omega) (by rw [c6]; rfl) (by decide) ?_
      refine V_aload_n (i := 0) dX8_block_90 rfl rfl ?_
      refine V_aload_n (i := 3) dX8_block_91 rfl rfl ?_
      exact V_callV (M := MX8_block) (d := (d + 5)) (mc' := 0) (ms' := 0) (mc := 0) (ms := 0) (As := [.inr (jY h (jP h (jP h a0 4) 5) ((i1).toNat))]) (rest := []) dX8_block_92 tX8_roomOf vX8_roomOf lX8_269 s1 ⟨by decide, rfl⟩ rfl rfl (Nat.le_of_ble_eq_true rfl) (show (d + 4) + 1 ≤ (d + 5) by omega) (e2 c1 c2 c3 c4 c5 c6)
    refine V_tabOut (tgt := 96) dX8_block_21 (by omega) (by decide) ?_
    refine V_iconst dX8_block_96 ⟨by decide, by decide⟩ ?_
    exact V_reti rfl dX8_block_97 (q4 c1 c2 c3 c4 c5 c6)
  · refine V_iconst dX8_block_8 ⟨by decide, by decide⟩ ?_
    exact V_reti rfl dX8_block_9 (q5 c1)
theorem bX8_block_89 {d : Nat} {Q : Option jA → jH → Prop} (a0 : Nat) (i1 : Int) (i2 : Int) (a3 : Nat) (p0 : Int) (h : jH)
    (q1 : Q (some (.inl p0)) h) :
    V MX8_block (d + 5) 89 [some (.inr a0), some (.inl i1), some (.inl i2), some (.inr a3)] [.inl p0] h 0 0 Q := by
  exact V_reti rfl dX8_block_89 q1
theorem bX8_block_95 {d : Nat} {Q : Option jA → jH → Prop} (a0 : Nat) (i1 : Int) (i2 : Int) (a3 : Nat) (p0 : Int) (h : jH)
    (q1 : Q (some (.inl p0)) h) :
    V MX8_block (d + 5) 95 [some (.inr a0), some (.inl i1), some (.inl i2), some (.inr a3)] [.inl p0] h 0 0 Q := by
  exact V_reti rfl dX8_block_95 q1
