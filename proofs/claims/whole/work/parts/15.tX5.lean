/-! ===== Reader: decode rows and trees ===== -/
theorem dX5_read_0 : decode cX5_read 0 = .ok (.aload_n 0, 1) := by decide +kernel
theorem dX5_read_1 : decode cX5_read 1 = .ok (.aload_n 1, 1) := by decide +kernel
theorem dX5_read_2 : decode cX5_read 2 = .ok (.putfield 15, 3) := by decide +kernel
theorem dX5_read_5 : decode cX5_read 5 = .ok (.aload_n 0, 1) := by decide +kernel
theorem dX5_read_6 : decode cX5_read 6 = .ok (.getfield 15, 3) := by decide +kernel
theorem dX5_read_9 : decode cX5_read 9 = .ok (.invokevirtual 19, 3) := by decide +kernel
theorem dX5_read_12 : decode cX5_read 12 = .ok (.aload_n 0, 1) := by decide +kernel
theorem dX5_read_13 : decode cX5_read 13 = .ok (.iconst (-1), 1) := by decide +kernel
theorem dX5_read_14 : decode cX5_read 14 = .ok (.putfield 24, 3) := by decide +kernel
theorem dX5_read_17 : decode cX5_read 17 = .ok (.aload_n 0, 1) := by decide +kernel
theorem dX5_read_18 : decode cX5_read 18 = .ok (.getfield 9, 3) := by decide +kernel
theorem dX5_read_21 : decode cX5_read 21 = .ok (.invokevirtual 28, 3) := by decide +kernel
theorem dX5_read_24 : decode cX5_read 24 = .ok (.iconst 0, 1) := by decide +kernel
theorem dX5_read_25 : decode cX5_read 25 = .ok (.istore_n 2, 1) := by decide +kernel
theorem dX5_read_26 : decode cX5_read 26 = .ok (.iload_n 2, 1) := by decide +kernel
theorem dX5_read_27 : decode cX5_read 27 = .ok (.sipush 160, 3) := by decide +kernel
theorem dX5_read_30 : decode cX5_read 30 = .ok (.if_icmp .ge 31, 3) := by decide +kernel
theorem dX5_read_33 : decode cX5_read 33 = .ok (.aload_n 0, 1) := by decide +kernel
theorem dX5_read_34 : decode cX5_read 34 = .ok (.getfield 9, 3) := by decide +kernel
theorem dX5_read_37 : decode cX5_read 37 = .ok (.getfield 33, 3) := by decide +kernel
theorem dX5_read_40 : decode cX5_read 40 = .ok (.bipush (-9), 2) := by decide +kernel
theorem dX5_read_42 : decode cX5_read 42 = .ok (.if_icmp .eq 19, 3) := by decide +kernel
theorem dX5_read_45 : decode cX5_read 45 = .ok (.aload_n 0, 1) := by decide +kernel
theorem dX5_read_46 : decode cX5_read 46 = .ok (.invokevirtual 36, 3) := by decide +kernel
theorem dX5_read_49 : decode cX5_read 49 = .ok (.ifCond .ne 6, 3) := by decide +kernel
theorem dX5_read_52 : decode cX5_read 52 = .ok (.bipush (-9), 2) := by decide +kernel
theorem dX5_read_54 : decode cX5_read 54 = .ok (.ireturn, 1) := by decide +kernel
theorem dX5_read_55 : decode cX5_read 55 = .ok (.iinc 2 1, 3) := by decide +kernel
theorem dX5_read_58 : decode cX5_read 58 = .ok (.goto (-32), 3) := by decide +kernel
theorem dX5_read_61 : decode cX5_read 61 = .ok (.iload_n 2, 1) := by decide +kernel
theorem dX5_read_62 : decode cX5_read 62 = .ok (.ireturn, 1) := by decide +kernel
theorem bX5_read_0 {d : Nat} {Q : Option jA → jH → Prop} (a0 : Nat) (a1 : Nat) (u2 : Option jA) (h : jH)
    (s1 : (jS h a0).1 = 5)
    (e1 : Ex MX2_empty d [.inr a1] (jsP h a0 1 a1) 0 0 (fun v h2 => V MX5_read (d + 11) 12 [some (.inr a0), some (.inr a1), u2] (v.toList ++ []) h2 0 0 Q))
    (s2 : (jS h a1).1 = 2) :
    V MX5_read (d + 11) 0 [some (.inr a0), some (.inr a1), u2] [] h 0 0 Q := by
  refine V_aload_n (i := 0) dX5_read_0 rfl rfl ?_
  refine V_aload_n (i := 1) dX5_read_1 rfl rfl ?_
  refine V_putP (ci := 5) (kf := 1) dX5_read_2 fX5_15 rfl rfl s1 ?_
  refine V_aload_n (i := 0) dX5_read_5 rfl rfl ?_
  refine V_getP dX5_read_6 fX5_15 rfl s1 ?_
  refine V_topP (jP_at) ?_
  exact V_callV (M := MX5_read) (d := (d + 11)) (mc' := 0) (ms' := 0) (mc := 0) (ms := 0) (As := []) (rest := []) dX5_read_9 tX2_empty vX2_empty lX5_19 s2 ⟨by decide, rfl⟩ rfl rfl (Nat.le_of_ble_eq_true rfl) (show d + 1 ≤ (d + 11) by omega) e1
theorem bX5_read_26 {d : Nat} {Q : Option jA → jH → Prop} (a0 : Nat) (a1 : Nat) (i2 : Int) (h : jH)
    (q1 : (160 ≤ i2) → Q (some (.inl i2)) h)
    (s1 : (jS h a0).1 = 5)
    (s2 : (jS h (jP h a0 0)).1 = 7)
    (q2 : (¬ (160 ≤ i2)) → ((jI h (jP h a0 0) 4) = ((-9))) → Q (some (.inl i2)) h)
    (e1 : (¬ (160 ≤ i2)) → (¬ ((jI h (jP h a0 0) 4) = ((-9)))) → Ex MX5_readItem (d + 10) [.inr a0] h 0 0 (fun v h2 => V MX5_read (d + 11) 49 [some (.inr a0), some (.inr a1), some (.inl i2)] (v.toList ++ []) h2 0 0 Q)) :
    V MX5_read (d + 11) 26 [some (.inr a0), some (.inr a1), some (.inl i2)] [] h 0 0 Q := by
  refine V_iload_n (i := 2) dX5_read_26 rfl rfl ?_
  refine V_sipush dX5_read_27 (by decide +kernel) ⟨by decide, by decide⟩ ?_
  refine V_icmp_ge (tgt := 61) dX5_read_30 (by decide) (fun c1 => ?_) (fun c1 => ?_)
  · refine V_iload_n (i := 2) dX5_read_61 rfl rfl ?_
    exact V_reti rfl dX5_read_62 (q1 c1)
  · refine V_aload_n (i := 0) dX5_read_33 rfl rfl ?_
    refine V_getP dX5_read_34 fX5_9 rfl s1 ?_
    refine V_getI dX5_read_37 fX5_33 rfl s2 ?_
    refine V_bipush dX5_read_40 (by decide +kernel) ⟨by decide, by decide⟩ ?_
    refine V_icmp_eq (tgt := 61) dX5_read_42 (by decide) (fun c2 => ?_) (fun c2 => ?_)
    · refine V_iload_n (i := 2) dX5_read_61 rfl rfl ?_
      exact V_reti rfl dX5_read_62 (q2 c1 c2)
    · refine V_aload_n (i := 0) dX5_read_45 rfl rfl ?_
      exact V_callV (M := MX5_read) (d := (d + 11)) (mc' := 0) (ms' := 0) (mc := 0) (ms := 0) (As := []) (rest := []) dX5_read_46 tX5_readItem vX5_readItem lX5_36 s1 ⟨by decide, rfl⟩ rfl rfl (Nat.le_of_ble_eq_true rfl) (show (d + 10) + 1 ≤ (d + 11) by omega) (e1 c1 c2)
theorem bX5_read_12 {d : Nat} {Q : Option jA → jH → Prop} (a0 : Nat) (a1 : Nat) (u2 : Option jA) (h : jH)
    (s1 : (jS h a0).1 = 5)
    (e1 : Ex MX7_toFirst (d + 1) [.inr (jP h a0 0)] (jsI h a0 2 ((-1))) 0 0 (fun v h2 => V MX5_read (d + 11) 24 [some (.inr a0), some (.inr a1), u2] (v.toList ++ []) h2 0 0 Q))
    (s2 : (jS h (jP h a0 0)).1 = 7) :
    V MX5_read (d + 11) 12 [some (.inr a0), some (.inr a1), u2] [] h 0 0 Q := by
  refine V_aload_n (i := 0) dX5_read_12 rfl rfl ?_
  refine V_iconst dX5_read_13 ⟨by decide, by decide⟩ ?_
  refine V_putI (ci := 5) (kf := 2) dX5_read_14 fX5_24 rfl rfl s1 ?_
  refine V_aload_n (i := 0) dX5_read_17 rfl rfl ?_
  refine V_getP dX5_read_18 fX5_9 rfl s1 ?_
  exact V_callV (M := MX5_read) (d := (d + 11)) (mc' := 0) (ms' := 0) (mc := 0) (ms := 0) (As := []) (rest := []) dX5_read_21 tX7_toFirst vX7_toFirst lX5_28 s2 ⟨by decide, rfl⟩ rfl rfl (Nat.le_of_ble_eq_true rfl) (show (d + 1) + 1 ≤ (d + 11) by omega) e1
theorem bX5_read_49 {d : Nat} {Q : Option jA → jH → Prop} (a0 : Nat) (a1 : Nat) (i2 : Int) (p0 : Int) (h : jH)
    (r1 : (p0 ≠ 0) → jR (i2 + 1))
    (k1 : (p0 ≠ 0) → V MX5_read (d + 11) 26 [some (.inr a0), some (.inr a1), some (.inl (i2 + 1))] [] h 0 0 Q)
    (q1 : (p0 = 0) → Q (some (.inl ((-9)))) h) :
    V MX5_read (d + 11) 49 [some (.inr a0), some (.inr a1), some (.inl i2)] [.inl p0] h 0 0 Q := by
  refine V_if_ne (tgt := 55) dX5_read_49 (by decide) (fun c1 => ?_) (fun c1 => ?_)
  · refine V_iinc (i := 2) dX5_read_55 rfl (by decide) (r1 c1) ?_
    refine V_goto (tgt := 26) dX5_read_58 (by decide) ?_
    exact (k1 c1)
  · refine V_bipush dX5_read_52 (by decide +kernel) ⟨by decide, by decide⟩ ?_
    exact V_reti rfl dX5_read_54 (q1 c1)
theorem bX5_read_24 {d : Nat} {Q : Option jA → jH → Prop} (a0 : Nat) (a1 : Nat) (u2 : Option jA) (h : jH)
    (k1 : V MX5_read (d + 11) 26 [some (.inr a0), some (.inr a1), some (.inl 0)] [] h 0 0 Q) :
    V MX5_read (d + 11) 24 [some (.inr a0), some (.inr a1), u2] [] h 0 0 Q := by
  refine V_iconst dX5_read_24 ⟨by decide, by decide⟩ ?_
  refine V_istore_n (i := 2) dX5_read_25 rfl (by decide) ?_
  exact k1
theorem dX5_readItem_0 : decode cX5_readItem 0 = .ok (.aload_n 0, 1) := by decide +kernel
theorem dX5_readItem_1 : decode cX5_readItem 1 = .ok (.iconst 0, 1) := by decide +kernel
theorem dX5_readItem_2 : decode cX5_readItem 2 = .ok (.putfield 40, 3) := by decide +kernel
theorem dX5_readItem_5 : decode cX5_readItem 5 = .ok (.aload_n 0, 1) := by decide +kernel
theorem dX5_readItem_6 : decode cX5_readItem 6 = .ok (.iconst 0, 1) := by decide +kernel
theorem dX5_readItem_7 : decode cX5_readItem 7 = .ok (.putfield 43, 3) := by decide +kernel
theorem dX5_readItem_10 : decode cX5_readItem 10 = .ok (.aload_n 0, 1) := by decide +kernel
theorem dX5_readItem_11 : decode cX5_readItem 11 = .ok (.getfield 9, 3) := by decide +kernel
theorem dX5_readItem_14 : decode cX5_readItem 14 = .ok (.getfield 33, 3) := by decide +kernel
theorem dX5_readItem_17 : decode cX5_readItem 17 = .ok (.bipush 91, 2) := by decide +kernel
theorem dX5_readItem_19 : decode cX5_readItem 19 = .ok (.if_icmp .ne 11, 3) := by decide +kernel
theorem dX5_readItem_22 : decode cX5_readItem 22 = .ok (.aload_n 0, 1) := by decide +kernel
theorem dX5_readItem_23 : decode cX5_readItem 23 = .ok (.invokevirtual 46, 3) := by decide +kernel
theorem dX5_readItem_26 : decode cX5_readItem 26 = .ok (.istore_n 1, 1) := by decide +kernel
theorem dX5_readItem_27 : decode cX5_readItem 27 = .ok (.goto 28, 3) := by decide +kernel
theorem dX5_readItem_30 : decode cX5_readItem 30 = .ok (.aload_n 0, 1) := by decide +kernel
theorem dX5_readItem_31 : decode cX5_readItem 31 = .ok (.getfield 9, 3) := by decide +kernel
theorem dX5_readItem_34 : decode cX5_readItem 34 = .ok (.getfield 33, 3) := by decide +kernel
theorem dX5_readItem_37 : decode cX5_readItem 37 = .ok (.bipush 93, 2) := by decide +kernel
theorem dX5_readItem_39 : decode cX5_readItem 39 = .ok (.if_icmp .ne 11, 3) := by decide +kernel
theorem dX5_readItem_42 : decode cX5_readItem 42 = .ok (.aload_n 0, 1) := by decide +kernel
theorem dX5_readItem_43 : decode cX5_readItem 43 = .ok (.invokevirtual 49, 3) := by decide +kernel
theorem dX5_readItem_46 : decode cX5_readItem 46 = .ok (.istore_n 1, 1) := by decide +kernel
theorem dX5_readItem_47 : decode cX5_readItem 47 = .ok (.goto 8, 3) := by decide +kernel
theorem dX5_readItem_50 : decode cX5_readItem 50 = .ok (.aload_n 0, 1) := by decide +kernel
theorem dX5_readItem_51 : decode cX5_readItem 51 = .ok (.invokevirtual 52, 3) := by decide +kernel
theorem dX5_readItem_54 : decode cX5_readItem 54 = .ok (.istore_n 1, 1) := by decide +kernel
theorem dX5_readItem_55 : decode cX5_readItem 55 = .ok (.iload_n 1, 1) := by decide +kernel
theorem dX5_readItem_56 : decode cX5_readItem 56 = .ok (.ifCond .eq 16, 3) := by decide +kernel
theorem dX5_readItem_59 : decode cX5_readItem 59 = .ok (.aload_n 0, 1) := by decide +kernel
theorem dX5_readItem_60 : decode cX5_readItem 60 = .ok (.bipush 59, 2) := by decide +kernel
theorem dX5_readItem_62 : decode cX5_readItem 62 = .ok (.invokevirtual 55, 3) := by decide +kernel
theorem dX5_readItem_65 : decode cX5_readItem 65 = .ok (.ifCond .eq 7, 3) := by decide +kernel
theorem dX5_readItem_68 : decode cX5_readItem 68 = .ok (.iconst 1, 1) := by decide +kernel
theorem dX5_readItem_69 : decode cX5_readItem 69 = .ok (.goto 4, 3) := by decide +kernel
theorem dX5_readItem_72 : decode cX5_readItem 72 = .ok (.iconst 0, 1) := by decide +kernel
theorem dX5_readItem_73 : decode cX5_readItem 73 = .ok (.ireturn, 1) := by decide +kernel
theorem bX5_readItem_0 {d : Nat} {Q : Option jA → jH → Prop} (a0 : Nat) (u1 : Option jA) (h : jH)
    (s1 : (jS h a0).1 = 5)
    (s2 : (jS h (jP h a0 0)).1 = 7)
    (e1 : ((jI (jsI (jsI h a0 3 0) a0 4 0) (jP h a0 0) 4) ≠ 91) → ((jI (jsI (jsI h a0 3 0) a0 4 0) (jP h a0 0) 4) ≠ 93) → Ex MX5_readSignal (d + 9) [.inr a0] (jsI (jsI h a0 3 0) a0 4 0) 0 0 (fun v h2 => V MX5_readItem (d + 10) 54 [some (.inr a0), u1] (v.toList ++ []) h2 0 0 Q))
    (e2 : ((jI (jsI (jsI h a0 3 0) a0 4 0) (jP h a0 0) 4) ≠ 91) → ((jI (jsI (jsI h a0 3 0) a0 4 0) (jP h a0 0) 4) = 93) → Ex MX5_readClosing (d + 1) [.inr a0] (jsI (jsI h a0 3 0) a0 4 0) 0 0 (fun v h2 => V MX5_readItem (d + 10) 46 [some (.inr a0), u1] (v.toList ++ []) h2 0 0 Q))
    (e3 : ((jI (jsI (jsI h a0 3 0) a0 4 0) (jP h a0 0) 4) = 91) → Ex MX5_readOpening (d + 1) [.inr a0] (jsI (jsI h a0 3 0) a0 4 0) 0 0 (fun v h2 => V MX5_readItem (d + 10) 26 [some (.inr a0), u1] (v.toList ++ []) h2 0 0 Q)) :
    V MX5_readItem (d + 10) 0 [some (.inr a0), u1] [] h 0 0 Q := by
  refine V_aload_n (i := 0) dX5_readItem_0 rfl rfl ?_
  refine V_iconst dX5_readItem_1 ⟨by decide, by decide⟩ ?_
  refine V_putI (ci := 5) (kf := 3) dX5_readItem_2 fX5_40 rfl rfl s1 ?_
  refine V_aload_n (i := 0) dX5_readItem_5 rfl rfl ?_
  refine V_iconst dX5_readItem_6 ⟨by decide, by decide⟩ ?_
  refine V_putI (ci := 5) (kf := 4) dX5_readItem_7 fX5_43 rfl rfl s1 ?_
  refine V_aload_n (i := 0) dX5_readItem_10 rfl rfl ?_
  refine V_getP dX5_readItem_11 fX5_9 rfl s1 ?_
  refine V_getI dX5_readItem_14 fX5_33 rfl s2 ?_
  refine V_bipush dX5_readItem_17 (by decide +kernel) ⟨by decide, by decide⟩ ?_
  refine V_icmp_ne (tgt := 30) dX5_readItem_19 (by decide) (fun c1 => ?_) (fun c1 => ?_)
  · refine V_aload_n (i := 0) dX5_readItem_30 rfl rfl ?_
    refine V_getP dX5_readItem_31 fX5_9 rfl s1 ?_
    refine V_getI dX5_readItem_34 fX5_33 rfl s2 ?_
    refine V_bipush dX5_readItem_37 (by decide +kernel) ⟨by decide, by decide⟩ ?_
    refine V_icmp_ne (tgt := 50) dX5_readItem_39 (by decide) (fun c2 => ?_) (fun c2 => ?_)
    · refine V_aload_n (i := 0) dX5_readItem_50 rfl rfl ?_
      exact V_callV (M := MX5_readItem) (d := (d + 10)) (mc' := 0) (ms' := 0) (mc := 0) (ms := 0) (As := []) (rest := []) dX5_readItem_51 tX5_readSignal vX5_readSignal lX5_52 s1 ⟨by decide, rfl⟩ rfl rfl (Nat.le_of_ble_eq_true rfl) (show (d + 9) + 1 ≤ (d + 10) by omega) (e1 c1 c2)
    · refine V_aload_n (i := 0) dX5_readItem_42 rfl rfl ?_
      exact V_callV (M := MX5_readItem) (d := (d + 10)) (mc' := 0) (ms' := 0) (mc := 0) (ms := 0) (As := []) (rest := []) dX5_readItem_43 tX5_readClosing vX5_readClosing lX5_49 s1 ⟨by decide, rfl⟩ rfl rfl (Nat.le_of_ble_eq_true rfl) (show (d + 1) + 1 ≤ (d + 10) by omega) (e2 c1 c2)
  · refine V_aload_n (i := 0) dX5_readItem_22 rfl rfl ?_
    exact V_callV (M := MX5_readItem) (d := (d + 10)) (mc' := 0) (ms' := 0) (mc := 0) (ms := 0) (As := []) (rest := []) dX5_readItem_23 tX5_readOpening vX5_readOpening lX5_46 s1 ⟨by decide, rfl⟩ rfl rfl (Nat.le_of_ble_eq_true rfl) (show (d + 1) + 1 ≤ (d + 10) by omega) (e3 c1)
theorem bX5_readItem_54 {d : Nat} {Q : Option jA → jH → Prop} (a0 : Nat) (u1 : Option jA) (p0 : Int) (h : jH)
    (q1 : (p0 = 0) → Q (some (.inl 0)) h)
    (e1 : (¬ (p0 = 0)) → Ex MX5_readSign (d + 1) [.inr a0, .inl 59] h 0 0 (fun v h2 => V MX5_readItem (d + 10) 65 [some (.inr a0), some (.inl p0)] (v.toList ++ []) h2 0 0 Q))
    (s1 : (jS h a0).1 = 5) :
    V MX5_readItem (d + 10) 54 [some (.inr a0), u1] [.inl p0] h 0 0 Q := by
  refine V_istore_n (i := 1) dX5_readItem_54 rfl (by decide) ?_
  refine V_iload_n (i := 1) dX5_readItem_55 rfl rfl ?_
  refine V_if_eq (tgt := 72) dX5_readItem_56 (by decide) (fun c1 => ?_) (fun c1 => ?_)
  · refine V_iconst dX5_readItem_72 ⟨by decide, by decide⟩ ?_
    exact V_retz rfl dX5_readItem_73 (by decide) (q1 c1)
  · refine V_aload_n (i := 0) dX5_readItem_59 rfl rfl ?_
    refine V_bipush dX5_readItem_60 (by decide +kernel) ⟨by decide, by decide⟩ ?_
    exact V_callV (M := MX5_readItem) (d := (d + 10)) (mc' := 0) (ms' := 0) (mc := 0) (ms := 0) (As := [.inl 59]) (rest := []) dX5_readItem_62 tX5_readSign vX5_readSign lX5_55 s1 ⟨by decide, rfl⟩ rfl rfl (Nat.le_of_ble_eq_true rfl) (show (d + 1) + 1 ≤ (d + 10) by omega) (e1 c1)
theorem bX5_readItem_46 {d : Nat} {Q : Option jA → jH → Prop} (a0 : Nat) (u1 : Option jA) (p0 : Int) (h : jH)
    (q1 : (p0 = 0) → Q (some (.inl 0)) h)
    (e1 : (¬ (p0 = 0)) → Ex MX5_readSign (d + 1) [.inr a0, .inl 59] h 0 0 (fun v h2 => V MX5_readItem (d + 10) 65 [some (.inr a0), some (.inl p0)] (v.toList ++ []) h2 0 0 Q))
    (s1 : (jS h a0).1 = 5) :
    V MX5_readItem (d + 10) 46 [some (.inr a0), u1] [.inl p0] h 0 0 Q := by
  refine V_istore_n (i := 1) dX5_readItem_46 rfl (by decide) ?_
  refine V_goto (tgt := 55) dX5_readItem_47 (by decide) ?_
  refine V_iload_n (i := 1) dX5_readItem_55 rfl rfl ?_
  refine V_if_eq (tgt := 72) dX5_readItem_56 (by decide) (fun c1 => ?_) (fun c1 => ?_)
  · refine V_iconst dX5_readItem_72 ⟨by decide, by decide⟩ ?_
    exact V_retz rfl dX5_readItem_73 (by decide) (q1 c1)
  · refine V_aload_n (i := 0) dX5_readItem_59 rfl rfl ?_
    refine V_bipush dX5_readItem_60 (by decide +kernel) ⟨by decide, by decide⟩ ?_
    exact V_callV (M := MX5_readItem) (d := (d + 10)) (mc' := 0) (ms' := 0) (mc := 0) (ms := 0) (As := [.inl 59]) (rest := []) dX5_readItem_62 tX5_readSign vX5_readSign lX5_55 s1 ⟨by decide, rfl⟩ rfl rfl (Nat.le_of_ble_eq_true rfl) (show (d + 1) + 1 ≤ (d + 10) by omega) (e1 c1)
theorem bX5_readItem_26 {d : Nat} {Q : Option jA → jH → Prop} (a0 : Nat) (u1 : Option jA) (p0 : Int) (h : jH)
    (q1 : (p0 = 0) → Q (some (.inl 0)) h)
    (e1 : (¬ (p0 = 0)) → Ex MX5_readSign (d + 1) [.inr a0, .inl 59] h 0 0 (fun v h2 => V MX5_readItem (d + 10) 65 [some (.inr a0), some (.inl p0)] (v.toList ++ []) h2 0 0 Q))
    (s1 : (jS h a0).1 = 5) :
    V MX5_readItem (d + 10) 26 [some (.inr a0), u1] [.inl p0] h 0 0 Q := by
  refine V_istore_n (i := 1) dX5_readItem_26 rfl (by decide) ?_
  refine V_goto (tgt := 55) dX5_readItem_27 (by decide) ?_
  refine V_iload_n (i := 1) dX5_readItem_55 rfl rfl ?_
  refine V_if_eq (tgt := 72) dX5_readItem_56 (by decide) (fun c1 => ?_) (fun c1 => ?_)
  · refine V_iconst dX5_readItem_72 ⟨by decide, by decide⟩ ?_
    exact V_retz rfl dX5_readItem_73 (by decide) (q1 c1)
  · refine V_aload_n (i := 0) dX5_readItem_59 rfl rfl ?_
    refine V_bipush dX5_readItem_60 (by decide +kernel) ⟨by decide, by decide⟩ ?_
    exact V_callV (M := MX5_readItem) (d := (d + 10)) (mc' := 0) (ms' := 0) (mc := 0) (ms := 0) (As := [.inl 59]) (rest := []) dX5_readItem_62 tX5_readSign vX5_readSign lX5_55 s1 ⟨by decide, rfl⟩ rfl rfl (Nat.le_of_ble_eq_true rfl) (show (d + 1) + 1 ≤ (d + 10) by omega) (e1 c1)
theorem bX5_readItem_65 {d : Nat} {Q : Option jA → jH → Prop} (a0 : Nat) (i1 : Int) (p0 : Int) (h : jH)
    (q1 : (p0 = 0) → Q (some (.inl 0)) h)
    (q2 : (¬ (p0 = 0)) → Q (some (.inl 1)) h) :
    V MX5_readItem (d + 10) 65 [some (.inr a0), some (.inl i1)] [.inl p0] h 0 0 Q := by
  refine V_if_eq (tgt := 72) dX5_readItem_65 (by decide) (fun c1 => ?_) (fun c1 => ?_)
  · refine V_iconst dX5_readItem_72 ⟨by decide, by decide⟩ ?_
    exact V_retz rfl dX5_readItem_73 (by decide) (q1 c1)
  · refine V_iconst dX5_readItem_68 ⟨by decide, by decide⟩ ?_
    refine V_goto (tgt := 73) dX5_readItem_69 (by decide) ?_
    exact V_retz rfl dX5_readItem_73 (by decide) (q2 c1)
theorem dX5_readSign_0 : decode cX5_readSign 0 = .ok (.aload_n 0, 1) := by decide +kernel
theorem dX5_readSign_1 : decode cX5_readSign 1 = .ok (.getfield 9, 3) := by decide +kernel
theorem dX5_readSign_4 : decode cX5_readSign 4 = .ok (.getfield 33, 3) := by decide +kernel
theorem dX5_readSign_7 : decode cX5_readSign 7 = .ok (.iload_n 1, 1) := by decide +kernel
theorem dX5_readSign_8 : decode cX5_readSign 8 = .ok (.if_icmp .eq 5, 3) := by decide +kernel
theorem dX5_readSign_11 : decode cX5_readSign 11 = .ok (.iconst 0, 1) := by decide +kernel
theorem dX5_readSign_12 : decode cX5_readSign 12 = .ok (.ireturn, 1) := by decide +kernel
theorem dX5_readSign_13 : decode cX5_readSign 13 = .ok (.aload_n 0, 1) := by decide +kernel
theorem dX5_readSign_14 : decode cX5_readSign 14 = .ok (.getfield 9, 3) := by decide +kernel
theorem dX5_readSign_17 : decode cX5_readSign 17 = .ok (.invokevirtual 59, 3) := by decide +kernel
theorem dX5_readSign_20 : decode cX5_readSign 20 = .ok (.iconst 1, 1) := by decide +kernel
theorem dX5_readSign_21 : decode cX5_readSign 21 = .ok (.ireturn, 1) := by decide +kernel
theorem bX5_readSign_0 {d : Nat} {Q : Option jA → jH → Prop} (a0 : Nat) (i1 : Int) (h : jH)
    (s1 : (jS h a0).1 = 5)
    (s2 : (jS h (jP h a0 0)).1 = 7)
    (e1 : ((jI h (jP h a0 0) 4) = i1) → Ex MX7_toNext d [.inr (jP h a0 0)] h 0 0 (fun v h2 => V MX5_readSign (d + 1) 20 [some (.inr a0), some (.inl i1)] (v.toList ++ []) h2 0 0 Q))
    (q1 : (¬ ((jI h (jP h a0 0) 4) = i1)) → Q (some (.inl 0)) h) :
    V MX5_readSign (d + 1) 0 [some (.inr a0), some (.inl i1)] [] h 0 0 Q := by
  refine V_aload_n (i := 0) dX5_readSign_0 rfl rfl ?_
  refine V_getP dX5_readSign_1 fX5_9 rfl s1 ?_
  refine V_getI dX5_readSign_4 fX5_33 rfl s2 ?_
  refine V_iload_n (i := 1) dX5_readSign_7 rfl rfl ?_
  refine V_icmp_eq (tgt := 13) dX5_readSign_8 (by decide) (fun c1 => ?_) (fun c1 => ?_)
  · refine V_aload_n (i := 0) dX5_readSign_13 rfl rfl ?_
    refine V_getP dX5_readSign_14 fX5_9 rfl s1 ?_
    exact V_callV (M := MX5_readSign) (d := (d + 1)) (mc' := 0) (ms' := 0) (mc := 0) (ms := 0) (As := []) (rest := []) dX5_readSign_17 tX7_toNext vX7_toNext lX5_59 s2 ⟨by decide, rfl⟩ rfl rfl (Nat.le_of_ble_eq_true rfl) (show d + 1 ≤ (d + 1) by omega) (e1 c1)
  · refine V_iconst dX5_readSign_11 ⟨by decide, by decide⟩ ?_
    exact V_retz rfl dX5_readSign_12 (by decide) (q1 c1)
theorem bX5_readSign_20 {d : Nat} {Q : Option jA → jH → Prop} (a0 : Nat) (i1 : Int) (h : jH)
    (q1 : Q (some (.inl 1)) h) :
    V MX5_readSign (d + 1) 20 [some (.inr a0), some (.inl i1)] [] h 0 0 Q := by
  refine V_iconst dX5_readSign_20 ⟨by decide, by decide⟩ ?_
  exact V_retz rfl dX5_readSign_21 (by decide) q1
theorem dX5_readOpening_0 : decode cX5_readOpening 0 = .ok (.aload_n 0, 1) := by decide +kernel
theorem dX5_readOpening_1 : decode cX5_readOpening 1 = .ok (.getfield 15, 3) := by decide +kernel
theorem dX5_readOpening_4 : decode cX5_readOpening 4 = .ok (.aload_n 0, 1) := by decide +kernel
theorem dX5_readOpening_5 : decode cX5_readOpening 5 = .ok (.getfield 24, 3) := by decide +kernel
theorem dX5_readOpening_8 : decode cX5_readOpening 8 = .ok (.invokevirtual 62, 3) := by decide +kernel
theorem dX5_readOpening_11 : decode cX5_readOpening 11 = .ok (.iconst 4, 1) := by decide +kernel
theorem dX5_readOpening_12 : decode cX5_readOpening 12 = .ok (.if_icmp .lt 5, 3) := by decide +kernel
theorem dX5_readOpening_15 : decode cX5_readOpening 15 = .ok (.iconst 0, 1) := by decide +kernel
theorem dX5_readOpening_16 : decode cX5_readOpening 16 = .ok (.ireturn, 1) := by decide +kernel
theorem dX5_readOpening_17 : decode cX5_readOpening 17 = .ok (.aload_n 0, 1) := by decide +kernel
theorem dX5_readOpening_18 : decode cX5_readOpening 18 = .ok (.getfield 9, 3) := by decide +kernel
theorem dX5_readOpening_21 : decode cX5_readOpening 21 = .ok (.invokevirtual 59, 3) := by decide +kernel
theorem dX5_readOpening_24 : decode cX5_readOpening 24 = .ok (.aload_n 0, 1) := by decide +kernel
theorem dX5_readOpening_25 : decode cX5_readOpening 25 = .ok (.getfield 9, 3) := by decide +kernel
theorem dX5_readOpening_28 : decode cX5_readOpening 28 = .ok (.invokevirtual 66, 3) := by decide +kernel
theorem dX5_readOpening_31 : decode cX5_readOpening 31 = .ok (.istore_n 1, 1) := by decide +kernel
theorem dX5_readOpening_32 : decode cX5_readOpening 32 = .ok (.iload_n 1, 1) := by decide +kernel
theorem dX5_readOpening_33 : decode cX5_readOpening 33 = .ok (.bipush (-9), 2) := by decide +kernel
theorem dX5_readOpening_35 : decode cX5_readOpening 35 = .ok (.if_icmp .ne 5, 3) := by decide +kernel
theorem dX5_readOpening_38 : decode cX5_readOpening 38 = .ok (.iconst 0, 1) := by decide +kernel
theorem dX5_readOpening_39 : decode cX5_readOpening 39 = .ok (.ireturn, 1) := by decide +kernel
theorem dX5_readOpening_40 : decode cX5_readOpening 40 = .ok (.aload_n 0, 1) := by decide +kernel
theorem dX5_readOpening_41 : decode cX5_readOpening 41 = .ok (.getfield 15, 3) := by decide +kernel
theorem dX5_readOpening_44 : decode cX5_readOpening 44 = .ok (.aload_n 0, 1) := by decide +kernel
theorem dX5_readOpening_45 : decode cX5_readOpening 45 = .ok (.getfield 24, 3) := by decide +kernel
theorem dX5_readOpening_48 : decode cX5_readOpening 48 = .ok (.iload_n 1, 1) := by decide +kernel
theorem dX5_readOpening_49 : decode cX5_readOpening 49 = .ok (.invokevirtual 70, 3) := by decide +kernel
theorem dX5_readOpening_52 : decode cX5_readOpening 52 = .ok (.istore_n 2, 1) := by decide +kernel
theorem dX5_readOpening_53 : decode cX5_readOpening 53 = .ok (.iload_n 2, 1) := by decide +kernel
theorem dX5_readOpening_54 : decode cX5_readOpening 54 = .ok (.bipush (-9), 2) := by decide +kernel
theorem dX5_readOpening_56 : decode cX5_readOpening 56 = .ok (.if_icmp .ne 31, 3) := by decide +kernel
theorem dX5_readOpening_59 : decode cX5_readOpening 59 = .ok (.aload_n 0, 1) := by decide +kernel
theorem dX5_readOpening_60 : decode cX5_readOpening 60 = .ok (.getfield 15, 3) := by decide +kernel
theorem dX5_readOpening_63 : decode cX5_readOpening 63 = .ok (.getfield 74, 3) := by decide +kernel
theorem dX5_readOpening_66 : decode cX5_readOpening 66 = .ok (.bipush 6, 2) := by decide +kernel
theorem dX5_readOpening_68 : decode cX5_readOpening 68 = .ok (.if_icmp .ge 19, 3) := by decide +kernel
theorem dX5_readOpening_71 : decode cX5_readOpening 71 = .ok (.bipush 100, 2) := by decide +kernel
theorem dX5_readOpening_73 : decode cX5_readOpening 73 = .ok (.aload_n 0, 1) := by decide +kernel
theorem dX5_readOpening_74 : decode cX5_readOpening 74 = .ok (.getfield 15, 3) := by decide +kernel
theorem dX5_readOpening_77 : decode cX5_readOpening 77 = .ok (.aload_n 0, 1) := by decide +kernel
theorem dX5_readOpening_78 : decode cX5_readOpening 78 = .ok (.getfield 24, 3) := by decide +kernel
theorem dX5_readOpening_81 : decode cX5_readOpening 81 = .ok (.iload_n 1, 1) := by decide +kernel
theorem dX5_readOpening_82 : decode cX5_readOpening 82 = .ok (.invokevirtual 77, 3) := by decide +kernel
theorem dX5_readOpening_85 : decode cX5_readOpening 85 = .ok (.iadd, 1) := by decide +kernel
theorem dX5_readOpening_86 : decode cX5_readOpening 86 = .ok (.istore_n 2, 1) := by decide +kernel
theorem dX5_readOpening_87 : decode cX5_readOpening 87 = .ok (.iload_n 2, 1) := by decide +kernel
theorem dX5_readOpening_88 : decode cX5_readOpening 88 = .ok (.bipush 100, 2) := by decide +kernel
theorem dX5_readOpening_90 : decode cX5_readOpening 90 = .ok (.if_icmp .ge 5, 3) := by decide +kernel
theorem dX5_readOpening_93 : decode cX5_readOpening 93 = .ok (.iconst 0, 1) := by decide +kernel
theorem dX5_readOpening_94 : decode cX5_readOpening 94 = .ok (.ireturn, 1) := by decide +kernel
theorem dX5_readOpening_95 : decode cX5_readOpening 95 = .ok (.aload_n 0, 1) := by decide +kernel
theorem dX5_readOpening_96 : decode cX5_readOpening 96 = .ok (.iload_n 2, 1) := by decide +kernel
theorem dX5_readOpening_97 : decode cX5_readOpening 97 = .ok (.bipush 100, 2) := by decide +kernel
theorem dX5_readOpening_99 : decode cX5_readOpening 99 = .ok (.isub, 1) := by decide +kernel
theorem dX5_readOpening_100 : decode cX5_readOpening 100 = .ok (.putfield 24, 3) := by decide +kernel
theorem dX5_readOpening_103 : decode cX5_readOpening 103 = .ok (.aload_n 0, 1) := by decide +kernel
theorem dX5_readOpening_104 : decode cX5_readOpening 104 = .ok (.getfield 9, 3) := by decide +kernel
theorem dX5_readOpening_107 : decode cX5_readOpening 107 = .ok (.invokevirtual 59, 3) := by decide +kernel
theorem dX5_readOpening_110 : decode cX5_readOpening 110 = .ok (.iconst 1, 1) := by decide +kernel
theorem dX5_readOpening_111 : decode cX5_readOpening 111 = .ok (.ireturn, 1) := by decide +kernel
theorem bX5_readOpening_0 {d : Nat} {Q : Option jA → jH → Prop} (a0 : Nat) (u1 : Option jA) (u2 : Option jA) (h : jH)
    (s1 : (jS h a0).1 = 5)
    (e1 : Ex MX2_depth d [.inr (jP h a0 1), .inl (jI h a0 2)] h 0 0 (fun v h2 => V MX5_readOpening (d + 1) 11 [some (.inr a0), u1, u2] (v.toList ++ []) h2 0 0 Q))
    (s2 : (jS h (jP h a0 1)).1 = 2) :
    V MX5_readOpening (d + 1) 0 [some (.inr a0), u1, u2] [] h 0 0 Q := by
  refine V_aload_n (i := 0) dX5_readOpening_0 rfl rfl ?_
  refine V_getP dX5_readOpening_1 fX5_15 rfl s1 ?_
  refine V_aload_n (i := 0) dX5_readOpening_4 rfl rfl ?_
  refine V_getI dX5_readOpening_5 fX5_24 rfl s1 ?_
  exact V_callV (M := MX5_readOpening) (d := (d + 1)) (mc' := 0) (ms' := 0) (mc := 0) (ms := 0) (As := [.inl (jI h a0 2)]) (rest := []) dX5_readOpening_8 tX2_depth vX2_depth lX5_62 s2 ⟨by decide, rfl⟩ rfl rfl (Nat.le_of_ble_eq_true rfl) (show d + 1 ≤ (d + 1) by omega) e1
theorem bX5_readOpening_11 {d : Nat} {Q : Option jA → jH → Prop} (a0 : Nat) (u1 : Option jA) (u2 : Option jA) (p0 : Int) (h : jH)
    (s1 : (jS h a0).1 = 5)
    (e1 : (p0 < 4) → Ex MX7_toNext d [.inr (jP h a0 0)] h 0 0 (fun v h2 => V MX5_readOpening (d + 1) 24 [some (.inr a0), u1, u2] (v.toList ++ []) h2 0 0 Q))
    (s2 : (jS h (jP h a0 0)).1 = 7)
    (q1 : (¬ (p0 < 4)) → Q (some (.inl 0)) h) :
    V MX5_readOpening (d + 1) 11 [some (.inr a0), u1, u2] [.inl p0] h 0 0 Q := by
  refine V_iconst dX5_readOpening_11 ⟨by decide, by decide⟩ ?_
  refine V_icmp_lt (tgt := 17) dX5_readOpening_12 (by decide) (fun c1 => ?_) (fun c1 => ?_)
  · refine V_aload_n (i := 0) dX5_readOpening_17 rfl rfl ?_
    refine V_getP dX5_readOpening_18 fX5_9 rfl s1 ?_
    exact V_callV (M := MX5_readOpening) (d := (d + 1)) (mc' := 0) (ms' := 0) (mc := 0) (ms := 0) (As := []) (rest := []) dX5_readOpening_21 tX7_toNext vX7_toNext lX5_59 s2 ⟨by decide, rfl⟩ rfl rfl (Nat.le_of_ble_eq_true rfl) (show d + 1 ≤ (d + 1) by omega) (e1 c1)
  · refine V_iconst dX5_readOpening_15 ⟨by decide, by decide⟩ ?_
    exact V_retz rfl dX5_readOpening_16 (by decide) (q1 c1)
theorem bX5_readOpening_24 {d : Nat} {Q : Option jA → jH → Prop} (a0 : Nat) (u1 : Option jA) (u2 : Option jA) (h : jH)
    (s1 : (jS h a0).1 = 5)
    (s2 : (jS h (jP h a0 0)).1 = 7)
    (e1 : ((jlet (jI h (jP h a0 0) 4)) ≠ ((-9))) → Ex MX2_named d [.inr (jP h a0 1), .inl (jI h a0 2), .inl (jlet (jI h (jP h a0 0) 4))] h 0 0 (fun v h2 => V MX5_readOpening (d + 1) 52 [some (.inr a0), some (.inl (jlet (jI h (jP h a0 0) 4))), u2] (v.toList ++ []) h2 0 0 Q))
    (s3 : (jS h (jP h a0 1)).1 = 2)
    (q1 : ((jlet (jI h (jP h a0 0) 4)) = ((-9))) → Q (some (.inl 0)) h) :
    V MX5_readOpening (d + 1) 24 [some (.inr a0), u1, u2] [] h 0 0 Q := by
  refine V_aload_n (i := 0) dX5_readOpening_24 rfl rfl ?_
  refine V_getP dX5_readOpening_25 fX5_9 rfl s1 ?_
  refine V_callV (M := MX5_readOpening) (d := (d + 1)) (mc' := 0) (ms' := 0) (mc := 0) (ms := 0) (As := []) (rest := []) dX5_readOpening_28 tX7_letter vX7_letter lX5_66 s2 ⟨by decide, rfl⟩ rfl rfl (Nat.le_of_ble_eq_true rfl) (show d + 1 ≤ (d + 1) by omega) (Ex.mono (pX7_letter (d := d) s2) ?_)
  intro v h2 hq
  rw [hq.1, hq.2]
  show V MX5_readOpening (d + 1) 31 [some (.inr a0), u1, u2] [.inl (jlet (jI h (jP h a0 0) 4))] h 0 0 Q
  refine V_istore_n (i := 1) dX5_readOpening_31 rfl (by decide) ?_
  refine V_iload_n (i := 1) dX5_readOpening_32 rfl rfl ?_
  refine V_bipush dX5_readOpening_33 (by decide +kernel) ⟨by decide, by decide⟩ ?_
  refine V_icmp_ne (tgt := 40) dX5_readOpening_35 (by decide) (fun c1 => ?_) (fun c1 => ?_)
  · refine V_aload_n (i := 0) dX5_readOpening_40 rfl rfl ?_
    refine V_getP dX5_readOpening_41 fX5_15 rfl s1 ?_
    refine V_aload_n (i := 0) dX5_readOpening_44 rfl rfl ?_
    refine V_getI dX5_readOpening_45 fX5_24 rfl s1 ?_
    refine V_iload_n (i := 1) dX5_readOpening_48 rfl rfl ?_
    exact V_callV (M := MX5_readOpening) (d := (d + 1)) (mc' := 0) (ms' := 0) (mc := 0) (ms := 0) (As := [.inl (jI h a0 2), .inl (jlet (jI h (jP h a0 0) 4))]) (rest := []) dX5_readOpening_49 tX2_named vX2_named lX5_70 s3 ⟨by decide, rfl⟩ rfl rfl (Nat.le_of_ble_eq_true rfl) (show d + 1 ≤ (d + 1) by omega) (e1 c1)
  · refine V_iconst dX5_readOpening_38 ⟨by decide, by decide⟩ ?_
    exact V_retz rfl dX5_readOpening_39 (by decide) (q1 c1)
theorem bX5_readOpening_52 {d : Nat} {Q : Option jA → jH → Prop} (a0 : Nat) (i1 : Int) (u2 : Option jA) (p0 : Int) (h : jH)
    (r1 : (p0 ≠ ((-9))) → (100 ≤ p0) → jR (p0 - 100))
    (s1 : (jS h a0).1 = 5)
    (e1 : (p0 ≠ ((-9))) → (100 ≤ p0) → Ex MX7_toNext d [.inr (jP h a0 0)] (jsI h a0 2 (p0 - 100)) 0 0 (fun v h2 => V MX5_readOpening (d + 1) 110 [some (.inr a0), some (.inl i1), some (.inl p0)] (v.toList ++ []) h2 0 0 Q))
    (s2 : (jS h (jP h a0 0)).1 = 7)
    (q1 : (p0 ≠ ((-9))) → (¬ (100 ≤ p0)) → Q (some (.inl 0)) h)
    (s3 : (jS h (jP h a0 1)).1 = 2)
    (r2 : (p0 = ((-9))) → (6 ≤ (jI h (jP h a0 1) 3)) → (100 ≤ p0) → jR (p0 - 100))
    (e2 : (p0 = ((-9))) → (6 ≤ (jI h (jP h a0 1) 3)) → (100 ≤ p0) → Ex MX7_toNext d [.inr (jP h a0 0)] (jsI h a0 2 (p0 - 100)) 0 0 (fun v h2 => V MX5_readOpening (d + 1) 110 [some (.inr a0), some (.inl i1), some (.inl p0)] (v.toList ++ []) h2 0 0 Q))
    (q2 : (p0 = ((-9))) → (6 ≤ (jI h (jP h a0 1) 3)) → (¬ (100 ≤ p0)) → Q (some (.inl 0)) h)
    (e3 : (p0 = ((-9))) → (¬ (6 ≤ (jI h (jP h a0 1) 3))) → Ex MX2_addScope d [.inr (jP h a0 1), .inl (jI h a0 2), .inl i1] h 0 0 (fun v h2 => V MX5_readOpening (d + 1) 85 [some (.inr a0), some (.inl i1), some (.inl p0)] (v.toList ++ [.inl 100]) h2 0 0 Q)) :
    V MX5_readOpening (d + 1) 52 [some (.inr a0), some (.inl i1), u2] [.inl p0] h 0 0 Q := by
  refine V_istore_n (i := 2) dX5_readOpening_52 rfl (by decide) ?_
  refine V_iload_n (i := 2) dX5_readOpening_53 rfl rfl ?_
  refine V_bipush dX5_readOpening_54 (by decide +kernel) ⟨by decide, by decide⟩ ?_
  refine V_icmp_ne (tgt := 87) dX5_readOpening_56 (by decide) (fun c1 => ?_) (fun c1 => ?_)
  · refine V_iload_n (i := 2) dX5_readOpening_87 rfl rfl ?_
    refine V_bipush dX5_readOpening_88 (by decide +kernel) ⟨by decide, by decide⟩ ?_
    refine V_icmp_ge (tgt := 95) dX5_readOpening_90 (by decide) (fun c2 => ?_) (fun c2 => ?_)
    · refine V_aload_n (i := 0) dX5_readOpening_95 rfl rfl ?_
      refine V_iload_n (i := 2) dX5_readOpening_96 rfl rfl ?_
      refine V_bipush dX5_readOpening_97 (by decide +kernel) ⟨by decide, by decide⟩ ?_
      refine V_isub dX5_readOpening_99 (r1 c1 c2) ?_
      refine V_putI (ci := 5) (kf := 2) dX5_readOpening_100 fX5_24 rfl rfl s1 ?_
      refine V_aload_n (i := 0) dX5_readOpening_103 rfl rfl ?_
      refine V_getP dX5_readOpening_104 fX5_9 rfl s1 ?_
      exact V_callV (M := MX5_readOpening) (d := (d + 1)) (mc' := 0) (ms' := 0) (mc := 0) (ms := 0) (As := []) (rest := []) dX5_readOpening_107 tX7_toNext vX7_toNext lX5_59 s2 ⟨by decide, rfl⟩ rfl rfl (Nat.le_of_ble_eq_true rfl) (show d + 1 ≤ (d + 1) by omega) (e1 c1 c2)
    · refine V_iconst dX5_readOpening_93 ⟨by decide, by decide⟩ ?_
      exact V_retz rfl dX5_readOpening_94 (by decide) (q1 c1 c2)
  · refine V_aload_n (i := 0) dX5_readOpening_59 rfl rfl ?_
    refine V_getP dX5_readOpening_60 fX5_15 rfl s1 ?_
    refine V_getI dX5_readOpening_63 fX5_74 rfl s3 ?_
    refine V_bipush dX5_readOpening_66 (by decide +kernel) ⟨by decide, by decide⟩ ?_
    refine V_icmp_ge (tgt := 87) dX5_readOpening_68 (by decide) (fun c3 => ?_) (fun c3 => ?_)
    · refine V_iload_n (i := 2) dX5_readOpening_87 rfl rfl ?_
      refine V_bipush dX5_readOpening_88 (by decide +kernel) ⟨by decide, by decide⟩ ?_
      refine V_icmp_ge (tgt := 95) dX5_readOpening_90 (by decide) (fun c4 => ?_) (fun c4 => ?_)
      · refine V_aload_n (i := 0) dX5_readOpening_95 rfl rfl ?_
        refine V_iload_n (i := 2) dX5_readOpening_96 rfl rfl ?_
        refine V_bipush dX5_readOpening_97 (by decide +kernel) ⟨by decide, by decide⟩ ?_
        refine V_isub dX5_readOpening_99 (r2 c1 c3 c4) ?_
        refine V_putI (ci := 5) (kf := 2) dX5_readOpening_100 fX5_24 rfl rfl s1 ?_
        refine V_aload_n (i := 0) dX5_readOpening_103 rfl rfl ?_
        refine V_getP dX5_readOpening_104 fX5_9 rfl s1 ?_
        exact V_callV (M := MX5_readOpening) (d := (d + 1)) (mc' := 0) (ms' := 0) (mc := 0) (ms := 0) (As := []) (rest := []) dX5_readOpening_107 tX7_toNext vX7_toNext lX5_59 s2 ⟨by decide, rfl⟩ rfl rfl (Nat.le_of_ble_eq_true rfl) (show d + 1 ≤ (d + 1) by omega) (e2 c1 c3 c4)
      · refine V_iconst dX5_readOpening_93 ⟨by decide, by decide⟩ ?_
        exact V_retz rfl dX5_readOpening_94 (by decide) (q2 c1 c3 c4)
    · refine V_bipush dX5_readOpening_71 (by decide +kernel) ⟨by decide, by decide⟩ ?_
      refine V_aload_n (i := 0) dX5_readOpening_73 rfl rfl ?_
      refine V_getP dX5_readOpening_74 fX5_15 rfl s1 ?_
      refine V_aload_n (i := 0) dX5_readOpening_77 rfl rfl ?_
      refine V_getI dX5_readOpening_78 fX5_24 rfl s1 ?_
      refine V_iload_n (i := 1) dX5_readOpening_81 rfl rfl ?_
      exact V_callV (M := MX5_readOpening) (d := (d + 1)) (mc' := 0) (ms' := 0) (mc := 0) (ms := 0) (As := [.inl (jI h a0 2), .inl i1]) (rest := [.inl 100]) dX5_readOpening_82 tX2_addScope vX2_addScope lX5_77 s3 ⟨by decide, rfl⟩ rfl rfl (Nat.le_of_ble_eq_true rfl) (show d + 1 ≤ (d + 1) by omega) (e3 c1 c3)
theorem bX5_readOpening_110 {d : Nat} {Q : Option jA → jH → Prop} (a0 : Nat) (i1 : Int) (i2 : Int) (h : jH)
    (q1 : Q (some (.inl 1)) h) :
    V MX5_readOpening (d + 1) 110 [some (.inr a0), some (.inl i1), some (.inl i2)] [] h 0 0 Q := by
  refine V_iconst dX5_readOpening_110 ⟨by decide, by decide⟩ ?_
  exact V_retz rfl dX5_readOpening_111 (by decide) q1
theorem bX5_readOpening_85 {d : Nat} {Q : Option jA → jH → Prop} (a0 : Nat) (i1 : Int) (i2 : Int) (p0 : Int) (p1 : Int) (h : jH)
    (r1 : jR (p1 + p0))
    (r2 : (100 ≤ (p1 + p0)) → jR ((p1 + p0) - 100))
    (s1 : (jS h a0).1 = 5)
    (e1 : (100 ≤ (p1 + p0)) → Ex MX7_toNext d [.inr (jP h a0 0)] (jsI h a0 2 ((p1 + p0) - 100)) 0 0 (fun v h2 => V MX5_readOpening (d + 1) 110 [some (.inr a0), some (.inl i1), some (.inl (p1 + p0))] (v.toList ++ []) h2 0 0 Q))
    (s2 : (jS h (jP h a0 0)).1 = 7)
    (q1 : (¬ (100 ≤ (p1 + p0))) → Q (some (.inl 0)) h) :
    V MX5_readOpening (d + 1) 85 [some (.inr a0), some (.inl i1), some (.inl i2)] [.inl p0, .inl p1] h 0 0 Q := by
  refine V_iadd dX5_readOpening_85 r1 ?_
  refine V_istore_n (i := 2) dX5_readOpening_86 rfl (by decide) ?_
  refine V_iload_n (i := 2) dX5_readOpening_87 rfl rfl ?_
  refine V_bipush dX5_readOpening_88 (by decide +kernel) ⟨by decide, by decide⟩ ?_
  refine V_icmp_ge (tgt := 95) dX5_readOpening_90 (by decide) (fun c1 => ?_) (fun c1 => ?_)
  · refine V_aload_n (i := 0) dX5_readOpening_95 rfl rfl ?_
    refine V_iload_n (i := 2) dX5_readOpening_96 rfl rfl ?_
    refine V_bipush dX5_readOpening_97 (by decide +kernel) ⟨by decide, by decide⟩ ?_
    refine V_isub dX5_readOpening_99 (r2 c1) ?_
    refine V_putI (ci := 5) (kf := 2) dX5_readOpening_100 fX5_24 rfl rfl s1 ?_
    refine V_aload_n (i := 0) dX5_readOpening_103 rfl rfl ?_
    refine V_getP dX5_readOpening_104 fX5_9 rfl s1 ?_
    exact V_callV (M := MX5_readOpening) (d := (d + 1)) (mc' := 0) (ms' := 0) (mc := 0) (ms := 0) (As := []) (rest := []) dX5_readOpening_107 tX7_toNext vX7_toNext lX5_59 s2 ⟨by decide, rfl⟩ rfl rfl (Nat.le_of_ble_eq_true rfl) (show d + 1 ≤ (d + 1) by omega) (e1 c1)
  · refine V_iconst dX5_readOpening_93 ⟨by decide, by decide⟩ ?_
    exact V_retz rfl dX5_readOpening_94 (by decide) (q1 c1)
theorem dX5_readClosing_0 : decode cX5_readClosing 0 = .ok (.aload_n 0, 1) := by decide +kernel
theorem dX5_readClosing_1 : decode cX5_readClosing 1 = .ok (.getfield 24, 3) := by decide +kernel
theorem dX5_readClosing_4 : decode cX5_readClosing 4 = .ok (.ifCond .ge 5, 3) := by decide +kernel
theorem dX5_readClosing_7 : decode cX5_readClosing 7 = .ok (.iconst 0, 1) := by decide +kernel
theorem dX5_readClosing_8 : decode cX5_readClosing 8 = .ok (.ireturn, 1) := by decide +kernel
theorem dX5_readClosing_9 : decode cX5_readClosing 9 = .ok (.aload_n 0, 1) := by decide +kernel
theorem dX5_readClosing_10 : decode cX5_readClosing 10 = .ok (.aload_n 0, 1) := by decide +kernel
theorem dX5_readClosing_11 : decode cX5_readClosing 11 = .ok (.getfield 15, 3) := by decide +kernel
theorem dX5_readClosing_14 : decode cX5_readClosing 14 = .ok (.getfield 80, 3) := by decide +kernel
theorem dX5_readClosing_17 : decode cX5_readClosing 17 = .ok (.aload_n 0, 1) := by decide +kernel
theorem dX5_readClosing_18 : decode cX5_readClosing 18 = .ok (.getfield 24, 3) := by decide +kernel
theorem dX5_readClosing_21 : decode cX5_readClosing 21 = .ok (.iaload, 1) := by decide +kernel
theorem dX5_readClosing_22 : decode cX5_readClosing 22 = .ok (.putfield 24, 3) := by decide +kernel
theorem dX5_readClosing_25 : decode cX5_readClosing 25 = .ok (.aload_n 0, 1) := by decide +kernel
theorem dX5_readClosing_26 : decode cX5_readClosing 26 = .ok (.getfield 9, 3) := by decide +kernel
theorem dX5_readClosing_29 : decode cX5_readClosing 29 = .ok (.invokevirtual 59, 3) := by decide +kernel
theorem dX5_readClosing_32 : decode cX5_readClosing 32 = .ok (.iconst 1, 1) := by decide +kernel
theorem dX5_readClosing_33 : decode cX5_readClosing 33 = .ok (.ireturn, 1) := by decide +kernel
theorem bX5_readClosing_0 {d : Nat} {Q : Option jA → jH → Prop} (a0 : Nat) (h : jH)
    (s1 : (jS h a0).1 = 5)
    (s2 : (jS h (jP h a0 1)).1 = 2)
    (s3 : (jS h (jP h (jP h a0 1) 8)).1 = 16)
    (s4 : (0 ≤ (jI h a0 2)) → 0 ≤ jI h a0 2)
    (s5 : (0 ≤ (jI h a0 2)) → jI h a0 2 < ((jS h (jP h (jP h a0 1) 8)).2 : Int))
    (e1 : (0 ≤ (jI h a0 2)) → Ex MX7_toNext d [.inr (jP h a0 0)] (jsI h a0 2 (jX h (jP h (jP h a0 1) 8) ((jI h a0 2).toNat))) 0 0 (fun v h2 => V MX5_readClosing (d + 1) 32 [some (.inr a0)] (v.toList ++ []) h2 0 0 Q))
    (s6 : (jS h (jP h a0 0)).1 = 7)
    (q1 : (¬ (0 ≤ (jI h a0 2))) → Q (some (.inl 0)) h) :
    V MX5_readClosing (d + 1) 0 [some (.inr a0)] [] h 0 0 Q := by
  refine V_aload_n (i := 0) dX5_readClosing_0 rfl rfl ?_
  refine V_getI dX5_readClosing_1 fX5_24 rfl s1 ?_
  refine V_if_ge (tgt := 9) dX5_readClosing_4 (by decide) (fun c1 => ?_) (fun c1 => ?_)
  · refine V_aload_n (i := 0) dX5_readClosing_9 rfl rfl ?_
    refine V_aload_n (i := 0) dX5_readClosing_10 rfl rfl ?_
    refine V_getP dX5_readClosing_11 fX5_15 rfl s1 ?_
    refine V_getP dX5_readClosing_14 fX5_80 rfl s2 ?_
    refine V_aload_n (i := 0) dX5_readClosing_17 rfl rfl ?_
    refine V_getI dX5_readClosing_18 fX5_24 rfl s1 ?_
    refine V_iald dX5_readClosing_21 s3 (s4 c1) (s5 c1) ?_
    refine V_putI (ci := 5) (kf := 2) dX5_readClosing_22 fX5_24 rfl rfl s1 ?_
    refine V_aload_n (i := 0) dX5_readClosing_25 rfl rfl ?_
    refine V_getP dX5_readClosing_26 fX5_9 rfl s1 ?_
    exact V_callV (M := MX5_readClosing) (d := (d + 1)) (mc' := 0) (ms' := 0) (mc := 0) (ms := 0) (As := []) (rest := []) dX5_readClosing_29 tX7_toNext vX7_toNext lX5_59 s6 ⟨by decide, rfl⟩ rfl rfl (Nat.le_of_ble_eq_true rfl) (show d + 1 ≤ (d + 1) by omega) (e1 c1)
  · refine V_iconst dX5_readClosing_7 ⟨by decide, by decide⟩ ?_
    exact V_retz rfl dX5_readClosing_8 (by decide) (q1 c1)
theorem bX5_readClosing_32 {d : Nat} {Q : Option jA → jH → Prop} (a0 : Nat) (h : jH)
    (q1 : Q (some (.inl 1)) h) :
    V MX5_readClosing (d + 1) 32 [some (.inr a0)] [] h 0 0 Q := by
  refine V_iconst dX5_readClosing_32 ⟨by decide, by decide⟩ ?_
  exact V_retz rfl dX5_readClosing_33 (by decide) q1
theorem dX5_readSignal_0 : decode cX5_readSignal 0 = .ok (.aload_n 0, 1) := by decide +kernel
theorem dX5_readSignal_1 : decode cX5_readSignal 1 = .ok (.getfield 9, 3) := by decide +kernel
theorem dX5_readSignal_4 : decode cX5_readSignal 4 = .ok (.invokevirtual 66, 3) := by decide +kernel
theorem dX5_readSignal_7 : decode cX5_readSignal 7 = .ok (.istore_n 1, 1) := by decide +kernel
theorem dX5_readSignal_8 : decode cX5_readSignal 8 = .ok (.iload_n 1, 1) := by decide +kernel
theorem dX5_readSignal_9 : decode cX5_readSignal 9 = .ok (.bipush (-9), 2) := by decide +kernel
theorem dX5_readSignal_11 : decode cX5_readSignal 11 = .ok (.if_icmp .eq 32, 3) := by decide +kernel
theorem dX5_readSignal_14 : decode cX5_readSignal 14 = .ok (.aload_n 0, 1) := by decide +kernel
theorem dX5_readSignal_15 : decode cX5_readSignal 15 = .ok (.getfield 15, 3) := by decide +kernel
theorem dX5_readSignal_18 : decode cX5_readSignal 18 = .ok (.getfield 84, 3) := by decide +kernel
theorem dX5_readSignal_21 : decode cX5_readSignal 21 = .ok (.bipush 12, 2) := by decide +kernel
theorem dX5_readSignal_23 : decode cX5_readSignal 23 = .ok (.if_icmp .ge 20, 3) := by decide +kernel
theorem dX5_readSignal_26 : decode cX5_readSignal 26 = .ok (.aload_n 0, 1) := by decide +kernel
theorem dX5_readSignal_27 : decode cX5_readSignal 27 = .ok (.getfield 15, 3) := by decide +kernel
theorem dX5_readSignal_30 : decode cX5_readSignal 30 = .ok (.aload_n 0, 1) := by decide +kernel
theorem dX5_readSignal_31 : decode cX5_readSignal 31 = .ok (.getfield 24, 3) := by decide +kernel
theorem dX5_readSignal_34 : decode cX5_readSignal 34 = .ok (.iload_n 1, 1) := by decide +kernel
theorem dX5_readSignal_35 : decode cX5_readSignal 35 = .ok (.invokevirtual 70, 3) := by decide +kernel
theorem dX5_readSignal_38 : decode cX5_readSignal 38 = .ok (.bipush (-9), 2) := by decide +kernel
theorem dX5_readSignal_40 : decode cX5_readSignal 40 = .ok (.if_icmp .eq 5, 3) := by decide +kernel
theorem dX5_readSignal_43 : decode cX5_readSignal 43 = .ok (.iconst 0, 1) := by decide +kernel
theorem dX5_readSignal_44 : decode cX5_readSignal 44 = .ok (.ireturn, 1) := by decide +kernel
theorem dX5_readSignal_45 : decode cX5_readSignal 45 = .ok (.aload_n 0, 1) := by decide +kernel
theorem dX5_readSignal_46 : decode cX5_readSignal 46 = .ok (.getfield 9, 3) := by decide +kernel
theorem dX5_readSignal_49 : decode cX5_readSignal 49 = .ok (.invokevirtual 59, 3) := by decide +kernel
theorem dX5_readSignal_52 : decode cX5_readSignal 52 = .ok (.aload_n 0, 1) := by decide +kernel
theorem dX5_readSignal_53 : decode cX5_readSignal 53 = .ok (.getfield 9, 3) := by decide +kernel
theorem dX5_readSignal_56 : decode cX5_readSignal 56 = .ok (.getfield 33, 3) := by decide +kernel
theorem dX5_readSignal_59 : decode cX5_readSignal 59 = .ok (.bipush 58, 2) := by decide +kernel
theorem dX5_readSignal_61 : decode cX5_readSignal 61 = .ok (.if_icmp .ne 32, 3) := by decide +kernel
theorem dX5_readSignal_64 : decode cX5_readSignal 64 = .ok (.aload_n 0, 1) := by decide +kernel
theorem dX5_readSignal_65 : decode cX5_readSignal 65 = .ok (.getfield 15, 3) := by decide +kernel
theorem dX5_readSignal_68 : decode cX5_readSignal 68 = .ok (.getfield 87, 3) := by decide +kernel
theorem dX5_readSignal_71 : decode cX5_readSignal 71 = .ok (.bipush 6, 2) := by decide +kernel
theorem dX5_readSignal_73 : decode cX5_readSignal 73 = .ok (.if_icmp .ge 20, 3) := by decide +kernel
theorem dX5_readSignal_76 : decode cX5_readSignal 76 = .ok (.aload_n 0, 1) := by decide +kernel
theorem dX5_readSignal_77 : decode cX5_readSignal 77 = .ok (.getfield 9, 3) := by decide +kernel
theorem dX5_readSignal_80 : decode cX5_readSignal 80 = .ok (.invokevirtual 59, 3) := by decide +kernel
theorem dX5_readSignal_83 : decode cX5_readSignal 83 = .ok (.iconst 0, 1) := by decide +kernel
theorem dX5_readSignal_84 : decode cX5_readSignal 84 = .ok (.istore_n 2, 1) := by decide +kernel
theorem dX5_readSignal_85 : decode cX5_readSignal 85 = .ok (.aload_n 0, 1) := by decide +kernel
theorem dX5_readSignal_86 : decode cX5_readSignal 86 = .ok (.invokevirtual 90, 3) := by decide +kernel
theorem dX5_readSignal_89 : decode cX5_readSignal 89 = .ok (.istore_n 3, 1) := by decide +kernel
theorem dX5_readSignal_90 : decode cX5_readSignal 90 = .ok (.goto 90, 3) := by decide +kernel
theorem dX5_readSignal_93 : decode cX5_readSignal 93 = .ok (.aload_n 0, 1) := by decide +kernel
theorem dX5_readSignal_94 : decode cX5_readSignal 94 = .ok (.getfield 9, 3) := by decide +kernel
theorem dX5_readSignal_97 : decode cX5_readSignal 97 = .ok (.getfield 33, 3) := by decide +kernel
theorem dX5_readSignal_100 : decode cX5_readSignal 100 = .ok (.bipush 64, 2) := by decide +kernel
theorem dX5_readSignal_102 : decode cX5_readSignal 102 = .ok (.if_icmp .ne 20, 3) := by decide +kernel
theorem dX5_readSignal_105 : decode cX5_readSignal 105 = .ok (.aload_n 0, 1) := by decide +kernel
theorem dX5_readSignal_106 : decode cX5_readSignal 106 = .ok (.getfield 9, 3) := by decide +kernel
theorem dX5_readSignal_109 : decode cX5_readSignal 109 = .ok (.invokevirtual 59, 3) := by decide +kernel
theorem dX5_readSignal_112 : decode cX5_readSignal 112 = .ok (.iconst 1, 1) := by decide +kernel
theorem dX5_readSignal_113 : decode cX5_readSignal 113 = .ok (.istore_n 2, 1) := by decide +kernel
theorem dX5_readSignal_114 : decode cX5_readSignal 114 = .ok (.aload_n 0, 1) := by decide +kernel
theorem dX5_readSignal_115 : decode cX5_readSignal 115 = .ok (.invokevirtual 93, 3) := by decide +kernel
theorem dX5_readSignal_118 : decode cX5_readSignal 118 = .ok (.istore_n 3, 1) := by decide +kernel
theorem dX5_readSignal_119 : decode cX5_readSignal 119 = .ok (.goto 61, 3) := by decide +kernel
theorem dX5_readSignal_122 : decode cX5_readSignal 122 = .ok (.aload_n 0, 1) := by decide +kernel
theorem dX5_readSignal_123 : decode cX5_readSignal 123 = .ok (.getfield 9, 3) := by decide +kernel
theorem dX5_readSignal_126 : decode cX5_readSignal 126 = .ok (.getfield 33, 3) := by decide +kernel
theorem dX5_readSignal_129 : decode cX5_readSignal 129 = .ok (.bipush 61, 2) := by decide +kernel
theorem dX5_readSignal_131 : decode cX5_readSignal 131 = .ok (.if_icmp .ne 47, 3) := by decide +kernel
theorem dX5_readSignal_134 : decode cX5_readSignal 134 = .ok (.aload_n 0, 1) := by decide +kernel
theorem dX5_readSignal_135 : decode cX5_readSignal 135 = .ok (.getfield 15, 3) := by decide +kernel
theorem dX5_readSignal_138 : decode cX5_readSignal 138 = .ok (.getfield 96, 3) := by decide +kernel
theorem dX5_readSignal_141 : decode cX5_readSignal 141 = .ok (.iconst 4, 1) := by decide +kernel
theorem dX5_readSignal_142 : decode cX5_readSignal 142 = .ok (.if_icmp .ge 36, 3) := by decide +kernel
theorem dX5_readSignal_145 : decode cX5_readSignal 145 = .ok (.aload_n 0, 1) := by decide +kernel
theorem dX5_readSignal_146 : decode cX5_readSignal 146 = .ok (.getfield 9, 3) := by decide +kernel
theorem dX5_readSignal_149 : decode cX5_readSignal 149 = .ok (.invokevirtual 59, 3) := by decide +kernel
theorem dX5_readSignal_152 : decode cX5_readSignal 152 = .ok (.iconst 2, 1) := by decide +kernel
theorem dX5_readSignal_153 : decode cX5_readSignal 153 = .ok (.istore_n 2, 1) := by decide +kernel
theorem dX5_readSignal_154 : decode cX5_readSignal 154 = .ok (.aload_n 0, 1) := by decide +kernel
theorem dX5_readSignal_155 : decode cX5_readSignal 155 = .ok (.getfield 15, 3) := by decide +kernel
theorem dX5_readSignal_158 : decode cX5_readSignal 158 = .ok (.invokevirtual 99, 3) := by decide +kernel
theorem dX5_readSignal_161 : decode cX5_readSignal 161 = .ok (.aload_n 0, 1) := by decide +kernel
theorem dX5_readSignal_162 : decode cX5_readSignal 162 = .ok (.invokevirtual 102, 3) := by decide +kernel
theorem dX5_readSignal_165 : decode cX5_readSignal 165 = .ok (.ifCond .eq 7, 3) := by decide +kernel
theorem dX5_readSignal_168 : decode cX5_readSignal 168 = .ok (.iconst 0, 1) := by decide +kernel
theorem dX5_readSignal_169 : decode cX5_readSignal 169 = .ok (.goto 5, 3) := by decide +kernel
theorem dX5_readSignal_172 : decode cX5_readSignal 172 = .ok (.bipush (-9), 2) := by decide +kernel
theorem dX5_readSignal_174 : decode cX5_readSignal 174 = .ok (.istore_n 3, 1) := by decide +kernel
theorem dX5_readSignal_175 : decode cX5_readSignal 175 = .ok (.goto 5, 3) := by decide +kernel
theorem dX5_readSignal_178 : decode cX5_readSignal 178 = .ok (.iconst 0, 1) := by decide +kernel
theorem dX5_readSignal_179 : decode cX5_readSignal 179 = .ok (.ireturn, 1) := by decide +kernel
theorem dX5_readSignal_180 : decode cX5_readSignal 180 = .ok (.iload_n 3, 1) := by decide +kernel
theorem dX5_readSignal_181 : decode cX5_readSignal 181 = .ok (.bipush (-9), 2) := by decide +kernel
theorem dX5_readSignal_183 : decode cX5_readSignal 183 = .ok (.if_icmp .ne 5, 3) := by decide +kernel
theorem dX5_readSignal_186 : decode cX5_readSignal 186 = .ok (.iconst 0, 1) := by decide +kernel
theorem dX5_readSignal_187 : decode cX5_readSignal 187 = .ok (.ireturn, 1) := by decide +kernel
theorem dX5_readSignal_188 : decode cX5_readSignal 188 = .ok (.aload_n 0, 1) := by decide +kernel
theorem dX5_readSignal_189 : decode cX5_readSignal 189 = .ok (.getfield 15, 3) := by decide +kernel
theorem dX5_readSignal_192 : decode cX5_readSignal 192 = .ok (.iload_n 2, 1) := by decide +kernel
theorem dX5_readSignal_193 : decode cX5_readSignal 193 = .ok (.aload_n 0, 1) := by decide +kernel
theorem dX5_readSignal_194 : decode cX5_readSignal 194 = .ok (.getfield 24, 3) := by decide +kernel
theorem dX5_readSignal_197 : decode cX5_readSignal 197 = .ok (.iload_n 1, 1) := by decide +kernel
theorem dX5_readSignal_198 : decode cX5_readSignal 198 = .ok (.iload_n 3, 1) := by decide +kernel
theorem dX5_readSignal_199 : decode cX5_readSignal 199 = .ok (.invokevirtual 105, 3) := by decide +kernel
theorem dX5_readSignal_202 : decode cX5_readSignal 202 = .ok (.iconst 1, 1) := by decide +kernel
theorem dX5_readSignal_203 : decode cX5_readSignal 203 = .ok (.ireturn, 1) := by decide +kernel
theorem bX5_readSignal_0 {d : Nat} {Q : Option jA → jH → Prop} (a0 : Nat) (u1 : Option jA) (u2 : Option jA) (u3 : Option jA) (h : jH)
    (s1 : (jS h a0).1 = 5)
    (s2 : (jS h (jP h a0 0)).1 = 7)
    (q1 : ((jlet (jI h (jP h a0 0) 4)) = ((-9))) → Q (some (.inl 0)) h)
    (s3 : (jS h (jP h a0 1)).1 = 2)
    (q2 : (¬ ((jlet (jI h (jP h a0 0) 4)) = ((-9)))) → (12 ≤ (jI h (jP h a0 1) 0)) → Q (some (.inl 0)) h)
    (e1 : (¬ ((jlet (jI h (jP h a0 0) 4)) = ((-9)))) → (¬ (12 ≤ (jI h (jP h a0 1) 0))) → Ex MX2_named d [.inr (jP h a0 1), .inl (jI h a0 2), .inl (jlet (jI h (jP h a0 0) 4))] h 0 0 (fun v h2 => V MX5_readSignal (d + 9) 38 [some (.inr a0), some (.inl (jlet (jI h (jP h a0 0) 4))), u2, u3] (v.toList ++ []) h2 0 0 Q)) :
    V MX5_readSignal (d + 9) 0 [some (.inr a0), u1, u2, u3] [] h 0 0 Q := by
  refine V_aload_n (i := 0) dX5_readSignal_0 rfl rfl ?_
  refine V_getP dX5_readSignal_1 fX5_9 rfl s1 ?_
  refine V_callV (M := MX5_readSignal) (d := (d + 9)) (mc' := 0) (ms' := 0) (mc := 0) (ms := 0) (As := []) (rest := []) dX5_readSignal_4 tX7_letter vX7_letter lX5_66 s2 ⟨by decide, rfl⟩ rfl rfl (Nat.le_of_ble_eq_true rfl) (show d + 1 ≤ (d + 9) by omega) (Ex.mono (pX7_letter (d := d) s2) ?_)
  intro v h2 hq
  rw [hq.1, hq.2]
  show V MX5_readSignal (d + 9) 7 [some (.inr a0), u1, u2, u3] [.inl (jlet (jI h (jP h a0 0) 4))] h 0 0 Q
  refine V_istore_n (i := 1) dX5_readSignal_7 rfl (by decide) ?_
  refine V_iload_n (i := 1) dX5_readSignal_8 rfl rfl ?_
  refine V_bipush dX5_readSignal_9 (by decide +kernel) ⟨by decide, by decide⟩ ?_
  refine V_icmp_eq (tgt := 43) dX5_readSignal_11 (by decide) (fun c1 => ?_) (fun c1 => ?_)
  · refine V_iconst dX5_readSignal_43 ⟨by decide, by decide⟩ ?_
    exact V_retz rfl dX5_readSignal_44 (by decide) (q1 c1)
  · refine V_aload_n (i := 0) dX5_readSignal_14 rfl rfl ?_
    refine V_getP dX5_readSignal_15 fX5_15 rfl s1 ?_
    refine V_getI dX5_readSignal_18 fX5_84 rfl s3 ?_
    refine V_bipush dX5_readSignal_21 (by decide +kernel) ⟨by decide, by decide⟩ ?_
    refine V_icmp_ge (tgt := 43) dX5_readSignal_23 (by decide) (fun c2 => ?_) (fun c2 => ?_)
    · refine V_iconst dX5_readSignal_43 ⟨by decide, by decide⟩ ?_
      exact V_retz rfl dX5_readSignal_44 (by decide) (q2 c1 c2)
    · refine V_aload_n (i := 0) dX5_readSignal_26 rfl rfl ?_
      refine V_getP dX5_readSignal_27 fX5_15 rfl s1 ?_
      refine V_aload_n (i := 0) dX5_readSignal_30 rfl rfl ?_
      refine V_getI dX5_readSignal_31 fX5_24 rfl s1 ?_
      refine V_iload_n (i := 1) dX5_readSignal_34 rfl rfl ?_
      exact V_callV (M := MX5_readSignal) (d := (d + 9)) (mc' := 0) (ms' := 0) (mc := 0) (ms := 0) (As := [.inl (jI h a0 2), .inl (jlet (jI h (jP h a0 0) 4))]) (rest := []) dX5_readSignal_35 tX2_named vX2_named lX5_70 s3 ⟨by decide, rfl⟩ rfl rfl (Nat.le_of_ble_eq_true rfl) (show d + 1 ≤ (d + 9) by omega) (e1 c1 c2)
theorem bX5_readSignal_38 {d : Nat} {Q : Option jA → jH → Prop} (a0 : Nat) (i1 : Int) (u2 : Option jA) (u3 : Option jA) (p0 : Int) (h : jH)
    (s1 : (jS h a0).1 = 5)
    (e1 : (p0 = ((-9))) → Ex MX7_toNext d [.inr (jP h a0 0)] h 0 0 (fun v h2 => V MX5_readSignal (d + 9) 52 [some (.inr a0), some (.inl i1), u2, u3] (v.toList ++ []) h2 0 0 Q))
    (s2 : (jS h (jP h a0 0)).1 = 7)
    (q1 : (¬ (p0 = ((-9)))) → Q (some (.inl 0)) h) :
    V MX5_readSignal (d + 9) 38 [some (.inr a0), some (.inl i1), u2, u3] [.inl p0] h 0 0 Q := by
  refine V_bipush dX5_readSignal_38 (by decide +kernel) ⟨by decide, by decide⟩ ?_
  refine V_icmp_eq (tgt := 45) dX5_readSignal_40 (by decide) (fun c1 => ?_) (fun c1 => ?_)
  · refine V_aload_n (i := 0) dX5_readSignal_45 rfl rfl ?_
    refine V_getP dX5_readSignal_46 fX5_9 rfl s1 ?_
    exact V_callV (M := MX5_readSignal) (d := (d + 9)) (mc' := 0) (ms' := 0) (mc := 0) (ms := 0) (As := []) (rest := []) dX5_readSignal_49 tX7_toNext vX7_toNext lX5_59 s2 ⟨by decide, rfl⟩ rfl rfl (Nat.le_of_ble_eq_true rfl) (show d + 1 ≤ (d + 9) by omega) (e1 c1)
  · refine V_iconst dX5_readSignal_43 ⟨by decide, by decide⟩ ?_
    exact V_retz rfl dX5_readSignal_44 (by decide) (q1 c1)
theorem bX5_readSignal_52 {d : Nat} {Q : Option jA → jH → Prop} (a0 : Nat) (i1 : Int) (u2 : Option jA) (u3 : Option jA) (h : jH)
    (s1 : (jS h a0).1 = 5)
    (s2 : (jS h (jP h a0 0)).1 = 7)
    (q1 : ((jI h (jP h a0 0) 4) ≠ 58) → ((jI h (jP h a0 0) 4) ≠ 64) → ((jI h (jP h a0 0) 4) ≠ 61) → Q (some (.inl 0)) h)
    (s3 : (jS h (jP h a0 1)).1 = 2)
    (q2 : ((jI h (jP h a0 0) 4) ≠ 58) → ((jI h (jP h a0 0) 4) ≠ 64) → ((jI h (jP h a0 0) 4) = 61) → (4 ≤ (jI h (jP h a0 1) 2)) → Q (some (.inl 0)) h)
    (e1 : ((jI h (jP h a0 0) 4) ≠ 58) → ((jI h (jP h a0 0) 4) ≠ 64) → ((jI h (jP h a0 0) 4) = 61) → (¬ (4 ≤ (jI h (jP h a0 1) 2))) → Ex MX7_toNext d [.inr (jP h a0 0)] h 0 0 (fun v h2 => V MX5_readSignal (d + 9) 152 [some (.inr a0), some (.inl i1), u2, u3] (v.toList ++ []) h2 0 0 Q))
    (e2 : ((jI h (jP h a0 0) 4) ≠ 58) → ((jI h (jP h a0 0) 4) = 64) → Ex MX7_toNext d [.inr (jP h a0 0)] h 0 0 (fun v h2 => V MX5_readSignal (d + 9) 112 [some (.inr a0), some (.inl i1), u2, u3] (v.toList ++ []) h2 0 0 Q))
    (q3 : ((jI h (jP h a0 0) 4) = 58) → (6 ≤ (jI h (jP h a0 1) 1)) → ((jI h (jP h a0 0) 4) ≠ 64) → ((jI h (jP h a0 0) 4) ≠ 61) → Q (some (.inl 0)) h)
    (q4 : ((jI h (jP h a0 0) 4) = 58) → (6 ≤ (jI h (jP h a0 1) 1)) → ((jI h (jP h a0 0) 4) ≠ 64) → ((jI h (jP h a0 0) 4) = 61) → (4 ≤ (jI h (jP h a0 1) 2)) → Q (some (.inl 0)) h)
    (e3 : ((jI h (jP h a0 0) 4) = 58) → (6 ≤ (jI h (jP h a0 1) 1)) → ((jI h (jP h a0 0) 4) ≠ 64) → ((jI h (jP h a0 0) 4) = 61) → (¬ (4 ≤ (jI h (jP h a0 1) 2))) → Ex MX7_toNext d [.inr (jP h a0 0)] h 0 0 (fun v h2 => V MX5_readSignal (d + 9) 152 [some (.inr a0), some (.inl i1), u2, u3] (v.toList ++ []) h2 0 0 Q))
    (e4 : ((jI h (jP h a0 0) 4) = 58) → (6 ≤ (jI h (jP h a0 1) 1)) → ((jI h (jP h a0 0) 4) = 64) → Ex MX7_toNext d [.inr (jP h a0 0)] h 0 0 (fun v h2 => V MX5_readSignal (d + 9) 112 [some (.inr a0), some (.inl i1), u2, u3] (v.toList ++ []) h2 0 0 Q))
    (e5 : ((jI h (jP h a0 0) 4) = 58) → (¬ (6 ≤ (jI h (jP h a0 1) 1))) → Ex MX7_toNext d [.inr (jP h a0 0)] h 0 0 (fun v h2 => V MX5_readSignal (d + 9) 83 [some (.inr a0), some (.inl i1), u2, u3] (v.toList ++ []) h2 0 0 Q)) :
    V MX5_readSignal (d + 9) 52 [some (.inr a0), some (.inl i1), u2, u3] [] h 0 0 Q := by
  refine V_aload_n (i := 0) dX5_readSignal_52 rfl rfl ?_
  refine V_getP dX5_readSignal_53 fX5_9 rfl s1 ?_
  refine V_getI dX5_readSignal_56 fX5_33 rfl s2 ?_
  refine V_bipush dX5_readSignal_59 (by decide +kernel) ⟨by decide, by decide⟩ ?_
  refine V_icmp_ne (tgt := 93) dX5_readSignal_61 (by decide) (fun c1 => ?_) (fun c1 => ?_)
  · refine V_aload_n (i := 0) dX5_readSignal_93 rfl rfl ?_
    refine V_getP dX5_readSignal_94 fX5_9 rfl s1 ?_
    refine V_getI dX5_readSignal_97 fX5_33 rfl s2 ?_
    refine V_bipush dX5_readSignal_100 (by decide +kernel) ⟨by decide, by decide⟩ ?_
    refine V_icmp_ne (tgt := 122) dX5_readSignal_102 (by decide) (fun c2 => ?_) (fun c2 => ?_)
    · refine V_aload_n (i := 0) dX5_readSignal_122 rfl rfl ?_
      refine V_getP dX5_readSignal_123 fX5_9 rfl s1 ?_
      refine V_getI dX5_readSignal_126 fX5_33 rfl s2 ?_
      refine V_bipush dX5_readSignal_129 (by decide +kernel) ⟨by decide, by decide⟩ ?_
      refine V_icmp_ne (tgt := 178) dX5_readSignal_131 (by decide) (fun c3 => ?_) (fun c3 => ?_)
      · refine V_iconst dX5_readSignal_178 ⟨by decide, by decide⟩ ?_
        exact V_retz rfl dX5_readSignal_179 (by decide) (q1 c1 c2 c3)
      · refine V_aload_n (i := 0) dX5_readSignal_134 rfl rfl ?_
        refine V_getP dX5_readSignal_135 fX5_15 rfl s1 ?_
        refine V_getI dX5_readSignal_138 fX5_96 rfl s3 ?_
        refine V_iconst dX5_readSignal_141 ⟨by decide, by decide⟩ ?_
        refine V_icmp_ge (tgt := 178) dX5_readSignal_142 (by decide) (fun c4 => ?_) (fun c4 => ?_)
        · refine V_iconst dX5_readSignal_178 ⟨by decide, by decide⟩ ?_
          exact V_retz rfl dX5_readSignal_179 (by decide) (q2 c1 c2 c3 c4)
        · refine V_aload_n (i := 0) dX5_readSignal_145 rfl rfl ?_
          refine V_getP dX5_readSignal_146 fX5_9 rfl s1 ?_
          exact V_callV (M := MX5_readSignal) (d := (d + 9)) (mc' := 0) (ms' := 0) (mc := 0) (ms := 0) (As := []) (rest := []) dX5_readSignal_149 tX7_toNext vX7_toNext lX5_59 s2 ⟨by decide, rfl⟩ rfl rfl (Nat.le_of_ble_eq_true rfl) (show d + 1 ≤ (d + 9) by omega) (e1 c1 c2 c3 c4)
    · refine V_aload_n (i := 0) dX5_readSignal_105 rfl rfl ?_
      refine V_getP dX5_readSignal_106 fX5_9 rfl s1 ?_
      exact V_callV (M := MX5_readSignal) (d := (d + 9)) (mc' := 0) (ms' := 0) (mc := 0) (ms := 0) (As := []) (rest := []) dX5_readSignal_109 tX7_toNext vX7_toNext lX5_59 s2 ⟨by decide, rfl⟩ rfl rfl (Nat.le_of_ble_eq_true rfl) (show d + 1 ≤ (d + 9) by omega) (e2 c1 c2)
  · refine V_aload_n (i := 0) dX5_readSignal_64 rfl rfl ?_
    refine V_getP dX5_readSignal_65 fX5_15 rfl s1 ?_
    refine V_getI dX5_readSignal_68 fX5_87 rfl s3 ?_
    refine V_bipush dX5_readSignal_71 (by decide +kernel) ⟨by decide, by decide⟩ ?_
    refine V_icmp_ge (tgt := 93) dX5_readSignal_73 (by decide) (fun c5 => ?_) (fun c5 => ?_)
    · refine V_aload_n (i := 0) dX5_readSignal_93 rfl rfl ?_
      refine V_getP dX5_readSignal_94 fX5_9 rfl s1 ?_
      refine V_getI dX5_readSignal_97 fX5_33 rfl s2 ?_
      refine V_bipush dX5_readSignal_100 (by decide +kernel) ⟨by decide, by decide⟩ ?_
      refine V_icmp_ne (tgt := 122) dX5_readSignal_102 (by decide) (fun c6 => ?_) (fun c6 => ?_)
      · refine V_aload_n (i := 0) dX5_readSignal_122 rfl rfl ?_
        refine V_getP dX5_readSignal_123 fX5_9 rfl s1 ?_
        refine V_getI dX5_readSignal_126 fX5_33 rfl s2 ?_
        refine V_bipush dX5_readSignal_129 (by decide +kernel) ⟨by decide, by decide⟩ ?_
        refine V_icmp_ne (tgt := 178) dX5_readSignal_131 (by decide) (fun c7 => ?_) (fun c7 => ?_)
        · refine V_iconst dX5_readSignal_178 ⟨by decide, by decide⟩ ?_
          exact V_retz rfl dX5_readSignal_179 (by decide) (q3 c1 c5 c6 c7)
        · refine V_aload_n (i := 0) dX5_readSignal_134 rfl rfl ?_
          refine V_getP dX5_readSignal_135 fX5_15 rfl s1 ?_
          refine V_getI dX5_readSignal_138 fX5_96 rfl s3 ?_
          refine V_iconst dX5_readSignal_141 ⟨by decide, by decide⟩ ?_
          refine V_icmp_ge (tgt := 178) dX5_readSignal_142 (by decide) (fun c8 => ?_) (fun c8 => ?_)
          · refine V_iconst dX5_readSignal_178 ⟨by decide, by decide⟩ ?_
            exact V_retz rfl dX5_readSignal_179 (by decide) (q4 c1 c5 c6 c7 c8)
          · refine V_aload_n (i := 0) dX5_readSignal_145 rfl rfl ?_
            refine V_getP dX5_readSignal_146 fX5_9 rfl s1 ?_
            exact V_callV (M := MX5_readSignal) (d := (d + 9)) (mc' := 0) (ms' := 0) (mc := 0) (ms := 0) (As := []) (rest := []) dX5_readSignal_149 tX7_toNext vX7_toNext lX5_59 s2 ⟨by decide, rfl⟩ rfl rfl (Nat.le_of_ble_eq_true rfl) (show d + 1 ≤ (d + 9) by omega) (e3 c1 c5 c6 c7 c8)
      · refine V_aload_n (i := 0) dX5_readSignal_105 rfl rfl ?_
        refine V_getP dX5_readSignal_106 fX5_9 rfl s1 ?_
        exact V_callV (M := MX5_readSignal) (d := (d + 9)) (mc' := 0) (ms' := 0) (mc := 0) (ms := 0) (As := []) (rest := []) dX5_readSignal_109 tX7_toNext vX7_toNext lX5_59 s2 ⟨by decide, rfl⟩ rfl rfl (Nat.le_of_ble_eq_true rfl) (show d + 1 ≤ (d + 9) by omega) (e4 c1 c5 c6)
    · refine V_aload_n (i := 0) dX5_readSignal_76 rfl rfl ?_
      refine V_getP dX5_readSignal_77 fX5_9 rfl s1 ?_
      exact V_callV (M := MX5_readSignal) (d := (d + 9)) (mc' := 0) (ms' := 0) (mc := 0) (ms := 0) (As := []) (rest := []) dX5_readSignal_80 tX7_toNext vX7_toNext lX5_59 s2 ⟨by decide, rfl⟩ rfl rfl (Nat.le_of_ble_eq_true rfl) (show d + 1 ≤ (d + 9) by omega) (e5 c1 c5)
theorem bX5_readSignal_152 {d : Nat} {Q : Option jA → jH → Prop} (a0 : Nat) (i1 : Int) (u2 : Option jA) (u3 : Option jA) (h : jH)
    (s1 : (jS h a0).1 = 5)
    (e1 : Ex MX2_beginCode d [.inr (jP h a0 1)] h 0 0 (fun v h2 => V MX5_readSignal (d + 9) 161 [some (.inr a0), some (.inl i1), some (.inl 2), u3] (v.toList ++ []) h2 0 0 Q))
    (s2 : (jS h (jP h a0 1)).1 = 2) :
    V MX5_readSignal (d + 9) 152 [some (.inr a0), some (.inl i1), u2, u3] [] h 0 0 Q := by
  refine V_iconst dX5_readSignal_152 ⟨by decide, by decide⟩ ?_
  refine V_istore_n (i := 2) dX5_readSignal_153 rfl (by decide) ?_
  refine V_aload_n (i := 0) dX5_readSignal_154 rfl rfl ?_
  refine V_getP dX5_readSignal_155 fX5_15 rfl s1 ?_
  exact V_callV (M := MX5_readSignal) (d := (d + 9)) (mc' := 0) (ms' := 0) (mc := 0) (ms := 0) (As := []) (rest := []) dX5_readSignal_158 tX2_beginCode vX2_beginCode lX5_99 s2 ⟨by decide, rfl⟩ rfl rfl (Nat.le_of_ble_eq_true rfl) (show d + 1 ≤ (d + 9) by omega) e1
theorem bX5_readSignal_112 {d : Nat} {Q : Option jA → jH → Prop} (a0 : Nat) (i1 : Int) (u2 : Option jA) (u3 : Option jA) (h : jH)
    (e1 : Ex MX5_readPath (d + 1) [.inr a0] h 0 0 (fun v h2 => V MX5_readSignal (d + 9) 118 [some (.inr a0), some (.inl i1), some (.inl 1), u3] (v.toList ++ []) h2 0 0 Q))
    (s1 : (jS h a0).1 = 5) :
    V MX5_readSignal (d + 9) 112 [some (.inr a0), some (.inl i1), u2, u3] [] h 0 0 Q := by
  refine V_iconst dX5_readSignal_112 ⟨by decide, by decide⟩ ?_
  refine V_istore_n (i := 2) dX5_readSignal_113 rfl (by decide) ?_
  refine V_aload_n (i := 0) dX5_readSignal_114 rfl rfl ?_
  exact V_callV (M := MX5_readSignal) (d := (d + 9)) (mc' := 0) (ms' := 0) (mc := 0) (ms := 0) (As := []) (rest := []) dX5_readSignal_115 tX5_readPath vX5_readPath lX5_93 s1 ⟨by decide, rfl⟩ rfl rfl (Nat.le_of_ble_eq_true rfl) (show (d + 1) + 1 ≤ (d + 9) by omega) e1
theorem bX5_readSignal_83 {d : Nat} {Q : Option jA → jH → Prop} (a0 : Nat) (i1 : Int) (u2 : Option jA) (u3 : Option jA) (h : jH)
    (e1 : Ex MX5_readWidth (d + 1) [.inr a0] h 0 0 (fun v h2 => V MX5_readSignal (d + 9) 89 [some (.inr a0), some (.inl i1), some (.inl 0), u3] (v.toList ++ []) h2 0 0 Q))
    (s1 : (jS h a0).1 = 5) :
    V MX5_readSignal (d + 9) 83 [some (.inr a0), some (.inl i1), u2, u3] [] h 0 0 Q := by
  refine V_iconst dX5_readSignal_83 ⟨by decide, by decide⟩ ?_
  refine V_istore_n (i := 2) dX5_readSignal_84 rfl (by decide) ?_
  refine V_aload_n (i := 0) dX5_readSignal_85 rfl rfl ?_
  exact V_callV (M := MX5_readSignal) (d := (d + 9)) (mc' := 0) (ms' := 0) (mc := 0) (ms := 0) (As := []) (rest := []) dX5_readSignal_86 tX5_readWidth vX5_readWidth lX5_90 s1 ⟨by decide, rfl⟩ rfl rfl (Nat.le_of_ble_eq_true rfl) (show (d + 1) + 1 ≤ (d + 9) by omega) e1
theorem bX5_readSignal_161 {d : Nat} {Q : Option jA → jH → Prop} (a0 : Nat) (i1 : Int) (i2 : Int) (u3 : Option jA) (dr : Nat) (h : jH)
    (hdr : dr + 1 ≤ (d + 9))
    (e1 : Ex MX5_readExpression dr [.inr a0] h 0 0 (fun v h2 => V MX5_readSignal (d + 9) 165 [some (.inr a0), some (.inl i1), some (.inl i2), u3] (v.toList ++ []) h2 0 0 Q))
    (s1 : (jS h a0).1 = 5) :
    V MX5_readSignal (d + 9) 161 [some (.inr a0), some (.inl i1), some (.inl i2), u3] [] h 0 0 Q := by
  refine V_aload_n (i := 0) dX5_readSignal_161 rfl rfl ?_
  exact V_callV (M := MX5_readSignal) (d := (d + 9)) (mc' := 0) (ms' := 0) (mc := 0) (ms := 0) (As := []) (rest := []) dX5_readSignal_162 tX5_readExpression vX5_readExpression lX5_102 s1 ⟨by decide, rfl⟩ rfl rfl (Nat.le_of_ble_eq_true rfl) hdr e1
theorem bX5_readSignal_118 {d : Nat} {Q : Option jA → jH → Prop} (a0 : Nat) (i1 : Int) (i2 : Int) (u3 : Option jA) (p0 : Int) (h : jH)
    (s1 : (jS h a0).1 = 5)
    (e1 : (p0 ≠ ((-9))) → Ex MX2_addSignal d [.inr (jP h a0 1), .inl i2, .inl (jI h a0 2), .inl i1, .inl p0] h 0 0 (fun v h2 => V MX5_readSignal (d + 9) 202 [some (.inr a0), some (.inl i1), some (.inl i2), some (.inl p0)] (v.toList ++ []) h2 0 0 Q))
    (s2 : (jS h (jP h a0 1)).1 = 2)
    (q1 : (p0 = ((-9))) → Q (some (.inl 0)) h) :
    V MX5_readSignal (d + 9) 118 [some (.inr a0), some (.inl i1), some (.inl i2), u3] [.inl p0] h 0 0 Q := by
  refine V_istore_n (i := 3) dX5_readSignal_118 rfl (by decide) ?_
  refine V_goto (tgt := 180) dX5_readSignal_119 (by decide) ?_
  refine V_iload_n (i := 3) dX5_readSignal_180 rfl rfl ?_
  refine V_bipush dX5_readSignal_181 (by decide +kernel) ⟨by decide, by decide⟩ ?_
  refine V_icmp_ne (tgt := 188) dX5_readSignal_183 (by decide) (fun c1 => ?_) (fun c1 => ?_)
  · refine V_aload_n (i := 0) dX5_readSignal_188 rfl rfl ?_
    refine V_getP dX5_readSignal_189 fX5_15 rfl s1 ?_
    refine V_iload_n (i := 2) dX5_readSignal_192 rfl rfl ?_
    refine V_aload_n (i := 0) dX5_readSignal_193 rfl rfl ?_
    refine V_getI dX5_readSignal_194 fX5_24 rfl s1 ?_
    refine V_iload_n (i := 1) dX5_readSignal_197 rfl rfl ?_
    refine V_iload_n (i := 3) dX5_readSignal_198 rfl rfl ?_
    exact V_callV (M := MX5_readSignal) (d := (d + 9)) (mc' := 0) (ms' := 0) (mc := 0) (ms := 0) (As := [.inl i2, .inl (jI h a0 2), .inl i1, .inl p0]) (rest := []) dX5_readSignal_199 tX2_addSignal vX2_addSignal lX5_105 s2 ⟨by decide, rfl⟩ rfl rfl (Nat.le_of_ble_eq_true rfl) (show d + 1 ≤ (d + 9) by omega) (e1 c1)
  · refine V_iconst dX5_readSignal_186 ⟨by decide, by decide⟩ ?_
    exact V_retz rfl dX5_readSignal_187 (by decide) (q1 c1)
theorem bX5_readSignal_89 {d : Nat} {Q : Option jA → jH → Prop} (a0 : Nat) (i1 : Int) (i2 : Int) (u3 : Option jA) (p0 : Int) (h : jH)
    (s1 : (jS h a0).1 = 5)
    (e1 : (p0 ≠ ((-9))) → Ex MX2_addSignal d [.inr (jP h a0 1), .inl i2, .inl (jI h a0 2), .inl i1, .inl p0] h 0 0 (fun v h2 => V MX5_readSignal (d + 9) 202 [some (.inr a0), some (.inl i1), some (.inl i2), some (.inl p0)] (v.toList ++ []) h2 0 0 Q))
    (s2 : (jS h (jP h a0 1)).1 = 2)
    (q1 : (p0 = ((-9))) → Q (some (.inl 0)) h) :
    V MX5_readSignal (d + 9) 89 [some (.inr a0), some (.inl i1), some (.inl i2), u3] [.inl p0] h 0 0 Q := by
  refine V_istore_n (i := 3) dX5_readSignal_89 rfl (by decide) ?_
  refine V_goto (tgt := 180) dX5_readSignal_90 (by decide) ?_
  refine V_iload_n (i := 3) dX5_readSignal_180 rfl rfl ?_
  refine V_bipush dX5_readSignal_181 (by decide +kernel) ⟨by decide, by decide⟩ ?_
  refine V_icmp_ne (tgt := 188) dX5_readSignal_183 (by decide) (fun c1 => ?_) (fun c1 => ?_)
  · refine V_aload_n (i := 0) dX5_readSignal_188 rfl rfl ?_
    refine V_getP dX5_readSignal_189 fX5_15 rfl s1 ?_
    refine V_iload_n (i := 2) dX5_readSignal_192 rfl rfl ?_
    refine V_aload_n (i := 0) dX5_readSignal_193 rfl rfl ?_
    refine V_getI dX5_readSignal_194 fX5_24 rfl s1 ?_
    refine V_iload_n (i := 1) dX5_readSignal_197 rfl rfl ?_
    refine V_iload_n (i := 3) dX5_readSignal_198 rfl rfl ?_
    exact V_callV (M := MX5_readSignal) (d := (d + 9)) (mc' := 0) (ms' := 0) (mc := 0) (ms := 0) (As := [.inl i2, .inl (jI h a0 2), .inl i1, .inl p0]) (rest := []) dX5_readSignal_199 tX2_addSignal vX2_addSignal lX5_105 s2 ⟨by decide, rfl⟩ rfl rfl (Nat.le_of_ble_eq_true rfl) (show d + 1 ≤ (d + 9) by omega) (e1 c1)
  · refine V_iconst dX5_readSignal_186 ⟨by decide, by decide⟩ ?_
    exact V_retz rfl dX5_readSignal_187 (by decide) (q1 c1)
theorem bX5_readSignal_165 {d : Nat} {Q : Option jA → jH → Prop} (a0 : Nat) (i1 : Int) (i2 : Int) (u3 : Option jA) (p0 : Int) (h : jH)
    (s1 : (jS h a0).1 = 5)
    (e1 : (p0 = 0) → (((-9)) ≠ ((-9))) → Ex MX2_addSignal d [.inr (jP h a0 1), .inl i2, .inl (jI h a0 2), .inl i1, .inl ((-9))] h 0 0 (fun v h2 => V MX5_readSignal (d + 9) 202 [some (.inr a0), some (.inl i1), some (.inl i2), some (.inl ((-9)))] (v.toList ++ []) h2 0 0 Q))
    (s2 : (jS h (jP h a0 1)).1 = 2)
    (q1 : (p0 = 0) → (((-9)) = ((-9))) → Q (some (.inl 0)) h)
    (e2 : (¬ (p0 = 0)) → Ex MX2_addSignal d [.inr (jP h a0 1), .inl i2, .inl (jI h a0 2), .inl i1, .inl 0] h 0 0 (fun v h2 => V MX5_readSignal (d + 9) 202 [some (.inr a0), some (.inl i1), some (.inl i2), some (.inl 0)] (v.toList ++ []) h2 0 0 Q)) :
    V MX5_readSignal (d + 9) 165 [some (.inr a0), some (.inl i1), some (.inl i2), u3] [.inl p0] h 0 0 Q := by
  refine V_if_eq (tgt := 172) dX5_readSignal_165 (by decide) (fun c1 => ?_) (fun c1 => ?_)
  · refine V_bipush dX5_readSignal_172 (by decide +kernel) ⟨by decide, by decide⟩ ?_
    refine V_istore_n (i := 3) dX5_readSignal_174 rfl (by decide) ?_
    refine V_goto (tgt := 180) dX5_readSignal_175 (by decide) ?_
    refine V_iload_n (i := 3) dX5_readSignal_180 rfl rfl ?_
    refine V_bipush dX5_readSignal_181 (by decide +kernel) ⟨by decide, by decide⟩ ?_
    refine V_icmp_ne (tgt := 188) dX5_readSignal_183 (by decide) (fun c2 => ?_) (fun c2 => ?_)
    · refine V_aload_n (i := 0) dX5_readSignal_188 rfl rfl ?_
      refine V_getP dX5_readSignal_189 fX5_15 rfl s1 ?_
      refine V_iload_n (i := 2) dX5_readSignal_192 rfl rfl ?_
      refine V_aload_n (i := 0) dX5_readSignal_193 rfl rfl ?_
      refine V_getI dX5_readSignal_194 fX5_24 rfl s1 ?_
      refine V_iload_n (i := 1) dX5_readSignal_197 rfl rfl ?_
      refine V_iload_n (i := 3) dX5_readSignal_198 rfl rfl ?_
      exact V_callV (M := MX5_readSignal) (d := (d + 9)) (mc' := 0) (ms' := 0) (mc := 0) (ms := 0) (As := [.inl i2, .inl (jI h a0 2), .inl i1, .inl ((-9))]) (rest := []) dX5_readSignal_199 tX2_addSignal vX2_addSignal lX5_105 s2 ⟨by decide, rfl⟩ rfl rfl (Nat.le_of_ble_eq_true rfl) (show d + 1 ≤ (d + 9) by omega) (e1 c1 c2)
    · refine V_iconst dX5_readSignal_186 ⟨by decide, by decide⟩ ?_
      exact V_retz rfl dX5_readSignal_187 (by decide) (q1 c1 c2)
  · refine V_iconst dX5_readSignal_168 ⟨by decide, by decide⟩ ?_
    refine V_goto (tgt := 174) dX5_readSignal_169 (by decide) ?_
    refine V_istore_n (i := 3) dX5_readSignal_174 rfl (by decide) ?_
    refine V_goto (tgt := 180) dX5_readSignal_175 (by decide) ?_
    refine V_iload_n (i := 3) dX5_readSignal_180 rfl rfl ?_
    refine V_bipush dX5_readSignal_181 (by decide +kernel) ⟨by decide, by decide⟩ ?_
    refine V_icmp_ne (tgt := 188) dX5_readSignal_183 (by decide) (fun c3 => ?_) (fun c3 => ?_)
    · refine V_aload_n (i := 0) dX5_readSignal_188 rfl rfl ?_
      refine V_getP dX5_readSignal_189 fX5_15 rfl s1 ?_
      refine V_iload_n (i := 2) dX5_readSignal_192 rfl rfl ?_
      refine V_aload_n (i := 0) dX5_readSignal_193 rfl rfl ?_
      refine V_getI dX5_readSignal_194 fX5_24 rfl s1 ?_
      refine V_iload_n (i := 1) dX5_readSignal_197 rfl rfl ?_
      refine V_iload_n (i := 3) dX5_readSignal_198 rfl rfl ?_
      exact V_callV (M := MX5_readSignal) (d := (d + 9)) (mc' := 0) (ms' := 0) (mc := 0) (ms := 0) (As := [.inl i2, .inl (jI h a0 2), .inl i1, .inl 0]) (rest := []) dX5_readSignal_199 tX2_addSignal vX2_addSignal lX5_105 s2 ⟨by decide, rfl⟩ rfl rfl (Nat.le_of_ble_eq_true rfl) (show d + 1 ≤ (d + 9) by omega) (e2 c1)
    · exact absurd c3 (by decide)
theorem bX5_readSignal_202 {d : Nat} {Q : Option jA → jH → Prop} (a0 : Nat) (i1 : Int) (i2 : Int) (i3 : Int) (h : jH)
    (q1 : Q (some (.inl 1)) h) :
    V MX5_readSignal (d + 9) 202 [some (.inr a0), some (.inl i1), some (.inl i2), some (.inl i3)] [] h 0 0 Q := by
  refine V_iconst dX5_readSignal_202 ⟨by decide, by decide⟩ ?_
  exact V_retz rfl dX5_readSignal_203 (by decide) q1
theorem dX5_readWidth_0 : decode cX5_readWidth 0 = .ok (.aload_n 0, 1) := by decide +kernel
theorem dX5_readWidth_1 : decode cX5_readWidth 1 = .ok (.getfield 9, 3) := by decide +kernel
theorem dX5_readWidth_4 : decode cX5_readWidth 4 = .ok (.invokevirtual 109, 3) := by decide +kernel
theorem dX5_readWidth_7 : decode cX5_readWidth 7 = .ok (.istore_n 1, 1) := by decide +kernel
theorem dX5_readWidth_8 : decode cX5_readWidth 8 = .ok (.iload_n 1, 1) := by decide +kernel
theorem dX5_readWidth_9 : decode cX5_readWidth 9 = .ok (.iconst 1, 1) := by decide +kernel
theorem dX5_readWidth_10 : decode cX5_readWidth 10 = .ok (.if_icmp .lt 9, 3) := by decide +kernel
theorem dX5_readWidth_13 : decode cX5_readWidth 13 = .ok (.iload_n 1, 1) := by decide +kernel
theorem dX5_readWidth_14 : decode cX5_readWidth 14 = .ok (.bipush 8, 2) := by decide +kernel
theorem dX5_readWidth_16 : decode cX5_readWidth 16 = .ok (.if_icmp .le 6, 3) := by decide +kernel
theorem dX5_readWidth_19 : decode cX5_readWidth 19 = .ok (.bipush (-9), 2) := by decide +kernel
theorem dX5_readWidth_21 : decode cX5_readWidth 21 = .ok (.ireturn, 1) := by decide +kernel
theorem dX5_readWidth_22 : decode cX5_readWidth 22 = .ok (.aload_n 0, 1) := by decide +kernel
theorem dX5_readWidth_23 : decode cX5_readWidth 23 = .ok (.getfield 9, 3) := by decide +kernel
theorem dX5_readWidth_26 : decode cX5_readWidth 26 = .ok (.invokevirtual 59, 3) := by decide +kernel
theorem dX5_readWidth_29 : decode cX5_readWidth 29 = .ok (.iload_n 1, 1) := by decide +kernel
theorem dX5_readWidth_30 : decode cX5_readWidth 30 = .ok (.ireturn, 1) := by decide +kernel
theorem bX5_readWidth_0 {d : Nat} {Q : Option jA → jH → Prop} (a0 : Nat) (u1 : Option jA) (h : jH)
    (s1 : (jS h a0).1 = 5)
    (e1 : Ex MX7_number d [.inr (jP h a0 0)] h 0 0 (fun v h2 => V MX5_readWidth (d + 1) 7 [some (.inr a0), u1] (v.toList ++ []) h2 0 0 Q))
    (s2 : (jS h (jP h a0 0)).1 = 7) :
    V MX5_readWidth (d + 1) 0 [some (.inr a0), u1] [] h 0 0 Q := by
  refine V_aload_n (i := 0) dX5_readWidth_0 rfl rfl ?_
  refine V_getP dX5_readWidth_1 fX5_9 rfl s1 ?_
  exact V_callV (M := MX5_readWidth) (d := (d + 1)) (mc' := 0) (ms' := 0) (mc := 0) (ms := 0) (As := []) (rest := []) dX5_readWidth_4 tX7_number vX7_number lX5_109 s2 ⟨by decide, rfl⟩ rfl rfl (Nat.le_of_ble_eq_true rfl) (show d + 1 ≤ (d + 1) by omega) e1
theorem bX5_readWidth_7 {d : Nat} {Q : Option jA → jH → Prop} (a0 : Nat) (u1 : Option jA) (p0 : Int) (h : jH)
    (q1 : (p0 < 1) → Q (some (.inl ((-9)))) h)
    (s1 : (jS h a0).1 = 5)
    (e1 : (¬ (p0 < 1)) → (p0 ≤ 8) → Ex MX7_toNext d [.inr (jP h a0 0)] h 0 0 (fun v h2 => V MX5_readWidth (d + 1) 29 [some (.inr a0), some (.inl p0)] (v.toList ++ []) h2 0 0 Q))
    (s2 : (jS h (jP h a0 0)).1 = 7)
    (q2 : (¬ (p0 < 1)) → (¬ (p0 ≤ 8)) → Q (some (.inl ((-9)))) h) :
    V MX5_readWidth (d + 1) 7 [some (.inr a0), u1] [.inl p0] h 0 0 Q := by
  refine V_istore_n (i := 1) dX5_readWidth_7 rfl (by decide) ?_
  refine V_iload_n (i := 1) dX5_readWidth_8 rfl rfl ?_
  refine V_iconst dX5_readWidth_9 ⟨by decide, by decide⟩ ?_
  refine V_icmp_lt (tgt := 19) dX5_readWidth_10 (by decide) (fun c1 => ?_) (fun c1 => ?_)
  · refine V_bipush dX5_readWidth_19 (by decide +kernel) ⟨by decide, by decide⟩ ?_
    exact V_reti rfl dX5_readWidth_21 (q1 c1)
  · refine V_iload_n (i := 1) dX5_readWidth_13 rfl rfl ?_
    refine V_bipush dX5_readWidth_14 (by decide +kernel) ⟨by decide, by decide⟩ ?_
    refine V_icmp_le (tgt := 22) dX5_readWidth_16 (by decide) (fun c2 => ?_) (fun c2 => ?_)
    · refine V_aload_n (i := 0) dX5_readWidth_22 rfl rfl ?_
      refine V_getP dX5_readWidth_23 fX5_9 rfl s1 ?_
      exact V_callV (M := MX5_readWidth) (d := (d + 1)) (mc' := 0) (ms' := 0) (mc := 0) (ms := 0) (As := []) (rest := []) dX5_readWidth_26 tX7_toNext vX7_toNext lX5_59 s2 ⟨by decide, rfl⟩ rfl rfl (Nat.le_of_ble_eq_true rfl) (show d + 1 ≤ (d + 1) by omega) (e1 c1 c2)
    · refine V_bipush dX5_readWidth_19 (by decide +kernel) ⟨by decide, by decide⟩ ?_
      exact V_reti rfl dX5_readWidth_21 (q2 c1 c2)
theorem bX5_readWidth_29 {d : Nat} {Q : Option jA → jH → Prop} (a0 : Nat) (i1 : Int) (h : jH)
    (q1 : Q (some (.inl i1)) h) :
    V MX5_readWidth (d + 1) 29 [some (.inr a0), some (.inl i1)] [] h 0 0 Q := by
  refine V_iload_n (i := 1) dX5_readWidth_29 rfl rfl ?_
  exact V_reti rfl dX5_readWidth_30 q1
theorem dX5_readExpression_0 : decode cX5_readExpression 0 = .ok (.aload_n 0, 1) := by decide +kernel
theorem dX5_readExpression_1 : decode cX5_readExpression 1 = .ok (.invokevirtual 112, 3) := by decide +kernel
theorem dX5_readExpression_4 : decode cX5_readExpression 4 = .ok (.ifCond .ne 5, 3) := by decide +kernel
theorem dX5_readExpression_7 : decode cX5_readExpression 7 = .ok (.iconst 0, 1) := by decide +kernel
theorem dX5_readExpression_8 : decode cX5_readExpression 8 = .ok (.ireturn, 1) := by decide +kernel
theorem dX5_readExpression_9 : decode cX5_readExpression 9 = .ok (.iconst 0, 1) := by decide +kernel
theorem dX5_readExpression_10 : decode cX5_readExpression 10 = .ok (.istore_n 1, 1) := by decide +kernel
theorem dX5_readExpression_11 : decode cX5_readExpression 11 = .ok (.iload_n 1, 1) := by decide +kernel
theorem dX5_readExpression_12 : decode cX5_readExpression 12 = .ok (.sipush 160, 3) := by decide +kernel
theorem dX5_readExpression_15 : decode cX5_readExpression 15 = .ok (.if_icmp .ge 55, 3) := by decide +kernel
theorem dX5_readExpression_18 : decode cX5_readExpression 18 = .ok (.aload_n 0, 1) := by decide +kernel
theorem dX5_readExpression_19 : decode cX5_readExpression 19 = .ok (.getfield 9, 3) := by decide +kernel
theorem dX5_readExpression_22 : decode cX5_readExpression 22 = .ok (.getfield 33, 3) := by decide +kernel
theorem dX5_readExpression_25 : decode cX5_readExpression 25 = .ok (.invokestatic 115, 3) := by decide +kernel
theorem dX5_readExpression_28 : decode cX5_readExpression 28 = .ok (.ifCond .eq 42, 3) := by decide +kernel
theorem dX5_readExpression_31 : decode cX5_readExpression 31 = .ok (.aload_n 0, 1) := by decide +kernel
theorem dX5_readExpression_32 : decode cX5_readExpression 32 = .ok (.getfield 9, 3) := by decide +kernel
theorem dX5_readExpression_35 : decode cX5_readExpression 35 = .ok (.getfield 33, 3) := by decide +kernel
theorem dX5_readExpression_38 : decode cX5_readExpression 38 = .ok (.istore_n 2, 1) := by decide +kernel
theorem dX5_readExpression_39 : decode cX5_readExpression 39 = .ok (.aload_n 0, 1) := by decide +kernel
theorem dX5_readExpression_40 : decode cX5_readExpression 40 = .ok (.getfield 9, 3) := by decide +kernel
theorem dX5_readExpression_43 : decode cX5_readExpression 43 = .ok (.invokevirtual 59, 3) := by decide +kernel
theorem dX5_readExpression_46 : decode cX5_readExpression 46 = .ok (.aload_n 0, 1) := by decide +kernel
theorem dX5_readExpression_47 : decode cX5_readExpression 47 = .ok (.invokevirtual 112, 3) := by decide +kernel
theorem dX5_readExpression_50 : decode cX5_readExpression 50 = .ok (.ifCond .ne 5, 3) := by decide +kernel
theorem dX5_readExpression_53 : decode cX5_readExpression 53 = .ok (.iconst 0, 1) := by decide +kernel
theorem dX5_readExpression_54 : decode cX5_readExpression 54 = .ok (.ireturn, 1) := by decide +kernel
theorem dX5_readExpression_55 : decode cX5_readExpression 55 = .ok (.aload_n 0, 1) := by decide +kernel
theorem dX5_readExpression_56 : decode cX5_readExpression 56 = .ok (.getfield 15, 3) := by decide +kernel
theorem dX5_readExpression_59 : decode cX5_readExpression 59 = .ok (.iload_n 2, 1) := by decide +kernel
theorem dX5_readExpression_60 : decode cX5_readExpression 60 = .ok (.ineg, 1) := by decide +kernel
theorem dX5_readExpression_61 : decode cX5_readExpression 61 = .ok (.invokevirtual 118, 3) := by decide +kernel
theorem dX5_readExpression_64 : decode cX5_readExpression 64 = .ok (.iinc 1 1, 3) := by decide +kernel
theorem dX5_readExpression_67 : decode cX5_readExpression 67 = .ok (.goto (-56), 3) := by decide +kernel
theorem dX5_readExpression_70 : decode cX5_readExpression 70 = .ok (.iconst 1, 1) := by decide +kernel
theorem dX5_readExpression_71 : decode cX5_readExpression 71 = .ok (.ireturn, 1) := by decide +kernel
theorem bX5_readExpression_0 {d : Nat} {Q : Option jA → jH → Prop} (a0 : Nat) (u1 : Option jA) (u2 : Option jA) (dr : Nat) (h : jH)
    (hdr : dr + 1 ≤ (d + 8))
    (e1 : Ex MX5_readTerm dr [.inr a0] h 0 0 (fun v h2 => V MX5_readExpression (d + 8) 4 [some (.inr a0), u1, u2] (v.toList ++ []) h2 0 0 Q))
    (s1 : (jS h a0).1 = 5) :
    V MX5_readExpression (d + 8) 0 [some (.inr a0), u1, u2] [] h 0 0 Q := by
  refine V_aload_n (i := 0) dX5_readExpression_0 rfl rfl ?_
  exact V_callV (M := MX5_readExpression) (d := (d + 8)) (mc' := 0) (ms' := 0) (mc := 0) (ms := 0) (As := []) (rest := []) dX5_readExpression_1 tX5_readTerm vX5_readTerm lX5_112 s1 ⟨by decide, rfl⟩ rfl rfl (Nat.le_of_ble_eq_true rfl) hdr e1
theorem bX5_readExpression_11 {d : Nat} {Q : Option jA → jH → Prop} (a0 : Nat) (i1 : Int) (u2 : Option jA) (h : jH)
    (q1 : (160 ≤ i1) → Q (some (.inl 1)) h)
    (s1 : (jS h a0).1 = 5)
    (s2 : (jS h (jP h a0 0)).1 = 7)
    (q2 : (¬ (160 ≤ i1)) → (¬ ((jI h (jP h a0 0) 4) = 38 ∨ (jI h (jP h a0 0) 4) = 124 ∨ (jI h (jP h a0 0) 4) = 94 ∨ (jI h (jP h a0 0) 4) = 43 ∨ (jI h (jP h a0 0) 4) = 45)) → Q (some (.inl 1)) h)
    (e1 : (¬ (160 ≤ i1)) → ((jI h (jP h a0 0) 4) = 38 ∨ (jI h (jP h a0 0) 4) = 124 ∨ (jI h (jP h a0 0) 4) = 94 ∨ (jI h (jP h a0 0) 4) = 43 ∨ (jI h (jP h a0 0) 4) = 45) → Ex MX7_toNext d [.inr (jP h a0 0)] h 0 0 (fun v h2 => V MX5_readExpression (d + 8) 46 [some (.inr a0), some (.inl i1), some (.inl (jI h (jP h a0 0) 4))] (v.toList ++ []) h2 0 0 Q)) :
    V MX5_readExpression (d + 8) 11 [some (.inr a0), some (.inl i1), u2] [] h 0 0 Q := by
  refine V_iload_n (i := 1) dX5_readExpression_11 rfl rfl ?_
  refine V_sipush dX5_readExpression_12 (by decide +kernel) ⟨by decide, by decide⟩ ?_
  refine V_icmp_ge (tgt := 70) dX5_readExpression_15 (by decide) (fun c1 => ?_) (fun c1 => ?_)
  · refine V_iconst dX5_readExpression_70 ⟨by decide, by decide⟩ ?_
    exact V_retz rfl dX5_readExpression_71 (by decide) (q1 c1)
  · refine V_aload_n (i := 0) dX5_readExpression_18 rfl rfl ?_
    refine V_getP dX5_readExpression_19 fX5_9 rfl s1 ?_
    refine V_getI dX5_readExpression_22 fX5_33 rfl s2 ?_
    refine V_callS (M := MX5_readExpression) (d := (d + 8)) (mc' := 0) (ms' := 0) (mc := 0) (ms := 0) (a := 0) (As := [.inl (jI h (jP h a0 0) 4)]) (rest := []) dX5_readExpression_25 tX5_isOperator sX5_isOperator lX5_115 rfl rfl (Nat.le_of_ble_eq_true rfl) (show d + 1 ≤ (d + 8) by omega) (Ex.mono (pX5_isOperator (d := d) ) ?_)
    intro v h2 hq
    rw [hq.1, hq.2]
    show V MX5_readExpression (d + 8) 28 [some (.inr a0), some (.inl i1), u2] [.inl (jb ((jI h (jP h a0 0) 4) = 38 ∨ (jI h (jP h a0 0) 4) = 124 ∨ (jI h (jP h a0 0) 4) = 94 ∨ (jI h (jP h a0 0) 4) = 43 ∨ (jI h (jP h a0 0) 4) = 45))] h 0 0 Q
    refine V_ifb_eq (tgt := 70) dX5_readExpression_28 (by decide) (fun c2 => ?_) (fun c2 => ?_)
    · refine V_iconst dX5_readExpression_70 ⟨by decide, by decide⟩ ?_
      exact V_retz rfl dX5_readExpression_71 (by decide) (q2 c1 c2)
    · refine V_aload_n (i := 0) dX5_readExpression_31 rfl rfl ?_
      refine V_getP dX5_readExpression_32 fX5_9 rfl s1 ?_
      refine V_getI dX5_readExpression_35 fX5_33 rfl s2 ?_
      refine V_istore_n (i := 2) dX5_readExpression_38 rfl (by decide) ?_
      refine V_aload_n (i := 0) dX5_readExpression_39 rfl rfl ?_
      refine V_getP dX5_readExpression_40 fX5_9 rfl s1 ?_
      exact V_callV (M := MX5_readExpression) (d := (d + 8)) (mc' := 0) (ms' := 0) (mc := 0) (ms := 0) (As := []) (rest := []) dX5_readExpression_43 tX7_toNext vX7_toNext lX5_59 s2 ⟨by decide, rfl⟩ rfl rfl (Nat.le_of_ble_eq_true rfl) (show d + 1 ≤ (d + 8) by omega) (e1 c1 c2)
theorem bX5_readExpression_4 {d : Nat} {Q : Option jA → jH → Prop} (a0 : Nat) (u1 : Option jA) (u2 : Option jA) (p0 : Int) (h : jH)
    (k1 : (p0 ≠ 0) → V MX5_readExpression (d + 8) 11 [some (.inr a0), some (.inl 0), u2] [] h 0 0 Q)
    (q1 : (p0 = 0) → Q (some (.inl 0)) h) :
    V MX5_readExpression (d + 8) 4 [some (.inr a0), u1, u2] [.inl p0] h 0 0 Q := by
  refine V_if_ne (tgt := 9) dX5_readExpression_4 (by decide) (fun c1 => ?_) (fun c1 => ?_)
  · refine V_iconst dX5_readExpression_9 ⟨by decide, by decide⟩ ?_
    refine V_istore_n (i := 1) dX5_readExpression_10 rfl (by decide) ?_
    exact (k1 c1)
  · refine V_iconst dX5_readExpression_7 ⟨by decide, by decide⟩ ?_
    exact V_retz rfl dX5_readExpression_8 (by decide) (q1 c1)
theorem bX5_readExpression_46 {d : Nat} {Q : Option jA → jH → Prop} (a0 : Nat) (i1 : Int) (i2 : Int) (dr : Nat) (h : jH)
    (hdr : dr + 1 ≤ (d + 8))
    (e1 : Ex MX5_readTerm dr [.inr a0] h 0 0 (fun v h2 => V MX5_readExpression (d + 8) 50 [some (.inr a0), some (.inl i1), some (.inl i2)] (v.toList ++ []) h2 0 0 Q))
    (s1 : (jS h a0).1 = 5) :
    V MX5_readExpression (d + 8) 46 [some (.inr a0), some (.inl i1), some (.inl i2)] [] h 0 0 Q := by
  refine V_aload_n (i := 0) dX5_readExpression_46 rfl rfl ?_
  exact V_callV (M := MX5_readExpression) (d := (d + 8)) (mc' := 0) (ms' := 0) (mc := 0) (ms := 0) (As := []) (rest := []) dX5_readExpression_47 tX5_readTerm vX5_readTerm lX5_112 s1 ⟨by decide, rfl⟩ rfl rfl (Nat.le_of_ble_eq_true rfl) hdr e1
theorem bX5_readExpression_50 {d : Nat} {Q : Option jA → jH → Prop} (a0 : Nat) (i1 : Int) (i2 : Int) (p0 : Int) (h : jH)
    (s1 : (jS h a0).1 = 5)
    (r1 : (p0 ≠ 0) → jR (-i2))
    (e1 : (p0 ≠ 0) → Ex MX2_addCode d [.inr (jP h a0 1), .inl (-i2)] h 0 0 (fun v h2 => V MX5_readExpression (d + 8) 64 [some (.inr a0), some (.inl i1), some (.inl i2)] (v.toList ++ []) h2 0 0 Q))
    (s2 : (jS h (jP h a0 1)).1 = 2)
    (q1 : (p0 = 0) → Q (some (.inl 0)) h) :
    V MX5_readExpression (d + 8) 50 [some (.inr a0), some (.inl i1), some (.inl i2)] [.inl p0] h 0 0 Q := by
  refine V_if_ne (tgt := 55) dX5_readExpression_50 (by decide) (fun c1 => ?_) (fun c1 => ?_)
  · refine V_aload_n (i := 0) dX5_readExpression_55 rfl rfl ?_
    refine V_getP dX5_readExpression_56 fX5_15 rfl s1 ?_
    refine V_iload_n (i := 2) dX5_readExpression_59 rfl rfl ?_
    refine V_ineg dX5_readExpression_60 (r1 c1) ?_
    exact V_callV (M := MX5_readExpression) (d := (d + 8)) (mc' := 0) (ms' := 0) (mc := 0) (ms := 0) (As := [.inl (-i2)]) (rest := []) dX5_readExpression_61 tX2_addCode vX2_addCode lX5_118 s2 ⟨by decide, rfl⟩ rfl rfl (Nat.le_of_ble_eq_true rfl) (show d + 1 ≤ (d + 8) by omega) (e1 c1)
  · refine V_iconst dX5_readExpression_53 ⟨by decide, by decide⟩ ?_
    exact V_retz rfl dX5_readExpression_54 (by decide) (q1 c1)
theorem bX5_readExpression_64 {d : Nat} {Q : Option jA → jH → Prop} (a0 : Nat) (i1 : Int) (i2 : Int) (h : jH)
    (r1 : jR (i1 + 1))
    (k1 : V MX5_readExpression (d + 8) 11 [some (.inr a0), some (.inl (i1 + 1)), some (.inl i2)] [] h 0 0 Q) :
    V MX5_readExpression (d + 8) 64 [some (.inr a0), some (.inl i1), some (.inl i2)] [] h 0 0 Q := by
  refine V_iinc (i := 1) dX5_readExpression_64 rfl (by decide) r1 ?_
  refine V_goto (tgt := 11) dX5_readExpression_67 (by decide) ?_
  exact k1
theorem dX5_readTerm_0 : decode cX5_readTerm 0 = .ok (.aload_n 0, 1) := by decide +kernel
theorem dX5_readTerm_1 : decode cX5_readTerm 1 = .ok (.getfield 9, 3) := by decide +kernel
theorem dX5_readTerm_4 : decode cX5_readTerm 4 = .ok (.getfield 33, 3) := by decide +kernel
theorem dX5_readTerm_7 : decode cX5_readTerm 7 = .ok (.istore_n 1, 1) := by decide +kernel
theorem dX5_readTerm_8 : decode cX5_readTerm 8 = .ok (.iload_n 1, 1) := by decide +kernel
theorem dX5_readTerm_9 : decode cX5_readTerm 9 = .ok (.bipush 33, 2) := by decide +kernel
theorem dX5_readTerm_11 : decode cX5_readTerm 11 = .ok (.if_icmp .eq 9, 3) := by decide +kernel
theorem dX5_readTerm_14 : decode cX5_readTerm 14 = .ok (.iload_n 1, 1) := by decide +kernel
theorem dX5_readTerm_15 : decode cX5_readTerm 15 = .ok (.bipush 40, 2) := by decide +kernel
theorem dX5_readTerm_17 : decode cX5_readTerm 17 = .ok (.if_icmp .ne 79, 3) := by decide +kernel
theorem dX5_readTerm_20 : decode cX5_readTerm 20 = .ok (.aload_n 0, 1) := by decide +kernel
theorem dX5_readTerm_21 : decode cX5_readTerm 21 = .ok (.getfield 43, 3) := by decide +kernel
theorem dX5_readTerm_24 : decode cX5_readTerm 24 = .ok (.bipush 6, 2) := by decide +kernel
theorem dX5_readTerm_26 : decode cX5_readTerm 26 = .ok (.if_icmp .lt 5, 3) := by decide +kernel
theorem dX5_readTerm_29 : decode cX5_readTerm 29 = .ok (.iconst 0, 1) := by decide +kernel
theorem dX5_readTerm_30 : decode cX5_readTerm 30 = .ok (.ireturn, 1) := by decide +kernel
theorem dX5_readTerm_31 : decode cX5_readTerm 31 = .ok (.aload_n 0, 1) := by decide +kernel
theorem dX5_readTerm_32 : decode cX5_readTerm 32 = .ok (.dup, 1) := by decide +kernel
theorem dX5_readTerm_33 : decode cX5_readTerm 33 = .ok (.getfield 43, 3) := by decide +kernel
theorem dX5_readTerm_36 : decode cX5_readTerm 36 = .ok (.iconst 1, 1) := by decide +kernel
theorem dX5_readTerm_37 : decode cX5_readTerm 37 = .ok (.iadd, 1) := by decide +kernel
theorem dX5_readTerm_38 : decode cX5_readTerm 38 = .ok (.putfield 43, 3) := by decide +kernel
theorem dX5_readTerm_41 : decode cX5_readTerm 41 = .ok (.aload_n 0, 1) := by decide +kernel
theorem dX5_readTerm_42 : decode cX5_readTerm 42 = .ok (.getfield 9, 3) := by decide +kernel
theorem dX5_readTerm_45 : decode cX5_readTerm 45 = .ok (.invokevirtual 59, 3) := by decide +kernel
theorem dX5_readTerm_48 : decode cX5_readTerm 48 = .ok (.iload_n 1, 1) := by decide +kernel
theorem dX5_readTerm_49 : decode cX5_readTerm 49 = .ok (.bipush 40, 2) := by decide +kernel
theorem dX5_readTerm_51 : decode cX5_readTerm 51 = .ok (.if_icmp .ne 25, 3) := by decide +kernel
theorem dX5_readTerm_54 : decode cX5_readTerm 54 = .ok (.aload_n 0, 1) := by decide +kernel
theorem dX5_readTerm_55 : decode cX5_readTerm 55 = .ok (.invokevirtual 102, 3) := by decide +kernel
theorem dX5_readTerm_58 : decode cX5_readTerm 58 = .ok (.ifCond .eq 16, 3) := by decide +kernel
theorem dX5_readTerm_61 : decode cX5_readTerm 61 = .ok (.aload_n 0, 1) := by decide +kernel
theorem dX5_readTerm_62 : decode cX5_readTerm 62 = .ok (.bipush 41, 2) := by decide +kernel
theorem dX5_readTerm_64 : decode cX5_readTerm 64 = .ok (.invokevirtual 55, 3) := by decide +kernel
theorem dX5_readTerm_67 : decode cX5_readTerm 67 = .ok (.ifCond .eq 7, 3) := by decide +kernel
theorem dX5_readTerm_70 : decode cX5_readTerm 70 = .ok (.iconst 1, 1) := by decide +kernel
theorem dX5_readTerm_71 : decode cX5_readTerm 71 = .ok (.goto 4, 3) := by decide +kernel
theorem dX5_readTerm_74 : decode cX5_readTerm 74 = .ok (.iconst 0, 1) := by decide +kernel
theorem dX5_readTerm_75 : decode cX5_readTerm 75 = .ok (.ireturn, 1) := by decide +kernel
theorem dX5_readTerm_76 : decode cX5_readTerm 76 = .ok (.aload_n 0, 1) := by decide +kernel
theorem dX5_readTerm_77 : decode cX5_readTerm 77 = .ok (.invokevirtual 112, 3) := by decide +kernel
theorem dX5_readTerm_80 : decode cX5_readTerm 80 = .ok (.ifCond .ne 5, 3) := by decide +kernel
theorem dX5_readTerm_83 : decode cX5_readTerm 83 = .ok (.iconst 0, 1) := by decide +kernel
theorem dX5_readTerm_84 : decode cX5_readTerm 84 = .ok (.ireturn, 1) := by decide +kernel
theorem dX5_readTerm_85 : decode cX5_readTerm 85 = .ok (.aload_n 0, 1) := by decide +kernel
theorem dX5_readTerm_86 : decode cX5_readTerm 86 = .ok (.getfield 15, 3) := by decide +kernel
theorem dX5_readTerm_89 : decode cX5_readTerm 89 = .ok (.iload_n 1, 1) := by decide +kernel
theorem dX5_readTerm_90 : decode cX5_readTerm 90 = .ok (.ineg, 1) := by decide +kernel
theorem dX5_readTerm_91 : decode cX5_readTerm 91 = .ok (.invokevirtual 118, 3) := by decide +kernel
theorem dX5_readTerm_94 : decode cX5_readTerm 94 = .ok (.iconst 1, 1) := by decide +kernel
theorem dX5_readTerm_95 : decode cX5_readTerm 95 = .ok (.ireturn, 1) := by decide +kernel
theorem dX5_readTerm_96 : decode cX5_readTerm 96 = .ok (.aload_n 0, 1) := by decide +kernel
theorem dX5_readTerm_97 : decode cX5_readTerm 97 = .ok (.getfield 40, 3) := by decide +kernel
theorem dX5_readTerm_100 : decode cX5_readTerm 100 = .ok (.bipush 6, 2) := by decide +kernel
theorem dX5_readTerm_102 : decode cX5_readTerm 102 = .ok (.if_icmp .lt 5, 3) := by decide +kernel
theorem dX5_readTerm_105 : decode cX5_readTerm 105 = .ok (.iconst 0, 1) := by decide +kernel
theorem dX5_readTerm_106 : decode cX5_readTerm 106 = .ok (.ireturn, 1) := by decide +kernel
theorem dX5_readTerm_107 : decode cX5_readTerm 107 = .ok (.aload_n 0, 1) := by decide +kernel
theorem dX5_readTerm_108 : decode cX5_readTerm 108 = .ok (.dup, 1) := by decide +kernel
theorem dX5_readTerm_109 : decode cX5_readTerm 109 = .ok (.getfield 40, 3) := by decide +kernel
theorem dX5_readTerm_112 : decode cX5_readTerm 112 = .ok (.iconst 1, 1) := by decide +kernel
theorem dX5_readTerm_113 : decode cX5_readTerm 113 = .ok (.iadd, 1) := by decide +kernel
theorem dX5_readTerm_114 : decode cX5_readTerm 114 = .ok (.putfield 40, 3) := by decide +kernel
theorem dX5_readTerm_117 : decode cX5_readTerm 117 = .ok (.aload_n 0, 1) := by decide +kernel
theorem dX5_readTerm_118 : decode cX5_readTerm 118 = .ok (.getfield 9, 3) := by decide +kernel
theorem dX5_readTerm_121 : decode cX5_readTerm 121 = .ok (.invokevirtual 109, 3) := by decide +kernel
theorem dX5_readTerm_124 : decode cX5_readTerm 124 = .ok (.istore_n 2, 1) := by decide +kernel
theorem dX5_readTerm_125 : decode cX5_readTerm 125 = .ok (.iload_n 2, 1) := by decide +kernel
theorem dX5_readTerm_126 : decode cX5_readTerm 126 = .ok (.bipush (-9), 2) := by decide +kernel
theorem dX5_readTerm_128 : decode cX5_readTerm 128 = .ok (.if_icmp .eq 13, 3) := by decide +kernel
theorem dX5_readTerm_131 : decode cX5_readTerm 131 = .ok (.aload_n 0, 1) := by decide +kernel
theorem dX5_readTerm_132 : decode cX5_readTerm 132 = .ok (.getfield 9, 3) := by decide +kernel
theorem dX5_readTerm_135 : decode cX5_readTerm 135 = .ok (.invokevirtual 59, 3) := by decide +kernel
theorem dX5_readTerm_138 : decode cX5_readTerm 138 = .ok (.goto 22, 3) := by decide +kernel
theorem dX5_readTerm_141 : decode cX5_readTerm 141 = .ok (.aload_n 0, 1) := by decide +kernel
theorem dX5_readTerm_142 : decode cX5_readTerm 142 = .ok (.invokevirtual 93, 3) := by decide +kernel
theorem dX5_readTerm_145 : decode cX5_readTerm 145 = .ok (.istore_n 3, 1) := by decide +kernel
theorem dX5_readTerm_146 : decode cX5_readTerm 146 = .ok (.iload_n 3, 1) := by decide +kernel
theorem dX5_readTerm_147 : decode cX5_readTerm 147 = .ok (.bipush (-9), 2) := by decide +kernel
theorem dX5_readTerm_149 : decode cX5_readTerm 149 = .ok (.if_icmp .ne 5, 3) := by decide +kernel
theorem dX5_readTerm_152 : decode cX5_readTerm 152 = .ok (.iconst 0, 1) := by decide +kernel
theorem dX5_readTerm_153 : decode cX5_readTerm 153 = .ok (.ireturn, 1) := by decide +kernel
theorem dX5_readTerm_154 : decode cX5_readTerm 154 = .ok (.sipush 1000, 3) := by decide +kernel
theorem dX5_readTerm_157 : decode cX5_readTerm 157 = .ok (.iload_n 3, 1) := by decide +kernel
theorem dX5_readTerm_158 : decode cX5_readTerm 158 = .ok (.iadd, 1) := by decide +kernel
theorem dX5_readTerm_159 : decode cX5_readTerm 159 = .ok (.istore_n 2, 1) := by decide +kernel
theorem dX5_readTerm_160 : decode cX5_readTerm 160 = .ok (.aload_n 0, 1) := by decide +kernel
theorem dX5_readTerm_161 : decode cX5_readTerm 161 = .ok (.getfield 15, 3) := by decide +kernel
theorem dX5_readTerm_164 : decode cX5_readTerm 164 = .ok (.iload_n 2, 1) := by decide +kernel
theorem dX5_readTerm_165 : decode cX5_readTerm 165 = .ok (.invokevirtual 118, 3) := by decide +kernel
theorem dX5_readTerm_168 : decode cX5_readTerm 168 = .ok (.iconst 1, 1) := by decide +kernel
theorem dX5_readTerm_169 : decode cX5_readTerm 169 = .ok (.ireturn, 1) := by decide +kernel
theorem bX5_readTerm_0 {d : Nat} {Q : Option jA → jH → Prop} (a0 : Nat) (u1 : Option jA) (u2 : Option jA) (u3 : Option jA) (h : jH)
    (s1 : (jS h a0).1 = 5)
    (s2 : (jS h (jP h a0 0)).1 = 7)
    (r1 : ((jI h (jP h a0 0) 4) = 33) → ((jI h a0 4) < 6) → jR ((jI h a0 4) + 1))
    (e1 : ((jI h (jP h a0 0) 4) = 33) → ((jI h a0 4) < 6) → Ex MX7_toNext d [.inr (jP h a0 0)] (jsI h a0 4 ((jI h a0 4) + 1)) 0 0 (fun v h2 => V MX5_readTerm (d + 8) 48 [some (.inr a0), some (.inl (jI h (jP h a0 0) 4)), u2, u3] (v.toList ++ []) h2 0 0 Q))
    (q1 : ((jI h (jP h a0 0) 4) = 33) → (¬ ((jI h a0 4) < 6)) → Q (some (.inl 0)) h)
    (r2 : (¬ ((jI h (jP h a0 0) 4) = 33)) → ((jI h (jP h a0 0) 4) ≠ 40) → ((jI h a0 3) < 6) → jR ((jI h a0 3) + 1))
    (e2 : (¬ ((jI h (jP h a0 0) 4) = 33)) → ((jI h (jP h a0 0) 4) ≠ 40) → ((jI h a0 3) < 6) → Ex MX7_number d [.inr (jP h a0 0)] (jsI h a0 3 ((jI h a0 3) + 1)) 0 0 (fun v h2 => V MX5_readTerm (d + 8) 124 [some (.inr a0), some (.inl (jI h (jP h a0 0) 4)), u2, u3] (v.toList ++ []) h2 0 0 Q))
    (q2 : (¬ ((jI h (jP h a0 0) 4) = 33)) → ((jI h (jP h a0 0) 4) ≠ 40) → (¬ ((jI h a0 3) < 6)) → Q (some (.inl 0)) h)
    (r3 : (¬ ((jI h (jP h a0 0) 4) = 33)) → ((jI h (jP h a0 0) 4) = 40) → ((jI h a0 4) < 6) → jR ((jI h a0 4) + 1))
    (e3 : (¬ ((jI h (jP h a0 0) 4) = 33)) → ((jI h (jP h a0 0) 4) = 40) → ((jI h a0 4) < 6) → Ex MX7_toNext d [.inr (jP h a0 0)] (jsI h a0 4 ((jI h a0 4) + 1)) 0 0 (fun v h2 => V MX5_readTerm (d + 8) 48 [some (.inr a0), some (.inl (jI h (jP h a0 0) 4)), u2, u3] (v.toList ++ []) h2 0 0 Q))
    (q3 : (¬ ((jI h (jP h a0 0) 4) = 33)) → ((jI h (jP h a0 0) 4) = 40) → (¬ ((jI h a0 4) < 6)) → Q (some (.inl 0)) h) :
    V MX5_readTerm (d + 8) 0 [some (.inr a0), u1, u2, u3] [] h 0 0 Q := by
  refine V_aload_n (i := 0) dX5_readTerm_0 rfl rfl ?_
  refine V_getP dX5_readTerm_1 fX5_9 rfl s1 ?_
  refine V_getI dX5_readTerm_4 fX5_33 rfl s2 ?_
  refine V_istore_n (i := 1) dX5_readTerm_7 rfl (by decide) ?_
  refine V_iload_n (i := 1) dX5_readTerm_8 rfl rfl ?_
  refine V_bipush dX5_readTerm_9 (by decide +kernel) ⟨by decide, by decide⟩ ?_
  refine V_icmp_eq (tgt := 20) dX5_readTerm_11 (by decide) (fun c1 => ?_) (fun c1 => ?_)
  · refine V_aload_n (i := 0) dX5_readTerm_20 rfl rfl ?_
    refine V_getI dX5_readTerm_21 fX5_43 rfl s1 ?_
    refine V_bipush dX5_readTerm_24 (by decide +kernel) ⟨by decide, by decide⟩ ?_
    refine V_icmp_lt (tgt := 31) dX5_readTerm_26 (by decide) (fun c2 => ?_) (fun c2 => ?_)
    · refine V_aload_n (i := 0) dX5_readTerm_31 rfl rfl ?_
      refine V_dup dX5_readTerm_32 ?_
      refine V_getI dX5_readTerm_33 fX5_43 rfl s1 ?_
      refine V_iconst dX5_readTerm_36 ⟨by decide, by decide⟩ ?_
      refine V_iadd dX5_readTerm_37 (r1 c1 c2) ?_
      refine V_putI (ci := 5) (kf := 4) dX5_readTerm_38 fX5_43 rfl rfl s1 ?_
      refine V_aload_n (i := 0) dX5_readTerm_41 rfl rfl ?_
      refine V_getP dX5_readTerm_42 fX5_9 rfl s1 ?_
      exact V_callV (M := MX5_readTerm) (d := (d + 8)) (mc' := 0) (ms' := 0) (mc := 0) (ms := 0) (As := []) (rest := []) dX5_readTerm_45 tX7_toNext vX7_toNext lX5_59 s2 ⟨by decide, rfl⟩ rfl rfl (Nat.le_of_ble_eq_true rfl) (show d + 1 ≤ (d + 8) by omega) (e1 c1 c2)
    · refine V_iconst dX5_readTerm_29 ⟨by decide, by decide⟩ ?_
      exact V_retz rfl dX5_readTerm_30 (by decide) (q1 c1 c2)
  · refine V_iload_n (i := 1) dX5_readTerm_14 rfl rfl ?_
    refine V_bipush dX5_readTerm_15 (by decide +kernel) ⟨by decide, by decide⟩ ?_
    refine V_icmp_ne (tgt := 96) dX5_readTerm_17 (by decide) (fun c3 => ?_) (fun c3 => ?_)
    · refine V_aload_n (i := 0) dX5_readTerm_96 rfl rfl ?_
      refine V_getI dX5_readTerm_97 fX5_40 rfl s1 ?_
      refine V_bipush dX5_readTerm_100 (by decide +kernel) ⟨by decide, by decide⟩ ?_
      refine V_icmp_lt (tgt := 107) dX5_readTerm_102 (by decide) (fun c4 => ?_) (fun c4 => ?_)
      · refine V_aload_n (i := 0) dX5_readTerm_107 rfl rfl ?_
        refine V_dup dX5_readTerm_108 ?_
        refine V_getI dX5_readTerm_109 fX5_40 rfl s1 ?_
        refine V_iconst dX5_readTerm_112 ⟨by decide, by decide⟩ ?_
        refine V_iadd dX5_readTerm_113 (r2 c1 c3 c4) ?_
        refine V_putI (ci := 5) (kf := 3) dX5_readTerm_114 fX5_40 rfl rfl s1 ?_
        refine V_aload_n (i := 0) dX5_readTerm_117 rfl rfl ?_
        refine V_getP dX5_readTerm_118 fX5_9 rfl s1 ?_
        exact V_callV (M := MX5_readTerm) (d := (d + 8)) (mc' := 0) (ms' := 0) (mc := 0) (ms := 0) (As := []) (rest := []) dX5_readTerm_121 tX7_number vX7_number lX5_109 s2 ⟨by decide, rfl⟩ rfl rfl (Nat.le_of_ble_eq_true rfl) (show d + 1 ≤ (d + 8) by omega) (e2 c1 c3 c4)
      · refine V_iconst dX5_readTerm_105 ⟨by decide, by decide⟩ ?_
        exact V_retz rfl dX5_readTerm_106 (by decide) (q2 c1 c3 c4)
    · refine V_aload_n (i := 0) dX5_readTerm_20 rfl rfl ?_
      refine V_getI dX5_readTerm_21 fX5_43 rfl s1 ?_
      refine V_bipush dX5_readTerm_24 (by decide +kernel) ⟨by decide, by decide⟩ ?_
      refine V_icmp_lt (tgt := 31) dX5_readTerm_26 (by decide) (fun c5 => ?_) (fun c5 => ?_)
      · refine V_aload_n (i := 0) dX5_readTerm_31 rfl rfl ?_
        refine V_dup dX5_readTerm_32 ?_
        refine V_getI dX5_readTerm_33 fX5_43 rfl s1 ?_
        refine V_iconst dX5_readTerm_36 ⟨by decide, by decide⟩ ?_
        refine V_iadd dX5_readTerm_37 (r3 c1 c3 c5) ?_
        refine V_putI (ci := 5) (kf := 4) dX5_readTerm_38 fX5_43 rfl rfl s1 ?_
        refine V_aload_n (i := 0) dX5_readTerm_41 rfl rfl ?_
        refine V_getP dX5_readTerm_42 fX5_9 rfl s1 ?_
        exact V_callV (M := MX5_readTerm) (d := (d + 8)) (mc' := 0) (ms' := 0) (mc := 0) (ms := 0) (As := []) (rest := []) dX5_readTerm_45 tX7_toNext vX7_toNext lX5_59 s2 ⟨by decide, rfl⟩ rfl rfl (Nat.le_of_ble_eq_true rfl) (show d + 1 ≤ (d + 8) by omega) (e3 c1 c3 c5)
      · refine V_iconst dX5_readTerm_29 ⟨by decide, by decide⟩ ?_
        exact V_retz rfl dX5_readTerm_30 (by decide) (q3 c1 c3 c5)
theorem bX5_readTerm_48 {d : Nat} {Q : Option jA → jH → Prop} (a0 : Nat) (i1 : Int) (u2 : Option jA) (u3 : Option jA) (dr : Nat) (h : jH)
    (hdr : dr + 1 ≤ (d + 8))
    (e1 : (i1 ≠ 40) → Ex MX5_readTerm dr [.inr a0] h 0 0 (fun v h2 => V MX5_readTerm (d + 8) 80 [some (.inr a0), some (.inl i1), u2, u3] (v.toList ++ []) h2 0 0 Q))
    (s1 : (jS h a0).1 = 5)
    (e2 : (i1 = 40) → Ex MX5_readExpression dr [.inr a0] h 0 0 (fun v h2 => V MX5_readTerm (d + 8) 58 [some (.inr a0), some (.inl i1), u2, u3] (v.toList ++ []) h2 0 0 Q)) :
    V MX5_readTerm (d + 8) 48 [some (.inr a0), some (.inl i1), u2, u3] [] h 0 0 Q := by
  refine V_iload_n (i := 1) dX5_readTerm_48 rfl rfl ?_
  refine V_bipush dX5_readTerm_49 (by decide +kernel) ⟨by decide, by decide⟩ ?_
  refine V_icmp_ne (tgt := 76) dX5_readTerm_51 (by decide) (fun c1 => ?_) (fun c1 => ?_)
  · refine V_aload_n (i := 0) dX5_readTerm_76 rfl rfl ?_
    exact V_callV (M := MX5_readTerm) (d := (d + 8)) (mc' := 0) (ms' := 0) (mc := 0) (ms := 0) (As := []) (rest := []) dX5_readTerm_77 tX5_readTerm vX5_readTerm lX5_112 s1 ⟨by decide, rfl⟩ rfl rfl (Nat.le_of_ble_eq_true rfl) hdr (e1 c1)
  · refine V_aload_n (i := 0) dX5_readTerm_54 rfl rfl ?_
    exact V_callV (M := MX5_readTerm) (d := (d + 8)) (mc' := 0) (ms' := 0) (mc := 0) (ms := 0) (As := []) (rest := []) dX5_readTerm_55 tX5_readExpression vX5_readExpression lX5_102 s1 ⟨by decide, rfl⟩ rfl rfl (Nat.le_of_ble_eq_true rfl) hdr (e2 c1)
theorem bX5_readTerm_124 {d : Nat} {Q : Option jA → jH → Prop} (a0 : Nat) (i1 : Int) (u2 : Option jA) (u3 : Option jA) (p0 : Int) (h : jH)
    (e1 : (p0 = ((-9))) → Ex MX5_readPath (d + 1) [.inr a0] h 0 0 (fun v h2 => V MX5_readTerm (d + 8) 145 [some (.inr a0), some (.inl i1), some (.inl p0), u3] (v.toList ++ []) h2 0 0 Q))
    (s1 : (jS h a0).1 = 5)
    (e2 : (¬ (p0 = ((-9)))) → Ex MX7_toNext d [.inr (jP h a0 0)] h 0 0 (fun v h2 => V MX5_readTerm (d + 8) 138 [some (.inr a0), some (.inl i1), some (.inl p0), u3] (v.toList ++ []) h2 0 0 Q))
    (s2 : (jS h (jP h a0 0)).1 = 7) :
    V MX5_readTerm (d + 8) 124 [some (.inr a0), some (.inl i1), u2, u3] [.inl p0] h 0 0 Q := by
  refine V_istore_n (i := 2) dX5_readTerm_124 rfl (by decide) ?_
  refine V_iload_n (i := 2) dX5_readTerm_125 rfl rfl ?_
  refine V_bipush dX5_readTerm_126 (by decide +kernel) ⟨by decide, by decide⟩ ?_
  refine V_icmp_eq (tgt := 141) dX5_readTerm_128 (by decide) (fun c1 => ?_) (fun c1 => ?_)
  · refine V_aload_n (i := 0) dX5_readTerm_141 rfl rfl ?_
    exact V_callV (M := MX5_readTerm) (d := (d + 8)) (mc' := 0) (ms' := 0) (mc := 0) (ms := 0) (As := []) (rest := []) dX5_readTerm_142 tX5_readPath vX5_readPath lX5_93 s1 ⟨by decide, rfl⟩ rfl rfl (Nat.le_of_ble_eq_true rfl) (show (d + 1) + 1 ≤ (d + 8) by omega) (e1 c1)
  · refine V_aload_n (i := 0) dX5_readTerm_131 rfl rfl ?_
    refine V_getP dX5_readTerm_132 fX5_9 rfl s1 ?_
    exact V_callV (M := MX5_readTerm) (d := (d + 8)) (mc' := 0) (ms' := 0) (mc := 0) (ms := 0) (As := []) (rest := []) dX5_readTerm_135 tX7_toNext vX7_toNext lX5_59 s2 ⟨by decide, rfl⟩ rfl rfl (Nat.le_of_ble_eq_true rfl) (show d + 1 ≤ (d + 8) by omega) (e2 c1)
theorem bX5_readTerm_80 {d : Nat} {Q : Option jA → jH → Prop} (a0 : Nat) (i1 : Int) (u2 : Option jA) (u3 : Option jA) (p0 : Int) (h : jH)
    (s1 : (jS h a0).1 = 5)
    (r1 : (p0 ≠ 0) → jR (-i1))
    (e1 : (p0 ≠ 0) → Ex MX2_addCode d [.inr (jP h a0 1), .inl (-i1)] h 0 0 (fun v h2 => V MX5_readTerm (d + 8) 94 [some (.inr a0), some (.inl i1), u2, u3] (v.toList ++ []) h2 0 0 Q))
    (s2 : (jS h (jP h a0 1)).1 = 2)
    (q1 : (p0 = 0) → Q (some (.inl 0)) h) :
    V MX5_readTerm (d + 8) 80 [some (.inr a0), some (.inl i1), u2, u3] [.inl p0] h 0 0 Q := by
  refine V_if_ne (tgt := 85) dX5_readTerm_80 (by decide) (fun c1 => ?_) (fun c1 => ?_)
  · refine V_aload_n (i := 0) dX5_readTerm_85 rfl rfl ?_
    refine V_getP dX5_readTerm_86 fX5_15 rfl s1 ?_
    refine V_iload_n (i := 1) dX5_readTerm_89 rfl rfl ?_
    refine V_ineg dX5_readTerm_90 (r1 c1) ?_
    exact V_callV (M := MX5_readTerm) (d := (d + 8)) (mc' := 0) (ms' := 0) (mc := 0) (ms := 0) (As := [.inl (-i1)]) (rest := []) dX5_readTerm_91 tX2_addCode vX2_addCode lX5_118 s2 ⟨by decide, rfl⟩ rfl rfl (Nat.le_of_ble_eq_true rfl) (show d + 1 ≤ (d + 8) by omega) (e1 c1)
  · refine V_iconst dX5_readTerm_83 ⟨by decide, by decide⟩ ?_
    exact V_retz rfl dX5_readTerm_84 (by decide) (q1 c1)
theorem bX5_readTerm_58 {d : Nat} {Q : Option jA → jH → Prop} (a0 : Nat) (i1 : Int) (u2 : Option jA) (u3 : Option jA) (p0 : Int) (h : jH)
    (q1 : (p0 = 0) → Q (some (.inl 0)) h)
    (e1 : (¬ (p0 = 0)) → Ex MX5_readSign (d + 1) [.inr a0, .inl 41] h 0 0 (fun v h2 => V MX5_readTerm (d + 8) 67 [some (.inr a0), some (.inl i1), u2, u3] (v.toList ++ []) h2 0 0 Q))
    (s1 : (jS h a0).1 = 5) :
    V MX5_readTerm (d + 8) 58 [some (.inr a0), some (.inl i1), u2, u3] [.inl p0] h 0 0 Q := by
  refine V_if_eq (tgt := 74) dX5_readTerm_58 (by decide) (fun c1 => ?_) (fun c1 => ?_)
  · refine V_iconst dX5_readTerm_74 ⟨by decide, by decide⟩ ?_
    exact V_retz rfl dX5_readTerm_75 (by decide) (q1 c1)
  · refine V_aload_n (i := 0) dX5_readTerm_61 rfl rfl ?_
    refine V_bipush dX5_readTerm_62 (by decide +kernel) ⟨by decide, by decide⟩ ?_
    exact V_callV (M := MX5_readTerm) (d := (d + 8)) (mc' := 0) (ms' := 0) (mc := 0) (ms := 0) (As := [.inl 41]) (rest := []) dX5_readTerm_64 tX5_readSign vX5_readSign lX5_55 s1 ⟨by decide, rfl⟩ rfl rfl (Nat.le_of_ble_eq_true rfl) (show (d + 1) + 1 ≤ (d + 8) by omega) (e1 c1)
theorem bX5_readTerm_145 {d : Nat} {Q : Option jA → jH → Prop} (a0 : Nat) (i1 : Int) (i2 : Int) (u3 : Option jA) (p0 : Int) (h : jH)
    (r1 : (p0 ≠ ((-9))) → jR (1000 + p0))
    (s1 : (jS h a0).1 = 5)
    (e1 : (p0 ≠ ((-9))) → Ex MX2_addCode d [.inr (jP h a0 1), .inl (1000 + p0)] h 0 0 (fun v h2 => V MX5_readTerm (d + 8) 168 [some (.inr a0), some (.inl i1), some (.inl (1000 + p0)), some (.inl p0)] (v.toList ++ []) h2 0 0 Q))
    (s2 : (jS h (jP h a0 1)).1 = 2)
    (q1 : (p0 = ((-9))) → Q (some (.inl 0)) h) :
    V MX5_readTerm (d + 8) 145 [some (.inr a0), some (.inl i1), some (.inl i2), u3] [.inl p0] h 0 0 Q := by
  refine V_istore_n (i := 3) dX5_readTerm_145 rfl (by decide) ?_
  refine V_iload_n (i := 3) dX5_readTerm_146 rfl rfl ?_
  refine V_bipush dX5_readTerm_147 (by decide +kernel) ⟨by decide, by decide⟩ ?_
  refine V_icmp_ne (tgt := 154) dX5_readTerm_149 (by decide) (fun c1 => ?_) (fun c1 => ?_)
  · refine V_sipush dX5_readTerm_154 (by decide +kernel) ⟨by decide, by decide⟩ ?_
    refine V_iload_n (i := 3) dX5_readTerm_157 rfl rfl ?_
    refine V_iadd dX5_readTerm_158 (r1 c1) ?_
    refine V_istore_n (i := 2) dX5_readTerm_159 rfl (by decide) ?_
    refine V_aload_n (i := 0) dX5_readTerm_160 rfl rfl ?_
    refine V_getP dX5_readTerm_161 fX5_15 rfl s1 ?_
    refine V_iload_n (i := 2) dX5_readTerm_164 rfl rfl ?_
    exact V_callV (M := MX5_readTerm) (d := (d + 8)) (mc' := 0) (ms' := 0) (mc := 0) (ms := 0) (As := [.inl (1000 + p0)]) (rest := []) dX5_readTerm_165 tX2_addCode vX2_addCode lX5_118 s2 ⟨by decide, rfl⟩ rfl rfl (Nat.le_of_ble_eq_true rfl) (show d + 1 ≤ (d + 8) by omega) (e1 c1)
  · refine V_iconst dX5_readTerm_152 ⟨by decide, by decide⟩ ?_
    exact V_retz rfl dX5_readTerm_153 (by decide) (q1 c1)
theorem bX5_readTerm_138 {d : Nat} {Q : Option jA → jH → Prop} (a0 : Nat) (i1 : Int) (i2 : Int) (u3 : Option jA) (h : jH)
    (s1 : (jS h a0).1 = 5)
    (e1 : Ex MX2_addCode d [.inr (jP h a0 1), .inl i2] h 0 0 (fun v h2 => V MX5_readTerm (d + 8) 168 [some (.inr a0), some (.inl i1), some (.inl i2), u3] (v.toList ++ []) h2 0 0 Q))
    (s2 : (jS h (jP h a0 1)).1 = 2) :
    V MX5_readTerm (d + 8) 138 [some (.inr a0), some (.inl i1), some (.inl i2), u3] [] h 0 0 Q := by
  refine V_goto (tgt := 160) dX5_readTerm_138 (by decide) ?_
  refine V_aload_n (i := 0) dX5_readTerm_160 rfl rfl ?_
  refine V_getP dX5_readTerm_161 fX5_15 rfl s1 ?_
  refine V_iload_n (i := 2) dX5_readTerm_164 rfl rfl ?_
  exact V_callV (M := MX5_readTerm) (d := (d + 8)) (mc' := 0) (ms' := 0) (mc := 0) (ms := 0) (As := [.inl i2]) (rest := []) dX5_readTerm_165 tX2_addCode vX2_addCode lX5_118 s2 ⟨by decide, rfl⟩ rfl rfl (Nat.le_of_ble_eq_true rfl) (show d + 1 ≤ (d + 8) by omega) e1
theorem bX5_readTerm_94 {d : Nat} {Q : Option jA → jH → Prop} (a0 : Nat) (i1 : Int) (u2 : Option jA) (u3 : Option jA) (h : jH)
    (q1 : Q (some (.inl 1)) h) :
    V MX5_readTerm (d + 8) 94 [some (.inr a0), some (.inl i1), u2, u3] [] h 0 0 Q := by
  refine V_iconst dX5_readTerm_94 ⟨by decide, by decide⟩ ?_
  exact V_retz rfl dX5_readTerm_95 (by decide) q1
theorem bX5_readTerm_67 {d : Nat} {Q : Option jA → jH → Prop} (a0 : Nat) (i1 : Int) (u2 : Option jA) (u3 : Option jA) (p0 : Int) (h : jH)
    (q1 : (p0 = 0) → Q (some (.inl 0)) h)
    (q2 : (¬ (p0 = 0)) → Q (some (.inl 1)) h) :
    V MX5_readTerm (d + 8) 67 [some (.inr a0), some (.inl i1), u2, u3] [.inl p0] h 0 0 Q := by
  refine V_if_eq (tgt := 74) dX5_readTerm_67 (by decide) (fun c1 => ?_) (fun c1 => ?_)
  · refine V_iconst dX5_readTerm_74 ⟨by decide, by decide⟩ ?_
    exact V_retz rfl dX5_readTerm_75 (by decide) (q1 c1)
  · refine V_iconst dX5_readTerm_70 ⟨by decide, by decide⟩ ?_
    refine V_goto (tgt := 75) dX5_readTerm_71 (by decide) ?_
    exact V_retz rfl dX5_readTerm_75 (by decide) (q2 c1)
theorem bX5_readTerm_168 {d : Nat} {Q : Option jA → jH → Prop} (a0 : Nat) (i1 : Int) (i2 : Int) (u3 : Option jA) (h : jH)
    (q1 : Q (some (.inl 1)) h) :
    V MX5_readTerm (d + 8) 168 [some (.inr a0), some (.inl i1), some (.inl i2), u3] [] h 0 0 Q := by
  refine V_iconst dX5_readTerm_168 ⟨by decide, by decide⟩ ?_
  exact V_retz rfl dX5_readTerm_169 (by decide) q1
theorem dX5_readPath_0 : decode cX5_readPath 0 = .ok (.iconst (-1), 1) := by decide +kernel
theorem dX5_readPath_1 : decode cX5_readPath 1 = .ok (.istore_n 1, 1) := by decide +kernel
theorem dX5_readPath_2 : decode cX5_readPath 2 = .ok (.iconst 0, 1) := by decide +kernel
theorem dX5_readPath_3 : decode cX5_readPath 3 = .ok (.istore_n 2, 1) := by decide +kernel
theorem dX5_readPath_4 : decode cX5_readPath 4 = .ok (.iload_n 2, 1) := by decide +kernel
theorem dX5_readPath_5 : decode cX5_readPath 5 = .ok (.iconst 4, 1) := by decide +kernel
theorem dX5_readPath_6 : decode cX5_readPath 6 = .ok (.if_icmp .gt 94, 3) := by decide +kernel
theorem dX5_readPath_9 : decode cX5_readPath 9 = .ok (.aload_n 0, 1) := by decide +kernel
theorem dX5_readPath_10 : decode cX5_readPath 10 = .ok (.getfield 9, 3) := by decide +kernel
theorem dX5_readPath_13 : decode cX5_readPath 13 = .ok (.invokevirtual 66, 3) := by decide +kernel
theorem dX5_readPath_16 : decode cX5_readPath 16 = .ok (.istore_n 3, 1) := by decide +kernel
theorem dX5_readPath_17 : decode cX5_readPath 17 = .ok (.iload_n 3, 1) := by decide +kernel
theorem dX5_readPath_18 : decode cX5_readPath 18 = .ok (.bipush (-9), 2) := by decide +kernel
theorem dX5_readPath_20 : decode cX5_readPath 20 = .ok (.if_icmp .ne 8, 3) := by decide +kernel
theorem dX5_readPath_23 : decode cX5_readPath 23 = .ok (.bipush (-9), 2) := by decide +kernel
theorem dX5_readPath_25 : decode cX5_readPath 25 = .ok (.goto 12, 3) := by decide +kernel
theorem dX5_readPath_28 : decode cX5_readPath 28 = .ok (.aload_n 0, 1) := by decide +kernel
theorem dX5_readPath_29 : decode cX5_readPath 29 = .ok (.getfield 15, 3) := by decide +kernel
theorem dX5_readPath_32 : decode cX5_readPath 32 = .ok (.iload_n 1, 1) := by decide +kernel
theorem dX5_readPath_33 : decode cX5_readPath 33 = .ok (.iload_n 3, 1) := by decide +kernel
theorem dX5_readPath_34 : decode cX5_readPath 34 = .ok (.invokevirtual 70, 3) := by decide +kernel
theorem dX5_readPath_37 : decode cX5_readPath 37 = .ok (.istore 4, 2) := by decide +kernel
theorem dX5_readPath_39 : decode cX5_readPath 39 = .ok (.iload 4, 2) := by decide +kernel
theorem dX5_readPath_41 : decode cX5_readPath 41 = .ok (.bipush (-9), 2) := by decide +kernel
theorem dX5_readPath_43 : decode cX5_readPath 43 = .ok (.if_icmp .ne 6, 3) := by decide +kernel
theorem dX5_readPath_46 : decode cX5_readPath 46 = .ok (.bipush (-9), 2) := by decide +kernel
theorem dX5_readPath_48 : decode cX5_readPath 48 = .ok (.ireturn, 1) := by decide +kernel
theorem dX5_readPath_49 : decode cX5_readPath 49 = .ok (.aload_n 0, 1) := by decide +kernel
theorem dX5_readPath_50 : decode cX5_readPath 50 = .ok (.getfield 9, 3) := by decide +kernel
theorem dX5_readPath_53 : decode cX5_readPath 53 = .ok (.invokevirtual 59, 3) := by decide +kernel
theorem dX5_readPath_56 : decode cX5_readPath 56 = .ok (.iload 4, 2) := by decide +kernel
theorem dX5_readPath_58 : decode cX5_readPath 58 = .ok (.bipush 100, 2) := by decide +kernel
theorem dX5_readPath_60 : decode cX5_readPath 60 = .ok (.if_icmp .ge 6, 3) := by decide +kernel
theorem dX5_readPath_63 : decode cX5_readPath 63 = .ok (.iload 4, 2) := by decide +kernel
theorem dX5_readPath_65 : decode cX5_readPath 65 = .ok (.ireturn, 1) := by decide +kernel
theorem dX5_readPath_66 : decode cX5_readPath 66 = .ok (.aload_n 0, 1) := by decide +kernel
theorem dX5_readPath_67 : decode cX5_readPath 67 = .ok (.getfield 9, 3) := by decide +kernel
theorem dX5_readPath_70 : decode cX5_readPath 70 = .ok (.getfield 33, 3) := by decide +kernel
theorem dX5_readPath_73 : decode cX5_readPath 73 = .ok (.bipush 46, 2) := by decide +kernel
theorem dX5_readPath_75 : decode cX5_readPath 75 = .ok (.if_icmp .eq 6, 3) := by decide +kernel
theorem dX5_readPath_78 : decode cX5_readPath 78 = .ok (.bipush (-9), 2) := by decide +kernel
theorem dX5_readPath_80 : decode cX5_readPath 80 = .ok (.ireturn, 1) := by decide +kernel
theorem dX5_readPath_81 : decode cX5_readPath 81 = .ok (.aload_n 0, 1) := by decide +kernel
theorem dX5_readPath_82 : decode cX5_readPath 82 = .ok (.getfield 9, 3) := by decide +kernel
theorem dX5_readPath_85 : decode cX5_readPath 85 = .ok (.invokevirtual 59, 3) := by decide +kernel
theorem dX5_readPath_88 : decode cX5_readPath 88 = .ok (.iload 4, 2) := by decide +kernel
theorem dX5_readPath_90 : decode cX5_readPath 90 = .ok (.bipush 100, 2) := by decide +kernel
theorem dX5_readPath_92 : decode cX5_readPath 92 = .ok (.isub, 1) := by decide +kernel
theorem dX5_readPath_93 : decode cX5_readPath 93 = .ok (.istore_n 1, 1) := by decide +kernel
theorem dX5_readPath_94 : decode cX5_readPath 94 = .ok (.iinc 2 1, 3) := by decide +kernel
theorem dX5_readPath_97 : decode cX5_readPath 97 = .ok (.goto (-93), 3) := by decide +kernel
theorem dX5_readPath_100 : decode cX5_readPath 100 = .ok (.bipush (-9), 2) := by decide +kernel
theorem dX5_readPath_102 : decode cX5_readPath 102 = .ok (.ireturn, 1) := by decide +kernel
theorem bX5_readPath_0 {d : Nat} {Q : Option jA → jH → Prop} (a0 : Nat) (u1 : Option jA) (u2 : Option jA) (u3 : Option jA) (u4 : Option jA) (h : jH)
    (k1 : V MX5_readPath (d + 1) 4 [some (.inr a0), some (.inl ((-1))), some (.inl 0), u3, u4] [] h 0 0 Q) :
    V MX5_readPath (d + 1) 0 [some (.inr a0), u1, u2, u3, u4] [] h 0 0 Q := by
  refine V_iconst dX5_readPath_0 ⟨by decide, by decide⟩ ?_
  refine V_istore_n (i := 1) dX5_readPath_1 rfl (by decide) ?_
  refine V_iconst dX5_readPath_2 ⟨by decide, by decide⟩ ?_
  refine V_istore_n (i := 2) dX5_readPath_3 rfl (by decide) ?_
  exact k1
theorem bX5_readPath_4 {d : Nat} {Q : Option jA → jH → Prop} (a0 : Nat) (i1 : Int) (i2 : Int) (u3 : Option jA) (u4 : Option jA) (h : jH)
    (q1 : (4 < i2) → Q (some (.inl ((-9)))) h)
    (s1 : (jS h a0).1 = 5)
    (s2 : (jS h (jP h a0 0)).1 = 7)
    (e1 : (¬ (4 < i2)) → ((jlet (jI h (jP h a0 0) 4)) ≠ ((-9))) → Ex MX2_named d [.inr (jP h a0 1), .inl i1, .inl (jlet (jI h (jP h a0 0) 4))] h 0 0 (fun v h2 => V MX5_readPath (d + 1) 37 [some (.inr a0), some (.inl i1), some (.inl i2), some (.inl (jlet (jI h (jP h a0 0) 4))), u4] (v.toList ++ []) h2 0 0 Q))
    (s3 : (jS h (jP h a0 1)).1 = 2)
    (e2 : (¬ (4 < i2)) → ((jlet (jI h (jP h a0 0) 4)) = ((-9))) → (((-9)) ≠ ((-9))) → Ex MX7_toNext d [.inr (jP h a0 0)] h 0 0 (fun v h2 => V MX5_readPath (d + 1) 56 [some (.inr a0), some (.inl i1), some (.inl i2), some (.inl (jlet (jI h (jP h a0 0) 4))), some (.inl ((-9)))] (v.toList ++ []) h2 0 0 Q))
    (q2 : (¬ (4 < i2)) → ((jlet (jI h (jP h a0 0) 4)) = ((-9))) → (((-9)) = ((-9))) → Q (some (.inl ((-9)))) h) :
    V MX5_readPath (d + 1) 4 [some (.inr a0), some (.inl i1), some (.inl i2), u3, u4] [] h 0 0 Q := by
  refine V_iload_n (i := 2) dX5_readPath_4 rfl rfl ?_
  refine V_iconst dX5_readPath_5 ⟨by decide, by decide⟩ ?_
  refine V_icmp_gt (tgt := 100) dX5_readPath_6 (by decide) (fun c1 => ?_) (fun c1 => ?_)
  · refine V_bipush dX5_readPath_100 (by decide +kernel) ⟨by decide, by decide⟩ ?_
    exact V_reti rfl dX5_readPath_102 (q1 c1)
  · refine V_aload_n (i := 0) dX5_readPath_9 rfl rfl ?_
    refine V_getP dX5_readPath_10 fX5_9 rfl s1 ?_
    refine V_callV (M := MX5_readPath) (d := (d + 1)) (mc' := 0) (ms' := 0) (mc := 0) (ms := 0) (As := []) (rest := []) dX5_readPath_13 tX7_letter vX7_letter lX5_66 s2 ⟨by decide, rfl⟩ rfl rfl (Nat.le_of_ble_eq_true rfl) (show d + 1 ≤ (d + 1) by omega) (Ex.mono (pX7_letter (d := d) s2) ?_)
    intro v h2 hq
    rw [hq.1, hq.2]
    show V MX5_readPath (d + 1) 16 [some (.inr a0), some (.inl i1), some (.inl i2), u3, u4] [.inl (jlet (jI h (jP h a0 0) 4))] h 0 0 Q
    refine V_istore_n (i := 3) dX5_readPath_16 rfl (by decide) ?_
    refine V_iload_n (i := 3) dX5_readPath_17 rfl rfl ?_
    refine V_bipush dX5_readPath_18 (by decide +kernel) ⟨by decide, by decide⟩ ?_
    refine V_icmp_ne (tgt := 28) dX5_readPath_20 (by decide) (fun c2 => ?_) (fun c2 => ?_)
    · refine V_aload_n (i := 0) dX5_readPath_28 rfl rfl ?_
      refine V_getP dX5_readPath_29 fX5_15 rfl s1 ?_
      refine V_iload_n (i := 1) dX5_readPath_32 rfl rfl ?_
      refine V_iload_n (i := 3) dX5_readPath_33 rfl rfl ?_
      exact V_callV (M := MX5_readPath) (d := (d + 1)) (mc' := 0) (ms' := 0) (mc := 0) (ms := 0) (As := [.inl i1, .inl (jlet (jI h (jP h a0 0) 4))]) (rest := []) dX5_readPath_34 tX2_named vX2_named lX5_70 s3 ⟨by decide, rfl⟩ rfl rfl (Nat.le_of_ble_eq_true rfl) (show d + 1 ≤ (d + 1) by omega) (e1 c1 c2)
    · refine V_bipush dX5_readPath_23 (by decide +kernel) ⟨by decide, by decide⟩ ?_
      refine V_goto (tgt := 37) dX5_readPath_25 (by decide) ?_
      refine V_istore (i := 4) dX5_readPath_37 (by decide) ?_
      refine V_iload (i := 4) dX5_readPath_39 rfl ?_
      refine V_bipush dX5_readPath_41 (by decide +kernel) ⟨by decide, by decide⟩ ?_
      refine V_icmp_ne (tgt := 49) dX5_readPath_43 (by decide) (fun c3 => ?_) (fun c3 => ?_)
      · refine V_aload_n (i := 0) dX5_readPath_49 rfl rfl ?_
        refine V_getP dX5_readPath_50 fX5_9 rfl s1 ?_
        exact V_callV (M := MX5_readPath) (d := (d + 1)) (mc' := 0) (ms' := 0) (mc := 0) (ms := 0) (As := []) (rest := []) dX5_readPath_53 tX7_toNext vX7_toNext lX5_59 s2 ⟨by decide, rfl⟩ rfl rfl (Nat.le_of_ble_eq_true rfl) (show d + 1 ≤ (d + 1) by omega) (e2 c1 c2 c3)
      · refine V_bipush dX5_readPath_46 (by decide +kernel) ⟨by decide, by decide⟩ ?_
        exact V_reti rfl dX5_readPath_48 (q2 c1 c2 c3)
theorem bX5_readPath_37 {d : Nat} {Q : Option jA → jH → Prop} (a0 : Nat) (i1 : Int) (i2 : Int) (i3 : Int) (u4 : Option jA) (p0 : Int) (h : jH)
    (s1 : (jS h a0).1 = 5)
    (e1 : (p0 ≠ ((-9))) → Ex MX7_toNext d [.inr (jP h a0 0)] h 0 0 (fun v h2 => V MX5_readPath (d + 1) 56 [some (.inr a0), some (.inl i1), some (.inl i2), some (.inl i3), some (.inl p0)] (v.toList ++ []) h2 0 0 Q))
    (s2 : (jS h (jP h a0 0)).1 = 7)
    (q1 : (p0 = ((-9))) → Q (some (.inl ((-9)))) h) :
    V MX5_readPath (d + 1) 37 [some (.inr a0), some (.inl i1), some (.inl i2), some (.inl i3), u4] [.inl p0] h 0 0 Q := by
  refine V_istore (i := 4) dX5_readPath_37 (by decide) ?_
  refine V_iload (i := 4) dX5_readPath_39 rfl ?_
  refine V_bipush dX5_readPath_41 (by decide +kernel) ⟨by decide, by decide⟩ ?_
  refine V_icmp_ne (tgt := 49) dX5_readPath_43 (by decide) (fun c1 => ?_) (fun c1 => ?_)
  · refine V_aload_n (i := 0) dX5_readPath_49 rfl rfl ?_
    refine V_getP dX5_readPath_50 fX5_9 rfl s1 ?_
    exact V_callV (M := MX5_readPath) (d := (d + 1)) (mc' := 0) (ms' := 0) (mc := 0) (ms := 0) (As := []) (rest := []) dX5_readPath_53 tX7_toNext vX7_toNext lX5_59 s2 ⟨by decide, rfl⟩ rfl rfl (Nat.le_of_ble_eq_true rfl) (show d + 1 ≤ (d + 1) by omega) (e1 c1)
  · refine V_bipush dX5_readPath_46 (by decide +kernel) ⟨by decide, by decide⟩ ?_
    exact V_reti rfl dX5_readPath_48 (q1 c1)
theorem bX5_readPath_56 {d : Nat} {Q : Option jA → jH → Prop} (a0 : Nat) (i1 : Int) (i2 : Int) (i3 : Int) (i4 : Int) (h : jH)
    (s1 : (jS h a0).1 = 5)
    (s2 : (jS h (jP h a0 0)).1 = 7)
    (e1 : (100 ≤ i4) → ((jI h (jP h a0 0) 4) = 46) → Ex MX7_toNext d [.inr (jP h a0 0)] h 0 0 (fun v h2 => V MX5_readPath (d + 1) 88 [some (.inr a0), some (.inl i1), some (.inl i2), some (.inl i3), some (.inl i4)] (v.toList ++ []) h2 0 0 Q))
    (q1 : (100 ≤ i4) → (¬ ((jI h (jP h a0 0) 4) = 46)) → Q (some (.inl ((-9)))) h)
    (q2 : (¬ (100 ≤ i4)) → Q (some (.inl i4)) h) :
    V MX5_readPath (d + 1) 56 [some (.inr a0), some (.inl i1), some (.inl i2), some (.inl i3), some (.inl i4)] [] h 0 0 Q := by
  refine V_iload (i := 4) dX5_readPath_56 rfl ?_
  refine V_bipush dX5_readPath_58 (by decide +kernel) ⟨by decide, by decide⟩ ?_
  refine V_icmp_ge (tgt := 66) dX5_readPath_60 (by decide) (fun c1 => ?_) (fun c1 => ?_)
  · refine V_aload_n (i := 0) dX5_readPath_66 rfl rfl ?_
    refine V_getP dX5_readPath_67 fX5_9 rfl s1 ?_
    refine V_getI dX5_readPath_70 fX5_33 rfl s2 ?_
    refine V_bipush dX5_readPath_73 (by decide +kernel) ⟨by decide, by decide⟩ ?_
    refine V_icmp_eq (tgt := 81) dX5_readPath_75 (by decide) (fun c2 => ?_) (fun c2 => ?_)
    · refine V_aload_n (i := 0) dX5_readPath_81 rfl rfl ?_
      refine V_getP dX5_readPath_82 fX5_9 rfl s1 ?_
      exact V_callV (M := MX5_readPath) (d := (d + 1)) (mc' := 0) (ms' := 0) (mc := 0) (ms := 0) (As := []) (rest := []) dX5_readPath_85 tX7_toNext vX7_toNext lX5_59 s2 ⟨by decide, rfl⟩ rfl rfl (Nat.le_of_ble_eq_true rfl) (show d + 1 ≤ (d + 1) by omega) (e1 c1 c2)
    · refine V_bipush dX5_readPath_78 (by decide +kernel) ⟨by decide, by decide⟩ ?_
      exact V_reti rfl dX5_readPath_80 (q1 c1 c2)
  · refine V_iload (i := 4) dX5_readPath_63 rfl ?_
    exact V_reti rfl dX5_readPath_65 (q2 c1)
theorem bX5_readPath_88 {d : Nat} {Q : Option jA → jH → Prop} (a0 : Nat) (i1 : Int) (i2 : Int) (i3 : Int) (i4 : Int) (h : jH)
    (r1 : jR (i4 - 100))
    (r2 : jR (i2 + 1))
    (k1 : V MX5_readPath (d + 1) 4 [some (.inr a0), some (.inl (i4 - 100)), some (.inl (i2 + 1)), some (.inl i3), some (.inl i4)] [] h 0 0 Q) :
    V MX5_readPath (d + 1) 88 [some (.inr a0), some (.inl i1), some (.inl i2), some (.inl i3), some (.inl i4)] [] h 0 0 Q := by
  refine V_iload (i := 4) dX5_readPath_88 rfl ?_
  refine V_bipush dX5_readPath_90 (by decide +kernel) ⟨by decide, by decide⟩ ?_
  refine V_isub dX5_readPath_92 r1 ?_
  refine V_istore_n (i := 1) dX5_readPath_93 rfl (by decide) ?_
  refine V_iinc (i := 2) dX5_readPath_94 rfl (by decide) r2 ?_
  refine V_goto (tgt := 4) dX5_readPath_97 (by decide) ?_
  exact k1
