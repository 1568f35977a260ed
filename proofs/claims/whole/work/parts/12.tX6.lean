/-! ===== Block, Recording, Past: decode rows and trees ===== -/
theorem dX0_restart_0 : decode cX0_restart 0 = .ok (.aload_n 0, 1) := by decide +kernel
theorem dX0_restart_1 : decode cX0_restart 1 = .ok (.iload_n 1, 1) := by decide +kernel
theorem dX0_restart_2 : decode cX0_restart 2 = .ok (.putfield 24, 3) := by decide +kernel
theorem dX0_restart_5 : decode cX0_restart 5 = .ok (.aload_n 0, 1) := by decide +kernel
theorem dX0_restart_6 : decode cX0_restart 6 = .ok (.bipush (-9), 2) := by decide +kernel
theorem dX0_restart_8 : decode cX0_restart 8 = .ok (.putfield 28, 3) := by decide +kernel
theorem dX0_restart_11 : decode cX0_restart 11 = .ok (.aload_n 2, 1) := by decide +kernel
theorem dX0_restart_12 : decode cX0_restart 12 = .ok (.iconst 0, 1) := by decide +kernel
theorem dX0_restart_13 : decode cX0_restart 13 = .ok (.aload_n 0, 1) := by decide +kernel
theorem dX0_restart_14 : decode cX0_restart 14 = .ok (.getfield 9, 3) := by decide +kernel
theorem dX0_restart_17 : decode cX0_restart 17 = .ok (.iconst 0, 1) := by decide +kernel
theorem dX0_restart_18 : decode cX0_restart 18 = .ok (.bipush 12, 2) := by decide +kernel
theorem dX0_restart_20 : decode cX0_restart 20 = .ok (.invokestatic 31, 3) := by decide +kernel
theorem dX0_restart_23 : decode cX0_restart 23 = .ok (.aload_n 0, 1) := by decide +kernel
theorem dX0_restart_24 : decode cX0_restart 24 = .ok (.getfield 20, 3) := by decide +kernel
theorem dX0_restart_27 : decode cX0_restart 27 = .ok (.iconst 0, 1) := by decide +kernel
theorem dX0_restart_28 : decode cX0_restart 28 = .ok (.putfield 37, 3) := by decide +kernel
theorem dX0_restart_31 : decode cX0_restart 31 = .ok (.return_, 1) := by decide +kernel
theorem bX0_restart_0 {d : Nat} {Q : Option jA → jH → Prop} (a0 : Nat) (i1 : Int) (a2 : Nat) (h : jH)
    (s1 : (jS h a0).1 = 0)
    (s2 : (jS h a2).1 = 16)
    (s3 : (jS h (jP h a0 2)).1 = 16)
    (s4 : 0 + 12 ≤ ((jS h a2).2 : Int))
    (s5 : 0 + 12 ≤ ((jS h (jP h a0 2)).2 : Int))
    (s6 : (jS h (jP h a0 3)).1 = 1)
    (q1 : Q none (jsI (jcpy (jsI (jsI h a0 0 i1) a0 1 ((-9))) a2 0 (jP h a0 2) 0 12) (jP h a0 3) 0 0)) :
    V MX0_restart d 0 [some (.inr a0), some (.inl i1), some (.inr a2)] [] h 0 0 Q := by
  refine V_aload_n (i := 0) dX0_restart_0 rfl rfl ?_
  refine V_iload_n (i := 1) dX0_restart_1 rfl rfl ?_
  refine V_putI (ci := 0) (kf := 0) dX0_restart_2 fX0_24 rfl rfl s1 ?_
  refine V_aload_n (i := 0) dX0_restart_5 rfl rfl ?_
  refine V_bipush dX0_restart_6 (by decide +kernel) ⟨by decide, by decide⟩ ?_
  refine V_putI (ci := 0) (kf := 1) dX0_restart_8 fX0_28 rfl rfl s1 ?_
  refine V_aload_n (i := 2) dX0_restart_11 rfl rfl ?_
  refine V_iconst dX0_restart_12 ⟨by decide, by decide⟩ ?_
  refine V_aload_n (i := 0) dX0_restart_13 rfl rfl ?_
  refine V_getP dX0_restart_14 fX0_9 rfl s1 ?_
  refine V_iconst dX0_restart_17 ⟨by decide, by decide⟩ ?_
  refine V_bipush dX0_restart_18 (by decide +kernel) ⟨by decide, by decide⟩ ?_
  refine V_copy dX0_restart_20 lX0_31 jacN jacS jacY s2 s3 (by decide) (by decide) (by decide) s4 s5 (Nat.le_of_ble_eq_true rfl) ?_
  refine V_aload_n (i := 0) dX0_restart_23 rfl rfl ?_
  refine V_getP dX0_restart_24 fX0_20 rfl s1 ?_
  refine V_iconst dX0_restart_27 ⟨by decide, by decide⟩ ?_
  refine V_putI (ci := 1) (kf := 0) dX0_restart_28 fX0_37 rfl rfl s6 ?_
  exact V_ret (v := none) rfl rfl dX0_restart_31 trivial rfl q1
theorem dX0_copyFrom_0 : decode cX0_copyFrom 0 = .ok (.aload_n 0, 1) := by decide +kernel
theorem dX0_copyFrom_1 : decode cX0_copyFrom 1 = .ok (.aload_n 1, 1) := by decide +kernel
theorem dX0_copyFrom_2 : decode cX0_copyFrom 2 = .ok (.getfield 24, 3) := by decide +kernel
theorem dX0_copyFrom_5 : decode cX0_copyFrom 5 = .ok (.aload_n 1, 1) := by decide +kernel
theorem dX0_copyFrom_6 : decode cX0_copyFrom 6 = .ok (.getfield 9, 3) := by decide +kernel
theorem dX0_copyFrom_9 : decode cX0_copyFrom 9 = .ok (.invokevirtual 40, 3) := by decide +kernel
theorem dX0_copyFrom_12 : decode cX0_copyFrom 12 = .ok (.aload_n 0, 1) := by decide +kernel
theorem dX0_copyFrom_13 : decode cX0_copyFrom 13 = .ok (.aload_n 1, 1) := by decide +kernel
theorem dX0_copyFrom_14 : decode cX0_copyFrom 14 = .ok (.getfield 28, 3) := by decide +kernel
theorem dX0_copyFrom_17 : decode cX0_copyFrom 17 = .ok (.putfield 28, 3) := by decide +kernel
theorem dX0_copyFrom_20 : decode cX0_copyFrom 20 = .ok (.aload_n 0, 1) := by decide +kernel
theorem dX0_copyFrom_21 : decode cX0_copyFrom 21 = .ok (.getfield 20, 3) := by decide +kernel
theorem dX0_copyFrom_24 : decode cX0_copyFrom 24 = .ok (.aload_n 1, 1) := by decide +kernel
theorem dX0_copyFrom_25 : decode cX0_copyFrom 25 = .ok (.getfield 20, 3) := by decide +kernel
theorem dX0_copyFrom_28 : decode cX0_copyFrom 28 = .ok (.invokevirtual 44, 3) := by decide +kernel
theorem dX0_copyFrom_31 : decode cX0_copyFrom 31 = .ok (.return_, 1) := by decide +kernel
theorem bX0_copyFrom_0 {d : Nat} {Q : Option jA → jH → Prop} (a0 : Nat) (a1 : Nat) (h : jH)
    (s1 : (jS h a1).1 = 0)
    (e1 : Ex MX0_restart d [.inr a0, .inl (jI h a1 0), .inr (jP h a1 2)] h 0 0 (fun v h2 => V MX0_copyFrom (d + 3) 12 [some (.inr a0), some (.inr a1)] (v.toList ++ []) h2 0 0 Q))
    (s2 : (jS h a0).1 = 0) :
    V MX0_copyFrom (d + 3) 0 [some (.inr a0), some (.inr a1)] [] h 0 0 Q := by
  refine V_aload_n (i := 0) dX0_copyFrom_0 rfl rfl ?_
  refine V_aload_n (i := 1) dX0_copyFrom_1 rfl rfl ?_
  refine V_getI dX0_copyFrom_2 fX0_24 rfl s1 ?_
  refine V_aload_n (i := 1) dX0_copyFrom_5 rfl rfl ?_
  refine V_getP dX0_copyFrom_6 fX0_9 rfl s1 ?_
  exact V_callV (M := MX0_copyFrom) (d := (d + 3)) (mc' := 0) (ms' := 0) (mc := 0) (ms := 0) (As := [.inl (jI h a1 0), .inr (jP h a1 2)]) (rest := []) dX0_copyFrom_9 tX0_restart vX0_restart lX0_40 s2 ⟨by decide, rfl⟩ rfl rfl (Nat.le_of_ble_eq_true rfl) (show d + 1 ≤ (d + 3) by omega) e1
theorem bX0_copyFrom_12 {d : Nat} {Q : Option jA → jH → Prop} (a0 : Nat) (a1 : Nat) (h : jH)
    (s1 : (jS h a1).1 = 0)
    (s2 : (jS h a0).1 = 0)
    (e1 : Ex MX1_copyFrom (d + 2) [.inr (jP h a0 3), .inr (jP h a1 3)] (jsI h a0 1 (jI h a1 1)) 0 0 (fun v h2 => V MX0_copyFrom (d + 3) 31 [some (.inr a0), some (.inr a1)] (v.toList ++ []) h2 0 0 Q))
    (s3 : (jS h (jP h a0 3)).1 = 1) :
    V MX0_copyFrom (d + 3) 12 [some (.inr a0), some (.inr a1)] [] h 0 0 Q := by
  refine V_aload_n (i := 0) dX0_copyFrom_12 rfl rfl ?_
  refine V_aload_n (i := 1) dX0_copyFrom_13 rfl rfl ?_
  refine V_getI dX0_copyFrom_14 fX0_28 rfl s1 ?_
  refine V_putI (ci := 0) (kf := 1) dX0_copyFrom_17 fX0_28 rfl rfl s2 ?_
  refine V_aload_n (i := 0) dX0_copyFrom_20 rfl rfl ?_
  refine V_getP dX0_copyFrom_21 fX0_20 rfl s2 ?_
  refine V_aload_n (i := 1) dX0_copyFrom_24 rfl rfl ?_
  refine V_getP dX0_copyFrom_25 fX0_20 rfl s1 ?_
  exact V_callV (M := MX0_copyFrom) (d := (d + 3)) (mc' := 0) (ms' := 0) (mc := 0) (ms := 0) (As := [.inr (jP h a1 3)]) (rest := []) dX0_copyFrom_28 tX1_copyFrom vX1_copyFrom lX0_44 s3 ⟨by decide, rfl⟩ rfl rfl (Nat.le_of_ble_eq_true rfl) (show (d + 2) + 1 ≤ (d + 3) by omega) e1
theorem bX0_copyFrom_31 {d : Nat} {Q : Option jA → jH → Prop} (a0 : Nat) (a1 : Nat) (h : jH)
    (q1 : Q none h) :
    V MX0_copyFrom (d + 3) 31 [some (.inr a0), some (.inr a1)] [] h 0 0 Q := by
  exact V_ret (v := none) rfl rfl dX0_copyFrom_31 trivial rfl q1
theorem dX6_restart_0 : decode cX6_restart 0 = .ok (.aload_n 0, 1) := by decide +kernel
theorem dX6_restart_1 : decode cX6_restart 1 = .ok (.iconst 0, 1) := by decide +kernel
theorem dX6_restart_2 : decode cX6_restart 2 = .ok (.putfield 25, 3) := by decide +kernel
theorem dX6_restart_5 : decode cX6_restart 5 = .ok (.aload_n 0, 1) := by decide +kernel
theorem dX6_restart_6 : decode cX6_restart 6 = .ok (.iconst 1, 1) := by decide +kernel
theorem dX6_restart_7 : decode cX6_restart 7 = .ok (.putfield 29, 3) := by decide +kernel
theorem dX6_restart_10 : decode cX6_restart 10 = .ok (.aload_n 0, 1) := by decide +kernel
theorem dX6_restart_11 : decode cX6_restart 11 = .ok (.iconst 4, 1) := by decide +kernel
theorem dX6_restart_12 : decode cX6_restart 12 = .ok (.putfield 33, 3) := by decide +kernel
theorem dX6_restart_15 : decode cX6_restart 15 = .ok (.aload_n 0, 1) := by decide +kernel
theorem dX6_restart_16 : decode cX6_restart 16 = .ok (.iconst 0, 1) := by decide +kernel
theorem dX6_restart_17 : decode cX6_restart 17 = .ok (.putfield 36, 3) := by decide +kernel
theorem dX6_restart_20 : decode cX6_restart 20 = .ok (.aload_n 0, 1) := by decide +kernel
theorem dX6_restart_21 : decode cX6_restart 21 = .ok (.iconst 0, 1) := by decide +kernel
theorem dX6_restart_22 : decode cX6_restart 22 = .ok (.putfield 39, 3) := by decide +kernel
theorem dX6_restart_25 : decode cX6_restart 25 = .ok (.aload_n 0, 1) := by decide +kernel
theorem dX6_restart_26 : decode cX6_restart 26 = .ok (.getfield 17, 3) := by decide +kernel
theorem dX6_restart_29 : decode cX6_restart 29 = .ok (.iconst 0, 1) := by decide +kernel
theorem dX6_restart_30 : decode cX6_restart 30 = .ok (.invokestatic 42, 3) := by decide +kernel
theorem dX6_restart_33 : decode cX6_restart 33 = .ok (.aload_n 0, 1) := by decide +kernel
theorem dX6_restart_34 : decode cX6_restart 34 = .ok (.invokevirtual 48, 3) := by decide +kernel
theorem dX6_restart_37 : decode cX6_restart 37 = .ok (.return_, 1) := by decide +kernel
theorem bX6_restart_0 {d : Nat} {Q : Option jA → jH → Prop} (a0 : Nat) (h : jH)
    (s1 : (jS h a0).1 = 6)
    (e1 : Ex MJ7_fill_53178 d [.inr (jP h a0 6), .inl 0] (jsI (jsI (jsI (jsI (jsI h a0 0 0) a0 1 1) a0 2 4) a0 3 0) a0 4 0) 0 0 (fun v h2 => V MX6_restart (d + 2) 33 [some (.inr a0)] (v.toList ++ []) h2 0 0 Q)) :
    V MX6_restart (d + 2) 0 [some (.inr a0)] [] h 0 0 Q := by
  refine V_aload_n (i := 0) dX6_restart_0 rfl rfl ?_
  refine V_iconst dX6_restart_1 ⟨by decide, by decide⟩ ?_
  refine V_putI (ci := 6) (kf := 0) dX6_restart_2 fX6_25 rfl rfl s1 ?_
  refine V_aload_n (i := 0) dX6_restart_5 rfl rfl ?_
  refine V_iconst dX6_restart_6 ⟨by decide, by decide⟩ ?_
  refine V_putZ (ci := 6) (kf := 1) dX6_restart_7 fX6_29 rfl rfl s1 (by decide) ?_
  refine V_aload_n (i := 0) dX6_restart_10 rfl rfl ?_
  refine V_iconst dX6_restart_11 ⟨by decide, by decide⟩ ?_
  refine V_putI (ci := 6) (kf := 2) dX6_restart_12 fX6_33 rfl rfl s1 ?_
  refine V_aload_n (i := 0) dX6_restart_15 rfl rfl ?_
  refine V_iconst dX6_restart_16 ⟨by decide, by decide⟩ ?_
  refine V_putI (ci := 6) (kf := 3) dX6_restart_17 fX6_36 rfl rfl s1 ?_
  refine V_aload_n (i := 0) dX6_restart_20 rfl rfl ?_
  refine V_iconst dX6_restart_21 ⟨by decide, by decide⟩ ?_
  refine V_putI (ci := 6) (kf := 4) dX6_restart_22 fX6_39 rfl rfl s1 ?_
  refine V_aload_n (i := 0) dX6_restart_25 rfl rfl ?_
  refine V_getP dX6_restart_26 fX6_17 rfl s1 ?_
  refine V_iconst dX6_restart_29 ⟨by decide, by decide⟩ ?_
  exact V_callS (M := MX6_restart) (d := (d + 2)) (mc' := 0) (ms' := 0) (mc := 0) (ms := 0) (a := 0) (As := [.inr (jP h a0 6), .inl 0]) (rest := []) dX6_restart_30 tJ7_fill_53178 sJ7_fill_53178 lX6_42 rfl rfl (Nat.le_of_ble_eq_true rfl) (show d + 1 ≤ (d + 2) by omega) e1
theorem bX6_restart_33 {d : Nat} {Q : Option jA → jH → Prop} (a0 : Nat) (h : jH)
    (e1 : Ex MX6_beginBlock (d + 1) [.inr a0] h 0 0 (fun v h2 => V MX6_restart (d + 2) 37 [some (.inr a0)] (v.toList ++ []) h2 0 0 Q))
    (s1 : (jS h a0).1 = 6) :
    V MX6_restart (d + 2) 33 [some (.inr a0)] [] h 0 0 Q := by
  refine V_aload_n (i := 0) dX6_restart_33 rfl rfl ?_
  exact V_callV (M := MX6_restart) (d := (d + 2)) (mc' := 0) (ms' := 0) (mc := 0) (ms := 0) (As := []) (rest := []) dX6_restart_34 tX6_beginBlock vX6_beginBlock lX6_48 s1 ⟨by decide, rfl⟩ rfl rfl (Nat.le_of_ble_eq_true rfl) (show (d + 1) + 1 ≤ (d + 2) by omega) e1
theorem bX6_restart_37 {d : Nat} {Q : Option jA → jH → Prop} (a0 : Nat) (h : jH)
    (q1 : Q none h) :
    V MX6_restart (d + 2) 37 [some (.inr a0)] [] h 0 0 Q := by
  exact V_ret (v := none) rfl rfl dX6_restart_37 trivial rfl q1
theorem dX6_copyFrom_0 : decode cX6_copyFrom 0 = .ok (.aload_n 0, 1) := by decide +kernel
theorem dX6_copyFrom_1 : decode cX6_copyFrom 1 = .ok (.aload_n 1, 1) := by decide +kernel
theorem dX6_copyFrom_2 : decode cX6_copyFrom 2 = .ok (.getfield 25, 3) := by decide +kernel
theorem dX6_copyFrom_5 : decode cX6_copyFrom 5 = .ok (.putfield 25, 3) := by decide +kernel
theorem dX6_copyFrom_8 : decode cX6_copyFrom 8 = .ok (.aload_n 0, 1) := by decide +kernel
theorem dX6_copyFrom_9 : decode cX6_copyFrom 9 = .ok (.aload_n 1, 1) := by decide +kernel
theorem dX6_copyFrom_10 : decode cX6_copyFrom 10 = .ok (.getfield 29, 3) := by decide +kernel
theorem dX6_copyFrom_13 : decode cX6_copyFrom 13 = .ok (.putfield 29, 3) := by decide +kernel
theorem dX6_copyFrom_16 : decode cX6_copyFrom 16 = .ok (.aload_n 0, 1) := by decide +kernel
theorem dX6_copyFrom_17 : decode cX6_copyFrom 17 = .ok (.aload_n 1, 1) := by decide +kernel
theorem dX6_copyFrom_18 : decode cX6_copyFrom 18 = .ok (.getfield 33, 3) := by decide +kernel
theorem dX6_copyFrom_21 : decode cX6_copyFrom 21 = .ok (.putfield 33, 3) := by decide +kernel
theorem dX6_copyFrom_24 : decode cX6_copyFrom 24 = .ok (.aload_n 0, 1) := by decide +kernel
theorem dX6_copyFrom_25 : decode cX6_copyFrom 25 = .ok (.aload_n 1, 1) := by decide +kernel
theorem dX6_copyFrom_26 : decode cX6_copyFrom 26 = .ok (.getfield 36, 3) := by decide +kernel
theorem dX6_copyFrom_29 : decode cX6_copyFrom 29 = .ok (.putfield 36, 3) := by decide +kernel
theorem dX6_copyFrom_32 : decode cX6_copyFrom 32 = .ok (.aload_n 0, 1) := by decide +kernel
theorem dX6_copyFrom_33 : decode cX6_copyFrom 33 = .ok (.aload_n 1, 1) := by decide +kernel
theorem dX6_copyFrom_34 : decode cX6_copyFrom 34 = .ok (.getfield 39, 3) := by decide +kernel
theorem dX6_copyFrom_37 : decode cX6_copyFrom 37 = .ok (.putfield 39, 3) := by decide +kernel
theorem dX6_copyFrom_40 : decode cX6_copyFrom 40 = .ok (.aload_n 1, 1) := by decide +kernel
theorem dX6_copyFrom_41 : decode cX6_copyFrom 41 = .ok (.getfield 17, 3) := by decide +kernel
theorem dX6_copyFrom_44 : decode cX6_copyFrom 44 = .ok (.iconst 0, 1) := by decide +kernel
theorem dX6_copyFrom_45 : decode cX6_copyFrom 45 = .ok (.aload_n 0, 1) := by decide +kernel
theorem dX6_copyFrom_46 : decode cX6_copyFrom 46 = .ok (.getfield 17, 3) := by decide +kernel
theorem dX6_copyFrom_49 : decode cX6_copyFrom 49 = .ok (.iconst 0, 1) := by decide +kernel
theorem dX6_copyFrom_50 : decode cX6_copyFrom 50 = .ok (.bipush 12, 2) := by decide +kernel
theorem dX6_copyFrom_52 : decode cX6_copyFrom 52 = .ok (.invokestatic 51, 3) := by decide +kernel
theorem dX6_copyFrom_55 : decode cX6_copyFrom 55 = .ok (.iconst 0, 1) := by decide +kernel
theorem dX6_copyFrom_56 : decode cX6_copyFrom 56 = .ok (.istore_n 2, 1) := by decide +kernel
theorem dX6_copyFrom_57 : decode cX6_copyFrom 57 = .ok (.iload_n 2, 1) := by decide +kernel
theorem dX6_copyFrom_58 : decode cX6_copyFrom 58 = .ok (.aload_n 0, 1) := by decide +kernel
theorem dX6_copyFrom_59 : decode cX6_copyFrom 59 = .ok (.getfield 39, 3) := by decide +kernel
theorem dX6_copyFrom_62 : decode cX6_copyFrom 62 = .ok (.if_icmp .ge 24, 3) := by decide +kernel
theorem dX6_copyFrom_65 : decode cX6_copyFrom 65 = .ok (.aload_n 0, 1) := by decide +kernel
theorem dX6_copyFrom_66 : decode cX6_copyFrom 66 = .ok (.getfield 11, 3) := by decide +kernel
theorem dX6_copyFrom_69 : decode cX6_copyFrom 69 = .ok (.iload_n 2, 1) := by decide +kernel
theorem dX6_copyFrom_70 : decode cX6_copyFrom 70 = .ok (.aaload, 1) := by decide +kernel
theorem dX6_copyFrom_71 : decode cX6_copyFrom 71 = .ok (.aload_n 1, 1) := by decide +kernel
theorem dX6_copyFrom_72 : decode cX6_copyFrom 72 = .ok (.getfield 11, 3) := by decide +kernel
theorem dX6_copyFrom_75 : decode cX6_copyFrom 75 = .ok (.iload_n 2, 1) := by decide +kernel
theorem dX6_copyFrom_76 : decode cX6_copyFrom 76 = .ok (.aaload, 1) := by decide +kernel
theorem dX6_copyFrom_77 : decode cX6_copyFrom 77 = .ok (.invokevirtual 57, 3) := by decide +kernel
theorem dX6_copyFrom_80 : decode cX6_copyFrom 80 = .ok (.iinc 2 1, 3) := by decide +kernel
theorem dX6_copyFrom_83 : decode cX6_copyFrom 83 = .ok (.goto (-26), 3) := by decide +kernel
theorem dX6_copyFrom_86 : decode cX6_copyFrom 86 = .ok (.return_, 1) := by decide +kernel
theorem bX6_copyFrom_0 {d : Nat} {Q : Option jA → jH → Prop} (a0 : Nat) (a1 : Nat) (u2 : Option jA) (h : jH)
    (s1 : (jS h a1).1 = 6)
    (s2 : (jS h a0).1 = 6)
    (z1 : jI h a1 1 = 0 ∨ jI h a1 1 = 1)
    (s3 : (jS h (jP h a1 6)).1 = 16)
    (s4 : (jS h (jP h a0 6)).1 = 16)
    (s5 : 0 + 12 ≤ ((jS h (jP h a1 6)).2 : Int))
    (s6 : 0 + 12 ≤ ((jS h (jP h a0 6)).2 : Int))
    (k1 : V MX6_copyFrom (d + 4) 57 [some (.inr a0), some (.inr a1), some (.inl 0)] [] (jcpy (jsI (jsI (jsI (jsI (jsI h a0 0 (jI h a1 0)) a0 1 (jI h a1 1)) a0 2 (jI h a1 2)) a0 3 (jI h a1 3)) a0 4 (jI h a1 4)) (jP h a1 6) 0 (jP h a0 6) 0 12) 0 0 Q) :
    V MX6_copyFrom (d + 4) 0 [some (.inr a0), some (.inr a1), u2] [] h 0 0 Q := by
  refine V_aload_n (i := 0) dX6_copyFrom_0 rfl rfl ?_
  refine V_aload_n (i := 1) dX6_copyFrom_1 rfl rfl ?_
  refine V_getI dX6_copyFrom_2 fX6_25 rfl s1 ?_
  refine V_putI (ci := 6) (kf := 0) dX6_copyFrom_5 fX6_25 rfl rfl s2 ?_
  refine V_aload_n (i := 0) dX6_copyFrom_8 rfl rfl ?_
  refine V_aload_n (i := 1) dX6_copyFrom_9 rfl rfl ?_
  refine V_getI dX6_copyFrom_10 fX6_29 rfl s1 ?_
  refine V_topI (jI_ne (by decide)) ?_
  refine V_putZ (ci := 6) (kf := 1) dX6_copyFrom_13 fX6_29 rfl rfl s2 z1 ?_
  refine V_aload_n (i := 0) dX6_copyFrom_16 rfl rfl ?_
  refine V_aload_n (i := 1) dX6_copyFrom_17 rfl rfl ?_
  refine V_getI dX6_copyFrom_18 fX6_33 rfl s1 ?_
  refine V_topI ((jI_ne (by decide)).trans (jI_ne (by decide))) ?_
  refine V_putI (ci := 6) (kf := 2) dX6_copyFrom_21 fX6_33 rfl rfl s2 ?_
  refine V_aload_n (i := 0) dX6_copyFrom_24 rfl rfl ?_
  refine V_aload_n (i := 1) dX6_copyFrom_25 rfl rfl ?_
  refine V_getI dX6_copyFrom_26 fX6_36 rfl s1 ?_
  refine V_topI ((jI_ne (by decide)).trans ((jI_ne (by decide)).trans (jI_ne (by decide)))) ?_
  refine V_putI (ci := 6) (kf := 3) dX6_copyFrom_29 fX6_36 rfl rfl s2 ?_
  refine V_aload_n (i := 0) dX6_copyFrom_32 rfl rfl ?_
  refine V_aload_n (i := 1) dX6_copyFrom_33 rfl rfl ?_
  refine V_getI dX6_copyFrom_34 fX6_39 rfl s1 ?_
  refine V_topI ((jI_ne (by decide)).trans ((jI_ne (by decide)).trans ((jI_ne (by decide)).trans (jI_ne (by decide))))) ?_
  refine V_putI (ci := 6) (kf := 4) dX6_copyFrom_37 fX6_39 rfl rfl s2 ?_
  refine V_aload_n (i := 1) dX6_copyFrom_40 rfl rfl ?_
  refine V_getP dX6_copyFrom_41 fX6_17 rfl s1 ?_
  refine V_iconst dX6_copyFrom_44 ⟨by decide, by decide⟩ ?_
  refine V_aload_n (i := 0) dX6_copyFrom_45 rfl rfl ?_
  refine V_getP dX6_copyFrom_46 fX6_17 rfl s2 ?_
  refine V_iconst dX6_copyFrom_49 ⟨by decide, by decide⟩ ?_
  refine V_bipush dX6_copyFrom_50 (by decide +kernel) ⟨by decide, by decide⟩ ?_
  refine V_copy dX6_copyFrom_52 lX6_51 jacN jacS jacY s3 s4 (by decide) (by decide) (by decide) s5 s6 (Nat.le_of_ble_eq_true rfl) ?_
  refine V_iconst dX6_copyFrom_55 ⟨by decide, by decide⟩ ?_
  refine V_istore_n (i := 2) dX6_copyFrom_56 rfl (by decide) ?_
  exact k1
theorem bX6_copyFrom_57 {d : Nat} {Q : Option jA → jH → Prop} (a0 : Nat) (a1 : Nat) (i2 : Int) (h : jH)
    (s1 : (jS h a0).1 = 6)
    (q1 : ((jI h a0 4) ≤ i2) → Q none h)
    (s2 : (jS h (jP h a0 5)).1 = 18)
    (s3 : (¬ ((jI h a0 4) ≤ i2)) → 0 ≤ i2)
    (s4 : (¬ ((jI h a0 4) ≤ i2)) → i2 < ((jS h (jP h a0 5)).2 : Int))
    (s5 : (jS h a1).1 = 6)
    (s6 : (jS h (jP h a1 5)).1 = 18)
    (s7 : (¬ ((jI h a0 4) ≤ i2)) → i2 < ((jS h (jP h a1 5)).2 : Int))
    (e1 : (¬ ((jI h a0 4) ≤ i2)) → Ex MX0_copyFrom (d + 3) [.inr (jY h (jP h a0 5) ((i2).toNat)), .inr (jY h (jP h a1 5) ((i2).toNat))] h 0 0 (fun v h2 => V MX6_copyFrom (d + 4) 80 [some (.inr a0), some (.inr a1), some (.inl i2)] (v.toList ++ []) h2 0 0 Q))
    (s8 : (¬ ((jI h a0 4) ≤ i2)) → (jS h (jY h (jP h a0 5) ((i2).toNat))).1 = 0) :
    V MX6_copyFrom (d + 4) 57 [some (.inr a0), some (.inr a1), some (.inl i2)] [] h 0 0 Q := by
  refine V_iload_n (i := 2) dX6_copyFrom_57 rfl rfl ?_
  refine V_aload_n (i := 0) dX6_copyFrom_58 rfl rfl ?_
  refine V_getI dX6_copyFrom_59 fX6_39 rfl s1 ?_
  refine V_icmp_ge (tgt := 86) dX6_copyFrom_62 (by decide) (fun c1 => ?_) (fun c1 => ?_)
  · exact V_ret (v := none) rfl rfl dX6_copyFrom_86 trivial rfl (q1 c1)
  · refine V_aload_n (i := 0) dX6_copyFrom_65 rfl rfl ?_
    refine V_getP dX6_copyFrom_66 fX6_11 rfl s1 ?_
    refine V_iload_n (i := 2) dX6_copyFrom_69 rfl rfl ?_
    refine V_aald18 dX6_copyFrom_70 s2 (s3 c1) (s4 c1) ?_
    refine V_aload_n (i := 1) dX6_copyFrom_71 rfl rfl ?_
    refine V_getP dX6_copyFrom_72 fX6_11 rfl s5 ?_
    refine V_iload_n (i := 2) dX6_copyFrom_75 rfl rfl ?_
    refine V_aald18 dX6_copyFrom_76 s6 (s3 c1) (s7 c1) ?_
    exact V_callV (M := MX6_copyFrom) (d := (d + 4)) (mc' := 0) (ms' := 0) (mc := 0) (ms := 0) (As := [.inr (jY h (jP h a1 5) ((i2).toNat))]) (rest := []) dX6_copyFrom_77 tX0_copyFrom vX0_copyFrom lX6_57 (s8 c1) ⟨by decide, rfl⟩ rfl rfl (Nat.le_of_ble_eq_true rfl) (show (d + 3) + 1 ≤ (d + 4) by omega) (e1 c1)
theorem bX6_copyFrom_80 {d : Nat} {Q : Option jA → jH → Prop} (a0 : Nat) (a1 : Nat) (i2 : Int) (h : jH)
    (r1 : jR (i2 + 1))
    (k1 : V MX6_copyFrom (d + 4) 57 [some (.inr a0), some (.inr a1), some (.inl (i2 + 1))] [] h 0 0 Q) :
    V MX6_copyFrom (d + 4) 80 [some (.inr a0), some (.inr a1), some (.inl i2)] [] h 0 0 Q := by
  refine V_iinc (i := 2) dX6_copyFrom_80 rfl (by decide) r1 ?_
  refine V_goto (tgt := 57) dX6_copyFrom_83 (by decide) ?_
  exact k1
theorem dX6_give_0 : decode cX6_give 0 = .ok (.aload_n 0, 1) := by decide +kernel
theorem dX6_give_1 : decode cX6_give 1 = .ok (.getfield 29, 3) := by decide +kernel
theorem dX6_give_4 : decode cX6_give 4 = .ok (.ifCond .eq 54, 3) := by decide +kernel
theorem dX6_give_7 : decode cX6_give 7 = .ok (.aload_n 0, 1) := by decide +kernel
theorem dX6_give_8 : decode cX6_give 8 = .ok (.getfield 11, 3) := by decide +kernel
theorem dX6_give_11 : decode cX6_give 11 = .ok (.aload_n 0, 1) := by decide +kernel
theorem dX6_give_12 : decode cX6_give 12 = .ok (.getfield 39, 3) := by decide +kernel
theorem dX6_give_15 : decode cX6_give 15 = .ok (.iconst 1, 1) := by decide +kernel
theorem dX6_give_16 : decode cX6_give 16 = .ok (.isub, 1) := by decide +kernel
theorem dX6_give_17 : decode cX6_give 17 = .ok (.aaload, 1) := by decide +kernel
theorem dX6_give_18 : decode cX6_give 18 = .ok (.getfield 61, 3) := by decide +kernel
theorem dX6_give_21 : decode cX6_give 21 = .ok (.getfield 65, 3) := by decide +kernel
theorem dX6_give_24 : decode cX6_give 24 = .ok (.aload_n 0, 1) := by decide +kernel
theorem dX6_give_25 : decode cX6_give 25 = .ok (.getfield 33, 3) := by decide +kernel
theorem dX6_give_28 : decode cX6_give 28 = .ok (.if_icmp .lt 7, 3) := by decide +kernel
theorem dX6_give_31 : decode cX6_give 31 = .ok (.aload_n 0, 1) := by decide +kernel
theorem dX6_give_32 : decode cX6_give 32 = .ok (.invokevirtual 48, 3) := by decide +kernel
theorem dX6_give_35 : decode cX6_give 35 = .ok (.aload_n 0, 1) := by decide +kernel
theorem dX6_give_36 : decode cX6_give 36 = .ok (.getfield 11, 3) := by decide +kernel
theorem dX6_give_39 : decode cX6_give 39 = .ok (.aload_n 0, 1) := by decide +kernel
theorem dX6_give_40 : decode cX6_give 40 = .ok (.getfield 39, 3) := by decide +kernel
theorem dX6_give_43 : decode cX6_give 43 = .ok (.iconst 1, 1) := by decide +kernel
theorem dX6_give_44 : decode cX6_give 44 = .ok (.isub, 1) := by decide +kernel
theorem dX6_give_45 : decode cX6_give 45 = .ok (.aaload, 1) := by decide +kernel
theorem dX6_give_46 : decode cX6_give 46 = .ok (.getfield 61, 3) := by decide +kernel
theorem dX6_give_49 : decode cX6_give 49 = .ok (.aload_n 0, 1) := by decide +kernel
theorem dX6_give_50 : decode cX6_give 50 = .ok (.getfield 25, 3) := by decide +kernel
theorem dX6_give_53 : decode cX6_give 53 = .ok (.iload_n 1, 1) := by decide +kernel
theorem dX6_give_54 : decode cX6_give 54 = .ok (.iload_n 2, 1) := by decide +kernel
theorem dX6_give_55 : decode cX6_give 55 = .ok (.invokevirtual 68, 3) := by decide +kernel
theorem dX6_give_58 : decode cX6_give 58 = .ok (.aload_n 0, 1) := by decide +kernel
theorem dX6_give_59 : decode cX6_give 59 = .ok (.getfield 17, 3) := by decide +kernel
theorem dX6_give_62 : decode cX6_give 62 = .ok (.iload_n 1, 1) := by decide +kernel
theorem dX6_give_63 : decode cX6_give 63 = .ok (.iload_n 2, 1) := by decide +kernel
theorem dX6_give_64 : decode cX6_give 64 = .ok (.iastore, 1) := by decide +kernel
theorem dX6_give_65 : decode cX6_give 65 = .ok (.return_, 1) := by decide +kernel
theorem bX6_give_0 {d : Nat} {Q : Option jA → jH → Prop} (a0 : Nat) (i1 : Int) (i2 : Int) (h : jH)
    (s1 : (jS h a0).1 = 6)
    (s2 : (jS h (jP h a0 6)).1 = 16)
    (s3 : ((jI h a0 1) = 0) → 0 ≤ i1)
    (s4 : ((jI h a0 1) = 0) → i1 < ((jS h (jP h a0 6)).2 : Int))
    (q1 : ((jI h a0 1) = 0) → Q none (jsX h (jP h a0 6) ((i1).toNat) i2))
    (r1 : (¬ ((jI h a0 1) = 0)) → jR ((jI h a0 4) - 1))
    (s5 : (jS h (jP h a0 5)).1 = 18)
    (s6 : (¬ ((jI h a0 1) = 0)) → 0 ≤ (jI h a0 4) - 1)
    (s7 : (¬ ((jI h a0 1) = 0)) → (jI h a0 4) - 1 < ((jS h (jP h a0 5)).2 : Int))
    (s8 : (¬ ((jI h a0 1) = 0)) → (jS h (jY h (jP h a0 5) (((jI h a0 4) - 1).toNat))).1 = 0)
    (s9 : (¬ ((jI h a0 1) = 0)) → (jS h (jP h (jY h (jP h a0 5) (((jI h a0 4) - 1).toNat)) 3)).1 = 1)
    (r2 : (¬ ((jI h a0 1) = 0)) → ((jI h (jP h (jY h (jP h a0 5) (((jI h a0 4) - 1).toNat)) 3) 0) < (jI h a0 2)) → jR ((jI h a0 4) - 1))
    (e1 : (¬ ((jI h a0 1) = 0)) → ((jI h (jP h (jY h (jP h a0 5) (((jI h a0 4) - 1).toNat)) 3) 0) < (jI h a0 2)) → Ex MX1_add d [.inr (jP h (jY h (jP h a0 5) (((jI h a0 4) - 1).toNat)) 3), .inl (jI h a0 0), .inl i1, .inl i2] h 0 0 (fun v h2 => V MX6_give (d + 2) 58 [some (.inr a0), some (.inl i1), some (.inl i2)] (v.toList ++ []) h2 0 0 Q))
    (e2 : (¬ ((jI h a0 1) = 0)) → (¬ ((jI h (jP h (jY h (jP h a0 5) (((jI h a0 4) - 1).toNat)) 3) 0) < (jI h a0 2))) → Ex MX6_beginBlock (d + 1) [.inr a0] h 0 0 (fun v h2 => V MX6_give (d + 2) 35 [some (.inr a0), some (.inl i1), some (.inl i2)] (v.toList ++ []) h2 0 0 Q)) :
    V MX6_give (d + 2) 0 [some (.inr a0), some (.inl i1), some (.inl i2)] [] h 0 0 Q := by
  refine V_aload_n (i := 0) dX6_give_0 rfl rfl ?_
  refine V_getI dX6_give_1 fX6_29 rfl s1 ?_
  refine V_if_eq (tgt := 58) dX6_give_4 (by decide) (fun c1 => ?_) (fun c1 => ?_)
  · refine V_aload_n (i := 0) dX6_give_58 rfl rfl ?_
    refine V_getP dX6_give_59 fX6_17 rfl s1 ?_
    refine V_iload_n (i := 1) dX6_give_62 rfl rfl ?_
    refine V_iload_n (i := 2) dX6_give_63 rfl rfl ?_
    refine V_iast dX6_give_64 s2 (s3 c1) (s4 c1) ?_
    exact V_ret (v := none) rfl rfl dX6_give_65 trivial rfl (q1 c1)
  · refine V_aload_n (i := 0) dX6_give_7 rfl rfl ?_
    refine V_getP dX6_give_8 fX6_11 rfl s1 ?_
    refine V_aload_n (i := 0) dX6_give_11 rfl rfl ?_
    refine V_getI dX6_give_12 fX6_39 rfl s1 ?_
    refine V_iconst dX6_give_15 ⟨by decide, by decide⟩ ?_
    refine V_isub dX6_give_16 (r1 c1) ?_
    refine V_aald18 dX6_give_17 s5 (s6 c1) (s7 c1) ?_
    refine V_getP dX6_give_18 fX6_61 rfl (s8 c1) ?_
    refine V_getI dX6_give_21 fX6_65 rfl (s9 c1) ?_
    refine V_aload_n (i := 0) dX6_give_24 rfl rfl ?_
    refine V_getI dX6_give_25 fX6_33 rfl s1 ?_
    refine V_icmp_lt (tgt := 35) dX6_give_28 (by decide) (fun c2 => ?_) (fun c2 => ?_)
    · refine V_aload_n (i := 0) dX6_give_35 rfl rfl ?_
      refine V_getP dX6_give_36 fX6_11 rfl s1 ?_
      refine V_aload_n (i := 0) dX6_give_39 rfl rfl ?_
      refine V_getI dX6_give_40 fX6_39 rfl s1 ?_
      refine V_iconst dX6_give_43 ⟨by decide, by decide⟩ ?_
      refine V_isub dX6_give_44 (r2 c1 c2) ?_
      refine V_aald18 dX6_give_45 s5 (s6 c1) (s7 c1) ?_
      refine V_getP dX6_give_46 fX6_61 rfl (s8 c1) ?_
      refine V_aload_n (i := 0) dX6_give_49 rfl rfl ?_
      refine V_getI dX6_give_50 fX6_25 rfl s1 ?_
      refine V_iload_n (i := 1) dX6_give_53 rfl rfl ?_
      refine V_iload_n (i := 2) dX6_give_54 rfl rfl ?_
      exact V_callV (M := MX6_give) (d := (d + 2)) (mc' := 0) (ms' := 0) (mc := 0) (ms := 0) (As := [.inl (jI h a0 0), .inl i1, .inl i2]) (rest := []) dX6_give_55 tX1_add vX1_add lX6_68 (s9 c1) ⟨by decide, rfl⟩ rfl rfl (Nat.le_of_ble_eq_true rfl) (show d + 1 ≤ (d + 2) by omega) (e1 c1 c2)
    · refine V_aload_n (i := 0) dX6_give_31 rfl rfl ?_
      exact V_callV (M := MX6_give) (d := (d + 2)) (mc' := 0) (ms' := 0) (mc := 0) (ms := 0) (As := []) (rest := []) dX6_give_32 tX6_beginBlock vX6_beginBlock lX6_48 s1 ⟨by decide, rfl⟩ rfl rfl (Nat.le_of_ble_eq_true rfl) (show (d + 1) + 1 ≤ (d + 2) by omega) (e2 c1 c2)
theorem bX6_give_58 {d : Nat} {Q : Option jA → jH → Prop} (a0 : Nat) (i1 : Int) (i2 : Int) (h : jH)
    (s1 : (jS h a0).1 = 6)
    (s2 : (jS h (jP h a0 6)).1 = 16)
    (s3 : 0 ≤ i1)
    (s4 : i1 < ((jS h (jP h a0 6)).2 : Int))
    (q1 : Q none (jsX h (jP h a0 6) ((i1).toNat) i2)) :
    V MX6_give (d + 2) 58 [some (.inr a0), some (.inl i1), some (.inl i2)] [] h 0 0 Q := by
  refine V_aload_n (i := 0) dX6_give_58 rfl rfl ?_
  refine V_getP dX6_give_59 fX6_17 rfl s1 ?_
  refine V_iload_n (i := 1) dX6_give_62 rfl rfl ?_
  refine V_iload_n (i := 2) dX6_give_63 rfl rfl ?_
  refine V_iast dX6_give_64 s2 s3 s4 ?_
  exact V_ret (v := none) rfl rfl dX6_give_65 trivial rfl q1
theorem bX6_give_35 {d : Nat} {Q : Option jA → jH → Prop} (a0 : Nat) (i1 : Int) (i2 : Int) (h : jH)
    (s1 : (jS h a0).1 = 6)
    (r1 : jR ((jI h a0 4) - 1))
    (s2 : (jS h (jP h a0 5)).1 = 18)
    (s3 : 0 ≤ (jI h a0 4) - 1)
    (s4 : (jI h a0 4) - 1 < ((jS h (jP h a0 5)).2 : Int))
    (s5 : (jS h (jY h (jP h a0 5) (((jI h a0 4) - 1).toNat))).1 = 0)
    (e1 : Ex MX1_add d [.inr (jP h (jY h (jP h a0 5) (((jI h a0 4) - 1).toNat)) 3), .inl (jI h a0 0), .inl i1, .inl i2] h 0 0 (fun v h2 => V MX6_give (d + 2) 58 [some (.inr a0), some (.inl i1), some (.inl i2)] (v.toList ++ []) h2 0 0 Q))
    (s6 : (jS h (jP h (jY h (jP h a0 5) (((jI h a0 4) - 1).toNat)) 3)).1 = 1) :
    V MX6_give (d + 2) 35 [some (.inr a0), some (.inl i1), some (.inl i2)] [] h 0 0 Q := by
  refine V_aload_n (i := 0) dX6_give_35 rfl rfl ?_
  refine V_getP dX6_give_36 fX6_11 rfl s1 ?_
  refine V_aload_n (i := 0) dX6_give_39 rfl rfl ?_
  refine V_getI dX6_give_40 fX6_39 rfl s1 ?_
  refine V_iconst dX6_give_43 ⟨by decide, by decide⟩ ?_
  refine V_isub dX6_give_44 r1 ?_
  refine V_aald18 dX6_give_45 s2 s3 s4 ?_
  refine V_getP dX6_give_46 fX6_61 rfl s5 ?_
  refine V_aload_n (i := 0) dX6_give_49 rfl rfl ?_
  refine V_getI dX6_give_50 fX6_25 rfl s1 ?_
  refine V_iload_n (i := 1) dX6_give_53 rfl rfl ?_
  refine V_iload_n (i := 2) dX6_give_54 rfl rfl ?_
  exact V_callV (M := MX6_give) (d := (d + 2)) (mc' := 0) (ms' := 0) (mc := 0) (ms := 0) (As := [.inl (jI h a0 0), .inl i1, .inl i2]) (rest := []) dX6_give_55 tX1_add vX1_add lX6_68 s6 ⟨by decide, rfl⟩ rfl rfl (Nat.le_of_ble_eq_true rfl) (show d + 1 ≤ (d + 2) by omega) e1
theorem dX6_turn_0 : decode cX6_turn 0 = .ok (.aload_n 0, 1) := by decide +kernel
theorem dX6_turn_1 : decode cX6_turn 1 = .ok (.iload_n 1, 1) := by decide +kernel
theorem dX6_turn_2 : decode cX6_turn 2 = .ok (.putfield 29, 3) := by decide +kernel
theorem dX6_turn_5 : decode cX6_turn 5 = .ok (.aload_n 0, 1) := by decide +kernel
theorem dX6_turn_6 : decode cX6_turn 6 = .ok (.getfield 29, 3) := by decide +kernel
theorem dX6_turn_9 : decode cX6_turn 9 = .ok (.ifCond .eq 10, 3) := by decide +kernel
theorem dX6_turn_12 : decode cX6_turn 12 = .ok (.aload_n 0, 1) := by decide +kernel
theorem dX6_turn_13 : decode cX6_turn 13 = .ok (.invokevirtual 48, 3) := by decide +kernel
theorem dX6_turn_16 : decode cX6_turn 16 = .ok (.goto 21, 3) := by decide +kernel
theorem dX6_turn_19 : decode cX6_turn 19 = .ok (.aload_n 0, 1) := by decide +kernel
theorem dX6_turn_20 : decode cX6_turn 20 = .ok (.getfield 11, 3) := by decide +kernel
theorem dX6_turn_23 : decode cX6_turn 23 = .ok (.aload_n 0, 1) := by decide +kernel
theorem dX6_turn_24 : decode cX6_turn 24 = .ok (.getfield 39, 3) := by decide +kernel
theorem dX6_turn_27 : decode cX6_turn 27 = .ok (.iconst 1, 1) := by decide +kernel
theorem dX6_turn_28 : decode cX6_turn 28 = .ok (.isub, 1) := by decide +kernel
theorem dX6_turn_29 : decode cX6_turn 29 = .ok (.aaload, 1) := by decide +kernel
theorem dX6_turn_30 : decode cX6_turn 30 = .ok (.aload_n 0, 1) := by decide +kernel
theorem dX6_turn_31 : decode cX6_turn 31 = .ok (.getfield 25, 3) := by decide +kernel
theorem dX6_turn_34 : decode cX6_turn 34 = .ok (.putfield 72, 3) := by decide +kernel
theorem dX6_turn_37 : decode cX6_turn 37 = .ok (.return_, 1) := by decide +kernel
theorem bX6_turn_0 {d : Nat} {Q : Option jA → jH → Prop} (a0 : Nat) (i1 : Int) (h : jH)
    (s1 : (jS h a0).1 = 6)
    (z1 : i1 = 0 ∨ i1 = 1)
    (r1 : (i1 = 0) → jR ((jI h a0 4) - 1))
    (s2 : (jS h (jP h a0 5)).1 = 18)
    (s3 : (i1 = 0) → 0 ≤ (jI h a0 4) - 1)
    (s4 : (i1 = 0) → (jI h a0 4) - 1 < ((jS h (jP h a0 5)).2 : Int))
    (s5 : (i1 = 0) → (jS h (jY h (jP h a0 5) (((jI h a0 4) - 1).toNat))).1 = 0)
    (q1 : (i1 = 0) → Q none (jsI (jsI h a0 1 i1) (jY h (jP h a0 5) (((jI h a0 4) - 1).toNat)) 1 (jI h a0 0)))
    (e1 : (¬ (i1 = 0)) → Ex MX6_beginBlock (d + 1) [.inr a0] (jsI h a0 1 i1) 0 0 (fun v h2 => V MX6_turn (d + 2) 16 [some (.inr a0), some (.inl i1)] (v.toList ++ []) h2 0 0 Q)) :
    V MX6_turn (d + 2) 0 [some (.inr a0), some (.inl i1)] [] h 0 0 Q := by
  refine V_aload_n (i := 0) dX6_turn_0 rfl rfl ?_
  refine V_iload_n (i := 1) dX6_turn_1 rfl rfl ?_
  refine V_putZ (ci := 6) (kf := 1) dX6_turn_2 fX6_29 rfl rfl s1 z1 ?_
  refine V_aload_n (i := 0) dX6_turn_5 rfl rfl ?_
  refine V_getI dX6_turn_6 fX6_29 rfl s1 ?_
  refine V_topI (jI_at) ?_
  refine V_if_eq (tgt := 19) dX6_turn_9 (by decide) (fun c1 => ?_) (fun c1 => ?_)
  · refine V_aload_n (i := 0) dX6_turn_19 rfl rfl ?_
    refine V_getP dX6_turn_20 fX6_11 rfl s1 ?_
    refine V_aload_n (i := 0) dX6_turn_23 rfl rfl ?_
    refine V_getI dX6_turn_24 fX6_39 rfl s1 ?_
    refine V_topI (jI_ne (by decide)) ?_
    refine V_iconst dX6_turn_27 ⟨by decide, by decide⟩ ?_
    refine V_isub dX6_turn_28 (r1 c1) ?_
    refine V_aald18 dX6_turn_29 s2 (s3 c1) (s4 c1) ?_
    refine V_aload_n (i := 0) dX6_turn_30 rfl rfl ?_
    refine V_getI dX6_turn_31 fX6_25 rfl s1 ?_
    refine V_topI (jI_ne (by decide)) ?_
    refine V_putI (ci := 0) (kf := 1) dX6_turn_34 fX6_72 rfl rfl (s5 c1) ?_
    exact V_ret (v := none) rfl rfl dX6_turn_37 trivial rfl (q1 c1)
  · refine V_aload_n (i := 0) dX6_turn_12 rfl rfl ?_
    exact V_callV (M := MX6_turn) (d := (d + 2)) (mc' := 0) (ms' := 0) (mc := 0) (ms := 0) (As := []) (rest := []) dX6_turn_13 tX6_beginBlock vX6_beginBlock lX6_48 s1 ⟨by decide, rfl⟩ rfl rfl (Nat.le_of_ble_eq_true rfl) (show (d + 1) + 1 ≤ (d + 2) by omega) (e1 c1)
theorem bX6_turn_16 {d : Nat} {Q : Option jA → jH → Prop} (a0 : Nat) (i1 : Int) (h : jH)
    (q1 : Q none h) :
    V MX6_turn (d + 2) 16 [some (.inr a0), some (.inl i1)] [] h 0 0 Q := by
  refine V_goto (tgt := 37) dX6_turn_16 (by decide) ?_
  exact V_ret (v := none) rfl rfl dX6_turn_37 trivial rfl q1
theorem dX6_beginBlock_0 : decode cX6_beginBlock 0 = .ok (.aload_n 0, 1) := by decide +kernel
theorem dX6_beginBlock_1 : decode cX6_beginBlock 1 = .ok (.getfield 39, 3) := by decide +kernel
theorem dX6_beginBlock_4 : decode cX6_beginBlock 4 = .ok (.bipush 6, 2) := by decide +kernel
theorem dX6_beginBlock_6 : decode cX6_beginBlock 6 = .ok (.if_icmp .ne 7, 3) := by decide +kernel
theorem dX6_beginBlock_9 : decode cX6_beginBlock 9 = .ok (.aload_n 0, 1) := by decide +kernel
theorem dX6_beginBlock_10 : decode cX6_beginBlock 10 = .ok (.invokevirtual 75, 3) := by decide +kernel
theorem dX6_beginBlock_13 : decode cX6_beginBlock 13 = .ok (.aload_n 0, 1) := by decide +kernel
theorem dX6_beginBlock_14 : decode cX6_beginBlock 14 = .ok (.getfield 11, 3) := by decide +kernel
theorem dX6_beginBlock_17 : decode cX6_beginBlock 17 = .ok (.aload_n 0, 1) := by decide +kernel
theorem dX6_beginBlock_18 : decode cX6_beginBlock 18 = .ok (.getfield 39, 3) := by decide +kernel
theorem dX6_beginBlock_21 : decode cX6_beginBlock 21 = .ok (.aaload, 1) := by decide +kernel
theorem dX6_beginBlock_22 : decode cX6_beginBlock 22 = .ok (.aload_n 0, 1) := by decide +kernel
theorem dX6_beginBlock_23 : decode cX6_beginBlock 23 = .ok (.getfield 25, 3) := by decide +kernel
theorem dX6_beginBlock_26 : decode cX6_beginBlock 26 = .ok (.aload_n 0, 1) := by decide +kernel
theorem dX6_beginBlock_27 : decode cX6_beginBlock 27 = .ok (.getfield 17, 3) := by decide +kernel
theorem dX6_beginBlock_30 : decode cX6_beginBlock 30 = .ok (.invokevirtual 78, 3) := by decide +kernel
theorem dX6_beginBlock_33 : decode cX6_beginBlock 33 = .ok (.aload_n 0, 1) := by decide +kernel
theorem dX6_beginBlock_34 : decode cX6_beginBlock 34 = .ok (.dup, 1) := by decide +kernel
theorem dX6_beginBlock_35 : decode cX6_beginBlock 35 = .ok (.getfield 39, 3) := by decide +kernel
theorem dX6_beginBlock_38 : decode cX6_beginBlock 38 = .ok (.iconst 1, 1) := by decide +kernel
theorem dX6_beginBlock_39 : decode cX6_beginBlock 39 = .ok (.iadd, 1) := by decide +kernel
theorem dX6_beginBlock_40 : decode cX6_beginBlock 40 = .ok (.putfield 39, 3) := by decide +kernel
theorem dX6_beginBlock_43 : decode cX6_beginBlock 43 = .ok (.return_, 1) := by decide +kernel
theorem bX6_beginBlock_0 {d : Nat} {Q : Option jA → jH → Prop} (a0 : Nat) (h : jH)
    (s1 : (jS h a0).1 = 6)
    (s2 : (jS h (jP h a0 5)).1 = 18)
    (s3 : ((jI h a0 4) ≠ 6) → 0 ≤ jI h a0 4)
    (s4 : ((jI h a0 4) ≠ 6) → jI h a0 4 < ((jS h (jP h a0 5)).2 : Int))
    (e1 : ((jI h a0 4) ≠ 6) → Ex MX0_restart d [.inr (jY h (jP h a0 5) ((jI h a0 4).toNat)), .inl (jI h a0 0), .inr (jP h a0 6)] h 0 0 (fun v h2 => V MX6_beginBlock (d + 1) 33 [some (.inr a0)] (v.toList ++ []) h2 0 0 Q))
    (s5 : ((jI h a0 4) ≠ 6) → (jS h (jY h (jP h a0 5) ((jI h a0 4).toNat))).1 = 0)
    (e2 : ((jI h a0 4) = 6) → Ex MX6_loseOldest d [.inr a0] h 0 0 (fun v h2 => V MX6_beginBlock (d + 1) 13 [some (.inr a0)] (v.toList ++ []) h2 0 0 Q)) :
    V MX6_beginBlock (d + 1) 0 [some (.inr a0)] [] h 0 0 Q := by
  refine V_aload_n (i := 0) dX6_beginBlock_0 rfl rfl ?_
  refine V_getI dX6_beginBlock_1 fX6_39 rfl s1 ?_
  refine V_bipush dX6_beginBlock_4 (by decide +kernel) ⟨by decide, by decide⟩ ?_
  refine V_icmp_ne (tgt := 13) dX6_beginBlock_6 (by decide) (fun c1 => ?_) (fun c1 => ?_)
  · refine V_aload_n (i := 0) dX6_beginBlock_13 rfl rfl ?_
    refine V_getP dX6_beginBlock_14 fX6_11 rfl s1 ?_
    refine V_aload_n (i := 0) dX6_beginBlock_17 rfl rfl ?_
    refine V_getI dX6_beginBlock_18 fX6_39 rfl s1 ?_
    refine V_aald18 dX6_beginBlock_21 s2 (s3 c1) (s4 c1) ?_
    refine V_aload_n (i := 0) dX6_beginBlock_22 rfl rfl ?_
    refine V_getI dX6_beginBlock_23 fX6_25 rfl s1 ?_
    refine V_aload_n (i := 0) dX6_beginBlock_26 rfl rfl ?_
    refine V_getP dX6_beginBlock_27 fX6_17 rfl s1 ?_
    exact V_callV (M := MX6_beginBlock) (d := (d + 1)) (mc' := 0) (ms' := 0) (mc := 0) (ms := 0) (As := [.inl (jI h a0 0), .inr (jP h a0 6)]) (rest := []) dX6_beginBlock_30 tX0_restart vX0_restart lX6_78 (s5 c1) ⟨by decide, rfl⟩ rfl rfl (Nat.le_of_ble_eq_true rfl) (show d + 1 ≤ (d + 1) by omega) (e1 c1)
  · refine V_aload_n (i := 0) dX6_beginBlock_9 rfl rfl ?_
    exact V_callV (M := MX6_beginBlock) (d := (d + 1)) (mc' := 0) (ms' := 0) (mc := 0) (ms := 0) (As := []) (rest := []) dX6_beginBlock_10 tX6_loseOldest vX6_loseOldest lX6_75 s1 ⟨by decide, rfl⟩ rfl rfl (Nat.le_of_ble_eq_true rfl) (show d + 1 ≤ (d + 1) by omega) (e2 c1)
theorem bX6_beginBlock_33 {d : Nat} {Q : Option jA → jH → Prop} (a0 : Nat) (h : jH)
    (s1 : (jS h a0).1 = 6)
    (r1 : jR ((jI h a0 4) + 1))
    (q1 : Q none (jsI h a0 4 ((jI h a0 4) + 1))) :
    V MX6_beginBlock (d + 1) 33 [some (.inr a0)] [] h 0 0 Q := by
  refine V_aload_n (i := 0) dX6_beginBlock_33 rfl rfl ?_
  refine V_dup dX6_beginBlock_34 ?_
  refine V_getI dX6_beginBlock_35 fX6_39 rfl s1 ?_
  refine V_iconst dX6_beginBlock_38 ⟨by decide, by decide⟩ ?_
  refine V_iadd dX6_beginBlock_39 r1 ?_
  refine V_putI (ci := 6) (kf := 4) dX6_beginBlock_40 fX6_39 rfl rfl s1 ?_
  exact V_ret (v := none) rfl rfl dX6_beginBlock_43 trivial rfl q1
theorem bX6_beginBlock_13 {d : Nat} {Q : Option jA → jH → Prop} (a0 : Nat) (h : jH)
    (s1 : (jS h a0).1 = 6)
    (s2 : (jS h (jP h a0 5)).1 = 18)
    (s3 : 0 ≤ jI h a0 4)
    (s4 : jI h a0 4 < ((jS h (jP h a0 5)).2 : Int))
    (e1 : Ex MX0_restart d [.inr (jY h (jP h a0 5) ((jI h a0 4).toNat)), .inl (jI h a0 0), .inr (jP h a0 6)] h 0 0 (fun v h2 => V MX6_beginBlock (d + 1) 33 [some (.inr a0)] (v.toList ++ []) h2 0 0 Q))
    (s5 : (jS h (jY h (jP h a0 5) ((jI h a0 4).toNat))).1 = 0) :
    V MX6_beginBlock (d + 1) 13 [some (.inr a0)] [] h 0 0 Q := by
  refine V_aload_n (i := 0) dX6_beginBlock_13 rfl rfl ?_
  refine V_getP dX6_beginBlock_14 fX6_11 rfl s1 ?_
  refine V_aload_n (i := 0) dX6_beginBlock_17 rfl rfl ?_
  refine V_getI dX6_beginBlock_18 fX6_39 rfl s1 ?_
  refine V_aald18 dX6_beginBlock_21 s2 s3 s4 ?_
  refine V_aload_n (i := 0) dX6_beginBlock_22 rfl rfl ?_
  refine V_getI dX6_beginBlock_23 fX6_25 rfl s1 ?_
  refine V_aload_n (i := 0) dX6_beginBlock_26 rfl rfl ?_
  refine V_getP dX6_beginBlock_27 fX6_17 rfl s1 ?_
  exact V_callV (M := MX6_beginBlock) (d := (d + 1)) (mc' := 0) (ms' := 0) (mc := 0) (ms := 0) (As := [.inl (jI h a0 0), .inr (jP h a0 6)]) (rest := []) dX6_beginBlock_30 tX0_restart vX0_restart lX6_78 s5 ⟨by decide, rfl⟩ rfl rfl (Nat.le_of_ble_eq_true rfl) (show d + 1 ≤ (d + 1) by omega) e1
theorem dX6_loseOldest_0 : decode cX6_loseOldest 0 = .ok (.aload_n 0, 1) := by decide +kernel
theorem dX6_loseOldest_1 : decode cX6_loseOldest 1 = .ok (.getfield 11, 3) := by decide +kernel
theorem dX6_loseOldest_4 : decode cX6_loseOldest 4 = .ok (.iconst 0, 1) := by decide +kernel
theorem dX6_loseOldest_5 : decode cX6_loseOldest 5 = .ok (.aaload, 1) := by decide +kernel
theorem dX6_loseOldest_6 : decode cX6_loseOldest 6 = .ok (.astore_n 1, 1) := by decide +kernel
theorem dX6_loseOldest_7 : decode cX6_loseOldest 7 = .ok (.iconst 1, 1) := by decide +kernel
theorem dX6_loseOldest_8 : decode cX6_loseOldest 8 = .ok (.istore_n 2, 1) := by decide +kernel
theorem dX6_loseOldest_9 : decode cX6_loseOldest 9 = .ok (.iload_n 2, 1) := by decide +kernel
theorem dX6_loseOldest_10 : decode cX6_loseOldest 10 = .ok (.bipush 6, 2) := by decide +kernel
theorem dX6_loseOldest_12 : decode cX6_loseOldest 12 = .ok (.if_icmp .ge 23, 3) := by decide +kernel
theorem dX6_loseOldest_15 : decode cX6_loseOldest 15 = .ok (.aload_n 0, 1) := by decide +kernel
theorem dX6_loseOldest_16 : decode cX6_loseOldest 16 = .ok (.getfield 11, 3) := by decide +kernel
theorem dX6_loseOldest_19 : decode cX6_loseOldest 19 = .ok (.iload_n 2, 1) := by decide +kernel
theorem dX6_loseOldest_20 : decode cX6_loseOldest 20 = .ok (.iconst 1, 1) := by decide +kernel
theorem dX6_loseOldest_21 : decode cX6_loseOldest 21 = .ok (.isub, 1) := by decide +kernel
theorem dX6_loseOldest_22 : decode cX6_loseOldest 22 = .ok (.aload_n 0, 1) := by decide +kernel
theorem dX6_loseOldest_23 : decode cX6_loseOldest 23 = .ok (.getfield 11, 3) := by decide +kernel
theorem dX6_loseOldest_26 : decode cX6_loseOldest 26 = .ok (.iload_n 2, 1) := by decide +kernel
theorem dX6_loseOldest_27 : decode cX6_loseOldest 27 = .ok (.aaload, 1) := by decide +kernel
theorem dX6_loseOldest_28 : decode cX6_loseOldest 28 = .ok (.aastore, 1) := by decide +kernel
theorem dX6_loseOldest_29 : decode cX6_loseOldest 29 = .ok (.iinc 2 1, 3) := by decide +kernel
theorem dX6_loseOldest_32 : decode cX6_loseOldest 32 = .ok (.goto (-23), 3) := by decide +kernel
theorem dX6_loseOldest_35 : decode cX6_loseOldest 35 = .ok (.aload_n 0, 1) := by decide +kernel
theorem dX6_loseOldest_36 : decode cX6_loseOldest 36 = .ok (.getfield 11, 3) := by decide +kernel
theorem dX6_loseOldest_39 : decode cX6_loseOldest 39 = .ok (.iconst 5, 1) := by decide +kernel
theorem dX6_loseOldest_40 : decode cX6_loseOldest 40 = .ok (.aload_n 1, 1) := by decide +kernel
theorem dX6_loseOldest_41 : decode cX6_loseOldest 41 = .ok (.aastore, 1) := by decide +kernel
theorem dX6_loseOldest_42 : decode cX6_loseOldest 42 = .ok (.aload_n 0, 1) := by decide +kernel
theorem dX6_loseOldest_43 : decode cX6_loseOldest 43 = .ok (.dup, 1) := by decide +kernel
theorem dX6_loseOldest_44 : decode cX6_loseOldest 44 = .ok (.getfield 39, 3) := by decide +kernel
theorem dX6_loseOldest_47 : decode cX6_loseOldest 47 = .ok (.iconst 1, 1) := by decide +kernel
theorem dX6_loseOldest_48 : decode cX6_loseOldest 48 = .ok (.isub, 1) := by decide +kernel
theorem dX6_loseOldest_49 : decode cX6_loseOldest 49 = .ok (.putfield 39, 3) := by decide +kernel
theorem dX6_loseOldest_52 : decode cX6_loseOldest 52 = .ok (.aload_n 0, 1) := by decide +kernel
theorem dX6_loseOldest_53 : decode cX6_loseOldest 53 = .ok (.dup, 1) := by decide +kernel
theorem dX6_loseOldest_54 : decode cX6_loseOldest 54 = .ok (.getfield 36, 3) := by decide +kernel
theorem dX6_loseOldest_57 : decode cX6_loseOldest 57 = .ok (.iconst 1, 1) := by decide +kernel
theorem dX6_loseOldest_58 : decode cX6_loseOldest 58 = .ok (.iadd, 1) := by decide +kernel
theorem dX6_loseOldest_59 : decode cX6_loseOldest 59 = .ok (.putfield 36, 3) := by decide +kernel
theorem dX6_loseOldest_62 : decode cX6_loseOldest 62 = .ok (.return_, 1) := by decide +kernel
theorem bX6_loseOldest_0 {d : Nat} {Q : Option jA → jH → Prop} (a0 : Nat) (u1 : Option jA) (u2 : Option jA) (h : jH)
    (s1 : (jS h a0).1 = 6)
    (s2 : (jS h (jP h a0 5)).1 = 18)
    (s3 : 0 < ((jS h (jP h a0 5)).2 : Int))
    (k1 : V MX6_loseOldest d 9 [some (.inr a0), some (.inr (jY h (jP h a0 5) 0)), some (.inl 1)] [] h 0 0 Q) :
    V MX6_loseOldest d 0 [some (.inr a0), u1, u2] [] h 0 0 Q := by
  refine V_aload_n (i := 0) dX6_loseOldest_0 rfl rfl ?_
  refine V_getP dX6_loseOldest_1 fX6_11 rfl s1 ?_
  refine V_iconst dX6_loseOldest_4 ⟨by decide, by decide⟩ ?_
  refine V_aald18 dX6_loseOldest_5 s2 (by decide) s3 ?_
  refine V_astore_n (i := 1) dX6_loseOldest_6 rfl (by decide) ?_
  refine V_iconst dX6_loseOldest_7 ⟨by decide, by decide⟩ ?_
  refine V_istore_n (i := 2) dX6_loseOldest_8 rfl (by decide) ?_
  exact k1
theorem bX6_loseOldest_9 {d : Nat} {Q : Option jA → jH → Prop} (a0 : Nat) (a1 : Nat) (i2 : Int) (h : jH)
    (s1 : (jS h a0).1 = 6)
    (s2 : (jS h (jP h a0 5)).1 = 18)
    (s3 : (6 ≤ i2) → 5 < ((jS h (jP h a0 5)).2 : Int))
    (s4 : (jS h a1).1 = 0)
    (r1 : (6 ≤ i2) → jR ((jI h a0 4) - 1))
    (r2 : (6 ≤ i2) → jR ((jI h a0 3) + 1))
    (q1 : (6 ≤ i2) → Q none (jsI (jsI (jsY h (jP h a0 5) 5 a1) a0 4 ((jI h a0 4) - 1)) a0 3 ((jI h a0 3) + 1)))
    (r3 : (¬ (6 ≤ i2)) → jR (i2 - 1))
    (s5 : (¬ (6 ≤ i2)) → 0 ≤ i2)
    (s6 : (¬ (6 ≤ i2)) → i2 < ((jS h (jP h a0 5)).2 : Int))
    (s7 : (¬ (6 ≤ i2)) → 0 ≤ i2 - 1)
    (s8 : (¬ (6 ≤ i2)) → i2 - 1 < ((jS h (jP h a0 5)).2 : Int))
    (s9 : (¬ (6 ≤ i2)) → (jS h (jY h (jP h a0 5) ((i2).toNat))).1 = 0)
    (r4 : (¬ (6 ≤ i2)) → jR (i2 + 1))
    (k1 : (¬ (6 ≤ i2)) → V MX6_loseOldest d 9 [some (.inr a0), some (.inr a1), some (.inl (i2 + 1))] [] (jsY h (jP h a0 5) ((i2 - 1).toNat) (jY h (jP h a0 5) ((i2).toNat))) 0 0 Q) :
    V MX6_loseOldest d 9 [some (.inr a0), some (.inr a1), some (.inl i2)] [] h 0 0 Q := by
  refine V_iload_n (i := 2) dX6_loseOldest_9 rfl rfl ?_
  refine V_bipush dX6_loseOldest_10 (by decide +kernel) ⟨by decide, by decide⟩ ?_
  refine V_icmp_ge (tgt := 35) dX6_loseOldest_12 (by decide) (fun c1 => ?_) (fun c1 => ?_)
  · refine V_aload_n (i := 0) dX6_loseOldest_35 rfl rfl ?_
    refine V_getP dX6_loseOldest_36 fX6_11 rfl s1 ?_
    refine V_iconst dX6_loseOldest_39 ⟨by decide, by decide⟩ ?_
    refine V_aload_n (i := 1) dX6_loseOldest_40 rfl rfl ?_
    refine V_aast18 dX6_loseOldest_41 s2 (by decide) (s3 c1) s4 ?_
    refine V_aload_n (i := 0) dX6_loseOldest_42 rfl rfl ?_
    refine V_dup dX6_loseOldest_43 ?_
    refine V_getI dX6_loseOldest_44 fX6_39 rfl s1 ?_
    refine V_iconst dX6_loseOldest_47 ⟨by decide, by decide⟩ ?_
    refine V_isub dX6_loseOldest_48 (r1 c1) ?_
    refine V_putI (ci := 6) (kf := 4) dX6_loseOldest_49 fX6_39 rfl rfl s1 ?_
    refine V_aload_n (i := 0) dX6_loseOldest_52 rfl rfl ?_
    refine V_dup dX6_loseOldest_53 ?_
    refine V_getI dX6_loseOldest_54 fX6_36 rfl s1 ?_
    refine V_topI (jI_ne (by decide)) ?_
    refine V_iconst dX6_loseOldest_57 ⟨by decide, by decide⟩ ?_
    refine V_iadd dX6_loseOldest_58 (r2 c1) ?_
    refine V_putI (ci := 6) (kf := 3) dX6_loseOldest_59 fX6_36 rfl rfl s1 ?_
    exact V_ret (v := none) rfl rfl dX6_loseOldest_62 trivial rfl (q1 c1)
  · refine V_aload_n (i := 0) dX6_loseOldest_15 rfl rfl ?_
    refine V_getP dX6_loseOldest_16 fX6_11 rfl s1 ?_
    refine V_iload_n (i := 2) dX6_loseOldest_19 rfl rfl ?_
    refine V_iconst dX6_loseOldest_20 ⟨by decide, by decide⟩ ?_
    refine V_isub dX6_loseOldest_21 (r3 c1) ?_
    refine V_aload_n (i := 0) dX6_loseOldest_22 rfl rfl ?_
    refine V_getP dX6_loseOldest_23 fX6_11 rfl s1 ?_
    refine V_iload_n (i := 2) dX6_loseOldest_26 rfl rfl ?_
    refine V_aald18 dX6_loseOldest_27 s2 (s5 c1) (s6 c1) ?_
    refine V_aast18 dX6_loseOldest_28 s2 (s7 c1) (s8 c1) (s9 c1) ?_
    refine V_iinc (i := 2) dX6_loseOldest_29 rfl (by decide) (r4 c1) ?_
    refine V_goto (tgt := 9) dX6_loseOldest_32 (by decide) ?_
    exact (k1 c1)
theorem dX6_blockAt_0 : decode cX6_blockAt 0 = .ok (.aload_n 0, 1) := by decide +kernel
theorem dX6_blockAt_1 : decode cX6_blockAt 1 = .ok (.getfield 39, 3) := by decide +kernel
theorem dX6_blockAt_4 : decode cX6_blockAt 4 = .ok (.iconst 1, 1) := by decide +kernel
theorem dX6_blockAt_5 : decode cX6_blockAt 5 = .ok (.isub, 1) := by decide +kernel
theorem dX6_blockAt_6 : decode cX6_blockAt 6 = .ok (.istore_n 2, 1) := by decide +kernel
theorem dX6_blockAt_7 : decode cX6_blockAt 7 = .ok (.iload_n 2, 1) := by decide +kernel
theorem dX6_blockAt_8 : decode cX6_blockAt 8 = .ok (.ifCond .lt 66, 3) := by decide +kernel
theorem dX6_blockAt_11 : decode cX6_blockAt 11 = .ok (.aload_n 0, 1) := by decide +kernel
theorem dX6_blockAt_12 : decode cX6_blockAt 12 = .ok (.getfield 11, 3) := by decide +kernel
theorem dX6_blockAt_15 : decode cX6_blockAt 15 = .ok (.iload_n 2, 1) := by decide +kernel
theorem dX6_blockAt_16 : decode cX6_blockAt 16 = .ok (.aaload, 1) := by decide +kernel
theorem dX6_blockAt_17 : decode cX6_blockAt 17 = .ok (.getfield 81, 3) := by decide +kernel
theorem dX6_blockAt_20 : decode cX6_blockAt 20 = .ok (.iload_n 1, 1) := by decide +kernel
theorem dX6_blockAt_21 : decode cX6_blockAt 21 = .ok (.if_icmp .gt 47, 3) := by decide +kernel
theorem dX6_blockAt_24 : decode cX6_blockAt 24 = .ok (.aload_n 0, 1) := by decide +kernel
theorem dX6_blockAt_25 : decode cX6_blockAt 25 = .ok (.getfield 11, 3) := by decide +kernel
theorem dX6_blockAt_28 : decode cX6_blockAt 28 = .ok (.iload_n 2, 1) := by decide +kernel
theorem dX6_blockAt_29 : decode cX6_blockAt 29 = .ok (.aaload, 1) := by decide +kernel
theorem dX6_blockAt_30 : decode cX6_blockAt 30 = .ok (.getfield 72, 3) := by decide +kernel
theorem dX6_blockAt_33 : decode cX6_blockAt 33 = .ok (.bipush (-9), 2) := by decide +kernel
theorem dX6_blockAt_35 : decode cX6_blockAt 35 = .ok (.if_icmp .eq 20, 3) := by decide +kernel
theorem dX6_blockAt_38 : decode cX6_blockAt 38 = .ok (.aload_n 0, 1) := by decide +kernel
theorem dX6_blockAt_39 : decode cX6_blockAt 39 = .ok (.getfield 11, 3) := by decide +kernel
theorem dX6_blockAt_42 : decode cX6_blockAt 42 = .ok (.iload_n 2, 1) := by decide +kernel
theorem dX6_blockAt_43 : decode cX6_blockAt 43 = .ok (.aaload, 1) := by decide +kernel
theorem dX6_blockAt_44 : decode cX6_blockAt 44 = .ok (.getfield 72, 3) := by decide +kernel
theorem dX6_blockAt_47 : decode cX6_blockAt 47 = .ok (.iload_n 1, 1) := by decide +kernel
theorem dX6_blockAt_48 : decode cX6_blockAt 48 = .ok (.if_icmp .ge 7, 3) := by decide +kernel
theorem dX6_blockAt_51 : decode cX6_blockAt 51 = .ok (.iconst 1, 1) := by decide +kernel
theorem dX6_blockAt_52 : decode cX6_blockAt 52 = .ok (.goto 4, 3) := by decide +kernel
theorem dX6_blockAt_55 : decode cX6_blockAt 55 = .ok (.iconst 0, 1) := by decide +kernel
theorem dX6_blockAt_56 : decode cX6_blockAt 56 = .ok (.istore_n 3, 1) := by decide +kernel
theorem dX6_blockAt_57 : decode cX6_blockAt 57 = .ok (.iload_n 3, 1) := by decide +kernel
theorem dX6_blockAt_58 : decode cX6_blockAt 58 = .ok (.ifCond .eq 8, 3) := by decide +kernel
theorem dX6_blockAt_61 : decode cX6_blockAt 61 = .ok (.bipush (-9), 2) := by decide +kernel
theorem dX6_blockAt_63 : decode cX6_blockAt 63 = .ok (.goto 4, 3) := by decide +kernel
theorem dX6_blockAt_66 : decode cX6_blockAt 66 = .ok (.iload_n 2, 1) := by decide +kernel
theorem dX6_blockAt_67 : decode cX6_blockAt 67 = .ok (.ireturn, 1) := by decide +kernel
theorem dX6_blockAt_68 : decode cX6_blockAt 68 = .ok (.iinc 2 (-1), 3) := by decide +kernel
theorem dX6_blockAt_71 : decode cX6_blockAt 71 = .ok (.goto (-64), 3) := by decide +kernel
theorem dX6_blockAt_74 : decode cX6_blockAt 74 = .ok (.bipush (-9), 2) := by decide +kernel
theorem dX6_blockAt_76 : decode cX6_blockAt 76 = .ok (.ireturn, 1) := by decide +kernel
theorem bX6_blockAt_0 {d : Nat} {Q : Option jA → jH → Prop} (a0 : Nat) (i1 : Int) (u2 : Option jA) (u3 : Option jA) (h : jH)
    (s1 : (jS h a0).1 = 6)
    (r1 : jR ((jI h a0 4) - 1))
    (k1 : V MX6_blockAt d 7 [some (.inr a0), some (.inl i1), some (.inl ((jI h a0 4) - 1)), u3] [] h 0 0 Q) :
    V MX6_blockAt d 0 [some (.inr a0), some (.inl i1), u2, u3] [] h 0 0 Q := by
  refine V_aload_n (i := 0) dX6_blockAt_0 rfl rfl ?_
  refine V_getI dX6_blockAt_1 fX6_39 rfl s1 ?_
  refine V_iconst dX6_blockAt_4 ⟨by decide, by decide⟩ ?_
  refine V_isub dX6_blockAt_5 r1 ?_
  refine V_istore_n (i := 2) dX6_blockAt_6 rfl (by decide) ?_
  exact k1
theorem bX6_blockAt_7 {d : Nat} {Q : Option jA → jH → Prop} (a0 : Nat) (i1 : Int) (i2 : Int) (u3 : Option jA) (h : jH)
    (q1 : (i2 < 0) → Q (some (.inl ((-9)))) h)
    (s1 : (jS h a0).1 = 6)
    (s2 : (jS h (jP h a0 5)).1 = 18)
    (s3 : (¬ (i2 < 0)) → 0 ≤ i2)
    (s4 : (¬ (i2 < 0)) → i2 < ((jS h (jP h a0 5)).2 : Int))
    (s5 : (¬ (i2 < 0)) → (jS h (jY h (jP h a0 5) ((i2).toNat))).1 = 0)
    (r1 : (¬ (i2 < 0)) → (i1 < (jI h (jY h (jP h a0 5) ((i2).toNat)) 0)) → jR (i2 + (-1)))
    (k1 : (¬ (i2 < 0)) → (i1 < (jI h (jY h (jP h a0 5) ((i2).toNat)) 0)) → V MX6_blockAt d 7 [some (.inr a0), some (.inl i1), some (.inl (i2 + (-1))), u3] [] h 0 0 Q)
    (q2 : (¬ (i2 < 0)) → (¬ (i1 < (jI h (jY h (jP h a0 5) ((i2).toNat)) 0))) → ((jI h (jY h (jP h a0 5) ((i2).toNat)) 1) = ((-9))) → Q (some (.inl i2)) h)
    (q3 : (¬ (i2 < 0)) → (¬ (i1 < (jI h (jY h (jP h a0 5) ((i2).toNat)) 0))) → (¬ ((jI h (jY h (jP h a0 5) ((i2).toNat)) 1) = ((-9)))) → (i1 ≤ (jI h (jY h (jP h a0 5) ((i2).toNat)) 1)) → Q (some (.inl i2)) h)
    (q4 : (¬ (i2 < 0)) → (¬ (i1 < (jI h (jY h (jP h a0 5) ((i2).toNat)) 0))) → (¬ ((jI h (jY h (jP h a0 5) ((i2).toNat)) 1) = ((-9)))) → (¬ (i1 ≤ (jI h (jY h (jP h a0 5) ((i2).toNat)) 1))) → Q (some (.inl ((-9)))) h) :
    V MX6_blockAt d 7 [some (.inr a0), some (.inl i1), some (.inl i2), u3] [] h 0 0 Q := by
  refine V_iload_n (i := 2) dX6_blockAt_7 rfl rfl ?_
  refine V_if_lt (tgt := 74) dX6_blockAt_8 (by decide) (fun c1 => ?_) (fun c1 => ?_)
  · refine V_bipush dX6_blockAt_74 (by decide +kernel) ⟨by decide, by decide⟩ ?_
    exact V_reti rfl dX6_blockAt_76 (q1 c1)
  · refine V_aload_n (i := 0) dX6_blockAt_11 rfl rfl ?_
    refine V_getP dX6_blockAt_12 fX6_11 rfl s1 ?_
    refine V_iload_n (i := 2) dX6_blockAt_15 rfl rfl ?_
    refine V_aald18 dX6_blockAt_16 s2 (s3 c1) (s4 c1) ?_
    refine V_getI dX6_blockAt_17 fX6_81 rfl (s5 c1) ?_
    refine V_iload_n (i := 1) dX6_blockAt_20 rfl rfl ?_
    refine V_icmp_gt (tgt := 68) dX6_blockAt_21 (by decide) (fun c2 => ?_) (fun c2 => ?_)
    · refine V_iinc (i := 2) dX6_blockAt_68 rfl (by decide) (r1 c1 c2) ?_
      refine V_goto (tgt := 7) dX6_blockAt_71 (by decide) ?_
      exact (k1 c1 c2)
    · refine V_aload_n (i := 0) dX6_blockAt_24 rfl rfl ?_
      refine V_getP dX6_blockAt_25 fX6_11 rfl s1 ?_
      refine V_iload_n (i := 2) dX6_blockAt_28 rfl rfl ?_
      refine V_aald18 dX6_blockAt_29 s2 (s3 c1) (s4 c1) ?_
      refine V_getI dX6_blockAt_30 fX6_72 rfl (s5 c1) ?_
      refine V_bipush dX6_blockAt_33 (by decide +kernel) ⟨by decide, by decide⟩ ?_
      refine V_icmp_eq (tgt := 55) dX6_blockAt_35 (by decide) (fun c3 => ?_) (fun c3 => ?_)
      · refine V_iconst dX6_blockAt_55 ⟨by decide, by decide⟩ ?_
        refine V_istore_n (i := 3) dX6_blockAt_56 rfl (by decide) ?_
        refine V_iload_n (i := 3) dX6_blockAt_57 rfl rfl ?_
        refine V_if_eq (tgt := 66) dX6_blockAt_58 (by decide) (fun c4 => ?_) (fun c4 => ?_)
        · refine V_iload_n (i := 2) dX6_blockAt_66 rfl rfl ?_
          exact V_reti rfl dX6_blockAt_67 (q2 c1 c2 c3)
        · exact absurd c4 (by decide)
      · refine V_aload_n (i := 0) dX6_blockAt_38 rfl rfl ?_
        refine V_getP dX6_blockAt_39 fX6_11 rfl s1 ?_
        refine V_iload_n (i := 2) dX6_blockAt_42 rfl rfl ?_
        refine V_aald18 dX6_blockAt_43 s2 (s3 c1) (s4 c1) ?_
        refine V_getI dX6_blockAt_44 fX6_72 rfl (s5 c1) ?_
        refine V_iload_n (i := 1) dX6_blockAt_47 rfl rfl ?_
        refine V_icmp_ge (tgt := 55) dX6_blockAt_48 (by decide) (fun c5 => ?_) (fun c5 => ?_)
        · refine V_iconst dX6_blockAt_55 ⟨by decide, by decide⟩ ?_
          refine V_istore_n (i := 3) dX6_blockAt_56 rfl (by decide) ?_
          refine V_iload_n (i := 3) dX6_blockAt_57 rfl rfl ?_
          refine V_if_eq (tgt := 66) dX6_blockAt_58 (by decide) (fun c6 => ?_) (fun c6 => ?_)
          · refine V_iload_n (i := 2) dX6_blockAt_66 rfl rfl ?_
            exact V_reti rfl dX6_blockAt_67 (q3 c1 c2 c3 c5)
          · exact absurd c6 (by decide)
        · refine V_iconst dX6_blockAt_51 ⟨by decide, by decide⟩ ?_
          refine V_goto (tgt := 56) dX6_blockAt_52 (by decide) ?_
          refine V_istore_n (i := 3) dX6_blockAt_56 rfl (by decide) ?_
          refine V_iload_n (i := 3) dX6_blockAt_57 rfl rfl ?_
          refine V_if_eq (tgt := 66) dX6_blockAt_58 (by decide) (fun c7 => ?_) (fun c7 => ?_)
          · exact absurd c7 (by decide)
          · refine V_bipush dX6_blockAt_61 (by decide +kernel) ⟨by decide, by decide⟩ ?_
            refine V_goto (tgt := 67) dX6_blockAt_63 (by decide) ?_
            exact V_reti rfl dX6_blockAt_67 (q4 c1 c2 c3 c5)
theorem dX6_fillWires_0 : decode cX6_fillWires 0 = .ok (.aload_n 0, 1) := by decide +kernel
theorem dX6_fillWires_1 : decode cX6_fillWires 1 = .ok (.iload_n 2, 1) := by decide +kernel
theorem dX6_fillWires_2 : decode cX6_fillWires 2 = .ok (.invokevirtual 84, 3) := by decide +kernel
theorem dX6_fillWires_5 : decode cX6_fillWires 5 = .ok (.istore_n 3, 1) := by decide +kernel
theorem dX6_fillWires_6 : decode cX6_fillWires 6 = .ok (.iload_n 3, 1) := by decide +kernel
theorem dX6_fillWires_7 : decode cX6_fillWires 7 = .ok (.bipush (-9), 2) := by decide +kernel
theorem dX6_fillWires_9 : decode cX6_fillWires 9 = .ok (.if_icmp .ne 10, 3) := by decide +kernel
theorem dX6_fillWires_12 : decode cX6_fillWires 12 = .ok (.aload_n 1, 1) := by decide +kernel
theorem dX6_fillWires_13 : decode cX6_fillWires 13 = .ok (.bipush (-7), 2) := by decide +kernel
theorem dX6_fillWires_15 : decode cX6_fillWires 15 = .ok (.invokestatic 42, 3) := by decide +kernel
theorem dX6_fillWires_18 : decode cX6_fillWires 18 = .ok (.return_, 1) := by decide +kernel
theorem dX6_fillWires_19 : decode cX6_fillWires 19 = .ok (.aload_n 0, 1) := by decide +kernel
theorem dX6_fillWires_20 : decode cX6_fillWires 20 = .ok (.getfield 11, 3) := by decide +kernel
theorem dX6_fillWires_23 : decode cX6_fillWires 23 = .ok (.iload_n 3, 1) := by decide +kernel
theorem dX6_fillWires_24 : decode cX6_fillWires 24 = .ok (.aaload, 1) := by decide +kernel
theorem dX6_fillWires_25 : decode cX6_fillWires 25 = .ok (.getfield 88, 3) := by decide +kernel
theorem dX6_fillWires_28 : decode cX6_fillWires 28 = .ok (.iconst 0, 1) := by decide +kernel
theorem dX6_fillWires_29 : decode cX6_fillWires 29 = .ok (.aload_n 1, 1) := by decide +kernel
theorem dX6_fillWires_30 : decode cX6_fillWires 30 = .ok (.iconst 0, 1) := by decide +kernel
theorem dX6_fillWires_31 : decode cX6_fillWires 31 = .ok (.bipush 12, 2) := by decide +kernel
theorem dX6_fillWires_33 : decode cX6_fillWires 33 = .ok (.invokestatic 51, 3) := by decide +kernel
theorem dX6_fillWires_36 : decode cX6_fillWires 36 = .ok (.aload_n 0, 1) := by decide +kernel
theorem dX6_fillWires_37 : decode cX6_fillWires 37 = .ok (.getfield 11, 3) := by decide +kernel
theorem dX6_fillWires_40 : decode cX6_fillWires 40 = .ok (.iload_n 3, 1) := by decide +kernel
theorem dX6_fillWires_41 : decode cX6_fillWires 41 = .ok (.aaload, 1) := by decide +kernel
theorem dX6_fillWires_42 : decode cX6_fillWires 42 = .ok (.getfield 61, 3) := by decide +kernel
theorem dX6_fillWires_45 : decode cX6_fillWires 45 = .ok (.astore 4, 2) := by decide +kernel
theorem dX6_fillWires_47 : decode cX6_fillWires 47 = .ok (.iconst 0, 1) := by decide +kernel
theorem dX6_fillWires_48 : decode cX6_fillWires 48 = .ok (.istore 5, 2) := by decide +kernel
theorem dX6_fillWires_50 : decode cX6_fillWires 50 = .ok (.iload 5, 2) := by decide +kernel
theorem dX6_fillWires_52 : decode cX6_fillWires 52 = .ok (.aload 4, 2) := by decide +kernel
theorem dX6_fillWires_54 : decode cX6_fillWires 54 = .ok (.getfield 65, 3) := by decide +kernel
theorem dX6_fillWires_57 : decode cX6_fillWires 57 = .ok (.if_icmp .ge 39, 3) := by decide +kernel
theorem dX6_fillWires_60 : decode cX6_fillWires 60 = .ok (.aload 4, 2) := by decide +kernel
theorem dX6_fillWires_62 : decode cX6_fillWires 62 = .ok (.getfield 91, 3) := by decide +kernel
theorem dX6_fillWires_65 : decode cX6_fillWires 65 = .ok (.iload 5, 2) := by decide +kernel
theorem dX6_fillWires_67 : decode cX6_fillWires 67 = .ok (.iaload, 1) := by decide +kernel
theorem dX6_fillWires_68 : decode cX6_fillWires 68 = .ok (.iload_n 2, 1) := by decide +kernel
theorem dX6_fillWires_69 : decode cX6_fillWires 69 = .ok (.if_icmp .gt 27, 3) := by decide +kernel
theorem dX6_fillWires_72 : decode cX6_fillWires 72 = .ok (.aload_n 1, 1) := by decide +kernel
theorem dX6_fillWires_73 : decode cX6_fillWires 73 = .ok (.aload 4, 2) := by decide +kernel
theorem dX6_fillWires_75 : decode cX6_fillWires 75 = .ok (.getfield 94, 3) := by decide +kernel
theorem dX6_fillWires_78 : decode cX6_fillWires 78 = .ok (.iload 5, 2) := by decide +kernel
theorem dX6_fillWires_80 : decode cX6_fillWires 80 = .ok (.iaload, 1) := by decide +kernel
theorem dX6_fillWires_81 : decode cX6_fillWires 81 = .ok (.aload 4, 2) := by decide +kernel
theorem dX6_fillWires_83 : decode cX6_fillWires 83 = .ok (.getfield 97, 3) := by decide +kernel
theorem dX6_fillWires_86 : decode cX6_fillWires 86 = .ok (.iload 5, 2) := by decide +kernel
theorem dX6_fillWires_88 : decode cX6_fillWires 88 = .ok (.iaload, 1) := by decide +kernel
theorem dX6_fillWires_89 : decode cX6_fillWires 89 = .ok (.iastore, 1) := by decide +kernel
theorem dX6_fillWires_90 : decode cX6_fillWires 90 = .ok (.iinc 5 1, 3) := by decide +kernel
theorem dX6_fillWires_93 : decode cX6_fillWires 93 = .ok (.goto (-43), 3) := by decide +kernel
theorem dX6_fillWires_96 : decode cX6_fillWires 96 = .ok (.return_, 1) := by decide +kernel
theorem bX6_fillWires_0 {d : Nat} {Q : Option jA → jH → Prop} (a0 : Nat) (a1 : Nat) (i2 : Int) (u3 : Option jA) (u4 : Option jA) (u5 : Option jA) (h : jH)
    (e1 : Ex MX6_blockAt d [.inr a0, .inl i2] h 0 0 (fun v h2 => V MX6_fillWires (d + 1) 5 [some (.inr a0), some (.inr a1), some (.inl i2), u3, u4, u5] (v.toList ++ []) h2 0 0 Q))
    (s1 : (jS h a0).1 = 6) :
    V MX6_fillWires (d + 1) 0 [some (.inr a0), some (.inr a1), some (.inl i2), u3, u4, u5] [] h 0 0 Q := by
  refine V_aload_n (i := 0) dX6_fillWires_0 rfl rfl ?_
  refine V_iload_n (i := 2) dX6_fillWires_1 rfl rfl ?_
  exact V_callV (M := MX6_fillWires) (d := (d + 1)) (mc' := 0) (ms' := 0) (mc := 0) (ms := 0) (As := [.inl i2]) (rest := []) dX6_fillWires_2 tX6_blockAt vX6_blockAt lX6_84 s1 ⟨by decide, rfl⟩ rfl rfl (Nat.le_of_ble_eq_true rfl) (show d + 1 ≤ (d + 1) by omega) e1
theorem bX6_fillWires_50 {d : Nat} {Q : Option jA → jH → Prop} (a0 : Nat) (a1 : Nat) (i2 : Int) (i3 : Int) (a4 : Nat) (i5 : Int) (h : jH)
    (s1 : (jS h a4).1 = 1)
    (q1 : ((jI h a4 0) ≤ i5) → Q none h)
    (s2 : (jS h (jP h a4 1)).1 = 16)
    (s3 : (¬ ((jI h a4 0) ≤ i5)) → 0 ≤ i5)
    (s4 : (¬ ((jI h a4 0) ≤ i5)) → i5 < ((jS h (jP h a4 1)).2 : Int))
    (q2 : (¬ ((jI h a4 0) ≤ i5)) → (i2 < (jX h (jP h a4 1) ((i5).toNat))) → Q none h)
    (s5 : (jS h (jP h a4 2)).1 = 16)
    (s6 : (¬ ((jI h a4 0) ≤ i5)) → (¬ (i2 < (jX h (jP h a4 1) ((i5).toNat)))) → i5 < ((jS h (jP h a4 2)).2 : Int))
    (s7 : (jS h (jP h a4 3)).1 = 16)
    (s8 : (¬ ((jI h a4 0) ≤ i5)) → (¬ (i2 < (jX h (jP h a4 1) ((i5).toNat)))) → i5 < ((jS h (jP h a4 3)).2 : Int))
    (s9 : (jS h a1).1 = 16)
    (s10 : (¬ ((jI h a4 0) ≤ i5)) → (¬ (i2 < (jX h (jP h a4 1) ((i5).toNat)))) → 0 ≤ jX h (jP h a4 2) ((i5).toNat))
    (s11 : (¬ ((jI h a4 0) ≤ i5)) → (¬ (i2 < (jX h (jP h a4 1) ((i5).toNat)))) → jX h (jP h a4 2) ((i5).toNat) < ((jS h a1).2 : Int))
    (r1 : (¬ ((jI h a4 0) ≤ i5)) → (¬ (i2 < (jX h (jP h a4 1) ((i5).toNat)))) → jR (i5 + 1))
    (k1 : (¬ ((jI h a4 0) ≤ i5)) → (¬ (i2 < (jX h (jP h a4 1) ((i5).toNat)))) → V MX6_fillWires (d + 1) 50 [some (.inr a0), some (.inr a1), some (.inl i2), some (.inl i3), some (.inr a4), some (.inl (i5 + 1))] [] (jsX h a1 ((jX h (jP h a4 2) ((i5).toNat)).toNat) (jX h (jP h a4 3) ((i5).toNat))) 0 0 Q) :
    V MX6_fillWires (d + 1) 50 [some (.inr a0), some (.inr a1), some (.inl i2), some (.inl i3), some (.inr a4), some (.inl i5)] [] h 0 0 Q := by
  refine V_iload (i := 5) dX6_fillWires_50 rfl ?_
  refine V_aload (i := 4) dX6_fillWires_52 rfl ?_
  refine V_getI dX6_fillWires_54 fX6_65 rfl s1 ?_
  refine V_icmp_ge (tgt := 96) dX6_fillWires_57 (by decide) (fun c1 => ?_) (fun c1 => ?_)
  · exact V_ret (v := none) rfl rfl dX6_fillWires_96 trivial rfl (q1 c1)
  · refine V_aload (i := 4) dX6_fillWires_60 rfl ?_
    refine V_getP dX6_fillWires_62 fX6_91 rfl s1 ?_
    refine V_iload (i := 5) dX6_fillWires_65 rfl ?_
    refine V_iald dX6_fillWires_67 s2 (s3 c1) (s4 c1) ?_
    refine V_iload_n (i := 2) dX6_fillWires_68 rfl rfl ?_
    refine V_icmp_gt (tgt := 96) dX6_fillWires_69 (by decide) (fun c2 => ?_) (fun c2 => ?_)
    · exact V_ret (v := none) rfl rfl dX6_fillWires_96 trivial rfl (q2 c1 c2)
    · refine V_aload_n (i := 1) dX6_fillWires_72 rfl rfl ?_
      refine V_aload (i := 4) dX6_fillWires_73 rfl ?_
      refine V_getP dX6_fillWires_75 fX6_94 rfl s1 ?_
      refine V_iload (i := 5) dX6_fillWires_78 rfl ?_
      refine V_iald dX6_fillWires_80 s5 (s3 c1) (s6 c1 c2) ?_
      refine V_aload (i := 4) dX6_fillWires_81 rfl ?_
      refine V_getP dX6_fillWires_83 fX6_97 rfl s1 ?_
      refine V_iload (i := 5) dX6_fillWires_86 rfl ?_
      refine V_iald dX6_fillWires_88 s7 (s3 c1) (s8 c1 c2) ?_
      refine V_iast dX6_fillWires_89 s9 (s10 c1 c2) (s11 c1 c2) ?_
      refine V_iinc (i := 5) dX6_fillWires_90 rfl (by decide) (r1 c1 c2) ?_
      refine V_goto (tgt := 50) dX6_fillWires_93 (by decide) ?_
      exact (k1 c1 c2)
theorem bX6_fillWires_5 {d : Nat} {Q : Option jA → jH → Prop} (a0 : Nat) (a1 : Nat) (i2 : Int) (u3 : Option jA) (u4 : Option jA) (u5 : Option jA) (p0 : Int) (h : jH)
    (s1 : (jS h a0).1 = 6)
    (s2 : (jS h (jP h a0 5)).1 = 18)
    (s3 : (p0 ≠ ((-9))) → 0 ≤ p0)
    (s4 : (p0 ≠ ((-9))) → p0 < ((jS h (jP h a0 5)).2 : Int))
    (s5 : (p0 ≠ ((-9))) → (jS h (jY h (jP h a0 5) ((p0).toNat))).1 = 0)
    (s6 : (p0 ≠ ((-9))) → (jS h (jP h (jY h (jP h a0 5) ((p0).toNat)) 2)).1 = 16)
    (s7 : (jS h a1).1 = 16)
    (s8 : (p0 ≠ ((-9))) → 0 + 12 ≤ ((jS h (jP h (jY h (jP h a0 5) ((p0).toNat)) 2)).2 : Int))
    (s9 : (p0 ≠ ((-9))) → 0 + 12 ≤ ((jS h a1).2 : Int))
    (k1 : (p0 ≠ ((-9))) → V MX6_fillWires (d + 1) 50 [some (.inr a0), some (.inr a1), some (.inl i2), some (.inl p0), some (.inr (jP h (jY h (jP h a0 5) ((p0).toNat)) 3)), some (.inl 0)] [] (jcpy h (jP h (jY h (jP h a0 5) ((p0).toNat)) 2) 0 a1 0 12) 0 0 Q)
    (e1 : (p0 = ((-9))) → Ex MJ7_fill_53178 d [.inr a1, .inl ((-7))] h 0 0 (fun v h2 => V MX6_fillWires (d + 1) 18 [some (.inr a0), some (.inr a1), some (.inl i2), some (.inl p0), u4, u5] (v.toList ++ []) h2 0 0 Q)) :
    V MX6_fillWires (d + 1) 5 [some (.inr a0), some (.inr a1), some (.inl i2), u3, u4, u5] [.inl p0] h 0 0 Q := by
  refine V_istore_n (i := 3) dX6_fillWires_5 rfl (by decide) ?_
  refine V_iload_n (i := 3) dX6_fillWires_6 rfl rfl ?_
  refine V_bipush dX6_fillWires_7 (by decide +kernel) ⟨by decide, by decide⟩ ?_
  refine V_icmp_ne (tgt := 19) dX6_fillWires_9 (by decide) (fun c1 => ?_) (fun c1 => ?_)
  · refine V_aload_n (i := 0) dX6_fillWires_19 rfl rfl ?_
    refine V_getP dX6_fillWires_20 fX6_11 rfl s1 ?_
    refine V_iload_n (i := 3) dX6_fillWires_23 rfl rfl ?_
    refine V_aald18 dX6_fillWires_24 s2 (s3 c1) (s4 c1) ?_
    refine V_getP dX6_fillWires_25 fX6_88 rfl (s5 c1) ?_
    refine V_iconst dX6_fillWires_28 ⟨by decide, by decide⟩ ?_
    refine V_aload_n (i := 1) dX6_fillWires_29 rfl rfl ?_
    refine V_iconst dX6_fillWires_30 ⟨by decide, by decide⟩ ?_
    refine V_bipush dX6_fillWires_31 (by decide +kernel) ⟨by decide, by decide⟩ ?_
    refine V_copy dX6_fillWires_33 lX6_51 jacN jacS jacY (s6 c1) s7 (by decide) (by decide) (by decide) (s8 c1) (s9 c1) (Nat.le_of_ble_eq_true rfl) ?_
    refine V_aload_n (i := 0) dX6_fillWires_36 rfl rfl ?_
    refine V_getP dX6_fillWires_37 fX6_11 rfl s1 ?_
    refine V_iload_n (i := 3) dX6_fillWires_40 rfl rfl ?_
    refine V_aald18 dX6_fillWires_41 s2 (s3 c1) (s4 c1) ?_
    refine V_getP dX6_fillWires_42 fX6_61 rfl (s5 c1) ?_
    refine V_astore (i := 4) dX6_fillWires_45 (by decide) ?_
    refine V_iconst dX6_fillWires_47 ⟨by decide, by decide⟩ ?_
    refine V_istore (i := 5) dX6_fillWires_48 (by decide) ?_
    exact (k1 c1)
  · refine V_aload_n (i := 1) dX6_fillWires_12 rfl rfl ?_
    refine V_bipush dX6_fillWires_13 (by decide +kernel) ⟨by decide, by decide⟩ ?_
    exact V_callS (M := MX6_fillWires) (d := (d + 1)) (mc' := 0) (ms' := 0) (mc := 0) (ms := 0) (a := 0) (As := [.inr a1, .inl ((-7))]) (rest := []) dX6_fillWires_15 tJ7_fill_53178 sJ7_fill_53178 lX6_42 rfl rfl (Nat.le_of_ble_eq_true rfl) (show d + 1 ≤ (d + 1) by omega) (e1 c1)
theorem bX6_fillWires_18 {d : Nat} {Q : Option jA → jH → Prop} (a0 : Nat) (a1 : Nat) (i2 : Int) (i3 : Int) (u4 : Option jA) (u5 : Option jA) (h : jH)
    (q1 : Q none h) :
    V MX6_fillWires (d + 1) 18 [some (.inr a0), some (.inr a1), some (.inl i2), some (.inl i3), u4, u5] [] h 0 0 Q := by
  exact V_ret (v := none) rfl rfl dX6_fillWires_18 trivial rfl q1
theorem dX4_remember_0 : decode cX4_remember 0 = .ok (.aload_n 0, 1) := by decide +kernel
theorem dX4_remember_1 : decode cX4_remember 1 = .ok (.getfield 18, 3) := by decide +kernel
theorem dX4_remember_4 : decode cX4_remember 4 = .ok (.bipush 6, 2) := by decide +kernel
theorem dX4_remember_6 : decode cX4_remember 6 = .ok (.if_icmp .ne 55, 3) := by decide +kernel
theorem dX4_remember_9 : decode cX4_remember 9 = .ok (.aload_n 0, 1) := by decide +kernel
theorem dX4_remember_10 : decode cX4_remember 10 = .ok (.getfield 11, 3) := by decide +kernel
theorem dX4_remember_13 : decode cX4_remember 13 = .ok (.iconst 0, 1) := by decide +kernel
theorem dX4_remember_14 : decode cX4_remember 14 = .ok (.aaload, 1) := by decide +kernel
theorem dX4_remember_15 : decode cX4_remember 15 = .ok (.astore_n 2, 1) := by decide +kernel
theorem dX4_remember_16 : decode cX4_remember 16 = .ok (.iconst 1, 1) := by decide +kernel
theorem dX4_remember_17 : decode cX4_remember 17 = .ok (.istore_n 3, 1) := by decide +kernel
theorem dX4_remember_18 : decode cX4_remember 18 = .ok (.iload_n 3, 1) := by decide +kernel
theorem dX4_remember_19 : decode cX4_remember 19 = .ok (.bipush 6, 2) := by decide +kernel
theorem dX4_remember_21 : decode cX4_remember 21 = .ok (.if_icmp .ge 23, 3) := by decide +kernel
theorem dX4_remember_24 : decode cX4_remember 24 = .ok (.aload_n 0, 1) := by decide +kernel
theorem dX4_remember_25 : decode cX4_remember 25 = .ok (.getfield 11, 3) := by decide +kernel
theorem dX4_remember_28 : decode cX4_remember 28 = .ok (.iload_n 3, 1) := by decide +kernel
theorem dX4_remember_29 : decode cX4_remember 29 = .ok (.iconst 1, 1) := by decide +kernel
theorem dX4_remember_30 : decode cX4_remember 30 = .ok (.isub, 1) := by decide +kernel
theorem dX4_remember_31 : decode cX4_remember 31 = .ok (.aload_n 0, 1) := by decide +kernel
theorem dX4_remember_32 : decode cX4_remember 32 = .ok (.getfield 11, 3) := by decide +kernel
theorem dX4_remember_35 : decode cX4_remember 35 = .ok (.iload_n 3, 1) := by decide +kernel
theorem dX4_remember_36 : decode cX4_remember 36 = .ok (.aaload, 1) := by decide +kernel
theorem dX4_remember_37 : decode cX4_remember 37 = .ok (.aastore, 1) := by decide +kernel
theorem dX4_remember_38 : decode cX4_remember 38 = .ok (.iinc 3 1, 3) := by decide +kernel
theorem dX4_remember_41 : decode cX4_remember 41 = .ok (.goto (-23), 3) := by decide +kernel
theorem dX4_remember_44 : decode cX4_remember 44 = .ok (.aload_n 0, 1) := by decide +kernel
theorem dX4_remember_45 : decode cX4_remember 45 = .ok (.getfield 11, 3) := by decide +kernel
theorem dX4_remember_48 : decode cX4_remember 48 = .ok (.iconst 5, 1) := by decide +kernel
theorem dX4_remember_49 : decode cX4_remember 49 = .ok (.aload_n 2, 1) := by decide +kernel
theorem dX4_remember_50 : decode cX4_remember 50 = .ok (.aastore, 1) := by decide +kernel
theorem dX4_remember_51 : decode cX4_remember 51 = .ok (.aload_n 0, 1) := by decide +kernel
theorem dX4_remember_52 : decode cX4_remember 52 = .ok (.dup, 1) := by decide +kernel
theorem dX4_remember_53 : decode cX4_remember 53 = .ok (.getfield 18, 3) := by decide +kernel
theorem dX4_remember_56 : decode cX4_remember 56 = .ok (.iconst 1, 1) := by decide +kernel
theorem dX4_remember_57 : decode cX4_remember 57 = .ok (.isub, 1) := by decide +kernel
theorem dX4_remember_58 : decode cX4_remember 58 = .ok (.putfield 18, 3) := by decide +kernel
theorem dX4_remember_61 : decode cX4_remember 61 = .ok (.aload_n 0, 1) := by decide +kernel
theorem dX4_remember_62 : decode cX4_remember 62 = .ok (.getfield 11, 3) := by decide +kernel
theorem dX4_remember_65 : decode cX4_remember 65 = .ok (.aload_n 0, 1) := by decide +kernel
theorem dX4_remember_66 : decode cX4_remember 66 = .ok (.getfield 18, 3) := by decide +kernel
theorem dX4_remember_69 : decode cX4_remember 69 = .ok (.aaload, 1) := by decide +kernel
theorem dX4_remember_70 : decode cX4_remember 70 = .ok (.aload_n 1, 1) := by decide +kernel
theorem dX4_remember_71 : decode cX4_remember 71 = .ok (.invokevirtual 22, 3) := by decide +kernel
theorem dX4_remember_74 : decode cX4_remember 74 = .ok (.aload_n 0, 1) := by decide +kernel
theorem dX4_remember_75 : decode cX4_remember 75 = .ok (.dup, 1) := by decide +kernel
theorem dX4_remember_76 : decode cX4_remember 76 = .ok (.getfield 18, 3) := by decide +kernel
theorem dX4_remember_79 : decode cX4_remember 79 = .ok (.iconst 1, 1) := by decide +kernel
theorem dX4_remember_80 : decode cX4_remember 80 = .ok (.iadd, 1) := by decide +kernel
theorem dX4_remember_81 : decode cX4_remember 81 = .ok (.putfield 18, 3) := by decide +kernel
theorem dX4_remember_84 : decode cX4_remember 84 = .ok (.return_, 1) := by decide +kernel
theorem bX4_remember_0 {d : Nat} {Q : Option jA → jH → Prop} (a0 : Nat) (a1 : Nat) (u2 : Option jA) (u3 : Option jA) (h : jH)
    (s1 : (jS h a0).1 = 4)
    (s2 : (jS h (jP h a0 1)).1 = 19)
    (s3 : ((jI h a0 0) ≠ 6) → 0 ≤ jI h a0 0)
    (s4 : ((jI h a0 0) ≠ 6) → jI h a0 0 < ((jS h (jP h a0 1)).2 : Int))
    (e1 : ((jI h a0 0) ≠ 6) → Ex MX6_copyFrom (d + 4) [.inr (jY h (jP h a0 1) ((jI h a0 0).toNat)), .inr a1] h 0 0 (fun v h2 => V MX4_remember (d + 5) 74 [some (.inr a0), some (.inr a1), u2, u3] (v.toList ++ []) h2 0 0 Q))
    (s5 : ((jI h a0 0) ≠ 6) → (jS h (jY h (jP h a0 1) ((jI h a0 0).toNat))).1 = 6)
    (s6 : ((jI h a0 0) = 6) → 0 < ((jS h (jP h a0 1)).2 : Int))
    (k1 : ((jI h a0 0) = 6) → V MX4_remember (d + 5) 18 [some (.inr a0), some (.inr a1), some (.inr (jY h (jP h a0 1) 0)), some (.inl 1)] [] h 0 0 Q) :
    V MX4_remember (d + 5) 0 [some (.inr a0), some (.inr a1), u2, u3] [] h 0 0 Q := by
  refine V_aload_n (i := 0) dX4_remember_0 rfl rfl ?_
  refine V_getI dX4_remember_1 fX4_18 rfl s1 ?_
  refine V_bipush dX4_remember_4 (by decide +kernel) ⟨by decide, by decide⟩ ?_
  refine V_icmp_ne (tgt := 61) dX4_remember_6 (by decide) (fun c1 => ?_) (fun c1 => ?_)
  · refine V_aload_n (i := 0) dX4_remember_61 rfl rfl ?_
    refine V_getP dX4_remember_62 fX4_11 rfl s1 ?_
    refine V_aload_n (i := 0) dX4_remember_65 rfl rfl ?_
    refine V_getI dX4_remember_66 fX4_18 rfl s1 ?_
    refine V_aald19 dX4_remember_69 s2 (s3 c1) (s4 c1) ?_
    refine V_aload_n (i := 1) dX4_remember_70 rfl rfl ?_
    exact V_callV (M := MX4_remember) (d := (d + 5)) (mc' := 0) (ms' := 0) (mc := 0) (ms := 0) (As := [.inr a1]) (rest := []) dX4_remember_71 tX6_copyFrom vX6_copyFrom lX4_22 (s5 c1) ⟨by decide, rfl⟩ rfl rfl (Nat.le_of_ble_eq_true rfl) (show (d + 4) + 1 ≤ (d + 5) by omega) (e1 c1)
  · refine V_aload_n (i := 0) dX4_remember_9 rfl rfl ?_
    refine V_getP dX4_remember_10 fX4_11 rfl s1 ?_
    refine V_iconst dX4_remember_13 ⟨by decide, by decide⟩ ?_
    refine V_aald19 dX4_remember_14 s2 (by decide) (s6 c1) ?_
    refine V_astore_n (i := 2) dX4_remember_15 rfl (by decide) ?_
    refine V_iconst dX4_remember_16 ⟨by decide, by decide⟩ ?_
    refine V_istore_n (i := 3) dX4_remember_17 rfl (by decide) ?_
    exact (k1 c1)
theorem bX4_remember_18 {d : Nat} {Q : Option jA → jH → Prop} (a0 : Nat) (a1 : Nat) (a2 : Nat) (i3 : Int) (h : jH)
    (s1 : (jS h a0).1 = 4)
    (s2 : (jS h (jP h a0 1)).1 = 19)
    (s3 : (6 ≤ i3) → 5 < ((jS h (jP h a0 1)).2 : Int))
    (s4 : (jS h a2).1 = 6)
    (r1 : (6 ≤ i3) → jR ((jI h a0 0) - 1))
    (s5 : (6 ≤ i3) → 0 ≤ (jI h a0 0) - 1)
    (s6 : (6 ≤ i3) → (jI h a0 0) - 1 < ((jS h (jP h a0 1)).2 : Int))
    (e1 : (6 ≤ i3) → Ex MX6_copyFrom (d + 4) [.inr (jY (jsY h (jP h a0 1) 5 a2) (jP h a0 1) (((jI h a0 0) - 1).toNat)), .inr a1] (jsI (jsY h (jP h a0 1) 5 a2) a0 0 ((jI h a0 0) - 1)) 0 0 (fun v h2 => V MX4_remember (d + 5) 74 [some (.inr a0), some (.inr a1), some (.inr a2), some (.inl i3)] (v.toList ++ []) h2 0 0 Q))
    (s7 : (6 ≤ i3) → (jS h (jY (jsY h (jP h a0 1) 5 a2) (jP h a0 1) (((jI h a0 0) - 1).toNat))).1 = 6)
    (r2 : (¬ (6 ≤ i3)) → jR (i3 - 1))
    (s8 : (¬ (6 ≤ i3)) → 0 ≤ i3)
    (s9 : (¬ (6 ≤ i3)) → i3 < ((jS h (jP h a0 1)).2 : Int))
    (s10 : (¬ (6 ≤ i3)) → 0 ≤ i3 - 1)
    (s11 : (¬ (6 ≤ i3)) → i3 - 1 < ((jS h (jP h a0 1)).2 : Int))
    (s12 : (¬ (6 ≤ i3)) → (jS h (jY h (jP h a0 1) ((i3).toNat))).1 = 6)
    (r3 : (¬ (6 ≤ i3)) → jR (i3 + 1))
    (k1 : (¬ (6 ≤ i3)) → V MX4_remember (d + 5) 18 [some (.inr a0), some (.inr a1), some (.inr a2), some (.inl (i3 + 1))] [] (jsY h (jP h a0 1) ((i3 - 1).toNat) (jY h (jP h a0 1) ((i3).toNat))) 0 0 Q) :
    V MX4_remember (d + 5) 18 [some (.inr a0), some (.inr a1), some (.inr a2), some (.inl i3)] [] h 0 0 Q := by
  refine V_iload_n (i := 3) dX4_remember_18 rfl rfl ?_
  refine V_bipush dX4_remember_19 (by decide +kernel) ⟨by decide, by decide⟩ ?_
  refine V_icmp_ge (tgt := 44) dX4_remember_21 (by decide) (fun c1 => ?_) (fun c1 => ?_)
  · refine V_aload_n (i := 0) dX4_remember_44 rfl rfl ?_
    refine V_getP dX4_remember_45 fX4_11 rfl s1 ?_
    refine V_iconst dX4_remember_48 ⟨by decide, by decide⟩ ?_
    refine V_aload_n (i := 2) dX4_remember_49 rfl rfl ?_
    refine V_aast19 dX4_remember_50 s2 (by decide) (s3 c1) s4 ?_
    refine V_aload_n (i := 0) dX4_remember_51 rfl rfl ?_
    refine V_dup dX4_remember_52 ?_
    refine V_getI dX4_remember_53 fX4_18 rfl s1 ?_
    refine V_iconst dX4_remember_56 ⟨by decide, by decide⟩ ?_
    refine V_isub dX4_remember_57 (r1 c1) ?_
    refine V_putI (ci := 4) (kf := 0) dX4_remember_58 fX4_18 rfl rfl s1 ?_
    refine V_aload_n (i := 0) dX4_remember_61 rfl rfl ?_
    refine V_getP dX4_remember_62 fX4_11 rfl s1 ?_
    refine V_aload_n (i := 0) dX4_remember_65 rfl rfl ?_
    refine V_getI dX4_remember_66 fX4_18 rfl s1 ?_
    refine V_topI (jI_at) ?_
    refine V_aald19 dX4_remember_69 s2 (s5 c1) (s6 c1) ?_
    refine V_aload_n (i := 1) dX4_remember_70 rfl rfl ?_
    exact V_callV (M := MX4_remember) (d := (d + 5)) (mc' := 0) (ms' := 0) (mc := 0) (ms := 0) (As := [.inr a1]) (rest := []) dX4_remember_71 tX6_copyFrom vX6_copyFrom lX4_22 (s7 c1) ⟨by decide, rfl⟩ rfl rfl (Nat.le_of_ble_eq_true rfl) (show (d + 4) + 1 ≤ (d + 5) by omega) (e1 c1)
  · refine V_aload_n (i := 0) dX4_remember_24 rfl rfl ?_
    refine V_getP dX4_remember_25 fX4_11 rfl s1 ?_
    refine V_iload_n (i := 3) dX4_remember_28 rfl rfl ?_
    refine V_iconst dX4_remember_29 ⟨by decide, by decide⟩ ?_
    refine V_isub dX4_remember_30 (r2 c1) ?_
    refine V_aload_n (i := 0) dX4_remember_31 rfl rfl ?_
    refine V_getP dX4_remember_32 fX4_11 rfl s1 ?_
    refine V_iload_n (i := 3) dX4_remember_35 rfl rfl ?_
    refine V_aald19 dX4_remember_36 s2 (s8 c1) (s9 c1) ?_
    refine V_aast19 dX4_remember_37 s2 (s10 c1) (s11 c1) (s12 c1) ?_
    refine V_iinc (i := 3) dX4_remember_38 rfl (by decide) (r3 c1) ?_
    refine V_goto (tgt := 18) dX4_remember_41 (by decide) ?_
    exact (k1 c1)
theorem bX4_remember_74 {d : Nat} {Q : Option jA → jH → Prop} (a0 : Nat) (a1 : Nat) (u2 : Option jA) (u3 : Option jA) (h : jH)
    (s1 : (jS h a0).1 = 4)
    (r1 : jR ((jI h a0 0) + 1))
    (q1 : Q none (jsI h a0 0 ((jI h a0 0) + 1))) :
    V MX4_remember (d + 5) 74 [some (.inr a0), some (.inr a1), u2, u3] [] h 0 0 Q := by
  refine V_aload_n (i := 0) dX4_remember_74 rfl rfl ?_
  refine V_dup dX4_remember_75 ?_
  refine V_getI dX4_remember_76 fX4_18 rfl s1 ?_
  refine V_iconst dX4_remember_79 ⟨by decide, by decide⟩ ?_
  refine V_iadd dX4_remember_80 r1 ?_
  refine V_putI (ci := 4) (kf := 0) dX4_remember_81 fX4_18 rfl rfl s1 ?_
  exact V_ret (v := none) rfl rfl dX4_remember_84 trivial rfl q1
theorem dX4_bringBack_0 : decode cX4_bringBack 0 = .ok (.aload_n 0, 1) := by decide +kernel
theorem dX4_bringBack_1 : decode cX4_bringBack 1 = .ok (.getfield 18, 3) := by decide +kernel
theorem dX4_bringBack_4 : decode cX4_bringBack 4 = .ok (.ifCond .le 26, 3) := by decide +kernel
theorem dX4_bringBack_7 : decode cX4_bringBack 7 = .ok (.aload_n 0, 1) := by decide +kernel
theorem dX4_bringBack_8 : decode cX4_bringBack 8 = .ok (.dup, 1) := by decide +kernel
theorem dX4_bringBack_9 : decode cX4_bringBack 9 = .ok (.getfield 18, 3) := by decide +kernel
theorem dX4_bringBack_12 : decode cX4_bringBack 12 = .ok (.iconst 1, 1) := by decide +kernel
theorem dX4_bringBack_13 : decode cX4_bringBack 13 = .ok (.isub, 1) := by decide +kernel
theorem dX4_bringBack_14 : decode cX4_bringBack 14 = .ok (.putfield 18, 3) := by decide +kernel
theorem dX4_bringBack_17 : decode cX4_bringBack 17 = .ok (.aload_n 1, 1) := by decide +kernel
theorem dX4_bringBack_18 : decode cX4_bringBack 18 = .ok (.aload_n 0, 1) := by decide +kernel
theorem dX4_bringBack_19 : decode cX4_bringBack 19 = .ok (.getfield 11, 3) := by decide +kernel
theorem dX4_bringBack_22 : decode cX4_bringBack 22 = .ok (.aload_n 0, 1) := by decide +kernel
theorem dX4_bringBack_23 : decode cX4_bringBack 23 = .ok (.getfield 18, 3) := by decide +kernel
theorem dX4_bringBack_26 : decode cX4_bringBack 26 = .ok (.aaload, 1) := by decide +kernel
theorem dX4_bringBack_27 : decode cX4_bringBack 27 = .ok (.invokevirtual 22, 3) := by decide +kernel
theorem dX4_bringBack_30 : decode cX4_bringBack 30 = .ok (.return_, 1) := by decide +kernel
theorem bX4_bringBack_0 {d : Nat} {Q : Option jA → jH → Prop} (a0 : Nat) (a1 : Nat) (h : jH)
    (s1 : (jS h a0).1 = 4)
    (q1 : ((jI h a0 0) ≤ 0) → Q none h)
    (r1 : (¬ ((jI h a0 0) ≤ 0)) → jR ((jI h a0 0) - 1))
    (s2 : (jS h (jP h a0 1)).1 = 19)
    (s3 : (¬ ((jI h a0 0) ≤ 0)) → 0 ≤ (jI h a0 0) - 1)
    (s4 : (¬ ((jI h a0 0) ≤ 0)) → (jI h a0 0) - 1 < ((jS h (jP h a0 1)).2 : Int))
    (e1 : (¬ ((jI h a0 0) ≤ 0)) → Ex MX6_copyFrom (d + 4) [.inr a1, .inr (jY h (jP h a0 1) (((jI h a0 0) - 1).toNat))] (jsI h a0 0 ((jI h a0 0) - 1)) 0 0 (fun v h2 => V MX4_bringBack (d + 5) 30 [some (.inr a0), some (.inr a1)] (v.toList ++ []) h2 0 0 Q))
    (s5 : (jS h a1).1 = 6) :
    V MX4_bringBack (d + 5) 0 [some (.inr a0), some (.inr a1)] [] h 0 0 Q := by
  refine V_aload_n (i := 0) dX4_bringBack_0 rfl rfl ?_
  refine V_getI dX4_bringBack_1 fX4_18 rfl s1 ?_
  refine V_if_le (tgt := 30) dX4_bringBack_4 (by decide) (fun c1 => ?_) (fun c1 => ?_)
  · exact V_ret (v := none) rfl rfl dX4_bringBack_30 trivial rfl (q1 c1)
  · refine V_aload_n (i := 0) dX4_bringBack_7 rfl rfl ?_
    refine V_dup dX4_bringBack_8 ?_
    refine V_getI dX4_bringBack_9 fX4_18 rfl s1 ?_
    refine V_iconst dX4_bringBack_12 ⟨by decide, by decide⟩ ?_
    refine V_isub dX4_bringBack_13 (r1 c1) ?_
    refine V_putI (ci := 4) (kf := 0) dX4_bringBack_14 fX4_18 rfl rfl s1 ?_
    refine V_aload_n (i := 1) dX4_bringBack_17 rfl rfl ?_
    refine V_aload_n (i := 0) dX4_bringBack_18 rfl rfl ?_
    refine V_getP dX4_bringBack_19 fX4_11 rfl s1 ?_
    refine V_aload_n (i := 0) dX4_bringBack_22 rfl rfl ?_
    refine V_getI dX4_bringBack_23 fX4_18 rfl s1 ?_
    refine V_topI (jI_at) ?_
    refine V_aald19 dX4_bringBack_26 s2 (s3 c1) (s4 c1) ?_
    exact V_callV (M := MX4_bringBack) (d := (d + 5)) (mc' := 0) (ms' := 0) (mc := 0) (ms := 0) (As := [.inr (jY h (jP h a0 1) (((jI h a0 0) - 1).toNat))]) (rest := []) dX4_bringBack_27 tX6_copyFrom vX6_copyFrom lX4_22 s5 ⟨by decide, rfl⟩ rfl rfl (Nat.le_of_ble_eq_true rfl) (show (d + 4) + 1 ≤ (d + 5) by omega) (e1 c1)
theorem bX4_bringBack_30 {d : Nat} {Q : Option jA → jH → Prop} (a0 : Nat) (a1 : Nat) (h : jH)
    (q1 : Q none h) :
    V MX4_bringBack (d + 5) 30 [some (.inr a0), some (.inr a1)] [] h 0 0 Q := by
  exact V_ret (v := none) rfl rfl dX4_bringBack_30 trivial rfl q1
