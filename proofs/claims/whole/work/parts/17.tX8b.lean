/-! ===== SignalWaves 2: decode rows and trees ===== -/
theorem dX8_frame_0 : decode cX8_frame 0 = .ok (.aload_n 0, 1) := by decide +kernel
theorem dX8_frame_1 : decode cX8_frame 1 = .ok (.iload_n 1, 1) := by decide +kernel
theorem dX8_frame_2 : decode cX8_frame 2 = .ok (.invokevirtual 247, 3) := by decide +kernel
theorem dX8_frame_5 : decode cX8_frame 5 = .ok (.ifCond .eq 28, 3) := by decide +kernel
theorem dX8_frame_8 : decode cX8_frame 8 = .ok (.aload_n 0, 1) := by decide +kernel
theorem dX8_frame_9 : decode cX8_frame 9 = .ok (.iload_n 2, 1) := by decide +kernel
theorem dX8_frame_10 : decode cX8_frame 10 = .ok (.invokevirtual 171, 3) := by decide +kernel
theorem dX8_frame_13 : decode cX8_frame 13 = .ok (.ifCond .eq 20, 3) := by decide +kernel
theorem dX8_frame_16 : decode cX8_frame 16 = .ok (.aload_n 0, 1) := by decide +kernel
theorem dX8_frame_17 : decode cX8_frame 17 = .ok (.getfield 38, 3) := by decide +kernel
theorem dX8_frame_20 : decode cX8_frame 20 = .ok (.getfield 250, 3) := by decide +kernel
theorem dX8_frame_23 : decode cX8_frame 23 = .ok (.iload_n 1, 1) := by decide +kernel
theorem dX8_frame_24 : decode cX8_frame 24 = .ok (.aaload, 1) := by decide +kernel
theorem dX8_frame_25 : decode cX8_frame 25 = .ok (.getfield 273, 3) := by decide +kernel
theorem dX8_frame_28 : decode cX8_frame 28 = .ok (.iload_n 2, 1) := by decide +kernel
theorem dX8_frame_29 : decode cX8_frame 29 = .ok (.iaload, 1) := by decide +kernel
theorem dX8_frame_30 : decode cX8_frame 30 = .ok (.goto 4, 3) := by decide +kernel
theorem dX8_frame_33 : decode cX8_frame 33 = .ok (.iconst (-1), 1) := by decide +kernel
theorem dX8_frame_34 : decode cX8_frame 34 = .ok (.ireturn, 1) := by decide +kernel
theorem bX8_frame_0 {d : Nat} {Q : Option jA → jH → Prop} (a0 : Nat) (i1 : Int) (i2 : Int) (h : jH)
    (s1 : (jS h a0).1 = 8)
    (s2 : (jS h (jP h a0 4)).1 = 6)
    (q1 : (¬ (0 ≤ i1 ∧ i1 < (jI h (jP h a0 4) 4))) → Q (some (.inl ((-1)))) h)
    (s3 : (jS h (jP h a0 1)).1 = 2)
    (s4 : (jS h (jP h (jP h a0 1) 4)).1 = 16)
    (s5 : (jS h (jP h (jP h a0 1) 4)).2 = 12)
    (s6 : (0 ≤ i1 ∧ i1 < (jI h (jP h a0 4) 4)) → jI h (jP h a0 1) 0 ≤ 12)
    (q2 : (0 ≤ i1 ∧ i1 < (jI h (jP h a0 4) 4)) → (¬ (0 ≤ i2 ∧ i2 < (jI h (jP h a0 1) 0) ∧ (jX h (jP h (jP h a0 1) 4) (i2.toNat)) = 0)) → Q (some (.inl ((-1)))) h)
    (s7 : (jS h (jP h (jP h a0 4) 5)).1 = 18)
    (s8 : (0 ≤ i1 ∧ i1 < (jI h (jP h a0 4) 4)) → (0 ≤ i2 ∧ i2 < (jI h (jP h a0 1) 0) ∧ (jX h (jP h (jP h a0 1) 4) (i2.toNat)) = 0) → 0 ≤ i1)
    (s9 : (0 ≤ i1 ∧ i1 < (jI h (jP h a0 4) 4)) → (0 ≤ i2 ∧ i2 < (jI h (jP h a0 1) 0) ∧ (jX h (jP h (jP h a0 1) 4) (i2.toNat)) = 0) → i1 < ((jS h (jP h (jP h a0 4) 5)).2 : Int))
    (s10 : (0 ≤ i1 ∧ i1 < (jI h (jP h a0 4) 4)) → (0 ≤ i2 ∧ i2 < (jI h (jP h a0 1) 0) ∧ (jX h (jP h (jP h a0 1) 4) (i2.toNat)) = 0) → (jS h (jY h (jP h (jP h a0 4) 5) ((i1).toNat))).1 = 0)
    (s11 : (0 ≤ i1 ∧ i1 < (jI h (jP h a0 4) 4)) → (0 ≤ i2 ∧ i2 < (jI h (jP h a0 1) 0) ∧ (jX h (jP h (jP h a0 1) 4) (i2.toNat)) = 0) → (jS h (jP h (jY h (jP h (jP h a0 4) 5) ((i1).toNat)) 2)).1 = 16)
    (s12 : (0 ≤ i1 ∧ i1 < (jI h (jP h a0 4) 4)) → (0 ≤ i2 ∧ i2 < (jI h (jP h a0 1) 0) ∧ (jX h (jP h (jP h a0 1) 4) (i2.toNat)) = 0) → 0 ≤ i2)
    (s13 : (0 ≤ i1 ∧ i1 < (jI h (jP h a0 4) 4)) → (0 ≤ i2 ∧ i2 < (jI h (jP h a0 1) 0) ∧ (jX h (jP h (jP h a0 1) 4) (i2.toNat)) = 0) → i2 < ((jS h (jP h (jY h (jP h (jP h a0 4) 5) ((i1).toNat)) 2)).2 : Int))
    (q3 : (0 ≤ i1 ∧ i1 < (jI h (jP h a0 4) 4)) → (0 ≤ i2 ∧ i2 < (jI h (jP h a0 1) 0) ∧ (jX h (jP h (jP h a0 1) 4) (i2.toNat)) = 0) → Q (some (.inl (jX h (jP h (jY h (jP h (jP h a0 4) 5) ((i1).toNat)) 2) ((i2).toNat)))) h) :
    V MX8_frame (d + 2) 0 [some (.inr a0), some (.inl i1), some (.inl i2)] [] h 0 0 Q := by
  refine V_aload_n (i := 0) dX8_frame_0 rfl rfl ?_
  refine V_iload_n (i := 1) dX8_frame_1 rfl rfl ?_
  refine V_callV (M := MX8_frame) (d := (d + 2)) (mc' := 0) (ms' := 0) (mc := 0) (ms := 0) (As := [.inl i1]) (rest := []) dX8_frame_2 tX8_isBlock vX8_isBlock lX8_247 s1 ⟨by decide, rfl⟩ rfl rfl (Nat.le_of_ble_eq_true rfl) (show d + 1 ≤ (d + 2) by omega) (Ex.mono (pX8_isBlock (d := d) s1 s2) ?_)
  intro v h2 hq
  rw [hq.1, hq.2]
  show V MX8_frame (d + 2) 5 [some (.inr a0), some (.inl i1), some (.inl i2)] [.inl (jb (0 ≤ i1 ∧ i1 < (jI h (jP h a0 4) 4)))] h 0 0 Q
  refine V_ifb_eq (tgt := 33) dX8_frame_5 (by decide) (fun c1 => ?_) (fun c1 => ?_)
  · refine V_iconst dX8_frame_33 ⟨by decide, by decide⟩ ?_
    exact V_reti rfl dX8_frame_34 (q1 c1)
  · refine V_aload_n (i := 0) dX8_frame_8 rfl rfl ?_
    refine V_iload_n (i := 2) dX8_frame_9 rfl rfl ?_
    refine V_callV (M := MX8_frame) (d := (d + 2)) (mc' := 0) (ms' := 0) (mc := 0) (ms := 0) (As := [.inl i2]) (rest := []) dX8_frame_10 tX8_isWire vX8_isWire lX8_171 s1 ⟨by decide, rfl⟩ rfl rfl (Nat.le_of_ble_eq_true rfl) (show (d + 1) + 1 ≤ (d + 2) by omega) (Ex.mono (pX8_isWire (d := d) s1 s3 s4 s5 (s6 c1)) ?_)
    intro v h2 hq
    rw [hq.1, hq.2]
    show V MX8_frame (d + 2) 13 [some (.inr a0), some (.inl i1), some (.inl i2)] [.inl (jb (0 ≤ i2 ∧ i2 < (jI h (jP h a0 1) 0) ∧ (jX h (jP h (jP h a0 1) 4) (i2.toNat)) = 0))] h 0 0 Q
    refine V_ifb_eq (tgt := 33) dX8_frame_13 (by decide) (fun c2 => ?_) (fun c2 => ?_)
    · refine V_iconst dX8_frame_33 ⟨by decide, by decide⟩ ?_
      exact V_reti rfl dX8_frame_34 (q2 c1 c2)
    · refine V_aload_n (i := 0) dX8_frame_16 rfl rfl ?_
      refine V_getP dX8_frame_17 fX8_38 rfl s1 ?_
      refine V_getP dX8_frame_20 fX8_250 rfl s2 ?_
      refine V_iload_n (i := 1) dX8_frame_23 rfl rfl ?_
      refine V_aald18 dX8_frame_24 s7 (s8 c1 c2) (s9 c1 c2) ?_
      refine V_getP dX8_frame_25 fX8_273 rfl (s10 c1 c2) ?_
      refine V_iload_n (i := 2) dX8_frame_28 rfl rfl ?_
      refine V_iald dX8_frame_29 (s11 c1 c2) (s12 c1 c2) (s13 c1 c2) ?_
      refine V_goto (tgt := 34) dX8_frame_30 (by decide) ?_
      exact V_reti rfl dX8_frame_34 (q3 c1 c2)
theorem dX8_change_0 : decode cX8_change 0 = .ok (.aload_n 0, 1) := by decide +kernel
theorem dX8_change_1 : decode cX8_change 1 = .ok (.iload_n 1, 1) := by decide +kernel
theorem dX8_change_2 : decode cX8_change 2 = .ok (.invokevirtual 247, 3) := by decide +kernel
theorem dX8_change_5 : decode cX8_change 5 = .ok (.ifCond .eq 16, 3) := by decide +kernel
theorem dX8_change_8 : decode cX8_change 8 = .ok (.iload_n 2, 1) := by decide +kernel
theorem dX8_change_9 : decode cX8_change 9 = .ok (.ifCond .lt 12, 3) := by decide +kernel
theorem dX8_change_12 : decode cX8_change 12 = .ok (.iload_n 3, 1) := by decide +kernel
theorem dX8_change_13 : decode cX8_change 13 = .ok (.ifCond .lt 8, 3) := by decide +kernel
theorem dX8_change_16 : decode cX8_change 16 = .ok (.iload_n 3, 1) := by decide +kernel
theorem dX8_change_17 : decode cX8_change 17 = .ok (.iconst 3, 1) := by decide +kernel
theorem dX8_change_18 : decode cX8_change 18 = .ok (.if_icmp .le 5, 3) := by decide +kernel
theorem dX8_change_21 : decode cX8_change 21 = .ok (.iconst (-1), 1) := by decide +kernel
theorem dX8_change_22 : decode cX8_change 22 = .ok (.ireturn, 1) := by decide +kernel
theorem dX8_change_23 : decode cX8_change 23 = .ok (.aload_n 0, 1) := by decide +kernel
theorem dX8_change_24 : decode cX8_change 24 = .ok (.getfield 38, 3) := by decide +kernel
theorem dX8_change_27 : decode cX8_change 27 = .ok (.getfield 250, 3) := by decide +kernel
theorem dX8_change_30 : decode cX8_change 30 = .ok (.iload_n 1, 1) := by decide +kernel
theorem dX8_change_31 : decode cX8_change 31 = .ok (.aaload, 1) := by decide +kernel
theorem dX8_change_32 : decode cX8_change 32 = .ok (.getfield 262, 3) := by decide +kernel
theorem dX8_change_35 : decode cX8_change 35 = .ok (.astore 4, 2) := by decide +kernel
theorem dX8_change_37 : decode cX8_change 37 = .ok (.iload_n 2, 1) := by decide +kernel
theorem dX8_change_38 : decode cX8_change 38 = .ok (.aload 4, 2) := by decide +kernel
theorem dX8_change_40 : decode cX8_change 40 = .ok (.getfield 265, 3) := by decide +kernel
theorem dX8_change_43 : decode cX8_change 43 = .ok (.if_icmp .lt 6, 3) := by decide +kernel
theorem dX8_change_46 : decode cX8_change 46 = .ok (.bipush (-9), 2) := by decide +kernel
theorem dX8_change_48 : decode cX8_change 48 = .ok (.ireturn, 1) := by decide +kernel
theorem dX8_change_49 : decode cX8_change 49 = .ok (.iload_n 3, 1) := by decide +kernel
theorem dX8_change_50 : decode cX8_change 50 = .ok (.tableswitch 50 0 2 #[26, 34, 42], 26) := by decide +kernel
theorem dX8_change_76 : decode cX8_change 76 = .ok (.aload 4, 2) := by decide +kernel
theorem dX8_change_78 : decode cX8_change 78 = .ok (.getfield 276, 3) := by decide +kernel
theorem dX8_change_81 : decode cX8_change 81 = .ok (.iload_n 2, 1) := by decide +kernel
theorem dX8_change_82 : decode cX8_change 82 = .ok (.iaload, 1) := by decide +kernel
theorem dX8_change_83 : decode cX8_change 83 = .ok (.ireturn, 1) := by decide +kernel
theorem dX8_change_84 : decode cX8_change 84 = .ok (.aload 4, 2) := by decide +kernel
theorem dX8_change_86 : decode cX8_change 86 = .ok (.getfield 277, 3) := by decide +kernel
theorem dX8_change_89 : decode cX8_change 89 = .ok (.iload_n 2, 1) := by decide +kernel
theorem dX8_change_90 : decode cX8_change 90 = .ok (.iaload, 1) := by decide +kernel
theorem dX8_change_91 : decode cX8_change 91 = .ok (.ireturn, 1) := by decide +kernel
theorem dX8_change_92 : decode cX8_change 92 = .ok (.aload 4, 2) := by decide +kernel
theorem dX8_change_94 : decode cX8_change 94 = .ok (.getfield 280, 3) := by decide +kernel
theorem dX8_change_97 : decode cX8_change 97 = .ok (.iload_n 2, 1) := by decide +kernel
theorem dX8_change_98 : decode cX8_change 98 = .ok (.iaload, 1) := by decide +kernel
theorem dX8_change_99 : decode cX8_change 99 = .ok (.ireturn, 1) := by decide +kernel
theorem dX8_change_100 : decode cX8_change 100 = .ok (.aload 4, 2) := by decide +kernel
theorem dX8_change_102 : decode cX8_change 102 = .ok (.iload_n 2, 1) := by decide +kernel
theorem dX8_change_103 : decode cX8_change 103 = .ok (.iconst 0, 1) := by decide +kernel
theorem dX8_change_104 : decode cX8_change 104 = .ok (.invokevirtual 281, 3) := by decide +kernel
theorem dX8_change_107 : decode cX8_change 107 = .ok (.ireturn, 1) := by decide +kernel
theorem bX8_change_0 {d : Nat} {Q : Option jA → jH → Prop} (a0 : Nat) (i1 : Int) (i2 : Int) (i3 : Int) (u4 : Option jA) (h : jH)
    (s1 : (jS h a0).1 = 8)
    (s2 : (jS h (jP h a0 4)).1 = 6)
    (q1 : (¬ (0 ≤ i1 ∧ i1 < (jI h (jP h a0 4) 4))) → Q (some (.inl ((-1)))) h)
    (q2 : (0 ≤ i1 ∧ i1 < (jI h (jP h a0 4) 4)) → (i2 < 0) → Q (some (.inl ((-1)))) h)
    (q3 : (0 ≤ i1 ∧ i1 < (jI h (jP h a0 4) 4)) → (¬ (i2 < 0)) → (i3 < 0) → Q (some (.inl ((-1)))) h)
    (s3 : (jS h (jP h (jP h a0 4) 5)).1 = 18)
    (s4 : (0 ≤ i1 ∧ i1 < (jI h (jP h a0 4) 4)) → (¬ (i2 < 0)) → (¬ (i3 < 0)) → (i3 ≤ 3) → 0 ≤ i1)
    (s5 : (0 ≤ i1 ∧ i1 < (jI h (jP h a0 4) 4)) → (¬ (i2 < 0)) → (¬ (i3 < 0)) → (i3 ≤ 3) → i1 < ((jS h (jP h (jP h a0 4) 5)).2 : Int))
    (s6 : (0 ≤ i1 ∧ i1 < (jI h (jP h a0 4) 4)) → (¬ (i2 < 0)) → (¬ (i3 < 0)) → (i3 ≤ 3) → (jS h (jY h (jP h (jP h a0 4) 5) ((i1).toNat))).1 = 0)
    (s7 : (0 ≤ i1 ∧ i1 < (jI h (jP h a0 4) 4)) → (¬ (i2 < 0)) → (¬ (i3 < 0)) → (i3 ≤ 3) → (jS h (jP h (jY h (jP h (jP h a0 4) 5) ((i1).toNat)) 3)).1 = 1)
    (s8 : (0 ≤ i1 ∧ i1 < (jI h (jP h a0 4) 4)) → (¬ (i2 < 0)) → (¬ (i3 < 0)) → (i3 ≤ 3) → (i2 < (jI h (jP h (jY h (jP h (jP h a0 4) 5) ((i1).toNat)) 3) 0)) → (i3 = 0) → (jS h (jP h (jP h (jY h (jP h (jP h a0 4) 5) ((i1).toNat)) 3) 1)).1 = 16)
    (s9 : (0 ≤ i1 ∧ i1 < (jI h (jP h a0 4) 4)) → (¬ (i2 < 0)) → (¬ (i3 < 0)) → (i3 ≤ 3) → (i2 < (jI h (jP h (jY h (jP h (jP h a0 4) 5) ((i1).toNat)) 3) 0)) → (i3 = 0) → 0 ≤ i2)
    (s10 : (0 ≤ i1 ∧ i1 < (jI h (jP h a0 4) 4)) → (¬ (i2 < 0)) → (¬ (i3 < 0)) → (i3 ≤ 3) → (i2 < (jI h (jP h (jY h (jP h (jP h a0 4) 5) ((i1).toNat)) 3) 0)) → (i3 = 0) → i2 < ((jS h (jP h (jP h (jY h (jP h (jP h a0 4) 5) ((i1).toNat)) 3) 1)).2 : Int))
    (q4 : (0 ≤ i1 ∧ i1 < (jI h (jP h a0 4) 4)) → (¬ (i2 < 0)) → (¬ (i3 < 0)) → (i3 ≤ 3) → (i2 < (jI h (jP h (jY h (jP h (jP h a0 4) 5) ((i1).toNat)) 3) 0)) → (i3 = 0) → Q (some (.inl (jX h (jP h (jP h (jY h (jP h (jP h a0 4) 5) ((i1).toNat)) 3) 1) ((i2).toNat)))) h)
    (s11 : (0 ≤ i1 ∧ i1 < (jI h (jP h a0 4) 4)) → (¬ (i2 < 0)) → (¬ (i3 < 0)) → (i3 ≤ 3) → (i2 < (jI h (jP h (jY h (jP h (jP h a0 4) 5) ((i1).toNat)) 3) 0)) → (¬ (i3 = 0)) → (i3 = 1) → (jS h (jP h (jP h (jY h (jP h (jP h a0 4) 5) ((i1).toNat)) 3) 2)).1 = 16)
    (s12 : (0 ≤ i1 ∧ i1 < (jI h (jP h a0 4) 4)) → (¬ (i2 < 0)) → (¬ (i3 < 0)) → (i3 ≤ 3) → (i2 < (jI h (jP h (jY h (jP h (jP h a0 4) 5) ((i1).toNat)) 3) 0)) → (¬ (i3 = 0)) → (i3 = 1) → 0 ≤ i2)
    (s13 : (0 ≤ i1 ∧ i1 < (jI h (jP h a0 4) 4)) → (¬ (i2 < 0)) → (¬ (i3 < 0)) → (i3 ≤ 3) → (i2 < (jI h (jP h (jY h (jP h (jP h a0 4) 5) ((i1).toNat)) 3) 0)) → (¬ (i3 = 0)) → (i3 = 1) → i2 < ((jS h (jP h (jP h (jY h (jP h (jP h a0 4) 5) ((i1).toNat)) 3) 2)).2 : Int))
    (q5 : (0 ≤ i1 ∧ i1 < (jI h (jP h a0 4) 4)) → (¬ (i2 < 0)) → (¬ (i3 < 0)) → (i3 ≤ 3) → (i2 < (jI h (jP h (jY h (jP h (jP h a0 4) 5) ((i1).toNat)) 3) 0)) → (¬ (i3 = 0)) → (i3 = 1) → Q (some (.inl (jX h (jP h (jP h (jY h (jP h (jP h a0 4) 5) ((i1).toNat)) 3) 2) ((i2).toNat)))) h)
    (s14 : (0 ≤ i1 ∧ i1 < (jI h (jP h a0 4) 4)) → (¬ (i2 < 0)) → (¬ (i3 < 0)) → (i3 ≤ 3) → (i2 < (jI h (jP h (jY h (jP h (jP h a0 4) 5) ((i1).toNat)) 3) 0)) → (¬ (i3 = 0)) → (¬ (i3 = 1)) → (i3 = 2) → (jS h (jP h (jP h (jY h (jP h (jP h a0 4) 5) ((i1).toNat)) 3) 3)).1 = 16)
    (s15 : (0 ≤ i1 ∧ i1 < (jI h (jP h a0 4) 4)) → (¬ (i2 < 0)) → (¬ (i3 < 0)) → (i3 ≤ 3) → (i2 < (jI h (jP h (jY h (jP h (jP h a0 4) 5) ((i1).toNat)) 3) 0)) → (¬ (i3 = 0)) → (¬ (i3 = 1)) → (i3 = 2) → 0 ≤ i2)
    (s16 : (0 ≤ i1 ∧ i1 < (jI h (jP h a0 4) 4)) → (¬ (i2 < 0)) → (¬ (i3 < 0)) → (i3 ≤ 3) → (i2 < (jI h (jP h (jY h (jP h (jP h a0 4) 5) ((i1).toNat)) 3) 0)) → (¬ (i3 = 0)) → (¬ (i3 = 1)) → (i3 = 2) → i2 < ((jS h (jP h (jP h (jY h (jP h (jP h a0 4) 5) ((i1).toNat)) 3) 3)).2 : Int))
    (q6 : (0 ≤ i1 ∧ i1 < (jI h (jP h a0 4) 4)) → (¬ (i2 < 0)) → (¬ (i3 < 0)) → (i3 ≤ 3) → (i2 < (jI h (jP h (jY h (jP h (jP h a0 4) 5) ((i1).toNat)) 3) 0)) → (¬ (i3 = 0)) → (¬ (i3 = 1)) → (i3 = 2) → Q (some (.inl (jX h (jP h (jP h (jY h (jP h (jP h a0 4) 5) ((i1).toNat)) 3) 3) ((i2).toNat)))) h)
    (e1 : (0 ≤ i1 ∧ i1 < (jI h (jP h a0 4) 4)) → (¬ (i2 < 0)) → (¬ (i3 < 0)) → (i3 ≤ 3) → (i2 < (jI h (jP h (jY h (jP h (jP h a0 4) 5) ((i1).toNat)) 3) 0)) → (¬ (i3 = 0)) → (¬ (i3 = 1)) → (¬ (i3 = 2)) → Ex MX1_indexOf (d + 2) [.inr (jP h (jY h (jP h (jP h a0 4) 5) ((i1).toNat)) 3), .inl i2, .inl 0] h 0 0 (fun v h2 => V MX8_change (d + 3) 107 [some (.inr a0), some (.inl i1), some (.inl i2), some (.inl i3), some (.inr (jP h (jY h (jP h (jP h a0 4) 5) ((i1).toNat)) 3))] (v.toList ++ []) h2 0 0 Q))
    (q7 : (0 ≤ i1 ∧ i1 < (jI h (jP h a0 4) 4)) → (¬ (i2 < 0)) → (¬ (i3 < 0)) → (i3 ≤ 3) → (¬ (i2 < (jI h (jP h (jY h (jP h (jP h a0 4) 5) ((i1).toNat)) 3) 0))) → Q (some (.inl ((-9)))) h)
    (q8 : (0 ≤ i1 ∧ i1 < (jI h (jP h a0 4) 4)) → (¬ (i2 < 0)) → (¬ (i3 < 0)) → (¬ (i3 ≤ 3)) → Q (some (.inl ((-1)))) h) :
    V MX8_change (d + 3) 0 [some (.inr a0), some (.inl i1), some (.inl i2), some (.inl i3), u4] [] h 0 0 Q := by
  refine V_aload_n (i := 0) dX8_change_0 rfl rfl ?_
  refine V_iload_n (i := 1) dX8_change_1 rfl rfl ?_
  refine V_callV (M := MX8_change) (d := (d + 3)) (mc' := 0) (ms' := 0) (mc := 0) (ms := 0) (As := [.inl i1]) (rest := []) dX8_change_2 tX8_isBlock vX8_isBlock lX8_247 s1 ⟨by decide, rfl⟩ rfl rfl (Nat.le_of_ble_eq_true rfl) (show d + 1 ≤ (d + 3) by omega) (Ex.mono (pX8_isBlock (d := d) s1 s2) ?_)
  intro v h2 hq
  rw [hq.1, hq.2]
  show V MX8_change (d + 3) 5 [some (.inr a0), some (.inl i1), some (.inl i2), some (.inl i3), u4] [.inl (jb (0 ≤ i1 ∧ i1 < (jI h (jP h a0 4) 4)))] h 0 0 Q
  refine V_ifb_eq (tgt := 21) dX8_change_5 (by decide) (fun c1 => ?_) (fun c1 => ?_)
  · refine V_iconst dX8_change_21 ⟨by decide, by decide⟩ ?_
    exact V_reti rfl dX8_change_22 (q1 c1)
  · refine V_iload_n (i := 2) dX8_change_8 rfl rfl ?_
    refine V_if_lt (tgt := 21) dX8_change_9 (by decide) (fun c2 => ?_) (fun c2 => ?_)
    · refine V_iconst dX8_change_21 ⟨by decide, by decide⟩ ?_
      exact V_reti rfl dX8_change_22 (q2 c1 c2)
    · refine V_iload_n (i := 3) dX8_change_12 rfl rfl ?_
      refine V_if_lt (tgt := 21) dX8_change_13 (by decide) (fun c3 => ?_) (fun c3 => ?_)
      · refine V_iconst dX8_change_21 ⟨by decide, by decide⟩ ?_
        exact V_reti rfl dX8_change_22 (q3 c1 c2 c3)
      · refine V_iload_n (i := 3) dX8_change_16 rfl rfl ?_
        refine V_iconst dX8_change_17 ⟨by decide, by decide⟩ ?_
        refine V_icmp_le (tgt := 23) dX8_change_18 (by decide) (fun c4 => ?_) (fun c4 => ?_)
        · refine V_aload_n (i := 0) dX8_change_23 rfl rfl ?_
          refine V_getP dX8_change_24 fX8_38 rfl s1 ?_
          refine V_getP dX8_change_27 fX8_250 rfl s2 ?_
          refine V_iload_n (i := 1) dX8_change_30 rfl rfl ?_
          refine V_aald18 dX8_change_31 s3 (s4 c1 c2 c3 c4) (s5 c1 c2 c3 c4) ?_
          refine V_getP dX8_change_32 fX8_262 rfl (s6 c1 c2 c3 c4) ?_
          refine V_astore (i := 4) dX8_change_35 (by decide) ?_
          refine V_iload_n (i := 2) dX8_change_37 rfl rfl ?_
          refine V_aload (i := 4) dX8_change_38 rfl ?_
          refine V_getI dX8_change_40 fX8_265 rfl (s7 c1 c2 c3 c4) ?_
          refine V_icmp_lt (tgt := 49) dX8_change_43 (by decide) (fun c5 => ?_) (fun c5 => ?_)
          · refine V_iload_n (i := 3) dX8_change_49 rfl rfl ?_
            by_cases c6 : i3 = 0
            · refine V_tabIn (off := 26) (tgt := 76) dX8_change_50 (by omega) (by omega) (by rw [c6]; rfl) (by decide) ?_
              refine V_aload (i := 4) dX8_change_76 rfl ?_
              refine V_getP dX8_change_78 fX8_276 rfl (s7 c1 c2 c3 c4) ?_
              refine V_iload_n (i := 2) dX8_change_81 rfl rfl ?_
              refine V_iald dX8_change_82 (s8 c1 c2 c3 c4 c5 c6) (s9 c1 c2 c3 c4 c5 c6) (s10 c1 c2 c3 c4 c5 c6) ?_
              exact V_reti rfl dX8_change_83 (q4 c1 c2 c3 c4 c5 c6)
            by_cases c7 : i3 = 1
            · refine V_tabIn (off := 34) (tgt := 84) dX8_change_50 (by omega) (by omega) (by rw [c7]; rfl) (by decide) ?_
              refine V_aload (i := 4) dX8_change_84 rfl ?_
              refine V_getP dX8_change_86 fX8_277 rfl (s7 c1 c2 c3 c4) ?_
              refine V_iload_n (i := 2) dX8_change_89 rfl rfl ?_
              refine V_iald dX8_change_90 (s11 c1 c2 c3 c4 c5 c6 c7) (s12 c1 c2 c3 c4 c5 c6 c7) (s13 c1 c2 c3 c4 c5 c6 c7) ?_
              exact V_reti rfl dX8_change_91 (q5 c1 c2 c3 c4 c5 c6 c7)
            by_cases c8 : i3 = 2
            · refine V_tabIn (off := 42) (tgt := 92) dX8_change_50 (by omega) (by omega) (by rw [c8]; rfl) (by decide) ?_
              refine V_aload (i := 4) dX8_change_92 rfl ?_
              refine V_getP dX8_change_94 fX8_280 rfl (s7 c1 c2 c3 c4) ?_
              refine V_iload_n (i := 2) dX8_change_97 rfl rfl ?_
              refine V_iald dX8_change_98 (s14 c1 c2 c3 c4 c5 c6 c7 c8) (s15 c1 c2 c3 c4 c5 c6 c7 c8) (s16 c1 c2 c3 c4 c5 c6 c7 c8) ?_
              exact V_reti rfl dX8_change_99 (q6 c1 c2 c3 c4 c5 c6 c7 c8)
            refine V_tabOut (tgt := 100) dX8_change_50 (by omega) (by decide) ?_
            refine V_aload (i := 4) dX8_change_100 rfl ?_
            refine V_iload_n (i := 2) dX8_change_102 rfl rfl ?_
            refine V_iconst dX8_change_103 ⟨by decide, by decide⟩ ?_
            exact V_callV (M := MX8_change) (d := (d + 3)) (mc' := 0) (ms' := 0) (mc := 0) (ms := 0) (As := [.inl i2, .inl 0]) (rest := []) dX8_change_104 tX1_indexOf vX1_indexOf lX8_281 (s7 c1 c2 c3 c4) ⟨by decide, rfl⟩ rfl rfl (Nat.le_of_ble_eq_true rfl) (show (d + 2) + 1 ≤ (d + 3) by omega) (e1 c1 c2 c3 c4 c5 c6 c7 c8)
          · refine V_bipush dX8_change_46 (by decide +kernel) ⟨by decide, by decide⟩ ?_
            exact V_reti rfl dX8_change_48 (q7 c1 c2 c3 c4 c5)
        · refine V_iconst dX8_change_21 ⟨by decide, by decide⟩ ?_
          exact V_reti rfl dX8_change_22 (q8 c1 c2 c3 c4)
theorem bX8_change_107 {d : Nat} {Q : Option jA → jH → Prop} (a0 : Nat) (i1 : Int) (i2 : Int) (i3 : Int) (a4 : Nat) (p0 : Int) (h : jH)
    (q1 : Q (some (.inl p0)) h) :
    V MX8_change (d + 3) 107 [some (.inr a0), some (.inl i1), some (.inl i2), some (.inl i3), some (.inr a4)] [.inl p0] h 0 0 Q := by
  exact V_reti rfl dX8_change_107 q1
theorem dX8_packed_0 : decode cX8_packed 0 = .ok (.iload_n 1, 1) := by decide +kernel
theorem dX8_packed_1 : decode cX8_packed 1 = .ok (.iconst 1, 1) := by decide +kernel
theorem dX8_packed_2 : decode cX8_packed 2 = .ok (.if_icmp .lt 9, 3) := by decide +kernel
theorem dX8_packed_5 : decode cX8_packed 5 = .ok (.iload_n 1, 1) := by decide +kernel
theorem dX8_packed_6 : decode cX8_packed 6 = .ok (.bipush 8, 2) := by decide +kernel
theorem dX8_packed_8 : decode cX8_packed 8 = .ok (.if_icmp .le 7, 3) := by decide +kernel
theorem dX8_packed_11 : decode cX8_packed 11 = .ok (.iconst (-1), 1) := by decide +kernel
theorem dX8_packed_12 : decode cX8_packed 12 = .ok (.goto 8, 3) := by decide +kernel
theorem dX8_packed_15 : decode cX8_packed 15 = .ok (.aload_n 0, 1) := by decide +kernel
theorem dX8_packed_16 : decode cX8_packed 16 = .ok (.iload_n 1, 1) := by decide +kernel
theorem dX8_packed_17 : decode cX8_packed 17 = .ok (.invokevirtual 284, 3) := by decide +kernel
theorem dX8_packed_20 : decode cX8_packed 20 = .ok (.ireturn, 1) := by decide +kernel
theorem bX8_packed_0 {d : Nat} {Q : Option jA → jH → Prop} (a0 : Nat) (i1 : Int) (h : jH)
    (q1 : (i1 < 1) → Q (some (.inl ((-1)))) h)
    (e1 : (¬ (i1 < 1)) → (i1 ≤ 8) → Ex MX8_roomDivided (d + 5) [.inr a0, .inl i1] h 0 0 (fun v h2 => V MX8_packed (d + 6) 20 [some (.inr a0), some (.inl i1)] (v.toList ++ []) h2 0 0 Q))
    (s1 : (jS h a0).1 = 8)
    (q2 : (¬ (i1 < 1)) → (¬ (i1 ≤ 8)) → Q (some (.inl ((-1)))) h) :
    V MX8_packed (d + 6) 0 [some (.inr a0), some (.inl i1)] [] h 0 0 Q := by
  refine V_iload_n (i := 1) dX8_packed_0 rfl rfl ?_
  refine V_iconst dX8_packed_1 ⟨by decide, by decide⟩ ?_
  refine V_icmp_lt (tgt := 11) dX8_packed_2 (by decide) (fun c1 => ?_) (fun c1 => ?_)
  · refine V_iconst dX8_packed_11 ⟨by decide, by decide⟩ ?_
    refine V_goto (tgt := 20) dX8_packed_12 (by decide) ?_
    exact V_reti rfl dX8_packed_20 (q1 c1)
  · refine V_iload_n (i := 1) dX8_packed_5 rfl rfl ?_
    refine V_bipush dX8_packed_6 (by decide +kernel) ⟨by decide, by decide⟩ ?_
    refine V_icmp_le (tgt := 15) dX8_packed_8 (by decide) (fun c2 => ?_) (fun c2 => ?_)
    · refine V_aload_n (i := 0) dX8_packed_15 rfl rfl ?_
      refine V_iload_n (i := 1) dX8_packed_16 rfl rfl ?_
      exact V_callV (M := MX8_packed) (d := (d + 6)) (mc' := 0) (ms' := 0) (mc := 0) (ms := 0) (As := [.inl i1]) (rest := []) dX8_packed_17 tX8_roomDivided vX8_roomDivided lX8_284 s1 ⟨by decide, rfl⟩ rfl rfl (Nat.le_of_ble_eq_true rfl) (show (d + 5) + 1 ≤ (d + 6) by omega) (e1 c1 c2)
    · refine V_iconst dX8_packed_11 ⟨by decide, by decide⟩ ?_
      refine V_goto (tgt := 20) dX8_packed_12 (by decide) ?_
      exact V_reti rfl dX8_packed_20 (q2 c1 c2)
theorem bX8_packed_20 {d : Nat} {Q : Option jA → jH → Prop} (a0 : Nat) (i1 : Int) (p0 : Int) (h : jH)
    (q1 : Q (some (.inl p0)) h) :
    V MX8_packed (d + 6) 20 [some (.inr a0), some (.inl i1)] [.inl p0] h 0 0 Q := by
  exact V_reti rfl dX8_packed_20 q1
theorem dX8_best_0 : decode cX8_best 0 = .ok (.iconst 1, 1) := by decide +kernel
theorem dX8_best_1 : decode cX8_best 1 = .ok (.istore_n 1, 1) := by decide +kernel
theorem dX8_best_2 : decode cX8_best 2 = .ok (.aload_n 0, 1) := by decide +kernel
theorem dX8_best_3 : decode cX8_best 3 = .ok (.iconst 1, 1) := by decide +kernel
theorem dX8_best_4 : decode cX8_best 4 = .ok (.invokevirtual 284, 3) := by decide +kernel
theorem dX8_best_7 : decode cX8_best 7 = .ok (.istore_n 2, 1) := by decide +kernel
theorem dX8_best_8 : decode cX8_best 8 = .ok (.iconst 2, 1) := by decide +kernel
theorem dX8_best_9 : decode cX8_best 9 = .ok (.istore_n 3, 1) := by decide +kernel
theorem dX8_best_10 : decode cX8_best 10 = .ok (.iload_n 3, 1) := by decide +kernel
theorem dX8_best_11 : decode cX8_best 11 = .ok (.bipush 8, 2) := by decide +kernel
theorem dX8_best_13 : decode cX8_best 13 = .ok (.if_icmp .gt 27, 3) := by decide +kernel
theorem dX8_best_16 : decode cX8_best 16 = .ok (.aload_n 0, 1) := by decide +kernel
theorem dX8_best_17 : decode cX8_best 17 = .ok (.iload_n 3, 1) := by decide +kernel
theorem dX8_best_18 : decode cX8_best 18 = .ok (.invokevirtual 284, 3) := by decide +kernel
theorem dX8_best_21 : decode cX8_best 21 = .ok (.istore 4, 2) := by decide +kernel
theorem dX8_best_23 : decode cX8_best 23 = .ok (.iload 4, 2) := by decide +kernel
theorem dX8_best_25 : decode cX8_best 25 = .ok (.iload_n 2, 1) := by decide +kernel
theorem dX8_best_26 : decode cX8_best 26 = .ok (.if_icmp .ge 8, 3) := by decide +kernel
theorem dX8_best_29 : decode cX8_best 29 = .ok (.iload 4, 2) := by decide +kernel
theorem dX8_best_31 : decode cX8_best 31 = .ok (.istore_n 2, 1) := by decide +kernel
theorem dX8_best_32 : decode cX8_best 32 = .ok (.iload_n 3, 1) := by decide +kernel
theorem dX8_best_33 : decode cX8_best 33 = .ok (.istore_n 1, 1) := by decide +kernel
theorem dX8_best_34 : decode cX8_best 34 = .ok (.iinc 3 1, 3) := by decide +kernel
theorem dX8_best_37 : decode cX8_best 37 = .ok (.goto (-27), 3) := by decide +kernel
theorem dX8_best_40 : decode cX8_best 40 = .ok (.iload_n 1, 1) := by decide +kernel
theorem dX8_best_41 : decode cX8_best 41 = .ok (.ireturn, 1) := by decide +kernel
theorem bX8_best_0 {d : Nat} {Q : Option jA → jH → Prop} (a0 : Nat) (u1 : Option jA) (u2 : Option jA) (u3 : Option jA) (u4 : Option jA) (h : jH)
    (e1 : Ex MX8_roomDivided (d + 5) [.inr a0, .inl 1] h 0 0 (fun v h2 => V MX8_best (d + 6) 7 [some (.inr a0), some (.inl 1), u2, u3, u4] (v.toList ++ []) h2 0 0 Q))
    (s1 : (jS h a0).1 = 8) :
    V MX8_best (d + 6) 0 [some (.inr a0), u1, u2, u3, u4] [] h 0 0 Q := by
  refine V_iconst dX8_best_0 ⟨by decide, by decide⟩ ?_
  refine V_istore_n (i := 1) dX8_best_1 rfl (by decide) ?_
  refine V_aload_n (i := 0) dX8_best_2 rfl rfl ?_
  refine V_iconst dX8_best_3 ⟨by decide, by decide⟩ ?_
  exact V_callV (M := MX8_best) (d := (d + 6)) (mc' := 0) (ms' := 0) (mc := 0) (ms := 0) (As := [.inl 1]) (rest := []) dX8_best_4 tX8_roomDivided vX8_roomDivided lX8_284 s1 ⟨by decide, rfl⟩ rfl rfl (Nat.le_of_ble_eq_true rfl) (show (d + 5) + 1 ≤ (d + 6) by omega) e1
theorem bX8_best_10 {d : Nat} {Q : Option jA → jH → Prop} (a0 : Nat) (i1 : Int) (i2 : Int) (i3 : Int) (u4 : Option jA) (h : jH)
    (q1 : (8 < i3) → Q (some (.inl i1)) h)
    (e1 : (¬ (8 < i3)) → Ex MX8_roomDivided (d + 5) [.inr a0, .inl i3] h 0 0 (fun v h2 => V MX8_best (d + 6) 21 [some (.inr a0), some (.inl i1), some (.inl i2), some (.inl i3), u4] (v.toList ++ []) h2 0 0 Q))
    (s1 : (jS h a0).1 = 8) :
    V MX8_best (d + 6) 10 [some (.inr a0), some (.inl i1), some (.inl i2), some (.inl i3), u4] [] h 0 0 Q := by
  refine V_iload_n (i := 3) dX8_best_10 rfl rfl ?_
  refine V_bipush dX8_best_11 (by decide +kernel) ⟨by decide, by decide⟩ ?_
  refine V_icmp_gt (tgt := 40) dX8_best_13 (by decide) (fun c1 => ?_) (fun c1 => ?_)
  · refine V_iload_n (i := 1) dX8_best_40 rfl rfl ?_
    exact V_reti rfl dX8_best_41 (q1 c1)
  · refine V_aload_n (i := 0) dX8_best_16 rfl rfl ?_
    refine V_iload_n (i := 3) dX8_best_17 rfl rfl ?_
    exact V_callV (M := MX8_best) (d := (d + 6)) (mc' := 0) (ms' := 0) (mc := 0) (ms := 0) (As := [.inl i3]) (rest := []) dX8_best_18 tX8_roomDivided vX8_roomDivided lX8_284 s1 ⟨by decide, rfl⟩ rfl rfl (Nat.le_of_ble_eq_true rfl) (show (d + 5) + 1 ≤ (d + 6) by omega) (e1 c1)
theorem bX8_best_7 {d : Nat} {Q : Option jA → jH → Prop} (a0 : Nat) (i1 : Int) (u2 : Option jA) (u3 : Option jA) (u4 : Option jA) (p0 : Int) (h : jH)
    (k1 : V MX8_best (d + 6) 10 [some (.inr a0), some (.inl i1), some (.inl p0), some (.inl 2), u4] [] h 0 0 Q) :
    V MX8_best (d + 6) 7 [some (.inr a0), some (.inl i1), u2, u3, u4] [.inl p0] h 0 0 Q := by
  refine V_istore_n (i := 2) dX8_best_7 rfl (by decide) ?_
  refine V_iconst dX8_best_8 ⟨by decide, by decide⟩ ?_
  refine V_istore_n (i := 3) dX8_best_9 rfl (by decide) ?_
  exact k1
theorem bX8_best_21 {d : Nat} {Q : Option jA → jH → Prop} (a0 : Nat) (i1 : Int) (i2 : Int) (i3 : Int) (u4 : Option jA) (p0 : Int) (h : jH)
    (r1 : (i2 ≤ p0) → jR (i3 + 1))
    (k1 : (i2 ≤ p0) → V MX8_best (d + 6) 10 [some (.inr a0), some (.inl i1), some (.inl i2), some (.inl (i3 + 1)), some (.inl p0)] [] h 0 0 Q)
    (r2 : (¬ (i2 ≤ p0)) → jR (i3 + 1))
    (k2 : (¬ (i2 ≤ p0)) → V MX8_best (d + 6) 10 [some (.inr a0), some (.inl i3), some (.inl p0), some (.inl (i3 + 1)), some (.inl p0)] [] h 0 0 Q) :
    V MX8_best (d + 6) 21 [some (.inr a0), some (.inl i1), some (.inl i2), some (.inl i3), u4] [.inl p0] h 0 0 Q := by
  refine V_istore (i := 4) dX8_best_21 (by decide) ?_
  refine V_iload (i := 4) dX8_best_23 rfl ?_
  refine V_iload_n (i := 2) dX8_best_25 rfl rfl ?_
  refine V_icmp_ge (tgt := 34) dX8_best_26 (by decide) (fun c1 => ?_) (fun c1 => ?_)
  · refine V_iinc (i := 3) dX8_best_34 rfl (by decide) (r1 c1) ?_
    refine V_goto (tgt := 10) dX8_best_37 (by decide) ?_
    exact (k1 c1)
  · refine V_iload (i := 4) dX8_best_29 rfl ?_
    refine V_istore_n (i := 2) dX8_best_31 rfl (by decide) ?_
    refine V_iload_n (i := 3) dX8_best_32 rfl rfl ?_
    refine V_istore_n (i := 1) dX8_best_33 rfl (by decide) ?_
    refine V_iinc (i := 3) dX8_best_34 rfl (by decide) (r2 c1) ?_
    refine V_goto (tgt := 10) dX8_best_37 (by decide) ?_
    exact (k2 c1)
theorem dX8_sees_0 : decode cX8_sees 0 = .ok (.iload_n 1, 1) := by decide +kernel
theorem dX8_sees_1 : decode cX8_sees 1 = .ok (.ifCond .lt 17, 3) := by decide +kernel
theorem dX8_sees_4 : decode cX8_sees 4 = .ok (.iload_n 1, 1) := by decide +kernel
theorem dX8_sees_5 : decode cX8_sees 5 = .ok (.sipush 999, 3) := by decide +kernel
theorem dX8_sees_8 : decode cX8_sees 8 = .ok (.if_icmp .gt 10, 3) := by decide +kernel
theorem dX8_sees_11 : decode cX8_sees 11 = .ok (.iload_n 2, 1) := by decide +kernel
theorem dX8_sees_12 : decode cX8_sees 12 = .ok (.invokestatic 220, 3) := by decide +kernel
theorem dX8_sees_15 : decode cX8_sees 15 = .ok (.ifCond .ne 5, 3) := by decide +kernel
theorem dX8_sees_18 : decode cX8_sees 18 = .ok (.iconst (-1), 1) := by decide +kernel
theorem dX8_sees_19 : decode cX8_sees 19 = .ok (.ireturn, 1) := by decide +kernel
theorem dX8_sees_20 : decode cX8_sees 20 = .ok (.aload_n 0, 1) := by decide +kernel
theorem dX8_sees_21 : decode cX8_sees 21 = .ok (.getfield 106, 3) := by decide +kernel
theorem dX8_sees_24 : decode cX8_sees 24 = .ok (.bipush 6, 2) := by decide +kernel
theorem dX8_sees_26 : decode cX8_sees 26 = .ok (.if_icmp .lt 6, 3) := by decide +kernel
theorem dX8_sees_29 : decode cX8_sees 29 = .ok (.bipush (-3), 2) := by decide +kernel
theorem dX8_sees_31 : decode cX8_sees 31 = .ok (.ireturn, 1) := by decide +kernel
theorem dX8_sees_32 : decode cX8_sees 32 = .ok (.aload_n 0, 1) := by decide +kernel
theorem dX8_sees_33 : decode cX8_sees 33 = .ok (.getfield 57, 3) := by decide +kernel
theorem dX8_sees_36 : decode cX8_sees 36 = .ok (.aload_n 0, 1) := by decide +kernel
theorem dX8_sees_37 : decode cX8_sees 37 = .ok (.getfield 106, 3) := by decide +kernel
theorem dX8_sees_40 : decode cX8_sees 40 = .ok (.iload_n 1, 1) := by decide +kernel
theorem dX8_sees_41 : decode cX8_sees 41 = .ok (.iastore, 1) := by decide +kernel
theorem dX8_sees_42 : decode cX8_sees 42 = .ok (.aload_n 0, 1) := by decide +kernel
theorem dX8_sees_43 : decode cX8_sees 43 = .ok (.getfield 61, 3) := by decide +kernel
theorem dX8_sees_46 : decode cX8_sees 46 = .ok (.aload_n 0, 1) := by decide +kernel
theorem dX8_sees_47 : decode cX8_sees 47 = .ok (.getfield 106, 3) := by decide +kernel
theorem dX8_sees_50 : decode cX8_sees 50 = .ok (.iload_n 2, 1) := by decide +kernel
theorem dX8_sees_51 : decode cX8_sees 51 = .ok (.iastore, 1) := by decide +kernel
theorem dX8_sees_52 : decode cX8_sees 52 = .ok (.aload_n 0, 1) := by decide +kernel
theorem dX8_sees_53 : decode cX8_sees 53 = .ok (.dup, 1) := by decide +kernel
theorem dX8_sees_54 : decode cX8_sees 54 = .ok (.getfield 106, 3) := by decide +kernel
theorem dX8_sees_57 : decode cX8_sees 57 = .ok (.iconst 1, 1) := by decide +kernel
theorem dX8_sees_58 : decode cX8_sees 58 = .ok (.iadd, 1) := by decide +kernel
theorem dX8_sees_59 : decode cX8_sees 59 = .ok (.putfield 106, 3) := by decide +kernel
theorem dX8_sees_62 : decode cX8_sees 62 = .ok (.aload_n 0, 1) := by decide +kernel
theorem dX8_sees_63 : decode cX8_sees 63 = .ok (.getfield 106, 3) := by decide +kernel
theorem dX8_sees_66 : decode cX8_sees 66 = .ok (.ireturn, 1) := by decide +kernel
theorem bX8_sees_0 {d : Nat} {Q : Option jA → jH → Prop} (a0 : Nat) (i1 : Int) (i2 : Int) (h : jH)
    (q1 : (i1 < 0) → Q (some (.inl ((-1)))) h)
    (q2 : (¬ (i1 < 0)) → (999 < i1) → Q (some (.inl ((-1)))) h)
    (s1 : (jS h a0).1 = 8)
    (s2 : (jS h (jP h a0 8)).1 = 16)
    (s3 : (¬ (i1 < 0)) → (¬ (999 < i1)) → (i2 = (-7) ∨ (0 ≤ i2 ∧ i2 ≤ 255)) → ((jI h a0 10) < 6) → 0 ≤ jI h a0 10)
    (s4 : (¬ (i1 < 0)) → (¬ (999 < i1)) → (i2 = (-7) ∨ (0 ≤ i2 ∧ i2 ≤ 255)) → ((jI h a0 10) < 6) → jI h a0 10 < ((jS h (jP h a0 8)).2 : Int))
    (s5 : (jS h (jP h a0 9)).1 = 16)
    (s6 : (¬ (i1 < 0)) → (¬ (999 < i1)) → (i2 = (-7) ∨ (0 ≤ i2 ∧ i2 ≤ 255)) → ((jI h a0 10) < 6) → jI h a0 10 < ((jS h (jP h a0 9)).2 : Int))
    (r1 : (¬ (i1 < 0)) → (¬ (999 < i1)) → (i2 = (-7) ∨ (0 ≤ i2 ∧ i2 ≤ 255)) → ((jI h a0 10) < 6) → jR ((jI h a0 10) + 1))
    (q3 : (¬ (i1 < 0)) → (¬ (999 < i1)) → (i2 = (-7) ∨ (0 ≤ i2 ∧ i2 ≤ 255)) → ((jI h a0 10) < 6) → Q (some (.inl ((jI h a0 10) + 1))) (jsI (jsX (jsX h (jP h a0 8) ((jI h a0 10).toNat) i1) (jP h a0 9) ((jI h a0 10).toNat) i2) a0 10 ((jI h a0 10) + 1)))
    (q4 : (¬ (i1 < 0)) → (¬ (999 < i1)) → (i2 = (-7) ∨ (0 ≤ i2 ∧ i2 ≤ 255)) → (¬ ((jI h a0 10) < 6)) → Q (some (.inl ((-3)))) h)
    (q5 : (¬ (i1 < 0)) → (¬ (999 < i1)) → (¬ (i2 = (-7) ∨ (0 ≤ i2 ∧ i2 ≤ 255))) → Q (some (.inl ((-1)))) h) :
    V MX8_sees (d + 1) 0 [some (.inr a0), some (.inl i1), some (.inl i2)] [] h 0 0 Q := by
  refine V_iload_n (i := 1) dX8_sees_0 rfl rfl ?_
  refine V_if_lt (tgt := 18) dX8_sees_1 (by decide) (fun c1 => ?_) (fun c1 => ?_)
  · refine V_iconst dX8_sees_18 ⟨by decide, by decide⟩ ?_
    exact V_reti rfl dX8_sees_19 (q1 c1)
  · refine V_iload_n (i := 1) dX8_sees_4 rfl rfl ?_
    refine V_sipush dX8_sees_5 (by decide +kernel) ⟨by decide, by decide⟩ ?_
    refine V_icmp_gt (tgt := 18) dX8_sees_8 (by decide) (fun c2 => ?_) (fun c2 => ?_)
    · refine V_iconst dX8_sees_18 ⟨by decide, by decide⟩ ?_
      exact V_reti rfl dX8_sees_19 (q2 c1 c2)
    · refine V_iload_n (i := 2) dX8_sees_11 rfl rfl ?_
      refine V_callS (M := MX8_sees) (d := (d + 1)) (mc' := 0) (ms' := 0) (mc := 0) (ms := 0) (a := 0) (As := [.inl i2]) (rest := []) dX8_sees_12 tX8_isRecordable sX8_isRecordable lX8_220 rfl rfl (Nat.le_of_ble_eq_true rfl) (show d + 1 ≤ (d + 1) by omega) (Ex.mono (pX8_isRecordable (d := d) ) ?_)
      intro v h2 hq
      rw [hq.1, hq.2]
      show V MX8_sees (d + 1) 15 [some (.inr a0), some (.inl i1), some (.inl i2)] [.inl (jb (i2 = (-7) ∨ (0 ≤ i2 ∧ i2 ≤ 255)))] h 0 0 Q
      refine V_ifb_ne (tgt := 20) dX8_sees_15 (by decide) (fun c3 => ?_) (fun c3 => ?_)
      · refine V_aload_n (i := 0) dX8_sees_20 rfl rfl ?_
        refine V_getI dX8_sees_21 fX8_106 rfl s1 ?_
        refine V_bipush dX8_sees_24 (by decide +kernel) ⟨by decide, by decide⟩ ?_
        refine V_icmp_lt (tgt := 32) dX8_sees_26 (by decide) (fun c4 => ?_) (fun c4 => ?_)
        · refine V_aload_n (i := 0) dX8_sees_32 rfl rfl ?_
          refine V_getP dX8_sees_33 fX8_57 rfl s1 ?_
          refine V_aload_n (i := 0) dX8_sees_36 rfl rfl ?_
          refine V_getI dX8_sees_37 fX8_106 rfl s1 ?_
          refine V_iload_n (i := 1) dX8_sees_40 rfl rfl ?_
          refine V_iast dX8_sees_41 s2 (s3 c1 c2 c3 c4) (s4 c1 c2 c3 c4) ?_
          refine V_aload_n (i := 0) dX8_sees_42 rfl rfl ?_
          refine V_getP dX8_sees_43 fX8_61 rfl s1 ?_
          refine V_aload_n (i := 0) dX8_sees_46 rfl rfl ?_
          refine V_getI dX8_sees_47 fX8_106 rfl s1 ?_
          refine V_iload_n (i := 2) dX8_sees_50 rfl rfl ?_
          refine V_iast dX8_sees_51 s5 (s3 c1 c2 c3 c4) (s6 c1 c2 c3 c4) ?_
          refine V_aload_n (i := 0) dX8_sees_52 rfl rfl ?_
          refine V_dup dX8_sees_53 ?_
          refine V_getI dX8_sees_54 fX8_106 rfl s1 ?_
          refine V_iconst dX8_sees_57 ⟨by decide, by decide⟩ ?_
          refine V_iadd dX8_sees_58 (r1 c1 c2 c3 c4) ?_
          refine V_putI (ci := 8) (kf := 10) dX8_sees_59 fX8_106 rfl rfl s1 ?_
          refine V_aload_n (i := 0) dX8_sees_62 rfl rfl ?_
          refine V_getI dX8_sees_63 fX8_106 rfl s1 ?_
          refine V_topI (jI_at) ?_
          exact V_reti rfl dX8_sees_66 (q3 c1 c2 c3 c4)
        · refine V_bipush dX8_sees_29 (by decide +kernel) ⟨by decide, by decide⟩ ?_
          exact V_reti rfl dX8_sees_31 (q4 c1 c2 c3 c4)
      · refine V_iconst dX8_sees_18 ⟨by decide, by decide⟩ ?_
        exact V_reti rfl dX8_sees_19 (q5 c1 c2 c3)
theorem dX8_forget_0 : decode cX8_forget 0 = .ok (.aload_n 0, 1) := by decide +kernel
theorem dX8_forget_1 : decode cX8_forget 1 = .ok (.getfield 106, 3) := by decide +kernel
theorem dX8_forget_4 : decode cX8_forget 4 = .ok (.istore_n 1, 1) := by decide +kernel
theorem dX8_forget_5 : decode cX8_forget 5 = .ok (.aload_n 0, 1) := by decide +kernel
theorem dX8_forget_6 : decode cX8_forget 6 = .ok (.iconst 0, 1) := by decide +kernel
theorem dX8_forget_7 : decode cX8_forget 7 = .ok (.putfield 106, 3) := by decide +kernel
theorem dX8_forget_10 : decode cX8_forget 10 = .ok (.iload_n 1, 1) := by decide +kernel
theorem dX8_forget_11 : decode cX8_forget 11 = .ok (.ireturn, 1) := by decide +kernel
theorem bX8_forget_0 {d : Nat} {Q : Option jA → jH → Prop} (a0 : Nat) (u1 : Option jA) (h : jH)
    (s1 : (jS h a0).1 = 8)
    (q1 : Q (some (.inl (jI h a0 10))) (jsI h a0 10 0)) :
    V MX8_forget d 0 [some (.inr a0), u1] [] h 0 0 Q := by
  refine V_aload_n (i := 0) dX8_forget_0 rfl rfl ?_
  refine V_getI dX8_forget_1 fX8_106 rfl s1 ?_
  refine V_istore_n (i := 1) dX8_forget_4 rfl (by decide) ?_
  refine V_aload_n (i := 0) dX8_forget_5 rfl rfl ?_
  refine V_iconst dX8_forget_6 ⟨by decide, by decide⟩ ?_
  refine V_putI (ci := 8) (kf := 10) dX8_forget_7 fX8_106 rfl rfl s1 ?_
  refine V_iload_n (i := 1) dX8_forget_10 rfl rfl ?_
  exact V_reti rfl dX8_forget_11 q1
theorem dX8_which_0 : decode cX8_which 0 = .ok (.aload_n 0, 1) := by decide +kernel
theorem dX8_which_1 : decode cX8_which 1 = .ok (.invokevirtual 287, 3) := by decide +kernel
theorem dX8_which_4 : decode cX8_which 4 = .ok (.ireturn, 1) := by decide +kernel
theorem bX8_which_0 {d : Nat} {Q : Option jA → jH → Prop} (a0 : Nat) (h : jH)
    (e1 : Ex MX8_agreeing (d + 4) [.inr a0] h 0 0 (fun v h2 => V MX8_which (d + 5) 4 [some (.inr a0)] (v.toList ++ []) h2 0 0 Q))
    (s1 : (jS h a0).1 = 8) :
    V MX8_which (d + 5) 0 [some (.inr a0)] [] h 0 0 Q := by
  refine V_aload_n (i := 0) dX8_which_0 rfl rfl ?_
  exact V_callV (M := MX8_which) (d := (d + 5)) (mc' := 0) (ms' := 0) (mc := 0) (ms := 0) (As := []) (rest := []) dX8_which_1 tX8_agreeing vX8_agreeing lX8_287 s1 ⟨by decide, rfl⟩ rfl rfl (Nat.le_of_ble_eq_true rfl) (show (d + 4) + 1 ≤ (d + 5) by omega) e1
theorem bX8_which_4 {d : Nat} {Q : Option jA → jH → Prop} (a0 : Nat) (p0 : Int) (h : jH)
    (q1 : Q (some (.inl p0)) h) :
    V MX8_which (d + 5) 4 [some (.inr a0)] [.inl p0] h 0 0 Q := by
  exact V_reti rfl dX8_which_4 q1
theorem dX8_look_0 : decode cX8_look 0 = .ok (.aload_n 0, 1) := by decide +kernel
theorem dX8_look_1 : decode cX8_look 1 = .ok (.invokevirtual 287, 3) := by decide +kernel
theorem dX8_look_4 : decode cX8_look 4 = .ok (.istore_n 1, 1) := by decide +kernel
theorem dX8_look_5 : decode cX8_look 5 = .ok (.iload_n 1, 1) := by decide +kernel
theorem dX8_look_6 : decode cX8_look 6 = .ok (.invokestatic 290, 3) := by decide +kernel
theorem dX8_look_9 : decode cX8_look 9 = .ok (.iconst 2, 1) := by decide +kernel
theorem dX8_look_10 : decode cX8_look 10 = .ok (.if_icmp .ge 6, 3) := by decide +kernel
theorem dX8_look_13 : decode cX8_look 13 = .ok (.bipush (-9), 2) := by decide +kernel
theorem dX8_look_15 : decode cX8_look 15 = .ok (.ireturn, 1) := by decide +kernel
theorem dX8_look_16 : decode cX8_look 16 = .ok (.aload_n 0, 1) := by decide +kernel
theorem dX8_look_17 : decode cX8_look 17 = .ok (.getfield 67, 3) := by decide +kernel
theorem dX8_look_20 : decode cX8_look 20 = .ok (.aload_n 0, 1) := by decide +kernel
theorem dX8_look_21 : decode cX8_look 21 = .ok (.getfield 19, 3) := by decide +kernel
theorem dX8_look_24 : decode cX8_look 24 = .ok (.aload_n 0, 1) := by decide +kernel
theorem dX8_look_25 : decode cX8_look 25 = .ok (.getfield 38, 3) := by decide +kernel
theorem dX8_look_28 : decode cX8_look 28 = .ok (.invokevirtual 209, 3) := by decide +kernel
theorem dX8_look_31 : decode cX8_look 31 = .ok (.iconst 0, 1) := by decide +kernel
theorem dX8_look_32 : decode cX8_look 32 = .ok (.istore_n 2, 1) := by decide +kernel
theorem dX8_look_33 : decode cX8_look 33 = .ok (.bipush 13, 2) := by decide +kernel
theorem dX8_look_35 : decode cX8_look 35 = .ok (.istore_n 3, 1) := by decide +kernel
theorem dX8_look_36 : decode cX8_look 36 = .ok (.iconst 0, 1) := by decide +kernel
theorem dX8_look_37 : decode cX8_look 37 = .ok (.istore 4, 2) := by decide +kernel
theorem dX8_look_39 : decode cX8_look 39 = .ok (.iload 4, 2) := by decide +kernel
theorem dX8_look_41 : decode cX8_look 41 = .ok (.aload_n 0, 1) := by decide +kernel
theorem dX8_look_42 : decode cX8_look 42 = .ok (.getfield 67, 3) := by decide +kernel
theorem dX8_look_45 : decode cX8_look 45 = .ok (.getfield 212, 3) := by decide +kernel
theorem dX8_look_48 : decode cX8_look 48 = .ok (.if_icmp .ge 41, 3) := by decide +kernel
theorem dX8_look_51 : decode cX8_look 51 = .ok (.aload_n 0, 1) := by decide +kernel
theorem dX8_look_52 : decode cX8_look 52 = .ok (.getfield 67, 3) := by decide +kernel
theorem dX8_look_55 : decode cX8_look 55 = .ok (.iload_n 1, 1) := by decide +kernel
theorem dX8_look_56 : decode cX8_look 56 = .ok (.iload 4, 2) := by decide +kernel
theorem dX8_look_58 : decode cX8_look 58 = .ok (.invokevirtual 295, 3) := by decide +kernel
theorem dX8_look_61 : decode cX8_look 61 = .ok (.istore 5, 2) := by decide +kernel
theorem dX8_look_63 : decode cX8_look 63 = .ok (.iload 5, 2) := by decide +kernel
theorem dX8_look_65 : decode cX8_look 65 = .ok (.iload_n 3, 1) := by decide +kernel
theorem dX8_look_66 : decode cX8_look 66 = .ok (.if_icmp .ge 17, 3) := by decide +kernel
theorem dX8_look_69 : decode cX8_look 69 = .ok (.iload 5, 2) := by decide +kernel
theorem dX8_look_71 : decode cX8_look 71 = .ok (.istore_n 3, 1) := by decide +kernel
theorem dX8_look_72 : decode cX8_look 72 = .ok (.aload_n 0, 1) := by decide +kernel
theorem dX8_look_73 : decode cX8_look 73 = .ok (.getfield 67, 3) := by decide +kernel
theorem dX8_look_76 : decode cX8_look 76 = .ok (.getfield 213, 3) := by decide +kernel
theorem dX8_look_79 : decode cX8_look 79 = .ok (.iload 4, 2) := by decide +kernel
theorem dX8_look_81 : decode cX8_look 81 = .ok (.iaload, 1) := by decide +kernel
theorem dX8_look_82 : decode cX8_look 82 = .ok (.istore_n 2, 1) := by decide +kernel
theorem dX8_look_83 : decode cX8_look 83 = .ok (.iinc 4 1, 3) := by decide +kernel
theorem dX8_look_86 : decode cX8_look 86 = .ok (.goto (-47), 3) := by decide +kernel
theorem dX8_look_89 : decode cX8_look 89 = .ok (.iload_n 2, 1) := by decide +kernel
theorem dX8_look_90 : decode cX8_look 90 = .ok (.ireturn, 1) := by decide +kernel
theorem bX8_look_0 {d : Nat} {Q : Option jA → jH → Prop} (a0 : Nat) (u1 : Option jA) (u2 : Option jA) (u3 : Option jA) (u4 : Option jA) (u5 : Option jA) (h : jH)
    (e1 : Ex MX8_agreeing (d + 4) [.inr a0] h 0 0 (fun v h2 => V MX8_look (d + 5) 4 [some (.inr a0), u1, u2, u3, u4, u5] (v.toList ++ []) h2 0 0 Q))
    (s1 : (jS h a0).1 = 8) :
    V MX8_look (d + 5) 0 [some (.inr a0), u1, u2, u3, u4, u5] [] h 0 0 Q := by
  refine V_aload_n (i := 0) dX8_look_0 rfl rfl ?_
  exact V_callV (M := MX8_look) (d := (d + 5)) (mc' := 0) (ms' := 0) (mc := 0) (ms := 0) (As := []) (rest := []) dX8_look_1 tX8_agreeing vX8_agreeing lX8_287 s1 ⟨by decide, rfl⟩ rfl rfl (Nat.le_of_ble_eq_true rfl) (show (d + 4) + 1 ≤ (d + 5) by omega) e1
theorem bX8_look_39 {d : Nat} {Q : Option jA → jH → Prop} (a0 : Nat) (i1 : Int) (i2 : Int) (i3 : Int) (i4 : Int) (u5 : Option jA) (h : jH)
    (s1 : (jS h a0).1 = 8)
    (s2 : (jS h (jP h a0 11)).1 = 3)
    (q1 : ((jI h (jP h a0 11) 0) ≤ i4) → Q (some (.inl i2)) h)
    (e1 : (¬ ((jI h (jP h a0 11) 0) ≤ i4)) → Ex MX3_greatestGroup d [.inr (jP h a0 11), .inl i1, .inl i4] h 0 0 (fun v h2 => V MX8_look (d + 5) 61 [some (.inr a0), some (.inl i1), some (.inl i2), some (.inl i3), some (.inl i4), u5] (v.toList ++ []) h2 0 0 Q)) :
    V MX8_look (d + 5) 39 [some (.inr a0), some (.inl i1), some (.inl i2), some (.inl i3), some (.inl i4), u5] [] h 0 0 Q := by
  refine V_iload (i := 4) dX8_look_39 rfl ?_
  refine V_aload_n (i := 0) dX8_look_41 rfl rfl ?_
  refine V_getP dX8_look_42 fX8_67 rfl s1 ?_
  refine V_getI dX8_look_45 fX8_212 rfl s2 ?_
  refine V_icmp_ge (tgt := 89) dX8_look_48 (by decide) (fun c1 => ?_) (fun c1 => ?_)
  · refine V_iload_n (i := 2) dX8_look_89 rfl rfl ?_
    exact V_reti rfl dX8_look_90 (q1 c1)
  · refine V_aload_n (i := 0) dX8_look_51 rfl rfl ?_
    refine V_getP dX8_look_52 fX8_67 rfl s1 ?_
    refine V_iload_n (i := 1) dX8_look_55 rfl rfl ?_
    refine V_iload (i := 4) dX8_look_56 rfl ?_
    exact V_callV (M := MX8_look) (d := (d + 5)) (mc' := 0) (ms' := 0) (mc := 0) (ms := 0) (As := [.inl i1, .inl i4]) (rest := []) dX8_look_58 tX3_greatestGroup vX3_greatestGroup lX8_295 s2 ⟨by decide, rfl⟩ rfl rfl (Nat.le_of_ble_eq_true rfl) (show d + 1 ≤ (d + 5) by omega) (e1 c1)
theorem bX8_look_4 {d : Nat} {Q : Option jA → jH → Prop} (a0 : Nat) (u1 : Option jA) (u2 : Option jA) (u3 : Option jA) (u4 : Option jA) (u5 : Option jA) (p0 : Int) (h : jH)
    (e1 : Ex MJ6_bitCount_0f7a4 d [.inl p0] h 0 0 (fun v h2 => V MX8_look (d + 5) 9 [some (.inr a0), some (.inl p0), u2, u3, u4, u5] (v.toList ++ []) h2 0 0 Q)) :
    V MX8_look (d + 5) 4 [some (.inr a0), u1, u2, u3, u4, u5] [.inl p0] h 0 0 Q := by
  refine V_istore_n (i := 1) dX8_look_4 rfl (by decide) ?_
  refine V_iload_n (i := 1) dX8_look_5 rfl rfl ?_
  exact V_callS (M := MX8_look) (d := (d + 5)) (mc' := 0) (ms' := 0) (mc := 0) (ms := 0) (a := 0) (As := [.inl p0]) (rest := []) dX8_look_6 tJ6_bitCount_0f7a4 sJ6_bitCount_0f7a4 lX8_290 rfl rfl (Nat.le_of_ble_eq_true rfl) (show d + 1 ≤ (d + 5) by omega) e1
theorem bX8_look_61 {d : Nat} {Q : Option jA → jH → Prop} (a0 : Nat) (i1 : Int) (i2 : Int) (i3 : Int) (i4 : Int) (u5 : Option jA) (p0 : Int) (h : jH)
    (r1 : (i3 ≤ p0) → jR (i4 + 1))
    (k1 : (i3 ≤ p0) → V MX8_look (d + 5) 39 [some (.inr a0), some (.inl i1), some (.inl i2), some (.inl i3), some (.inl (i4 + 1)), some (.inl p0)] [] h 0 0 Q)
    (s1 : (jS h a0).1 = 8)
    (s2 : (jS h (jP h a0 11)).1 = 3)
    (s3 : (jS h (jP h (jP h a0 11) 2)).1 = 16)
    (s4 : (¬ (i3 ≤ p0)) → 0 ≤ i4)
    (s5 : (¬ (i3 ≤ p0)) → i4 < ((jS h (jP h (jP h a0 11) 2)).2 : Int))
    (r2 : (¬ (i3 ≤ p0)) → jR (i4 + 1))
    (k2 : (¬ (i3 ≤ p0)) → V MX8_look (d + 5) 39 [some (.inr a0), some (.inl i1), some (.inl (jX h (jP h (jP h a0 11) 2) ((i4).toNat))), some (.inl p0), some (.inl (i4 + 1)), some (.inl p0)] [] h 0 0 Q) :
    V MX8_look (d + 5) 61 [some (.inr a0), some (.inl i1), some (.inl i2), some (.inl i3), some (.inl i4), u5] [.inl p0] h 0 0 Q := by
  refine V_istore (i := 5) dX8_look_61 (by decide) ?_
  refine V_iload (i := 5) dX8_look_63 rfl ?_
  refine V_iload_n (i := 3) dX8_look_65 rfl rfl ?_
  refine V_icmp_ge (tgt := 83) dX8_look_66 (by decide) (fun c1 => ?_) (fun c1 => ?_)
  · refine V_iinc (i := 4) dX8_look_83 rfl (by decide) (r1 c1) ?_
    refine V_goto (tgt := 39) dX8_look_86 (by decide) ?_
    exact (k1 c1)
  · refine V_iload (i := 5) dX8_look_69 rfl ?_
    refine V_istore_n (i := 3) dX8_look_71 rfl (by decide) ?_
    refine V_aload_n (i := 0) dX8_look_72 rfl rfl ?_
    refine V_getP dX8_look_73 fX8_67 rfl s1 ?_
    refine V_getP dX8_look_76 fX8_213 rfl s2 ?_
    refine V_iload (i := 4) dX8_look_79 rfl ?_
    refine V_iald dX8_look_81 s3 (s4 c1) (s5 c1) ?_
    refine V_istore_n (i := 2) dX8_look_82 rfl (by decide) ?_
    refine V_iinc (i := 4) dX8_look_83 rfl (by decide) (r2 c1) ?_
    refine V_goto (tgt := 39) dX8_look_86 (by decide) ?_
    exact (k2 c1)
theorem bX8_look_9 {d : Nat} {Q : Option jA → jH → Prop} (a0 : Nat) (i1 : Int) (u2 : Option jA) (u3 : Option jA) (u4 : Option jA) (u5 : Option jA) (p0 : Int) (h : jH)
    (s1 : (jS h a0).1 = 8)
    (e1 : (2 ≤ p0) → Ex MX3_read (d + 3) [.inr (jP h a0 11), .inr (jP h a0 1), .inr (jP h a0 4)] h 0 0 (fun v h2 => V MX8_look (d + 5) 31 [some (.inr a0), some (.inl i1), u2, u3, u4, u5] (v.toList ++ []) h2 0 0 Q))
    (s2 : (jS h (jP h a0 11)).1 = 3)
    (q1 : (¬ (2 ≤ p0)) → Q (some (.inl ((-9)))) h) :
    V MX8_look (d + 5) 9 [some (.inr a0), some (.inl i1), u2, u3, u4, u5] [.inl p0] h 0 0 Q := by
  refine V_iconst dX8_look_9 ⟨by decide, by decide⟩ ?_
  refine V_icmp_ge (tgt := 16) dX8_look_10 (by decide) (fun c1 => ?_) (fun c1 => ?_)
  · refine V_aload_n (i := 0) dX8_look_16 rfl rfl ?_
    refine V_getP dX8_look_17 fX8_67 rfl s1 ?_
    refine V_aload_n (i := 0) dX8_look_20 rfl rfl ?_
    refine V_getP dX8_look_21 fX8_19 rfl s1 ?_
    refine V_aload_n (i := 0) dX8_look_24 rfl rfl ?_
    refine V_getP dX8_look_25 fX8_38 rfl s1 ?_
    exact V_callV (M := MX8_look) (d := (d + 5)) (mc' := 0) (ms' := 0) (mc := 0) (ms := 0) (As := [.inr (jP h a0 1), .inr (jP h a0 4)]) (rest := []) dX8_look_28 tX3_read vX3_read lX8_209 s2 ⟨by decide, rfl⟩ rfl rfl (Nat.le_of_ble_eq_true rfl) (show (d + 3) + 1 ≤ (d + 5) by omega) (e1 c1)
  · refine V_bipush dX8_look_13 (by decide +kernel) ⟨by decide, by decide⟩ ?_
    exact V_reti rfl dX8_look_15 (q1 c1)
theorem bX8_look_31 {d : Nat} {Q : Option jA → jH → Prop} (a0 : Nat) (i1 : Int) (u2 : Option jA) (u3 : Option jA) (u4 : Option jA) (u5 : Option jA) (h : jH)
    (k1 : V MX8_look (d + 5) 39 [some (.inr a0), some (.inl i1), some (.inl 0), some (.inl 13), some (.inl 0), u5] [] h 0 0 Q) :
    V MX8_look (d + 5) 31 [some (.inr a0), some (.inl i1), u2, u3, u4, u5] [] h 0 0 Q := by
  refine V_iconst dX8_look_31 ⟨by decide, by decide⟩ ?_
  refine V_istore_n (i := 2) dX8_look_32 rfl (by decide) ?_
  refine V_bipush dX8_look_33 (by decide +kernel) ⟨by decide, by decide⟩ ?_
  refine V_istore_n (i := 3) dX8_look_35 rfl (by decide) ?_
  refine V_iconst dX8_look_36 ⟨by decide, by decide⟩ ?_
  refine V_istore (i := 4) dX8_look_37 (by decide) ?_
  exact k1
theorem dX8_keep_0 : decode cX8_keep 0 = .ok (.iload_n 1, 1) := by decide +kernel
theorem dX8_keep_1 : decode cX8_keep 1 = .ok (.ifCond .lt 8, 3) := by decide +kernel
theorem dX8_keep_4 : decode cX8_keep 4 = .ok (.iload_n 1, 1) := by decide +kernel
theorem dX8_keep_5 : decode cX8_keep 5 = .ok (.iconst 2, 1) := by decide +kernel
theorem dX8_keep_6 : decode cX8_keep 6 = .ok (.if_icmp .lt 5, 3) := by decide +kernel
theorem dX8_keep_9 : decode cX8_keep 9 = .ok (.iconst (-1), 1) := by decide +kernel
theorem dX8_keep_10 : decode cX8_keep 10 = .ok (.ireturn, 1) := by decide +kernel
theorem dX8_keep_11 : decode cX8_keep 11 = .ok (.aload_n 0, 1) := by decide +kernel
theorem dX8_keep_12 : decode cX8_keep 12 = .ok (.getfield 49, 3) := by decide +kernel
theorem dX8_keep_15 : decode cX8_keep 15 = .ok (.iload_n 1, 1) := by decide +kernel
theorem dX8_keep_16 : decode cX8_keep 16 = .ok (.aaload, 1) := by decide +kernel
theorem dX8_keep_17 : decode cX8_keep 17 = .ok (.aload_n 0, 1) := by decide +kernel
theorem dX8_keep_18 : decode cX8_keep 18 = .ok (.getfield 38, 3) := by decide +kernel
theorem dX8_keep_21 : decode cX8_keep 21 = .ok (.invokevirtual 298, 3) := by decide +kernel
theorem dX8_keep_24 : decode cX8_keep 24 = .ok (.aload_n 0, 1) := by decide +kernel
theorem dX8_keep_25 : decode cX8_keep 25 = .ok (.getfield 53, 3) := by decide +kernel
theorem dX8_keep_28 : decode cX8_keep 28 = .ok (.iload_n 1, 1) := by decide +kernel
theorem dX8_keep_29 : decode cX8_keep 29 = .ok (.iconst 1, 1) := by decide +kernel
theorem dX8_keep_30 : decode cX8_keep 30 = .ok (.bastore, 1) := by decide +kernel
theorem dX8_keep_31 : decode cX8_keep 31 = .ok (.aload_n 0, 1) := by decide +kernel
theorem dX8_keep_32 : decode cX8_keep 32 = .ok (.getfield 38, 3) := by decide +kernel
theorem dX8_keep_35 : decode cX8_keep 35 = .ok (.getfield 186, 3) := by decide +kernel
theorem dX8_keep_38 : decode cX8_keep 38 = .ok (.ireturn, 1) := by decide +kernel
theorem bX8_keep_0 {d : Nat} {Q : Option jA → jH → Prop} (a0 : Nat) (i1 : Int) (h : jH)
    (q1 : (i1 < 0) → Q (some (.inl ((-1)))) h)
    (s1 : (jS h a0).1 = 8)
    (s2 : (jS h (jP h a0 6)).1 = 19)
    (s3 : (¬ (i1 < 0)) → (i1 < 2) → 0 ≤ i1)
    (s4 : (¬ (i1 < 0)) → (i1 < 2) → i1 < ((jS h (jP h a0 6)).2 : Int))
    (e1 : (¬ (i1 < 0)) → (i1 < 2) → Ex MX6_copyFrom (d + 4) [.inr (jY h (jP h a0 6) ((i1).toNat)), .inr (jP h a0 4)] h 0 0 (fun v h2 => V MX8_keep (d + 5) 24 [some (.inr a0), some (.inl i1)] (v.toList ++ []) h2 0 0 Q))
    (s5 : (¬ (i1 < 0)) → (i1 < 2) → (jS h (jY h (jP h a0 6) ((i1).toNat))).1 = 6)
    (q2 : (¬ (i1 < 0)) → (¬ (i1 < 2)) → Q (some (.inl ((-1)))) h) :
    V MX8_keep (d + 5) 0 [some (.inr a0), some (.inl i1)] [] h 0 0 Q := by
  refine V_iload_n (i := 1) dX8_keep_0 rfl rfl ?_
  refine V_if_lt (tgt := 9) dX8_keep_1 (by decide) (fun c1 => ?_) (fun c1 => ?_)
  · refine V_iconst dX8_keep_9 ⟨by decide, by decide⟩ ?_
    exact V_reti rfl dX8_keep_10 (q1 c1)
  · refine V_iload_n (i := 1) dX8_keep_4 rfl rfl ?_
    refine V_iconst dX8_keep_5 ⟨by decide, by decide⟩ ?_
    refine V_icmp_lt (tgt := 11) dX8_keep_6 (by decide) (fun c2 => ?_) (fun c2 => ?_)
    · refine V_aload_n (i := 0) dX8_keep_11 rfl rfl ?_
      refine V_getP dX8_keep_12 fX8_49 rfl s1 ?_
      refine V_iload_n (i := 1) dX8_keep_15 rfl rfl ?_
      refine V_aald19 dX8_keep_16 s2 (s3 c1 c2) (s4 c1 c2) ?_
      refine V_aload_n (i := 0) dX8_keep_17 rfl rfl ?_
      refine V_getP dX8_keep_18 fX8_38 rfl s1 ?_
      exact V_callV (M := MX8_keep) (d := (d + 5)) (mc' := 0) (ms' := 0) (mc := 0) (ms := 0) (As := [.inr (jP h a0 4)]) (rest := []) dX8_keep_21 tX6_copyFrom vX6_copyFrom lX8_298 (s5 c1 c2) ⟨by decide, rfl⟩ rfl rfl (Nat.le_of_ble_eq_true rfl) (show (d + 4) + 1 ≤ (d + 5) by omega) (e1 c1 c2)
    · refine V_iconst dX8_keep_9 ⟨by decide, by decide⟩ ?_
      exact V_reti rfl dX8_keep_10 (q2 c1 c2)
theorem bX8_keep_24 {d : Nat} {Q : Option jA → jH → Prop} (a0 : Nat) (i1 : Int) (h : jH)
    (s1 : (jS h a0).1 = 8)
    (s2 : (jS h (jP h a0 7)).1 = 17)
    (s3 : 0 ≤ i1)
    (s4 : i1 < ((jS h (jP h a0 7)).2 : Int))
    (s5 : (jS h (jP h a0 4)).1 = 6)
    (q1 : Q (some (.inl (jI h (jP h a0 4) 0))) (jsX h (jP h a0 7) ((i1).toNat) 1)) :
    V MX8_keep (d + 5) 24 [some (.inr a0), some (.inl i1)] [] h 0 0 Q := by
  refine V_aload_n (i := 0) dX8_keep_24 rfl rfl ?_
  refine V_getP dX8_keep_25 fX8_53 rfl s1 ?_
  refine V_iload_n (i := 1) dX8_keep_28 rfl rfl ?_
  refine V_iconst dX8_keep_29 ⟨by decide, by decide⟩ ?_
  refine V_zast dX8_keep_30 s2 s3 s4 (by decide) ?_
  refine V_aload_n (i := 0) dX8_keep_31 rfl rfl ?_
  refine V_getP dX8_keep_32 fX8_38 rfl s1 ?_
  refine V_getI dX8_keep_35 fX8_186 rfl s5 ?_
  exact V_reti rfl dX8_keep_38 q1
theorem dX8_back_0 : decode cX8_back 0 = .ok (.iload_n 1, 1) := by decide +kernel
theorem dX8_back_1 : decode cX8_back 1 = .ok (.ifCond .lt 8, 3) := by decide +kernel
theorem dX8_back_4 : decode cX8_back 4 = .ok (.iload_n 1, 1) := by decide +kernel
theorem dX8_back_5 : decode cX8_back 5 = .ok (.iconst 2, 1) := by decide +kernel
theorem dX8_back_6 : decode cX8_back 6 = .ok (.if_icmp .lt 5, 3) := by decide +kernel
theorem dX8_back_9 : decode cX8_back 9 = .ok (.iconst (-1), 1) := by decide +kernel
theorem dX8_back_10 : decode cX8_back 10 = .ok (.ireturn, 1) := by decide +kernel
theorem dX8_back_11 : decode cX8_back 11 = .ok (.aload_n 0, 1) := by decide +kernel
theorem dX8_back_12 : decode cX8_back 12 = .ok (.getfield 53, 3) := by decide +kernel
theorem dX8_back_15 : decode cX8_back 15 = .ok (.iload_n 1, 1) := by decide +kernel
theorem dX8_back_16 : decode cX8_back 16 = .ok (.baload, 1) := by decide +kernel
theorem dX8_back_17 : decode cX8_back 17 = .ok (.ifCond .ne 6, 3) := by decide +kernel
theorem dX8_back_20 : decode cX8_back 20 = .ok (.bipush (-2), 2) := by decide +kernel
theorem dX8_back_22 : decode cX8_back 22 = .ok (.ireturn, 1) := by decide +kernel
theorem dX8_back_23 : decode cX8_back 23 = .ok (.aload_n 0, 1) := by decide +kernel
theorem dX8_back_24 : decode cX8_back 24 = .ok (.getfield 38, 3) := by decide +kernel
theorem dX8_back_27 : decode cX8_back 27 = .ok (.aload_n 0, 1) := by decide +kernel
theorem dX8_back_28 : decode cX8_back 28 = .ok (.getfield 49, 3) := by decide +kernel
theorem dX8_back_31 : decode cX8_back 31 = .ok (.iload_n 1, 1) := by decide +kernel
theorem dX8_back_32 : decode cX8_back 32 = .ok (.aaload, 1) := by decide +kernel
theorem dX8_back_33 : decode cX8_back 33 = .ok (.invokevirtual 298, 3) := by decide +kernel
theorem dX8_back_36 : decode cX8_back 36 = .ok (.aload_n 0, 1) := by decide +kernel
theorem dX8_back_37 : decode cX8_back 37 = .ok (.getfield 45, 3) := by decide +kernel
theorem dX8_back_40 : decode cX8_back 40 = .ok (.iconst 0, 1) := by decide +kernel
theorem dX8_back_41 : decode cX8_back 41 = .ok (.putfield 103, 3) := by decide +kernel
theorem dX8_back_44 : decode cX8_back 44 = .ok (.aload_n 0, 1) := by decide +kernel
theorem dX8_back_45 : decode cX8_back 45 = .ok (.getfield 38, 3) := by decide +kernel
theorem dX8_back_48 : decode cX8_back 48 = .ok (.getfield 186, 3) := by decide +kernel
theorem dX8_back_51 : decode cX8_back 51 = .ok (.ireturn, 1) := by decide +kernel
theorem bX8_back_0 {d : Nat} {Q : Option jA → jH → Prop} (a0 : Nat) (i1 : Int) (h : jH)
    (q1 : (i1 < 0) → Q (some (.inl ((-1)))) h)
    (s1 : (jS h a0).1 = 8)
    (s2 : (jS h (jP h a0 7)).1 = 17)
    (s3 : (¬ (i1 < 0)) → (i1 < 2) → 0 ≤ i1)
    (s4 : (¬ (i1 < 0)) → (i1 < 2) → i1 < ((jS h (jP h a0 7)).2 : Int))
    (s5 : (jS h (jP h a0 6)).1 = 19)
    (s6 : (¬ (i1 < 0)) → (i1 < 2) → ((jX h (jP h a0 7) ((i1).toNat)) ≠ 0) → i1 < ((jS h (jP h a0 6)).2 : Int))
    (e1 : (¬ (i1 < 0)) → (i1 < 2) → ((jX h (jP h a0 7) ((i1).toNat)) ≠ 0) → Ex MX6_copyFrom (d + 4) [.inr (jP h a0 4), .inr (jY h (jP h a0 6) ((i1).toNat))] h 0 0 (fun v h2 => V MX8_back (d + 5) 36 [some (.inr a0), some (.inl i1)] (v.toList ++ []) h2 0 0 Q))
    (s7 : (jS h (jP h a0 4)).1 = 6)
    (q2 : (¬ (i1 < 0)) → (i1 < 2) → ((jX h (jP h a0 7) ((i1).toNat)) = 0) → Q (some (.inl ((-2)))) h)
    (q3 : (¬ (i1 < 0)) → (¬ (i1 < 2)) → Q (some (.inl ((-1)))) h) :
    V MX8_back (d + 5) 0 [some (.inr a0), some (.inl i1)] [] h 0 0 Q := by
  refine V_iload_n (i := 1) dX8_back_0 rfl rfl ?_
  refine V_if_lt (tgt := 9) dX8_back_1 (by decide) (fun c1 => ?_) (fun c1 => ?_)
  · refine V_iconst dX8_back_9 ⟨by decide, by decide⟩ ?_
    exact V_reti rfl dX8_back_10 (q1 c1)
  · refine V_iload_n (i := 1) dX8_back_4 rfl rfl ?_
    refine V_iconst dX8_back_5 ⟨by decide, by decide⟩ ?_
    refine V_icmp_lt (tgt := 11) dX8_back_6 (by decide) (fun c2 => ?_) (fun c2 => ?_)
    · refine V_aload_n (i := 0) dX8_back_11 rfl rfl ?_
      refine V_getP dX8_back_12 fX8_53 rfl s1 ?_
      refine V_iload_n (i := 1) dX8_back_15 rfl rfl ?_
      refine V_zald dX8_back_16 s2 (s3 c1 c2) (s4 c1 c2) ?_
      refine V_if_ne (tgt := 23) dX8_back_17 (by decide) (fun c3 => ?_) (fun c3 => ?_)
      · refine V_aload_n (i := 0) dX8_back_23 rfl rfl ?_
        refine V_getP dX8_back_24 fX8_38 rfl s1 ?_
        refine V_aload_n (i := 0) dX8_back_27 rfl rfl ?_
        refine V_getP dX8_back_28 fX8_49 rfl s1 ?_
        refine V_iload_n (i := 1) dX8_back_31 rfl rfl ?_
        refine V_aald19 dX8_back_32 s5 (s3 c1 c2) (s6 c1 c2 c3) ?_
        exact V_callV (M := MX8_back) (d := (d + 5)) (mc' := 0) (ms' := 0) (mc := 0) (ms := 0) (As := [.inr (jY h (jP h a0 6) ((i1).toNat))]) (rest := []) dX8_back_33 tX6_copyFrom vX6_copyFrom lX8_298 s7 ⟨by decide, rfl⟩ rfl rfl (Nat.le_of_ble_eq_true rfl) (show (d + 4) + 1 ≤ (d + 5) by omega) (e1 c1 c2 c3)
      · refine V_bipush dX8_back_20 (by decide +kernel) ⟨by decide, by decide⟩ ?_
        exact V_reti rfl dX8_back_22 (q2 c1 c2 c3)
    · refine V_iconst dX8_back_9 ⟨by decide, by decide⟩ ?_
      exact V_reti rfl dX8_back_10 (q3 c1 c2)
theorem bX8_back_36 {d : Nat} {Q : Option jA → jH → Prop} (a0 : Nat) (i1 : Int) (h : jH)
    (s1 : (jS h a0).1 = 8)
    (s2 : (jS h (jP h a0 5)).1 = 4)
    (s3 : (jS h (jP h a0 4)).1 = 6)
    (q1 : Q (some (.inl (jI (jsI h (jP h a0 5) 0 0) (jP h a0 4) 0))) (jsI h (jP h a0 5) 0 0)) :
    V MX8_back (d + 5) 36 [some (.inr a0), some (.inl i1)] [] h 0 0 Q := by
  refine V_aload_n (i := 0) dX8_back_36 rfl rfl ?_
  refine V_getP dX8_back_37 fX8_45 rfl s1 ?_
  refine V_iconst dX8_back_40 ⟨by decide, by decide⟩ ?_
  refine V_putI (ci := 4) (kf := 0) dX8_back_41 fX8_103 rfl rfl s2 ?_
  refine V_aload_n (i := 0) dX8_back_44 rfl rfl ?_
  refine V_getP dX8_back_45 fX8_38 rfl s1 ?_
  refine V_getI dX8_back_48 fX8_186 rfl s3 ?_
  exact V_reti rfl dX8_back_51 q1
theorem dX8_count_0 : decode cX8_count 0 = .ok (.iload_n 1, 1) := by decide +kernel
theorem dX8_count_1 : decode cX8_count 1 = .ok (.tableswitch 170 0 12 #[67, 75, 83, 91, 99, 115, 123, 131, 139, 144, 149, 154, 162], 67) := by decide +kernel
theorem dX8_count_68 : decode cX8_count 68 = .ok (.aload_n 0, 1) := by decide +kernel
theorem dX8_count_69 : decode cX8_count 69 = .ok (.getfield 19, 3) := by decide +kernel
theorem dX8_count_72 : decode cX8_count 72 = .ok (.getfield 234, 3) := by decide +kernel
theorem dX8_count_75 : decode cX8_count 75 = .ok (.ireturn, 1) := by decide +kernel
theorem dX8_count_76 : decode cX8_count 76 = .ok (.aload_n 0, 1) := by decide +kernel
theorem dX8_count_77 : decode cX8_count 77 = .ok (.getfield 19, 3) := by decide +kernel
theorem dX8_count_80 : decode cX8_count 80 = .ok (.getfield 301, 3) := by decide +kernel
theorem dX8_count_83 : decode cX8_count 83 = .ok (.ireturn, 1) := by decide +kernel
theorem dX8_count_84 : decode cX8_count 84 = .ok (.aload_n 0, 1) := by decide +kernel
theorem dX8_count_85 : decode cX8_count 85 = .ok (.getfield 19, 3) := by decide +kernel
theorem dX8_count_88 : decode cX8_count 88 = .ok (.getfield 159, 3) := by decide +kernel
theorem dX8_count_91 : decode cX8_count 91 = .ok (.ireturn, 1) := by decide +kernel
theorem dX8_count_92 : decode cX8_count 92 = .ok (.aload_n 0, 1) := by decide +kernel
theorem dX8_count_93 : decode cX8_count 93 = .ok (.getfield 38, 3) := by decide +kernel
theorem dX8_count_96 : decode cX8_count 96 = .ok (.getfield 186, 3) := by decide +kernel
theorem dX8_count_99 : decode cX8_count 99 = .ok (.ireturn, 1) := by decide +kernel
theorem dX8_count_100 : decode cX8_count 100 = .ok (.aload_n 0, 1) := by decide +kernel
theorem dX8_count_101 : decode cX8_count 101 = .ok (.getfield 38, 3) := by decide +kernel
theorem dX8_count_104 : decode cX8_count 104 = .ok (.getfield 182, 3) := by decide +kernel
theorem dX8_count_107 : decode cX8_count 107 = .ok (.ifCond .eq 7, 3) := by decide +kernel
theorem dX8_count_110 : decode cX8_count 110 = .ok (.iconst 1, 1) := by decide +kernel
theorem dX8_count_111 : decode cX8_count 111 = .ok (.goto 4, 3) := by decide +kernel
theorem dX8_count_114 : decode cX8_count 114 = .ok (.iconst 0, 1) := by decide +kernel
theorem dX8_count_115 : decode cX8_count 115 = .ok (.ireturn, 1) := by decide +kernel
theorem dX8_count_116 : decode cX8_count 116 = .ok (.aload_n 0, 1) := by decide +kernel
theorem dX8_count_117 : decode cX8_count 117 = .ok (.getfield 38, 3) := by decide +kernel
theorem dX8_count_120 : decode cX8_count 120 = .ok (.getfield 194, 3) := by decide +kernel
theorem dX8_count_123 : decode cX8_count 123 = .ok (.ireturn, 1) := by decide +kernel
theorem dX8_count_124 : decode cX8_count 124 = .ok (.aload_n 0, 1) := by decide +kernel
theorem dX8_count_125 : decode cX8_count 125 = .ok (.getfield 38, 3) := by decide +kernel
theorem dX8_count_128 : decode cX8_count 128 = .ok (.getfield 193, 3) := by decide +kernel
theorem dX8_count_131 : decode cX8_count 131 = .ok (.ireturn, 1) := by decide +kernel
theorem dX8_count_132 : decode cX8_count 132 = .ok (.aload_n 0, 1) := by decide +kernel
theorem dX8_count_133 : decode cX8_count 133 = .ok (.getfield 38, 3) := by decide +kernel
theorem dX8_count_136 : decode cX8_count 136 = .ok (.getfield 303, 3) := by decide +kernel
theorem dX8_count_139 : decode cX8_count 139 = .ok (.ireturn, 1) := by decide +kernel
theorem dX8_count_140 : decode cX8_count 140 = .ok (.aload_n 0, 1) := by decide +kernel
theorem dX8_count_141 : decode cX8_count 141 = .ok (.invokevirtual 306, 3) := by decide +kernel
theorem dX8_count_144 : decode cX8_count 144 = .ok (.ireturn, 1) := by decide +kernel
theorem dX8_count_145 : decode cX8_count 145 = .ok (.aload_n 0, 1) := by decide +kernel
theorem dX8_count_146 : decode cX8_count 146 = .ok (.invokevirtual 309, 3) := by decide +kernel
theorem dX8_count_149 : decode cX8_count 149 = .ok (.ireturn, 1) := by decide +kernel
theorem dX8_count_150 : decode cX8_count 150 = .ok (.aload_n 0, 1) := by decide +kernel
theorem dX8_count_151 : decode cX8_count 151 = .ok (.getfield 106, 3) := by decide +kernel
theorem dX8_count_154 : decode cX8_count 154 = .ok (.ireturn, 1) := by decide +kernel
theorem dX8_count_155 : decode cX8_count 155 = .ok (.aload_n 0, 1) := by decide +kernel
theorem dX8_count_156 : decode cX8_count 156 = .ok (.getfield 12, 3) := by decide +kernel
theorem dX8_count_159 : decode cX8_count 159 = .ok (.getfield 83, 3) := by decide +kernel
theorem dX8_count_162 : decode cX8_count 162 = .ok (.ireturn, 1) := by decide +kernel
theorem dX8_count_163 : decode cX8_count 163 = .ok (.aload_n 0, 1) := by decide +kernel
theorem dX8_count_164 : decode cX8_count 164 = .ok (.getfield 45, 3) := by decide +kernel
theorem dX8_count_167 : decode cX8_count 167 = .ok (.getfield 103, 3) := by decide +kernel
theorem dX8_count_170 : decode cX8_count 170 = .ok (.ireturn, 1) := by decide +kernel
theorem dX8_count_171 : decode cX8_count 171 = .ok (.iconst (-1), 1) := by decide +kernel
theorem dX8_count_172 : decode cX8_count 172 = .ok (.ireturn, 1) := by decide +kernel
theorem bX8_count_0 {d : Nat} {Q : Option jA → jH → Prop} (a0 : Nat) (i1 : Int) (h : jH)
    (s1 : (jS h a0).1 = 8)
    (s2 : (jS h (jP h a0 1)).1 = 2)
    (q1 : (i1 = 0) → Q (some (.inl (jI h (jP h a0 1) 0))) h)
    (q2 : (¬ (i1 = 0)) → (i1 = 1) → Q (some (.inl (jI h (jP h a0 1) 1))) h)
    (q3 : (¬ (i1 = 0)) → (¬ (i1 = 1)) → (i1 = 2) → Q (some (.inl (jI h (jP h a0 1) 3))) h)
    (s3 : (jS h (jP h a0 4)).1 = 6)
    (q4 : (¬ (i1 = 0)) → (¬ (i1 = 1)) → (¬ (i1 = 2)) → (i1 = 3) → Q (some (.inl (jI h (jP h a0 4) 0))) h)
    (k1 : (¬ (i1 = 0)) → (¬ (i1 = 1)) → (¬ (i1 = 2)) → (¬ (i1 = 3)) → (i1 = 4) → ((jI h (jP h a0 4) 1) = 0) → V MX8_count (d + 6) 115 [some (.inr a0), some (.inl i1)] [.inl 0] h 0 0 Q)
    (k2 : (¬ (i1 = 0)) → (¬ (i1 = 1)) → (¬ (i1 = 2)) → (¬ (i1 = 3)) → (i1 = 4) → (¬ ((jI h (jP h a0 4) 1) = 0)) → V MX8_count (d + 6) 115 [some (.inr a0), some (.inl i1)] [.inl 1] h 0 0 Q)
    (q5 : (¬ (i1 = 0)) → (¬ (i1 = 1)) → (¬ (i1 = 2)) → (¬ (i1 = 3)) → (¬ (i1 = 4)) → (i1 = 5) → Q (some (.inl (jI h (jP h a0 4) 2))) h)
    (q6 : (¬ (i1 = 0)) → (¬ (i1 = 1)) → (¬ (i1 = 2)) → (¬ (i1 = 3)) → (¬ (i1 = 4)) → (¬ (i1 = 5)) → (i1 = 6) → Q (some (.inl (jI h (jP h a0 4) 4))) h)
    (q7 : (¬ (i1 = 0)) → (¬ (i1 = 1)) → (¬ (i1 = 2)) → (¬ (i1 = 3)) → (¬ (i1 = 4)) → (¬ (i1 = 5)) → (¬ (i1 = 6)) → (i1 = 7) → Q (some (.inl (jI h (jP h a0 4) 3))) h)
    (e1 : (¬ (i1 = 0)) → (¬ (i1 = 1)) → (¬ (i1 = 2)) → (¬ (i1 = 3)) → (¬ (i1 = 4)) → (¬ (i1 = 5)) → (¬ (i1 = 6)) → (¬ (i1 = 7)) → (i1 = 8) → Ex MX8_changesInAll d [.inr a0] h 0 0 (fun v h2 => V MX8_count (d + 6) 144 [some (.inr a0), some (.inl i1)] (v.toList ++ []) h2 0 0 Q))
    (e2 : (¬ (i1 = 0)) → (¬ (i1 = 1)) → (¬ (i1 = 2)) → (¬ (i1 = 3)) → (¬ (i1 = 4)) → (¬ (i1 = 5)) → (¬ (i1 = 6)) → (¬ (i1 = 7)) → (¬ (i1 = 8)) → (i1 = 9) → Ex MX8_roomOfAll (d + 5) [.inr a0] h 0 0 (fun v h2 => V MX8_count (d + 6) 149 [some (.inr a0), some (.inl i1)] (v.toList ++ []) h2 0 0 Q))
    (q8 : (¬ (i1 = 0)) → (¬ (i1 = 1)) → (¬ (i1 = 2)) → (¬ (i1 = 3)) → (¬ (i1 = 4)) → (¬ (i1 = 5)) → (¬ (i1 = 6)) → (¬ (i1 = 7)) → (¬ (i1 = 8)) → (¬ (i1 = 9)) → (i1 = 10) → Q (some (.inl (jI h a0 10))) h)
    (s4 : (jS h (jP h a0 0)).1 = 7)
    (q9 : (¬ (i1 = 0)) → (¬ (i1 = 1)) → (¬ (i1 = 2)) → (¬ (i1 = 3)) → (¬ (i1 = 4)) → (¬ (i1 = 5)) → (¬ (i1 = 6)) → (¬ (i1 = 7)) → (¬ (i1 = 8)) → (¬ (i1 = 9)) → (¬ (i1 = 10)) → (i1 = 11) → Q (some (.inl (jI h (jP h a0 0) 1))) h)
    (s5 : (jS h (jP h a0 5)).1 = 4)
    (q10 : (¬ (i1 = 0)) → (¬ (i1 = 1)) → (¬ (i1 = 2)) → (¬ (i1 = 3)) → (¬ (i1 = 4)) → (¬ (i1 = 5)) → (¬ (i1 = 6)) → (¬ (i1 = 7)) → (¬ (i1 = 8)) → (¬ (i1 = 9)) → (¬ (i1 = 10)) → (¬ (i1 = 11)) → (i1 = 12) → Q (some (.inl (jI h (jP h a0 5) 0))) h)
    (q11 : (¬ (i1 = 0)) → (¬ (i1 = 1)) → (¬ (i1 = 2)) → (¬ (i1 = 3)) → (¬ (i1 = 4)) → (¬ (i1 = 5)) → (¬ (i1 = 6)) → (¬ (i1 = 7)) → (¬ (i1 = 8)) → (¬ (i1 = 9)) → (¬ (i1 = 10)) → (¬ (i1 = 11)) → (¬ (i1 = 12)) → Q (some (.inl ((-1)))) h) :
    V MX8_count (d + 6) 0 [some (.inr a0), some (.inl i1)] [] h 0 0 Q := by
  refine V_iload_n (i := 1) dX8_count_0 rfl rfl ?_
  by_cases c1 : i1 = 0
  · refine V_tabIn (off := 67) (tgt := 68) dX8_count_1 (by omega) (by omega) (by rw [c1]; rfl) (by decide) ?_
    refine V_aload_n (i := 0) dX8_count_68 rfl rfl ?_
    refine V_getP dX8_count_69 fX8_19 rfl s1 ?_
    refine V_getI dX8_count_72 fX8_234 rfl s2 ?_
    exact V_reti rfl dX8_count_75 (q1 c1)
  by_cases c2 : i1 = 1
  · refine V_tabIn (off := 75) (tgt := 76) dX8_count_1 (by omega) (by omega) (by rw [c2]; rfl) (by decide) ?_
    refine V_aload_n (i := 0) dX8_count_76 rfl rfl ?_
    refine V_getP dX8_count_77 fX8_19 rfl s1 ?_
    refine V_getI dX8_count_80 fX8_301 rfl s2 ?_
    exact V_reti rfl dX8_count_83 (q2 c1 c2)
  by_cases c3 : i1 = 2
  · refine V_tabIn (off := 83) (tgt := 84) dX8_count_1 (by omega) (by omega) (by rw [c3]; rfl) (by decide) ?_
    refine V_aload_n (i := 0) dX8_count_84 rfl rfl ?_
    refine V_getP dX8_count_85 fX8_19 rfl s1 ?_
    refine V_getI dX8_count_88 fX8_159 rfl s2 ?_
    exact V_reti rfl dX8_count_91 (q3 c1 c2 c3)
  by_cases c4 : i1 = 3
  · refine V_tabIn (off := 91) (tgt := 92) dX8_count_1 (by omega) (by omega) (by rw [c4]; rfl) (by decide) ?_
    refine V_aload_n (i := 0) dX8_count_92 rfl rfl ?_
    refine V_getP dX8_count_93 fX8_38 rfl s1 ?_
    refine V_getI dX8_count_96 fX8_186 rfl s3 ?_
    exact V_reti rfl dX8_count_99 (q4 c1 c2 c3 c4)
  by_cases c5 : i1 = 4
  · refine V_tabIn (off := 99) (tgt := 100) dX8_count_1 (by omega) (by omega) (by rw [c5]; rfl) (by decide) ?_
    refine V_aload_n (i := 0) dX8_count_100 rfl rfl ?_
    refine V_getP dX8_count_101 fX8_38 rfl s1 ?_
    refine V_getI dX8_count_104 fX8_182 rfl s3 ?_
    refine V_if_eq (tgt := 114) dX8_count_107 (by decide) (fun c6 => ?_) (fun c6 => ?_)
    · refine V_iconst dX8_count_114 ⟨by decide, by decide⟩ ?_
      exact (k1 c1 c2 c3 c4 c5 c6)
    · refine V_iconst dX8_count_110 ⟨by decide, by decide⟩ ?_
      refine V_goto (tgt := 115) dX8_count_111 (by decide) ?_
      exact (k2 c1 c2 c3 c4 c5 c6)
  by_cases c7 : i1 = 5
  · refine V_tabIn (off := 115) (tgt := 116) dX8_count_1 (by omega) (by omega) (by rw [c7]; rfl) (by decide) ?_
    refine V_aload_n (i := 0) dX8_count_116 rfl rfl ?_
    refine V_getP dX8_count_117 fX8_38 rfl s1 ?_
    refine V_getI dX8_count_120 fX8_194 rfl s3 ?_
    exact V_reti rfl dX8_count_123 (q5 c1 c2 c3 c4 c5 c7)
  by_cases c8 : i1 = 6
  · refine V_tabIn (off := 123) (tgt := 124) dX8_count_1 (by omega) (by omega) (by rw [c8]; rfl) (by decide) ?_
    refine V_aload_n (i := 0) dX8_count_124 rfl rfl ?_
    refine V_getP dX8_count_125 fX8_38 rfl s1 ?_
    refine V_getI dX8_count_128 fX8_193 rfl s3 ?_
    exact V_reti rfl dX8_count_131 (q6 c1 c2 c3 c4 c5 c7 c8)
  by_cases c9 : i1 = 7
  · refine V_tabIn (off := 131) (tgt := 132) dX8_count_1 (by omega) (by omega) (by rw [c9]; rfl) (by decide) ?_
    refine V_aload_n (i := 0) dX8_count_132 rfl rfl ?_
    refine V_getP dX8_count_133 fX8_38 rfl s1 ?_
    refine V_getI dX8_count_136 fX8_303 rfl s3 ?_
    exact V_reti rfl dX8_count_139 (q7 c1 c2 c3 c4 c5 c7 c8 c9)
  by_cases c10 : i1 = 8
  · refine V_tabIn (off := 139) (tgt := 140) dX8_count_1 (by omega) (by omega) (by rw [c10]; rfl) (by decide) ?_
    refine V_aload_n (i := 0) dX8_count_140 rfl rfl ?_
    exact V_callV (M := MX8_count) (d := (d + 6)) (mc' := 0) (ms' := 0) (mc := 0) (ms := 0) (As := []) (rest := []) dX8_count_141 tX8_changesInAll vX8_changesInAll lX8_306 s1 ⟨by decide, rfl⟩ rfl rfl (Nat.le_of_ble_eq_true rfl) (show d + 1 ≤ (d + 6) by omega) (e1 c1 c2 c3 c4 c5 c7 c8 c9 c10)
  by_cases c11 : i1 = 9
  · refine V_tabIn (off := 144) (tgt := 145) dX8_count_1 (by omega) (by omega) (by rw [c11]; rfl) (by decide) ?_
    refine V_aload_n (i := 0) dX8_count_145 rfl rfl ?_
    exact V_callV (M := MX8_count) (d := (d + 6)) (mc' := 0) (ms' := 0) (mc := 0) (ms := 0) (As := []) (rest := []) dX8_count_146 tX8_roomOfAll vX8_roomOfAll lX8_309 s1 ⟨by decide, rfl⟩ rfl rfl (Nat.le_of_ble_eq_true rfl) (show (d + 5) + 1 ≤ (d + 6) by omega) (e2 c1 c2 c3 c4 c5 c7 c8 c9 c10 c11)
  by_cases c12 : i1 = 10
  · refine V_tabIn (off := 149) (tgt := 150) dX8_count_1 (by omega) (by omega) (by rw [c12]; rfl) (by decide) ?_
    refine V_aload_n (i := 0) dX8_count_150 rfl rfl ?_
    refine V_getI dX8_count_151 fX8_106 rfl s1 ?_
    exact V_reti rfl dX8_count_154 (q8 c1 c2 c3 c4 c5 c7 c8 c9 c10 c11 c12)
  by_cases c13 : i1 = 11
  · refine V_tabIn (off := 154) (tgt := 155) dX8_count_1 (by omega) (by omega) (by rw [c13]; rfl) (by decide) ?_
    refine V_aload_n (i := 0) dX8_count_155 rfl rfl ?_
    refine V_getP dX8_count_156 fX8_12 rfl s1 ?_
    refine V_getI dX8_count_159 fX8_83 rfl s4 ?_
    exact V_reti rfl dX8_count_162 (q9 c1 c2 c3 c4 c5 c7 c8 c9 c10 c11 c12 c13)
  by_cases c14 : i1 = 12
  · refine V_tabIn (off := 162) (tgt := 163) dX8_count_1 (by omega) (by omega) (by rw [c14]; rfl) (by decide) ?_
    refine V_aload_n (i := 0) dX8_count_163 rfl rfl ?_
    refine V_getP dX8_count_164 fX8_45 rfl s1 ?_
    refine V_getI dX8_count_167 fX8_103 rfl s5 ?_
    exact V_reti rfl dX8_count_170 (q10 c1 c2 c3 c4 c5 c7 c8 c9 c10 c11 c12 c13 c14)
  refine V_tabOut (tgt := 171) dX8_count_1 (by omega) (by decide) ?_
  refine V_iconst dX8_count_171 ⟨by decide, by decide⟩ ?_
  exact V_reti rfl dX8_count_172 (q11 c1 c2 c3 c4 c5 c7 c8 c9 c10 c11 c12 c13 c14)
theorem bX8_count_115 {d : Nat} {Q : Option jA → jH → Prop} (a0 : Nat) (i1 : Int) (p0 : Int) (h : jH)
    (q1 : Q (some (.inl p0)) h) :
    V MX8_count (d + 6) 115 [some (.inr a0), some (.inl i1)] [.inl p0] h 0 0 Q := by
  exact V_reti rfl dX8_count_115 q1
theorem bX8_count_144 {d : Nat} {Q : Option jA → jH → Prop} (a0 : Nat) (i1 : Int) (p0 : Int) (h : jH)
    (q1 : Q (some (.inl p0)) h) :
    V MX8_count (d + 6) 144 [some (.inr a0), some (.inl i1)] [.inl p0] h 0 0 Q := by
  exact V_reti rfl dX8_count_144 q1
theorem bX8_count_149 {d : Nat} {Q : Option jA → jH → Prop} (a0 : Nat) (i1 : Int) (p0 : Int) (h : jH)
    (q1 : Q (some (.inl p0)) h) :
    V MX8_count (d + 6) 149 [some (.inr a0), some (.inl i1)] [.inl p0] h 0 0 Q := by
  exact V_reti rfl dX8_count_149 q1
theorem dX8_fillRow_0 : decode cX8_fillRow 0 = .ok (.aload_n 0, 1) := by decide +kernel
theorem dX8_fillRow_1 : decode cX8_fillRow 1 = .ok (.getfield 38, 3) := by decide +kernel
theorem dX8_fillRow_4 : decode cX8_fillRow 4 = .ok (.aload_n 0, 1) := by decide +kernel
theorem dX8_fillRow_5 : decode cX8_fillRow 5 = .ok (.getfield 80, 3) := by decide +kernel
theorem dX8_fillRow_8 : decode cX8_fillRow 8 = .ok (.iload_n 1, 1) := by decide +kernel
theorem dX8_fillRow_9 : decode cX8_fillRow 9 = .ok (.invokevirtual 312, 3) := by decide +kernel
theorem dX8_fillRow_12 : decode cX8_fillRow 12 = .ok (.aload_n 0, 1) := by decide +kernel
theorem dX8_fillRow_13 : decode cX8_fillRow 13 = .ok (.getfield 19, 3) := by decide +kernel
theorem dX8_fillRow_16 : decode cX8_fillRow 16 = .ok (.aload_n 0, 1) := by decide +kernel
theorem dX8_fillRow_17 : decode cX8_fillRow 17 = .ok (.getfield 80, 3) := by decide +kernel
theorem dX8_fillRow_20 : decode cX8_fillRow 20 = .ok (.invokevirtual 155, 3) := by decide +kernel
theorem dX8_fillRow_23 : decode cX8_fillRow 23 = .ok (.return_, 1) := by decide +kernel
theorem bX8_fillRow_0 {d : Nat} {Q : Option jA → jH → Prop} (a0 : Nat) (i1 : Int) (h : jH)
    (s1 : (jS h a0).1 = 8)
    (e1 : Ex MX6_fillWires (d + 1) [.inr (jP h a0 4), .inr (jP h a0 13), .inl i1] h 0 0 (fun v h2 => V MX8_fillRow (d + 3) 12 [some (.inr a0), some (.inl i1)] (v.toList ++ []) h2 0 0 Q))
    (s2 : (jS h (jP h a0 4)).1 = 6) :
    V MX8_fillRow (d + 3) 0 [some (.inr a0), some (.inl i1)] [] h 0 0 Q := by
  refine V_aload_n (i := 0) dX8_fillRow_0 rfl rfl ?_
  refine V_getP dX8_fillRow_1 fX8_38 rfl s1 ?_
  refine V_aload_n (i := 0) dX8_fillRow_4 rfl rfl ?_
  refine V_getP dX8_fillRow_5 fX8_80 rfl s1 ?_
  refine V_iload_n (i := 1) dX8_fillRow_8 rfl rfl ?_
  exact V_callV (M := MX8_fillRow) (d := (d + 3)) (mc' := 0) (ms' := 0) (mc := 0) (ms := 0) (As := [.inr (jP h a0 13), .inl i1]) (rest := []) dX8_fillRow_9 tX6_fillWires vX6_fillWires lX8_312 s2 ⟨by decide, rfl⟩ rfl rfl (Nat.le_of_ble_eq_true rfl) (show (d + 1) + 1 ≤ (d + 3) by omega) e1
theorem bX8_fillRow_12 {d : Nat} {Q : Option jA → jH → Prop} (a0 : Nat) (i1 : Int) (h : jH)
    (s1 : (jS h a0).1 = 8)
    (e1 : Ex MX2_complete (d + 2) [.inr (jP h a0 1), .inr (jP h a0 13)] h 0 0 (fun v h2 => V MX8_fillRow (d + 3) 23 [some (.inr a0), some (.inl i1)] (v.toList ++ []) h2 0 0 Q))
    (s2 : (jS h (jP h a0 1)).1 = 2) :
    V MX8_fillRow (d + 3) 12 [some (.inr a0), some (.inl i1)] [] h 0 0 Q := by
  refine V_aload_n (i := 0) dX8_fillRow_12 rfl rfl ?_
  refine V_getP dX8_fillRow_13 fX8_19 rfl s1 ?_
  refine V_aload_n (i := 0) dX8_fillRow_16 rfl rfl ?_
  refine V_getP dX8_fillRow_17 fX8_80 rfl s1 ?_
  exact V_callV (M := MX8_fillRow) (d := (d + 3)) (mc' := 0) (ms' := 0) (mc := 0) (ms := 0) (As := [.inr (jP h a0 13)]) (rest := []) dX8_fillRow_20 tX2_complete vX2_complete lX8_155 s2 ⟨by decide, rfl⟩ rfl rfl (Nat.le_of_ble_eq_true rfl) (show (d + 2) + 1 ≤ (d + 3) by omega) e1
theorem bX8_fillRow_23 {d : Nat} {Q : Option jA → jH → Prop} (a0 : Nat) (i1 : Int) (h : jH)
    (q1 : Q none h) :
    V MX8_fillRow (d + 3) 23 [some (.inr a0), some (.inl i1)] [] h 0 0 Q := by
  exact V_ret (v := none) rfl rfl dX8_fillRow_23 trivial rfl q1
theorem dX8_roomOf_0 : decode cX8_roomOf 0 = .ok (.aload_n 1, 1) := by decide +kernel
theorem dX8_roomOf_1 : decode cX8_roomOf 1 = .ok (.getfield 262, 3) := by decide +kernel
theorem dX8_roomOf_4 : decode cX8_roomOf 4 = .ok (.aload_n 0, 1) := by decide +kernel
theorem dX8_roomOf_5 : decode cX8_roomOf 5 = .ok (.getfield 19, 3) := by decide +kernel
theorem dX8_roomOf_8 : decode cX8_roomOf 8 = .ok (.getfield 301, 3) := by decide +kernel
theorem dX8_roomOf_11 : decode cX8_roomOf 11 = .ok (.aload_n 1, 1) := by decide +kernel
theorem dX8_roomOf_12 : decode cX8_roomOf 12 = .ok (.getfield 254, 3) := by decide +kernel
theorem dX8_roomOf_15 : decode cX8_roomOf 15 = .ok (.iconst 0, 1) := by decide +kernel
theorem dX8_roomOf_16 : decode cX8_roomOf 16 = .ok (.aload_n 1, 1) := by decide +kernel
theorem dX8_roomOf_17 : decode cX8_roomOf 17 = .ok (.getfield 262, 3) := by decide +kernel
theorem dX8_roomOf_20 : decode cX8_roomOf 20 = .ok (.getfield 265, 3) := by decide +kernel
theorem dX8_roomOf_23 : decode cX8_roomOf 23 = .ok (.invokevirtual 316, 3) := by decide +kernel
theorem dX8_roomOf_26 : decode cX8_roomOf 26 = .ok (.ireturn, 1) := by decide +kernel
theorem bX8_roomOf_0 {d : Nat} {Q : Option jA → jH → Prop} (a0 : Nat) (a1 : Nat) (h : jH)
    (s1 : (jS h a1).1 = 0)
    (s2 : (jS h a0).1 = 8)
    (s3 : (jS h (jP h a0 1)).1 = 2)
    (s4 : (jS h (jP h a1 3)).1 = 1)
    (e1 : Ex MX1_room (d + 3) [.inr (jP h a1 3), .inl (jI h (jP h a0 1) 1), .inl (jI h a1 0), .inl 0, .inl (jI h (jP h a1 3) 0)] h 0 0 (fun v h2 => V MX8_roomOf (d + 4) 26 [some (.inr a0), some (.inr a1)] (v.toList ++ []) h2 0 0 Q)) :
    V MX8_roomOf (d + 4) 0 [some (.inr a0), some (.inr a1)] [] h 0 0 Q := by
  refine V_aload_n (i := 1) dX8_roomOf_0 rfl rfl ?_
  refine V_getP dX8_roomOf_1 fX8_262 rfl s1 ?_
  refine V_aload_n (i := 0) dX8_roomOf_4 rfl rfl ?_
  refine V_getP dX8_roomOf_5 fX8_19 rfl s2 ?_
  refine V_getI dX8_roomOf_8 fX8_301 rfl s3 ?_
  refine V_aload_n (i := 1) dX8_roomOf_11 rfl rfl ?_
  refine V_getI dX8_roomOf_12 fX8_254 rfl s1 ?_
  refine V_iconst dX8_roomOf_15 ⟨by decide, by decide⟩ ?_
  refine V_aload_n (i := 1) dX8_roomOf_16 rfl rfl ?_
  refine V_getP dX8_roomOf_17 fX8_262 rfl s1 ?_
  refine V_getI dX8_roomOf_20 fX8_265 rfl s4 ?_
  exact V_callV (M := MX8_roomOf) (d := (d + 4)) (mc' := 0) (ms' := 0) (mc := 0) (ms := 0) (As := [.inl (jI h (jP h a0 1) 1), .inl (jI h a1 0), .inl 0, .inl (jI h (jP h a1 3) 0)]) (rest := []) dX8_roomOf_23 tX1_room vX1_room lX8_316 s4 ⟨by decide, rfl⟩ rfl rfl (Nat.le_of_ble_eq_true rfl) (show (d + 3) + 1 ≤ (d + 4) by omega) e1
theorem bX8_roomOf_26 {d : Nat} {Q : Option jA → jH → Prop} (a0 : Nat) (a1 : Nat) (p0 : Int) (h : jH)
    (q1 : Q (some (.inl p0)) h) :
    V MX8_roomOf (d + 4) 26 [some (.inr a0), some (.inr a1)] [.inl p0] h 0 0 Q := by
  exact V_reti rfl dX8_roomOf_26 q1
theorem dX8_roomOfAll_0 : decode cX8_roomOfAll 0 = .ok (.iconst 0, 1) := by decide +kernel
theorem dX8_roomOfAll_1 : decode cX8_roomOfAll 1 = .ok (.istore_n 1, 1) := by decide +kernel
theorem dX8_roomOfAll_2 : decode cX8_roomOfAll 2 = .ok (.iconst 0, 1) := by decide +kernel
theorem dX8_roomOfAll_3 : decode cX8_roomOfAll 3 = .ok (.istore_n 2, 1) := by decide +kernel
theorem dX8_roomOfAll_4 : decode cX8_roomOfAll 4 = .ok (.iload_n 2, 1) := by decide +kernel
theorem dX8_roomOfAll_5 : decode cX8_roomOfAll 5 = .ok (.aload_n 0, 1) := by decide +kernel
theorem dX8_roomOfAll_6 : decode cX8_roomOfAll 6 = .ok (.getfield 38, 3) := by decide +kernel
theorem dX8_roomOfAll_9 : decode cX8_roomOfAll 9 = .ok (.getfield 193, 3) := by decide +kernel
theorem dX8_roomOfAll_12 : decode cX8_roomOfAll 12 = .ok (.if_icmp .ge 25, 3) := by decide +kernel
theorem dX8_roomOfAll_15 : decode cX8_roomOfAll 15 = .ok (.iload_n 1, 1) := by decide +kernel
theorem dX8_roomOfAll_16 : decode cX8_roomOfAll 16 = .ok (.aload_n 0, 1) := by decide +kernel
theorem dX8_roomOfAll_17 : decode cX8_roomOfAll 17 = .ok (.aload_n 0, 1) := by decide +kernel
theorem dX8_roomOfAll_18 : decode cX8_roomOfAll 18 = .ok (.getfield 38, 3) := by decide +kernel
theorem dX8_roomOfAll_21 : decode cX8_roomOfAll 21 = .ok (.getfield 250, 3) := by decide +kernel
theorem dX8_roomOfAll_24 : decode cX8_roomOfAll 24 = .ok (.iload_n 2, 1) := by decide +kernel
theorem dX8_roomOfAll_25 : decode cX8_roomOfAll 25 = .ok (.aaload, 1) := by decide +kernel
theorem dX8_roomOfAll_26 : decode cX8_roomOfAll 26 = .ok (.invokevirtual 269, 3) := by decide +kernel
theorem dX8_roomOfAll_29 : decode cX8_roomOfAll 29 = .ok (.iadd, 1) := by decide +kernel
theorem dX8_roomOfAll_30 : decode cX8_roomOfAll 30 = .ok (.istore_n 1, 1) := by decide +kernel
theorem dX8_roomOfAll_31 : decode cX8_roomOfAll 31 = .ok (.iinc 2 1, 3) := by decide +kernel
theorem dX8_roomOfAll_34 : decode cX8_roomOfAll 34 = .ok (.goto (-30), 3) := by decide +kernel
theorem dX8_roomOfAll_37 : decode cX8_roomOfAll 37 = .ok (.iload_n 1, 1) := by decide +kernel
theorem dX8_roomOfAll_38 : decode cX8_roomOfAll 38 = .ok (.ireturn, 1) := by decide +kernel
theorem bX8_roomOfAll_0 {d : Nat} {Q : Option jA → jH → Prop} (a0 : Nat) (u1 : Option jA) (u2 : Option jA) (h : jH)
    (k1 : V MX8_roomOfAll (d + 5) 4 [some (.inr a0), some (.inl 0), some (.inl 0)] [] h 0 0 Q) :
    V MX8_roomOfAll (d + 5) 0 [some (.inr a0), u1, u2] [] h 0 0 Q := by
  refine V_iconst dX8_roomOfAll_0 ⟨by decide, by decide⟩ ?_
  refine V_istore_n (i := 1) dX8_roomOfAll_1 rfl (by decide) ?_
  refine V_iconst dX8_roomOfAll_2 ⟨by decide, by decide⟩ ?_
  refine V_istore_n (i := 2) dX8_roomOfAll_3 rfl (by decide) ?_
  exact k1
theorem bX8_roomOfAll_4 {d : Nat} {Q : Option jA → jH → Prop} (a0 : Nat) (i1 : Int) (i2 : Int) (h : jH)
    (s1 : (jS h a0).1 = 8)
    (s2 : (jS h (jP h a0 4)).1 = 6)
    (q1 : ((jI h (jP h a0 4) 4) ≤ i2) → Q (some (.inl i1)) h)
    (s3 : (jS h (jP h (jP h a0 4) 5)).1 = 18)
    (s4 : (¬ ((jI h (jP h a0 4) 4) ≤ i2)) → 0 ≤ i2)
    (s5 : (¬ ((jI h (jP h a0 4) 4) ≤ i2)) → i2 < ((jS h (jP h (jP h a0 4) 5)).2 : Int))
    (e1 : (¬ ((jI h (jP h a0 4) 4) ≤ i2)) → Ex MX8_roomOf (d + 4) [.inr a0, .inr (jY h (jP h (jP h a0 4) 5) ((i2).toNat))] h 0 0 (fun v h2 => V MX8_roomOfAll (d + 5) 29 [some (.inr a0), some (.inl i1), some (.inl i2)] (v.toList ++ [.inl i1]) h2 0 0 Q)) :
    V MX8_roomOfAll (d + 5) 4 [some (.inr a0), some (.inl i1), some (.inl i2)] [] h 0 0 Q := by
  refine V_iload_n (i := 2) dX8_roomOfAll_4 rfl rfl ?_
  refine V_aload_n (i := 0) dX8_roomOfAll_5 rfl rfl ?_
  refine V_getP dX8_roomOfAll_6 fX8_38 rfl s1 ?_
  refine V_getI dX8_roomOfAll_9 fX8_193 rfl s2 ?_
  refine V_icmp_ge (tgt := 37) dX8_roomOfAll_12 (by decide) (fun c1 => ?_) (fun c1 => ?_)
  · refine V_iload_n (i := 1) dX8_roomOfAll_37 rfl rfl ?_
    exact V_reti rfl dX8_roomOfAll_38 (q1 c1)
  · refine V_iload_n (i := 1) dX8_roomOfAll_15 rfl rfl ?_
    refine V_aload_n (i := 0) dX8_roomOfAll_16 rfl rfl ?_
    refine V_aload_n (i := 0) dX8_roomOfAll_17 rfl rfl ?_
    refine V_getP dX8_roomOfAll_18 fX8_38 rfl s1 ?_
    refine V_getP dX8_roomOfAll_21 fX8_250 rfl s2 ?_
    refine V_iload_n (i := 2) dX8_roomOfAll_24 rfl rfl ?_
    refine V_aald18 dX8_roomOfAll_25 s3 (s4 c1) (s5 c1) ?_
    exact V_callV (M := MX8_roomOfAll) (d := (d + 5)) (mc' := 0) (ms' := 0) (mc := 0) (ms := 0) (As := [.inr (jY h (jP h (jP h a0 4) 5) ((i2).toNat))]) (rest := [.inl i1]) dX8_roomOfAll_26 tX8_roomOf vX8_roomOf lX8_269 s1 ⟨by decide, rfl⟩ rfl rfl (Nat.le_of_ble_eq_true rfl) (show (d + 4) + 1 ≤ (d + 5) by omega) (e1 c1)
theorem bX8_roomOfAll_29 {d : Nat} {Q : Option jA → jH → Prop} (a0 : Nat) (i1 : Int) (i2 : Int) (p0 : Int) (p1 : Int) (h : jH)
    (r1 : jR (p1 + p0))
    (r2 : jR (i2 + 1))
    (k1 : V MX8_roomOfAll (d + 5) 4 [some (.inr a0), some (.inl (p1 + p0)), some (.inl (i2 + 1))] [] h 0 0 Q) :
    V MX8_roomOfAll (d + 5) 29 [some (.inr a0), some (.inl i1), some (.inl i2)] [.inl p0, .inl p1] h 0 0 Q := by
  refine V_iadd dX8_roomOfAll_29 r1 ?_
  refine V_istore_n (i := 1) dX8_roomOfAll_30 rfl (by decide) ?_
  refine V_iinc (i := 2) dX8_roomOfAll_31 rfl (by decide) r2 ?_
  refine V_goto (tgt := 4) dX8_roomOfAll_34 (by decide) ?_
  exact k1
theorem dX8_changesInAll_0 : decode cX8_changesInAll 0 = .ok (.iconst 0, 1) := by decide +kernel
theorem dX8_changesInAll_1 : decode cX8_changesInAll 1 = .ok (.istore_n 1, 1) := by decide +kernel
theorem dX8_changesInAll_2 : decode cX8_changesInAll 2 = .ok (.iconst 0, 1) := by decide +kernel
theorem dX8_changesInAll_3 : decode cX8_changesInAll 3 = .ok (.istore_n 2, 1) := by decide +kernel
theorem dX8_changesInAll_4 : decode cX8_changesInAll 4 = .ok (.iload_n 2, 1) := by decide +kernel
theorem dX8_changesInAll_5 : decode cX8_changesInAll 5 = .ok (.aload_n 0, 1) := by decide +kernel
theorem dX8_changesInAll_6 : decode cX8_changesInAll 6 = .ok (.getfield 38, 3) := by decide +kernel
theorem dX8_changesInAll_9 : decode cX8_changesInAll 9 = .ok (.getfield 193, 3) := by decide +kernel
theorem dX8_changesInAll_12 : decode cX8_changesInAll 12 = .ok (.if_icmp .ge 27, 3) := by decide +kernel
theorem dX8_changesInAll_15 : decode cX8_changesInAll 15 = .ok (.iload_n 1, 1) := by decide +kernel
theorem dX8_changesInAll_16 : decode cX8_changesInAll 16 = .ok (.aload_n 0, 1) := by decide +kernel
theorem dX8_changesInAll_17 : decode cX8_changesInAll 17 = .ok (.getfield 38, 3) := by decide +kernel
theorem dX8_changesInAll_20 : decode cX8_changesInAll 20 = .ok (.getfield 250, 3) := by decide +kernel
theorem dX8_changesInAll_23 : decode cX8_changesInAll 23 = .ok (.iload_n 2, 1) := by decide +kernel
theorem dX8_changesInAll_24 : decode cX8_changesInAll 24 = .ok (.aaload, 1) := by decide +kernel
theorem dX8_changesInAll_25 : decode cX8_changesInAll 25 = .ok (.getfield 262, 3) := by decide +kernel
theorem dX8_changesInAll_28 : decode cX8_changesInAll 28 = .ok (.getfield 265, 3) := by decide +kernel
theorem dX8_changesInAll_31 : decode cX8_changesInAll 31 = .ok (.iadd, 1) := by decide +kernel
theorem dX8_changesInAll_32 : decode cX8_changesInAll 32 = .ok (.istore_n 1, 1) := by decide +kernel
theorem dX8_changesInAll_33 : decode cX8_changesInAll 33 = .ok (.iinc 2 1, 3) := by decide +kernel
theorem dX8_changesInAll_36 : decode cX8_changesInAll 36 = .ok (.goto (-32), 3) := by decide +kernel
theorem dX8_changesInAll_39 : decode cX8_changesInAll 39 = .ok (.iload_n 1, 1) := by decide +kernel
theorem dX8_changesInAll_40 : decode cX8_changesInAll 40 = .ok (.ireturn, 1) := by decide +kernel
theorem bX8_changesInAll_0 {d : Nat} {Q : Option jA → jH → Prop} (a0 : Nat) (u1 : Option jA) (u2 : Option jA) (h : jH)
    (k1 : V MX8_changesInAll d 4 [some (.inr a0), some (.inl 0), some (.inl 0)] [] h 0 0 Q) :
    V MX8_changesInAll d 0 [some (.inr a0), u1, u2] [] h 0 0 Q := by
  refine V_iconst dX8_changesInAll_0 ⟨by decide, by decide⟩ ?_
  refine V_istore_n (i := 1) dX8_changesInAll_1 rfl (by decide) ?_
  refine V_iconst dX8_changesInAll_2 ⟨by decide, by decide⟩ ?_
  refine V_istore_n (i := 2) dX8_changesInAll_3 rfl (by decide) ?_
  exact k1
theorem bX8_changesInAll_4 {d : Nat} {Q : Option jA → jH → Prop} (a0 : Nat) (i1 : Int) (i2 : Int) (h : jH)
    (s1 : (jS h a0).1 = 8)
    (s2 : (jS h (jP h a0 4)).1 = 6)
    (q1 : ((jI h (jP h a0 4) 4) ≤ i2) → Q (some (.inl i1)) h)
    (s3 : (jS h (jP h (jP h a0 4) 5)).1 = 18)
    (s4 : (¬ ((jI h (jP h a0 4) 4) ≤ i2)) → 0 ≤ i2)
    (s5 : (¬ ((jI h (jP h a0 4) 4) ≤ i2)) → i2 < ((jS h (jP h (jP h a0 4) 5)).2 : Int))
    (s6 : (¬ ((jI h (jP h a0 4) 4) ≤ i2)) → (jS h (jY h (jP h (jP h a0 4) 5) ((i2).toNat))).1 = 0)
    (s7 : (¬ ((jI h (jP h a0 4) 4) ≤ i2)) → (jS h (jP h (jY h (jP h (jP h a0 4) 5) ((i2).toNat)) 3)).1 = 1)
    (r1 : (¬ ((jI h (jP h a0 4) 4) ≤ i2)) → jR (i1 + (jI h (jP h (jY h (jP h (jP h a0 4) 5) ((i2).toNat)) 3) 0)))
    (r2 : (¬ ((jI h (jP h a0 4) 4) ≤ i2)) → jR (i2 + 1))
    (k1 : (¬ ((jI h (jP h a0 4) 4) ≤ i2)) → V MX8_changesInAll d 4 [some (.inr a0), some (.inl (i1 + (jI h (jP h (jY h (jP h (jP h a0 4) 5) ((i2).toNat)) 3) 0))), some (.inl (i2 + 1))] [] h 0 0 Q) :
    V MX8_changesInAll d 4 [some (.inr a0), some (.inl i1), some (.inl i2)] [] h 0 0 Q := by
  refine V_iload_n (i := 2) dX8_changesInAll_4 rfl rfl ?_
  refine V_aload_n (i := 0) dX8_changesInAll_5 rfl rfl ?_
  refine V_getP dX8_changesInAll_6 fX8_38 rfl s1 ?_
  refine V_getI dX8_changesInAll_9 fX8_193 rfl s2 ?_
  refine V_icmp_ge (tgt := 39) dX8_changesInAll_12 (by decide) (fun c1 => ?_) (fun c1 => ?_)
  · refine V_iload_n (i := 1) dX8_changesInAll_39 rfl rfl ?_
    exact V_reti rfl dX8_changesInAll_40 (q1 c1)
  · refine V_iload_n (i := 1) dX8_changesInAll_15 rfl rfl ?_
    refine V_aload_n (i := 0) dX8_changesInAll_16 rfl rfl ?_
    refine V_getP dX8_changesInAll_17 fX8_38 rfl s1 ?_
    refine V_getP dX8_changesInAll_20 fX8_250 rfl s2 ?_
    refine V_iload_n (i := 2) dX8_changesInAll_23 rfl rfl ?_
    refine V_aald18 dX8_changesInAll_24 s3 (s4 c1) (s5 c1) ?_
    refine V_getP dX8_changesInAll_25 fX8_262 rfl (s6 c1) ?_
    refine V_getI dX8_changesInAll_28 fX8_265 rfl (s7 c1) ?_
    refine V_iadd dX8_changesInAll_31 (r1 c1) ?_
    refine V_istore_n (i := 1) dX8_changesInAll_32 rfl (by decide) ?_
    refine V_iinc (i := 2) dX8_changesInAll_33 rfl (by decide) (r2 c1) ?_
    refine V_goto (tgt := 4) dX8_changesInAll_36 (by decide) ?_
    exact (k1 c1)
theorem dX8_roomDivided_0 : decode cX8_roomDivided 0 = .ok (.iconst 0, 1) := by decide +kernel
theorem dX8_roomDivided_1 : decode cX8_roomDivided 1 = .ok (.istore_n 2, 1) := by decide +kernel
theorem dX8_roomDivided_2 : decode cX8_roomDivided 2 = .ok (.bipush (-9), 2) := by decide +kernel
theorem dX8_roomDivided_4 : decode cX8_roomDivided 4 = .ok (.istore_n 3, 1) := by decide +kernel
theorem dX8_roomDivided_5 : decode cX8_roomDivided 5 = .ok (.iconst 0, 1) := by decide +kernel
theorem dX8_roomDivided_6 : decode cX8_roomDivided 6 = .ok (.istore 4, 2) := by decide +kernel
theorem dX8_roomDivided_8 : decode cX8_roomDivided 8 = .ok (.iload 4, 2) := by decide +kernel
theorem dX8_roomDivided_10 : decode cX8_roomDivided 10 = .ok (.aload_n 0, 1) := by decide +kernel
theorem dX8_roomDivided_11 : decode cX8_roomDivided 11 = .ok (.getfield 38, 3) := by decide +kernel
theorem dX8_roomDivided_14 : decode cX8_roomDivided 14 = .ok (.getfield 193, 3) := by decide +kernel
theorem dX8_roomDivided_17 : decode cX8_roomDivided 17 = .ok (.if_icmp .ge 89, 3) := by decide +kernel
theorem dX8_roomDivided_20 : decode cX8_roomDivided 20 = .ok (.aload_n 0, 1) := by decide +kernel
theorem dX8_roomDivided_21 : decode cX8_roomDivided 21 = .ok (.getfield 38, 3) := by decide +kernel
theorem dX8_roomDivided_24 : decode cX8_roomDivided 24 = .ok (.getfield 250, 3) := by decide +kernel
theorem dX8_roomDivided_27 : decode cX8_roomDivided 27 = .ok (.iload 4, 2) := by decide +kernel
theorem dX8_roomDivided_29 : decode cX8_roomDivided 29 = .ok (.aaload, 1) := by decide +kernel
theorem dX8_roomDivided_30 : decode cX8_roomDivided 30 = .ok (.astore 5, 2) := by decide +kernel
theorem dX8_roomDivided_32 : decode cX8_roomDivided 32 = .ok (.iload_n 3, 1) := by decide +kernel
theorem dX8_roomDivided_33 : decode cX8_roomDivided 33 = .ok (.bipush (-9), 2) := by decide +kernel
theorem dX8_roomDivided_35 : decode cX8_roomDivided 35 = .ok (.if_icmp .ne 17, 3) := by decide +kernel
theorem dX8_roomDivided_38 : decode cX8_roomDivided 38 = .ok (.aload 5, 2) := by decide +kernel
theorem dX8_roomDivided_40 : decode cX8_roomDivided 40 = .ok (.getfield 254, 3) := by decide +kernel
theorem dX8_roomDivided_43 : decode cX8_roomDivided 43 = .ok (.istore_n 3, 1) := by decide +kernel
theorem dX8_roomDivided_44 : decode cX8_roomDivided 44 = .ok (.aload_n 0, 1) := by decide +kernel
theorem dX8_roomDivided_45 : decode cX8_roomDivided 45 = .ok (.getfield 76, 3) := by decide +kernel
theorem dX8_roomDivided_48 : decode cX8_roomDivided 48 = .ok (.iconst 0, 1) := by decide +kernel
theorem dX8_roomDivided_49 : decode cX8_roomDivided 49 = .ok (.putfield 265, 3) := by decide +kernel
theorem dX8_roomDivided_52 : decode cX8_roomDivided 52 = .ok (.aload_n 0, 1) := by decide +kernel
theorem dX8_roomDivided_53 : decode cX8_roomDivided 53 = .ok (.getfield 76, 3) := by decide +kernel
theorem dX8_roomDivided_56 : decode cX8_roomDivided 56 = .ok (.aload 5, 2) := by decide +kernel
theorem dX8_roomDivided_58 : decode cX8_roomDivided 58 = .ok (.getfield 262, 3) := by decide +kernel
theorem dX8_roomDivided_61 : decode cX8_roomDivided 61 = .ok (.invokevirtual 320, 3) := by decide +kernel
theorem dX8_roomDivided_64 : decode cX8_roomDivided 64 = .ok (.aload 5, 2) := by decide +kernel
theorem dX8_roomDivided_66 : decode cX8_roomDivided 66 = .ok (.getfield 259, 3) := by decide +kernel
theorem dX8_roomDivided_69 : decode cX8_roomDivided 69 = .ok (.bipush (-9), 2) := by decide +kernel
theorem dX8_roomDivided_71 : decode cX8_roomDivided 71 = .ok (.if_icmp .ne 17, 3) := by decide +kernel
theorem dX8_roomDivided_74 : decode cX8_roomDivided 74 = .ok (.iload 4, 2) := by decide +kernel
theorem dX8_roomDivided_76 : decode cX8_roomDivided 76 = .ok (.aload_n 0, 1) := by decide +kernel
theorem dX8_roomDivided_77 : decode cX8_roomDivided 77 = .ok (.getfield 38, 3) := by decide +kernel
theorem dX8_roomDivided_80 : decode cX8_roomDivided 80 = .ok (.getfield 193, 3) := by decide +kernel
theorem dX8_roomDivided_83 : decode cX8_roomDivided 83 = .ok (.iconst 1, 1) := by decide +kernel
theorem dX8_roomDivided_84 : decode cX8_roomDivided 84 = .ok (.isub, 1) := by decide +kernel
theorem dX8_roomDivided_85 : decode cX8_roomDivided 85 = .ok (.if_icmp .ne 15, 3) := by decide +kernel
theorem dX8_roomDivided_88 : decode cX8_roomDivided 88 = .ok (.iload_n 2, 1) := by decide +kernel
theorem dX8_roomDivided_89 : decode cX8_roomDivided 89 = .ok (.aload_n 0, 1) := by decide +kernel
theorem dX8_roomDivided_90 : decode cX8_roomDivided 90 = .ok (.iload_n 3, 1) := by decide +kernel
theorem dX8_roomDivided_91 : decode cX8_roomDivided 91 = .ok (.iload_n 1, 1) := by decide +kernel
theorem dX8_roomDivided_92 : decode cX8_roomDivided 92 = .ok (.invokevirtual 324, 3) := by decide +kernel
theorem dX8_roomDivided_95 : decode cX8_roomDivided 95 = .ok (.iadd, 1) := by decide +kernel
theorem dX8_roomDivided_96 : decode cX8_roomDivided 96 = .ok (.istore_n 2, 1) := by decide +kernel
theorem dX8_roomDivided_97 : decode cX8_roomDivided 97 = .ok (.bipush (-9), 2) := by decide +kernel
theorem dX8_roomDivided_99 : decode cX8_roomDivided 99 = .ok (.istore_n 3, 1) := by decide +kernel
theorem dX8_roomDivided_100 : decode cX8_roomDivided 100 = .ok (.iinc 4 1, 3) := by decide +kernel
theorem dX8_roomDivided_103 : decode cX8_roomDivided 103 = .ok (.goto (-95), 3) := by decide +kernel
theorem dX8_roomDivided_106 : decode cX8_roomDivided 106 = .ok (.iload_n 2, 1) := by decide +kernel
theorem dX8_roomDivided_107 : decode cX8_roomDivided 107 = .ok (.ireturn, 1) := by decide +kernel
theorem bX8_roomDivided_0 {d : Nat} {Q : Option jA → jH → Prop} (a0 : Nat) (i1 : Int) (u2 : Option jA) (u3 : Option jA) (u4 : Option jA) (u5 : Option jA) (h : jH)
    (k1 : V MX8_roomDivided (d + 5) 8 [some (.inr a0), some (.inl i1), some (.inl 0), some (.inl ((-9))), some (.inl 0), u5] [] h 0 0 Q) :
    V MX8_roomDivided (d + 5) 0 [some (.inr a0), some (.inl i1), u2, u3, u4, u5] [] h 0 0 Q := by
  refine V_iconst dX8_roomDivided_0 ⟨by decide, by decide⟩ ?_
  refine V_istore_n (i := 2) dX8_roomDivided_1 rfl (by decide) ?_
  refine V_bipush dX8_roomDivided_2 (by decide +kernel) ⟨by decide, by decide⟩ ?_
  refine V_istore_n (i := 3) dX8_roomDivided_4 rfl (by decide) ?_
  refine V_iconst dX8_roomDivided_5 ⟨by decide, by decide⟩ ?_
  refine V_istore (i := 4) dX8_roomDivided_6 (by decide) ?_
  exact k1
theorem bX8_roomDivided_8 {d : Nat} {Q : Option jA → jH → Prop} (a0 : Nat) (i1 : Int) (i2 : Int) (i3 : Int) (i4 : Int) (u5 : Option jA) (h : jH)
    (s1 : (jS h a0).1 = 8)
    (s2 : (jS h (jP h a0 4)).1 = 6)
    (q1 : ((jI h (jP h a0 4) 4) ≤ i4) → Q (some (.inl i2)) h)
    (s3 : (jS h (jP h (jP h a0 4) 5)).1 = 18)
    (s4 : (¬ ((jI h (jP h a0 4) 4) ≤ i4)) → 0 ≤ i4)
    (s5 : (¬ ((jI h (jP h a0 4) 4) ≤ i4)) → i4 < ((jS h (jP h (jP h a0 4) 5)).2 : Int))
    (s6 : (¬ ((jI h (jP h a0 4) 4) ≤ i4)) → (i3 ≠ ((-9))) → (jS h (jY h (jP h (jP h a0 4) 5) ((i4).toNat))).1 = 0)
    (e1 : (¬ ((jI h (jP h a0 4) 4) ≤ i4)) → (i3 ≠ ((-9))) → Ex MX1_addAll (d + 1) [.inr (jP h a0 12), .inr (jP h (jY h (jP h (jP h a0 4) 5) ((i4).toNat)) 3)] h 0 0 (fun v h2 => V MX8_roomDivided (d + 5) 64 [some (.inr a0), some (.inl i1), some (.inl i2), some (.inl i3), some (.inl i4), some (.inr (jY h (jP h (jP h a0 4) 5) ((i4).toNat)))] (v.toList ++ []) h2 0 0 Q))
    (s7 : (jS h (jP h a0 12)).1 = 1)
    (s8 : (¬ ((jI h (jP h a0 4) 4) ≤ i4)) → (i3 = ((-9))) → (jS h (jY h (jP h (jP h a0 4) 5) ((i4).toNat))).1 = 0)
    (e2 : (¬ ((jI h (jP h a0 4) 4) ≤ i4)) → (i3 = ((-9))) → Ex MX1_addAll (d + 1) [.inr (jP h a0 12), .inr (jP h (jY h (jP h (jP h a0 4) 5) ((i4).toNat)) 3)] (jsI h (jP h a0 12) 0 0) 0 0 (fun v h2 => V MX8_roomDivided (d + 5) 64 [some (.inr a0), some (.inl i1), some (.inl i2), some (.inl (jI h (jY h (jP h (jP h a0 4) 5) ((i4).toNat)) 0)), some (.inl i4), some (.inr (jY h (jP h (jP h a0 4) 5) ((i4).toNat)))] (v.toList ++ []) h2 0 0 Q)) :
    V MX8_roomDivided (d + 5) 8 [some (.inr a0), some (.inl i1), some (.inl i2), some (.inl i3), some (.inl i4), u5] [] h 0 0 Q := by
  refine V_iload (i := 4) dX8_roomDivided_8 rfl ?_
  refine V_aload_n (i := 0) dX8_roomDivided_10 rfl rfl ?_
  refine V_getP dX8_roomDivided_11 fX8_38 rfl s1 ?_
  refine V_getI dX8_roomDivided_14 fX8_193 rfl s2 ?_
  refine V_icmp_ge (tgt := 106) dX8_roomDivided_17 (by decide) (fun c1 => ?_) (fun c1 => ?_)
  · refine V_iload_n (i := 2) dX8_roomDivided_106 rfl rfl ?_
    exact V_reti rfl dX8_roomDivided_107 (q1 c1)
  · refine V_aload_n (i := 0) dX8_roomDivided_20 rfl rfl ?_
    refine V_getP dX8_roomDivided_21 fX8_38 rfl s1 ?_
    refine V_getP dX8_roomDivided_24 fX8_250 rfl s2 ?_
    refine V_iload (i := 4) dX8_roomDivided_27 rfl ?_
    refine V_aald18 dX8_roomDivided_29 s3 (s4 c1) (s5 c1) ?_
    refine V_astore (i := 5) dX8_roomDivided_30 (by decide) ?_
    refine V_iload_n (i := 3) dX8_roomDivided_32 rfl rfl ?_
    refine V_bipush dX8_roomDivided_33 (by decide +kernel) ⟨by decide, by decide⟩ ?_
    refine V_icmp_ne (tgt := 52) dX8_roomDivided_35 (by decide) (fun c2 => ?_) (fun c2 => ?_)
    · refine V_aload_n (i := 0) dX8_roomDivided_52 rfl rfl ?_
      refine V_getP dX8_roomDivided_53 fX8_76 rfl s1 ?_
      refine V_aload (i := 5) dX8_roomDivided_56 rfl ?_
      refine V_getP dX8_roomDivided_58 fX8_262 rfl (s6 c1 c2) ?_
      exact V_callV (M := MX8_roomDivided) (d := (d + 5)) (mc' := 0) (ms' := 0) (mc := 0) (ms := 0) (As := [.inr (jP h (jY h (jP h (jP h a0 4) 5) ((i4).toNat)) 3)]) (rest := []) dX8_roomDivided_61 tX1_addAll vX1_addAll lX8_320 s7 ⟨by decide, rfl⟩ rfl rfl (Nat.le_of_ble_eq_true rfl) (show (d + 1) + 1 ≤ (d + 5) by omega) (e1 c1 c2)
    · refine V_aload (i := 5) dX8_roomDivided_38 rfl ?_
      refine V_getI dX8_roomDivided_40 fX8_254 rfl (s8 c1 c2) ?_
      refine V_istore_n (i := 3) dX8_roomDivided_43 rfl (by decide) ?_
      refine V_aload_n (i := 0) dX8_roomDivided_44 rfl rfl ?_
      refine V_getP dX8_roomDivided_45 fX8_76 rfl s1 ?_
      refine V_iconst dX8_roomDivided_48 ⟨by decide, by decide⟩ ?_
      refine V_putI (ci := 1) (kf := 0) dX8_roomDivided_49 fX8_265 rfl rfl s7 ?_
      refine V_aload_n (i := 0) dX8_roomDivided_52 rfl rfl ?_
      refine V_getP dX8_roomDivided_53 fX8_76 rfl s1 ?_
      refine V_aload (i := 5) dX8_roomDivided_56 rfl ?_
      refine V_getP dX8_roomDivided_58 fX8_262 rfl (s8 c1 c2) ?_
      exact V_callV (M := MX8_roomDivided) (d := (d + 5)) (mc' := 0) (ms' := 0) (mc := 0) (ms := 0) (As := [.inr (jP h (jY h (jP h (jP h a0 4) 5) ((i4).toNat)) 3)]) (rest := []) dX8_roomDivided_61 tX1_addAll vX1_addAll lX8_320 s7 ⟨by decide, rfl⟩ rfl rfl (Nat.le_of_ble_eq_true rfl) (show (d + 1) + 1 ≤ (d + 5) by omega) (e2 c1 c2)
theorem bX8_roomDivided_64 {d : Nat} {Q : Option jA → jH → Prop} (a0 : Nat) (i1 : Int) (i2 : Int) (i3 : Int) (i4 : Int) (a5 : Nat) (h : jH)
    (s1 : (jS h a5).1 = 0)
    (e1 : ((jI h a5 1) ≠ ((-9))) → Ex MX8_roomOfGroup (d + 4) [.inr a0, .inl i3, .inl i1] h 0 0 (fun v h2 => V MX8_roomDivided (d + 5) 95 [some (.inr a0), some (.inl i1), some (.inl i2), some (.inl i3), some (.inl i4), some (.inr a5)] (v.toList ++ [.inl i2]) h2 0 0 Q))
    (s2 : (jS h a0).1 = 8)
    (s3 : (jS h (jP h a0 4)).1 = 6)
    (r1 : ((jI h a5 1) = ((-9))) → jR ((jI h (jP h a0 4) 4) - 1))
    (r2 : ((jI h a5 1) = ((-9))) → (i4 ≠ ((jI h (jP h a0 4) 4) - 1)) → jR (i4 + 1))
    (k1 : ((jI h a5 1) = ((-9))) → (i4 ≠ ((jI h (jP h a0 4) 4) - 1)) → V MX8_roomDivided (d + 5) 8 [some (.inr a0), some (.inl i1), some (.inl i2), some (.inl i3), some (.inl (i4 + 1)), some (.inr a5)] [] h 0 0 Q)
    (e2 : ((jI h a5 1) = ((-9))) → (i4 = ((jI h (jP h a0 4) 4) - 1)) → Ex MX8_roomOfGroup (d + 4) [.inr a0, .inl i3, .inl i1] h 0 0 (fun v h2 => V MX8_roomDivided (d + 5) 95 [some (.inr a0), some (.inl i1), some (.inl i2), some (.inl i3), some (.inl i4), some (.inr a5)] (v.toList ++ [.inl i2]) h2 0 0 Q)) :
    V MX8_roomDivided (d + 5) 64 [some (.inr a0), some (.inl i1), some (.inl i2), some (.inl i3), some (.inl i4), some (.inr a5)] [] h 0 0 Q := by
  refine V_aload (i := 5) dX8_roomDivided_64 rfl ?_
  refine V_getI dX8_roomDivided_66 fX8_259 rfl s1 ?_
  refine V_bipush dX8_roomDivided_69 (by decide +kernel) ⟨by decide, by decide⟩ ?_
  refine V_icmp_ne (tgt := 88) dX8_roomDivided_71 (by decide) (fun c1 => ?_) (fun c1 => ?_)
  · refine V_iload_n (i := 2) dX8_roomDivided_88 rfl rfl ?_
    refine V_aload_n (i := 0) dX8_roomDivided_89 rfl rfl ?_
    refine V_iload_n (i := 3) dX8_roomDivided_90 rfl rfl ?_
    refine V_iload_n (i := 1) dX8_roomDivided_91 rfl rfl ?_
    exact V_callV (M := MX8_roomDivided) (d := (d + 5)) (mc' := 0) (ms' := 0) (mc := 0) (ms := 0) (As := [.inl i3, .inl i1]) (rest := [.inl i2]) dX8_roomDivided_92 tX8_roomOfGroup vX8_roomOfGroup lX8_324 s2 ⟨by decide, rfl⟩ rfl rfl (Nat.le_of_ble_eq_true rfl) (show (d + 4) + 1 ≤ (d + 5) by omega) (e1 c1)
  · refine V_iload (i := 4) dX8_roomDivided_74 rfl ?_
    refine V_aload_n (i := 0) dX8_roomDivided_76 rfl rfl ?_
    refine V_getP dX8_roomDivided_77 fX8_38 rfl s2 ?_
    refine V_getI dX8_roomDivided_80 fX8_193 rfl s3 ?_
    refine V_iconst dX8_roomDivided_83 ⟨by decide, by decide⟩ ?_
    refine V_isub dX8_roomDivided_84 (r1 c1) ?_
    refine V_icmp_ne (tgt := 100) dX8_roomDivided_85 (by decide) (fun c2 => ?_) (fun c2 => ?_)
    · refine V_iinc (i := 4) dX8_roomDivided_100 rfl (by decide) (r2 c1 c2) ?_
      refine V_goto (tgt := 8) dX8_roomDivided_103 (by decide) ?_
      exact (k1 c1 c2)
    · refine V_iload_n (i := 2) dX8_roomDivided_88 rfl rfl ?_
      refine V_aload_n (i := 0) dX8_roomDivided_89 rfl rfl ?_
      refine V_iload_n (i := 3) dX8_roomDivided_90 rfl rfl ?_
      refine V_iload_n (i := 1) dX8_roomDivided_91 rfl rfl ?_
      exact V_callV (M := MX8_roomDivided) (d := (d + 5)) (mc' := 0) (ms' := 0) (mc := 0) (ms := 0) (As := [.inl i3, .inl i1]) (rest := [.inl i2]) dX8_roomDivided_92 tX8_roomOfGroup vX8_roomOfGroup lX8_324 s2 ⟨by decide, rfl⟩ rfl rfl (Nat.le_of_ble_eq_true rfl) (show (d + 4) + 1 ≤ (d + 5) by omega) (e2 c1 c2)
theorem bX8_roomDivided_95 {d : Nat} {Q : Option jA → jH → Prop} (a0 : Nat) (i1 : Int) (i2 : Int) (i3 : Int) (i4 : Int) (a5 : Nat) (p0 : Int) (p1 : Int) (h : jH)
    (r1 : jR (p1 + p0))
    (r2 : jR (i4 + 1))
    (k1 : V MX8_roomDivided (d + 5) 8 [some (.inr a0), some (.inl i1), some (.inl (p1 + p0)), some (.inl ((-9))), some (.inl (i4 + 1)), some (.inr a5)] [] h 0 0 Q) :
    V MX8_roomDivided (d + 5) 95 [some (.inr a0), some (.inl i1), some (.inl i2), some (.inl i3), some (.inl i4), some (.inr a5)] [.inl p0, .inl p1] h 0 0 Q := by
  refine V_iadd dX8_roomDivided_95 r1 ?_
  refine V_istore_n (i := 2) dX8_roomDivided_96 rfl (by decide) ?_
  refine V_bipush dX8_roomDivided_97 (by decide +kernel) ⟨by decide, by decide⟩ ?_
  refine V_istore_n (i := 3) dX8_roomDivided_99 rfl (by decide) ?_
  refine V_iinc (i := 4) dX8_roomDivided_100 rfl (by decide) r2 ?_
  refine V_goto (tgt := 8) dX8_roomDivided_103 (by decide) ?_
  exact k1
theorem dX8_roomOfGroup_0 : decode cX8_roomOfGroup 0 = .ok (.iconst 0, 1) := by decide +kernel
theorem dX8_roomOfGroup_1 : decode cX8_roomOfGroup 1 = .ok (.istore_n 3, 1) := by decide +kernel
theorem dX8_roomOfGroup_2 : decode cX8_roomOfGroup 2 = .ok (.iconst 0, 1) := by decide +kernel
theorem dX8_roomOfGroup_3 : decode cX8_roomOfGroup 3 = .ok (.istore 4, 2) := by decide +kernel
theorem dX8_roomOfGroup_5 : decode cX8_roomOfGroup 5 = .ok (.iload_n 1, 1) := by decide +kernel
theorem dX8_roomOfGroup_6 : decode cX8_roomOfGroup 6 = .ok (.istore 5, 2) := by decide +kernel
theorem dX8_roomOfGroup_8 : decode cX8_roomOfGroup 8 = .ok (.iconst 1, 1) := by decide +kernel
theorem dX8_roomOfGroup_9 : decode cX8_roomOfGroup 9 = .ok (.istore 6, 2) := by decide +kernel
theorem dX8_roomOfGroup_11 : decode cX8_roomOfGroup 11 = .ok (.iload 6, 2) := by decide +kernel
theorem dX8_roomOfGroup_13 : decode cX8_roomOfGroup 13 = .ok (.aload_n 0, 1) := by decide +kernel
theorem dX8_roomOfGroup_14 : decode cX8_roomOfGroup 14 = .ok (.getfield 76, 3) := by decide +kernel
theorem dX8_roomOfGroup_17 : decode cX8_roomOfGroup 17 = .ok (.getfield 265, 3) := by decide +kernel
theorem dX8_roomOfGroup_20 : decode cX8_roomOfGroup 20 = .ok (.if_icmp .ge 57, 3) := by decide +kernel
theorem dX8_roomOfGroup_23 : decode cX8_roomOfGroup 23 = .ok (.iload 6, 2) := by decide +kernel
theorem dX8_roomOfGroup_25 : decode cX8_roomOfGroup 25 = .ok (.iload 4, 2) := by decide +kernel
theorem dX8_roomOfGroup_27 : decode cX8_roomOfGroup 27 = .ok (.isub, 1) := by decide +kernel
theorem dX8_roomOfGroup_28 : decode cX8_roomOfGroup 28 = .ok (.iload_n 2, 1) := by decide +kernel
theorem dX8_roomOfGroup_29 : decode cX8_roomOfGroup 29 = .ok (.if_icmp .ne 42, 3) := by decide +kernel
theorem dX8_roomOfGroup_32 : decode cX8_roomOfGroup 32 = .ok (.iload_n 3, 1) := by decide +kernel
theorem dX8_roomOfGroup_33 : decode cX8_roomOfGroup 33 = .ok (.aload_n 0, 1) := by decide +kernel
theorem dX8_roomOfGroup_34 : decode cX8_roomOfGroup 34 = .ok (.getfield 76, 3) := by decide +kernel
theorem dX8_roomOfGroup_37 : decode cX8_roomOfGroup 37 = .ok (.aload_n 0, 1) := by decide +kernel
theorem dX8_roomOfGroup_38 : decode cX8_roomOfGroup 38 = .ok (.getfield 19, 3) := by decide +kernel
theorem dX8_roomOfGroup_41 : decode cX8_roomOfGroup 41 = .ok (.getfield 301, 3) := by decide +kernel
theorem dX8_roomOfGroup_44 : decode cX8_roomOfGroup 44 = .ok (.iload 5, 2) := by decide +kernel
theorem dX8_roomOfGroup_46 : decode cX8_roomOfGroup 46 = .ok (.iload 4, 2) := by decide +kernel
theorem dX8_roomOfGroup_48 : decode cX8_roomOfGroup 48 = .ok (.iload 6, 2) := by decide +kernel
theorem dX8_roomOfGroup_50 : decode cX8_roomOfGroup 50 = .ok (.invokevirtual 316, 3) := by decide +kernel
theorem dX8_roomOfGroup_53 : decode cX8_roomOfGroup 53 = .ok (.iadd, 1) := by decide +kernel
theorem dX8_roomOfGroup_54 : decode cX8_roomOfGroup 54 = .ok (.istore_n 3, 1) := by decide +kernel
theorem dX8_roomOfGroup_55 : decode cX8_roomOfGroup 55 = .ok (.iload 6, 2) := by decide +kernel
theorem dX8_roomOfGroup_57 : decode cX8_roomOfGroup 57 = .ok (.istore 4, 2) := by decide +kernel
theorem dX8_roomOfGroup_59 : decode cX8_roomOfGroup 59 = .ok (.aload_n 0, 1) := by decide +kernel
theorem dX8_roomOfGroup_60 : decode cX8_roomOfGroup 60 = .ok (.getfield 76, 3) := by decide +kernel
theorem dX8_roomOfGroup_63 : decode cX8_roomOfGroup 63 = .ok (.getfield 276, 3) := by decide +kernel
theorem dX8_roomOfGroup_66 : decode cX8_roomOfGroup 66 = .ok (.iload 6, 2) := by decide +kernel
theorem dX8_roomOfGroup_68 : decode cX8_roomOfGroup 68 = .ok (.iaload, 1) := by decide +kernel
theorem dX8_roomOfGroup_69 : decode cX8_roomOfGroup 69 = .ok (.istore 5, 2) := by decide +kernel
theorem dX8_roomOfGroup_71 : decode cX8_roomOfGroup 71 = .ok (.iinc 6 1, 3) := by decide +kernel
theorem dX8_roomOfGroup_74 : decode cX8_roomOfGroup 74 = .ok (.goto (-63), 3) := by decide +kernel
theorem dX8_roomOfGroup_77 : decode cX8_roomOfGroup 77 = .ok (.iload_n 3, 1) := by decide +kernel
theorem dX8_roomOfGroup_78 : decode cX8_roomOfGroup 78 = .ok (.aload_n 0, 1) := by decide +kernel
theorem dX8_roomOfGroup_79 : decode cX8_roomOfGroup 79 = .ok (.getfield 76, 3) := by decide +kernel
theorem dX8_roomOfGroup_82 : decode cX8_roomOfGroup 82 = .ok (.aload_n 0, 1) := by decide +kernel
theorem dX8_roomOfGroup_83 : decode cX8_roomOfGroup 83 = .ok (.getfield 19, 3) := by decide +kernel
theorem dX8_roomOfGroup_86 : decode cX8_roomOfGroup 86 = .ok (.getfield 301, 3) := by decide +kernel
theorem dX8_roomOfGroup_89 : decode cX8_roomOfGroup 89 = .ok (.iload 5, 2) := by decide +kernel
theorem dX8_roomOfGroup_91 : decode cX8_roomOfGroup 91 = .ok (.iload 4, 2) := by decide +kernel
theorem dX8_roomOfGroup_93 : decode cX8_roomOfGroup 93 = .ok (.aload_n 0, 1) := by decide +kernel
theorem dX8_roomOfGroup_94 : decode cX8_roomOfGroup 94 = .ok (.getfield 76, 3) := by decide +kernel
theorem dX8_roomOfGroup_97 : decode cX8_roomOfGroup 97 = .ok (.getfield 265, 3) := by decide +kernel
theorem dX8_roomOfGroup_100 : decode cX8_roomOfGroup 100 = .ok (.invokevirtual 316, 3) := by decide +kernel
theorem dX8_roomOfGroup_103 : decode cX8_roomOfGroup 103 = .ok (.iadd, 1) := by decide +kernel
theorem dX8_roomOfGroup_104 : decode cX8_roomOfGroup 104 = .ok (.ireturn, 1) := by decide +kernel
theorem bX8_roomOfGroup_0 {d : Nat} {Q : Option jA → jH → Prop} (a0 : Nat) (i1 : Int) (i2 : Int) (u3 : Option jA) (u4 : Option jA) (u5 : Option jA) (u6 : Option jA) (h : jH)
    (k1 : V MX8_roomOfGroup (d + 4) 11 [some (.inr a0), some (.inl i1), some (.inl i2), some (.inl 0), some (.inl 0), some (.inl i1), some (.inl 1)] [] h 0 0 Q) :
    V MX8_roomOfGroup (d + 4) 0 [some (.inr a0), some (.inl i1), some (.inl i2), u3, u4, u5, u6] [] h 0 0 Q := by
  refine V_iconst dX8_roomOfGroup_0 ⟨by decide, by decide⟩ ?_
  refine V_istore_n (i := 3) dX8_roomOfGroup_1 rfl (by decide) ?_
  refine V_iconst dX8_roomOfGroup_2 ⟨by decide, by decide⟩ ?_
  refine V_istore (i := 4) dX8_roomOfGroup_3 (by decide) ?_
  refine V_iload_n (i := 1) dX8_roomOfGroup_5 rfl rfl ?_
  refine V_istore (i := 5) dX8_roomOfGroup_6 (by decide) ?_
  refine V_iconst dX8_roomOfGroup_8 ⟨by decide, by decide⟩ ?_
  refine V_istore (i := 6) dX8_roomOfGroup_9 (by decide) ?_
  exact k1
theorem bX8_roomOfGroup_11 {d : Nat} {Q : Option jA → jH → Prop} (a0 : Nat) (i1 : Int) (i2 : Int) (i3 : Int) (i4 : Int) (i5 : Int) (i6 : Int) (h : jH)
    (s1 : (jS h a0).1 = 8)
    (s2 : (jS h (jP h a0 12)).1 = 1)
    (s3 : (jS h (jP h a0 1)).1 = 2)
    (e1 : ((jI h (jP h a0 12) 0) ≤ i6) → Ex MX1_room (d + 3) [.inr (jP h a0 12), .inl (jI h (jP h a0 1) 1), .inl i5, .inl i4, .inl (jI h (jP h a0 12) 0)] h 0 0 (fun v h2 => V MX8_roomOfGroup (d + 4) 103 [some (.inr a0), some (.inl i1), some (.inl i2), some (.inl i3), some (.inl i4), some (.inl i5), some (.inl i6)] (v.toList ++ [.inl i3]) h2 0 0 Q))
    (r1 : (¬ ((jI h (jP h a0 12) 0) ≤ i6)) → jR (i6 - i4))
    (r2 : (¬ ((jI h (jP h a0 12) 0) ≤ i6)) → ((i6 - i4) ≠ i2) → jR (i6 + 1))
    (k1 : (¬ ((jI h (jP h a0 12) 0) ≤ i6)) → ((i6 - i4) ≠ i2) → V MX8_roomOfGroup (d + 4) 11 [some (.inr a0), some (.inl i1), some (.inl i2), some (.inl i3), some (.inl i4), some (.inl i5), some (.inl (i6 + 1))] [] h 0 0 Q)
    (e2 : (¬ ((jI h (jP h a0 12) 0) ≤ i6)) → ((i6 - i4) = i2) → Ex MX1_room (d + 3) [.inr (jP h a0 12), .inl (jI h (jP h a0 1) 1), .inl i5, .inl i4, .inl i6] h 0 0 (fun v h2 => V MX8_roomOfGroup (d + 4) 53 [some (.inr a0), some (.inl i1), some (.inl i2), some (.inl i3), some (.inl i4), some (.inl i5), some (.inl i6)] (v.toList ++ [.inl i3]) h2 0 0 Q)) :
    V MX8_roomOfGroup (d + 4) 11 [some (.inr a0), some (.inl i1), some (.inl i2), some (.inl i3), some (.inl i4), some (.inl i5), some (.inl i6)] [] h 0 0 Q := by
  refine V_iload (i := 6) dX8_roomOfGroup_11 rfl ?_
  refine V_aload_n (i := 0) dX8_roomOfGroup_13 rfl rfl ?_
  refine V_getP dX8_roomOfGroup_14 fX8_76 rfl s1 ?_
  refine V_getI dX8_roomOfGroup_17 fX8_265 rfl s2 ?_
  refine V_icmp_ge (tgt := 77) dX8_roomOfGroup_20 (by decide) (fun c1 => ?_) (fun c1 => ?_)
  · refine V_iload_n (i := 3) dX8_roomOfGroup_77 rfl rfl ?_
    refine V_aload_n (i := 0) dX8_roomOfGroup_78 rfl rfl ?_
    refine V_getP dX8_roomOfGroup_79 fX8_76 rfl s1 ?_
    refine V_aload_n (i := 0) dX8_roomOfGroup_82 rfl rfl ?_
    refine V_getP dX8_roomOfGroup_83 fX8_19 rfl s1 ?_
    refine V_getI dX8_roomOfGroup_86 fX8_301 rfl s3 ?_
    refine V_iload (i := 5) dX8_roomOfGroup_89 rfl ?_
    refine V_iload (i := 4) dX8_roomOfGroup_91 rfl ?_
    refine V_aload_n (i := 0) dX8_roomOfGroup_93 rfl rfl ?_
    refine V_getP dX8_roomOfGroup_94 fX8_76 rfl s1 ?_
    refine V_getI dX8_roomOfGroup_97 fX8_265 rfl s2 ?_
    exact V_callV (M := MX8_roomOfGroup) (d := (d + 4)) (mc' := 0) (ms' := 0) (mc := 0) (ms := 0) (As := [.inl (jI h (jP h a0 1) 1), .inl i5, .inl i4, .inl (jI h (jP h a0 12) 0)]) (rest := [.inl i3]) dX8_roomOfGroup_100 tX1_room vX1_room lX8_316 s2 ⟨by decide, rfl⟩ rfl rfl (Nat.le_of_ble_eq_true rfl) (show (d + 3) + 1 ≤ (d + 4) by omega) (e1 c1)
  · refine V_iload (i := 6) dX8_roomOfGroup_23 rfl ?_
    refine V_iload (i := 4) dX8_roomOfGroup_25 rfl ?_
    refine V_isub dX8_roomOfGroup_27 (r1 c1) ?_
    refine V_iload_n (i := 2) dX8_roomOfGroup_28 rfl rfl ?_
    refine V_icmp_ne (tgt := 71) dX8_roomOfGroup_29 (by decide) (fun c2 => ?_) (fun c2 => ?_)
    · refine V_iinc (i := 6) dX8_roomOfGroup_71 rfl (by decide) (r2 c1 c2) ?_
      refine V_goto (tgt := 11) dX8_roomOfGroup_74 (by decide) ?_
      exact (k1 c1 c2)
    · refine V_iload_n (i := 3) dX8_roomOfGroup_32 rfl rfl ?_
      refine V_aload_n (i := 0) dX8_roomOfGroup_33 rfl rfl ?_
      refine V_getP dX8_roomOfGroup_34 fX8_76 rfl s1 ?_
      refine V_aload_n (i := 0) dX8_roomOfGroup_37 rfl rfl ?_
      refine V_getP dX8_roomOfGroup_38 fX8_19 rfl s1 ?_
      refine V_getI dX8_roomOfGroup_41 fX8_301 rfl s3 ?_
      refine V_iload (i := 5) dX8_roomOfGroup_44 rfl ?_
      refine V_iload (i := 4) dX8_roomOfGroup_46 rfl ?_
      refine V_iload (i := 6) dX8_roomOfGroup_48 rfl ?_
      exact V_callV (M := MX8_roomOfGroup) (d := (d + 4)) (mc' := 0) (ms' := 0) (mc := 0) (ms := 0) (As := [.inl (jI h (jP h a0 1) 1), .inl i5, .inl i4, .inl i6]) (rest := [.inl i3]) dX8_roomOfGroup_50 tX1_room vX1_room lX8_316 s2 ⟨by decide, rfl⟩ rfl rfl (Nat.le_of_ble_eq_true rfl) (show (d + 3) + 1 ≤ (d + 4) by omega) (e2 c1 c2)
theorem bX8_roomOfGroup_103 {d : Nat} {Q : Option jA → jH → Prop} (a0 : Nat) (i1 : Int) (i2 : Int) (i3 : Int) (i4 : Int) (i5 : Int) (i6 : Int) (p0 : Int) (p1 : Int) (h : jH)
    (r1 : jR (p1 + p0))
    (q1 : Q (some (.inl (p1 + p0))) h) :
    V MX8_roomOfGroup (d + 4) 103 [some (.inr a0), some (.inl i1), some (.inl i2), some (.inl i3), some (.inl i4), some (.inl i5), some (.inl i6)] [.inl p0, .inl p1] h 0 0 Q := by
  refine V_iadd dX8_roomOfGroup_103 r1 ?_
  exact V_reti rfl dX8_roomOfGroup_104 q1
theorem bX8_roomOfGroup_53 {d : Nat} {Q : Option jA → jH → Prop} (a0 : Nat) (i1 : Int) (i2 : Int) (i3 : Int) (i4 : Int) (i5 : Int) (i6 : Int) (p0 : Int) (p1 : Int) (h : jH)
    (r1 : jR (p1 + p0))
    (s1 : (jS h a0).1 = 8)
    (s2 : (jS h (jP h a0 12)).1 = 1)
    (s3 : (jS h (jP h (jP h a0 12) 1)).1 = 16)
    (s4 : 0 ≤ i6)
    (s5 : i6 < ((jS h (jP h (jP h a0 12) 1)).2 : Int))
    (r2 : jR (i6 + 1))
    (k1 : V MX8_roomOfGroup (d + 4) 11 [some (.inr a0), some (.inl i1), some (.inl i2), some (.inl (p1 + p0)), some (.inl i6), some (.inl (jX h (jP h (jP h a0 12) 1) ((i6).toNat))), some (.inl (i6 + 1))] [] h 0 0 Q) :
    V MX8_roomOfGroup (d + 4) 53 [some (.inr a0), some (.inl i1), some (.inl i2), some (.inl i3), some (.inl i4), some (.inl i5), some (.inl i6)] [.inl p0, .inl p1] h 0 0 Q := by
  refine V_iadd dX8_roomOfGroup_53 r1 ?_
  refine V_istore_n (i := 3) dX8_roomOfGroup_54 rfl (by decide) ?_
  refine V_iload (i := 6) dX8_roomOfGroup_55 rfl ?_
  refine V_istore (i := 4) dX8_roomOfGroup_57 (by decide) ?_
  refine V_aload_n (i := 0) dX8_roomOfGroup_59 rfl rfl ?_
  refine V_getP dX8_roomOfGroup_60 fX8_76 rfl s1 ?_
  refine V_getP dX8_roomOfGroup_63 fX8_276 rfl s2 ?_
  refine V_iload (i := 6) dX8_roomOfGroup_66 rfl ?_
  refine V_iald dX8_roomOfGroup_68 s3 s4 s5 ?_
  refine V_istore (i := 5) dX8_roomOfGroup_69 (by decide) ?_
  refine V_iinc (i := 6) dX8_roomOfGroup_71 rfl (by decide) r2 ?_
  refine V_goto (tgt := 11) dX8_roomOfGroup_74 (by decide) ?_
  exact k1
theorem dX8_agreeing_0 : decode cX8_agreeing 0 = .ok (.iconst 1, 1) := by decide +kernel
theorem dX8_agreeing_1 : decode cX8_agreeing 1 = .ok (.aload_n 0, 1) := by decide +kernel
theorem dX8_agreeing_2 : decode cX8_agreeing 2 = .ok (.getfield 19, 3) := by decide +kernel
theorem dX8_agreeing_5 : decode cX8_agreeing 5 = .ok (.getfield 234, 3) := by decide +kernel
theorem dX8_agreeing_8 : decode cX8_agreeing 8 = .ok (.ishl, 1) := by decide +kernel
theorem dX8_agreeing_9 : decode cX8_agreeing 9 = .ok (.iconst 1, 1) := by decide +kernel
theorem dX8_agreeing_10 : decode cX8_agreeing 10 = .ok (.isub, 1) := by decide +kernel
theorem dX8_agreeing_11 : decode cX8_agreeing 11 = .ok (.istore_n 1, 1) := by decide +kernel
theorem dX8_agreeing_12 : decode cX8_agreeing 12 = .ok (.iconst 0, 1) := by decide +kernel
theorem dX8_agreeing_13 : decode cX8_agreeing 13 = .ok (.istore_n 2, 1) := by decide +kernel
theorem dX8_agreeing_14 : decode cX8_agreeing 14 = .ok (.iload_n 2, 1) := by decide +kernel
theorem dX8_agreeing_15 : decode cX8_agreeing 15 = .ok (.aload_n 0, 1) := by decide +kernel
theorem dX8_agreeing_16 : decode cX8_agreeing 16 = .ok (.getfield 106, 3) := by decide +kernel
theorem dX8_agreeing_19 : decode cX8_agreeing 19 = .ok (.if_icmp .ge 76, 3) := by decide +kernel
theorem dX8_agreeing_22 : decode cX8_agreeing 22 = .ok (.aload_n 0, 1) := by decide +kernel
theorem dX8_agreeing_23 : decode cX8_agreeing 23 = .ok (.aload_n 0, 1) := by decide +kernel
theorem dX8_agreeing_24 : decode cX8_agreeing 24 = .ok (.getfield 57, 3) := by decide +kernel
theorem dX8_agreeing_27 : decode cX8_agreeing 27 = .ok (.iload_n 2, 1) := by decide +kernel
theorem dX8_agreeing_28 : decode cX8_agreeing 28 = .ok (.iaload, 1) := by decide +kernel
theorem dX8_agreeing_29 : decode cX8_agreeing 29 = .ok (.invokevirtual 200, 3) := by decide +kernel
theorem dX8_agreeing_32 : decode cX8_agreeing 32 = .ok (.ifCond .ne 5, 3) := by decide +kernel
theorem dX8_agreeing_35 : decode cX8_agreeing 35 = .ok (.iconst 0, 1) := by decide +kernel
theorem dX8_agreeing_36 : decode cX8_agreeing 36 = .ok (.ireturn, 1) := by decide +kernel
theorem dX8_agreeing_37 : decode cX8_agreeing 37 = .ok (.aload_n 0, 1) := by decide +kernel
theorem dX8_agreeing_38 : decode cX8_agreeing 38 = .ok (.aload_n 0, 1) := by decide +kernel
theorem dX8_agreeing_39 : decode cX8_agreeing 39 = .ok (.getfield 57, 3) := by decide +kernel
theorem dX8_agreeing_42 : decode cX8_agreeing 42 = .ok (.iload_n 2, 1) := by decide +kernel
theorem dX8_agreeing_43 : decode cX8_agreeing 43 = .ok (.iaload, 1) := by decide +kernel
theorem dX8_agreeing_44 : decode cX8_agreeing 44 = .ok (.invokevirtual 203, 3) := by decide +kernel
theorem dX8_agreeing_47 : decode cX8_agreeing 47 = .ok (.iconst 0, 1) := by decide +kernel
theorem dX8_agreeing_48 : decode cX8_agreeing 48 = .ok (.istore_n 3, 1) := by decide +kernel
theorem dX8_agreeing_49 : decode cX8_agreeing 49 = .ok (.iload_n 3, 1) := by decide +kernel
theorem dX8_agreeing_50 : decode cX8_agreeing 50 = .ok (.aload_n 0, 1) := by decide +kernel
theorem dX8_agreeing_51 : decode cX8_agreeing 51 = .ok (.getfield 19, 3) := by decide +kernel
theorem dX8_agreeing_54 : decode cX8_agreeing 54 = .ok (.getfield 234, 3) := by decide +kernel
theorem dX8_agreeing_57 : decode cX8_agreeing 57 = .ok (.if_icmp .ge 32, 3) := by decide +kernel
theorem dX8_agreeing_60 : decode cX8_agreeing 60 = .ok (.aload_n 0, 1) := by decide +kernel
theorem dX8_agreeing_61 : decode cX8_agreeing 61 = .ok (.getfield 80, 3) := by decide +kernel
theorem dX8_agreeing_64 : decode cX8_agreeing 64 = .ok (.iload_n 3, 1) := by decide +kernel
theorem dX8_agreeing_65 : decode cX8_agreeing 65 = .ok (.iaload, 1) := by decide +kernel
theorem dX8_agreeing_66 : decode cX8_agreeing 66 = .ok (.aload_n 0, 1) := by decide +kernel
theorem dX8_agreeing_67 : decode cX8_agreeing 67 = .ok (.getfield 61, 3) := by decide +kernel
theorem dX8_agreeing_70 : decode cX8_agreeing 70 = .ok (.iload_n 2, 1) := by decide +kernel
theorem dX8_agreeing_71 : decode cX8_agreeing 71 = .ok (.iaload, 1) := by decide +kernel
theorem dX8_agreeing_72 : decode cX8_agreeing 72 = .ok (.if_icmp .eq 11, 3) := by decide +kernel
theorem dX8_agreeing_75 : decode cX8_agreeing 75 = .ok (.iload_n 1, 1) := by decide +kernel
theorem dX8_agreeing_76 : decode cX8_agreeing 76 = .ok (.iconst 1, 1) := by decide +kernel
theorem dX8_agreeing_77 : decode cX8_agreeing 77 = .ok (.iload_n 3, 1) := by decide +kernel
theorem dX8_agreeing_78 : decode cX8_agreeing 78 = .ok (.ishl, 1) := by decide +kernel
theorem dX8_agreeing_79 : decode cX8_agreeing 79 = .ok (.iconst (-1), 1) := by decide +kernel
theorem dX8_agreeing_80 : decode cX8_agreeing 80 = .ok (.ixor, 1) := by decide +kernel
theorem dX8_agreeing_81 : decode cX8_agreeing 81 = .ok (.iand, 1) := by decide +kernel
theorem dX8_agreeing_82 : decode cX8_agreeing 82 = .ok (.istore_n 1, 1) := by decide +kernel
theorem dX8_agreeing_83 : decode cX8_agreeing 83 = .ok (.iinc 3 1, 3) := by decide +kernel
theorem dX8_agreeing_86 : decode cX8_agreeing 86 = .ok (.goto (-37), 3) := by decide +kernel
theorem dX8_agreeing_89 : decode cX8_agreeing 89 = .ok (.iinc 2 1, 3) := by decide +kernel
theorem dX8_agreeing_92 : decode cX8_agreeing 92 = .ok (.goto (-78), 3) := by decide +kernel
theorem dX8_agreeing_95 : decode cX8_agreeing 95 = .ok (.iload_n 1, 1) := by decide +kernel
theorem dX8_agreeing_96 : decode cX8_agreeing 96 = .ok (.ireturn, 1) := by decide +kernel
theorem bX8_agreeing_0 {d : Nat} {Q : Option jA → jH → Prop} (a0 : Nat) (u1 : Option jA) (u2 : Option jA) (u3 : Option jA) (h : jH)
    (s1 : (jS h a0).1 = 8)
    (s2 : (jS h (jP h a0 1)).1 = 2)
    (r1 : jR ((jshl 1 (jI h (jP h a0 1) 0)) - 1))
    (k1 : V MX8_agreeing (d + 4) 14 [some (.inr a0), some (.inl ((jshl 1 (jI h (jP h a0 1) 0)) - 1)), some (.inl 0), u3] [] h 0 0 Q) :
    V MX8_agreeing (d + 4) 0 [some (.inr a0), u1, u2, u3] [] h 0 0 Q := by
  refine V_iconst dX8_agreeing_0 ⟨by decide, by decide⟩ ?_
  refine V_aload_n (i := 0) dX8_agreeing_1 rfl rfl ?_
  refine V_getP dX8_agreeing_2 fX8_19 rfl s1 ?_
  refine V_getI dX8_agreeing_5 fX8_234 rfl s2 ?_
  refine V_ishl dX8_agreeing_8 ?_
  refine V_iconst dX8_agreeing_9 ⟨by decide, by decide⟩ ?_
  refine V_isub dX8_agreeing_10 r1 ?_
  refine V_istore_n (i := 1) dX8_agreeing_11 rfl (by decide) ?_
  refine V_iconst dX8_agreeing_12 ⟨by decide, by decide⟩ ?_
  refine V_istore_n (i := 2) dX8_agreeing_13 rfl (by decide) ?_
  exact k1
theorem bX8_agreeing_14 {d : Nat} {Q : Option jA → jH → Prop} (a0 : Nat) (i1 : Int) (i2 : Int) (u3 : Option jA) (h : jH)
    (s1 : (jS h a0).1 = 8)
    (q1 : ((jI h a0 10) ≤ i2) → Q (some (.inl i1)) h)
    (s2 : (jS h (jP h a0 8)).1 = 16)
    (s3 : (¬ ((jI h a0 10) ≤ i2)) → 0 ≤ i2)
    (s4 : (¬ ((jI h a0 10) ≤ i2)) → i2 < ((jS h (jP h a0 8)).2 : Int))
    (s5 : (jS h (jP h a0 4)).1 = 6)
    (e1 : (¬ ((jI h a0 10) ≤ i2)) → (0 ≤ (jX h (jP h a0 8) ((i2).toNat)) ∧ (jX h (jP h a0 8) ((i2).toNat)) ≤ (jI h (jP h a0 4) 0)) → Ex MX8_fillRow (d + 3) [.inr a0, .inl (jX h (jP h a0 8) ((i2).toNat))] h 0 0 (fun v h2 => V MX8_agreeing (d + 4) 47 [some (.inr a0), some (.inl i1), some (.inl i2), u3] (v.toList ++ []) h2 0 0 Q))
    (q2 : (¬ ((jI h a0 10) ≤ i2)) → (¬ (0 ≤ (jX h (jP h a0 8) ((i2).toNat)) ∧ (jX h (jP h a0 8) ((i2).toNat)) ≤ (jI h (jP h a0 4) 0))) → Q (some (.inl 0)) h) :
    V MX8_agreeing (d + 4) 14 [some (.inr a0), some (.inl i1), some (.inl i2), u3] [] h 0 0 Q := by
  refine V_iload_n (i := 2) dX8_agreeing_14 rfl rfl ?_
  refine V_aload_n (i := 0) dX8_agreeing_15 rfl rfl ?_
  refine V_getI dX8_agreeing_16 fX8_106 rfl s1 ?_
  refine V_icmp_ge (tgt := 95) dX8_agreeing_19 (by decide) (fun c1 => ?_) (fun c1 => ?_)
  · refine V_iload_n (i := 1) dX8_agreeing_95 rfl rfl ?_
    exact V_reti rfl dX8_agreeing_96 (q1 c1)
  · refine V_aload_n (i := 0) dX8_agreeing_22 rfl rfl ?_
    refine V_aload_n (i := 0) dX8_agreeing_23 rfl rfl ?_
    refine V_getP dX8_agreeing_24 fX8_57 rfl s1 ?_
    refine V_iload_n (i := 2) dX8_agreeing_27 rfl rfl ?_
    refine V_iald dX8_agreeing_28 s2 (s3 c1) (s4 c1) ?_
    refine V_callV (M := MX8_agreeing) (d := (d + 4)) (mc' := 0) (ms' := 0) (mc := 0) (ms := 0) (As := [.inl (jX h (jP h a0 8) ((i2).toNat))]) (rest := []) dX8_agreeing_29 tX8_isPast vX8_isPast lX8_200 s1 ⟨by decide, rfl⟩ rfl rfl (Nat.le_of_ble_eq_true rfl) (show d + 1 ≤ (d + 4) by omega) (Ex.mono (pX8_isPast (d := d) s1 s5) ?_)
    intro v h2 hq
    rw [hq.1, hq.2]
    show V MX8_agreeing (d + 4) 32 [some (.inr a0), some (.inl i1), some (.inl i2), u3] [.inl (jb (0 ≤ (jX h (jP h a0 8) ((i2).toNat)) ∧ (jX h (jP h a0 8) ((i2).toNat)) ≤ (jI h (jP h a0 4) 0)))] h 0 0 Q
    refine V_ifb_ne (tgt := 37) dX8_agreeing_32 (by decide) (fun c2 => ?_) (fun c2 => ?_)
    · refine V_aload_n (i := 0) dX8_agreeing_37 rfl rfl ?_
      refine V_aload_n (i := 0) dX8_agreeing_38 rfl rfl ?_
      refine V_getP dX8_agreeing_39 fX8_57 rfl s1 ?_
      refine V_iload_n (i := 2) dX8_agreeing_42 rfl rfl ?_
      refine V_iald dX8_agreeing_43 s2 (s3 c1) (s4 c1) ?_
      exact V_callV (M := MX8_agreeing) (d := (d + 4)) (mc' := 0) (ms' := 0) (mc := 0) (ms := 0) (As := [.inl (jX h (jP h a0 8) ((i2).toNat))]) (rest := []) dX8_agreeing_44 tX8_fillRow vX8_fillRow lX8_203 s1 ⟨by decide, rfl⟩ rfl rfl (Nat.le_of_ble_eq_true rfl) (show (d + 3) + 1 ≤ (d + 4) by omega) (e1 c1 c2)
    · refine V_iconst dX8_agreeing_35 ⟨by decide, by decide⟩ ?_
      exact V_reti rfl dX8_agreeing_36 (q2 c1 c2)
theorem bX8_agreeing_49 {d : Nat} {Q : Option jA → jH → Prop} (a0 : Nat) (i1 : Int) (i2 : Int) (i3 : Int) (h : jH)
    (s1 : (jS h a0).1 = 8)
    (s2 : (jS h (jP h a0 1)).1 = 2)
    (r1 : ((jI h (jP h a0 1) 0) ≤ i3) → jR (i2 + 1))
    (k1 : ((jI h (jP h a0 1) 0) ≤ i3) → V MX8_agreeing (d + 4) 14 [some (.inr a0), some (.inl i1), some (.inl (i2 + 1)), some (.inl i3)] [] h 0 0 Q)
    (s3 : (jS h (jP h a0 13)).1 = 16)
    (s4 : (¬ ((jI h (jP h a0 1) 0) ≤ i3)) → 0 ≤ i3)
    (s5 : (¬ ((jI h (jP h a0 1) 0) ≤ i3)) → i3 < ((jS h (jP h a0 13)).2 : Int))
    (s6 : (jS h (jP h a0 9)).1 = 16)
    (s7 : (¬ ((jI h (jP h a0 1) 0) ≤ i3)) → 0 ≤ i2)
    (s8 : (¬ ((jI h (jP h a0 1) 0) ≤ i3)) → i2 < ((jS h (jP h a0 9)).2 : Int))
    (r2 : (¬ ((jI h (jP h a0 1) 0) ≤ i3)) → ((jX h (jP h a0 13) ((i3).toNat)) = (jX h (jP h a0 9) ((i2).toNat))) → jR (i3 + 1))
    (k2 : (¬ ((jI h (jP h a0 1) 0) ≤ i3)) → ((jX h (jP h a0 13) ((i3).toNat)) = (jX h (jP h a0 9) ((i2).toNat))) → V MX8_agreeing (d + 4) 49 [some (.inr a0), some (.inl i1), some (.inl i2), some (.inl (i3 + 1))] [] h 0 0 Q)
    (r3 : (¬ ((jI h (jP h a0 1) 0) ≤ i3)) → (¬ ((jX h (jP h a0 13) ((i3).toNat)) = (jX h (jP h a0 9) ((i2).toNat)))) → jR (i3 + 1))
    (k3 : (¬ ((jI h (jP h a0 1) 0) ≤ i3)) → (¬ ((jX h (jP h a0 13) ((i3).toNat)) = (jX h (jP h a0 9) ((i2).toNat)))) → V MX8_agreeing (d + 4) 49 [some (.inr a0), some (.inl (jand i1 (jxor (jshl 1 i3) ((-1))))), some (.inl i2), some (.inl (i3 + 1))] [] h 0 0 Q) :
    V MX8_agreeing (d + 4) 49 [some (.inr a0), some (.inl i1), some (.inl i2), some (.inl i3)] [] h 0 0 Q := by
  refine V_iload_n (i := 3) dX8_agreeing_49 rfl rfl ?_
  refine V_aload_n (i := 0) dX8_agreeing_50 rfl rfl ?_
  refine V_getP dX8_agreeing_51 fX8_19 rfl s1 ?_
  refine V_getI dX8_agreeing_54 fX8_234 rfl s2 ?_
  refine V_icmp_ge (tgt := 89) dX8_agreeing_57 (by decide) (fun c1 => ?_) (fun c1 => ?_)
  · refine V_iinc (i := 2) dX8_agreeing_89 rfl (by decide) (r1 c1) ?_
    refine V_goto (tgt := 14) dX8_agreeing_92 (by decide) ?_
    exact (k1 c1)
  · refine V_aload_n (i := 0) dX8_agreeing_60 rfl rfl ?_
    refine V_getP dX8_agreeing_61 fX8_80 rfl s1 ?_
    refine V_iload_n (i := 3) dX8_agreeing_64 rfl rfl ?_
    refine V_iald dX8_agreeing_65 s3 (s4 c1) (s5 c1) ?_
    refine V_aload_n (i := 0) dX8_agreeing_66 rfl rfl ?_
    refine V_getP dX8_agreeing_67 fX8_61 rfl s1 ?_
    refine V_iload_n (i := 2) dX8_agreeing_70 rfl rfl ?_
    refine V_iald dX8_agreeing_71 s6 (s7 c1) (s8 c1) ?_
    refine V_icmp_eq (tgt := 83) dX8_agreeing_72 (by decide) (fun c2 => ?_) (fun c2 => ?_)
    · refine V_iinc (i := 3) dX8_agreeing_83 rfl (by decide) (r2 c1 c2) ?_
      refine V_goto (tgt := 49) dX8_agreeing_86 (by decide) ?_
      exact (k2 c1 c2)
    · refine V_iload_n (i := 1) dX8_agreeing_75 rfl rfl ?_
      refine V_iconst dX8_agreeing_76 ⟨by decide, by decide⟩ ?_
      refine V_iload_n (i := 3) dX8_agreeing_77 rfl rfl ?_
      refine V_ishl dX8_agreeing_78 ?_
      refine V_iconst dX8_agreeing_79 ⟨by decide, by decide⟩ ?_
      refine V_ixor dX8_agreeing_80 ?_
      refine V_iand dX8_agreeing_81 ?_
      refine V_istore_n (i := 1) dX8_agreeing_82 rfl (by decide) ?_
      refine V_iinc (i := 3) dX8_agreeing_83 rfl (by decide) (r3 c1 c2) ?_
      refine V_goto (tgt := 49) dX8_agreeing_86 (by decide) ?_
      exact (k3 c1 c2)
theorem bX8_agreeing_47 {d : Nat} {Q : Option jA → jH → Prop} (a0 : Nat) (i1 : Int) (i2 : Int) (u3 : Option jA) (h : jH)
    (k1 : V MX8_agreeing (d + 4) 49 [some (.inr a0), some (.inl i1), some (.inl i2), some (.inl 0)] [] h 0 0 Q) :
    V MX8_agreeing (d + 4) 47 [some (.inr a0), some (.inl i1), some (.inl i2), u3] [] h 0 0 Q := by
  refine V_iconst dX8_agreeing_47 ⟨by decide, by decide⟩ ?_
  refine V_istore_n (i := 3) dX8_agreeing_48 rfl (by decide) ?_
  exact k1
