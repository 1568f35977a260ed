/-! ===== SignalWavesModel 2: decode rows and trees ===== -/
theorem dX9_readsItem_0 : decode cX9_readsItem 0 = .ok (.aload_n 0, 1) := by decide +kernel
theorem dX9_readsItem_1 : decode cX9_readsItem 1 = .ok (.bipush 91, 2) := by decide +kernel
theorem dX9_readsItem_3 : decode cX9_readsItem 3 = .ok (.invokevirtual 154, 3) := by decide +kernel
theorem dX9_readsItem_6 : decode cX9_readsItem 6 = .ok (.ifCond .eq 10, 3) := by decide +kernel
theorem dX9_readsItem_9 : decode cX9_readsItem 9 = .ok (.aload_n 0, 1) := by decide +kernel
theorem dX9_readsItem_10 : decode cX9_readsItem 10 = .ok (.invokevirtual 197, 3) := by decide +kernel
theorem dX9_readsItem_13 : decode cX9_readsItem 13 = .ok (.goto 39, 3) := by decide +kernel
theorem dX9_readsItem_16 : decode cX9_readsItem 16 = .ok (.aload_n 0, 1) := by decide +kernel
theorem dX9_readsItem_17 : decode cX9_readsItem 17 = .ok (.bipush 93, 2) := by decide +kernel
theorem dX9_readsItem_19 : decode cX9_readsItem 19 = .ok (.invokevirtual 154, 3) := by decide +kernel
theorem dX9_readsItem_22 : decode cX9_readsItem 22 = .ok (.ifCond .eq 10, 3) := by decide +kernel
theorem dX9_readsItem_25 : decode cX9_readsItem 25 = .ok (.aload_n 0, 1) := by decide +kernel
theorem dX9_readsItem_26 : decode cX9_readsItem 26 = .ok (.invokevirtual 200, 3) := by decide +kernel
theorem dX9_readsItem_29 : decode cX9_readsItem 29 = .ok (.goto 23, 3) := by decide +kernel
theorem dX9_readsItem_32 : decode cX9_readsItem 32 = .ok (.aload_n 0, 1) := by decide +kernel
theorem dX9_readsItem_33 : decode cX9_readsItem 33 = .ok (.getfield 109, 3) := by decide +kernel
theorem dX9_readsItem_36 : decode cX9_readsItem 36 = .ok (.iconst 1, 1) := by decide +kernel
theorem dX9_readsItem_37 : decode cX9_readsItem 37 = .ok (.if_icmp .ne 10, 3) := by decide +kernel
theorem dX9_readsItem_40 : decode cX9_readsItem 40 = .ok (.aload_n 0, 1) := by decide +kernel
theorem dX9_readsItem_41 : decode cX9_readsItem 41 = .ok (.invokevirtual 203, 3) := by decide +kernel
theorem dX9_readsItem_44 : decode cX9_readsItem 44 = .ok (.goto 8, 3) := by decide +kernel
theorem dX9_readsItem_47 : decode cX9_readsItem 47 = .ok (.aload_n 0, 1) := by decide +kernel
theorem dX9_readsItem_48 : decode cX9_readsItem 48 = .ok (.iconst 0, 1) := by decide +kernel
theorem dX9_readsItem_49 : decode cX9_readsItem 49 = .ok (.invokevirtual 125, 3) := by decide +kernel
theorem dX9_readsItem_52 : decode cX9_readsItem 52 = .ok (.aload_n 0, 1) := by decide +kernel
theorem dX9_readsItem_53 : decode cX9_readsItem 53 = .ok (.aload_n 0, 1) := by decide +kernel
theorem dX9_readsItem_54 : decode cX9_readsItem 54 = .ok (.bipush 59, 2) := by decide +kernel
theorem dX9_readsItem_56 : decode cX9_readsItem 56 = .ok (.invokevirtual 154, 3) := by decide +kernel
theorem dX9_readsItem_59 : decode cX9_readsItem 59 = .ok (.invokevirtual 141, 3) := by decide +kernel
theorem dX9_readsItem_62 : decode cX9_readsItem 62 = .ok (.return_, 1) := by decide +kernel
theorem bX9_readsItem_0 {d : Nat} {Q : Option jA → jH → Prop} (a0 : Nat) (h : jH)
    (s1 : (jS h a0).1 = 9)
    (e1 : (¬ ((jI h a0 18) = 3 ∧ (jI h a0 19) = 91)) → (¬ ((jI h a0 18) = 3 ∧ (jI h a0 19) = 93)) → ((jI h a0 18) ≠ 1) → Ex MX9_due d [.inr a0, .inl 0] h 0 0 (fun v h2 => V MX9_readsItem (d + 8) 52 [some (.inr a0)] (v.toList ++ []) h2 0 0 Q))
    (e2 : (¬ ((jI h a0 18) = 3 ∧ (jI h a0 19) = 91)) → (¬ ((jI h a0 18) = 3 ∧ (jI h a0 19) = 93)) → ((jI h a0 18) = 1) → Ex MX9_readsNode (d + 7) [.inr a0] h 0 0 (fun v h2 => V MX9_readsItem (d + 8) 44 [some (.inr a0)] (v.toList ++ []) h2 0 0 Q))
    (e3 : (¬ ((jI h a0 18) = 3 ∧ (jI h a0 19) = 91)) → ((jI h a0 18) = 3 ∧ (jI h a0 19) = 93) → Ex MX9_closes (d + 3) [.inr a0] h 0 0 (fun v h2 => V MX9_readsItem (d + 8) 29 [some (.inr a0)] (v.toList ++ []) h2 0 0 Q))
    (e4 : ((jI h a0 18) = 3 ∧ (jI h a0 19) = 91) → Ex MX9_opens (d + 4) [.inr a0] h 0 0 (fun v h2 => V MX9_readsItem (d + 8) 13 [some (.inr a0)] (v.toList ++ []) h2 0 0 Q)) :
    V MX9_readsItem (d + 8) 0 [some (.inr a0)] [] h 0 0 Q := by
  refine V_aload_n (i := 0) dX9_readsItem_0 rfl rfl ?_
  refine V_bipush dX9_readsItem_1 (by decide +kernel) ⟨by decide, by decide⟩ ?_
  refine V_callV (M := MX9_readsItem) (d := (d + 8)) (mc' := 0) (ms' := 0) (mc := 0) (ms := 0) (As := [.inl 91]) (rest := []) dX9_readsItem_3 tX9_is vX9_is lX9_154 s1 ⟨by decide, rfl⟩ rfl rfl (Nat.le_of_ble_eq_true rfl) (show d + 1 ≤ (d + 8) by omega) (Ex.mono (pX9_is (d := d) s1) ?_)
  intro v h2 hq
  rw [hq.1, hq.2]
  show V MX9_readsItem (d + 8) 6 [some (.inr a0)] [.inl (jb ((jI h a0 18) = 3 ∧ (jI h a0 19) = 91))] h 0 0 Q
  refine V_ifb_eq (tgt := 16) dX9_readsItem_6 (by decide) (fun c1 => ?_) (fun c1 => ?_)
  · refine V_aload_n (i := 0) dX9_readsItem_16 rfl rfl ?_
    refine V_bipush dX9_readsItem_17 (by decide +kernel) ⟨by decide, by decide⟩ ?_
    refine V_callV (M := MX9_readsItem) (d := (d + 8)) (mc' := 0) (ms' := 0) (mc := 0) (ms := 0) (As := [.inl 93]) (rest := []) dX9_readsItem_19 tX9_is vX9_is lX9_154 s1 ⟨by decide, rfl⟩ rfl rfl (Nat.le_of_ble_eq_true rfl) (show d + 1 ≤ (d + 8) by omega) (Ex.mono (pX9_is (d := d) s1) ?_)
    intro v h2 hq
    rw [hq.1, hq.2]
    show V MX9_readsItem (d + 8) 22 [some (.inr a0)] [.inl (jb ((jI h a0 18) = 3 ∧ (jI h a0 19) = 93))] h 0 0 Q
    refine V_ifb_eq (tgt := 32) dX9_readsItem_22 (by decide) (fun c2 => ?_) (fun c2 => ?_)
    · refine V_aload_n (i := 0) dX9_readsItem_32 rfl rfl ?_
      refine V_getI dX9_readsItem_33 fX9_109 rfl s1 ?_
      refine V_iconst dX9_readsItem_36 ⟨by decide, by decide⟩ ?_
      refine V_icmp_ne (tgt := 47) dX9_readsItem_37 (by decide) (fun c3 => ?_) (fun c3 => ?_)
      · refine V_aload_n (i := 0) dX9_readsItem_47 rfl rfl ?_
        refine V_iconst dX9_readsItem_48 ⟨by decide, by decide⟩ ?_
        exact V_callV (M := MX9_readsItem) (d := (d + 8)) (mc' := 0) (ms' := 0) (mc := 0) (ms := 0) (As := [.inl 0]) (rest := []) dX9_readsItem_49 tX9_due vX9_due lX9_125 s1 ⟨by decide, rfl⟩ rfl rfl (Nat.le_of_ble_eq_true rfl) (show d + 1 ≤ (d + 8) by omega) (e1 c1 c2 c3)
      · refine V_aload_n (i := 0) dX9_readsItem_40 rfl rfl ?_
        exact V_callV (M := MX9_readsItem) (d := (d + 8)) (mc' := 0) (ms' := 0) (mc := 0) (ms := 0) (As := []) (rest := []) dX9_readsItem_41 tX9_readsNode vX9_readsNode lX9_203 s1 ⟨by decide, rfl⟩ rfl rfl (Nat.le_of_ble_eq_true rfl) (show (d + 7) + 1 ≤ (d + 8) by omega) (e2 c1 c2 c3)
    · refine V_aload_n (i := 0) dX9_readsItem_25 rfl rfl ?_
      exact V_callV (M := MX9_readsItem) (d := (d + 8)) (mc' := 0) (ms' := 0) (mc := 0) (ms := 0) (As := []) (rest := []) dX9_readsItem_26 tX9_closes vX9_closes lX9_200 s1 ⟨by decide, rfl⟩ rfl rfl (Nat.le_of_ble_eq_true rfl) (show (d + 3) + 1 ≤ (d + 8) by omega) (e3 c1 c2)
  · refine V_aload_n (i := 0) dX9_readsItem_9 rfl rfl ?_
    exact V_callV (M := MX9_readsItem) (d := (d + 8)) (mc' := 0) (ms' := 0) (mc := 0) (ms := 0) (As := []) (rest := []) dX9_readsItem_10 tX9_opens vX9_opens lX9_197 s1 ⟨by decide, rfl⟩ rfl rfl (Nat.le_of_ble_eq_true rfl) (show (d + 4) + 1 ≤ (d + 8) by omega) (e4 c1)
theorem bX9_readsItem_52 {d : Nat} {Q : Option jA → jH → Prop} (a0 : Nat) (h : jH)
    (s1 : (jS h a0).1 = 9)
    (e1 : Ex MX9_passes (d + 3) [.inr a0, .inl (jb ((jI h a0 18) = 3 ∧ (jI h a0 19) = 59))] h 0 0 (fun v h2 => V MX9_readsItem (d + 8) 62 [some (.inr a0)] (v.toList ++ []) h2 0 0 Q)) :
    V MX9_readsItem (d + 8) 52 [some (.inr a0)] [] h 0 0 Q := by
  refine V_aload_n (i := 0) dX9_readsItem_52 rfl rfl ?_
  refine V_aload_n (i := 0) dX9_readsItem_53 rfl rfl ?_
  refine V_bipush dX9_readsItem_54 (by decide +kernel) ⟨by decide, by decide⟩ ?_
  refine V_callV (M := MX9_readsItem) (d := (d + 8)) (mc' := 0) (ms' := 0) (mc := 0) (ms := 0) (As := [.inl 59]) (rest := [.inr a0]) dX9_readsItem_56 tX9_is vX9_is lX9_154 s1 ⟨by decide, rfl⟩ rfl rfl (Nat.le_of_ble_eq_true rfl) (show d + 1 ≤ (d + 8) by omega) (Ex.mono (pX9_is (d := d) s1) ?_)
  intro v h2 hq
  rw [hq.1, hq.2]
  show V MX9_readsItem (d + 8) 59 [some (.inr a0)] [.inl (jb ((jI h a0 18) = 3 ∧ (jI h a0 19) = 59)), .inr a0] h 0 0 Q
  exact V_callV (M := MX9_readsItem) (d := (d + 8)) (mc' := 0) (ms' := 0) (mc := 0) (ms := 0) (As := [.inl (jb ((jI h a0 18) = 3 ∧ (jI h a0 19) = 59))]) (rest := []) dX9_readsItem_59 tX9_passes vX9_passes lX9_141 s1 ⟨by decide, rfl⟩ rfl rfl (Nat.le_of_ble_eq_true rfl) (show (d + 3) + 1 ≤ (d + 8) by omega) e1
theorem bX9_readsItem_44 {d : Nat} {Q : Option jA → jH → Prop} (a0 : Nat) (h : jH)
    (s1 : (jS h a0).1 = 9)
    (e1 : Ex MX9_passes (d + 3) [.inr a0, .inl (jb ((jI h a0 18) = 3 ∧ (jI h a0 19) = 59))] h 0 0 (fun v h2 => V MX9_readsItem (d + 8) 62 [some (.inr a0)] (v.toList ++ []) h2 0 0 Q)) :
    V MX9_readsItem (d + 8) 44 [some (.inr a0)] [] h 0 0 Q := by
  refine V_goto (tgt := 52) dX9_readsItem_44 (by decide) ?_
  refine V_aload_n (i := 0) dX9_readsItem_52 rfl rfl ?_
  refine V_aload_n (i := 0) dX9_readsItem_53 rfl rfl ?_
  refine V_bipush dX9_readsItem_54 (by decide +kernel) ⟨by decide, by decide⟩ ?_
  refine V_callV (M := MX9_readsItem) (d := (d + 8)) (mc' := 0) (ms' := 0) (mc := 0) (ms := 0) (As := [.inl 59]) (rest := [.inr a0]) dX9_readsItem_56 tX9_is vX9_is lX9_154 s1 ⟨by decide, rfl⟩ rfl rfl (Nat.le_of_ble_eq_true rfl) (show d + 1 ≤ (d + 8) by omega) (Ex.mono (pX9_is (d := d) s1) ?_)
  intro v h2 hq
  rw [hq.1, hq.2]
  show V MX9_readsItem (d + 8) 59 [some (.inr a0)] [.inl (jb ((jI h a0 18) = 3 ∧ (jI h a0 19) = 59)), .inr a0] h 0 0 Q
  exact V_callV (M := MX9_readsItem) (d := (d + 8)) (mc' := 0) (ms' := 0) (mc := 0) (ms := 0) (As := [.inl (jb ((jI h a0 18) = 3 ∧ (jI h a0 19) = 59))]) (rest := []) dX9_readsItem_59 tX9_passes vX9_passes lX9_141 s1 ⟨by decide, rfl⟩ rfl rfl (Nat.le_of_ble_eq_true rfl) (show (d + 3) + 1 ≤ (d + 8) by omega) e1
theorem bX9_readsItem_29 {d : Nat} {Q : Option jA → jH → Prop} (a0 : Nat) (h : jH)
    (s1 : (jS h a0).1 = 9)
    (e1 : Ex MX9_passes (d + 3) [.inr a0, .inl (jb ((jI h a0 18) = 3 ∧ (jI h a0 19) = 59))] h 0 0 (fun v h2 => V MX9_readsItem (d + 8) 62 [some (.inr a0)] (v.toList ++ []) h2 0 0 Q)) :
    V MX9_readsItem (d + 8) 29 [some (.inr a0)] [] h 0 0 Q := by
  refine V_goto (tgt := 52) dX9_readsItem_29 (by decide) ?_
  refine V_aload_n (i := 0) dX9_readsItem_52 rfl rfl ?_
  refine V_aload_n (i := 0) dX9_readsItem_53 rfl rfl ?_
  refine V_bipush dX9_readsItem_54 (by decide +kernel) ⟨by decide, by decide⟩ ?_
  refine V_callV (M := MX9_readsItem) (d := (d + 8)) (mc' := 0) (ms' := 0) (mc := 0) (ms := 0) (As := [.inl 59]) (rest := [.inr a0]) dX9_readsItem_56 tX9_is vX9_is lX9_154 s1 ⟨by decide, rfl⟩ rfl rfl (Nat.le_of_ble_eq_true rfl) (show d + 1 ≤ (d + 8) by omega) (Ex.mono (pX9_is (d := d) s1) ?_)
  intro v h2 hq
  rw [hq.1, hq.2]
  show V MX9_readsItem (d + 8) 59 [some (.inr a0)] [.inl (jb ((jI h a0 18) = 3 ∧ (jI h a0 19) = 59)), .inr a0] h 0 0 Q
  exact V_callV (M := MX9_readsItem) (d := (d + 8)) (mc' := 0) (ms' := 0) (mc := 0) (ms := 0) (As := [.inl (jb ((jI h a0 18) = 3 ∧ (jI h a0 19) = 59))]) (rest := []) dX9_readsItem_59 tX9_passes vX9_passes lX9_141 s1 ⟨by decide, rfl⟩ rfl rfl (Nat.le_of_ble_eq_true rfl) (show (d + 3) + 1 ≤ (d + 8) by omega) e1
theorem bX9_readsItem_13 {d : Nat} {Q : Option jA → jH → Prop} (a0 : Nat) (h : jH)
    (s1 : (jS h a0).1 = 9)
    (e1 : Ex MX9_passes (d + 3) [.inr a0, .inl (jb ((jI h a0 18) = 3 ∧ (jI h a0 19) = 59))] h 0 0 (fun v h2 => V MX9_readsItem (d + 8) 62 [some (.inr a0)] (v.toList ++ []) h2 0 0 Q)) :
    V MX9_readsItem (d + 8) 13 [some (.inr a0)] [] h 0 0 Q := by
  refine V_goto (tgt := 52) dX9_readsItem_13 (by decide) ?_
  refine V_aload_n (i := 0) dX9_readsItem_52 rfl rfl ?_
  refine V_aload_n (i := 0) dX9_readsItem_53 rfl rfl ?_
  refine V_bipush dX9_readsItem_54 (by decide +kernel) ⟨by decide, by decide⟩ ?_
  refine V_callV (M := MX9_readsItem) (d := (d + 8)) (mc' := 0) (ms' := 0) (mc := 0) (ms := 0) (As := [.inl 59]) (rest := [.inr a0]) dX9_readsItem_56 tX9_is vX9_is lX9_154 s1 ⟨by decide, rfl⟩ rfl rfl (Nat.le_of_ble_eq_true rfl) (show d + 1 ≤ (d + 8) by omega) (Ex.mono (pX9_is (d := d) s1) ?_)
  intro v h2 hq
  rw [hq.1, hq.2]
  show V MX9_readsItem (d + 8) 59 [some (.inr a0)] [.inl (jb ((jI h a0 18) = 3 ∧ (jI h a0 19) = 59)), .inr a0] h 0 0 Q
  exact V_callV (M := MX9_readsItem) (d := (d + 8)) (mc' := 0) (ms' := 0) (mc := 0) (ms := 0) (As := [.inl (jb ((jI h a0 18) = 3 ∧ (jI h a0 19) = 59))]) (rest := []) dX9_readsItem_59 tX9_passes vX9_passes lX9_141 s1 ⟨by decide, rfl⟩ rfl rfl (Nat.le_of_ble_eq_true rfl) (show (d + 3) + 1 ≤ (d + 8) by omega) e1
theorem bX9_readsItem_62 {d : Nat} {Q : Option jA → jH → Prop} (a0 : Nat) (h : jH)
    (q1 : Q none h) :
    V MX9_readsItem (d + 8) 62 [some (.inr a0)] [] h 0 0 Q := by
  exact V_ret (v := none) rfl rfl dX9_readsItem_62 trivial rfl q1
theorem dX9_tells_0 : decode cX9_tells 0 = .ok (.aload_n 0, 1) := by decide +kernel
theorem dX9_tells_1 : decode cX9_tells 1 = .ok (.iconst 0, 1) := by decide +kernel
theorem dX9_tells_2 : decode cX9_tells 2 = .ok (.putfield 103, 3) := by decide +kernel
theorem dX9_tells_5 : decode cX9_tells 5 = .ok (.aload_n 0, 1) := by decide +kernel
theorem dX9_tells_6 : decode cX9_tells 6 = .ok (.bipush (-9), 2) := by decide +kernel
theorem dX9_tells_8 : decode cX9_tells 8 = .ok (.putfield 122, 3) := by decide +kernel
theorem dX9_tells_11 : decode cX9_tells 11 = .ok (.aload_n 0, 1) := by decide +kernel
theorem dX9_tells_12 : decode cX9_tells 12 = .ok (.iconst 0, 1) := by decide +kernel
theorem dX9_tells_13 : decode cX9_tells 13 = .ok (.putfield 132, 3) := by decide +kernel
theorem dX9_tells_16 : decode cX9_tells 16 = .ok (.aload_n 0, 1) := by decide +kernel
theorem dX9_tells_17 : decode cX9_tells 17 = .ok (.iconst 0, 1) := by decide +kernel
theorem dX9_tells_18 : decode cX9_tells 18 = .ok (.putfield 191, 3) := by decide +kernel
theorem dX9_tells_21 : decode cX9_tells 21 = .ok (.aload_n 0, 1) := by decide +kernel
theorem dX9_tells_22 : decode cX9_tells 22 = .ok (.iconst 0, 1) := by decide +kernel
theorem dX9_tells_23 : decode cX9_tells 23 = .ok (.putfield 157, 3) := by decide +kernel
theorem dX9_tells_26 : decode cX9_tells 26 = .ok (.aload_n 0, 1) := by decide +kernel
theorem dX9_tells_27 : decode cX9_tells 27 = .ok (.iconst 0, 1) := by decide +kernel
theorem dX9_tells_28 : decode cX9_tells 28 = .ok (.putfield 135, 3) := by decide +kernel
theorem dX9_tells_31 : decode cX9_tells 31 = .ok (.aload_n 0, 1) := by decide +kernel
theorem dX9_tells_32 : decode cX9_tells 32 = .ok (.bipush (-9), 2) := by decide +kernel
theorem dX9_tells_34 : decode cX9_tells 34 = .ok (.putfield 144, 3) := by decide +kernel
theorem dX9_tells_37 : decode cX9_tells 37 = .ok (.aload_n 0, 1) := by decide +kernel
theorem dX9_tells_38 : decode cX9_tells 38 = .ok (.iconst 0, 1) := by decide +kernel
theorem dX9_tells_39 : decode cX9_tells 39 = .ok (.putfield 138, 3) := by decide +kernel
theorem dX9_tells_42 : decode cX9_tells 42 = .ok (.iconst 0, 1) := by decide +kernel
theorem dX9_tells_43 : decode cX9_tells 43 = .ok (.istore_n 1, 1) := by decide +kernel
theorem dX9_tells_44 : decode cX9_tells 44 = .ok (.aload_n 0, 1) := by decide +kernel
theorem dX9_tells_45 : decode cX9_tells 45 = .ok (.invokevirtual 129, 3) := by decide +kernel
theorem dX9_tells_48 : decode cX9_tells 48 = .ok (.aload_n 0, 1) := by decide +kernel
theorem dX9_tells_49 : decode cX9_tells 49 = .ok (.getfield 122, 3) := by decide +kernel
theorem dX9_tells_52 : decode cX9_tells 52 = .ok (.bipush (-9), 2) := by decide +kernel
theorem dX9_tells_54 : decode cX9_tells 54 = .ok (.if_icmp .ne 21, 3) := by decide +kernel
theorem dX9_tells_57 : decode cX9_tells 57 = .ok (.aload_n 0, 1) := by decide +kernel
theorem dX9_tells_58 : decode cX9_tells 58 = .ok (.getfield 109, 3) := by decide +kernel
theorem dX9_tells_61 : decode cX9_tells 61 = .ok (.iconst 4, 1) := by decide +kernel
theorem dX9_tells_62 : decode cX9_tells 62 = .ok (.if_icmp .eq 13, 3) := by decide +kernel
theorem dX9_tells_65 : decode cX9_tells 65 = .ok (.aload_n 0, 1) := by decide +kernel
theorem dX9_tells_66 : decode cX9_tells 66 = .ok (.invokevirtual 206, 3) := by decide +kernel
theorem dX9_tells_69 : decode cX9_tells 69 = .ok (.iinc 1 1, 3) := by decide +kernel
theorem dX9_tells_72 : decode cX9_tells 72 = .ok (.goto (-24), 3) := by decide +kernel
theorem dX9_tells_75 : decode cX9_tells 75 = .ok (.aload_n 0, 1) := by decide +kernel
theorem dX9_tells_76 : decode cX9_tells 76 = .ok (.getfield 122, 3) := by decide +kernel
theorem dX9_tells_79 : decode cX9_tells 79 = .ok (.bipush (-9), 2) := by decide +kernel
theorem dX9_tells_81 : decode cX9_tells 81 = .ok (.if_icmp .eq 11, 3) := by decide +kernel
theorem dX9_tells_84 : decode cX9_tells 84 = .ok (.bipush (-10), 2) := by decide +kernel
theorem dX9_tells_86 : decode cX9_tells 86 = .ok (.aload_n 0, 1) := by decide +kernel
theorem dX9_tells_87 : decode cX9_tells 87 = .ok (.getfield 122, 3) := by decide +kernel
theorem dX9_tells_90 : decode cX9_tells 90 = .ok (.isub, 1) := by decide +kernel
theorem dX9_tells_91 : decode cX9_tells 91 = .ok (.ireturn, 1) := by decide +kernel
theorem dX9_tells_92 : decode cX9_tells 92 = .ok (.aload_n 0, 1) := by decide +kernel
theorem dX9_tells_93 : decode cX9_tells 93 = .ok (.invokevirtual 209, 3) := by decide +kernel
theorem dX9_tells_96 : decode cX9_tells 96 = .ok (.aload_n 0, 1) := by decide +kernel
theorem dX9_tells_97 : decode cX9_tells 97 = .ok (.invokevirtual 92, 3) := by decide +kernel
theorem dX9_tells_100 : decode cX9_tells 100 = .ok (.aload_n 0, 1) := by decide +kernel
theorem dX9_tells_101 : decode cX9_tells 101 = .ok (.iconst 0, 1) := by decide +kernel
theorem dX9_tells_102 : decode cX9_tells 102 = .ok (.putfield 99, 3) := by decide +kernel
theorem dX9_tells_105 : decode cX9_tells 105 = .ok (.iload_n 1, 1) := by decide +kernel
theorem dX9_tells_106 : decode cX9_tells 106 = .ok (.ireturn, 1) := by decide +kernel
theorem bX9_tells_0 {d : Nat} {Q : Option jA → jH → Prop} (a0 : Nat) (u1 : Option jA) (h : jH)
    (s1 : (jS h a0).1 = 9)
    (e1 : Ex MX9_next (d + 2) [.inr a0] (jsI (jsI (jsI (jsI (jsI (jsI (jsI (jsI h a0 16 0) a0 20 ((-9))) a0 22 0) a0 23 0) a0 24 0) a0 27 0) a0 30 ((-9))) a0 31 0) 0 0 (fun v h2 => V MX9_tells (d + 9) 48 [some (.inr a0), some (.inl 0)] (v.toList ++ []) h2 0 0 Q)) :
    V MX9_tells (d + 9) 0 [some (.inr a0), u1] [] h 0 0 Q := by
  refine V_aload_n (i := 0) dX9_tells_0 rfl rfl ?_
  refine V_iconst dX9_tells_1 ⟨by decide, by decide⟩ ?_
  refine V_putI (ci := 9) (kf := 16) dX9_tells_2 fX9_103 rfl rfl s1 ?_
  refine V_aload_n (i := 0) dX9_tells_5 rfl rfl ?_
  refine V_bipush dX9_tells_6 (by decide +kernel) ⟨by decide, by decide⟩ ?_
  refine V_putI (ci := 9) (kf := 20) dX9_tells_8 fX9_122 rfl rfl s1 ?_
  refine V_aload_n (i := 0) dX9_tells_11 rfl rfl ?_
  refine V_iconst dX9_tells_12 ⟨by decide, by decide⟩ ?_
  refine V_putI (ci := 9) (kf := 22) dX9_tells_13 fX9_132 rfl rfl s1 ?_
  refine V_aload_n (i := 0) dX9_tells_16 rfl rfl ?_
  refine V_iconst dX9_tells_17 ⟨by decide, by decide⟩ ?_
  refine V_putI (ci := 9) (kf := 23) dX9_tells_18 fX9_191 rfl rfl s1 ?_
  refine V_aload_n (i := 0) dX9_tells_21 rfl rfl ?_
  refine V_iconst dX9_tells_22 ⟨by decide, by decide⟩ ?_
  refine V_putI (ci := 9) (kf := 24) dX9_tells_23 fX9_157 rfl rfl s1 ?_
  refine V_aload_n (i := 0) dX9_tells_26 rfl rfl ?_
  refine V_iconst dX9_tells_27 ⟨by decide, by decide⟩ ?_
  refine V_putI (ci := 9) (kf := 27) dX9_tells_28 fX9_135 rfl rfl s1 ?_
  refine V_aload_n (i := 0) dX9_tells_31 rfl rfl ?_
  refine V_bipush dX9_tells_32 (by decide +kernel) ⟨by decide, by decide⟩ ?_
  refine V_putI (ci := 9) (kf := 30) dX9_tells_34 fX9_144 rfl rfl s1 ?_
  refine V_aload_n (i := 0) dX9_tells_37 rfl rfl ?_
  refine V_iconst dX9_tells_38 ⟨by decide, by decide⟩ ?_
  refine V_putI (ci := 9) (kf := 31) dX9_tells_39 fX9_138 rfl rfl s1 ?_
  refine V_iconst dX9_tells_42 ⟨by decide, by decide⟩ ?_
  refine V_istore_n (i := 1) dX9_tells_43 rfl (by decide) ?_
  refine V_aload_n (i := 0) dX9_tells_44 rfl rfl ?_
  exact V_callV (M := MX9_tells) (d := (d + 9)) (mc' := 0) (ms' := 0) (mc := 0) (ms := 0) (As := []) (rest := []) dX9_tells_45 tX9_next vX9_next lX9_129 s1 ⟨by decide, rfl⟩ rfl rfl (Nat.le_of_ble_eq_true rfl) (show (d + 2) + 1 ≤ (d + 9) by omega) e1
theorem bX9_tells_48 {d : Nat} {Q : Option jA → jH → Prop} (a0 : Nat) (i1 : Int) (h : jH)
    (s1 : (jS h a0).1 = 9)
    (e1 : ((jI h a0 20) ≠ ((-9))) → ((jI h a0 20) = ((-9))) → Ex MX9_takesOver d [.inr a0] h 0 0 (fun v h2 => V MX9_tells (d + 9) 96 [some (.inr a0), some (.inl i1)] (v.toList ++ []) h2 0 0 Q))
    (r1 : ((jI h a0 20) ≠ ((-9))) → (¬ ((jI h a0 20) = ((-9)))) → jR (((-10)) - (jI h a0 20)))
    (q1 : ((jI h a0 20) ≠ ((-9))) → (¬ ((jI h a0 20) = ((-9)))) → Q (some (.inl (((-10)) - (jI h a0 20)))) h)
    (e2 : ((jI h a0 20) = ((-9))) → ((jI h a0 18) = 4) → ((jI h a0 20) = ((-9))) → Ex MX9_takesOver d [.inr a0] h 0 0 (fun v h2 => V MX9_tells (d + 9) 96 [some (.inr a0), some (.inl i1)] (v.toList ++ []) h2 0 0 Q))
    (r2 : ((jI h a0 20) = ((-9))) → ((jI h a0 18) = 4) → (¬ ((jI h a0 20) = ((-9)))) → jR (((-10)) - (jI h a0 20)))
    (q2 : ((jI h a0 20) = ((-9))) → ((jI h a0 18) = 4) → (¬ ((jI h a0 20) = ((-9)))) → Q (some (.inl (((-10)) - (jI h a0 20)))) h)
    (e3 : ((jI h a0 20) = ((-9))) → (¬ ((jI h a0 18) = 4)) → Ex MX9_readsItem (d + 8) [.inr a0] h 0 0 (fun v h2 => V MX9_tells (d + 9) 69 [some (.inr a0), some (.inl i1)] (v.toList ++ []) h2 0 0 Q)) :
    V MX9_tells (d + 9) 48 [some (.inr a0), some (.inl i1)] [] h 0 0 Q := by
  refine V_aload_n (i := 0) dX9_tells_48 rfl rfl ?_
  refine V_getI dX9_tells_49 fX9_122 rfl s1 ?_
  refine V_bipush dX9_tells_52 (by decide +kernel) ⟨by decide, by decide⟩ ?_
  refine V_icmp_ne (tgt := 75) dX9_tells_54 (by decide) (fun c1 => ?_) (fun c1 => ?_)
  · refine V_aload_n (i := 0) dX9_tells_75 rfl rfl ?_
    refine V_getI dX9_tells_76 fX9_122 rfl s1 ?_
    refine V_bipush dX9_tells_79 (by decide +kernel) ⟨by decide, by decide⟩ ?_
    refine V_icmp_eq (tgt := 92) dX9_tells_81 (by decide) (fun c2 => ?_) (fun c2 => ?_)
    · refine V_aload_n (i := 0) dX9_tells_92 rfl rfl ?_
      exact V_callV (M := MX9_tells) (d := (d + 9)) (mc' := 0) (ms' := 0) (mc := 0) (ms := 0) (As := []) (rest := []) dX9_tells_93 tX9_takesOver vX9_takesOver lX9_209 s1 ⟨by decide, rfl⟩ rfl rfl (Nat.le_of_ble_eq_true rfl) (show d + 1 ≤ (d + 9) by omega) (e1 c1 c2)
    · refine V_bipush dX9_tells_84 (by decide +kernel) ⟨by decide, by decide⟩ ?_
      refine V_aload_n (i := 0) dX9_tells_86 rfl rfl ?_
      refine V_getI dX9_tells_87 fX9_122 rfl s1 ?_
      refine V_isub dX9_tells_90 (r1 c1 c2) ?_
      exact V_reti rfl dX9_tells_91 (q1 c1 c2)
  · refine V_aload_n (i := 0) dX9_tells_57 rfl rfl ?_
    refine V_getI dX9_tells_58 fX9_109 rfl s1 ?_
    refine V_iconst dX9_tells_61 ⟨by decide, by decide⟩ ?_
    refine V_icmp_eq (tgt := 75) dX9_tells_62 (by decide) (fun c3 => ?_) (fun c3 => ?_)
    · refine V_aload_n (i := 0) dX9_tells_75 rfl rfl ?_
      refine V_getI dX9_tells_76 fX9_122 rfl s1 ?_
      refine V_bipush dX9_tells_79 (by decide +kernel) ⟨by decide, by decide⟩ ?_
      refine V_icmp_eq (tgt := 92) dX9_tells_81 (by decide) (fun c4 => ?_) (fun c4 => ?_)
      · refine V_aload_n (i := 0) dX9_tells_92 rfl rfl ?_
        exact V_callV (M := MX9_tells) (d := (d + 9)) (mc' := 0) (ms' := 0) (mc := 0) (ms := 0) (As := []) (rest := []) dX9_tells_93 tX9_takesOver vX9_takesOver lX9_209 s1 ⟨by decide, rfl⟩ rfl rfl (Nat.le_of_ble_eq_true rfl) (show d + 1 ≤ (d + 9) by omega) (e2 c1 c3 c4)
      · refine V_bipush dX9_tells_84 (by decide +kernel) ⟨by decide, by decide⟩ ?_
        refine V_aload_n (i := 0) dX9_tells_86 rfl rfl ?_
        refine V_getI dX9_tells_87 fX9_122 rfl s1 ?_
        refine V_isub dX9_tells_90 (r2 c1 c3 c4) ?_
        exact V_reti rfl dX9_tells_91 (q2 c1 c3 c4)
    · refine V_aload_n (i := 0) dX9_tells_65 rfl rfl ?_
      exact V_callV (M := MX9_tells) (d := (d + 9)) (mc' := 0) (ms' := 0) (mc := 0) (ms := 0) (As := []) (rest := []) dX9_tells_66 tX9_readsItem vX9_readsItem lX9_206 s1 ⟨by decide, rfl⟩ rfl rfl (Nat.le_of_ble_eq_true rfl) (show (d + 8) + 1 ≤ (d + 9) by omega) (e3 c1 c3)
theorem bX9_tells_96 {d : Nat} {Q : Option jA → jH → Prop} (a0 : Nat) (i1 : Int) (h : jH)
    (e1 : Ex MX9_begins (d + 2) [.inr a0] h 0 0 (fun v h2 => V MX9_tells (d + 9) 100 [some (.inr a0), some (.inl i1)] (v.toList ++ []) h2 0 0 Q))
    (s1 : (jS h a0).1 = 9) :
    V MX9_tells (d + 9) 96 [some (.inr a0), some (.inl i1)] [] h 0 0 Q := by
  refine V_aload_n (i := 0) dX9_tells_96 rfl rfl ?_
  exact V_callV (M := MX9_tells) (d := (d + 9)) (mc' := 0) (ms' := 0) (mc := 0) (ms := 0) (As := []) (rest := []) dX9_tells_97 tX9_begins vX9_begins lX9_92 s1 ⟨by decide, rfl⟩ rfl rfl (Nat.le_of_ble_eq_true rfl) (show (d + 2) + 1 ≤ (d + 9) by omega) e1
theorem bX9_tells_69 {d : Nat} {Q : Option jA → jH → Prop} (a0 : Nat) (i1 : Int) (h : jH)
    (r1 : jR (i1 + 1))
    (k1 : V MX9_tells (d + 9) 48 [some (.inr a0), some (.inl (i1 + 1))] [] h 0 0 Q) :
    V MX9_tells (d + 9) 69 [some (.inr a0), some (.inl i1)] [] h 0 0 Q := by
  refine V_iinc (i := 1) dX9_tells_69 rfl (by decide) r1 ?_
  refine V_goto (tgt := 48) dX9_tells_72 (by decide) ?_
  exact k1
theorem bX9_tells_100 {d : Nat} {Q : Option jA → jH → Prop} (a0 : Nat) (i1 : Int) (h : jH)
    (s1 : (jS h a0).1 = 9)
    (q1 : Q (some (.inl i1)) (jsI h a0 15 0)) :
    V MX9_tells (d + 9) 100 [some (.inr a0), some (.inl i1)] [] h 0 0 Q := by
  refine V_aload_n (i := 0) dX9_tells_100 rfl rfl ?_
  refine V_iconst dX9_tells_101 ⟨by decide, by decide⟩ ?_
  refine V_putI (ci := 9) (kf := 15) dX9_tells_102 fX9_99 rfl rfl s1 ?_
  refine V_iload_n (i := 1) dX9_tells_105 rfl rfl ?_
  exact V_reti rfl dX9_tells_106 q1
theorem dX9_takesOver_0 : decode cX9_takesOver 0 = .ok (.aload_n 0, 1) := by decide +kernel
theorem dX9_takesOver_1 : decode cX9_takesOver 1 = .ok (.aload_n 0, 1) := by decide +kernel
theorem dX9_takesOver_2 : decode cX9_takesOver 2 = .ok (.getfield 132, 3) := by decide +kernel
theorem dX9_takesOver_5 : decode cX9_takesOver 5 = .ok (.putfield 212, 3) := by decide +kernel
theorem dX9_takesOver_8 : decode cX9_takesOver 8 = .ok (.aload_n 0, 1) := by decide +kernel
theorem dX9_takesOver_9 : decode cX9_takesOver 9 = .ok (.aload_n 0, 1) := by decide +kernel
theorem dX9_takesOver_10 : decode cX9_takesOver 10 = .ok (.getfield 191, 3) := by decide +kernel
theorem dX9_takesOver_13 : decode cX9_takesOver 13 = .ok (.putfield 215, 3) := by decide +kernel
theorem dX9_takesOver_16 : decode cX9_takesOver 16 = .ok (.aload_n 0, 1) := by decide +kernel
theorem dX9_takesOver_17 : decode cX9_takesOver 17 = .ok (.aload_n 0, 1) := by decide +kernel
theorem dX9_takesOver_18 : decode cX9_takesOver 18 = .ok (.getfield 157, 3) := by decide +kernel
theorem dX9_takesOver_21 : decode cX9_takesOver 21 = .ok (.putfield 218, 3) := by decide +kernel
theorem dX9_takesOver_24 : decode cX9_takesOver 24 = .ok (.aload_n 0, 1) := by decide +kernel
theorem dX9_takesOver_25 : decode cX9_takesOver 25 = .ok (.aload_n 0, 1) := by decide +kernel
theorem dX9_takesOver_26 : decode cX9_takesOver 26 = .ok (.getfield 135, 3) := by decide +kernel
theorem dX9_takesOver_29 : decode cX9_takesOver 29 = .ok (.putfield 221, 3) := by decide +kernel
theorem dX9_takesOver_32 : decode cX9_takesOver 32 = .ok (.iconst 0, 1) := by decide +kernel
theorem dX9_takesOver_33 : decode cX9_takesOver 33 = .ok (.istore_n 1, 1) := by decide +kernel
theorem dX9_takesOver_34 : decode cX9_takesOver 34 = .ok (.iload_n 1, 1) := by decide +kernel
theorem dX9_takesOver_35 : decode cX9_takesOver 35 = .ok (.bipush 72, 2) := by decide +kernel
theorem dX9_takesOver_37 : decode cX9_takesOver 37 = .ok (.if_icmp .ge 21, 3) := by decide +kernel
theorem dX9_takesOver_40 : decode cX9_takesOver 40 = .ok (.aload_n 0, 1) := by decide +kernel
theorem dX9_takesOver_41 : decode cX9_takesOver 41 = .ok (.getfield 7, 3) := by decide +kernel
theorem dX9_takesOver_44 : decode cX9_takesOver 44 = .ok (.iload_n 1, 1) := by decide +kernel
theorem dX9_takesOver_45 : decode cX9_takesOver 45 = .ok (.aload_n 0, 1) := by decide +kernel
theorem dX9_takesOver_46 : decode cX9_takesOver 46 = .ok (.getfield 41, 3) := by decide +kernel
theorem dX9_takesOver_49 : decode cX9_takesOver 49 = .ok (.iload_n 1, 1) := by decide +kernel
theorem dX9_takesOver_50 : decode cX9_takesOver 50 = .ok (.iaload, 1) := by decide +kernel
theorem dX9_takesOver_51 : decode cX9_takesOver 51 = .ok (.iastore, 1) := by decide +kernel
theorem dX9_takesOver_52 : decode cX9_takesOver 52 = .ok (.iinc 1 1, 3) := by decide +kernel
theorem dX9_takesOver_55 : decode cX9_takesOver 55 = .ok (.goto (-21), 3) := by decide +kernel
theorem dX9_takesOver_58 : decode cX9_takesOver 58 = .ok (.iconst 0, 1) := by decide +kernel
theorem dX9_takesOver_59 : decode cX9_takesOver 59 = .ok (.istore_n 1, 1) := by decide +kernel
theorem dX9_takesOver_60 : decode cX9_takesOver 60 = .ok (.iload_n 1, 1) := by decide +kernel
theorem dX9_takesOver_61 : decode cX9_takesOver 61 = .ok (.bipush 6, 2) := by decide +kernel
theorem dX9_takesOver_63 : decode cX9_takesOver 63 = .ok (.if_icmp .ge 33, 3) := by decide +kernel
theorem dX9_takesOver_66 : decode cX9_takesOver 66 = .ok (.aload_n 0, 1) := by decide +kernel
theorem dX9_takesOver_67 : decode cX9_takesOver 67 = .ok (.getfield 13, 3) := by decide +kernel
theorem dX9_takesOver_70 : decode cX9_takesOver 70 = .ok (.iload_n 1, 1) := by decide +kernel
theorem dX9_takesOver_71 : decode cX9_takesOver 71 = .ok (.aload_n 0, 1) := by decide +kernel
theorem dX9_takesOver_72 : decode cX9_takesOver 72 = .ok (.getfield 44, 3) := by decide +kernel
theorem dX9_takesOver_75 : decode cX9_takesOver 75 = .ok (.iload_n 1, 1) := by decide +kernel
theorem dX9_takesOver_76 : decode cX9_takesOver 76 = .ok (.iaload, 1) := by decide +kernel
theorem dX9_takesOver_77 : decode cX9_takesOver 77 = .ok (.iastore, 1) := by decide +kernel
theorem dX9_takesOver_78 : decode cX9_takesOver 78 = .ok (.aload_n 0, 1) := by decide +kernel
theorem dX9_takesOver_79 : decode cX9_takesOver 79 = .ok (.getfield 16, 3) := by decide +kernel
theorem dX9_takesOver_82 : decode cX9_takesOver 82 = .ok (.iload_n 1, 1) := by decide +kernel
theorem dX9_takesOver_83 : decode cX9_takesOver 83 = .ok (.aload_n 0, 1) := by decide +kernel
theorem dX9_takesOver_84 : decode cX9_takesOver 84 = .ok (.getfield 47, 3) := by decide +kernel
theorem dX9_takesOver_87 : decode cX9_takesOver 87 = .ok (.iload_n 1, 1) := by decide +kernel
theorem dX9_takesOver_88 : decode cX9_takesOver 88 = .ok (.iaload, 1) := by decide +kernel
theorem dX9_takesOver_89 : decode cX9_takesOver 89 = .ok (.iastore, 1) := by decide +kernel
theorem dX9_takesOver_90 : decode cX9_takesOver 90 = .ok (.iinc 1 1, 3) := by decide +kernel
theorem dX9_takesOver_93 : decode cX9_takesOver 93 = .ok (.goto (-33), 3) := by decide +kernel
theorem dX9_takesOver_96 : decode cX9_takesOver 96 = .ok (.iconst 0, 1) := by decide +kernel
theorem dX9_takesOver_97 : decode cX9_takesOver 97 = .ok (.istore_n 1, 1) := by decide +kernel
theorem dX9_takesOver_98 : decode cX9_takesOver 98 = .ok (.iload_n 1, 1) := by decide +kernel
theorem dX9_takesOver_99 : decode cX9_takesOver 99 = .ok (.sipush 160, 3) := by decide +kernel
theorem dX9_takesOver_102 : decode cX9_takesOver 102 = .ok (.if_icmp .ge 21, 3) := by decide +kernel
theorem dX9_takesOver_105 : decode cX9_takesOver 105 = .ok (.aload_n 0, 1) := by decide +kernel
theorem dX9_takesOver_106 : decode cX9_takesOver 106 = .ok (.getfield 19, 3) := by decide +kernel
theorem dX9_takesOver_109 : decode cX9_takesOver 109 = .ok (.iload_n 1, 1) := by decide +kernel
theorem dX9_takesOver_110 : decode cX9_takesOver 110 = .ok (.aload_n 0, 1) := by decide +kernel
theorem dX9_takesOver_111 : decode cX9_takesOver 111 = .ok (.getfield 50, 3) := by decide +kernel
theorem dX9_takesOver_114 : decode cX9_takesOver 114 = .ok (.iload_n 1, 1) := by decide +kernel
theorem dX9_takesOver_115 : decode cX9_takesOver 115 = .ok (.iaload, 1) := by decide +kernel
theorem dX9_takesOver_116 : decode cX9_takesOver 116 = .ok (.iastore, 1) := by decide +kernel
theorem dX9_takesOver_117 : decode cX9_takesOver 117 = .ok (.iinc 1 1, 3) := by decide +kernel
theorem dX9_takesOver_120 : decode cX9_takesOver 120 = .ok (.goto (-22), 3) := by decide +kernel
theorem dX9_takesOver_123 : decode cX9_takesOver 123 = .ok (.iconst 0, 1) := by decide +kernel
theorem dX9_takesOver_124 : decode cX9_takesOver 124 = .ok (.istore_n 1, 1) := by decide +kernel
theorem dX9_takesOver_125 : decode cX9_takesOver 125 = .ok (.iload_n 1, 1) := by decide +kernel
theorem dX9_takesOver_126 : decode cX9_takesOver 126 = .ok (.iconst 4, 1) := by decide +kernel
theorem dX9_takesOver_127 : decode cX9_takesOver 127 = .ok (.if_icmp .ge 21, 3) := by decide +kernel
theorem dX9_takesOver_130 : decode cX9_takesOver 130 = .ok (.aload_n 0, 1) := by decide +kernel
theorem dX9_takesOver_131 : decode cX9_takesOver 131 = .ok (.getfield 22, 3) := by decide +kernel
theorem dX9_takesOver_134 : decode cX9_takesOver 134 = .ok (.iload_n 1, 1) := by decide +kernel
theorem dX9_takesOver_135 : decode cX9_takesOver 135 = .ok (.aload_n 0, 1) := by decide +kernel
theorem dX9_takesOver_136 : decode cX9_takesOver 136 = .ok (.getfield 53, 3) := by decide +kernel
theorem dX9_takesOver_139 : decode cX9_takesOver 139 = .ok (.iload_n 1, 1) := by decide +kernel
theorem dX9_takesOver_140 : decode cX9_takesOver 140 = .ok (.iaload, 1) := by decide +kernel
theorem dX9_takesOver_141 : decode cX9_takesOver 141 = .ok (.iastore, 1) := by decide +kernel
theorem dX9_takesOver_142 : decode cX9_takesOver 142 = .ok (.iinc 1 1, 3) := by decide +kernel
theorem dX9_takesOver_145 : decode cX9_takesOver 145 = .ok (.goto (-20), 3) := by decide +kernel
theorem dX9_takesOver_148 : decode cX9_takesOver 148 = .ok (.return_, 1) := by decide +kernel
theorem bX9_takesOver_0 {d : Nat} {Q : Option jA → jH → Prop} (a0 : Nat) (u1 : Option jA) (h : jH)
    (s1 : (jS h a0).1 = 9)
    (k1 : V MX9_takesOver d 34 [some (.inr a0), some (.inl 0)] [] (jsI (jsI (jsI (jsI h a0 1 (jI h a0 22)) a0 2 (jI h a0 23)) a0 3 (jI h a0 24)) a0 6 (jI h a0 27)) 0 0 Q) :
    V MX9_takesOver d 0 [some (.inr a0), u1] [] h 0 0 Q := by
  refine V_aload_n (i := 0) dX9_takesOver_0 rfl rfl ?_
  refine V_aload_n (i := 0) dX9_takesOver_1 rfl rfl ?_
  refine V_getI dX9_takesOver_2 fX9_132 rfl s1 ?_
  refine V_putI (ci := 9) (kf := 1) dX9_takesOver_5 fX9_212 rfl rfl s1 ?_
  refine V_aload_n (i := 0) dX9_takesOver_8 rfl rfl ?_
  refine V_aload_n (i := 0) dX9_takesOver_9 rfl rfl ?_
  refine V_getI dX9_takesOver_10 fX9_191 rfl s1 ?_
  refine V_topI (jI_ne (by decide)) ?_
  refine V_putI (ci := 9) (kf := 2) dX9_takesOver_13 fX9_215 rfl rfl s1 ?_
  refine V_aload_n (i := 0) dX9_takesOver_16 rfl rfl ?_
  refine V_aload_n (i := 0) dX9_takesOver_17 rfl rfl ?_
  refine V_getI dX9_takesOver_18 fX9_157 rfl s1 ?_
  refine V_topI ((jI_ne (by decide)).trans (jI_ne (by decide))) ?_
  refine V_putI (ci := 9) (kf := 3) dX9_takesOver_21 fX9_218 rfl rfl s1 ?_
  refine V_aload_n (i := 0) dX9_takesOver_24 rfl rfl ?_
  refine V_aload_n (i := 0) dX9_takesOver_25 rfl rfl ?_
  refine V_getI dX9_takesOver_26 fX9_135 rfl s1 ?_
  refine V_topI ((jI_ne (by decide)).trans ((jI_ne (by decide)).trans (jI_ne (by decide)))) ?_
  refine V_putI (ci := 9) (kf := 6) dX9_takesOver_29 fX9_221 rfl rfl s1 ?_
  refine V_iconst dX9_takesOver_32 ⟨by decide, by decide⟩ ?_
  refine V_istore_n (i := 1) dX9_takesOver_33 rfl (by decide) ?_
  exact k1
theorem bX9_takesOver_34 {d : Nat} {Q : Option jA → jH → Prop} (a0 : Nat) (i1 : Int) (h : jH)
    (k1 : (72 ≤ i1) → V MX9_takesOver d 60 [some (.inr a0), some (.inl 0)] [] h 0 0 Q)
    (s1 : (jS h a0).1 = 9)
    (s2 : (jS h (jP h a0 21)).1 = 16)
    (s3 : (¬ (72 ≤ i1)) → 0 ≤ i1)
    (s4 : (¬ (72 ≤ i1)) → i1 < ((jS h (jP h a0 21)).2 : Int))
    (s5 : (jS h (jP h a0 0)).1 = 16)
    (s6 : (¬ (72 ≤ i1)) → i1 < ((jS h (jP h a0 0)).2 : Int))
    (r1 : (¬ (72 ≤ i1)) → jR (i1 + 1))
    (k2 : (¬ (72 ≤ i1)) → V MX9_takesOver d 34 [some (.inr a0), some (.inl (i1 + 1))] [] (jsX h (jP h a0 0) ((i1).toNat) (jX h (jP h a0 21) ((i1).toNat))) 0 0 Q) :
    V MX9_takesOver d 34 [some (.inr a0), some (.inl i1)] [] h 0 0 Q := by
  refine V_iload_n (i := 1) dX9_takesOver_34 rfl rfl ?_
  refine V_bipush dX9_takesOver_35 (by decide +kernel) ⟨by decide, by decide⟩ ?_
  refine V_icmp_ge (tgt := 58) dX9_takesOver_37 (by decide) (fun c1 => ?_) (fun c1 => ?_)
  · refine V_iconst dX9_takesOver_58 ⟨by decide, by decide⟩ ?_
    refine V_istore_n (i := 1) dX9_takesOver_59 rfl (by decide) ?_
    exact (k1 c1)
  · refine V_aload_n (i := 0) dX9_takesOver_40 rfl rfl ?_
    refine V_getP dX9_takesOver_41 fX9_7 rfl s1 ?_
    refine V_iload_n (i := 1) dX9_takesOver_44 rfl rfl ?_
    refine V_aload_n (i := 0) dX9_takesOver_45 rfl rfl ?_
    refine V_getP dX9_takesOver_46 fX9_41 rfl s1 ?_
    refine V_iload_n (i := 1) dX9_takesOver_49 rfl rfl ?_
    refine V_iald dX9_takesOver_50 s2 (s3 c1) (s4 c1) ?_
    refine V_iast dX9_takesOver_51 s5 (s3 c1) (s6 c1) ?_
    refine V_iinc (i := 1) dX9_takesOver_52 rfl (by decide) (r1 c1) ?_
    refine V_goto (tgt := 34) dX9_takesOver_55 (by decide) ?_
    exact (k2 c1)
theorem bX9_takesOver_60 {d : Nat} {Q : Option jA → jH → Prop} (a0 : Nat) (i1 : Int) (h : jH)
    (k1 : (6 ≤ i1) → V MX9_takesOver d 98 [some (.inr a0), some (.inl 0)] [] h 0 0 Q)
    (s1 : (jS h a0).1 = 9)
    (s2 : (jS h (jP h a0 25)).1 = 16)
    (s3 : (¬ (6 ≤ i1)) → 0 ≤ i1)
    (s4 : (¬ (6 ≤ i1)) → i1 < ((jS h (jP h a0 25)).2 : Int))
    (s5 : (jS h (jP h a0 4)).1 = 16)
    (s6 : (¬ (6 ≤ i1)) → i1 < ((jS h (jP h a0 4)).2 : Int))
    (s7 : (jS h (jP h a0 26)).1 = 16)
    (s8 : (¬ (6 ≤ i1)) → i1 < ((jS h (jP h a0 26)).2 : Int))
    (s9 : (jS h (jP h a0 5)).1 = 16)
    (s10 : (¬ (6 ≤ i1)) → i1 < ((jS h (jP h a0 5)).2 : Int))
    (r1 : (¬ (6 ≤ i1)) → jR (i1 + 1))
    (k2 : (¬ (6 ≤ i1)) → V MX9_takesOver d 60 [some (.inr a0), some (.inl (i1 + 1))] [] (jsX (jsX h (jP h a0 4) ((i1).toNat) (jX h (jP h a0 25) ((i1).toNat))) (jP h a0 5) ((i1).toNat) (jX (jsX h (jP h a0 4) ((i1).toNat) (jX h (jP h a0 25) ((i1).toNat))) (jP h a0 26) ((i1).toNat))) 0 0 Q) :
    V MX9_takesOver d 60 [some (.inr a0), some (.inl i1)] [] h 0 0 Q := by
  refine V_iload_n (i := 1) dX9_takesOver_60 rfl rfl ?_
  refine V_bipush dX9_takesOver_61 (by decide +kernel) ⟨by decide, by decide⟩ ?_
  refine V_icmp_ge (tgt := 96) dX9_takesOver_63 (by decide) (fun c1 => ?_) (fun c1 => ?_)
  · refine V_iconst dX9_takesOver_96 ⟨by decide, by decide⟩ ?_
    refine V_istore_n (i := 1) dX9_takesOver_97 rfl (by decide) ?_
    exact (k1 c1)
  · refine V_aload_n (i := 0) dX9_takesOver_66 rfl rfl ?_
    refine V_getP dX9_takesOver_67 fX9_13 rfl s1 ?_
    refine V_iload_n (i := 1) dX9_takesOver_70 rfl rfl ?_
    refine V_aload_n (i := 0) dX9_takesOver_71 rfl rfl ?_
    refine V_getP dX9_takesOver_72 fX9_44 rfl s1 ?_
    refine V_iload_n (i := 1) dX9_takesOver_75 rfl rfl ?_
    refine V_iald dX9_takesOver_76 s2 (s3 c1) (s4 c1) ?_
    refine V_iast dX9_takesOver_77 s5 (s3 c1) (s6 c1) ?_
    refine V_aload_n (i := 0) dX9_takesOver_78 rfl rfl ?_
    refine V_getP dX9_takesOver_79 fX9_16 rfl s1 ?_
    refine V_iload_n (i := 1) dX9_takesOver_82 rfl rfl ?_
    refine V_aload_n (i := 0) dX9_takesOver_83 rfl rfl ?_
    refine V_getP dX9_takesOver_84 fX9_47 rfl s1 ?_
    refine V_iload_n (i := 1) dX9_takesOver_87 rfl rfl ?_
    refine V_iald dX9_takesOver_88 s7 (s3 c1) (s8 c1) ?_
    refine V_iast dX9_takesOver_89 s9 (s3 c1) (s10 c1) ?_
    refine V_iinc (i := 1) dX9_takesOver_90 rfl (by decide) (r1 c1) ?_
    refine V_goto (tgt := 60) dX9_takesOver_93 (by decide) ?_
    exact (k2 c1)
theorem bX9_takesOver_98 {d : Nat} {Q : Option jA → jH → Prop} (a0 : Nat) (i1 : Int) (h : jH)
    (k1 : (160 ≤ i1) → V MX9_takesOver d 125 [some (.inr a0), some (.inl 0)] [] h 0 0 Q)
    (s1 : (jS h a0).1 = 9)
    (s2 : (jS h (jP h a0 28)).1 = 16)
    (s3 : (¬ (160 ≤ i1)) → 0 ≤ i1)
    (s4 : (¬ (160 ≤ i1)) → i1 < ((jS h (jP h a0 28)).2 : Int))
    (s5 : (jS h (jP h a0 7)).1 = 16)
    (s6 : (¬ (160 ≤ i1)) → i1 < ((jS h (jP h a0 7)).2 : Int))
    (r1 : (¬ (160 ≤ i1)) → jR (i1 + 1))
    (k2 : (¬ (160 ≤ i1)) → V MX9_takesOver d 98 [some (.inr a0), some (.inl (i1 + 1))] [] (jsX h (jP h a0 7) ((i1).toNat) (jX h (jP h a0 28) ((i1).toNat))) 0 0 Q) :
    V MX9_takesOver d 98 [some (.inr a0), some (.inl i1)] [] h 0 0 Q := by
  refine V_iload_n (i := 1) dX9_takesOver_98 rfl rfl ?_
  refine V_sipush dX9_takesOver_99 (by decide +kernel) ⟨by decide, by decide⟩ ?_
  refine V_icmp_ge (tgt := 123) dX9_takesOver_102 (by decide) (fun c1 => ?_) (fun c1 => ?_)
  · refine V_iconst dX9_takesOver_123 ⟨by decide, by decide⟩ ?_
    refine V_istore_n (i := 1) dX9_takesOver_124 rfl (by decide) ?_
    exact (k1 c1)
  · refine V_aload_n (i := 0) dX9_takesOver_105 rfl rfl ?_
    refine V_getP dX9_takesOver_106 fX9_19 rfl s1 ?_
    refine V_iload_n (i := 1) dX9_takesOver_109 rfl rfl ?_
    refine V_aload_n (i := 0) dX9_takesOver_110 rfl rfl ?_
    refine V_getP dX9_takesOver_111 fX9_50 rfl s1 ?_
    refine V_iload_n (i := 1) dX9_takesOver_114 rfl rfl ?_
    refine V_iald dX9_takesOver_115 s2 (s3 c1) (s4 c1) ?_
    refine V_iast dX9_takesOver_116 s5 (s3 c1) (s6 c1) ?_
    refine V_iinc (i := 1) dX9_takesOver_117 rfl (by decide) (r1 c1) ?_
    refine V_goto (tgt := 98) dX9_takesOver_120 (by decide) ?_
    exact (k2 c1)
theorem bX9_takesOver_125 {d : Nat} {Q : Option jA → jH → Prop} (a0 : Nat) (i1 : Int) (h : jH)
    (q1 : (4 ≤ i1) → Q none h)
    (s1 : (jS h a0).1 = 9)
    (s2 : (jS h (jP h a0 29)).1 = 16)
    (s3 : (¬ (4 ≤ i1)) → 0 ≤ i1)
    (s4 : (¬ (4 ≤ i1)) → i1 < ((jS h (jP h a0 29)).2 : Int))
    (s5 : (jS h (jP h a0 8)).1 = 16)
    (s6 : (¬ (4 ≤ i1)) → i1 < ((jS h (jP h a0 8)).2 : Int))
    (r1 : (¬ (4 ≤ i1)) → jR (i1 + 1))
    (k1 : (¬ (4 ≤ i1)) → V MX9_takesOver d 125 [some (.inr a0), some (.inl (i1 + 1))] [] (jsX h (jP h a0 8) ((i1).toNat) (jX h (jP h a0 29) ((i1).toNat))) 0 0 Q) :
    V MX9_takesOver d 125 [some (.inr a0), some (.inl i1)] [] h 0 0 Q := by
  refine V_iload_n (i := 1) dX9_takesOver_125 rfl rfl ?_
  refine V_iconst dX9_takesOver_126 ⟨by decide, by decide⟩ ?_
  refine V_icmp_ge (tgt := 148) dX9_takesOver_127 (by decide) (fun c1 => ?_) (fun c1 => ?_)
  · exact V_ret (v := none) rfl rfl dX9_takesOver_148 trivial rfl (q1 c1)
  · refine V_aload_n (i := 0) dX9_takesOver_130 rfl rfl ?_
    refine V_getP dX9_takesOver_131 fX9_22 rfl s1 ?_
    refine V_iload_n (i := 1) dX9_takesOver_134 rfl rfl ?_
    refine V_aload_n (i := 0) dX9_takesOver_135 rfl rfl ?_
    refine V_getP dX9_takesOver_136 fX9_53 rfl s1 ?_
    refine V_iload_n (i := 1) dX9_takesOver_139 rfl rfl ?_
    refine V_iald dX9_takesOver_140 s2 (s3 c1) (s4 c1) ?_
    refine V_iast dX9_takesOver_141 s5 (s3 c1) (s6 c1) ?_
    refine V_iinc (i := 1) dX9_takesOver_142 rfl (by decide) (r1 c1) ?_
    refine V_goto (tgt := 125) dX9_takesOver_145 (by decide) ?_
    exact (k1 c1)
theorem dX9_begins_0 : decode cX9_begins 0 = .ok (.iconst 0, 1) := by decide +kernel
theorem dX9_begins_1 : decode cX9_begins 1 = .ok (.istore_n 1, 1) := by decide +kernel
theorem dX9_begins_2 : decode cX9_begins 2 = .ok (.iload_n 1, 1) := by decide +kernel
theorem dX9_begins_3 : decode cX9_begins 3 = .ok (.sipush 209, 3) := by decide +kernel
theorem dX9_begins_6 : decode cX9_begins 6 = .ok (.if_icmp .ge 16, 3) := by decide +kernel
theorem dX9_begins_9 : decode cX9_begins 9 = .ok (.aload_n 0, 1) := by decide +kernel
theorem dX9_begins_10 : decode cX9_begins 10 = .ok (.getfield 25, 3) := by decide +kernel
theorem dX9_begins_13 : decode cX9_begins 13 = .ok (.iload_n 1, 1) := by decide +kernel
theorem dX9_begins_14 : decode cX9_begins 14 = .ok (.iconst 0, 1) := by decide +kernel
theorem dX9_begins_15 : decode cX9_begins 15 = .ok (.iastore, 1) := by decide +kernel
theorem dX9_begins_16 : decode cX9_begins 16 = .ok (.iinc 1 1, 3) := by decide +kernel
theorem dX9_begins_19 : decode cX9_begins 19 = .ok (.goto (-17), 3) := by decide +kernel
theorem dX9_begins_22 : decode cX9_begins 22 = .ok (.aload_n 0, 1) := by decide +kernel
theorem dX9_begins_23 : decode cX9_begins 23 = .ok (.getfield 25, 3) := by decide +kernel
theorem dX9_begins_26 : decode cX9_begins 26 = .ok (.iconst 1, 1) := by decide +kernel
theorem dX9_begins_27 : decode cX9_begins 27 = .ok (.iconst 1, 1) := by decide +kernel
theorem dX9_begins_28 : decode cX9_begins 28 = .ok (.iastore, 1) := by decide +kernel
theorem dX9_begins_29 : decode cX9_begins 29 = .ok (.aload_n 0, 1) := by decide +kernel
theorem dX9_begins_30 : decode cX9_begins 30 = .ok (.getfield 25, 3) := by decide +kernel
theorem dX9_begins_33 : decode cX9_begins 33 = .ok (.iconst 2, 1) := by decide +kernel
theorem dX9_begins_34 : decode cX9_begins 34 = .ok (.iconst 4, 1) := by decide +kernel
theorem dX9_begins_35 : decode cX9_begins 35 = .ok (.iastore, 1) := by decide +kernel
theorem dX9_begins_36 : decode cX9_begins 36 = .ok (.aload_n 0, 1) := by decide +kernel
theorem dX9_begins_37 : decode cX9_begins 37 = .ok (.invokevirtual 224, 3) := by decide +kernel
theorem dX9_begins_40 : decode cX9_begins 40 = .ok (.aload_n 0, 1) := by decide +kernel
theorem dX9_begins_41 : decode cX9_begins 41 = .ok (.iconst 0, 1) := by decide +kernel
theorem dX9_begins_42 : decode cX9_begins 42 = .ok (.putfield 227, 3) := by decide +kernel
theorem dX9_begins_45 : decode cX9_begins 45 = .ok (.aload_n 0, 1) := by decide +kernel
theorem dX9_begins_46 : decode cX9_begins 46 = .ok (.iconst 0, 1) := by decide +kernel
theorem dX9_begins_47 : decode cX9_begins 47 = .ok (.putfield 230, 3) := by decide +kernel
theorem dX9_begins_50 : decode cX9_begins 50 = .ok (.aload_n 0, 1) := by decide +kernel
theorem dX9_begins_51 : decode cX9_begins 51 = .ok (.getfield 34, 3) := by decide +kernel
theorem dX9_begins_54 : decode cX9_begins 54 = .ok (.iconst 0, 1) := by decide +kernel
theorem dX9_begins_55 : decode cX9_begins 55 = .ok (.iconst 0, 1) := by decide +kernel
theorem dX9_begins_56 : decode cX9_begins 56 = .ok (.bastore, 1) := by decide +kernel
theorem dX9_begins_57 : decode cX9_begins 57 = .ok (.aload_n 0, 1) := by decide +kernel
theorem dX9_begins_58 : decode cX9_begins 58 = .ok (.getfield 34, 3) := by decide +kernel
theorem dX9_begins_61 : decode cX9_begins 61 = .ok (.iconst 1, 1) := by decide +kernel
theorem dX9_begins_62 : decode cX9_begins 62 = .ok (.iconst 0, 1) := by decide +kernel
theorem dX9_begins_63 : decode cX9_begins 63 = .ok (.bastore, 1) := by decide +kernel
theorem dX9_begins_64 : decode cX9_begins 64 = .ok (.return_, 1) := by decide +kernel
theorem bX9_begins_0 {d : Nat} {Q : Option jA → jH → Prop} (a0 : Nat) (u1 : Option jA) (h : jH)
    (k1 : V MX9_begins (d + 2) 2 [some (.inr a0), some (.inl 0)] [] h 0 0 Q) :
    V MX9_begins (d + 2) 0 [some (.inr a0), u1] [] h 0 0 Q := by
  refine V_iconst dX9_begins_0 ⟨by decide, by decide⟩ ?_
  refine V_istore_n (i := 1) dX9_begins_1 rfl (by decide) ?_
  exact k1
theorem bX9_begins_2 {d : Nat} {Q : Option jA → jH → Prop} (a0 : Nat) (i1 : Int) (h : jH)
    (s1 : (jS h a0).1 = 9)
    (s2 : (jS h (jP h a0 9)).1 = 16)
    (s3 : (209 ≤ i1) → 1 < ((jS h (jP h a0 9)).2 : Int))
    (s4 : (209 ≤ i1) → 2 < ((jS h (jP h a0 9)).2 : Int))
    (e1 : (209 ≤ i1) → Ex MX9_blockBegins (d + 1) [.inr a0] (jsX (jsX h (jP h a0 9) 1 1) (jP h a0 9) 2 4) 0 0 (fun v h2 => V MX9_begins (d + 2) 40 [some (.inr a0), some (.inl i1)] (v.toList ++ []) h2 0 0 Q))
    (s5 : (¬ (209 ≤ i1)) → 0 ≤ i1)
    (s6 : (¬ (209 ≤ i1)) → i1 < ((jS h (jP h a0 9)).2 : Int))
    (r1 : (¬ (209 ≤ i1)) → jR (i1 + 1))
    (k1 : (¬ (209 ≤ i1)) → V MX9_begins (d + 2) 2 [some (.inr a0), some (.inl (i1 + 1))] [] (jsX h (jP h a0 9) ((i1).toNat) 0) 0 0 Q) :
    V MX9_begins (d + 2) 2 [some (.inr a0), some (.inl i1)] [] h 0 0 Q := by
  refine V_iload_n (i := 1) dX9_begins_2 rfl rfl ?_
  refine V_sipush dX9_begins_3 (by decide +kernel) ⟨by decide, by decide⟩ ?_
  refine V_icmp_ge (tgt := 22) dX9_begins_6 (by decide) (fun c1 => ?_) (fun c1 => ?_)
  · refine V_aload_n (i := 0) dX9_begins_22 rfl rfl ?_
    refine V_getP dX9_begins_23 fX9_25 rfl s1 ?_
    refine V_iconst dX9_begins_26 ⟨by decide, by decide⟩ ?_
    refine V_iconst dX9_begins_27 ⟨by decide, by decide⟩ ?_
    refine V_iast dX9_begins_28 s2 (by decide) (s3 c1) ?_
    refine V_aload_n (i := 0) dX9_begins_29 rfl rfl ?_
    refine V_getP dX9_begins_30 fX9_25 rfl s1 ?_
    refine V_iconst dX9_begins_33 ⟨by decide, by decide⟩ ?_
    refine V_iconst dX9_begins_34 ⟨by decide, by decide⟩ ?_
    refine V_iast dX9_begins_35 s2 (by decide) (s4 c1) ?_
    refine V_aload_n (i := 0) dX9_begins_36 rfl rfl ?_
    exact V_callV (M := MX9_begins) (d := (d + 2)) (mc' := 0) (ms' := 0) (mc := 0) (ms := 0) (As := []) (rest := []) dX9_begins_37 tX9_blockBegins vX9_blockBegins lX9_224 s1 ⟨by decide, rfl⟩ rfl rfl (Nat.le_of_ble_eq_true rfl) (show (d + 1) + 1 ≤ (d + 2) by omega) (e1 c1)
  · refine V_aload_n (i := 0) dX9_begins_9 rfl rfl ?_
    refine V_getP dX9_begins_10 fX9_25 rfl s1 ?_
    refine V_iload_n (i := 1) dX9_begins_13 rfl rfl ?_
    refine V_iconst dX9_begins_14 ⟨by decide, by decide⟩ ?_
    refine V_iast dX9_begins_15 s2 (s5 c1) (s6 c1) ?_
    refine V_iinc (i := 1) dX9_begins_16 rfl (by decide) (r1 c1) ?_
    refine V_goto (tgt := 2) dX9_begins_19 (by decide) ?_
    exact (k1 c1)
theorem bX9_begins_40 {d : Nat} {Q : Option jA → jH → Prop} (a0 : Nat) (i1 : Int) (h : jH)
    (s1 : (jS h a0).1 = 9)
    (s2 : (jS h (jP h a0 13)).1 = 17)
    (s3 : 0 < ((jS h (jP h a0 13)).2 : Int))
    (s4 : 1 < ((jS h (jP h a0 13)).2 : Int))
    (q1 : Q none (jsX (jsX (jsI (jsI h a0 11 0) a0 49 0) (jP h a0 13) 0 0) (jP h a0 13) 1 0)) :
    V MX9_begins (d + 2) 40 [some (.inr a0), some (.inl i1)] [] h 0 0 Q := by
  refine V_aload_n (i := 0) dX9_begins_40 rfl rfl ?_
  refine V_iconst dX9_begins_41 ⟨by decide, by decide⟩ ?_
  refine V_putI (ci := 9) (kf := 11) dX9_begins_42 fX9_227 rfl rfl s1 ?_
  refine V_aload_n (i := 0) dX9_begins_45 rfl rfl ?_
  refine V_iconst dX9_begins_46 ⟨by decide, by decide⟩ ?_
  refine V_putI (ci := 9) (kf := 49) dX9_begins_47 fX9_230 rfl rfl s1 ?_
  refine V_aload_n (i := 0) dX9_begins_50 rfl rfl ?_
  refine V_getP dX9_begins_51 fX9_34 rfl s1 ?_
  refine V_iconst dX9_begins_54 ⟨by decide, by decide⟩ ?_
  refine V_iconst dX9_begins_55 ⟨by decide, by decide⟩ ?_
  refine V_zast dX9_begins_56 s2 (by decide) s3 (by decide) ?_
  refine V_aload_n (i := 0) dX9_begins_57 rfl rfl ?_
  refine V_getP dX9_begins_58 fX9_34 rfl s1 ?_
  refine V_iconst dX9_begins_61 ⟨by decide, by decide⟩ ?_
  refine V_iconst dX9_begins_62 ⟨by decide, by decide⟩ ?_
  refine V_zast dX9_begins_63 s2 (by decide) s4 (by decide) ?_
  exact V_ret (v := none) rfl rfl dX9_begins_64 trivial rfl q1
theorem dX9_nodeBy_0 : decode cX9_nodeBy 0 = .ok (.bipush (-9), 2) := by decide +kernel
theorem dX9_nodeBy_2 : decode cX9_nodeBy 2 = .ok (.istore_n 3, 1) := by decide +kernel
theorem dX9_nodeBy_3 : decode cX9_nodeBy 3 = .ok (.iconst 0, 1) := by decide +kernel
theorem dX9_nodeBy_4 : decode cX9_nodeBy 4 = .ok (.istore 4, 2) := by decide +kernel
theorem dX9_nodeBy_6 : decode cX9_nodeBy 6 = .ok (.iload 4, 2) := by decide +kernel
theorem dX9_nodeBy_8 : decode cX9_nodeBy 8 = .ok (.aload_n 0, 1) := by decide +kernel
theorem dX9_nodeBy_9 : decode cX9_nodeBy 9 = .ok (.getfield 212, 3) := by decide +kernel
theorem dX9_nodeBy_12 : decode cX9_nodeBy 12 = .ok (.if_icmp .ge 38, 3) := by decide +kernel
theorem dX9_nodeBy_15 : decode cX9_nodeBy 15 = .ok (.aload_n 0, 1) := by decide +kernel
theorem dX9_nodeBy_16 : decode cX9_nodeBy 16 = .ok (.iload 4, 2) := by decide +kernel
theorem dX9_nodeBy_18 : decode cX9_nodeBy 18 = .ok (.iconst 3, 1) := by decide +kernel
theorem dX9_nodeBy_19 : decode cX9_nodeBy 19 = .ok (.invokevirtual 233, 3) := by decide +kernel
theorem dX9_nodeBy_22 : decode cX9_nodeBy 22 = .ok (.iload_n 1, 1) := by decide +kernel
theorem dX9_nodeBy_23 : decode cX9_nodeBy 23 = .ok (.if_icmp .ne 19, 3) := by decide +kernel
theorem dX9_nodeBy_26 : decode cX9_nodeBy 26 = .ok (.aload_n 0, 1) := by decide +kernel
theorem dX9_nodeBy_27 : decode cX9_nodeBy 27 = .ok (.iload 4, 2) := by decide +kernel
theorem dX9_nodeBy_29 : decode cX9_nodeBy 29 = .ok (.iconst 4, 1) := by decide +kernel
theorem dX9_nodeBy_30 : decode cX9_nodeBy 30 = .ok (.invokevirtual 233, 3) := by decide +kernel
theorem dX9_nodeBy_33 : decode cX9_nodeBy 33 = .ok (.iload_n 2, 1) := by decide +kernel
theorem dX9_nodeBy_34 : decode cX9_nodeBy 34 = .ok (.if_icmp .ne 8, 3) := by decide +kernel
theorem dX9_nodeBy_37 : decode cX9_nodeBy 37 = .ok (.iload 4, 2) := by decide +kernel
theorem dX9_nodeBy_39 : decode cX9_nodeBy 39 = .ok (.goto 4, 3) := by decide +kernel
theorem dX9_nodeBy_42 : decode cX9_nodeBy 42 = .ok (.iload_n 3, 1) := by decide +kernel
theorem dX9_nodeBy_43 : decode cX9_nodeBy 43 = .ok (.istore_n 3, 1) := by decide +kernel
theorem dX9_nodeBy_44 : decode cX9_nodeBy 44 = .ok (.iinc 4 1, 3) := by decide +kernel
theorem dX9_nodeBy_47 : decode cX9_nodeBy 47 = .ok (.goto (-41), 3) := by decide +kernel
theorem dX9_nodeBy_50 : decode cX9_nodeBy 50 = .ok (.iload_n 3, 1) := by decide +kernel
theorem dX9_nodeBy_51 : decode cX9_nodeBy 51 = .ok (.ireturn, 1) := by decide +kernel
theorem bX9_nodeBy_0 {d : Nat} {Q : Option jA → jH → Prop} (a0 : Nat) (i1 : Int) (i2 : Int) (u3 : Option jA) (u4 : Option jA) (h : jH)
    (k1 : V MX9_nodeBy (d + 1) 6 [some (.inr a0), some (.inl i1), some (.inl i2), some (.inl ((-9))), some (.inl 0)] [] h 0 0 Q) :
    V MX9_nodeBy (d + 1) 0 [some (.inr a0), some (.inl i1), some (.inl i2), u3, u4] [] h 0 0 Q := by
  refine V_bipush dX9_nodeBy_0 (by decide +kernel) ⟨by decide, by decide⟩ ?_
  refine V_istore_n (i := 3) dX9_nodeBy_2 rfl (by decide) ?_
  refine V_iconst dX9_nodeBy_3 ⟨by decide, by decide⟩ ?_
  refine V_istore (i := 4) dX9_nodeBy_4 (by decide) ?_
  exact k1
theorem bX9_nodeBy_6 {d : Nat} {Q : Option jA → jH → Prop} (a0 : Nat) (i1 : Int) (i2 : Int) (i3 : Int) (i4 : Int) (h : jH)
    (s1 : (jS h a0).1 = 9)
    (q1 : ((jI h a0 1) ≤ i4) → Q (some (.inl i3)) h)
    (s2 : (jS h (jP h a0 0)).1 = 16)
    (s3 : (jS h (jP h a0 0)).2 = 72)
    (s4 : (¬ ((jI h a0 1) ≤ i4)) → 0 ≤ i4)
    (s5 : (¬ ((jI h a0 1) ≤ i4)) → i4 < 12)
    (r1 : (¬ ((jI h a0 1) ≤ i4)) → ((jX h (jP h a0 0) (((6 * i4) + 3).toNat)) ≠ i1) → jR (i4 + 1))
    (k1 : (¬ ((jI h a0 1) ≤ i4)) → ((jX h (jP h a0 0) (((6 * i4) + 3).toNat)) ≠ i1) → V MX9_nodeBy (d + 1) 6 [some (.inr a0), some (.inl i1), some (.inl i2), some (.inl i3), some (.inl (i4 + 1))] [] h 0 0 Q)
    (r2 : (¬ ((jI h a0 1) ≤ i4)) → ((jX h (jP h a0 0) (((6 * i4) + 3).toNat)) = i1) → ((jX h (jP h a0 0) (((6 * i4) + 4).toNat)) ≠ i2) → jR (i4 + 1))
    (k2 : (¬ ((jI h a0 1) ≤ i4)) → ((jX h (jP h a0 0) (((6 * i4) + 3).toNat)) = i1) → ((jX h (jP h a0 0) (((6 * i4) + 4).toNat)) ≠ i2) → V MX9_nodeBy (d + 1) 6 [some (.inr a0), some (.inl i1), some (.inl i2), some (.inl i3), some (.inl (i4 + 1))] [] h 0 0 Q)
    (r3 : (¬ ((jI h a0 1) ≤ i4)) → ((jX h (jP h a0 0) (((6 * i4) + 3).toNat)) = i1) → ((jX h (jP h a0 0) (((6 * i4) + 4).toNat)) = i2) → jR (i4 + 1))
    (k3 : (¬ ((jI h a0 1) ≤ i4)) → ((jX h (jP h a0 0) (((6 * i4) + 3).toNat)) = i1) → ((jX h (jP h a0 0) (((6 * i4) + 4).toNat)) = i2) → V MX9_nodeBy (d + 1) 6 [some (.inr a0), some (.inl i1), some (.inl i2), some (.inl i4), some (.inl (i4 + 1))] [] h 0 0 Q) :
    V MX9_nodeBy (d + 1) 6 [some (.inr a0), some (.inl i1), some (.inl i2), some (.inl i3), some (.inl i4)] [] h 0 0 Q := by
  refine V_iload (i := 4) dX9_nodeBy_6 rfl ?_
  refine V_aload_n (i := 0) dX9_nodeBy_8 rfl rfl ?_
  refine V_getI dX9_nodeBy_9 fX9_212 rfl s1 ?_
  refine V_icmp_ge (tgt := 50) dX9_nodeBy_12 (by decide) (fun c1 => ?_) (fun c1 => ?_)
  · refine V_iload_n (i := 3) dX9_nodeBy_50 rfl rfl ?_
    exact V_reti rfl dX9_nodeBy_51 (q1 c1)
  · refine V_aload_n (i := 0) dX9_nodeBy_15 rfl rfl ?_
    refine V_iload (i := 4) dX9_nodeBy_16 rfl ?_
    refine V_iconst dX9_nodeBy_18 ⟨by decide, by decide⟩ ?_
    refine V_callV (M := MX9_nodeBy) (d := (d + 1)) (mc' := 0) (ms' := 0) (mc := 0) (ms := 0) (As := [.inl i4, .inl 3]) (rest := []) dX9_nodeBy_19 tX9_of vX9_of lX9_233 s1 ⟨by decide, rfl⟩ rfl rfl (Nat.le_of_ble_eq_true rfl) (show d + 1 ≤ (d + 1) by omega) (Ex.mono (pX9_of (d := d) s1 s2 s3 (s4 c1) (s5 c1) (by decide) (by decide)) ?_)
    intro v h2 hq
    rw [hq.1, hq.2]
    show V MX9_nodeBy (d + 1) 22 [some (.inr a0), some (.inl i1), some (.inl i2), some (.inl i3), some (.inl i4)] [.inl (jX h (jP h a0 0) (((6 * i4) + 3).toNat))] h 0 0 Q
    refine V_iload_n (i := 1) dX9_nodeBy_22 rfl rfl ?_
    refine V_icmp_ne (tgt := 42) dX9_nodeBy_23 (by decide) (fun c2 => ?_) (fun c2 => ?_)
    · refine V_iload_n (i := 3) dX9_nodeBy_42 rfl rfl ?_
      refine V_istore_n (i := 3) dX9_nodeBy_43 rfl (by decide) ?_
      refine V_iinc (i := 4) dX9_nodeBy_44 rfl (by decide) (r1 c1 c2) ?_
      refine V_goto (tgt := 6) dX9_nodeBy_47 (by decide) ?_
      exact (k1 c1 c2)
    · refine V_aload_n (i := 0) dX9_nodeBy_26 rfl rfl ?_
      refine V_iload (i := 4) dX9_nodeBy_27 rfl ?_
      refine V_iconst dX9_nodeBy_29 ⟨by decide, by decide⟩ ?_
      refine V_callV (M := MX9_nodeBy) (d := (d + 1)) (mc' := 0) (ms' := 0) (mc := 0) (ms := 0) (As := [.inl i4, .inl 4]) (rest := []) dX9_nodeBy_30 tX9_of vX9_of lX9_233 s1 ⟨by decide, rfl⟩ rfl rfl (Nat.le_of_ble_eq_true rfl) (show d + 1 ≤ (d + 1) by omega) (Ex.mono (pX9_of (d := d) s1 s2 s3 (s4 c1) (s5 c1) (by decide) (by decide)) ?_)
      intro v h2 hq
      rw [hq.1, hq.2]
      show V MX9_nodeBy (d + 1) 33 [some (.inr a0), some (.inl i1), some (.inl i2), some (.inl i3), some (.inl i4)] [.inl (jX h (jP h a0 0) (((6 * i4) + 4).toNat))] h 0 0 Q
      refine V_iload_n (i := 2) dX9_nodeBy_33 rfl rfl ?_
      refine V_icmp_ne (tgt := 42) dX9_nodeBy_34 (by decide) (fun c3 => ?_) (fun c3 => ?_)
      · refine V_iload_n (i := 3) dX9_nodeBy_42 rfl rfl ?_
        refine V_istore_n (i := 3) dX9_nodeBy_43 rfl (by decide) ?_
        refine V_iinc (i := 4) dX9_nodeBy_44 rfl (by decide) (r2 c1 c2 c3) ?_
        refine V_goto (tgt := 6) dX9_nodeBy_47 (by decide) ?_
        exact (k2 c1 c2 c3)
      · refine V_iload (i := 4) dX9_nodeBy_37 rfl ?_
        refine V_goto (tgt := 43) dX9_nodeBy_39 (by decide) ?_
        refine V_istore_n (i := 3) dX9_nodeBy_43 rfl (by decide) ?_
        refine V_iinc (i := 4) dX9_nodeBy_44 rfl (by decide) (r3 c1 c2 c3) ?_
        refine V_goto (tgt := 6) dX9_nodeBy_47 (by decide) ?_
        exact (k3 c1 c2 c3)
theorem dX9_scopeBy_0 : decode cX9_scopeBy 0 = .ok (.bipush (-9), 2) := by decide +kernel
theorem dX9_scopeBy_2 : decode cX9_scopeBy 2 = .ok (.istore_n 3, 1) := by decide +kernel
theorem dX9_scopeBy_3 : decode cX9_scopeBy 3 = .ok (.iconst 0, 1) := by decide +kernel
theorem dX9_scopeBy_4 : decode cX9_scopeBy 4 = .ok (.istore 4, 2) := by decide +kernel
theorem dX9_scopeBy_6 : decode cX9_scopeBy 6 = .ok (.iload 4, 2) := by decide +kernel
theorem dX9_scopeBy_8 : decode cX9_scopeBy 8 = .ok (.aload_n 0, 1) := by decide +kernel
theorem dX9_scopeBy_9 : decode cX9_scopeBy 9 = .ok (.getfield 221, 3) := by decide +kernel
theorem dX9_scopeBy_12 : decode cX9_scopeBy 12 = .ok (.if_icmp .ge 38, 3) := by decide +kernel
theorem dX9_scopeBy_15 : decode cX9_scopeBy 15 = .ok (.aload_n 0, 1) := by decide +kernel
theorem dX9_scopeBy_16 : decode cX9_scopeBy 16 = .ok (.getfield 13, 3) := by decide +kernel
theorem dX9_scopeBy_19 : decode cX9_scopeBy 19 = .ok (.iload 4, 2) := by decide +kernel
theorem dX9_scopeBy_21 : decode cX9_scopeBy 21 = .ok (.iaload, 1) := by decide +kernel
theorem dX9_scopeBy_22 : decode cX9_scopeBy 22 = .ok (.iload_n 1, 1) := by decide +kernel
theorem dX9_scopeBy_23 : decode cX9_scopeBy 23 = .ok (.if_icmp .ne 19, 3) := by decide +kernel
theorem dX9_scopeBy_26 : decode cX9_scopeBy 26 = .ok (.aload_n 0, 1) := by decide +kernel
theorem dX9_scopeBy_27 : decode cX9_scopeBy 27 = .ok (.getfield 16, 3) := by decide +kernel
theorem dX9_scopeBy_30 : decode cX9_scopeBy 30 = .ok (.iload 4, 2) := by decide +kernel
theorem dX9_scopeBy_32 : decode cX9_scopeBy 32 = .ok (.iaload, 1) := by decide +kernel
theorem dX9_scopeBy_33 : decode cX9_scopeBy 33 = .ok (.iload_n 2, 1) := by decide +kernel
theorem dX9_scopeBy_34 : decode cX9_scopeBy 34 = .ok (.if_icmp .ne 8, 3) := by decide +kernel
theorem dX9_scopeBy_37 : decode cX9_scopeBy 37 = .ok (.iload 4, 2) := by decide +kernel
theorem dX9_scopeBy_39 : decode cX9_scopeBy 39 = .ok (.goto 4, 3) := by decide +kernel
theorem dX9_scopeBy_42 : decode cX9_scopeBy 42 = .ok (.iload_n 3, 1) := by decide +kernel
theorem dX9_scopeBy_43 : decode cX9_scopeBy 43 = .ok (.istore_n 3, 1) := by decide +kernel
theorem dX9_scopeBy_44 : decode cX9_scopeBy 44 = .ok (.iinc 4 1, 3) := by decide +kernel
theorem dX9_scopeBy_47 : decode cX9_scopeBy 47 = .ok (.goto (-41), 3) := by decide +kernel
theorem dX9_scopeBy_50 : decode cX9_scopeBy 50 = .ok (.iload_n 3, 1) := by decide +kernel
theorem dX9_scopeBy_51 : decode cX9_scopeBy 51 = .ok (.ireturn, 1) := by decide +kernel
theorem bX9_scopeBy_0 {d : Nat} {Q : Option jA → jH → Prop} (a0 : Nat) (i1 : Int) (i2 : Int) (u3 : Option jA) (u4 : Option jA) (h : jH)
    (k1 : V MX9_scopeBy d 6 [some (.inr a0), some (.inl i1), some (.inl i2), some (.inl ((-9))), some (.inl 0)] [] h 0 0 Q) :
    V MX9_scopeBy d 0 [some (.inr a0), some (.inl i1), some (.inl i2), u3, u4] [] h 0 0 Q := by
  refine V_bipush dX9_scopeBy_0 (by decide +kernel) ⟨by decide, by decide⟩ ?_
  refine V_istore_n (i := 3) dX9_scopeBy_2 rfl (by decide) ?_
  refine V_iconst dX9_scopeBy_3 ⟨by decide, by decide⟩ ?_
  refine V_istore (i := 4) dX9_scopeBy_4 (by decide) ?_
  exact k1
theorem bX9_scopeBy_6 {d : Nat} {Q : Option jA → jH → Prop} (a0 : Nat) (i1 : Int) (i2 : Int) (i3 : Int) (i4 : Int) (h : jH)
    (s1 : (jS h a0).1 = 9)
    (q1 : ((jI h a0 6) ≤ i4) → Q (some (.inl i3)) h)
    (s2 : (jS h (jP h a0 4)).1 = 16)
    (s3 : (¬ ((jI h a0 6) ≤ i4)) → 0 ≤ i4)
    (s4 : (¬ ((jI h a0 6) ≤ i4)) → i4 < ((jS h (jP h a0 4)).2 : Int))
    (r1 : (¬ ((jI h a0 6) ≤ i4)) → ((jX h (jP h a0 4) ((i4).toNat)) ≠ i1) → jR (i4 + 1))
    (k1 : (¬ ((jI h a0 6) ≤ i4)) → ((jX h (jP h a0 4) ((i4).toNat)) ≠ i1) → V MX9_scopeBy d 6 [some (.inr a0), some (.inl i1), some (.inl i2), some (.inl i3), some (.inl (i4 + 1))] [] h 0 0 Q)
    (s5 : (jS h (jP h a0 5)).1 = 16)
    (s6 : (¬ ((jI h a0 6) ≤ i4)) → ((jX h (jP h a0 4) ((i4).toNat)) = i1) → i4 < ((jS h (jP h a0 5)).2 : Int))
    (r2 : (¬ ((jI h a0 6) ≤ i4)) → ((jX h (jP h a0 4) ((i4).toNat)) = i1) → ((jX h (jP h a0 5) ((i4).toNat)) ≠ i2) → jR (i4 + 1))
    (k2 : (¬ ((jI h a0 6) ≤ i4)) → ((jX h (jP h a0 4) ((i4).toNat)) = i1) → ((jX h (jP h a0 5) ((i4).toNat)) ≠ i2) → V MX9_scopeBy d 6 [some (.inr a0), some (.inl i1), some (.inl i2), some (.inl i3), some (.inl (i4 + 1))] [] h 0 0 Q)
    (r3 : (¬ ((jI h a0 6) ≤ i4)) → ((jX h (jP h a0 4) ((i4).toNat)) = i1) → ((jX h (jP h a0 5) ((i4).toNat)) = i2) → jR (i4 + 1))
    (k3 : (¬ ((jI h a0 6) ≤ i4)) → ((jX h (jP h a0 4) ((i4).toNat)) = i1) → ((jX h (jP h a0 5) ((i4).toNat)) = i2) → V MX9_scopeBy d 6 [some (.inr a0), some (.inl i1), some (.inl i2), some (.inl i4), some (.inl (i4 + 1))] [] h 0 0 Q) :
    V MX9_scopeBy d 6 [some (.inr a0), some (.inl i1), some (.inl i2), some (.inl i3), some (.inl i4)] [] h 0 0 Q := by
  refine V_iload (i := 4) dX9_scopeBy_6 rfl ?_
  refine V_aload_n (i := 0) dX9_scopeBy_8 rfl rfl ?_
  refine V_getI dX9_scopeBy_9 fX9_221 rfl s1 ?_
  refine V_icmp_ge (tgt := 50) dX9_scopeBy_12 (by decide) (fun c1 => ?_) (fun c1 => ?_)
  · refine V_iload_n (i := 3) dX9_scopeBy_50 rfl rfl ?_
    exact V_reti rfl dX9_scopeBy_51 (q1 c1)
  · refine V_aload_n (i := 0) dX9_scopeBy_15 rfl rfl ?_
    refine V_getP dX9_scopeBy_16 fX9_13 rfl s1 ?_
    refine V_iload (i := 4) dX9_scopeBy_19 rfl ?_
    refine V_iald dX9_scopeBy_21 s2 (s3 c1) (s4 c1) ?_
    refine V_iload_n (i := 1) dX9_scopeBy_22 rfl rfl ?_
    refine V_icmp_ne (tgt := 42) dX9_scopeBy_23 (by decide) (fun c2 => ?_) (fun c2 => ?_)
    · refine V_iload_n (i := 3) dX9_scopeBy_42 rfl rfl ?_
      refine V_istore_n (i := 3) dX9_scopeBy_43 rfl (by decide) ?_
      refine V_iinc (i := 4) dX9_scopeBy_44 rfl (by decide) (r1 c1 c2) ?_
      refine V_goto (tgt := 6) dX9_scopeBy_47 (by decide) ?_
      exact (k1 c1 c2)
    · refine V_aload_n (i := 0) dX9_scopeBy_26 rfl rfl ?_
      refine V_getP dX9_scopeBy_27 fX9_16 rfl s1 ?_
      refine V_iload (i := 4) dX9_scopeBy_30 rfl ?_
      refine V_iald dX9_scopeBy_32 s5 (s3 c1) (s6 c1 c2) ?_
      refine V_iload_n (i := 2) dX9_scopeBy_33 rfl rfl ?_
      refine V_icmp_ne (tgt := 42) dX9_scopeBy_34 (by decide) (fun c3 => ?_) (fun c3 => ?_)
      · refine V_iload_n (i := 3) dX9_scopeBy_42 rfl rfl ?_
        refine V_istore_n (i := 3) dX9_scopeBy_43 rfl (by decide) ?_
        refine V_iinc (i := 4) dX9_scopeBy_44 rfl (by decide) (r2 c1 c2 c3) ?_
        refine V_goto (tgt := 6) dX9_scopeBy_47 (by decide) ?_
        exact (k2 c1 c2 c3)
      · refine V_iload (i := 4) dX9_scopeBy_37 rfl ?_
        refine V_goto (tgt := 43) dX9_scopeBy_39 (by decide) ?_
        refine V_istore_n (i := 3) dX9_scopeBy_43 rfl (by decide) ?_
        refine V_iinc (i := 4) dX9_scopeBy_44 rfl (by decide) (r3 c1 c2 c3) ?_
        refine V_goto (tgt := 6) dX9_scopeBy_47 (by decide) ?_
        exact (k3 c1 c2 c3)
theorem dX9_node_0 : decode cX9_node 0 = .ok (.aload_n 0, 1) := by decide +kernel
theorem dX9_node_1 : decode cX9_node 1 = .ok (.iconst 0, 1) := by decide +kernel
theorem dX9_node_2 : decode cX9_node 2 = .ok (.putfield 103, 3) := by decide +kernel
theorem dX9_node_5 : decode cX9_node 5 = .ok (.aload_n 0, 1) := by decide +kernel
theorem dX9_node_6 : decode cX9_node 6 = .ok (.bipush (-9), 2) := by decide +kernel
theorem dX9_node_8 : decode cX9_node 8 = .ok (.putfield 122, 3) := by decide +kernel
theorem dX9_node_11 : decode cX9_node 11 = .ok (.bipush (-9), 2) := by decide +kernel
theorem dX9_node_13 : decode cX9_node 13 = .ok (.istore_n 1, 1) := by decide +kernel
theorem dX9_node_14 : decode cX9_node 14 = .ok (.bipush (-9), 2) := by decide +kernel
theorem dX9_node_16 : decode cX9_node 16 = .ok (.istore_n 2, 1) := by decide +kernel
theorem dX9_node_17 : decode cX9_node 17 = .ok (.iconst 0, 1) := by decide +kernel
theorem dX9_node_18 : decode cX9_node 18 = .ok (.istore_n 3, 1) := by decide +kernel
theorem dX9_node_19 : decode cX9_node 19 = .ok (.aload_n 0, 1) := by decide +kernel
theorem dX9_node_20 : decode cX9_node 20 = .ok (.invokevirtual 129, 3) := by decide +kernel
theorem dX9_node_23 : decode cX9_node 23 = .ok (.iconst 1, 1) := by decide +kernel
theorem dX9_node_24 : decode cX9_node 24 = .ok (.istore 4, 2) := by decide +kernel
theorem dX9_node_26 : decode cX9_node 26 = .ok (.aload_n 0, 1) := by decide +kernel
theorem dX9_node_27 : decode cX9_node 27 = .ok (.getfield 122, 3) := by decide +kernel
theorem dX9_node_30 : decode cX9_node 30 = .ok (.bipush (-9), 2) := by decide +kernel
theorem dX9_node_32 : decode cX9_node 32 = .ok (.if_icmp .ne 158, 3) := by decide +kernel
theorem dX9_node_35 : decode cX9_node 35 = .ok (.iload 4, 2) := by decide +kernel
theorem dX9_node_37 : decode cX9_node 37 = .ok (.ifCond .eq 153, 3) := by decide +kernel
theorem dX9_node_40 : decode cX9_node 40 = .ok (.aload_n 0, 1) := by decide +kernel
theorem dX9_node_41 : decode cX9_node 41 = .ok (.aload_n 0, 1) := by decide +kernel
theorem dX9_node_42 : decode cX9_node 42 = .ok (.getfield 109, 3) := by decide +kernel
theorem dX9_node_45 : decode cX9_node 45 = .ok (.iconst 1, 1) := by decide +kernel
theorem dX9_node_46 : decode cX9_node 46 = .ok (.if_icmp .ne 7, 3) := by decide +kernel
theorem dX9_node_49 : decode cX9_node 49 = .ok (.iconst 1, 1) := by decide +kernel
theorem dX9_node_50 : decode cX9_node 50 = .ok (.goto 4, 3) := by decide +kernel
theorem dX9_node_53 : decode cX9_node 53 = .ok (.iconst 0, 1) := by decide +kernel
theorem dX9_node_54 : decode cX9_node 54 = .ok (.invokevirtual 125, 3) := by decide +kernel
theorem dX9_node_57 : decode cX9_node 57 = .ok (.iload_n 3, 1) := by decide +kernel
theorem dX9_node_58 : decode cX9_node 58 = .ok (.ifCond .ne 9, 3) := by decide +kernel
theorem dX9_node_61 : decode cX9_node 61 = .ok (.iload_n 2, 1) := by decide +kernel
theorem dX9_node_62 : decode cX9_node 62 = .ok (.bipush (-9), 2) := by decide +kernel
theorem dX9_node_64 : decode cX9_node 64 = .ok (.if_icmp .eq 7, 3) := by decide +kernel
theorem dX9_node_67 : decode cX9_node 67 = .ok (.iconst 1, 1) := by decide +kernel
theorem dX9_node_68 : decode cX9_node 68 = .ok (.goto 4, 3) := by decide +kernel
theorem dX9_node_71 : decode cX9_node 71 = .ok (.iconst 0, 1) := by decide +kernel
theorem dX9_node_72 : decode cX9_node 72 = .ok (.istore_n 3, 1) := by decide +kernel
theorem dX9_node_73 : decode cX9_node 73 = .ok (.iload_n 3, 1) := by decide +kernel
theorem dX9_node_74 : decode cX9_node 74 = .ok (.ifCond .ne 12, 3) := by decide +kernel
theorem dX9_node_77 : decode cX9_node 77 = .ok (.aload_n 0, 1) := by decide +kernel
theorem dX9_node_78 : decode cX9_node 78 = .ok (.getfield 122, 3) := by decide +kernel
theorem dX9_node_81 : decode cX9_node 81 = .ok (.bipush (-9), 2) := by decide +kernel
theorem dX9_node_83 : decode cX9_node 83 = .ok (.if_icmp .eq 8, 3) := by decide +kernel
theorem dX9_node_86 : decode cX9_node 86 = .ok (.bipush (-9), 2) := by decide +kernel
theorem dX9_node_88 : decode cX9_node 88 = .ok (.goto 12, 3) := by decide +kernel
theorem dX9_node_91 : decode cX9_node 91 = .ok (.aload_n 0, 1) := by decide +kernel
theorem dX9_node_92 : decode cX9_node 92 = .ok (.iload_n 1, 1) := by decide +kernel
theorem dX9_node_93 : decode cX9_node 93 = .ok (.aload_n 0, 1) := by decide +kernel
theorem dX9_node_94 : decode cX9_node 94 = .ok (.getfield 116, 3) := by decide +kernel
theorem dX9_node_97 : decode cX9_node 97 = .ok (.invokevirtual 236, 3) := by decide +kernel
theorem dX9_node_100 : decode cX9_node 100 = .ok (.istore_n 2, 1) := by decide +kernel
theorem dX9_node_101 : decode cX9_node 101 = .ok (.iload_n 3, 1) := by decide +kernel
theorem dX9_node_102 : decode cX9_node 102 = .ok (.ifCond .ne 12, 3) := by decide +kernel
theorem dX9_node_105 : decode cX9_node 105 = .ok (.aload_n 0, 1) := by decide +kernel
theorem dX9_node_106 : decode cX9_node 106 = .ok (.getfield 122, 3) := by decide +kernel
theorem dX9_node_109 : decode cX9_node 109 = .ok (.bipush (-9), 2) := by decide +kernel
theorem dX9_node_111 : decode cX9_node 111 = .ok (.if_icmp .eq 8, 3) := by decide +kernel
theorem dX9_node_114 : decode cX9_node 114 = .ok (.bipush (-9), 2) := by decide +kernel
theorem dX9_node_116 : decode cX9_node 116 = .ok (.goto 12, 3) := by decide +kernel
theorem dX9_node_119 : decode cX9_node 119 = .ok (.aload_n 0, 1) := by decide +kernel
theorem dX9_node_120 : decode cX9_node 120 = .ok (.iload_n 1, 1) := by decide +kernel
theorem dX9_node_121 : decode cX9_node 121 = .ok (.aload_n 0, 1) := by decide +kernel
theorem dX9_node_122 : decode cX9_node 122 = .ok (.getfield 116, 3) := by decide +kernel
theorem dX9_node_125 : decode cX9_node 125 = .ok (.invokevirtual 239, 3) := by decide +kernel
theorem dX9_node_128 : decode cX9_node 128 = .ok (.istore 5, 2) := by decide +kernel
theorem dX9_node_130 : decode cX9_node 130 = .ok (.iload_n 3, 1) := by decide +kernel
theorem dX9_node_131 : decode cX9_node 131 = .ok (.ifCond .ne 16, 3) := by decide +kernel
theorem dX9_node_134 : decode cX9_node 134 = .ok (.iload_n 2, 1) := by decide +kernel
theorem dX9_node_135 : decode cX9_node 135 = .ok (.bipush (-9), 2) := by decide +kernel
theorem dX9_node_137 : decode cX9_node 137 = .ok (.if_icmp .ne 14, 3) := by decide +kernel
theorem dX9_node_140 : decode cX9_node 140 = .ok (.iload 5, 2) := by decide +kernel
theorem dX9_node_142 : decode cX9_node 142 = .ok (.bipush (-9), 2) := by decide +kernel
theorem dX9_node_144 : decode cX9_node 144 = .ok (.if_icmp .ne 7, 3) := by decide +kernel
theorem dX9_node_147 : decode cX9_node 147 = .ok (.iconst 1, 1) := by decide +kernel
theorem dX9_node_148 : decode cX9_node 148 = .ok (.goto 4, 3) := by decide +kernel
theorem dX9_node_151 : decode cX9_node 151 = .ok (.iconst 0, 1) := by decide +kernel
theorem dX9_node_152 : decode cX9_node 152 = .ok (.istore_n 3, 1) := by decide +kernel
theorem dX9_node_153 : decode cX9_node 153 = .ok (.iload 5, 2) := by decide +kernel
theorem dX9_node_155 : decode cX9_node 155 = .ok (.istore_n 1, 1) := by decide +kernel
theorem dX9_node_156 : decode cX9_node 156 = .ok (.aload_n 0, 1) := by decide +kernel
theorem dX9_node_157 : decode cX9_node 157 = .ok (.iconst 1, 1) := by decide +kernel
theorem dX9_node_158 : decode cX9_node 158 = .ok (.invokevirtual 141, 3) := by decide +kernel
theorem dX9_node_161 : decode cX9_node 161 = .ok (.aload_n 0, 1) := by decide +kernel
theorem dX9_node_162 : decode cX9_node 162 = .ok (.bipush 46, 2) := by decide +kernel
theorem dX9_node_164 : decode cX9_node 164 = .ok (.invokevirtual 154, 3) := by decide +kernel
theorem dX9_node_167 : decode cX9_node 167 = .ok (.istore 4, 2) := by decide +kernel
theorem dX9_node_169 : decode cX9_node 169 = .ok (.aload_n 0, 1) := by decide +kernel
theorem dX9_node_170 : decode cX9_node 170 = .ok (.getfield 122, 3) := by decide +kernel
theorem dX9_node_173 : decode cX9_node 173 = .ok (.bipush (-9), 2) := by decide +kernel
theorem dX9_node_175 : decode cX9_node 175 = .ok (.if_icmp .ne 12, 3) := by decide +kernel
theorem dX9_node_178 : decode cX9_node 178 = .ok (.iload 4, 2) := by decide +kernel
theorem dX9_node_180 : decode cX9_node 180 = .ok (.ifCond .eq 7, 3) := by decide +kernel
theorem dX9_node_183 : decode cX9_node 183 = .ok (.aload_n 0, 1) := by decide +kernel
theorem dX9_node_184 : decode cX9_node 184 = .ok (.invokevirtual 129, 3) := by decide +kernel
theorem dX9_node_187 : decode cX9_node 187 = .ok (.goto (-161), 3) := by decide +kernel
theorem dX9_node_190 : decode cX9_node 190 = .ok (.aload_n 0, 1) := by decide +kernel
theorem dX9_node_191 : decode cX9_node 191 = .ok (.aload_n 0, 1) := by decide +kernel
theorem dX9_node_192 : decode cX9_node 192 = .ok (.getfield 109, 3) := by decide +kernel
theorem dX9_node_195 : decode cX9_node 195 = .ok (.iconst 4, 1) := by decide +kernel
theorem dX9_node_196 : decode cX9_node 196 = .ok (.if_icmp .ne 7, 3) := by decide +kernel
theorem dX9_node_199 : decode cX9_node 199 = .ok (.iconst 1, 1) := by decide +kernel
theorem dX9_node_200 : decode cX9_node 200 = .ok (.goto 4, 3) := by decide +kernel
theorem dX9_node_203 : decode cX9_node 203 = .ok (.iconst 0, 1) := by decide +kernel
theorem dX9_node_204 : decode cX9_node 204 = .ok (.invokevirtual 125, 3) := by decide +kernel
theorem dX9_node_207 : decode cX9_node 207 = .ok (.aload_n 0, 1) := by decide +kernel
theorem dX9_node_208 : decode cX9_node 208 = .ok (.getfield 122, 3) := by decide +kernel
theorem dX9_node_211 : decode cX9_node 211 = .ok (.bipush (-9), 2) := by decide +kernel
theorem dX9_node_213 : decode cX9_node 213 = .ok (.if_icmp .eq 11, 3) := by decide +kernel
theorem dX9_node_216 : decode cX9_node 216 = .ok (.bipush (-10), 2) := by decide +kernel
theorem dX9_node_218 : decode cX9_node 218 = .ok (.aload_n 0, 1) := by decide +kernel
theorem dX9_node_219 : decode cX9_node 219 = .ok (.getfield 122, 3) := by decide +kernel
theorem dX9_node_222 : decode cX9_node 222 = .ok (.isub, 1) := by decide +kernel
theorem dX9_node_223 : decode cX9_node 223 = .ok (.ireturn, 1) := by decide +kernel
theorem dX9_node_224 : decode cX9_node 224 = .ok (.aload_n 0, 1) := by decide +kernel
theorem dX9_node_225 : decode cX9_node 225 = .ok (.iconst 0, 1) := by decide +kernel
theorem dX9_node_226 : decode cX9_node 226 = .ok (.putfield 99, 3) := by decide +kernel
theorem dX9_node_229 : decode cX9_node 229 = .ok (.iload_n 3, 1) := by decide +kernel
theorem dX9_node_230 : decode cX9_node 230 = .ok (.ifCond .eq 8, 3) := by decide +kernel
theorem dX9_node_233 : decode cX9_node 233 = .ok (.bipush (-9), 2) := by decide +kernel
theorem dX9_node_235 : decode cX9_node 235 = .ok (.goto 4, 3) := by decide +kernel
theorem dX9_node_238 : decode cX9_node 238 = .ok (.iload_n 2, 1) := by decide +kernel
theorem dX9_node_239 : decode cX9_node 239 = .ok (.ireturn, 1) := by decide +kernel
theorem bX9_node_0 {d : Nat} {Q : Option jA → jH → Prop} (a0 : Nat) (u1 : Option jA) (u2 : Option jA) (u3 : Option jA) (u4 : Option jA) (u5 : Option jA) (h : jH)
    (s1 : (jS h a0).1 = 9)
    (e1 : Ex MX9_next (d + 2) [.inr a0] (jsI (jsI h a0 16 0) a0 20 ((-9))) 0 0 (fun v h2 => V MX9_node (d + 4) 23 [some (.inr a0), some (.inl ((-9))), some (.inl ((-9))), some (.inl 0), u4, u5] (v.toList ++ []) h2 0 0 Q)) :
    V MX9_node (d + 4) 0 [some (.inr a0), u1, u2, u3, u4, u5] [] h 0 0 Q := by
  refine V_aload_n (i := 0) dX9_node_0 rfl rfl ?_
  refine V_iconst dX9_node_1 ⟨by decide, by decide⟩ ?_
  refine V_putI (ci := 9) (kf := 16) dX9_node_2 fX9_103 rfl rfl s1 ?_
  refine V_aload_n (i := 0) dX9_node_5 rfl rfl ?_
  refine V_bipush dX9_node_6 (by decide +kernel) ⟨by decide, by decide⟩ ?_
  refine V_putI (ci := 9) (kf := 20) dX9_node_8 fX9_122 rfl rfl s1 ?_
  refine V_bipush dX9_node_11 (by decide +kernel) ⟨by decide, by decide⟩ ?_
  refine V_istore_n (i := 1) dX9_node_13 rfl (by decide) ?_
  refine V_bipush dX9_node_14 (by decide +kernel) ⟨by decide, by decide⟩ ?_
  refine V_istore_n (i := 2) dX9_node_16 rfl (by decide) ?_
  refine V_iconst dX9_node_17 ⟨by decide, by decide⟩ ?_
  refine V_istore_n (i := 3) dX9_node_18 rfl (by decide) ?_
  refine V_aload_n (i := 0) dX9_node_19 rfl rfl ?_
  exact V_callV (M := MX9_node) (d := (d + 4)) (mc' := 0) (ms' := 0) (mc := 0) (ms := 0) (As := []) (rest := []) dX9_node_20 tX9_next vX9_next lX9_129 s1 ⟨by decide, rfl⟩ rfl rfl (Nat.le_of_ble_eq_true rfl) (show (d + 2) + 1 ≤ (d + 4) by omega) e1
theorem bX9_node_26 {d : Nat} {Q : Option jA → jH → Prop} (a0 : Nat) (i1 : Int) (i2 : Int) (i3 : Int) (i4 : Int) (u5 : Option jA) (h : jH)
    (s1 : (jS h a0).1 = 9)
    (e1 : ((jI h a0 20) ≠ ((-9))) → ((jI h a0 18) ≠ 4) → Ex MX9_due d [.inr a0, .inl 0] h 0 0 (fun v h2 => V MX9_node (d + 4) 207 [some (.inr a0), some (.inl i1), some (.inl i2), some (.inl i3), some (.inl i4), u5] (v.toList ++ []) h2 0 0 Q))
    (e2 : ((jI h a0 20) ≠ ((-9))) → ((jI h a0 18) = 4) → Ex MX9_due d [.inr a0, .inl 1] h 0 0 (fun v h2 => V MX9_node (d + 4) 207 [some (.inr a0), some (.inl i1), some (.inl i2), some (.inl i3), some (.inl i4), u5] (v.toList ++ []) h2 0 0 Q))
    (e3 : ((jI h a0 20) = ((-9))) → (i4 = 0) → ((jI h a0 18) ≠ 4) → Ex MX9_due d [.inr a0, .inl 0] h 0 0 (fun v h2 => V MX9_node (d + 4) 207 [some (.inr a0), some (.inl i1), some (.inl i2), some (.inl i3), some (.inl i4), u5] (v.toList ++ []) h2 0 0 Q))
    (e4 : ((jI h a0 20) = ((-9))) → (i4 = 0) → ((jI h a0 18) = 4) → Ex MX9_due d [.inr a0, .inl 1] h 0 0 (fun v h2 => V MX9_node (d + 4) 207 [some (.inr a0), some (.inl i1), some (.inl i2), some (.inl i3), some (.inl i4), u5] (v.toList ++ []) h2 0 0 Q))
    (e5 : ((jI h a0 20) = ((-9))) → (¬ (i4 = 0)) → ((jI h a0 18) ≠ 1) → Ex MX9_due d [.inr a0, .inl 0] h 0 0 (fun v h2 => V MX9_node (d + 4) 57 [some (.inr a0), some (.inl i1), some (.inl i2), some (.inl i3), some (.inl i4), u5] (v.toList ++ []) h2 0 0 Q))
    (e6 : ((jI h a0 20) = ((-9))) → (¬ (i4 = 0)) → ((jI h a0 18) = 1) → Ex MX9_due d [.inr a0, .inl 1] h 0 0 (fun v h2 => V MX9_node (d + 4) 57 [some (.inr a0), some (.inl i1), some (.inl i2), some (.inl i3), some (.inl i4), u5] (v.toList ++ []) h2 0 0 Q)) :
    V MX9_node (d + 4) 26 [some (.inr a0), some (.inl i1), some (.inl i2), some (.inl i3), some (.inl i4), u5] [] h 0 0 Q := by
  refine V_aload_n (i := 0) dX9_node_26 rfl rfl ?_
  refine V_getI dX9_node_27 fX9_122 rfl s1 ?_
  refine V_bipush dX9_node_30 (by decide +kernel) ⟨by decide, by decide⟩ ?_
  refine V_icmp_ne (tgt := 190) dX9_node_32 (by decide) (fun c1 => ?_) (fun c1 => ?_)
  · refine V_aload_n (i := 0) dX9_node_190 rfl rfl ?_
    refine V_aload_n (i := 0) dX9_node_191 rfl rfl ?_
    refine V_getI dX9_node_192 fX9_109 rfl s1 ?_
    refine V_iconst dX9_node_195 ⟨by decide, by decide⟩ ?_
    refine V_icmp_ne (tgt := 203) dX9_node_196 (by decide) (fun c2 => ?_) (fun c2 => ?_)
    · refine V_iconst dX9_node_203 ⟨by decide, by decide⟩ ?_
      exact V_callV (M := MX9_node) (d := (d + 4)) (mc' := 0) (ms' := 0) (mc := 0) (ms := 0) (As := [.inl 0]) (rest := []) dX9_node_204 tX9_due vX9_due lX9_125 s1 ⟨by decide, rfl⟩ rfl rfl (Nat.le_of_ble_eq_true rfl) (show d + 1 ≤ (d + 4) by omega) (e1 c1 c2)
    · refine V_iconst dX9_node_199 ⟨by decide, by decide⟩ ?_
      refine V_goto (tgt := 204) dX9_node_200 (by decide) ?_
      exact V_callV (M := MX9_node) (d := (d + 4)) (mc' := 0) (ms' := 0) (mc := 0) (ms := 0) (As := [.inl 1]) (rest := []) dX9_node_204 tX9_due vX9_due lX9_125 s1 ⟨by decide, rfl⟩ rfl rfl (Nat.le_of_ble_eq_true rfl) (show d + 1 ≤ (d + 4) by omega) (e2 c1 c2)
  · refine V_iload (i := 4) dX9_node_35 rfl ?_
    refine V_if_eq (tgt := 190) dX9_node_37 (by decide) (fun c3 => ?_) (fun c3 => ?_)
    · refine V_aload_n (i := 0) dX9_node_190 rfl rfl ?_
      refine V_aload_n (i := 0) dX9_node_191 rfl rfl ?_
      refine V_getI dX9_node_192 fX9_109 rfl s1 ?_
      refine V_iconst dX9_node_195 ⟨by decide, by decide⟩ ?_
      refine V_icmp_ne (tgt := 203) dX9_node_196 (by decide) (fun c4 => ?_) (fun c4 => ?_)
      · refine V_iconst dX9_node_203 ⟨by decide, by decide⟩ ?_
        exact V_callV (M := MX9_node) (d := (d + 4)) (mc' := 0) (ms' := 0) (mc := 0) (ms := 0) (As := [.inl 0]) (rest := []) dX9_node_204 tX9_due vX9_due lX9_125 s1 ⟨by decide, rfl⟩ rfl rfl (Nat.le_of_ble_eq_true rfl) (show d + 1 ≤ (d + 4) by omega) (e3 c1 c3 c4)
      · refine V_iconst dX9_node_199 ⟨by decide, by decide⟩ ?_
        refine V_goto (tgt := 204) dX9_node_200 (by decide) ?_
        exact V_callV (M := MX9_node) (d := (d + 4)) (mc' := 0) (ms' := 0) (mc := 0) (ms := 0) (As := [.inl 1]) (rest := []) dX9_node_204 tX9_due vX9_due lX9_125 s1 ⟨by decide, rfl⟩ rfl rfl (Nat.le_of_ble_eq_true rfl) (show d + 1 ≤ (d + 4) by omega) (e4 c1 c3 c4)
    · refine V_aload_n (i := 0) dX9_node_40 rfl rfl ?_
      refine V_aload_n (i := 0) dX9_node_41 rfl rfl ?_
      refine V_getI dX9_node_42 fX9_109 rfl s1 ?_
      refine V_iconst dX9_node_45 ⟨by decide, by decide⟩ ?_
      refine V_icmp_ne (tgt := 53) dX9_node_46 (by decide) (fun c5 => ?_) (fun c5 => ?_)
      · refine V_iconst dX9_node_53 ⟨by decide, by decide⟩ ?_
        exact V_callV (M := MX9_node) (d := (d + 4)) (mc' := 0) (ms' := 0) (mc := 0) (ms := 0) (As := [.inl 0]) (rest := []) dX9_node_54 tX9_due vX9_due lX9_125 s1 ⟨by decide, rfl⟩ rfl rfl (Nat.le_of_ble_eq_true rfl) (show d + 1 ≤ (d + 4) by omega) (e5 c1 c3 c5)
      · refine V_iconst dX9_node_49 ⟨by decide, by decide⟩ ?_
        refine V_goto (tgt := 54) dX9_node_50 (by decide) ?_
        exact V_callV (M := MX9_node) (d := (d + 4)) (mc' := 0) (ms' := 0) (mc := 0) (ms := 0) (As := [.inl 1]) (rest := []) dX9_node_54 tX9_due vX9_due lX9_125 s1 ⟨by decide, rfl⟩ rfl rfl (Nat.le_of_ble_eq_true rfl) (show d + 1 ≤ (d + 4) by omega) (e6 c1 c3 c5)
theorem bX9_node_23 {d : Nat} {Q : Option jA → jH → Prop} (a0 : Nat) (i1 : Int) (i2 : Int) (i3 : Int) (u4 : Option jA) (u5 : Option jA) (h : jH)
    (k1 : V MX9_node (d + 4) 26 [some (.inr a0), some (.inl i1), some (.inl i2), some (.inl i3), some (.inl 1), u5] [] h 0 0 Q) :
    V MX9_node (d + 4) 23 [some (.inr a0), some (.inl i1), some (.inl i2), some (.inl i3), u4, u5] [] h 0 0 Q := by
  refine V_iconst dX9_node_23 ⟨by decide, by decide⟩ ?_
  refine V_istore (i := 4) dX9_node_24 (by decide) ?_
  exact k1
theorem bX9_node_207 {d : Nat} {Q : Option jA → jH → Prop} (a0 : Nat) (i1 : Int) (i2 : Int) (i3 : Int) (i4 : Int) (u5 : Option jA) (h : jH)
    (s1 : (jS h a0).1 = 9)
    (q1 : ((jI h a0 20) = ((-9))) → (i3 = 0) → Q (some (.inl i2)) (jsI h a0 15 0))
    (q2 : ((jI h a0 20) = ((-9))) → (¬ (i3 = 0)) → Q (some (.inl ((-9)))) (jsI h a0 15 0))
    (r1 : (¬ ((jI h a0 20) = ((-9)))) → jR (((-10)) - (jI h a0 20)))
    (q3 : (¬ ((jI h a0 20) = ((-9)))) → Q (some (.inl (((-10)) - (jI h a0 20)))) h) :
    V MX9_node (d + 4) 207 [some (.inr a0), some (.inl i1), some (.inl i2), some (.inl i3), some (.inl i4), u5] [] h 0 0 Q := by
  refine V_aload_n (i := 0) dX9_node_207 rfl rfl ?_
  refine V_getI dX9_node_208 fX9_122 rfl s1 ?_
  refine V_bipush dX9_node_211 (by decide +kernel) ⟨by decide, by decide⟩ ?_
  refine V_icmp_eq (tgt := 224) dX9_node_213 (by decide) (fun c1 => ?_) (fun c1 => ?_)
  · refine V_aload_n (i := 0) dX9_node_224 rfl rfl ?_
    refine V_iconst dX9_node_225 ⟨by decide, by decide⟩ ?_
    refine V_putI (ci := 9) (kf := 15) dX9_node_226 fX9_99 rfl rfl s1 ?_
    refine V_iload_n (i := 3) dX9_node_229 rfl rfl ?_
    refine V_if_eq (tgt := 238) dX9_node_230 (by decide) (fun c2 => ?_) (fun c2 => ?_)
    · refine V_iload_n (i := 2) dX9_node_238 rfl rfl ?_
      exact V_reti rfl dX9_node_239 (q1 c1 c2)
    · refine V_bipush dX9_node_233 (by decide +kernel) ⟨by decide, by decide⟩ ?_
      refine V_goto (tgt := 239) dX9_node_235 (by decide) ?_
      exact V_reti rfl dX9_node_239 (q2 c1 c2)
  · refine V_bipush dX9_node_216 (by decide +kernel) ⟨by decide, by decide⟩ ?_
    refine V_aload_n (i := 0) dX9_node_218 rfl rfl ?_
    refine V_getI dX9_node_219 fX9_122 rfl s1 ?_
    refine V_isub dX9_node_222 (r1 c1) ?_
    exact V_reti rfl dX9_node_223 (q3 c1)
theorem bX9_node_57 {d : Nat} {Q : Option jA → jH → Prop} (a0 : Nat) (i1 : Int) (i2 : Int) (i3 : Int) (i4 : Int) (u5 : Option jA) (h : jH)
    (e1 : (i3 ≠ 0) → Ex MX9_passes (d + 3) [.inr a0, .inl 1] h 0 0 (fun v h2 => V MX9_node (d + 4) 161 [some (.inr a0), some (.inl ((-9))), some (.inl ((-9))), some (.inl 1), some (.inl i4), some (.inl ((-9)))] (v.toList ++ []) h2 0 0 Q))
    (s1 : (jS h a0).1 = 9)
    (e2 : (i3 = 0) → (i2 = ((-9))) → ((jI h a0 20) = ((-9))) → Ex MX9_nodeBy (d + 1) [.inr a0, .inl i1, .inl (jI h a0 19)] h 0 0 (fun v h2 => V MX9_node (d + 4) 100 [some (.inr a0), some (.inl i1), some (.inl i2), some (.inl 0), some (.inl i4), u5] (v.toList ++ []) h2 0 0 Q))
    (e3 : (i3 = 0) → (i2 = ((-9))) → (¬ ((jI h a0 20) = ((-9)))) → ((jI h a0 20) = ((-9))) → Ex MX9_scopeBy d [.inr a0, .inl i1, .inl (jI h a0 19)] h 0 0 (fun v h2 => V MX9_node (d + 4) 128 [some (.inr a0), some (.inl i1), some (.inl ((-9))), some (.inl 0), some (.inl i4), u5] (v.toList ++ []) h2 0 0 Q))
    (e4 : (i3 = 0) → (i2 = ((-9))) → (¬ ((jI h a0 20) = ((-9)))) → (¬ ((jI h a0 20) = ((-9)))) → (((-9)) ≠ ((-9))) → Ex MX9_passes (d + 3) [.inr a0, .inl 1] h 0 0 (fun v h2 => V MX9_node (d + 4) 161 [some (.inr a0), some (.inl ((-9))), some (.inl ((-9))), some (.inl 0), some (.inl i4), some (.inl ((-9)))] (v.toList ++ []) h2 0 0 Q))
    (e5 : (i3 = 0) → (i2 = ((-9))) → (¬ ((jI h a0 20) = ((-9)))) → (¬ ((jI h a0 20) = ((-9)))) → (((-9)) = ((-9))) → (((-9)) ≠ ((-9))) → Ex MX9_passes (d + 3) [.inr a0, .inl 1] h 0 0 (fun v h2 => V MX9_node (d + 4) 161 [some (.inr a0), some (.inl ((-9))), some (.inl ((-9))), some (.inl 0), some (.inl i4), some (.inl ((-9)))] (v.toList ++ []) h2 0 0 Q))
    (e6 : (i3 = 0) → (i2 = ((-9))) → (¬ ((jI h a0 20) = ((-9)))) → (¬ ((jI h a0 20) = ((-9)))) → (((-9)) = ((-9))) → (((-9)) = ((-9))) → Ex MX9_passes (d + 3) [.inr a0, .inl 1] h 0 0 (fun v h2 => V MX9_node (d + 4) 161 [some (.inr a0), some (.inl ((-9))), some (.inl ((-9))), some (.inl 1), some (.inl i4), some (.inl ((-9)))] (v.toList ++ []) h2 0 0 Q))
    (e7 : (i3 = 0) → (¬ (i2 = ((-9)))) → Ex MX9_passes (d + 3) [.inr a0, .inl 1] h 0 0 (fun v h2 => V MX9_node (d + 4) 161 [some (.inr a0), some (.inl ((-9))), some (.inl ((-9))), some (.inl 1), some (.inl i4), some (.inl ((-9)))] (v.toList ++ []) h2 0 0 Q)) :
    V MX9_node (d + 4) 57 [some (.inr a0), some (.inl i1), some (.inl i2), some (.inl i3), some (.inl i4), u5] [] h 0 0 Q := by
  refine V_iload_n (i := 3) dX9_node_57 rfl rfl ?_
  refine V_if_ne (tgt := 67) dX9_node_58 (by decide) (fun c1 => ?_) (fun c1 => ?_)
  · refine V_iconst dX9_node_67 ⟨by decide, by decide⟩ ?_
    refine V_goto (tgt := 72) dX9_node_68 (by decide) ?_
    refine V_istore_n (i := 3) dX9_node_72 rfl (by decide) ?_
    refine V_iload_n (i := 3) dX9_node_73 rfl rfl ?_
    refine V_if_ne (tgt := 86) dX9_node_74 (by decide) (fun c2 => ?_) (fun c2 => ?_)
    · refine V_bipush dX9_node_86 (by decide +kernel) ⟨by decide, by decide⟩ ?_
      refine V_goto (tgt := 100) dX9_node_88 (by decide) ?_
      refine V_istore_n (i := 2) dX9_node_100 rfl (by decide) ?_
      refine V_iload_n (i := 3) dX9_node_101 rfl rfl ?_
      refine V_if_ne (tgt := 114) dX9_node_102 (by decide) (fun c3 => ?_) (fun c3 => ?_)
      · refine V_bipush dX9_node_114 (by decide +kernel) ⟨by decide, by decide⟩ ?_
        refine V_goto (tgt := 128) dX9_node_116 (by decide) ?_
        refine V_istore (i := 5) dX9_node_128 (by decide) ?_
        refine V_iload_n (i := 3) dX9_node_130 rfl rfl ?_
        refine V_if_ne (tgt := 147) dX9_node_131 (by decide) (fun c4 => ?_) (fun c4 => ?_)
        · refine V_iconst dX9_node_147 ⟨by decide, by decide⟩ ?_
          refine V_goto (tgt := 152) dX9_node_148 (by decide) ?_
          refine V_istore_n (i := 3) dX9_node_152 rfl (by decide) ?_
          refine V_iload (i := 5) dX9_node_153 rfl ?_
          refine V_istore_n (i := 1) dX9_node_155 rfl (by decide) ?_
          refine V_aload_n (i := 0) dX9_node_156 rfl rfl ?_
          refine V_iconst dX9_node_157 ⟨by decide, by decide⟩ ?_
          exact V_callV (M := MX9_node) (d := (d + 4)) (mc' := 0) (ms' := 0) (mc := 0) (ms := 0) (As := [.inl 1]) (rest := []) dX9_node_158 tX9_passes vX9_passes lX9_141 s1 ⟨by decide, rfl⟩ rfl rfl (Nat.le_of_ble_eq_true rfl) (show (d + 3) + 1 ≤ (d + 4) by omega) (e1 c1)
        · exact absurd c4 (by decide)
      · exact absurd c3 (by decide)
    · exact absurd c2 (by decide)
  · refine V_iload_n (i := 2) dX9_node_61 rfl rfl ?_
    refine V_bipush dX9_node_62 (by decide +kernel) ⟨by decide, by decide⟩ ?_
    refine V_icmp_eq (tgt := 71) dX9_node_64 (by decide) (fun c5 => ?_) (fun c5 => ?_)
    · refine V_iconst dX9_node_71 ⟨by decide, by decide⟩ ?_
      refine V_istore_n (i := 3) dX9_node_72 rfl (by decide) ?_
      refine V_iload_n (i := 3) dX9_node_73 rfl rfl ?_
      refine V_if_ne (tgt := 86) dX9_node_74 (by decide) (fun c6 => ?_) (fun c6 => ?_)
      · exact absurd c6 (by decide)
      · refine V_aload_n (i := 0) dX9_node_77 rfl rfl ?_
        refine V_getI dX9_node_78 fX9_122 rfl s1 ?_
        refine V_bipush dX9_node_81 (by decide +kernel) ⟨by decide, by decide⟩ ?_
        refine V_icmp_eq (tgt := 91) dX9_node_83 (by decide) (fun c7 => ?_) (fun c7 => ?_)
        · refine V_aload_n (i := 0) dX9_node_91 rfl rfl ?_
          refine V_iload_n (i := 1) dX9_node_92 rfl rfl ?_
          refine V_aload_n (i := 0) dX9_node_93 rfl rfl ?_
          refine V_getI dX9_node_94 fX9_116 rfl s1 ?_
          exact V_callV (M := MX9_node) (d := (d + 4)) (mc' := 0) (ms' := 0) (mc := 0) (ms := 0) (As := [.inl i1, .inl (jI h a0 19)]) (rest := []) dX9_node_97 tX9_nodeBy vX9_nodeBy lX9_236 s1 ⟨by decide, rfl⟩ rfl rfl (Nat.le_of_ble_eq_true rfl) (show (d + 1) + 1 ≤ (d + 4) by omega) (e2 c1 c5 c7)
        · refine V_bipush dX9_node_86 (by decide +kernel) ⟨by decide, by decide⟩ ?_
          refine V_goto (tgt := 100) dX9_node_88 (by decide) ?_
          refine V_istore_n (i := 2) dX9_node_100 rfl (by decide) ?_
          refine V_iload_n (i := 3) dX9_node_101 rfl rfl ?_
          refine V_if_ne (tgt := 114) dX9_node_102 (by decide) (fun c8 => ?_) (fun c8 => ?_)
          · exact absurd c8 (by decide)
          · refine V_aload_n (i := 0) dX9_node_105 rfl rfl ?_
            refine V_getI dX9_node_106 fX9_122 rfl s1 ?_
            refine V_bipush dX9_node_109 (by decide +kernel) ⟨by decide, by decide⟩ ?_
            refine V_icmp_eq (tgt := 119) dX9_node_111 (by decide) (fun c9 => ?_) (fun c9 => ?_)
            · refine V_aload_n (i := 0) dX9_node_119 rfl rfl ?_
              refine V_iload_n (i := 1) dX9_node_120 rfl rfl ?_
              refine V_aload_n (i := 0) dX9_node_121 rfl rfl ?_
              refine V_getI dX9_node_122 fX9_116 rfl s1 ?_
              exact V_callV (M := MX9_node) (d := (d + 4)) (mc' := 0) (ms' := 0) (mc := 0) (ms := 0) (As := [.inl i1, .inl (jI h a0 19)]) (rest := []) dX9_node_125 tX9_scopeBy vX9_scopeBy lX9_239 s1 ⟨by decide, rfl⟩ rfl rfl (Nat.le_of_ble_eq_true rfl) (show d + 1 ≤ (d + 4) by omega) (e3 c1 c5 c7 c9)
            · refine V_bipush dX9_node_114 (by decide +kernel) ⟨by decide, by decide⟩ ?_
              refine V_goto (tgt := 128) dX9_node_116 (by decide) ?_
              refine V_istore (i := 5) dX9_node_128 (by decide) ?_
              refine V_iload_n (i := 3) dX9_node_130 rfl rfl ?_
              refine V_if_ne (tgt := 147) dX9_node_131 (by decide) (fun c10 => ?_) (fun c10 => ?_)
              · exact absurd c10 (by decide)
              · refine V_iload_n (i := 2) dX9_node_134 rfl rfl ?_
                refine V_bipush dX9_node_135 (by decide +kernel) ⟨by decide, by decide⟩ ?_
                refine V_icmp_ne (tgt := 151) dX9_node_137 (by decide) (fun c11 => ?_) (fun c11 => ?_)
                · refine V_iconst dX9_node_151 ⟨by decide, by decide⟩ ?_
                  refine V_istore_n (i := 3) dX9_node_152 rfl (by decide) ?_
                  refine V_iload (i := 5) dX9_node_153 rfl ?_
                  refine V_istore_n (i := 1) dX9_node_155 rfl (by decide) ?_
                  refine V_aload_n (i := 0) dX9_node_156 rfl rfl ?_
                  refine V_iconst dX9_node_157 ⟨by decide, by decide⟩ ?_
                  exact V_callV (M := MX9_node) (d := (d + 4)) (mc' := 0) (ms' := 0) (mc := 0) (ms := 0) (As := [.inl 1]) (rest := []) dX9_node_158 tX9_passes vX9_passes lX9_141 s1 ⟨by decide, rfl⟩ rfl rfl (Nat.le_of_ble_eq_true rfl) (show (d + 3) + 1 ≤ (d + 4) by omega) (e4 c1 c5 c7 c9 c11)
                · refine V_iload (i := 5) dX9_node_140 rfl ?_
                  refine V_bipush dX9_node_142 (by decide +kernel) ⟨by decide, by decide⟩ ?_
                  refine V_icmp_ne (tgt := 151) dX9_node_144 (by decide) (fun c12 => ?_) (fun c12 => ?_)
                  · refine V_iconst dX9_node_151 ⟨by decide, by decide⟩ ?_
                    refine V_istore_n (i := 3) dX9_node_152 rfl (by decide) ?_
                    refine V_iload (i := 5) dX9_node_153 rfl ?_
                    refine V_istore_n (i := 1) dX9_node_155 rfl (by decide) ?_
                    refine V_aload_n (i := 0) dX9_node_156 rfl rfl ?_
                    refine V_iconst dX9_node_157 ⟨by decide, by decide⟩ ?_
                    exact V_callV (M := MX9_node) (d := (d + 4)) (mc' := 0) (ms' := 0) (mc := 0) (ms := 0) (As := [.inl 1]) (rest := []) dX9_node_158 tX9_passes vX9_passes lX9_141 s1 ⟨by decide, rfl⟩ rfl rfl (Nat.le_of_ble_eq_true rfl) (show (d + 3) + 1 ≤ (d + 4) by omega) (e5 c1 c5 c7 c9 c11 c12)
                  · refine V_iconst dX9_node_147 ⟨by decide, by decide⟩ ?_
                    refine V_goto (tgt := 152) dX9_node_148 (by decide) ?_
                    refine V_istore_n (i := 3) dX9_node_152 rfl (by decide) ?_
                    refine V_iload (i := 5) dX9_node_153 rfl ?_
                    refine V_istore_n (i := 1) dX9_node_155 rfl (by decide) ?_
                    refine V_aload_n (i := 0) dX9_node_156 rfl rfl ?_
                    refine V_iconst dX9_node_157 ⟨by decide, by decide⟩ ?_
                    exact V_callV (M := MX9_node) (d := (d + 4)) (mc' := 0) (ms' := 0) (mc := 0) (ms := 0) (As := [.inl 1]) (rest := []) dX9_node_158 tX9_passes vX9_passes lX9_141 s1 ⟨by decide, rfl⟩ rfl rfl (Nat.le_of_ble_eq_true rfl) (show (d + 3) + 1 ≤ (d + 4) by omega) (e6 c1 c5 c7 c9 c11 c12)
    · refine V_iconst dX9_node_67 ⟨by decide, by decide⟩ ?_
      refine V_goto (tgt := 72) dX9_node_68 (by decide) ?_
      refine V_istore_n (i := 3) dX9_node_72 rfl (by decide) ?_
      refine V_iload_n (i := 3) dX9_node_73 rfl rfl ?_
      refine V_if_ne (tgt := 86) dX9_node_74 (by decide) (fun c13 => ?_) (fun c13 => ?_)
      · refine V_bipush dX9_node_86 (by decide +kernel) ⟨by decide, by decide⟩ ?_
        refine V_goto (tgt := 100) dX9_node_88 (by decide) ?_
        refine V_istore_n (i := 2) dX9_node_100 rfl (by decide) ?_
        refine V_iload_n (i := 3) dX9_node_101 rfl rfl ?_
        refine V_if_ne (tgt := 114) dX9_node_102 (by decide) (fun c14 => ?_) (fun c14 => ?_)
        · refine V_bipush dX9_node_114 (by decide +kernel) ⟨by decide, by decide⟩ ?_
          refine V_goto (tgt := 128) dX9_node_116 (by decide) ?_
          refine V_istore (i := 5) dX9_node_128 (by decide) ?_
          refine V_iload_n (i := 3) dX9_node_130 rfl rfl ?_
          refine V_if_ne (tgt := 147) dX9_node_131 (by decide) (fun c15 => ?_) (fun c15 => ?_)
          · refine V_iconst dX9_node_147 ⟨by decide, by decide⟩ ?_
            refine V_goto (tgt := 152) dX9_node_148 (by decide) ?_
            refine V_istore_n (i := 3) dX9_node_152 rfl (by decide) ?_
            refine V_iload (i := 5) dX9_node_153 rfl ?_
            refine V_istore_n (i := 1) dX9_node_155 rfl (by decide) ?_
            refine V_aload_n (i := 0) dX9_node_156 rfl rfl ?_
            refine V_iconst dX9_node_157 ⟨by decide, by decide⟩ ?_
            exact V_callV (M := MX9_node) (d := (d + 4)) (mc' := 0) (ms' := 0) (mc := 0) (ms := 0) (As := [.inl 1]) (rest := []) dX9_node_158 tX9_passes vX9_passes lX9_141 s1 ⟨by decide, rfl⟩ rfl rfl (Nat.le_of_ble_eq_true rfl) (show (d + 3) + 1 ≤ (d + 4) by omega) (e7 c1 c5)
          · exact absurd c15 (by decide)
        · exact absurd c14 (by decide)
      · exact absurd c13 (by decide)
theorem bX9_node_161 {d : Nat} {Q : Option jA → jH → Prop} (a0 : Nat) (i1 : Int) (i2 : Int) (i3 : Int) (i4 : Int) (i5 : Int) (h : jH)
    (s1 : (jS h a0).1 = 9)
    (k1 : ((jI h a0 20) ≠ ((-9))) → V MX9_node (d + 4) 26 [some (.inr a0), some (.inl i1), some (.inl i2), some (.inl i3), some (.inl (jb ((jI h a0 18) = 3 ∧ (jI h a0 19) = 46))), some (.inl i5)] [] h 0 0 Q)
    (k2 : ((jI h a0 20) = ((-9))) → (¬ ((jI h a0 18) = 3 ∧ (jI h a0 19) = 46)) → V MX9_node (d + 4) 26 [some (.inr a0), some (.inl i1), some (.inl i2), some (.inl i3), some (.inl (jb ((jI h a0 18) = 3 ∧ (jI h a0 19) = 46))), some (.inl i5)] [] h 0 0 Q)
    (e1 : ((jI h a0 20) = ((-9))) → ((jI h a0 18) = 3 ∧ (jI h a0 19) = 46) → Ex MX9_next (d + 2) [.inr a0] h 0 0 (fun v h2 => V MX9_node (d + 4) 187 [some (.inr a0), some (.inl i1), some (.inl i2), some (.inl i3), some (.inl (jb ((jI h a0 18) = 3 ∧ (jI h a0 19) = 46))), some (.inl i5)] (v.toList ++ []) h2 0 0 Q)) :
    V MX9_node (d + 4) 161 [some (.inr a0), some (.inl i1), some (.inl i2), some (.inl i3), some (.inl i4), some (.inl i5)] [] h 0 0 Q := by
  refine V_aload_n (i := 0) dX9_node_161 rfl rfl ?_
  refine V_bipush dX9_node_162 (by decide +kernel) ⟨by decide, by decide⟩ ?_
  refine V_callV (M := MX9_node) (d := (d + 4)) (mc' := 0) (ms' := 0) (mc := 0) (ms := 0) (As := [.inl 46]) (rest := []) dX9_node_164 tX9_is vX9_is lX9_154 s1 ⟨by decide, rfl⟩ rfl rfl (Nat.le_of_ble_eq_true rfl) (show d + 1 ≤ (d + 4) by omega) (Ex.mono (pX9_is (d := d) s1) ?_)
  intro v h2 hq
  rw [hq.1, hq.2]
  show V MX9_node (d + 4) 167 [some (.inr a0), some (.inl i1), some (.inl i2), some (.inl i3), some (.inl i4), some (.inl i5)] [.inl (jb ((jI h a0 18) = 3 ∧ (jI h a0 19) = 46))] h 0 0 Q
  refine V_istore (i := 4) dX9_node_167 (by decide) ?_
  refine V_aload_n (i := 0) dX9_node_169 rfl rfl ?_
  refine V_getI dX9_node_170 fX9_122 rfl s1 ?_
  refine V_bipush dX9_node_173 (by decide +kernel) ⟨by decide, by decide⟩ ?_
  refine V_icmp_ne (tgt := 187) dX9_node_175 (by decide) (fun c1 => ?_) (fun c1 => ?_)
  · refine V_goto (tgt := 26) dX9_node_187 (by decide) ?_
    exact (k1 c1)
  · refine V_iload (i := 4) dX9_node_178 rfl ?_
    refine V_ifb_eq (tgt := 187) dX9_node_180 (by decide) (fun c2 => ?_) (fun c2 => ?_)
    · refine V_goto (tgt := 26) dX9_node_187 (by decide) ?_
      exact (k2 c1 c2)
    · refine V_aload_n (i := 0) dX9_node_183 rfl rfl ?_
      exact V_callV (M := MX9_node) (d := (d + 4)) (mc' := 0) (ms' := 0) (mc := 0) (ms := 0) (As := []) (rest := []) dX9_node_184 tX9_next vX9_next lX9_129 s1 ⟨by decide, rfl⟩ rfl rfl (Nat.le_of_ble_eq_true rfl) (show (d + 2) + 1 ≤ (d + 4) by omega) (e1 c1 c2)
theorem bX9_node_100 {d : Nat} {Q : Option jA → jH → Prop} (a0 : Nat) (i1 : Int) (i2 : Int) (i3 : Int) (i4 : Int) (u5 : Option jA) (p0 : Int) (h : jH)
    (e1 : (i3 ≠ 0) → (i3 ≠ 0) → Ex MX9_passes (d + 3) [.inr a0, .inl 1] h 0 0 (fun v h2 => V MX9_node (d + 4) 161 [some (.inr a0), some (.inl ((-9))), some (.inl p0), some (.inl 1), some (.inl i4), some (.inl ((-9)))] (v.toList ++ []) h2 0 0 Q))
    (s1 : (jS h a0).1 = 9)
    (e2 : (i3 ≠ 0) → (i3 = 0) → (p0 ≠ ((-9))) → Ex MX9_passes (d + 3) [.inr a0, .inl 1] h 0 0 (fun v h2 => V MX9_node (d + 4) 161 [some (.inr a0), some (.inl ((-9))), some (.inl p0), some (.inl 0), some (.inl i4), some (.inl ((-9)))] (v.toList ++ []) h2 0 0 Q))
    (e3 : (i3 ≠ 0) → (i3 = 0) → (p0 = ((-9))) → (((-9)) ≠ ((-9))) → Ex MX9_passes (d + 3) [.inr a0, .inl 1] h 0 0 (fun v h2 => V MX9_node (d + 4) 161 [some (.inr a0), some (.inl ((-9))), some (.inl p0), some (.inl 0), some (.inl i4), some (.inl ((-9)))] (v.toList ++ []) h2 0 0 Q))
    (e4 : (i3 ≠ 0) → (i3 = 0) → (p0 = ((-9))) → (((-9)) = ((-9))) → Ex MX9_passes (d + 3) [.inr a0, .inl 1] h 0 0 (fun v h2 => V MX9_node (d + 4) 161 [some (.inr a0), some (.inl ((-9))), some (.inl p0), some (.inl 1), some (.inl i4), some (.inl ((-9)))] (v.toList ++ []) h2 0 0 Q))
    (e5 : (i3 = 0) → ((jI h a0 20) = ((-9))) → Ex MX9_scopeBy d [.inr a0, .inl i1, .inl (jI h a0 19)] h 0 0 (fun v h2 => V MX9_node (d + 4) 128 [some (.inr a0), some (.inl i1), some (.inl p0), some (.inl i3), some (.inl i4), u5] (v.toList ++ []) h2 0 0 Q))
    (e6 : (i3 = 0) → (¬ ((jI h a0 20) = ((-9)))) → (i3 ≠ 0) → Ex MX9_passes (d + 3) [.inr a0, .inl 1] h 0 0 (fun v h2 => V MX9_node (d + 4) 161 [some (.inr a0), some (.inl ((-9))), some (.inl p0), some (.inl 1), some (.inl i4), some (.inl ((-9)))] (v.toList ++ []) h2 0 0 Q))
    (e7 : (i3 = 0) → (¬ ((jI h a0 20) = ((-9)))) → (i3 = 0) → (p0 ≠ ((-9))) → Ex MX9_passes (d + 3) [.inr a0, .inl 1] h 0 0 (fun v h2 => V MX9_node (d + 4) 161 [some (.inr a0), some (.inl ((-9))), some (.inl p0), some (.inl 0), some (.inl i4), some (.inl ((-9)))] (v.toList ++ []) h2 0 0 Q))
    (e8 : (i3 = 0) → (¬ ((jI h a0 20) = ((-9)))) → (i3 = 0) → (p0 = ((-9))) → (((-9)) ≠ ((-9))) → Ex MX9_passes (d + 3) [.inr a0, .inl 1] h 0 0 (fun v h2 => V MX9_node (d + 4) 161 [some (.inr a0), some (.inl ((-9))), some (.inl p0), some (.inl 0), some (.inl i4), some (.inl ((-9)))] (v.toList ++ []) h2 0 0 Q))
    (e9 : (i3 = 0) → (¬ ((jI h a0 20) = ((-9)))) → (i3 = 0) → (p0 = ((-9))) → (((-9)) = ((-9))) → Ex MX9_passes (d + 3) [.inr a0, .inl 1] h 0 0 (fun v h2 => V MX9_node (d + 4) 161 [some (.inr a0), some (.inl ((-9))), some (.inl p0), some (.inl 1), some (.inl i4), some (.inl ((-9)))] (v.toList ++ []) h2 0 0 Q)) :
    V MX9_node (d + 4) 100 [some (.inr a0), some (.inl i1), some (.inl i2), some (.inl i3), some (.inl i4), u5] [.inl p0] h 0 0 Q := by
  refine V_istore_n (i := 2) dX9_node_100 rfl (by decide) ?_
  refine V_iload_n (i := 3) dX9_node_101 rfl rfl ?_
  refine V_if_ne (tgt := 114) dX9_node_102 (by decide) (fun c1 => ?_) (fun c1 => ?_)
  · refine V_bipush dX9_node_114 (by decide +kernel) ⟨by decide, by decide⟩ ?_
    refine V_goto (tgt := 128) dX9_node_116 (by decide) ?_
    refine V_istore (i := 5) dX9_node_128 (by decide) ?_
    refine V_iload_n (i := 3) dX9_node_130 rfl rfl ?_
    refine V_if_ne (tgt := 147) dX9_node_131 (by decide) (fun c2 => ?_) (fun c2 => ?_)
    · refine V_iconst dX9_node_147 ⟨by decide, by decide⟩ ?_
      refine V_goto (tgt := 152) dX9_node_148 (by decide) ?_
      refine V_istore_n (i := 3) dX9_node_152 rfl (by decide) ?_
      refine V_iload (i := 5) dX9_node_153 rfl ?_
      refine V_istore_n (i := 1) dX9_node_155 rfl (by decide) ?_
      refine V_aload_n (i := 0) dX9_node_156 rfl rfl ?_
      refine V_iconst dX9_node_157 ⟨by decide, by decide⟩ ?_
      exact V_callV (M := MX9_node) (d := (d + 4)) (mc' := 0) (ms' := 0) (mc := 0) (ms := 0) (As := [.inl 1]) (rest := []) dX9_node_158 tX9_passes vX9_passes lX9_141 s1 ⟨by decide, rfl⟩ rfl rfl (Nat.le_of_ble_eq_true rfl) (show (d + 3) + 1 ≤ (d + 4) by omega) (e1 c1 c2)
    · refine V_iload_n (i := 2) dX9_node_134 rfl rfl ?_
      refine V_bipush dX9_node_135 (by decide +kernel) ⟨by decide, by decide⟩ ?_
      refine V_icmp_ne (tgt := 151) dX9_node_137 (by decide) (fun c3 => ?_) (fun c3 => ?_)
      · refine V_iconst dX9_node_151 ⟨by decide, by decide⟩ ?_
        refine V_istore_n (i := 3) dX9_node_152 rfl (by decide) ?_
        refine V_iload (i := 5) dX9_node_153 rfl ?_
        refine V_istore_n (i := 1) dX9_node_155 rfl (by decide) ?_
        refine V_aload_n (i := 0) dX9_node_156 rfl rfl ?_
        refine V_iconst dX9_node_157 ⟨by decide, by decide⟩ ?_
        exact V_callV (M := MX9_node) (d := (d + 4)) (mc' := 0) (ms' := 0) (mc := 0) (ms := 0) (As := [.inl 1]) (rest := []) dX9_node_158 tX9_passes vX9_passes lX9_141 s1 ⟨by decide, rfl⟩ rfl rfl (Nat.le_of_ble_eq_true rfl) (show (d + 3) + 1 ≤ (d + 4) by omega) (e2 c1 c2 c3)
      · refine V_iload (i := 5) dX9_node_140 rfl ?_
        refine V_bipush dX9_node_142 (by decide +kernel) ⟨by decide, by decide⟩ ?_
        refine V_icmp_ne (tgt := 151) dX9_node_144 (by decide) (fun c4 => ?_) (fun c4 => ?_)
        · refine V_iconst dX9_node_151 ⟨by decide, by decide⟩ ?_
          refine V_istore_n (i := 3) dX9_node_152 rfl (by decide) ?_
          refine V_iload (i := 5) dX9_node_153 rfl ?_
          refine V_istore_n (i := 1) dX9_node_155 rfl (by decide) ?_
          refine V_aload_n (i := 0) dX9_node_156 rfl rfl ?_
          refine V_iconst dX9_node_157 ⟨by decide, by decide⟩ ?_
          exact V_callV (M := MX9_node) (d := (d + 4)) (mc' := 0) (ms' := 0) (mc := 0) (ms := 0) (As := [.inl 1]) (rest := []) dX9_node_158 tX9_passes vX9_passes lX9_141 s1 ⟨by decide, rfl⟩ rfl rfl (Nat.le_of_ble_eq_true rfl) (show (d + 3) + 1 ≤ (d + 4) by omega) (e3 c1 c2 c3 c4)
        · refine V_iconst dX9_node_147 ⟨by decide, by decide⟩ ?_
          refine V_goto (tgt := 152) dX9_node_148 (by decide) ?_
          refine V_istore_n (i := 3) dX9_node_152 rfl (by decide) ?_
          refine V_iload (i := 5) dX9_node_153 rfl ?_
          refine V_istore_n (i := 1) dX9_node_155 rfl (by decide) ?_
          refine V_aload_n (i := 0) dX9_node_156 rfl rfl ?_
          refine V_iconst dX9_node_157 ⟨by decide, by decide⟩ ?_
          exact V_callV (M := MX9_node) (d := (d + 4)) (mc' := 0) (ms' := 0) (mc := 0) (ms := 0) (As := [.inl 1]) (rest := []) dX9_node_158 tX9_passes vX9_passes lX9_141 s1 ⟨by decide, rfl⟩ rfl rfl (Nat.le_of_ble_eq_true rfl) (show (d + 3) + 1 ≤ (d + 4) by omega) (e4 c1 c2 c3 c4)
  · refine V_aload_n (i := 0) dX9_node_105 rfl rfl ?_
    refine V_getI dX9_node_106 fX9_122 rfl s1 ?_
    refine V_bipush dX9_node_109 (by decide +kernel) ⟨by decide, by decide⟩ ?_
    refine V_icmp_eq (tgt := 119) dX9_node_111 (by decide) (fun c5 => ?_) (fun c5 => ?_)
    · refine V_aload_n (i := 0) dX9_node_119 rfl rfl ?_
      refine V_iload_n (i := 1) dX9_node_120 rfl rfl ?_
      refine V_aload_n (i := 0) dX9_node_121 rfl rfl ?_
      refine V_getI dX9_node_122 fX9_116 rfl s1 ?_
      exact V_callV (M := MX9_node) (d := (d + 4)) (mc' := 0) (ms' := 0) (mc := 0) (ms := 0) (As := [.inl i1, .inl (jI h a0 19)]) (rest := []) dX9_node_125 tX9_scopeBy vX9_scopeBy lX9_239 s1 ⟨by decide, rfl⟩ rfl rfl (Nat.le_of_ble_eq_true rfl) (show d + 1 ≤ (d + 4) by omega) (e5 c1 c5)
    · refine V_bipush dX9_node_114 (by decide +kernel) ⟨by decide, by decide⟩ ?_
      refine V_goto (tgt := 128) dX9_node_116 (by decide) ?_
      refine V_istore (i := 5) dX9_node_128 (by decide) ?_
      refine V_iload_n (i := 3) dX9_node_130 rfl rfl ?_
      refine V_if_ne (tgt := 147) dX9_node_131 (by decide) (fun c6 => ?_) (fun c6 => ?_)
      · refine V_iconst dX9_node_147 ⟨by decide, by decide⟩ ?_
        refine V_goto (tgt := 152) dX9_node_148 (by decide) ?_
        refine V_istore_n (i := 3) dX9_node_152 rfl (by decide) ?_
        refine V_iload (i := 5) dX9_node_153 rfl ?_
        refine V_istore_n (i := 1) dX9_node_155 rfl (by decide) ?_
        refine V_aload_n (i := 0) dX9_node_156 rfl rfl ?_
        refine V_iconst dX9_node_157 ⟨by decide, by decide⟩ ?_
        exact V_callV (M := MX9_node) (d := (d + 4)) (mc' := 0) (ms' := 0) (mc := 0) (ms := 0) (As := [.inl 1]) (rest := []) dX9_node_158 tX9_passes vX9_passes lX9_141 s1 ⟨by decide, rfl⟩ rfl rfl (Nat.le_of_ble_eq_true rfl) (show (d + 3) + 1 ≤ (d + 4) by omega) (e6 c1 c5 c6)
      · refine V_iload_n (i := 2) dX9_node_134 rfl rfl ?_
        refine V_bipush dX9_node_135 (by decide +kernel) ⟨by decide, by decide⟩ ?_
        refine V_icmp_ne (tgt := 151) dX9_node_137 (by decide) (fun c7 => ?_) (fun c7 => ?_)
        · refine V_iconst dX9_node_151 ⟨by decide, by decide⟩ ?_
          refine V_istore_n (i := 3) dX9_node_152 rfl (by decide) ?_
          refine V_iload (i := 5) dX9_node_153 rfl ?_
          refine V_istore_n (i := 1) dX9_node_155 rfl (by decide) ?_
          refine V_aload_n (i := 0) dX9_node_156 rfl rfl ?_
          refine V_iconst dX9_node_157 ⟨by decide, by decide⟩ ?_
          exact V_callV (M := MX9_node) (d := (d + 4)) (mc' := 0) (ms' := 0) (mc := 0) (ms := 0) (As := [.inl 1]) (rest := []) dX9_node_158 tX9_passes vX9_passes lX9_141 s1 ⟨by decide, rfl⟩ rfl rfl (Nat.le_of_ble_eq_true rfl) (show (d + 3) + 1 ≤ (d + 4) by omega) (e7 c1 c5 c6 c7)
        · refine V_iload (i := 5) dX9_node_140 rfl ?_
          refine V_bipush dX9_node_142 (by decide +kernel) ⟨by decide, by decide⟩ ?_
          refine V_icmp_ne (tgt := 151) dX9_node_144 (by decide) (fun c8 => ?_) (fun c8 => ?_)
          · refine V_iconst dX9_node_151 ⟨by decide, by decide⟩ ?_
            refine V_istore_n (i := 3) dX9_node_152 rfl (by decide) ?_
            refine V_iload (i := 5) dX9_node_153 rfl ?_
            refine V_istore_n (i := 1) dX9_node_155 rfl (by decide) ?_
            refine V_aload_n (i := 0) dX9_node_156 rfl rfl ?_
            refine V_iconst dX9_node_157 ⟨by decide, by decide⟩ ?_
            exact V_callV (M := MX9_node) (d := (d + 4)) (mc' := 0) (ms' := 0) (mc := 0) (ms := 0) (As := [.inl 1]) (rest := []) dX9_node_158 tX9_passes vX9_passes lX9_141 s1 ⟨by decide, rfl⟩ rfl rfl (Nat.le_of_ble_eq_true rfl) (show (d + 3) + 1 ≤ (d + 4) by omega) (e8 c1 c5 c6 c7 c8)
          · refine V_iconst dX9_node_147 ⟨by decide, by decide⟩ ?_
            refine V_goto (tgt := 152) dX9_node_148 (by decide) ?_
            refine V_istore_n (i := 3) dX9_node_152 rfl (by decide) ?_
            refine V_iload (i := 5) dX9_node_153 rfl ?_
            refine V_istore_n (i := 1) dX9_node_155 rfl (by decide) ?_
            refine V_aload_n (i := 0) dX9_node_156 rfl rfl ?_
            refine V_iconst dX9_node_157 ⟨by decide, by decide⟩ ?_
            exact V_callV (M := MX9_node) (d := (d + 4)) (mc' := 0) (ms' := 0) (mc := 0) (ms := 0) (As := [.inl 1]) (rest := []) dX9_node_158 tX9_passes vX9_passes lX9_141 s1 ⟨by decide, rfl⟩ rfl rfl (Nat.le_of_ble_eq_true rfl) (show (d + 3) + 1 ≤ (d + 4) by omega) (e9 c1 c5 c6 c7 c8)
theorem bX9_node_128 {d : Nat} {Q : Option jA → jH → Prop} (a0 : Nat) (i1 : Int) (i2 : Int) (i3 : Int) (i4 : Int) (u5 : Option jA) (p0 : Int) (h : jH)
    (e1 : (i3 ≠ 0) → Ex MX9_passes (d + 3) [.inr a0, .inl 1] h 0 0 (fun v h2 => V MX9_node (d + 4) 161 [some (.inr a0), some (.inl p0), some (.inl i2), some (.inl 1), some (.inl i4), some (.inl p0)] (v.toList ++ []) h2 0 0 Q))
    (s1 : (jS h a0).1 = 9)
    (e2 : (i3 = 0) → (i2 ≠ ((-9))) → Ex MX9_passes (d + 3) [.inr a0, .inl 1] h 0 0 (fun v h2 => V MX9_node (d + 4) 161 [some (.inr a0), some (.inl p0), some (.inl i2), some (.inl 0), some (.inl i4), some (.inl p0)] (v.toList ++ []) h2 0 0 Q))
    (e3 : (i3 = 0) → (i2 = ((-9))) → (p0 ≠ ((-9))) → Ex MX9_passes (d + 3) [.inr a0, .inl 1] h 0 0 (fun v h2 => V MX9_node (d + 4) 161 [some (.inr a0), some (.inl p0), some (.inl i2), some (.inl 0), some (.inl i4), some (.inl p0)] (v.toList ++ []) h2 0 0 Q))
    (e4 : (i3 = 0) → (i2 = ((-9))) → (p0 = ((-9))) → Ex MX9_passes (d + 3) [.inr a0, .inl 1] h 0 0 (fun v h2 => V MX9_node (d + 4) 161 [some (.inr a0), some (.inl p0), some (.inl i2), some (.inl 1), some (.inl i4), some (.inl p0)] (v.toList ++ []) h2 0 0 Q)) :
    V MX9_node (d + 4) 128 [some (.inr a0), some (.inl i1), some (.inl i2), some (.inl i3), some (.inl i4), u5] [.inl p0] h 0 0 Q := by
  refine V_istore (i := 5) dX9_node_128 (by decide) ?_
  refine V_iload_n (i := 3) dX9_node_130 rfl rfl ?_
  refine V_if_ne (tgt := 147) dX9_node_131 (by decide) (fun c1 => ?_) (fun c1 => ?_)
  · refine V_iconst dX9_node_147 ⟨by decide, by decide⟩ ?_
    refine V_goto (tgt := 152) dX9_node_148 (by decide) ?_
    refine V_istore_n (i := 3) dX9_node_152 rfl (by decide) ?_
    refine V_iload (i := 5) dX9_node_153 rfl ?_
    refine V_istore_n (i := 1) dX9_node_155 rfl (by decide) ?_
    refine V_aload_n (i := 0) dX9_node_156 rfl rfl ?_
    refine V_iconst dX9_node_157 ⟨by decide, by decide⟩ ?_
    exact V_callV (M := MX9_node) (d := (d + 4)) (mc' := 0) (ms' := 0) (mc := 0) (ms := 0) (As := [.inl 1]) (rest := []) dX9_node_158 tX9_passes vX9_passes lX9_141 s1 ⟨by decide, rfl⟩ rfl rfl (Nat.le_of_ble_eq_true rfl) (show (d + 3) + 1 ≤ (d + 4) by omega) (e1 c1)
  · refine V_iload_n (i := 2) dX9_node_134 rfl rfl ?_
    refine V_bipush dX9_node_135 (by decide +kernel) ⟨by decide, by decide⟩ ?_
    refine V_icmp_ne (tgt := 151) dX9_node_137 (by decide) (fun c2 => ?_) (fun c2 => ?_)
    · refine V_iconst dX9_node_151 ⟨by decide, by decide⟩ ?_
      refine V_istore_n (i := 3) dX9_node_152 rfl (by decide) ?_
      refine V_iload (i := 5) dX9_node_153 rfl ?_
      refine V_istore_n (i := 1) dX9_node_155 rfl (by decide) ?_
      refine V_aload_n (i := 0) dX9_node_156 rfl rfl ?_
      refine V_iconst dX9_node_157 ⟨by decide, by decide⟩ ?_
      exact V_callV (M := MX9_node) (d := (d + 4)) (mc' := 0) (ms' := 0) (mc := 0) (ms := 0) (As := [.inl 1]) (rest := []) dX9_node_158 tX9_passes vX9_passes lX9_141 s1 ⟨by decide, rfl⟩ rfl rfl (Nat.le_of_ble_eq_true rfl) (show (d + 3) + 1 ≤ (d + 4) by omega) (e2 c1 c2)
    · refine V_iload (i := 5) dX9_node_140 rfl ?_
      refine V_bipush dX9_node_142 (by decide +kernel) ⟨by decide, by decide⟩ ?_
      refine V_icmp_ne (tgt := 151) dX9_node_144 (by decide) (fun c3 => ?_) (fun c3 => ?_)
      · refine V_iconst dX9_node_151 ⟨by decide, by decide⟩ ?_
        refine V_istore_n (i := 3) dX9_node_152 rfl (by decide) ?_
        refine V_iload (i := 5) dX9_node_153 rfl ?_
        refine V_istore_n (i := 1) dX9_node_155 rfl (by decide) ?_
        refine V_aload_n (i := 0) dX9_node_156 rfl rfl ?_
        refine V_iconst dX9_node_157 ⟨by decide, by decide⟩ ?_
        exact V_callV (M := MX9_node) (d := (d + 4)) (mc' := 0) (ms' := 0) (mc := 0) (ms := 0) (As := [.inl 1]) (rest := []) dX9_node_158 tX9_passes vX9_passes lX9_141 s1 ⟨by decide, rfl⟩ rfl rfl (Nat.le_of_ble_eq_true rfl) (show (d + 3) + 1 ≤ (d + 4) by omega) (e3 c1 c2 c3)
      · refine V_iconst dX9_node_147 ⟨by decide, by decide⟩ ?_
        refine V_goto (tgt := 152) dX9_node_148 (by decide) ?_
        refine V_istore_n (i := 3) dX9_node_152 rfl (by decide) ?_
        refine V_iload (i := 5) dX9_node_153 rfl ?_
        refine V_istore_n (i := 1) dX9_node_155 rfl (by decide) ?_
        refine V_aload_n (i := 0) dX9_node_156 rfl rfl ?_
        refine V_iconst dX9_node_157 ⟨by decide, by decide⟩ ?_
        exact V_callV (M := MX9_node) (d := (d + 4)) (mc' := 0) (ms' := 0) (mc := 0) (ms := 0) (As := [.inl 1]) (rest := []) dX9_node_158 tX9_passes vX9_passes lX9_141 s1 ⟨by decide, rfl⟩ rfl rfl (Nat.le_of_ble_eq_true rfl) (show (d + 3) + 1 ≤ (d + 4) by omega) (e4 c1 c2 c3)
theorem bX9_node_187 {d : Nat} {Q : Option jA → jH → Prop} (a0 : Nat) (i1 : Int) (i2 : Int) (i3 : Int) (i4 : Int) (i5 : Int) (h : jH)
    (k1 : V MX9_node (d + 4) 26 [some (.inr a0), some (.inl i1), some (.inl i2), some (.inl i3), some (.inl i4), some (.inl i5)] [] h 0 0 Q) :
    V MX9_node (d + 4) 187 [some (.inr a0), some (.inl i1), some (.inl i2), some (.inl i3), some (.inl i4), some (.inl i5)] [] h 0 0 Q := by
  refine V_goto (tgt := 26) dX9_node_187 (by decide) ?_
  exact k1
theorem dX9_expressed_0 : decode cX9_expressed 0 = .ok (.iconst 0, 1) := by decide +kernel
theorem dX9_expressed_1 : decode cX9_expressed 1 = .ok (.istore_n 2, 1) := by decide +kernel
theorem dX9_expressed_2 : decode cX9_expressed 2 = .ok (.iconst 0, 1) := by decide +kernel
theorem dX9_expressed_3 : decode cX9_expressed 3 = .ok (.istore_n 3, 1) := by decide +kernel
theorem dX9_expressed_4 : decode cX9_expressed 4 = .ok (.iload_n 3, 1) := by decide +kernel
theorem dX9_expressed_5 : decode cX9_expressed 5 = .ok (.aload_n 0, 1) := by decide +kernel
theorem dX9_expressed_6 : decode cX9_expressed 6 = .ok (.getfield 22, 3) := by decide +kernel
theorem dX9_expressed_9 : decode cX9_expressed 9 = .ok (.iload_n 1, 1) := by decide +kernel
theorem dX9_expressed_10 : decode cX9_expressed 10 = .ok (.iaload, 1) := by decide +kernel
theorem dX9_expressed_11 : decode cX9_expressed 11 = .ok (.if_icmp .ge 155, 3) := by decide +kernel
theorem dX9_expressed_14 : decode cX9_expressed 14 = .ok (.aload_n 0, 1) := by decide +kernel
theorem dX9_expressed_15 : decode cX9_expressed 15 = .ok (.getfield 19, 3) := by decide +kernel
theorem dX9_expressed_18 : decode cX9_expressed 18 = .ok (.bipush 40, 2) := by decide +kernel
theorem dX9_expressed_20 : decode cX9_expressed 20 = .ok (.iload_n 1, 1) := by decide +kernel
theorem dX9_expressed_21 : decode cX9_expressed 21 = .ok (.imul, 1) := by decide +kernel
theorem dX9_expressed_22 : decode cX9_expressed 22 = .ok (.iconst 2, 1) := by decide +kernel
theorem dX9_expressed_23 : decode cX9_expressed 23 = .ok (.iload_n 3, 1) := by decide +kernel
theorem dX9_expressed_24 : decode cX9_expressed 24 = .ok (.imul, 1) := by decide +kernel
theorem dX9_expressed_25 : decode cX9_expressed 25 = .ok (.iadd, 1) := by decide +kernel
theorem dX9_expressed_26 : decode cX9_expressed 26 = .ok (.iaload, 1) := by decide +kernel
theorem dX9_expressed_27 : decode cX9_expressed 27 = .ok (.istore 4, 2) := by decide +kernel
theorem dX9_expressed_29 : decode cX9_expressed 29 = .ok (.aload_n 0, 1) := by decide +kernel
theorem dX9_expressed_30 : decode cX9_expressed 30 = .ok (.getfield 19, 3) := by decide +kernel
theorem dX9_expressed_33 : decode cX9_expressed 33 = .ok (.bipush 40, 2) := by decide +kernel
theorem dX9_expressed_35 : decode cX9_expressed 35 = .ok (.iload_n 1, 1) := by decide +kernel
theorem dX9_expressed_36 : decode cX9_expressed 36 = .ok (.imul, 1) := by decide +kernel
theorem dX9_expressed_37 : decode cX9_expressed 37 = .ok (.iconst 2, 1) := by decide +kernel
theorem dX9_expressed_38 : decode cX9_expressed 38 = .ok (.iload_n 3, 1) := by decide +kernel
theorem dX9_expressed_39 : decode cX9_expressed 39 = .ok (.imul, 1) := by decide +kernel
theorem dX9_expressed_40 : decode cX9_expressed 40 = .ok (.iadd, 1) := by decide +kernel
theorem dX9_expressed_41 : decode cX9_expressed 41 = .ok (.iconst 1, 1) := by decide +kernel
theorem dX9_expressed_42 : decode cX9_expressed 42 = .ok (.iadd, 1) := by decide +kernel
theorem dX9_expressed_43 : decode cX9_expressed 43 = .ok (.iaload, 1) := by decide +kernel
theorem dX9_expressed_44 : decode cX9_expressed 44 = .ok (.istore 5, 2) := by decide +kernel
theorem dX9_expressed_46 : decode cX9_expressed 46 = .ok (.iload 4, 2) := by decide +kernel
theorem dX9_expressed_48 : decode cX9_expressed 48 = .ok (.iconst 2, 1) := by decide +kernel
theorem dX9_expressed_49 : decode cX9_expressed 49 = .ok (.if_icmp .ne 46, 3) := by decide +kernel
theorem dX9_expressed_52 : decode cX9_expressed 52 = .ok (.aload_n 0, 1) := by decide +kernel
theorem dX9_expressed_53 : decode cX9_expressed 53 = .ok (.getfield 62, 3) := by decide +kernel
theorem dX9_expressed_56 : decode cX9_expressed 56 = .ok (.iload_n 2, 1) := by decide +kernel
theorem dX9_expressed_57 : decode cX9_expressed 57 = .ok (.iconst 1, 1) := by decide +kernel
theorem dX9_expressed_58 : decode cX9_expressed 58 = .ok (.isub, 1) := by decide +kernel
theorem dX9_expressed_59 : decode cX9_expressed 59 = .ok (.iaload, 1) := by decide +kernel
theorem dX9_expressed_60 : decode cX9_expressed 60 = .ok (.istore 6, 2) := by decide +kernel
theorem dX9_expressed_62 : decode cX9_expressed 62 = .ok (.aload_n 0, 1) := by decide +kernel
theorem dX9_expressed_63 : decode cX9_expressed 63 = .ok (.getfield 62, 3) := by decide +kernel
theorem dX9_expressed_66 : decode cX9_expressed 66 = .ok (.iload_n 2, 1) := by decide +kernel
theorem dX9_expressed_67 : decode cX9_expressed 67 = .ok (.iconst 1, 1) := by decide +kernel
theorem dX9_expressed_68 : decode cX9_expressed 68 = .ok (.isub, 1) := by decide +kernel
theorem dX9_expressed_69 : decode cX9_expressed 69 = .ok (.iload 6, 2) := by decide +kernel
theorem dX9_expressed_71 : decode cX9_expressed 71 = .ok (.bipush (-7), 2) := by decide +kernel
theorem dX9_expressed_73 : decode cX9_expressed 73 = .ok (.if_icmp .ne 8, 3) := by decide +kernel
theorem dX9_expressed_76 : decode cX9_expressed 76 = .ok (.bipush (-7), 2) := by decide +kernel
theorem dX9_expressed_78 : decode cX9_expressed 78 = .ok (.goto 13, 3) := by decide +kernel
theorem dX9_expressed_81 : decode cX9_expressed 81 = .ok (.iload 6, 2) := by decide +kernel
theorem dX9_expressed_83 : decode cX9_expressed 83 = .ok (.ifCond .ne 7, 3) := by decide +kernel
theorem dX9_expressed_86 : decode cX9_expressed 86 = .ok (.iconst 1, 1) := by decide +kernel
theorem dX9_expressed_87 : decode cX9_expressed 87 = .ok (.goto 4, 3) := by decide +kernel
theorem dX9_expressed_90 : decode cX9_expressed 90 = .ok (.iconst 0, 1) := by decide +kernel
theorem dX9_expressed_91 : decode cX9_expressed 91 = .ok (.iastore, 1) := by decide +kernel
theorem dX9_expressed_92 : decode cX9_expressed 92 = .ok (.goto 68, 3) := by decide +kernel
theorem dX9_expressed_95 : decode cX9_expressed 95 = .ok (.iload 4, 2) := by decide +kernel
theorem dX9_expressed_97 : decode cX9_expressed 97 = .ok (.iconst 3, 1) := by decide +kernel
theorem dX9_expressed_98 : decode cX9_expressed 98 = .ok (.if_icmp .ne 36, 3) := by decide +kernel
theorem dX9_expressed_101 : decode cX9_expressed 101 = .ok (.iinc 2 (-1), 3) := by decide +kernel
theorem dX9_expressed_104 : decode cX9_expressed 104 = .ok (.aload_n 0, 1) := by decide +kernel
theorem dX9_expressed_105 : decode cX9_expressed 105 = .ok (.getfield 62, 3) := by decide +kernel
theorem dX9_expressed_108 : decode cX9_expressed 108 = .ok (.iload_n 2, 1) := by decide +kernel
theorem dX9_expressed_109 : decode cX9_expressed 109 = .ok (.iconst 1, 1) := by decide +kernel
theorem dX9_expressed_110 : decode cX9_expressed 110 = .ok (.isub, 1) := by decide +kernel
theorem dX9_expressed_111 : decode cX9_expressed 111 = .ok (.aload_n 0, 1) := by decide +kernel
theorem dX9_expressed_112 : decode cX9_expressed 112 = .ok (.getfield 62, 3) := by decide +kernel
theorem dX9_expressed_115 : decode cX9_expressed 115 = .ok (.iload_n 2, 1) := by decide +kernel
theorem dX9_expressed_116 : decode cX9_expressed 116 = .ok (.iconst 1, 1) := by decide +kernel
theorem dX9_expressed_117 : decode cX9_expressed 117 = .ok (.isub, 1) := by decide +kernel
theorem dX9_expressed_118 : decode cX9_expressed 118 = .ok (.iaload, 1) := by decide +kernel
theorem dX9_expressed_119 : decode cX9_expressed 119 = .ok (.aload_n 0, 1) := by decide +kernel
theorem dX9_expressed_120 : decode cX9_expressed 120 = .ok (.getfield 62, 3) := by decide +kernel
theorem dX9_expressed_123 : decode cX9_expressed 123 = .ok (.iload_n 2, 1) := by decide +kernel
theorem dX9_expressed_124 : decode cX9_expressed 124 = .ok (.iaload, 1) := by decide +kernel
theorem dX9_expressed_125 : decode cX9_expressed 125 = .ok (.iload 5, 2) := by decide +kernel
theorem dX9_expressed_127 : decode cX9_expressed 127 = .ok (.invokestatic 242, 3) := by decide +kernel
theorem dX9_expressed_130 : decode cX9_expressed 130 = .ok (.iastore, 1) := by decide +kernel
theorem dX9_expressed_131 : decode cX9_expressed 131 = .ok (.goto 29, 3) := by decide +kernel
theorem dX9_expressed_134 : decode cX9_expressed 134 = .ok (.aload_n 0, 1) := by decide +kernel
theorem dX9_expressed_135 : decode cX9_expressed 135 = .ok (.getfield 62, 3) := by decide +kernel
theorem dX9_expressed_138 : decode cX9_expressed 138 = .ok (.iload_n 2, 1) := by decide +kernel
theorem dX9_expressed_139 : decode cX9_expressed 139 = .ok (.iload 4, 2) := by decide +kernel
theorem dX9_expressed_141 : decode cX9_expressed 141 = .ok (.ifCond .ne 8, 3) := by decide +kernel
theorem dX9_expressed_144 : decode cX9_expressed 144 = .ok (.iload 5, 2) := by decide +kernel
theorem dX9_expressed_146 : decode cX9_expressed 146 = .ok (.goto 10, 3) := by decide +kernel
theorem dX9_expressed_149 : decode cX9_expressed 149 = .ok (.aload_n 0, 1) := by decide +kernel
theorem dX9_expressed_150 : decode cX9_expressed 150 = .ok (.getfield 59, 3) := by decide +kernel
theorem dX9_expressed_153 : decode cX9_expressed 153 = .ok (.iload 5, 2) := by decide +kernel
theorem dX9_expressed_155 : decode cX9_expressed 155 = .ok (.iaload, 1) := by decide +kernel
theorem dX9_expressed_156 : decode cX9_expressed 156 = .ok (.iastore, 1) := by decide +kernel
theorem dX9_expressed_157 : decode cX9_expressed 157 = .ok (.iinc 2 1, 3) := by decide +kernel
theorem dX9_expressed_160 : decode cX9_expressed 160 = .ok (.iinc 3 1, 3) := by decide +kernel
theorem dX9_expressed_163 : decode cX9_expressed 163 = .ok (.goto (-159), 3) := by decide +kernel
theorem dX9_expressed_166 : decode cX9_expressed 166 = .ok (.aload_n 0, 1) := by decide +kernel
theorem dX9_expressed_167 : decode cX9_expressed 167 = .ok (.getfield 62, 3) := by decide +kernel
theorem dX9_expressed_170 : decode cX9_expressed 170 = .ok (.iconst 0, 1) := by decide +kernel
theorem dX9_expressed_171 : decode cX9_expressed 171 = .ok (.iaload, 1) := by decide +kernel
theorem dX9_expressed_172 : decode cX9_expressed 172 = .ok (.ireturn, 1) := by decide +kernel
theorem bX9_expressed_0 {d : Nat} {Q : Option jA → jH → Prop} (a0 : Nat) (i1 : Int) (u2 : Option jA) (u3 : Option jA) (u4 : Option jA) (u5 : Option jA) (u6 : Option jA) (h : jH)
    (k1 : V MX9_expressed (d + 1) 4 [some (.inr a0), some (.inl i1), some (.inl 0), some (.inl 0), u4, u5, u6] [] h 0 0 Q) :
    V MX9_expressed (d + 1) 0 [some (.inr a0), some (.inl i1), u2, u3, u4, u5, u6] [] h 0 0 Q := by
  refine V_iconst dX9_expressed_0 ⟨by decide, by decide⟩ ?_
  refine V_istore_n (i := 2) dX9_expressed_1 rfl (by decide) ?_
  refine V_iconst dX9_expressed_2 ⟨by decide, by decide⟩ ?_
  refine V_istore_n (i := 3) dX9_expressed_3 rfl (by decide) ?_
  exact k1
theorem bX9_expressed_4 {d : Nat} {Q : Option jA → jH → Prop} (a0 : Nat) (i1 : Int) (i2 : Int) (i3 : Int) (u4 : Option jA) (u5 : Option jA) (u6 : Option jA) (h : jH)
    (s1 : (jS h a0).1 = 9)
    (s2 : (jS h (jP h a0 8)).1 = 16)
    (s3 : 0 ≤ i1)
    (s4 : i1 < ((jS h (jP h a0 8)).2 : Int))
    (s5 : (jS h (jP h a0 37)).1 = 16)
    (s6 : ((jX h (jP h a0 8) ((i1).toNat)) ≤ i3) → 0 < ((jS h (jP h a0 37)).2 : Int))
    (q1 : ((jX h (jP h a0 8) ((i1).toNat)) ≤ i3) → Q (some (.inl (jX h (jP h a0 37) 0))) h)
    (r1 : (¬ ((jX h (jP h a0 8) ((i1).toNat)) ≤ i3)) → jR (40 * i1))
    (r2 : (¬ ((jX h (jP h a0 8) ((i1).toNat)) ≤ i3)) → jR (2 * i3))
    (r3 : (¬ ((jX h (jP h a0 8) ((i1).toNat)) ≤ i3)) → jR ((40 * i1) + (2 * i3)))
    (s7 : (jS h (jP h a0 7)).1 = 16)
    (s8 : (¬ ((jX h (jP h a0 8) ((i1).toNat)) ≤ i3)) → 0 ≤ (40 * i1) + (2 * i3))
    (s9 : (¬ ((jX h (jP h a0 8) ((i1).toNat)) ≤ i3)) → (40 * i1) + (2 * i3) < ((jS h (jP h a0 7)).2 : Int))
    (r4 : (¬ ((jX h (jP h a0 8) ((i1).toNat)) ≤ i3)) → jR (40 * i1))
    (r5 : (¬ ((jX h (jP h a0 8) ((i1).toNat)) ≤ i3)) → jR (2 * i3))
    (r6 : (¬ ((jX h (jP h a0 8) ((i1).toNat)) ≤ i3)) → jR ((40 * i1) + (2 * i3)))
    (r7 : (¬ ((jX h (jP h a0 8) ((i1).toNat)) ≤ i3)) → jR (((40 * i1) + (2 * i3)) + 1))
    (s10 : (¬ ((jX h (jP h a0 8) ((i1).toNat)) ≤ i3)) → 0 ≤ ((40 * i1) + (2 * i3)) + 1)
    (s11 : (¬ ((jX h (jP h a0 8) ((i1).toNat)) ≤ i3)) → ((40 * i1) + (2 * i3)) + 1 < ((jS h (jP h a0 7)).2 : Int))
    (s12 : (jS h (jP h a0 36)).1 = 16)
    (s13 : (¬ ((jX h (jP h a0 8) ((i1).toNat)) ≤ i3)) → ((jX h (jP h a0 7) (((40 * i1) + (2 * i3)).toNat)) ≠ 2) → ((jX h (jP h a0 7) (((40 * i1) + (2 * i3)).toNat)) ≠ 3) → ((jX h (jP h a0 7) (((40 * i1) + (2 * i3)).toNat)) ≠ 0) → 0 ≤ jX h (jP h a0 7) ((((40 * i1) + (2 * i3)) + 1).toNat))
    (s14 : (¬ ((jX h (jP h a0 8) ((i1).toNat)) ≤ i3)) → ((jX h (jP h a0 7) (((40 * i1) + (2 * i3)).toNat)) ≠ 2) → ((jX h (jP h a0 7) (((40 * i1) + (2 * i3)).toNat)) ≠ 3) → ((jX h (jP h a0 7) (((40 * i1) + (2 * i3)).toNat)) ≠ 0) → jX h (jP h a0 7) ((((40 * i1) + (2 * i3)) + 1).toNat) < ((jS h (jP h a0 36)).2 : Int))
    (k1 : (¬ ((jX h (jP h a0 8) ((i1).toNat)) ≤ i3)) → ((jX h (jP h a0 7) (((40 * i1) + (2 * i3)).toNat)) ≠ 2) → ((jX h (jP h a0 7) (((40 * i1) + (2 * i3)).toNat)) ≠ 3) → ((jX h (jP h a0 7) (((40 * i1) + (2 * i3)).toNat)) ≠ 0) → V MX9_expressed (d + 1) 156 [some (.inr a0), some (.inl i1), some (.inl i2), some (.inl i3), some (.inl (jX h (jP h a0 7) (((40 * i1) + (2 * i3)).toNat))), some (.inl (jX h (jP h a0 7) ((((40 * i1) + (2 * i3)) + 1).toNat))), u6] [.inl (jX h (jP h a0 36) ((jX h (jP h a0 7) ((((40 * i1) + (2 * i3)) + 1).toNat)).toNat)), .inl i2, .inr (jP h a0 37)] h 0 0 Q)
    (k2 : (¬ ((jX h (jP h a0 8) ((i1).toNat)) ≤ i3)) → ((jX h (jP h a0 7) (((40 * i1) + (2 * i3)).toNat)) ≠ 2) → ((jX h (jP h a0 7) (((40 * i1) + (2 * i3)).toNat)) ≠ 3) → ((jX h (jP h a0 7) (((40 * i1) + (2 * i3)).toNat)) = 0) → V MX9_expressed (d + 1) 156 [some (.inr a0), some (.inl i1), some (.inl i2), some (.inl i3), some (.inl (jX h (jP h a0 7) (((40 * i1) + (2 * i3)).toNat))), some (.inl (jX h (jP h a0 7) ((((40 * i1) + (2 * i3)) + 1).toNat))), u6] [.inl (jX h (jP h a0 7) ((((40 * i1) + (2 * i3)) + 1).toNat)), .inl i2, .inr (jP h a0 37)] h 0 0 Q)
    (r8 : (¬ ((jX h (jP h a0 8) ((i1).toNat)) ≤ i3)) → ((jX h (jP h a0 7) (((40 * i1) + (2 * i3)).toNat)) ≠ 2) → ((jX h (jP h a0 7) (((40 * i1) + (2 * i3)).toNat)) = 3) → jR (i2 + (-1)))
    (r9 : (¬ ((jX h (jP h a0 8) ((i1).toNat)) ≤ i3)) → ((jX h (jP h a0 7) (((40 * i1) + (2 * i3)).toNat)) ≠ 2) → ((jX h (jP h a0 7) (((40 * i1) + (2 * i3)).toNat)) = 3) → jR ((i2 + (-1)) - 1))
    (r10 : (¬ ((jX h (jP h a0 8) ((i1).toNat)) ≤ i3)) → ((jX h (jP h a0 7) (((40 * i1) + (2 * i3)).toNat)) ≠ 2) → ((jX h (jP h a0 7) (((40 * i1) + (2 * i3)).toNat)) = 3) → jR ((i2 + (-1)) - 1))
    (s15 : (¬ ((jX h (jP h a0 8) ((i1).toNat)) ≤ i3)) → ((jX h (jP h a0 7) (((40 * i1) + (2 * i3)).toNat)) ≠ 2) → ((jX h (jP h a0 7) (((40 * i1) + (2 * i3)).toNat)) = 3) → 0 ≤ (i2 + (-1)) - 1)
    (s16 : (¬ ((jX h (jP h a0 8) ((i1).toNat)) ≤ i3)) → ((jX h (jP h a0 7) (((40 * i1) + (2 * i3)).toNat)) ≠ 2) → ((jX h (jP h a0 7) (((40 * i1) + (2 * i3)).toNat)) = 3) → (i2 + (-1)) - 1 < ((jS h (jP h a0 37)).2 : Int))
    (s17 : (¬ ((jX h (jP h a0 8) ((i1).toNat)) ≤ i3)) → ((jX h (jP h a0 7) (((40 * i1) + (2 * i3)).toNat)) ≠ 2) → ((jX h (jP h a0 7) (((40 * i1) + (2 * i3)).toNat)) = 3) → 0 ≤ i2 + (-1))
    (s18 : (¬ ((jX h (jP h a0 8) ((i1).toNat)) ≤ i3)) → ((jX h (jP h a0 7) (((40 * i1) + (2 * i3)).toNat)) ≠ 2) → ((jX h (jP h a0 7) (((40 * i1) + (2 * i3)).toNat)) = 3) → i2 + (-1) < ((jS h (jP h a0 37)).2 : Int))
    (s19 : (¬ ((jX h (jP h a0 8) ((i1).toNat)) ≤ i3)) → ((jX h (jP h a0 7) (((40 * i1) + (2 * i3)).toNat)) ≠ 2) → ((jX h (jP h a0 7) (((40 * i1) + (2 * i3)).toNat)) = 3) → -7 ≤ (jX h (jP h a0 37) (((i2 + (-1)) - 1).toNat)))
    (s20 : (¬ ((jX h (jP h a0 8) ((i1).toNat)) ≤ i3)) → ((jX h (jP h a0 7) (((40 * i1) + (2 * i3)).toNat)) ≠ 2) → ((jX h (jP h a0 7) (((40 * i1) + (2 * i3)).toNat)) = 3) → (jX h (jP h a0 37) (((i2 + (-1)) - 1).toNat)) ≤ 255)
    (s21 : (¬ ((jX h (jP h a0 8) ((i1).toNat)) ≤ i3)) → ((jX h (jP h a0 7) (((40 * i1) + (2 * i3)).toNat)) ≠ 2) → ((jX h (jP h a0 7) (((40 * i1) + (2 * i3)).toNat)) = 3) → -7 ≤ (jX h (jP h a0 37) ((i2 + (-1)).toNat)))
    (s22 : (¬ ((jX h (jP h a0 8) ((i1).toNat)) ≤ i3)) → ((jX h (jP h a0 7) (((40 * i1) + (2 * i3)).toNat)) ≠ 2) → ((jX h (jP h a0 7) (((40 * i1) + (2 * i3)).toNat)) = 3) → (jX h (jP h a0 37) ((i2 + (-1)).toNat)) ≤ 255)
    (k3 : (¬ ((jX h (jP h a0 8) ((i1).toNat)) ≤ i3)) → ((jX h (jP h a0 7) (((40 * i1) + (2 * i3)).toNat)) ≠ 2) → ((jX h (jP h a0 7) (((40 * i1) + (2 * i3)).toNat)) = 3) → V MX9_expressed (d + 1) 160 [some (.inr a0), some (.inl i1), some (.inl (i2 + (-1))), some (.inl i3), some (.inl (jX h (jP h a0 7) (((40 * i1) + (2 * i3)).toNat))), some (.inl (jX h (jP h a0 7) ((((40 * i1) + (2 * i3)) + 1).toNat))), u6] [] (jsX h (jP h a0 37) (((i2 + (-1)) - 1).toNat) (jop (jX h (jP h a0 7) ((((40 * i1) + (2 * i3)) + 1).toNat)) (jX h (jP h a0 37) (((i2 + (-1)) - 1).toNat)) (jX h (jP h a0 37) ((i2 + (-1)).toNat)))) 0 0 Q)
    (r11 : (¬ ((jX h (jP h a0 8) ((i1).toNat)) ≤ i3)) → ((jX h (jP h a0 7) (((40 * i1) + (2 * i3)).toNat)) = 2) → jR (i2 - 1))
    (s23 : (¬ ((jX h (jP h a0 8) ((i1).toNat)) ≤ i3)) → ((jX h (jP h a0 7) (((40 * i1) + (2 * i3)).toNat)) = 2) → 0 ≤ i2 - 1)
    (s24 : (¬ ((jX h (jP h a0 8) ((i1).toNat)) ≤ i3)) → ((jX h (jP h a0 7) (((40 * i1) + (2 * i3)).toNat)) = 2) → i2 - 1 < ((jS h (jP h a0 37)).2 : Int))
    (r12 : (¬ ((jX h (jP h a0 8) ((i1).toNat)) ≤ i3)) → ((jX h (jP h a0 7) (((40 * i1) + (2 * i3)).toNat)) = 2) → jR (i2 - 1))
    (k4 : (¬ ((jX h (jP h a0 8) ((i1).toNat)) ≤ i3)) → ((jX h (jP h a0 7) (((40 * i1) + (2 * i3)).toNat)) = 2) → ((jX h (jP h a0 37) ((i2 - 1).toNat)) ≠ ((-7))) → ((jX h (jP h a0 37) ((i2 - 1).toNat)) ≠ 0) → V MX9_expressed (d + 1) 91 [some (.inr a0), some (.inl i1), some (.inl i2), some (.inl i3), some (.inl (jX h (jP h a0 7) (((40 * i1) + (2 * i3)).toNat))), some (.inl (jX h (jP h a0 7) ((((40 * i1) + (2 * i3)) + 1).toNat))), some (.inl (jX h (jP h a0 37) ((i2 - 1).toNat)))] [.inl 0, .inl (i2 - 1), .inr (jP h a0 37)] h 0 0 Q)
    (k5 : (¬ ((jX h (jP h a0 8) ((i1).toNat)) ≤ i3)) → ((jX h (jP h a0 7) (((40 * i1) + (2 * i3)).toNat)) = 2) → ((jX h (jP h a0 37) ((i2 - 1).toNat)) ≠ ((-7))) → ((jX h (jP h a0 37) ((i2 - 1).toNat)) = 0) → V MX9_expressed (d + 1) 91 [some (.inr a0), some (.inl i1), some (.inl i2), some (.inl i3), some (.inl (jX h (jP h a0 7) (((40 * i1) + (2 * i3)).toNat))), some (.inl (jX h (jP h a0 7) ((((40 * i1) + (2 * i3)) + 1).toNat))), some (.inl (jX h (jP h a0 37) ((i2 - 1).toNat)))] [.inl 1, .inl (i2 - 1), .inr (jP h a0 37)] h 0 0 Q)
    (k6 : (¬ ((jX h (jP h a0 8) ((i1).toNat)) ≤ i3)) → ((jX h (jP h a0 7) (((40 * i1) + (2 * i3)).toNat)) = 2) → ((jX h (jP h a0 37) ((i2 - 1).toNat)) = ((-7))) → V MX9_expressed (d + 1) 91 [some (.inr a0), some (.inl i1), some (.inl i2), some (.inl i3), some (.inl (jX h (jP h a0 7) (((40 * i1) + (2 * i3)).toNat))), some (.inl (jX h (jP h a0 7) ((((40 * i1) + (2 * i3)) + 1).toNat))), some (.inl (jX h (jP h a0 37) ((i2 - 1).toNat)))] [.inl ((-7)), .inl (i2 - 1), .inr (jP h a0 37)] h 0 0 Q) :
    V MX9_expressed (d + 1) 4 [some (.inr a0), some (.inl i1), some (.inl i2), some (.inl i3), u4, u5, u6] [] h 0 0 Q := by
  refine V_iload_n (i := 3) dX9_expressed_4 rfl rfl ?_
  refine V_aload_n (i := 0) dX9_expressed_5 rfl rfl ?_
  refine V_getP dX9_expressed_6 fX9_22 rfl s1 ?_
  refine V_iload_n (i := 1) dX9_expressed_9 rfl rfl ?_
  refine V_iald dX9_expressed_10 s2 s3 s4 ?_
  refine V_icmp_ge (tgt := 166) dX9_expressed_11 (by decide) (fun c1 => ?_) (fun c1 => ?_)
  · refine V_aload_n (i := 0) dX9_expressed_166 rfl rfl ?_
    refine V_getP dX9_expressed_167 fX9_62 rfl s1 ?_
    refine V_iconst dX9_expressed_170 ⟨by decide, by decide⟩ ?_
    refine V_iald dX9_expressed_171 s5 (by decide) (s6 c1) ?_
    exact V_reti rfl dX9_expressed_172 (q1 c1)
  · refine V_aload_n (i := 0) dX9_expressed_14 rfl rfl ?_
    refine V_getP dX9_expressed_15 fX9_19 rfl s1 ?_
    refine V_bipush dX9_expressed_18 (by decide +kernel) ⟨by decide, by decide⟩ ?_
    refine V_iload_n (i := 1) dX9_expressed_20 rfl rfl ?_
    refine V_imul dX9_expressed_21 (r1 c1) ?_
    refine V_iconst dX9_expressed_22 ⟨by decide, by decide⟩ ?_
    refine V_iload_n (i := 3) dX9_expressed_23 rfl rfl ?_
    refine V_imul dX9_expressed_24 (r2 c1) ?_
    refine V_iadd dX9_expressed_25 (r3 c1) ?_
    refine V_iald dX9_expressed_26 s7 (s8 c1) (s9 c1) ?_
    refine V_istore (i := 4) dX9_expressed_27 (by decide) ?_
    refine V_aload_n (i := 0) dX9_expressed_29 rfl rfl ?_
    refine V_getP dX9_expressed_30 fX9_19 rfl s1 ?_
    refine V_bipush dX9_expressed_33 (by decide +kernel) ⟨by decide, by decide⟩ ?_
    refine V_iload_n (i := 1) dX9_expressed_35 rfl rfl ?_
    refine V_imul dX9_expressed_36 (r4 c1) ?_
    refine V_iconst dX9_expressed_37 ⟨by decide, by decide⟩ ?_
    refine V_iload_n (i := 3) dX9_expressed_38 rfl rfl ?_
    refine V_imul dX9_expressed_39 (r5 c1) ?_
    refine V_iadd dX9_expressed_40 (r6 c1) ?_
    refine V_iconst dX9_expressed_41 ⟨by decide, by decide⟩ ?_
    refine V_iadd dX9_expressed_42 (r7 c1) ?_
    refine V_iald dX9_expressed_43 s7 (s10 c1) (s11 c1) ?_
    refine V_istore (i := 5) dX9_expressed_44 (by decide) ?_
    refine V_iload (i := 4) dX9_expressed_46 rfl ?_
    refine V_iconst dX9_expressed_48 ⟨by decide, by decide⟩ ?_
    refine V_icmp_ne (tgt := 95) dX9_expressed_49 (by decide) (fun c2 => ?_) (fun c2 => ?_)
    · refine V_iload (i := 4) dX9_expressed_95 rfl ?_
      refine V_iconst dX9_expressed_97 ⟨by decide, by decide⟩ ?_
      refine V_icmp_ne (tgt := 134) dX9_expressed_98 (by decide) (fun c3 => ?_) (fun c3 => ?_)
      · refine V_aload_n (i := 0) dX9_expressed_134 rfl rfl ?_
        refine V_getP dX9_expressed_135 fX9_62 rfl s1 ?_
        refine V_iload_n (i := 2) dX9_expressed_138 rfl rfl ?_
        refine V_iload (i := 4) dX9_expressed_139 rfl ?_
        refine V_if_ne (tgt := 149) dX9_expressed_141 (by decide) (fun c4 => ?_) (fun c4 => ?_)
        · refine V_aload_n (i := 0) dX9_expressed_149 rfl rfl ?_
          refine V_getP dX9_expressed_150 fX9_59 rfl s1 ?_
          refine V_iload (i := 5) dX9_expressed_153 rfl ?_
          refine V_iald dX9_expressed_155 s12 (s13 c1 c2 c3 c4) (s14 c1 c2 c3 c4) ?_
          exact (k1 c1 c2 c3 c4)
        · refine V_iload (i := 5) dX9_expressed_144 rfl ?_
          refine V_goto (tgt := 156) dX9_expressed_146 (by decide) ?_
          exact (k2 c1 c2 c3 c4)
      · refine V_iinc (i := 2) dX9_expressed_101 rfl (by decide) (r8 c1 c2 c3) ?_
        refine V_aload_n (i := 0) dX9_expressed_104 rfl rfl ?_
        refine V_getP dX9_expressed_105 fX9_62 rfl s1 ?_
        refine V_iload_n (i := 2) dX9_expressed_108 rfl rfl ?_
        refine V_iconst dX9_expressed_109 ⟨by decide, by decide⟩ ?_
        refine V_isub dX9_expressed_110 (r9 c1 c2 c3) ?_
        refine V_aload_n (i := 0) dX9_expressed_111 rfl rfl ?_
        refine V_getP dX9_expressed_112 fX9_62 rfl s1 ?_
        refine V_iload_n (i := 2) dX9_expressed_115 rfl rfl ?_
        refine V_iconst dX9_expressed_116 ⟨by decide, by decide⟩ ?_
        refine V_isub dX9_expressed_117 (r10 c1 c2 c3) ?_
        refine V_iald dX9_expressed_118 s5 (s15 c1 c2 c3) (s16 c1 c2 c3) ?_
        refine V_aload_n (i := 0) dX9_expressed_119 rfl rfl ?_
        refine V_getP dX9_expressed_120 fX9_62 rfl s1 ?_
        refine V_iload_n (i := 2) dX9_expressed_123 rfl rfl ?_
        refine V_iald dX9_expressed_124 s5 (s17 c1 c2 c3) (s18 c1 c2 c3) ?_
        refine V_iload (i := 5) dX9_expressed_125 rfl ?_
        refine V_callS (M := MX9_expressed) (d := (d + 1)) (mc' := 0) (ms' := 0) (mc := 0) (ms := 0) (a := 0) (As := [.inl (jX h (jP h a0 37) (((i2 + (-1)) - 1).toNat)), .inl (jX h (jP h a0 37) ((i2 + (-1)).toNat)), .inl (jX h (jP h a0 7) ((((40 * i1) + (2 * i3)) + 1).toNat))]) (rest := [.inl ((i2 + (-1)) - 1), .inr (jP h a0 37)]) dX9_expressed_127 tX9_worked sX9_worked lX9_242 rfl rfl (Nat.le_of_ble_eq_true rfl) (show d + 1 ≤ (d + 1) by omega) (Ex.mono (pX9_worked (d := d) (s19 c1 c2 c3) (s20 c1 c2 c3) (s21 c1 c2 c3) (s22 c1 c2 c3)) ?_)
        intro v h2 hq
        rw [hq.1, hq.2]
        show V MX9_expressed (d + 1) 130 [some (.inr a0), some (.inl i1), some (.inl (i2 + (-1))), some (.inl i3), some (.inl (jX h (jP h a0 7) (((40 * i1) + (2 * i3)).toNat))), some (.inl (jX h (jP h a0 7) ((((40 * i1) + (2 * i3)) + 1).toNat))), u6] [.inl (jop (jX h (jP h a0 7) ((((40 * i1) + (2 * i3)) + 1).toNat)) (jX h (jP h a0 37) (((i2 + (-1)) - 1).toNat)) (jX h (jP h a0 37) ((i2 + (-1)).toNat))), .inl ((i2 + (-1)) - 1), .inr (jP h a0 37)] h 0 0 Q
        refine V_iast dX9_expressed_130 s5 (s15 c1 c2 c3) (s16 c1 c2 c3) ?_
        refine V_goto (tgt := 160) dX9_expressed_131 (by decide) ?_
        exact (k3 c1 c2 c3)
    · refine V_aload_n (i := 0) dX9_expressed_52 rfl rfl ?_
      refine V_getP dX9_expressed_53 fX9_62 rfl s1 ?_
      refine V_iload_n (i := 2) dX9_expressed_56 rfl rfl ?_
      refine V_iconst dX9_expressed_57 ⟨by decide, by decide⟩ ?_
      refine V_isub dX9_expressed_58 (r11 c1 c2) ?_
      refine V_iald dX9_expressed_59 s5 (s23 c1 c2) (s24 c1 c2) ?_
      refine V_istore (i := 6) dX9_expressed_60 (by decide) ?_
      refine V_aload_n (i := 0) dX9_expressed_62 rfl rfl ?_
      refine V_getP dX9_expressed_63 fX9_62 rfl s1 ?_
      refine V_iload_n (i := 2) dX9_expressed_66 rfl rfl ?_
      refine V_iconst dX9_expressed_67 ⟨by decide, by decide⟩ ?_
      refine V_isub dX9_expressed_68 (r12 c1 c2) ?_
      refine V_iload (i := 6) dX9_expressed_69 rfl ?_
      refine V_bipush dX9_expressed_71 (by decide +kernel) ⟨by decide, by decide⟩ ?_
      refine V_icmp_ne (tgt := 81) dX9_expressed_73 (by decide) (fun c5 => ?_) (fun c5 => ?_)
      · refine V_iload (i := 6) dX9_expressed_81 rfl ?_
        refine V_if_ne (tgt := 90) dX9_expressed_83 (by decide) (fun c6 => ?_) (fun c6 => ?_)
        · refine V_iconst dX9_expressed_90 ⟨by decide, by decide⟩ ?_
          exact (k4 c1 c2 c5 c6)
        · refine V_iconst dX9_expressed_86 ⟨by decide, by decide⟩ ?_
          refine V_goto (tgt := 91) dX9_expressed_87 (by decide) ?_
          exact (k5 c1 c2 c5 c6)
      · refine V_bipush dX9_expressed_76 (by decide +kernel) ⟨by decide, by decide⟩ ?_
        refine V_goto (tgt := 91) dX9_expressed_78 (by decide) ?_
        exact (k6 c1 c2 c5)
theorem bX9_expressed_91 {d : Nat} {Q : Option jA → jH → Prop} (a0 : Nat) (i1 : Int) (i2 : Int) (i3 : Int) (i4 : Int) (i5 : Int) (i6 : Int) (p0 : Int) (p1 : Int) (q2 : Nat) (h : jH)
    (s1 : (jS h q2).1 = 16)
    (s2 : 0 ≤ p1)
    (s3 : p1 < ((jS h q2).2 : Int))
    (k1 : V MX9_expressed (d + 1) 160 [some (.inr a0), some (.inl i1), some (.inl i2), some (.inl i3), some (.inl i4), some (.inl i5), some (.inl i6)] [] (jsX h q2 ((p1).toNat) p0) 0 0 Q) :
    V MX9_expressed (d + 1) 91 [some (.inr a0), some (.inl i1), some (.inl i2), some (.inl i3), some (.inl i4), some (.inl i5), some (.inl i6)] [.inl p0, .inl p1, .inr q2] h 0 0 Q := by
  refine V_iast dX9_expressed_91 s1 s2 s3 ?_
  refine V_goto (tgt := 160) dX9_expressed_92 (by decide) ?_
  exact k1
theorem bX9_expressed_156 {d : Nat} {Q : Option jA → jH → Prop} (a0 : Nat) (i1 : Int) (i2 : Int) (i3 : Int) (i4 : Int) (i5 : Int) (u6 : Option jA) (p0 : Int) (p1 : Int) (q2 : Nat) (h : jH)
    (s1 : (jS h q2).1 = 16)
    (s2 : 0 ≤ p1)
    (s3 : p1 < ((jS h q2).2 : Int))
    (r1 : jR (i2 + 1))
    (k1 : V MX9_expressed (d + 1) 160 [some (.inr a0), some (.inl i1), some (.inl (i2 + 1)), some (.inl i3), some (.inl i4), some (.inl i5), u6] [] (jsX h q2 ((p1).toNat) p0) 0 0 Q) :
    V MX9_expressed (d + 1) 156 [some (.inr a0), some (.inl i1), some (.inl i2), some (.inl i3), some (.inl i4), some (.inl i5), u6] [.inl p0, .inl p1, .inr q2] h 0 0 Q := by
  refine V_iast dX9_expressed_156 s1 s2 s3 ?_
  refine V_iinc (i := 2) dX9_expressed_157 rfl (by decide) r1 ?_
  exact k1
theorem bX9_expressed_160 {d : Nat} {Q : Option jA → jH → Prop} (a0 : Nat) (i1 : Int) (i2 : Int) (i3 : Int) (i4 : Int) (i5 : Int) (u6 : Option jA) (h : jH)
    (r1 : jR (i3 + 1))
    (k1 : V MX9_expressed (d + 1) 4 [some (.inr a0), some (.inl i1), some (.inl i2), some (.inl (i3 + 1)), some (.inl i4), some (.inl i5), u6] [] h 0 0 Q) :
    V MX9_expressed (d + 1) 160 [some (.inr a0), some (.inl i1), some (.inl i2), some (.inl i3), some (.inl i4), some (.inl i5), u6] [] h 0 0 Q := by
  refine V_iinc (i := 3) dX9_expressed_160 rfl (by decide) r1 ?_
  refine V_goto (tgt := 4) dX9_expressed_163 (by decide) ?_
  exact k1
theorem dX9_laysNodes_0 : decode cX9_laysNodes 0 = .ok (.iconst 0, 1) := by decide +kernel
theorem dX9_laysNodes_1 : decode cX9_laysNodes 1 = .ok (.istore_n 1, 1) := by decide +kernel
theorem dX9_laysNodes_2 : decode cX9_laysNodes 2 = .ok (.iload_n 1, 1) := by decide +kernel
theorem dX9_laysNodes_3 : decode cX9_laysNodes 3 = .ok (.aload_n 0, 1) := by decide +kernel
theorem dX9_laysNodes_4 : decode cX9_laysNodes 4 = .ok (.getfield 212, 3) := by decide +kernel
theorem dX9_laysNodes_7 : decode cX9_laysNodes 7 = .ok (.if_icmp .ge 72, 3) := by decide +kernel
theorem dX9_laysNodes_10 : decode cX9_laysNodes 10 = .ok (.aload_n 0, 1) := by decide +kernel
theorem dX9_laysNodes_11 : decode cX9_laysNodes 11 = .ok (.getfield 59, 3) := by decide +kernel
theorem dX9_laysNodes_14 : decode cX9_laysNodes 14 = .ok (.iload_n 1, 1) := by decide +kernel
theorem dX9_laysNodes_15 : decode cX9_laysNodes 15 = .ok (.aload_n 0, 1) := by decide +kernel
theorem dX9_laysNodes_16 : decode cX9_laysNodes 16 = .ok (.iload_n 1, 1) := by decide +kernel
theorem dX9_laysNodes_17 : decode cX9_laysNodes 17 = .ok (.iconst 0, 1) := by decide +kernel
theorem dX9_laysNodes_18 : decode cX9_laysNodes 18 = .ok (.invokevirtual 233, 3) := by decide +kernel
theorem dX9_laysNodes_21 : decode cX9_laysNodes 21 = .ok (.ifCond .ne 17, 3) := by decide +kernel
theorem dX9_laysNodes_24 : decode cX9_laysNodes 24 = .ok (.aload_n 0, 1) := by decide +kernel
theorem dX9_laysNodes_25 : decode cX9_laysNodes 25 = .ok (.getfield 65, 3) := by decide +kernel
theorem dX9_laysNodes_28 : decode cX9_laysNodes 28 = .ok (.aload_n 0, 1) := by decide +kernel
theorem dX9_laysNodes_29 : decode cX9_laysNodes 29 = .ok (.iload_n 1, 1) := by decide +kernel
theorem dX9_laysNodes_30 : decode cX9_laysNodes 30 = .ok (.iconst 5, 1) := by decide +kernel
theorem dX9_laysNodes_31 : decode cX9_laysNodes 31 = .ok (.invokevirtual 233, 3) := by decide +kernel
theorem dX9_laysNodes_34 : decode cX9_laysNodes 34 = .ok (.iaload, 1) := by decide +kernel
theorem dX9_laysNodes_35 : decode cX9_laysNodes 35 = .ok (.goto 37, 3) := by decide +kernel
theorem dX9_laysNodes_38 : decode cX9_laysNodes 38 = .ok (.aload_n 0, 1) := by decide +kernel
theorem dX9_laysNodes_39 : decode cX9_laysNodes 39 = .ok (.iload_n 1, 1) := by decide +kernel
theorem dX9_laysNodes_40 : decode cX9_laysNodes 40 = .ok (.iconst 0, 1) := by decide +kernel
theorem dX9_laysNodes_41 : decode cX9_laysNodes 41 = .ok (.invokevirtual 233, 3) := by decide +kernel
theorem dX9_laysNodes_44 : decode cX9_laysNodes 44 = .ok (.iconst 1, 1) := by decide +kernel
theorem dX9_laysNodes_45 : decode cX9_laysNodes 45 = .ok (.if_icmp .ne 17, 3) := by decide +kernel
theorem dX9_laysNodes_48 : decode cX9_laysNodes 48 = .ok (.aload_n 0, 1) := by decide +kernel
theorem dX9_laysNodes_49 : decode cX9_laysNodes 49 = .ok (.getfield 59, 3) := by decide +kernel
theorem dX9_laysNodes_52 : decode cX9_laysNodes 52 = .ok (.aload_n 0, 1) := by decide +kernel
theorem dX9_laysNodes_53 : decode cX9_laysNodes 53 = .ok (.iload_n 1, 1) := by decide +kernel
theorem dX9_laysNodes_54 : decode cX9_laysNodes 54 = .ok (.iconst 2, 1) := by decide +kernel
theorem dX9_laysNodes_55 : decode cX9_laysNodes 55 = .ok (.invokevirtual 233, 3) := by decide +kernel
theorem dX9_laysNodes_58 : decode cX9_laysNodes 58 = .ok (.iaload, 1) := by decide +kernel
theorem dX9_laysNodes_59 : decode cX9_laysNodes 59 = .ok (.goto 13, 3) := by decide +kernel
theorem dX9_laysNodes_62 : decode cX9_laysNodes 62 = .ok (.aload_n 0, 1) := by decide +kernel
theorem dX9_laysNodes_63 : decode cX9_laysNodes 63 = .ok (.aload_n 0, 1) := by decide +kernel
theorem dX9_laysNodes_64 : decode cX9_laysNodes 64 = .ok (.iload_n 1, 1) := by decide +kernel
theorem dX9_laysNodes_65 : decode cX9_laysNodes 65 = .ok (.iconst 5, 1) := by decide +kernel
theorem dX9_laysNodes_66 : decode cX9_laysNodes 66 = .ok (.invokevirtual 233, 3) := by decide +kernel
theorem dX9_laysNodes_69 : decode cX9_laysNodes 69 = .ok (.invokevirtual 246, 3) := by decide +kernel
theorem dX9_laysNodes_72 : decode cX9_laysNodes 72 = .ok (.iastore, 1) := by decide +kernel
theorem dX9_laysNodes_73 : decode cX9_laysNodes 73 = .ok (.iinc 1 1, 3) := by decide +kernel
theorem dX9_laysNodes_76 : decode cX9_laysNodes 76 = .ok (.goto (-74), 3) := by decide +kernel
theorem dX9_laysNodes_79 : decode cX9_laysNodes 79 = .ok (.return_, 1) := by decide +kernel
theorem bX9_laysNodes_0 {d : Nat} {Q : Option jA → jH → Prop} (a0 : Nat) (u1 : Option jA) (h : jH)
    (k1 : V MX9_laysNodes (d + 2) 2 [some (.inr a0), some (.inl 0)] [] h 0 0 Q) :
    V MX9_laysNodes (d + 2) 0 [some (.inr a0), u1] [] h 0 0 Q := by
  refine V_iconst dX9_laysNodes_0 ⟨by decide, by decide⟩ ?_
  refine V_istore_n (i := 1) dX9_laysNodes_1 rfl (by decide) ?_
  exact k1
theorem bX9_laysNodes_2 {d : Nat} {Q : Option jA → jH → Prop} (a0 : Nat) (i1 : Int) (h : jH)
    (s1 : (jS h a0).1 = 9)
    (q1 : ((jI h a0 1) ≤ i1) → Q none h)
    (s2 : (jS h (jP h a0 0)).1 = 16)
    (s3 : (jS h (jP h a0 0)).2 = 72)
    (s4 : (¬ ((jI h a0 1) ≤ i1)) → 0 ≤ i1)
    (s5 : (¬ ((jI h a0 1) ≤ i1)) → i1 < 12)
    (e1 : (¬ ((jI h a0 1) ≤ i1)) → ((jX h (jP h a0 0) (((6 * i1) + 0).toNat)) ≠ 0) → ((jX h (jP h a0 0) (((6 * i1) + 0).toNat)) ≠ 1) → Ex MX9_expressed (d + 1) [.inr a0, .inl (jX h (jP h a0 0) (((6 * i1) + 5).toNat))] h 0 0 (fun v h2 => V MX9_laysNodes (d + 2) 72 [some (.inr a0), some (.inl i1)] (v.toList ++ [.inl i1, .inr (jP h a0 36)]) h2 0 0 Q))
    (s6 : (jS h (jP h a0 36)).1 = 16)
    (s7 : (¬ ((jI h a0 1) ≤ i1)) → ((jX h (jP h a0 0) (((6 * i1) + 0).toNat)) ≠ 0) → ((jX h (jP h a0 0) (((6 * i1) + 0).toNat)) = 1) → 0 ≤ jX h (jP h a0 0) (((6 * i1) + 2).toNat))
    (s8 : (¬ ((jI h a0 1) ≤ i1)) → ((jX h (jP h a0 0) (((6 * i1) + 0).toNat)) ≠ 0) → ((jX h (jP h a0 0) (((6 * i1) + 0).toNat)) = 1) → jX h (jP h a0 0) (((6 * i1) + 2).toNat) < ((jS h (jP h a0 36)).2 : Int))
    (s9 : (¬ ((jI h a0 1) ≤ i1)) → ((jX h (jP h a0 0) (((6 * i1) + 0).toNat)) ≠ 0) → ((jX h (jP h a0 0) (((6 * i1) + 0).toNat)) = 1) → i1 < ((jS h (jP h a0 36)).2 : Int))
    (r1 : (¬ ((jI h a0 1) ≤ i1)) → ((jX h (jP h a0 0) (((6 * i1) + 0).toNat)) ≠ 0) → ((jX h (jP h a0 0) (((6 * i1) + 0).toNat)) = 1) → jR (i1 + 1))
    (k1 : (¬ ((jI h a0 1) ≤ i1)) → ((jX h (jP h a0 0) (((6 * i1) + 0).toNat)) ≠ 0) → ((jX h (jP h a0 0) (((6 * i1) + 0).toNat)) = 1) → V MX9_laysNodes (d + 2) 2 [some (.inr a0), some (.inl (i1 + 1))] [] (jsX h (jP h a0 36) ((i1).toNat) (jX h (jP h a0 36) ((jX h (jP h a0 0) (((6 * i1) + 2).toNat)).toNat))) 0 0 Q)
    (s10 : (jS h (jP h a0 38)).1 = 16)
    (s11 : (¬ ((jI h a0 1) ≤ i1)) → ((jX h (jP h a0 0) (((6 * i1) + 0).toNat)) = 0) → 0 ≤ jX h (jP h a0 0) (((6 * i1) + 5).toNat))
    (s12 : (¬ ((jI h a0 1) ≤ i1)) → ((jX h (jP h a0 0) (((6 * i1) + 0).toNat)) = 0) → jX h (jP h a0 0) (((6 * i1) + 5).toNat) < ((jS h (jP h a0 38)).2 : Int))
    (s13 : (¬ ((jI h a0 1) ≤ i1)) → ((jX h (jP h a0 0) (((6 * i1) + 0).toNat)) = 0) → i1 < ((jS h (jP h a0 36)).2 : Int))
    (r2 : (¬ ((jI h a0 1) ≤ i1)) → ((jX h (jP h a0 0) (((6 * i1) + 0).toNat)) = 0) → jR (i1 + 1))
    (k2 : (¬ ((jI h a0 1) ≤ i1)) → ((jX h (jP h a0 0) (((6 * i1) + 0).toNat)) = 0) → V MX9_laysNodes (d + 2) 2 [some (.inr a0), some (.inl (i1 + 1))] [] (jsX h (jP h a0 36) ((i1).toNat) (jX h (jP h a0 38) ((jX h (jP h a0 0) (((6 * i1) + 5).toNat)).toNat))) 0 0 Q) :
    V MX9_laysNodes (d + 2) 2 [some (.inr a0), some (.inl i1)] [] h 0 0 Q := by
  refine V_iload_n (i := 1) dX9_laysNodes_2 rfl rfl ?_
  refine V_aload_n (i := 0) dX9_laysNodes_3 rfl rfl ?_
  refine V_getI dX9_laysNodes_4 fX9_212 rfl s1 ?_
  refine V_icmp_ge (tgt := 79) dX9_laysNodes_7 (by decide) (fun c1 => ?_) (fun c1 => ?_)
  · exact V_ret (v := none) rfl rfl dX9_laysNodes_79 trivial rfl (q1 c1)
  · refine V_aload_n (i := 0) dX9_laysNodes_10 rfl rfl ?_
    refine V_getP dX9_laysNodes_11 fX9_59 rfl s1 ?_
    refine V_iload_n (i := 1) dX9_laysNodes_14 rfl rfl ?_
    refine V_aload_n (i := 0) dX9_laysNodes_15 rfl rfl ?_
    refine V_iload_n (i := 1) dX9_laysNodes_16 rfl rfl ?_
    refine V_iconst dX9_laysNodes_17 ⟨by decide, by decide⟩ ?_
    refine V_callV (M := MX9_laysNodes) (d := (d + 2)) (mc' := 0) (ms' := 0) (mc := 0) (ms := 0) (As := [.inl i1, .inl 0]) (rest := [.inl i1, .inr (jP h a0 36)]) dX9_laysNodes_18 tX9_of vX9_of lX9_233 s1 ⟨by decide, rfl⟩ rfl rfl (Nat.le_of_ble_eq_true rfl) (show d + 1 ≤ (d + 2) by omega) (Ex.mono (pX9_of (d := d) s1 s2 s3 (s4 c1) (s5 c1) (by decide) (by decide)) ?_)
    intro v h2 hq
    rw [hq.1, hq.2]
    show V MX9_laysNodes (d + 2) 21 [some (.inr a0), some (.inl i1)] [.inl (jX h (jP h a0 0) (((6 * i1) + 0).toNat)), .inl i1, .inr (jP h a0 36)] h 0 0 Q
    refine V_if_ne (tgt := 38) dX9_laysNodes_21 (by decide) (fun c2 => ?_) (fun c2 => ?_)
    · refine V_aload_n (i := 0) dX9_laysNodes_38 rfl rfl ?_
      refine V_iload_n (i := 1) dX9_laysNodes_39 rfl rfl ?_
      refine V_iconst dX9_laysNodes_40 ⟨by decide, by decide⟩ ?_
      refine V_callV (M := MX9_laysNodes) (d := (d + 2)) (mc' := 0) (ms' := 0) (mc := 0) (ms := 0) (As := [.inl i1, .inl 0]) (rest := [.inl i1, .inr (jP h a0 36)]) dX9_laysNodes_41 tX9_of vX9_of lX9_233 s1 ⟨by decide, rfl⟩ rfl rfl (Nat.le_of_ble_eq_true rfl) (show d + 1 ≤ (d + 2) by omega) (Ex.mono (pX9_of (d := d) s1 s2 s3 (s4 c1) (s5 c1) (by decide) (by decide)) ?_)
      intro v h2 hq
      rw [hq.1, hq.2]
      show V MX9_laysNodes (d + 2) 44 [some (.inr a0), some (.inl i1)] [.inl (jX h (jP h a0 0) (((6 * i1) + 0).toNat)), .inl i1, .inr (jP h a0 36)] h 0 0 Q
      refine V_iconst dX9_laysNodes_44 ⟨by decide, by decide⟩ ?_
      refine V_icmp_ne (tgt := 62) dX9_laysNodes_45 (by decide) (fun c3 => ?_) (fun c3 => ?_)
      · refine V_aload_n (i := 0) dX9_laysNodes_62 rfl rfl ?_
        refine V_aload_n (i := 0) dX9_laysNodes_63 rfl rfl ?_
        refine V_iload_n (i := 1) dX9_laysNodes_64 rfl rfl ?_
        refine V_iconst dX9_laysNodes_65 ⟨by decide, by decide⟩ ?_
        refine V_callV (M := MX9_laysNodes) (d := (d + 2)) (mc' := 0) (ms' := 0) (mc := 0) (ms := 0) (As := [.inl i1, .inl 5]) (rest := [.inr a0, .inl i1, .inr (jP h a0 36)]) dX9_laysNodes_66 tX9_of vX9_of lX9_233 s1 ⟨by decide, rfl⟩ rfl rfl (Nat.le_of_ble_eq_true rfl) (show d + 1 ≤ (d + 2) by omega) (Ex.mono (pX9_of (d := d) s1 s2 s3 (s4 c1) (s5 c1) (by decide) (by decide)) ?_)
        intro v h2 hq
        rw [hq.1, hq.2]
        show V MX9_laysNodes (d + 2) 69 [some (.inr a0), some (.inl i1)] [.inl (jX h (jP h a0 0) (((6 * i1) + 5).toNat)), .inr a0, .inl i1, .inr (jP h a0 36)] h 0 0 Q
        exact V_callV (M := MX9_laysNodes) (d := (d + 2)) (mc' := 0) (ms' := 0) (mc := 0) (ms := 0) (As := [.inl (jX h (jP h a0 0) (((6 * i1) + 5).toNat))]) (rest := [.inl i1, .inr (jP h a0 36)]) dX9_laysNodes_69 tX9_expressed vX9_expressed lX9_246 s1 ⟨by decide, rfl⟩ rfl rfl (Nat.le_of_ble_eq_true rfl) (show (d + 1) + 1 ≤ (d + 2) by omega) (e1 c1 c2 c3)
      · refine V_aload_n (i := 0) dX9_laysNodes_48 rfl rfl ?_
        refine V_getP dX9_laysNodes_49 fX9_59 rfl s1 ?_
        refine V_aload_n (i := 0) dX9_laysNodes_52 rfl rfl ?_
        refine V_iload_n (i := 1) dX9_laysNodes_53 rfl rfl ?_
        refine V_iconst dX9_laysNodes_54 ⟨by decide, by decide⟩ ?_
        refine V_callV (M := MX9_laysNodes) (d := (d + 2)) (mc' := 0) (ms' := 0) (mc := 0) (ms := 0) (As := [.inl i1, .inl 2]) (rest := [.inr (jP h a0 36), .inl i1, .inr (jP h a0 36)]) dX9_laysNodes_55 tX9_of vX9_of lX9_233 s1 ⟨by decide, rfl⟩ rfl rfl (Nat.le_of_ble_eq_true rfl) (show d + 1 ≤ (d + 2) by omega) (Ex.mono (pX9_of (d := d) s1 s2 s3 (s4 c1) (s5 c1) (by decide) (by decide)) ?_)
        intro v h2 hq
        rw [hq.1, hq.2]
        show V MX9_laysNodes (d + 2) 58 [some (.inr a0), some (.inl i1)] [.inl (jX h (jP h a0 0) (((6 * i1) + 2).toNat)), .inr (jP h a0 36), .inl i1, .inr (jP h a0 36)] h 0 0 Q
        refine V_iald dX9_laysNodes_58 s6 (s7 c1 c2 c3) (s8 c1 c2 c3) ?_
        refine V_goto (tgt := 72) dX9_laysNodes_59 (by decide) ?_
        refine V_iast dX9_laysNodes_72 s6 (s4 c1) (s9 c1 c2 c3) ?_
        refine V_iinc (i := 1) dX9_laysNodes_73 rfl (by decide) (r1 c1 c2 c3) ?_
        refine V_goto (tgt := 2) dX9_laysNodes_76 (by decide) ?_
        exact (k1 c1 c2 c3)
    · refine V_aload_n (i := 0) dX9_laysNodes_24 rfl rfl ?_
      refine V_getP dX9_laysNodes_25 fX9_65 rfl s1 ?_
      refine V_aload_n (i := 0) dX9_laysNodes_28 rfl rfl ?_
      refine V_iload_n (i := 1) dX9_laysNodes_29 rfl rfl ?_
      refine V_iconst dX9_laysNodes_30 ⟨by decide, by decide⟩ ?_
      refine V_callV (M := MX9_laysNodes) (d := (d + 2)) (mc' := 0) (ms' := 0) (mc := 0) (ms := 0) (As := [.inl i1, .inl 5]) (rest := [.inr (jP h a0 38), .inl i1, .inr (jP h a0 36)]) dX9_laysNodes_31 tX9_of vX9_of lX9_233 s1 ⟨by decide, rfl⟩ rfl rfl (Nat.le_of_ble_eq_true rfl) (show d + 1 ≤ (d + 2) by omega) (Ex.mono (pX9_of (d := d) s1 s2 s3 (s4 c1) (s5 c1) (by decide) (by decide)) ?_)
      intro v h2 hq
      rw [hq.1, hq.2]
      show V MX9_laysNodes (d + 2) 34 [some (.inr a0), some (.inl i1)] [.inl (jX h (jP h a0 0) (((6 * i1) + 5).toNat)), .inr (jP h a0 38), .inl i1, .inr (jP h a0 36)] h 0 0 Q
      refine V_iald dX9_laysNodes_34 s10 (s11 c1 c2) (s12 c1 c2) ?_
      refine V_goto (tgt := 72) dX9_laysNodes_35 (by decide) ?_
      refine V_iast dX9_laysNodes_72 s6 (s4 c1) (s13 c1 c2) ?_
      refine V_iinc (i := 1) dX9_laysNodes_73 rfl (by decide) (r2 c1 c2) ?_
      refine V_goto (tgt := 2) dX9_laysNodes_76 (by decide) ?_
      exact (k2 c1 c2)
theorem bX9_laysNodes_72 {d : Nat} {Q : Option jA → jH → Prop} (a0 : Nat) (i1 : Int) (p0 : Int) (p1 : Int) (q2 : Nat) (h : jH)
    (s1 : (jS h q2).1 = 16)
    (s2 : 0 ≤ p1)
    (s3 : p1 < ((jS h q2).2 : Int))
    (r1 : jR (i1 + 1))
    (k1 : V MX9_laysNodes (d + 2) 2 [some (.inr a0), some (.inl (i1 + 1))] [] (jsX h q2 ((p1).toNat) p0) 0 0 Q) :
    V MX9_laysNodes (d + 2) 72 [some (.inr a0), some (.inl i1)] [.inl p0, .inl p1, .inr q2] h 0 0 Q := by
  refine V_iast dX9_laysNodes_72 s1 s2 s3 ?_
  refine V_iinc (i := 1) dX9_laysNodes_73 rfl (by decide) r1 ?_
  refine V_goto (tgt := 2) dX9_laysNodes_76 (by decide) ?_
  exact k1
theorem dX9_about_0 : decode cX9_about 0 = .ok (.aload_n 0, 1) := by decide +kernel
theorem dX9_about_1 : decode cX9_about 1 = .ok (.iload_n 1, 1) := by decide +kernel
theorem dX9_about_2 : decode cX9_about 2 = .ok (.invokevirtual 250, 3) := by decide +kernel
theorem dX9_about_5 : decode cX9_about 5 = .ok (.ifCond .eq 12, 3) := by decide +kernel
theorem dX9_about_8 : decode cX9_about 8 = .ok (.iload_n 2, 1) := by decide +kernel
theorem dX9_about_9 : decode cX9_about 9 = .ok (.iconst 0, 1) := by decide +kernel
theorem dX9_about_10 : decode cX9_about 10 = .ok (.iconst 5, 1) := by decide +kernel
theorem dX9_about_11 : decode cX9_about 11 = .ok (.invokestatic 95, 3) := by decide +kernel
theorem dX9_about_14 : decode cX9_about 14 = .ok (.ifCond .ne 5, 3) := by decide +kernel
theorem dX9_about_17 : decode cX9_about 17 = .ok (.iconst (-1), 1) := by decide +kernel
theorem dX9_about_18 : decode cX9_about 18 = .ok (.ireturn, 1) := by decide +kernel
theorem dX9_about_19 : decode cX9_about 19 = .ok (.iload_n 2, 1) := by decide +kernel
theorem dX9_about_20 : decode cX9_about 20 = .ok (.iconst 5, 1) := by decide +kernel
theorem dX9_about_21 : decode cX9_about 21 = .ok (.if_icmp .ne 42, 3) := by decide +kernel
theorem dX9_about_24 : decode cX9_about 24 = .ok (.iconst 0, 1) := by decide +kernel
theorem dX9_about_25 : decode cX9_about 25 = .ok (.istore_n 3, 1) := by decide +kernel
theorem dX9_about_26 : decode cX9_about 26 = .ok (.iload_n 3, 1) := by decide +kernel
theorem dX9_about_27 : decode cX9_about 27 = .ok (.bipush 6, 2) := by decide +kernel
theorem dX9_about_29 : decode cX9_about 29 = .ok (.if_icmp .ge 23, 3) := by decide +kernel
theorem dX9_about_32 : decode cX9_about 32 = .ok (.aload_n 0, 1) := by decide +kernel
theorem dX9_about_33 : decode cX9_about 33 = .ok (.getfield 65, 3) := by decide +kernel
theorem dX9_about_36 : decode cX9_about 36 = .ok (.iload_n 3, 1) := by decide +kernel
theorem dX9_about_37 : decode cX9_about 37 = .ok (.aload_n 0, 1) := by decide +kernel
theorem dX9_about_38 : decode cX9_about 38 = .ok (.getfield 25, 3) := by decide +kernel
theorem dX9_about_41 : decode cX9_about 41 = .ok (.iconst 5, 1) := by decide +kernel
theorem dX9_about_42 : decode cX9_about 42 = .ok (.iload_n 3, 1) := by decide +kernel
theorem dX9_about_43 : decode cX9_about 43 = .ok (.iadd, 1) := by decide +kernel
theorem dX9_about_44 : decode cX9_about 44 = .ok (.iaload, 1) := by decide +kernel
theorem dX9_about_45 : decode cX9_about 45 = .ok (.iastore, 1) := by decide +kernel
theorem dX9_about_46 : decode cX9_about 46 = .ok (.iinc 3 1, 3) := by decide +kernel
theorem dX9_about_49 : decode cX9_about 49 = .ok (.goto (-23), 3) := by decide +kernel
theorem dX9_about_52 : decode cX9_about 52 = .ok (.aload_n 0, 1) := by decide +kernel
theorem dX9_about_53 : decode cX9_about 53 = .ok (.invokevirtual 253, 3) := by decide +kernel
theorem dX9_about_56 : decode cX9_about 56 = .ok (.aload_n 0, 1) := by decide +kernel
theorem dX9_about_57 : decode cX9_about 57 = .ok (.getfield 59, 3) := by decide +kernel
theorem dX9_about_60 : decode cX9_about 60 = .ok (.iload_n 1, 1) := by decide +kernel
theorem dX9_about_61 : decode cX9_about 61 = .ok (.iaload, 1) := by decide +kernel
theorem dX9_about_62 : decode cX9_about 62 = .ok (.ireturn, 1) := by decide +kernel
theorem dX9_about_63 : decode cX9_about 63 = .ok (.aload_n 0, 1) := by decide +kernel
theorem dX9_about_64 : decode cX9_about 64 = .ok (.iload_n 1, 1) := by decide +kernel
theorem dX9_about_65 : decode cX9_about 65 = .ok (.iload_n 2, 1) := by decide +kernel
theorem dX9_about_66 : decode cX9_about 66 = .ok (.invokevirtual 233, 3) := by decide +kernel
theorem dX9_about_69 : decode cX9_about 69 = .ok (.ireturn, 1) := by decide +kernel
theorem bX9_about_0 {d : Nat} {Q : Option jA → jH → Prop} (a0 : Nat) (i1 : Int) (i2 : Int) (u3 : Option jA) (h : jH)
    (s1 : (jS h a0).1 = 9)
    (s2 : 0 ≤ jI h a0 1)
    (s3 : jI h a0 1 ≤ 12)
    (q1 : (¬ (0 ≤ i1 ∧ i1 ≤ (jI h a0 1) - 1)) → Q (some (.inl ((-1)))) h)
    (s4 : (jS h (jP h a0 0)).1 = 16)
    (s5 : (jS h (jP h a0 0)).2 = 72)
    (s6 : (0 ≤ i1 ∧ i1 ≤ (jI h a0 1) - 1) → (0 ≤ i2 ∧ i2 ≤ 5) → (i2 ≠ 5) → 0 ≤ i1)
    (s7 : (0 ≤ i1 ∧ i1 ≤ (jI h a0 1) - 1) → (0 ≤ i2 ∧ i2 ≤ 5) → (i2 ≠ 5) → i1 < 12)
    (s8 : (0 ≤ i1 ∧ i1 ≤ (jI h a0 1) - 1) → (0 ≤ i2 ∧ i2 ≤ 5) → (i2 ≠ 5) → 0 ≤ i2)
    (s9 : (0 ≤ i1 ∧ i1 ≤ (jI h a0 1) - 1) → (0 ≤ i2 ∧ i2 ≤ 5) → (i2 ≠ 5) → i2 < 6)
    (q2 : (0 ≤ i1 ∧ i1 ≤ (jI h a0 1) - 1) → (0 ≤ i2 ∧ i2 ≤ 5) → (i2 ≠ 5) → Q (some (.inl (jX h (jP h a0 0) (((6 * i1) + i2).toNat)))) h)
    (k1 : (0 ≤ i1 ∧ i1 ≤ (jI h a0 1) - 1) → (0 ≤ i2 ∧ i2 ≤ 5) → (i2 = 5) → V MX9_about (d + 3) 26 [some (.inr a0), some (.inl i1), some (.inl i2), some (.inl 0)] [] h 0 0 Q)
    (q3 : (0 ≤ i1 ∧ i1 ≤ (jI h a0 1) - 1) → (¬ (0 ≤ i2 ∧ i2 ≤ 5)) → Q (some (.inl ((-1)))) h) :
    V MX9_about (d + 3) 0 [some (.inr a0), some (.inl i1), some (.inl i2), u3] [] h 0 0 Q := by
  refine V_aload_n (i := 0) dX9_about_0 rfl rfl ?_
  refine V_iload_n (i := 1) dX9_about_1 rfl rfl ?_
  refine V_callV (M := MX9_about) (d := (d + 3)) (mc' := 0) (ms' := 0) (mc := 0) (ms := 0) (As := [.inl i1]) (rest := []) dX9_about_2 tX9_isNode vX9_isNode lX9_250 s1 ⟨by decide, rfl⟩ rfl rfl (Nat.le_of_ble_eq_true rfl) (show (d + 1) + 1 ≤ (d + 3) by omega) (Ex.mono (pX9_isNode (d := d) s1 s2 s3) ?_)
  intro v h2 hq
  rw [hq.1, hq.2]
  show V MX9_about (d + 3) 5 [some (.inr a0), some (.inl i1), some (.inl i2), u3] [.inl (jb (0 ≤ i1 ∧ i1 ≤ (jI h a0 1) - 1))] h 0 0 Q
  refine V_ifb_eq (tgt := 17) dX9_about_5 (by decide) (fun c1 => ?_) (fun c1 => ?_)
  · refine V_iconst dX9_about_17 ⟨by decide, by decide⟩ ?_
    exact V_reti rfl dX9_about_18 (q1 c1)
  · refine V_iload_n (i := 2) dX9_about_8 rfl rfl ?_
    refine V_iconst dX9_about_9 ⟨by decide, by decide⟩ ?_
    refine V_iconst dX9_about_10 ⟨by decide, by decide⟩ ?_
    refine V_callS (M := MX9_about) (d := (d + 3)) (mc' := 0) (ms' := 0) (mc := 0) (ms := 0) (a := 0) (As := [.inl i2, .inl 0, .inl 5]) (rest := []) dX9_about_11 tX9_in sX9_in lX9_95 rfl rfl (Nat.le_of_ble_eq_true rfl) (show d + 1 ≤ (d + 3) by omega) (Ex.mono (pX9_in (d := d) ) ?_)
    intro v h2 hq
    rw [hq.1, hq.2]
    show V MX9_about (d + 3) 14 [some (.inr a0), some (.inl i1), some (.inl i2), u3] [.inl (jb (0 ≤ i2 ∧ i2 ≤ 5))] h 0 0 Q
    refine V_ifb_ne (tgt := 19) dX9_about_14 (by decide) (fun c2 => ?_) (fun c2 => ?_)
    · refine V_iload_n (i := 2) dX9_about_19 rfl rfl ?_
      refine V_iconst dX9_about_20 ⟨by decide, by decide⟩ ?_
      refine V_icmp_ne (tgt := 63) dX9_about_21 (by decide) (fun c3 => ?_) (fun c3 => ?_)
      · refine V_aload_n (i := 0) dX9_about_63 rfl rfl ?_
        refine V_iload_n (i := 1) dX9_about_64 rfl rfl ?_
        refine V_iload_n (i := 2) dX9_about_65 rfl rfl ?_
        refine V_callV (M := MX9_about) (d := (d + 3)) (mc' := 0) (ms' := 0) (mc := 0) (ms := 0) (As := [.inl i1, .inl i2]) (rest := []) dX9_about_66 tX9_of vX9_of lX9_233 s1 ⟨by decide, rfl⟩ rfl rfl (Nat.le_of_ble_eq_true rfl) (show d + 1 ≤ (d + 3) by omega) (Ex.mono (pX9_of (d := d) s1 s4 s5 (s6 c1 c2 c3) (s7 c1 c2 c3) (s8 c1 c2 c3) (s9 c1 c2 c3)) ?_)
        intro v h2 hq
        rw [hq.1, hq.2]
        show V MX9_about (d + 3) 69 [some (.inr a0), some (.inl i1), some (.inl i2), u3] [.inl (jX h (jP h a0 0) (((6 * i1) + i2).toNat))] h 0 0 Q
        exact V_reti rfl dX9_about_69 (q2 c1 c2 c3)
      · refine V_iconst dX9_about_24 ⟨by decide, by decide⟩ ?_
        refine V_istore_n (i := 3) dX9_about_25 rfl (by decide) ?_
        exact (k1 c1 c2 c3)
    · refine V_iconst dX9_about_17 ⟨by decide, by decide⟩ ?_
      exact V_reti rfl dX9_about_18 (q3 c1 c2)
theorem bX9_about_26 {d : Nat} {Q : Option jA → jH → Prop} (a0 : Nat) (i1 : Int) (i2 : Int) (i3 : Int) (h : jH)
    (e1 : (6 ≤ i3) → Ex MX9_laysNodes (d + 2) [.inr a0] h 0 0 (fun v h2 => V MX9_about (d + 3) 56 [some (.inr a0), some (.inl i1), some (.inl i2), some (.inl i3)] (v.toList ++ []) h2 0 0 Q))
    (s1 : (jS h a0).1 = 9)
    (r1 : (¬ (6 ≤ i3)) → jR (5 + i3))
    (s2 : (jS h (jP h a0 9)).1 = 16)
    (s3 : (¬ (6 ≤ i3)) → 0 ≤ 5 + i3)
    (s4 : (¬ (6 ≤ i3)) → 5 + i3 < ((jS h (jP h a0 9)).2 : Int))
    (s5 : (jS h (jP h a0 38)).1 = 16)
    (s6 : (¬ (6 ≤ i3)) → 0 ≤ i3)
    (s7 : (¬ (6 ≤ i3)) → i3 < ((jS h (jP h a0 38)).2 : Int))
    (r2 : (¬ (6 ≤ i3)) → jR (i3 + 1))
    (k1 : (¬ (6 ≤ i3)) → V MX9_about (d + 3) 26 [some (.inr a0), some (.inl i1), some (.inl i2), some (.inl (i3 + 1))] [] (jsX h (jP h a0 38) ((i3).toNat) (jX h (jP h a0 9) ((5 + i3).toNat))) 0 0 Q) :
    V MX9_about (d + 3) 26 [some (.inr a0), some (.inl i1), some (.inl i2), some (.inl i3)] [] h 0 0 Q := by
  refine V_iload_n (i := 3) dX9_about_26 rfl rfl ?_
  refine V_bipush dX9_about_27 (by decide +kernel) ⟨by decide, by decide⟩ ?_
  refine V_icmp_ge (tgt := 52) dX9_about_29 (by decide) (fun c1 => ?_) (fun c1 => ?_)
  · refine V_aload_n (i := 0) dX9_about_52 rfl rfl ?_
    exact V_callV (M := MX9_about) (d := (d + 3)) (mc' := 0) (ms' := 0) (mc := 0) (ms := 0) (As := []) (rest := []) dX9_about_53 tX9_laysNodes vX9_laysNodes lX9_253 s1 ⟨by decide, rfl⟩ rfl rfl (Nat.le_of_ble_eq_true rfl) (show (d + 2) + 1 ≤ (d + 3) by omega) (e1 c1)
  · refine V_aload_n (i := 0) dX9_about_32 rfl rfl ?_
    refine V_getP dX9_about_33 fX9_65 rfl s1 ?_
    refine V_iload_n (i := 3) dX9_about_36 rfl rfl ?_
    refine V_aload_n (i := 0) dX9_about_37 rfl rfl ?_
    refine V_getP dX9_about_38 fX9_25 rfl s1 ?_
    refine V_iconst dX9_about_41 ⟨by decide, by decide⟩ ?_
    refine V_iload_n (i := 3) dX9_about_42 rfl rfl ?_
    refine V_iadd dX9_about_43 (r1 c1) ?_
    refine V_iald dX9_about_44 s2 (s3 c1) (s4 c1) ?_
    refine V_iast dX9_about_45 s5 (s6 c1) (s7 c1) ?_
    refine V_iinc (i := 3) dX9_about_46 rfl (by decide) (r2 c1) ?_
    refine V_goto (tgt := 26) dX9_about_49 (by decide) ?_
    exact (k1 c1)
theorem bX9_about_56 {d : Nat} {Q : Option jA → jH → Prop} (a0 : Nat) (i1 : Int) (i2 : Int) (i3 : Int) (h : jH)
    (s1 : (jS h a0).1 = 9)
    (s2 : (jS h (jP h a0 36)).1 = 16)
    (s3 : 0 ≤ i1)
    (s4 : i1 < ((jS h (jP h a0 36)).2 : Int))
    (q1 : Q (some (.inl (jX h (jP h a0 36) ((i1).toNat)))) h) :
    V MX9_about (d + 3) 56 [some (.inr a0), some (.inl i1), some (.inl i2), some (.inl i3)] [] h 0 0 Q := by
  refine V_aload_n (i := 0) dX9_about_56 rfl rfl ?_
  refine V_getP dX9_about_57 fX9_59 rfl s1 ?_
  refine V_iload_n (i := 1) dX9_about_60 rfl rfl ?_
  refine V_iald dX9_about_61 s2 s3 s4 ?_
  exact V_reti rfl dX9_about_62 q1
theorem dX9_scope_0 : decode cX9_scope 0 = .ok (.iload_n 1, 1) := by decide +kernel
theorem dX9_scope_1 : decode cX9_scope 1 = .ok (.iconst 0, 1) := by decide +kernel
theorem dX9_scope_2 : decode cX9_scope 2 = .ok (.aload_n 0, 1) := by decide +kernel
theorem dX9_scope_3 : decode cX9_scope 3 = .ok (.getfield 221, 3) := by decide +kernel
theorem dX9_scope_6 : decode cX9_scope 6 = .ok (.iconst 1, 1) := by decide +kernel
theorem dX9_scope_7 : decode cX9_scope 7 = .ok (.isub, 1) := by decide +kernel
theorem dX9_scope_8 : decode cX9_scope 8 = .ok (.invokestatic 95, 3) := by decide +kernel
theorem dX9_scope_11 : decode cX9_scope 11 = .ok (.ifCond .eq 12, 3) := by decide +kernel
theorem dX9_scope_14 : decode cX9_scope 14 = .ok (.iload_n 2, 1) := by decide +kernel
theorem dX9_scope_15 : decode cX9_scope 15 = .ok (.iconst 0, 1) := by decide +kernel
theorem dX9_scope_16 : decode cX9_scope 16 = .ok (.iconst 1, 1) := by decide +kernel
theorem dX9_scope_17 : decode cX9_scope 17 = .ok (.invokestatic 95, 3) := by decide +kernel
theorem dX9_scope_20 : decode cX9_scope 20 = .ok (.ifCond .ne 5, 3) := by decide +kernel
theorem dX9_scope_23 : decode cX9_scope 23 = .ok (.iconst (-1), 1) := by decide +kernel
theorem dX9_scope_24 : decode cX9_scope 24 = .ok (.ireturn, 1) := by decide +kernel
theorem dX9_scope_25 : decode cX9_scope 25 = .ok (.iload_n 2, 1) := by decide +kernel
theorem dX9_scope_26 : decode cX9_scope 26 = .ok (.ifCond .ne 12, 3) := by decide +kernel
theorem dX9_scope_29 : decode cX9_scope 29 = .ok (.aload_n 0, 1) := by decide +kernel
theorem dX9_scope_30 : decode cX9_scope 30 = .ok (.getfield 13, 3) := by decide +kernel
theorem dX9_scope_33 : decode cX9_scope 33 = .ok (.iload_n 1, 1) := by decide +kernel
theorem dX9_scope_34 : decode cX9_scope 34 = .ok (.iaload, 1) := by decide +kernel
theorem dX9_scope_35 : decode cX9_scope 35 = .ok (.goto 9, 3) := by decide +kernel
theorem dX9_scope_38 : decode cX9_scope 38 = .ok (.aload_n 0, 1) := by decide +kernel
theorem dX9_scope_39 : decode cX9_scope 39 = .ok (.getfield 16, 3) := by decide +kernel
theorem dX9_scope_42 : decode cX9_scope 42 = .ok (.iload_n 1, 1) := by decide +kernel
theorem dX9_scope_43 : decode cX9_scope 43 = .ok (.iaload, 1) := by decide +kernel
theorem dX9_scope_44 : decode cX9_scope 44 = .ok (.ireturn, 1) := by decide +kernel
theorem bX9_scope_0 {d : Nat} {Q : Option jA → jH → Prop} (a0 : Nat) (i1 : Int) (i2 : Int) (h : jH)
    (s1 : (jS h a0).1 = 9)
    (r1 : jR ((jI h a0 6) - 1))
    (q1 : (¬ (0 ≤ i1 ∧ i1 ≤ ((jI h a0 6) - 1))) → Q (some (.inl ((-1)))) h)
    (s2 : (jS h (jP h a0 5)).1 = 16)
    (s3 : (0 ≤ i1 ∧ i1 ≤ ((jI h a0 6) - 1)) → (0 ≤ i2 ∧ i2 ≤ 1) → (i2 ≠ 0) → 0 ≤ i1)
    (s4 : (0 ≤ i1 ∧ i1 ≤ ((jI h a0 6) - 1)) → (0 ≤ i2 ∧ i2 ≤ 1) → (i2 ≠ 0) → i1 < ((jS h (jP h a0 5)).2 : Int))
    (q2 : (0 ≤ i1 ∧ i1 ≤ ((jI h a0 6) - 1)) → (0 ≤ i2 ∧ i2 ≤ 1) → (i2 ≠ 0) → Q (some (.inl (jX h (jP h a0 5) ((i1).toNat)))) h)
    (s5 : (jS h (jP h a0 4)).1 = 16)
    (s6 : (0 ≤ i1 ∧ i1 ≤ ((jI h a0 6) - 1)) → (0 ≤ i2 ∧ i2 ≤ 1) → (i2 = 0) → 0 ≤ i1)
    (s7 : (0 ≤ i1 ∧ i1 ≤ ((jI h a0 6) - 1)) → (0 ≤ i2 ∧ i2 ≤ 1) → (i2 = 0) → i1 < ((jS h (jP h a0 4)).2 : Int))
    (q3 : (0 ≤ i1 ∧ i1 ≤ ((jI h a0 6) - 1)) → (0 ≤ i2 ∧ i2 ≤ 1) → (i2 = 0) → Q (some (.inl (jX h (jP h a0 4) ((i1).toNat)))) h)
    (q4 : (0 ≤ i1 ∧ i1 ≤ ((jI h a0 6) - 1)) → (¬ (0 ≤ i2 ∧ i2 ≤ 1)) → Q (some (.inl ((-1)))) h) :
    V MX9_scope (d + 1) 0 [some (.inr a0), some (.inl i1), some (.inl i2)] [] h 0 0 Q := by
  refine V_iload_n (i := 1) dX9_scope_0 rfl rfl ?_
  refine V_iconst dX9_scope_1 ⟨by decide, by decide⟩ ?_
  refine V_aload_n (i := 0) dX9_scope_2 rfl rfl ?_
  refine V_getI dX9_scope_3 fX9_221 rfl s1 ?_
  refine V_iconst dX9_scope_6 ⟨by decide, by decide⟩ ?_
  refine V_isub dX9_scope_7 r1 ?_
  refine V_callS (M := MX9_scope) (d := (d + 1)) (mc' := 0) (ms' := 0) (mc := 0) (ms := 0) (a := 0) (As := [.inl i1, .inl 0, .inl ((jI h a0 6) - 1)]) (rest := []) dX9_scope_8 tX9_in sX9_in lX9_95 rfl rfl (Nat.le_of_ble_eq_true rfl) (show d + 1 ≤ (d + 1) by omega) (Ex.mono (pX9_in (d := d) ) ?_)
  intro v h2 hq
  rw [hq.1, hq.2]
  show V MX9_scope (d + 1) 11 [some (.inr a0), some (.inl i1), some (.inl i2)] [.inl (jb (0 ≤ i1 ∧ i1 ≤ ((jI h a0 6) - 1)))] h 0 0 Q
  refine V_ifb_eq (tgt := 23) dX9_scope_11 (by decide) (fun c1 => ?_) (fun c1 => ?_)
  · refine V_iconst dX9_scope_23 ⟨by decide, by decide⟩ ?_
    exact V_reti rfl dX9_scope_24 (q1 c1)
  · refine V_iload_n (i := 2) dX9_scope_14 rfl rfl ?_
    refine V_iconst dX9_scope_15 ⟨by decide, by decide⟩ ?_
    refine V_iconst dX9_scope_16 ⟨by decide, by decide⟩ ?_
    refine V_callS (M := MX9_scope) (d := (d + 1)) (mc' := 0) (ms' := 0) (mc := 0) (ms := 0) (a := 0) (As := [.inl i2, .inl 0, .inl 1]) (rest := []) dX9_scope_17 tX9_in sX9_in lX9_95 rfl rfl (Nat.le_of_ble_eq_true rfl) (show d + 1 ≤ (d + 1) by omega) (Ex.mono (pX9_in (d := d) ) ?_)
    intro v h2 hq
    rw [hq.1, hq.2]
    show V MX9_scope (d + 1) 20 [some (.inr a0), some (.inl i1), some (.inl i2)] [.inl (jb (0 ≤ i2 ∧ i2 ≤ 1))] h 0 0 Q
    refine V_ifb_ne (tgt := 25) dX9_scope_20 (by decide) (fun c2 => ?_) (fun c2 => ?_)
    · refine V_iload_n (i := 2) dX9_scope_25 rfl rfl ?_
      refine V_if_ne (tgt := 38) dX9_scope_26 (by decide) (fun c3 => ?_) (fun c3 => ?_)
      · refine V_aload_n (i := 0) dX9_scope_38 rfl rfl ?_
        refine V_getP dX9_scope_39 fX9_16 rfl s1 ?_
        refine V_iload_n (i := 1) dX9_scope_42 rfl rfl ?_
        refine V_iald dX9_scope_43 s2 (s3 c1 c2 c3) (s4 c1 c2 c3) ?_
        exact V_reti rfl dX9_scope_44 (q2 c1 c2 c3)
      · refine V_aload_n (i := 0) dX9_scope_29 rfl rfl ?_
        refine V_getP dX9_scope_30 fX9_13 rfl s1 ?_
        refine V_iload_n (i := 1) dX9_scope_33 rfl rfl ?_
        refine V_iald dX9_scope_34 s5 (s6 c1 c2 c3) (s7 c1 c2 c3) ?_
        refine V_goto (tgt := 44) dX9_scope_35 (by decide) ?_
        exact V_reti rfl dX9_scope_44 (q3 c1 c2 c3)
    · refine V_iconst dX9_scope_23 ⟨by decide, by decide⟩ ?_
      exact V_reti rfl dX9_scope_24 (q4 c1 c2)
theorem dX9_listed_0 : decode cX9_listed 0 = .ok (.iload_n 1, 1) := by decide +kernel
theorem dX9_listed_1 : decode cX9_listed 1 = .ok (.iconst (-1), 1) := by decide +kernel
theorem dX9_listed_2 : decode cX9_listed 2 = .ok (.aload_n 0, 1) := by decide +kernel
theorem dX9_listed_3 : decode cX9_listed 3 = .ok (.getfield 221, 3) := by decide +kernel
theorem dX9_listed_6 : decode cX9_listed 6 = .ok (.iconst 1, 1) := by decide +kernel
theorem dX9_listed_7 : decode cX9_listed 7 = .ok (.isub, 1) := by decide +kernel
theorem dX9_listed_8 : decode cX9_listed 8 = .ok (.invokestatic 95, 3) := by decide +kernel
theorem dX9_listed_11 : decode cX9_listed 11 = .ok (.ifCond .eq 7, 3) := by decide +kernel
theorem dX9_listed_14 : decode cX9_listed 14 = .ok (.iload_n 2, 1) := by decide +kernel
theorem dX9_listed_15 : decode cX9_listed 15 = .ok (.ifCond .ge 5, 3) := by decide +kernel
theorem dX9_listed_18 : decode cX9_listed 18 = .ok (.iconst (-1), 1) := by decide +kernel
theorem dX9_listed_19 : decode cX9_listed 19 = .ok (.ireturn, 1) := by decide +kernel
theorem dX9_listed_20 : decode cX9_listed 20 = .ok (.iload_n 1, 1) := by decide +kernel
theorem dX9_listed_21 : decode cX9_listed 21 = .ok (.ifCond .ge 8, 3) := by decide +kernel
theorem dX9_listed_24 : decode cX9_listed 24 = .ok (.bipush (-9), 2) := by decide +kernel
theorem dX9_listed_26 : decode cX9_listed 26 = .ok (.goto 4, 3) := by decide +kernel
theorem dX9_listed_29 : decode cX9_listed 29 = .ok (.iload_n 1, 1) := by decide +kernel
theorem dX9_listed_30 : decode cX9_listed 30 = .ok (.istore_n 3, 1) := by decide +kernel
theorem dX9_listed_31 : decode cX9_listed 31 = .ok (.iload_n 2, 1) := by decide +kernel
theorem dX9_listed_32 : decode cX9_listed 32 = .ok (.istore 4, 2) := by decide +kernel
theorem dX9_listed_34 : decode cX9_listed 34 = .ok (.iconst 0, 1) := by decide +kernel
theorem dX9_listed_35 : decode cX9_listed 35 = .ok (.istore 5, 2) := by decide +kernel
theorem dX9_listed_37 : decode cX9_listed 37 = .ok (.iload 5, 2) := by decide +kernel
theorem dX9_listed_39 : decode cX9_listed 39 = .ok (.bipush 26, 2) := by decide +kernel
theorem dX9_listed_41 : decode cX9_listed 41 = .ok (.if_icmp .ge 67, 3) := by decide +kernel
theorem dX9_listed_44 : decode cX9_listed 44 = .ok (.aload_n 0, 1) := by decide +kernel
theorem dX9_listed_45 : decode cX9_listed 45 = .ok (.iload_n 3, 1) := by decide +kernel
theorem dX9_listed_46 : decode cX9_listed 46 = .ok (.iload 5, 2) := by decide +kernel
theorem dX9_listed_48 : decode cX9_listed 48 = .ok (.invokevirtual 236, 3) := by decide +kernel
theorem dX9_listed_51 : decode cX9_listed 51 = .ok (.istore 6, 2) := by decide +kernel
theorem dX9_listed_53 : decode cX9_listed 53 = .ok (.aload_n 0, 1) := by decide +kernel
theorem dX9_listed_54 : decode cX9_listed 54 = .ok (.iload_n 3, 1) := by decide +kernel
theorem dX9_listed_55 : decode cX9_listed 55 = .ok (.iload 5, 2) := by decide +kernel
theorem dX9_listed_57 : decode cX9_listed 57 = .ok (.invokevirtual 239, 3) := by decide +kernel
theorem dX9_listed_60 : decode cX9_listed 60 = .ok (.istore 7, 2) := by decide +kernel
theorem dX9_listed_62 : decode cX9_listed 62 = .ok (.iload 6, 2) := by decide +kernel
theorem dX9_listed_64 : decode cX9_listed 64 = .ok (.bipush (-9), 2) := by decide +kernel
theorem dX9_listed_66 : decode cX9_listed 66 = .ok (.if_icmp .ne 10, 3) := by decide +kernel
theorem dX9_listed_69 : decode cX9_listed 69 = .ok (.iload 7, 2) := by decide +kernel
theorem dX9_listed_71 : decode cX9_listed 71 = .ok (.bipush (-9), 2) := by decide +kernel
theorem dX9_listed_73 : decode cX9_listed 73 = .ok (.if_icmp .eq 29, 3) := by decide +kernel
theorem dX9_listed_76 : decode cX9_listed 76 = .ok (.iload 4, 2) := by decide +kernel
theorem dX9_listed_78 : decode cX9_listed 78 = .ok (.ifCond .ne 21, 3) := by decide +kernel
theorem dX9_listed_81 : decode cX9_listed 81 = .ok (.iload 6, 2) := by decide +kernel
theorem dX9_listed_83 : decode cX9_listed 83 = .ok (.bipush (-9), 2) := by decide +kernel
theorem dX9_listed_85 : decode cX9_listed 85 = .ok (.if_icmp .eq 8, 3) := by decide +kernel
theorem dX9_listed_88 : decode cX9_listed 88 = .ok (.iload 6, 2) := by decide +kernel
theorem dX9_listed_90 : decode cX9_listed 90 = .ok (.goto 8, 3) := by decide +kernel
theorem dX9_listed_93 : decode cX9_listed 93 = .ok (.bipush 100, 2) := by decide +kernel
theorem dX9_listed_95 : decode cX9_listed 95 = .ok (.iload 7, 2) := by decide +kernel
theorem dX9_listed_97 : decode cX9_listed 97 = .ok (.iadd, 1) := by decide +kernel
theorem dX9_listed_98 : decode cX9_listed 98 = .ok (.ireturn, 1) := by decide +kernel
theorem dX9_listed_99 : decode cX9_listed 99 = .ok (.iinc 4 (-1), 3) := by decide +kernel
theorem dX9_listed_102 : decode cX9_listed 102 = .ok (.iinc 5 1, 3) := by decide +kernel
theorem dX9_listed_105 : decode cX9_listed 105 = .ok (.goto (-68), 3) := by decide +kernel
theorem dX9_listed_108 : decode cX9_listed 108 = .ok (.bipush (-9), 2) := by decide +kernel
theorem dX9_listed_110 : decode cX9_listed 110 = .ok (.ireturn, 1) := by decide +kernel
theorem bX9_listed_0 {d : Nat} {Q : Option jA → jH → Prop} (a0 : Nat) (i1 : Int) (i2 : Int) (u3 : Option jA) (u4 : Option jA) (u5 : Option jA) (u6 : Option jA) (u7 : Option jA) (h : jH)
    (s1 : (jS h a0).1 = 9)
    (r1 : jR ((jI h a0 6) - 1))
    (q1 : (¬ (((-1)) ≤ i1 ∧ i1 ≤ ((jI h a0 6) - 1))) → Q (some (.inl ((-1)))) h)
    (k1 : (((-1)) ≤ i1 ∧ i1 ≤ ((jI h a0 6) - 1)) → (0 ≤ i2) → (0 ≤ i1) → V MX9_listed (d + 2) 37 [some (.inr a0), some (.inl i1), some (.inl i2), some (.inl i1), some (.inl i2), some (.inl 0), u6, u7] [] h 0 0 Q)
    (k2 : (((-1)) ≤ i1 ∧ i1 ≤ ((jI h a0 6) - 1)) → (0 ≤ i2) → (¬ (0 ≤ i1)) → V MX9_listed (d + 2) 37 [some (.inr a0), some (.inl i1), some (.inl i2), some (.inl ((-9))), some (.inl i2), some (.inl 0), u6, u7] [] h 0 0 Q)
    (q2 : (((-1)) ≤ i1 ∧ i1 ≤ ((jI h a0 6) - 1)) → (¬ (0 ≤ i2)) → Q (some (.inl ((-1)))) h) :
    V MX9_listed (d + 2) 0 [some (.inr a0), some (.inl i1), some (.inl i2), u3, u4, u5, u6, u7] [] h 0 0 Q := by
  refine V_iload_n (i := 1) dX9_listed_0 rfl rfl ?_
  refine V_iconst dX9_listed_1 ⟨by decide, by decide⟩ ?_
  refine V_aload_n (i := 0) dX9_listed_2 rfl rfl ?_
  refine V_getI dX9_listed_3 fX9_221 rfl s1 ?_
  refine V_iconst dX9_listed_6 ⟨by decide, by decide⟩ ?_
  refine V_isub dX9_listed_7 r1 ?_
  refine V_callS (M := MX9_listed) (d := (d + 2)) (mc' := 0) (ms' := 0) (mc := 0) (ms := 0) (a := 0) (As := [.inl i1, .inl ((-1)), .inl ((jI h a0 6) - 1)]) (rest := []) dX9_listed_8 tX9_in sX9_in lX9_95 rfl rfl (Nat.le_of_ble_eq_true rfl) (show d + 1 ≤ (d + 2) by omega) (Ex.mono (pX9_in (d := d) ) ?_)
  intro v h2 hq
  rw [hq.1, hq.2]
  show V MX9_listed (d + 2) 11 [some (.inr a0), some (.inl i1), some (.inl i2), u3, u4, u5, u6, u7] [.inl (jb (((-1)) ≤ i1 ∧ i1 ≤ ((jI h a0 6) - 1)))] h 0 0 Q
  refine V_ifb_eq (tgt := 18) dX9_listed_11 (by decide) (fun c1 => ?_) (fun c1 => ?_)
  · refine V_iconst dX9_listed_18 ⟨by decide, by decide⟩ ?_
    exact V_reti rfl dX9_listed_19 (q1 c1)
  · refine V_iload_n (i := 2) dX9_listed_14 rfl rfl ?_
    refine V_if_ge (tgt := 20) dX9_listed_15 (by decide) (fun c2 => ?_) (fun c2 => ?_)
    · refine V_iload_n (i := 1) dX9_listed_20 rfl rfl ?_
      refine V_if_ge (tgt := 29) dX9_listed_21 (by decide) (fun c3 => ?_) (fun c3 => ?_)
      · refine V_iload_n (i := 1) dX9_listed_29 rfl rfl ?_
        refine V_istore_n (i := 3) dX9_listed_30 rfl (by decide) ?_
        refine V_iload_n (i := 2) dX9_listed_31 rfl rfl ?_
        refine V_istore (i := 4) dX9_listed_32 (by decide) ?_
        refine V_iconst dX9_listed_34 ⟨by decide, by decide⟩ ?_
        refine V_istore (i := 5) dX9_listed_35 (by decide) ?_
        exact (k1 c1 c2 c3)
      · refine V_bipush dX9_listed_24 (by decide +kernel) ⟨by decide, by decide⟩ ?_
        refine V_goto (tgt := 30) dX9_listed_26 (by decide) ?_
        refine V_istore_n (i := 3) dX9_listed_30 rfl (by decide) ?_
        refine V_iload_n (i := 2) dX9_listed_31 rfl rfl ?_
        refine V_istore (i := 4) dX9_listed_32 (by decide) ?_
        refine V_iconst dX9_listed_34 ⟨by decide, by decide⟩ ?_
        refine V_istore (i := 5) dX9_listed_35 (by decide) ?_
        exact (k2 c1 c2 c3)
    · refine V_iconst dX9_listed_18 ⟨by decide, by decide⟩ ?_
      exact V_reti rfl dX9_listed_19 (q2 c1 c2)
theorem bX9_listed_37 {d : Nat} {Q : Option jA → jH → Prop} (a0 : Nat) (i1 : Int) (i2 : Int) (i3 : Int) (i4 : Int) (i5 : Int) (u6 : Option jA) (u7 : Option jA) (h : jH)
    (q1 : (26 ≤ i5) → Q (some (.inl ((-9)))) h)
    (e1 : (¬ (26 ≤ i5)) → Ex MX9_nodeBy (d + 1) [.inr a0, .inl i3, .inl i5] h 0 0 (fun v h2 => V MX9_listed (d + 2) 51 [some (.inr a0), some (.inl i1), some (.inl i2), some (.inl i3), some (.inl i4), some (.inl i5), u6, u7] (v.toList ++ []) h2 0 0 Q))
    (s1 : (jS h a0).1 = 9) :
    V MX9_listed (d + 2) 37 [some (.inr a0), some (.inl i1), some (.inl i2), some (.inl i3), some (.inl i4), some (.inl i5), u6, u7] [] h 0 0 Q := by
  refine V_iload (i := 5) dX9_listed_37 rfl ?_
  refine V_bipush dX9_listed_39 (by decide +kernel) ⟨by decide, by decide⟩ ?_
  refine V_icmp_ge (tgt := 108) dX9_listed_41 (by decide) (fun c1 => ?_) (fun c1 => ?_)
  · refine V_bipush dX9_listed_108 (by decide +kernel) ⟨by decide, by decide⟩ ?_
    exact V_reti rfl dX9_listed_110 (q1 c1)
  · refine V_aload_n (i := 0) dX9_listed_44 rfl rfl ?_
    refine V_iload_n (i := 3) dX9_listed_45 rfl rfl ?_
    refine V_iload (i := 5) dX9_listed_46 rfl ?_
    exact V_callV (M := MX9_listed) (d := (d + 2)) (mc' := 0) (ms' := 0) (mc := 0) (ms := 0) (As := [.inl i3, .inl i5]) (rest := []) dX9_listed_48 tX9_nodeBy vX9_nodeBy lX9_236 s1 ⟨by decide, rfl⟩ rfl rfl (Nat.le_of_ble_eq_true rfl) (show (d + 1) + 1 ≤ (d + 2) by omega) (e1 c1)
theorem bX9_listed_51 {d : Nat} {Q : Option jA → jH → Prop} (a0 : Nat) (i1 : Int) (i2 : Int) (i3 : Int) (i4 : Int) (i5 : Int) (u6 : Option jA) (u7 : Option jA) (p0 : Int) (h : jH)
    (e1 : Ex MX9_scopeBy d [.inr a0, .inl i3, .inl i5] h 0 0 (fun v h2 => V MX9_listed (d + 2) 60 [some (.inr a0), some (.inl i1), some (.inl i2), some (.inl i3), some (.inl i4), some (.inl i5), some (.inl p0), u7] (v.toList ++ []) h2 0 0 Q))
    (s1 : (jS h a0).1 = 9) :
    V MX9_listed (d + 2) 51 [some (.inr a0), some (.inl i1), some (.inl i2), some (.inl i3), some (.inl i4), some (.inl i5), u6, u7] [.inl p0] h 0 0 Q := by
  refine V_istore (i := 6) dX9_listed_51 (by decide) ?_
  refine V_aload_n (i := 0) dX9_listed_53 rfl rfl ?_
  refine V_iload_n (i := 3) dX9_listed_54 rfl rfl ?_
  refine V_iload (i := 5) dX9_listed_55 rfl ?_
  exact V_callV (M := MX9_listed) (d := (d + 2)) (mc' := 0) (ms' := 0) (mc := 0) (ms := 0) (As := [.inl i3, .inl i5]) (rest := []) dX9_listed_57 tX9_scopeBy vX9_scopeBy lX9_239 s1 ⟨by decide, rfl⟩ rfl rfl (Nat.le_of_ble_eq_true rfl) (show d + 1 ≤ (d + 2) by omega) e1
theorem bX9_listed_60 {d : Nat} {Q : Option jA → jH → Prop} (a0 : Nat) (i1 : Int) (i2 : Int) (i3 : Int) (i4 : Int) (i5 : Int) (i6 : Int) (u7 : Option jA) (p0 : Int) (h : jH)
    (r1 : (i6 ≠ ((-9))) → (i4 ≠ 0) → jR (i4 + (-1)))
    (r2 : (i6 ≠ ((-9))) → (i4 ≠ 0) → jR (i5 + 1))
    (k1 : (i6 ≠ ((-9))) → (i4 ≠ 0) → V MX9_listed (d + 2) 37 [some (.inr a0), some (.inl i1), some (.inl i2), some (.inl i3), some (.inl (i4 + (-1))), some (.inl (i5 + 1)), some (.inl i6), some (.inl p0)] [] h 0 0 Q)
    (r3 : (i6 ≠ ((-9))) → (i4 = 0) → (i6 = ((-9))) → jR (100 + p0))
    (q1 : (i6 ≠ ((-9))) → (i4 = 0) → (i6 = ((-9))) → Q (some (.inl (100 + p0))) h)
    (q2 : (i6 ≠ ((-9))) → (i4 = 0) → (¬ (i6 = ((-9)))) → Q (some (.inl i6)) h)
    (r4 : (i6 = ((-9))) → (p0 = ((-9))) → jR (i5 + 1))
    (k2 : (i6 = ((-9))) → (p0 = ((-9))) → V MX9_listed (d + 2) 37 [some (.inr a0), some (.inl i1), some (.inl i2), some (.inl i3), some (.inl i4), some (.inl (i5 + 1)), some (.inl i6), some (.inl p0)] [] h 0 0 Q)
    (r5 : (i6 = ((-9))) → (¬ (p0 = ((-9)))) → (i4 ≠ 0) → jR (i4 + (-1)))
    (r6 : (i6 = ((-9))) → (¬ (p0 = ((-9)))) → (i4 ≠ 0) → jR (i5 + 1))
    (k3 : (i6 = ((-9))) → (¬ (p0 = ((-9)))) → (i4 ≠ 0) → V MX9_listed (d + 2) 37 [some (.inr a0), some (.inl i1), some (.inl i2), some (.inl i3), some (.inl (i4 + (-1))), some (.inl (i5 + 1)), some (.inl i6), some (.inl p0)] [] h 0 0 Q)
    (r7 : (i6 = ((-9))) → (¬ (p0 = ((-9)))) → (i4 = 0) → (i6 = ((-9))) → jR (100 + p0))
    (q3 : (i6 = ((-9))) → (¬ (p0 = ((-9)))) → (i4 = 0) → (i6 = ((-9))) → Q (some (.inl (100 + p0))) h)
    (q4 : (i6 = ((-9))) → (¬ (p0 = ((-9)))) → (i4 = 0) → (¬ (i6 = ((-9)))) → Q (some (.inl i6)) h) :
    V MX9_listed (d + 2) 60 [some (.inr a0), some (.inl i1), some (.inl i2), some (.inl i3), some (.inl i4), some (.inl i5), some (.inl i6), u7] [.inl p0] h 0 0 Q := by
  refine V_istore (i := 7) dX9_listed_60 (by decide) ?_
  refine V_iload (i := 6) dX9_listed_62 rfl ?_
  refine V_bipush dX9_listed_64 (by decide +kernel) ⟨by decide, by decide⟩ ?_
  refine V_icmp_ne (tgt := 76) dX9_listed_66 (by decide) (fun c1 => ?_) (fun c1 => ?_)
  · refine V_iload (i := 4) dX9_listed_76 rfl ?_
    refine V_if_ne (tgt := 99) dX9_listed_78 (by decide) (fun c2 => ?_) (fun c2 => ?_)
    · refine V_iinc (i := 4) dX9_listed_99 rfl (by decide) (r1 c1 c2) ?_
      refine V_iinc (i := 5) dX9_listed_102 rfl (by decide) (r2 c1 c2) ?_
      refine V_goto (tgt := 37) dX9_listed_105 (by decide) ?_
      exact (k1 c1 c2)
    · refine V_iload (i := 6) dX9_listed_81 rfl ?_
      refine V_bipush dX9_listed_83 (by decide +kernel) ⟨by decide, by decide⟩ ?_
      refine V_icmp_eq (tgt := 93) dX9_listed_85 (by decide) (fun c3 => ?_) (fun c3 => ?_)
      · refine V_bipush dX9_listed_93 (by decide +kernel) ⟨by decide, by decide⟩ ?_
        refine V_iload (i := 7) dX9_listed_95 rfl ?_
        refine V_iadd dX9_listed_97 (r3 c1 c2 c3) ?_
        exact V_reti rfl dX9_listed_98 (q1 c1 c2 c3)
      · refine V_iload (i := 6) dX9_listed_88 rfl ?_
        refine V_goto (tgt := 98) dX9_listed_90 (by decide) ?_
        exact V_reti rfl dX9_listed_98 (q2 c1 c2 c3)
  · refine V_iload (i := 7) dX9_listed_69 rfl ?_
    refine V_bipush dX9_listed_71 (by decide +kernel) ⟨by decide, by decide⟩ ?_
    refine V_icmp_eq (tgt := 102) dX9_listed_73 (by decide) (fun c4 => ?_) (fun c4 => ?_)
    · refine V_iinc (i := 5) dX9_listed_102 rfl (by decide) (r4 c1 c4) ?_
      refine V_goto (tgt := 37) dX9_listed_105 (by decide) ?_
      exact (k2 c1 c4)
    · refine V_iload (i := 4) dX9_listed_76 rfl ?_
      refine V_if_ne (tgt := 99) dX9_listed_78 (by decide) (fun c5 => ?_) (fun c5 => ?_)
      · refine V_iinc (i := 4) dX9_listed_99 rfl (by decide) (r5 c1 c4 c5) ?_
        refine V_iinc (i := 5) dX9_listed_102 rfl (by decide) (r6 c1 c4 c5) ?_
        refine V_goto (tgt := 37) dX9_listed_105 (by decide) ?_
        exact (k3 c1 c4 c5)
      · refine V_iload (i := 6) dX9_listed_81 rfl ?_
        refine V_bipush dX9_listed_83 (by decide +kernel) ⟨by decide, by decide⟩ ?_
        refine V_icmp_eq (tgt := 93) dX9_listed_85 (by decide) (fun c6 => ?_) (fun c6 => ?_)
        · refine V_bipush dX9_listed_93 (by decide +kernel) ⟨by decide, by decide⟩ ?_
          refine V_iload (i := 7) dX9_listed_95 rfl ?_
          refine V_iadd dX9_listed_97 (r7 c1 c4 c5 c6) ?_
          exact V_reti rfl dX9_listed_98 (q3 c1 c4 c5 c6)
        · refine V_iload (i := 6) dX9_listed_88 rfl ?_
          refine V_goto (tgt := 98) dX9_listed_90 (by decide) ?_
          exact V_reti rfl dX9_listed_98 (q4 c1 c4 c5 c6)
theorem dX9_path_0 : decode cX9_path 0 = .ok (.aload_n 0, 1) := by decide +kernel
theorem dX9_path_1 : decode cX9_path 1 = .ok (.iload_n 1, 1) := by decide +kernel
theorem dX9_path_2 : decode cX9_path 2 = .ok (.invokevirtual 250, 3) := by decide +kernel
theorem dX9_path_5 : decode cX9_path 5 = .ok (.ifCond .eq 7, 3) := by decide +kernel
theorem dX9_path_8 : decode cX9_path 8 = .ok (.iload_n 2, 1) := by decide +kernel
theorem dX9_path_9 : decode cX9_path 9 = .ok (.ifCond .ge 5, 3) := by decide +kernel
theorem dX9_path_12 : decode cX9_path 12 = .ok (.iconst (-1), 1) := by decide +kernel
theorem dX9_path_13 : decode cX9_path 13 = .ok (.ireturn, 1) := by decide +kernel
theorem dX9_path_14 : decode cX9_path 14 = .ok (.iconst 1, 1) := by decide +kernel
theorem dX9_path_15 : decode cX9_path 15 = .ok (.istore_n 3, 1) := by decide +kernel
theorem dX9_path_16 : decode cX9_path 16 = .ok (.aload_n 0, 1) := by decide +kernel
theorem dX9_path_17 : decode cX9_path 17 = .ok (.iload_n 1, 1) := by decide +kernel
theorem dX9_path_18 : decode cX9_path 18 = .ok (.iconst 3, 1) := by decide +kernel
theorem dX9_path_19 : decode cX9_path 19 = .ok (.invokevirtual 233, 3) := by decide +kernel
theorem dX9_path_22 : decode cX9_path 22 = .ok (.istore 4, 2) := by decide +kernel
theorem dX9_path_24 : decode cX9_path 24 = .ok (.iload 4, 2) := by decide +kernel
theorem dX9_path_26 : decode cX9_path 26 = .ok (.bipush (-9), 2) := by decide +kernel
theorem dX9_path_28 : decode cX9_path 28 = .ok (.if_icmp .eq 18, 3) := by decide +kernel
theorem dX9_path_31 : decode cX9_path 31 = .ok (.iinc 3 1, 3) := by decide +kernel
theorem dX9_path_34 : decode cX9_path 34 = .ok (.aload_n 0, 1) := by decide +kernel
theorem dX9_path_35 : decode cX9_path 35 = .ok (.getfield 13, 3) := by decide +kernel
theorem dX9_path_38 : decode cX9_path 38 = .ok (.iload 4, 2) := by decide +kernel
theorem dX9_path_40 : decode cX9_path 40 = .ok (.iaload, 1) := by decide +kernel
theorem dX9_path_41 : decode cX9_path 41 = .ok (.istore 4, 2) := by decide +kernel
theorem dX9_path_43 : decode cX9_path 43 = .ok (.goto (-19), 3) := by decide +kernel
theorem dX9_path_46 : decode cX9_path 46 = .ok (.iload_n 2, 1) := by decide +kernel
theorem dX9_path_47 : decode cX9_path 47 = .ok (.iload_n 3, 1) := by decide +kernel
theorem dX9_path_48 : decode cX9_path 48 = .ok (.if_icmp .lt 6, 3) := by decide +kernel
theorem dX9_path_51 : decode cX9_path 51 = .ok (.bipush (-9), 2) := by decide +kernel
theorem dX9_path_53 : decode cX9_path 53 = .ok (.ireturn, 1) := by decide +kernel
theorem dX9_path_54 : decode cX9_path 54 = .ok (.aload_n 0, 1) := by decide +kernel
theorem dX9_path_55 : decode cX9_path 55 = .ok (.iload_n 1, 1) := by decide +kernel
theorem dX9_path_56 : decode cX9_path 56 = .ok (.iconst 4, 1) := by decide +kernel
theorem dX9_path_57 : decode cX9_path 57 = .ok (.invokevirtual 233, 3) := by decide +kernel
theorem dX9_path_60 : decode cX9_path 60 = .ok (.istore 4, 2) := by decide +kernel
theorem dX9_path_62 : decode cX9_path 62 = .ok (.aload_n 0, 1) := by decide +kernel
theorem dX9_path_63 : decode cX9_path 63 = .ok (.iload_n 1, 1) := by decide +kernel
theorem dX9_path_64 : decode cX9_path 64 = .ok (.iconst 3, 1) := by decide +kernel
theorem dX9_path_65 : decode cX9_path 65 = .ok (.invokevirtual 233, 3) := by decide +kernel
theorem dX9_path_68 : decode cX9_path 68 = .ok (.istore 5, 2) := by decide +kernel
theorem dX9_path_70 : decode cX9_path 70 = .ok (.iload_n 3, 1) := by decide +kernel
theorem dX9_path_71 : decode cX9_path 71 = .ok (.iconst 1, 1) := by decide +kernel
theorem dX9_path_72 : decode cX9_path 72 = .ok (.isub, 1) := by decide +kernel
theorem dX9_path_73 : decode cX9_path 73 = .ok (.istore 6, 2) := by decide +kernel
theorem dX9_path_75 : decode cX9_path 75 = .ok (.iload 6, 2) := by decide +kernel
theorem dX9_path_77 : decode cX9_path 77 = .ok (.iload_n 2, 1) := by decide +kernel
theorem dX9_path_78 : decode cX9_path 78 = .ok (.if_icmp .le 27, 3) := by decide +kernel
theorem dX9_path_81 : decode cX9_path 81 = .ok (.aload_n 0, 1) := by decide +kernel
theorem dX9_path_82 : decode cX9_path 82 = .ok (.getfield 16, 3) := by decide +kernel
theorem dX9_path_85 : decode cX9_path 85 = .ok (.iload 5, 2) := by decide +kernel
theorem dX9_path_87 : decode cX9_path 87 = .ok (.iaload, 1) := by decide +kernel
theorem dX9_path_88 : decode cX9_path 88 = .ok (.istore 4, 2) := by decide +kernel
theorem dX9_path_90 : decode cX9_path 90 = .ok (.aload_n 0, 1) := by decide +kernel
theorem dX9_path_91 : decode cX9_path 91 = .ok (.getfield 13, 3) := by decide +kernel
theorem dX9_path_94 : decode cX9_path 94 = .ok (.iload 5, 2) := by decide +kernel
theorem dX9_path_96 : decode cX9_path 96 = .ok (.iaload, 1) := by decide +kernel
theorem dX9_path_97 : decode cX9_path 97 = .ok (.istore 5, 2) := by decide +kernel
theorem dX9_path_99 : decode cX9_path 99 = .ok (.iinc 6 (-1), 3) := by decide +kernel
theorem dX9_path_102 : decode cX9_path 102 = .ok (.goto (-27), 3) := by decide +kernel
theorem dX9_path_105 : decode cX9_path 105 = .ok (.iload 4, 2) := by decide +kernel
theorem dX9_path_107 : decode cX9_path 107 = .ok (.ireturn, 1) := by decide +kernel
theorem bX9_path_0 {d : Nat} {Q : Option jA → jH → Prop} (a0 : Nat) (i1 : Int) (i2 : Int) (u3 : Option jA) (u4 : Option jA) (u5 : Option jA) (u6 : Option jA) (h : jH)
    (s1 : (jS h a0).1 = 9)
    (s2 : 0 ≤ jI h a0 1)
    (s3 : jI h a0 1 ≤ 12)
    (q1 : (¬ (0 ≤ i1 ∧ i1 ≤ (jI h a0 1) - 1)) → Q (some (.inl ((-1)))) h)
    (s4 : (jS h (jP h a0 0)).1 = 16)
    (s5 : (jS h (jP h a0 0)).2 = 72)
    (s6 : (0 ≤ i1 ∧ i1 ≤ (jI h a0 1) - 1) → (0 ≤ i2) → 0 ≤ i1)
    (s7 : (0 ≤ i1 ∧ i1 ≤ (jI h a0 1) - 1) → (0 ≤ i2) → i1 < 12)
    (k1 : (0 ≤ i1 ∧ i1 ≤ (jI h a0 1) - 1) → (0 ≤ i2) → V MX9_path (d + 2) 24 [some (.inr a0), some (.inl i1), some (.inl i2), some (.inl 1), some (.inl (jX h (jP h a0 0) (((6 * i1) + 3).toNat))), u5, u6] [] h 0 0 Q)
    (q2 : (0 ≤ i1 ∧ i1 ≤ (jI h a0 1) - 1) → (¬ (0 ≤ i2)) → Q (some (.inl ((-1)))) h) :
    V MX9_path (d + 2) 0 [some (.inr a0), some (.inl i1), some (.inl i2), u3, u4, u5, u6] [] h 0 0 Q := by
  refine V_aload_n (i := 0) dX9_path_0 rfl rfl ?_
  refine V_iload_n (i := 1) dX9_path_1 rfl rfl ?_
  refine V_callV (M := MX9_path) (d := (d + 2)) (mc' := 0) (ms' := 0) (mc := 0) (ms := 0) (As := [.inl i1]) (rest := []) dX9_path_2 tX9_isNode vX9_isNode lX9_250 s1 ⟨by decide, rfl⟩ rfl rfl (Nat.le_of_ble_eq_true rfl) (show (d + 1) + 1 ≤ (d + 2) by omega) (Ex.mono (pX9_isNode (d := d) s1 s2 s3) ?_)
  intro v h2 hq
  rw [hq.1, hq.2]
  show V MX9_path (d + 2) 5 [some (.inr a0), some (.inl i1), some (.inl i2), u3, u4, u5, u6] [.inl (jb (0 ≤ i1 ∧ i1 ≤ (jI h a0 1) - 1))] h 0 0 Q
  refine V_ifb_eq (tgt := 12) dX9_path_5 (by decide) (fun c1 => ?_) (fun c1 => ?_)
  · refine V_iconst dX9_path_12 ⟨by decide, by decide⟩ ?_
    exact V_reti rfl dX9_path_13 (q1 c1)
  · refine V_iload_n (i := 2) dX9_path_8 rfl rfl ?_
    refine V_if_ge (tgt := 14) dX9_path_9 (by decide) (fun c2 => ?_) (fun c2 => ?_)
    · refine V_iconst dX9_path_14 ⟨by decide, by decide⟩ ?_
      refine V_istore_n (i := 3) dX9_path_15 rfl (by decide) ?_
      refine V_aload_n (i := 0) dX9_path_16 rfl rfl ?_
      refine V_iload_n (i := 1) dX9_path_17 rfl rfl ?_
      refine V_iconst dX9_path_18 ⟨by decide, by decide⟩ ?_
      refine V_callV (M := MX9_path) (d := (d + 2)) (mc' := 0) (ms' := 0) (mc := 0) (ms := 0) (As := [.inl i1, .inl 3]) (rest := []) dX9_path_19 tX9_of vX9_of lX9_233 s1 ⟨by decide, rfl⟩ rfl rfl (Nat.le_of_ble_eq_true rfl) (show d + 1 ≤ (d + 2) by omega) (Ex.mono (pX9_of (d := d) s1 s4 s5 (s6 c1 c2) (s7 c1 c2) (by decide) (by decide)) ?_)
      intro v h2 hq
      rw [hq.1, hq.2]
      show V MX9_path (d + 2) 22 [some (.inr a0), some (.inl i1), some (.inl i2), some (.inl 1), u4, u5, u6] [.inl (jX h (jP h a0 0) (((6 * i1) + 3).toNat))] h 0 0 Q
      refine V_istore (i := 4) dX9_path_22 (by decide) ?_
      exact (k1 c1 c2)
    · refine V_iconst dX9_path_12 ⟨by decide, by decide⟩ ?_
      exact V_reti rfl dX9_path_13 (q2 c1 c2)
theorem bX9_path_24 {d : Nat} {Q : Option jA → jH → Prop} (a0 : Nat) (i1 : Int) (i2 : Int) (i3 : Int) (i4 : Int) (u5 : Option jA) (u6 : Option jA) (h : jH)
    (s1 : (jS h a0).1 = 9)
    (s2 : (jS h (jP h a0 0)).1 = 16)
    (s3 : (jS h (jP h a0 0)).2 = 72)
    (s4 : (i4 = ((-9))) → (i2 < i3) → 0 ≤ i1)
    (s5 : (i4 = ((-9))) → (i2 < i3) → i1 < 12)
    (r1 : (i4 = ((-9))) → (i2 < i3) → jR (i3 - 1))
    (k1 : (i4 = ((-9))) → (i2 < i3) → V MX9_path (d + 2) 75 [some (.inr a0), some (.inl i1), some (.inl i2), some (.inl i3), some (.inl (jX h (jP h a0 0) (((6 * i1) + 4).toNat))), some (.inl (jX h (jP h a0 0) (((6 * i1) + 3).toNat))), some (.inl (i3 - 1))] [] h 0 0 Q)
    (q1 : (i4 = ((-9))) → (¬ (i2 < i3)) → Q (some (.inl ((-9)))) h)
    (r2 : (¬ (i4 = ((-9)))) → jR (i3 + 1))
    (s6 : (jS h (jP h a0 4)).1 = 16)
    (s7 : (¬ (i4 = ((-9)))) → 0 ≤ i4)
    (s8 : (¬ (i4 = ((-9)))) → i4 < ((jS h (jP h a0 4)).2 : Int))
    (k2 : (¬ (i4 = ((-9)))) → V MX9_path (d + 2) 24 [some (.inr a0), some (.inl i1), some (.inl i2), some (.inl (i3 + 1)), some (.inl (jX h (jP h a0 4) ((i4).toNat))), u5, u6] [] h 0 0 Q) :
    V MX9_path (d + 2) 24 [some (.inr a0), some (.inl i1), some (.inl i2), some (.inl i3), some (.inl i4), u5, u6] [] h 0 0 Q := by
  refine V_iload (i := 4) dX9_path_24 rfl ?_
  refine V_bipush dX9_path_26 (by decide +kernel) ⟨by decide, by decide⟩ ?_
  refine V_icmp_eq (tgt := 46) dX9_path_28 (by decide) (fun c1 => ?_) (fun c1 => ?_)
  · refine V_iload_n (i := 2) dX9_path_46 rfl rfl ?_
    refine V_iload_n (i := 3) dX9_path_47 rfl rfl ?_
    refine V_icmp_lt (tgt := 54) dX9_path_48 (by decide) (fun c2 => ?_) (fun c2 => ?_)
    · refine V_aload_n (i := 0) dX9_path_54 rfl rfl ?_
      refine V_iload_n (i := 1) dX9_path_55 rfl rfl ?_
      refine V_iconst dX9_path_56 ⟨by decide, by decide⟩ ?_
      refine V_callV (M := MX9_path) (d := (d + 2)) (mc' := 0) (ms' := 0) (mc := 0) (ms := 0) (As := [.inl i1, .inl 4]) (rest := []) dX9_path_57 tX9_of vX9_of lX9_233 s1 ⟨by decide, rfl⟩ rfl rfl (Nat.le_of_ble_eq_true rfl) (show d + 1 ≤ (d + 2) by omega) (Ex.mono (pX9_of (d := d) s1 s2 s3 (s4 c1 c2) (s5 c1 c2) (by decide) (by decide)) ?_)
      intro v h2 hq
      rw [hq.1, hq.2]
      show V MX9_path (d + 2) 60 [some (.inr a0), some (.inl i1), some (.inl i2), some (.inl i3), some (.inl i4), u5, u6] [.inl (jX h (jP h a0 0) (((6 * i1) + 4).toNat))] h 0 0 Q
      refine V_istore (i := 4) dX9_path_60 (by decide) ?_
      refine V_aload_n (i := 0) dX9_path_62 rfl rfl ?_
      refine V_iload_n (i := 1) dX9_path_63 rfl rfl ?_
      refine V_iconst dX9_path_64 ⟨by decide, by decide⟩ ?_
      refine V_callV (M := MX9_path) (d := (d + 2)) (mc' := 0) (ms' := 0) (mc := 0) (ms := 0) (As := [.inl i1, .inl 3]) (rest := []) dX9_path_65 tX9_of vX9_of lX9_233 s1 ⟨by decide, rfl⟩ rfl rfl (Nat.le_of_ble_eq_true rfl) (show d + 1 ≤ (d + 2) by omega) (Ex.mono (pX9_of (d := d) s1 s2 s3 (s4 c1 c2) (s5 c1 c2) (by decide) (by decide)) ?_)
      intro v h2 hq
      rw [hq.1, hq.2]
      show V MX9_path (d + 2) 68 [some (.inr a0), some (.inl i1), some (.inl i2), some (.inl i3), some (.inl (jX h (jP h a0 0) (((6 * i1) + 4).toNat))), u5, u6] [.inl (jX h (jP h a0 0) (((6 * i1) + 3).toNat))] h 0 0 Q
      refine V_istore (i := 5) dX9_path_68 (by decide) ?_
      refine V_iload_n (i := 3) dX9_path_70 rfl rfl ?_
      refine V_iconst dX9_path_71 ⟨by decide, by decide⟩ ?_
      refine V_isub dX9_path_72 (r1 c1 c2) ?_
      refine V_istore (i := 6) dX9_path_73 (by decide) ?_
      exact (k1 c1 c2)
    · refine V_bipush dX9_path_51 (by decide +kernel) ⟨by decide, by decide⟩ ?_
      exact V_reti rfl dX9_path_53 (q1 c1 c2)
  · refine V_iinc (i := 3) dX9_path_31 rfl (by decide) (r2 c1) ?_
    refine V_aload_n (i := 0) dX9_path_34 rfl rfl ?_
    refine V_getP dX9_path_35 fX9_13 rfl s1 ?_
    refine V_iload (i := 4) dX9_path_38 rfl ?_
    refine V_iald dX9_path_40 s6 (s7 c1) (s8 c1) ?_
    refine V_istore (i := 4) dX9_path_41 (by decide) ?_
    refine V_goto (tgt := 24) dX9_path_43 (by decide) ?_
    exact (k2 c1)
theorem bX9_path_75 {d : Nat} {Q : Option jA → jH → Prop} (a0 : Nat) (i1 : Int) (i2 : Int) (i3 : Int) (i4 : Int) (i5 : Int) (i6 : Int) (h : jH)
    (q1 : (i6 ≤ i2) → Q (some (.inl i4)) h)
    (s1 : (jS h a0).1 = 9)
    (s2 : (jS h (jP h a0 5)).1 = 16)
    (s3 : (¬ (i6 ≤ i2)) → 0 ≤ i5)
    (s4 : (¬ (i6 ≤ i2)) → i5 < ((jS h (jP h a0 5)).2 : Int))
    (s5 : (jS h (jP h a0 4)).1 = 16)
    (s6 : (¬ (i6 ≤ i2)) → i5 < ((jS h (jP h a0 4)).2 : Int))
    (r1 : (¬ (i6 ≤ i2)) → jR (i6 + (-1)))
    (k1 : (¬ (i6 ≤ i2)) → V MX9_path (d + 2) 75 [some (.inr a0), some (.inl i1), some (.inl i2), some (.inl i3), some (.inl (jX h (jP h a0 5) ((i5).toNat))), some (.inl (jX h (jP h a0 4) ((i5).toNat))), some (.inl (i6 + (-1)))] [] h 0 0 Q) :
    V MX9_path (d + 2) 75 [some (.inr a0), some (.inl i1), some (.inl i2), some (.inl i3), some (.inl i4), some (.inl i5), some (.inl i6)] [] h 0 0 Q := by
  refine V_iload (i := 6) dX9_path_75 rfl ?_
  refine V_iload_n (i := 2) dX9_path_77 rfl rfl ?_
  refine V_icmp_le (tgt := 105) dX9_path_78 (by decide) (fun c1 => ?_) (fun c1 => ?_)
  · refine V_iload (i := 4) dX9_path_105 rfl ?_
    exact V_reti rfl dX9_path_107 (q1 c1)
  · refine V_aload_n (i := 0) dX9_path_81 rfl rfl ?_
    refine V_getP dX9_path_82 fX9_16 rfl s1 ?_
    refine V_iload (i := 5) dX9_path_85 rfl ?_
    refine V_iald dX9_path_87 s2 (s3 c1) (s4 c1) ?_
    refine V_istore (i := 4) dX9_path_88 (by decide) ?_
    refine V_aload_n (i := 0) dX9_path_90 rfl rfl ?_
    refine V_getP dX9_path_91 fX9_13 rfl s1 ?_
    refine V_iload (i := 5) dX9_path_94 rfl ?_
    refine V_iald dX9_path_96 s5 (s3 c1) (s6 c1) ?_
    refine V_istore (i := 5) dX9_path_97 (by decide) ?_
    refine V_iinc (i := 6) dX9_path_99 rfl (by decide) (r1 c1) ?_
    refine V_goto (tgt := 75) dX9_path_102 (by decide) ?_
    exact (k1 c1)
theorem dX9_blockBegins_0 : decode cX9_blockBegins 0 = .ok (.aload_n 0, 1) := by decide +kernel
theorem dX9_blockBegins_1 : decode cX9_blockBegins 1 = .ok (.getfield 25, 3) := by decide +kernel
theorem dX9_blockBegins_4 : decode cX9_blockBegins 4 = .ok (.iconst 3, 1) := by decide +kernel
theorem dX9_blockBegins_5 : decode cX9_blockBegins 5 = .ok (.iaload, 1) := by decide +kernel
theorem dX9_blockBegins_6 : decode cX9_blockBegins 6 = .ok (.bipush 6, 2) := by decide +kernel
theorem dX9_blockBegins_8 : decode cX9_blockBegins 8 = .ok (.if_icmp .ne 54, 3) := by decide +kernel
theorem dX9_blockBegins_11 : decode cX9_blockBegins 11 = .ok (.bipush 11, 2) := by decide +kernel
theorem dX9_blockBegins_13 : decode cX9_blockBegins 13 = .ok (.istore_n 1, 1) := by decide +kernel
theorem dX9_blockBegins_14 : decode cX9_blockBegins 14 = .ok (.iload_n 1, 1) := by decide +kernel
theorem dX9_blockBegins_15 : decode cX9_blockBegins 15 = .ok (.sipush 176, 3) := by decide +kernel
theorem dX9_blockBegins_18 : decode cX9_blockBegins 18 = .ok (.if_icmp .ge 24, 3) := by decide +kernel
theorem dX9_blockBegins_21 : decode cX9_blockBegins 21 = .ok (.aload_n 0, 1) := by decide +kernel
theorem dX9_blockBegins_22 : decode cX9_blockBegins 22 = .ok (.getfield 25, 3) := by decide +kernel
theorem dX9_blockBegins_25 : decode cX9_blockBegins 25 = .ok (.iload_n 1, 1) := by decide +kernel
theorem dX9_blockBegins_26 : decode cX9_blockBegins 26 = .ok (.aload_n 0, 1) := by decide +kernel
theorem dX9_blockBegins_27 : decode cX9_blockBegins 27 = .ok (.getfield 25, 3) := by decide +kernel
theorem dX9_blockBegins_30 : decode cX9_blockBegins 30 = .ok (.iload_n 1, 1) := by decide +kernel
theorem dX9_blockBegins_31 : decode cX9_blockBegins 31 = .ok (.bipush 33, 2) := by decide +kernel
theorem dX9_blockBegins_33 : decode cX9_blockBegins 33 = .ok (.iadd, 1) := by decide +kernel
theorem dX9_blockBegins_34 : decode cX9_blockBegins 34 = .ok (.iaload, 1) := by decide +kernel
theorem dX9_blockBegins_35 : decode cX9_blockBegins 35 = .ok (.iastore, 1) := by decide +kernel
theorem dX9_blockBegins_36 : decode cX9_blockBegins 36 = .ok (.iinc 1 1, 3) := by decide +kernel
theorem dX9_blockBegins_39 : decode cX9_blockBegins 39 = .ok (.goto (-25), 3) := by decide +kernel
theorem dX9_blockBegins_42 : decode cX9_blockBegins 42 = .ok (.aload_n 0, 1) := by decide +kernel
theorem dX9_blockBegins_43 : decode cX9_blockBegins 43 = .ok (.getfield 25, 3) := by decide +kernel
theorem dX9_blockBegins_46 : decode cX9_blockBegins 46 = .ok (.iconst 3, 1) := by decide +kernel
theorem dX9_blockBegins_47 : decode cX9_blockBegins 47 = .ok (.dup2, 1) := by decide +kernel
theorem dX9_blockBegins_48 : decode cX9_blockBegins 48 = .ok (.iaload, 1) := by decide +kernel
theorem dX9_blockBegins_49 : decode cX9_blockBegins 49 = .ok (.iconst 1, 1) := by decide +kernel
theorem dX9_blockBegins_50 : decode cX9_blockBegins 50 = .ok (.isub, 1) := by decide +kernel
theorem dX9_blockBegins_51 : decode cX9_blockBegins 51 = .ok (.iastore, 1) := by decide +kernel
theorem dX9_blockBegins_52 : decode cX9_blockBegins 52 = .ok (.aload_n 0, 1) := by decide +kernel
theorem dX9_blockBegins_53 : decode cX9_blockBegins 53 = .ok (.getfield 25, 3) := by decide +kernel
theorem dX9_blockBegins_56 : decode cX9_blockBegins 56 = .ok (.iconst 4, 1) := by decide +kernel
theorem dX9_blockBegins_57 : decode cX9_blockBegins 57 = .ok (.dup2, 1) := by decide +kernel
theorem dX9_blockBegins_58 : decode cX9_blockBegins 58 = .ok (.iaload, 1) := by decide +kernel
theorem dX9_blockBegins_59 : decode cX9_blockBegins 59 = .ok (.iconst 1, 1) := by decide +kernel
theorem dX9_blockBegins_60 : decode cX9_blockBegins 60 = .ok (.iadd, 1) := by decide +kernel
theorem dX9_blockBegins_61 : decode cX9_blockBegins 61 = .ok (.iastore, 1) := by decide +kernel
theorem dX9_blockBegins_62 : decode cX9_blockBegins 62 = .ok (.aload_n 0, 1) := by decide +kernel
theorem dX9_blockBegins_63 : decode cX9_blockBegins 63 = .ok (.getfield 25, 3) := by decide +kernel
theorem dX9_blockBegins_66 : decode cX9_blockBegins 66 = .ok (.iconst 3, 1) := by decide +kernel
theorem dX9_blockBegins_67 : decode cX9_blockBegins 67 = .ok (.iaload, 1) := by decide +kernel
theorem dX9_blockBegins_68 : decode cX9_blockBegins 68 = .ok (.invokestatic 256, 3) := by decide +kernel
theorem dX9_blockBegins_71 : decode cX9_blockBegins 71 = .ok (.istore_n 1, 1) := by decide +kernel
theorem dX9_blockBegins_72 : decode cX9_blockBegins 72 = .ok (.aload_n 0, 1) := by decide +kernel
theorem dX9_blockBegins_73 : decode cX9_blockBegins 73 = .ok (.getfield 25, 3) := by decide +kernel
theorem dX9_blockBegins_76 : decode cX9_blockBegins 76 = .ok (.iload_n 1, 1) := by decide +kernel
theorem dX9_blockBegins_77 : decode cX9_blockBegins 77 = .ok (.aload_n 0, 1) := by decide +kernel
theorem dX9_blockBegins_78 : decode cX9_blockBegins 78 = .ok (.getfield 25, 3) := by decide +kernel
theorem dX9_blockBegins_81 : decode cX9_blockBegins 81 = .ok (.iconst 0, 1) := by decide +kernel
theorem dX9_blockBegins_82 : decode cX9_blockBegins 82 = .ok (.iaload, 1) := by decide +kernel
theorem dX9_blockBegins_83 : decode cX9_blockBegins 83 = .ok (.iastore, 1) := by decide +kernel
theorem dX9_blockBegins_84 : decode cX9_blockBegins 84 = .ok (.aload_n 0, 1) := by decide +kernel
theorem dX9_blockBegins_85 : decode cX9_blockBegins 85 = .ok (.getfield 25, 3) := by decide +kernel
theorem dX9_blockBegins_88 : decode cX9_blockBegins 88 = .ok (.iload_n 1, 1) := by decide +kernel
theorem dX9_blockBegins_89 : decode cX9_blockBegins 89 = .ok (.iconst 1, 1) := by decide +kernel
theorem dX9_blockBegins_90 : decode cX9_blockBegins 90 = .ok (.iadd, 1) := by decide +kernel
theorem dX9_blockBegins_91 : decode cX9_blockBegins 91 = .ok (.bipush (-9), 2) := by decide +kernel
theorem dX9_blockBegins_93 : decode cX9_blockBegins 93 = .ok (.iastore, 1) := by decide +kernel
theorem dX9_blockBegins_94 : decode cX9_blockBegins 94 = .ok (.aload_n 0, 1) := by decide +kernel
theorem dX9_blockBegins_95 : decode cX9_blockBegins 95 = .ok (.getfield 25, 3) := by decide +kernel
theorem dX9_blockBegins_98 : decode cX9_blockBegins 98 = .ok (.iload_n 1, 1) := by decide +kernel
theorem dX9_blockBegins_99 : decode cX9_blockBegins 99 = .ok (.iconst 2, 1) := by decide +kernel
theorem dX9_blockBegins_100 : decode cX9_blockBegins 100 = .ok (.iadd, 1) := by decide +kernel
theorem dX9_blockBegins_101 : decode cX9_blockBegins 101 = .ok (.iconst 0, 1) := by decide +kernel
theorem dX9_blockBegins_102 : decode cX9_blockBegins 102 = .ok (.iastore, 1) := by decide +kernel
theorem dX9_blockBegins_103 : decode cX9_blockBegins 103 = .ok (.iconst 0, 1) := by decide +kernel
theorem dX9_blockBegins_104 : decode cX9_blockBegins 104 = .ok (.istore_n 2, 1) := by decide +kernel
theorem dX9_blockBegins_105 : decode cX9_blockBegins 105 = .ok (.iload_n 2, 1) := by decide +kernel
theorem dX9_blockBegins_106 : decode cX9_blockBegins 106 = .ok (.bipush 6, 2) := by decide +kernel
theorem dX9_blockBegins_108 : decode cX9_blockBegins 108 = .ok (.if_icmp .ge 27, 3) := by decide +kernel
theorem dX9_blockBegins_111 : decode cX9_blockBegins 111 = .ok (.aload_n 0, 1) := by decide +kernel
theorem dX9_blockBegins_112 : decode cX9_blockBegins 112 = .ok (.getfield 25, 3) := by decide +kernel
theorem dX9_blockBegins_115 : decode cX9_blockBegins 115 = .ok (.iload_n 1, 1) := by decide +kernel
theorem dX9_blockBegins_116 : decode cX9_blockBegins 116 = .ok (.iconst 3, 1) := by decide +kernel
theorem dX9_blockBegins_117 : decode cX9_blockBegins 117 = .ok (.iadd, 1) := by decide +kernel
theorem dX9_blockBegins_118 : decode cX9_blockBegins 118 = .ok (.iload_n 2, 1) := by decide +kernel
theorem dX9_blockBegins_119 : decode cX9_blockBegins 119 = .ok (.iadd, 1) := by decide +kernel
theorem dX9_blockBegins_120 : decode cX9_blockBegins 120 = .ok (.aload_n 0, 1) := by decide +kernel
theorem dX9_blockBegins_121 : decode cX9_blockBegins 121 = .ok (.getfield 25, 3) := by decide +kernel
theorem dX9_blockBegins_124 : decode cX9_blockBegins 124 = .ok (.iconst 5, 1) := by decide +kernel
theorem dX9_blockBegins_125 : decode cX9_blockBegins 125 = .ok (.iload_n 2, 1) := by decide +kernel
theorem dX9_blockBegins_126 : decode cX9_blockBegins 126 = .ok (.iadd, 1) := by decide +kernel
theorem dX9_blockBegins_127 : decode cX9_blockBegins 127 = .ok (.iaload, 1) := by decide +kernel
theorem dX9_blockBegins_128 : decode cX9_blockBegins 128 = .ok (.iastore, 1) := by decide +kernel
theorem dX9_blockBegins_129 : decode cX9_blockBegins 129 = .ok (.iinc 2 1, 3) := by decide +kernel
theorem dX9_blockBegins_132 : decode cX9_blockBegins 132 = .ok (.goto (-27), 3) := by decide +kernel
theorem dX9_blockBegins_135 : decode cX9_blockBegins 135 = .ok (.aload_n 0, 1) := by decide +kernel
theorem dX9_blockBegins_136 : decode cX9_blockBegins 136 = .ok (.getfield 25, 3) := by decide +kernel
theorem dX9_blockBegins_139 : decode cX9_blockBegins 139 = .ok (.iconst 3, 1) := by decide +kernel
theorem dX9_blockBegins_140 : decode cX9_blockBegins 140 = .ok (.dup2, 1) := by decide +kernel
theorem dX9_blockBegins_141 : decode cX9_blockBegins 141 = .ok (.iaload, 1) := by decide +kernel
theorem dX9_blockBegins_142 : decode cX9_blockBegins 142 = .ok (.iconst 1, 1) := by decide +kernel
theorem dX9_blockBegins_143 : decode cX9_blockBegins 143 = .ok (.iadd, 1) := by decide +kernel
theorem dX9_blockBegins_144 : decode cX9_blockBegins 144 = .ok (.iastore, 1) := by decide +kernel
theorem dX9_blockBegins_145 : decode cX9_blockBegins 145 = .ok (.return_, 1) := by decide +kernel
theorem bX9_blockBegins_0 {d : Nat} {Q : Option jA → jH → Prop} (a0 : Nat) (u1 : Option jA) (u2 : Option jA) (h : jH)
    (s1 : (jS h a0).1 = 9)
    (s2 : (jS h (jP h a0 9)).1 = 16)
    (s3 : 3 < ((jS h (jP h a0 9)).2 : Int))
    (s4 : ((jX h (jP h a0 9) 3) ≠ 6) → 0 ≤ (jX h (jP h a0 9) 3))
    (s5 : ((jX h (jP h a0 9) 3) ≠ 6) → (jX h (jP h a0 9) 3) ≤ 6)
    (s6 : ((jX h (jP h a0 9) 3) ≠ 6) → 0 < ((jS h (jP h a0 9)).2 : Int))
    (s7 : ((jX h (jP h a0 9) 3) ≠ 6) → 0 ≤ 11 + (33 * (jX h (jP h a0 9) 3)))
    (s8 : ((jX h (jP h a0 9) 3) ≠ 6) → 11 + (33 * (jX h (jP h a0 9) 3)) < ((jS h (jP h a0 9)).2 : Int))
    (r1 : ((jX h (jP h a0 9) 3) ≠ 6) → jR ((11 + (33 * (jX h (jP h a0 9) 3))) + 1))
    (s9 : ((jX h (jP h a0 9) 3) ≠ 6) → 0 ≤ (11 + (33 * (jX h (jP h a0 9) 3))) + 1)
    (s10 : ((jX h (jP h a0 9) 3) ≠ 6) → (11 + (33 * (jX h (jP h a0 9) 3))) + 1 < ((jS h (jP h a0 9)).2 : Int))
    (r2 : ((jX h (jP h a0 9) 3) ≠ 6) → jR ((11 + (33 * (jX h (jP h a0 9) 3))) + 2))
    (s11 : ((jX h (jP h a0 9) 3) ≠ 6) → 0 ≤ (11 + (33 * (jX h (jP h a0 9) 3))) + 2)
    (s12 : ((jX h (jP h a0 9) 3) ≠ 6) → (11 + (33 * (jX h (jP h a0 9) 3))) + 2 < ((jS h (jP h a0 9)).2 : Int))
    (k1 : ((jX h (jP h a0 9) 3) ≠ 6) → V MX9_blockBegins (d + 1) 105 [some (.inr a0), some (.inl (11 + (33 * (jX h (jP h a0 9) 3)))), some (.inl 0)] [] (jsX (jsX (jsX h (jP h a0 9) ((11 + (33 * (jX h (jP h a0 9) 3))).toNat) (jX h (jP h a0 9) 0)) (jP h a0 9) (((11 + (33 * (jX h (jP h a0 9) 3))) + 1).toNat) ((-9))) (jP h a0 9) (((11 + (33 * (jX h (jP h a0 9) 3))) + 2).toNat) 0) 0 0 Q)
    (k2 : ((jX h (jP h a0 9) 3) = 6) → V MX9_blockBegins (d + 1) 14 [some (.inr a0), some (.inl 11), u2] [] h 0 0 Q) :
    V MX9_blockBegins (d + 1) 0 [some (.inr a0), u1, u2] [] h 0 0 Q := by
  refine V_aload_n (i := 0) dX9_blockBegins_0 rfl rfl ?_
  refine V_getP dX9_blockBegins_1 fX9_25 rfl s1 ?_
  refine V_iconst dX9_blockBegins_4 ⟨by decide, by decide⟩ ?_
  refine V_iald dX9_blockBegins_5 s2 (by decide) s3 ?_
  refine V_bipush dX9_blockBegins_6 (by decide +kernel) ⟨by decide, by decide⟩ ?_
  refine V_icmp_ne (tgt := 62) dX9_blockBegins_8 (by decide) (fun c1 => ?_) (fun c1 => ?_)
  · refine V_aload_n (i := 0) dX9_blockBegins_62 rfl rfl ?_
    refine V_getP dX9_blockBegins_63 fX9_25 rfl s1 ?_
    refine V_iconst dX9_blockBegins_66 ⟨by decide, by decide⟩ ?_
    refine V_iald dX9_blockBegins_67 s2 (by decide) s3 ?_
    refine V_callS (M := MX9_blockBegins) (d := (d + 1)) (mc' := 0) (ms' := 0) (mc := 0) (ms := 0) (a := 0) (As := [.inl (jX h (jP h a0 9) 3)]) (rest := []) dX9_blockBegins_68 tX9_block0 sX9_block0 lX9_256 rfl rfl (Nat.le_of_ble_eq_true rfl) (show d + 1 ≤ (d + 1) by omega) (Ex.mono (pX9_block0 (d := d) (s4 c1) (s5 c1)) ?_)
    intro v h2 hq
    rw [hq.1, hq.2]
    show V MX9_blockBegins (d + 1) 71 [some (.inr a0), u1, u2] [.inl (11 + (33 * (jX h (jP h a0 9) 3)))] h 0 0 Q
    refine V_istore_n (i := 1) dX9_blockBegins_71 rfl (by decide) ?_
    refine V_aload_n (i := 0) dX9_blockBegins_72 rfl rfl ?_
    refine V_getP dX9_blockBegins_73 fX9_25 rfl s1 ?_
    refine V_iload_n (i := 1) dX9_blockBegins_76 rfl rfl ?_
    refine V_aload_n (i := 0) dX9_blockBegins_77 rfl rfl ?_
    refine V_getP dX9_blockBegins_78 fX9_25 rfl s1 ?_
    refine V_iconst dX9_blockBegins_81 ⟨by decide, by decide⟩ ?_
    refine V_iald dX9_blockBegins_82 s2 (by decide) (s6 c1) ?_
    refine V_iast dX9_blockBegins_83 s2 (s7 c1) (s8 c1) ?_
    refine V_aload_n (i := 0) dX9_blockBegins_84 rfl rfl ?_
    refine V_getP dX9_blockBegins_85 fX9_25 rfl s1 ?_
    refine V_iload_n (i := 1) dX9_blockBegins_88 rfl rfl ?_
    refine V_iconst dX9_blockBegins_89 ⟨by decide, by decide⟩ ?_
    refine V_iadd dX9_blockBegins_90 (r1 c1) ?_
    refine V_bipush dX9_blockBegins_91 (by decide +kernel) ⟨by decide, by decide⟩ ?_
    refine V_iast dX9_blockBegins_93 s2 (s9 c1) (s10 c1) ?_
    refine V_aload_n (i := 0) dX9_blockBegins_94 rfl rfl ?_
    refine V_getP dX9_blockBegins_95 fX9_25 rfl s1 ?_
    refine V_iload_n (i := 1) dX9_blockBegins_98 rfl rfl ?_
    refine V_iconst dX9_blockBegins_99 ⟨by decide, by decide⟩ ?_
    refine V_iadd dX9_blockBegins_100 (r2 c1) ?_
    refine V_iconst dX9_blockBegins_101 ⟨by decide, by decide⟩ ?_
    refine V_iast dX9_blockBegins_102 s2 (s11 c1) (s12 c1) ?_
    refine V_iconst dX9_blockBegins_103 ⟨by decide, by decide⟩ ?_
    refine V_istore_n (i := 2) dX9_blockBegins_104 rfl (by decide) ?_
    exact (k1 c1)
  · refine V_bipush dX9_blockBegins_11 (by decide +kernel) ⟨by decide, by decide⟩ ?_
    refine V_istore_n (i := 1) dX9_blockBegins_13 rfl (by decide) ?_
    exact (k2 c1)
theorem bX9_blockBegins_14 {d : Nat} {Q : Option jA → jH → Prop} (a0 : Nat) (i1 : Int) (u2 : Option jA) (h : jH)
    (s1 : (jS h a0).1 = 9)
    (s2 : (jS h (jP h a0 9)).1 = 16)
    (s3 : (176 ≤ i1) → 3 < ((jS h (jP h a0 9)).2 : Int))
    (r1 : (176 ≤ i1) → jR ((jX h (jP h a0 9) 3) - 1))
    (s4 : (176 ≤ i1) → 4 < ((jS h (jP h a0 9)).2 : Int))
    (r2 : (176 ≤ i1) → jR ((jX h (jP h a0 9) 4) + 1))
    (s5 : (176 ≤ i1) → 0 ≤ ((jX h (jP h a0 9) 3) - 1))
    (s6 : (176 ≤ i1) → ((jX h (jP h a0 9) 3) - 1) ≤ 6)
    (s7 : (176 ≤ i1) → 0 < ((jS h (jP h a0 9)).2 : Int))
    (s8 : (176 ≤ i1) → 0 ≤ 11 + (33 * ((jX h (jP h a0 9) 3) - 1)))
    (s9 : (176 ≤ i1) → 11 + (33 * ((jX h (jP h a0 9) 3) - 1)) < ((jS h (jP h a0 9)).2 : Int))
    (r3 : (176 ≤ i1) → jR ((11 + (33 * ((jX h (jP h a0 9) 3) - 1))) + 1))
    (s10 : (176 ≤ i1) → 0 ≤ (11 + (33 * ((jX h (jP h a0 9) 3) - 1))) + 1)
    (s11 : (176 ≤ i1) → (11 + (33 * ((jX h (jP h a0 9) 3) - 1))) + 1 < ((jS h (jP h a0 9)).2 : Int))
    (r4 : (176 ≤ i1) → jR ((11 + (33 * ((jX h (jP h a0 9) 3) - 1))) + 2))
    (s12 : (176 ≤ i1) → 0 ≤ (11 + (33 * ((jX h (jP h a0 9) 3) - 1))) + 2)
    (s13 : (176 ≤ i1) → (11 + (33 * ((jX h (jP h a0 9) 3) - 1))) + 2 < ((jS h (jP h a0 9)).2 : Int))
    (k1 : (176 ≤ i1) → V MX9_blockBegins (d + 1) 105 [some (.inr a0), some (.inl (11 + (33 * ((jX h (jP h a0 9) 3) - 1)))), some (.inl 0)] [] (jsX (jsX (jsX (jsX (jsX h (jP h a0 9) 3 ((jX h (jP h a0 9) 3) - 1)) (jP h a0 9) 4 ((jX h (jP h a0 9) 4) + 1)) (jP h a0 9) ((11 + (33 * ((jX h (jP h a0 9) 3) - 1))).toNat) (jX h (jP h a0 9) 0)) (jP h a0 9) (((11 + (33 * ((jX h (jP h a0 9) 3) - 1))) + 1).toNat) ((-9))) (jP h a0 9) (((11 + (33 * ((jX h (jP h a0 9) 3) - 1))) + 2).toNat) 0) 0 0 Q)
    (r5 : (¬ (176 ≤ i1)) → jR (i1 + 33))
    (s14 : (¬ (176 ≤ i1)) → 0 ≤ i1 + 33)
    (s15 : (¬ (176 ≤ i1)) → i1 + 33 < ((jS h (jP h a0 9)).2 : Int))
    (s16 : (¬ (176 ≤ i1)) → 0 ≤ i1)
    (s17 : (¬ (176 ≤ i1)) → i1 < ((jS h (jP h a0 9)).2 : Int))
    (r6 : (¬ (176 ≤ i1)) → jR (i1 + 1))
    (k2 : (¬ (176 ≤ i1)) → V MX9_blockBegins (d + 1) 14 [some (.inr a0), some (.inl (i1 + 1)), u2] [] (jsX h (jP h a0 9) ((i1).toNat) (jX h (jP h a0 9) ((i1 + 33).toNat))) 0 0 Q) :
    V MX9_blockBegins (d + 1) 14 [some (.inr a0), some (.inl i1), u2] [] h 0 0 Q := by
  refine V_iload_n (i := 1) dX9_blockBegins_14 rfl rfl ?_
  refine V_sipush dX9_blockBegins_15 (by decide +kernel) ⟨by decide, by decide⟩ ?_
  refine V_icmp_ge (tgt := 42) dX9_blockBegins_18 (by decide) (fun c1 => ?_) (fun c1 => ?_)
  · refine V_aload_n (i := 0) dX9_blockBegins_42 rfl rfl ?_
    refine V_getP dX9_blockBegins_43 fX9_25 rfl s1 ?_
    refine V_iconst dX9_blockBegins_46 ⟨by decide, by decide⟩ ?_
    refine V_dup2 dX9_blockBegins_47 ?_
    refine V_iald dX9_blockBegins_48 s2 (by decide) (s3 c1) ?_
    refine V_iconst dX9_blockBegins_49 ⟨by decide, by decide⟩ ?_
    refine V_isub dX9_blockBegins_50 (r1 c1) ?_
    refine V_iast dX9_blockBegins_51 s2 (by decide) (s3 c1) ?_
    refine V_aload_n (i := 0) dX9_blockBegins_52 rfl rfl ?_
    refine V_getP dX9_blockBegins_53 fX9_25 rfl s1 ?_
    refine V_iconst dX9_blockBegins_56 ⟨by decide, by decide⟩ ?_
    refine V_dup2 dX9_blockBegins_57 ?_
    refine V_iald dX9_blockBegins_58 s2 (by decide) (s4 c1) ?_
    refine V_topI (jX_ne (by decide)) ?_
    refine V_iconst dX9_blockBegins_59 ⟨by decide, by decide⟩ ?_
    refine V_iadd dX9_blockBegins_60 (r2 c1) ?_
    refine V_iast dX9_blockBegins_61 s2 (by decide) (s4 c1) ?_
    refine V_aload_n (i := 0) dX9_blockBegins_62 rfl rfl ?_
    refine V_getP dX9_blockBegins_63 fX9_25 rfl s1 ?_
    refine V_iconst dX9_blockBegins_66 ⟨by decide, by decide⟩ ?_
    refine V_iald dX9_blockBegins_67 s2 (by decide) (s3 c1) ?_
    refine V_topI ((jX_ne (by decide)).trans (jX_at)) ?_
    refine V_callS (M := MX9_blockBegins) (d := (d + 1)) (mc' := 0) (ms' := 0) (mc := 0) (ms := 0) (a := 0) (As := [.inl ((jX h (jP h a0 9) 3) - 1)]) (rest := []) dX9_blockBegins_68 tX9_block0 sX9_block0 lX9_256 rfl rfl (Nat.le_of_ble_eq_true rfl) (show d + 1 ≤ (d + 1) by omega) (Ex.mono (pX9_block0 (d := d) (s5 c1) (s6 c1)) ?_)
    intro v h2 hq
    rw [hq.1, hq.2]
    show V MX9_blockBegins (d + 1) 71 [some (.inr a0), some (.inl i1), u2] [.inl (11 + (33 * ((jX h (jP h a0 9) 3) - 1)))] (jsX (jsX h (jP h a0 9) 3 ((jX h (jP h a0 9) 3) - 1)) (jP h a0 9) 4 ((jX h (jP h a0 9) 4) + 1)) 0 0 Q
    refine V_istore_n (i := 1) dX9_blockBegins_71 rfl (by decide) ?_
    refine V_aload_n (i := 0) dX9_blockBegins_72 rfl rfl ?_
    refine V_getP dX9_blockBegins_73 fX9_25 rfl s1 ?_
    refine V_iload_n (i := 1) dX9_blockBegins_76 rfl rfl ?_
    refine V_aload_n (i := 0) dX9_blockBegins_77 rfl rfl ?_
    refine V_getP dX9_blockBegins_78 fX9_25 rfl s1 ?_
    refine V_iconst dX9_blockBegins_81 ⟨by decide, by decide⟩ ?_
    refine V_iald dX9_blockBegins_82 s2 (by decide) (s7 c1) ?_
    refine V_topI ((jX_ne (by decide)).trans (jX_ne (by decide))) ?_
    refine V_iast dX9_blockBegins_83 s2 (s8 c1) (s9 c1) ?_
    refine V_aload_n (i := 0) dX9_blockBegins_84 rfl rfl ?_
    refine V_getP dX9_blockBegins_85 fX9_25 rfl s1 ?_
    refine V_iload_n (i := 1) dX9_blockBegins_88 rfl rfl ?_
    refine V_iconst dX9_blockBegins_89 ⟨by decide, by decide⟩ ?_
    refine V_iadd dX9_blockBegins_90 (r3 c1) ?_
    refine V_bipush dX9_blockBegins_91 (by decide +kernel) ⟨by decide, by decide⟩ ?_
    refine V_iast dX9_blockBegins_93 s2 (s10 c1) (s11 c1) ?_
    refine V_aload_n (i := 0) dX9_blockBegins_94 rfl rfl ?_
    refine V_getP dX9_blockBegins_95 fX9_25 rfl s1 ?_
    refine V_iload_n (i := 1) dX9_blockBegins_98 rfl rfl ?_
    refine V_iconst dX9_blockBegins_99 ⟨by decide, by decide⟩ ?_
    refine V_iadd dX9_blockBegins_100 (r4 c1) ?_
    refine V_iconst dX9_blockBegins_101 ⟨by decide, by decide⟩ ?_
    refine V_iast dX9_blockBegins_102 s2 (s12 c1) (s13 c1) ?_
    refine V_iconst dX9_blockBegins_103 ⟨by decide, by decide⟩ ?_
    refine V_istore_n (i := 2) dX9_blockBegins_104 rfl (by decide) ?_
    exact (k1 c1)
  · refine V_aload_n (i := 0) dX9_blockBegins_21 rfl rfl ?_
    refine V_getP dX9_blockBegins_22 fX9_25 rfl s1 ?_
    refine V_iload_n (i := 1) dX9_blockBegins_25 rfl rfl ?_
    refine V_aload_n (i := 0) dX9_blockBegins_26 rfl rfl ?_
    refine V_getP dX9_blockBegins_27 fX9_25 rfl s1 ?_
    refine V_iload_n (i := 1) dX9_blockBegins_30 rfl rfl ?_
    refine V_bipush dX9_blockBegins_31 (by decide +kernel) ⟨by decide, by decide⟩ ?_
    refine V_iadd dX9_blockBegins_33 (r5 c1) ?_
    refine V_iald dX9_blockBegins_34 s2 (s14 c1) (s15 c1) ?_
    refine V_iast dX9_blockBegins_35 s2 (s16 c1) (s17 c1) ?_
    refine V_iinc (i := 1) dX9_blockBegins_36 rfl (by decide) (r6 c1) ?_
    refine V_goto (tgt := 14) dX9_blockBegins_39 (by decide) ?_
    exact (k2 c1)
theorem bX9_blockBegins_105 {d : Nat} {Q : Option jA → jH → Prop} (a0 : Nat) (i1 : Int) (i2 : Int) (h : jH)
    (s1 : (jS h a0).1 = 9)
    (s2 : (jS h (jP h a0 9)).1 = 16)
    (s3 : (6 ≤ i2) → 3 < ((jS h (jP h a0 9)).2 : Int))
    (r1 : (6 ≤ i2) → jR ((jX h (jP h a0 9) 3) + 1))
    (q1 : (6 ≤ i2) → Q none (jsX h (jP h a0 9) 3 ((jX h (jP h a0 9) 3) + 1)))
    (r2 : (¬ (6 ≤ i2)) → jR (i1 + 3))
    (r3 : (¬ (6 ≤ i2)) → jR ((i1 + 3) + i2))
    (r4 : (¬ (6 ≤ i2)) → jR (5 + i2))
    (s4 : (¬ (6 ≤ i2)) → 0 ≤ 5 + i2)
    (s5 : (¬ (6 ≤ i2)) → 5 + i2 < ((jS h (jP h a0 9)).2 : Int))
    (s6 : (¬ (6 ≤ i2)) → 0 ≤ (i1 + 3) + i2)
    (s7 : (¬ (6 ≤ i2)) → (i1 + 3) + i2 < ((jS h (jP h a0 9)).2 : Int))
    (r5 : (¬ (6 ≤ i2)) → jR (i2 + 1))
    (k1 : (¬ (6 ≤ i2)) → V MX9_blockBegins (d + 1) 105 [some (.inr a0), some (.inl i1), some (.inl (i2 + 1))] [] (jsX h (jP h a0 9) (((i1 + 3) + i2).toNat) (jX h (jP h a0 9) ((5 + i2).toNat))) 0 0 Q) :
    V MX9_blockBegins (d + 1) 105 [some (.inr a0), some (.inl i1), some (.inl i2)] [] h 0 0 Q := by
  refine V_iload_n (i := 2) dX9_blockBegins_105 rfl rfl ?_
  refine V_bipush dX9_blockBegins_106 (by decide +kernel) ⟨by decide, by decide⟩ ?_
  refine V_icmp_ge (tgt := 135) dX9_blockBegins_108 (by decide) (fun c1 => ?_) (fun c1 => ?_)
  · refine V_aload_n (i := 0) dX9_blockBegins_135 rfl rfl ?_
    refine V_getP dX9_blockBegins_136 fX9_25 rfl s1 ?_
    refine V_iconst dX9_blockBegins_139 ⟨by decide, by decide⟩ ?_
    refine V_dup2 dX9_blockBegins_140 ?_
    refine V_iald dX9_blockBegins_141 s2 (by decide) (s3 c1) ?_
    refine V_iconst dX9_blockBegins_142 ⟨by decide, by decide⟩ ?_
    refine V_iadd dX9_blockBegins_143 (r1 c1) ?_
    refine V_iast dX9_blockBegins_144 s2 (by decide) (s3 c1) ?_
    exact V_ret (v := none) rfl rfl dX9_blockBegins_145 trivial rfl (q1 c1)
  · refine V_aload_n (i := 0) dX9_blockBegins_111 rfl rfl ?_
    refine V_getP dX9_blockBegins_112 fX9_25 rfl s1 ?_
    refine V_iload_n (i := 1) dX9_blockBegins_115 rfl rfl ?_
    refine V_iconst dX9_blockBegins_116 ⟨by decide, by decide⟩ ?_
    refine V_iadd dX9_blockBegins_117 (r2 c1) ?_
    refine V_iload_n (i := 2) dX9_blockBegins_118 rfl rfl ?_
    refine V_iadd dX9_blockBegins_119 (r3 c1) ?_
    refine V_aload_n (i := 0) dX9_blockBegins_120 rfl rfl ?_
    refine V_getP dX9_blockBegins_121 fX9_25 rfl s1 ?_
    refine V_iconst dX9_blockBegins_124 ⟨by decide, by decide⟩ ?_
    refine V_iload_n (i := 2) dX9_blockBegins_125 rfl rfl ?_
    refine V_iadd dX9_blockBegins_126 (r4 c1) ?_
    refine V_iald dX9_blockBegins_127 s2 (s4 c1) (s5 c1) ?_
    refine V_iast dX9_blockBegins_128 s2 (s6 c1) (s7 c1) ?_
    refine V_iinc (i := 2) dX9_blockBegins_129 rfl (by decide) (r5 c1) ?_
    refine V_goto (tgt := 105) dX9_blockBegins_132 (by decide) ?_
    exact (k1 c1)
theorem dX9_notes_0 : decode cX9_notes 0 = .ok (.aload_n 0, 1) := by decide +kernel
theorem dX9_notes_1 : decode cX9_notes 1 = .ok (.getfield 227, 3) := by decide +kernel
theorem dX9_notes_4 : decode cX9_notes 4 = .ok (.bipush 6, 2) := by decide +kernel
theorem dX9_notes_6 : decode cX9_notes 6 = .ok (.if_icmp .ne 44, 3) := by decide +kernel
theorem dX9_notes_9 : decode cX9_notes 9 = .ok (.iconst 0, 1) := by decide +kernel
theorem dX9_notes_10 : decode cX9_notes 10 = .ok (.istore_n 1, 1) := by decide +kernel
theorem dX9_notes_11 : decode cX9_notes 11 = .ok (.iload_n 1, 1) := by decide +kernel
theorem dX9_notes_12 : decode cX9_notes 12 = .ok (.sipush 1045, 3) := by decide +kernel
theorem dX9_notes_15 : decode cX9_notes 15 = .ok (.if_icmp .ge 25, 3) := by decide +kernel
theorem dX9_notes_18 : decode cX9_notes 18 = .ok (.aload_n 0, 1) := by decide +kernel
theorem dX9_notes_19 : decode cX9_notes 19 = .ok (.getfield 28, 3) := by decide +kernel
theorem dX9_notes_22 : decode cX9_notes 22 = .ok (.iload_n 1, 1) := by decide +kernel
theorem dX9_notes_23 : decode cX9_notes 23 = .ok (.aload_n 0, 1) := by decide +kernel
theorem dX9_notes_24 : decode cX9_notes 24 = .ok (.getfield 28, 3) := by decide +kernel
theorem dX9_notes_27 : decode cX9_notes 27 = .ok (.iload_n 1, 1) := by decide +kernel
theorem dX9_notes_28 : decode cX9_notes 28 = .ok (.sipush 209, 3) := by decide +kernel
theorem dX9_notes_31 : decode cX9_notes 31 = .ok (.iadd, 1) := by decide +kernel
theorem dX9_notes_32 : decode cX9_notes 32 = .ok (.iaload, 1) := by decide +kernel
theorem dX9_notes_33 : decode cX9_notes 33 = .ok (.iastore, 1) := by decide +kernel
theorem dX9_notes_34 : decode cX9_notes 34 = .ok (.iinc 1 1, 3) := by decide +kernel
theorem dX9_notes_37 : decode cX9_notes 37 = .ok (.goto (-26), 3) := by decide +kernel
theorem dX9_notes_40 : decode cX9_notes 40 = .ok (.aload_n 0, 1) := by decide +kernel
theorem dX9_notes_41 : decode cX9_notes 41 = .ok (.dup, 1) := by decide +kernel
theorem dX9_notes_42 : decode cX9_notes 42 = .ok (.getfield 227, 3) := by decide +kernel
theorem dX9_notes_45 : decode cX9_notes 45 = .ok (.iconst 1, 1) := by decide +kernel
theorem dX9_notes_46 : decode cX9_notes 46 = .ok (.isub, 1) := by decide +kernel
theorem dX9_notes_47 : decode cX9_notes 47 = .ok (.putfield 227, 3) := by decide +kernel
theorem dX9_notes_50 : decode cX9_notes 50 = .ok (.iconst 0, 1) := by decide +kernel
theorem dX9_notes_51 : decode cX9_notes 51 = .ok (.istore_n 1, 1) := by decide +kernel
theorem dX9_notes_52 : decode cX9_notes 52 = .ok (.iload_n 1, 1) := by decide +kernel
theorem dX9_notes_53 : decode cX9_notes 53 = .ok (.sipush 209, 3) := by decide +kernel
theorem dX9_notes_56 : decode cX9_notes 56 = .ok (.if_icmp .ge 30, 3) := by decide +kernel
theorem dX9_notes_59 : decode cX9_notes 59 = .ok (.aload_n 0, 1) := by decide +kernel
theorem dX9_notes_60 : decode cX9_notes 60 = .ok (.getfield 28, 3) := by decide +kernel
theorem dX9_notes_63 : decode cX9_notes 63 = .ok (.sipush 209, 3) := by decide +kernel
theorem dX9_notes_66 : decode cX9_notes 66 = .ok (.aload_n 0, 1) := by decide +kernel
theorem dX9_notes_67 : decode cX9_notes 67 = .ok (.getfield 227, 3) := by decide +kernel
theorem dX9_notes_70 : decode cX9_notes 70 = .ok (.imul, 1) := by decide +kernel
theorem dX9_notes_71 : decode cX9_notes 71 = .ok (.iload_n 1, 1) := by decide +kernel
theorem dX9_notes_72 : decode cX9_notes 72 = .ok (.iadd, 1) := by decide +kernel
theorem dX9_notes_73 : decode cX9_notes 73 = .ok (.aload_n 0, 1) := by decide +kernel
theorem dX9_notes_74 : decode cX9_notes 74 = .ok (.getfield 25, 3) := by decide +kernel
theorem dX9_notes_77 : decode cX9_notes 77 = .ok (.iload_n 1, 1) := by decide +kernel
theorem dX9_notes_78 : decode cX9_notes 78 = .ok (.iaload, 1) := by decide +kernel
theorem dX9_notes_79 : decode cX9_notes 79 = .ok (.iastore, 1) := by decide +kernel
theorem dX9_notes_80 : decode cX9_notes 80 = .ok (.iinc 1 1, 3) := by decide +kernel
theorem dX9_notes_83 : decode cX9_notes 83 = .ok (.goto (-31), 3) := by decide +kernel
theorem dX9_notes_86 : decode cX9_notes 86 = .ok (.aload_n 0, 1) := by decide +kernel
theorem dX9_notes_87 : decode cX9_notes 87 = .ok (.dup, 1) := by decide +kernel
theorem dX9_notes_88 : decode cX9_notes 88 = .ok (.getfield 227, 3) := by decide +kernel
theorem dX9_notes_91 : decode cX9_notes 91 = .ok (.iconst 1, 1) := by decide +kernel
theorem dX9_notes_92 : decode cX9_notes 92 = .ok (.iadd, 1) := by decide +kernel
theorem dX9_notes_93 : decode cX9_notes 93 = .ok (.putfield 227, 3) := by decide +kernel
theorem dX9_notes_96 : decode cX9_notes 96 = .ok (.return_, 1) := by decide +kernel
theorem bX9_notes_0 {d : Nat} {Q : Option jA → jH → Prop} (a0 : Nat) (u1 : Option jA) (h : jH)
    (s1 : (jS h a0).1 = 9)
    (k1 : ((jI h a0 11) ≠ 6) → V MX9_notes d 52 [some (.inr a0), some (.inl 0)] [] h 0 0 Q)
    (k2 : ((jI h a0 11) = 6) → V MX9_notes d 11 [some (.inr a0), some (.inl 0)] [] h 0 0 Q) :
    V MX9_notes d 0 [some (.inr a0), u1] [] h 0 0 Q := by
  refine V_aload_n (i := 0) dX9_notes_0 rfl rfl ?_
  refine V_getI dX9_notes_1 fX9_227 rfl s1 ?_
  refine V_bipush dX9_notes_4 (by decide +kernel) ⟨by decide, by decide⟩ ?_
  refine V_icmp_ne (tgt := 50) dX9_notes_6 (by decide) (fun c1 => ?_) (fun c1 => ?_)
  · refine V_iconst dX9_notes_50 ⟨by decide, by decide⟩ ?_
    refine V_istore_n (i := 1) dX9_notes_51 rfl (by decide) ?_
    exact (k1 c1)
  · refine V_iconst dX9_notes_9 ⟨by decide, by decide⟩ ?_
    refine V_istore_n (i := 1) dX9_notes_10 rfl (by decide) ?_
    exact (k2 c1)
theorem bX9_notes_11 {d : Nat} {Q : Option jA → jH → Prop} (a0 : Nat) (i1 : Int) (h : jH)
    (s1 : (jS h a0).1 = 9)
    (r1 : (1045 ≤ i1) → jR ((jI h a0 11) - 1))
    (k1 : (1045 ≤ i1) → V MX9_notes d 52 [some (.inr a0), some (.inl 0)] [] (jsI h a0 11 ((jI h a0 11) - 1)) 0 0 Q)
    (r2 : (¬ (1045 ≤ i1)) → jR (i1 + 209))
    (s2 : (jS h (jP h a0 10)).1 = 16)
    (s3 : (¬ (1045 ≤ i1)) → 0 ≤ i1 + 209)
    (s4 : (¬ (1045 ≤ i1)) → i1 + 209 < ((jS h (jP h a0 10)).2 : Int))
    (s5 : (¬ (1045 ≤ i1)) → 0 ≤ i1)
    (s6 : (¬ (1045 ≤ i1)) → i1 < ((jS h (jP h a0 10)).2 : Int))
    (r3 : (¬ (1045 ≤ i1)) → jR (i1 + 1))
    (k2 : (¬ (1045 ≤ i1)) → V MX9_notes d 11 [some (.inr a0), some (.inl (i1 + 1))] [] (jsX h (jP h a0 10) ((i1).toNat) (jX h (jP h a0 10) ((i1 + 209).toNat))) 0 0 Q) :
    V MX9_notes d 11 [some (.inr a0), some (.inl i1)] [] h 0 0 Q := by
  refine V_iload_n (i := 1) dX9_notes_11 rfl rfl ?_
  refine V_sipush dX9_notes_12 (by decide +kernel) ⟨by decide, by decide⟩ ?_
  refine V_icmp_ge (tgt := 40) dX9_notes_15 (by decide) (fun c1 => ?_) (fun c1 => ?_)
  · refine V_aload_n (i := 0) dX9_notes_40 rfl rfl ?_
    refine V_dup dX9_notes_41 ?_
    refine V_getI dX9_notes_42 fX9_227 rfl s1 ?_
    refine V_iconst dX9_notes_45 ⟨by decide, by decide⟩ ?_
    refine V_isub dX9_notes_46 (r1 c1) ?_
    refine V_putI (ci := 9) (kf := 11) dX9_notes_47 fX9_227 rfl rfl s1 ?_
    refine V_iconst dX9_notes_50 ⟨by decide, by decide⟩ ?_
    refine V_istore_n (i := 1) dX9_notes_51 rfl (by decide) ?_
    exact (k1 c1)
  · refine V_aload_n (i := 0) dX9_notes_18 rfl rfl ?_
    refine V_getP dX9_notes_19 fX9_28 rfl s1 ?_
    refine V_iload_n (i := 1) dX9_notes_22 rfl rfl ?_
    refine V_aload_n (i := 0) dX9_notes_23 rfl rfl ?_
    refine V_getP dX9_notes_24 fX9_28 rfl s1 ?_
    refine V_iload_n (i := 1) dX9_notes_27 rfl rfl ?_
    refine V_sipush dX9_notes_28 (by decide +kernel) ⟨by decide, by decide⟩ ?_
    refine V_iadd dX9_notes_31 (r2 c1) ?_
    refine V_iald dX9_notes_32 s2 (s3 c1) (s4 c1) ?_
    refine V_iast dX9_notes_33 s2 (s5 c1) (s6 c1) ?_
    refine V_iinc (i := 1) dX9_notes_34 rfl (by decide) (r3 c1) ?_
    refine V_goto (tgt := 11) dX9_notes_37 (by decide) ?_
    exact (k2 c1)
theorem bX9_notes_52 {d : Nat} {Q : Option jA → jH → Prop} (a0 : Nat) (i1 : Int) (h : jH)
    (s1 : (jS h a0).1 = 9)
    (r1 : (209 ≤ i1) → jR ((jI h a0 11) + 1))
    (q1 : (209 ≤ i1) → Q none (jsI h a0 11 ((jI h a0 11) + 1)))
    (r2 : (¬ (209 ≤ i1)) → jR (209 * (jI h a0 11)))
    (r3 : (¬ (209 ≤ i1)) → jR ((209 * (jI h a0 11)) + i1))
    (s2 : (jS h (jP h a0 9)).1 = 16)
    (s3 : (¬ (209 ≤ i1)) → 0 ≤ i1)
    (s4 : (¬ (209 ≤ i1)) → i1 < ((jS h (jP h a0 9)).2 : Int))
    (s5 : (jS h (jP h a0 10)).1 = 16)
    (s6 : (¬ (209 ≤ i1)) → 0 ≤ (209 * (jI h a0 11)) + i1)
    (s7 : (¬ (209 ≤ i1)) → (209 * (jI h a0 11)) + i1 < ((jS h (jP h a0 10)).2 : Int))
    (r4 : (¬ (209 ≤ i1)) → jR (i1 + 1))
    (k1 : (¬ (209 ≤ i1)) → V MX9_notes d 52 [some (.inr a0), some (.inl (i1 + 1))] [] (jsX h (jP h a0 10) (((209 * (jI h a0 11)) + i1).toNat) (jX h (jP h a0 9) ((i1).toNat))) 0 0 Q) :
    V MX9_notes d 52 [some (.inr a0), some (.inl i1)] [] h 0 0 Q := by
  refine V_iload_n (i := 1) dX9_notes_52 rfl rfl ?_
  refine V_sipush dX9_notes_53 (by decide +kernel) ⟨by decide, by decide⟩ ?_
  refine V_icmp_ge (tgt := 86) dX9_notes_56 (by decide) (fun c1 => ?_) (fun c1 => ?_)
  · refine V_aload_n (i := 0) dX9_notes_86 rfl rfl ?_
    refine V_dup dX9_notes_87 ?_
    refine V_getI dX9_notes_88 fX9_227 rfl s1 ?_
    refine V_iconst dX9_notes_91 ⟨by decide, by decide⟩ ?_
    refine V_iadd dX9_notes_92 (r1 c1) ?_
    refine V_putI (ci := 9) (kf := 11) dX9_notes_93 fX9_227 rfl rfl s1 ?_
    exact V_ret (v := none) rfl rfl dX9_notes_96 trivial rfl (q1 c1)
  · refine V_aload_n (i := 0) dX9_notes_59 rfl rfl ?_
    refine V_getP dX9_notes_60 fX9_28 rfl s1 ?_
    refine V_sipush dX9_notes_63 (by decide +kernel) ⟨by decide, by decide⟩ ?_
    refine V_aload_n (i := 0) dX9_notes_66 rfl rfl ?_
    refine V_getI dX9_notes_67 fX9_227 rfl s1 ?_
    refine V_imul dX9_notes_70 (r2 c1) ?_
    refine V_iload_n (i := 1) dX9_notes_71 rfl rfl ?_
    refine V_iadd dX9_notes_72 (r3 c1) ?_
    refine V_aload_n (i := 0) dX9_notes_73 rfl rfl ?_
    refine V_getP dX9_notes_74 fX9_25 rfl s1 ?_
    refine V_iload_n (i := 1) dX9_notes_77 rfl rfl ?_
    refine V_iald dX9_notes_78 s2 (s3 c1) (s4 c1) ?_
    refine V_iast dX9_notes_79 s5 (s6 c1) (s7 c1) ?_
    refine V_iinc (i := 1) dX9_notes_80 rfl (by decide) (r4 c1) ?_
    refine V_goto (tgt := 52) dX9_notes_83 (by decide) ?_
    exact (k1 c1)
theorem dX9_sets_0 : decode cX9_sets 0 = .ok (.aload_n 0, 1) := by decide +kernel
theorem dX9_sets_1 : decode cX9_sets 1 = .ok (.iload_n 1, 1) := by decide +kernel
theorem dX9_sets_2 : decode cX9_sets 2 = .ok (.invokevirtual 259, 3) := by decide +kernel
theorem dX9_sets_5 : decode cX9_sets 5 = .ok (.ifCond .eq 21, 3) := by decide +kernel
theorem dX9_sets_8 : decode cX9_sets 8 = .ok (.iload_n 2, 1) := by decide +kernel
theorem dX9_sets_9 : decode cX9_sets 9 = .ok (.iconst 0, 1) := by decide +kernel
theorem dX9_sets_10 : decode cX9_sets 10 = .ok (.iconst 1, 1) := by decide +kernel
theorem dX9_sets_11 : decode cX9_sets 11 = .ok (.aload_n 0, 1) := by decide +kernel
theorem dX9_sets_12 : decode cX9_sets 12 = .ok (.iload_n 1, 1) := by decide +kernel
theorem dX9_sets_13 : decode cX9_sets 13 = .ok (.iconst 1, 1) := by decide +kernel
theorem dX9_sets_14 : decode cX9_sets 14 = .ok (.invokevirtual 233, 3) := by decide +kernel
theorem dX9_sets_17 : decode cX9_sets 17 = .ok (.ishl, 1) := by decide +kernel
theorem dX9_sets_18 : decode cX9_sets 18 = .ok (.iconst 1, 1) := by decide +kernel
theorem dX9_sets_19 : decode cX9_sets 19 = .ok (.isub, 1) := by decide +kernel
theorem dX9_sets_20 : decode cX9_sets 20 = .ok (.invokestatic 95, 3) := by decide +kernel
theorem dX9_sets_23 : decode cX9_sets 23 = .ok (.ifCond .ne 5, 3) := by decide +kernel
theorem dX9_sets_26 : decode cX9_sets 26 = .ok (.iconst (-1), 1) := by decide +kernel
theorem dX9_sets_27 : decode cX9_sets 27 = .ok (.ireturn, 1) := by decide +kernel
theorem dX9_sets_28 : decode cX9_sets 28 = .ok (.aload_n 0, 1) := by decide +kernel
theorem dX9_sets_29 : decode cX9_sets 29 = .ok (.iload_n 1, 1) := by decide +kernel
theorem dX9_sets_30 : decode cX9_sets 30 = .ok (.iconst 5, 1) := by decide +kernel
theorem dX9_sets_31 : decode cX9_sets 31 = .ok (.invokevirtual 233, 3) := by decide +kernel
theorem dX9_sets_34 : decode cX9_sets 34 = .ok (.istore_n 3, 1) := by decide +kernel
theorem dX9_sets_35 : decode cX9_sets 35 = .ok (.aload_n 0, 1) := by decide +kernel
theorem dX9_sets_36 : decode cX9_sets 36 = .ok (.getfield 25, 3) := by decide +kernel
theorem dX9_sets_39 : decode cX9_sets 39 = .ok (.iconst 5, 1) := by decide +kernel
theorem dX9_sets_40 : decode cX9_sets 40 = .ok (.iload_n 3, 1) := by decide +kernel
theorem dX9_sets_41 : decode cX9_sets 41 = .ok (.iadd, 1) := by decide +kernel
theorem dX9_sets_42 : decode cX9_sets 42 = .ok (.iaload, 1) := by decide +kernel
theorem dX9_sets_43 : decode cX9_sets 43 = .ok (.iload_n 2, 1) := by decide +kernel
theorem dX9_sets_44 : decode cX9_sets 44 = .ok (.if_icmp .ne 6, 3) := by decide +kernel
theorem dX9_sets_47 : decode cX9_sets 47 = .ok (.bipush (-2), 2) := by decide +kernel
theorem dX9_sets_49 : decode cX9_sets 49 = .ok (.ireturn, 1) := by decide +kernel
theorem dX9_sets_50 : decode cX9_sets 50 = .ok (.aload_n 0, 1) := by decide +kernel
theorem dX9_sets_51 : decode cX9_sets 51 = .ok (.invokevirtual 262, 3) := by decide +kernel
theorem dX9_sets_54 : decode cX9_sets 54 = .ok (.aload_n 0, 1) := by decide +kernel
theorem dX9_sets_55 : decode cX9_sets 55 = .ok (.getfield 25, 3) := by decide +kernel
theorem dX9_sets_58 : decode cX9_sets 58 = .ok (.iconst 1, 1) := by decide +kernel
theorem dX9_sets_59 : decode cX9_sets 59 = .ok (.iaload, 1) := by decide +kernel
theorem dX9_sets_60 : decode cX9_sets 60 = .ok (.iconst 1, 1) := by decide +kernel
theorem dX9_sets_61 : decode cX9_sets 61 = .ok (.if_icmp .ne 34, 3) := by decide +kernel
theorem dX9_sets_64 : decode cX9_sets 64 = .ok (.aload_n 0, 1) := by decide +kernel
theorem dX9_sets_65 : decode cX9_sets 65 = .ok (.getfield 25, 3) := by decide +kernel
theorem dX9_sets_68 : decode cX9_sets 68 = .ok (.aload_n 0, 1) := by decide +kernel
theorem dX9_sets_69 : decode cX9_sets 69 = .ok (.getfield 25, 3) := by decide +kernel
theorem dX9_sets_72 : decode cX9_sets 72 = .ok (.iconst 3, 1) := by decide +kernel
theorem dX9_sets_73 : decode cX9_sets 73 = .ok (.iaload, 1) := by decide +kernel
theorem dX9_sets_74 : decode cX9_sets 74 = .ok (.iconst 1, 1) := by decide +kernel
theorem dX9_sets_75 : decode cX9_sets 75 = .ok (.isub, 1) := by decide +kernel
theorem dX9_sets_76 : decode cX9_sets 76 = .ok (.invokestatic 256, 3) := by decide +kernel
theorem dX9_sets_79 : decode cX9_sets 79 = .ok (.iconst 2, 1) := by decide +kernel
theorem dX9_sets_80 : decode cX9_sets 80 = .ok (.iadd, 1) := by decide +kernel
theorem dX9_sets_81 : decode cX9_sets 81 = .ok (.iaload, 1) := by decide +kernel
theorem dX9_sets_82 : decode cX9_sets 82 = .ok (.aload_n 0, 1) := by decide +kernel
theorem dX9_sets_83 : decode cX9_sets 83 = .ok (.getfield 25, 3) := by decide +kernel
theorem dX9_sets_86 : decode cX9_sets 86 = .ok (.iconst 2, 1) := by decide +kernel
theorem dX9_sets_87 : decode cX9_sets 87 = .ok (.iaload, 1) := by decide +kernel
theorem dX9_sets_88 : decode cX9_sets 88 = .ok (.if_icmp .lt 7, 3) := by decide +kernel
theorem dX9_sets_91 : decode cX9_sets 91 = .ok (.aload_n 0, 1) := by decide +kernel
theorem dX9_sets_92 : decode cX9_sets 92 = .ok (.invokevirtual 224, 3) := by decide +kernel
theorem dX9_sets_95 : decode cX9_sets 95 = .ok (.aload_n 0, 1) := by decide +kernel
theorem dX9_sets_96 : decode cX9_sets 96 = .ok (.getfield 25, 3) := by decide +kernel
theorem dX9_sets_99 : decode cX9_sets 99 = .ok (.iconst 5, 1) := by decide +kernel
theorem dX9_sets_100 : decode cX9_sets 100 = .ok (.iload_n 3, 1) := by decide +kernel
theorem dX9_sets_101 : decode cX9_sets 101 = .ok (.iadd, 1) := by decide +kernel
theorem dX9_sets_102 : decode cX9_sets 102 = .ok (.iload_n 2, 1) := by decide +kernel
theorem dX9_sets_103 : decode cX9_sets 103 = .ok (.iastore, 1) := by decide +kernel
theorem dX9_sets_104 : decode cX9_sets 104 = .ok (.aload_n 0, 1) := by decide +kernel
theorem dX9_sets_105 : decode cX9_sets 105 = .ok (.getfield 25, 3) := by decide +kernel
theorem dX9_sets_108 : decode cX9_sets 108 = .ok (.iconst 1, 1) := by decide +kernel
theorem dX9_sets_109 : decode cX9_sets 109 = .ok (.iaload, 1) := by decide +kernel
theorem dX9_sets_110 : decode cX9_sets 110 = .ok (.iconst 1, 1) := by decide +kernel
theorem dX9_sets_111 : decode cX9_sets 111 = .ok (.if_icmp .ne 81, 3) := by decide +kernel
theorem dX9_sets_114 : decode cX9_sets 114 = .ok (.aload_n 0, 1) := by decide +kernel
theorem dX9_sets_115 : decode cX9_sets 115 = .ok (.getfield 25, 3) := by decide +kernel
theorem dX9_sets_118 : decode cX9_sets 118 = .ok (.iconst 3, 1) := by decide +kernel
theorem dX9_sets_119 : decode cX9_sets 119 = .ok (.iaload, 1) := by decide +kernel
theorem dX9_sets_120 : decode cX9_sets 120 = .ok (.iconst 1, 1) := by decide +kernel
theorem dX9_sets_121 : decode cX9_sets 121 = .ok (.isub, 1) := by decide +kernel
theorem dX9_sets_122 : decode cX9_sets 122 = .ok (.invokestatic 256, 3) := by decide +kernel
theorem dX9_sets_125 : decode cX9_sets 125 = .ok (.istore 4, 2) := by decide +kernel
theorem dX9_sets_127 : decode cX9_sets 127 = .ok (.iload 4, 2) := by decide +kernel
theorem dX9_sets_129 : decode cX9_sets 129 = .ok (.bipush 9, 2) := by decide +kernel
theorem dX9_sets_131 : decode cX9_sets 131 = .ok (.iadd, 1) := by decide +kernel
theorem dX9_sets_132 : decode cX9_sets 132 = .ok (.iconst 3, 1) := by decide +kernel
theorem dX9_sets_133 : decode cX9_sets 133 = .ok (.aload_n 0, 1) := by decide +kernel
theorem dX9_sets_134 : decode cX9_sets 134 = .ok (.getfield 25, 3) := by decide +kernel
theorem dX9_sets_137 : decode cX9_sets 137 = .ok (.iload 4, 2) := by decide +kernel
theorem dX9_sets_139 : decode cX9_sets 139 = .ok (.iconst 2, 1) := by decide +kernel
theorem dX9_sets_140 : decode cX9_sets 140 = .ok (.iadd, 1) := by decide +kernel
theorem dX9_sets_141 : decode cX9_sets 141 = .ok (.iaload, 1) := by decide +kernel
theorem dX9_sets_142 : decode cX9_sets 142 = .ok (.imul, 1) := by decide +kernel
theorem dX9_sets_143 : decode cX9_sets 143 = .ok (.iadd, 1) := by decide +kernel
theorem dX9_sets_144 : decode cX9_sets 144 = .ok (.istore 5, 2) := by decide +kernel
theorem dX9_sets_146 : decode cX9_sets 146 = .ok (.aload_n 0, 1) := by decide +kernel
theorem dX9_sets_147 : decode cX9_sets 147 = .ok (.getfield 25, 3) := by decide +kernel
theorem dX9_sets_150 : decode cX9_sets 150 = .ok (.iload 5, 2) := by decide +kernel
theorem dX9_sets_152 : decode cX9_sets 152 = .ok (.aload_n 0, 1) := by decide +kernel
theorem dX9_sets_153 : decode cX9_sets 153 = .ok (.getfield 25, 3) := by decide +kernel
theorem dX9_sets_156 : decode cX9_sets 156 = .ok (.iconst 0, 1) := by decide +kernel
theorem dX9_sets_157 : decode cX9_sets 157 = .ok (.iaload, 1) := by decide +kernel
theorem dX9_sets_158 : decode cX9_sets 158 = .ok (.iastore, 1) := by decide +kernel
theorem dX9_sets_159 : decode cX9_sets 159 = .ok (.aload_n 0, 1) := by decide +kernel
theorem dX9_sets_160 : decode cX9_sets 160 = .ok (.getfield 25, 3) := by decide +kernel
theorem dX9_sets_163 : decode cX9_sets 163 = .ok (.iload 5, 2) := by decide +kernel
theorem dX9_sets_165 : decode cX9_sets 165 = .ok (.iconst 1, 1) := by decide +kernel
theorem dX9_sets_166 : decode cX9_sets 166 = .ok (.iadd, 1) := by decide +kernel
theorem dX9_sets_167 : decode cX9_sets 167 = .ok (.iload_n 3, 1) := by decide +kernel
theorem dX9_sets_168 : decode cX9_sets 168 = .ok (.iastore, 1) := by decide +kernel
theorem dX9_sets_169 : decode cX9_sets 169 = .ok (.aload_n 0, 1) := by decide +kernel
theorem dX9_sets_170 : decode cX9_sets 170 = .ok (.getfield 25, 3) := by decide +kernel
theorem dX9_sets_173 : decode cX9_sets 173 = .ok (.iload 5, 2) := by decide +kernel
theorem dX9_sets_175 : decode cX9_sets 175 = .ok (.iconst 2, 1) := by decide +kernel
theorem dX9_sets_176 : decode cX9_sets 176 = .ok (.iadd, 1) := by decide +kernel
theorem dX9_sets_177 : decode cX9_sets 177 = .ok (.iload_n 2, 1) := by decide +kernel
theorem dX9_sets_178 : decode cX9_sets 178 = .ok (.iastore, 1) := by decide +kernel
theorem dX9_sets_179 : decode cX9_sets 179 = .ok (.aload_n 0, 1) := by decide +kernel
theorem dX9_sets_180 : decode cX9_sets 180 = .ok (.getfield 25, 3) := by decide +kernel
theorem dX9_sets_183 : decode cX9_sets 183 = .ok (.iload 4, 2) := by decide +kernel
theorem dX9_sets_185 : decode cX9_sets 185 = .ok (.iconst 2, 1) := by decide +kernel
theorem dX9_sets_186 : decode cX9_sets 186 = .ok (.iadd, 1) := by decide +kernel
theorem dX9_sets_187 : decode cX9_sets 187 = .ok (.dup2, 1) := by decide +kernel
theorem dX9_sets_188 : decode cX9_sets 188 = .ok (.iaload, 1) := by decide +kernel
theorem dX9_sets_189 : decode cX9_sets 189 = .ok (.iconst 1, 1) := by decide +kernel
theorem dX9_sets_190 : decode cX9_sets 190 = .ok (.iadd, 1) := by decide +kernel
theorem dX9_sets_191 : decode cX9_sets 191 = .ok (.iastore, 1) := by decide +kernel
theorem dX9_sets_192 : decode cX9_sets 192 = .ok (.aload_n 0, 1) := by decide +kernel
theorem dX9_sets_193 : decode cX9_sets 193 = .ok (.getfield 25, 3) := by decide +kernel
theorem dX9_sets_196 : decode cX9_sets 196 = .ok (.iconst 1, 1) := by decide +kernel
theorem dX9_sets_197 : decode cX9_sets 197 = .ok (.iaload, 1) := by decide +kernel
theorem dX9_sets_198 : decode cX9_sets 198 = .ok (.ireturn, 1) := by decide +kernel
theorem bX9_sets_0 {d : Nat} {Q : Option jA → jH → Prop} (a0 : Nat) (i1 : Int) (i2 : Int) (u3 : Option jA) (u4 : Option jA) (u5 : Option jA) (h : jH)
    (s1 : (jS h a0).1 = 9)
    (s2 : (jS h (jP h a0 0)).1 = 16)
    (s3 : (jS h (jP h a0 0)).2 = 72)
    (s4 : 0 ≤ jI h a0 1)
    (s5 : jI h a0 1 ≤ 12)
    (q1 : (¬ (0 ≤ i1 ∧ i1 ≤ (jI h a0 1) - 1 ∧ (jX h (jP h a0 0) (((6 * i1) + 0).toNat)) = 0)) → Q (some (.inl ((-1)))) h)
    (s6 : (0 ≤ i1 ∧ i1 ≤ (jI h a0 1) - 1 ∧ (jX h (jP h a0 0) (((6 * i1) + 0).toNat)) = 0) → 0 ≤ i1)
    (s7 : (0 ≤ i1 ∧ i1 ≤ (jI h a0 1) - 1 ∧ (jX h (jP h a0 0) (((6 * i1) + 0).toNat)) = 0) → i1 < 12)
    (r1 : (0 ≤ i1 ∧ i1 ≤ (jI h a0 1) - 1 ∧ (jX h (jP h a0 0) (((6 * i1) + 0).toNat)) = 0) → jR ((jshl 1 (jX h (jP h a0 0) (((6 * i1) + 1).toNat))) - 1))
    (r2 : (0 ≤ i1 ∧ i1 ≤ (jI h a0 1) - 1 ∧ (jX h (jP h a0 0) (((6 * i1) + 0).toNat)) = 0) → (0 ≤ i2 ∧ i2 ≤ ((jshl 1 (jX h (jP h a0 0) (((6 * i1) + 1).toNat))) - 1)) → jR (5 + (jX h (jP h a0 0) (((6 * i1) + 5).toNat))))
    (s8 : (jS h (jP h a0 9)).1 = 16)
    (s9 : (0 ≤ i1 ∧ i1 ≤ (jI h a0 1) - 1 ∧ (jX h (jP h a0 0) (((6 * i1) + 0).toNat)) = 0) → (0 ≤ i2 ∧ i2 ≤ ((jshl 1 (jX h (jP h a0 0) (((6 * i1) + 1).toNat))) - 1)) → 0 ≤ 5 + (jX h (jP h a0 0) (((6 * i1) + 5).toNat)))
    (s10 : (0 ≤ i1 ∧ i1 ≤ (jI h a0 1) - 1 ∧ (jX h (jP h a0 0) (((6 * i1) + 0).toNat)) = 0) → (0 ≤ i2 ∧ i2 ≤ ((jshl 1 (jX h (jP h a0 0) (((6 * i1) + 1).toNat))) - 1)) → 5 + (jX h (jP h a0 0) (((6 * i1) + 5).toNat)) < ((jS h (jP h a0 9)).2 : Int))
    (e1 : (0 ≤ i1 ∧ i1 ≤ (jI h a0 1) - 1 ∧ (jX h (jP h a0 0) (((6 * i1) + 0).toNat)) = 0) → (0 ≤ i2 ∧ i2 ≤ ((jshl 1 (jX h (jP h a0 0) (((6 * i1) + 1).toNat))) - 1)) → ((jX h (jP h a0 9) ((5 + (jX h (jP h a0 0) (((6 * i1) + 5).toNat))).toNat)) ≠ i2) → Ex MX9_notes d [.inr a0] h 0 0 (fun v h2 => V MX9_sets (d + 3) 54 [some (.inr a0), some (.inl i1), some (.inl i2), some (.inl (jX h (jP h a0 0) (((6 * i1) + 5).toNat))), u4, u5] (v.toList ++ []) h2 0 0 Q))
    (q2 : (0 ≤ i1 ∧ i1 ≤ (jI h a0 1) - 1 ∧ (jX h (jP h a0 0) (((6 * i1) + 0).toNat)) = 0) → (0 ≤ i2 ∧ i2 ≤ ((jshl 1 (jX h (jP h a0 0) (((6 * i1) + 1).toNat))) - 1)) → ((jX h (jP h a0 9) ((5 + (jX h (jP h a0 0) (((6 * i1) + 5).toNat))).toNat)) = i2) → Q (some (.inl ((-2)))) h)
    (q3 : (0 ≤ i1 ∧ i1 ≤ (jI h a0 1) - 1 ∧ (jX h (jP h a0 0) (((6 * i1) + 0).toNat)) = 0) → (¬ (0 ≤ i2 ∧ i2 ≤ ((jshl 1 (jX h (jP h a0 0) (((6 * i1) + 1).toNat))) - 1))) → Q (some (.inl ((-1)))) h) :
    V MX9_sets (d + 3) 0 [some (.inr a0), some (.inl i1), some (.inl i2), u3, u4, u5] [] h 0 0 Q := by
  refine V_aload_n (i := 0) dX9_sets_0 rfl rfl ?_
  refine V_iload_n (i := 1) dX9_sets_1 rfl rfl ?_
  refine V_callV (M := MX9_sets) (d := (d + 3)) (mc' := 0) (ms' := 0) (mc := 0) (ms := 0) (As := [.inl i1]) (rest := []) dX9_sets_2 tX9_isWire vX9_isWire lX9_259 s1 ⟨by decide, rfl⟩ rfl rfl (Nat.le_of_ble_eq_true rfl) (show (d + 2) + 1 ≤ (d + 3) by omega) (Ex.mono (pX9_isWire (d := d) s1 s2 s3 s4 s5) ?_)
  intro v h2 hq
  rw [hq.1, hq.2]
  show V MX9_sets (d + 3) 5 [some (.inr a0), some (.inl i1), some (.inl i2), u3, u4, u5] [.inl (jb (0 ≤ i1 ∧ i1 ≤ (jI h a0 1) - 1 ∧ (jX h (jP h a0 0) (((6 * i1) + 0).toNat)) = 0))] h 0 0 Q
  refine V_ifb_eq (tgt := 26) dX9_sets_5 (by decide) (fun c1 => ?_) (fun c1 => ?_)
  · refine V_iconst dX9_sets_26 ⟨by decide, by decide⟩ ?_
    exact V_reti rfl dX9_sets_27 (q1 c1)
  · refine V_iload_n (i := 2) dX9_sets_8 rfl rfl ?_
    refine V_iconst dX9_sets_9 ⟨by decide, by decide⟩ ?_
    refine V_iconst dX9_sets_10 ⟨by decide, by decide⟩ ?_
    refine V_aload_n (i := 0) dX9_sets_11 rfl rfl ?_
    refine V_iload_n (i := 1) dX9_sets_12 rfl rfl ?_
    refine V_iconst dX9_sets_13 ⟨by decide, by decide⟩ ?_
    refine V_callV (M := MX9_sets) (d := (d + 3)) (mc' := 0) (ms' := 0) (mc := 0) (ms := 0) (As := [.inl i1, .inl 1]) (rest := [.inl 1, .inl 0, .inl i2]) dX9_sets_14 tX9_of vX9_of lX9_233 s1 ⟨by decide, rfl⟩ rfl rfl (Nat.le_of_ble_eq_true rfl) (show d + 1 ≤ (d + 3) by omega) (Ex.mono (pX9_of (d := d) s1 s2 s3 (s6 c1) (s7 c1) (by decide) (by decide)) ?_)
    intro v h2 hq
    rw [hq.1, hq.2]
    show V MX9_sets (d + 3) 17 [some (.inr a0), some (.inl i1), some (.inl i2), u3, u4, u5] [.inl (jX h (jP h a0 0) (((6 * i1) + 1).toNat)), .inl 1, .inl 0, .inl i2] h 0 0 Q
    refine V_ishl dX9_sets_17 ?_
    refine V_iconst dX9_sets_18 ⟨by decide, by decide⟩ ?_
    refine V_isub dX9_sets_19 (r1 c1) ?_
    refine V_callS (M := MX9_sets) (d := (d + 3)) (mc' := 0) (ms' := 0) (mc := 0) (ms := 0) (a := 0) (As := [.inl i2, .inl 0, .inl ((jshl 1 (jX h (jP h a0 0) (((6 * i1) + 1).toNat))) - 1)]) (rest := []) dX9_sets_20 tX9_in sX9_in lX9_95 rfl rfl (Nat.le_of_ble_eq_true rfl) (show d + 1 ≤ (d + 3) by omega) (Ex.mono (pX9_in (d := d) ) ?_)
    intro v h2 hq
    rw [hq.1, hq.2]
    show V MX9_sets (d + 3) 23 [some (.inr a0), some (.inl i1), some (.inl i2), u3, u4, u5] [.inl (jb (0 ≤ i2 ∧ i2 ≤ ((jshl 1 (jX h (jP h a0 0) (((6 * i1) + 1).toNat))) - 1)))] h 0 0 Q
    refine V_ifb_ne (tgt := 28) dX9_sets_23 (by decide) (fun c2 => ?_) (fun c2 => ?_)
    · refine V_aload_n (i := 0) dX9_sets_28 rfl rfl ?_
      refine V_iload_n (i := 1) dX9_sets_29 rfl rfl ?_
      refine V_iconst dX9_sets_30 ⟨by decide, by decide⟩ ?_
      refine V_callV (M := MX9_sets) (d := (d + 3)) (mc' := 0) (ms' := 0) (mc := 0) (ms := 0) (As := [.inl i1, .inl 5]) (rest := []) dX9_sets_31 tX9_of vX9_of lX9_233 s1 ⟨by decide, rfl⟩ rfl rfl (Nat.le_of_ble_eq_true rfl) (show d + 1 ≤ (d + 3) by omega) (Ex.mono (pX9_of (d := d) s1 s2 s3 (s6 c1) (s7 c1) (by decide) (by decide)) ?_)
      intro v h2 hq
      rw [hq.1, hq.2]
      show V MX9_sets (d + 3) 34 [some (.inr a0), some (.inl i1), some (.inl i2), u3, u4, u5] [.inl (jX h (jP h a0 0) (((6 * i1) + 5).toNat))] h 0 0 Q
      refine V_istore_n (i := 3) dX9_sets_34 rfl (by decide) ?_
      refine V_aload_n (i := 0) dX9_sets_35 rfl rfl ?_
      refine V_getP dX9_sets_36 fX9_25 rfl s1 ?_
      refine V_iconst dX9_sets_39 ⟨by decide, by decide⟩ ?_
      refine V_iload_n (i := 3) dX9_sets_40 rfl rfl ?_
      refine V_iadd dX9_sets_41 (r2 c1 c2) ?_
      refine V_iald dX9_sets_42 s8 (s9 c1 c2) (s10 c1 c2) ?_
      refine V_iload_n (i := 2) dX9_sets_43 rfl rfl ?_
      refine V_icmp_ne (tgt := 50) dX9_sets_44 (by decide) (fun c3 => ?_) (fun c3 => ?_)
      · refine V_aload_n (i := 0) dX9_sets_50 rfl rfl ?_
        exact V_callV (M := MX9_sets) (d := (d + 3)) (mc' := 0) (ms' := 0) (mc := 0) (ms := 0) (As := []) (rest := []) dX9_sets_51 tX9_notes vX9_notes lX9_262 s1 ⟨by decide, rfl⟩ rfl rfl (Nat.le_of_ble_eq_true rfl) (show d + 1 ≤ (d + 3) by omega) (e1 c1 c2 c3)
      · refine V_bipush dX9_sets_47 (by decide +kernel) ⟨by decide, by decide⟩ ?_
        exact V_reti rfl dX9_sets_49 (q2 c1 c2 c3)
    · refine V_iconst dX9_sets_26 ⟨by decide, by decide⟩ ?_
      exact V_reti rfl dX9_sets_27 (q3 c1 c2)
theorem bX9_sets_54 {d : Nat} {Q : Option jA → jH → Prop} (a0 : Nat) (i1 : Int) (i2 : Int) (i3 : Int) (u4 : Option jA) (u5 : Option jA) (h : jH)
    (s1 : (jS h a0).1 = 9)
    (s2 : (jS h (jP h a0 9)).1 = 16)
    (s3 : 1 < ((jS h (jP h a0 9)).2 : Int))
    (r1 : ((jX h (jP h a0 9) 1) ≠ 1) → jR (5 + i3))
    (s4 : ((jX h (jP h a0 9) 1) ≠ 1) → 0 ≤ 5 + i3)
    (s5 : ((jX h (jP h a0 9) 1) ≠ 1) → 5 + i3 < ((jS h (jP h a0 9)).2 : Int))
    (q1 : ((jX h (jP h a0 9) 1) ≠ 1) → ((jX (jsX h (jP h a0 9) ((5 + i3).toNat) i2) (jP h a0 9) 1) ≠ 1) → Q (some (.inl (jX (jsX h (jP h a0 9) ((5 + i3).toNat) i2) (jP h a0 9) 1))) (jsX h (jP h a0 9) ((5 + i3).toNat) i2))
    (s6 : ((jX h (jP h a0 9) 1) ≠ 1) → ((jX (jsX h (jP h a0 9) ((5 + i3).toNat) i2) (jP h a0 9) 1) = 1) → 3 < ((jS h (jP h a0 9)).2 : Int))
    (r2 : ((jX h (jP h a0 9) 1) ≠ 1) → ((jX (jsX h (jP h a0 9) ((5 + i3).toNat) i2) (jP h a0 9) 1) = 1) → jR ((jX (jsX h (jP h a0 9) ((5 + i3).toNat) i2) (jP h a0 9) 3) - 1))
    (s7 : ((jX h (jP h a0 9) 1) ≠ 1) → ((jX (jsX h (jP h a0 9) ((5 + i3).toNat) i2) (jP h a0 9) 1) = 1) → 0 ≤ ((jX (jsX h (jP h a0 9) ((5 + i3).toNat) i2) (jP h a0 9) 3) - 1))
    (s8 : ((jX h (jP h a0 9) 1) ≠ 1) → ((jX (jsX h (jP h a0 9) ((5 + i3).toNat) i2) (jP h a0 9) 1) = 1) → ((jX (jsX h (jP h a0 9) ((5 + i3).toNat) i2) (jP h a0 9) 3) - 1) ≤ 6)
    (r3 : ((jX h (jP h a0 9) 1) ≠ 1) → ((jX (jsX h (jP h a0 9) ((5 + i3).toNat) i2) (jP h a0 9) 1) = 1) → jR ((11 + (33 * ((jX (jsX h (jP h a0 9) ((5 + i3).toNat) i2) (jP h a0 9) 3) - 1))) + 9))
    (r4 : ((jX h (jP h a0 9) 1) ≠ 1) → ((jX (jsX h (jP h a0 9) ((5 + i3).toNat) i2) (jP h a0 9) 1) = 1) → jR ((11 + (33 * ((jX (jsX h (jP h a0 9) ((5 + i3).toNat) i2) (jP h a0 9) 3) - 1))) + 2))
    (s9 : ((jX h (jP h a0 9) 1) ≠ 1) → ((jX (jsX h (jP h a0 9) ((5 + i3).toNat) i2) (jP h a0 9) 1) = 1) → 0 ≤ (11 + (33 * ((jX (jsX h (jP h a0 9) ((5 + i3).toNat) i2) (jP h a0 9) 3) - 1))) + 2)
    (s10 : ((jX h (jP h a0 9) 1) ≠ 1) → ((jX (jsX h (jP h a0 9) ((5 + i3).toNat) i2) (jP h a0 9) 1) = 1) → (11 + (33 * ((jX (jsX h (jP h a0 9) ((5 + i3).toNat) i2) (jP h a0 9) 3) - 1))) + 2 < ((jS h (jP h a0 9)).2 : Int))
    (r5 : ((jX h (jP h a0 9) 1) ≠ 1) → ((jX (jsX h (jP h a0 9) ((5 + i3).toNat) i2) (jP h a0 9) 1) = 1) → jR (3 * (jX (jsX h (jP h a0 9) ((5 + i3).toNat) i2) (jP h a0 9) (((11 + (33 * ((jX (jsX h (jP h a0 9) ((5 + i3).toNat) i2) (jP h a0 9) 3) - 1))) + 2).toNat))))
    (r6 : ((jX h (jP h a0 9) 1) ≠ 1) → ((jX (jsX h (jP h a0 9) ((5 + i3).toNat) i2) (jP h a0 9) 1) = 1) → jR (((11 + (33 * ((jX (jsX h (jP h a0 9) ((5 + i3).toNat) i2) (jP h a0 9) 3) - 1))) + 9) + (3 * (jX (jsX h (jP h a0 9) ((5 + i3).toNat) i2) (jP h a0 9) (((11 + (33 * ((jX (jsX h (jP h a0 9) ((5 + i3).toNat) i2) (jP h a0 9) 3) - 1))) + 2).toNat)))))
    (s11 : ((jX h (jP h a0 9) 1) ≠ 1) → ((jX (jsX h (jP h a0 9) ((5 + i3).toNat) i2) (jP h a0 9) 1) = 1) → 0 < ((jS h (jP h a0 9)).2 : Int))
    (s12 : ((jX h (jP h a0 9) 1) ≠ 1) → ((jX (jsX h (jP h a0 9) ((5 + i3).toNat) i2) (jP h a0 9) 1) = 1) → 0 ≤ ((11 + (33 * ((jX (jsX h (jP h a0 9) ((5 + i3).toNat) i2) (jP h a0 9) 3) - 1))) + 9) + (3 * (jX (jsX h (jP h a0 9) ((5 + i3).toNat) i2) (jP h a0 9) (((11 + (33 * ((jX (jsX h (jP h a0 9) ((5 + i3).toNat) i2) (jP h a0 9) 3) - 1))) + 2).toNat))))
    (s13 : ((jX h (jP h a0 9) 1) ≠ 1) → ((jX (jsX h (jP h a0 9) ((5 + i3).toNat) i2) (jP h a0 9) 1) = 1) → ((11 + (33 * ((jX (jsX h (jP h a0 9) ((5 + i3).toNat) i2) (jP h a0 9) 3) - 1))) + 9) + (3 * (jX (jsX h (jP h a0 9) ((5 + i3).toNat) i2) (jP h a0 9) (((11 + (33 * ((jX (jsX h (jP h a0 9) ((5 + i3).toNat) i2) (jP h a0 9) 3) - 1))) + 2).toNat))) < ((jS h (jP h a0 9)).2 : Int))
    (r7 : ((jX h (jP h a0 9) 1) ≠ 1) → ((jX (jsX h (jP h a0 9) ((5 + i3).toNat) i2) (jP h a0 9) 1) = 1) → jR ((((11 + (33 * ((jX (jsX h (jP h a0 9) ((5 + i3).toNat) i2) (jP h a0 9) 3) - 1))) + 9) + (3 * (jX (jsX h (jP h a0 9) ((5 + i3).toNat) i2) (jP h a0 9) (((11 + (33 * ((jX (jsX h (jP h a0 9) ((5 + i3).toNat) i2) (jP h a0 9) 3) - 1))) + 2).toNat)))) + 1))
    (s14 : ((jX h (jP h a0 9) 1) ≠ 1) → ((jX (jsX h (jP h a0 9) ((5 + i3).toNat) i2) (jP h a0 9) 1) = 1) → 0 ≤ (((11 + (33 * ((jX (jsX h (jP h a0 9) ((5 + i3).toNat) i2) (jP h a0 9) 3) - 1))) + 9) + (3 * (jX (jsX h (jP h a0 9) ((5 + i3).toNat) i2) (jP h a0 9) (((11 + (33 * ((jX (jsX h (jP h a0 9) ((5 + i3).toNat) i2) (jP h a0 9) 3) - 1))) + 2).toNat)))) + 1)
    (s15 : ((jX h (jP h a0 9) 1) ≠ 1) → ((jX (jsX h (jP h a0 9) ((5 + i3).toNat) i2) (jP h a0 9) 1) = 1) → (((11 + (33 * ((jX (jsX h (jP h a0 9) ((5 + i3).toNat) i2) (jP h a0 9) 3) - 1))) + 9) + (3 * (jX (jsX h (jP h a0 9) ((5 + i3).toNat) i2) (jP h a0 9) (((11 + (33 * ((jX (jsX h (jP h a0 9) ((5 + i3).toNat) i2) (jP h a0 9) 3) - 1))) + 2).toNat)))) + 1 < ((jS h (jP h a0 9)).2 : Int))
    (r8 : ((jX h (jP h a0 9) 1) ≠ 1) → ((jX (jsX h (jP h a0 9) ((5 + i3).toNat) i2) (jP h a0 9) 1) = 1) → jR ((((11 + (33 * ((jX (jsX h (jP h a0 9) ((5 + i3).toNat) i2) (jP h a0 9) 3) - 1))) + 9) + (3 * (jX (jsX h (jP h a0 9) ((5 + i3).toNat) i2) (jP h a0 9) (((11 + (33 * ((jX (jsX h (jP h a0 9) ((5 + i3).toNat) i2) (jP h a0 9) 3) - 1))) + 2).toNat)))) + 2))
    (s16 : ((jX h (jP h a0 9) 1) ≠ 1) → ((jX (jsX h (jP h a0 9) ((5 + i3).toNat) i2) (jP h a0 9) 1) = 1) → 0 ≤ (((11 + (33 * ((jX (jsX h (jP h a0 9) ((5 + i3).toNat) i2) (jP h a0 9) 3) - 1))) + 9) + (3 * (jX (jsX h (jP h a0 9) ((5 + i3).toNat) i2) (jP h a0 9) (((11 + (33 * ((jX (jsX h (jP h a0 9) ((5 + i3).toNat) i2) (jP h a0 9) 3) - 1))) + 2).toNat)))) + 2)
    (s17 : ((jX h (jP h a0 9) 1) ≠ 1) → ((jX (jsX h (jP h a0 9) ((5 + i3).toNat) i2) (jP h a0 9) 1) = 1) → (((11 + (33 * ((jX (jsX h (jP h a0 9) ((5 + i3).toNat) i2) (jP h a0 9) 3) - 1))) + 9) + (3 * (jX (jsX h (jP h a0 9) ((5 + i3).toNat) i2) (jP h a0 9) (((11 + (33 * ((jX (jsX h (jP h a0 9) ((5 + i3).toNat) i2) (jP h a0 9) 3) - 1))) + 2).toNat)))) + 2 < ((jS h (jP h a0 9)).2 : Int))
    (r9 : ((jX h (jP h a0 9) 1) ≠ 1) → ((jX (jsX h (jP h a0 9) ((5 + i3).toNat) i2) (jP h a0 9) 1) = 1) → jR ((11 + (33 * ((jX (jsX h (jP h a0 9) ((5 + i3).toNat) i2) (jP h a0 9) 3) - 1))) + 2))
    (r10 : ((jX h (jP h a0 9) 1) ≠ 1) → ((jX (jsX h (jP h a0 9) ((5 + i3).toNat) i2) (jP h a0 9) 1) = 1) → jR ((jX (jsX (jsX (jsX (jsX h (jP h a0 9) ((5 + i3).toNat) i2) (jP h a0 9) ((((11 + (33 * ((jX (jsX h (jP h a0 9) ((5 + i3).toNat) i2) (jP h a0 9) 3) - 1))) + 9) + (3 * (jX (jsX h (jP h a0 9) ((5 + i3).toNat) i2) (jP h a0 9) (((11 + (33 * ((jX (jsX h (jP h a0 9) ((5 + i3).toNat) i2) (jP h a0 9) 3) - 1))) + 2).toNat)))).toNat) (jX (jsX h (jP h a0 9) ((5 + i3).toNat) i2) (jP h a0 9) 0)) (jP h a0 9) (((((11 + (33 * ((jX (jsX h (jP h a0 9) ((5 + i3).toNat) i2) (jP h a0 9) 3) - 1))) + 9) + (3 * (jX (jsX h (jP h a0 9) ((5 + i3).toNat) i2) (jP h a0 9) (((11 + (33 * ((jX (jsX h (jP h a0 9) ((5 + i3).toNat) i2) (jP h a0 9) 3) - 1))) + 2).toNat)))) + 1).toNat) i3) (jP h a0 9) (((((11 + (33 * ((jX (jsX h (jP h a0 9) ((5 + i3).toNat) i2) (jP h a0 9) 3) - 1))) + 9) + (3 * (jX (jsX h (jP h a0 9) ((5 + i3).toNat) i2) (jP h a0 9) (((11 + (33 * ((jX (jsX h (jP h a0 9) ((5 + i3).toNat) i2) (jP h a0 9) 3) - 1))) + 2).toNat)))) + 2).toNat) i2) (jP h a0 9) (((11 + (33 * ((jX (jsX h (jP h a0 9) ((5 + i3).toNat) i2) (jP h a0 9) 3) - 1))) + 2).toNat)) + 1))
    (q2 : ((jX h (jP h a0 9) 1) ≠ 1) → ((jX (jsX h (jP h a0 9) ((5 + i3).toNat) i2) (jP h a0 9) 1) = 1) → Q (some (.inl (jX (jsX (jsX (jsX (jsX (jsX h (jP h a0 9) ((5 + i3).toNat) i2) (jP h a0 9) ((((11 + (33 * ((jX (jsX h (jP h a0 9) ((5 + i3).toNat) i2) (jP h a0 9) 3) - 1))) + 9) + (3 * (jX (jsX h (jP h a0 9) ((5 + i3).toNat) i2) (jP h a0 9) (((11 + (33 * ((jX (jsX h (jP h a0 9) ((5 + i3).toNat) i2) (jP h a0 9) 3) - 1))) + 2).toNat)))).toNat) (jX (jsX h (jP h a0 9) ((5 + i3).toNat) i2) (jP h a0 9) 0)) (jP h a0 9) (((((11 + (33 * ((jX (jsX h (jP h a0 9) ((5 + i3).toNat) i2) (jP h a0 9) 3) - 1))) + 9) + (3 * (jX (jsX h (jP h a0 9) ((5 + i3).toNat) i2) (jP h a0 9) (((11 + (33 * ((jX (jsX h (jP h a0 9) ((5 + i3).toNat) i2) (jP h a0 9) 3) - 1))) + 2).toNat)))) + 1).toNat) i3) (jP h a0 9) (((((11 + (33 * ((jX (jsX h (jP h a0 9) ((5 + i3).toNat) i2) (jP h a0 9) 3) - 1))) + 9) + (3 * (jX (jsX h (jP h a0 9) ((5 + i3).toNat) i2) (jP h a0 9) (((11 + (33 * ((jX (jsX h (jP h a0 9) ((5 + i3).toNat) i2) (jP h a0 9) 3) - 1))) + 2).toNat)))) + 2).toNat) i2) (jP h a0 9) (((11 + (33 * ((jX (jsX h (jP h a0 9) ((5 + i3).toNat) i2) (jP h a0 9) 3) - 1))) + 2).toNat) ((jX (jsX (jsX (jsX (jsX h (jP h a0 9) ((5 + i3).toNat) i2) (jP h a0 9) ((((11 + (33 * ((jX (jsX h (jP h a0 9) ((5 + i3).toNat) i2) (jP h a0 9) 3) - 1))) + 9) + (3 * (jX (jsX h (jP h a0 9) ((5 + i3).toNat) i2) (jP h a0 9) (((11 + (33 * ((jX (jsX h (jP h a0 9) ((5 + i3).toNat) i2) (jP h a0 9) 3) - 1))) + 2).toNat)))).toNat) (jX (jsX h (jP h a0 9) ((5 + i3).toNat) i2) (jP h a0 9) 0)) (jP h a0 9) (((((11 + (33 * ((jX (jsX h (jP h a0 9) ((5 + i3).toNat) i2) (jP h a0 9) 3) - 1))) + 9) + (3 * (jX (jsX h (jP h a0 9) ((5 + i3).toNat) i2) (jP h a0 9) (((11 + (33 * ((jX (jsX h (jP h a0 9) ((5 + i3).toNat) i2) (jP h a0 9) 3) - 1))) + 2).toNat)))) + 1).toNat) i3) (jP h a0 9) (((((11 + (33 * ((jX (jsX h (jP h a0 9) ((5 + i3).toNat) i2) (jP h a0 9) 3) - 1))) + 9) + (3 * (jX (jsX h (jP h a0 9) ((5 + i3).toNat) i2) (jP h a0 9) (((11 + (33 * ((jX (jsX h (jP h a0 9) ((5 + i3).toNat) i2) (jP h a0 9) 3) - 1))) + 2).toNat)))) + 2).toNat) i2) (jP h a0 9) (((11 + (33 * ((jX (jsX h (jP h a0 9) ((5 + i3).toNat) i2) (jP h a0 9) 3) - 1))) + 2).toNat)) + 1)) (jP h a0 9) 1))) (jsX (jsX (jsX (jsX (jsX h (jP h a0 9) ((5 + i3).toNat) i2) (jP h a0 9) ((((11 + (33 * ((jX (jsX h (jP h a0 9) ((5 + i3).toNat) i2) (jP h a0 9) 3) - 1))) + 9) + (3 * (jX (jsX h (jP h a0 9) ((5 + i3).toNat) i2) (jP h a0 9) (((11 + (33 * ((jX (jsX h (jP h a0 9) ((5 + i3).toNat) i2) (jP h a0 9) 3) - 1))) + 2).toNat)))).toNat) (jX (jsX h (jP h a0 9) ((5 + i3).toNat) i2) (jP h a0 9) 0)) (jP h a0 9) (((((11 + (33 * ((jX (jsX h (jP h a0 9) ((5 + i3).toNat) i2) (jP h a0 9) 3) - 1))) + 9) + (3 * (jX (jsX h (jP h a0 9) ((5 + i3).toNat) i2) (jP h a0 9) (((11 + (33 * ((jX (jsX h (jP h a0 9) ((5 + i3).toNat) i2) (jP h a0 9) 3) - 1))) + 2).toNat)))) + 1).toNat) i3) (jP h a0 9) (((((11 + (33 * ((jX (jsX h (jP h a0 9) ((5 + i3).toNat) i2) (jP h a0 9) 3) - 1))) + 9) + (3 * (jX (jsX h (jP h a0 9) ((5 + i3).toNat) i2) (jP h a0 9) (((11 + (33 * ((jX (jsX h (jP h a0 9) ((5 + i3).toNat) i2) (jP h a0 9) 3) - 1))) + 2).toNat)))) + 2).toNat) i2) (jP h a0 9) (((11 + (33 * ((jX (jsX h (jP h a0 9) ((5 + i3).toNat) i2) (jP h a0 9) 3) - 1))) + 2).toNat) ((jX (jsX (jsX (jsX (jsX h (jP h a0 9) ((5 + i3).toNat) i2) (jP h a0 9) ((((11 + (33 * ((jX (jsX h (jP h a0 9) ((5 + i3).toNat) i2) (jP h a0 9) 3) - 1))) + 9) + (3 * (jX (jsX h (jP h a0 9) ((5 + i3).toNat) i2) (jP h a0 9) (((11 + (33 * ((jX (jsX h (jP h a0 9) ((5 + i3).toNat) i2) (jP h a0 9) 3) - 1))) + 2).toNat)))).toNat) (jX (jsX h (jP h a0 9) ((5 + i3).toNat) i2) (jP h a0 9) 0)) (jP h a0 9) (((((11 + (33 * ((jX (jsX h (jP h a0 9) ((5 + i3).toNat) i2) (jP h a0 9) 3) - 1))) + 9) + (3 * (jX (jsX h (jP h a0 9) ((5 + i3).toNat) i2) (jP h a0 9) (((11 + (33 * ((jX (jsX h (jP h a0 9) ((5 + i3).toNat) i2) (jP h a0 9) 3) - 1))) + 2).toNat)))) + 1).toNat) i3) (jP h a0 9) (((((11 + (33 * ((jX (jsX h (jP h a0 9) ((5 + i3).toNat) i2) (jP h a0 9) 3) - 1))) + 9) + (3 * (jX (jsX h (jP h a0 9) ((5 + i3).toNat) i2) (jP h a0 9) (((11 + (33 * ((jX (jsX h (jP h a0 9) ((5 + i3).toNat) i2) (jP h a0 9) 3) - 1))) + 2).toNat)))) + 2).toNat) i2) (jP h a0 9) (((11 + (33 * ((jX (jsX h (jP h a0 9) ((5 + i3).toNat) i2) (jP h a0 9) 3) - 1))) + 2).toNat)) + 1)))
    (s18 : ((jX h (jP h a0 9) 1) = 1) → 3 < ((jS h (jP h a0 9)).2 : Int))
    (r11 : ((jX h (jP h a0 9) 1) = 1) → jR ((jX h (jP h a0 9) 3) - 1))
    (s19 : ((jX h (jP h a0 9) 1) = 1) → 0 ≤ ((jX h (jP h a0 9) 3) - 1))
    (s20 : ((jX h (jP h a0 9) 1) = 1) → ((jX h (jP h a0 9) 3) - 1) ≤ 6)
    (r12 : ((jX h (jP h a0 9) 1) = 1) → jR ((11 + (33 * ((jX h (jP h a0 9) 3) - 1))) + 2))
    (s21 : ((jX h (jP h a0 9) 1) = 1) → 0 ≤ (11 + (33 * ((jX h (jP h a0 9) 3) - 1))) + 2)
    (s22 : ((jX h (jP h a0 9) 1) = 1) → (11 + (33 * ((jX h (jP h a0 9) 3) - 1))) + 2 < ((jS h (jP h a0 9)).2 : Int))
    (s23 : ((jX h (jP h a0 9) 1) = 1) → 2 < ((jS h (jP h a0 9)).2 : Int))
    (r13 : ((jX h (jP h a0 9) 1) = 1) → ((jX h (jP h a0 9) (((11 + (33 * ((jX h (jP h a0 9) 3) - 1))) + 2).toNat)) < (jX h (jP h a0 9) 2)) → jR (5 + i3))
    (s24 : ((jX h (jP h a0 9) 1) = 1) → ((jX h (jP h a0 9) (((11 + (33 * ((jX h (jP h a0 9) 3) - 1))) + 2).toNat)) < (jX h (jP h a0 9) 2)) → 0 ≤ 5 + i3)
    (s25 : ((jX h (jP h a0 9) 1) = 1) → ((jX h (jP h a0 9) (((11 + (33 * ((jX h (jP h a0 9) 3) - 1))) + 2).toNat)) < (jX h (jP h a0 9) 2)) → 5 + i3 < ((jS h (jP h a0 9)).2 : Int))
    (q3 : ((jX h (jP h a0 9) 1) = 1) → ((jX h (jP h a0 9) (((11 + (33 * ((jX h (jP h a0 9) 3) - 1))) + 2).toNat)) < (jX h (jP h a0 9) 2)) → ((jX (jsX h (jP h a0 9) ((5 + i3).toNat) i2) (jP h a0 9) 1) ≠ 1) → Q (some (.inl (jX (jsX h (jP h a0 9) ((5 + i3).toNat) i2) (jP h a0 9) 1))) (jsX h (jP h a0 9) ((5 + i3).toNat) i2))
    (r14 : ((jX h (jP h a0 9) 1) = 1) → ((jX h (jP h a0 9) (((11 + (33 * ((jX h (jP h a0 9) 3) - 1))) + 2).toNat)) < (jX h (jP h a0 9) 2)) → ((jX (jsX h (jP h a0 9) ((5 + i3).toNat) i2) (jP h a0 9) 1) = 1) → jR ((jX (jsX h (jP h a0 9) ((5 + i3).toNat) i2) (jP h a0 9) 3) - 1))
    (s26 : ((jX h (jP h a0 9) 1) = 1) → ((jX h (jP h a0 9) (((11 + (33 * ((jX h (jP h a0 9) 3) - 1))) + 2).toNat)) < (jX h (jP h a0 9) 2)) → ((jX (jsX h (jP h a0 9) ((5 + i3).toNat) i2) (jP h a0 9) 1) = 1) → 0 ≤ ((jX (jsX h (jP h a0 9) ((5 + i3).toNat) i2) (jP h a0 9) 3) - 1))
    (s27 : ((jX h (jP h a0 9) 1) = 1) → ((jX h (jP h a0 9) (((11 + (33 * ((jX h (jP h a0 9) 3) - 1))) + 2).toNat)) < (jX h (jP h a0 9) 2)) → ((jX (jsX h (jP h a0 9) ((5 + i3).toNat) i2) (jP h a0 9) 1) = 1) → ((jX (jsX h (jP h a0 9) ((5 + i3).toNat) i2) (jP h a0 9) 3) - 1) ≤ 6)
    (r15 : ((jX h (jP h a0 9) 1) = 1) → ((jX h (jP h a0 9) (((11 + (33 * ((jX h (jP h a0 9) 3) - 1))) + 2).toNat)) < (jX h (jP h a0 9) 2)) → ((jX (jsX h (jP h a0 9) ((5 + i3).toNat) i2) (jP h a0 9) 1) = 1) → jR ((11 + (33 * ((jX (jsX h (jP h a0 9) ((5 + i3).toNat) i2) (jP h a0 9) 3) - 1))) + 9))
    (r16 : ((jX h (jP h a0 9) 1) = 1) → ((jX h (jP h a0 9) (((11 + (33 * ((jX h (jP h a0 9) 3) - 1))) + 2).toNat)) < (jX h (jP h a0 9) 2)) → ((jX (jsX h (jP h a0 9) ((5 + i3).toNat) i2) (jP h a0 9) 1) = 1) → jR ((11 + (33 * ((jX (jsX h (jP h a0 9) ((5 + i3).toNat) i2) (jP h a0 9) 3) - 1))) + 2))
    (s28 : ((jX h (jP h a0 9) 1) = 1) → ((jX h (jP h a0 9) (((11 + (33 * ((jX h (jP h a0 9) 3) - 1))) + 2).toNat)) < (jX h (jP h a0 9) 2)) → ((jX (jsX h (jP h a0 9) ((5 + i3).toNat) i2) (jP h a0 9) 1) = 1) → 0 ≤ (11 + (33 * ((jX (jsX h (jP h a0 9) ((5 + i3).toNat) i2) (jP h a0 9) 3) - 1))) + 2)
    (s29 : ((jX h (jP h a0 9) 1) = 1) → ((jX h (jP h a0 9) (((11 + (33 * ((jX h (jP h a0 9) 3) - 1))) + 2).toNat)) < (jX h (jP h a0 9) 2)) → ((jX (jsX h (jP h a0 9) ((5 + i3).toNat) i2) (jP h a0 9) 1) = 1) → (11 + (33 * ((jX (jsX h (jP h a0 9) ((5 + i3).toNat) i2) (jP h a0 9) 3) - 1))) + 2 < ((jS h (jP h a0 9)).2 : Int))
    (r17 : ((jX h (jP h a0 9) 1) = 1) → ((jX h (jP h a0 9) (((11 + (33 * ((jX h (jP h a0 9) 3) - 1))) + 2).toNat)) < (jX h (jP h a0 9) 2)) → ((jX (jsX h (jP h a0 9) ((5 + i3).toNat) i2) (jP h a0 9) 1) = 1) → jR (3 * (jX (jsX h (jP h a0 9) ((5 + i3).toNat) i2) (jP h a0 9) (((11 + (33 * ((jX (jsX h (jP h a0 9) ((5 + i3).toNat) i2) (jP h a0 9) 3) - 1))) + 2).toNat))))
    (r18 : ((jX h (jP h a0 9) 1) = 1) → ((jX h (jP h a0 9) (((11 + (33 * ((jX h (jP h a0 9) 3) - 1))) + 2).toNat)) < (jX h (jP h a0 9) 2)) → ((jX (jsX h (jP h a0 9) ((5 + i3).toNat) i2) (jP h a0 9) 1) = 1) → jR (((11 + (33 * ((jX (jsX h (jP h a0 9) ((5 + i3).toNat) i2) (jP h a0 9) 3) - 1))) + 9) + (3 * (jX (jsX h (jP h a0 9) ((5 + i3).toNat) i2) (jP h a0 9) (((11 + (33 * ((jX (jsX h (jP h a0 9) ((5 + i3).toNat) i2) (jP h a0 9) 3) - 1))) + 2).toNat)))))
    (s30 : ((jX h (jP h a0 9) 1) = 1) → ((jX h (jP h a0 9) (((11 + (33 * ((jX h (jP h a0 9) 3) - 1))) + 2).toNat)) < (jX h (jP h a0 9) 2)) → ((jX (jsX h (jP h a0 9) ((5 + i3).toNat) i2) (jP h a0 9) 1) = 1) → 0 < ((jS h (jP h a0 9)).2 : Int))
    (s31 : ((jX h (jP h a0 9) 1) = 1) → ((jX h (jP h a0 9) (((11 + (33 * ((jX h (jP h a0 9) 3) - 1))) + 2).toNat)) < (jX h (jP h a0 9) 2)) → ((jX (jsX h (jP h a0 9) ((5 + i3).toNat) i2) (jP h a0 9) 1) = 1) → 0 ≤ ((11 + (33 * ((jX (jsX h (jP h a0 9) ((5 + i3).toNat) i2) (jP h a0 9) 3) - 1))) + 9) + (3 * (jX (jsX h (jP h a0 9) ((5 + i3).toNat) i2) (jP h a0 9) (((11 + (33 * ((jX (jsX h (jP h a0 9) ((5 + i3).toNat) i2) (jP h a0 9) 3) - 1))) + 2).toNat))))
    (s32 : ((jX h (jP h a0 9) 1) = 1) → ((jX h (jP h a0 9) (((11 + (33 * ((jX h (jP h a0 9) 3) - 1))) + 2).toNat)) < (jX h (jP h a0 9) 2)) → ((jX (jsX h (jP h a0 9) ((5 + i3).toNat) i2) (jP h a0 9) 1) = 1) → ((11 + (33 * ((jX (jsX h (jP h a0 9) ((5 + i3).toNat) i2) (jP h a0 9) 3) - 1))) + 9) + (3 * (jX (jsX h (jP h a0 9) ((5 + i3).toNat) i2) (jP h a0 9) (((11 + (33 * ((jX (jsX h (jP h a0 9) ((5 + i3).toNat) i2) (jP h a0 9) 3) - 1))) + 2).toNat))) < ((jS h (jP h a0 9)).2 : Int))
    (r19 : ((jX h (jP h a0 9) 1) = 1) → ((jX h (jP h a0 9) (((11 + (33 * ((jX h (jP h a0 9) 3) - 1))) + 2).toNat)) < (jX h (jP h a0 9) 2)) → ((jX (jsX h (jP h a0 9) ((5 + i3).toNat) i2) (jP h a0 9) 1) = 1) → jR ((((11 + (33 * ((jX (jsX h (jP h a0 9) ((5 + i3).toNat) i2) (jP h a0 9) 3) - 1))) + 9) + (3 * (jX (jsX h (jP h a0 9) ((5 + i3).toNat) i2) (jP h a0 9) (((11 + (33 * ((jX (jsX h (jP h a0 9) ((5 + i3).toNat) i2) (jP h a0 9) 3) - 1))) + 2).toNat)))) + 1))
    (s33 : ((jX h (jP h a0 9) 1) = 1) → ((jX h (jP h a0 9) (((11 + (33 * ((jX h (jP h a0 9) 3) - 1))) + 2).toNat)) < (jX h (jP h a0 9) 2)) → ((jX (jsX h (jP h a0 9) ((5 + i3).toNat) i2) (jP h a0 9) 1) = 1) → 0 ≤ (((11 + (33 * ((jX (jsX h (jP h a0 9) ((5 + i3).toNat) i2) (jP h a0 9) 3) - 1))) + 9) + (3 * (jX (jsX h (jP h a0 9) ((5 + i3).toNat) i2) (jP h a0 9) (((11 + (33 * ((jX (jsX h (jP h a0 9) ((5 + i3).toNat) i2) (jP h a0 9) 3) - 1))) + 2).toNat)))) + 1)
    (s34 : ((jX h (jP h a0 9) 1) = 1) → ((jX h (jP h a0 9) (((11 + (33 * ((jX h (jP h a0 9) 3) - 1))) + 2).toNat)) < (jX h (jP h a0 9) 2)) → ((jX (jsX h (jP h a0 9) ((5 + i3).toNat) i2) (jP h a0 9) 1) = 1) → (((11 + (33 * ((jX (jsX h (jP h a0 9) ((5 + i3).toNat) i2) (jP h a0 9) 3) - 1))) + 9) + (3 * (jX (jsX h (jP h a0 9) ((5 + i3).toNat) i2) (jP h a0 9) (((11 + (33 * ((jX (jsX h (jP h a0 9) ((5 + i3).toNat) i2) (jP h a0 9) 3) - 1))) + 2).toNat)))) + 1 < ((jS h (jP h a0 9)).2 : Int))
    (r20 : ((jX h (jP h a0 9) 1) = 1) → ((jX h (jP h a0 9) (((11 + (33 * ((jX h (jP h a0 9) 3) - 1))) + 2).toNat)) < (jX h (jP h a0 9) 2)) → ((jX (jsX h (jP h a0 9) ((5 + i3).toNat) i2) (jP h a0 9) 1) = 1) → jR ((((11 + (33 * ((jX (jsX h (jP h a0 9) ((5 + i3).toNat) i2) (jP h a0 9) 3) - 1))) + 9) + (3 * (jX (jsX h (jP h a0 9) ((5 + i3).toNat) i2) (jP h a0 9) (((11 + (33 * ((jX (jsX h (jP h a0 9) ((5 + i3).toNat) i2) (jP h a0 9) 3) - 1))) + 2).toNat)))) + 2))
    (s35 : ((jX h (jP h a0 9) 1) = 1) → ((jX h (jP h a0 9) (((11 + (33 * ((jX h (jP h a0 9) 3) - 1))) + 2).toNat)) < (jX h (jP h a0 9) 2)) → ((jX (jsX h (jP h a0 9) ((5 + i3).toNat) i2) (jP h a0 9) 1) = 1) → 0 ≤ (((11 + (33 * ((jX (jsX h (jP h a0 9) ((5 + i3).toNat) i2) (jP h a0 9) 3) - 1))) + 9) + (3 * (jX (jsX h (jP h a0 9) ((5 + i3).toNat) i2) (jP h a0 9) (((11 + (33 * ((jX (jsX h (jP h a0 9) ((5 + i3).toNat) i2) (jP h a0 9) 3) - 1))) + 2).toNat)))) + 2)
    (s36 : ((jX h (jP h a0 9) 1) = 1) → ((jX h (jP h a0 9) (((11 + (33 * ((jX h (jP h a0 9) 3) - 1))) + 2).toNat)) < (jX h (jP h a0 9) 2)) → ((jX (jsX h (jP h a0 9) ((5 + i3).toNat) i2) (jP h a0 9) 1) = 1) → (((11 + (33 * ((jX (jsX h (jP h a0 9) ((5 + i3).toNat) i2) (jP h a0 9) 3) - 1))) + 9) + (3 * (jX (jsX h (jP h a0 9) ((5 + i3).toNat) i2) (jP h a0 9) (((11 + (33 * ((jX (jsX h (jP h a0 9) ((5 + i3).toNat) i2) (jP h a0 9) 3) - 1))) + 2).toNat)))) + 2 < ((jS h (jP h a0 9)).2 : Int))
    (r21 : ((jX h (jP h a0 9) 1) = 1) → ((jX h (jP h a0 9) (((11 + (33 * ((jX h (jP h a0 9) 3) - 1))) + 2).toNat)) < (jX h (jP h a0 9) 2)) → ((jX (jsX h (jP h a0 9) ((5 + i3).toNat) i2) (jP h a0 9) 1) = 1) → jR ((11 + (33 * ((jX (jsX h (jP h a0 9) ((5 + i3).toNat) i2) (jP h a0 9) 3) - 1))) + 2))
    (r22 : ((jX h (jP h a0 9) 1) = 1) → ((jX h (jP h a0 9) (((11 + (33 * ((jX h (jP h a0 9) 3) - 1))) + 2).toNat)) < (jX h (jP h a0 9) 2)) → ((jX (jsX h (jP h a0 9) ((5 + i3).toNat) i2) (jP h a0 9) 1) = 1) → jR ((jX (jsX (jsX (jsX (jsX h (jP h a0 9) ((5 + i3).toNat) i2) (jP h a0 9) ((((11 + (33 * ((jX (jsX h (jP h a0 9) ((5 + i3).toNat) i2) (jP h a0 9) 3) - 1))) + 9) + (3 * (jX (jsX h (jP h a0 9) ((5 + i3).toNat) i2) (jP h a0 9) (((11 + (33 * ((jX (jsX h (jP h a0 9) ((5 + i3).toNat) i2) (jP h a0 9) 3) - 1))) + 2).toNat)))).toNat) (jX (jsX h (jP h a0 9) ((5 + i3).toNat) i2) (jP h a0 9) 0)) (jP h a0 9) (((((11 + (33 * ((jX (jsX h (jP h a0 9) ((5 + i3).toNat) i2) (jP h a0 9) 3) - 1))) + 9) + (3 * (jX (jsX h (jP h a0 9) ((5 + i3).toNat) i2) (jP h a0 9) (((11 + (33 * ((jX (jsX h (jP h a0 9) ((5 + i3).toNat) i2) (jP h a0 9) 3) - 1))) + 2).toNat)))) + 1).toNat) i3) (jP h a0 9) (((((11 + (33 * ((jX (jsX h (jP h a0 9) ((5 + i3).toNat) i2) (jP h a0 9) 3) - 1))) + 9) + (3 * (jX (jsX h (jP h a0 9) ((5 + i3).toNat) i2) (jP h a0 9) (((11 + (33 * ((jX (jsX h (jP h a0 9) ((5 + i3).toNat) i2) (jP h a0 9) 3) - 1))) + 2).toNat)))) + 2).toNat) i2) (jP h a0 9) (((11 + (33 * ((jX (jsX h (jP h a0 9) ((5 + i3).toNat) i2) (jP h a0 9) 3) - 1))) + 2).toNat)) + 1))
    (q4 : ((jX h (jP h a0 9) 1) = 1) → ((jX h (jP h a0 9) (((11 + (33 * ((jX h (jP h a0 9) 3) - 1))) + 2).toNat)) < (jX h (jP h a0 9) 2)) → ((jX (jsX h (jP h a0 9) ((5 + i3).toNat) i2) (jP h a0 9) 1) = 1) → Q (some (.inl (jX (jsX (jsX (jsX (jsX (jsX h (jP h a0 9) ((5 + i3).toNat) i2) (jP h a0 9) ((((11 + (33 * ((jX (jsX h (jP h a0 9) ((5 + i3).toNat) i2) (jP h a0 9) 3) - 1))) + 9) + (3 * (jX (jsX h (jP h a0 9) ((5 + i3).toNat) i2) (jP h a0 9) (((11 + (33 * ((jX (jsX h (jP h a0 9) ((5 + i3).toNat) i2) (jP h a0 9) 3) - 1))) + 2).toNat)))).toNat) (jX (jsX h (jP h a0 9) ((5 + i3).toNat) i2) (jP h a0 9) 0)) (jP h a0 9) (((((11 + (33 * ((jX (jsX h (jP h a0 9) ((5 + i3).toNat) i2) (jP h a0 9) 3) - 1))) + 9) + (3 * (jX (jsX h (jP h a0 9) ((5 + i3).toNat) i2) (jP h a0 9) (((11 + (33 * ((jX (jsX h (jP h a0 9) ((5 + i3).toNat) i2) (jP h a0 9) 3) - 1))) + 2).toNat)))) + 1).toNat) i3) (jP h a0 9) (((((11 + (33 * ((jX (jsX h (jP h a0 9) ((5 + i3).toNat) i2) (jP h a0 9) 3) - 1))) + 9) + (3 * (jX (jsX h (jP h a0 9) ((5 + i3).toNat) i2) (jP h a0 9) (((11 + (33 * ((jX (jsX h (jP h a0 9) ((5 + i3).toNat) i2) (jP h a0 9) 3) - 1))) + 2).toNat)))) + 2).toNat) i2) (jP h a0 9) (((11 + (33 * ((jX (jsX h (jP h a0 9) ((5 + i3).toNat) i2) (jP h a0 9) 3) - 1))) + 2).toNat) ((jX (jsX (jsX (jsX (jsX h (jP h a0 9) ((5 + i3).toNat) i2) (jP h a0 9) ((((11 + (33 * ((jX (jsX h (jP h a0 9) ((5 + i3).toNat) i2) (jP h a0 9) 3) - 1))) + 9) + (3 * (jX (jsX h (jP h a0 9) ((5 + i3).toNat) i2) (jP h a0 9) (((11 + (33 * ((jX (jsX h (jP h a0 9) ((5 + i3).toNat) i2) (jP h a0 9) 3) - 1))) + 2).toNat)))).toNat) (jX (jsX h (jP h a0 9) ((5 + i3).toNat) i2) (jP h a0 9) 0)) (jP h a0 9) (((((11 + (33 * ((jX (jsX h (jP h a0 9) ((5 + i3).toNat) i2) (jP h a0 9) 3) - 1))) + 9) + (3 * (jX (jsX h (jP h a0 9) ((5 + i3).toNat) i2) (jP h a0 9) (((11 + (33 * ((jX (jsX h (jP h a0 9) ((5 + i3).toNat) i2) (jP h a0 9) 3) - 1))) + 2).toNat)))) + 1).toNat) i3) (jP h a0 9) (((((11 + (33 * ((jX (jsX h (jP h a0 9) ((5 + i3).toNat) i2) (jP h a0 9) 3) - 1))) + 9) + (3 * (jX (jsX h (jP h a0 9) ((5 + i3).toNat) i2) (jP h a0 9) (((11 + (33 * ((jX (jsX h (jP h a0 9) ((5 + i3).toNat) i2) (jP h a0 9) 3) - 1))) + 2).toNat)))) + 2).toNat) i2) (jP h a0 9) (((11 + (33 * ((jX (jsX h (jP h a0 9) ((5 + i3).toNat) i2) (jP h a0 9) 3) - 1))) + 2).toNat)) + 1)) (jP h a0 9) 1))) (jsX (jsX (jsX (jsX (jsX h (jP h a0 9) ((5 + i3).toNat) i2) (jP h a0 9) ((((11 + (33 * ((jX (jsX h (jP h a0 9) ((5 + i3).toNat) i2) (jP h a0 9) 3) - 1))) + 9) + (3 * (jX (jsX h (jP h a0 9) ((5 + i3).toNat) i2) (jP h a0 9) (((11 + (33 * ((jX (jsX h (jP h a0 9) ((5 + i3).toNat) i2) (jP h a0 9) 3) - 1))) + 2).toNat)))).toNat) (jX (jsX h (jP h a0 9) ((5 + i3).toNat) i2) (jP h a0 9) 0)) (jP h a0 9) (((((11 + (33 * ((jX (jsX h (jP h a0 9) ((5 + i3).toNat) i2) (jP h a0 9) 3) - 1))) + 9) + (3 * (jX (jsX h (jP h a0 9) ((5 + i3).toNat) i2) (jP h a0 9) (((11 + (33 * ((jX (jsX h (jP h a0 9) ((5 + i3).toNat) i2) (jP h a0 9) 3) - 1))) + 2).toNat)))) + 1).toNat) i3) (jP h a0 9) (((((11 + (33 * ((jX (jsX h (jP h a0 9) ((5 + i3).toNat) i2) (jP h a0 9) 3) - 1))) + 9) + (3 * (jX (jsX h (jP h a0 9) ((5 + i3).toNat) i2) (jP h a0 9) (((11 + (33 * ((jX (jsX h (jP h a0 9) ((5 + i3).toNat) i2) (jP h a0 9) 3) - 1))) + 2).toNat)))) + 2).toNat) i2) (jP h a0 9) (((11 + (33 * ((jX (jsX h (jP h a0 9) ((5 + i3).toNat) i2) (jP h a0 9) 3) - 1))) + 2).toNat) ((jX (jsX (jsX (jsX (jsX h (jP h a0 9) ((5 + i3).toNat) i2) (jP h a0 9) ((((11 + (33 * ((jX (jsX h (jP h a0 9) ((5 + i3).toNat) i2) (jP h a0 9) 3) - 1))) + 9) + (3 * (jX (jsX h (jP h a0 9) ((5 + i3).toNat) i2) (jP h a0 9) (((11 + (33 * ((jX (jsX h (jP h a0 9) ((5 + i3).toNat) i2) (jP h a0 9) 3) - 1))) + 2).toNat)))).toNat) (jX (jsX h (jP h a0 9) ((5 + i3).toNat) i2) (jP h a0 9) 0)) (jP h a0 9) (((((11 + (33 * ((jX (jsX h (jP h a0 9) ((5 + i3).toNat) i2) (jP h a0 9) 3) - 1))) + 9) + (3 * (jX (jsX h (jP h a0 9) ((5 + i3).toNat) i2) (jP h a0 9) (((11 + (33 * ((jX (jsX h (jP h a0 9) ((5 + i3).toNat) i2) (jP h a0 9) 3) - 1))) + 2).toNat)))) + 1).toNat) i3) (jP h a0 9) (((((11 + (33 * ((jX (jsX h (jP h a0 9) ((5 + i3).toNat) i2) (jP h a0 9) 3) - 1))) + 9) + (3 * (jX (jsX h (jP h a0 9) ((5 + i3).toNat) i2) (jP h a0 9) (((11 + (33 * ((jX (jsX h (jP h a0 9) ((5 + i3).toNat) i2) (jP h a0 9) 3) - 1))) + 2).toNat)))) + 2).toNat) i2) (jP h a0 9) (((11 + (33 * ((jX (jsX h (jP h a0 9) ((5 + i3).toNat) i2) (jP h a0 9) 3) - 1))) + 2).toNat)) + 1)))
    (e1 : ((jX h (jP h a0 9) 1) = 1) → (¬ ((jX h (jP h a0 9) (((11 + (33 * ((jX h (jP h a0 9) 3) - 1))) + 2).toNat)) < (jX h (jP h a0 9) 2))) → Ex MX9_blockBegins (d + 1) [.inr a0] h 0 0 (fun v h2 => V MX9_sets (d + 3) 95 [some (.inr a0), some (.inl i1), some (.inl i2), some (.inl i3), u4, u5] (v.toList ++ []) h2 0 0 Q)) :
    V MX9_sets (d + 3) 54 [some (.inr a0), some (.inl i1), some (.inl i2), some (.inl i3), u4, u5] [] h 0 0 Q := by
  refine V_aload_n (i := 0) dX9_sets_54 rfl rfl ?_
  refine V_getP dX9_sets_55 fX9_25 rfl s1 ?_
  refine V_iconst dX9_sets_58 ⟨by decide, by decide⟩ ?_
  refine V_iald dX9_sets_59 s2 (by decide) s3 ?_
  refine V_iconst dX9_sets_60 ⟨by decide, by decide⟩ ?_
  refine V_icmp_ne (tgt := 95) dX9_sets_61 (by decide) (fun c1 => ?_) (fun c1 => ?_)
  · refine V_aload_n (i := 0) dX9_sets_95 rfl rfl ?_
    refine V_getP dX9_sets_96 fX9_25 rfl s1 ?_
    refine V_iconst dX9_sets_99 ⟨by decide, by decide⟩ ?_
    refine V_iload_n (i := 3) dX9_sets_100 rfl rfl ?_
    refine V_iadd dX9_sets_101 (r1 c1) ?_
    refine V_iload_n (i := 2) dX9_sets_102 rfl rfl ?_
    refine V_iast dX9_sets_103 s2 (s4 c1) (s5 c1) ?_
    refine V_aload_n (i := 0) dX9_sets_104 rfl rfl ?_
    refine V_getP dX9_sets_105 fX9_25 rfl s1 ?_
    refine V_iconst dX9_sets_108 ⟨by decide, by decide⟩ ?_
    refine V_iald dX9_sets_109 s2 (by decide) s3 ?_
    refine V_iconst dX9_sets_110 ⟨by decide, by decide⟩ ?_
    refine V_icmp_ne (tgt := 192) dX9_sets_111 (by decide) (fun c2 => ?_) (fun c2 => ?_)
    · refine V_aload_n (i := 0) dX9_sets_192 rfl rfl ?_
      refine V_getP dX9_sets_193 fX9_25 rfl s1 ?_
      refine V_iconst dX9_sets_196 ⟨by decide, by decide⟩ ?_
      refine V_iald dX9_sets_197 s2 (by decide) s3 ?_
      exact V_reti rfl dX9_sets_198 (q1 c1 c2)
    · refine V_aload_n (i := 0) dX9_sets_114 rfl rfl ?_
      refine V_getP dX9_sets_115 fX9_25 rfl s1 ?_
      refine V_iconst dX9_sets_118 ⟨by decide, by decide⟩ ?_
      refine V_iald dX9_sets_119 s2 (by decide) (s6 c1 c2) ?_
      refine V_iconst dX9_sets_120 ⟨by decide, by decide⟩ ?_
      refine V_isub dX9_sets_121 (r2 c1 c2) ?_
      refine V_callS (M := MX9_sets) (d := (d + 3)) (mc' := 0) (ms' := 0) (mc := 0) (ms := 0) (a := 0) (As := [.inl ((jX (jsX h (jP h a0 9) ((5 + i3).toNat) i2) (jP h a0 9) 3) - 1)]) (rest := []) dX9_sets_122 tX9_block0 sX9_block0 lX9_256 rfl rfl (Nat.le_of_ble_eq_true rfl) (show d + 1 ≤ (d + 3) by omega) (Ex.mono (pX9_block0 (d := d) (s7 c1 c2) (s8 c1 c2)) ?_)
      intro v h2 hq
      rw [hq.1, hq.2]
      show V MX9_sets (d + 3) 125 [some (.inr a0), some (.inl i1), some (.inl i2), some (.inl i3), u4, u5] [.inl (11 + (33 * ((jX (jsX h (jP h a0 9) ((5 + i3).toNat) i2) (jP h a0 9) 3) - 1)))] (jsX h (jP h a0 9) ((5 + i3).toNat) i2) 0 0 Q
      refine V_istore (i := 4) dX9_sets_125 (by decide) ?_
      refine V_iload (i := 4) dX9_sets_127 rfl ?_
      refine V_bipush dX9_sets_129 (by decide +kernel) ⟨by decide, by decide⟩ ?_
      refine V_iadd dX9_sets_131 (r3 c1 c2) ?_
      refine V_iconst dX9_sets_132 ⟨by decide, by decide⟩ ?_
      refine V_aload_n (i := 0) dX9_sets_133 rfl rfl ?_
      refine V_getP dX9_sets_134 fX9_25 rfl s1 ?_
      refine V_iload (i := 4) dX9_sets_137 rfl ?_
      refine V_iconst dX9_sets_139 ⟨by decide, by decide⟩ ?_
      refine V_iadd dX9_sets_140 (r4 c1 c2) ?_
      refine V_iald dX9_sets_141 s2 (s9 c1 c2) (s10 c1 c2) ?_
      refine V_imul dX9_sets_142 (r5 c1 c2) ?_
      refine V_iadd dX9_sets_143 (r6 c1 c2) ?_
      refine V_istore (i := 5) dX9_sets_144 (by decide) ?_
      refine V_aload_n (i := 0) dX9_sets_146 rfl rfl ?_
      refine V_getP dX9_sets_147 fX9_25 rfl s1 ?_
      refine V_iload (i := 5) dX9_sets_150 rfl ?_
      refine V_aload_n (i := 0) dX9_sets_152 rfl rfl ?_
      refine V_getP dX9_sets_153 fX9_25 rfl s1 ?_
      refine V_iconst dX9_sets_156 ⟨by decide, by decide⟩ ?_
      refine V_iald dX9_sets_157 s2 (by decide) (s11 c1 c2) ?_
      refine V_iast dX9_sets_158 s2 (s12 c1 c2) (s13 c1 c2) ?_
      refine V_aload_n (i := 0) dX9_sets_159 rfl rfl ?_
      refine V_getP dX9_sets_160 fX9_25 rfl s1 ?_
      refine V_iload (i := 5) dX9_sets_163 rfl ?_
      refine V_iconst dX9_sets_165 ⟨by decide, by decide⟩ ?_
      refine V_iadd dX9_sets_166 (r7 c1 c2) ?_
      refine V_iload_n (i := 3) dX9_sets_167 rfl rfl ?_
      refine V_iast dX9_sets_168 s2 (s14 c1 c2) (s15 c1 c2) ?_
      refine V_aload_n (i := 0) dX9_sets_169 rfl rfl ?_
      refine V_getP dX9_sets_170 fX9_25 rfl s1 ?_
      refine V_iload (i := 5) dX9_sets_173 rfl ?_
      refine V_iconst dX9_sets_175 ⟨by decide, by decide⟩ ?_
      refine V_iadd dX9_sets_176 (r8 c1 c2) ?_
      refine V_iload_n (i := 2) dX9_sets_177 rfl rfl ?_
      refine V_iast dX9_sets_178 s2 (s16 c1 c2) (s17 c1 c2) ?_
      refine V_aload_n (i := 0) dX9_sets_179 rfl rfl ?_
      refine V_getP dX9_sets_180 fX9_25 rfl s1 ?_
      refine V_iload (i := 4) dX9_sets_183 rfl ?_
      refine V_iconst dX9_sets_185 ⟨by decide, by decide⟩ ?_
      refine V_iadd dX9_sets_186 (r9 c1 c2) ?_
      refine V_dup2 dX9_sets_187 ?_
      refine V_iald dX9_sets_188 s2 (s9 c1 c2) (s10 c1 c2) ?_
      refine V_iconst dX9_sets_189 ⟨by decide, by decide⟩ ?_
      refine V_iadd dX9_sets_190 (r10 c1 c2) ?_
      refine V_iast dX9_sets_191 s2 (s9 c1 c2) (s10 c1 c2) ?_
      refine V_aload_n (i := 0) dX9_sets_192 rfl rfl ?_
      refine V_getP dX9_sets_193 fX9_25 rfl s1 ?_
      refine V_iconst dX9_sets_196 ⟨by decide, by decide⟩ ?_
      refine V_iald dX9_sets_197 s2 (by decide) s3 ?_
      exact V_reti rfl dX9_sets_198 (q2 c1 c2)
  · refine V_aload_n (i := 0) dX9_sets_64 rfl rfl ?_
    refine V_getP dX9_sets_65 fX9_25 rfl s1 ?_
    refine V_aload_n (i := 0) dX9_sets_68 rfl rfl ?_
    refine V_getP dX9_sets_69 fX9_25 rfl s1 ?_
    refine V_iconst dX9_sets_72 ⟨by decide, by decide⟩ ?_
    refine V_iald dX9_sets_73 s2 (by decide) (s18 c1) ?_
    refine V_iconst dX9_sets_74 ⟨by decide, by decide⟩ ?_
    refine V_isub dX9_sets_75 (r11 c1) ?_
    refine V_callS (M := MX9_sets) (d := (d + 3)) (mc' := 0) (ms' := 0) (mc := 0) (ms := 0) (a := 0) (As := [.inl ((jX h (jP h a0 9) 3) - 1)]) (rest := [.inr (jP h a0 9)]) dX9_sets_76 tX9_block0 sX9_block0 lX9_256 rfl rfl (Nat.le_of_ble_eq_true rfl) (show d + 1 ≤ (d + 3) by omega) (Ex.mono (pX9_block0 (d := d) (s19 c1) (s20 c1)) ?_)
    intro v h2 hq
    rw [hq.1, hq.2]
    show V MX9_sets (d + 3) 79 [some (.inr a0), some (.inl i1), some (.inl i2), some (.inl i3), u4, u5] [.inl (11 + (33 * ((jX h (jP h a0 9) 3) - 1))), .inr (jP h a0 9)] h 0 0 Q
    refine V_iconst dX9_sets_79 ⟨by decide, by decide⟩ ?_
    refine V_iadd dX9_sets_80 (r12 c1) ?_
    refine V_iald dX9_sets_81 s2 (s21 c1) (s22 c1) ?_
    refine V_aload_n (i := 0) dX9_sets_82 rfl rfl ?_
    refine V_getP dX9_sets_83 fX9_25 rfl s1 ?_
    refine V_iconst dX9_sets_86 ⟨by decide, by decide⟩ ?_
    refine V_iald dX9_sets_87 s2 (by decide) (s23 c1) ?_
    refine V_icmp_lt (tgt := 95) dX9_sets_88 (by decide) (fun c3 => ?_) (fun c3 => ?_)
    · refine V_aload_n (i := 0) dX9_sets_95 rfl rfl ?_
      refine V_getP dX9_sets_96 fX9_25 rfl s1 ?_
      refine V_iconst dX9_sets_99 ⟨by decide, by decide⟩ ?_
      refine V_iload_n (i := 3) dX9_sets_100 rfl rfl ?_
      refine V_iadd dX9_sets_101 (r13 c1 c3) ?_
      refine V_iload_n (i := 2) dX9_sets_102 rfl rfl ?_
      refine V_iast dX9_sets_103 s2 (s24 c1 c3) (s25 c1 c3) ?_
      refine V_aload_n (i := 0) dX9_sets_104 rfl rfl ?_
      refine V_getP dX9_sets_105 fX9_25 rfl s1 ?_
      refine V_iconst dX9_sets_108 ⟨by decide, by decide⟩ ?_
      refine V_iald dX9_sets_109 s2 (by decide) s3 ?_
      refine V_iconst dX9_sets_110 ⟨by decide, by decide⟩ ?_
      refine V_icmp_ne (tgt := 192) dX9_sets_111 (by decide) (fun c4 => ?_) (fun c4 => ?_)
      · refine V_aload_n (i := 0) dX9_sets_192 rfl rfl ?_
        refine V_getP dX9_sets_193 fX9_25 rfl s1 ?_
        refine V_iconst dX9_sets_196 ⟨by decide, by decide⟩ ?_
        refine V_iald dX9_sets_197 s2 (by decide) s3 ?_
        exact V_reti rfl dX9_sets_198 (q3 c1 c3 c4)
      · refine V_aload_n (i := 0) dX9_sets_114 rfl rfl ?_
        refine V_getP dX9_sets_115 fX9_25 rfl s1 ?_
        refine V_iconst dX9_sets_118 ⟨by decide, by decide⟩ ?_
        refine V_iald dX9_sets_119 s2 (by decide) (s18 c1) ?_
        refine V_iconst dX9_sets_120 ⟨by decide, by decide⟩ ?_
        refine V_isub dX9_sets_121 (r14 c1 c3 c4) ?_
        refine V_callS (M := MX9_sets) (d := (d + 3)) (mc' := 0) (ms' := 0) (mc := 0) (ms := 0) (a := 0) (As := [.inl ((jX (jsX h (jP h a0 9) ((5 + i3).toNat) i2) (jP h a0 9) 3) - 1)]) (rest := []) dX9_sets_122 tX9_block0 sX9_block0 lX9_256 rfl rfl (Nat.le_of_ble_eq_true rfl) (show d + 1 ≤ (d + 3) by omega) (Ex.mono (pX9_block0 (d := d) (s26 c1 c3 c4) (s27 c1 c3 c4)) ?_)
        intro v h2 hq
        rw [hq.1, hq.2]
        show V MX9_sets (d + 3) 125 [some (.inr a0), some (.inl i1), some (.inl i2), some (.inl i3), u4, u5] [.inl (11 + (33 * ((jX (jsX h (jP h a0 9) ((5 + i3).toNat) i2) (jP h a0 9) 3) - 1)))] (jsX h (jP h a0 9) ((5 + i3).toNat) i2) 0 0 Q
        refine V_istore (i := 4) dX9_sets_125 (by decide) ?_
        refine V_iload (i := 4) dX9_sets_127 rfl ?_
        refine V_bipush dX9_sets_129 (by decide +kernel) ⟨by decide, by decide⟩ ?_
        refine V_iadd dX9_sets_131 (r15 c1 c3 c4) ?_
        refine V_iconst dX9_sets_132 ⟨by decide, by decide⟩ ?_
        refine V_aload_n (i := 0) dX9_sets_133 rfl rfl ?_
        refine V_getP dX9_sets_134 fX9_25 rfl s1 ?_
        refine V_iload (i := 4) dX9_sets_137 rfl ?_
        refine V_iconst dX9_sets_139 ⟨by decide, by decide⟩ ?_
        refine V_iadd dX9_sets_140 (r16 c1 c3 c4) ?_
        refine V_iald dX9_sets_141 s2 (s28 c1 c3 c4) (s29 c1 c3 c4) ?_
        refine V_imul dX9_sets_142 (r17 c1 c3 c4) ?_
        refine V_iadd dX9_sets_143 (r18 c1 c3 c4) ?_
        refine V_istore (i := 5) dX9_sets_144 (by decide) ?_
        refine V_aload_n (i := 0) dX9_sets_146 rfl rfl ?_
        refine V_getP dX9_sets_147 fX9_25 rfl s1 ?_
        refine V_iload (i := 5) dX9_sets_150 rfl ?_
        refine V_aload_n (i := 0) dX9_sets_152 rfl rfl ?_
        refine V_getP dX9_sets_153 fX9_25 rfl s1 ?_
        refine V_iconst dX9_sets_156 ⟨by decide, by decide⟩ ?_
        refine V_iald dX9_sets_157 s2 (by decide) (s30 c1 c3 c4) ?_
        refine V_iast dX9_sets_158 s2 (s31 c1 c3 c4) (s32 c1 c3 c4) ?_
        refine V_aload_n (i := 0) dX9_sets_159 rfl rfl ?_
        refine V_getP dX9_sets_160 fX9_25 rfl s1 ?_
        refine V_iload (i := 5) dX9_sets_163 rfl ?_
        refine V_iconst dX9_sets_165 ⟨by decide, by decide⟩ ?_
        refine V_iadd dX9_sets_166 (r19 c1 c3 c4) ?_
        refine V_iload_n (i := 3) dX9_sets_167 rfl rfl ?_
        refine V_iast dX9_sets_168 s2 (s33 c1 c3 c4) (s34 c1 c3 c4) ?_
        refine V_aload_n (i := 0) dX9_sets_169 rfl rfl ?_
        refine V_getP dX9_sets_170 fX9_25 rfl s1 ?_
        refine V_iload (i := 5) dX9_sets_173 rfl ?_
        refine V_iconst dX9_sets_175 ⟨by decide, by decide⟩ ?_
        refine V_iadd dX9_sets_176 (r20 c1 c3 c4) ?_
        refine V_iload_n (i := 2) dX9_sets_177 rfl rfl ?_
        refine V_iast dX9_sets_178 s2 (s35 c1 c3 c4) (s36 c1 c3 c4) ?_
        refine V_aload_n (i := 0) dX9_sets_179 rfl rfl ?_
        refine V_getP dX9_sets_180 fX9_25 rfl s1 ?_
        refine V_iload (i := 4) dX9_sets_183 rfl ?_
        refine V_iconst dX9_sets_185 ⟨by decide, by decide⟩ ?_
        refine V_iadd dX9_sets_186 (r21 c1 c3 c4) ?_
        refine V_dup2 dX9_sets_187 ?_
        refine V_iald dX9_sets_188 s2 (s28 c1 c3 c4) (s29 c1 c3 c4) ?_
        refine V_iconst dX9_sets_189 ⟨by decide, by decide⟩ ?_
        refine V_iadd dX9_sets_190 (r22 c1 c3 c4) ?_
        refine V_iast dX9_sets_191 s2 (s28 c1 c3 c4) (s29 c1 c3 c4) ?_
        refine V_aload_n (i := 0) dX9_sets_192 rfl rfl ?_
        refine V_getP dX9_sets_193 fX9_25 rfl s1 ?_
        refine V_iconst dX9_sets_196 ⟨by decide, by decide⟩ ?_
        refine V_iald dX9_sets_197 s2 (by decide) s3 ?_
        exact V_reti rfl dX9_sets_198 (q4 c1 c3 c4)
    · refine V_aload_n (i := 0) dX9_sets_91 rfl rfl ?_
      exact V_callV (M := MX9_sets) (d := (d + 3)) (mc' := 0) (ms' := 0) (mc := 0) (ms := 0) (As := []) (rest := []) dX9_sets_92 tX9_blockBegins vX9_blockBegins lX9_224 s1 ⟨by decide, rfl⟩ rfl rfl (Nat.le_of_ble_eq_true rfl) (show (d + 1) + 1 ≤ (d + 3) by omega) (e1 c1 c3)
theorem bX9_sets_95 {d : Nat} {Q : Option jA → jH → Prop} (a0 : Nat) (i1 : Int) (i2 : Int) (i3 : Int) (u4 : Option jA) (u5 : Option jA) (h : jH)
    (s1 : (jS h a0).1 = 9)
    (r1 : jR (5 + i3))
    (s2 : (jS h (jP h a0 9)).1 = 16)
    (s3 : 0 ≤ 5 + i3)
    (s4 : 5 + i3 < ((jS h (jP h a0 9)).2 : Int))
    (s5 : 1 < ((jS h (jP h a0 9)).2 : Int))
    (q1 : ((jX (jsX h (jP h a0 9) ((5 + i3).toNat) i2) (jP h a0 9) 1) ≠ 1) → Q (some (.inl (jX (jsX h (jP h a0 9) ((5 + i3).toNat) i2) (jP h a0 9) 1))) (jsX h (jP h a0 9) ((5 + i3).toNat) i2))
    (s6 : ((jX (jsX h (jP h a0 9) ((5 + i3).toNat) i2) (jP h a0 9) 1) = 1) → 3 < ((jS h (jP h a0 9)).2 : Int))
    (r2 : ((jX (jsX h (jP h a0 9) ((5 + i3).toNat) i2) (jP h a0 9) 1) = 1) → jR ((jX (jsX h (jP h a0 9) ((5 + i3).toNat) i2) (jP h a0 9) 3) - 1))
    (s7 : ((jX (jsX h (jP h a0 9) ((5 + i3).toNat) i2) (jP h a0 9) 1) = 1) → 0 ≤ ((jX (jsX h (jP h a0 9) ((5 + i3).toNat) i2) (jP h a0 9) 3) - 1))
    (s8 : ((jX (jsX h (jP h a0 9) ((5 + i3).toNat) i2) (jP h a0 9) 1) = 1) → ((jX (jsX h (jP h a0 9) ((5 + i3).toNat) i2) (jP h a0 9) 3) - 1) ≤ 6)
    (r3 : ((jX (jsX h (jP h a0 9) ((5 + i3).toNat) i2) (jP h a0 9) 1) = 1) → jR ((11 + (33 * ((jX (jsX h (jP h a0 9) ((5 + i3).toNat) i2) (jP h a0 9) 3) - 1))) + 9))
    (r4 : ((jX (jsX h (jP h a0 9) ((5 + i3).toNat) i2) (jP h a0 9) 1) = 1) → jR ((11 + (33 * ((jX (jsX h (jP h a0 9) ((5 + i3).toNat) i2) (jP h a0 9) 3) - 1))) + 2))
    (s9 : ((jX (jsX h (jP h a0 9) ((5 + i3).toNat) i2) (jP h a0 9) 1) = 1) → 0 ≤ (11 + (33 * ((jX (jsX h (jP h a0 9) ((5 + i3).toNat) i2) (jP h a0 9) 3) - 1))) + 2)
    (s10 : ((jX (jsX h (jP h a0 9) ((5 + i3).toNat) i2) (jP h a0 9) 1) = 1) → (11 + (33 * ((jX (jsX h (jP h a0 9) ((5 + i3).toNat) i2) (jP h a0 9) 3) - 1))) + 2 < ((jS h (jP h a0 9)).2 : Int))
    (r5 : ((jX (jsX h (jP h a0 9) ((5 + i3).toNat) i2) (jP h a0 9) 1) = 1) → jR (3 * (jX (jsX h (jP h a0 9) ((5 + i3).toNat) i2) (jP h a0 9) (((11 + (33 * ((jX (jsX h (jP h a0 9) ((5 + i3).toNat) i2) (jP h a0 9) 3) - 1))) + 2).toNat))))
    (r6 : ((jX (jsX h (jP h a0 9) ((5 + i3).toNat) i2) (jP h a0 9) 1) = 1) → jR (((11 + (33 * ((jX (jsX h (jP h a0 9) ((5 + i3).toNat) i2) (jP h a0 9) 3) - 1))) + 9) + (3 * (jX (jsX h (jP h a0 9) ((5 + i3).toNat) i2) (jP h a0 9) (((11 + (33 * ((jX (jsX h (jP h a0 9) ((5 + i3).toNat) i2) (jP h a0 9) 3) - 1))) + 2).toNat)))))
    (s11 : ((jX (jsX h (jP h a0 9) ((5 + i3).toNat) i2) (jP h a0 9) 1) = 1) → 0 < ((jS h (jP h a0 9)).2 : Int))
    (s12 : ((jX (jsX h (jP h a0 9) ((5 + i3).toNat) i2) (jP h a0 9) 1) = 1) → 0 ≤ ((11 + (33 * ((jX (jsX h (jP h a0 9) ((5 + i3).toNat) i2) (jP h a0 9) 3) - 1))) + 9) + (3 * (jX (jsX h (jP h a0 9) ((5 + i3).toNat) i2) (jP h a0 9) (((11 + (33 * ((jX (jsX h (jP h a0 9) ((5 + i3).toNat) i2) (jP h a0 9) 3) - 1))) + 2).toNat))))
    (s13 : ((jX (jsX h (jP h a0 9) ((5 + i3).toNat) i2) (jP h a0 9) 1) = 1) → ((11 + (33 * ((jX (jsX h (jP h a0 9) ((5 + i3).toNat) i2) (jP h a0 9) 3) - 1))) + 9) + (3 * (jX (jsX h (jP h a0 9) ((5 + i3).toNat) i2) (jP h a0 9) (((11 + (33 * ((jX (jsX h (jP h a0 9) ((5 + i3).toNat) i2) (jP h a0 9) 3) - 1))) + 2).toNat))) < ((jS h (jP h a0 9)).2 : Int))
    (r7 : ((jX (jsX h (jP h a0 9) ((5 + i3).toNat) i2) (jP h a0 9) 1) = 1) → jR ((((11 + (33 * ((jX (jsX h (jP h a0 9) ((5 + i3).toNat) i2) (jP h a0 9) 3) - 1))) + 9) + (3 * (jX (jsX h (jP h a0 9) ((5 + i3).toNat) i2) (jP h a0 9) (((11 + (33 * ((jX (jsX h (jP h a0 9) ((5 + i3).toNat) i2) (jP h a0 9) 3) - 1))) + 2).toNat)))) + 1))
    (s14 : ((jX (jsX h (jP h a0 9) ((5 + i3).toNat) i2) (jP h a0 9) 1) = 1) → 0 ≤ (((11 + (33 * ((jX (jsX h (jP h a0 9) ((5 + i3).toNat) i2) (jP h a0 9) 3) - 1))) + 9) + (3 * (jX (jsX h (jP h a0 9) ((5 + i3).toNat) i2) (jP h a0 9) (((11 + (33 * ((jX (jsX h (jP h a0 9) ((5 + i3).toNat) i2) (jP h a0 9) 3) - 1))) + 2).toNat)))) + 1)
    (s15 : ((jX (jsX h (jP h a0 9) ((5 + i3).toNat) i2) (jP h a0 9) 1) = 1) → (((11 + (33 * ((jX (jsX h (jP h a0 9) ((5 + i3).toNat) i2) (jP h a0 9) 3) - 1))) + 9) + (3 * (jX (jsX h (jP h a0 9) ((5 + i3).toNat) i2) (jP h a0 9) (((11 + (33 * ((jX (jsX h (jP h a0 9) ((5 + i3).toNat) i2) (jP h a0 9) 3) - 1))) + 2).toNat)))) + 1 < ((jS h (jP h a0 9)).2 : Int))
    (r8 : ((jX (jsX h (jP h a0 9) ((5 + i3).toNat) i2) (jP h a0 9) 1) = 1) → jR ((((11 + (33 * ((jX (jsX h (jP h a0 9) ((5 + i3).toNat) i2) (jP h a0 9) 3) - 1))) + 9) + (3 * (jX (jsX h (jP h a0 9) ((5 + i3).toNat) i2) (jP h a0 9) (((11 + (33 * ((jX (jsX h (jP h a0 9) ((5 + i3).toNat) i2) (jP h a0 9) 3) - 1))) + 2).toNat)))) + 2))
    (s16 : ((jX (jsX h (jP h a0 9) ((5 + i3).toNat) i2) (jP h a0 9) 1) = 1) → 0 ≤ (((11 + (33 * ((jX (jsX h (jP h a0 9) ((5 + i3).toNat) i2) (jP h a0 9) 3) - 1))) + 9) + (3 * (jX (jsX h (jP h a0 9) ((5 + i3).toNat) i2) (jP h a0 9) (((11 + (33 * ((jX (jsX h (jP h a0 9) ((5 + i3).toNat) i2) (jP h a0 9) 3) - 1))) + 2).toNat)))) + 2)
    (s17 : ((jX (jsX h (jP h a0 9) ((5 + i3).toNat) i2) (jP h a0 9) 1) = 1) → (((11 + (33 * ((jX (jsX h (jP h a0 9) ((5 + i3).toNat) i2) (jP h a0 9) 3) - 1))) + 9) + (3 * (jX (jsX h (jP h a0 9) ((5 + i3).toNat) i2) (jP h a0 9) (((11 + (33 * ((jX (jsX h (jP h a0 9) ((5 + i3).toNat) i2) (jP h a0 9) 3) - 1))) + 2).toNat)))) + 2 < ((jS h (jP h a0 9)).2 : Int))
    (r9 : ((jX (jsX h (jP h a0 9) ((5 + i3).toNat) i2) (jP h a0 9) 1) = 1) → jR ((11 + (33 * ((jX (jsX h (jP h a0 9) ((5 + i3).toNat) i2) (jP h a0 9) 3) - 1))) + 2))
    (r10 : ((jX (jsX h (jP h a0 9) ((5 + i3).toNat) i2) (jP h a0 9) 1) = 1) → jR ((jX (jsX (jsX (jsX (jsX h (jP h a0 9) ((5 + i3).toNat) i2) (jP h a0 9) ((((11 + (33 * ((jX (jsX h (jP h a0 9) ((5 + i3).toNat) i2) (jP h a0 9) 3) - 1))) + 9) + (3 * (jX (jsX h (jP h a0 9) ((5 + i3).toNat) i2) (jP h a0 9) (((11 + (33 * ((jX (jsX h (jP h a0 9) ((5 + i3).toNat) i2) (jP h a0 9) 3) - 1))) + 2).toNat)))).toNat) (jX (jsX h (jP h a0 9) ((5 + i3).toNat) i2) (jP h a0 9) 0)) (jP h a0 9) (((((11 + (33 * ((jX (jsX h (jP h a0 9) ((5 + i3).toNat) i2) (jP h a0 9) 3) - 1))) + 9) + (3 * (jX (jsX h (jP h a0 9) ((5 + i3).toNat) i2) (jP h a0 9) (((11 + (33 * ((jX (jsX h (jP h a0 9) ((5 + i3).toNat) i2) (jP h a0 9) 3) - 1))) + 2).toNat)))) + 1).toNat) i3) (jP h a0 9) (((((11 + (33 * ((jX (jsX h (jP h a0 9) ((5 + i3).toNat) i2) (jP h a0 9) 3) - 1))) + 9) + (3 * (jX (jsX h (jP h a0 9) ((5 + i3).toNat) i2) (jP h a0 9) (((11 + (33 * ((jX (jsX h (jP h a0 9) ((5 + i3).toNat) i2) (jP h a0 9) 3) - 1))) + 2).toNat)))) + 2).toNat) i2) (jP h a0 9) (((11 + (33 * ((jX (jsX h (jP h a0 9) ((5 + i3).toNat) i2) (jP h a0 9) 3) - 1))) + 2).toNat)) + 1))
    (q2 : ((jX (jsX h (jP h a0 9) ((5 + i3).toNat) i2) (jP h a0 9) 1) = 1) → Q (some (.inl (jX (jsX (jsX (jsX (jsX (jsX h (jP h a0 9) ((5 + i3).toNat) i2) (jP h a0 9) ((((11 + (33 * ((jX (jsX h (jP h a0 9) ((5 + i3).toNat) i2) (jP h a0 9) 3) - 1))) + 9) + (3 * (jX (jsX h (jP h a0 9) ((5 + i3).toNat) i2) (jP h a0 9) (((11 + (33 * ((jX (jsX h (jP h a0 9) ((5 + i3).toNat) i2) (jP h a0 9) 3) - 1))) + 2).toNat)))).toNat) (jX (jsX h (jP h a0 9) ((5 + i3).toNat) i2) (jP h a0 9) 0)) (jP h a0 9) (((((11 + (33 * ((jX (jsX h (jP h a0 9) ((5 + i3).toNat) i2) (jP h a0 9) 3) - 1))) + 9) + (3 * (jX (jsX h (jP h a0 9) ((5 + i3).toNat) i2) (jP h a0 9) (((11 + (33 * ((jX (jsX h (jP h a0 9) ((5 + i3).toNat) i2) (jP h a0 9) 3) - 1))) + 2).toNat)))) + 1).toNat) i3) (jP h a0 9) (((((11 + (33 * ((jX (jsX h (jP h a0 9) ((5 + i3).toNat) i2) (jP h a0 9) 3) - 1))) + 9) + (3 * (jX (jsX h (jP h a0 9) ((5 + i3).toNat) i2) (jP h a0 9) (((11 + (33 * ((jX (jsX h (jP h a0 9) ((5 + i3).toNat) i2) (jP h a0 9) 3) - 1))) + 2).toNat)))) + 2).toNat) i2) (jP h a0 9) (((11 + (33 * ((jX (jsX h (jP h a0 9) ((5 + i3).toNat) i2) (jP h a0 9) 3) - 1))) + 2).toNat) ((jX (jsX (jsX (jsX (jsX h (jP h a0 9) ((5 + i3).toNat) i2) (jP h a0 9) ((((11 + (33 * ((jX (jsX h (jP h a0 9) ((5 + i3).toNat) i2) (jP h a0 9) 3) - 1))) + 9) + (3 * (jX (jsX h (jP h a0 9) ((5 + i3).toNat) i2) (jP h a0 9) (((11 + (33 * ((jX (jsX h (jP h a0 9) ((5 + i3).toNat) i2) (jP h a0 9) 3) - 1))) + 2).toNat)))).toNat) (jX (jsX h (jP h a0 9) ((5 + i3).toNat) i2) (jP h a0 9) 0)) (jP h a0 9) (((((11 + (33 * ((jX (jsX h (jP h a0 9) ((5 + i3).toNat) i2) (jP h a0 9) 3) - 1))) + 9) + (3 * (jX (jsX h (jP h a0 9) ((5 + i3).toNat) i2) (jP h a0 9) (((11 + (33 * ((jX (jsX h (jP h a0 9) ((5 + i3).toNat) i2) (jP h a0 9) 3) - 1))) + 2).toNat)))) + 1).toNat) i3) (jP h a0 9) (((((11 + (33 * ((jX (jsX h (jP h a0 9) ((5 + i3).toNat) i2) (jP h a0 9) 3) - 1))) + 9) + (3 * (jX (jsX h (jP h a0 9) ((5 + i3).toNat) i2) (jP h a0 9) (((11 + (33 * ((jX (jsX h (jP h a0 9) ((5 + i3).toNat) i2) (jP h a0 9) 3) - 1))) + 2).toNat)))) + 2).toNat) i2) (jP h a0 9) (((11 + (33 * ((jX (jsX h (jP h a0 9) ((5 + i3).toNat) i2) (jP h a0 9) 3) - 1))) + 2).toNat)) + 1)) (jP h a0 9) 1))) (jsX (jsX (jsX (jsX (jsX h (jP h a0 9) ((5 + i3).toNat) i2) (jP h a0 9) ((((11 + (33 * ((jX (jsX h (jP h a0 9) ((5 + i3).toNat) i2) (jP h a0 9) 3) - 1))) + 9) + (3 * (jX (jsX h (jP h a0 9) ((5 + i3).toNat) i2) (jP h a0 9) (((11 + (33 * ((jX (jsX h (jP h a0 9) ((5 + i3).toNat) i2) (jP h a0 9) 3) - 1))) + 2).toNat)))).toNat) (jX (jsX h (jP h a0 9) ((5 + i3).toNat) i2) (jP h a0 9) 0)) (jP h a0 9) (((((11 + (33 * ((jX (jsX h (jP h a0 9) ((5 + i3).toNat) i2) (jP h a0 9) 3) - 1))) + 9) + (3 * (jX (jsX h (jP h a0 9) ((5 + i3).toNat) i2) (jP h a0 9) (((11 + (33 * ((jX (jsX h (jP h a0 9) ((5 + i3).toNat) i2) (jP h a0 9) 3) - 1))) + 2).toNat)))) + 1).toNat) i3) (jP h a0 9) (((((11 + (33 * ((jX (jsX h (jP h a0 9) ((5 + i3).toNat) i2) (jP h a0 9) 3) - 1))) + 9) + (3 * (jX (jsX h (jP h a0 9) ((5 + i3).toNat) i2) (jP h a0 9) (((11 + (33 * ((jX (jsX h (jP h a0 9) ((5 + i3).toNat) i2) (jP h a0 9) 3) - 1))) + 2).toNat)))) + 2).toNat) i2) (jP h a0 9) (((11 + (33 * ((jX (jsX h (jP h a0 9) ((5 + i3).toNat) i2) (jP h a0 9) 3) - 1))) + 2).toNat) ((jX (jsX (jsX (jsX (jsX h (jP h a0 9) ((5 + i3).toNat) i2) (jP h a0 9) ((((11 + (33 * ((jX (jsX h (jP h a0 9) ((5 + i3).toNat) i2) (jP h a0 9) 3) - 1))) + 9) + (3 * (jX (jsX h (jP h a0 9) ((5 + i3).toNat) i2) (jP h a0 9) (((11 + (33 * ((jX (jsX h (jP h a0 9) ((5 + i3).toNat) i2) (jP h a0 9) 3) - 1))) + 2).toNat)))).toNat) (jX (jsX h (jP h a0 9) ((5 + i3).toNat) i2) (jP h a0 9) 0)) (jP h a0 9) (((((11 + (33 * ((jX (jsX h (jP h a0 9) ((5 + i3).toNat) i2) (jP h a0 9) 3) - 1))) + 9) + (3 * (jX (jsX h (jP h a0 9) ((5 + i3).toNat) i2) (jP h a0 9) (((11 + (33 * ((jX (jsX h (jP h a0 9) ((5 + i3).toNat) i2) (jP h a0 9) 3) - 1))) + 2).toNat)))) + 1).toNat) i3) (jP h a0 9) (((((11 + (33 * ((jX (jsX h (jP h a0 9) ((5 + i3).toNat) i2) (jP h a0 9) 3) - 1))) + 9) + (3 * (jX (jsX h (jP h a0 9) ((5 + i3).toNat) i2) (jP h a0 9) (((11 + (33 * ((jX (jsX h (jP h a0 9) ((5 + i3).toNat) i2) (jP h a0 9) 3) - 1))) + 2).toNat)))) + 2).toNat) i2) (jP h a0 9) (((11 + (33 * ((jX (jsX h (jP h a0 9) ((5 + i3).toNat) i2) (jP h a0 9) 3) - 1))) + 2).toNat)) + 1))) :
    V MX9_sets (d + 3) 95 [some (.inr a0), some (.inl i1), some (.inl i2), some (.inl i3), u4, u5] [] h 0 0 Q := by
  refine V_aload_n (i := 0) dX9_sets_95 rfl rfl ?_
  refine V_getP dX9_sets_96 fX9_25 rfl s1 ?_
  refine V_iconst dX9_sets_99 ⟨by decide, by decide⟩ ?_
  refine V_iload_n (i := 3) dX9_sets_100 rfl rfl ?_
  refine V_iadd dX9_sets_101 r1 ?_
  refine V_iload_n (i := 2) dX9_sets_102 rfl rfl ?_
  refine V_iast dX9_sets_103 s2 s3 s4 ?_
  refine V_aload_n (i := 0) dX9_sets_104 rfl rfl ?_
  refine V_getP dX9_sets_105 fX9_25 rfl s1 ?_
  refine V_iconst dX9_sets_108 ⟨by decide, by decide⟩ ?_
  refine V_iald dX9_sets_109 s2 (by decide) s5 ?_
  refine V_iconst dX9_sets_110 ⟨by decide, by decide⟩ ?_
  refine V_icmp_ne (tgt := 192) dX9_sets_111 (by decide) (fun c1 => ?_) (fun c1 => ?_)
  · refine V_aload_n (i := 0) dX9_sets_192 rfl rfl ?_
    refine V_getP dX9_sets_193 fX9_25 rfl s1 ?_
    refine V_iconst dX9_sets_196 ⟨by decide, by decide⟩ ?_
    refine V_iald dX9_sets_197 s2 (by decide) s5 ?_
    exact V_reti rfl dX9_sets_198 (q1 c1)
  · refine V_aload_n (i := 0) dX9_sets_114 rfl rfl ?_
    refine V_getP dX9_sets_115 fX9_25 rfl s1 ?_
    refine V_iconst dX9_sets_118 ⟨by decide, by decide⟩ ?_
    refine V_iald dX9_sets_119 s2 (by decide) (s6 c1) ?_
    refine V_iconst dX9_sets_120 ⟨by decide, by decide⟩ ?_
    refine V_isub dX9_sets_121 (r2 c1) ?_
    refine V_callS (M := MX9_sets) (d := (d + 3)) (mc' := 0) (ms' := 0) (mc := 0) (ms := 0) (a := 0) (As := [.inl ((jX (jsX h (jP h a0 9) ((5 + i3).toNat) i2) (jP h a0 9) 3) - 1)]) (rest := []) dX9_sets_122 tX9_block0 sX9_block0 lX9_256 rfl rfl (Nat.le_of_ble_eq_true rfl) (show d + 1 ≤ (d + 3) by omega) (Ex.mono (pX9_block0 (d := d) (s7 c1) (s8 c1)) ?_)
    intro v h2 hq
    rw [hq.1, hq.2]
    show V MX9_sets (d + 3) 125 [some (.inr a0), some (.inl i1), some (.inl i2), some (.inl i3), u4, u5] [.inl (11 + (33 * ((jX (jsX h (jP h a0 9) ((5 + i3).toNat) i2) (jP h a0 9) 3) - 1)))] (jsX h (jP h a0 9) ((5 + i3).toNat) i2) 0 0 Q
    refine V_istore (i := 4) dX9_sets_125 (by decide) ?_
    refine V_iload (i := 4) dX9_sets_127 rfl ?_
    refine V_bipush dX9_sets_129 (by decide +kernel) ⟨by decide, by decide⟩ ?_
    refine V_iadd dX9_sets_131 (r3 c1) ?_
    refine V_iconst dX9_sets_132 ⟨by decide, by decide⟩ ?_
    refine V_aload_n (i := 0) dX9_sets_133 rfl rfl ?_
    refine V_getP dX9_sets_134 fX9_25 rfl s1 ?_
    refine V_iload (i := 4) dX9_sets_137 rfl ?_
    refine V_iconst dX9_sets_139 ⟨by decide, by decide⟩ ?_
    refine V_iadd dX9_sets_140 (r4 c1) ?_
    refine V_iald dX9_sets_141 s2 (s9 c1) (s10 c1) ?_
    refine V_imul dX9_sets_142 (r5 c1) ?_
    refine V_iadd dX9_sets_143 (r6 c1) ?_
    refine V_istore (i := 5) dX9_sets_144 (by decide) ?_
    refine V_aload_n (i := 0) dX9_sets_146 rfl rfl ?_
    refine V_getP dX9_sets_147 fX9_25 rfl s1 ?_
    refine V_iload (i := 5) dX9_sets_150 rfl ?_
    refine V_aload_n (i := 0) dX9_sets_152 rfl rfl ?_
    refine V_getP dX9_sets_153 fX9_25 rfl s1 ?_
    refine V_iconst dX9_sets_156 ⟨by decide, by decide⟩ ?_
    refine V_iald dX9_sets_157 s2 (by decide) (s11 c1) ?_
    refine V_iast dX9_sets_158 s2 (s12 c1) (s13 c1) ?_
    refine V_aload_n (i := 0) dX9_sets_159 rfl rfl ?_
    refine V_getP dX9_sets_160 fX9_25 rfl s1 ?_
    refine V_iload (i := 5) dX9_sets_163 rfl ?_
    refine V_iconst dX9_sets_165 ⟨by decide, by decide⟩ ?_
    refine V_iadd dX9_sets_166 (r7 c1) ?_
    refine V_iload_n (i := 3) dX9_sets_167 rfl rfl ?_
    refine V_iast dX9_sets_168 s2 (s14 c1) (s15 c1) ?_
    refine V_aload_n (i := 0) dX9_sets_169 rfl rfl ?_
    refine V_getP dX9_sets_170 fX9_25 rfl s1 ?_
    refine V_iload (i := 5) dX9_sets_173 rfl ?_
    refine V_iconst dX9_sets_175 ⟨by decide, by decide⟩ ?_
    refine V_iadd dX9_sets_176 (r8 c1) ?_
    refine V_iload_n (i := 2) dX9_sets_177 rfl rfl ?_
    refine V_iast dX9_sets_178 s2 (s16 c1) (s17 c1) ?_
    refine V_aload_n (i := 0) dX9_sets_179 rfl rfl ?_
    refine V_getP dX9_sets_180 fX9_25 rfl s1 ?_
    refine V_iload (i := 4) dX9_sets_183 rfl ?_
    refine V_iconst dX9_sets_185 ⟨by decide, by decide⟩ ?_
    refine V_iadd dX9_sets_186 (r9 c1) ?_
    refine V_dup2 dX9_sets_187 ?_
    refine V_iald dX9_sets_188 s2 (s9 c1) (s10 c1) ?_
    refine V_iconst dX9_sets_189 ⟨by decide, by decide⟩ ?_
    refine V_iadd dX9_sets_190 (r10 c1) ?_
    refine V_iast dX9_sets_191 s2 (s9 c1) (s10 c1) ?_
    refine V_aload_n (i := 0) dX9_sets_192 rfl rfl ?_
    refine V_getP dX9_sets_193 fX9_25 rfl s1 ?_
    refine V_iconst dX9_sets_196 ⟨by decide, by decide⟩ ?_
    refine V_iald dX9_sets_197 s2 (by decide) s5 ?_
    exact V_reti rfl dX9_sets_198 (q2 c1)
theorem dX9_passes__0 : decode cX9_passes_ 0 = .ok (.iload_n 1, 1) := by decide +kernel
theorem dX9_passes__1 : decode cX9_passes_ 1 = .ok (.iconst 1, 1) := by decide +kernel
theorem dX9_passes__2 : decode cX9_passes_ 2 = .ok (.bipush 99, 2) := by decide +kernel
theorem dX9_passes__4 : decode cX9_passes_ 4 = .ok (.invokestatic 95, 3) := by decide +kernel
theorem dX9_passes__7 : decode cX9_passes_ 7 = .ok (.ifCond .ne 5, 3) := by decide +kernel
theorem dX9_passes__10 : decode cX9_passes_ 10 = .ok (.iconst (-1), 1) := by decide +kernel
theorem dX9_passes__11 : decode cX9_passes_ 11 = .ok (.ireturn, 1) := by decide +kernel
theorem dX9_passes__12 : decode cX9_passes_ 12 = .ok (.aload_n 0, 1) := by decide +kernel
theorem dX9_passes__13 : decode cX9_passes_ 13 = .ok (.getfield 25, 3) := by decide +kernel
theorem dX9_passes__16 : decode cX9_passes_ 16 = .ok (.iconst 0, 1) := by decide +kernel
theorem dX9_passes__17 : decode cX9_passes_ 17 = .ok (.iaload, 1) := by decide +kernel
theorem dX9_passes__18 : decode cX9_passes_ 18 = .ok (.iload_n 1, 1) := by decide +kernel
theorem dX9_passes__19 : decode cX9_passes_ 19 = .ok (.iadd, 1) := by decide +kernel
theorem dX9_passes__20 : decode cX9_passes_ 20 = .ok (.sipush 999, 3) := by decide +kernel
theorem dX9_passes__23 : decode cX9_passes_ 23 = .ok (.if_icmp .le 6, 3) := by decide +kernel
theorem dX9_passes__26 : decode cX9_passes_ 26 = .ok (.bipush (-2), 2) := by decide +kernel
theorem dX9_passes__28 : decode cX9_passes_ 28 = .ok (.ireturn, 1) := by decide +kernel
theorem dX9_passes__29 : decode cX9_passes_ 29 = .ok (.aload_n 0, 1) := by decide +kernel
theorem dX9_passes__30 : decode cX9_passes_ 30 = .ok (.invokevirtual 262, 3) := by decide +kernel
theorem dX9_passes__33 : decode cX9_passes_ 33 = .ok (.aload_n 0, 1) := by decide +kernel
theorem dX9_passes__34 : decode cX9_passes_ 34 = .ok (.getfield 25, 3) := by decide +kernel
theorem dX9_passes__37 : decode cX9_passes_ 37 = .ok (.iconst 0, 1) := by decide +kernel
theorem dX9_passes__38 : decode cX9_passes_ 38 = .ok (.dup2, 1) := by decide +kernel
theorem dX9_passes__39 : decode cX9_passes_ 39 = .ok (.iaload, 1) := by decide +kernel
theorem dX9_passes__40 : decode cX9_passes_ 40 = .ok (.iload_n 1, 1) := by decide +kernel
theorem dX9_passes__41 : decode cX9_passes_ 41 = .ok (.iadd, 1) := by decide +kernel
theorem dX9_passes__42 : decode cX9_passes_ 42 = .ok (.iastore, 1) := by decide +kernel
theorem dX9_passes__43 : decode cX9_passes_ 43 = .ok (.aload_n 0, 1) := by decide +kernel
theorem dX9_passes__44 : decode cX9_passes_ 44 = .ok (.getfield 25, 3) := by decide +kernel
theorem dX9_passes__47 : decode cX9_passes_ 47 = .ok (.iconst 0, 1) := by decide +kernel
theorem dX9_passes__48 : decode cX9_passes_ 48 = .ok (.iaload, 1) := by decide +kernel
theorem dX9_passes__49 : decode cX9_passes_ 49 = .ok (.ireturn, 1) := by decide +kernel
theorem bX9_passes__0 {d : Nat} {Q : Option jA → jH → Prop} (a0 : Nat) (i1 : Int) (h : jH)
    (s1 : (jS h a0).1 = 9)
    (s2 : (jS h (jP h a0 9)).1 = 16)
    (s3 : (1 ≤ i1 ∧ i1 ≤ 99) → 0 < ((jS h (jP h a0 9)).2 : Int))
    (r1 : (1 ≤ i1 ∧ i1 ≤ 99) → jR ((jX h (jP h a0 9) 0) + i1))
    (e1 : (1 ≤ i1 ∧ i1 ≤ 99) → (((jX h (jP h a0 9) 0) + i1) ≤ 999) → Ex MX9_notes d [.inr a0] h 0 0 (fun v h2 => V MX9_passes_ (d + 1) 33 [some (.inr a0), some (.inl i1)] (v.toList ++ []) h2 0 0 Q))
    (q1 : (1 ≤ i1 ∧ i1 ≤ 99) → (¬ (((jX h (jP h a0 9) 0) + i1) ≤ 999)) → Q (some (.inl ((-2)))) h)
    (q2 : (¬ (1 ≤ i1 ∧ i1 ≤ 99)) → Q (some (.inl ((-1)))) h) :
    V MX9_passes_ (d + 1) 0 [some (.inr a0), some (.inl i1)] [] h 0 0 Q := by
  refine V_iload_n (i := 1) dX9_passes__0 rfl rfl ?_
  refine V_iconst dX9_passes__1 ⟨by decide, by decide⟩ ?_
  refine V_bipush dX9_passes__2 (by decide +kernel) ⟨by decide, by decide⟩ ?_
  refine V_callS (M := MX9_passes_) (d := (d + 1)) (mc' := 0) (ms' := 0) (mc := 0) (ms := 0) (a := 0) (As := [.inl i1, .inl 1, .inl 99]) (rest := []) dX9_passes__4 tX9_in sX9_in lX9_95 rfl rfl (Nat.le_of_ble_eq_true rfl) (show d + 1 ≤ (d + 1) by omega) (Ex.mono (pX9_in (d := d) ) ?_)
  intro v h2 hq
  rw [hq.1, hq.2]
  show V MX9_passes_ (d + 1) 7 [some (.inr a0), some (.inl i1)] [.inl (jb (1 ≤ i1 ∧ i1 ≤ 99))] h 0 0 Q
  refine V_ifb_ne (tgt := 12) dX9_passes__7 (by decide) (fun c1 => ?_) (fun c1 => ?_)
  · refine V_aload_n (i := 0) dX9_passes__12 rfl rfl ?_
    refine V_getP dX9_passes__13 fX9_25 rfl s1 ?_
    refine V_iconst dX9_passes__16 ⟨by decide, by decide⟩ ?_
    refine V_iald dX9_passes__17 s2 (by decide) (s3 c1) ?_
    refine V_iload_n (i := 1) dX9_passes__18 rfl rfl ?_
    refine V_iadd dX9_passes__19 (r1 c1) ?_
    refine V_sipush dX9_passes__20 (by decide +kernel) ⟨by decide, by decide⟩ ?_
    refine V_icmp_le (tgt := 29) dX9_passes__23 (by decide) (fun c2 => ?_) (fun c2 => ?_)
    · refine V_aload_n (i := 0) dX9_passes__29 rfl rfl ?_
      exact V_callV (M := MX9_passes_) (d := (d + 1)) (mc' := 0) (ms' := 0) (mc := 0) (ms := 0) (As := []) (rest := []) dX9_passes__30 tX9_notes vX9_notes lX9_262 s1 ⟨by decide, rfl⟩ rfl rfl (Nat.le_of_ble_eq_true rfl) (show d + 1 ≤ (d + 1) by omega) (e1 c1 c2)
    · refine V_bipush dX9_passes__26 (by decide +kernel) ⟨by decide, by decide⟩ ?_
      exact V_reti rfl dX9_passes__28 (q1 c1 c2)
  · refine V_iconst dX9_passes__10 ⟨by decide, by decide⟩ ?_
    exact V_reti rfl dX9_passes__11 (q2 c1)
theorem bX9_passes__33 {d : Nat} {Q : Option jA → jH → Prop} (a0 : Nat) (i1 : Int) (h : jH)
    (s1 : (jS h a0).1 = 9)
    (s2 : (jS h (jP h a0 9)).1 = 16)
    (s3 : 0 < ((jS h (jP h a0 9)).2 : Int))
    (r1 : jR ((jX h (jP h a0 9) 0) + i1))
    (q1 : Q (some (.inl ((jX h (jP h a0 9) 0) + i1))) (jsX h (jP h a0 9) 0 ((jX h (jP h a0 9) 0) + i1))) :
    V MX9_passes_ (d + 1) 33 [some (.inr a0), some (.inl i1)] [] h 0 0 Q := by
  refine V_aload_n (i := 0) dX9_passes__33 rfl rfl ?_
  refine V_getP dX9_passes__34 fX9_25 rfl s1 ?_
  refine V_iconst dX9_passes__37 ⟨by decide, by decide⟩ ?_
  refine V_dup2 dX9_passes__38 ?_
  refine V_iald dX9_passes__39 s2 (by decide) s3 ?_
  refine V_iload_n (i := 1) dX9_passes__40 rfl rfl ?_
  refine V_iadd dX9_passes__41 r1 ?_
  refine V_iast dX9_passes__42 s2 (by decide) s3 ?_
  refine V_aload_n (i := 0) dX9_passes__43 rfl rfl ?_
  refine V_getP dX9_passes__44 fX9_25 rfl s1 ?_
  refine V_iconst dX9_passes__47 ⟨by decide, by decide⟩ ?_
  refine V_iald dX9_passes__48 s2 (by decide) s3 ?_
  refine V_topI (jX_at) ?_
  exact V_reti rfl dX9_passes__49 q1
