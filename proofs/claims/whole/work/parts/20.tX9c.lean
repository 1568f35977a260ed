/-! ===== SignalWavesModel 3: decode rows and trees ===== -/
theorem dX9_dumps_0 : decode cX9_dumps 0 = .ok (.iload_n 1, 1) := by decide +kernel
theorem dX9_dumps_1 : decode cX9_dumps 1 = .ok (.iconst 0, 1) := by decide +kernel
theorem dX9_dumps_2 : decode cX9_dumps 2 = .ok (.iconst 1, 1) := by decide +kernel
theorem dX9_dumps_3 : decode cX9_dumps 3 = .ok (.invokestatic 95, 3) := by decide +kernel
theorem dX9_dumps_6 : decode cX9_dumps 6 = .ok (.ifCond .ne 5, 3) := by decide +kernel
theorem dX9_dumps_9 : decode cX9_dumps 9 = .ok (.iconst (-1), 1) := by decide +kernel
theorem dX9_dumps_10 : decode cX9_dumps 10 = .ok (.ireturn, 1) := by decide +kernel
theorem dX9_dumps_11 : decode cX9_dumps 11 = .ok (.aload_n 0, 1) := by decide +kernel
theorem dX9_dumps_12 : decode cX9_dumps 12 = .ok (.getfield 25, 3) := by decide +kernel
theorem dX9_dumps_15 : decode cX9_dumps 15 = .ok (.iconst 1, 1) := by decide +kernel
theorem dX9_dumps_16 : decode cX9_dumps 16 = .ok (.iaload, 1) := by decide +kernel
theorem dX9_dumps_17 : decode cX9_dumps 17 = .ok (.iload_n 1, 1) := by decide +kernel
theorem dX9_dumps_18 : decode cX9_dumps 18 = .ok (.if_icmp .ne 6, 3) := by decide +kernel
theorem dX9_dumps_21 : decode cX9_dumps 21 = .ok (.bipush (-2), 2) := by decide +kernel
theorem dX9_dumps_23 : decode cX9_dumps 23 = .ok (.ireturn, 1) := by decide +kernel
theorem dX9_dumps_24 : decode cX9_dumps 24 = .ok (.aload_n 0, 1) := by decide +kernel
theorem dX9_dumps_25 : decode cX9_dumps 25 = .ok (.invokevirtual 262, 3) := by decide +kernel
theorem dX9_dumps_28 : decode cX9_dumps 28 = .ok (.aload_n 0, 1) := by decide +kernel
theorem dX9_dumps_29 : decode cX9_dumps 29 = .ok (.getfield 25, 3) := by decide +kernel
theorem dX9_dumps_32 : decode cX9_dumps 32 = .ok (.iconst 1, 1) := by decide +kernel
theorem dX9_dumps_33 : decode cX9_dumps 33 = .ok (.iload_n 1, 1) := by decide +kernel
theorem dX9_dumps_34 : decode cX9_dumps 34 = .ok (.iastore, 1) := by decide +kernel
theorem dX9_dumps_35 : decode cX9_dumps 35 = .ok (.iload_n 1, 1) := by decide +kernel
theorem dX9_dumps_36 : decode cX9_dumps 36 = .ok (.iconst 1, 1) := by decide +kernel
theorem dX9_dumps_37 : decode cX9_dumps 37 = .ok (.if_icmp .ne 10, 3) := by decide +kernel
theorem dX9_dumps_40 : decode cX9_dumps 40 = .ok (.aload_n 0, 1) := by decide +kernel
theorem dX9_dumps_41 : decode cX9_dumps 41 = .ok (.invokevirtual 224, 3) := by decide +kernel
theorem dX9_dumps_44 : decode cX9_dumps 44 = .ok (.goto 27, 3) := by decide +kernel
theorem dX9_dumps_47 : decode cX9_dumps 47 = .ok (.aload_n 0, 1) := by decide +kernel
theorem dX9_dumps_48 : decode cX9_dumps 48 = .ok (.getfield 25, 3) := by decide +kernel
theorem dX9_dumps_51 : decode cX9_dumps 51 = .ok (.aload_n 0, 1) := by decide +kernel
theorem dX9_dumps_52 : decode cX9_dumps 52 = .ok (.getfield 25, 3) := by decide +kernel
theorem dX9_dumps_55 : decode cX9_dumps 55 = .ok (.iconst 3, 1) := by decide +kernel
theorem dX9_dumps_56 : decode cX9_dumps 56 = .ok (.iaload, 1) := by decide +kernel
theorem dX9_dumps_57 : decode cX9_dumps 57 = .ok (.iconst 1, 1) := by decide +kernel
theorem dX9_dumps_58 : decode cX9_dumps 58 = .ok (.isub, 1) := by decide +kernel
theorem dX9_dumps_59 : decode cX9_dumps 59 = .ok (.invokestatic 256, 3) := by decide +kernel
theorem dX9_dumps_62 : decode cX9_dumps 62 = .ok (.iconst 1, 1) := by decide +kernel
theorem dX9_dumps_63 : decode cX9_dumps 63 = .ok (.iadd, 1) := by decide +kernel
theorem dX9_dumps_64 : decode cX9_dumps 64 = .ok (.aload_n 0, 1) := by decide +kernel
theorem dX9_dumps_65 : decode cX9_dumps 65 = .ok (.getfield 25, 3) := by decide +kernel
theorem dX9_dumps_68 : decode cX9_dumps 68 = .ok (.iconst 0, 1) := by decide +kernel
theorem dX9_dumps_69 : decode cX9_dumps 69 = .ok (.iaload, 1) := by decide +kernel
theorem dX9_dumps_70 : decode cX9_dumps 70 = .ok (.iastore, 1) := by decide +kernel
theorem dX9_dumps_71 : decode cX9_dumps 71 = .ok (.aload_n 0, 1) := by decide +kernel
theorem dX9_dumps_72 : decode cX9_dumps 72 = .ok (.getfield 25, 3) := by decide +kernel
theorem dX9_dumps_75 : decode cX9_dumps 75 = .ok (.iconst 3, 1) := by decide +kernel
theorem dX9_dumps_76 : decode cX9_dumps 76 = .ok (.iaload, 1) := by decide +kernel
theorem dX9_dumps_77 : decode cX9_dumps 77 = .ok (.ireturn, 1) := by decide +kernel
theorem bX9_dumps_0 {d : Nat} {Q : Option jA → jH → Prop} (a0 : Nat) (i1 : Int) (h : jH)
    (s1 : (jS h a0).1 = 9)
    (s2 : (jS h (jP h a0 9)).1 = 16)
    (s3 : (0 ≤ i1 ∧ i1 ≤ 1) → 1 < ((jS h (jP h a0 9)).2 : Int))
    (e1 : (0 ≤ i1 ∧ i1 ≤ 1) → ((jX h (jP h a0 9) 1) ≠ i1) → Ex MX9_notes d [.inr a0] h 0 0 (fun v h2 => V MX9_dumps (d + 2) 28 [some (.inr a0), some (.inl i1)] (v.toList ++ []) h2 0 0 Q))
    (q1 : (0 ≤ i1 ∧ i1 ≤ 1) → ((jX h (jP h a0 9) 1) = i1) → Q (some (.inl ((-2)))) h)
    (q2 : (¬ (0 ≤ i1 ∧ i1 ≤ 1)) → Q (some (.inl ((-1)))) h) :
    V MX9_dumps (d + 2) 0 [some (.inr a0), some (.inl i1)] [] h 0 0 Q := by
  refine V_iload_n (i := 1) dX9_dumps_0 rfl rfl ?_
  refine V_iconst dX9_dumps_1 ⟨by decide, by decide⟩ ?_
  refine V_iconst dX9_dumps_2 ⟨by decide, by decide⟩ ?_
  refine V_callS (M := MX9_dumps) (d := (d + 2)) (mc' := 0) (ms' := 0) (mc := 0) (ms := 0) (a := 0) (As := [.inl i1, .inl 0, .inl 1]) (rest := []) dX9_dumps_3 tX9_in sX9_in lX9_95 rfl rfl (Nat.le_of_ble_eq_true rfl) (show d + 1 ≤ (d + 2) by omega) (Ex.mono (pX9_in (d := d) ) ?_)
  intro v h2 hq
  rw [hq.1, hq.2]
  show V MX9_dumps (d + 2) 6 [some (.inr a0), some (.inl i1)] [.inl (jb (0 ≤ i1 ∧ i1 ≤ 1))] h 0 0 Q
  refine V_ifb_ne (tgt := 11) dX9_dumps_6 (by decide) (fun c1 => ?_) (fun c1 => ?_)
  · refine V_aload_n (i := 0) dX9_dumps_11 rfl rfl ?_
    refine V_getP dX9_dumps_12 fX9_25 rfl s1 ?_
    refine V_iconst dX9_dumps_15 ⟨by decide, by decide⟩ ?_
    refine V_iald dX9_dumps_16 s2 (by decide) (s3 c1) ?_
    refine V_iload_n (i := 1) dX9_dumps_17 rfl rfl ?_
    refine V_icmp_ne (tgt := 24) dX9_dumps_18 (by decide) (fun c2 => ?_) (fun c2 => ?_)
    · refine V_aload_n (i := 0) dX9_dumps_24 rfl rfl ?_
      exact V_callV (M := MX9_dumps) (d := (d + 2)) (mc' := 0) (ms' := 0) (mc := 0) (ms := 0) (As := []) (rest := []) dX9_dumps_25 tX9_notes vX9_notes lX9_262 s1 ⟨by decide, rfl⟩ rfl rfl (Nat.le_of_ble_eq_true rfl) (show d + 1 ≤ (d + 2) by omega) (e1 c1 c2)
    · refine V_bipush dX9_dumps_21 (by decide +kernel) ⟨by decide, by decide⟩ ?_
      exact V_reti rfl dX9_dumps_23 (q1 c1 c2)
  · refine V_iconst dX9_dumps_9 ⟨by decide, by decide⟩ ?_
    exact V_reti rfl dX9_dumps_10 (q2 c1)
theorem bX9_dumps_28 {d : Nat} {Q : Option jA → jH → Prop} (a0 : Nat) (i1 : Int) (h : jH)
    (s1 : (jS h a0).1 = 9)
    (s2 : (jS h (jP h a0 9)).1 = 16)
    (s3 : 1 < ((jS h (jP h a0 9)).2 : Int))
    (s4 : (i1 ≠ 1) → 3 < ((jS h (jP h a0 9)).2 : Int))
    (r1 : (i1 ≠ 1) → jR ((jX h (jP h a0 9) 3) - 1))
    (s5 : (i1 ≠ 1) → 0 ≤ ((jX h (jP h a0 9) 3) - 1))
    (s6 : (i1 ≠ 1) → ((jX h (jP h a0 9) 3) - 1) ≤ 6)
    (r2 : (i1 ≠ 1) → jR ((11 + (33 * ((jX h (jP h a0 9) 3) - 1))) + 1))
    (s7 : (i1 ≠ 1) → 0 < ((jS h (jP h a0 9)).2 : Int))
    (s8 : (i1 ≠ 1) → 0 ≤ (11 + (33 * ((jX h (jP h a0 9) 3) - 1))) + 1)
    (s9 : (i1 ≠ 1) → (11 + (33 * ((jX h (jP h a0 9) 3) - 1))) + 1 < ((jS h (jP h a0 9)).2 : Int))
    (q1 : (i1 ≠ 1) → Q (some (.inl (jX (jsX (jsX h (jP h a0 9) 1 i1) (jP h a0 9) (((11 + (33 * ((jX h (jP h a0 9) 3) - 1))) + 1).toNat) (jX h (jP h a0 9) 0)) (jP h a0 9) 3))) (jsX (jsX h (jP h a0 9) 1 i1) (jP h a0 9) (((11 + (33 * ((jX h (jP h a0 9) 3) - 1))) + 1).toNat) (jX h (jP h a0 9) 0)))
    (e1 : (i1 = 1) → Ex MX9_blockBegins (d + 1) [.inr a0] (jsX h (jP h a0 9) 1 i1) 0 0 (fun v h2 => V MX9_dumps (d + 2) 44 [some (.inr a0), some (.inl i1)] (v.toList ++ []) h2 0 0 Q)) :
    V MX9_dumps (d + 2) 28 [some (.inr a0), some (.inl i1)] [] h 0 0 Q := by
  refine V_aload_n (i := 0) dX9_dumps_28 rfl rfl ?_
  refine V_getP dX9_dumps_29 fX9_25 rfl s1 ?_
  refine V_iconst dX9_dumps_32 ⟨by decide, by decide⟩ ?_
  refine V_iload_n (i := 1) dX9_dumps_33 rfl rfl ?_
  refine V_iast dX9_dumps_34 s2 (by decide) s3 ?_
  refine V_iload_n (i := 1) dX9_dumps_35 rfl rfl ?_
  refine V_iconst dX9_dumps_36 ⟨by decide, by decide⟩ ?_
  refine V_icmp_ne (tgt := 47) dX9_dumps_37 (by decide) (fun c1 => ?_) (fun c1 => ?_)
  · refine V_aload_n (i := 0) dX9_dumps_47 rfl rfl ?_
    refine V_getP dX9_dumps_48 fX9_25 rfl s1 ?_
    refine V_aload_n (i := 0) dX9_dumps_51 rfl rfl ?_
    refine V_getP dX9_dumps_52 fX9_25 rfl s1 ?_
    refine V_iconst dX9_dumps_55 ⟨by decide, by decide⟩ ?_
    refine V_iald dX9_dumps_56 s2 (by decide) (s4 c1) ?_
    refine V_topI (jX_ne (by decide)) ?_
    refine V_iconst dX9_dumps_57 ⟨by decide, by decide⟩ ?_
    refine V_isub dX9_dumps_58 (r1 c1) ?_
    refine V_callS (M := MX9_dumps) (d := (d + 2)) (mc' := 0) (ms' := 0) (mc := 0) (ms := 0) (a := 0) (As := [.inl ((jX h (jP h a0 9) 3) - 1)]) (rest := [.inr (jP h a0 9)]) dX9_dumps_59 tX9_block0 sX9_block0 lX9_256 rfl rfl (Nat.le_of_ble_eq_true rfl) (show d + 1 ≤ (d + 2) by omega) (Ex.mono (pX9_block0 (d := d) (s5 c1) (s6 c1)) ?_)
    intro v h2 hq
    rw [hq.1, hq.2]
    show V MX9_dumps (d + 2) 62 [some (.inr a0), some (.inl i1)] [.inl (11 + (33 * ((jX h (jP h a0 9) 3) - 1))), .inr (jP h a0 9)] (jsX h (jP h a0 9) 1 i1) 0 0 Q
    refine V_iconst dX9_dumps_62 ⟨by decide, by decide⟩ ?_
    refine V_iadd dX9_dumps_63 (r2 c1) ?_
    refine V_aload_n (i := 0) dX9_dumps_64 rfl rfl ?_
    refine V_getP dX9_dumps_65 fX9_25 rfl s1 ?_
    refine V_iconst dX9_dumps_68 ⟨by decide, by decide⟩ ?_
    refine V_iald dX9_dumps_69 s2 (by decide) (s7 c1) ?_
    refine V_topI (jX_ne (by decide)) ?_
    refine V_iast dX9_dumps_70 s2 (s8 c1) (s9 c1) ?_
    refine V_aload_n (i := 0) dX9_dumps_71 rfl rfl ?_
    refine V_getP dX9_dumps_72 fX9_25 rfl s1 ?_
    refine V_iconst dX9_dumps_75 ⟨by decide, by decide⟩ ?_
    refine V_iald dX9_dumps_76 s2 (by decide) (s4 c1) ?_
    exact V_reti rfl dX9_dumps_77 (q1 c1)
  · refine V_aload_n (i := 0) dX9_dumps_40 rfl rfl ?_
    exact V_callV (M := MX9_dumps) (d := (d + 2)) (mc' := 0) (ms' := 0) (mc := 0) (ms := 0) (As := []) (rest := []) dX9_dumps_41 tX9_blockBegins vX9_blockBegins lX9_224 s1 ⟨by decide, rfl⟩ rfl rfl (Nat.le_of_ble_eq_true rfl) (show (d + 1) + 1 ≤ (d + 2) by omega) (e1 c1)
theorem bX9_dumps_44 {d : Nat} {Q : Option jA → jH → Prop} (a0 : Nat) (i1 : Int) (h : jH)
    (s1 : (jS h a0).1 = 9)
    (s2 : (jS h (jP h a0 9)).1 = 16)
    (s3 : 3 < ((jS h (jP h a0 9)).2 : Int))
    (q1 : Q (some (.inl (jX h (jP h a0 9) 3))) h) :
    V MX9_dumps (d + 2) 44 [some (.inr a0), some (.inl i1)] [] h 0 0 Q := by
  refine V_goto (tgt := 71) dX9_dumps_44 (by decide) ?_
  refine V_aload_n (i := 0) dX9_dumps_71 rfl rfl ?_
  refine V_getP dX9_dumps_72 fX9_25 rfl s1 ?_
  refine V_iconst dX9_dumps_75 ⟨by decide, by decide⟩ ?_
  refine V_iald dX9_dumps_76 s2 (by decide) s3 ?_
  exact V_reti rfl dX9_dumps_77 q1
theorem dX9_sizes_0 : decode cX9_sizes 0 = .ok (.iload_n 1, 1) := by decide +kernel
theorem dX9_sizes_1 : decode cX9_sizes 1 = .ok (.iconst 1, 1) := by decide +kernel
theorem dX9_sizes_2 : decode cX9_sizes 2 = .ok (.bipush 8, 2) := by decide +kernel
theorem dX9_sizes_4 : decode cX9_sizes 4 = .ok (.invokestatic 95, 3) := by decide +kernel
theorem dX9_sizes_7 : decode cX9_sizes 7 = .ok (.ifCond .ne 5, 3) := by decide +kernel
theorem dX9_sizes_10 : decode cX9_sizes 10 = .ok (.iconst (-1), 1) := by decide +kernel
theorem dX9_sizes_11 : decode cX9_sizes 11 = .ok (.ireturn, 1) := by decide +kernel
theorem dX9_sizes_12 : decode cX9_sizes 12 = .ok (.aload_n 0, 1) := by decide +kernel
theorem dX9_sizes_13 : decode cX9_sizes 13 = .ok (.getfield 25, 3) := by decide +kernel
theorem dX9_sizes_16 : decode cX9_sizes 16 = .ok (.iconst 2, 1) := by decide +kernel
theorem dX9_sizes_17 : decode cX9_sizes 17 = .ok (.iaload, 1) := by decide +kernel
theorem dX9_sizes_18 : decode cX9_sizes 18 = .ok (.iload_n 1, 1) := by decide +kernel
theorem dX9_sizes_19 : decode cX9_sizes 19 = .ok (.if_icmp .ne 6, 3) := by decide +kernel
theorem dX9_sizes_22 : decode cX9_sizes 22 = .ok (.bipush (-2), 2) := by decide +kernel
theorem dX9_sizes_24 : decode cX9_sizes 24 = .ok (.ireturn, 1) := by decide +kernel
theorem dX9_sizes_25 : decode cX9_sizes 25 = .ok (.aload_n 0, 1) := by decide +kernel
theorem dX9_sizes_26 : decode cX9_sizes 26 = .ok (.invokevirtual 262, 3) := by decide +kernel
theorem dX9_sizes_29 : decode cX9_sizes 29 = .ok (.aload_n 0, 1) := by decide +kernel
theorem dX9_sizes_30 : decode cX9_sizes 30 = .ok (.getfield 25, 3) := by decide +kernel
theorem dX9_sizes_33 : decode cX9_sizes 33 = .ok (.iconst 2, 1) := by decide +kernel
theorem dX9_sizes_34 : decode cX9_sizes 34 = .ok (.iaload, 1) := by decide +kernel
theorem dX9_sizes_35 : decode cX9_sizes 35 = .ok (.istore_n 2, 1) := by decide +kernel
theorem dX9_sizes_36 : decode cX9_sizes 36 = .ok (.aload_n 0, 1) := by decide +kernel
theorem dX9_sizes_37 : decode cX9_sizes 37 = .ok (.getfield 25, 3) := by decide +kernel
theorem dX9_sizes_40 : decode cX9_sizes 40 = .ok (.iconst 2, 1) := by decide +kernel
theorem dX9_sizes_41 : decode cX9_sizes 41 = .ok (.iload_n 1, 1) := by decide +kernel
theorem dX9_sizes_42 : decode cX9_sizes 42 = .ok (.iastore, 1) := by decide +kernel
theorem dX9_sizes_43 : decode cX9_sizes 43 = .ok (.iload_n 2, 1) := by decide +kernel
theorem dX9_sizes_44 : decode cX9_sizes 44 = .ok (.ireturn, 1) := by decide +kernel
theorem bX9_sizes_0 {d : Nat} {Q : Option jA → jH → Prop} (a0 : Nat) (i1 : Int) (u2 : Option jA) (h : jH)
    (s1 : (jS h a0).1 = 9)
    (s2 : (jS h (jP h a0 9)).1 = 16)
    (s3 : (1 ≤ i1 ∧ i1 ≤ 8) → 2 < ((jS h (jP h a0 9)).2 : Int))
    (e1 : (1 ≤ i1 ∧ i1 ≤ 8) → ((jX h (jP h a0 9) 2) ≠ i1) → Ex MX9_notes d [.inr a0] h 0 0 (fun v h2 => V MX9_sizes (d + 1) 29 [some (.inr a0), some (.inl i1), u2] (v.toList ++ []) h2 0 0 Q))
    (q1 : (1 ≤ i1 ∧ i1 ≤ 8) → ((jX h (jP h a0 9) 2) = i1) → Q (some (.inl ((-2)))) h)
    (q2 : (¬ (1 ≤ i1 ∧ i1 ≤ 8)) → Q (some (.inl ((-1)))) h) :
    V MX9_sizes (d + 1) 0 [some (.inr a0), some (.inl i1), u2] [] h 0 0 Q := by
  refine V_iload_n (i := 1) dX9_sizes_0 rfl rfl ?_
  refine V_iconst dX9_sizes_1 ⟨by decide, by decide⟩ ?_
  refine V_bipush dX9_sizes_2 (by decide +kernel) ⟨by decide, by decide⟩ ?_
  refine V_callS (M := MX9_sizes) (d := (d + 1)) (mc' := 0) (ms' := 0) (mc := 0) (ms := 0) (a := 0) (As := [.inl i1, .inl 1, .inl 8]) (rest := []) dX9_sizes_4 tX9_in sX9_in lX9_95 rfl rfl (Nat.le_of_ble_eq_true rfl) (show d + 1 ≤ (d + 1) by omega) (Ex.mono (pX9_in (d := d) ) ?_)
  intro v h2 hq
  rw [hq.1, hq.2]
  show V MX9_sizes (d + 1) 7 [some (.inr a0), some (.inl i1), u2] [.inl (jb (1 ≤ i1 ∧ i1 ≤ 8))] h 0 0 Q
  refine V_ifb_ne (tgt := 12) dX9_sizes_7 (by decide) (fun c1 => ?_) (fun c1 => ?_)
  · refine V_aload_n (i := 0) dX9_sizes_12 rfl rfl ?_
    refine V_getP dX9_sizes_13 fX9_25 rfl s1 ?_
    refine V_iconst dX9_sizes_16 ⟨by decide, by decide⟩ ?_
    refine V_iald dX9_sizes_17 s2 (by decide) (s3 c1) ?_
    refine V_iload_n (i := 1) dX9_sizes_18 rfl rfl ?_
    refine V_icmp_ne (tgt := 25) dX9_sizes_19 (by decide) (fun c2 => ?_) (fun c2 => ?_)
    · refine V_aload_n (i := 0) dX9_sizes_25 rfl rfl ?_
      exact V_callV (M := MX9_sizes) (d := (d + 1)) (mc' := 0) (ms' := 0) (mc := 0) (ms := 0) (As := []) (rest := []) dX9_sizes_26 tX9_notes vX9_notes lX9_262 s1 ⟨by decide, rfl⟩ rfl rfl (Nat.le_of_ble_eq_true rfl) (show d + 1 ≤ (d + 1) by omega) (e1 c1 c2)
    · refine V_bipush dX9_sizes_22 (by decide +kernel) ⟨by decide, by decide⟩ ?_
      exact V_reti rfl dX9_sizes_24 (q1 c1 c2)
  · refine V_iconst dX9_sizes_10 ⟨by decide, by decide⟩ ?_
    exact V_reti rfl dX9_sizes_11 (q2 c1)
theorem bX9_sizes_29 {d : Nat} {Q : Option jA → jH → Prop} (a0 : Nat) (i1 : Int) (u2 : Option jA) (h : jH)
    (s1 : (jS h a0).1 = 9)
    (s2 : (jS h (jP h a0 9)).1 = 16)
    (s3 : 2 < ((jS h (jP h a0 9)).2 : Int))
    (q1 : Q (some (.inl (jX h (jP h a0 9) 2))) (jsX h (jP h a0 9) 2 i1)) :
    V MX9_sizes (d + 1) 29 [some (.inr a0), some (.inl i1), u2] [] h 0 0 Q := by
  refine V_aload_n (i := 0) dX9_sizes_29 rfl rfl ?_
  refine V_getP dX9_sizes_30 fX9_25 rfl s1 ?_
  refine V_iconst dX9_sizes_33 ⟨by decide, by decide⟩ ?_
  refine V_iald dX9_sizes_34 s2 (by decide) s3 ?_
  refine V_istore_n (i := 2) dX9_sizes_35 rfl (by decide) ?_
  refine V_aload_n (i := 0) dX9_sizes_36 rfl rfl ?_
  refine V_getP dX9_sizes_37 fX9_25 rfl s1 ?_
  refine V_iconst dX9_sizes_40 ⟨by decide, by decide⟩ ?_
  refine V_iload_n (i := 1) dX9_sizes_41 rfl rfl ?_
  refine V_iast dX9_sizes_42 s2 (by decide) s3 ?_
  refine V_iload_n (i := 2) dX9_sizes_43 rfl rfl ?_
  exact V_reti rfl dX9_sizes_44 q1
theorem dX9_undo_0 : decode cX9_undo 0 = .ok (.aload_n 0, 1) := by decide +kernel
theorem dX9_undo_1 : decode cX9_undo 1 = .ok (.getfield 227, 3) := by decide +kernel
theorem dX9_undo_4 : decode cX9_undo 4 = .ok (.ifCond .ne 6, 3) := by decide +kernel
theorem dX9_undo_7 : decode cX9_undo 7 = .ok (.bipush (-2), 2) := by decide +kernel
theorem dX9_undo_9 : decode cX9_undo 9 = .ok (.ireturn, 1) := by decide +kernel
theorem dX9_undo_10 : decode cX9_undo 10 = .ok (.aload_n 0, 1) := by decide +kernel
theorem dX9_undo_11 : decode cX9_undo 11 = .ok (.dup, 1) := by decide +kernel
theorem dX9_undo_12 : decode cX9_undo 12 = .ok (.getfield 227, 3) := by decide +kernel
theorem dX9_undo_15 : decode cX9_undo 15 = .ok (.iconst 1, 1) := by decide +kernel
theorem dX9_undo_16 : decode cX9_undo 16 = .ok (.isub, 1) := by decide +kernel
theorem dX9_undo_17 : decode cX9_undo 17 = .ok (.putfield 227, 3) := by decide +kernel
theorem dX9_undo_20 : decode cX9_undo 20 = .ok (.iconst 0, 1) := by decide +kernel
theorem dX9_undo_21 : decode cX9_undo 21 = .ok (.istore_n 1, 1) := by decide +kernel
theorem dX9_undo_22 : decode cX9_undo 22 = .ok (.iload_n 1, 1) := by decide +kernel
theorem dX9_undo_23 : decode cX9_undo 23 = .ok (.sipush 209, 3) := by decide +kernel
theorem dX9_undo_26 : decode cX9_undo 26 = .ok (.if_icmp .ge 30, 3) := by decide +kernel
theorem dX9_undo_29 : decode cX9_undo 29 = .ok (.aload_n 0, 1) := by decide +kernel
theorem dX9_undo_30 : decode cX9_undo 30 = .ok (.getfield 25, 3) := by decide +kernel
theorem dX9_undo_33 : decode cX9_undo 33 = .ok (.iload_n 1, 1) := by decide +kernel
theorem dX9_undo_34 : decode cX9_undo 34 = .ok (.aload_n 0, 1) := by decide +kernel
theorem dX9_undo_35 : decode cX9_undo 35 = .ok (.getfield 28, 3) := by decide +kernel
theorem dX9_undo_38 : decode cX9_undo 38 = .ok (.sipush 209, 3) := by decide +kernel
theorem dX9_undo_41 : decode cX9_undo 41 = .ok (.aload_n 0, 1) := by decide +kernel
theorem dX9_undo_42 : decode cX9_undo 42 = .ok (.getfield 227, 3) := by decide +kernel
theorem dX9_undo_45 : decode cX9_undo 45 = .ok (.imul, 1) := by decide +kernel
theorem dX9_undo_46 : decode cX9_undo 46 = .ok (.iload_n 1, 1) := by decide +kernel
theorem dX9_undo_47 : decode cX9_undo 47 = .ok (.iadd, 1) := by decide +kernel
theorem dX9_undo_48 : decode cX9_undo 48 = .ok (.iaload, 1) := by decide +kernel
theorem dX9_undo_49 : decode cX9_undo 49 = .ok (.iastore, 1) := by decide +kernel
theorem dX9_undo_50 : decode cX9_undo 50 = .ok (.iinc 1 1, 3) := by decide +kernel
theorem dX9_undo_53 : decode cX9_undo 53 = .ok (.goto (-31), 3) := by decide +kernel
theorem dX9_undo_56 : decode cX9_undo 56 = .ok (.aload_n 0, 1) := by decide +kernel
theorem dX9_undo_57 : decode cX9_undo 57 = .ok (.getfield 227, 3) := by decide +kernel
theorem dX9_undo_60 : decode cX9_undo 60 = .ok (.ireturn, 1) := by decide +kernel
theorem bX9_undo_0 {d : Nat} {Q : Option jA → jH → Prop} (a0 : Nat) (u1 : Option jA) (h : jH)
    (s1 : (jS h a0).1 = 9)
    (r1 : ((jI h a0 11) ≠ 0) → jR ((jI h a0 11) - 1))
    (k1 : ((jI h a0 11) ≠ 0) → V MX9_undo d 22 [some (.inr a0), some (.inl 0)] [] (jsI h a0 11 ((jI h a0 11) - 1)) 0 0 Q)
    (q1 : ((jI h a0 11) = 0) → Q (some (.inl ((-2)))) h) :
    V MX9_undo d 0 [some (.inr a0), u1] [] h 0 0 Q := by
  refine V_aload_n (i := 0) dX9_undo_0 rfl rfl ?_
  refine V_getI dX9_undo_1 fX9_227 rfl s1 ?_
  refine V_if_ne (tgt := 10) dX9_undo_4 (by decide) (fun c1 => ?_) (fun c1 => ?_)
  · refine V_aload_n (i := 0) dX9_undo_10 rfl rfl ?_
    refine V_dup dX9_undo_11 ?_
    refine V_getI dX9_undo_12 fX9_227 rfl s1 ?_
    refine V_iconst dX9_undo_15 ⟨by decide, by decide⟩ ?_
    refine V_isub dX9_undo_16 (r1 c1) ?_
    refine V_putI (ci := 9) (kf := 11) dX9_undo_17 fX9_227 rfl rfl s1 ?_
    refine V_iconst dX9_undo_20 ⟨by decide, by decide⟩ ?_
    refine V_istore_n (i := 1) dX9_undo_21 rfl (by decide) ?_
    exact (k1 c1)
  · refine V_bipush dX9_undo_7 (by decide +kernel) ⟨by decide, by decide⟩ ?_
    exact V_reti rfl dX9_undo_9 (q1 c1)
theorem bX9_undo_22 {d : Nat} {Q : Option jA → jH → Prop} (a0 : Nat) (i1 : Int) (h : jH)
    (s1 : (jS h a0).1 = 9)
    (q1 : (209 ≤ i1) → Q (some (.inl (jI h a0 11))) h)
    (r1 : (¬ (209 ≤ i1)) → jR (209 * (jI h a0 11)))
    (r2 : (¬ (209 ≤ i1)) → jR ((209 * (jI h a0 11)) + i1))
    (s2 : (jS h (jP h a0 10)).1 = 16)
    (s3 : (¬ (209 ≤ i1)) → 0 ≤ (209 * (jI h a0 11)) + i1)
    (s4 : (¬ (209 ≤ i1)) → (209 * (jI h a0 11)) + i1 < ((jS h (jP h a0 10)).2 : Int))
    (s5 : (jS h (jP h a0 9)).1 = 16)
    (s6 : (¬ (209 ≤ i1)) → 0 ≤ i1)
    (s7 : (¬ (209 ≤ i1)) → i1 < ((jS h (jP h a0 9)).2 : Int))
    (r3 : (¬ (209 ≤ i1)) → jR (i1 + 1))
    (k1 : (¬ (209 ≤ i1)) → V MX9_undo d 22 [some (.inr a0), some (.inl (i1 + 1))] [] (jsX h (jP h a0 9) ((i1).toNat) (jX h (jP h a0 10) (((209 * (jI h a0 11)) + i1).toNat))) 0 0 Q) :
    V MX9_undo d 22 [some (.inr a0), some (.inl i1)] [] h 0 0 Q := by
  refine V_iload_n (i := 1) dX9_undo_22 rfl rfl ?_
  refine V_sipush dX9_undo_23 (by decide +kernel) ⟨by decide, by decide⟩ ?_
  refine V_icmp_ge (tgt := 56) dX9_undo_26 (by decide) (fun c1 => ?_) (fun c1 => ?_)
  · refine V_aload_n (i := 0) dX9_undo_56 rfl rfl ?_
    refine V_getI dX9_undo_57 fX9_227 rfl s1 ?_
    exact V_reti rfl dX9_undo_60 (q1 c1)
  · refine V_aload_n (i := 0) dX9_undo_29 rfl rfl ?_
    refine V_getP dX9_undo_30 fX9_25 rfl s1 ?_
    refine V_iload_n (i := 1) dX9_undo_33 rfl rfl ?_
    refine V_aload_n (i := 0) dX9_undo_34 rfl rfl ?_
    refine V_getP dX9_undo_35 fX9_28 rfl s1 ?_
    refine V_sipush dX9_undo_38 (by decide +kernel) ⟨by decide, by decide⟩ ?_
    refine V_aload_n (i := 0) dX9_undo_41 rfl rfl ?_
    refine V_getI dX9_undo_42 fX9_227 rfl s1 ?_
    refine V_imul dX9_undo_45 (r1 c1) ?_
    refine V_iload_n (i := 1) dX9_undo_46 rfl rfl ?_
    refine V_iadd dX9_undo_47 (r2 c1) ?_
    refine V_iald dX9_undo_48 s2 (s3 c1) (s4 c1) ?_
    refine V_iast dX9_undo_49 s5 (s6 c1) (s7 c1) ?_
    refine V_iinc (i := 1) dX9_undo_50 rfl (by decide) (r3 c1) ?_
    refine V_goto (tgt := 22) dX9_undo_53 (by decide) ?_
    exact (k1 c1)
theorem dX9_blockAt_0 : decode cX9_blockAt 0 = .ok (.bipush (-9), 2) := by decide +kernel
theorem dX9_blockAt_2 : decode cX9_blockAt 2 = .ok (.istore_n 2, 1) := by decide +kernel
theorem dX9_blockAt_3 : decode cX9_blockAt 3 = .ok (.iconst 0, 1) := by decide +kernel
theorem dX9_blockAt_4 : decode cX9_blockAt 4 = .ok (.istore_n 3, 1) := by decide +kernel
theorem dX9_blockAt_5 : decode cX9_blockAt 5 = .ok (.iload_n 3, 1) := by decide +kernel
theorem dX9_blockAt_6 : decode cX9_blockAt 6 = .ok (.aload_n 0, 1) := by decide +kernel
theorem dX9_blockAt_7 : decode cX9_blockAt 7 = .ok (.getfield 25, 3) := by decide +kernel
theorem dX9_blockAt_10 : decode cX9_blockAt 10 = .ok (.iconst 3, 1) := by decide +kernel
theorem dX9_blockAt_11 : decode cX9_blockAt 11 = .ok (.iaload, 1) := by decide +kernel
theorem dX9_blockAt_12 : decode cX9_blockAt 12 = .ok (.if_icmp .ge 28, 3) := by decide +kernel
theorem dX9_blockAt_15 : decode cX9_blockAt 15 = .ok (.aload_n 0, 1) := by decide +kernel
theorem dX9_blockAt_16 : decode cX9_blockAt 16 = .ok (.getfield 25, 3) := by decide +kernel
theorem dX9_blockAt_19 : decode cX9_blockAt 19 = .ok (.iload_n 3, 1) := by decide +kernel
theorem dX9_blockAt_20 : decode cX9_blockAt 20 = .ok (.invokestatic 256, 3) := by decide +kernel
theorem dX9_blockAt_23 : decode cX9_blockAt 23 = .ok (.iaload, 1) := by decide +kernel
theorem dX9_blockAt_24 : decode cX9_blockAt 24 = .ok (.iload_n 1, 1) := by decide +kernel
theorem dX9_blockAt_25 : decode cX9_blockAt 25 = .ok (.if_icmp .gt 7, 3) := by decide +kernel
theorem dX9_blockAt_28 : decode cX9_blockAt 28 = .ok (.iload_n 3, 1) := by decide +kernel
theorem dX9_blockAt_29 : decode cX9_blockAt 29 = .ok (.goto 4, 3) := by decide +kernel
theorem dX9_blockAt_32 : decode cX9_blockAt 32 = .ok (.iload_n 2, 1) := by decide +kernel
theorem dX9_blockAt_33 : decode cX9_blockAt 33 = .ok (.istore_n 2, 1) := by decide +kernel
theorem dX9_blockAt_34 : decode cX9_blockAt 34 = .ok (.iinc 3 1, 3) := by decide +kernel
theorem dX9_blockAt_37 : decode cX9_blockAt 37 = .ok (.goto (-32), 3) := by decide +kernel
theorem dX9_blockAt_40 : decode cX9_blockAt 40 = .ok (.iload_n 2, 1) := by decide +kernel
theorem dX9_blockAt_41 : decode cX9_blockAt 41 = .ok (.bipush (-9), 2) := by decide +kernel
theorem dX9_blockAt_43 : decode cX9_blockAt 43 = .ok (.if_icmp .eq 38, 3) := by decide +kernel
theorem dX9_blockAt_46 : decode cX9_blockAt 46 = .ok (.aload_n 0, 1) := by decide +kernel
theorem dX9_blockAt_47 : decode cX9_blockAt 47 = .ok (.getfield 25, 3) := by decide +kernel
theorem dX9_blockAt_50 : decode cX9_blockAt 50 = .ok (.iload_n 2, 1) := by decide +kernel
theorem dX9_blockAt_51 : decode cX9_blockAt 51 = .ok (.invokestatic 256, 3) := by decide +kernel
theorem dX9_blockAt_54 : decode cX9_blockAt 54 = .ok (.iconst 1, 1) := by decide +kernel
theorem dX9_blockAt_55 : decode cX9_blockAt 55 = .ok (.iadd, 1) := by decide +kernel
theorem dX9_blockAt_56 : decode cX9_blockAt 56 = .ok (.iaload, 1) := by decide +kernel
theorem dX9_blockAt_57 : decode cX9_blockAt 57 = .ok (.bipush (-9), 2) := by decide +kernel
theorem dX9_blockAt_59 : decode cX9_blockAt 59 = .ok (.if_icmp .eq 22, 3) := by decide +kernel
theorem dX9_blockAt_62 : decode cX9_blockAt 62 = .ok (.aload_n 0, 1) := by decide +kernel
theorem dX9_blockAt_63 : decode cX9_blockAt 63 = .ok (.getfield 25, 3) := by decide +kernel
theorem dX9_blockAt_66 : decode cX9_blockAt 66 = .ok (.iload_n 2, 1) := by decide +kernel
theorem dX9_blockAt_67 : decode cX9_blockAt 67 = .ok (.invokestatic 256, 3) := by decide +kernel
theorem dX9_blockAt_70 : decode cX9_blockAt 70 = .ok (.iconst 1, 1) := by decide +kernel
theorem dX9_blockAt_71 : decode cX9_blockAt 71 = .ok (.iadd, 1) := by decide +kernel
theorem dX9_blockAt_72 : decode cX9_blockAt 72 = .ok (.iaload, 1) := by decide +kernel
theorem dX9_blockAt_73 : decode cX9_blockAt 73 = .ok (.iload_n 1, 1) := by decide +kernel
theorem dX9_blockAt_74 : decode cX9_blockAt 74 = .ok (.if_icmp .ge 7, 3) := by decide +kernel
theorem dX9_blockAt_77 : decode cX9_blockAt 77 = .ok (.iconst 1, 1) := by decide +kernel
theorem dX9_blockAt_78 : decode cX9_blockAt 78 = .ok (.goto 4, 3) := by decide +kernel
theorem dX9_blockAt_81 : decode cX9_blockAt 81 = .ok (.iconst 0, 1) := by decide +kernel
theorem dX9_blockAt_82 : decode cX9_blockAt 82 = .ok (.istore_n 3, 1) := by decide +kernel
theorem dX9_blockAt_83 : decode cX9_blockAt 83 = .ok (.iload_n 3, 1) := by decide +kernel
theorem dX9_blockAt_84 : decode cX9_blockAt 84 = .ok (.ifCond .eq 8, 3) := by decide +kernel
theorem dX9_blockAt_87 : decode cX9_blockAt 87 = .ok (.bipush (-9), 2) := by decide +kernel
theorem dX9_blockAt_89 : decode cX9_blockAt 89 = .ok (.goto 4, 3) := by decide +kernel
theorem dX9_blockAt_92 : decode cX9_blockAt 92 = .ok (.iload_n 2, 1) := by decide +kernel
theorem dX9_blockAt_93 : decode cX9_blockAt 93 = .ok (.ireturn, 1) := by decide +kernel
theorem bX9_blockAt_0 {d : Nat} {Q : Option jA → jH → Prop} (a0 : Nat) (i1 : Int) (u2 : Option jA) (u3 : Option jA) (h : jH)
    (k1 : V MX9_blockAt (d + 1) 5 [some (.inr a0), some (.inl i1), some (.inl ((-9))), some (.inl 0)] [] h 0 0 Q) :
    V MX9_blockAt (d + 1) 0 [some (.inr a0), some (.inl i1), u2, u3] [] h 0 0 Q := by
  refine V_bipush dX9_blockAt_0 (by decide +kernel) ⟨by decide, by decide⟩ ?_
  refine V_istore_n (i := 2) dX9_blockAt_2 rfl (by decide) ?_
  refine V_iconst dX9_blockAt_3 ⟨by decide, by decide⟩ ?_
  refine V_istore_n (i := 3) dX9_blockAt_4 rfl (by decide) ?_
  exact k1
theorem bX9_blockAt_5 {d : Nat} {Q : Option jA → jH → Prop} (a0 : Nat) (i1 : Int) (i2 : Int) (i3 : Int) (h : jH)
    (s1 : (jS h a0).1 = 9)
    (s2 : (jS h (jP h a0 9)).1 = 16)
    (s3 : 3 < ((jS h (jP h a0 9)).2 : Int))
    (q1 : ((jX h (jP h a0 9) 3) ≤ i3) → (i2 = ((-9))) → Q (some (.inl i2)) h)
    (s4 : ((jX h (jP h a0 9) 3) ≤ i3) → (¬ (i2 = ((-9)))) → 0 ≤ i2)
    (s5 : ((jX h (jP h a0 9) 3) ≤ i3) → (¬ (i2 = ((-9)))) → i2 ≤ 6)
    (r1 : ((jX h (jP h a0 9) 3) ≤ i3) → (¬ (i2 = ((-9)))) → jR ((11 + (33 * i2)) + 1))
    (s6 : ((jX h (jP h a0 9) 3) ≤ i3) → (¬ (i2 = ((-9)))) → 0 ≤ (11 + (33 * i2)) + 1)
    (s7 : ((jX h (jP h a0 9) 3) ≤ i3) → (¬ (i2 = ((-9)))) → (11 + (33 * i2)) + 1 < ((jS h (jP h a0 9)).2 : Int))
    (q2 : ((jX h (jP h a0 9) 3) ≤ i3) → (¬ (i2 = ((-9)))) → ((jX h (jP h a0 9) (((11 + (33 * i2)) + 1).toNat)) = ((-9))) → Q (some (.inl i2)) h)
    (r2 : ((jX h (jP h a0 9) 3) ≤ i3) → (¬ (i2 = ((-9)))) → (¬ ((jX h (jP h a0 9) (((11 + (33 * i2)) + 1).toNat)) = ((-9)))) → jR ((11 + (33 * i2)) + 1))
    (q3 : ((jX h (jP h a0 9) 3) ≤ i3) → (¬ (i2 = ((-9)))) → (¬ ((jX h (jP h a0 9) (((11 + (33 * i2)) + 1).toNat)) = ((-9)))) → (i1 ≤ (jX h (jP h a0 9) (((11 + (33 * i2)) + 1).toNat))) → Q (some (.inl i2)) h)
    (q4 : ((jX h (jP h a0 9) 3) ≤ i3) → (¬ (i2 = ((-9)))) → (¬ ((jX h (jP h a0 9) (((11 + (33 * i2)) + 1).toNat)) = ((-9)))) → (¬ (i1 ≤ (jX h (jP h a0 9) (((11 + (33 * i2)) + 1).toNat)))) → Q (some (.inl ((-9)))) h)
    (s8 : (¬ ((jX h (jP h a0 9) 3) ≤ i3)) → 0 ≤ i3)
    (s9 : (¬ ((jX h (jP h a0 9) 3) ≤ i3)) → i3 ≤ 6)
    (s10 : (¬ ((jX h (jP h a0 9) 3) ≤ i3)) → 0 ≤ 11 + (33 * i3))
    (s11 : (¬ ((jX h (jP h a0 9) 3) ≤ i3)) → 11 + (33 * i3) < ((jS h (jP h a0 9)).2 : Int))
    (r3 : (¬ ((jX h (jP h a0 9) 3) ≤ i3)) → (i1 < (jX h (jP h a0 9) ((11 + (33 * i3)).toNat))) → jR (i3 + 1))
    (k1 : (¬ ((jX h (jP h a0 9) 3) ≤ i3)) → (i1 < (jX h (jP h a0 9) ((11 + (33 * i3)).toNat))) → V MX9_blockAt (d + 1) 5 [some (.inr a0), some (.inl i1), some (.inl i2), some (.inl (i3 + 1))] [] h 0 0 Q)
    (r4 : (¬ ((jX h (jP h a0 9) 3) ≤ i3)) → (¬ (i1 < (jX h (jP h a0 9) ((11 + (33 * i3)).toNat)))) → jR (i3 + 1))
    (k2 : (¬ ((jX h (jP h a0 9) 3) ≤ i3)) → (¬ (i1 < (jX h (jP h a0 9) ((11 + (33 * i3)).toNat)))) → V MX9_blockAt (d + 1) 5 [some (.inr a0), some (.inl i1), some (.inl i3), some (.inl (i3 + 1))] [] h 0 0 Q) :
    V MX9_blockAt (d + 1) 5 [some (.inr a0), some (.inl i1), some (.inl i2), some (.inl i3)] [] h 0 0 Q := by
  refine V_iload_n (i := 3) dX9_blockAt_5 rfl rfl ?_
  refine V_aload_n (i := 0) dX9_blockAt_6 rfl rfl ?_
  refine V_getP dX9_blockAt_7 fX9_25 rfl s1 ?_
  refine V_iconst dX9_blockAt_10 ⟨by decide, by decide⟩ ?_
  refine V_iald dX9_blockAt_11 s2 (by decide) s3 ?_
  refine V_icmp_ge (tgt := 40) dX9_blockAt_12 (by decide) (fun c1 => ?_) (fun c1 => ?_)
  · refine V_iload_n (i := 2) dX9_blockAt_40 rfl rfl ?_
    refine V_bipush dX9_blockAt_41 (by decide +kernel) ⟨by decide, by decide⟩ ?_
    refine V_icmp_eq (tgt := 81) dX9_blockAt_43 (by decide) (fun c2 => ?_) (fun c2 => ?_)
    · refine V_iconst dX9_blockAt_81 ⟨by decide, by decide⟩ ?_
      refine V_istore_n (i := 3) dX9_blockAt_82 rfl (by decide) ?_
      refine V_iload_n (i := 3) dX9_blockAt_83 rfl rfl ?_
      refine V_if_eq (tgt := 92) dX9_blockAt_84 (by decide) (fun c3 => ?_) (fun c3 => ?_)
      · refine V_iload_n (i := 2) dX9_blockAt_92 rfl rfl ?_
        exact V_reti rfl dX9_blockAt_93 (q1 c1 c2)
      · exact absurd c3 (by decide)
    · refine V_aload_n (i := 0) dX9_blockAt_46 rfl rfl ?_
      refine V_getP dX9_blockAt_47 fX9_25 rfl s1 ?_
      refine V_iload_n (i := 2) dX9_blockAt_50 rfl rfl ?_
      refine V_callS (M := MX9_blockAt) (d := (d + 1)) (mc' := 0) (ms' := 0) (mc := 0) (ms := 0) (a := 0) (As := [.inl i2]) (rest := [.inr (jP h a0 9)]) dX9_blockAt_51 tX9_block0 sX9_block0 lX9_256 rfl rfl (Nat.le_of_ble_eq_true rfl) (show d + 1 ≤ (d + 1) by omega) (Ex.mono (pX9_block0 (d := d) (s4 c1 c2) (s5 c1 c2)) ?_)
      intro v h2 hq
      rw [hq.1, hq.2]
      show V MX9_blockAt (d + 1) 54 [some (.inr a0), some (.inl i1), some (.inl i2), some (.inl i3)] [.inl (11 + (33 * i2)), .inr (jP h a0 9)] h 0 0 Q
      refine V_iconst dX9_blockAt_54 ⟨by decide, by decide⟩ ?_
      refine V_iadd dX9_blockAt_55 (r1 c1 c2) ?_
      refine V_iald dX9_blockAt_56 s2 (s6 c1 c2) (s7 c1 c2) ?_
      refine V_bipush dX9_blockAt_57 (by decide +kernel) ⟨by decide, by decide⟩ ?_
      refine V_icmp_eq (tgt := 81) dX9_blockAt_59 (by decide) (fun c4 => ?_) (fun c4 => ?_)
      · refine V_iconst dX9_blockAt_81 ⟨by decide, by decide⟩ ?_
        refine V_istore_n (i := 3) dX9_blockAt_82 rfl (by decide) ?_
        refine V_iload_n (i := 3) dX9_blockAt_83 rfl rfl ?_
        refine V_if_eq (tgt := 92) dX9_blockAt_84 (by decide) (fun c5 => ?_) (fun c5 => ?_)
        · refine V_iload_n (i := 2) dX9_blockAt_92 rfl rfl ?_
          exact V_reti rfl dX9_blockAt_93 (q2 c1 c2 c4)
        · exact absurd c5 (by decide)
      · refine V_aload_n (i := 0) dX9_blockAt_62 rfl rfl ?_
        refine V_getP dX9_blockAt_63 fX9_25 rfl s1 ?_
        refine V_iload_n (i := 2) dX9_blockAt_66 rfl rfl ?_
        refine V_callS (M := MX9_blockAt) (d := (d + 1)) (mc' := 0) (ms' := 0) (mc := 0) (ms := 0) (a := 0) (As := [.inl i2]) (rest := [.inr (jP h a0 9)]) dX9_blockAt_67 tX9_block0 sX9_block0 lX9_256 rfl rfl (Nat.le_of_ble_eq_true rfl) (show d + 1 ≤ (d + 1) by omega) (Ex.mono (pX9_block0 (d := d) (s4 c1 c2) (s5 c1 c2)) ?_)
        intro v h2 hq
        rw [hq.1, hq.2]
        show V MX9_blockAt (d + 1) 70 [some (.inr a0), some (.inl i1), some (.inl i2), some (.inl i3)] [.inl (11 + (33 * i2)), .inr (jP h a0 9)] h 0 0 Q
        refine V_iconst dX9_blockAt_70 ⟨by decide, by decide⟩ ?_
        refine V_iadd dX9_blockAt_71 (r2 c1 c2 c4) ?_
        refine V_iald dX9_blockAt_72 s2 (s6 c1 c2) (s7 c1 c2) ?_
        refine V_iload_n (i := 1) dX9_blockAt_73 rfl rfl ?_
        refine V_icmp_ge (tgt := 81) dX9_blockAt_74 (by decide) (fun c6 => ?_) (fun c6 => ?_)
        · refine V_iconst dX9_blockAt_81 ⟨by decide, by decide⟩ ?_
          refine V_istore_n (i := 3) dX9_blockAt_82 rfl (by decide) ?_
          refine V_iload_n (i := 3) dX9_blockAt_83 rfl rfl ?_
          refine V_if_eq (tgt := 92) dX9_blockAt_84 (by decide) (fun c7 => ?_) (fun c7 => ?_)
          · refine V_iload_n (i := 2) dX9_blockAt_92 rfl rfl ?_
            exact V_reti rfl dX9_blockAt_93 (q3 c1 c2 c4 c6)
          · exact absurd c7 (by decide)
        · refine V_iconst dX9_blockAt_77 ⟨by decide, by decide⟩ ?_
          refine V_goto (tgt := 82) dX9_blockAt_78 (by decide) ?_
          refine V_istore_n (i := 3) dX9_blockAt_82 rfl (by decide) ?_
          refine V_iload_n (i := 3) dX9_blockAt_83 rfl rfl ?_
          refine V_if_eq (tgt := 92) dX9_blockAt_84 (by decide) (fun c8 => ?_) (fun c8 => ?_)
          · exact absurd c8 (by decide)
          · refine V_bipush dX9_blockAt_87 (by decide +kernel) ⟨by decide, by decide⟩ ?_
            refine V_goto (tgt := 93) dX9_blockAt_89 (by decide) ?_
            exact V_reti rfl dX9_blockAt_93 (q4 c1 c2 c4 c6)
  · refine V_aload_n (i := 0) dX9_blockAt_15 rfl rfl ?_
    refine V_getP dX9_blockAt_16 fX9_25 rfl s1 ?_
    refine V_iload_n (i := 3) dX9_blockAt_19 rfl rfl ?_
    refine V_callS (M := MX9_blockAt) (d := (d + 1)) (mc' := 0) (ms' := 0) (mc := 0) (ms := 0) (a := 0) (As := [.inl i3]) (rest := [.inr (jP h a0 9)]) dX9_blockAt_20 tX9_block0 sX9_block0 lX9_256 rfl rfl (Nat.le_of_ble_eq_true rfl) (show d + 1 ≤ (d + 1) by omega) (Ex.mono (pX9_block0 (d := d) (s8 c1) (s9 c1)) ?_)
    intro v h2 hq
    rw [hq.1, hq.2]
    show V MX9_blockAt (d + 1) 23 [some (.inr a0), some (.inl i1), some (.inl i2), some (.inl i3)] [.inl (11 + (33 * i3)), .inr (jP h a0 9)] h 0 0 Q
    refine V_iald dX9_blockAt_23 s2 (s10 c1) (s11 c1) ?_
    refine V_iload_n (i := 1) dX9_blockAt_24 rfl rfl ?_
    refine V_icmp_gt (tgt := 32) dX9_blockAt_25 (by decide) (fun c9 => ?_) (fun c9 => ?_)
    · refine V_iload_n (i := 2) dX9_blockAt_32 rfl rfl ?_
      refine V_istore_n (i := 2) dX9_blockAt_33 rfl (by decide) ?_
      refine V_iinc (i := 3) dX9_blockAt_34 rfl (by decide) (r3 c1 c9) ?_
      refine V_goto (tgt := 5) dX9_blockAt_37 (by decide) ?_
      exact (k1 c1 c9)
    · refine V_iload_n (i := 3) dX9_blockAt_28 rfl rfl ?_
      refine V_goto (tgt := 33) dX9_blockAt_29 (by decide) ?_
      refine V_istore_n (i := 2) dX9_blockAt_33 rfl (by decide) ?_
      refine V_iinc (i := 3) dX9_blockAt_34 rfl (by decide) (r4 c1 c9) ?_
      refine V_goto (tgt := 5) dX9_blockAt_37 (by decide) ?_
      exact (k2 c1 c9)
theorem dX9_laysAt_0 : decode cX9_laysAt 0 = .ok (.aload_n 0, 1) := by decide +kernel
theorem dX9_laysAt_1 : decode cX9_laysAt 1 = .ok (.iload_n 1, 1) := by decide +kernel
theorem dX9_laysAt_2 : decode cX9_laysAt 2 = .ok (.invokevirtual 265, 3) := by decide +kernel
theorem dX9_laysAt_5 : decode cX9_laysAt 5 = .ok (.istore_n 2, 1) := by decide +kernel
theorem dX9_laysAt_6 : decode cX9_laysAt 6 = .ok (.iconst 0, 1) := by decide +kernel
theorem dX9_laysAt_7 : decode cX9_laysAt 7 = .ok (.istore_n 3, 1) := by decide +kernel
theorem dX9_laysAt_8 : decode cX9_laysAt 8 = .ok (.iload_n 3, 1) := by decide +kernel
theorem dX9_laysAt_9 : decode cX9_laysAt 9 = .ok (.bipush 6, 2) := by decide +kernel
theorem dX9_laysAt_11 : decode cX9_laysAt 11 = .ok (.if_icmp .ge 39, 3) := by decide +kernel
theorem dX9_laysAt_14 : decode cX9_laysAt 14 = .ok (.aload_n 0, 1) := by decide +kernel
theorem dX9_laysAt_15 : decode cX9_laysAt 15 = .ok (.getfield 65, 3) := by decide +kernel
theorem dX9_laysAt_18 : decode cX9_laysAt 18 = .ok (.iload_n 3, 1) := by decide +kernel
theorem dX9_laysAt_19 : decode cX9_laysAt 19 = .ok (.iload_n 2, 1) := by decide +kernel
theorem dX9_laysAt_20 : decode cX9_laysAt 20 = .ok (.bipush (-9), 2) := by decide +kernel
theorem dX9_laysAt_22 : decode cX9_laysAt 22 = .ok (.if_icmp .ne 8, 3) := by decide +kernel
theorem dX9_laysAt_25 : decode cX9_laysAt 25 = .ok (.bipush (-7), 2) := by decide +kernel
theorem dX9_laysAt_27 : decode cX9_laysAt 27 = .ok (.goto 16, 3) := by decide +kernel
theorem dX9_laysAt_30 : decode cX9_laysAt 30 = .ok (.aload_n 0, 1) := by decide +kernel
theorem dX9_laysAt_31 : decode cX9_laysAt 31 = .ok (.getfield 25, 3) := by decide +kernel
theorem dX9_laysAt_34 : decode cX9_laysAt 34 = .ok (.iload_n 2, 1) := by decide +kernel
theorem dX9_laysAt_35 : decode cX9_laysAt 35 = .ok (.invokestatic 256, 3) := by decide +kernel
theorem dX9_laysAt_38 : decode cX9_laysAt 38 = .ok (.iconst 3, 1) := by decide +kernel
theorem dX9_laysAt_39 : decode cX9_laysAt 39 = .ok (.iadd, 1) := by decide +kernel
theorem dX9_laysAt_40 : decode cX9_laysAt 40 = .ok (.iload_n 3, 1) := by decide +kernel
theorem dX9_laysAt_41 : decode cX9_laysAt 41 = .ok (.iadd, 1) := by decide +kernel
theorem dX9_laysAt_42 : decode cX9_laysAt 42 = .ok (.iaload, 1) := by decide +kernel
theorem dX9_laysAt_43 : decode cX9_laysAt 43 = .ok (.iastore, 1) := by decide +kernel
theorem dX9_laysAt_44 : decode cX9_laysAt 44 = .ok (.iinc 3 1, 3) := by decide +kernel
theorem dX9_laysAt_47 : decode cX9_laysAt 47 = .ok (.goto (-39), 3) := by decide +kernel
theorem dX9_laysAt_50 : decode cX9_laysAt 50 = .ok (.iconst 0, 1) := by decide +kernel
theorem dX9_laysAt_51 : decode cX9_laysAt 51 = .ok (.istore_n 3, 1) := by decide +kernel
theorem dX9_laysAt_52 : decode cX9_laysAt 52 = .ok (.iload_n 2, 1) := by decide +kernel
theorem dX9_laysAt_53 : decode cX9_laysAt 53 = .ok (.bipush (-9), 2) := by decide +kernel
theorem dX9_laysAt_55 : decode cX9_laysAt 55 = .ok (.if_icmp .eq 71, 3) := by decide +kernel
theorem dX9_laysAt_58 : decode cX9_laysAt 58 = .ok (.iload_n 3, 1) := by decide +kernel
theorem dX9_laysAt_59 : decode cX9_laysAt 59 = .ok (.aload_n 0, 1) := by decide +kernel
theorem dX9_laysAt_60 : decode cX9_laysAt 60 = .ok (.getfield 25, 3) := by decide +kernel
theorem dX9_laysAt_63 : decode cX9_laysAt 63 = .ok (.iload_n 2, 1) := by decide +kernel
theorem dX9_laysAt_64 : decode cX9_laysAt 64 = .ok (.invokestatic 256, 3) := by decide +kernel
theorem dX9_laysAt_67 : decode cX9_laysAt 67 = .ok (.iconst 2, 1) := by decide +kernel
theorem dX9_laysAt_68 : decode cX9_laysAt 68 = .ok (.iadd, 1) := by decide +kernel
theorem dX9_laysAt_69 : decode cX9_laysAt 69 = .ok (.iaload, 1) := by decide +kernel
theorem dX9_laysAt_70 : decode cX9_laysAt 70 = .ok (.if_icmp .ge 56, 3) := by decide +kernel
theorem dX9_laysAt_73 : decode cX9_laysAt 73 = .ok (.iload_n 2, 1) := by decide +kernel
theorem dX9_laysAt_74 : decode cX9_laysAt 74 = .ok (.invokestatic 256, 3) := by decide +kernel
theorem dX9_laysAt_77 : decode cX9_laysAt 77 = .ok (.bipush 9, 2) := by decide +kernel
theorem dX9_laysAt_79 : decode cX9_laysAt 79 = .ok (.iadd, 1) := by decide +kernel
theorem dX9_laysAt_80 : decode cX9_laysAt 80 = .ok (.iconst 3, 1) := by decide +kernel
theorem dX9_laysAt_81 : decode cX9_laysAt 81 = .ok (.iload_n 3, 1) := by decide +kernel
theorem dX9_laysAt_82 : decode cX9_laysAt 82 = .ok (.imul, 1) := by decide +kernel
theorem dX9_laysAt_83 : decode cX9_laysAt 83 = .ok (.iadd, 1) := by decide +kernel
theorem dX9_laysAt_84 : decode cX9_laysAt 84 = .ok (.istore 4, 2) := by decide +kernel
theorem dX9_laysAt_86 : decode cX9_laysAt 86 = .ok (.aload_n 0, 1) := by decide +kernel
theorem dX9_laysAt_87 : decode cX9_laysAt 87 = .ok (.getfield 25, 3) := by decide +kernel
theorem dX9_laysAt_90 : decode cX9_laysAt 90 = .ok (.iload 4, 2) := by decide +kernel
theorem dX9_laysAt_92 : decode cX9_laysAt 92 = .ok (.iaload, 1) := by decide +kernel
theorem dX9_laysAt_93 : decode cX9_laysAt 93 = .ok (.iload_n 1, 1) := by decide +kernel
theorem dX9_laysAt_94 : decode cX9_laysAt 94 = .ok (.if_icmp .gt 26, 3) := by decide +kernel
theorem dX9_laysAt_97 : decode cX9_laysAt 97 = .ok (.aload_n 0, 1) := by decide +kernel
theorem dX9_laysAt_98 : decode cX9_laysAt 98 = .ok (.getfield 65, 3) := by decide +kernel
theorem dX9_laysAt_101 : decode cX9_laysAt 101 = .ok (.aload_n 0, 1) := by decide +kernel
theorem dX9_laysAt_102 : decode cX9_laysAt 102 = .ok (.getfield 25, 3) := by decide +kernel
theorem dX9_laysAt_105 : decode cX9_laysAt 105 = .ok (.iload 4, 2) := by decide +kernel
theorem dX9_laysAt_107 : decode cX9_laysAt 107 = .ok (.iconst 1, 1) := by decide +kernel
theorem dX9_laysAt_108 : decode cX9_laysAt 108 = .ok (.iadd, 1) := by decide +kernel
theorem dX9_laysAt_109 : decode cX9_laysAt 109 = .ok (.iaload, 1) := by decide +kernel
theorem dX9_laysAt_110 : decode cX9_laysAt 110 = .ok (.aload_n 0, 1) := by decide +kernel
theorem dX9_laysAt_111 : decode cX9_laysAt 111 = .ok (.getfield 25, 3) := by decide +kernel
theorem dX9_laysAt_114 : decode cX9_laysAt 114 = .ok (.iload 4, 2) := by decide +kernel
theorem dX9_laysAt_116 : decode cX9_laysAt 116 = .ok (.iconst 2, 1) := by decide +kernel
theorem dX9_laysAt_117 : decode cX9_laysAt 117 = .ok (.iadd, 1) := by decide +kernel
theorem dX9_laysAt_118 : decode cX9_laysAt 118 = .ok (.iaload, 1) := by decide +kernel
theorem dX9_laysAt_119 : decode cX9_laysAt 119 = .ok (.iastore, 1) := by decide +kernel
theorem dX9_laysAt_120 : decode cX9_laysAt 120 = .ok (.iinc 3 1, 3) := by decide +kernel
theorem dX9_laysAt_123 : decode cX9_laysAt 123 = .ok (.goto (-71), 3) := by decide +kernel
theorem dX9_laysAt_126 : decode cX9_laysAt 126 = .ok (.aload_n 0, 1) := by decide +kernel
theorem dX9_laysAt_127 : decode cX9_laysAt 127 = .ok (.invokevirtual 253, 3) := by decide +kernel
theorem dX9_laysAt_130 : decode cX9_laysAt 130 = .ok (.return_, 1) := by decide +kernel
theorem bX9_laysAt_0 {d : Nat} {Q : Option jA → jH → Prop} (a0 : Nat) (i1 : Int) (u2 : Option jA) (u3 : Option jA) (u4 : Option jA) (h : jH)
    (e1 : Ex MX9_blockAt (d + 1) [.inr a0, .inl i1] h 0 0 (fun v h2 => V MX9_laysAt (d + 3) 5 [some (.inr a0), some (.inl i1), u2, u3, u4] (v.toList ++ []) h2 0 0 Q))
    (s1 : (jS h a0).1 = 9) :
    V MX9_laysAt (d + 3) 0 [some (.inr a0), some (.inl i1), u2, u3, u4] [] h 0 0 Q := by
  refine V_aload_n (i := 0) dX9_laysAt_0 rfl rfl ?_
  refine V_iload_n (i := 1) dX9_laysAt_1 rfl rfl ?_
  exact V_callV (M := MX9_laysAt) (d := (d + 3)) (mc' := 0) (ms' := 0) (mc := 0) (ms := 0) (As := [.inl i1]) (rest := []) dX9_laysAt_2 tX9_blockAt vX9_blockAt lX9_265 s1 ⟨by decide, rfl⟩ rfl rfl (Nat.le_of_ble_eq_true rfl) (show (d + 1) + 1 ≤ (d + 3) by omega) e1
theorem bX9_laysAt_8 {d : Nat} {Q : Option jA → jH → Prop} (a0 : Nat) (i1 : Int) (i2 : Int) (i3 : Int) (u4 : Option jA) (h : jH)
    (k1 : (6 ≤ i3) → V MX9_laysAt (d + 3) 52 [some (.inr a0), some (.inl i1), some (.inl i2), some (.inl 0), u4] [] h 0 0 Q)
    (s1 : (jS h a0).1 = 9)
    (s2 : (¬ (6 ≤ i3)) → (i2 ≠ ((-9))) → 0 ≤ i2)
    (s3 : (¬ (6 ≤ i3)) → (i2 ≠ ((-9))) → i2 ≤ 6)
    (r1 : (¬ (6 ≤ i3)) → (i2 ≠ ((-9))) → jR ((11 + (33 * i2)) + 3))
    (r2 : (¬ (6 ≤ i3)) → (i2 ≠ ((-9))) → jR (((11 + (33 * i2)) + 3) + i3))
    (s4 : (jS h (jP h a0 9)).1 = 16)
    (s5 : (¬ (6 ≤ i3)) → (i2 ≠ ((-9))) → 0 ≤ ((11 + (33 * i2)) + 3) + i3)
    (s6 : (¬ (6 ≤ i3)) → (i2 ≠ ((-9))) → ((11 + (33 * i2)) + 3) + i3 < ((jS h (jP h a0 9)).2 : Int))
    (s7 : (jS h (jP h a0 38)).1 = 16)
    (s8 : (¬ (6 ≤ i3)) → (i2 ≠ ((-9))) → 0 ≤ i3)
    (s9 : (¬ (6 ≤ i3)) → (i2 ≠ ((-9))) → i3 < ((jS h (jP h a0 38)).2 : Int))
    (r3 : (¬ (6 ≤ i3)) → (i2 ≠ ((-9))) → jR (i3 + 1))
    (k2 : (¬ (6 ≤ i3)) → (i2 ≠ ((-9))) → V MX9_laysAt (d + 3) 8 [some (.inr a0), some (.inl i1), some (.inl i2), some (.inl (i3 + 1)), u4] [] (jsX h (jP h a0 38) ((i3).toNat) (jX h (jP h a0 9) ((((11 + (33 * i2)) + 3) + i3).toNat))) 0 0 Q)
    (s10 : (¬ (6 ≤ i3)) → (i2 = ((-9))) → 0 ≤ i3)
    (s11 : (¬ (6 ≤ i3)) → (i2 = ((-9))) → i3 < ((jS h (jP h a0 38)).2 : Int))
    (r4 : (¬ (6 ≤ i3)) → (i2 = ((-9))) → jR (i3 + 1))
    (k3 : (¬ (6 ≤ i3)) → (i2 = ((-9))) → V MX9_laysAt (d + 3) 8 [some (.inr a0), some (.inl i1), some (.inl i2), some (.inl (i3 + 1)), u4] [] (jsX h (jP h a0 38) ((i3).toNat) ((-7))) 0 0 Q) :
    V MX9_laysAt (d + 3) 8 [some (.inr a0), some (.inl i1), some (.inl i2), some (.inl i3), u4] [] h 0 0 Q := by
  refine V_iload_n (i := 3) dX9_laysAt_8 rfl rfl ?_
  refine V_bipush dX9_laysAt_9 (by decide +kernel) ⟨by decide, by decide⟩ ?_
  refine V_icmp_ge (tgt := 50) dX9_laysAt_11 (by decide) (fun c1 => ?_) (fun c1 => ?_)
  · refine V_iconst dX9_laysAt_50 ⟨by decide, by decide⟩ ?_
    refine V_istore_n (i := 3) dX9_laysAt_51 rfl (by decide) ?_
    exact (k1 c1)
  · refine V_aload_n (i := 0) dX9_laysAt_14 rfl rfl ?_
    refine V_getP dX9_laysAt_15 fX9_65 rfl s1 ?_
    refine V_iload_n (i := 3) dX9_laysAt_18 rfl rfl ?_
    refine V_iload_n (i := 2) dX9_laysAt_19 rfl rfl ?_
    refine V_bipush dX9_laysAt_20 (by decide +kernel) ⟨by decide, by decide⟩ ?_
    refine V_icmp_ne (tgt := 30) dX9_laysAt_22 (by decide) (fun c2 => ?_) (fun c2 => ?_)
    · refine V_aload_n (i := 0) dX9_laysAt_30 rfl rfl ?_
      refine V_getP dX9_laysAt_31 fX9_25 rfl s1 ?_
      refine V_iload_n (i := 2) dX9_laysAt_34 rfl rfl ?_
      refine V_callS (M := MX9_laysAt) (d := (d + 3)) (mc' := 0) (ms' := 0) (mc := 0) (ms := 0) (a := 0) (As := [.inl i2]) (rest := [.inr (jP h a0 9), .inl i3, .inr (jP h a0 38)]) dX9_laysAt_35 tX9_block0 sX9_block0 lX9_256 rfl rfl (Nat.le_of_ble_eq_true rfl) (show d + 1 ≤ (d + 3) by omega) (Ex.mono (pX9_block0 (d := d) (s2 c1 c2) (s3 c1 c2)) ?_)
      intro v h2 hq
      rw [hq.1, hq.2]
      show V MX9_laysAt (d + 3) 38 [some (.inr a0), some (.inl i1), some (.inl i2), some (.inl i3), u4] [.inl (11 + (33 * i2)), .inr (jP h a0 9), .inl i3, .inr (jP h a0 38)] h 0 0 Q
      refine V_iconst dX9_laysAt_38 ⟨by decide, by decide⟩ ?_
      refine V_iadd dX9_laysAt_39 (r1 c1 c2) ?_
      refine V_iload_n (i := 3) dX9_laysAt_40 rfl rfl ?_
      refine V_iadd dX9_laysAt_41 (r2 c1 c2) ?_
      refine V_iald dX9_laysAt_42 s4 (s5 c1 c2) (s6 c1 c2) ?_
      refine V_iast dX9_laysAt_43 s7 (s8 c1 c2) (s9 c1 c2) ?_
      refine V_iinc (i := 3) dX9_laysAt_44 rfl (by decide) (r3 c1 c2) ?_
      refine V_goto (tgt := 8) dX9_laysAt_47 (by decide) ?_
      exact (k2 c1 c2)
    · refine V_bipush dX9_laysAt_25 (by decide +kernel) ⟨by decide, by decide⟩ ?_
      refine V_goto (tgt := 43) dX9_laysAt_27 (by decide) ?_
      refine V_iast dX9_laysAt_43 s7 (s10 c1 c2) (s11 c1 c2) ?_
      refine V_iinc (i := 3) dX9_laysAt_44 rfl (by decide) (r4 c1 c2) ?_
      refine V_goto (tgt := 8) dX9_laysAt_47 (by decide) ?_
      exact (k3 c1 c2)
theorem bX9_laysAt_52 {d : Nat} {Q : Option jA → jH → Prop} (a0 : Nat) (i1 : Int) (i2 : Int) (i3 : Int) (u4 : Option jA) (h : jH)
    (e1 : (i2 = ((-9))) → Ex MX9_laysNodes (d + 2) [.inr a0] h 0 0 (fun v h2 => V MX9_laysAt (d + 3) 130 [some (.inr a0), some (.inl i1), some (.inl i2), some (.inl i3), u4] (v.toList ++ []) h2 0 0 Q))
    (s1 : (jS h a0).1 = 9)
    (s2 : (¬ (i2 = ((-9)))) → 0 ≤ i2)
    (s3 : (¬ (i2 = ((-9)))) → i2 ≤ 6)
    (r1 : (¬ (i2 = ((-9)))) → jR ((11 + (33 * i2)) + 2))
    (s4 : (jS h (jP h a0 9)).1 = 16)
    (s5 : (¬ (i2 = ((-9)))) → 0 ≤ (11 + (33 * i2)) + 2)
    (s6 : (¬ (i2 = ((-9)))) → (11 + (33 * i2)) + 2 < ((jS h (jP h a0 9)).2 : Int))
    (e2 : (¬ (i2 = ((-9)))) → ((jX h (jP h a0 9) (((11 + (33 * i2)) + 2).toNat)) ≤ i3) → Ex MX9_laysNodes (d + 2) [.inr a0] h 0 0 (fun v h2 => V MX9_laysAt (d + 3) 130 [some (.inr a0), some (.inl i1), some (.inl i2), some (.inl i3), u4] (v.toList ++ []) h2 0 0 Q))
    (r2 : (¬ (i2 = ((-9)))) → (¬ ((jX h (jP h a0 9) (((11 + (33 * i2)) + 2).toNat)) ≤ i3)) → jR ((11 + (33 * i2)) + 9))
    (r3 : (¬ (i2 = ((-9)))) → (¬ ((jX h (jP h a0 9) (((11 + (33 * i2)) + 2).toNat)) ≤ i3)) → jR (3 * i3))
    (r4 : (¬ (i2 = ((-9)))) → (¬ ((jX h (jP h a0 9) (((11 + (33 * i2)) + 2).toNat)) ≤ i3)) → jR (((11 + (33 * i2)) + 9) + (3 * i3)))
    (s7 : (¬ (i2 = ((-9)))) → (¬ ((jX h (jP h a0 9) (((11 + (33 * i2)) + 2).toNat)) ≤ i3)) → 0 ≤ ((11 + (33 * i2)) + 9) + (3 * i3))
    (s8 : (¬ (i2 = ((-9)))) → (¬ ((jX h (jP h a0 9) (((11 + (33 * i2)) + 2).toNat)) ≤ i3)) → ((11 + (33 * i2)) + 9) + (3 * i3) < ((jS h (jP h a0 9)).2 : Int))
    (r5 : (¬ (i2 = ((-9)))) → (¬ ((jX h (jP h a0 9) (((11 + (33 * i2)) + 2).toNat)) ≤ i3)) → (i1 < (jX h (jP h a0 9) ((((11 + (33 * i2)) + 9) + (3 * i3)).toNat))) → jR (i3 + 1))
    (k1 : (¬ (i2 = ((-9)))) → (¬ ((jX h (jP h a0 9) (((11 + (33 * i2)) + 2).toNat)) ≤ i3)) → (i1 < (jX h (jP h a0 9) ((((11 + (33 * i2)) + 9) + (3 * i3)).toNat))) → V MX9_laysAt (d + 3) 52 [some (.inr a0), some (.inl i1), some (.inl i2), some (.inl (i3 + 1)), some (.inl (((11 + (33 * i2)) + 9) + (3 * i3)))] [] h 0 0 Q)
    (r6 : (¬ (i2 = ((-9)))) → (¬ ((jX h (jP h a0 9) (((11 + (33 * i2)) + 2).toNat)) ≤ i3)) → (¬ (i1 < (jX h (jP h a0 9) ((((11 + (33 * i2)) + 9) + (3 * i3)).toNat)))) → jR ((((11 + (33 * i2)) + 9) + (3 * i3)) + 1))
    (s9 : (¬ (i2 = ((-9)))) → (¬ ((jX h (jP h a0 9) (((11 + (33 * i2)) + 2).toNat)) ≤ i3)) → (¬ (i1 < (jX h (jP h a0 9) ((((11 + (33 * i2)) + 9) + (3 * i3)).toNat)))) → 0 ≤ (((11 + (33 * i2)) + 9) + (3 * i3)) + 1)
    (s10 : (¬ (i2 = ((-9)))) → (¬ ((jX h (jP h a0 9) (((11 + (33 * i2)) + 2).toNat)) ≤ i3)) → (¬ (i1 < (jX h (jP h a0 9) ((((11 + (33 * i2)) + 9) + (3 * i3)).toNat)))) → (((11 + (33 * i2)) + 9) + (3 * i3)) + 1 < ((jS h (jP h a0 9)).2 : Int))
    (r7 : (¬ (i2 = ((-9)))) → (¬ ((jX h (jP h a0 9) (((11 + (33 * i2)) + 2).toNat)) ≤ i3)) → (¬ (i1 < (jX h (jP h a0 9) ((((11 + (33 * i2)) + 9) + (3 * i3)).toNat)))) → jR ((((11 + (33 * i2)) + 9) + (3 * i3)) + 2))
    (s11 : (¬ (i2 = ((-9)))) → (¬ ((jX h (jP h a0 9) (((11 + (33 * i2)) + 2).toNat)) ≤ i3)) → (¬ (i1 < (jX h (jP h a0 9) ((((11 + (33 * i2)) + 9) + (3 * i3)).toNat)))) → 0 ≤ (((11 + (33 * i2)) + 9) + (3 * i3)) + 2)
    (s12 : (¬ (i2 = ((-9)))) → (¬ ((jX h (jP h a0 9) (((11 + (33 * i2)) + 2).toNat)) ≤ i3)) → (¬ (i1 < (jX h (jP h a0 9) ((((11 + (33 * i2)) + 9) + (3 * i3)).toNat)))) → (((11 + (33 * i2)) + 9) + (3 * i3)) + 2 < ((jS h (jP h a0 9)).2 : Int))
    (s13 : (jS h (jP h a0 38)).1 = 16)
    (s14 : (¬ (i2 = ((-9)))) → (¬ ((jX h (jP h a0 9) (((11 + (33 * i2)) + 2).toNat)) ≤ i3)) → (¬ (i1 < (jX h (jP h a0 9) ((((11 + (33 * i2)) + 9) + (3 * i3)).toNat)))) → 0 ≤ jX h (jP h a0 9) (((((11 + (33 * i2)) + 9) + (3 * i3)) + 1).toNat))
    (s15 : (¬ (i2 = ((-9)))) → (¬ ((jX h (jP h a0 9) (((11 + (33 * i2)) + 2).toNat)) ≤ i3)) → (¬ (i1 < (jX h (jP h a0 9) ((((11 + (33 * i2)) + 9) + (3 * i3)).toNat)))) → jX h (jP h a0 9) (((((11 + (33 * i2)) + 9) + (3 * i3)) + 1).toNat) < ((jS h (jP h a0 38)).2 : Int))
    (r8 : (¬ (i2 = ((-9)))) → (¬ ((jX h (jP h a0 9) (((11 + (33 * i2)) + 2).toNat)) ≤ i3)) → (¬ (i1 < (jX h (jP h a0 9) ((((11 + (33 * i2)) + 9) + (3 * i3)).toNat)))) → jR (i3 + 1))
    (k2 : (¬ (i2 = ((-9)))) → (¬ ((jX h (jP h a0 9) (((11 + (33 * i2)) + 2).toNat)) ≤ i3)) → (¬ (i1 < (jX h (jP h a0 9) ((((11 + (33 * i2)) + 9) + (3 * i3)).toNat)))) → V MX9_laysAt (d + 3) 52 [some (.inr a0), some (.inl i1), some (.inl i2), some (.inl (i3 + 1)), some (.inl (((11 + (33 * i2)) + 9) + (3 * i3)))] [] (jsX h (jP h a0 38) ((jX h (jP h a0 9) (((((11 + (33 * i2)) + 9) + (3 * i3)) + 1).toNat)).toNat) (jX h (jP h a0 9) (((((11 + (33 * i2)) + 9) + (3 * i3)) + 2).toNat))) 0 0 Q) :
    V MX9_laysAt (d + 3) 52 [some (.inr a0), some (.inl i1), some (.inl i2), some (.inl i3), u4] [] h 0 0 Q := by
  refine V_iload_n (i := 2) dX9_laysAt_52 rfl rfl ?_
  refine V_bipush dX9_laysAt_53 (by decide +kernel) ⟨by decide, by decide⟩ ?_
  refine V_icmp_eq (tgt := 126) dX9_laysAt_55 (by decide) (fun c1 => ?_) (fun c1 => ?_)
  · refine V_aload_n (i := 0) dX9_laysAt_126 rfl rfl ?_
    exact V_callV (M := MX9_laysAt) (d := (d + 3)) (mc' := 0) (ms' := 0) (mc := 0) (ms := 0) (As := []) (rest := []) dX9_laysAt_127 tX9_laysNodes vX9_laysNodes lX9_253 s1 ⟨by decide, rfl⟩ rfl rfl (Nat.le_of_ble_eq_true rfl) (show (d + 2) + 1 ≤ (d + 3) by omega) (e1 c1)
  · refine V_iload_n (i := 3) dX9_laysAt_58 rfl rfl ?_
    refine V_aload_n (i := 0) dX9_laysAt_59 rfl rfl ?_
    refine V_getP dX9_laysAt_60 fX9_25 rfl s1 ?_
    refine V_iload_n (i := 2) dX9_laysAt_63 rfl rfl ?_
    refine V_callS (M := MX9_laysAt) (d := (d + 3)) (mc' := 0) (ms' := 0) (mc := 0) (ms := 0) (a := 0) (As := [.inl i2]) (rest := [.inr (jP h a0 9), .inl i3]) dX9_laysAt_64 tX9_block0 sX9_block0 lX9_256 rfl rfl (Nat.le_of_ble_eq_true rfl) (show d + 1 ≤ (d + 3) by omega) (Ex.mono (pX9_block0 (d := d) (s2 c1) (s3 c1)) ?_)
    intro v h2 hq
    rw [hq.1, hq.2]
    show V MX9_laysAt (d + 3) 67 [some (.inr a0), some (.inl i1), some (.inl i2), some (.inl i3), u4] [.inl (11 + (33 * i2)), .inr (jP h a0 9), .inl i3] h 0 0 Q
    refine V_iconst dX9_laysAt_67 ⟨by decide, by decide⟩ ?_
    refine V_iadd dX9_laysAt_68 (r1 c1) ?_
    refine V_iald dX9_laysAt_69 s4 (s5 c1) (s6 c1) ?_
    refine V_icmp_ge (tgt := 126) dX9_laysAt_70 (by decide) (fun c2 => ?_) (fun c2 => ?_)
    · refine V_aload_n (i := 0) dX9_laysAt_126 rfl rfl ?_
      exact V_callV (M := MX9_laysAt) (d := (d + 3)) (mc' := 0) (ms' := 0) (mc := 0) (ms := 0) (As := []) (rest := []) dX9_laysAt_127 tX9_laysNodes vX9_laysNodes lX9_253 s1 ⟨by decide, rfl⟩ rfl rfl (Nat.le_of_ble_eq_true rfl) (show (d + 2) + 1 ≤ (d + 3) by omega) (e2 c1 c2)
    · refine V_iload_n (i := 2) dX9_laysAt_73 rfl rfl ?_
      refine V_callS (M := MX9_laysAt) (d := (d + 3)) (mc' := 0) (ms' := 0) (mc := 0) (ms := 0) (a := 0) (As := [.inl i2]) (rest := []) dX9_laysAt_74 tX9_block0 sX9_block0 lX9_256 rfl rfl (Nat.le_of_ble_eq_true rfl) (show d + 1 ≤ (d + 3) by omega) (Ex.mono (pX9_block0 (d := d) (s2 c1) (s3 c1)) ?_)
      intro v h2 hq
      rw [hq.1, hq.2]
      show V MX9_laysAt (d + 3) 77 [some (.inr a0), some (.inl i1), some (.inl i2), some (.inl i3), u4] [.inl (11 + (33 * i2))] h 0 0 Q
      refine V_bipush dX9_laysAt_77 (by decide +kernel) ⟨by decide, by decide⟩ ?_
      refine V_iadd dX9_laysAt_79 (r2 c1 c2) ?_
      refine V_iconst dX9_laysAt_80 ⟨by decide, by decide⟩ ?_
      refine V_iload_n (i := 3) dX9_laysAt_81 rfl rfl ?_
      refine V_imul dX9_laysAt_82 (r3 c1 c2) ?_
      refine V_iadd dX9_laysAt_83 (r4 c1 c2) ?_
      refine V_istore (i := 4) dX9_laysAt_84 (by decide) ?_
      refine V_aload_n (i := 0) dX9_laysAt_86 rfl rfl ?_
      refine V_getP dX9_laysAt_87 fX9_25 rfl s1 ?_
      refine V_iload (i := 4) dX9_laysAt_90 rfl ?_
      refine V_iald dX9_laysAt_92 s4 (s7 c1 c2) (s8 c1 c2) ?_
      refine V_iload_n (i := 1) dX9_laysAt_93 rfl rfl ?_
      refine V_icmp_gt (tgt := 120) dX9_laysAt_94 (by decide) (fun c3 => ?_) (fun c3 => ?_)
      · refine V_iinc (i := 3) dX9_laysAt_120 rfl (by decide) (r5 c1 c2 c3) ?_
        refine V_goto (tgt := 52) dX9_laysAt_123 (by decide) ?_
        exact (k1 c1 c2 c3)
      · refine V_aload_n (i := 0) dX9_laysAt_97 rfl rfl ?_
        refine V_getP dX9_laysAt_98 fX9_65 rfl s1 ?_
        refine V_aload_n (i := 0) dX9_laysAt_101 rfl rfl ?_
        refine V_getP dX9_laysAt_102 fX9_25 rfl s1 ?_
        refine V_iload (i := 4) dX9_laysAt_105 rfl ?_
        refine V_iconst dX9_laysAt_107 ⟨by decide, by decide⟩ ?_
        refine V_iadd dX9_laysAt_108 (r6 c1 c2 c3) ?_
        refine V_iald dX9_laysAt_109 s4 (s9 c1 c2 c3) (s10 c1 c2 c3) ?_
        refine V_aload_n (i := 0) dX9_laysAt_110 rfl rfl ?_
        refine V_getP dX9_laysAt_111 fX9_25 rfl s1 ?_
        refine V_iload (i := 4) dX9_laysAt_114 rfl ?_
        refine V_iconst dX9_laysAt_116 ⟨by decide, by decide⟩ ?_
        refine V_iadd dX9_laysAt_117 (r7 c1 c2 c3) ?_
        refine V_iald dX9_laysAt_118 s4 (s11 c1 c2 c3) (s12 c1 c2 c3) ?_
        refine V_iast dX9_laysAt_119 s13 (s14 c1 c2 c3) (s15 c1 c2 c3) ?_
        refine V_iinc (i := 3) dX9_laysAt_120 rfl (by decide) (r8 c1 c2 c3) ?_
        refine V_goto (tgt := 52) dX9_laysAt_123 (by decide) ?_
        exact (k2 c1 c2 c3)
theorem bX9_laysAt_5 {d : Nat} {Q : Option jA → jH → Prop} (a0 : Nat) (i1 : Int) (u2 : Option jA) (u3 : Option jA) (u4 : Option jA) (p0 : Int) (h : jH)
    (k1 : V MX9_laysAt (d + 3) 8 [some (.inr a0), some (.inl i1), some (.inl p0), some (.inl 0), u4] [] h 0 0 Q) :
    V MX9_laysAt (d + 3) 5 [some (.inr a0), some (.inl i1), u2, u3, u4] [.inl p0] h 0 0 Q := by
  refine V_istore_n (i := 2) dX9_laysAt_5 rfl (by decide) ?_
  refine V_iconst dX9_laysAt_6 ⟨by decide, by decide⟩ ?_
  refine V_istore_n (i := 3) dX9_laysAt_7 rfl (by decide) ?_
  exact k1
theorem bX9_laysAt_130 {d : Nat} {Q : Option jA → jH → Prop} (a0 : Nat) (i1 : Int) (i2 : Int) (i3 : Int) (u4 : Option jA) (h : jH)
    (q1 : Q none h) :
    V MX9_laysAt (d + 3) 130 [some (.inr a0), some (.inl i1), some (.inl i2), some (.inl i3), u4] [] h 0 0 Q := by
  exact V_ret (v := none) rfl rfl dX9_laysAt_130 trivial rfl q1
theorem dX9_at_0 : decode cX9_at 0 = .ok (.aload_n 0, 1) := by decide +kernel
theorem dX9_at_1 : decode cX9_at 1 = .ok (.iload_n 1, 1) := by decide +kernel
theorem dX9_at_2 : decode cX9_at 2 = .ok (.invokevirtual 250, 3) := by decide +kernel
theorem dX9_at_5 : decode cX9_at 5 = .ok (.ifCond .eq 11, 3) := by decide +kernel
theorem dX9_at_8 : decode cX9_at 8 = .ok (.aload_n 0, 1) := by decide +kernel
theorem dX9_at_9 : decode cX9_at 9 = .ok (.iload_n 2, 1) := by decide +kernel
theorem dX9_at_10 : decode cX9_at 10 = .ok (.invokevirtual 268, 3) := by decide +kernel
theorem dX9_at_13 : decode cX9_at 13 = .ok (.ifCond .ne 5, 3) := by decide +kernel
theorem dX9_at_16 : decode cX9_at 16 = .ok (.iconst (-1), 1) := by decide +kernel
theorem dX9_at_17 : decode cX9_at 17 = .ok (.ireturn, 1) := by decide +kernel
theorem dX9_at_18 : decode cX9_at 18 = .ok (.aload_n 0, 1) := by decide +kernel
theorem dX9_at_19 : decode cX9_at 19 = .ok (.iload_n 2, 1) := by decide +kernel
theorem dX9_at_20 : decode cX9_at 20 = .ok (.invokevirtual 271, 3) := by decide +kernel
theorem dX9_at_23 : decode cX9_at 23 = .ok (.aload_n 0, 1) := by decide +kernel
theorem dX9_at_24 : decode cX9_at 24 = .ok (.getfield 59, 3) := by decide +kernel
theorem dX9_at_27 : decode cX9_at 27 = .ok (.iload_n 1, 1) := by decide +kernel
theorem dX9_at_28 : decode cX9_at 28 = .ok (.iaload, 1) := by decide +kernel
theorem dX9_at_29 : decode cX9_at 29 = .ok (.ireturn, 1) := by decide +kernel
theorem bX9_at_0 {d : Nat} {Q : Option jA → jH → Prop} (a0 : Nat) (i1 : Int) (i2 : Int) (h : jH)
    (s1 : (jS h a0).1 = 9)
    (s2 : 0 ≤ jI h a0 1)
    (s3 : jI h a0 1 ≤ 12)
    (q1 : (¬ (0 ≤ i1 ∧ i1 ≤ (jI h a0 1) - 1)) → Q (some (.inl ((-1)))) h)
    (s4 : (jS h (jP h a0 9)).1 = 16)
    (s5 : (jS h (jP h a0 9)).2 = 209)
    (e1 : (0 ≤ i1 ∧ i1 ≤ (jI h a0 1) - 1) → (0 ≤ i2 ∧ i2 ≤ (jX h (jP h a0 9) 0)) → Ex MX9_laysAt (d + 3) [.inr a0, .inl i2] h 0 0 (fun v h2 => V MX9_at (d + 4) 23 [some (.inr a0), some (.inl i1), some (.inl i2)] (v.toList ++ []) h2 0 0 Q))
    (q2 : (0 ≤ i1 ∧ i1 ≤ (jI h a0 1) - 1) → (¬ (0 ≤ i2 ∧ i2 ≤ (jX h (jP h a0 9) 0))) → Q (some (.inl ((-1)))) h) :
    V MX9_at (d + 4) 0 [some (.inr a0), some (.inl i1), some (.inl i2)] [] h 0 0 Q := by
  refine V_aload_n (i := 0) dX9_at_0 rfl rfl ?_
  refine V_iload_n (i := 1) dX9_at_1 rfl rfl ?_
  refine V_callV (M := MX9_at) (d := (d + 4)) (mc' := 0) (ms' := 0) (mc := 0) (ms := 0) (As := [.inl i1]) (rest := []) dX9_at_2 tX9_isNode vX9_isNode lX9_250 s1 ⟨by decide, rfl⟩ rfl rfl (Nat.le_of_ble_eq_true rfl) (show (d + 1) + 1 ≤ (d + 4) by omega) (Ex.mono (pX9_isNode (d := d) s1 s2 s3) ?_)
  intro v h2 hq
  rw [hq.1, hq.2]
  show V MX9_at (d + 4) 5 [some (.inr a0), some (.inl i1), some (.inl i2)] [.inl (jb (0 ≤ i1 ∧ i1 ≤ (jI h a0 1) - 1))] h 0 0 Q
  refine V_ifb_eq (tgt := 16) dX9_at_5 (by decide) (fun c1 => ?_) (fun c1 => ?_)
  · refine V_iconst dX9_at_16 ⟨by decide, by decide⟩ ?_
    exact V_reti rfl dX9_at_17 (q1 c1)
  · refine V_aload_n (i := 0) dX9_at_8 rfl rfl ?_
    refine V_iload_n (i := 2) dX9_at_9 rfl rfl ?_
    refine V_callV (M := MX9_at) (d := (d + 4)) (mc' := 0) (ms' := 0) (mc := 0) (ms := 0) (As := [.inl i2]) (rest := []) dX9_at_10 tX9_isTime vX9_isTime lX9_268 s1 ⟨by decide, rfl⟩ rfl rfl (Nat.le_of_ble_eq_true rfl) (show (d + 1) + 1 ≤ (d + 4) by omega) (Ex.mono (pX9_isTime (d := d) s1 s4 s5) ?_)
    intro v h2 hq
    rw [hq.1, hq.2]
    show V MX9_at (d + 4) 13 [some (.inr a0), some (.inl i1), some (.inl i2)] [.inl (jb (0 ≤ i2 ∧ i2 ≤ (jX h (jP h a0 9) 0)))] h 0 0 Q
    refine V_ifb_ne (tgt := 18) dX9_at_13 (by decide) (fun c2 => ?_) (fun c2 => ?_)
    · refine V_aload_n (i := 0) dX9_at_18 rfl rfl ?_
      refine V_iload_n (i := 2) dX9_at_19 rfl rfl ?_
      exact V_callV (M := MX9_at) (d := (d + 4)) (mc' := 0) (ms' := 0) (mc := 0) (ms := 0) (As := [.inl i2]) (rest := []) dX9_at_20 tX9_laysAt vX9_laysAt lX9_271 s1 ⟨by decide, rfl⟩ rfl rfl (Nat.le_of_ble_eq_true rfl) (show (d + 3) + 1 ≤ (d + 4) by omega) (e1 c1 c2)
    · refine V_iconst dX9_at_16 ⟨by decide, by decide⟩ ?_
      exact V_reti rfl dX9_at_17 (q2 c1 c2)
theorem bX9_at_23 {d : Nat} {Q : Option jA → jH → Prop} (a0 : Nat) (i1 : Int) (i2 : Int) (h : jH)
    (s1 : (jS h a0).1 = 9)
    (s2 : (jS h (jP h a0 36)).1 = 16)
    (s3 : 0 ≤ i1)
    (s4 : i1 < ((jS h (jP h a0 36)).2 : Int))
    (q1 : Q (some (.inl (jX h (jP h a0 36) ((i1).toNat)))) h) :
    V MX9_at (d + 4) 23 [some (.inr a0), some (.inl i1), some (.inl i2)] [] h 0 0 Q := by
  refine V_aload_n (i := 0) dX9_at_23 rfl rfl ?_
  refine V_getP dX9_at_24 fX9_59 rfl s1 ?_
  refine V_iload_n (i := 1) dX9_at_27 rfl rfl ?_
  refine V_iald dX9_at_28 s2 s3 s4 ?_
  exact V_reti rfl dX9_at_29 q1
theorem dX9_laysTurns_0 : decode cX9_laysTurns 0 = .ok (.iconst 0, 1) := by decide +kernel
theorem dX9_laysTurns_1 : decode cX9_laysTurns 1 = .ok (.istore_n 1, 1) := by decide +kernel
theorem dX9_laysTurns_2 : decode cX9_laysTurns 2 = .ok (.iload_n 1, 1) := by decide +kernel
theorem dX9_laysTurns_3 : decode cX9_laysTurns 3 = .ok (.sipush 1002, 3) := by decide +kernel
theorem dX9_laysTurns_6 : decode cX9_laysTurns 6 = .ok (.if_icmp .ge 24, 3) := by decide +kernel
theorem dX9_laysTurns_9 : decode cX9_laysTurns 9 = .ok (.aload_n 0, 1) := by decide +kernel
theorem dX9_laysTurns_10 : decode cX9_laysTurns 10 = .ok (.getfield 68, 3) := by decide +kernel
theorem dX9_laysTurns_13 : decode cX9_laysTurns 13 = .ok (.iload_n 1, 1) := by decide +kernel
theorem dX9_laysTurns_14 : decode cX9_laysTurns 14 = .ok (.iload_n 1, 1) := by decide +kernel
theorem dX9_laysTurns_15 : decode cX9_laysTurns 15 = .ok (.ifCond .ne 7, 3) := by decide +kernel
theorem dX9_laysTurns_18 : decode cX9_laysTurns 18 = .ok (.iconst 1, 1) := by decide +kernel
theorem dX9_laysTurns_19 : decode cX9_laysTurns 19 = .ok (.goto 4, 3) := by decide +kernel
theorem dX9_laysTurns_22 : decode cX9_laysTurns 22 = .ok (.iconst 0, 1) := by decide +kernel
theorem dX9_laysTurns_23 : decode cX9_laysTurns 23 = .ok (.bastore, 1) := by decide +kernel
theorem dX9_laysTurns_24 : decode cX9_laysTurns 24 = .ok (.iinc 1 1, 3) := by decide +kernel
theorem dX9_laysTurns_27 : decode cX9_laysTurns 27 = .ok (.goto (-25), 3) := by decide +kernel
theorem dX9_laysTurns_30 : decode cX9_laysTurns 30 = .ok (.iconst 0, 1) := by decide +kernel
theorem dX9_laysTurns_31 : decode cX9_laysTurns 31 = .ok (.istore_n 1, 1) := by decide +kernel
theorem dX9_laysTurns_32 : decode cX9_laysTurns 32 = .ok (.iload_n 1, 1) := by decide +kernel
theorem dX9_laysTurns_33 : decode cX9_laysTurns 33 = .ok (.aload_n 0, 1) := by decide +kernel
theorem dX9_laysTurns_34 : decode cX9_laysTurns 34 = .ok (.getfield 25, 3) := by decide +kernel
theorem dX9_laysTurns_37 : decode cX9_laysTurns 37 = .ok (.iconst 3, 1) := by decide +kernel
theorem dX9_laysTurns_38 : decode cX9_laysTurns 38 = .ok (.iaload, 1) := by decide +kernel
theorem dX9_laysTurns_39 : decode cX9_laysTurns 39 = .ok (.if_icmp .ge 94, 3) := by decide +kernel
theorem dX9_laysTurns_42 : decode cX9_laysTurns 42 = .ok (.iload_n 1, 1) := by decide +kernel
theorem dX9_laysTurns_43 : decode cX9_laysTurns 43 = .ok (.invokestatic 256, 3) := by decide +kernel
theorem dX9_laysTurns_46 : decode cX9_laysTurns 46 = .ok (.istore_n 2, 1) := by decide +kernel
theorem dX9_laysTurns_47 : decode cX9_laysTurns 47 = .ok (.aload_n 0, 1) := by decide +kernel
theorem dX9_laysTurns_48 : decode cX9_laysTurns 48 = .ok (.getfield 68, 3) := by decide +kernel
theorem dX9_laysTurns_51 : decode cX9_laysTurns 51 = .ok (.aload_n 0, 1) := by decide +kernel
theorem dX9_laysTurns_52 : decode cX9_laysTurns 52 = .ok (.getfield 25, 3) := by decide +kernel
theorem dX9_laysTurns_55 : decode cX9_laysTurns 55 = .ok (.iload_n 2, 1) := by decide +kernel
theorem dX9_laysTurns_56 : decode cX9_laysTurns 56 = .ok (.iaload, 1) := by decide +kernel
theorem dX9_laysTurns_57 : decode cX9_laysTurns 57 = .ok (.iconst 1, 1) := by decide +kernel
theorem dX9_laysTurns_58 : decode cX9_laysTurns 58 = .ok (.bastore, 1) := by decide +kernel
theorem dX9_laysTurns_59 : decode cX9_laysTurns 59 = .ok (.aload_n 0, 1) := by decide +kernel
theorem dX9_laysTurns_60 : decode cX9_laysTurns 60 = .ok (.getfield 25, 3) := by decide +kernel
theorem dX9_laysTurns_63 : decode cX9_laysTurns 63 = .ok (.iload_n 2, 1) := by decide +kernel
theorem dX9_laysTurns_64 : decode cX9_laysTurns 64 = .ok (.iconst 1, 1) := by decide +kernel
theorem dX9_laysTurns_65 : decode cX9_laysTurns 65 = .ok (.iadd, 1) := by decide +kernel
theorem dX9_laysTurns_66 : decode cX9_laysTurns 66 = .ok (.iaload, 1) := by decide +kernel
theorem dX9_laysTurns_67 : decode cX9_laysTurns 67 = .ok (.bipush (-9), 2) := by decide +kernel
theorem dX9_laysTurns_69 : decode cX9_laysTurns 69 = .ok (.if_icmp .eq 19, 3) := by decide +kernel
theorem dX9_laysTurns_72 : decode cX9_laysTurns 72 = .ok (.aload_n 0, 1) := by decide +kernel
theorem dX9_laysTurns_73 : decode cX9_laysTurns 73 = .ok (.getfield 68, 3) := by decide +kernel
theorem dX9_laysTurns_76 : decode cX9_laysTurns 76 = .ok (.aload_n 0, 1) := by decide +kernel
theorem dX9_laysTurns_77 : decode cX9_laysTurns 77 = .ok (.getfield 25, 3) := by decide +kernel
theorem dX9_laysTurns_80 : decode cX9_laysTurns 80 = .ok (.iload_n 2, 1) := by decide +kernel
theorem dX9_laysTurns_81 : decode cX9_laysTurns 81 = .ok (.iconst 1, 1) := by decide +kernel
theorem dX9_laysTurns_82 : decode cX9_laysTurns 82 = .ok (.iadd, 1) := by decide +kernel
theorem dX9_laysTurns_83 : decode cX9_laysTurns 83 = .ok (.iaload, 1) := by decide +kernel
theorem dX9_laysTurns_84 : decode cX9_laysTurns 84 = .ok (.iconst 1, 1) := by decide +kernel
theorem dX9_laysTurns_85 : decode cX9_laysTurns 85 = .ok (.iadd, 1) := by decide +kernel
theorem dX9_laysTurns_86 : decode cX9_laysTurns 86 = .ok (.iconst 1, 1) := by decide +kernel
theorem dX9_laysTurns_87 : decode cX9_laysTurns 87 = .ok (.bastore, 1) := by decide +kernel
theorem dX9_laysTurns_88 : decode cX9_laysTurns 88 = .ok (.iconst 0, 1) := by decide +kernel
theorem dX9_laysTurns_89 : decode cX9_laysTurns 89 = .ok (.istore_n 3, 1) := by decide +kernel
theorem dX9_laysTurns_90 : decode cX9_laysTurns 90 = .ok (.iload_n 3, 1) := by decide +kernel
theorem dX9_laysTurns_91 : decode cX9_laysTurns 91 = .ok (.aload_n 0, 1) := by decide +kernel
theorem dX9_laysTurns_92 : decode cX9_laysTurns 92 = .ok (.getfield 25, 3) := by decide +kernel
theorem dX9_laysTurns_95 : decode cX9_laysTurns 95 = .ok (.iload_n 2, 1) := by decide +kernel
theorem dX9_laysTurns_96 : decode cX9_laysTurns 96 = .ok (.iconst 2, 1) := by decide +kernel
theorem dX9_laysTurns_97 : decode cX9_laysTurns 97 = .ok (.iadd, 1) := by decide +kernel
theorem dX9_laysTurns_98 : decode cX9_laysTurns 98 = .ok (.iaload, 1) := by decide +kernel
theorem dX9_laysTurns_99 : decode cX9_laysTurns 99 = .ok (.if_icmp .ge 28, 3) := by decide +kernel
theorem dX9_laysTurns_102 : decode cX9_laysTurns 102 = .ok (.aload_n 0, 1) := by decide +kernel
theorem dX9_laysTurns_103 : decode cX9_laysTurns 103 = .ok (.getfield 68, 3) := by decide +kernel
theorem dX9_laysTurns_106 : decode cX9_laysTurns 106 = .ok (.aload_n 0, 1) := by decide +kernel
theorem dX9_laysTurns_107 : decode cX9_laysTurns 107 = .ok (.getfield 25, 3) := by decide +kernel
theorem dX9_laysTurns_110 : decode cX9_laysTurns 110 = .ok (.iload_n 2, 1) := by decide +kernel
theorem dX9_laysTurns_111 : decode cX9_laysTurns 111 = .ok (.bipush 9, 2) := by decide +kernel
theorem dX9_laysTurns_113 : decode cX9_laysTurns 113 = .ok (.iadd, 1) := by decide +kernel
theorem dX9_laysTurns_114 : decode cX9_laysTurns 114 = .ok (.iconst 3, 1) := by decide +kernel
theorem dX9_laysTurns_115 : decode cX9_laysTurns 115 = .ok (.iload_n 3, 1) := by decide +kernel
theorem dX9_laysTurns_116 : decode cX9_laysTurns 116 = .ok (.imul, 1) := by decide +kernel
theorem dX9_laysTurns_117 : decode cX9_laysTurns 117 = .ok (.iadd, 1) := by decide +kernel
theorem dX9_laysTurns_118 : decode cX9_laysTurns 118 = .ok (.iaload, 1) := by decide +kernel
theorem dX9_laysTurns_119 : decode cX9_laysTurns 119 = .ok (.iconst 1, 1) := by decide +kernel
theorem dX9_laysTurns_120 : decode cX9_laysTurns 120 = .ok (.bastore, 1) := by decide +kernel
theorem dX9_laysTurns_121 : decode cX9_laysTurns 121 = .ok (.iinc 3 1, 3) := by decide +kernel
theorem dX9_laysTurns_124 : decode cX9_laysTurns 124 = .ok (.goto (-34), 3) := by decide +kernel
theorem dX9_laysTurns_127 : decode cX9_laysTurns 127 = .ok (.iinc 1 1, 3) := by decide +kernel
theorem dX9_laysTurns_130 : decode cX9_laysTurns 130 = .ok (.goto (-98), 3) := by decide +kernel
theorem dX9_laysTurns_133 : decode cX9_laysTurns 133 = .ok (.return_, 1) := by decide +kernel
theorem bX9_laysTurns_0 {d : Nat} {Q : Option jA → jH → Prop} (a0 : Nat) (u1 : Option jA) (u2 : Option jA) (u3 : Option jA) (h : jH)
    (k1 : V MX9_laysTurns (d + 1) 2 [some (.inr a0), some (.inl 0), u2, u3] [] h 0 0 Q) :
    V MX9_laysTurns (d + 1) 0 [some (.inr a0), u1, u2, u3] [] h 0 0 Q := by
  refine V_iconst dX9_laysTurns_0 ⟨by decide, by decide⟩ ?_
  refine V_istore_n (i := 1) dX9_laysTurns_1 rfl (by decide) ?_
  exact k1
theorem bX9_laysTurns_2 {d : Nat} {Q : Option jA → jH → Prop} (a0 : Nat) (i1 : Int) (u2 : Option jA) (u3 : Option jA) (h : jH)
    (k1 : (1002 ≤ i1) → V MX9_laysTurns (d + 1) 32 [some (.inr a0), some (.inl 0), u2, u3] [] h 0 0 Q)
    (s1 : (jS h a0).1 = 9)
    (s2 : (jS h (jP h a0 39)).1 = 17)
    (s3 : (¬ (1002 ≤ i1)) → (i1 ≠ 0) → 0 ≤ i1)
    (s4 : (¬ (1002 ≤ i1)) → (i1 ≠ 0) → i1 < ((jS h (jP h a0 39)).2 : Int))
    (r1 : (¬ (1002 ≤ i1)) → (i1 ≠ 0) → jR (i1 + 1))
    (k2 : (¬ (1002 ≤ i1)) → (i1 ≠ 0) → V MX9_laysTurns (d + 1) 2 [some (.inr a0), some (.inl (i1 + 1)), u2, u3] [] (jsX h (jP h a0 39) ((i1).toNat) 0) 0 0 Q)
    (s5 : (¬ (1002 ≤ i1)) → (i1 = 0) → 0 ≤ i1)
    (s6 : (¬ (1002 ≤ i1)) → (i1 = 0) → i1 < ((jS h (jP h a0 39)).2 : Int))
    (r2 : (¬ (1002 ≤ i1)) → (i1 = 0) → jR (i1 + 1))
    (k3 : (¬ (1002 ≤ i1)) → (i1 = 0) → V MX9_laysTurns (d + 1) 2 [some (.inr a0), some (.inl (i1 + 1)), u2, u3] [] (jsX h (jP h a0 39) ((i1).toNat) 1) 0 0 Q) :
    V MX9_laysTurns (d + 1) 2 [some (.inr a0), some (.inl i1), u2, u3] [] h 0 0 Q := by
  refine V_iload_n (i := 1) dX9_laysTurns_2 rfl rfl ?_
  refine V_sipush dX9_laysTurns_3 (by decide +kernel) ⟨by decide, by decide⟩ ?_
  refine V_icmp_ge (tgt := 30) dX9_laysTurns_6 (by decide) (fun c1 => ?_) (fun c1 => ?_)
  · refine V_iconst dX9_laysTurns_30 ⟨by decide, by decide⟩ ?_
    refine V_istore_n (i := 1) dX9_laysTurns_31 rfl (by decide) ?_
    exact (k1 c1)
  · refine V_aload_n (i := 0) dX9_laysTurns_9 rfl rfl ?_
    refine V_getP dX9_laysTurns_10 fX9_68 rfl s1 ?_
    refine V_iload_n (i := 1) dX9_laysTurns_13 rfl rfl ?_
    refine V_iload_n (i := 1) dX9_laysTurns_14 rfl rfl ?_
    refine V_if_ne (tgt := 22) dX9_laysTurns_15 (by decide) (fun c2 => ?_) (fun c2 => ?_)
    · refine V_iconst dX9_laysTurns_22 ⟨by decide, by decide⟩ ?_
      refine V_zast dX9_laysTurns_23 s2 (s3 c1 c2) (s4 c1 c2) (by decide) ?_
      refine V_iinc (i := 1) dX9_laysTurns_24 rfl (by decide) (r1 c1 c2) ?_
      refine V_goto (tgt := 2) dX9_laysTurns_27 (by decide) ?_
      exact (k2 c1 c2)
    · refine V_iconst dX9_laysTurns_18 ⟨by decide, by decide⟩ ?_
      refine V_goto (tgt := 23) dX9_laysTurns_19 (by decide) ?_
      refine V_zast dX9_laysTurns_23 s2 (s5 c1 c2) (s6 c1 c2) (by decide) ?_
      refine V_iinc (i := 1) dX9_laysTurns_24 rfl (by decide) (r2 c1 c2) ?_
      refine V_goto (tgt := 2) dX9_laysTurns_27 (by decide) ?_
      exact (k3 c1 c2)
theorem bX9_laysTurns_32 {d : Nat} {Q : Option jA → jH → Prop} (a0 : Nat) (i1 : Int) (u2 : Option jA) (u3 : Option jA) (h : jH)
    (s1 : (jS h a0).1 = 9)
    (s2 : (jS h (jP h a0 9)).1 = 16)
    (s3 : 3 < ((jS h (jP h a0 9)).2 : Int))
    (q1 : ((jX h (jP h a0 9) 3) ≤ i1) → Q none h)
    (s4 : (¬ ((jX h (jP h a0 9) 3) ≤ i1)) → 0 ≤ i1)
    (s5 : (¬ ((jX h (jP h a0 9) 3) ≤ i1)) → i1 ≤ 6)
    (s6 : (¬ ((jX h (jP h a0 9) 3) ≤ i1)) → 0 ≤ 11 + (33 * i1))
    (s7 : (¬ ((jX h (jP h a0 9) 3) ≤ i1)) → 11 + (33 * i1) < ((jS h (jP h a0 9)).2 : Int))
    (s8 : (jS h (jP h a0 39)).1 = 17)
    (s9 : (¬ ((jX h (jP h a0 9) 3) ≤ i1)) → 0 ≤ jX h (jP h a0 9) ((11 + (33 * i1)).toNat))
    (s10 : (¬ ((jX h (jP h a0 9) 3) ≤ i1)) → jX h (jP h a0 9) ((11 + (33 * i1)).toNat) < ((jS h (jP h a0 39)).2 : Int))
    (r1 : (¬ ((jX h (jP h a0 9) 3) ≤ i1)) → jR ((11 + (33 * i1)) + 1))
    (s11 : (¬ ((jX h (jP h a0 9) 3) ≤ i1)) → 0 ≤ (11 + (33 * i1)) + 1)
    (s12 : (¬ ((jX h (jP h a0 9) 3) ≤ i1)) → (11 + (33 * i1)) + 1 < ((jS h (jP h a0 9)).2 : Int))
    (k1 : (¬ ((jX h (jP h a0 9) 3) ≤ i1)) → ((jX (jsX h (jP h a0 39) ((jX h (jP h a0 9) ((11 + (33 * i1)).toNat)).toNat) 1) (jP h a0 9) (((11 + (33 * i1)) + 1).toNat)) = ((-9))) → V MX9_laysTurns (d + 1) 90 [some (.inr a0), some (.inl i1), some (.inl (11 + (33 * i1))), some (.inl 0)] [] (jsX h (jP h a0 39) ((jX h (jP h a0 9) ((11 + (33 * i1)).toNat)).toNat) 1) 0 0 Q)
    (r2 : (¬ ((jX h (jP h a0 9) 3) ≤ i1)) → (¬ ((jX (jsX h (jP h a0 39) ((jX h (jP h a0 9) ((11 + (33 * i1)).toNat)).toNat) 1) (jP h a0 9) (((11 + (33 * i1)) + 1).toNat)) = ((-9)))) → jR ((11 + (33 * i1)) + 1))
    (r3 : (¬ ((jX h (jP h a0 9) 3) ≤ i1)) → (¬ ((jX (jsX h (jP h a0 39) ((jX h (jP h a0 9) ((11 + (33 * i1)).toNat)).toNat) 1) (jP h a0 9) (((11 + (33 * i1)) + 1).toNat)) = ((-9)))) → jR ((jX (jsX h (jP h a0 39) ((jX h (jP h a0 9) ((11 + (33 * i1)).toNat)).toNat) 1) (jP h a0 9) (((11 + (33 * i1)) + 1).toNat)) + 1))
    (s13 : (¬ ((jX h (jP h a0 9) 3) ≤ i1)) → (¬ ((jX (jsX h (jP h a0 39) ((jX h (jP h a0 9) ((11 + (33 * i1)).toNat)).toNat) 1) (jP h a0 9) (((11 + (33 * i1)) + 1).toNat)) = ((-9)))) → 0 ≤ (jX (jsX h (jP h a0 39) ((jX h (jP h a0 9) ((11 + (33 * i1)).toNat)).toNat) 1) (jP h a0 9) (((11 + (33 * i1)) + 1).toNat)) + 1)
    (s14 : (¬ ((jX h (jP h a0 9) 3) ≤ i1)) → (¬ ((jX (jsX h (jP h a0 39) ((jX h (jP h a0 9) ((11 + (33 * i1)).toNat)).toNat) 1) (jP h a0 9) (((11 + (33 * i1)) + 1).toNat)) = ((-9)))) → (jX (jsX h (jP h a0 39) ((jX h (jP h a0 9) ((11 + (33 * i1)).toNat)).toNat) 1) (jP h a0 9) (((11 + (33 * i1)) + 1).toNat)) + 1 < ((jS h (jP h a0 39)).2 : Int))
    (k2 : (¬ ((jX h (jP h a0 9) 3) ≤ i1)) → (¬ ((jX (jsX h (jP h a0 39) ((jX h (jP h a0 9) ((11 + (33 * i1)).toNat)).toNat) 1) (jP h a0 9) (((11 + (33 * i1)) + 1).toNat)) = ((-9)))) → V MX9_laysTurns (d + 1) 90 [some (.inr a0), some (.inl i1), some (.inl (11 + (33 * i1))), some (.inl 0)] [] (jsX (jsX h (jP h a0 39) ((jX h (jP h a0 9) ((11 + (33 * i1)).toNat)).toNat) 1) (jP h a0 39) (((jX (jsX h (jP h a0 39) ((jX h (jP h a0 9) ((11 + (33 * i1)).toNat)).toNat) 1) (jP h a0 9) (((11 + (33 * i1)) + 1).toNat)) + 1).toNat) 1) 0 0 Q) :
    V MX9_laysTurns (d + 1) 32 [some (.inr a0), some (.inl i1), u2, u3] [] h 0 0 Q := by
  refine V_iload_n (i := 1) dX9_laysTurns_32 rfl rfl ?_
  refine V_aload_n (i := 0) dX9_laysTurns_33 rfl rfl ?_
  refine V_getP dX9_laysTurns_34 fX9_25 rfl s1 ?_
  refine V_iconst dX9_laysTurns_37 ⟨by decide, by decide⟩ ?_
  refine V_iald dX9_laysTurns_38 s2 (by decide) s3 ?_
  refine V_icmp_ge (tgt := 133) dX9_laysTurns_39 (by decide) (fun c1 => ?_) (fun c1 => ?_)
  · exact V_ret (v := none) rfl rfl dX9_laysTurns_133 trivial rfl (q1 c1)
  · refine V_iload_n (i := 1) dX9_laysTurns_42 rfl rfl ?_
    refine V_callS (M := MX9_laysTurns) (d := (d + 1)) (mc' := 0) (ms' := 0) (mc := 0) (ms := 0) (a := 0) (As := [.inl i1]) (rest := []) dX9_laysTurns_43 tX9_block0 sX9_block0 lX9_256 rfl rfl (Nat.le_of_ble_eq_true rfl) (show d + 1 ≤ (d + 1) by omega) (Ex.mono (pX9_block0 (d := d) (s4 c1) (s5 c1)) ?_)
    intro v h2 hq
    rw [hq.1, hq.2]
    show V MX9_laysTurns (d + 1) 46 [some (.inr a0), some (.inl i1), u2, u3] [.inl (11 + (33 * i1))] h 0 0 Q
    refine V_istore_n (i := 2) dX9_laysTurns_46 rfl (by decide) ?_
    refine V_aload_n (i := 0) dX9_laysTurns_47 rfl rfl ?_
    refine V_getP dX9_laysTurns_48 fX9_68 rfl s1 ?_
    refine V_aload_n (i := 0) dX9_laysTurns_51 rfl rfl ?_
    refine V_getP dX9_laysTurns_52 fX9_25 rfl s1 ?_
    refine V_iload_n (i := 2) dX9_laysTurns_55 rfl rfl ?_
    refine V_iald dX9_laysTurns_56 s2 (s6 c1) (s7 c1) ?_
    refine V_iconst dX9_laysTurns_57 ⟨by decide, by decide⟩ ?_
    refine V_zast dX9_laysTurns_58 s8 (s9 c1) (s10 c1) (by decide) ?_
    refine V_aload_n (i := 0) dX9_laysTurns_59 rfl rfl ?_
    refine V_getP dX9_laysTurns_60 fX9_25 rfl s1 ?_
    refine V_iload_n (i := 2) dX9_laysTurns_63 rfl rfl ?_
    refine V_iconst dX9_laysTurns_64 ⟨by decide, by decide⟩ ?_
    refine V_iadd dX9_laysTurns_65 (r1 c1) ?_
    refine V_iald dX9_laysTurns_66 s2 (s11 c1) (s12 c1) ?_
    refine V_bipush dX9_laysTurns_67 (by decide +kernel) ⟨by decide, by decide⟩ ?_
    refine V_icmp_eq (tgt := 88) dX9_laysTurns_69 (by decide) (fun c2 => ?_) (fun c2 => ?_)
    · refine V_iconst dX9_laysTurns_88 ⟨by decide, by decide⟩ ?_
      refine V_istore_n (i := 3) dX9_laysTurns_89 rfl (by decide) ?_
      exact (k1 c1 c2)
    · refine V_aload_n (i := 0) dX9_laysTurns_72 rfl rfl ?_
      refine V_getP dX9_laysTurns_73 fX9_68 rfl s1 ?_
      refine V_aload_n (i := 0) dX9_laysTurns_76 rfl rfl ?_
      refine V_getP dX9_laysTurns_77 fX9_25 rfl s1 ?_
      refine V_iload_n (i := 2) dX9_laysTurns_80 rfl rfl ?_
      refine V_iconst dX9_laysTurns_81 ⟨by decide, by decide⟩ ?_
      refine V_iadd dX9_laysTurns_82 (r2 c1 c2) ?_
      refine V_iald dX9_laysTurns_83 s2 (s11 c1) (s12 c1) ?_
      refine V_iconst dX9_laysTurns_84 ⟨by decide, by decide⟩ ?_
      refine V_iadd dX9_laysTurns_85 (r3 c1 c2) ?_
      refine V_iconst dX9_laysTurns_86 ⟨by decide, by decide⟩ ?_
      refine V_zast dX9_laysTurns_87 s8 (s13 c1 c2) (s14 c1 c2) (by decide) ?_
      refine V_iconst dX9_laysTurns_88 ⟨by decide, by decide⟩ ?_
      refine V_istore_n (i := 3) dX9_laysTurns_89 rfl (by decide) ?_
      exact (k2 c1 c2)
theorem bX9_laysTurns_90 {d : Nat} {Q : Option jA → jH → Prop} (a0 : Nat) (i1 : Int) (i2 : Int) (i3 : Int) (h : jH)
    (s1 : (jS h a0).1 = 9)
    (r1 : jR (i2 + 2))
    (s2 : (jS h (jP h a0 9)).1 = 16)
    (s3 : 0 ≤ i2 + 2)
    (s4 : i2 + 2 < ((jS h (jP h a0 9)).2 : Int))
    (r2 : ((jX h (jP h a0 9) ((i2 + 2).toNat)) ≤ i3) → jR (i1 + 1))
    (k1 : ((jX h (jP h a0 9) ((i2 + 2).toNat)) ≤ i3) → V MX9_laysTurns (d + 1) 32 [some (.inr a0), some (.inl (i1 + 1)), some (.inl i2), some (.inl i3)] [] h 0 0 Q)
    (r3 : (¬ ((jX h (jP h a0 9) ((i2 + 2).toNat)) ≤ i3)) → jR (i2 + 9))
    (r4 : (¬ ((jX h (jP h a0 9) ((i2 + 2).toNat)) ≤ i3)) → jR (3 * i3))
    (r5 : (¬ ((jX h (jP h a0 9) ((i2 + 2).toNat)) ≤ i3)) → jR ((i2 + 9) + (3 * i3)))
    (s5 : (¬ ((jX h (jP h a0 9) ((i2 + 2).toNat)) ≤ i3)) → 0 ≤ (i2 + 9) + (3 * i3))
    (s6 : (¬ ((jX h (jP h a0 9) ((i2 + 2).toNat)) ≤ i3)) → (i2 + 9) + (3 * i3) < ((jS h (jP h a0 9)).2 : Int))
    (s7 : (jS h (jP h a0 39)).1 = 17)
    (s8 : (¬ ((jX h (jP h a0 9) ((i2 + 2).toNat)) ≤ i3)) → 0 ≤ jX h (jP h a0 9) (((i2 + 9) + (3 * i3)).toNat))
    (s9 : (¬ ((jX h (jP h a0 9) ((i2 + 2).toNat)) ≤ i3)) → jX h (jP h a0 9) (((i2 + 9) + (3 * i3)).toNat) < ((jS h (jP h a0 39)).2 : Int))
    (r6 : (¬ ((jX h (jP h a0 9) ((i2 + 2).toNat)) ≤ i3)) → jR (i3 + 1))
    (k2 : (¬ ((jX h (jP h a0 9) ((i2 + 2).toNat)) ≤ i3)) → V MX9_laysTurns (d + 1) 90 [some (.inr a0), some (.inl i1), some (.inl i2), some (.inl (i3 + 1))] [] (jsX h (jP h a0 39) ((jX h (jP h a0 9) (((i2 + 9) + (3 * i3)).toNat)).toNat) 1) 0 0 Q) :
    V MX9_laysTurns (d + 1) 90 [some (.inr a0), some (.inl i1), some (.inl i2), some (.inl i3)] [] h 0 0 Q := by
  refine V_iload_n (i := 3) dX9_laysTurns_90 rfl rfl ?_
  refine V_aload_n (i := 0) dX9_laysTurns_91 rfl rfl ?_
  refine V_getP dX9_laysTurns_92 fX9_25 rfl s1 ?_
  refine V_iload_n (i := 2) dX9_laysTurns_95 rfl rfl ?_
  refine V_iconst dX9_laysTurns_96 ⟨by decide, by decide⟩ ?_
  refine V_iadd dX9_laysTurns_97 r1 ?_
  refine V_iald dX9_laysTurns_98 s2 s3 s4 ?_
  refine V_icmp_ge (tgt := 127) dX9_laysTurns_99 (by decide) (fun c1 => ?_) (fun c1 => ?_)
  · refine V_iinc (i := 1) dX9_laysTurns_127 rfl (by decide) (r2 c1) ?_
    refine V_goto (tgt := 32) dX9_laysTurns_130 (by decide) ?_
    exact (k1 c1)
  · refine V_aload_n (i := 0) dX9_laysTurns_102 rfl rfl ?_
    refine V_getP dX9_laysTurns_103 fX9_68 rfl s1 ?_
    refine V_aload_n (i := 0) dX9_laysTurns_106 rfl rfl ?_
    refine V_getP dX9_laysTurns_107 fX9_25 rfl s1 ?_
    refine V_iload_n (i := 2) dX9_laysTurns_110 rfl rfl ?_
    refine V_bipush dX9_laysTurns_111 (by decide +kernel) ⟨by decide, by decide⟩ ?_
    refine V_iadd dX9_laysTurns_113 (r3 c1) ?_
    refine V_iconst dX9_laysTurns_114 ⟨by decide, by decide⟩ ?_
    refine V_iload_n (i := 3) dX9_laysTurns_115 rfl rfl ?_
    refine V_imul dX9_laysTurns_116 (r4 c1) ?_
    refine V_iadd dX9_laysTurns_117 (r5 c1) ?_
    refine V_iald dX9_laysTurns_118 s2 (s5 c1) (s6 c1) ?_
    refine V_iconst dX9_laysTurns_119 ⟨by decide, by decide⟩ ?_
    refine V_zast dX9_laysTurns_120 s7 (s8 c1) (s9 c1) (by decide) ?_
    refine V_iinc (i := 3) dX9_laysTurns_121 rfl (by decide) (r6 c1) ?_
    refine V_goto (tgt := 90) dX9_laysTurns_124 (by decide) ?_
    exact (k2 c1)
theorem dX9_laysLine_0 : decode cX9_laysLine 0 = .ok (.aload_n 0, 1) := by decide +kernel
theorem dX9_laysLine_1 : decode cX9_laysLine 1 = .ok (.invokevirtual 274, 3) := by decide +kernel
theorem dX9_laysLine_4 : decode cX9_laysLine 4 = .ok (.iconst 0, 1) := by decide +kernel
theorem dX9_laysLine_5 : decode cX9_laysLine 5 = .ok (.istore_n 2, 1) := by decide +kernel
theorem dX9_laysLine_6 : decode cX9_laysLine 6 = .ok (.iload_n 2, 1) := by decide +kernel
theorem dX9_laysLine_7 : decode cX9_laysLine 7 = .ok (.aload_n 0, 1) := by decide +kernel
theorem dX9_laysLine_8 : decode cX9_laysLine 8 = .ok (.getfield 25, 3) := by decide +kernel
theorem dX9_laysLine_11 : decode cX9_laysLine 11 = .ok (.iconst 0, 1) := by decide +kernel
theorem dX9_laysLine_12 : decode cX9_laysLine 12 = .ok (.iaload, 1) := by decide +kernel
theorem dX9_laysLine_13 : decode cX9_laysLine 13 = .ok (.if_icmp .gt 35, 3) := by decide +kernel
theorem dX9_laysLine_16 : decode cX9_laysLine 16 = .ok (.aload_n 0, 1) := by decide +kernel
theorem dX9_laysLine_17 : decode cX9_laysLine 17 = .ok (.getfield 68, 3) := by decide +kernel
theorem dX9_laysLine_20 : decode cX9_laysLine 20 = .ok (.iload_n 2, 1) := by decide +kernel
theorem dX9_laysLine_21 : decode cX9_laysLine 21 = .ok (.baload, 1) := by decide +kernel
theorem dX9_laysLine_22 : decode cX9_laysLine 22 = .ok (.ifCond .eq 8, 3) := by decide +kernel
theorem dX9_laysLine_25 : decode cX9_laysLine 25 = .ok (.aload_n 0, 1) := by decide +kernel
theorem dX9_laysLine_26 : decode cX9_laysLine 26 = .ok (.iload_n 2, 1) := by decide +kernel
theorem dX9_laysLine_27 : decode cX9_laysLine 27 = .ok (.invokevirtual 271, 3) := by decide +kernel
theorem dX9_laysLine_30 : decode cX9_laysLine 30 = .ok (.aload_n 0, 1) := by decide +kernel
theorem dX9_laysLine_31 : decode cX9_laysLine 31 = .ok (.getfield 71, 3) := by decide +kernel
theorem dX9_laysLine_34 : decode cX9_laysLine 34 = .ok (.iload_n 2, 1) := by decide +kernel
theorem dX9_laysLine_35 : decode cX9_laysLine 35 = .ok (.aload_n 0, 1) := by decide +kernel
theorem dX9_laysLine_36 : decode cX9_laysLine 36 = .ok (.getfield 59, 3) := by decide +kernel
theorem dX9_laysLine_39 : decode cX9_laysLine 39 = .ok (.iload_n 1, 1) := by decide +kernel
theorem dX9_laysLine_40 : decode cX9_laysLine 40 = .ok (.iaload, 1) := by decide +kernel
theorem dX9_laysLine_41 : decode cX9_laysLine 41 = .ok (.iastore, 1) := by decide +kernel
theorem dX9_laysLine_42 : decode cX9_laysLine 42 = .ok (.iinc 2 1, 3) := by decide +kernel
theorem dX9_laysLine_45 : decode cX9_laysLine 45 = .ok (.goto (-39), 3) := by decide +kernel
theorem dX9_laysLine_48 : decode cX9_laysLine 48 = .ok (.return_, 1) := by decide +kernel
theorem bX9_laysLine_0 {d : Nat} {Q : Option jA → jH → Prop} (a0 : Nat) (i1 : Int) (u2 : Option jA) (h : jH)
    (e1 : Ex MX9_laysTurns (d + 1) [.inr a0] h 0 0 (fun v h2 => V MX9_laysLine (d + 4) 4 [some (.inr a0), some (.inl i1), u2] (v.toList ++ []) h2 0 0 Q))
    (s1 : (jS h a0).1 = 9) :
    V MX9_laysLine (d + 4) 0 [some (.inr a0), some (.inl i1), u2] [] h 0 0 Q := by
  refine V_aload_n (i := 0) dX9_laysLine_0 rfl rfl ?_
  exact V_callV (M := MX9_laysLine) (d := (d + 4)) (mc' := 0) (ms' := 0) (mc := 0) (ms := 0) (As := []) (rest := []) dX9_laysLine_1 tX9_laysTurns vX9_laysTurns lX9_274 s1 ⟨by decide, rfl⟩ rfl rfl (Nat.le_of_ble_eq_true rfl) (show (d + 1) + 1 ≤ (d + 4) by omega) e1
theorem bX9_laysLine_6 {d : Nat} {Q : Option jA → jH → Prop} (a0 : Nat) (i1 : Int) (i2 : Int) (h : jH)
    (s1 : (jS h a0).1 = 9)
    (s2 : (jS h (jP h a0 9)).1 = 16)
    (s3 : 0 < ((jS h (jP h a0 9)).2 : Int))
    (q1 : ((jX h (jP h a0 9) 0) < i2) → Q none h)
    (s4 : (jS h (jP h a0 39)).1 = 17)
    (s5 : (¬ ((jX h (jP h a0 9) 0) < i2)) → 0 ≤ i2)
    (s6 : (¬ ((jX h (jP h a0 9) 0) < i2)) → i2 < ((jS h (jP h a0 39)).2 : Int))
    (s7 : (jS h (jP h a0 36)).1 = 16)
    (s8 : (¬ ((jX h (jP h a0 9) 0) < i2)) → ((jX h (jP h a0 39) ((i2).toNat)) = 0) → 0 ≤ i1)
    (s9 : (¬ ((jX h (jP h a0 9) 0) < i2)) → ((jX h (jP h a0 39) ((i2).toNat)) = 0) → i1 < ((jS h (jP h a0 36)).2 : Int))
    (s10 : (jS h (jP h a0 40)).1 = 16)
    (s11 : (¬ ((jX h (jP h a0 9) 0) < i2)) → ((jX h (jP h a0 39) ((i2).toNat)) = 0) → i2 < ((jS h (jP h a0 40)).2 : Int))
    (r1 : (¬ ((jX h (jP h a0 9) 0) < i2)) → ((jX h (jP h a0 39) ((i2).toNat)) = 0) → jR (i2 + 1))
    (k1 : (¬ ((jX h (jP h a0 9) 0) < i2)) → ((jX h (jP h a0 39) ((i2).toNat)) = 0) → V MX9_laysLine (d + 4) 6 [some (.inr a0), some (.inl i1), some (.inl (i2 + 1))] [] (jsX h (jP h a0 40) ((i2).toNat) (jX h (jP h a0 36) ((i1).toNat))) 0 0 Q)
    (e1 : (¬ ((jX h (jP h a0 9) 0) < i2)) → (¬ ((jX h (jP h a0 39) ((i2).toNat)) = 0)) → Ex MX9_laysAt (d + 3) [.inr a0, .inl i2] h 0 0 (fun v h2 => V MX9_laysLine (d + 4) 30 [some (.inr a0), some (.inl i1), some (.inl i2)] (v.toList ++ []) h2 0 0 Q)) :
    V MX9_laysLine (d + 4) 6 [some (.inr a0), some (.inl i1), some (.inl i2)] [] h 0 0 Q := by
  refine V_iload_n (i := 2) dX9_laysLine_6 rfl rfl ?_
  refine V_aload_n (i := 0) dX9_laysLine_7 rfl rfl ?_
  refine V_getP dX9_laysLine_8 fX9_25 rfl s1 ?_
  refine V_iconst dX9_laysLine_11 ⟨by decide, by decide⟩ ?_
  refine V_iald dX9_laysLine_12 s2 (by decide) s3 ?_
  refine V_icmp_gt (tgt := 48) dX9_laysLine_13 (by decide) (fun c1 => ?_) (fun c1 => ?_)
  · exact V_ret (v := none) rfl rfl dX9_laysLine_48 trivial rfl (q1 c1)
  · refine V_aload_n (i := 0) dX9_laysLine_16 rfl rfl ?_
    refine V_getP dX9_laysLine_17 fX9_68 rfl s1 ?_
    refine V_iload_n (i := 2) dX9_laysLine_20 rfl rfl ?_
    refine V_zald dX9_laysLine_21 s4 (s5 c1) (s6 c1) ?_
    refine V_if_eq (tgt := 30) dX9_laysLine_22 (by decide) (fun c2 => ?_) (fun c2 => ?_)
    · refine V_aload_n (i := 0) dX9_laysLine_30 rfl rfl ?_
      refine V_getP dX9_laysLine_31 fX9_71 rfl s1 ?_
      refine V_iload_n (i := 2) dX9_laysLine_34 rfl rfl ?_
      refine V_aload_n (i := 0) dX9_laysLine_35 rfl rfl ?_
      refine V_getP dX9_laysLine_36 fX9_59 rfl s1 ?_
      refine V_iload_n (i := 1) dX9_laysLine_39 rfl rfl ?_
      refine V_iald dX9_laysLine_40 s7 (s8 c1 c2) (s9 c1 c2) ?_
      refine V_iast dX9_laysLine_41 s10 (s5 c1) (s11 c1 c2) ?_
      refine V_iinc (i := 2) dX9_laysLine_42 rfl (by decide) (r1 c1 c2) ?_
      refine V_goto (tgt := 6) dX9_laysLine_45 (by decide) ?_
      exact (k1 c1 c2)
    · refine V_aload_n (i := 0) dX9_laysLine_25 rfl rfl ?_
      refine V_iload_n (i := 2) dX9_laysLine_26 rfl rfl ?_
      exact V_callV (M := MX9_laysLine) (d := (d + 4)) (mc' := 0) (ms' := 0) (mc := 0) (ms := 0) (As := [.inl i2]) (rest := []) dX9_laysLine_27 tX9_laysAt vX9_laysAt lX9_271 s1 ⟨by decide, rfl⟩ rfl rfl (Nat.le_of_ble_eq_true rfl) (show (d + 3) + 1 ≤ (d + 4) by omega) (e1 c1 c2)
theorem bX9_laysLine_4 {d : Nat} {Q : Option jA → jH → Prop} (a0 : Nat) (i1 : Int) (u2 : Option jA) (h : jH)
    (k1 : V MX9_laysLine (d + 4) 6 [some (.inr a0), some (.inl i1), some (.inl 0)] [] h 0 0 Q) :
    V MX9_laysLine (d + 4) 4 [some (.inr a0), some (.inl i1), u2] [] h 0 0 Q := by
  refine V_iconst dX9_laysLine_4 ⟨by decide, by decide⟩ ?_
  refine V_istore_n (i := 2) dX9_laysLine_5 rfl (by decide) ?_
  exact k1
theorem bX9_laysLine_30 {d : Nat} {Q : Option jA → jH → Prop} (a0 : Nat) (i1 : Int) (i2 : Int) (h : jH)
    (s1 : (jS h a0).1 = 9)
    (s2 : (jS h (jP h a0 36)).1 = 16)
    (s3 : 0 ≤ i1)
    (s4 : i1 < ((jS h (jP h a0 36)).2 : Int))
    (s5 : (jS h (jP h a0 40)).1 = 16)
    (s6 : 0 ≤ i2)
    (s7 : i2 < ((jS h (jP h a0 40)).2 : Int))
    (r1 : jR (i2 + 1))
    (k1 : V MX9_laysLine (d + 4) 6 [some (.inr a0), some (.inl i1), some (.inl (i2 + 1))] [] (jsX h (jP h a0 40) ((i2).toNat) (jX h (jP h a0 36) ((i1).toNat))) 0 0 Q) :
    V MX9_laysLine (d + 4) 30 [some (.inr a0), some (.inl i1), some (.inl i2)] [] h 0 0 Q := by
  refine V_aload_n (i := 0) dX9_laysLine_30 rfl rfl ?_
  refine V_getP dX9_laysLine_31 fX9_71 rfl s1 ?_
  refine V_iload_n (i := 2) dX9_laysLine_34 rfl rfl ?_
  refine V_aload_n (i := 0) dX9_laysLine_35 rfl rfl ?_
  refine V_getP dX9_laysLine_36 fX9_59 rfl s1 ?_
  refine V_iload_n (i := 1) dX9_laysLine_39 rfl rfl ?_
  refine V_iald dX9_laysLine_40 s2 s3 s4 ?_
  refine V_iast dX9_laysLine_41 s5 s6 s7 ?_
  refine V_iinc (i := 2) dX9_laysLine_42 rfl (by decide) r1 ?_
  refine V_goto (tgt := 6) dX9_laysLine_45 (by decide) ?_
  exact k1
theorem dX9_isEdge_0 : decode cX9_isEdge 0 = .ok (.iload_n 1, 1) := by decide +kernel
theorem dX9_isEdge_1 : decode cX9_isEdge 1 = .ok (.iconst 1, 1) := by decide +kernel
theorem dX9_isEdge_2 : decode cX9_isEdge 2 = .ok (.if_icmp .lt 44, 3) := by decide +kernel
theorem dX9_isEdge_5 : decode cX9_isEdge 5 = .ok (.aload_n 0, 1) := by decide +kernel
theorem dX9_isEdge_6 : decode cX9_isEdge 6 = .ok (.getfield 71, 3) := by decide +kernel
theorem dX9_isEdge_9 : decode cX9_isEdge 9 = .ok (.iload_n 1, 1) := by decide +kernel
theorem dX9_isEdge_10 : decode cX9_isEdge 10 = .ok (.iconst 1, 1) := by decide +kernel
theorem dX9_isEdge_11 : decode cX9_isEdge 11 = .ok (.isub, 1) := by decide +kernel
theorem dX9_isEdge_12 : decode cX9_isEdge 12 = .ok (.iaload, 1) := by decide +kernel
theorem dX9_isEdge_13 : decode cX9_isEdge 13 = .ok (.bipush (-7), 2) := by decide +kernel
theorem dX9_isEdge_15 : decode cX9_isEdge 15 = .ok (.if_icmp .eq 31, 3) := by decide +kernel
theorem dX9_isEdge_18 : decode cX9_isEdge 18 = .ok (.aload_n 0, 1) := by decide +kernel
theorem dX9_isEdge_19 : decode cX9_isEdge 19 = .ok (.getfield 71, 3) := by decide +kernel
theorem dX9_isEdge_22 : decode cX9_isEdge 22 = .ok (.iload_n 1, 1) := by decide +kernel
theorem dX9_isEdge_23 : decode cX9_isEdge 23 = .ok (.iaload, 1) := by decide +kernel
theorem dX9_isEdge_24 : decode cX9_isEdge 24 = .ok (.bipush (-7), 2) := by decide +kernel
theorem dX9_isEdge_26 : decode cX9_isEdge 26 = .ok (.if_icmp .eq 20, 3) := by decide +kernel
theorem dX9_isEdge_29 : decode cX9_isEdge 29 = .ok (.aload_n 0, 1) := by decide +kernel
theorem dX9_isEdge_30 : decode cX9_isEdge 30 = .ok (.getfield 71, 3) := by decide +kernel
theorem dX9_isEdge_33 : decode cX9_isEdge 33 = .ok (.iload_n 1, 1) := by decide +kernel
theorem dX9_isEdge_34 : decode cX9_isEdge 34 = .ok (.iaload, 1) := by decide +kernel
theorem dX9_isEdge_35 : decode cX9_isEdge 35 = .ok (.aload_n 0, 1) := by decide +kernel
theorem dX9_isEdge_36 : decode cX9_isEdge 36 = .ok (.getfield 71, 3) := by decide +kernel
theorem dX9_isEdge_39 : decode cX9_isEdge 39 = .ok (.iload_n 1, 1) := by decide +kernel
theorem dX9_isEdge_40 : decode cX9_isEdge 40 = .ok (.iconst 1, 1) := by decide +kernel
theorem dX9_isEdge_41 : decode cX9_isEdge 41 = .ok (.isub, 1) := by decide +kernel
theorem dX9_isEdge_42 : decode cX9_isEdge 42 = .ok (.iaload, 1) := by decide +kernel
theorem dX9_isEdge_43 : decode cX9_isEdge 43 = .ok (.if_icmp .ne 5, 3) := by decide +kernel
theorem dX9_isEdge_46 : decode cX9_isEdge 46 = .ok (.iconst 0, 1) := by decide +kernel
theorem dX9_isEdge_47 : decode cX9_isEdge 47 = .ok (.ireturn, 1) := by decide +kernel
theorem dX9_isEdge_48 : decode cX9_isEdge 48 = .ok (.iload_n 2, 1) := by decide +kernel
theorem dX9_isEdge_49 : decode cX9_isEdge 49 = .ok (.ifCond .eq 38, 3) := by decide +kernel
theorem dX9_isEdge_52 : decode cX9_isEdge 52 = .ok (.iload_n 2, 1) := by decide +kernel
theorem dX9_isEdge_53 : decode cX9_isEdge 53 = .ok (.iconst 1, 1) := by decide +kernel
theorem dX9_isEdge_54 : decode cX9_isEdge 54 = .ok (.if_icmp .ne 7, 3) := by decide +kernel
theorem dX9_isEdge_57 : decode cX9_isEdge 57 = .ok (.iconst 1, 1) := by decide +kernel
theorem dX9_isEdge_58 : decode cX9_isEdge 58 = .ok (.goto 4, 3) := by decide +kernel
theorem dX9_isEdge_61 : decode cX9_isEdge 61 = .ok (.iconst 0, 1) := by decide +kernel
theorem dX9_isEdge_62 : decode cX9_isEdge 62 = .ok (.aload_n 0, 1) := by decide +kernel
theorem dX9_isEdge_63 : decode cX9_isEdge 63 = .ok (.getfield 71, 3) := by decide +kernel
theorem dX9_isEdge_66 : decode cX9_isEdge 66 = .ok (.iload_n 1, 1) := by decide +kernel
theorem dX9_isEdge_67 : decode cX9_isEdge 67 = .ok (.iaload, 1) := by decide +kernel
theorem dX9_isEdge_68 : decode cX9_isEdge 68 = .ok (.aload_n 0, 1) := by decide +kernel
theorem dX9_isEdge_69 : decode cX9_isEdge 69 = .ok (.getfield 71, 3) := by decide +kernel
theorem dX9_isEdge_72 : decode cX9_isEdge 72 = .ok (.iload_n 1, 1) := by decide +kernel
theorem dX9_isEdge_73 : decode cX9_isEdge 73 = .ok (.iconst 1, 1) := by decide +kernel
theorem dX9_isEdge_74 : decode cX9_isEdge 74 = .ok (.isub, 1) := by decide +kernel
theorem dX9_isEdge_75 : decode cX9_isEdge 75 = .ok (.iaload, 1) := by decide +kernel
theorem dX9_isEdge_76 : decode cX9_isEdge 76 = .ok (.if_icmp .le 7, 3) := by decide +kernel
theorem dX9_isEdge_79 : decode cX9_isEdge 79 = .ok (.iconst 1, 1) := by decide +kernel
theorem dX9_isEdge_80 : decode cX9_isEdge 80 = .ok (.goto 4, 3) := by decide +kernel
theorem dX9_isEdge_83 : decode cX9_isEdge 83 = .ok (.iconst 0, 1) := by decide +kernel
theorem dX9_isEdge_84 : decode cX9_isEdge 84 = .ok (.if_icmp .ne 7, 3) := by decide +kernel
theorem dX9_isEdge_87 : decode cX9_isEdge 87 = .ok (.iconst 1, 1) := by decide +kernel
theorem dX9_isEdge_88 : decode cX9_isEdge 88 = .ok (.goto 4, 3) := by decide +kernel
theorem dX9_isEdge_91 : decode cX9_isEdge 91 = .ok (.iconst 0, 1) := by decide +kernel
theorem dX9_isEdge_92 : decode cX9_isEdge 92 = .ok (.ireturn, 1) := by decide +kernel
theorem bX9_isEdge_0 {d : Nat} {Q : Option jA → jH → Prop} (a0 : Nat) (i1 : Int) (i2 : Int) (h : jH)
    (q1 : (i1 < 1) → Q (some (.inl 0)) h)
    (s1 : (jS h a0).1 = 9)
    (r1 : (¬ (i1 < 1)) → jR (i1 - 1))
    (s2 : (jS h (jP h a0 40)).1 = 16)
    (s3 : (¬ (i1 < 1)) → 0 ≤ i1 - 1)
    (s4 : (¬ (i1 < 1)) → i1 - 1 < ((jS h (jP h a0 40)).2 : Int))
    (q2 : (¬ (i1 < 1)) → ((jX h (jP h a0 40) ((i1 - 1).toNat)) = ((-7))) → Q (some (.inl 0)) h)
    (s5 : (¬ (i1 < 1)) → (¬ ((jX h (jP h a0 40) ((i1 - 1).toNat)) = ((-7)))) → 0 ≤ i1)
    (s6 : (¬ (i1 < 1)) → (¬ ((jX h (jP h a0 40) ((i1 - 1).toNat)) = ((-7)))) → i1 < ((jS h (jP h a0 40)).2 : Int))
    (q3 : (¬ (i1 < 1)) → (¬ ((jX h (jP h a0 40) ((i1 - 1).toNat)) = ((-7)))) → ((jX h (jP h a0 40) ((i1).toNat)) = ((-7))) → Q (some (.inl 0)) h)
    (r2 : (¬ (i1 < 1)) → (¬ ((jX h (jP h a0 40) ((i1 - 1).toNat)) = ((-7)))) → (¬ ((jX h (jP h a0 40) ((i1).toNat)) = ((-7)))) → jR (i1 - 1))
    (q4 : (¬ (i1 < 1)) → (¬ ((jX h (jP h a0 40) ((i1 - 1).toNat)) = ((-7)))) → (¬ ((jX h (jP h a0 40) ((i1).toNat)) = ((-7)))) → ((jX h (jP h a0 40) ((i1).toNat)) ≠ (jX h (jP h a0 40) ((i1 - 1).toNat))) → (i2 = 0) → Q (some (.inl 1)) h)
    (r3 : (¬ (i1 < 1)) → (¬ ((jX h (jP h a0 40) ((i1 - 1).toNat)) = ((-7)))) → (¬ ((jX h (jP h a0 40) ((i1).toNat)) = ((-7)))) → ((jX h (jP h a0 40) ((i1).toNat)) ≠ (jX h (jP h a0 40) ((i1 - 1).toNat))) → (¬ (i2 = 0)) → (i2 ≠ 1) → jR (i1 - 1))
    (q5 : (¬ (i1 < 1)) → (¬ ((jX h (jP h a0 40) ((i1 - 1).toNat)) = ((-7)))) → (¬ ((jX h (jP h a0 40) ((i1).toNat)) = ((-7)))) → ((jX h (jP h a0 40) ((i1).toNat)) ≠ (jX h (jP h a0 40) ((i1 - 1).toNat))) → (¬ (i2 = 0)) → (i2 ≠ 1) → ((jX h (jP h a0 40) ((i1).toNat)) ≤ (jX h (jP h a0 40) ((i1 - 1).toNat))) → Q (some (.inl 1)) h)
    (q6 : (¬ (i1 < 1)) → (¬ ((jX h (jP h a0 40) ((i1 - 1).toNat)) = ((-7)))) → (¬ ((jX h (jP h a0 40) ((i1).toNat)) = ((-7)))) → ((jX h (jP h a0 40) ((i1).toNat)) ≠ (jX h (jP h a0 40) ((i1 - 1).toNat))) → (¬ (i2 = 0)) → (i2 ≠ 1) → (¬ ((jX h (jP h a0 40) ((i1).toNat)) ≤ (jX h (jP h a0 40) ((i1 - 1).toNat)))) → Q (some (.inl 0)) h)
    (r4 : (¬ (i1 < 1)) → (¬ ((jX h (jP h a0 40) ((i1 - 1).toNat)) = ((-7)))) → (¬ ((jX h (jP h a0 40) ((i1).toNat)) = ((-7)))) → ((jX h (jP h a0 40) ((i1).toNat)) ≠ (jX h (jP h a0 40) ((i1 - 1).toNat))) → (¬ (i2 = 0)) → (i2 = 1) → jR (i1 - 1))
    (q7 : (¬ (i1 < 1)) → (¬ ((jX h (jP h a0 40) ((i1 - 1).toNat)) = ((-7)))) → (¬ ((jX h (jP h a0 40) ((i1).toNat)) = ((-7)))) → ((jX h (jP h a0 40) ((i1).toNat)) ≠ (jX h (jP h a0 40) ((i1 - 1).toNat))) → (¬ (i2 = 0)) → (i2 = 1) → ((jX h (jP h a0 40) ((i1).toNat)) ≤ (jX h (jP h a0 40) ((i1 - 1).toNat))) → Q (some (.inl 0)) h)
    (q8 : (¬ (i1 < 1)) → (¬ ((jX h (jP h a0 40) ((i1 - 1).toNat)) = ((-7)))) → (¬ ((jX h (jP h a0 40) ((i1).toNat)) = ((-7)))) → ((jX h (jP h a0 40) ((i1).toNat)) ≠ (jX h (jP h a0 40) ((i1 - 1).toNat))) → (¬ (i2 = 0)) → (i2 = 1) → (¬ ((jX h (jP h a0 40) ((i1).toNat)) ≤ (jX h (jP h a0 40) ((i1 - 1).toNat)))) → Q (some (.inl 1)) h)
    (q9 : (¬ (i1 < 1)) → (¬ ((jX h (jP h a0 40) ((i1 - 1).toNat)) = ((-7)))) → (¬ ((jX h (jP h a0 40) ((i1).toNat)) = ((-7)))) → ((jX h (jP h a0 40) ((i1).toNat)) = (jX h (jP h a0 40) ((i1 - 1).toNat))) → Q (some (.inl 0)) h) :
    V MX9_isEdge d 0 [some (.inr a0), some (.inl i1), some (.inl i2)] [] h 0 0 Q := by
  refine V_iload_n (i := 1) dX9_isEdge_0 rfl rfl ?_
  refine V_iconst dX9_isEdge_1 ⟨by decide, by decide⟩ ?_
  refine V_icmp_lt (tgt := 46) dX9_isEdge_2 (by decide) (fun c1 => ?_) (fun c1 => ?_)
  · refine V_iconst dX9_isEdge_46 ⟨by decide, by decide⟩ ?_
    exact V_retz rfl dX9_isEdge_47 (by decide) (q1 c1)
  · refine V_aload_n (i := 0) dX9_isEdge_5 rfl rfl ?_
    refine V_getP dX9_isEdge_6 fX9_71 rfl s1 ?_
    refine V_iload_n (i := 1) dX9_isEdge_9 rfl rfl ?_
    refine V_iconst dX9_isEdge_10 ⟨by decide, by decide⟩ ?_
    refine V_isub dX9_isEdge_11 (r1 c1) ?_
    refine V_iald dX9_isEdge_12 s2 (s3 c1) (s4 c1) ?_
    refine V_bipush dX9_isEdge_13 (by decide +kernel) ⟨by decide, by decide⟩ ?_
    refine V_icmp_eq (tgt := 46) dX9_isEdge_15 (by decide) (fun c2 => ?_) (fun c2 => ?_)
    · refine V_iconst dX9_isEdge_46 ⟨by decide, by decide⟩ ?_
      exact V_retz rfl dX9_isEdge_47 (by decide) (q2 c1 c2)
    · refine V_aload_n (i := 0) dX9_isEdge_18 rfl rfl ?_
      refine V_getP dX9_isEdge_19 fX9_71 rfl s1 ?_
      refine V_iload_n (i := 1) dX9_isEdge_22 rfl rfl ?_
      refine V_iald dX9_isEdge_23 s2 (s5 c1 c2) (s6 c1 c2) ?_
      refine V_bipush dX9_isEdge_24 (by decide +kernel) ⟨by decide, by decide⟩ ?_
      refine V_icmp_eq (tgt := 46) dX9_isEdge_26 (by decide) (fun c3 => ?_) (fun c3 => ?_)
      · refine V_iconst dX9_isEdge_46 ⟨by decide, by decide⟩ ?_
        exact V_retz rfl dX9_isEdge_47 (by decide) (q3 c1 c2 c3)
      · refine V_aload_n (i := 0) dX9_isEdge_29 rfl rfl ?_
        refine V_getP dX9_isEdge_30 fX9_71 rfl s1 ?_
        refine V_iload_n (i := 1) dX9_isEdge_33 rfl rfl ?_
        refine V_iald dX9_isEdge_34 s2 (s5 c1 c2) (s6 c1 c2) ?_
        refine V_aload_n (i := 0) dX9_isEdge_35 rfl rfl ?_
        refine V_getP dX9_isEdge_36 fX9_71 rfl s1 ?_
        refine V_iload_n (i := 1) dX9_isEdge_39 rfl rfl ?_
        refine V_iconst dX9_isEdge_40 ⟨by decide, by decide⟩ ?_
        refine V_isub dX9_isEdge_41 (r2 c1 c2 c3) ?_
        refine V_iald dX9_isEdge_42 s2 (s3 c1) (s4 c1) ?_
        refine V_icmp_ne (tgt := 48) dX9_isEdge_43 (by decide) (fun c4 => ?_) (fun c4 => ?_)
        · refine V_iload_n (i := 2) dX9_isEdge_48 rfl rfl ?_
          refine V_if_eq (tgt := 87) dX9_isEdge_49 (by decide) (fun c5 => ?_) (fun c5 => ?_)
          · refine V_iconst dX9_isEdge_87 ⟨by decide, by decide⟩ ?_
            refine V_goto (tgt := 92) dX9_isEdge_88 (by decide) ?_
            exact V_retz rfl dX9_isEdge_92 (by decide) (q4 c1 c2 c3 c4 c5)
          · refine V_iload_n (i := 2) dX9_isEdge_52 rfl rfl ?_
            refine V_iconst dX9_isEdge_53 ⟨by decide, by decide⟩ ?_
            refine V_icmp_ne (tgt := 61) dX9_isEdge_54 (by decide) (fun c6 => ?_) (fun c6 => ?_)
            · refine V_iconst dX9_isEdge_61 ⟨by decide, by decide⟩ ?_
              refine V_aload_n (i := 0) dX9_isEdge_62 rfl rfl ?_
              refine V_getP dX9_isEdge_63 fX9_71 rfl s1 ?_
              refine V_iload_n (i := 1) dX9_isEdge_66 rfl rfl ?_
              refine V_iald dX9_isEdge_67 s2 (s5 c1 c2) (s6 c1 c2) ?_
              refine V_aload_n (i := 0) dX9_isEdge_68 rfl rfl ?_
              refine V_getP dX9_isEdge_69 fX9_71 rfl s1 ?_
              refine V_iload_n (i := 1) dX9_isEdge_72 rfl rfl ?_
              refine V_iconst dX9_isEdge_73 ⟨by decide, by decide⟩ ?_
              refine V_isub dX9_isEdge_74 (r3 c1 c2 c3 c4 c5 c6) ?_
              refine V_iald dX9_isEdge_75 s2 (s3 c1) (s4 c1) ?_
              refine V_icmp_le (tgt := 83) dX9_isEdge_76 (by decide) (fun c7 => ?_) (fun c7 => ?_)
              · refine V_iconst dX9_isEdge_83 ⟨by decide, by decide⟩ ?_
                refine V_icmp_ne (tgt := 91) dX9_isEdge_84 (by decide) (fun c8 => ?_) (fun c8 => ?_)
                · exact absurd c8 (by decide)
                · refine V_iconst dX9_isEdge_87 ⟨by decide, by decide⟩ ?_
                  refine V_goto (tgt := 92) dX9_isEdge_88 (by decide) ?_
                  exact V_retz rfl dX9_isEdge_92 (by decide) (q5 c1 c2 c3 c4 c5 c6 c7)
              · refine V_iconst dX9_isEdge_79 ⟨by decide, by decide⟩ ?_
                refine V_goto (tgt := 84) dX9_isEdge_80 (by decide) ?_
                refine V_icmp_ne (tgt := 91) dX9_isEdge_84 (by decide) (fun c9 => ?_) (fun c9 => ?_)
                · refine V_iconst dX9_isEdge_91 ⟨by decide, by decide⟩ ?_
                  exact V_retz rfl dX9_isEdge_92 (by decide) (q6 c1 c2 c3 c4 c5 c6 c7)
                · exact absurd c9 (by decide)
            · refine V_iconst dX9_isEdge_57 ⟨by decide, by decide⟩ ?_
              refine V_goto (tgt := 62) dX9_isEdge_58 (by decide) ?_
              refine V_aload_n (i := 0) dX9_isEdge_62 rfl rfl ?_
              refine V_getP dX9_isEdge_63 fX9_71 rfl s1 ?_
              refine V_iload_n (i := 1) dX9_isEdge_66 rfl rfl ?_
              refine V_iald dX9_isEdge_67 s2 (s5 c1 c2) (s6 c1 c2) ?_
              refine V_aload_n (i := 0) dX9_isEdge_68 rfl rfl ?_
              refine V_getP dX9_isEdge_69 fX9_71 rfl s1 ?_
              refine V_iload_n (i := 1) dX9_isEdge_72 rfl rfl ?_
              refine V_iconst dX9_isEdge_73 ⟨by decide, by decide⟩ ?_
              refine V_isub dX9_isEdge_74 (r4 c1 c2 c3 c4 c5 c6) ?_
              refine V_iald dX9_isEdge_75 s2 (s3 c1) (s4 c1) ?_
              refine V_icmp_le (tgt := 83) dX9_isEdge_76 (by decide) (fun c10 => ?_) (fun c10 => ?_)
              · refine V_iconst dX9_isEdge_83 ⟨by decide, by decide⟩ ?_
                refine V_icmp_ne (tgt := 91) dX9_isEdge_84 (by decide) (fun c11 => ?_) (fun c11 => ?_)
                · refine V_iconst dX9_isEdge_91 ⟨by decide, by decide⟩ ?_
                  exact V_retz rfl dX9_isEdge_92 (by decide) (q7 c1 c2 c3 c4 c5 c6 c10)
                · exact absurd c11 (by decide)
              · refine V_iconst dX9_isEdge_79 ⟨by decide, by decide⟩ ?_
                refine V_goto (tgt := 84) dX9_isEdge_80 (by decide) ?_
                refine V_icmp_ne (tgt := 91) dX9_isEdge_84 (by decide) (fun c12 => ?_) (fun c12 => ?_)
                · exact absurd c12 (by decide)
                · refine V_iconst dX9_isEdge_87 ⟨by decide, by decide⟩ ?_
                  refine V_goto (tgt := 92) dX9_isEdge_88 (by decide) ?_
                  exact V_retz rfl dX9_isEdge_92 (by decide) (q8 c1 c2 c3 c4 c5 c6 c10)
        · refine V_iconst dX9_isEdge_46 ⟨by decide, by decide⟩ ?_
          exact V_retz rfl dX9_isEdge_47 (by decide) (q9 c1 c2 c3 c4)
theorem dX9_edges_0 : decode cX9_edges 0 = .ok (.aload_n 0, 1) := by decide +kernel
theorem dX9_edges_1 : decode cX9_edges 1 = .ok (.iload_n 1, 1) := by decide +kernel
theorem dX9_edges_2 : decode cX9_edges 2 = .ok (.invokevirtual 250, 3) := by decide +kernel
theorem dX9_edges_5 : decode cX9_edges 5 = .ok (.ifCond .eq 33, 3) := by decide +kernel
theorem dX9_edges_8 : decode cX9_edges 8 = .ok (.iload_n 2, 1) := by decide +kernel
theorem dX9_edges_9 : decode cX9_edges 9 = .ok (.invokestatic 277, 3) := by decide +kernel
theorem dX9_edges_12 : decode cX9_edges 12 = .ok (.ifCond .eq 26, 3) := by decide +kernel
theorem dX9_edges_15 : decode cX9_edges 15 = .ok (.aload_n 0, 1) := by decide +kernel
theorem dX9_edges_16 : decode cX9_edges 16 = .ok (.iload_n 3, 1) := by decide +kernel
theorem dX9_edges_17 : decode cX9_edges 17 = .ok (.invokevirtual 268, 3) := by decide +kernel
theorem dX9_edges_20 : decode cX9_edges 20 = .ok (.ifCond .eq 18, 3) := by decide +kernel
theorem dX9_edges_23 : decode cX9_edges 23 = .ok (.iload 4, 2) := by decide +kernel
theorem dX9_edges_25 : decode cX9_edges 25 = .ok (.iload_n 3, 1) := by decide +kernel
theorem dX9_edges_26 : decode cX9_edges 26 = .ok (.aload_n 0, 1) := by decide +kernel
theorem dX9_edges_27 : decode cX9_edges 27 = .ok (.getfield 25, 3) := by decide +kernel
theorem dX9_edges_30 : decode cX9_edges 30 = .ok (.iconst 0, 1) := by decide +kernel
theorem dX9_edges_31 : decode cX9_edges 31 = .ok (.iaload, 1) := by decide +kernel
theorem dX9_edges_32 : decode cX9_edges 32 = .ok (.invokestatic 95, 3) := by decide +kernel
theorem dX9_edges_35 : decode cX9_edges 35 = .ok (.ifCond .ne 5, 3) := by decide +kernel
theorem dX9_edges_38 : decode cX9_edges 38 = .ok (.iconst (-1), 1) := by decide +kernel
theorem dX9_edges_39 : decode cX9_edges 39 = .ok (.ireturn, 1) := by decide +kernel
theorem dX9_edges_40 : decode cX9_edges 40 = .ok (.aload_n 0, 1) := by decide +kernel
theorem dX9_edges_41 : decode cX9_edges 41 = .ok (.iload_n 1, 1) := by decide +kernel
theorem dX9_edges_42 : decode cX9_edges 42 = .ok (.invokevirtual 280, 3) := by decide +kernel
theorem dX9_edges_45 : decode cX9_edges 45 = .ok (.iconst 0, 1) := by decide +kernel
theorem dX9_edges_46 : decode cX9_edges 46 = .ok (.istore 5, 2) := by decide +kernel
theorem dX9_edges_48 : decode cX9_edges 48 = .ok (.iload_n 3, 1) := by decide +kernel
theorem dX9_edges_49 : decode cX9_edges 49 = .ok (.istore 6, 2) := by decide +kernel
theorem dX9_edges_51 : decode cX9_edges 51 = .ok (.iload 6, 2) := by decide +kernel
theorem dX9_edges_53 : decode cX9_edges 53 = .ok (.iload 4, 2) := by decide +kernel
theorem dX9_edges_55 : decode cX9_edges 55 = .ok (.if_icmp .gt 29, 3) := by decide +kernel
theorem dX9_edges_58 : decode cX9_edges 58 = .ok (.iload 5, 2) := by decide +kernel
theorem dX9_edges_60 : decode cX9_edges 60 = .ok (.aload_n 0, 1) := by decide +kernel
theorem dX9_edges_61 : decode cX9_edges 61 = .ok (.iload 6, 2) := by decide +kernel
theorem dX9_edges_63 : decode cX9_edges 63 = .ok (.iload_n 2, 1) := by decide +kernel
theorem dX9_edges_64 : decode cX9_edges 64 = .ok (.invokevirtual 283, 3) := by decide +kernel
theorem dX9_edges_67 : decode cX9_edges 67 = .ok (.ifCond .eq 7, 3) := by decide +kernel
theorem dX9_edges_70 : decode cX9_edges 70 = .ok (.iconst 1, 1) := by decide +kernel
theorem dX9_edges_71 : decode cX9_edges 71 = .ok (.goto 4, 3) := by decide +kernel
theorem dX9_edges_74 : decode cX9_edges 74 = .ok (.iconst 0, 1) := by decide +kernel
theorem dX9_edges_75 : decode cX9_edges 75 = .ok (.iadd, 1) := by decide +kernel
theorem dX9_edges_76 : decode cX9_edges 76 = .ok (.istore 5, 2) := by decide +kernel
theorem dX9_edges_78 : decode cX9_edges 78 = .ok (.iinc 6 1, 3) := by decide +kernel
theorem dX9_edges_81 : decode cX9_edges 81 = .ok (.goto (-30), 3) := by decide +kernel
theorem dX9_edges_84 : decode cX9_edges 84 = .ok (.iload 5, 2) := by decide +kernel
theorem dX9_edges_86 : decode cX9_edges 86 = .ok (.ireturn, 1) := by decide +kernel
theorem bX9_edges_0 {d : Nat} {Q : Option jA → jH → Prop} (a0 : Nat) (i1 : Int) (i2 : Int) (i3 : Int) (i4 : Int) (u5 : Option jA) (u6 : Option jA) (h : jH)
    (s1 : (jS h a0).1 = 9)
    (s2 : 0 ≤ jI h a0 1)
    (s3 : jI h a0 1 ≤ 12)
    (q1 : (¬ (0 ≤ i1 ∧ i1 ≤ (jI h a0 1) - 1)) → Q (some (.inl ((-1)))) h)
    (q2 : (0 ≤ i1 ∧ i1 ≤ (jI h a0 1) - 1) → (¬ (0 ≤ i2 ∧ i2 ≤ 2)) → Q (some (.inl ((-1)))) h)
    (s4 : (jS h (jP h a0 9)).1 = 16)
    (s5 : (jS h (jP h a0 9)).2 = 209)
    (q3 : (0 ≤ i1 ∧ i1 ≤ (jI h a0 1) - 1) → (0 ≤ i2 ∧ i2 ≤ 2) → (¬ (0 ≤ i3 ∧ i3 ≤ (jX h (jP h a0 9) 0))) → Q (some (.inl ((-1)))) h)
    (s6 : (0 ≤ i1 ∧ i1 ≤ (jI h a0 1) - 1) → (0 ≤ i2 ∧ i2 ≤ 2) → (0 ≤ i3 ∧ i3 ≤ (jX h (jP h a0 9) 0)) → 0 < ((jS h (jP h a0 9)).2 : Int))
    (e1 : (0 ≤ i1 ∧ i1 ≤ (jI h a0 1) - 1) → (0 ≤ i2 ∧ i2 ≤ 2) → (0 ≤ i3 ∧ i3 ≤ (jX h (jP h a0 9) 0)) → (i3 ≤ i4 ∧ i4 ≤ (jX h (jP h a0 9) 0)) → Ex MX9_laysLine (d + 4) [.inr a0, .inl i1] h 0 0 (fun v h2 => V MX9_edges (d + 5) 45 [some (.inr a0), some (.inl i1), some (.inl i2), some (.inl i3), some (.inl i4), u5, u6] (v.toList ++ []) h2 0 0 Q))
    (q4 : (0 ≤ i1 ∧ i1 ≤ (jI h a0 1) - 1) → (0 ≤ i2 ∧ i2 ≤ 2) → (0 ≤ i3 ∧ i3 ≤ (jX h (jP h a0 9) 0)) → (¬ (i3 ≤ i4 ∧ i4 ≤ (jX h (jP h a0 9) 0))) → Q (some (.inl ((-1)))) h) :
    V MX9_edges (d + 5) 0 [some (.inr a0), some (.inl i1), some (.inl i2), some (.inl i3), some (.inl i4), u5, u6] [] h 0 0 Q := by
  refine V_aload_n (i := 0) dX9_edges_0 rfl rfl ?_
  refine V_iload_n (i := 1) dX9_edges_1 rfl rfl ?_
  refine V_callV (M := MX9_edges) (d := (d + 5)) (mc' := 0) (ms' := 0) (mc := 0) (ms := 0) (As := [.inl i1]) (rest := []) dX9_edges_2 tX9_isNode vX9_isNode lX9_250 s1 ⟨by decide, rfl⟩ rfl rfl (Nat.le_of_ble_eq_true rfl) (show (d + 1) + 1 ≤ (d + 5) by omega) (Ex.mono (pX9_isNode (d := d) s1 s2 s3) ?_)
  intro v h2 hq
  rw [hq.1, hq.2]
  show V MX9_edges (d + 5) 5 [some (.inr a0), some (.inl i1), some (.inl i2), some (.inl i3), some (.inl i4), u5, u6] [.inl (jb (0 ≤ i1 ∧ i1 ≤ (jI h a0 1) - 1))] h 0 0 Q
  refine V_ifb_eq (tgt := 38) dX9_edges_5 (by decide) (fun c1 => ?_) (fun c1 => ?_)
  · refine V_iconst dX9_edges_38 ⟨by decide, by decide⟩ ?_
    exact V_reti rfl dX9_edges_39 (q1 c1)
  · refine V_iload_n (i := 2) dX9_edges_8 rfl rfl ?_
    refine V_callS (M := MX9_edges) (d := (d + 5)) (mc' := 0) (ms' := 0) (mc := 0) (ms := 0) (a := 0) (As := [.inl i2]) (rest := []) dX9_edges_9 tX9_isKind sX9_isKind lX9_277 rfl rfl (Nat.le_of_ble_eq_true rfl) (show (d + 1) + 1 ≤ (d + 5) by omega) (Ex.mono (pX9_isKind (d := d) ) ?_)
    intro v h2 hq
    rw [hq.1, hq.2]
    show V MX9_edges (d + 5) 12 [some (.inr a0), some (.inl i1), some (.inl i2), some (.inl i3), some (.inl i4), u5, u6] [.inl (jb (0 ≤ i2 ∧ i2 ≤ 2))] h 0 0 Q
    refine V_ifb_eq (tgt := 38) dX9_edges_12 (by decide) (fun c2 => ?_) (fun c2 => ?_)
    · refine V_iconst dX9_edges_38 ⟨by decide, by decide⟩ ?_
      exact V_reti rfl dX9_edges_39 (q2 c1 c2)
    · refine V_aload_n (i := 0) dX9_edges_15 rfl rfl ?_
      refine V_iload_n (i := 3) dX9_edges_16 rfl rfl ?_
      refine V_callV (M := MX9_edges) (d := (d + 5)) (mc' := 0) (ms' := 0) (mc := 0) (ms := 0) (As := [.inl i3]) (rest := []) dX9_edges_17 tX9_isTime vX9_isTime lX9_268 s1 ⟨by decide, rfl⟩ rfl rfl (Nat.le_of_ble_eq_true rfl) (show (d + 1) + 1 ≤ (d + 5) by omega) (Ex.mono (pX9_isTime (d := d) s1 s4 s5) ?_)
      intro v h2 hq
      rw [hq.1, hq.2]
      show V MX9_edges (d + 5) 20 [some (.inr a0), some (.inl i1), some (.inl i2), some (.inl i3), some (.inl i4), u5, u6] [.inl (jb (0 ≤ i3 ∧ i3 ≤ (jX h (jP h a0 9) 0)))] h 0 0 Q
      refine V_ifb_eq (tgt := 38) dX9_edges_20 (by decide) (fun c3 => ?_) (fun c3 => ?_)
      · refine V_iconst dX9_edges_38 ⟨by decide, by decide⟩ ?_
        exact V_reti rfl dX9_edges_39 (q3 c1 c2 c3)
      · refine V_iload (i := 4) dX9_edges_23 rfl ?_
        refine V_iload_n (i := 3) dX9_edges_25 rfl rfl ?_
        refine V_aload_n (i := 0) dX9_edges_26 rfl rfl ?_
        refine V_getP dX9_edges_27 fX9_25 rfl s1 ?_
        refine V_iconst dX9_edges_30 ⟨by decide, by decide⟩ ?_
        refine V_iald dX9_edges_31 s4 (by decide) (s6 c1 c2 c3) ?_
        refine V_callS (M := MX9_edges) (d := (d + 5)) (mc' := 0) (ms' := 0) (mc := 0) (ms := 0) (a := 0) (As := [.inl i4, .inl i3, .inl (jX h (jP h a0 9) 0)]) (rest := []) dX9_edges_32 tX9_in sX9_in lX9_95 rfl rfl (Nat.le_of_ble_eq_true rfl) (show d + 1 ≤ (d + 5) by omega) (Ex.mono (pX9_in (d := d) ) ?_)
        intro v h2 hq
        rw [hq.1, hq.2]
        show V MX9_edges (d + 5) 35 [some (.inr a0), some (.inl i1), some (.inl i2), some (.inl i3), some (.inl i4), u5, u6] [.inl (jb (i3 ≤ i4 ∧ i4 ≤ (jX h (jP h a0 9) 0)))] h 0 0 Q
        refine V_ifb_ne (tgt := 40) dX9_edges_35 (by decide) (fun c4 => ?_) (fun c4 => ?_)
        · refine V_aload_n (i := 0) dX9_edges_40 rfl rfl ?_
          refine V_iload_n (i := 1) dX9_edges_41 rfl rfl ?_
          exact V_callV (M := MX9_edges) (d := (d + 5)) (mc' := 0) (ms' := 0) (mc := 0) (ms := 0) (As := [.inl i1]) (rest := []) dX9_edges_42 tX9_laysLine vX9_laysLine lX9_280 s1 ⟨by decide, rfl⟩ rfl rfl (Nat.le_of_ble_eq_true rfl) (show (d + 4) + 1 ≤ (d + 5) by omega) (e1 c1 c2 c3 c4)
        · refine V_iconst dX9_edges_38 ⟨by decide, by decide⟩ ?_
          exact V_reti rfl dX9_edges_39 (q4 c1 c2 c3 c4)
theorem bX9_edges_51 {d : Nat} {Q : Option jA → jH → Prop} (a0 : Nat) (i1 : Int) (i2 : Int) (i3 : Int) (i4 : Int) (i5 : Int) (i6 : Int) (h : jH)
    (q1 : (i4 < i6) → Q (some (.inl i5)) h)
    (e1 : (¬ (i4 < i6)) → Ex MX9_isEdge d [.inr a0, .inl i6, .inl i2] h 0 0 (fun v h2 => V MX9_edges (d + 5) 67 [some (.inr a0), some (.inl i1), some (.inl i2), some (.inl i3), some (.inl i4), some (.inl i5), some (.inl i6)] (v.toList ++ [.inl i5]) h2 0 0 Q))
    (s1 : (jS h a0).1 = 9) :
    V MX9_edges (d + 5) 51 [some (.inr a0), some (.inl i1), some (.inl i2), some (.inl i3), some (.inl i4), some (.inl i5), some (.inl i6)] [] h 0 0 Q := by
  refine V_iload (i := 6) dX9_edges_51 rfl ?_
  refine V_iload (i := 4) dX9_edges_53 rfl ?_
  refine V_icmp_gt (tgt := 84) dX9_edges_55 (by decide) (fun c1 => ?_) (fun c1 => ?_)
  · refine V_iload (i := 5) dX9_edges_84 rfl ?_
    exact V_reti rfl dX9_edges_86 (q1 c1)
  · refine V_iload (i := 5) dX9_edges_58 rfl ?_
    refine V_aload_n (i := 0) dX9_edges_60 rfl rfl ?_
    refine V_iload (i := 6) dX9_edges_61 rfl ?_
    refine V_iload_n (i := 2) dX9_edges_63 rfl rfl ?_
    exact V_callV (M := MX9_edges) (d := (d + 5)) (mc' := 0) (ms' := 0) (mc := 0) (ms := 0) (As := [.inl i6, .inl i2]) (rest := [.inl i5]) dX9_edges_64 tX9_isEdge vX9_isEdge lX9_283 s1 ⟨by decide, rfl⟩ rfl rfl (Nat.le_of_ble_eq_true rfl) (show d + 1 ≤ (d + 5) by omega) (e1 c1)
theorem bX9_edges_45 {d : Nat} {Q : Option jA → jH → Prop} (a0 : Nat) (i1 : Int) (i2 : Int) (i3 : Int) (i4 : Int) (u5 : Option jA) (u6 : Option jA) (h : jH)
    (k1 : V MX9_edges (d + 5) 51 [some (.inr a0), some (.inl i1), some (.inl i2), some (.inl i3), some (.inl i4), some (.inl 0), some (.inl i3)] [] h 0 0 Q) :
    V MX9_edges (d + 5) 45 [some (.inr a0), some (.inl i1), some (.inl i2), some (.inl i3), some (.inl i4), u5, u6] [] h 0 0 Q := by
  refine V_iconst dX9_edges_45 ⟨by decide, by decide⟩ ?_
  refine V_istore (i := 5) dX9_edges_46 (by decide) ?_
  refine V_iload_n (i := 3) dX9_edges_48 rfl rfl ?_
  refine V_istore (i := 6) dX9_edges_49 (by decide) ?_
  exact k1
theorem bX9_edges_67 {d : Nat} {Q : Option jA → jH → Prop} (a0 : Nat) (i1 : Int) (i2 : Int) (i3 : Int) (i4 : Int) (i5 : Int) (i6 : Int) (p0 : Int) (p1 : Int) (h : jH)
    (r1 : (p0 = 0) → jR (p1 + 0))
    (r2 : (p0 = 0) → jR (i6 + 1))
    (k1 : (p0 = 0) → V MX9_edges (d + 5) 51 [some (.inr a0), some (.inl i1), some (.inl i2), some (.inl i3), some (.inl i4), some (.inl (p1 + 0)), some (.inl (i6 + 1))] [] h 0 0 Q)
    (r3 : (¬ (p0 = 0)) → jR (p1 + 1))
    (r4 : (¬ (p0 = 0)) → jR (i6 + 1))
    (k2 : (¬ (p0 = 0)) → V MX9_edges (d + 5) 51 [some (.inr a0), some (.inl i1), some (.inl i2), some (.inl i3), some (.inl i4), some (.inl (p1 + 1)), some (.inl (i6 + 1))] [] h 0 0 Q) :
    V MX9_edges (d + 5) 67 [some (.inr a0), some (.inl i1), some (.inl i2), some (.inl i3), some (.inl i4), some (.inl i5), some (.inl i6)] [.inl p0, .inl p1] h 0 0 Q := by
  refine V_if_eq (tgt := 74) dX9_edges_67 (by decide) (fun c1 => ?_) (fun c1 => ?_)
  · refine V_iconst dX9_edges_74 ⟨by decide, by decide⟩ ?_
    refine V_iadd dX9_edges_75 (r1 c1) ?_
    refine V_istore (i := 5) dX9_edges_76 (by decide) ?_
    refine V_iinc (i := 6) dX9_edges_78 rfl (by decide) (r2 c1) ?_
    refine V_goto (tgt := 51) dX9_edges_81 (by decide) ?_
    exact (k1 c1)
  · refine V_iconst dX9_edges_70 ⟨by decide, by decide⟩ ?_
    refine V_goto (tgt := 75) dX9_edges_71 (by decide) ?_
    refine V_iadd dX9_edges_75 (r3 c1) ?_
    refine V_istore (i := 5) dX9_edges_76 (by decide) ?_
    refine V_iinc (i := 6) dX9_edges_78 rfl (by decide) (r4 c1) ?_
    refine V_goto (tgt := 51) dX9_edges_81 (by decide) ?_
    exact (k2 c1)
theorem dX9_next__0 : decode cX9_next_ 0 = .ok (.aload_n 0, 1) := by decide +kernel
theorem dX9_next__1 : decode cX9_next_ 1 = .ok (.iload_n 1, 1) := by decide +kernel
theorem dX9_next__2 : decode cX9_next_ 2 = .ok (.invokevirtual 250, 3) := by decide +kernel
theorem dX9_next__5 : decode cX9_next_ 5 = .ok (.ifCond .eq 18, 3) := by decide +kernel
theorem dX9_next__8 : decode cX9_next_ 8 = .ok (.iload_n 2, 1) := by decide +kernel
theorem dX9_next__9 : decode cX9_next_ 9 = .ok (.invokestatic 277, 3) := by decide +kernel
theorem dX9_next__12 : decode cX9_next_ 12 = .ok (.ifCond .eq 11, 3) := by decide +kernel
theorem dX9_next__15 : decode cX9_next_ 15 = .ok (.aload_n 0, 1) := by decide +kernel
theorem dX9_next__16 : decode cX9_next_ 16 = .ok (.iload_n 3, 1) := by decide +kernel
theorem dX9_next__17 : decode cX9_next_ 17 = .ok (.invokevirtual 268, 3) := by decide +kernel
theorem dX9_next__20 : decode cX9_next_ 20 = .ok (.ifCond .ne 5, 3) := by decide +kernel
theorem dX9_next__23 : decode cX9_next_ 23 = .ok (.iconst (-1), 1) := by decide +kernel
theorem dX9_next__24 : decode cX9_next_ 24 = .ok (.ireturn, 1) := by decide +kernel
theorem dX9_next__25 : decode cX9_next_ 25 = .ok (.aload_n 0, 1) := by decide +kernel
theorem dX9_next__26 : decode cX9_next_ 26 = .ok (.iload_n 1, 1) := by decide +kernel
theorem dX9_next__27 : decode cX9_next_ 27 = .ok (.invokevirtual 280, 3) := by decide +kernel
theorem dX9_next__30 : decode cX9_next_ 30 = .ok (.iload_n 3, 1) := by decide +kernel
theorem dX9_next__31 : decode cX9_next_ 31 = .ok (.iconst 1, 1) := by decide +kernel
theorem dX9_next__32 : decode cX9_next_ 32 = .ok (.iadd, 1) := by decide +kernel
theorem dX9_next__33 : decode cX9_next_ 33 = .ok (.istore 4, 2) := by decide +kernel
theorem dX9_next__35 : decode cX9_next_ 35 = .ok (.iload 4, 2) := by decide +kernel
theorem dX9_next__37 : decode cX9_next_ 37 = .ok (.aload_n 0, 1) := by decide +kernel
theorem dX9_next__38 : decode cX9_next_ 38 = .ok (.getfield 25, 3) := by decide +kernel
theorem dX9_next__41 : decode cX9_next_ 41 = .ok (.iconst 0, 1) := by decide +kernel
theorem dX9_next__42 : decode cX9_next_ 42 = .ok (.iaload, 1) := by decide +kernel
theorem dX9_next__43 : decode cX9_next_ 43 = .ok (.if_icmp .gt 22, 3) := by decide +kernel
theorem dX9_next__46 : decode cX9_next_ 46 = .ok (.aload_n 0, 1) := by decide +kernel
theorem dX9_next__47 : decode cX9_next_ 47 = .ok (.iload 4, 2) := by decide +kernel
theorem dX9_next__49 : decode cX9_next_ 49 = .ok (.iload_n 2, 1) := by decide +kernel
theorem dX9_next__50 : decode cX9_next_ 50 = .ok (.invokevirtual 283, 3) := by decide +kernel
theorem dX9_next__53 : decode cX9_next_ 53 = .ok (.ifCond .eq 6, 3) := by decide +kernel
theorem dX9_next__56 : decode cX9_next_ 56 = .ok (.iload 4, 2) := by decide +kernel
theorem dX9_next__58 : decode cX9_next_ 58 = .ok (.ireturn, 1) := by decide +kernel
theorem dX9_next__59 : decode cX9_next_ 59 = .ok (.iinc 4 1, 3) := by decide +kernel
theorem dX9_next__62 : decode cX9_next_ 62 = .ok (.goto (-27), 3) := by decide +kernel
theorem dX9_next__65 : decode cX9_next_ 65 = .ok (.bipush (-9), 2) := by decide +kernel
theorem dX9_next__67 : decode cX9_next_ 67 = .ok (.ireturn, 1) := by decide +kernel
theorem bX9_next__0 {d : Nat} {Q : Option jA → jH → Prop} (a0 : Nat) (i1 : Int) (i2 : Int) (i3 : Int) (u4 : Option jA) (h : jH)
    (s1 : (jS h a0).1 = 9)
    (s2 : 0 ≤ jI h a0 1)
    (s3 : jI h a0 1 ≤ 12)
    (q1 : (¬ (0 ≤ i1 ∧ i1 ≤ (jI h a0 1) - 1)) → Q (some (.inl ((-1)))) h)
    (q2 : (0 ≤ i1 ∧ i1 ≤ (jI h a0 1) - 1) → (¬ (0 ≤ i2 ∧ i2 ≤ 2)) → Q (some (.inl ((-1)))) h)
    (s4 : (jS h (jP h a0 9)).1 = 16)
    (s5 : (jS h (jP h a0 9)).2 = 209)
    (e1 : (0 ≤ i1 ∧ i1 ≤ (jI h a0 1) - 1) → (0 ≤ i2 ∧ i2 ≤ 2) → (0 ≤ i3 ∧ i3 ≤ (jX h (jP h a0 9) 0)) → Ex MX9_laysLine (d + 4) [.inr a0, .inl i1] h 0 0 (fun v h2 => V MX9_next_ (d + 5) 30 [some (.inr a0), some (.inl i1), some (.inl i2), some (.inl i3), u4] (v.toList ++ []) h2 0 0 Q))
    (q3 : (0 ≤ i1 ∧ i1 ≤ (jI h a0 1) - 1) → (0 ≤ i2 ∧ i2 ≤ 2) → (¬ (0 ≤ i3 ∧ i3 ≤ (jX h (jP h a0 9) 0))) → Q (some (.inl ((-1)))) h) :
    V MX9_next_ (d + 5) 0 [some (.inr a0), some (.inl i1), some (.inl i2), some (.inl i3), u4] [] h 0 0 Q := by
  refine V_aload_n (i := 0) dX9_next__0 rfl rfl ?_
  refine V_iload_n (i := 1) dX9_next__1 rfl rfl ?_
  refine V_callV (M := MX9_next_) (d := (d + 5)) (mc' := 0) (ms' := 0) (mc := 0) (ms := 0) (As := [.inl i1]) (rest := []) dX9_next__2 tX9_isNode vX9_isNode lX9_250 s1 ⟨by decide, rfl⟩ rfl rfl (Nat.le_of_ble_eq_true rfl) (show (d + 1) + 1 ≤ (d + 5) by omega) (Ex.mono (pX9_isNode (d := d) s1 s2 s3) ?_)
  intro v h2 hq
  rw [hq.1, hq.2]
  show V MX9_next_ (d + 5) 5 [some (.inr a0), some (.inl i1), some (.inl i2), some (.inl i3), u4] [.inl (jb (0 ≤ i1 ∧ i1 ≤ (jI h a0 1) - 1))] h 0 0 Q
  refine V_ifb_eq (tgt := 23) dX9_next__5 (by decide) (fun c1 => ?_) (fun c1 => ?_)
  · refine V_iconst dX9_next__23 ⟨by decide, by decide⟩ ?_
    exact V_reti rfl dX9_next__24 (q1 c1)
  · refine V_iload_n (i := 2) dX9_next__8 rfl rfl ?_
    refine V_callS (M := MX9_next_) (d := (d + 5)) (mc' := 0) (ms' := 0) (mc := 0) (ms := 0) (a := 0) (As := [.inl i2]) (rest := []) dX9_next__9 tX9_isKind sX9_isKind lX9_277 rfl rfl (Nat.le_of_ble_eq_true rfl) (show (d + 1) + 1 ≤ (d + 5) by omega) (Ex.mono (pX9_isKind (d := d) ) ?_)
    intro v h2 hq
    rw [hq.1, hq.2]
    show V MX9_next_ (d + 5) 12 [some (.inr a0), some (.inl i1), some (.inl i2), some (.inl i3), u4] [.inl (jb (0 ≤ i2 ∧ i2 ≤ 2))] h 0 0 Q
    refine V_ifb_eq (tgt := 23) dX9_next__12 (by decide) (fun c2 => ?_) (fun c2 => ?_)
    · refine V_iconst dX9_next__23 ⟨by decide, by decide⟩ ?_
      exact V_reti rfl dX9_next__24 (q2 c1 c2)
    · refine V_aload_n (i := 0) dX9_next__15 rfl rfl ?_
      refine V_iload_n (i := 3) dX9_next__16 rfl rfl ?_
      refine V_callV (M := MX9_next_) (d := (d + 5)) (mc' := 0) (ms' := 0) (mc := 0) (ms := 0) (As := [.inl i3]) (rest := []) dX9_next__17 tX9_isTime vX9_isTime lX9_268 s1 ⟨by decide, rfl⟩ rfl rfl (Nat.le_of_ble_eq_true rfl) (show (d + 1) + 1 ≤ (d + 5) by omega) (Ex.mono (pX9_isTime (d := d) s1 s4 s5) ?_)
      intro v h2 hq
      rw [hq.1, hq.2]
      show V MX9_next_ (d + 5) 20 [some (.inr a0), some (.inl i1), some (.inl i2), some (.inl i3), u4] [.inl (jb (0 ≤ i3 ∧ i3 ≤ (jX h (jP h a0 9) 0)))] h 0 0 Q
      refine V_ifb_ne (tgt := 25) dX9_next__20 (by decide) (fun c3 => ?_) (fun c3 => ?_)
      · refine V_aload_n (i := 0) dX9_next__25 rfl rfl ?_
        refine V_iload_n (i := 1) dX9_next__26 rfl rfl ?_
        exact V_callV (M := MX9_next_) (d := (d + 5)) (mc' := 0) (ms' := 0) (mc := 0) (ms := 0) (As := [.inl i1]) (rest := []) dX9_next__27 tX9_laysLine vX9_laysLine lX9_280 s1 ⟨by decide, rfl⟩ rfl rfl (Nat.le_of_ble_eq_true rfl) (show (d + 4) + 1 ≤ (d + 5) by omega) (e1 c1 c2 c3)
      · refine V_iconst dX9_next__23 ⟨by decide, by decide⟩ ?_
        exact V_reti rfl dX9_next__24 (q3 c1 c2 c3)
theorem bX9_next__35 {d : Nat} {Q : Option jA → jH → Prop} (a0 : Nat) (i1 : Int) (i2 : Int) (i3 : Int) (i4 : Int) (h : jH)
    (s1 : (jS h a0).1 = 9)
    (s2 : (jS h (jP h a0 9)).1 = 16)
    (s3 : 0 < ((jS h (jP h a0 9)).2 : Int))
    (q1 : ((jX h (jP h a0 9) 0) < i4) → Q (some (.inl ((-9)))) h)
    (e1 : (¬ ((jX h (jP h a0 9) 0) < i4)) → Ex MX9_isEdge d [.inr a0, .inl i4, .inl i2] h 0 0 (fun v h2 => V MX9_next_ (d + 5) 53 [some (.inr a0), some (.inl i1), some (.inl i2), some (.inl i3), some (.inl i4)] (v.toList ++ []) h2 0 0 Q)) :
    V MX9_next_ (d + 5) 35 [some (.inr a0), some (.inl i1), some (.inl i2), some (.inl i3), some (.inl i4)] [] h 0 0 Q := by
  refine V_iload (i := 4) dX9_next__35 rfl ?_
  refine V_aload_n (i := 0) dX9_next__37 rfl rfl ?_
  refine V_getP dX9_next__38 fX9_25 rfl s1 ?_
  refine V_iconst dX9_next__41 ⟨by decide, by decide⟩ ?_
  refine V_iald dX9_next__42 s2 (by decide) s3 ?_
  refine V_icmp_gt (tgt := 65) dX9_next__43 (by decide) (fun c1 => ?_) (fun c1 => ?_)
  · refine V_bipush dX9_next__65 (by decide +kernel) ⟨by decide, by decide⟩ ?_
    exact V_reti rfl dX9_next__67 (q1 c1)
  · refine V_aload_n (i := 0) dX9_next__46 rfl rfl ?_
    refine V_iload (i := 4) dX9_next__47 rfl ?_
    refine V_iload_n (i := 2) dX9_next__49 rfl rfl ?_
    exact V_callV (M := MX9_next_) (d := (d + 5)) (mc' := 0) (ms' := 0) (mc := 0) (ms := 0) (As := [.inl i4, .inl i2]) (rest := []) dX9_next__50 tX9_isEdge vX9_isEdge lX9_283 s1 ⟨by decide, rfl⟩ rfl rfl (Nat.le_of_ble_eq_true rfl) (show d + 1 ≤ (d + 5) by omega) (e1 c1)
theorem bX9_next__30 {d : Nat} {Q : Option jA → jH → Prop} (a0 : Nat) (i1 : Int) (i2 : Int) (i3 : Int) (u4 : Option jA) (h : jH)
    (r1 : jR (i3 + 1))
    (k1 : V MX9_next_ (d + 5) 35 [some (.inr a0), some (.inl i1), some (.inl i2), some (.inl i3), some (.inl (i3 + 1))] [] h 0 0 Q) :
    V MX9_next_ (d + 5) 30 [some (.inr a0), some (.inl i1), some (.inl i2), some (.inl i3), u4] [] h 0 0 Q := by
  refine V_iload_n (i := 3) dX9_next__30 rfl rfl ?_
  refine V_iconst dX9_next__31 ⟨by decide, by decide⟩ ?_
  refine V_iadd dX9_next__32 r1 ?_
  refine V_istore (i := 4) dX9_next__33 (by decide) ?_
  exact k1
theorem bX9_next__53 {d : Nat} {Q : Option jA → jH → Prop} (a0 : Nat) (i1 : Int) (i2 : Int) (i3 : Int) (i4 : Int) (p0 : Int) (h : jH)
    (r1 : (p0 = 0) → jR (i4 + 1))
    (k1 : (p0 = 0) → V MX9_next_ (d + 5) 35 [some (.inr a0), some (.inl i1), some (.inl i2), some (.inl i3), some (.inl (i4 + 1))] [] h 0 0 Q)
    (q1 : (¬ (p0 = 0)) → Q (some (.inl i4)) h) :
    V MX9_next_ (d + 5) 53 [some (.inr a0), some (.inl i1), some (.inl i2), some (.inl i3), some (.inl i4)] [.inl p0] h 0 0 Q := by
  refine V_if_eq (tgt := 59) dX9_next__53 (by decide) (fun c1 => ?_) (fun c1 => ?_)
  · refine V_iinc (i := 4) dX9_next__59 rfl (by decide) (r1 c1) ?_
    refine V_goto (tgt := 35) dX9_next__62 (by decide) ?_
    exact (k1 c1)
  · refine V_iload (i := 4) dX9_next__56 rfl ?_
    exact V_reti rfl dX9_next__58 (q1 c1)
theorem dX9_previous_0 : decode cX9_previous 0 = .ok (.aload_n 0, 1) := by decide +kernel
theorem dX9_previous_1 : decode cX9_previous 1 = .ok (.iload_n 1, 1) := by decide +kernel
theorem dX9_previous_2 : decode cX9_previous 2 = .ok (.invokevirtual 250, 3) := by decide +kernel
theorem dX9_previous_5 : decode cX9_previous 5 = .ok (.ifCond .eq 18, 3) := by decide +kernel
theorem dX9_previous_8 : decode cX9_previous 8 = .ok (.iload_n 2, 1) := by decide +kernel
theorem dX9_previous_9 : decode cX9_previous 9 = .ok (.invokestatic 277, 3) := by decide +kernel
theorem dX9_previous_12 : decode cX9_previous 12 = .ok (.ifCond .eq 11, 3) := by decide +kernel
theorem dX9_previous_15 : decode cX9_previous 15 = .ok (.aload_n 0, 1) := by decide +kernel
theorem dX9_previous_16 : decode cX9_previous 16 = .ok (.iload_n 3, 1) := by decide +kernel
theorem dX9_previous_17 : decode cX9_previous 17 = .ok (.invokevirtual 268, 3) := by decide +kernel
theorem dX9_previous_20 : decode cX9_previous 20 = .ok (.ifCond .ne 5, 3) := by decide +kernel
theorem dX9_previous_23 : decode cX9_previous 23 = .ok (.iconst (-1), 1) := by decide +kernel
theorem dX9_previous_24 : decode cX9_previous 24 = .ok (.ireturn, 1) := by decide +kernel
theorem dX9_previous_25 : decode cX9_previous 25 = .ok (.aload_n 0, 1) := by decide +kernel
theorem dX9_previous_26 : decode cX9_previous 26 = .ok (.iload_n 1, 1) := by decide +kernel
theorem dX9_previous_27 : decode cX9_previous 27 = .ok (.invokevirtual 280, 3) := by decide +kernel
theorem dX9_previous_30 : decode cX9_previous 30 = .ok (.iload_n 3, 1) := by decide +kernel
theorem dX9_previous_31 : decode cX9_previous 31 = .ok (.iconst 1, 1) := by decide +kernel
theorem dX9_previous_32 : decode cX9_previous 32 = .ok (.isub, 1) := by decide +kernel
theorem dX9_previous_33 : decode cX9_previous 33 = .ok (.istore 4, 2) := by decide +kernel
theorem dX9_previous_35 : decode cX9_previous 35 = .ok (.iload 4, 2) := by decide +kernel
theorem dX9_previous_37 : decode cX9_previous 37 = .ok (.ifCond .le 22, 3) := by decide +kernel
theorem dX9_previous_40 : decode cX9_previous 40 = .ok (.aload_n 0, 1) := by decide +kernel
theorem dX9_previous_41 : decode cX9_previous 41 = .ok (.iload 4, 2) := by decide +kernel
theorem dX9_previous_43 : decode cX9_previous 43 = .ok (.iload_n 2, 1) := by decide +kernel
theorem dX9_previous_44 : decode cX9_previous 44 = .ok (.invokevirtual 283, 3) := by decide +kernel
theorem dX9_previous_47 : decode cX9_previous 47 = .ok (.ifCond .eq 6, 3) := by decide +kernel
theorem dX9_previous_50 : decode cX9_previous 50 = .ok (.iload 4, 2) := by decide +kernel
theorem dX9_previous_52 : decode cX9_previous 52 = .ok (.ireturn, 1) := by decide +kernel
theorem dX9_previous_53 : decode cX9_previous 53 = .ok (.iinc 4 (-1), 3) := by decide +kernel
theorem dX9_previous_56 : decode cX9_previous 56 = .ok (.goto (-21), 3) := by decide +kernel
theorem dX9_previous_59 : decode cX9_previous 59 = .ok (.bipush (-9), 2) := by decide +kernel
theorem dX9_previous_61 : decode cX9_previous 61 = .ok (.ireturn, 1) := by decide +kernel
theorem bX9_previous_0 {d : Nat} {Q : Option jA → jH → Prop} (a0 : Nat) (i1 : Int) (i2 : Int) (i3 : Int) (u4 : Option jA) (h : jH)
    (s1 : (jS h a0).1 = 9)
    (s2 : 0 ≤ jI h a0 1)
    (s3 : jI h a0 1 ≤ 12)
    (q1 : (¬ (0 ≤ i1 ∧ i1 ≤ (jI h a0 1) - 1)) → Q (some (.inl ((-1)))) h)
    (q2 : (0 ≤ i1 ∧ i1 ≤ (jI h a0 1) - 1) → (¬ (0 ≤ i2 ∧ i2 ≤ 2)) → Q (some (.inl ((-1)))) h)
    (s4 : (jS h (jP h a0 9)).1 = 16)
    (s5 : (jS h (jP h a0 9)).2 = 209)
    (e1 : (0 ≤ i1 ∧ i1 ≤ (jI h a0 1) - 1) → (0 ≤ i2 ∧ i2 ≤ 2) → (0 ≤ i3 ∧ i3 ≤ (jX h (jP h a0 9) 0)) → Ex MX9_laysLine (d + 4) [.inr a0, .inl i1] h 0 0 (fun v h2 => V MX9_previous (d + 5) 30 [some (.inr a0), some (.inl i1), some (.inl i2), some (.inl i3), u4] (v.toList ++ []) h2 0 0 Q))
    (q3 : (0 ≤ i1 ∧ i1 ≤ (jI h a0 1) - 1) → (0 ≤ i2 ∧ i2 ≤ 2) → (¬ (0 ≤ i3 ∧ i3 ≤ (jX h (jP h a0 9) 0))) → Q (some (.inl ((-1)))) h) :
    V MX9_previous (d + 5) 0 [some (.inr a0), some (.inl i1), some (.inl i2), some (.inl i3), u4] [] h 0 0 Q := by
  refine V_aload_n (i := 0) dX9_previous_0 rfl rfl ?_
  refine V_iload_n (i := 1) dX9_previous_1 rfl rfl ?_
  refine V_callV (M := MX9_previous) (d := (d + 5)) (mc' := 0) (ms' := 0) (mc := 0) (ms := 0) (As := [.inl i1]) (rest := []) dX9_previous_2 tX9_isNode vX9_isNode lX9_250 s1 ⟨by decide, rfl⟩ rfl rfl (Nat.le_of_ble_eq_true rfl) (show (d + 1) + 1 ≤ (d + 5) by omega) (Ex.mono (pX9_isNode (d := d) s1 s2 s3) ?_)
  intro v h2 hq
  rw [hq.1, hq.2]
  show V MX9_previous (d + 5) 5 [some (.inr a0), some (.inl i1), some (.inl i2), some (.inl i3), u4] [.inl (jb (0 ≤ i1 ∧ i1 ≤ (jI h a0 1) - 1))] h 0 0 Q
  refine V_ifb_eq (tgt := 23) dX9_previous_5 (by decide) (fun c1 => ?_) (fun c1 => ?_)
  · refine V_iconst dX9_previous_23 ⟨by decide, by decide⟩ ?_
    exact V_reti rfl dX9_previous_24 (q1 c1)
  · refine V_iload_n (i := 2) dX9_previous_8 rfl rfl ?_
    refine V_callS (M := MX9_previous) (d := (d + 5)) (mc' := 0) (ms' := 0) (mc := 0) (ms := 0) (a := 0) (As := [.inl i2]) (rest := []) dX9_previous_9 tX9_isKind sX9_isKind lX9_277 rfl rfl (Nat.le_of_ble_eq_true rfl) (show (d + 1) + 1 ≤ (d + 5) by omega) (Ex.mono (pX9_isKind (d := d) ) ?_)
    intro v h2 hq
    rw [hq.1, hq.2]
    show V MX9_previous (d + 5) 12 [some (.inr a0), some (.inl i1), some (.inl i2), some (.inl i3), u4] [.inl (jb (0 ≤ i2 ∧ i2 ≤ 2))] h 0 0 Q
    refine V_ifb_eq (tgt := 23) dX9_previous_12 (by decide) (fun c2 => ?_) (fun c2 => ?_)
    · refine V_iconst dX9_previous_23 ⟨by decide, by decide⟩ ?_
      exact V_reti rfl dX9_previous_24 (q2 c1 c2)
    · refine V_aload_n (i := 0) dX9_previous_15 rfl rfl ?_
      refine V_iload_n (i := 3) dX9_previous_16 rfl rfl ?_
      refine V_callV (M := MX9_previous) (d := (d + 5)) (mc' := 0) (ms' := 0) (mc := 0) (ms := 0) (As := [.inl i3]) (rest := []) dX9_previous_17 tX9_isTime vX9_isTime lX9_268 s1 ⟨by decide, rfl⟩ rfl rfl (Nat.le_of_ble_eq_true rfl) (show (d + 1) + 1 ≤ (d + 5) by omega) (Ex.mono (pX9_isTime (d := d) s1 s4 s5) ?_)
      intro v h2 hq
      rw [hq.1, hq.2]
      show V MX9_previous (d + 5) 20 [some (.inr a0), some (.inl i1), some (.inl i2), some (.inl i3), u4] [.inl (jb (0 ≤ i3 ∧ i3 ≤ (jX h (jP h a0 9) 0)))] h 0 0 Q
      refine V_ifb_ne (tgt := 25) dX9_previous_20 (by decide) (fun c3 => ?_) (fun c3 => ?_)
      · refine V_aload_n (i := 0) dX9_previous_25 rfl rfl ?_
        refine V_iload_n (i := 1) dX9_previous_26 rfl rfl ?_
        exact V_callV (M := MX9_previous) (d := (d + 5)) (mc' := 0) (ms' := 0) (mc := 0) (ms := 0) (As := [.inl i1]) (rest := []) dX9_previous_27 tX9_laysLine vX9_laysLine lX9_280 s1 ⟨by decide, rfl⟩ rfl rfl (Nat.le_of_ble_eq_true rfl) (show (d + 4) + 1 ≤ (d + 5) by omega) (e1 c1 c2 c3)
      · refine V_iconst dX9_previous_23 ⟨by decide, by decide⟩ ?_
        exact V_reti rfl dX9_previous_24 (q3 c1 c2 c3)
theorem bX9_previous_35 {d : Nat} {Q : Option jA → jH → Prop} (a0 : Nat) (i1 : Int) (i2 : Int) (i3 : Int) (i4 : Int) (h : jH)
    (q1 : (i4 ≤ 0) → Q (some (.inl ((-9)))) h)
    (e1 : (¬ (i4 ≤ 0)) → Ex MX9_isEdge d [.inr a0, .inl i4, .inl i2] h 0 0 (fun v h2 => V MX9_previous (d + 5) 47 [some (.inr a0), some (.inl i1), some (.inl i2), some (.inl i3), some (.inl i4)] (v.toList ++ []) h2 0 0 Q))
    (s1 : (jS h a0).1 = 9) :
    V MX9_previous (d + 5) 35 [some (.inr a0), some (.inl i1), some (.inl i2), some (.inl i3), some (.inl i4)] [] h 0 0 Q := by
  refine V_iload (i := 4) dX9_previous_35 rfl ?_
  refine V_if_le (tgt := 59) dX9_previous_37 (by decide) (fun c1 => ?_) (fun c1 => ?_)
  · refine V_bipush dX9_previous_59 (by decide +kernel) ⟨by decide, by decide⟩ ?_
    exact V_reti rfl dX9_previous_61 (q1 c1)
  · refine V_aload_n (i := 0) dX9_previous_40 rfl rfl ?_
    refine V_iload (i := 4) dX9_previous_41 rfl ?_
    refine V_iload_n (i := 2) dX9_previous_43 rfl rfl ?_
    exact V_callV (M := MX9_previous) (d := (d + 5)) (mc' := 0) (ms' := 0) (mc := 0) (ms := 0) (As := [.inl i4, .inl i2]) (rest := []) dX9_previous_44 tX9_isEdge vX9_isEdge lX9_283 s1 ⟨by decide, rfl⟩ rfl rfl (Nat.le_of_ble_eq_true rfl) (show d + 1 ≤ (d + 5) by omega) (e1 c1)
theorem bX9_previous_30 {d : Nat} {Q : Option jA → jH → Prop} (a0 : Nat) (i1 : Int) (i2 : Int) (i3 : Int) (u4 : Option jA) (h : jH)
    (r1 : jR (i3 - 1))
    (k1 : V MX9_previous (d + 5) 35 [some (.inr a0), some (.inl i1), some (.inl i2), some (.inl i3), some (.inl (i3 - 1))] [] h 0 0 Q) :
    V MX9_previous (d + 5) 30 [some (.inr a0), some (.inl i1), some (.inl i2), some (.inl i3), u4] [] h 0 0 Q := by
  refine V_iload_n (i := 3) dX9_previous_30 rfl rfl ?_
  refine V_iconst dX9_previous_31 ⟨by decide, by decide⟩ ?_
  refine V_isub dX9_previous_32 r1 ?_
  refine V_istore (i := 4) dX9_previous_33 (by decide) ?_
  exact k1
theorem bX9_previous_47 {d : Nat} {Q : Option jA → jH → Prop} (a0 : Nat) (i1 : Int) (i2 : Int) (i3 : Int) (i4 : Int) (p0 : Int) (h : jH)
    (r1 : (p0 = 0) → jR (i4 + (-1)))
    (k1 : (p0 = 0) → V MX9_previous (d + 5) 35 [some (.inr a0), some (.inl i1), some (.inl i2), some (.inl i3), some (.inl (i4 + (-1)))] [] h 0 0 Q)
    (q1 : (¬ (p0 = 0)) → Q (some (.inl i4)) h) :
    V MX9_previous (d + 5) 47 [some (.inr a0), some (.inl i1), some (.inl i2), some (.inl i3), some (.inl i4)] [.inl p0] h 0 0 Q := by
  refine V_if_eq (tgt := 53) dX9_previous_47 (by decide) (fun c1 => ?_) (fun c1 => ?_)
  · refine V_iinc (i := 4) dX9_previous_53 rfl (by decide) (r1 c1) ?_
    refine V_goto (tgt := 35) dX9_previous_56 (by decide) ?_
    exact (k1 c1)
  · refine V_iload (i := 4) dX9_previous_50 rfl ?_
    exact V_reti rfl dX9_previous_52 (q1 c1)
theorem dX9_first_0 : decode cX9_first 0 = .ok (.aload_n 0, 1) := by decide +kernel
theorem dX9_first_1 : decode cX9_first 1 = .ok (.iload_n 1, 1) := by decide +kernel
theorem dX9_first_2 : decode cX9_first 2 = .ok (.invokevirtual 250, 3) := by decide +kernel
theorem dX9_first_5 : decode cX9_first 5 = .ok (.ifCond .eq 28, 3) := by decide +kernel
theorem dX9_first_8 : decode cX9_first 8 = .ok (.iload_n 2, 1) := by decide +kernel
theorem dX9_first_9 : decode cX9_first 9 = .ok (.iconst 0, 1) := by decide +kernel
theorem dX9_first_10 : decode cX9_first 10 = .ok (.sipush 255, 3) := by decide +kernel
theorem dX9_first_13 : decode cX9_first 13 = .ok (.invokestatic 95, 3) := by decide +kernel
theorem dX9_first_16 : decode cX9_first 16 = .ok (.ifCond .ne 9, 3) := by decide +kernel
theorem dX9_first_19 : decode cX9_first 19 = .ok (.iload_n 2, 1) := by decide +kernel
theorem dX9_first_20 : decode cX9_first 20 = .ok (.bipush (-7), 2) := by decide +kernel
theorem dX9_first_22 : decode cX9_first 22 = .ok (.if_icmp .ne 11, 3) := by decide +kernel
theorem dX9_first_25 : decode cX9_first 25 = .ok (.aload_n 0, 1) := by decide +kernel
theorem dX9_first_26 : decode cX9_first 26 = .ok (.iload_n 3, 1) := by decide +kernel
theorem dX9_first_27 : decode cX9_first 27 = .ok (.invokevirtual 268, 3) := by decide +kernel
theorem dX9_first_30 : decode cX9_first 30 = .ok (.ifCond .ne 5, 3) := by decide +kernel
theorem dX9_first_33 : decode cX9_first 33 = .ok (.iconst (-1), 1) := by decide +kernel
theorem dX9_first_34 : decode cX9_first 34 = .ok (.ireturn, 1) := by decide +kernel
theorem dX9_first_35 : decode cX9_first 35 = .ok (.aload_n 0, 1) := by decide +kernel
theorem dX9_first_36 : decode cX9_first 36 = .ok (.iload_n 1, 1) := by decide +kernel
theorem dX9_first_37 : decode cX9_first 37 = .ok (.invokevirtual 280, 3) := by decide +kernel
theorem dX9_first_40 : decode cX9_first 40 = .ok (.iload_n 3, 1) := by decide +kernel
theorem dX9_first_41 : decode cX9_first 41 = .ok (.istore 4, 2) := by decide +kernel
theorem dX9_first_43 : decode cX9_first 43 = .ok (.iload 4, 2) := by decide +kernel
theorem dX9_first_45 : decode cX9_first 45 = .ok (.aload_n 0, 1) := by decide +kernel
theorem dX9_first_46 : decode cX9_first 46 = .ok (.getfield 25, 3) := by decide +kernel
theorem dX9_first_49 : decode cX9_first 49 = .ok (.iconst 0, 1) := by decide +kernel
theorem dX9_first_50 : decode cX9_first 50 = .ok (.iaload, 1) := by decide +kernel
theorem dX9_first_51 : decode cX9_first 51 = .ok (.if_icmp .gt 23, 3) := by decide +kernel
theorem dX9_first_54 : decode cX9_first 54 = .ok (.aload_n 0, 1) := by decide +kernel
theorem dX9_first_55 : decode cX9_first 55 = .ok (.getfield 71, 3) := by decide +kernel
theorem dX9_first_58 : decode cX9_first 58 = .ok (.iload 4, 2) := by decide +kernel
theorem dX9_first_60 : decode cX9_first 60 = .ok (.iaload, 1) := by decide +kernel
theorem dX9_first_61 : decode cX9_first 61 = .ok (.iload_n 2, 1) := by decide +kernel
theorem dX9_first_62 : decode cX9_first 62 = .ok (.if_icmp .ne 6, 3) := by decide +kernel
theorem dX9_first_65 : decode cX9_first 65 = .ok (.iload 4, 2) := by decide +kernel
theorem dX9_first_67 : decode cX9_first 67 = .ok (.ireturn, 1) := by decide +kernel
theorem dX9_first_68 : decode cX9_first 68 = .ok (.iinc 4 1, 3) := by decide +kernel
theorem dX9_first_71 : decode cX9_first 71 = .ok (.goto (-28), 3) := by decide +kernel
theorem dX9_first_74 : decode cX9_first 74 = .ok (.bipush (-9), 2) := by decide +kernel
theorem dX9_first_76 : decode cX9_first 76 = .ok (.ireturn, 1) := by decide +kernel
theorem bX9_first_0 {d : Nat} {Q : Option jA → jH → Prop} (a0 : Nat) (i1 : Int) (i2 : Int) (i3 : Int) (u4 : Option jA) (h : jH)
    (s1 : (jS h a0).1 = 9)
    (s2 : 0 ≤ jI h a0 1)
    (s3 : jI h a0 1 ≤ 12)
    (q1 : (¬ (0 ≤ i1 ∧ i1 ≤ (jI h a0 1) - 1)) → Q (some (.inl ((-1)))) h)
    (s4 : (jS h (jP h a0 9)).1 = 16)
    (s5 : (jS h (jP h a0 9)).2 = 209)
    (e1 : (0 ≤ i1 ∧ i1 ≤ (jI h a0 1) - 1) → (0 ≤ i2 ∧ i2 ≤ 255) → (0 ≤ i3 ∧ i3 ≤ (jX h (jP h a0 9) 0)) → Ex MX9_laysLine (d + 4) [.inr a0, .inl i1] h 0 0 (fun v h2 => V MX9_first (d + 5) 40 [some (.inr a0), some (.inl i1), some (.inl i2), some (.inl i3), u4] (v.toList ++ []) h2 0 0 Q))
    (q2 : (0 ≤ i1 ∧ i1 ≤ (jI h a0 1) - 1) → (0 ≤ i2 ∧ i2 ≤ 255) → (¬ (0 ≤ i3 ∧ i3 ≤ (jX h (jP h a0 9) 0))) → Q (some (.inl ((-1)))) h)
    (q3 : (0 ≤ i1 ∧ i1 ≤ (jI h a0 1) - 1) → (¬ (0 ≤ i2 ∧ i2 ≤ 255)) → (i2 ≠ ((-7))) → Q (some (.inl ((-1)))) h)
    (e2 : (0 ≤ i1 ∧ i1 ≤ (jI h a0 1) - 1) → (¬ (0 ≤ i2 ∧ i2 ≤ 255)) → (i2 = ((-7))) → (0 ≤ i3 ∧ i3 ≤ (jX h (jP h a0 9) 0)) → Ex MX9_laysLine (d + 4) [.inr a0, .inl i1] h 0 0 (fun v h2 => V MX9_first (d + 5) 40 [some (.inr a0), some (.inl i1), some (.inl i2), some (.inl i3), u4] (v.toList ++ []) h2 0 0 Q))
    (q4 : (0 ≤ i1 ∧ i1 ≤ (jI h a0 1) - 1) → (¬ (0 ≤ i2 ∧ i2 ≤ 255)) → (i2 = ((-7))) → (¬ (0 ≤ i3 ∧ i3 ≤ (jX h (jP h a0 9) 0))) → Q (some (.inl ((-1)))) h) :
    V MX9_first (d + 5) 0 [some (.inr a0), some (.inl i1), some (.inl i2), some (.inl i3), u4] [] h 0 0 Q := by
  refine V_aload_n (i := 0) dX9_first_0 rfl rfl ?_
  refine V_iload_n (i := 1) dX9_first_1 rfl rfl ?_
  refine V_callV (M := MX9_first) (d := (d + 5)) (mc' := 0) (ms' := 0) (mc := 0) (ms := 0) (As := [.inl i1]) (rest := []) dX9_first_2 tX9_isNode vX9_isNode lX9_250 s1 ⟨by decide, rfl⟩ rfl rfl (Nat.le_of_ble_eq_true rfl) (show (d + 1) + 1 ≤ (d + 5) by omega) (Ex.mono (pX9_isNode (d := d) s1 s2 s3) ?_)
  intro v h2 hq
  rw [hq.1, hq.2]
  show V MX9_first (d + 5) 5 [some (.inr a0), some (.inl i1), some (.inl i2), some (.inl i3), u4] [.inl (jb (0 ≤ i1 ∧ i1 ≤ (jI h a0 1) - 1))] h 0 0 Q
  refine V_ifb_eq (tgt := 33) dX9_first_5 (by decide) (fun c1 => ?_) (fun c1 => ?_)
  · refine V_iconst dX9_first_33 ⟨by decide, by decide⟩ ?_
    exact V_reti rfl dX9_first_34 (q1 c1)
  · refine V_iload_n (i := 2) dX9_first_8 rfl rfl ?_
    refine V_iconst dX9_first_9 ⟨by decide, by decide⟩ ?_
    refine V_sipush dX9_first_10 (by decide +kernel) ⟨by decide, by decide⟩ ?_
    refine V_callS (M := MX9_first) (d := (d + 5)) (mc' := 0) (ms' := 0) (mc := 0) (ms := 0) (a := 0) (As := [.inl i2, .inl 0, .inl 255]) (rest := []) dX9_first_13 tX9_in sX9_in lX9_95 rfl rfl (Nat.le_of_ble_eq_true rfl) (show d + 1 ≤ (d + 5) by omega) (Ex.mono (pX9_in (d := d) ) ?_)
    intro v h2 hq
    rw [hq.1, hq.2]
    show V MX9_first (d + 5) 16 [some (.inr a0), some (.inl i1), some (.inl i2), some (.inl i3), u4] [.inl (jb (0 ≤ i2 ∧ i2 ≤ 255))] h 0 0 Q
    refine V_ifb_ne (tgt := 25) dX9_first_16 (by decide) (fun c2 => ?_) (fun c2 => ?_)
    · refine V_aload_n (i := 0) dX9_first_25 rfl rfl ?_
      refine V_iload_n (i := 3) dX9_first_26 rfl rfl ?_
      refine V_callV (M := MX9_first) (d := (d + 5)) (mc' := 0) (ms' := 0) (mc := 0) (ms := 0) (As := [.inl i3]) (rest := []) dX9_first_27 tX9_isTime vX9_isTime lX9_268 s1 ⟨by decide, rfl⟩ rfl rfl (Nat.le_of_ble_eq_true rfl) (show (d + 1) + 1 ≤ (d + 5) by omega) (Ex.mono (pX9_isTime (d := d) s1 s4 s5) ?_)
      intro v h2 hq
      rw [hq.1, hq.2]
      show V MX9_first (d + 5) 30 [some (.inr a0), some (.inl i1), some (.inl i2), some (.inl i3), u4] [.inl (jb (0 ≤ i3 ∧ i3 ≤ (jX h (jP h a0 9) 0)))] h 0 0 Q
      refine V_ifb_ne (tgt := 35) dX9_first_30 (by decide) (fun c3 => ?_) (fun c3 => ?_)
      · refine V_aload_n (i := 0) dX9_first_35 rfl rfl ?_
        refine V_iload_n (i := 1) dX9_first_36 rfl rfl ?_
        exact V_callV (M := MX9_first) (d := (d + 5)) (mc' := 0) (ms' := 0) (mc := 0) (ms := 0) (As := [.inl i1]) (rest := []) dX9_first_37 tX9_laysLine vX9_laysLine lX9_280 s1 ⟨by decide, rfl⟩ rfl rfl (Nat.le_of_ble_eq_true rfl) (show (d + 4) + 1 ≤ (d + 5) by omega) (e1 c1 c2 c3)
      · refine V_iconst dX9_first_33 ⟨by decide, by decide⟩ ?_
        exact V_reti rfl dX9_first_34 (q2 c1 c2 c3)
    · refine V_iload_n (i := 2) dX9_first_19 rfl rfl ?_
      refine V_bipush dX9_first_20 (by decide +kernel) ⟨by decide, by decide⟩ ?_
      refine V_icmp_ne (tgt := 33) dX9_first_22 (by decide) (fun c4 => ?_) (fun c4 => ?_)
      · refine V_iconst dX9_first_33 ⟨by decide, by decide⟩ ?_
        exact V_reti rfl dX9_first_34 (q3 c1 c2 c4)
      · refine V_aload_n (i := 0) dX9_first_25 rfl rfl ?_
        refine V_iload_n (i := 3) dX9_first_26 rfl rfl ?_
        refine V_callV (M := MX9_first) (d := (d + 5)) (mc' := 0) (ms' := 0) (mc := 0) (ms := 0) (As := [.inl i3]) (rest := []) dX9_first_27 tX9_isTime vX9_isTime lX9_268 s1 ⟨by decide, rfl⟩ rfl rfl (Nat.le_of_ble_eq_true rfl) (show (d + 1) + 1 ≤ (d + 5) by omega) (Ex.mono (pX9_isTime (d := d) s1 s4 s5) ?_)
        intro v h2 hq
        rw [hq.1, hq.2]
        show V MX9_first (d + 5) 30 [some (.inr a0), some (.inl i1), some (.inl i2), some (.inl i3), u4] [.inl (jb (0 ≤ i3 ∧ i3 ≤ (jX h (jP h a0 9) 0)))] h 0 0 Q
        refine V_ifb_ne (tgt := 35) dX9_first_30 (by decide) (fun c5 => ?_) (fun c5 => ?_)
        · refine V_aload_n (i := 0) dX9_first_35 rfl rfl ?_
          refine V_iload_n (i := 1) dX9_first_36 rfl rfl ?_
          exact V_callV (M := MX9_first) (d := (d + 5)) (mc' := 0) (ms' := 0) (mc := 0) (ms := 0) (As := [.inl i1]) (rest := []) dX9_first_37 tX9_laysLine vX9_laysLine lX9_280 s1 ⟨by decide, rfl⟩ rfl rfl (Nat.le_of_ble_eq_true rfl) (show (d + 4) + 1 ≤ (d + 5) by omega) (e2 c1 c2 c4 c5)
        · refine V_iconst dX9_first_33 ⟨by decide, by decide⟩ ?_
          exact V_reti rfl dX9_first_34 (q4 c1 c2 c4 c5)
theorem bX9_first_43 {d : Nat} {Q : Option jA → jH → Prop} (a0 : Nat) (i1 : Int) (i2 : Int) (i3 : Int) (i4 : Int) (h : jH)
    (s1 : (jS h a0).1 = 9)
    (s2 : (jS h (jP h a0 9)).1 = 16)
    (s3 : 0 < ((jS h (jP h a0 9)).2 : Int))
    (q1 : ((jX h (jP h a0 9) 0) < i4) → Q (some (.inl ((-9)))) h)
    (s4 : (jS h (jP h a0 40)).1 = 16)
    (s5 : (¬ ((jX h (jP h a0 9) 0) < i4)) → 0 ≤ i4)
    (s6 : (¬ ((jX h (jP h a0 9) 0) < i4)) → i4 < ((jS h (jP h a0 40)).2 : Int))
    (r1 : (¬ ((jX h (jP h a0 9) 0) < i4)) → ((jX h (jP h a0 40) ((i4).toNat)) ≠ i2) → jR (i4 + 1))
    (k1 : (¬ ((jX h (jP h a0 9) 0) < i4)) → ((jX h (jP h a0 40) ((i4).toNat)) ≠ i2) → V MX9_first (d + 5) 43 [some (.inr a0), some (.inl i1), some (.inl i2), some (.inl i3), some (.inl (i4 + 1))] [] h 0 0 Q)
    (q2 : (¬ ((jX h (jP h a0 9) 0) < i4)) → ((jX h (jP h a0 40) ((i4).toNat)) = i2) → Q (some (.inl i4)) h) :
    V MX9_first (d + 5) 43 [some (.inr a0), some (.inl i1), some (.inl i2), some (.inl i3), some (.inl i4)] [] h 0 0 Q := by
  refine V_iload (i := 4) dX9_first_43 rfl ?_
  refine V_aload_n (i := 0) dX9_first_45 rfl rfl ?_
  refine V_getP dX9_first_46 fX9_25 rfl s1 ?_
  refine V_iconst dX9_first_49 ⟨by decide, by decide⟩ ?_
  refine V_iald dX9_first_50 s2 (by decide) s3 ?_
  refine V_icmp_gt (tgt := 74) dX9_first_51 (by decide) (fun c1 => ?_) (fun c1 => ?_)
  · refine V_bipush dX9_first_74 (by decide +kernel) ⟨by decide, by decide⟩ ?_
    exact V_reti rfl dX9_first_76 (q1 c1)
  · refine V_aload_n (i := 0) dX9_first_54 rfl rfl ?_
    refine V_getP dX9_first_55 fX9_71 rfl s1 ?_
    refine V_iload (i := 4) dX9_first_58 rfl ?_
    refine V_iald dX9_first_60 s4 (s5 c1) (s6 c1) ?_
    refine V_iload_n (i := 2) dX9_first_61 rfl rfl ?_
    refine V_icmp_ne (tgt := 68) dX9_first_62 (by decide) (fun c2 => ?_) (fun c2 => ?_)
    · refine V_iinc (i := 4) dX9_first_68 rfl (by decide) (r1 c1 c2) ?_
      refine V_goto (tgt := 43) dX9_first_71 (by decide) ?_
      exact (k1 c1 c2)
    · refine V_iload (i := 4) dX9_first_65 rfl ?_
      exact V_reti rfl dX9_first_67 (q2 c1 c2)
theorem bX9_first_40 {d : Nat} {Q : Option jA → jH → Prop} (a0 : Nat) (i1 : Int) (i2 : Int) (i3 : Int) (u4 : Option jA) (h : jH)
    (k1 : V MX9_first (d + 5) 43 [some (.inr a0), some (.inl i1), some (.inl i2), some (.inl i3), some (.inl i3)] [] h 0 0 Q) :
    V MX9_first (d + 5) 40 [some (.inr a0), some (.inl i1), some (.inl i2), some (.inl i3), u4] [] h 0 0 Q := by
  refine V_iload_n (i := 3) dX9_first_40 rfl rfl ?_
  refine V_istore (i := 4) dX9_first_41 (by decide) ?_
  exact k1
theorem dX9_holds_0 : decode cX9_holds 0 = .ok (.aload_n 0, 1) := by decide +kernel
theorem dX9_holds_1 : decode cX9_holds 1 = .ok (.iload_n 1, 1) := by decide +kernel
theorem dX9_holds_2 : decode cX9_holds 2 = .ok (.invokevirtual 250, 3) := by decide +kernel
theorem dX9_holds_5 : decode cX9_holds 5 = .ok (.ifCond .eq 22, 3) := by decide +kernel
theorem dX9_holds_8 : decode cX9_holds 8 = .ok (.iload_n 2, 1) := by decide +kernel
theorem dX9_holds_9 : decode cX9_holds 9 = .ok (.iconst 1, 1) := by decide +kernel
theorem dX9_holds_10 : decode cX9_holds 10 = .ok (.sipush 999, 3) := by decide +kernel
theorem dX9_holds_13 : decode cX9_holds 13 = .ok (.invokestatic 95, 3) := by decide +kernel
theorem dX9_holds_16 : decode cX9_holds 16 = .ok (.ifCond .eq 11, 3) := by decide +kernel
theorem dX9_holds_19 : decode cX9_holds 19 = .ok (.aload_n 0, 1) := by decide +kernel
theorem dX9_holds_20 : decode cX9_holds 20 = .ok (.iload_n 3, 1) := by decide +kernel
theorem dX9_holds_21 : decode cX9_holds 21 = .ok (.invokevirtual 268, 3) := by decide +kernel
theorem dX9_holds_24 : decode cX9_holds 24 = .ok (.ifCond .ne 5, 3) := by decide +kernel
theorem dX9_holds_27 : decode cX9_holds 27 = .ok (.iconst (-1), 1) := by decide +kernel
theorem dX9_holds_28 : decode cX9_holds 28 = .ok (.ireturn, 1) := by decide +kernel
theorem dX9_holds_29 : decode cX9_holds 29 = .ok (.aload_n 0, 1) := by decide +kernel
theorem dX9_holds_30 : decode cX9_holds 30 = .ok (.iload_n 1, 1) := by decide +kernel
theorem dX9_holds_31 : decode cX9_holds 31 = .ok (.invokevirtual 280, 3) := by decide +kernel
theorem dX9_holds_34 : decode cX9_holds 34 = .ok (.iconst 0, 1) := by decide +kernel
theorem dX9_holds_35 : decode cX9_holds 35 = .ok (.istore 4, 2) := by decide +kernel
theorem dX9_holds_37 : decode cX9_holds 37 = .ok (.iload_n 3, 1) := by decide +kernel
theorem dX9_holds_38 : decode cX9_holds 38 = .ok (.istore 5, 2) := by decide +kernel
theorem dX9_holds_40 : decode cX9_holds 40 = .ok (.iload 5, 2) := by decide +kernel
theorem dX9_holds_42 : decode cX9_holds 42 = .ok (.aload_n 0, 1) := by decide +kernel
theorem dX9_holds_43 : decode cX9_holds 43 = .ok (.getfield 25, 3) := by decide +kernel
theorem dX9_holds_46 : decode cX9_holds 46 = .ok (.iconst 0, 1) := by decide +kernel
theorem dX9_holds_47 : decode cX9_holds 47 = .ok (.iaload, 1) := by decide +kernel
theorem dX9_holds_48 : decode cX9_holds 48 = .ok (.if_icmp .gt 54, 3) := by decide +kernel
theorem dX9_holds_51 : decode cX9_holds 51 = .ok (.aload_n 0, 1) := by decide +kernel
theorem dX9_holds_52 : decode cX9_holds 52 = .ok (.getfield 71, 3) := by decide +kernel
theorem dX9_holds_55 : decode cX9_holds 55 = .ok (.iload 5, 2) := by decide +kernel
theorem dX9_holds_57 : decode cX9_holds 57 = .ok (.iaload, 1) := by decide +kernel
theorem dX9_holds_58 : decode cX9_holds 58 = .ok (.bipush (-7), 2) := by decide +kernel
theorem dX9_holds_60 : decode cX9_holds 60 = .ok (.if_icmp .eq 13, 3) := by decide +kernel
theorem dX9_holds_63 : decode cX9_holds 63 = .ok (.aload_n 0, 1) := by decide +kernel
theorem dX9_holds_64 : decode cX9_holds 64 = .ok (.getfield 71, 3) := by decide +kernel
theorem dX9_holds_67 : decode cX9_holds 67 = .ok (.iload 5, 2) := by decide +kernel
theorem dX9_holds_69 : decode cX9_holds 69 = .ok (.iaload, 1) := by decide +kernel
theorem dX9_holds_70 : decode cX9_holds 70 = .ok (.ifCond .ne 7, 3) := by decide +kernel
theorem dX9_holds_73 : decode cX9_holds 73 = .ok (.iconst 0, 1) := by decide +kernel
theorem dX9_holds_74 : decode cX9_holds 74 = .ok (.goto 7, 3) := by decide +kernel
theorem dX9_holds_77 : decode cX9_holds 77 = .ok (.iload 4, 2) := by decide +kernel
theorem dX9_holds_79 : decode cX9_holds 79 = .ok (.iconst 1, 1) := by decide +kernel
theorem dX9_holds_80 : decode cX9_holds 80 = .ok (.iadd, 1) := by decide +kernel
theorem dX9_holds_81 : decode cX9_holds 81 = .ok (.istore 4, 2) := by decide +kernel
theorem dX9_holds_83 : decode cX9_holds 83 = .ok (.iload 4, 2) := by decide +kernel
theorem dX9_holds_85 : decode cX9_holds 85 = .ok (.iload_n 2, 1) := by decide +kernel
theorem dX9_holds_86 : decode cX9_holds 86 = .ok (.if_icmp .ne 10, 3) := by decide +kernel
theorem dX9_holds_89 : decode cX9_holds 89 = .ok (.iload 5, 2) := by decide +kernel
theorem dX9_holds_91 : decode cX9_holds 91 = .ok (.iload_n 2, 1) := by decide +kernel
theorem dX9_holds_92 : decode cX9_holds 92 = .ok (.isub, 1) := by decide +kernel
theorem dX9_holds_93 : decode cX9_holds 93 = .ok (.iconst 1, 1) := by decide +kernel
theorem dX9_holds_94 : decode cX9_holds 94 = .ok (.iadd, 1) := by decide +kernel
theorem dX9_holds_95 : decode cX9_holds 95 = .ok (.ireturn, 1) := by decide +kernel
theorem dX9_holds_96 : decode cX9_holds 96 = .ok (.iinc 5 1, 3) := by decide +kernel
theorem dX9_holds_99 : decode cX9_holds 99 = .ok (.goto (-59), 3) := by decide +kernel
theorem dX9_holds_102 : decode cX9_holds 102 = .ok (.bipush (-9), 2) := by decide +kernel
theorem dX9_holds_104 : decode cX9_holds 104 = .ok (.ireturn, 1) := by decide +kernel
theorem bX9_holds_0 {d : Nat} {Q : Option jA → jH → Prop} (a0 : Nat) (i1 : Int) (i2 : Int) (i3 : Int) (u4 : Option jA) (u5 : Option jA) (h : jH)
    (s1 : (jS h a0).1 = 9)
    (s2 : 0 ≤ jI h a0 1)
    (s3 : jI h a0 1 ≤ 12)
    (q1 : (¬ (0 ≤ i1 ∧ i1 ≤ (jI h a0 1) - 1)) → Q (some (.inl ((-1)))) h)
    (q2 : (0 ≤ i1 ∧ i1 ≤ (jI h a0 1) - 1) → (¬ (1 ≤ i2 ∧ i2 ≤ 999)) → Q (some (.inl ((-1)))) h)
    (s4 : (jS h (jP h a0 9)).1 = 16)
    (s5 : (jS h (jP h a0 9)).2 = 209)
    (e1 : (0 ≤ i1 ∧ i1 ≤ (jI h a0 1) - 1) → (1 ≤ i2 ∧ i2 ≤ 999) → (0 ≤ i3 ∧ i3 ≤ (jX h (jP h a0 9) 0)) → Ex MX9_laysLine (d + 4) [.inr a0, .inl i1] h 0 0 (fun v h2 => V MX9_holds (d + 5) 34 [some (.inr a0), some (.inl i1), some (.inl i2), some (.inl i3), u4, u5] (v.toList ++ []) h2 0 0 Q))
    (q3 : (0 ≤ i1 ∧ i1 ≤ (jI h a0 1) - 1) → (1 ≤ i2 ∧ i2 ≤ 999) → (¬ (0 ≤ i3 ∧ i3 ≤ (jX h (jP h a0 9) 0))) → Q (some (.inl ((-1)))) h) :
    V MX9_holds (d + 5) 0 [some (.inr a0), some (.inl i1), some (.inl i2), some (.inl i3), u4, u5] [] h 0 0 Q := by
  refine V_aload_n (i := 0) dX9_holds_0 rfl rfl ?_
  refine V_iload_n (i := 1) dX9_holds_1 rfl rfl ?_
  refine V_callV (M := MX9_holds) (d := (d + 5)) (mc' := 0) (ms' := 0) (mc := 0) (ms := 0) (As := [.inl i1]) (rest := []) dX9_holds_2 tX9_isNode vX9_isNode lX9_250 s1 ⟨by decide, rfl⟩ rfl rfl (Nat.le_of_ble_eq_true rfl) (show (d + 1) + 1 ≤ (d + 5) by omega) (Ex.mono (pX9_isNode (d := d) s1 s2 s3) ?_)
  intro v h2 hq
  rw [hq.1, hq.2]
  show V MX9_holds (d + 5) 5 [some (.inr a0), some (.inl i1), some (.inl i2), some (.inl i3), u4, u5] [.inl (jb (0 ≤ i1 ∧ i1 ≤ (jI h a0 1) - 1))] h 0 0 Q
  refine V_ifb_eq (tgt := 27) dX9_holds_5 (by decide) (fun c1 => ?_) (fun c1 => ?_)
  · refine V_iconst dX9_holds_27 ⟨by decide, by decide⟩ ?_
    exact V_reti rfl dX9_holds_28 (q1 c1)
  · refine V_iload_n (i := 2) dX9_holds_8 rfl rfl ?_
    refine V_iconst dX9_holds_9 ⟨by decide, by decide⟩ ?_
    refine V_sipush dX9_holds_10 (by decide +kernel) ⟨by decide, by decide⟩ ?_
    refine V_callS (M := MX9_holds) (d := (d + 5)) (mc' := 0) (ms' := 0) (mc := 0) (ms := 0) (a := 0) (As := [.inl i2, .inl 1, .inl 999]) (rest := []) dX9_holds_13 tX9_in sX9_in lX9_95 rfl rfl (Nat.le_of_ble_eq_true rfl) (show d + 1 ≤ (d + 5) by omega) (Ex.mono (pX9_in (d := d) ) ?_)
    intro v h2 hq
    rw [hq.1, hq.2]
    show V MX9_holds (d + 5) 16 [some (.inr a0), some (.inl i1), some (.inl i2), some (.inl i3), u4, u5] [.inl (jb (1 ≤ i2 ∧ i2 ≤ 999))] h 0 0 Q
    refine V_ifb_eq (tgt := 27) dX9_holds_16 (by decide) (fun c2 => ?_) (fun c2 => ?_)
    · refine V_iconst dX9_holds_27 ⟨by decide, by decide⟩ ?_
      exact V_reti rfl dX9_holds_28 (q2 c1 c2)
    · refine V_aload_n (i := 0) dX9_holds_19 rfl rfl ?_
      refine V_iload_n (i := 3) dX9_holds_20 rfl rfl ?_
      refine V_callV (M := MX9_holds) (d := (d + 5)) (mc' := 0) (ms' := 0) (mc := 0) (ms := 0) (As := [.inl i3]) (rest := []) dX9_holds_21 tX9_isTime vX9_isTime lX9_268 s1 ⟨by decide, rfl⟩ rfl rfl (Nat.le_of_ble_eq_true rfl) (show (d + 1) + 1 ≤ (d + 5) by omega) (Ex.mono (pX9_isTime (d := d) s1 s4 s5) ?_)
      intro v h2 hq
      rw [hq.1, hq.2]
      show V MX9_holds (d + 5) 24 [some (.inr a0), some (.inl i1), some (.inl i2), some (.inl i3), u4, u5] [.inl (jb (0 ≤ i3 ∧ i3 ≤ (jX h (jP h a0 9) 0)))] h 0 0 Q
      refine V_ifb_ne (tgt := 29) dX9_holds_24 (by decide) (fun c3 => ?_) (fun c3 => ?_)
      · refine V_aload_n (i := 0) dX9_holds_29 rfl rfl ?_
        refine V_iload_n (i := 1) dX9_holds_30 rfl rfl ?_
        exact V_callV (M := MX9_holds) (d := (d + 5)) (mc' := 0) (ms' := 0) (mc := 0) (ms := 0) (As := [.inl i1]) (rest := []) dX9_holds_31 tX9_laysLine vX9_laysLine lX9_280 s1 ⟨by decide, rfl⟩ rfl rfl (Nat.le_of_ble_eq_true rfl) (show (d + 4) + 1 ≤ (d + 5) by omega) (e1 c1 c2 c3)
      · refine V_iconst dX9_holds_27 ⟨by decide, by decide⟩ ?_
        exact V_reti rfl dX9_holds_28 (q3 c1 c2 c3)
theorem bX9_holds_40 {d : Nat} {Q : Option jA → jH → Prop} (a0 : Nat) (i1 : Int) (i2 : Int) (i3 : Int) (i4 : Int) (i5 : Int) (h : jH)
    (s1 : (jS h a0).1 = 9)
    (s2 : (jS h (jP h a0 9)).1 = 16)
    (s3 : 0 < ((jS h (jP h a0 9)).2 : Int))
    (q1 : ((jX h (jP h a0 9) 0) < i5) → Q (some (.inl ((-9)))) h)
    (s4 : (jS h (jP h a0 40)).1 = 16)
    (s5 : (¬ ((jX h (jP h a0 9) 0) < i5)) → 0 ≤ i5)
    (s6 : (¬ ((jX h (jP h a0 9) 0) < i5)) → i5 < ((jS h (jP h a0 40)).2 : Int))
    (r1 : (¬ ((jX h (jP h a0 9) 0) < i5)) → ((jX h (jP h a0 40) ((i5).toNat)) = ((-7))) → (0 ≠ i2) → jR (i5 + 1))
    (k1 : (¬ ((jX h (jP h a0 9) 0) < i5)) → ((jX h (jP h a0 40) ((i5).toNat)) = ((-7))) → (0 ≠ i2) → V MX9_holds (d + 5) 40 [some (.inr a0), some (.inl i1), some (.inl i2), some (.inl i3), some (.inl 0), some (.inl (i5 + 1))] [] h 0 0 Q)
    (r2 : (¬ ((jX h (jP h a0 9) 0) < i5)) → ((jX h (jP h a0 40) ((i5).toNat)) = ((-7))) → (0 = i2) → jR (i5 - i2))
    (r3 : (¬ ((jX h (jP h a0 9) 0) < i5)) → ((jX h (jP h a0 40) ((i5).toNat)) = ((-7))) → (0 = i2) → jR ((i5 - i2) + 1))
    (q2 : (¬ ((jX h (jP h a0 9) 0) < i5)) → ((jX h (jP h a0 40) ((i5).toNat)) = ((-7))) → (0 = i2) → Q (some (.inl ((i5 - i2) + 1))) h)
    (r4 : (¬ ((jX h (jP h a0 9) 0) < i5)) → (¬ ((jX h (jP h a0 40) ((i5).toNat)) = ((-7)))) → ((jX h (jP h a0 40) ((i5).toNat)) ≠ 0) → jR (i4 + 1))
    (r5 : (¬ ((jX h (jP h a0 9) 0) < i5)) → (¬ ((jX h (jP h a0 40) ((i5).toNat)) = ((-7)))) → ((jX h (jP h a0 40) ((i5).toNat)) ≠ 0) → ((i4 + 1) ≠ i2) → jR (i5 + 1))
    (k2 : (¬ ((jX h (jP h a0 9) 0) < i5)) → (¬ ((jX h (jP h a0 40) ((i5).toNat)) = ((-7)))) → ((jX h (jP h a0 40) ((i5).toNat)) ≠ 0) → ((i4 + 1) ≠ i2) → V MX9_holds (d + 5) 40 [some (.inr a0), some (.inl i1), some (.inl i2), some (.inl i3), some (.inl (i4 + 1)), some (.inl (i5 + 1))] [] h 0 0 Q)
    (r6 : (¬ ((jX h (jP h a0 9) 0) < i5)) → (¬ ((jX h (jP h a0 40) ((i5).toNat)) = ((-7)))) → ((jX h (jP h a0 40) ((i5).toNat)) ≠ 0) → ((i4 + 1) = i2) → jR (i5 - i2))
    (r7 : (¬ ((jX h (jP h a0 9) 0) < i5)) → (¬ ((jX h (jP h a0 40) ((i5).toNat)) = ((-7)))) → ((jX h (jP h a0 40) ((i5).toNat)) ≠ 0) → ((i4 + 1) = i2) → jR ((i5 - i2) + 1))
    (q3 : (¬ ((jX h (jP h a0 9) 0) < i5)) → (¬ ((jX h (jP h a0 40) ((i5).toNat)) = ((-7)))) → ((jX h (jP h a0 40) ((i5).toNat)) ≠ 0) → ((i4 + 1) = i2) → Q (some (.inl ((i5 - i2) + 1))) h)
    (r8 : (¬ ((jX h (jP h a0 9) 0) < i5)) → (¬ ((jX h (jP h a0 40) ((i5).toNat)) = ((-7)))) → ((jX h (jP h a0 40) ((i5).toNat)) = 0) → (0 ≠ i2) → jR (i5 + 1))
    (k3 : (¬ ((jX h (jP h a0 9) 0) < i5)) → (¬ ((jX h (jP h a0 40) ((i5).toNat)) = ((-7)))) → ((jX h (jP h a0 40) ((i5).toNat)) = 0) → (0 ≠ i2) → V MX9_holds (d + 5) 40 [some (.inr a0), some (.inl i1), some (.inl i2), some (.inl i3), some (.inl 0), some (.inl (i5 + 1))] [] h 0 0 Q)
    (r9 : (¬ ((jX h (jP h a0 9) 0) < i5)) → (¬ ((jX h (jP h a0 40) ((i5).toNat)) = ((-7)))) → ((jX h (jP h a0 40) ((i5).toNat)) = 0) → (0 = i2) → jR (i5 - i2))
    (r10 : (¬ ((jX h (jP h a0 9) 0) < i5)) → (¬ ((jX h (jP h a0 40) ((i5).toNat)) = ((-7)))) → ((jX h (jP h a0 40) ((i5).toNat)) = 0) → (0 = i2) → jR ((i5 - i2) + 1))
    (q4 : (¬ ((jX h (jP h a0 9) 0) < i5)) → (¬ ((jX h (jP h a0 40) ((i5).toNat)) = ((-7)))) → ((jX h (jP h a0 40) ((i5).toNat)) = 0) → (0 = i2) → Q (some (.inl ((i5 - i2) + 1))) h) :
    V MX9_holds (d + 5) 40 [some (.inr a0), some (.inl i1), some (.inl i2), some (.inl i3), some (.inl i4), some (.inl i5)] [] h 0 0 Q := by
  refine V_iload (i := 5) dX9_holds_40 rfl ?_
  refine V_aload_n (i := 0) dX9_holds_42 rfl rfl ?_
  refine V_getP dX9_holds_43 fX9_25 rfl s1 ?_
  refine V_iconst dX9_holds_46 ⟨by decide, by decide⟩ ?_
  refine V_iald dX9_holds_47 s2 (by decide) s3 ?_
  refine V_icmp_gt (tgt := 102) dX9_holds_48 (by decide) (fun c1 => ?_) (fun c1 => ?_)
  · refine V_bipush dX9_holds_102 (by decide +kernel) ⟨by decide, by decide⟩ ?_
    exact V_reti rfl dX9_holds_104 (q1 c1)
  · refine V_aload_n (i := 0) dX9_holds_51 rfl rfl ?_
    refine V_getP dX9_holds_52 fX9_71 rfl s1 ?_
    refine V_iload (i := 5) dX9_holds_55 rfl ?_
    refine V_iald dX9_holds_57 s4 (s5 c1) (s6 c1) ?_
    refine V_bipush dX9_holds_58 (by decide +kernel) ⟨by decide, by decide⟩ ?_
    refine V_icmp_eq (tgt := 73) dX9_holds_60 (by decide) (fun c2 => ?_) (fun c2 => ?_)
    · refine V_iconst dX9_holds_73 ⟨by decide, by decide⟩ ?_
      refine V_goto (tgt := 81) dX9_holds_74 (by decide) ?_
      refine V_istore (i := 4) dX9_holds_81 (by decide) ?_
      refine V_iload (i := 4) dX9_holds_83 rfl ?_
      refine V_iload_n (i := 2) dX9_holds_85 rfl rfl ?_
      refine V_icmp_ne (tgt := 96) dX9_holds_86 (by decide) (fun c3 => ?_) (fun c3 => ?_)
      · refine V_iinc (i := 5) dX9_holds_96 rfl (by decide) (r1 c1 c2 c3) ?_
        refine V_goto (tgt := 40) dX9_holds_99 (by decide) ?_
        exact (k1 c1 c2 c3)
      · refine V_iload (i := 5) dX9_holds_89 rfl ?_
        refine V_iload_n (i := 2) dX9_holds_91 rfl rfl ?_
        refine V_isub dX9_holds_92 (r2 c1 c2 c3) ?_
        refine V_iconst dX9_holds_93 ⟨by decide, by decide⟩ ?_
        refine V_iadd dX9_holds_94 (r3 c1 c2 c3) ?_
        exact V_reti rfl dX9_holds_95 (q2 c1 c2 c3)
    · refine V_aload_n (i := 0) dX9_holds_63 rfl rfl ?_
      refine V_getP dX9_holds_64 fX9_71 rfl s1 ?_
      refine V_iload (i := 5) dX9_holds_67 rfl ?_
      refine V_iald dX9_holds_69 s4 (s5 c1) (s6 c1) ?_
      refine V_if_ne (tgt := 77) dX9_holds_70 (by decide) (fun c4 => ?_) (fun c4 => ?_)
      · refine V_iload (i := 4) dX9_holds_77 rfl ?_
        refine V_iconst dX9_holds_79 ⟨by decide, by decide⟩ ?_
        refine V_iadd dX9_holds_80 (r4 c1 c2 c4) ?_
        refine V_istore (i := 4) dX9_holds_81 (by decide) ?_
        refine V_iload (i := 4) dX9_holds_83 rfl ?_
        refine V_iload_n (i := 2) dX9_holds_85 rfl rfl ?_
        refine V_icmp_ne (tgt := 96) dX9_holds_86 (by decide) (fun c5 => ?_) (fun c5 => ?_)
        · refine V_iinc (i := 5) dX9_holds_96 rfl (by decide) (r5 c1 c2 c4 c5) ?_
          refine V_goto (tgt := 40) dX9_holds_99 (by decide) ?_
          exact (k2 c1 c2 c4 c5)
        · refine V_iload (i := 5) dX9_holds_89 rfl ?_
          refine V_iload_n (i := 2) dX9_holds_91 rfl rfl ?_
          refine V_isub dX9_holds_92 (r6 c1 c2 c4 c5) ?_
          refine V_iconst dX9_holds_93 ⟨by decide, by decide⟩ ?_
          refine V_iadd dX9_holds_94 (r7 c1 c2 c4 c5) ?_
          exact V_reti rfl dX9_holds_95 (q3 c1 c2 c4 c5)
      · refine V_iconst dX9_holds_73 ⟨by decide, by decide⟩ ?_
        refine V_goto (tgt := 81) dX9_holds_74 (by decide) ?_
        refine V_istore (i := 4) dX9_holds_81 (by decide) ?_
        refine V_iload (i := 4) dX9_holds_83 rfl ?_
        refine V_iload_n (i := 2) dX9_holds_85 rfl rfl ?_
        refine V_icmp_ne (tgt := 96) dX9_holds_86 (by decide) (fun c6 => ?_) (fun c6 => ?_)
        · refine V_iinc (i := 5) dX9_holds_96 rfl (by decide) (r8 c1 c2 c4 c6) ?_
          refine V_goto (tgt := 40) dX9_holds_99 (by decide) ?_
          exact (k3 c1 c2 c4 c6)
        · refine V_iload (i := 5) dX9_holds_89 rfl ?_
          refine V_iload_n (i := 2) dX9_holds_91 rfl rfl ?_
          refine V_isub dX9_holds_92 (r9 c1 c2 c4 c6) ?_
          refine V_iconst dX9_holds_93 ⟨by decide, by decide⟩ ?_
          refine V_iadd dX9_holds_94 (r10 c1 c2 c4 c6) ?_
          exact V_reti rfl dX9_holds_95 (q4 c1 c2 c4 c6)
theorem bX9_holds_34 {d : Nat} {Q : Option jA → jH → Prop} (a0 : Nat) (i1 : Int) (i2 : Int) (i3 : Int) (u4 : Option jA) (u5 : Option jA) (h : jH)
    (k1 : V MX9_holds (d + 5) 40 [some (.inr a0), some (.inl i1), some (.inl i2), some (.inl i3), some (.inl 0), some (.inl i3)] [] h 0 0 Q) :
    V MX9_holds (d + 5) 34 [some (.inr a0), some (.inl i1), some (.inl i2), some (.inl i3), u4, u5] [] h 0 0 Q := by
  refine V_iconst dX9_holds_34 ⟨by decide, by decide⟩ ?_
  refine V_istore (i := 4) dX9_holds_35 (by decide) ?_
  refine V_iload_n (i := 3) dX9_holds_37 rfl rfl ?_
  refine V_istore (i := 5) dX9_holds_38 (by decide) ?_
  exact k1
theorem dX9_isTick_0 : decode cX9_isTick 0 = .ok (.iconst 0, 1) := by decide +kernel
theorem dX9_isTick_1 : decode cX9_isTick 1 = .ok (.istore_n 2, 1) := by decide +kernel
theorem dX9_isTick_2 : decode cX9_isTick 2 = .ok (.iconst 0, 1) := by decide +kernel
theorem dX9_isTick_3 : decode cX9_isTick 3 = .ok (.istore_n 3, 1) := by decide +kernel
theorem dX9_isTick_4 : decode cX9_isTick 4 = .ok (.iload_n 3, 1) := by decide +kernel
theorem dX9_isTick_5 : decode cX9_isTick 5 = .ok (.aload_n 0, 1) := by decide +kernel
theorem dX9_isTick_6 : decode cX9_isTick 6 = .ok (.getfield 212, 3) := by decide +kernel
theorem dX9_isTick_9 : decode cX9_isTick 9 = .ok (.if_icmp .ge 65, 3) := by decide +kernel
theorem dX9_isTick_12 : decode cX9_isTick 12 = .ok (.iload_n 2, 1) := by decide +kernel
theorem dX9_isTick_13 : decode cX9_isTick 13 = .ok (.ifCond .ne 49, 3) := by decide +kernel
theorem dX9_isTick_16 : decode cX9_isTick 16 = .ok (.iload_n 1, 1) := by decide +kernel
theorem dX9_isTick_17 : decode cX9_isTick 17 = .ok (.iload_n 3, 1) := by decide +kernel
theorem dX9_isTick_18 : decode cX9_isTick 18 = .ok (.ishr, 1) := by decide +kernel
theorem dX9_isTick_19 : decode cX9_isTick 19 = .ok (.iconst 1, 1) := by decide +kernel
theorem dX9_isTick_20 : decode cX9_isTick 20 = .ok (.iand, 1) := by decide +kernel
theorem dX9_isTick_21 : decode cX9_isTick 21 = .ok (.iconst 1, 1) := by decide +kernel
theorem dX9_isTick_22 : decode cX9_isTick 22 = .ok (.if_icmp .ne 44, 3) := by decide +kernel
theorem dX9_isTick_25 : decode cX9_isTick 25 = .ok (.aload_n 0, 1) := by decide +kernel
theorem dX9_isTick_26 : decode cX9_isTick 26 = .ok (.getfield 74, 3) := by decide +kernel
theorem dX9_isTick_29 : decode cX9_isTick 29 = .ok (.iload_n 3, 1) := by decide +kernel
theorem dX9_isTick_30 : decode cX9_isTick 30 = .ok (.iaload, 1) := by decide +kernel
theorem dX9_isTick_31 : decode cX9_isTick 31 = .ok (.bipush (-7), 2) := by decide +kernel
theorem dX9_isTick_33 : decode cX9_isTick 33 = .ok (.if_icmp .eq 33, 3) := by decide +kernel
theorem dX9_isTick_36 : decode cX9_isTick 36 = .ok (.aload_n 0, 1) := by decide +kernel
theorem dX9_isTick_37 : decode cX9_isTick 37 = .ok (.getfield 59, 3) := by decide +kernel
theorem dX9_isTick_40 : decode cX9_isTick 40 = .ok (.iload_n 3, 1) := by decide +kernel
theorem dX9_isTick_41 : decode cX9_isTick 41 = .ok (.iaload, 1) := by decide +kernel
theorem dX9_isTick_42 : decode cX9_isTick 42 = .ok (.bipush (-7), 2) := by decide +kernel
theorem dX9_isTick_44 : decode cX9_isTick 44 = .ok (.if_icmp .eq 22, 3) := by decide +kernel
theorem dX9_isTick_47 : decode cX9_isTick 47 = .ok (.aload_n 0, 1) := by decide +kernel
theorem dX9_isTick_48 : decode cX9_isTick 48 = .ok (.getfield 74, 3) := by decide +kernel
theorem dX9_isTick_51 : decode cX9_isTick 51 = .ok (.iload_n 3, 1) := by decide +kernel
theorem dX9_isTick_52 : decode cX9_isTick 52 = .ok (.iaload, 1) := by decide +kernel
theorem dX9_isTick_53 : decode cX9_isTick 53 = .ok (.aload_n 0, 1) := by decide +kernel
theorem dX9_isTick_54 : decode cX9_isTick 54 = .ok (.getfield 59, 3) := by decide +kernel
theorem dX9_isTick_57 : decode cX9_isTick 57 = .ok (.iload_n 3, 1) := by decide +kernel
theorem dX9_isTick_58 : decode cX9_isTick 58 = .ok (.iaload, 1) := by decide +kernel
theorem dX9_isTick_59 : decode cX9_isTick 59 = .ok (.if_icmp .eq 7, 3) := by decide +kernel
theorem dX9_isTick_62 : decode cX9_isTick 62 = .ok (.iconst 1, 1) := by decide +kernel
theorem dX9_isTick_63 : decode cX9_isTick 63 = .ok (.goto 4, 3) := by decide +kernel
theorem dX9_isTick_66 : decode cX9_isTick 66 = .ok (.iconst 0, 1) := by decide +kernel
theorem dX9_isTick_67 : decode cX9_isTick 67 = .ok (.istore_n 2, 1) := by decide +kernel
theorem dX9_isTick_68 : decode cX9_isTick 68 = .ok (.iinc 3 1, 3) := by decide +kernel
theorem dX9_isTick_71 : decode cX9_isTick 71 = .ok (.goto (-67), 3) := by decide +kernel
theorem dX9_isTick_74 : decode cX9_isTick 74 = .ok (.iload_n 2, 1) := by decide +kernel
theorem dX9_isTick_75 : decode cX9_isTick 75 = .ok (.ireturn, 1) := by decide +kernel
theorem bX9_isTick_0 {d : Nat} {Q : Option jA → jH → Prop} (a0 : Nat) (i1 : Int) (u2 : Option jA) (u3 : Option jA) (h : jH)
    (k1 : V MX9_isTick d 4 [some (.inr a0), some (.inl i1), some (.inl 0), some (.inl 0)] [] h 0 0 Q) :
    V MX9_isTick d 0 [some (.inr a0), some (.inl i1), u2, u3] [] h 0 0 Q := by
  refine V_iconst dX9_isTick_0 ⟨by decide, by decide⟩ ?_
  refine V_istore_n (i := 2) dX9_isTick_1 rfl (by decide) ?_
  refine V_iconst dX9_isTick_2 ⟨by decide, by decide⟩ ?_
  refine V_istore_n (i := 3) dX9_isTick_3 rfl (by decide) ?_
  exact k1
theorem bX9_isTick_4 {d : Nat} {Q : Option jA → jH → Prop} (a0 : Nat) (i1 : Int) (i2 : Int) (i3 : Int) (h : jH)
    (s1 : (jS h a0).1 = 9)
    (q1 : ((jI h a0 1) ≤ i3) → Q (some (.inl i2)) h)
    (z1 : ((jI h a0 1) ≤ i3) → i2 = 0 ∨ i2 = 1)
    (r1 : (¬ ((jI h a0 1) ≤ i3)) → (i2 ≠ 0) → jR (i3 + 1))
    (k1 : (¬ ((jI h a0 1) ≤ i3)) → (i2 ≠ 0) → V MX9_isTick d 4 [some (.inr a0), some (.inl i1), some (.inl 1), some (.inl (i3 + 1))] [] h 0 0 Q)
    (r2 : (¬ ((jI h a0 1) ≤ i3)) → (i2 = 0) → ((jand (jshr i1 i3) 1) ≠ 1) → jR (i3 + 1))
    (k2 : (¬ ((jI h a0 1) ≤ i3)) → (i2 = 0) → ((jand (jshr i1 i3) 1) ≠ 1) → V MX9_isTick d 4 [some (.inr a0), some (.inl i1), some (.inl 0), some (.inl (i3 + 1))] [] h 0 0 Q)
    (s2 : (jS h (jP h a0 41)).1 = 16)
    (s3 : (¬ ((jI h a0 1) ≤ i3)) → (i2 = 0) → ((jand (jshr i1 i3) 1) = 1) → 0 ≤ i3)
    (s4 : (¬ ((jI h a0 1) ≤ i3)) → (i2 = 0) → ((jand (jshr i1 i3) 1) = 1) → i3 < ((jS h (jP h a0 41)).2 : Int))
    (r3 : (¬ ((jI h a0 1) ≤ i3)) → (i2 = 0) → ((jand (jshr i1 i3) 1) = 1) → ((jX h (jP h a0 41) ((i3).toNat)) = ((-7))) → jR (i3 + 1))
    (k3 : (¬ ((jI h a0 1) ≤ i3)) → (i2 = 0) → ((jand (jshr i1 i3) 1) = 1) → ((jX h (jP h a0 41) ((i3).toNat)) = ((-7))) → V MX9_isTick d 4 [some (.inr a0), some (.inl i1), some (.inl 0), some (.inl (i3 + 1))] [] h 0 0 Q)
    (s5 : (jS h (jP h a0 36)).1 = 16)
    (s6 : (¬ ((jI h a0 1) ≤ i3)) → (i2 = 0) → ((jand (jshr i1 i3) 1) = 1) → (¬ ((jX h (jP h a0 41) ((i3).toNat)) = ((-7)))) → i3 < ((jS h (jP h a0 36)).2 : Int))
    (r4 : (¬ ((jI h a0 1) ≤ i3)) → (i2 = 0) → ((jand (jshr i1 i3) 1) = 1) → (¬ ((jX h (jP h a0 41) ((i3).toNat)) = ((-7)))) → ((jX h (jP h a0 36) ((i3).toNat)) = ((-7))) → jR (i3 + 1))
    (k4 : (¬ ((jI h a0 1) ≤ i3)) → (i2 = 0) → ((jand (jshr i1 i3) 1) = 1) → (¬ ((jX h (jP h a0 41) ((i3).toNat)) = ((-7)))) → ((jX h (jP h a0 36) ((i3).toNat)) = ((-7))) → V MX9_isTick d 4 [some (.inr a0), some (.inl i1), some (.inl 0), some (.inl (i3 + 1))] [] h 0 0 Q)
    (r5 : (¬ ((jI h a0 1) ≤ i3)) → (i2 = 0) → ((jand (jshr i1 i3) 1) = 1) → (¬ ((jX h (jP h a0 41) ((i3).toNat)) = ((-7)))) → (¬ ((jX h (jP h a0 36) ((i3).toNat)) = ((-7)))) → ((jX h (jP h a0 41) ((i3).toNat)) = (jX h (jP h a0 36) ((i3).toNat))) → jR (i3 + 1))
    (k5 : (¬ ((jI h a0 1) ≤ i3)) → (i2 = 0) → ((jand (jshr i1 i3) 1) = 1) → (¬ ((jX h (jP h a0 41) ((i3).toNat)) = ((-7)))) → (¬ ((jX h (jP h a0 36) ((i3).toNat)) = ((-7)))) → ((jX h (jP h a0 41) ((i3).toNat)) = (jX h (jP h a0 36) ((i3).toNat))) → V MX9_isTick d 4 [some (.inr a0), some (.inl i1), some (.inl 0), some (.inl (i3 + 1))] [] h 0 0 Q)
    (r6 : (¬ ((jI h a0 1) ≤ i3)) → (i2 = 0) → ((jand (jshr i1 i3) 1) = 1) → (¬ ((jX h (jP h a0 41) ((i3).toNat)) = ((-7)))) → (¬ ((jX h (jP h a0 36) ((i3).toNat)) = ((-7)))) → (¬ ((jX h (jP h a0 41) ((i3).toNat)) = (jX h (jP h a0 36) ((i3).toNat)))) → jR (i3 + 1))
    (k6 : (¬ ((jI h a0 1) ≤ i3)) → (i2 = 0) → ((jand (jshr i1 i3) 1) = 1) → (¬ ((jX h (jP h a0 41) ((i3).toNat)) = ((-7)))) → (¬ ((jX h (jP h a0 36) ((i3).toNat)) = ((-7)))) → (¬ ((jX h (jP h a0 41) ((i3).toNat)) = (jX h (jP h a0 36) ((i3).toNat)))) → V MX9_isTick d 4 [some (.inr a0), some (.inl i1), some (.inl 1), some (.inl (i3 + 1))] [] h 0 0 Q) :
    V MX9_isTick d 4 [some (.inr a0), some (.inl i1), some (.inl i2), some (.inl i3)] [] h 0 0 Q := by
  refine V_iload_n (i := 3) dX9_isTick_4 rfl rfl ?_
  refine V_aload_n (i := 0) dX9_isTick_5 rfl rfl ?_
  refine V_getI dX9_isTick_6 fX9_212 rfl s1 ?_
  refine V_icmp_ge (tgt := 74) dX9_isTick_9 (by decide) (fun c1 => ?_) (fun c1 => ?_)
  · refine V_iload_n (i := 2) dX9_isTick_74 rfl rfl ?_
    exact V_retz rfl dX9_isTick_75 (z1 c1) (q1 c1)
  · refine V_iload_n (i := 2) dX9_isTick_12 rfl rfl ?_
    refine V_if_ne (tgt := 62) dX9_isTick_13 (by decide) (fun c2 => ?_) (fun c2 => ?_)
    · refine V_iconst dX9_isTick_62 ⟨by decide, by decide⟩ ?_
      refine V_goto (tgt := 67) dX9_isTick_63 (by decide) ?_
      refine V_istore_n (i := 2) dX9_isTick_67 rfl (by decide) ?_
      refine V_iinc (i := 3) dX9_isTick_68 rfl (by decide) (r1 c1 c2) ?_
      refine V_goto (tgt := 4) dX9_isTick_71 (by decide) ?_
      exact (k1 c1 c2)
    · refine V_iload_n (i := 1) dX9_isTick_16 rfl rfl ?_
      refine V_iload_n (i := 3) dX9_isTick_17 rfl rfl ?_
      refine V_ishr dX9_isTick_18 ?_
      refine V_iconst dX9_isTick_19 ⟨by decide, by decide⟩ ?_
      refine V_iand dX9_isTick_20 ?_
      refine V_iconst dX9_isTick_21 ⟨by decide, by decide⟩ ?_
      refine V_icmp_ne (tgt := 66) dX9_isTick_22 (by decide) (fun c3 => ?_) (fun c3 => ?_)
      · refine V_iconst dX9_isTick_66 ⟨by decide, by decide⟩ ?_
        refine V_istore_n (i := 2) dX9_isTick_67 rfl (by decide) ?_
        refine V_iinc (i := 3) dX9_isTick_68 rfl (by decide) (r2 c1 c2 c3) ?_
        refine V_goto (tgt := 4) dX9_isTick_71 (by decide) ?_
        exact (k2 c1 c2 c3)
      · refine V_aload_n (i := 0) dX9_isTick_25 rfl rfl ?_
        refine V_getP dX9_isTick_26 fX9_74 rfl s1 ?_
        refine V_iload_n (i := 3) dX9_isTick_29 rfl rfl ?_
        refine V_iald dX9_isTick_30 s2 (s3 c1 c2 c3) (s4 c1 c2 c3) ?_
        refine V_bipush dX9_isTick_31 (by decide +kernel) ⟨by decide, by decide⟩ ?_
        refine V_icmp_eq (tgt := 66) dX9_isTick_33 (by decide) (fun c4 => ?_) (fun c4 => ?_)
        · refine V_iconst dX9_isTick_66 ⟨by decide, by decide⟩ ?_
          refine V_istore_n (i := 2) dX9_isTick_67 rfl (by decide) ?_
          refine V_iinc (i := 3) dX9_isTick_68 rfl (by decide) (r3 c1 c2 c3 c4) ?_
          refine V_goto (tgt := 4) dX9_isTick_71 (by decide) ?_
          exact (k3 c1 c2 c3 c4)
        · refine V_aload_n (i := 0) dX9_isTick_36 rfl rfl ?_
          refine V_getP dX9_isTick_37 fX9_59 rfl s1 ?_
          refine V_iload_n (i := 3) dX9_isTick_40 rfl rfl ?_
          refine V_iald dX9_isTick_41 s5 (s3 c1 c2 c3) (s6 c1 c2 c3 c4) ?_
          refine V_bipush dX9_isTick_42 (by decide +kernel) ⟨by decide, by decide⟩ ?_
          refine V_icmp_eq (tgt := 66) dX9_isTick_44 (by decide) (fun c5 => ?_) (fun c5 => ?_)
          · refine V_iconst dX9_isTick_66 ⟨by decide, by decide⟩ ?_
            refine V_istore_n (i := 2) dX9_isTick_67 rfl (by decide) ?_
            refine V_iinc (i := 3) dX9_isTick_68 rfl (by decide) (r4 c1 c2 c3 c4 c5) ?_
            refine V_goto (tgt := 4) dX9_isTick_71 (by decide) ?_
            exact (k4 c1 c2 c3 c4 c5)
          · refine V_aload_n (i := 0) dX9_isTick_47 rfl rfl ?_
            refine V_getP dX9_isTick_48 fX9_74 rfl s1 ?_
            refine V_iload_n (i := 3) dX9_isTick_51 rfl rfl ?_
            refine V_iald dX9_isTick_52 s2 (s3 c1 c2 c3) (s4 c1 c2 c3) ?_
            refine V_aload_n (i := 0) dX9_isTick_53 rfl rfl ?_
            refine V_getP dX9_isTick_54 fX9_59 rfl s1 ?_
            refine V_iload_n (i := 3) dX9_isTick_57 rfl rfl ?_
            refine V_iald dX9_isTick_58 s5 (s3 c1 c2 c3) (s6 c1 c2 c3 c4) ?_
            refine V_icmp_eq (tgt := 66) dX9_isTick_59 (by decide) (fun c6 => ?_) (fun c6 => ?_)
            · refine V_iconst dX9_isTick_66 ⟨by decide, by decide⟩ ?_
              refine V_istore_n (i := 2) dX9_isTick_67 rfl (by decide) ?_
              refine V_iinc (i := 3) dX9_isTick_68 rfl (by decide) (r5 c1 c2 c3 c4 c5 c6) ?_
              refine V_goto (tgt := 4) dX9_isTick_71 (by decide) ?_
              exact (k5 c1 c2 c3 c4 c5 c6)
            · refine V_iconst dX9_isTick_62 ⟨by decide, by decide⟩ ?_
              refine V_goto (tgt := 67) dX9_isTick_63 (by decide) ?_
              refine V_istore_n (i := 2) dX9_isTick_67 rfl (by decide) ?_
              refine V_iinc (i := 3) dX9_isTick_68 rfl (by decide) (r6 c1 c2 c3 c4 c5 c6) ?_
              refine V_goto (tgt := 4) dX9_isTick_71 (by decide) ?_
              exact (k6 c1 c2 c3 c4 c5 c6)
theorem dX9_ticks_0 : decode cX9_ticks 0 = .ok (.iload_n 1, 1) := by decide +kernel
theorem dX9_ticks_1 : decode cX9_ticks 1 = .ok (.iconst 0, 1) := by decide +kernel
theorem dX9_ticks_2 : decode cX9_ticks 2 = .ok (.iconst 1, 1) := by decide +kernel
theorem dX9_ticks_3 : decode cX9_ticks 3 = .ok (.aload_n 0, 1) := by decide +kernel
theorem dX9_ticks_4 : decode cX9_ticks 4 = .ok (.getfield 212, 3) := by decide +kernel
theorem dX9_ticks_7 : decode cX9_ticks 7 = .ok (.ishl, 1) := by decide +kernel
theorem dX9_ticks_8 : decode cX9_ticks 8 = .ok (.iconst 1, 1) := by decide +kernel
theorem dX9_ticks_9 : decode cX9_ticks 9 = .ok (.isub, 1) := by decide +kernel
theorem dX9_ticks_10 : decode cX9_ticks 10 = .ok (.invokestatic 95, 3) := by decide +kernel
theorem dX9_ticks_13 : decode cX9_ticks 13 = .ok (.ifCond .eq 8, 3) := by decide +kernel
theorem dX9_ticks_16 : decode cX9_ticks 16 = .ok (.iload_n 2, 1) := by decide +kernel
theorem dX9_ticks_17 : decode cX9_ticks 17 = .ok (.iconst (-1), 1) := by decide +kernel
theorem dX9_ticks_18 : decode cX9_ticks 18 = .ok (.if_icmp .ge 5, 3) := by decide +kernel
theorem dX9_ticks_21 : decode cX9_ticks 21 = .ok (.iconst (-1), 1) := by decide +kernel
theorem dX9_ticks_22 : decode cX9_ticks 22 = .ok (.ireturn, 1) := by decide +kernel
theorem dX9_ticks_23 : decode cX9_ticks 23 = .ok (.aload_n 0, 1) := by decide +kernel
theorem dX9_ticks_24 : decode cX9_ticks 24 = .ok (.invokevirtual 274, 3) := by decide +kernel
theorem dX9_ticks_27 : decode cX9_ticks 27 = .ok (.iconst 0, 1) := by decide +kernel
theorem dX9_ticks_28 : decode cX9_ticks 28 = .ok (.istore_n 3, 1) := by decide +kernel
theorem dX9_ticks_29 : decode cX9_ticks 29 = .ok (.iconst 0, 1) := by decide +kernel
theorem dX9_ticks_30 : decode cX9_ticks 30 = .ok (.istore 4, 2) := by decide +kernel
theorem dX9_ticks_32 : decode cX9_ticks 32 = .ok (.iload 4, 2) := by decide +kernel
theorem dX9_ticks_34 : decode cX9_ticks 34 = .ok (.aload_n 0, 1) := by decide +kernel
theorem dX9_ticks_35 : decode cX9_ticks 35 = .ok (.getfield 25, 3) := by decide +kernel
theorem dX9_ticks_38 : decode cX9_ticks 38 = .ok (.iconst 0, 1) := by decide +kernel
theorem dX9_ticks_39 : decode cX9_ticks 39 = .ok (.iaload, 1) := by decide +kernel
theorem dX9_ticks_40 : decode cX9_ticks 40 = .ok (.if_icmp .gt 91, 3) := by decide +kernel
theorem dX9_ticks_43 : decode cX9_ticks 43 = .ok (.iconst 0, 1) := by decide +kernel
theorem dX9_ticks_44 : decode cX9_ticks 44 = .ok (.istore 5, 2) := by decide +kernel
theorem dX9_ticks_46 : decode cX9_ticks 46 = .ok (.iload 5, 2) := by decide +kernel
theorem dX9_ticks_48 : decode cX9_ticks 48 = .ok (.aload_n 0, 1) := by decide +kernel
theorem dX9_ticks_49 : decode cX9_ticks 49 = .ok (.getfield 212, 3) := by decide +kernel
theorem dX9_ticks_52 : decode cX9_ticks 52 = .ok (.if_icmp .ge 33, 3) := by decide +kernel
theorem dX9_ticks_55 : decode cX9_ticks 55 = .ok (.aload_n 0, 1) := by decide +kernel
theorem dX9_ticks_56 : decode cX9_ticks 56 = .ok (.getfield 68, 3) := by decide +kernel
theorem dX9_ticks_59 : decode cX9_ticks 59 = .ok (.iload 4, 2) := by decide +kernel
theorem dX9_ticks_61 : decode cX9_ticks 61 = .ok (.baload, 1) := by decide +kernel
theorem dX9_ticks_62 : decode cX9_ticks 62 = .ok (.ifCond .eq 23, 3) := by decide +kernel
theorem dX9_ticks_65 : decode cX9_ticks 65 = .ok (.aload_n 0, 1) := by decide +kernel
theorem dX9_ticks_66 : decode cX9_ticks 66 = .ok (.getfield 74, 3) := by decide +kernel
theorem dX9_ticks_69 : decode cX9_ticks 69 = .ok (.iload 5, 2) := by decide +kernel
theorem dX9_ticks_71 : decode cX9_ticks 71 = .ok (.aload_n 0, 1) := by decide +kernel
theorem dX9_ticks_72 : decode cX9_ticks 72 = .ok (.getfield 59, 3) := by decide +kernel
theorem dX9_ticks_75 : decode cX9_ticks 75 = .ok (.iload 5, 2) := by decide +kernel
theorem dX9_ticks_77 : decode cX9_ticks 77 = .ok (.iaload, 1) := by decide +kernel
theorem dX9_ticks_78 : decode cX9_ticks 78 = .ok (.iastore, 1) := by decide +kernel
theorem dX9_ticks_79 : decode cX9_ticks 79 = .ok (.iinc 5 1, 3) := by decide +kernel
theorem dX9_ticks_82 : decode cX9_ticks 82 = .ok (.goto (-36), 3) := by decide +kernel
theorem dX9_ticks_85 : decode cX9_ticks 85 = .ok (.aload_n 0, 1) := by decide +kernel
theorem dX9_ticks_86 : decode cX9_ticks 86 = .ok (.getfield 68, 3) := by decide +kernel
theorem dX9_ticks_89 : decode cX9_ticks 89 = .ok (.iload 4, 2) := by decide +kernel
theorem dX9_ticks_91 : decode cX9_ticks 91 = .ok (.baload, 1) := by decide +kernel
theorem dX9_ticks_92 : decode cX9_ticks 92 = .ok (.ifCond .eq 33, 3) := by decide +kernel
theorem dX9_ticks_95 : decode cX9_ticks 95 = .ok (.aload_n 0, 1) := by decide +kernel
theorem dX9_ticks_96 : decode cX9_ticks 96 = .ok (.iload 4, 2) := by decide +kernel
theorem dX9_ticks_98 : decode cX9_ticks 98 = .ok (.invokevirtual 271, 3) := by decide +kernel
theorem dX9_ticks_101 : decode cX9_ticks 101 = .ok (.iload 4, 2) := by decide +kernel
theorem dX9_ticks_103 : decode cX9_ticks 103 = .ok (.ifCond .le 22, 3) := by decide +kernel
theorem dX9_ticks_106 : decode cX9_ticks 106 = .ok (.aload_n 0, 1) := by decide +kernel
theorem dX9_ticks_107 : decode cX9_ticks 107 = .ok (.iload_n 1, 1) := by decide +kernel
theorem dX9_ticks_108 : decode cX9_ticks 108 = .ok (.invokevirtual 287, 3) := by decide +kernel
theorem dX9_ticks_111 : decode cX9_ticks 111 = .ok (.ifCond .eq 14, 3) := by decide +kernel
theorem dX9_ticks_114 : decode cX9_ticks 114 = .ok (.iload_n 3, 1) := by decide +kernel
theorem dX9_ticks_115 : decode cX9_ticks 115 = .ok (.iload_n 2, 1) := by decide +kernel
theorem dX9_ticks_116 : decode cX9_ticks 116 = .ok (.if_icmp .ne 6, 3) := by decide +kernel
theorem dX9_ticks_119 : decode cX9_ticks 119 = .ok (.iload 4, 2) := by decide +kernel
theorem dX9_ticks_121 : decode cX9_ticks 121 = .ok (.ireturn, 1) := by decide +kernel
theorem dX9_ticks_122 : decode cX9_ticks 122 = .ok (.iinc 3 1, 3) := by decide +kernel
theorem dX9_ticks_125 : decode cX9_ticks 125 = .ok (.iinc 4 1, 3) := by decide +kernel
theorem dX9_ticks_128 : decode cX9_ticks 128 = .ok (.goto (-96), 3) := by decide +kernel
theorem dX9_ticks_131 : decode cX9_ticks 131 = .ok (.iload_n 2, 1) := by decide +kernel
theorem dX9_ticks_132 : decode cX9_ticks 132 = .ok (.ifCond .ge 7, 3) := by decide +kernel
theorem dX9_ticks_135 : decode cX9_ticks 135 = .ok (.iload_n 3, 1) := by decide +kernel
theorem dX9_ticks_136 : decode cX9_ticks 136 = .ok (.goto 5, 3) := by decide +kernel
theorem dX9_ticks_139 : decode cX9_ticks 139 = .ok (.bipush (-9), 2) := by decide +kernel
theorem dX9_ticks_141 : decode cX9_ticks 141 = .ok (.ireturn, 1) := by decide +kernel
theorem bX9_ticks_0 {d : Nat} {Q : Option jA → jH → Prop} (a0 : Nat) (i1 : Int) (i2 : Int) (u3 : Option jA) (u4 : Option jA) (u5 : Option jA) (h : jH)
    (s1 : (jS h a0).1 = 9)
    (r1 : jR ((jshl 1 (jI h a0 1)) - 1))
    (q1 : (¬ (0 ≤ i1 ∧ i1 ≤ ((jshl 1 (jI h a0 1)) - 1))) → Q (some (.inl ((-1)))) h)
    (e1 : (0 ≤ i1 ∧ i1 ≤ ((jshl 1 (jI h a0 1)) - 1)) → (((-1)) ≤ i2) → Ex MX9_laysTurns (d + 1) [.inr a0] h 0 0 (fun v h2 => V MX9_ticks (d + 4) 27 [some (.inr a0), some (.inl i1), some (.inl i2), u3, u4, u5] (v.toList ++ []) h2 0 0 Q))
    (q2 : (0 ≤ i1 ∧ i1 ≤ ((jshl 1 (jI h a0 1)) - 1)) → (¬ (((-1)) ≤ i2)) → Q (some (.inl ((-1)))) h) :
    V MX9_ticks (d + 4) 0 [some (.inr a0), some (.inl i1), some (.inl i2), u3, u4, u5] [] h 0 0 Q := by
  refine V_iload_n (i := 1) dX9_ticks_0 rfl rfl ?_
  refine V_iconst dX9_ticks_1 ⟨by decide, by decide⟩ ?_
  refine V_iconst dX9_ticks_2 ⟨by decide, by decide⟩ ?_
  refine V_aload_n (i := 0) dX9_ticks_3 rfl rfl ?_
  refine V_getI dX9_ticks_4 fX9_212 rfl s1 ?_
  refine V_ishl dX9_ticks_7 ?_
  refine V_iconst dX9_ticks_8 ⟨by decide, by decide⟩ ?_
  refine V_isub dX9_ticks_9 r1 ?_
  refine V_callS (M := MX9_ticks) (d := (d + 4)) (mc' := 0) (ms' := 0) (mc := 0) (ms := 0) (a := 0) (As := [.inl i1, .inl 0, .inl ((jshl 1 (jI h a0 1)) - 1)]) (rest := []) dX9_ticks_10 tX9_in sX9_in lX9_95 rfl rfl (Nat.le_of_ble_eq_true rfl) (show d + 1 ≤ (d + 4) by omega) (Ex.mono (pX9_in (d := d) ) ?_)
  intro v h2 hq
  rw [hq.1, hq.2]
  show V MX9_ticks (d + 4) 13 [some (.inr a0), some (.inl i1), some (.inl i2), u3, u4, u5] [.inl (jb (0 ≤ i1 ∧ i1 ≤ ((jshl 1 (jI h a0 1)) - 1)))] h 0 0 Q
  refine V_ifb_eq (tgt := 21) dX9_ticks_13 (by decide) (fun c1 => ?_) (fun c1 => ?_)
  · refine V_iconst dX9_ticks_21 ⟨by decide, by decide⟩ ?_
    exact V_reti rfl dX9_ticks_22 (q1 c1)
  · refine V_iload_n (i := 2) dX9_ticks_16 rfl rfl ?_
    refine V_iconst dX9_ticks_17 ⟨by decide, by decide⟩ ?_
    refine V_icmp_ge (tgt := 23) dX9_ticks_18 (by decide) (fun c2 => ?_) (fun c2 => ?_)
    · refine V_aload_n (i := 0) dX9_ticks_23 rfl rfl ?_
      exact V_callV (M := MX9_ticks) (d := (d + 4)) (mc' := 0) (ms' := 0) (mc := 0) (ms := 0) (As := []) (rest := []) dX9_ticks_24 tX9_laysTurns vX9_laysTurns lX9_274 s1 ⟨by decide, rfl⟩ rfl rfl (Nat.le_of_ble_eq_true rfl) (show (d + 1) + 1 ≤ (d + 4) by omega) (e1 c1 c2)
    · refine V_iconst dX9_ticks_21 ⟨by decide, by decide⟩ ?_
      exact V_reti rfl dX9_ticks_22 (q2 c1 c2)
theorem bX9_ticks_32 {d : Nat} {Q : Option jA → jH → Prop} (a0 : Nat) (i1 : Int) (i2 : Int) (i3 : Int) (i4 : Int) (u5 : Option jA) (h : jH)
    (s1 : (jS h a0).1 = 9)
    (s2 : (jS h (jP h a0 9)).1 = 16)
    (s3 : 0 < ((jS h (jP h a0 9)).2 : Int))
    (q1 : ((jX h (jP h a0 9) 0) < i4) → (0 ≤ i2) → Q (some (.inl ((-9)))) h)
    (q2 : ((jX h (jP h a0 9) 0) < i4) → (¬ (0 ≤ i2)) → Q (some (.inl i3)) h)
    (k1 : (¬ ((jX h (jP h a0 9) 0) < i4)) → V MX9_ticks (d + 4) 46 [some (.inr a0), some (.inl i1), some (.inl i2), some (.inl i3), some (.inl i4), some (.inl 0)] [] h 0 0 Q) :
    V MX9_ticks (d + 4) 32 [some (.inr a0), some (.inl i1), some (.inl i2), some (.inl i3), some (.inl i4), u5] [] h 0 0 Q := by
  refine V_iload (i := 4) dX9_ticks_32 rfl ?_
  refine V_aload_n (i := 0) dX9_ticks_34 rfl rfl ?_
  refine V_getP dX9_ticks_35 fX9_25 rfl s1 ?_
  refine V_iconst dX9_ticks_38 ⟨by decide, by decide⟩ ?_
  refine V_iald dX9_ticks_39 s2 (by decide) s3 ?_
  refine V_icmp_gt (tgt := 131) dX9_ticks_40 (by decide) (fun c1 => ?_) (fun c1 => ?_)
  · refine V_iload_n (i := 2) dX9_ticks_131 rfl rfl ?_
    refine V_if_ge (tgt := 139) dX9_ticks_132 (by decide) (fun c2 => ?_) (fun c2 => ?_)
    · refine V_bipush dX9_ticks_139 (by decide +kernel) ⟨by decide, by decide⟩ ?_
      exact V_reti rfl dX9_ticks_141 (q1 c1 c2)
    · refine V_iload_n (i := 3) dX9_ticks_135 rfl rfl ?_
      refine V_goto (tgt := 141) dX9_ticks_136 (by decide) ?_
      exact V_reti rfl dX9_ticks_141 (q2 c1 c2)
  · refine V_iconst dX9_ticks_43 ⟨by decide, by decide⟩ ?_
    refine V_istore (i := 5) dX9_ticks_44 (by decide) ?_
    exact (k1 c1)
theorem bX9_ticks_46 {d : Nat} {Q : Option jA → jH → Prop} (a0 : Nat) (i1 : Int) (i2 : Int) (i3 : Int) (i4 : Int) (i5 : Int) (h : jH)
    (s1 : (jS h a0).1 = 9)
    (s2 : (jS h (jP h a0 39)).1 = 17)
    (s3 : ((jI h a0 1) ≤ i5) → 0 ≤ i4)
    (s4 : ((jI h a0 1) ≤ i5) → i4 < ((jS h (jP h a0 39)).2 : Int))
    (r1 : ((jI h a0 1) ≤ i5) → ((jX h (jP h a0 39) ((i4).toNat)) = 0) → jR (i4 + 1))
    (k1 : ((jI h a0 1) ≤ i5) → ((jX h (jP h a0 39) ((i4).toNat)) = 0) → V MX9_ticks (d + 4) 32 [some (.inr a0), some (.inl i1), some (.inl i2), some (.inl i3), some (.inl (i4 + 1)), some (.inl i5)] [] h 0 0 Q)
    (e1 : ((jI h a0 1) ≤ i5) → (¬ ((jX h (jP h a0 39) ((i4).toNat)) = 0)) → Ex MX9_laysAt (d + 3) [.inr a0, .inl i4] h 0 0 (fun v h2 => V MX9_ticks (d + 4) 101 [some (.inr a0), some (.inl i1), some (.inl i2), some (.inl i3), some (.inl i4), some (.inl i5)] (v.toList ++ []) h2 0 0 Q))
    (s5 : (¬ ((jI h a0 1) ≤ i5)) → 0 ≤ i4)
    (s6 : (¬ ((jI h a0 1) ≤ i5)) → i4 < ((jS h (jP h a0 39)).2 : Int))
    (r2 : (¬ ((jI h a0 1) ≤ i5)) → ((jX h (jP h a0 39) ((i4).toNat)) = 0) → ((jX h (jP h a0 39) ((i4).toNat)) = 0) → jR (i4 + 1))
    (k2 : (¬ ((jI h a0 1) ≤ i5)) → ((jX h (jP h a0 39) ((i4).toNat)) = 0) → ((jX h (jP h a0 39) ((i4).toNat)) = 0) → V MX9_ticks (d + 4) 32 [some (.inr a0), some (.inl i1), some (.inl i2), some (.inl i3), some (.inl (i4 + 1)), some (.inl i5)] [] h 0 0 Q)
    (e2 : (¬ ((jI h a0 1) ≤ i5)) → ((jX h (jP h a0 39) ((i4).toNat)) = 0) → (¬ ((jX h (jP h a0 39) ((i4).toNat)) = 0)) → Ex MX9_laysAt (d + 3) [.inr a0, .inl i4] h 0 0 (fun v h2 => V MX9_ticks (d + 4) 101 [some (.inr a0), some (.inl i1), some (.inl i2), some (.inl i3), some (.inl i4), some (.inl i5)] (v.toList ++ []) h2 0 0 Q))
    (s7 : (jS h (jP h a0 36)).1 = 16)
    (s8 : (¬ ((jI h a0 1) ≤ i5)) → (¬ ((jX h (jP h a0 39) ((i4).toNat)) = 0)) → 0 ≤ i5)
    (s9 : (¬ ((jI h a0 1) ≤ i5)) → (¬ ((jX h (jP h a0 39) ((i4).toNat)) = 0)) → i5 < ((jS h (jP h a0 36)).2 : Int))
    (s10 : (jS h (jP h a0 41)).1 = 16)
    (s11 : (¬ ((jI h a0 1) ≤ i5)) → (¬ ((jX h (jP h a0 39) ((i4).toNat)) = 0)) → i5 < ((jS h (jP h a0 41)).2 : Int))
    (r3 : (¬ ((jI h a0 1) ≤ i5)) → (¬ ((jX h (jP h a0 39) ((i4).toNat)) = 0)) → jR (i5 + 1))
    (k3 : (¬ ((jI h a0 1) ≤ i5)) → (¬ ((jX h (jP h a0 39) ((i4).toNat)) = 0)) → V MX9_ticks (d + 4) 46 [some (.inr a0), some (.inl i1), some (.inl i2), some (.inl i3), some (.inl i4), some (.inl (i5 + 1))] [] (jsX h (jP h a0 41) ((i5).toNat) (jX h (jP h a0 36) ((i5).toNat))) 0 0 Q) :
    V MX9_ticks (d + 4) 46 [some (.inr a0), some (.inl i1), some (.inl i2), some (.inl i3), some (.inl i4), some (.inl i5)] [] h 0 0 Q := by
  refine V_iload (i := 5) dX9_ticks_46 rfl ?_
  refine V_aload_n (i := 0) dX9_ticks_48 rfl rfl ?_
  refine V_getI dX9_ticks_49 fX9_212 rfl s1 ?_
  refine V_icmp_ge (tgt := 85) dX9_ticks_52 (by decide) (fun c1 => ?_) (fun c1 => ?_)
  · refine V_aload_n (i := 0) dX9_ticks_85 rfl rfl ?_
    refine V_getP dX9_ticks_86 fX9_68 rfl s1 ?_
    refine V_iload (i := 4) dX9_ticks_89 rfl ?_
    refine V_zald dX9_ticks_91 s2 (s3 c1) (s4 c1) ?_
    refine V_if_eq (tgt := 125) dX9_ticks_92 (by decide) (fun c2 => ?_) (fun c2 => ?_)
    · refine V_iinc (i := 4) dX9_ticks_125 rfl (by decide) (r1 c1 c2) ?_
      refine V_goto (tgt := 32) dX9_ticks_128 (by decide) ?_
      exact (k1 c1 c2)
    · refine V_aload_n (i := 0) dX9_ticks_95 rfl rfl ?_
      refine V_iload (i := 4) dX9_ticks_96 rfl ?_
      exact V_callV (M := MX9_ticks) (d := (d + 4)) (mc' := 0) (ms' := 0) (mc := 0) (ms := 0) (As := [.inl i4]) (rest := []) dX9_ticks_98 tX9_laysAt vX9_laysAt lX9_271 s1 ⟨by decide, rfl⟩ rfl rfl (Nat.le_of_ble_eq_true rfl) (show (d + 3) + 1 ≤ (d + 4) by omega) (e1 c1 c2)
  · refine V_aload_n (i := 0) dX9_ticks_55 rfl rfl ?_
    refine V_getP dX9_ticks_56 fX9_68 rfl s1 ?_
    refine V_iload (i := 4) dX9_ticks_59 rfl ?_
    refine V_zald dX9_ticks_61 s2 (s5 c1) (s6 c1) ?_
    refine V_if_eq (tgt := 85) dX9_ticks_62 (by decide) (fun c3 => ?_) (fun c3 => ?_)
    · refine V_aload_n (i := 0) dX9_ticks_85 rfl rfl ?_
      refine V_getP dX9_ticks_86 fX9_68 rfl s1 ?_
      refine V_iload (i := 4) dX9_ticks_89 rfl ?_
      refine V_zald dX9_ticks_91 s2 (s5 c1) (s6 c1) ?_
      refine V_if_eq (tgt := 125) dX9_ticks_92 (by decide) (fun c4 => ?_) (fun c4 => ?_)
      · refine V_iinc (i := 4) dX9_ticks_125 rfl (by decide) (r2 c1 c3 c4) ?_
        refine V_goto (tgt := 32) dX9_ticks_128 (by decide) ?_
        exact (k2 c1 c3 c4)
      · refine V_aload_n (i := 0) dX9_ticks_95 rfl rfl ?_
        refine V_iload (i := 4) dX9_ticks_96 rfl ?_
        exact V_callV (M := MX9_ticks) (d := (d + 4)) (mc' := 0) (ms' := 0) (mc := 0) (ms := 0) (As := [.inl i4]) (rest := []) dX9_ticks_98 tX9_laysAt vX9_laysAt lX9_271 s1 ⟨by decide, rfl⟩ rfl rfl (Nat.le_of_ble_eq_true rfl) (show (d + 3) + 1 ≤ (d + 4) by omega) (e2 c1 c3 c4)
    · refine V_aload_n (i := 0) dX9_ticks_65 rfl rfl ?_
      refine V_getP dX9_ticks_66 fX9_74 rfl s1 ?_
      refine V_iload (i := 5) dX9_ticks_69 rfl ?_
      refine V_aload_n (i := 0) dX9_ticks_71 rfl rfl ?_
      refine V_getP dX9_ticks_72 fX9_59 rfl s1 ?_
      refine V_iload (i := 5) dX9_ticks_75 rfl ?_
      refine V_iald dX9_ticks_77 s7 (s8 c1 c3) (s9 c1 c3) ?_
      refine V_iast dX9_ticks_78 s10 (s8 c1 c3) (s11 c1 c3) ?_
      refine V_iinc (i := 5) dX9_ticks_79 rfl (by decide) (r3 c1 c3) ?_
      refine V_goto (tgt := 46) dX9_ticks_82 (by decide) ?_
      exact (k3 c1 c3)
theorem bX9_ticks_27 {d : Nat} {Q : Option jA → jH → Prop} (a0 : Nat) (i1 : Int) (i2 : Int) (u3 : Option jA) (u4 : Option jA) (u5 : Option jA) (h : jH)
    (k1 : V MX9_ticks (d + 4) 32 [some (.inr a0), some (.inl i1), some (.inl i2), some (.inl 0), some (.inl 0), u5] [] h 0 0 Q) :
    V MX9_ticks (d + 4) 27 [some (.inr a0), some (.inl i1), some (.inl i2), u3, u4, u5] [] h 0 0 Q := by
  refine V_iconst dX9_ticks_27 ⟨by decide, by decide⟩ ?_
  refine V_istore_n (i := 3) dX9_ticks_28 rfl (by decide) ?_
  refine V_iconst dX9_ticks_29 ⟨by decide, by decide⟩ ?_
  refine V_istore (i := 4) dX9_ticks_30 (by decide) ?_
  exact k1
theorem bX9_ticks_101 {d : Nat} {Q : Option jA → jH → Prop} (a0 : Nat) (i1 : Int) (i2 : Int) (i3 : Int) (i4 : Int) (i5 : Int) (h : jH)
    (r1 : (i4 ≤ 0) → jR (i4 + 1))
    (k1 : (i4 ≤ 0) → V MX9_ticks (d + 4) 32 [some (.inr a0), some (.inl i1), some (.inl i2), some (.inl i3), some (.inl (i4 + 1)), some (.inl i5)] [] h 0 0 Q)
    (e1 : (¬ (i4 ≤ 0)) → Ex MX9_isTick d [.inr a0, .inl i1] h 0 0 (fun v h2 => V MX9_ticks (d + 4) 111 [some (.inr a0), some (.inl i1), some (.inl i2), some (.inl i3), some (.inl i4), some (.inl i5)] (v.toList ++ []) h2 0 0 Q))
    (s1 : (jS h a0).1 = 9) :
    V MX9_ticks (d + 4) 101 [some (.inr a0), some (.inl i1), some (.inl i2), some (.inl i3), some (.inl i4), some (.inl i5)] [] h 0 0 Q := by
  refine V_iload (i := 4) dX9_ticks_101 rfl ?_
  refine V_if_le (tgt := 125) dX9_ticks_103 (by decide) (fun c1 => ?_) (fun c1 => ?_)
  · refine V_iinc (i := 4) dX9_ticks_125 rfl (by decide) (r1 c1) ?_
    refine V_goto (tgt := 32) dX9_ticks_128 (by decide) ?_
    exact (k1 c1)
  · refine V_aload_n (i := 0) dX9_ticks_106 rfl rfl ?_
    refine V_iload_n (i := 1) dX9_ticks_107 rfl rfl ?_
    exact V_callV (M := MX9_ticks) (d := (d + 4)) (mc' := 0) (ms' := 0) (mc := 0) (ms := 0) (As := [.inl i1]) (rest := []) dX9_ticks_108 tX9_isTick vX9_isTick lX9_287 s1 ⟨by decide, rfl⟩ rfl rfl (Nat.le_of_ble_eq_true rfl) (show d + 1 ≤ (d + 4) by omega) (e1 c1)
theorem bX9_ticks_111 {d : Nat} {Q : Option jA → jH → Prop} (a0 : Nat) (i1 : Int) (i2 : Int) (i3 : Int) (i4 : Int) (i5 : Int) (p0 : Int) (h : jH)
    (r1 : (p0 = 0) → jR (i4 + 1))
    (k1 : (p0 = 0) → V MX9_ticks (d + 4) 32 [some (.inr a0), some (.inl i1), some (.inl i2), some (.inl i3), some (.inl (i4 + 1)), some (.inl i5)] [] h 0 0 Q)
    (r2 : (¬ (p0 = 0)) → (i3 ≠ i2) → jR (i3 + 1))
    (r3 : (¬ (p0 = 0)) → (i3 ≠ i2) → jR (i4 + 1))
    (k2 : (¬ (p0 = 0)) → (i3 ≠ i2) → V MX9_ticks (d + 4) 32 [some (.inr a0), some (.inl i1), some (.inl i2), some (.inl (i3 + 1)), some (.inl (i4 + 1)), some (.inl i5)] [] h 0 0 Q)
    (q1 : (¬ (p0 = 0)) → (i3 = i2) → Q (some (.inl i4)) h) :
    V MX9_ticks (d + 4) 111 [some (.inr a0), some (.inl i1), some (.inl i2), some (.inl i3), some (.inl i4), some (.inl i5)] [.inl p0] h 0 0 Q := by
  refine V_if_eq (tgt := 125) dX9_ticks_111 (by decide) (fun c1 => ?_) (fun c1 => ?_)
  · refine V_iinc (i := 4) dX9_ticks_125 rfl (by decide) (r1 c1) ?_
    refine V_goto (tgt := 32) dX9_ticks_128 (by decide) ?_
    exact (k1 c1)
  · refine V_iload_n (i := 3) dX9_ticks_114 rfl rfl ?_
    refine V_iload_n (i := 2) dX9_ticks_115 rfl rfl ?_
    refine V_icmp_ne (tgt := 122) dX9_ticks_116 (by decide) (fun c2 => ?_) (fun c2 => ?_)
    · refine V_iinc (i := 3) dX9_ticks_122 rfl (by decide) (r2 c1 c2) ?_
      refine V_iinc (i := 4) dX9_ticks_125 rfl (by decide) (r3 c1 c2) ?_
      refine V_goto (tgt := 32) dX9_ticks_128 (by decide) ?_
      exact (k2 c1 c2)
    · refine V_iload (i := 4) dX9_ticks_119 rfl ?_
      exact V_reti rfl dX9_ticks_121 (q1 c1 c2)
theorem dX9_delay_0 : decode cX9_delay 0 = .ok (.aload_n 0, 1) := by decide +kernel
theorem dX9_delay_1 : decode cX9_delay 1 = .ok (.iload_n 1, 1) := by decide +kernel
theorem dX9_delay_2 : decode cX9_delay 2 = .ok (.invokevirtual 250, 3) := by decide +kernel
theorem dX9_delay_5 : decode cX9_delay 5 = .ok (.ifCond .eq 11, 3) := by decide +kernel
theorem dX9_delay_8 : decode cX9_delay 8 = .ok (.aload_n 0, 1) := by decide +kernel
theorem dX9_delay_9 : decode cX9_delay 9 = .ok (.iload_n 2, 1) := by decide +kernel
theorem dX9_delay_10 : decode cX9_delay 10 = .ok (.invokevirtual 250, 3) := by decide +kernel
theorem dX9_delay_13 : decode cX9_delay 13 = .ok (.ifCond .ne 5, 3) := by decide +kernel
theorem dX9_delay_16 : decode cX9_delay 16 = .ok (.iconst (-1), 1) := by decide +kernel
theorem dX9_delay_17 : decode cX9_delay 17 = .ok (.ireturn, 1) := by decide +kernel
theorem dX9_delay_18 : decode cX9_delay 18 = .ok (.aload_n 0, 1) := by decide +kernel
theorem dX9_delay_19 : decode cX9_delay 19 = .ok (.iload_n 1, 1) := by decide +kernel
theorem dX9_delay_20 : decode cX9_delay 20 = .ok (.invokevirtual 280, 3) := by decide +kernel
theorem dX9_delay_23 : decode cX9_delay 23 = .ok (.iconst 0, 1) := by decide +kernel
theorem dX9_delay_24 : decode cX9_delay 24 = .ok (.istore_n 3, 1) := by decide +kernel
theorem dX9_delay_25 : decode cX9_delay 25 = .ok (.iload_n 3, 1) := by decide +kernel
theorem dX9_delay_26 : decode cX9_delay 26 = .ok (.aload_n 0, 1) := by decide +kernel
theorem dX9_delay_27 : decode cX9_delay 27 = .ok (.getfield 25, 3) := by decide +kernel
theorem dX9_delay_30 : decode cX9_delay 30 = .ok (.iconst 0, 1) := by decide +kernel
theorem dX9_delay_31 : decode cX9_delay 31 = .ok (.iaload, 1) := by decide +kernel
theorem dX9_delay_32 : decode cX9_delay 32 = .ok (.if_icmp .gt 21, 3) := by decide +kernel
theorem dX9_delay_35 : decode cX9_delay 35 = .ok (.aload_n 0, 1) := by decide +kernel
theorem dX9_delay_36 : decode cX9_delay 36 = .ok (.getfield 77, 3) := by decide +kernel
theorem dX9_delay_39 : decode cX9_delay 39 = .ok (.iload_n 3, 1) := by decide +kernel
theorem dX9_delay_40 : decode cX9_delay 40 = .ok (.aload_n 0, 1) := by decide +kernel
theorem dX9_delay_41 : decode cX9_delay 41 = .ok (.iload_n 3, 1) := by decide +kernel
theorem dX9_delay_42 : decode cX9_delay 42 = .ok (.iconst 0, 1) := by decide +kernel
theorem dX9_delay_43 : decode cX9_delay 43 = .ok (.invokevirtual 283, 3) := by decide +kernel
theorem dX9_delay_46 : decode cX9_delay 46 = .ok (.bastore, 1) := by decide +kernel
theorem dX9_delay_47 : decode cX9_delay 47 = .ok (.iinc 3 1, 3) := by decide +kernel
theorem dX9_delay_50 : decode cX9_delay 50 = .ok (.goto (-25), 3) := by decide +kernel
theorem dX9_delay_53 : decode cX9_delay 53 = .ok (.aload_n 0, 1) := by decide +kernel
theorem dX9_delay_54 : decode cX9_delay 54 = .ok (.iload_n 2, 1) := by decide +kernel
theorem dX9_delay_55 : decode cX9_delay 55 = .ok (.invokevirtual 280, 3) := by decide +kernel
theorem dX9_delay_58 : decode cX9_delay 58 = .ok (.iconst 0, 1) := by decide +kernel
theorem dX9_delay_59 : decode cX9_delay 59 = .ok (.istore_n 3, 1) := by decide +kernel
theorem dX9_delay_60 : decode cX9_delay 60 = .ok (.iload_n 3, 1) := by decide +kernel
theorem dX9_delay_61 : decode cX9_delay 61 = .ok (.bipush 51, 2) := by decide +kernel
theorem dX9_delay_63 : decode cX9_delay 63 = .ok (.if_icmp .ge 105, 3) := by decide +kernel
theorem dX9_delay_66 : decode cX9_delay 66 = .ok (.iconst 0, 1) := by decide +kernel
theorem dX9_delay_67 : decode cX9_delay 67 = .ok (.istore 4, 2) := by decide +kernel
theorem dX9_delay_69 : decode cX9_delay 69 = .ok (.iconst 0, 1) := by decide +kernel
theorem dX9_delay_70 : decode cX9_delay 70 = .ok (.istore 5, 2) := by decide +kernel
theorem dX9_delay_72 : decode cX9_delay 72 = .ok (.iconst 0, 1) := by decide +kernel
theorem dX9_delay_73 : decode cX9_delay 73 = .ok (.istore 6, 2) := by decide +kernel
theorem dX9_delay_75 : decode cX9_delay 75 = .ok (.iload 6, 2) := by decide +kernel
theorem dX9_delay_77 : decode cX9_delay 77 = .ok (.iload_n 3, 1) := by decide +kernel
theorem dX9_delay_78 : decode cX9_delay 78 = .ok (.iadd, 1) := by decide +kernel
theorem dX9_delay_79 : decode cX9_delay 79 = .ok (.aload_n 0, 1) := by decide +kernel
theorem dX9_delay_80 : decode cX9_delay 80 = .ok (.getfield 25, 3) := by decide +kernel
theorem dX9_delay_83 : decode cX9_delay 83 = .ok (.iconst 0, 1) := by decide +kernel
theorem dX9_delay_84 : decode cX9_delay 84 = .ok (.iaload, 1) := by decide +kernel
theorem dX9_delay_85 : decode cX9_delay 85 = .ok (.if_icmp .gt 65, 3) := by decide +kernel
theorem dX9_delay_88 : decode cX9_delay 88 = .ok (.iload 4, 2) := by decide +kernel
theorem dX9_delay_90 : decode cX9_delay 90 = .ok (.ifCond .ne 13, 3) := by decide +kernel
theorem dX9_delay_93 : decode cX9_delay 93 = .ok (.aload_n 0, 1) := by decide +kernel
theorem dX9_delay_94 : decode cX9_delay 94 = .ok (.getfield 77, 3) := by decide +kernel
theorem dX9_delay_97 : decode cX9_delay 97 = .ok (.iload 6, 2) := by decide +kernel
theorem dX9_delay_99 : decode cX9_delay 99 = .ok (.baload, 1) := by decide +kernel
theorem dX9_delay_100 : decode cX9_delay 100 = .ok (.ifCond .eq 7, 3) := by decide +kernel
theorem dX9_delay_103 : decode cX9_delay 103 = .ok (.iconst 1, 1) := by decide +kernel
theorem dX9_delay_104 : decode cX9_delay 104 = .ok (.goto 4, 3) := by decide +kernel
theorem dX9_delay_107 : decode cX9_delay 107 = .ok (.iconst 0, 1) := by decide +kernel
theorem dX9_delay_108 : decode cX9_delay 108 = .ok (.istore 4, 2) := by decide +kernel
theorem dX9_delay_110 : decode cX9_delay 110 = .ok (.iload 5, 2) := by decide +kernel
theorem dX9_delay_112 : decode cX9_delay 112 = .ok (.ifCond .ne 25, 3) := by decide +kernel
theorem dX9_delay_115 : decode cX9_delay 115 = .ok (.aload_n 0, 1) := by decide +kernel
theorem dX9_delay_116 : decode cX9_delay 116 = .ok (.getfield 77, 3) := by decide +kernel
theorem dX9_delay_119 : decode cX9_delay 119 = .ok (.iload 6, 2) := by decide +kernel
theorem dX9_delay_121 : decode cX9_delay 121 = .ok (.baload, 1) := by decide +kernel
theorem dX9_delay_122 : decode cX9_delay 122 = .ok (.ifCond .eq 19, 3) := by decide +kernel
theorem dX9_delay_125 : decode cX9_delay 125 = .ok (.aload_n 0, 1) := by decide +kernel
theorem dX9_delay_126 : decode cX9_delay 126 = .ok (.iload 6, 2) := by decide +kernel
theorem dX9_delay_128 : decode cX9_delay 128 = .ok (.iload_n 3, 1) := by decide +kernel
theorem dX9_delay_129 : decode cX9_delay 129 = .ok (.iadd, 1) := by decide +kernel
theorem dX9_delay_130 : decode cX9_delay 130 = .ok (.iconst 0, 1) := by decide +kernel
theorem dX9_delay_131 : decode cX9_delay 131 = .ok (.invokevirtual 283, 3) := by decide +kernel
theorem dX9_delay_134 : decode cX9_delay 134 = .ok (.ifCond .ne 7, 3) := by decide +kernel
theorem dX9_delay_137 : decode cX9_delay 137 = .ok (.iconst 1, 1) := by decide +kernel
theorem dX9_delay_138 : decode cX9_delay 138 = .ok (.goto 4, 3) := by decide +kernel
theorem dX9_delay_141 : decode cX9_delay 141 = .ok (.iconst 0, 1) := by decide +kernel
theorem dX9_delay_142 : decode cX9_delay 142 = .ok (.istore 5, 2) := by decide +kernel
theorem dX9_delay_144 : decode cX9_delay 144 = .ok (.iinc 6 1, 3) := by decide +kernel
theorem dX9_delay_147 : decode cX9_delay 147 = .ok (.goto (-72), 3) := by decide +kernel
theorem dX9_delay_150 : decode cX9_delay 150 = .ok (.iload 4, 2) := by decide +kernel
theorem dX9_delay_152 : decode cX9_delay 152 = .ok (.ifCond .eq 10, 3) := by decide +kernel
theorem dX9_delay_155 : decode cX9_delay 155 = .ok (.iload 5, 2) := by decide +kernel
theorem dX9_delay_157 : decode cX9_delay 157 = .ok (.ifCond .ne 5, 3) := by decide +kernel
theorem dX9_delay_160 : decode cX9_delay 160 = .ok (.iload_n 3, 1) := by decide +kernel
theorem dX9_delay_161 : decode cX9_delay 161 = .ok (.ireturn, 1) := by decide +kernel
theorem dX9_delay_162 : decode cX9_delay 162 = .ok (.iinc 3 1, 3) := by decide +kernel
theorem dX9_delay_165 : decode cX9_delay 165 = .ok (.goto (-105), 3) := by decide +kernel
theorem dX9_delay_168 : decode cX9_delay 168 = .ok (.bipush (-9), 2) := by decide +kernel
theorem dX9_delay_170 : decode cX9_delay 170 = .ok (.ireturn, 1) := by decide +kernel
theorem bX9_delay_0 {d : Nat} {Q : Option jA → jH → Prop} (a0 : Nat) (i1 : Int) (i2 : Int) (u3 : Option jA) (u4 : Option jA) (u5 : Option jA) (u6 : Option jA) (h : jH)
    (s1 : (jS h a0).1 = 9)
    (s2 : 0 ≤ jI h a0 1)
    (s3 : jI h a0 1 ≤ 12)
    (k1 : (¬ (0 ≤ i1 ∧ i1 ≤ (jI h a0 1) - 1)) → V MX9_delay (d + 5) 16 [some (.inr a0), some (.inl i1), some (.inl i2), u3, u4, u5, u6] [] h 0 0 Q)
    (e1 : (0 ≤ i1 ∧ i1 ≤ (jI h a0 1) - 1) → (0 ≤ i2 ∧ i2 ≤ (jI h a0 1) - 1) → Ex MX9_laysLine (d + 4) [.inr a0, .inl i1] h 0 0 (fun v h2 => V MX9_delay (d + 5) 23 [some (.inr a0), some (.inl i1), some (.inl i2), u3, u4, u5, u6] (v.toList ++ []) h2 0 0 Q))
    (k2 : (0 ≤ i1 ∧ i1 ≤ (jI h a0 1) - 1) → (¬ (0 ≤ i2 ∧ i2 ≤ (jI h a0 1) - 1)) → V MX9_delay (d + 5) 16 [some (.inr a0), some (.inl i1), some (.inl i2), u3, u4, u5, u6] [] h 0 0 Q) :
    V MX9_delay (d + 5) 0 [some (.inr a0), some (.inl i1), some (.inl i2), u3, u4, u5, u6] [] h 0 0 Q := by
  refine V_aload_n (i := 0) dX9_delay_0 rfl rfl ?_
  refine V_iload_n (i := 1) dX9_delay_1 rfl rfl ?_
  refine V_callV (M := MX9_delay) (d := (d + 5)) (mc' := 0) (ms' := 0) (mc := 0) (ms := 0) (As := [.inl i1]) (rest := []) dX9_delay_2 tX9_isNode vX9_isNode lX9_250 s1 ⟨by decide, rfl⟩ rfl rfl (Nat.le_of_ble_eq_true rfl) (show (d + 1) + 1 ≤ (d + 5) by omega) (Ex.mono (pX9_isNode (d := d) s1 s2 s3) ?_)
  intro v h2 hq
  rw [hq.1, hq.2]
  show V MX9_delay (d + 5) 5 [some (.inr a0), some (.inl i1), some (.inl i2), u3, u4, u5, u6] [.inl (jb (0 ≤ i1 ∧ i1 ≤ (jI h a0 1) - 1))] h 0 0 Q
  refine V_ifb_eq (tgt := 16) dX9_delay_5 (by decide) (fun c1 => ?_) (fun c1 => ?_)
  · exact (k1 c1)
  · refine V_aload_n (i := 0) dX9_delay_8 rfl rfl ?_
    refine V_iload_n (i := 2) dX9_delay_9 rfl rfl ?_
    refine V_callV (M := MX9_delay) (d := (d + 5)) (mc' := 0) (ms' := 0) (mc := 0) (ms := 0) (As := [.inl i2]) (rest := []) dX9_delay_10 tX9_isNode vX9_isNode lX9_250 s1 ⟨by decide, rfl⟩ rfl rfl (Nat.le_of_ble_eq_true rfl) (show (d + 1) + 1 ≤ (d + 5) by omega) (Ex.mono (pX9_isNode (d := d) s1 s2 s3) ?_)
    intro v h2 hq
    rw [hq.1, hq.2]
    show V MX9_delay (d + 5) 13 [some (.inr a0), some (.inl i1), some (.inl i2), u3, u4, u5, u6] [.inl (jb (0 ≤ i2 ∧ i2 ≤ (jI h a0 1) - 1))] h 0 0 Q
    refine V_ifb_ne (tgt := 18) dX9_delay_13 (by decide) (fun c2 => ?_) (fun c2 => ?_)
    · refine V_aload_n (i := 0) dX9_delay_18 rfl rfl ?_
      refine V_iload_n (i := 1) dX9_delay_19 rfl rfl ?_
      exact V_callV (M := MX9_delay) (d := (d + 5)) (mc' := 0) (ms' := 0) (mc := 0) (ms := 0) (As := [.inl i1]) (rest := []) dX9_delay_20 tX9_laysLine vX9_laysLine lX9_280 s1 ⟨by decide, rfl⟩ rfl rfl (Nat.le_of_ble_eq_true rfl) (show (d + 4) + 1 ≤ (d + 5) by omega) (e1 c1 c2)
    · exact (k2 c1 c2)
theorem bX9_delay_16 {d : Nat} {Q : Option jA → jH → Prop} (a0 : Nat) (i1 : Int) (i2 : Int) (u3 : Option jA) (u4 : Option jA) (u5 : Option jA) (u6 : Option jA) (h : jH)
    (q1 : Q (some (.inl ((-1)))) h) :
    V MX9_delay (d + 5) 16 [some (.inr a0), some (.inl i1), some (.inl i2), u3, u4, u5, u6] [] h 0 0 Q := by
  refine V_iconst dX9_delay_16 ⟨by decide, by decide⟩ ?_
  exact V_reti rfl dX9_delay_17 q1
theorem bX9_delay_25 {d : Nat} {Q : Option jA → jH → Prop} (a0 : Nat) (i1 : Int) (i2 : Int) (i3 : Int) (u4 : Option jA) (u5 : Option jA) (u6 : Option jA) (h : jH)
    (s1 : (jS h a0).1 = 9)
    (s2 : (jS h (jP h a0 9)).1 = 16)
    (s3 : 0 < ((jS h (jP h a0 9)).2 : Int))
    (e1 : ((jX h (jP h a0 9) 0) < i3) → Ex MX9_laysLine (d + 4) [.inr a0, .inl i2] h 0 0 (fun v h2 => V MX9_delay (d + 5) 58 [some (.inr a0), some (.inl i1), some (.inl i2), some (.inl i3), u4, u5, u6] (v.toList ++ []) h2 0 0 Q))
    (e2 : (¬ ((jX h (jP h a0 9) 0) < i3)) → Ex MX9_isEdge d [.inr a0, .inl i3, .inl 0] h 0 0 (fun v h2 => V MX9_delay (d + 5) 46 [some (.inr a0), some (.inl i1), some (.inl i2), some (.inl i3), u4, u5, u6] (v.toList ++ [.inl i3, .inr (jP h a0 42)]) h2 0 0 Q)) :
    V MX9_delay (d + 5) 25 [some (.inr a0), some (.inl i1), some (.inl i2), some (.inl i3), u4, u5, u6] [] h 0 0 Q := by
  refine V_iload_n (i := 3) dX9_delay_25 rfl rfl ?_
  refine V_aload_n (i := 0) dX9_delay_26 rfl rfl ?_
  refine V_getP dX9_delay_27 fX9_25 rfl s1 ?_
  refine V_iconst dX9_delay_30 ⟨by decide, by decide⟩ ?_
  refine V_iald dX9_delay_31 s2 (by decide) s3 ?_
  refine V_icmp_gt (tgt := 53) dX9_delay_32 (by decide) (fun c1 => ?_) (fun c1 => ?_)
  · refine V_aload_n (i := 0) dX9_delay_53 rfl rfl ?_
    refine V_iload_n (i := 2) dX9_delay_54 rfl rfl ?_
    exact V_callV (M := MX9_delay) (d := (d + 5)) (mc' := 0) (ms' := 0) (mc := 0) (ms := 0) (As := [.inl i2]) (rest := []) dX9_delay_55 tX9_laysLine vX9_laysLine lX9_280 s1 ⟨by decide, rfl⟩ rfl rfl (Nat.le_of_ble_eq_true rfl) (show (d + 4) + 1 ≤ (d + 5) by omega) (e1 c1)
  · refine V_aload_n (i := 0) dX9_delay_35 rfl rfl ?_
    refine V_getP dX9_delay_36 fX9_77 rfl s1 ?_
    refine V_iload_n (i := 3) dX9_delay_39 rfl rfl ?_
    refine V_aload_n (i := 0) dX9_delay_40 rfl rfl ?_
    refine V_iload_n (i := 3) dX9_delay_41 rfl rfl ?_
    refine V_iconst dX9_delay_42 ⟨by decide, by decide⟩ ?_
    exact V_callV (M := MX9_delay) (d := (d + 5)) (mc' := 0) (ms' := 0) (mc := 0) (ms := 0) (As := [.inl i3, .inl 0]) (rest := [.inl i3, .inr (jP h a0 42)]) dX9_delay_43 tX9_isEdge vX9_isEdge lX9_283 s1 ⟨by decide, rfl⟩ rfl rfl (Nat.le_of_ble_eq_true rfl) (show d + 1 ≤ (d + 5) by omega) (e2 c1)
theorem bX9_delay_60 {d : Nat} {Q : Option jA → jH → Prop} (a0 : Nat) (i1 : Int) (i2 : Int) (i3 : Int) (u4 : Option jA) (u5 : Option jA) (u6 : Option jA) (h : jH)
    (q1 : (51 ≤ i3) → Q (some (.inl ((-9)))) h)
    (k1 : (¬ (51 ≤ i3)) → V MX9_delay (d + 5) 75 [some (.inr a0), some (.inl i1), some (.inl i2), some (.inl i3), some (.inl 0), some (.inl 0), some (.inl 0)] [] h 0 0 Q) :
    V MX9_delay (d + 5) 60 [some (.inr a0), some (.inl i1), some (.inl i2), some (.inl i3), u4, u5, u6] [] h 0 0 Q := by
  refine V_iload_n (i := 3) dX9_delay_60 rfl rfl ?_
  refine V_bipush dX9_delay_61 (by decide +kernel) ⟨by decide, by decide⟩ ?_
  refine V_icmp_ge (tgt := 168) dX9_delay_63 (by decide) (fun c1 => ?_) (fun c1 => ?_)
  · refine V_bipush dX9_delay_168 (by decide +kernel) ⟨by decide, by decide⟩ ?_
    exact V_reti rfl dX9_delay_170 (q1 c1)
  · refine V_iconst dX9_delay_66 ⟨by decide, by decide⟩ ?_
    refine V_istore (i := 4) dX9_delay_67 (by decide) ?_
    refine V_iconst dX9_delay_69 ⟨by decide, by decide⟩ ?_
    refine V_istore (i := 5) dX9_delay_70 (by decide) ?_
    refine V_iconst dX9_delay_72 ⟨by decide, by decide⟩ ?_
    refine V_istore (i := 6) dX9_delay_73 (by decide) ?_
    exact (k1 c1)
theorem bX9_delay_75 {d : Nat} {Q : Option jA → jH → Prop} (a0 : Nat) (i1 : Int) (i2 : Int) (i3 : Int) (i4 : Int) (i5 : Int) (i6 : Int) (h : jH)
    (r1 : jR (i6 + i3))
    (s1 : (jS h a0).1 = 9)
    (s2 : (jS h (jP h a0 9)).1 = 16)
    (s3 : 0 < ((jS h (jP h a0 9)).2 : Int))
    (k1 : ((jX h (jP h a0 9) 0) < (i6 + i3)) → (i4 = 0) → V MX9_delay (d + 5) 162 [some (.inr a0), some (.inl i1), some (.inl i2), some (.inl i3), some (.inl i4), some (.inl i5), some (.inl i6)] [] h 0 0 Q)
    (k2 : ((jX h (jP h a0 9) 0) < (i6 + i3)) → (¬ (i4 = 0)) → (i5 ≠ 0) → V MX9_delay (d + 5) 162 [some (.inr a0), some (.inl i1), some (.inl i2), some (.inl i3), some (.inl i4), some (.inl i5), some (.inl i6)] [] h 0 0 Q)
    (q1 : ((jX h (jP h a0 9) 0) < (i6 + i3)) → (¬ (i4 = 0)) → (i5 = 0) → Q (some (.inl i3)) h)
    (k3 : (¬ ((jX h (jP h a0 9) 0) < (i6 + i3))) → (i4 ≠ 0) → V MX9_delay (d + 5) 103 [some (.inr a0), some (.inl i1), some (.inl i2), some (.inl i3), some (.inl i4), some (.inl i5), some (.inl i6)] [] h 0 0 Q)
    (s4 : (jS h (jP h a0 42)).1 = 17)
    (s5 : (¬ ((jX h (jP h a0 9) 0) < (i6 + i3))) → (i4 = 0) → 0 ≤ i6)
    (s6 : (¬ ((jX h (jP h a0 9) 0) < (i6 + i3))) → (i4 = 0) → i6 < ((jS h (jP h a0 42)).2 : Int))
    (k4 : (¬ ((jX h (jP h a0 9) 0) < (i6 + i3))) → (i4 = 0) → ((jX h (jP h a0 42) ((i6).toNat)) = 0) → V MX9_delay (d + 5) 108 [some (.inr a0), some (.inl i1), some (.inl i2), some (.inl i3), some (.inl i4), some (.inl i5), some (.inl i6)] [.inl 0] h 0 0 Q)
    (k5 : (¬ ((jX h (jP h a0 9) 0) < (i6 + i3))) → (i4 = 0) → (¬ ((jX h (jP h a0 42) ((i6).toNat)) = 0)) → V MX9_delay (d + 5) 103 [some (.inr a0), some (.inl i1), some (.inl i2), some (.inl i3), some (.inl i4), some (.inl i5), some (.inl i6)] [] h 0 0 Q) :
    V MX9_delay (d + 5) 75 [some (.inr a0), some (.inl i1), some (.inl i2), some (.inl i3), some (.inl i4), some (.inl i5), some (.inl i6)] [] h 0 0 Q := by
  refine V_iload (i := 6) dX9_delay_75 rfl ?_
  refine V_iload_n (i := 3) dX9_delay_77 rfl rfl ?_
  refine V_iadd dX9_delay_78 r1 ?_
  refine V_aload_n (i := 0) dX9_delay_79 rfl rfl ?_
  refine V_getP dX9_delay_80 fX9_25 rfl s1 ?_
  refine V_iconst dX9_delay_83 ⟨by decide, by decide⟩ ?_
  refine V_iald dX9_delay_84 s2 (by decide) s3 ?_
  refine V_icmp_gt (tgt := 150) dX9_delay_85 (by decide) (fun c1 => ?_) (fun c1 => ?_)
  · refine V_iload (i := 4) dX9_delay_150 rfl ?_
    refine V_if_eq (tgt := 162) dX9_delay_152 (by decide) (fun c2 => ?_) (fun c2 => ?_)
    · exact (k1 c1 c2)
    · refine V_iload (i := 5) dX9_delay_155 rfl ?_
      refine V_if_ne (tgt := 162) dX9_delay_157 (by decide) (fun c3 => ?_) (fun c3 => ?_)
      · exact (k2 c1 c2 c3)
      · refine V_iload_n (i := 3) dX9_delay_160 rfl rfl ?_
        exact V_reti rfl dX9_delay_161 (q1 c1 c2 c3)
  · refine V_iload (i := 4) dX9_delay_88 rfl ?_
    refine V_if_ne (tgt := 103) dX9_delay_90 (by decide) (fun c4 => ?_) (fun c4 => ?_)
    · exact (k3 c1 c4)
    · refine V_aload_n (i := 0) dX9_delay_93 rfl rfl ?_
      refine V_getP dX9_delay_94 fX9_77 rfl s1 ?_
      refine V_iload (i := 6) dX9_delay_97 rfl ?_
      refine V_zald dX9_delay_99 s4 (s5 c1 c4) (s6 c1 c4) ?_
      refine V_if_eq (tgt := 107) dX9_delay_100 (by decide) (fun c5 => ?_) (fun c5 => ?_)
      · refine V_iconst dX9_delay_107 ⟨by decide, by decide⟩ ?_
        exact (k4 c1 c4 c5)
      · exact (k5 c1 c4 c5)
theorem bX9_delay_103 {d : Nat} {Q : Option jA → jH → Prop} (a0 : Nat) (i1 : Int) (i2 : Int) (i3 : Int) (i4 : Int) (i5 : Int) (i6 : Int) (h : jH)
    (k1 : V MX9_delay (d + 5) 108 [some (.inr a0), some (.inl i1), some (.inl i2), some (.inl i3), some (.inl i4), some (.inl i5), some (.inl i6)] [.inl 1] h 0 0 Q) :
    V MX9_delay (d + 5) 103 [some (.inr a0), some (.inl i1), some (.inl i2), some (.inl i3), some (.inl i4), some (.inl i5), some (.inl i6)] [] h 0 0 Q := by
  refine V_iconst dX9_delay_103 ⟨by decide, by decide⟩ ?_
  refine V_goto (tgt := 108) dX9_delay_104 (by decide) ?_
  exact k1
theorem bX9_delay_108 {d : Nat} {Q : Option jA → jH → Prop} (a0 : Nat) (i1 : Int) (i2 : Int) (i3 : Int) (i4 : Int) (i5 : Int) (i6 : Int) (p0 : Int) (h : jH)
    (k1 : (i5 ≠ 0) → V MX9_delay (d + 5) 137 [some (.inr a0), some (.inl i1), some (.inl i2), some (.inl i3), some (.inl p0), some (.inl i5), some (.inl i6)] [] h 0 0 Q)
    (s1 : (jS h a0).1 = 9)
    (s2 : (jS h (jP h a0 42)).1 = 17)
    (s3 : (i5 = 0) → 0 ≤ i6)
    (s4 : (i5 = 0) → i6 < ((jS h (jP h a0 42)).2 : Int))
    (k2 : (i5 = 0) → ((jX h (jP h a0 42) ((i6).toNat)) = 0) → V MX9_delay (d + 5) 141 [some (.inr a0), some (.inl i1), some (.inl i2), some (.inl i3), some (.inl p0), some (.inl i5), some (.inl i6)] [] h 0 0 Q)
    (r1 : (i5 = 0) → (¬ ((jX h (jP h a0 42) ((i6).toNat)) = 0)) → jR (i6 + i3))
    (e1 : (i5 = 0) → (¬ ((jX h (jP h a0 42) ((i6).toNat)) = 0)) → Ex MX9_isEdge d [.inr a0, .inl (i6 + i3), .inl 0] h 0 0 (fun v h2 => V MX9_delay (d + 5) 134 [some (.inr a0), some (.inl i1), some (.inl i2), some (.inl i3), some (.inl p0), some (.inl i5), some (.inl i6)] (v.toList ++ []) h2 0 0 Q)) :
    V MX9_delay (d + 5) 108 [some (.inr a0), some (.inl i1), some (.inl i2), some (.inl i3), some (.inl i4), some (.inl i5), some (.inl i6)] [.inl p0] h 0 0 Q := by
  refine V_istore (i := 4) dX9_delay_108 (by decide) ?_
  refine V_iload (i := 5) dX9_delay_110 rfl ?_
  refine V_if_ne (tgt := 137) dX9_delay_112 (by decide) (fun c1 => ?_) (fun c1 => ?_)
  · exact (k1 c1)
  · refine V_aload_n (i := 0) dX9_delay_115 rfl rfl ?_
    refine V_getP dX9_delay_116 fX9_77 rfl s1 ?_
    refine V_iload (i := 6) dX9_delay_119 rfl ?_
    refine V_zald dX9_delay_121 s2 (s3 c1) (s4 c1) ?_
    refine V_if_eq (tgt := 141) dX9_delay_122 (by decide) (fun c2 => ?_) (fun c2 => ?_)
    · exact (k2 c1 c2)
    · refine V_aload_n (i := 0) dX9_delay_125 rfl rfl ?_
      refine V_iload (i := 6) dX9_delay_126 rfl ?_
      refine V_iload_n (i := 3) dX9_delay_128 rfl rfl ?_
      refine V_iadd dX9_delay_129 (r1 c1 c2) ?_
      refine V_iconst dX9_delay_130 ⟨by decide, by decide⟩ ?_
      exact V_callV (M := MX9_delay) (d := (d + 5)) (mc' := 0) (ms' := 0) (mc := 0) (ms := 0) (As := [.inl (i6 + i3), .inl 0]) (rest := []) dX9_delay_131 tX9_isEdge vX9_isEdge lX9_283 s1 ⟨by decide, rfl⟩ rfl rfl (Nat.le_of_ble_eq_true rfl) (show d + 1 ≤ (d + 5) by omega) (e1 c1 c2)
theorem bX9_delay_137 {d : Nat} {Q : Option jA → jH → Prop} (a0 : Nat) (i1 : Int) (i2 : Int) (i3 : Int) (i4 : Int) (i5 : Int) (i6 : Int) (h : jH)
    (k1 : V MX9_delay (d + 5) 142 [some (.inr a0), some (.inl i1), some (.inl i2), some (.inl i3), some (.inl i4), some (.inl i5), some (.inl i6)] [.inl 1] h 0 0 Q) :
    V MX9_delay (d + 5) 137 [some (.inr a0), some (.inl i1), some (.inl i2), some (.inl i3), some (.inl i4), some (.inl i5), some (.inl i6)] [] h 0 0 Q := by
  refine V_iconst dX9_delay_137 ⟨by decide, by decide⟩ ?_
  refine V_goto (tgt := 142) dX9_delay_138 (by decide) ?_
  exact k1
theorem bX9_delay_141 {d : Nat} {Q : Option jA → jH → Prop} (a0 : Nat) (i1 : Int) (i2 : Int) (i3 : Int) (i4 : Int) (i5 : Int) (i6 : Int) (h : jH)
    (k1 : V MX9_delay (d + 5) 142 [some (.inr a0), some (.inl i1), some (.inl i2), some (.inl i3), some (.inl i4), some (.inl i5), some (.inl i6)] [.inl 0] h 0 0 Q) :
    V MX9_delay (d + 5) 141 [some (.inr a0), some (.inl i1), some (.inl i2), some (.inl i3), some (.inl i4), some (.inl i5), some (.inl i6)] [] h 0 0 Q := by
  refine V_iconst dX9_delay_141 ⟨by decide, by decide⟩ ?_
  exact k1
theorem bX9_delay_142 {d : Nat} {Q : Option jA → jH → Prop} (a0 : Nat) (i1 : Int) (i2 : Int) (i3 : Int) (i4 : Int) (i5 : Int) (i6 : Int) (p0 : Int) (h : jH)
    (r1 : jR (i6 + 1))
    (k1 : V MX9_delay (d + 5) 75 [some (.inr a0), some (.inl i1), some (.inl i2), some (.inl i3), some (.inl i4), some (.inl p0), some (.inl (i6 + 1))] [] h 0 0 Q) :
    V MX9_delay (d + 5) 142 [some (.inr a0), some (.inl i1), some (.inl i2), some (.inl i3), some (.inl i4), some (.inl i5), some (.inl i6)] [.inl p0] h 0 0 Q := by
  refine V_istore (i := 5) dX9_delay_142 (by decide) ?_
  refine V_iinc (i := 6) dX9_delay_144 rfl (by decide) r1 ?_
  refine V_goto (tgt := 75) dX9_delay_147 (by decide) ?_
  exact k1
theorem bX9_delay_162 {d : Nat} {Q : Option jA → jH → Prop} (a0 : Nat) (i1 : Int) (i2 : Int) (i3 : Int) (i4 : Int) (i5 : Int) (i6 : Int) (h : jH)
    (r1 : jR (i3 + 1))
    (k1 : V MX9_delay (d + 5) 60 [some (.inr a0), some (.inl i1), some (.inl i2), some (.inl (i3 + 1)), some (.inl i4), some (.inl i5), some (.inl i6)] [] h 0 0 Q) :
    V MX9_delay (d + 5) 162 [some (.inr a0), some (.inl i1), some (.inl i2), some (.inl i3), some (.inl i4), some (.inl i5), some (.inl i6)] [] h 0 0 Q := by
  refine V_iinc (i := 3) dX9_delay_162 rfl (by decide) r1 ?_
  refine V_goto (tgt := 60) dX9_delay_165 (by decide) ?_
  exact k1
theorem bX9_delay_23 {d : Nat} {Q : Option jA → jH → Prop} (a0 : Nat) (i1 : Int) (i2 : Int) (u3 : Option jA) (u4 : Option jA) (u5 : Option jA) (u6 : Option jA) (h : jH)
    (k1 : V MX9_delay (d + 5) 25 [some (.inr a0), some (.inl i1), some (.inl i2), some (.inl 0), u4, u5, u6] [] h 0 0 Q) :
    V MX9_delay (d + 5) 23 [some (.inr a0), some (.inl i1), some (.inl i2), u3, u4, u5, u6] [] h 0 0 Q := by
  refine V_iconst dX9_delay_23 ⟨by decide, by decide⟩ ?_
  refine V_istore_n (i := 3) dX9_delay_24 rfl (by decide) ?_
  exact k1
theorem bX9_delay_58 {d : Nat} {Q : Option jA → jH → Prop} (a0 : Nat) (i1 : Int) (i2 : Int) (i3 : Int) (u4 : Option jA) (u5 : Option jA) (u6 : Option jA) (h : jH)
    (k1 : V MX9_delay (d + 5) 60 [some (.inr a0), some (.inl i1), some (.inl i2), some (.inl 0), u4, u5, u6] [] h 0 0 Q) :
    V MX9_delay (d + 5) 58 [some (.inr a0), some (.inl i1), some (.inl i2), some (.inl i3), u4, u5, u6] [] h 0 0 Q := by
  refine V_iconst dX9_delay_58 ⟨by decide, by decide⟩ ?_
  refine V_istore_n (i := 3) dX9_delay_59 rfl (by decide) ?_
  exact k1
theorem bX9_delay_46 {d : Nat} {Q : Option jA → jH → Prop} (a0 : Nat) (i1 : Int) (i2 : Int) (i3 : Int) (u4 : Option jA) (u5 : Option jA) (u6 : Option jA) (p0 : Int) (p1 : Int) (q2 : Nat) (h : jH)
    (s1 : (jS h q2).1 = 17)
    (s2 : 0 ≤ p1)
    (s3 : p1 < ((jS h q2).2 : Int))
    (z1 : p0 = 0 ∨ p0 = 1)
    (r1 : jR (i3 + 1))
    (k1 : V MX9_delay (d + 5) 25 [some (.inr a0), some (.inl i1), some (.inl i2), some (.inl (i3 + 1)), u4, u5, u6] [] (jsX h q2 ((p1).toNat) p0) 0 0 Q) :
    V MX9_delay (d + 5) 46 [some (.inr a0), some (.inl i1), some (.inl i2), some (.inl i3), u4, u5, u6] [.inl p0, .inl p1, .inr q2] h 0 0 Q := by
  refine V_zast dX9_delay_46 s1 s2 s3 z1 ?_
  refine V_iinc (i := 3) dX9_delay_47 rfl (by decide) r1 ?_
  refine V_goto (tgt := 25) dX9_delay_50 (by decide) ?_
  exact k1
theorem bX9_delay_134 {d : Nat} {Q : Option jA → jH → Prop} (a0 : Nat) (i1 : Int) (i2 : Int) (i3 : Int) (i4 : Int) (i5 : Int) (i6 : Int) (p0 : Int) (h : jH)
    (k1 : (p0 ≠ 0) → V MX9_delay (d + 5) 141 [some (.inr a0), some (.inl i1), some (.inl i2), some (.inl i3), some (.inl i4), some (.inl i5), some (.inl i6)] [] h 0 0 Q)
    (k2 : (p0 = 0) → V MX9_delay (d + 5) 137 [some (.inr a0), some (.inl i1), some (.inl i2), some (.inl i3), some (.inl i4), some (.inl i5), some (.inl i6)] [] h 0 0 Q) :
    V MX9_delay (d + 5) 134 [some (.inr a0), some (.inl i1), some (.inl i2), some (.inl i3), some (.inl i4), some (.inl i5), some (.inl i6)] [.inl p0] h 0 0 Q := by
  refine V_if_ne (tgt := 141) dX9_delay_134 (by decide) (fun c1 => ?_) (fun c1 => ?_)
  · exact (k1 c1)
  · exact (k2 c1)
theorem dX9_jump_0 : decode cX9_jump 0 = .ok (.aload_n 0, 1) := by decide +kernel
theorem dX9_jump_1 : decode cX9_jump 1 = .ok (.iload_n 1, 1) := by decide +kernel
theorem dX9_jump_2 : decode cX9_jump 2 = .ok (.invokevirtual 268, 3) := by decide +kernel
theorem dX9_jump_5 : decode cX9_jump 5 = .ok (.ifCond .eq 11, 3) := by decide +kernel
theorem dX9_jump_8 : decode cX9_jump 8 = .ok (.aload_n 0, 1) := by decide +kernel
theorem dX9_jump_9 : decode cX9_jump 9 = .ok (.iload_n 1, 1) := by decide +kernel
theorem dX9_jump_10 : decode cX9_jump 10 = .ok (.invokevirtual 265, 3) := by decide +kernel
theorem dX9_jump_13 : decode cX9_jump 13 = .ok (.goto 4, 3) := by decide +kernel
theorem dX9_jump_16 : decode cX9_jump 16 = .ok (.iconst (-1), 1) := by decide +kernel
theorem dX9_jump_17 : decode cX9_jump 17 = .ok (.ireturn, 1) := by decide +kernel
theorem bX9_jump_0 {d : Nat} {Q : Option jA → jH → Prop} (a0 : Nat) (i1 : Int) (h : jH)
    (s1 : (jS h a0).1 = 9)
    (s2 : (jS h (jP h a0 9)).1 = 16)
    (s3 : (jS h (jP h a0 9)).2 = 209)
    (q1 : (¬ (0 ≤ i1 ∧ i1 ≤ (jX h (jP h a0 9) 0))) → Q (some (.inl ((-1)))) h)
    (e1 : (0 ≤ i1 ∧ i1 ≤ (jX h (jP h a0 9) 0)) → Ex MX9_blockAt (d + 1) [.inr a0, .inl i1] h 0 0 (fun v h2 => V MX9_jump (d + 2) 13 [some (.inr a0), some (.inl i1)] (v.toList ++ []) h2 0 0 Q)) :
    V MX9_jump (d + 2) 0 [some (.inr a0), some (.inl i1)] [] h 0 0 Q := by
  refine V_aload_n (i := 0) dX9_jump_0 rfl rfl ?_
  refine V_iload_n (i := 1) dX9_jump_1 rfl rfl ?_
  refine V_callV (M := MX9_jump) (d := (d + 2)) (mc' := 0) (ms' := 0) (mc := 0) (ms := 0) (As := [.inl i1]) (rest := []) dX9_jump_2 tX9_isTime vX9_isTime lX9_268 s1 ⟨by decide, rfl⟩ rfl rfl (Nat.le_of_ble_eq_true rfl) (show (d + 1) + 1 ≤ (d + 2) by omega) (Ex.mono (pX9_isTime (d := d) s1 s2 s3) ?_)
  intro v h2 hq
  rw [hq.1, hq.2]
  show V MX9_jump (d + 2) 5 [some (.inr a0), some (.inl i1)] [.inl (jb (0 ≤ i1 ∧ i1 ≤ (jX h (jP h a0 9) 0)))] h 0 0 Q
  refine V_ifb_eq (tgt := 16) dX9_jump_5 (by decide) (fun c1 => ?_) (fun c1 => ?_)
  · refine V_iconst dX9_jump_16 ⟨by decide, by decide⟩ ?_
    exact V_reti rfl dX9_jump_17 (q1 c1)
  · refine V_aload_n (i := 0) dX9_jump_8 rfl rfl ?_
    refine V_iload_n (i := 1) dX9_jump_9 rfl rfl ?_
    exact V_callV (M := MX9_jump) (d := (d + 2)) (mc' := 0) (ms' := 0) (mc := 0) (ms := 0) (As := [.inl i1]) (rest := []) dX9_jump_10 tX9_blockAt vX9_blockAt lX9_265 s1 ⟨by decide, rfl⟩ rfl rfl (Nat.le_of_ble_eq_true rfl) (show (d + 1) + 1 ≤ (d + 2) by omega) (e1 c1)
theorem bX9_jump_13 {d : Nat} {Q : Option jA → jH → Prop} (a0 : Nat) (i1 : Int) (p0 : Int) (h : jH)
    (q1 : Q (some (.inl p0)) h) :
    V MX9_jump (d + 2) 13 [some (.inr a0), some (.inl i1)] [.inl p0] h 0 0 Q := by
  refine V_goto (tgt := 17) dX9_jump_13 (by decide) ?_
  exact V_reti rfl dX9_jump_17 q1
theorem dX9_addsRow_0 : decode cX9_addsRow 0 = .ok (.iconst 0, 1) := by decide +kernel
theorem dX9_addsRow_1 : decode cX9_addsRow 1 = .ok (.istore_n 2, 1) := by decide +kernel
theorem dX9_addsRow_2 : decode cX9_addsRow 2 = .ok (.iload_n 2, 1) := by decide +kernel
theorem dX9_addsRow_3 : decode cX9_addsRow 3 = .ok (.aload_n 0, 1) := by decide +kernel
theorem dX9_addsRow_4 : decode cX9_addsRow 4 = .ok (.getfield 25, 3) := by decide +kernel
theorem dX9_addsRow_7 : decode cX9_addsRow 7 = .ok (.iload_n 1, 1) := by decide +kernel
theorem dX9_addsRow_8 : decode cX9_addsRow 8 = .ok (.invokestatic 256, 3) := by decide +kernel
theorem dX9_addsRow_11 : decode cX9_addsRow 11 = .ok (.iconst 2, 1) := by decide +kernel
theorem dX9_addsRow_12 : decode cX9_addsRow 12 = .ok (.iadd, 1) := by decide +kernel
theorem dX9_addsRow_13 : decode cX9_addsRow 13 = .ok (.iaload, 1) := by decide +kernel
theorem dX9_addsRow_14 : decode cX9_addsRow 14 = .ok (.if_icmp .ge 71, 3) := by decide +kernel
theorem dX9_addsRow_17 : decode cX9_addsRow 17 = .ok (.aload_n 0, 1) := by decide +kernel
theorem dX9_addsRow_18 : decode cX9_addsRow 18 = .ok (.getfield 80, 3) := by decide +kernel
theorem dX9_addsRow_21 : decode cX9_addsRow 21 = .ok (.aload_n 0, 1) := by decide +kernel
theorem dX9_addsRow_22 : decode cX9_addsRow 22 = .ok (.getfield 290, 3) := by decide +kernel
theorem dX9_addsRow_25 : decode cX9_addsRow 25 = .ok (.aload_n 0, 1) := by decide +kernel
theorem dX9_addsRow_26 : decode cX9_addsRow 26 = .ok (.getfield 25, 3) := by decide +kernel
theorem dX9_addsRow_29 : decode cX9_addsRow 29 = .ok (.iload_n 1, 1) := by decide +kernel
theorem dX9_addsRow_30 : decode cX9_addsRow 30 = .ok (.invokestatic 256, 3) := by decide +kernel
theorem dX9_addsRow_33 : decode cX9_addsRow 33 = .ok (.bipush 9, 2) := by decide +kernel
theorem dX9_addsRow_35 : decode cX9_addsRow 35 = .ok (.iadd, 1) := by decide +kernel
theorem dX9_addsRow_36 : decode cX9_addsRow 36 = .ok (.iconst 3, 1) := by decide +kernel
theorem dX9_addsRow_37 : decode cX9_addsRow 37 = .ok (.iload_n 2, 1) := by decide +kernel
theorem dX9_addsRow_38 : decode cX9_addsRow 38 = .ok (.imul, 1) := by decide +kernel
theorem dX9_addsRow_39 : decode cX9_addsRow 39 = .ok (.iadd, 1) := by decide +kernel
theorem dX9_addsRow_40 : decode cX9_addsRow 40 = .ok (.iaload, 1) := by decide +kernel
theorem dX9_addsRow_41 : decode cX9_addsRow 41 = .ok (.iastore, 1) := by decide +kernel
theorem dX9_addsRow_42 : decode cX9_addsRow 42 = .ok (.aload_n 0, 1) := by decide +kernel
theorem dX9_addsRow_43 : decode cX9_addsRow 43 = .ok (.getfield 83, 3) := by decide +kernel
theorem dX9_addsRow_46 : decode cX9_addsRow 46 = .ok (.aload_n 0, 1) := by decide +kernel
theorem dX9_addsRow_47 : decode cX9_addsRow 47 = .ok (.getfield 290, 3) := by decide +kernel
theorem dX9_addsRow_50 : decode cX9_addsRow 50 = .ok (.aload_n 0, 1) := by decide +kernel
theorem dX9_addsRow_51 : decode cX9_addsRow 51 = .ok (.getfield 25, 3) := by decide +kernel
theorem dX9_addsRow_54 : decode cX9_addsRow 54 = .ok (.iload_n 1, 1) := by decide +kernel
theorem dX9_addsRow_55 : decode cX9_addsRow 55 = .ok (.invokestatic 256, 3) := by decide +kernel
theorem dX9_addsRow_58 : decode cX9_addsRow 58 = .ok (.bipush 9, 2) := by decide +kernel
theorem dX9_addsRow_60 : decode cX9_addsRow 60 = .ok (.iadd, 1) := by decide +kernel
theorem dX9_addsRow_61 : decode cX9_addsRow 61 = .ok (.iconst 3, 1) := by decide +kernel
theorem dX9_addsRow_62 : decode cX9_addsRow 62 = .ok (.iload_n 2, 1) := by decide +kernel
theorem dX9_addsRow_63 : decode cX9_addsRow 63 = .ok (.imul, 1) := by decide +kernel
theorem dX9_addsRow_64 : decode cX9_addsRow 64 = .ok (.iadd, 1) := by decide +kernel
theorem dX9_addsRow_65 : decode cX9_addsRow 65 = .ok (.iconst 2, 1) := by decide +kernel
theorem dX9_addsRow_66 : decode cX9_addsRow 66 = .ok (.iadd, 1) := by decide +kernel
theorem dX9_addsRow_67 : decode cX9_addsRow 67 = .ok (.iaload, 1) := by decide +kernel
theorem dX9_addsRow_68 : decode cX9_addsRow 68 = .ok (.iastore, 1) := by decide +kernel
theorem dX9_addsRow_69 : decode cX9_addsRow 69 = .ok (.aload_n 0, 1) := by decide +kernel
theorem dX9_addsRow_70 : decode cX9_addsRow 70 = .ok (.dup, 1) := by decide +kernel
theorem dX9_addsRow_71 : decode cX9_addsRow 71 = .ok (.getfield 290, 3) := by decide +kernel
theorem dX9_addsRow_74 : decode cX9_addsRow 74 = .ok (.iconst 1, 1) := by decide +kernel
theorem dX9_addsRow_75 : decode cX9_addsRow 75 = .ok (.iadd, 1) := by decide +kernel
theorem dX9_addsRow_76 : decode cX9_addsRow 76 = .ok (.putfield 290, 3) := by decide +kernel
theorem dX9_addsRow_79 : decode cX9_addsRow 79 = .ok (.iinc 2 1, 3) := by decide +kernel
theorem dX9_addsRow_82 : decode cX9_addsRow 82 = .ok (.goto (-80), 3) := by decide +kernel
theorem dX9_addsRow_85 : decode cX9_addsRow 85 = .ok (.return_, 1) := by decide +kernel
theorem bX9_addsRow_0 {d : Nat} {Q : Option jA → jH → Prop} (a0 : Nat) (i1 : Int) (u2 : Option jA) (h : jH)
    (k1 : V MX9_addsRow (d + 1) 2 [some (.inr a0), some (.inl i1), some (.inl 0)] [] h 0 0 Q) :
    V MX9_addsRow (d + 1) 0 [some (.inr a0), some (.inl i1), u2] [] h 0 0 Q := by
  refine V_iconst dX9_addsRow_0 ⟨by decide, by decide⟩ ?_
  refine V_istore_n (i := 2) dX9_addsRow_1 rfl (by decide) ?_
  exact k1
theorem bX9_addsRow_2 {d : Nat} {Q : Option jA → jH → Prop} (a0 : Nat) (i1 : Int) (i2 : Int) (h : jH)
    (s1 : (jS h a0).1 = 9)
    (s2 : 0 ≤ i1)
    (s3 : i1 ≤ 6)
    (r1 : jR ((11 + (33 * i1)) + 2))
    (s4 : (jS h (jP h a0 9)).1 = 16)
    (s5 : 0 ≤ (11 + (33 * i1)) + 2)
    (s6 : (11 + (33 * i1)) + 2 < ((jS h (jP h a0 9)).2 : Int))
    (q1 : ((jX h (jP h a0 9) (((11 + (33 * i1)) + 2).toNat)) ≤ i2) → Q none h)
    (r2 : (¬ ((jX h (jP h a0 9) (((11 + (33 * i1)) + 2).toNat)) ≤ i2)) → jR ((11 + (33 * i1)) + 9))
    (r3 : (¬ ((jX h (jP h a0 9) (((11 + (33 * i1)) + 2).toNat)) ≤ i2)) → jR (3 * i2))
    (r4 : (¬ ((jX h (jP h a0 9) (((11 + (33 * i1)) + 2).toNat)) ≤ i2)) → jR (((11 + (33 * i1)) + 9) + (3 * i2)))
    (s7 : (¬ ((jX h (jP h a0 9) (((11 + (33 * i1)) + 2).toNat)) ≤ i2)) → 0 ≤ ((11 + (33 * i1)) + 9) + (3 * i2))
    (s8 : (¬ ((jX h (jP h a0 9) (((11 + (33 * i1)) + 2).toNat)) ≤ i2)) → ((11 + (33 * i1)) + 9) + (3 * i2) < ((jS h (jP h a0 9)).2 : Int))
    (s9 : (jS h (jP h a0 43)).1 = 16)
    (s10 : (¬ ((jX h (jP h a0 9) (((11 + (33 * i1)) + 2).toNat)) ≤ i2)) → 0 ≤ jI h a0 45)
    (s11 : (¬ ((jX h (jP h a0 9) (((11 + (33 * i1)) + 2).toNat)) ≤ i2)) → jI h a0 45 < ((jS h (jP h a0 43)).2 : Int))
    (r5 : (¬ ((jX h (jP h a0 9) (((11 + (33 * i1)) + 2).toNat)) ≤ i2)) → jR ((11 + (33 * i1)) + 9))
    (r6 : (¬ ((jX h (jP h a0 9) (((11 + (33 * i1)) + 2).toNat)) ≤ i2)) → jR (3 * i2))
    (r7 : (¬ ((jX h (jP h a0 9) (((11 + (33 * i1)) + 2).toNat)) ≤ i2)) → jR (((11 + (33 * i1)) + 9) + (3 * i2)))
    (r8 : (¬ ((jX h (jP h a0 9) (((11 + (33 * i1)) + 2).toNat)) ≤ i2)) → jR ((((11 + (33 * i1)) + 9) + (3 * i2)) + 2))
    (s12 : (¬ ((jX h (jP h a0 9) (((11 + (33 * i1)) + 2).toNat)) ≤ i2)) → 0 ≤ (((11 + (33 * i1)) + 9) + (3 * i2)) + 2)
    (s13 : (¬ ((jX h (jP h a0 9) (((11 + (33 * i1)) + 2).toNat)) ≤ i2)) → (((11 + (33 * i1)) + 9) + (3 * i2)) + 2 < ((jS h (jP h a0 9)).2 : Int))
    (s14 : (jS h (jP h a0 44)).1 = 16)
    (s15 : (¬ ((jX h (jP h a0 9) (((11 + (33 * i1)) + 2).toNat)) ≤ i2)) → jI h a0 45 < ((jS h (jP h a0 44)).2 : Int))
    (r9 : (¬ ((jX h (jP h a0 9) (((11 + (33 * i1)) + 2).toNat)) ≤ i2)) → jR ((jI h a0 45) + 1))
    (r10 : (¬ ((jX h (jP h a0 9) (((11 + (33 * i1)) + 2).toNat)) ≤ i2)) → jR (i2 + 1))
    (k1 : (¬ ((jX h (jP h a0 9) (((11 + (33 * i1)) + 2).toNat)) ≤ i2)) → V MX9_addsRow (d + 1) 2 [some (.inr a0), some (.inl i1), some (.inl (i2 + 1))] [] (jsI (jsX (jsX h (jP h a0 43) ((jI h a0 45).toNat) (jX h (jP h a0 9) ((((11 + (33 * i1)) + 9) + (3 * i2)).toNat))) (jP h a0 44) ((jI h a0 45).toNat) (jX (jsX h (jP h a0 43) ((jI h a0 45).toNat) (jX h (jP h a0 9) ((((11 + (33 * i1)) + 9) + (3 * i2)).toNat))) (jP h a0 9) (((((11 + (33 * i1)) + 9) + (3 * i2)) + 2).toNat))) a0 45 ((jI h a0 45) + 1)) 0 0 Q) :
    V MX9_addsRow (d + 1) 2 [some (.inr a0), some (.inl i1), some (.inl i2)] [] h 0 0 Q := by
  refine V_iload_n (i := 2) dX9_addsRow_2 rfl rfl ?_
  refine V_aload_n (i := 0) dX9_addsRow_3 rfl rfl ?_
  refine V_getP dX9_addsRow_4 fX9_25 rfl s1 ?_
  refine V_iload_n (i := 1) dX9_addsRow_7 rfl rfl ?_
  refine V_callS (M := MX9_addsRow) (d := (d + 1)) (mc' := 0) (ms' := 0) (mc := 0) (ms := 0) (a := 0) (As := [.inl i1]) (rest := [.inr (jP h a0 9), .inl i2]) dX9_addsRow_8 tX9_block0 sX9_block0 lX9_256 rfl rfl (Nat.le_of_ble_eq_true rfl) (show d + 1 ≤ (d + 1) by omega) (Ex.mono (pX9_block0 (d := d) s2 s3) ?_)
  intro v h2 hq
  rw [hq.1, hq.2]
  show V MX9_addsRow (d + 1) 11 [some (.inr a0), some (.inl i1), some (.inl i2)] [.inl (11 + (33 * i1)), .inr (jP h a0 9), .inl i2] h 0 0 Q
  refine V_iconst dX9_addsRow_11 ⟨by decide, by decide⟩ ?_
  refine V_iadd dX9_addsRow_12 r1 ?_
  refine V_iald dX9_addsRow_13 s4 s5 s6 ?_
  refine V_icmp_ge (tgt := 85) dX9_addsRow_14 (by decide) (fun c1 => ?_) (fun c1 => ?_)
  · exact V_ret (v := none) rfl rfl dX9_addsRow_85 trivial rfl (q1 c1)
  · refine V_aload_n (i := 0) dX9_addsRow_17 rfl rfl ?_
    refine V_getP dX9_addsRow_18 fX9_80 rfl s1 ?_
    refine V_aload_n (i := 0) dX9_addsRow_21 rfl rfl ?_
    refine V_getI dX9_addsRow_22 fX9_290 rfl s1 ?_
    refine V_aload_n (i := 0) dX9_addsRow_25 rfl rfl ?_
    refine V_getP dX9_addsRow_26 fX9_25 rfl s1 ?_
    refine V_iload_n (i := 1) dX9_addsRow_29 rfl rfl ?_
    refine V_callS (M := MX9_addsRow) (d := (d + 1)) (mc' := 0) (ms' := 0) (mc := 0) (ms := 0) (a := 0) (As := [.inl i1]) (rest := [.inr (jP h a0 9), .inl (jI h a0 45), .inr (jP h a0 43)]) dX9_addsRow_30 tX9_block0 sX9_block0 lX9_256 rfl rfl (Nat.le_of_ble_eq_true rfl) (show d + 1 ≤ (d + 1) by omega) (Ex.mono (pX9_block0 (d := d) s2 s3) ?_)
    intro v h2 hq
    rw [hq.1, hq.2]
    show V MX9_addsRow (d + 1) 33 [some (.inr a0), some (.inl i1), some (.inl i2)] [.inl (11 + (33 * i1)), .inr (jP h a0 9), .inl (jI h a0 45), .inr (jP h a0 43)] h 0 0 Q
    refine V_bipush dX9_addsRow_33 (by decide +kernel) ⟨by decide, by decide⟩ ?_
    refine V_iadd dX9_addsRow_35 (r2 c1) ?_
    refine V_iconst dX9_addsRow_36 ⟨by decide, by decide⟩ ?_
    refine V_iload_n (i := 2) dX9_addsRow_37 rfl rfl ?_
    refine V_imul dX9_addsRow_38 (r3 c1) ?_
    refine V_iadd dX9_addsRow_39 (r4 c1) ?_
    refine V_iald dX9_addsRow_40 s4 (s7 c1) (s8 c1) ?_
    refine V_iast dX9_addsRow_41 s9 (s10 c1) (s11 c1) ?_
    refine V_aload_n (i := 0) dX9_addsRow_42 rfl rfl ?_
    refine V_getP dX9_addsRow_43 fX9_83 rfl s1 ?_
    refine V_aload_n (i := 0) dX9_addsRow_46 rfl rfl ?_
    refine V_getI dX9_addsRow_47 fX9_290 rfl s1 ?_
    refine V_aload_n (i := 0) dX9_addsRow_50 rfl rfl ?_
    refine V_getP dX9_addsRow_51 fX9_25 rfl s1 ?_
    refine V_iload_n (i := 1) dX9_addsRow_54 rfl rfl ?_
    refine V_callS (M := MX9_addsRow) (d := (d + 1)) (mc' := 0) (ms' := 0) (mc := 0) (ms := 0) (a := 0) (As := [.inl i1]) (rest := [.inr (jP h a0 9), .inl (jI h a0 45), .inr (jP h a0 44)]) dX9_addsRow_55 tX9_block0 sX9_block0 lX9_256 rfl rfl (Nat.le_of_ble_eq_true rfl) (show d + 1 ≤ (d + 1) by omega) (Ex.mono (pX9_block0 (d := d) s2 s3) ?_)
    intro v h2 hq
    rw [hq.1, hq.2]
    show V MX9_addsRow (d + 1) 58 [some (.inr a0), some (.inl i1), some (.inl i2)] [.inl (11 + (33 * i1)), .inr (jP h a0 9), .inl (jI h a0 45), .inr (jP h a0 44)] (jsX h (jP h a0 43) ((jI h a0 45).toNat) (jX h (jP h a0 9) ((((11 + (33 * i1)) + 9) + (3 * i2)).toNat))) 0 0 Q
    refine V_bipush dX9_addsRow_58 (by decide +kernel) ⟨by decide, by decide⟩ ?_
    refine V_iadd dX9_addsRow_60 (r5 c1) ?_
    refine V_iconst dX9_addsRow_61 ⟨by decide, by decide⟩ ?_
    refine V_iload_n (i := 2) dX9_addsRow_62 rfl rfl ?_
    refine V_imul dX9_addsRow_63 (r6 c1) ?_
    refine V_iadd dX9_addsRow_64 (r7 c1) ?_
    refine V_iconst dX9_addsRow_65 ⟨by decide, by decide⟩ ?_
    refine V_iadd dX9_addsRow_66 (r8 c1) ?_
    refine V_iald dX9_addsRow_67 s4 (s12 c1) (s13 c1) ?_
    refine V_iast dX9_addsRow_68 s14 (s10 c1) (s15 c1) ?_
    refine V_aload_n (i := 0) dX9_addsRow_69 rfl rfl ?_
    refine V_dup dX9_addsRow_70 ?_
    refine V_getI dX9_addsRow_71 fX9_290 rfl s1 ?_
    refine V_iconst dX9_addsRow_74 ⟨by decide, by decide⟩ ?_
    refine V_iadd dX9_addsRow_75 (r9 c1) ?_
    refine V_putI (ci := 9) (kf := 45) dX9_addsRow_76 fX9_290 rfl rfl s1 ?_
    refine V_iinc (i := 2) dX9_addsRow_79 rfl (by decide) (r10 c1) ?_
    refine V_goto (tgt := 2) dX9_addsRow_82 (by decide) ?_
    exact (k1 c1)
