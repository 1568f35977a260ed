/-! ===== leaf methods, as values ===== -/
section JP
def jop (sg x y : Int) : Int := if sg = 38 then (if x = 0 ∨ y = 0 then 0 else if x = -7 ∨ y = -7 then -7 else jand x y) else if x = -7 ∨ y = -7 then -7 else if sg = 124 then jor x y else if sg = 94 then jxor x y else if sg = 43 then jand (x + y) 255 else jand (x - y) 255
def jneg (x : Int) : Int := if x = -7 then -7 else if x = 0 then 1 else 0
def jlet (x : Int) : Int := if 97 ≤ x ∧ x ≤ 122 then x - 97 else -9
def jorn (x : Int) : Int := if x = -1 then -9 else x
def jaft (i n last nx : Int) : Int := if i + 1 < n then nx else last + 1
theorem dX9_in_0 : decode cX9_in 0 = .ok (.iload_n 0, 1) := by decide +kernel
theorem dX9_in_1 : decode cX9_in 1 = .ok (.iload_n 1, 1) := by decide +kernel
theorem dX9_in_2 : decode cX9_in 2 = .ok (.if_icmp .lt 12, 3) := by decide +kernel
theorem dX9_in_5 : decode cX9_in 5 = .ok (.iload_n 0, 1) := by decide +kernel
theorem dX9_in_6 : decode cX9_in 6 = .ok (.iload_n 2, 1) := by decide +kernel
theorem dX9_in_7 : decode cX9_in 7 = .ok (.if_icmp .gt 7, 3) := by decide +kernel
theorem dX9_in_10 : decode cX9_in 10 = .ok (.iconst 1, 1) := by decide +kernel
theorem dX9_in_11 : decode cX9_in 11 = .ok (.goto 4, 3) := by decide +kernel
theorem dX9_in_14 : decode cX9_in 14 = .ok (.iconst 0, 1) := by decide +kernel
theorem dX9_in_15 : decode cX9_in 15 = .ok (.ireturn, 1) := by decide +kernel
theorem bX9_in_0 {d : Nat} {Q : Option jA → jH → Prop} (i0 : Int) (i1 : Int) (i2 : Int) (h : jH)
    (q1 : (i0 < i1) → Q (some (.inl 0)) h)
    (q2 : (¬ (i0 < i1)) → (i2 < i0) → Q (some (.inl 0)) h)
    (q3 : (¬ (i0 < i1)) → (¬ (i2 < i0)) → Q (some (.inl 1)) h) :
    V MX9_in d 0 [some (.inl i0), some (.inl i1), some (.inl i2)] [] h 0 0 Q := by
  refine V_iload_n (i := 0) dX9_in_0 rfl rfl ?_
  refine V_iload_n (i := 1) dX9_in_1 rfl rfl ?_
  refine V_icmp_lt (tgt := 14) dX9_in_2 (by decide) (fun c1 => ?_) (fun c1 => ?_)
  · refine V_iconst dX9_in_14 ⟨by decide, by decide⟩ ?_
    exact V_retz rfl dX9_in_15 (by decide) (q1 c1)
  · refine V_iload_n (i := 0) dX9_in_5 rfl rfl ?_
    refine V_iload_n (i := 2) dX9_in_6 rfl rfl ?_
    refine V_icmp_gt (tgt := 14) dX9_in_7 (by decide) (fun c2 => ?_) (fun c2 => ?_)
    · refine V_iconst dX9_in_14 ⟨by decide, by decide⟩ ?_
      exact V_retz rfl dX9_in_15 (by decide) (q2 c1 c2)
    · refine V_iconst dX9_in_10 ⟨by decide, by decide⟩ ?_
      refine V_goto (tgt := 15) dX9_in_11 (by decide) ?_
      exact V_retz rfl dX9_in_15 (by decide) (q3 c1 c2)
theorem pX9_in {d : Nat} {z0 z1 z2 : Int} {h : jH}  : Ex MX9_in d [.inl z0, .inl z1, .inl z2] h 0 0 (fun r h2 => r = some (.inl (jb (z1 ≤ z0 ∧ z0 ≤ z2))) ∧ h2 = h) := by
  refine Ex_of_V tX9_in (Nat.le_of_ble_eq_true rfl) (bX9_in_0 z0 z1 z2 h ?_ ?_ ?_)
  all_goals intros
  all_goals first
    | assumption
    | omega
    | (constructor <;> omega)
    | (refine ⟨?_, rfl⟩; rw [jb_t]; first | omega | (refine ⟨?_, ?_⟩ <;> omega) | (refine ⟨?_, ?_, ?_⟩ <;> first | assumption | omega) | (simp_all; done))
    | (refine ⟨?_, rfl⟩; rw [jb_f]; first | omega | (simp_all; done))
    | (simp_all; done)
theorem dX9_block0_0 : decode cX9_block0 0 = .ok (.bipush 11, 2) := by decide +kernel
theorem dX9_block0_2 : decode cX9_block0 2 = .ok (.bipush 33, 2) := by decide +kernel
theorem dX9_block0_4 : decode cX9_block0 4 = .ok (.iload_n 0, 1) := by decide +kernel
theorem dX9_block0_5 : decode cX9_block0 5 = .ok (.imul, 1) := by decide +kernel
theorem dX9_block0_6 : decode cX9_block0 6 = .ok (.iadd, 1) := by decide +kernel
theorem dX9_block0_7 : decode cX9_block0 7 = .ok (.ireturn, 1) := by decide +kernel
theorem bX9_block0_0 {d : Nat} {Q : Option jA → jH → Prop} (i0 : Int) (h : jH)
    (r1 : jR (33 * i0))
    (r2 : jR (11 + (33 * i0)))
    (q1 : Q (some (.inl (11 + (33 * i0)))) h) :
    V MX9_block0 d 0 [some (.inl i0)] [] h 0 0 Q := by
  refine V_bipush dX9_block0_0 (by decide +kernel) ⟨by decide, by decide⟩ ?_
  refine V_bipush dX9_block0_2 (by decide +kernel) ⟨by decide, by decide⟩ ?_
  refine V_iload_n (i := 0) dX9_block0_4 rfl rfl ?_
  refine V_imul dX9_block0_5 r1 ?_
  refine V_iadd dX9_block0_6 r2 ?_
  exact V_reti rfl dX9_block0_7 q1
theorem pX9_block0 {d : Nat} {z0 : Int} {h : jH} (s0 : 0 ≤ z0) (s1 : z0 ≤ 6) : Ex MX9_block0 d [.inl z0] h 0 0 (fun r h2 => r = some (.inl (11 + (33 * z0))) ∧ h2 = h) := by
  refine Ex_of_V tX9_block0 (Nat.le_of_ble_eq_true rfl) (bX9_block0_0 z0 h ?_ ?_ ?_)
  all_goals intros
  all_goals first
    | assumption
    | omega
    | (constructor <;> omega)
    | exact ⟨rfl, rfl⟩
    | (refine ⟨congrArg (fun z => some (Sum.inl z)) ?_, rfl⟩; simp [jop, jneg, jlet, jorn, jaft, *]; done)
    | (refine ⟨congrArg (fun z => some (Sum.inl z)) ?_, rfl⟩; simp [jop, jneg, jlet, jorn, jaft, *] <;> omega)
    | (refine ⟨congrArg (fun z => some (Sum.inl z)) ?_, rfl⟩; simp_all [jop, jneg, jlet, jorn, jaft] <;> omega)
    | (simp_all; done)
theorem dX9_isNode_0 : decode cX9_isNode 0 = .ok (.iload_n 1, 1) := by decide +kernel
theorem dX9_isNode_1 : decode cX9_isNode 1 = .ok (.iconst 0, 1) := by decide +kernel
theorem dX9_isNode_2 : decode cX9_isNode 2 = .ok (.aload_n 0, 1) := by decide +kernel
theorem dX9_isNode_3 : decode cX9_isNode 3 = .ok (.getfield 212, 3) := by decide +kernel
theorem dX9_isNode_6 : decode cX9_isNode 6 = .ok (.iconst 1, 1) := by decide +kernel
theorem dX9_isNode_7 : decode cX9_isNode 7 = .ok (.isub, 1) := by decide +kernel
theorem dX9_isNode_8 : decode cX9_isNode 8 = .ok (.invokestatic 95, 3) := by decide +kernel
theorem dX9_isNode_11 : decode cX9_isNode 11 = .ok (.ireturn, 1) := by decide +kernel
theorem bX9_isNode_0 {d : Nat} {Q : Option jA → jH → Prop} (a0 : Nat) (i1 : Int) (h : jH)
    (s1 : (jS h a0).1 = 9)
    (r1 : jR ((jI h a0 1) - 1))
    (q1 : Q (some (.inl (jb (0 ≤ i1 ∧ i1 ≤ ((jI h a0 1) - 1))))) h) :
    V MX9_isNode (d + 1) 0 [some (.inr a0), some (.inl i1)] [] h 0 0 Q := by
  refine V_iload_n (i := 1) dX9_isNode_0 rfl rfl ?_
  refine V_iconst dX9_isNode_1 ⟨by decide, by decide⟩ ?_
  refine V_aload_n (i := 0) dX9_isNode_2 rfl rfl ?_
  refine V_getI dX9_isNode_3 fX9_212 rfl s1 ?_
  refine V_iconst dX9_isNode_6 ⟨by decide, by decide⟩ ?_
  refine V_isub dX9_isNode_7 r1 ?_
  refine V_callS (M := MX9_isNode) (d := (d + 1)) (mc' := 0) (ms' := 0) (mc := 0) (ms := 0) (a := 0) (As := [.inl i1, .inl 0, .inl ((jI h a0 1) - 1)]) (rest := []) dX9_isNode_8 tX9_in sX9_in lX9_95 rfl rfl (Nat.le_of_ble_eq_true rfl) (show d + 1 ≤ (d + 1) by omega) (Ex.mono (pX9_in (d := d) ) ?_)
  intro v h2 hq
  rw [hq.1, hq.2]
  show V MX9_isNode (d + 1) 11 [some (.inr a0), some (.inl i1)] [.inl (jb (0 ≤ i1 ∧ i1 ≤ ((jI h a0 1) - 1)))] h 0 0 Q
  exact V_retz rfl dX9_isNode_11 (jb01 _) q1
theorem pX9_isNode {d : Nat} {z1 : Int} {r0 : Nat} {h : jH} (s0 : (jS h r0).1 = 9) (s1 : 0 ≤ jI h r0 1) (s2 : jI h r0 1 ≤ 12) : Ex MX9_isNode (d + 1) [.inr r0, .inl z1] h 0 0 (fun r h2 => r = some (.inl (jb (0 ≤ z1 ∧ z1 ≤ (jI h r0 1) - 1))) ∧ h2 = h) := by
  refine Ex_of_V tX9_isNode (Nat.le_of_ble_eq_true rfl) (bX9_isNode_0 r0 z1 h ?_ ?_ ?_)
  all_goals intros
  all_goals first
    | assumption
    | omega
    | (constructor <;> omega)
    | (refine ⟨?_, rfl⟩; rw [jb_t]; first | omega | (refine ⟨?_, ?_⟩ <;> omega) | (refine ⟨?_, ?_, ?_⟩ <;> first | assumption | omega) | (simp_all; done))
    | (refine ⟨?_, rfl⟩; rw [jb_f]; first | omega | (simp_all; done))
    | (simp_all; done)
theorem dX9_of_0 : decode cX9_of 0 = .ok (.aload_n 0, 1) := by decide +kernel
theorem dX9_of_1 : decode cX9_of 1 = .ok (.getfield 7, 3) := by decide +kernel
theorem dX9_of_4 : decode cX9_of 4 = .ok (.bipush 6, 2) := by decide +kernel
theorem dX9_of_6 : decode cX9_of 6 = .ok (.iload_n 1, 1) := by decide +kernel
theorem dX9_of_7 : decode cX9_of 7 = .ok (.imul, 1) := by decide +kernel
theorem dX9_of_8 : decode cX9_of 8 = .ok (.iload_n 2, 1) := by decide +kernel
theorem dX9_of_9 : decode cX9_of 9 = .ok (.iadd, 1) := by decide +kernel
theorem dX9_of_10 : decode cX9_of 10 = .ok (.iaload, 1) := by decide +kernel
theorem dX9_of_11 : decode cX9_of 11 = .ok (.ireturn, 1) := by decide +kernel
theorem bX9_of_0 {d : Nat} {Q : Option jA → jH → Prop} (a0 : Nat) (i1 : Int) (i2 : Int) (h : jH)
    (s1 : (jS h a0).1 = 9)
    (r1 : jR (6 * i1))
    (r2 : jR ((6 * i1) + i2))
    (s2 : (jS h (jP h a0 0)).1 = 16)
    (s3 : 0 ≤ (6 * i1) + i2)
    (s4 : (6 * i1) + i2 < ((jS h (jP h a0 0)).2 : Int))
    (q1 : Q (some (.inl (jX h (jP h a0 0) (((6 * i1) + i2).toNat)))) h) :
    V MX9_of d 0 [some (.inr a0), some (.inl i1), some (.inl i2)] [] h 0 0 Q := by
  refine V_aload_n (i := 0) dX9_of_0 rfl rfl ?_
  refine V_getP dX9_of_1 fX9_7 rfl s1 ?_
  refine V_bipush dX9_of_4 (by decide +kernel) ⟨by decide, by decide⟩ ?_
  refine V_iload_n (i := 1) dX9_of_6 rfl rfl ?_
  refine V_imul dX9_of_7 r1 ?_
  refine V_iload_n (i := 2) dX9_of_8 rfl rfl ?_
  refine V_iadd dX9_of_9 r2 ?_
  refine V_iald dX9_of_10 s2 s3 s4 ?_
  exact V_reti rfl dX9_of_11 q1
theorem pX9_of {d : Nat} {z1 z2 : Int} {r0 : Nat} {h : jH} (s0 : (jS h r0).1 = 9) (s1 : (jS h (jP h r0 0)).1 = 16) (s2 : (jS h (jP h r0 0)).2 = 72) (s3 : 0 ≤ z1) (s4 : z1 < 12) (s5 : 0 ≤ z2) (s6 : z2 < 6) : Ex MX9_of d [.inr r0, .inl z1, .inl z2] h 0 0 (fun r h2 => r = some (.inl (jX h (jP h r0 0) (((6 * z1) + z2).toNat))) ∧ h2 = h) := by
  refine Ex_of_V tX9_of (Nat.le_of_ble_eq_true rfl) (bX9_of_0 r0 z1 z2 h ?_ ?_ ?_ ?_ ?_ ?_ ?_)
  all_goals intros
  all_goals first
    | assumption
    | omega
    | (constructor <;> omega)
    | exact ⟨rfl, rfl⟩
    | (refine ⟨congrArg (fun z => some (Sum.inl z)) ?_, rfl⟩; simp [jop, jneg, jlet, jorn, jaft, *]; done)
    | (refine ⟨congrArg (fun z => some (Sum.inl z)) ?_, rfl⟩; simp [jop, jneg, jlet, jorn, jaft, *] <;> omega)
    | (refine ⟨congrArg (fun z => some (Sum.inl z)) ?_, rfl⟩; simp_all [jop, jneg, jlet, jorn, jaft] <;> omega)
    | (simp_all; done)
theorem dX9_isTime_0 : decode cX9_isTime 0 = .ok (.iload_n 1, 1) := by decide +kernel
theorem dX9_isTime_1 : decode cX9_isTime 1 = .ok (.iconst 0, 1) := by decide +kernel
theorem dX9_isTime_2 : decode cX9_isTime 2 = .ok (.aload_n 0, 1) := by decide +kernel
theorem dX9_isTime_3 : decode cX9_isTime 3 = .ok (.getfield 25, 3) := by decide +kernel
theorem dX9_isTime_6 : decode cX9_isTime 6 = .ok (.iconst 0, 1) := by decide +kernel
theorem dX9_isTime_7 : decode cX9_isTime 7 = .ok (.iaload, 1) := by decide +kernel
theorem dX9_isTime_8 : decode cX9_isTime 8 = .ok (.invokestatic 95, 3) := by decide +kernel
theorem dX9_isTime_11 : decode cX9_isTime 11 = .ok (.ireturn, 1) := by decide +kernel
theorem bX9_isTime_0 {d : Nat} {Q : Option jA → jH → Prop} (a0 : Nat) (i1 : Int) (h : jH)
    (s1 : (jS h a0).1 = 9)
    (s2 : (jS h (jP h a0 9)).1 = 16)
    (s3 : 0 < ((jS h (jP h a0 9)).2 : Int))
    (q1 : Q (some (.inl (jb (0 ≤ i1 ∧ i1 ≤ (jX h (jP h a0 9) 0))))) h) :
    V MX9_isTime (d + 1) 0 [some (.inr a0), some (.inl i1)] [] h 0 0 Q := by
  refine V_iload_n (i := 1) dX9_isTime_0 rfl rfl ?_
  refine V_iconst dX9_isTime_1 ⟨by decide, by decide⟩ ?_
  refine V_aload_n (i := 0) dX9_isTime_2 rfl rfl ?_
  refine V_getP dX9_isTime_3 fX9_25 rfl s1 ?_
  refine V_iconst dX9_isTime_6 ⟨by decide, by decide⟩ ?_
  refine V_iald dX9_isTime_7 s2 (by decide) s3 ?_
  refine V_callS (M := MX9_isTime) (d := (d + 1)) (mc' := 0) (ms' := 0) (mc := 0) (ms := 0) (a := 0) (As := [.inl i1, .inl 0, .inl (jX h (jP h a0 9) 0)]) (rest := []) dX9_isTime_8 tX9_in sX9_in lX9_95 rfl rfl (Nat.le_of_ble_eq_true rfl) (show d + 1 ≤ (d + 1) by omega) (Ex.mono (pX9_in (d := d) ) ?_)
  intro v h2 hq
  rw [hq.1, hq.2]
  show V MX9_isTime (d + 1) 11 [some (.inr a0), some (.inl i1)] [.inl (jb (0 ≤ i1 ∧ i1 ≤ (jX h (jP h a0 9) 0)))] h 0 0 Q
  exact V_retz rfl dX9_isTime_11 (jb01 _) q1
theorem pX9_isTime {d : Nat} {z1 : Int} {r0 : Nat} {h : jH} (s0 : (jS h r0).1 = 9) (s1 : (jS h (jP h r0 9)).1 = 16) (s2 : (jS h (jP h r0 9)).2 = 209) : Ex MX9_isTime (d + 1) [.inr r0, .inl z1] h 0 0 (fun r h2 => r = some (.inl (jb (0 ≤ z1 ∧ z1 ≤ (jX h (jP h r0 9) 0)))) ∧ h2 = h) := by
  refine Ex_of_V tX9_isTime (Nat.le_of_ble_eq_true rfl) (bX9_isTime_0 r0 z1 h ?_ ?_ ?_ ?_)
  all_goals intros
  all_goals first
    | assumption
    | omega
    | (constructor <;> omega)
    | (refine ⟨?_, rfl⟩; rw [jb_t]; first | omega | (refine ⟨?_, ?_⟩ <;> omega) | (refine ⟨?_, ?_, ?_⟩ <;> first | assumption | omega) | (simp_all; done))
    | (refine ⟨?_, rfl⟩; rw [jb_f]; first | omega | (simp_all; done))
    | (simp_all; done)
theorem dX9_isKind_0 : decode cX9_isKind 0 = .ok (.iload_n 0, 1) := by decide +kernel
theorem dX9_isKind_1 : decode cX9_isKind 1 = .ok (.iconst 0, 1) := by decide +kernel
theorem dX9_isKind_2 : decode cX9_isKind 2 = .ok (.iconst 2, 1) := by decide +kernel
theorem dX9_isKind_3 : decode cX9_isKind 3 = .ok (.invokestatic 95, 3) := by decide +kernel
theorem dX9_isKind_6 : decode cX9_isKind 6 = .ok (.ireturn, 1) := by decide +kernel
theorem bX9_isKind_0 {d : Nat} {Q : Option jA → jH → Prop} (i0 : Int) (h : jH)
    (q1 : Q (some (.inl (jb (0 ≤ i0 ∧ i0 ≤ 2)))) h) :
    V MX9_isKind (d + 1) 0 [some (.inl i0)] [] h 0 0 Q := by
  refine V_iload_n (i := 0) dX9_isKind_0 rfl rfl ?_
  refine V_iconst dX9_isKind_1 ⟨by decide, by decide⟩ ?_
  refine V_iconst dX9_isKind_2 ⟨by decide, by decide⟩ ?_
  refine V_callS (M := MX9_isKind) (d := (d + 1)) (mc' := 0) (ms' := 0) (mc := 0) (ms := 0) (a := 0) (As := [.inl i0, .inl 0, .inl 2]) (rest := []) dX9_isKind_3 tX9_in sX9_in lX9_95 rfl rfl (Nat.le_of_ble_eq_true rfl) (show d + 1 ≤ (d + 1) by omega) (Ex.mono (pX9_in (d := d) ) ?_)
  intro v h2 hq
  rw [hq.1, hq.2]
  show V MX9_isKind (d + 1) 6 [some (.inl i0)] [.inl (jb (0 ≤ i0 ∧ i0 ≤ 2))] h 0 0 Q
  exact V_retz rfl dX9_isKind_6 (jb01 _) q1
theorem pX9_isKind {d : Nat} {z0 : Int} {h : jH}  : Ex MX9_isKind (d + 1) [.inl z0] h 0 0 (fun r h2 => r = some (.inl (jb (0 ≤ z0 ∧ z0 ≤ 2))) ∧ h2 = h) := by
  refine Ex_of_V tX9_isKind (Nat.le_of_ble_eq_true rfl) (bX9_isKind_0 z0 h ?_)
  all_goals intros
  all_goals first
    | assumption
    | omega
    | (constructor <;> omega)
    | (refine ⟨?_, rfl⟩; rw [jb_t]; first | omega | (refine ⟨?_, ?_⟩ <;> omega) | (refine ⟨?_, ?_, ?_⟩ <;> first | assumption | omega) | (simp_all; done))
    | (refine ⟨?_, rfl⟩; rw [jb_f]; first | omega | (simp_all; done))
    | (simp_all; done)
theorem dX9_isBlock_0 : decode cX9_isBlock 0 = .ok (.iload_n 1, 1) := by decide +kernel
theorem dX9_isBlock_1 : decode cX9_isBlock 1 = .ok (.iconst 0, 1) := by decide +kernel
theorem dX9_isBlock_2 : decode cX9_isBlock 2 = .ok (.aload_n 0, 1) := by decide +kernel
theorem dX9_isBlock_3 : decode cX9_isBlock 3 = .ok (.getfield 25, 3) := by decide +kernel
theorem dX9_isBlock_6 : decode cX9_isBlock 6 = .ok (.iconst 3, 1) := by decide +kernel
theorem dX9_isBlock_7 : decode cX9_isBlock 7 = .ok (.iaload, 1) := by decide +kernel
theorem dX9_isBlock_8 : decode cX9_isBlock 8 = .ok (.iconst 1, 1) := by decide +kernel
theorem dX9_isBlock_9 : decode cX9_isBlock 9 = .ok (.isub, 1) := by decide +kernel
theorem dX9_isBlock_10 : decode cX9_isBlock 10 = .ok (.invokestatic 95, 3) := by decide +kernel
theorem dX9_isBlock_13 : decode cX9_isBlock 13 = .ok (.ireturn, 1) := by decide +kernel
theorem bX9_isBlock_0 {d : Nat} {Q : Option jA → jH → Prop} (a0 : Nat) (i1 : Int) (h : jH)
    (s1 : (jS h a0).1 = 9)
    (s2 : (jS h (jP h a0 9)).1 = 16)
    (s3 : 3 < ((jS h (jP h a0 9)).2 : Int))
    (r1 : jR ((jX h (jP h a0 9) 3) - 1))
    (q1 : Q (some (.inl (jb (0 ≤ i1 ∧ i1 ≤ ((jX h (jP h a0 9) 3) - 1))))) h) :
    V MX9_isBlock (d + 1) 0 [some (.inr a0), some (.inl i1)] [] h 0 0 Q := by
  refine V_iload_n (i := 1) dX9_isBlock_0 rfl rfl ?_
  refine V_iconst dX9_isBlock_1 ⟨by decide, by decide⟩ ?_
  refine V_aload_n (i := 0) dX9_isBlock_2 rfl rfl ?_
  refine V_getP dX9_isBlock_3 fX9_25 rfl s1 ?_
  refine V_iconst dX9_isBlock_6 ⟨by decide, by decide⟩ ?_
  refine V_iald dX9_isBlock_7 s2 (by decide) s3 ?_
  refine V_iconst dX9_isBlock_8 ⟨by decide, by decide⟩ ?_
  refine V_isub dX9_isBlock_9 r1 ?_
  refine V_callS (M := MX9_isBlock) (d := (d + 1)) (mc' := 0) (ms' := 0) (mc := 0) (ms := 0) (a := 0) (As := [.inl i1, .inl 0, .inl ((jX h (jP h a0 9) 3) - 1)]) (rest := []) dX9_isBlock_10 tX9_in sX9_in lX9_95 rfl rfl (Nat.le_of_ble_eq_true rfl) (show d + 1 ≤ (d + 1) by omega) (Ex.mono (pX9_in (d := d) ) ?_)
  intro v h2 hq
  rw [hq.1, hq.2]
  show V MX9_isBlock (d + 1) 13 [some (.inr a0), some (.inl i1)] [.inl (jb (0 ≤ i1 ∧ i1 ≤ ((jX h (jP h a0 9) 3) - 1)))] h 0 0 Q
  exact V_retz rfl dX9_isBlock_13 (jb01 _) q1
theorem pX9_isBlock {d : Nat} {z1 : Int} {r0 : Nat} {h : jH} (s0 : (jS h r0).1 = 9) (s1 : (jS h (jP h r0 9)).1 = 16) (s2 : (jS h (jP h r0 9)).2 = 209) (s3 : 0 ≤ jX h (jP h r0 9) 3) (s4 : jX h (jP h r0 9) 3 ≤ 6) : Ex MX9_isBlock (d + 1) [.inr r0, .inl z1] h 0 0 (fun r h2 => r = some (.inl (jb (0 ≤ z1 ∧ z1 ≤ (jX h (jP h r0 9) 3) - 1))) ∧ h2 = h) := by
  refine Ex_of_V tX9_isBlock (Nat.le_of_ble_eq_true rfl) (bX9_isBlock_0 r0 z1 h ?_ ?_ ?_ ?_ ?_)
  all_goals intros
  all_goals first
    | assumption
    | omega
    | (constructor <;> omega)
    | (refine ⟨?_, rfl⟩; rw [jb_t]; first | omega | (refine ⟨?_, ?_⟩ <;> omega) | (refine ⟨?_, ?_, ?_⟩ <;> first | assumption | omega) | (simp_all; done))
    | (refine ⟨?_, rfl⟩; rw [jb_f]; first | omega | (simp_all; done))
    | (simp_all; done)
theorem dX9_isSign_0 : decode cX9_isSign 0 = .ok (.iload_n 0, 1) := by decide +kernel
theorem dX9_isSign_1 : decode cX9_isSign 1 = .ok (.bipush 91, 2) := by decide +kernel
theorem dX9_isSign_3 : decode cX9_isSign 3 = .ok (.if_icmp .eq 87, 3) := by decide +kernel
theorem dX9_isSign_6 : decode cX9_isSign 6 = .ok (.iload_n 0, 1) := by decide +kernel
theorem dX9_isSign_7 : decode cX9_isSign 7 = .ok (.bipush 93, 2) := by decide +kernel
theorem dX9_isSign_9 : decode cX9_isSign 9 = .ok (.if_icmp .eq 81, 3) := by decide +kernel
theorem dX9_isSign_12 : decode cX9_isSign 12 = .ok (.iload_n 0, 1) := by decide +kernel
theorem dX9_isSign_13 : decode cX9_isSign 13 = .ok (.bipush 58, 2) := by decide +kernel
theorem dX9_isSign_15 : decode cX9_isSign 15 = .ok (.if_icmp .eq 75, 3) := by decide +kernel
theorem dX9_isSign_18 : decode cX9_isSign 18 = .ok (.iload_n 0, 1) := by decide +kernel
theorem dX9_isSign_19 : decode cX9_isSign 19 = .ok (.bipush 64, 2) := by decide +kernel
theorem dX9_isSign_21 : decode cX9_isSign 21 = .ok (.if_icmp .eq 69, 3) := by decide +kernel
theorem dX9_isSign_24 : decode cX9_isSign 24 = .ok (.iload_n 0, 1) := by decide +kernel
theorem dX9_isSign_25 : decode cX9_isSign 25 = .ok (.bipush 61, 2) := by decide +kernel
theorem dX9_isSign_27 : decode cX9_isSign 27 = .ok (.if_icmp .eq 63, 3) := by decide +kernel
theorem dX9_isSign_30 : decode cX9_isSign 30 = .ok (.iload_n 0, 1) := by decide +kernel
theorem dX9_isSign_31 : decode cX9_isSign 31 = .ok (.bipush 46, 2) := by decide +kernel
theorem dX9_isSign_33 : decode cX9_isSign 33 = .ok (.if_icmp .eq 57, 3) := by decide +kernel
theorem dX9_isSign_36 : decode cX9_isSign 36 = .ok (.iload_n 0, 1) := by decide +kernel
theorem dX9_isSign_37 : decode cX9_isSign 37 = .ok (.bipush 38, 2) := by decide +kernel
theorem dX9_isSign_39 : decode cX9_isSign 39 = .ok (.if_icmp .eq 51, 3) := by decide +kernel
theorem dX9_isSign_42 : decode cX9_isSign 42 = .ok (.iload_n 0, 1) := by decide +kernel
theorem dX9_isSign_43 : decode cX9_isSign 43 = .ok (.bipush 124, 2) := by decide +kernel
theorem dX9_isSign_45 : decode cX9_isSign 45 = .ok (.if_icmp .eq 45, 3) := by decide +kernel
theorem dX9_isSign_48 : decode cX9_isSign 48 = .ok (.iload_n 0, 1) := by decide +kernel
theorem dX9_isSign_49 : decode cX9_isSign 49 = .ok (.bipush 94, 2) := by decide +kernel
theorem dX9_isSign_51 : decode cX9_isSign 51 = .ok (.if_icmp .eq 39, 3) := by decide +kernel
theorem dX9_isSign_54 : decode cX9_isSign 54 = .ok (.iload_n 0, 1) := by decide +kernel
theorem dX9_isSign_55 : decode cX9_isSign 55 = .ok (.bipush 43, 2) := by decide +kernel
theorem dX9_isSign_57 : decode cX9_isSign 57 = .ok (.if_icmp .eq 33, 3) := by decide +kernel
theorem dX9_isSign_60 : decode cX9_isSign 60 = .ok (.iload_n 0, 1) := by decide +kernel
theorem dX9_isSign_61 : decode cX9_isSign 61 = .ok (.bipush 45, 2) := by decide +kernel
theorem dX9_isSign_63 : decode cX9_isSign 63 = .ok (.if_icmp .eq 27, 3) := by decide +kernel
theorem dX9_isSign_66 : decode cX9_isSign 66 = .ok (.iload_n 0, 1) := by decide +kernel
theorem dX9_isSign_67 : decode cX9_isSign 67 = .ok (.bipush 33, 2) := by decide +kernel
theorem dX9_isSign_69 : decode cX9_isSign 69 = .ok (.if_icmp .eq 21, 3) := by decide +kernel
theorem dX9_isSign_72 : decode cX9_isSign 72 = .ok (.iload_n 0, 1) := by decide +kernel
theorem dX9_isSign_73 : decode cX9_isSign 73 = .ok (.bipush 40, 2) := by decide +kernel
theorem dX9_isSign_75 : decode cX9_isSign 75 = .ok (.if_icmp .eq 15, 3) := by decide +kernel
theorem dX9_isSign_78 : decode cX9_isSign 78 = .ok (.iload_n 0, 1) := by decide +kernel
theorem dX9_isSign_79 : decode cX9_isSign 79 = .ok (.bipush 41, 2) := by decide +kernel
theorem dX9_isSign_81 : decode cX9_isSign 81 = .ok (.if_icmp .eq 9, 3) := by decide +kernel
theorem dX9_isSign_84 : decode cX9_isSign 84 = .ok (.iload_n 0, 1) := by decide +kernel
theorem dX9_isSign_85 : decode cX9_isSign 85 = .ok (.bipush 59, 2) := by decide +kernel
theorem dX9_isSign_87 : decode cX9_isSign 87 = .ok (.if_icmp .ne 7, 3) := by decide +kernel
theorem dX9_isSign_90 : decode cX9_isSign 90 = .ok (.iconst 1, 1) := by decide +kernel
theorem dX9_isSign_91 : decode cX9_isSign 91 = .ok (.goto 4, 3) := by decide +kernel
theorem dX9_isSign_94 : decode cX9_isSign 94 = .ok (.iconst 0, 1) := by decide +kernel
theorem dX9_isSign_95 : decode cX9_isSign 95 = .ok (.ireturn, 1) := by decide +kernel
theorem bX9_isSign_0 {d : Nat} {Q : Option jA → jH → Prop} (i0 : Int) (h : jH)
    (q1 : (i0 = 91) → Q (some (.inl 1)) h)
    (q2 : (¬ (i0 = 91)) → (i0 = 93) → Q (some (.inl 1)) h)
    (q3 : (¬ (i0 = 91)) → (¬ (i0 = 93)) → (i0 = 58) → Q (some (.inl 1)) h)
    (q4 : (¬ (i0 = 91)) → (¬ (i0 = 93)) → (¬ (i0 = 58)) → (i0 = 64) → Q (some (.inl 1)) h)
    (q5 : (¬ (i0 = 91)) → (¬ (i0 = 93)) → (¬ (i0 = 58)) → (¬ (i0 = 64)) → (i0 = 61) → Q (some (.inl 1)) h)
    (q6 : (¬ (i0 = 91)) → (¬ (i0 = 93)) → (¬ (i0 = 58)) → (¬ (i0 = 64)) → (¬ (i0 = 61)) → (i0 = 46) → Q (some (.inl 1)) h)
    (q7 : (¬ (i0 = 91)) → (¬ (i0 = 93)) → (¬ (i0 = 58)) → (¬ (i0 = 64)) → (¬ (i0 = 61)) → (¬ (i0 = 46)) → (i0 = 38) → Q (some (.inl 1)) h)
    (q8 : (¬ (i0 = 91)) → (¬ (i0 = 93)) → (¬ (i0 = 58)) → (¬ (i0 = 64)) → (¬ (i0 = 61)) → (¬ (i0 = 46)) → (¬ (i0 = 38)) → (i0 = 124) → Q (some (.inl 1)) h)
    (q9 : (¬ (i0 = 91)) → (¬ (i0 = 93)) → (¬ (i0 = 58)) → (¬ (i0 = 64)) → (¬ (i0 = 61)) → (¬ (i0 = 46)) → (¬ (i0 = 38)) → (¬ (i0 = 124)) → (i0 = 94) → Q (some (.inl 1)) h)
    (q10 : (¬ (i0 = 91)) → (¬ (i0 = 93)) → (¬ (i0 = 58)) → (¬ (i0 = 64)) → (¬ (i0 = 61)) → (¬ (i0 = 46)) → (¬ (i0 = 38)) → (¬ (i0 = 124)) → (¬ (i0 = 94)) → (i0 = 43) → Q (some (.inl 1)) h)
    (q11 : (¬ (i0 = 91)) → (¬ (i0 = 93)) → (¬ (i0 = 58)) → (¬ (i0 = 64)) → (¬ (i0 = 61)) → (¬ (i0 = 46)) → (¬ (i0 = 38)) → (¬ (i0 = 124)) → (¬ (i0 = 94)) → (¬ (i0 = 43)) → (i0 = 45) → Q (some (.inl 1)) h)
    (q12 : (¬ (i0 = 91)) → (¬ (i0 = 93)) → (¬ (i0 = 58)) → (¬ (i0 = 64)) → (¬ (i0 = 61)) → (¬ (i0 = 46)) → (¬ (i0 = 38)) → (¬ (i0 = 124)) → (¬ (i0 = 94)) → (¬ (i0 = 43)) → (¬ (i0 = 45)) → (i0 = 33) → Q (some (.inl 1)) h)
    (q13 : (¬ (i0 = 91)) → (¬ (i0 = 93)) → (¬ (i0 = 58)) → (¬ (i0 = 64)) → (¬ (i0 = 61)) → (¬ (i0 = 46)) → (¬ (i0 = 38)) → (¬ (i0 = 124)) → (¬ (i0 = 94)) → (¬ (i0 = 43)) → (¬ (i0 = 45)) → (¬ (i0 = 33)) → (i0 = 40) → Q (some (.inl 1)) h)
    (q14 : (¬ (i0 = 91)) → (¬ (i0 = 93)) → (¬ (i0 = 58)) → (¬ (i0 = 64)) → (¬ (i0 = 61)) → (¬ (i0 = 46)) → (¬ (i0 = 38)) → (¬ (i0 = 124)) → (¬ (i0 = 94)) → (¬ (i0 = 43)) → (¬ (i0 = 45)) → (¬ (i0 = 33)) → (¬ (i0 = 40)) → (i0 = 41) → Q (some (.inl 1)) h)
    (q15 : (¬ (i0 = 91)) → (¬ (i0 = 93)) → (¬ (i0 = 58)) → (¬ (i0 = 64)) → (¬ (i0 = 61)) → (¬ (i0 = 46)) → (¬ (i0 = 38)) → (¬ (i0 = 124)) → (¬ (i0 = 94)) → (¬ (i0 = 43)) → (¬ (i0 = 45)) → (¬ (i0 = 33)) → (¬ (i0 = 40)) → (¬ (i0 = 41)) → (i0 ≠ 59) → Q (some (.inl 0)) h)
    (q16 : (¬ (i0 = 91)) → (¬ (i0 = 93)) → (¬ (i0 = 58)) → (¬ (i0 = 64)) → (¬ (i0 = 61)) → (¬ (i0 = 46)) → (¬ (i0 = 38)) → (¬ (i0 = 124)) → (¬ (i0 = 94)) → (¬ (i0 = 43)) → (¬ (i0 = 45)) → (¬ (i0 = 33)) → (¬ (i0 = 40)) → (¬ (i0 = 41)) → (i0 = 59) → Q (some (.inl 1)) h) :
    V MX9_isSign d 0 [some (.inl i0)] [] h 0 0 Q := by
  refine V_iload_n (i := 0) dX9_isSign_0 rfl rfl ?_
  refine V_bipush dX9_isSign_1 (by decide +kernel) ⟨by decide, by decide⟩ ?_
  refine V_icmp_eq (tgt := 90) dX9_isSign_3 (by decide) (fun c1 => ?_) (fun c1 => ?_)
  · refine V_iconst dX9_isSign_90 ⟨by decide, by decide⟩ ?_
    refine V_goto (tgt := 95) dX9_isSign_91 (by decide) ?_
    exact V_retz rfl dX9_isSign_95 (by decide) (q1 c1)
  · refine V_iload_n (i := 0) dX9_isSign_6 rfl rfl ?_
    refine V_bipush dX9_isSign_7 (by decide +kernel) ⟨by decide, by decide⟩ ?_
    refine V_icmp_eq (tgt := 90) dX9_isSign_9 (by decide) (fun c2 => ?_) (fun c2 => ?_)
    · refine V_iconst dX9_isSign_90 ⟨by decide, by decide⟩ ?_
      refine V_goto (tgt := 95) dX9_isSign_91 (by decide) ?_
      exact V_retz rfl dX9_isSign_95 (by decide) (q2 c1 c2)
    · refine V_iload_n (i := 0) dX9_isSign_12 rfl rfl ?_
      refine V_bipush dX9_isSign_13 (by decide +kernel) ⟨by decide, by decide⟩ ?_
      refine V_icmp_eq (tgt := 90) dX9_isSign_15 (by decide) (fun c3 => ?_) (fun c3 => ?_)
      · refine V_iconst dX9_isSign_90 ⟨by decide, by decide⟩ ?_
        refine V_goto (tgt := 95) dX9_isSign_91 (by decide) ?_
        exact V_retz rfl dX9_isSign_95 (by decide) (q3 c1 c2 c3)
      · refine V_iload_n (i := 0) dX9_isSign_18 rfl rfl ?_
        refine V_bipush dX9_isSign_19 (by decide +kernel) ⟨by decide, by decide⟩ ?_
        refine V_icmp_eq (tgt := 90) dX9_isSign_21 (by decide) (fun c4 => ?_) (fun c4 => ?_)
        · refine V_iconst dX9_isSign_90 ⟨by decide, by decide⟩ ?_
          refine V_goto (tgt := 95) dX9_isSign_91 (by decide) ?_
          exact V_retz rfl dX9_isSign_95 (by decide) (q4 c1 c2 c3 c4)
        · refine V_iload_n (i := 0) dX9_isSign_24 rfl rfl ?_
          refine V_bipush dX9_isSign_25 (by decide +kernel) ⟨by decide, by decide⟩ ?_
          refine V_icmp_eq (tgt := 90) dX9_isSign_27 (by decide) (fun c5 => ?_) (fun c5 => ?_)
          · refine V_iconst dX9_isSign_90 ⟨by decide, by decide⟩ ?_
            refine V_goto (tgt := 95) dX9_isSign_91 (by decide) ?_
            exact V_retz rfl dX9_isSign_95 (by decide) (q5 c1 c2 c3 c4 c5)
          · refine V_iload_n (i := 0) dX9_isSign_30 rfl rfl ?_
            refine V_bipush dX9_isSign_31 (by decide +kernel) ⟨by decide, by decide⟩ ?_
            refine V_icmp_eq (tgt := 90) dX9_isSign_33 (by decide) (fun c6 => ?_) (fun c6 => ?_)
            · refine V_iconst dX9_isSign_90 ⟨by decide, by decide⟩ ?_
              refine V_goto (tgt := 95) dX9_isSign_91 (by decide) ?_
              exact V_retz rfl dX9_isSign_95 (by decide) (q6 c1 c2 c3 c4 c5 c6)
            · refine V_iload_n (i := 0) dX9_isSign_36 rfl rfl ?_
              refine V_bipush dX9_isSign_37 (by decide +kernel) ⟨by decide, by decide⟩ ?_
              refine V_icmp_eq (tgt := 90) dX9_isSign_39 (by decide) (fun c7 => ?_) (fun c7 => ?_)
              · refine V_iconst dX9_isSign_90 ⟨by decide, by decide⟩ ?_
                refine V_goto (tgt := 95) dX9_isSign_91 (by decide) ?_
                exact V_retz rfl dX9_isSign_95 (by decide) (q7 c1 c2 c3 c4 c5 c6 c7)
              · refine V_iload_n (i := 0) dX9_isSign_42 rfl rfl ?_
                refine V_bipush dX9_isSign_43 (by decide +kernel) ⟨by decide, by decide⟩ ?_
                refine V_icmp_eq (tgt := 90) dX9_isSign_45 (by decide) (fun c8 => ?_) (fun c8 => ?_)
                · refine V_iconst dX9_isSign_90 ⟨by decide, by decide⟩ ?_
                  refine V_goto (tgt := 95) dX9_isSign_91 (by decide) ?_
                  exact V_retz rfl dX9_isSign_95 (by decide) (q8 c1 c2 c3 c4 c5 c6 c7 c8)
                · refine V_iload_n (i := 0) dX9_isSign_48 rfl rfl ?_
                  refine V_bipush dX9_isSign_49 (by decide +kernel) ⟨by decide, by decide⟩ ?_
                  refine V_icmp_eq (tgt := 90) dX9_isSign_51 (by decide) (fun c9 => ?_) (fun c9 => ?_)
                  · refine V_iconst dX9_isSign_90 ⟨by decide, by decide⟩ ?_
                    refine V_goto (tgt := 95) dX9_isSign_91 (by decide) ?_
                    exact V_retz rfl dX9_isSign_95 (by decide) (q9 c1 c2 c3 c4 c5 c6 c7 c8 c9)
                  · refine V_iload_n (i := 0) dX9_isSign_54 rfl rfl ?_
                    refine V_bipush dX9_isSign_55 (by decide +kernel) ⟨by decide, by decide⟩ ?_
                    refine V_icmp_eq (tgt := 90) dX9_isSign_57 (by decide) (fun c10 => ?_) (fun c10 => ?_)
                    · refine V_iconst dX9_isSign_90 ⟨by decide, by decide⟩ ?_
                      refine V_goto (tgt := 95) dX9_isSign_91 (by decide) ?_
                      exact V_retz rfl dX9_isSign_95 (by decide) (q10 c1 c2 c3 c4 c5 c6 c7 c8 c9 c10)
                    · refine V_iload_n (i := 0) dX9_isSign_60 rfl rfl ?_
                      refine V_bipush dX9_isSign_61 (by decide +kernel) ⟨by decide, by decide⟩ ?_
                      refine V_icmp_eq (tgt := 90) dX9_isSign_63 (by decide) (fun c11 => ?_) (fun c11 => ?_)
                      · refine V_iconst dX9_isSign_90 ⟨by decide, by decide⟩ ?_
                        refine V_goto (tgt := 95) dX9_isSign_91 (by decide) ?_
                        exact V_retz rfl dX9_isSign_95 (by decide) (q11 c1 c2 c3 c4 c5 c6 c7 c8 c9 c10 c11)
                      · refine V_iload_n (i := 0) dX9_isSign_66 rfl rfl ?_
                        refine V_bipush dX9_isSign_67 (by decide +kernel) ⟨by decide, by decide⟩ ?_
                        refine V_icmp_eq (tgt := 90) dX9_isSign_69 (by decide) (fun c12 => ?_) (fun c12 => ?_)
                        · refine V_iconst dX9_isSign_90 ⟨by decide, by decide⟩ ?_
                          refine V_goto (tgt := 95) dX9_isSign_91 (by decide) ?_
                          exact V_retz rfl dX9_isSign_95 (by decide) (q12 c1 c2 c3 c4 c5 c6 c7 c8 c9 c10 c11 c12)
                        · refine V_iload_n (i := 0) dX9_isSign_72 rfl rfl ?_
                          refine V_bipush dX9_isSign_73 (by decide +kernel) ⟨by decide, by decide⟩ ?_
                          refine V_icmp_eq (tgt := 90) dX9_isSign_75 (by decide) (fun c13 => ?_) (fun c13 => ?_)
                          · refine V_iconst dX9_isSign_90 ⟨by decide, by decide⟩ ?_
                            refine V_goto (tgt := 95) dX9_isSign_91 (by decide) ?_
                            exact V_retz rfl dX9_isSign_95 (by decide) (q13 c1 c2 c3 c4 c5 c6 c7 c8 c9 c10 c11 c12 c13)
                          · refine V_iload_n (i := 0) dX9_isSign_78 rfl rfl ?_
                            refine V_bipush dX9_isSign_79 (by decide +kernel) ⟨by decide, by decide⟩ ?_
                            refine V_icmp_eq (tgt := 90) dX9_isSign_81 (by decide) (fun c14 => ?_) (fun c14 => ?_)
                            · refine V_iconst dX9_isSign_90 ⟨by decide, by decide⟩ ?_
                              refine V_goto (tgt := 95) dX9_isSign_91 (by decide) ?_
                              exact V_retz rfl dX9_isSign_95 (by decide) (q14 c1 c2 c3 c4 c5 c6 c7 c8 c9 c10 c11 c12 c13 c14)
                            · refine V_iload_n (i := 0) dX9_isSign_84 rfl rfl ?_
                              refine V_bipush dX9_isSign_85 (by decide +kernel) ⟨by decide, by decide⟩ ?_
                              refine V_icmp_ne (tgt := 94) dX9_isSign_87 (by decide) (fun c15 => ?_) (fun c15 => ?_)
                              · refine V_iconst dX9_isSign_94 ⟨by decide, by decide⟩ ?_
                                exact V_retz rfl dX9_isSign_95 (by decide) (q15 c1 c2 c3 c4 c5 c6 c7 c8 c9 c10 c11 c12 c13 c14 c15)
                              · refine V_iconst dX9_isSign_90 ⟨by decide, by decide⟩ ?_
                                refine V_goto (tgt := 95) dX9_isSign_91 (by decide) ?_
                                exact V_retz rfl dX9_isSign_95 (by decide) (q16 c1 c2 c3 c4 c5 c6 c7 c8 c9 c10 c11 c12 c13 c14 c15)
theorem pX9_isSign {d : Nat} {z0 : Int} {h : jH}  : Ex MX9_isSign d [.inl z0] h 0 0 (fun r h2 => r = some (.inl (jb (z0 = 91 ∨ z0 = 93 ∨ z0 = 58 ∨ z0 = 64 ∨ z0 = 61 ∨ z0 = 46 ∨ z0 = 38 ∨ z0 = 124 ∨ z0 = 94 ∨ z0 = 43 ∨ z0 = 45 ∨ z0 = 33 ∨ z0 = 40 ∨ z0 = 41 ∨ z0 = 59))) ∧ h2 = h) := by
  refine Ex_of_V tX9_isSign (Nat.le_of_ble_eq_true rfl) (bX9_isSign_0 z0 h ?_ ?_ ?_ ?_ ?_ ?_ ?_ ?_ ?_ ?_ ?_ ?_ ?_ ?_ ?_ ?_)
  all_goals intros
  all_goals first
    | assumption
    | omega
    | (constructor <;> omega)
    | (refine ⟨?_, rfl⟩; rw [jb_t]; first | omega | (refine ⟨?_, ?_⟩ <;> omega) | (refine ⟨?_, ?_, ?_⟩ <;> first | assumption | omega) | (simp_all; done))
    | (refine ⟨?_, rfl⟩; rw [jb_f]; first | omega | (simp_all; done))
    | (simp_all; done)
theorem dX9_is_0 : decode cX9_is 0 = .ok (.aload_n 0, 1) := by decide +kernel
theorem dX9_is_1 : decode cX9_is 1 = .ok (.getfield 109, 3) := by decide +kernel
theorem dX9_is_4 : decode cX9_is 4 = .ok (.iconst 3, 1) := by decide +kernel
theorem dX9_is_5 : decode cX9_is 5 = .ok (.if_icmp .ne 15, 3) := by decide +kernel
theorem dX9_is_8 : decode cX9_is 8 = .ok (.aload_n 0, 1) := by decide +kernel
theorem dX9_is_9 : decode cX9_is 9 = .ok (.getfield 116, 3) := by decide +kernel
theorem dX9_is_12 : decode cX9_is 12 = .ok (.iload_n 1, 1) := by decide +kernel
theorem dX9_is_13 : decode cX9_is 13 = .ok (.if_icmp .ne 7, 3) := by decide +kernel
theorem dX9_is_16 : decode cX9_is 16 = .ok (.iconst 1, 1) := by decide +kernel
theorem dX9_is_17 : decode cX9_is 17 = .ok (.goto 4, 3) := by decide +kernel
theorem dX9_is_20 : decode cX9_is 20 = .ok (.iconst 0, 1) := by decide +kernel
theorem dX9_is_21 : decode cX9_is 21 = .ok (.ireturn, 1) := by decide +kernel
theorem bX9_is_0 {d : Nat} {Q : Option jA → jH → Prop} (a0 : Nat) (i1 : Int) (h : jH)
    (s1 : (jS h a0).1 = 9)
    (q1 : ((jI h a0 18) ≠ 3) → Q (some (.inl 0)) h)
    (q2 : ((jI h a0 18) = 3) → ((jI h a0 19) ≠ i1) → Q (some (.inl 0)) h)
    (q3 : ((jI h a0 18) = 3) → ((jI h a0 19) = i1) → Q (some (.inl 1)) h) :
    V MX9_is d 0 [some (.inr a0), some (.inl i1)] [] h 0 0 Q := by
  refine V_aload_n (i := 0) dX9_is_0 rfl rfl ?_
  refine V_getI dX9_is_1 fX9_109 rfl s1 ?_
  refine V_iconst dX9_is_4 ⟨by decide, by decide⟩ ?_
  refine V_icmp_ne (tgt := 20) dX9_is_5 (by decide) (fun c1 => ?_) (fun c1 => ?_)
  · refine V_iconst dX9_is_20 ⟨by decide, by decide⟩ ?_
    exact V_retz rfl dX9_is_21 (by decide) (q1 c1)
  · refine V_aload_n (i := 0) dX9_is_8 rfl rfl ?_
    refine V_getI dX9_is_9 fX9_116 rfl s1 ?_
    refine V_iload_n (i := 1) dX9_is_12 rfl rfl ?_
    refine V_icmp_ne (tgt := 20) dX9_is_13 (by decide) (fun c2 => ?_) (fun c2 => ?_)
    · refine V_iconst dX9_is_20 ⟨by decide, by decide⟩ ?_
      exact V_retz rfl dX9_is_21 (by decide) (q2 c1 c2)
    · refine V_iconst dX9_is_16 ⟨by decide, by decide⟩ ?_
      refine V_goto (tgt := 21) dX9_is_17 (by decide) ?_
      exact V_retz rfl dX9_is_21 (by decide) (q3 c1 c2)
theorem pX9_is {d : Nat} {z1 : Int} {r0 : Nat} {h : jH} (s0 : (jS h r0).1 = 9) : Ex MX9_is d [.inr r0, .inl z1] h 0 0 (fun r h2 => r = some (.inl (jb ((jI h r0 18) = 3 ∧ (jI h r0 19) = z1))) ∧ h2 = h) := by
  refine Ex_of_V tX9_is (Nat.le_of_ble_eq_true rfl) (bX9_is_0 r0 z1 h ?_ ?_ ?_ ?_)
  all_goals intros
  all_goals first
    | assumption
    | omega
    | (constructor <;> omega)
    | (refine ⟨?_, rfl⟩; rw [jb_t]; first | omega | (refine ⟨?_, ?_⟩ <;> omega) | (refine ⟨?_, ?_, ?_⟩ <;> first | assumption | omega) | (simp_all; done))
    | (refine ⟨?_, rfl⟩; rw [jb_f]; first | omega | (simp_all; done))
    | (simp_all; done)
theorem dX9_isBetween_0 : decode cX9_isBetween 0 = .ok (.aload_n 0, 1) := by decide +kernel
theorem dX9_isBetween_1 : decode cX9_isBetween 1 = .ok (.bipush 38, 2) := by decide +kernel
theorem dX9_isBetween_3 : decode cX9_isBetween 3 = .ok (.invokevirtual 154, 3) := by decide +kernel
theorem dX9_isBetween_6 : decode cX9_isBetween 6 = .ok (.ifCond .ne 39, 3) := by decide +kernel
theorem dX9_isBetween_9 : decode cX9_isBetween 9 = .ok (.aload_n 0, 1) := by decide +kernel
theorem dX9_isBetween_10 : decode cX9_isBetween 10 = .ok (.bipush 124, 2) := by decide +kernel
theorem dX9_isBetween_12 : decode cX9_isBetween 12 = .ok (.invokevirtual 154, 3) := by decide +kernel
theorem dX9_isBetween_15 : decode cX9_isBetween 15 = .ok (.ifCond .ne 30, 3) := by decide +kernel
theorem dX9_isBetween_18 : decode cX9_isBetween 18 = .ok (.aload_n 0, 1) := by decide +kernel
theorem dX9_isBetween_19 : decode cX9_isBetween 19 = .ok (.bipush 94, 2) := by decide +kernel
theorem dX9_isBetween_21 : decode cX9_isBetween 21 = .ok (.invokevirtual 154, 3) := by decide +kernel
theorem dX9_isBetween_24 : decode cX9_isBetween 24 = .ok (.ifCond .ne 21, 3) := by decide +kernel
theorem dX9_isBetween_27 : decode cX9_isBetween 27 = .ok (.aload_n 0, 1) := by decide +kernel
theorem dX9_isBetween_28 : decode cX9_isBetween 28 = .ok (.bipush 43, 2) := by decide +kernel
theorem dX9_isBetween_30 : decode cX9_isBetween 30 = .ok (.invokevirtual 154, 3) := by decide +kernel
theorem dX9_isBetween_33 : decode cX9_isBetween 33 = .ok (.ifCond .ne 12, 3) := by decide +kernel
theorem dX9_isBetween_36 : decode cX9_isBetween 36 = .ok (.aload_n 0, 1) := by decide +kernel
theorem dX9_isBetween_37 : decode cX9_isBetween 37 = .ok (.bipush 45, 2) := by decide +kernel
theorem dX9_isBetween_39 : decode cX9_isBetween 39 = .ok (.invokevirtual 154, 3) := by decide +kernel
theorem dX9_isBetween_42 : decode cX9_isBetween 42 = .ok (.ifCond .eq 7, 3) := by decide +kernel
theorem dX9_isBetween_45 : decode cX9_isBetween 45 = .ok (.iconst 1, 1) := by decide +kernel
theorem dX9_isBetween_46 : decode cX9_isBetween 46 = .ok (.goto 4, 3) := by decide +kernel
theorem dX9_isBetween_49 : decode cX9_isBetween 49 = .ok (.iconst 0, 1) := by decide +kernel
theorem dX9_isBetween_50 : decode cX9_isBetween 50 = .ok (.ireturn, 1) := by decide +kernel
theorem bX9_isBetween_0 {d : Nat} {Q : Option jA → jH → Prop} (a0 : Nat) (h : jH)
    (s1 : (jS h a0).1 = 9)
    (q1 : ((jI h a0 18) = 3 ∧ (jI h a0 19) = 38) → Q (some (.inl 1)) h)
    (q2 : (¬ ((jI h a0 18) = 3 ∧ (jI h a0 19) = 38)) → ((jI h a0 18) = 3 ∧ (jI h a0 19) = 124) → Q (some (.inl 1)) h)
    (q3 : (¬ ((jI h a0 18) = 3 ∧ (jI h a0 19) = 38)) → (¬ ((jI h a0 18) = 3 ∧ (jI h a0 19) = 124)) → ((jI h a0 18) = 3 ∧ (jI h a0 19) = 94) → Q (some (.inl 1)) h)
    (q4 : (¬ ((jI h a0 18) = 3 ∧ (jI h a0 19) = 38)) → (¬ ((jI h a0 18) = 3 ∧ (jI h a0 19) = 124)) → (¬ ((jI h a0 18) = 3 ∧ (jI h a0 19) = 94)) → ((jI h a0 18) = 3 ∧ (jI h a0 19) = 43) → Q (some (.inl 1)) h)
    (q5 : (¬ ((jI h a0 18) = 3 ∧ (jI h a0 19) = 38)) → (¬ ((jI h a0 18) = 3 ∧ (jI h a0 19) = 124)) → (¬ ((jI h a0 18) = 3 ∧ (jI h a0 19) = 94)) → (¬ ((jI h a0 18) = 3 ∧ (jI h a0 19) = 43)) → (¬ ((jI h a0 18) = 3 ∧ (jI h a0 19) = 45)) → Q (some (.inl 0)) h)
    (q6 : (¬ ((jI h a0 18) = 3 ∧ (jI h a0 19) = 38)) → (¬ ((jI h a0 18) = 3 ∧ (jI h a0 19) = 124)) → (¬ ((jI h a0 18) = 3 ∧ (jI h a0 19) = 94)) → (¬ ((jI h a0 18) = 3 ∧ (jI h a0 19) = 43)) → ((jI h a0 18) = 3 ∧ (jI h a0 19) = 45) → Q (some (.inl 1)) h) :
    V MX9_isBetween (d + 1) 0 [some (.inr a0)] [] h 0 0 Q := by
  refine V_aload_n (i := 0) dX9_isBetween_0 rfl rfl ?_
  refine V_bipush dX9_isBetween_1 (by decide +kernel) ⟨by decide, by decide⟩ ?_
  refine V_callV (M := MX9_isBetween) (d := (d + 1)) (mc' := 0) (ms' := 0) (mc := 0) (ms := 0) (As := [.inl 38]) (rest := []) dX9_isBetween_3 tX9_is vX9_is lX9_154 s1 ⟨by decide, rfl⟩ rfl rfl (Nat.le_of_ble_eq_true rfl) (show d + 1 ≤ (d + 1) by omega) (Ex.mono (pX9_is (d := d) s1) ?_)
  intro v h2 hq
  rw [hq.1, hq.2]
  show V MX9_isBetween (d + 1) 6 [some (.inr a0)] [.inl (jb ((jI h a0 18) = 3 ∧ (jI h a0 19) = 38))] h 0 0 Q
  refine V_ifb_ne (tgt := 45) dX9_isBetween_6 (by decide) (fun c1 => ?_) (fun c1 => ?_)
  · refine V_iconst dX9_isBetween_45 ⟨by decide, by decide⟩ ?_
    refine V_goto (tgt := 50) dX9_isBetween_46 (by decide) ?_
    exact V_retz rfl dX9_isBetween_50 (by decide) (q1 c1)
  · refine V_aload_n (i := 0) dX9_isBetween_9 rfl rfl ?_
    refine V_bipush dX9_isBetween_10 (by decide +kernel) ⟨by decide, by decide⟩ ?_
    refine V_callV (M := MX9_isBetween) (d := (d + 1)) (mc' := 0) (ms' := 0) (mc := 0) (ms := 0) (As := [.inl 124]) (rest := []) dX9_isBetween_12 tX9_is vX9_is lX9_154 s1 ⟨by decide, rfl⟩ rfl rfl (Nat.le_of_ble_eq_true rfl) (show d + 1 ≤ (d + 1) by omega) (Ex.mono (pX9_is (d := d) s1) ?_)
    intro v h2 hq
    rw [hq.1, hq.2]
    show V MX9_isBetween (d + 1) 15 [some (.inr a0)] [.inl (jb ((jI h a0 18) = 3 ∧ (jI h a0 19) = 124))] h 0 0 Q
    refine V_ifb_ne (tgt := 45) dX9_isBetween_15 (by decide) (fun c2 => ?_) (fun c2 => ?_)
    · refine V_iconst dX9_isBetween_45 ⟨by decide, by decide⟩ ?_
      refine V_goto (tgt := 50) dX9_isBetween_46 (by decide) ?_
      exact V_retz rfl dX9_isBetween_50 (by decide) (q2 c1 c2)
    · refine V_aload_n (i := 0) dX9_isBetween_18 rfl rfl ?_
      refine V_bipush dX9_isBetween_19 (by decide +kernel) ⟨by decide, by decide⟩ ?_
      refine V_callV (M := MX9_isBetween) (d := (d + 1)) (mc' := 0) (ms' := 0) (mc := 0) (ms := 0) (As := [.inl 94]) (rest := []) dX9_isBetween_21 tX9_is vX9_is lX9_154 s1 ⟨by decide, rfl⟩ rfl rfl (Nat.le_of_ble_eq_true rfl) (show d + 1 ≤ (d + 1) by omega) (Ex.mono (pX9_is (d := d) s1) ?_)
      intro v h2 hq
      rw [hq.1, hq.2]
      show V MX9_isBetween (d + 1) 24 [some (.inr a0)] [.inl (jb ((jI h a0 18) = 3 ∧ (jI h a0 19) = 94))] h 0 0 Q
      refine V_ifb_ne (tgt := 45) dX9_isBetween_24 (by decide) (fun c3 => ?_) (fun c3 => ?_)
      · refine V_iconst dX9_isBetween_45 ⟨by decide, by decide⟩ ?_
        refine V_goto (tgt := 50) dX9_isBetween_46 (by decide) ?_
        exact V_retz rfl dX9_isBetween_50 (by decide) (q3 c1 c2 c3)
      · refine V_aload_n (i := 0) dX9_isBetween_27 rfl rfl ?_
        refine V_bipush dX9_isBetween_28 (by decide +kernel) ⟨by decide, by decide⟩ ?_
        refine V_callV (M := MX9_isBetween) (d := (d + 1)) (mc' := 0) (ms' := 0) (mc := 0) (ms := 0) (As := [.inl 43]) (rest := []) dX9_isBetween_30 tX9_is vX9_is lX9_154 s1 ⟨by decide, rfl⟩ rfl rfl (Nat.le_of_ble_eq_true rfl) (show d + 1 ≤ (d + 1) by omega) (Ex.mono (pX9_is (d := d) s1) ?_)
        intro v h2 hq
        rw [hq.1, hq.2]
        show V MX9_isBetween (d + 1) 33 [some (.inr a0)] [.inl (jb ((jI h a0 18) = 3 ∧ (jI h a0 19) = 43))] h 0 0 Q
        refine V_ifb_ne (tgt := 45) dX9_isBetween_33 (by decide) (fun c4 => ?_) (fun c4 => ?_)
        · refine V_iconst dX9_isBetween_45 ⟨by decide, by decide⟩ ?_
          refine V_goto (tgt := 50) dX9_isBetween_46 (by decide) ?_
          exact V_retz rfl dX9_isBetween_50 (by decide) (q4 c1 c2 c3 c4)
        · refine V_aload_n (i := 0) dX9_isBetween_36 rfl rfl ?_
          refine V_bipush dX9_isBetween_37 (by decide +kernel) ⟨by decide, by decide⟩ ?_
          refine V_callV (M := MX9_isBetween) (d := (d + 1)) (mc' := 0) (ms' := 0) (mc := 0) (ms := 0) (As := [.inl 45]) (rest := []) dX9_isBetween_39 tX9_is vX9_is lX9_154 s1 ⟨by decide, rfl⟩ rfl rfl (Nat.le_of_ble_eq_true rfl) (show d + 1 ≤ (d + 1) by omega) (Ex.mono (pX9_is (d := d) s1) ?_)
          intro v h2 hq
          rw [hq.1, hq.2]
          show V MX9_isBetween (d + 1) 42 [some (.inr a0)] [.inl (jb ((jI h a0 18) = 3 ∧ (jI h a0 19) = 45))] h 0 0 Q
          refine V_ifb_eq (tgt := 49) dX9_isBetween_42 (by decide) (fun c5 => ?_) (fun c5 => ?_)
          · refine V_iconst dX9_isBetween_49 ⟨by decide, by decide⟩ ?_
            exact V_retz rfl dX9_isBetween_50 (by decide) (q5 c1 c2 c3 c4 c5)
          · refine V_iconst dX9_isBetween_45 ⟨by decide, by decide⟩ ?_
            refine V_goto (tgt := 50) dX9_isBetween_46 (by decide) ?_
            exact V_retz rfl dX9_isBetween_50 (by decide) (q6 c1 c2 c3 c4 c5)
theorem pX9_isBetween {d : Nat} {r0 : Nat} {h : jH} (s0 : (jS h r0).1 = 9) : Ex MX9_isBetween (d + 1) [.inr r0] h 0 0 (fun r h2 => r = some (.inl (jb ((jI h r0 18) = 3 ∧ ((jI h r0 19) = 38 ∨ (jI h r0 19) = 124 ∨ (jI h r0 19) = 94 ∨ (jI h r0 19) = 43 ∨ (jI h r0 19) = 45)))) ∧ h2 = h) := by
  refine Ex_of_V tX9_isBetween (Nat.le_of_ble_eq_true rfl) (bX9_isBetween_0 r0 h ?_ ?_ ?_ ?_ ?_ ?_ ?_)
  all_goals intros
  all_goals first
    | assumption
    | omega
    | (constructor <;> omega)
    | (refine ⟨?_, rfl⟩; rw [jb_t]; first | omega | (refine ⟨?_, ?_⟩ <;> omega) | (refine ⟨?_, ?_, ?_⟩ <;> first | assumption | omega) | (simp_all; done))
    | (refine ⟨?_, rfl⟩; rw [jb_f]; first | omega | (simp_all; done))
    | (simp_all; done)
theorem dX9_isFigure_0 : decode cX9_isFigure 0 = .ok (.iload_n 1, 1) := by decide +kernel
theorem dX9_isFigure_1 : decode cX9_isFigure 1 = .ok (.aload_n 0, 1) := by decide +kernel
theorem dX9_isFigure_2 : decode cX9_isFigure 2 = .ok (.getfield 99, 3) := by decide +kernel
theorem dX9_isFigure_5 : decode cX9_isFigure 5 = .ok (.if_icmp .ge 23, 3) := by decide +kernel
theorem dX9_isFigure_8 : decode cX9_isFigure 8 = .ok (.aload_n 0, 1) := by decide +kernel
theorem dX9_isFigure_9 : decode cX9_isFigure 9 = .ok (.getfield 38, 3) := by decide +kernel
theorem dX9_isFigure_12 : decode cX9_isFigure 12 = .ok (.iload_n 1, 1) := by decide +kernel
theorem dX9_isFigure_13 : decode cX9_isFigure 13 = .ok (.iaload, 1) := by decide +kernel
theorem dX9_isFigure_14 : decode cX9_isFigure 14 = .ok (.bipush 48, 2) := by decide +kernel
theorem dX9_isFigure_16 : decode cX9_isFigure 16 = .ok (.bipush 57, 2) := by decide +kernel
theorem dX9_isFigure_18 : decode cX9_isFigure 18 = .ok (.invokestatic 95, 3) := by decide +kernel
theorem dX9_isFigure_21 : decode cX9_isFigure 21 = .ok (.ifCond .eq 7, 3) := by decide +kernel
theorem dX9_isFigure_24 : decode cX9_isFigure 24 = .ok (.iconst 1, 1) := by decide +kernel
theorem dX9_isFigure_25 : decode cX9_isFigure 25 = .ok (.goto 4, 3) := by decide +kernel
theorem dX9_isFigure_28 : decode cX9_isFigure 28 = .ok (.iconst 0, 1) := by decide +kernel
theorem dX9_isFigure_29 : decode cX9_isFigure 29 = .ok (.ireturn, 1) := by decide +kernel
theorem bX9_isFigure_0 {d : Nat} {Q : Option jA → jH → Prop} (a0 : Nat) (i1 : Int) (h : jH)
    (s1 : (jS h a0).1 = 9)
    (q1 : ((jI h a0 15) ≤ i1) → Q (some (.inl 0)) h)
    (s2 : (jS h (jP h a0 14)).1 = 16)
    (s3 : (¬ ((jI h a0 15) ≤ i1)) → 0 ≤ i1)
    (s4 : (¬ ((jI h a0 15) ≤ i1)) → i1 < ((jS h (jP h a0 14)).2 : Int))
    (q2 : (¬ ((jI h a0 15) ≤ i1)) → (¬ (48 ≤ (jX h (jP h a0 14) ((i1).toNat)) ∧ (jX h (jP h a0 14) ((i1).toNat)) ≤ 57)) → Q (some (.inl 0)) h)
    (q3 : (¬ ((jI h a0 15) ≤ i1)) → (48 ≤ (jX h (jP h a0 14) ((i1).toNat)) ∧ (jX h (jP h a0 14) ((i1).toNat)) ≤ 57) → Q (some (.inl 1)) h) :
    V MX9_isFigure (d + 1) 0 [some (.inr a0), some (.inl i1)] [] h 0 0 Q := by
  refine V_iload_n (i := 1) dX9_isFigure_0 rfl rfl ?_
  refine V_aload_n (i := 0) dX9_isFigure_1 rfl rfl ?_
  refine V_getI dX9_isFigure_2 fX9_99 rfl s1 ?_
  refine V_icmp_ge (tgt := 28) dX9_isFigure_5 (by decide) (fun c1 => ?_) (fun c1 => ?_)
  · refine V_iconst dX9_isFigure_28 ⟨by decide, by decide⟩ ?_
    exact V_retz rfl dX9_isFigure_29 (by decide) (q1 c1)
  · refine V_aload_n (i := 0) dX9_isFigure_8 rfl rfl ?_
    refine V_getP dX9_isFigure_9 fX9_38 rfl s1 ?_
    refine V_iload_n (i := 1) dX9_isFigure_12 rfl rfl ?_
    refine V_iald dX9_isFigure_13 s2 (s3 c1) (s4 c1) ?_
    refine V_bipush dX9_isFigure_14 (by decide +kernel) ⟨by decide, by decide⟩ ?_
    refine V_bipush dX9_isFigure_16 (by decide +kernel) ⟨by decide, by decide⟩ ?_
    refine V_callS (M := MX9_isFigure) (d := (d + 1)) (mc' := 0) (ms' := 0) (mc := 0) (ms := 0) (a := 0) (As := [.inl (jX h (jP h a0 14) ((i1).toNat)), .inl 48, .inl 57]) (rest := []) dX9_isFigure_18 tX9_in sX9_in lX9_95 rfl rfl (Nat.le_of_ble_eq_true rfl) (show d + 1 ≤ (d + 1) by omega) (Ex.mono (pX9_in (d := d) ) ?_)
    intro v h2 hq
    rw [hq.1, hq.2]
    show V MX9_isFigure (d + 1) 21 [some (.inr a0), some (.inl i1)] [.inl (jb (48 ≤ (jX h (jP h a0 14) ((i1).toNat)) ∧ (jX h (jP h a0 14) ((i1).toNat)) ≤ 57))] h 0 0 Q
    refine V_ifb_eq (tgt := 28) dX9_isFigure_21 (by decide) (fun c2 => ?_) (fun c2 => ?_)
    · refine V_iconst dX9_isFigure_28 ⟨by decide, by decide⟩ ?_
      exact V_retz rfl dX9_isFigure_29 (by decide) (q2 c1 c2)
    · refine V_iconst dX9_isFigure_24 ⟨by decide, by decide⟩ ?_
      refine V_goto (tgt := 29) dX9_isFigure_25 (by decide) ?_
      exact V_retz rfl dX9_isFigure_29 (by decide) (q3 c1 c2)
theorem pX9_isFigure {d : Nat} {z1 : Int} {r0 : Nat} {h : jH} (s0 : (jS h r0).1 = 9) (s1 : (jS h (jP h r0 14)).1 = 16) (s2 : (jS h (jP h r0 14)).2 = 160) (s3 : jI h r0 15 ≤ 160) (s4 : 0 ≤ z1) : Ex MX9_isFigure (d + 1) [.inr r0, .inl z1] h 0 0 (fun r h2 => r = some (.inl (jb (z1 < (jI h r0 15) ∧ 48 ≤ (jX h (jP h r0 14) (z1.toNat)) ∧ (jX h (jP h r0 14) (z1.toNat)) ≤ 57))) ∧ h2 = h) := by
  refine Ex_of_V tX9_isFigure (Nat.le_of_ble_eq_true rfl) (bX9_isFigure_0 r0 z1 h ?_ ?_ ?_ ?_ ?_ ?_ ?_)
  all_goals intros
  all_goals first
    | assumption
    | omega
    | (constructor <;> omega)
    | (refine ⟨?_, rfl⟩; rw [jb_t]; first | omega | (refine ⟨?_, ?_⟩ <;> omega) | (refine ⟨?_, ?_, ?_⟩ <;> first | assumption | omega) | (simp_all; done))
    | (refine ⟨?_, rfl⟩; rw [jb_f]; first | omega | (simp_all; done))
    | (simp_all; done)
theorem dX9_isWire_0 : decode cX9_isWire 0 = .ok (.aload_n 0, 1) := by decide +kernel
theorem dX9_isWire_1 : decode cX9_isWire 1 = .ok (.iload_n 1, 1) := by decide +kernel
theorem dX9_isWire_2 : decode cX9_isWire 2 = .ok (.invokevirtual 250, 3) := by decide +kernel
theorem dX9_isWire_5 : decode cX9_isWire 5 = .ok (.ifCond .eq 16, 3) := by decide +kernel
theorem dX9_isWire_8 : decode cX9_isWire 8 = .ok (.aload_n 0, 1) := by decide +kernel
theorem dX9_isWire_9 : decode cX9_isWire 9 = .ok (.iload_n 1, 1) := by decide +kernel
theorem dX9_isWire_10 : decode cX9_isWire 10 = .ok (.iconst 0, 1) := by decide +kernel
theorem dX9_isWire_11 : decode cX9_isWire 11 = .ok (.invokevirtual 233, 3) := by decide +kernel
theorem dX9_isWire_14 : decode cX9_isWire 14 = .ok (.ifCond .ne 7, 3) := by decide +kernel
theorem dX9_isWire_17 : decode cX9_isWire 17 = .ok (.iconst 1, 1) := by decide +kernel
theorem dX9_isWire_18 : decode cX9_isWire 18 = .ok (.goto 4, 3) := by decide +kernel
theorem dX9_isWire_21 : decode cX9_isWire 21 = .ok (.iconst 0, 1) := by decide +kernel
theorem dX9_isWire_22 : decode cX9_isWire 22 = .ok (.ireturn, 1) := by decide +kernel
theorem bX9_isWire_0 {d : Nat} {Q : Option jA → jH → Prop} (a0 : Nat) (i1 : Int) (h : jH)
    (s1 : (jS h a0).1 = 9)
    (s2 : 0 ≤ jI h a0 1)
    (s3 : jI h a0 1 ≤ 12)
    (q1 : (¬ (0 ≤ i1 ∧ i1 ≤ (jI h a0 1) - 1)) → Q (some (.inl 0)) h)
    (s4 : (jS h (jP h a0 0)).1 = 16)
    (s5 : (jS h (jP h a0 0)).2 = 72)
    (s6 : (0 ≤ i1 ∧ i1 ≤ (jI h a0 1) - 1) → 0 ≤ i1)
    (s7 : (0 ≤ i1 ∧ i1 ≤ (jI h a0 1) - 1) → i1 < 12)
    (q2 : (0 ≤ i1 ∧ i1 ≤ (jI h a0 1) - 1) → ((jX h (jP h a0 0) (((6 * i1) + 0).toNat)) ≠ 0) → Q (some (.inl 0)) h)
    (q3 : (0 ≤ i1 ∧ i1 ≤ (jI h a0 1) - 1) → ((jX h (jP h a0 0) (((6 * i1) + 0).toNat)) = 0) → Q (some (.inl 1)) h) :
    V MX9_isWire (d + 2) 0 [some (.inr a0), some (.inl i1)] [] h 0 0 Q := by
  refine V_aload_n (i := 0) dX9_isWire_0 rfl rfl ?_
  refine V_iload_n (i := 1) dX9_isWire_1 rfl rfl ?_
  refine V_callV (M := MX9_isWire) (d := (d + 2)) (mc' := 0) (ms' := 0) (mc := 0) (ms := 0) (As := [.inl i1]) (rest := []) dX9_isWire_2 tX9_isNode vX9_isNode lX9_250 s1 ⟨by decide, rfl⟩ rfl rfl (Nat.le_of_ble_eq_true rfl) (show (d + 1) + 1 ≤ (d + 2) by omega) (Ex.mono (pX9_isNode (d := d) s1 s2 s3) ?_)
  intro v h2 hq
  rw [hq.1, hq.2]
  show V MX9_isWire (d + 2) 5 [some (.inr a0), some (.inl i1)] [.inl (jb (0 ≤ i1 ∧ i1 ≤ (jI h a0 1) - 1))] h 0 0 Q
  refine V_ifb_eq (tgt := 21) dX9_isWire_5 (by decide) (fun c1 => ?_) (fun c1 => ?_)
  · refine V_iconst dX9_isWire_21 ⟨by decide, by decide⟩ ?_
    exact V_retz rfl dX9_isWire_22 (by decide) (q1 c1)
  · refine V_aload_n (i := 0) dX9_isWire_8 rfl rfl ?_
    refine V_iload_n (i := 1) dX9_isWire_9 rfl rfl ?_
    refine V_iconst dX9_isWire_10 ⟨by decide, by decide⟩ ?_
    refine V_callV (M := MX9_isWire) (d := (d + 2)) (mc' := 0) (ms' := 0) (mc := 0) (ms := 0) (As := [.inl i1, .inl 0]) (rest := []) dX9_isWire_11 tX9_of vX9_of lX9_233 s1 ⟨by decide, rfl⟩ rfl rfl (Nat.le_of_ble_eq_true rfl) (show d + 1 ≤ (d + 2) by omega) (Ex.mono (pX9_of (d := d) s1 s4 s5 (s6 c1) (s7 c1) (by decide) (by decide)) ?_)
    intro v h2 hq
    rw [hq.1, hq.2]
    show V MX9_isWire (d + 2) 14 [some (.inr a0), some (.inl i1)] [.inl (jX h (jP h a0 0) (((6 * i1) + 0).toNat))] h 0 0 Q
    refine V_if_ne (tgt := 21) dX9_isWire_14 (by decide) (fun c2 => ?_) (fun c2 => ?_)
    · refine V_iconst dX9_isWire_21 ⟨by decide, by decide⟩ ?_
      exact V_retz rfl dX9_isWire_22 (by decide) (q2 c1 c2)
    · refine V_iconst dX9_isWire_17 ⟨by decide, by decide⟩ ?_
      refine V_goto (tgt := 22) dX9_isWire_18 (by decide) ?_
      exact V_retz rfl dX9_isWire_22 (by decide) (q3 c1 c2)
theorem pX9_isWire {d : Nat} {z1 : Int} {r0 : Nat} {h : jH} (s0 : (jS h r0).1 = 9) (s1 : (jS h (jP h r0 0)).1 = 16) (s2 : (jS h (jP h r0 0)).2 = 72) (s3 : 0 ≤ jI h r0 1) (s4 : jI h r0 1 ≤ 12) : Ex MX9_isWire (d + 2) [.inr r0, .inl z1] h 0 0 (fun r h2 => r = some (.inl (jb (0 ≤ z1 ∧ z1 ≤ (jI h r0 1) - 1 ∧ (jX h (jP h r0 0) (((6 * z1) + 0).toNat)) = 0))) ∧ h2 = h) := by
  refine Ex_of_V tX9_isWire (Nat.le_of_ble_eq_true rfl) (bX9_isWire_0 r0 z1 h ?_ ?_ ?_ ?_ ?_ ?_ ?_ ?_ ?_ ?_)
  all_goals intros
  all_goals first
    | assumption
    | omega
    | (constructor <;> omega)
    | (refine ⟨?_, rfl⟩; rw [jb_t]; first | omega | (refine ⟨?_, ?_⟩ <;> omega) | (refine ⟨?_, ?_, ?_⟩ <;> first | assumption | omega) | (simp_all; done))
    | (refine ⟨?_, rfl⟩; rw [jb_f]; first | omega | (simp_all; done))
    | (simp_all; done)
theorem dX9_worked_0 : decode cX9_worked 0 = .ok (.iload_n 2, 1) := by decide +kernel
theorem dX9_worked_1 : decode cX9_worked 1 = .ok (.bipush 38, 2) := by decide +kernel
theorem dX9_worked_3 : decode cX9_worked 3 = .ok (.if_icmp .ne 36, 3) := by decide +kernel
theorem dX9_worked_6 : decode cX9_worked 6 = .ok (.iload_n 0, 1) := by decide +kernel
theorem dX9_worked_7 : decode cX9_worked 7 = .ok (.ifCond .eq 7, 3) := by decide +kernel
theorem dX9_worked_10 : decode cX9_worked 10 = .ok (.iload_n 1, 1) := by decide +kernel
theorem dX9_worked_11 : decode cX9_worked 11 = .ok (.ifCond .ne 7, 3) := by decide +kernel
theorem dX9_worked_14 : decode cX9_worked 14 = .ok (.iconst 0, 1) := by decide +kernel
theorem dX9_worked_15 : decode cX9_worked 15 = .ok (.goto 23, 3) := by decide +kernel
theorem dX9_worked_18 : decode cX9_worked 18 = .ok (.iload_n 0, 1) := by decide +kernel
theorem dX9_worked_19 : decode cX9_worked 19 = .ok (.bipush (-7), 2) := by decide +kernel
theorem dX9_worked_21 : decode cX9_worked 21 = .ok (.if_icmp .eq 9, 3) := by decide +kernel
theorem dX9_worked_24 : decode cX9_worked 24 = .ok (.iload_n 1, 1) := by decide +kernel
theorem dX9_worked_25 : decode cX9_worked 25 = .ok (.bipush (-7), 2) := by decide +kernel
theorem dX9_worked_27 : decode cX9_worked 27 = .ok (.if_icmp .ne 8, 3) := by decide +kernel
theorem dX9_worked_30 : decode cX9_worked 30 = .ok (.bipush (-7), 2) := by decide +kernel
theorem dX9_worked_32 : decode cX9_worked 32 = .ok (.goto 6, 3) := by decide +kernel
theorem dX9_worked_35 : decode cX9_worked 35 = .ok (.iload_n 0, 1) := by decide +kernel
theorem dX9_worked_36 : decode cX9_worked 36 = .ok (.iload_n 1, 1) := by decide +kernel
theorem dX9_worked_37 : decode cX9_worked 37 = .ok (.iand, 1) := by decide +kernel
theorem dX9_worked_38 : decode cX9_worked 38 = .ok (.ireturn, 1) := by decide +kernel
theorem dX9_worked_39 : decode cX9_worked 39 = .ok (.iload_n 0, 1) := by decide +kernel
theorem dX9_worked_40 : decode cX9_worked 40 = .ok (.bipush (-7), 2) := by decide +kernel
theorem dX9_worked_42 : decode cX9_worked 42 = .ok (.if_icmp .eq 9, 3) := by decide +kernel
theorem dX9_worked_45 : decode cX9_worked 45 = .ok (.iload_n 1, 1) := by decide +kernel
theorem dX9_worked_46 : decode cX9_worked 46 = .ok (.bipush (-7), 2) := by decide +kernel
theorem dX9_worked_48 : decode cX9_worked 48 = .ok (.if_icmp .ne 6, 3) := by decide +kernel
theorem dX9_worked_51 : decode cX9_worked 51 = .ok (.bipush (-7), 2) := by decide +kernel
theorem dX9_worked_53 : decode cX9_worked 53 = .ok (.ireturn, 1) := by decide +kernel
theorem dX9_worked_54 : decode cX9_worked 54 = .ok (.iload_n 2, 1) := by decide +kernel
theorem dX9_worked_55 : decode cX9_worked 55 = .ok (.bipush 124, 2) := by decide +kernel
theorem dX9_worked_57 : decode cX9_worked 57 = .ok (.if_icmp .ne 9, 3) := by decide +kernel
theorem dX9_worked_60 : decode cX9_worked 60 = .ok (.iload_n 0, 1) := by decide +kernel
theorem dX9_worked_61 : decode cX9_worked 61 = .ok (.iload_n 1, 1) := by decide +kernel
theorem dX9_worked_62 : decode cX9_worked 62 = .ok (.ior, 1) := by decide +kernel
theorem dX9_worked_63 : decode cX9_worked 63 = .ok (.goto 38, 3) := by decide +kernel
theorem dX9_worked_66 : decode cX9_worked 66 = .ok (.iload_n 2, 1) := by decide +kernel
theorem dX9_worked_67 : decode cX9_worked 67 = .ok (.bipush 94, 2) := by decide +kernel
theorem dX9_worked_69 : decode cX9_worked 69 = .ok (.if_icmp .ne 9, 3) := by decide +kernel
theorem dX9_worked_72 : decode cX9_worked 72 = .ok (.iload_n 0, 1) := by decide +kernel
theorem dX9_worked_73 : decode cX9_worked 73 = .ok (.iload_n 1, 1) := by decide +kernel
theorem dX9_worked_74 : decode cX9_worked 74 = .ok (.ixor, 1) := by decide +kernel
theorem dX9_worked_75 : decode cX9_worked 75 = .ok (.goto 26, 3) := by decide +kernel
theorem dX9_worked_78 : decode cX9_worked 78 = .ok (.iload_n 2, 1) := by decide +kernel
theorem dX9_worked_79 : decode cX9_worked 79 = .ok (.bipush 43, 2) := by decide +kernel
theorem dX9_worked_81 : decode cX9_worked 81 = .ok (.if_icmp .ne 13, 3) := by decide +kernel
theorem dX9_worked_84 : decode cX9_worked 84 = .ok (.iload_n 0, 1) := by decide +kernel
theorem dX9_worked_85 : decode cX9_worked 85 = .ok (.iload_n 1, 1) := by decide +kernel
theorem dX9_worked_86 : decode cX9_worked 86 = .ok (.iadd, 1) := by decide +kernel
theorem dX9_worked_87 : decode cX9_worked 87 = .ok (.sipush 255, 3) := by decide +kernel
theorem dX9_worked_90 : decode cX9_worked 90 = .ok (.iand, 1) := by decide +kernel
theorem dX9_worked_91 : decode cX9_worked 91 = .ok (.goto 10, 3) := by decide +kernel
theorem dX9_worked_94 : decode cX9_worked 94 = .ok (.iload_n 0, 1) := by decide +kernel
theorem dX9_worked_95 : decode cX9_worked 95 = .ok (.iload_n 1, 1) := by decide +kernel
theorem dX9_worked_96 : decode cX9_worked 96 = .ok (.isub, 1) := by decide +kernel
theorem dX9_worked_97 : decode cX9_worked 97 = .ok (.sipush 255, 3) := by decide +kernel
theorem dX9_worked_100 : decode cX9_worked 100 = .ok (.iand, 1) := by decide +kernel
theorem dX9_worked_101 : decode cX9_worked 101 = .ok (.ireturn, 1) := by decide +kernel
theorem bX9_worked_0 {d : Nat} {Q : Option jA → jH → Prop} (i0 : Int) (i1 : Int) (i2 : Int) (h : jH)
    (q1 : (i2 ≠ 38) → (i0 = ((-7))) → Q (some (.inl ((-7)))) h)
    (r1 : (i2 ≠ 38) → (¬ (i0 = ((-7)))) → (i1 ≠ ((-7))) → (i2 ≠ 124) → (i2 ≠ 94) → (i2 ≠ 43) → jR (i0 - i1))
    (q2 : (i2 ≠ 38) → (¬ (i0 = ((-7)))) → (i1 ≠ ((-7))) → (i2 ≠ 124) → (i2 ≠ 94) → (i2 ≠ 43) → Q (some (.inl (jand (i0 - i1) 255))) h)
    (r2 : (i2 ≠ 38) → (¬ (i0 = ((-7)))) → (i1 ≠ ((-7))) → (i2 ≠ 124) → (i2 ≠ 94) → (i2 = 43) → jR (i0 + i1))
    (q3 : (i2 ≠ 38) → (¬ (i0 = ((-7)))) → (i1 ≠ ((-7))) → (i2 ≠ 124) → (i2 ≠ 94) → (i2 = 43) → Q (some (.inl (jand (i0 + i1) 255))) h)
    (q4 : (i2 ≠ 38) → (¬ (i0 = ((-7)))) → (i1 ≠ ((-7))) → (i2 ≠ 124) → (i2 = 94) → Q (some (.inl (jxor i0 i1))) h)
    (q5 : (i2 ≠ 38) → (¬ (i0 = ((-7)))) → (i1 ≠ ((-7))) → (i2 = 124) → Q (some (.inl (jor i0 i1))) h)
    (q6 : (i2 ≠ 38) → (¬ (i0 = ((-7)))) → (i1 = ((-7))) → Q (some (.inl ((-7)))) h)
    (q7 : (i2 = 38) → (i0 = 0) → Q (some (.inl 0)) h)
    (q8 : (i2 = 38) → (¬ (i0 = 0)) → (i1 ≠ 0) → (i0 = ((-7))) → Q (some (.inl ((-7)))) h)
    (q9 : (i2 = 38) → (¬ (i0 = 0)) → (i1 ≠ 0) → (¬ (i0 = ((-7)))) → (i1 ≠ ((-7))) → Q (some (.inl (jand i0 i1))) h)
    (q10 : (i2 = 38) → (¬ (i0 = 0)) → (i1 ≠ 0) → (¬ (i0 = ((-7)))) → (i1 = ((-7))) → Q (some (.inl ((-7)))) h)
    (q11 : (i2 = 38) → (¬ (i0 = 0)) → (i1 = 0) → Q (some (.inl 0)) h) :
    V MX9_worked d 0 [some (.inl i0), some (.inl i1), some (.inl i2)] [] h 0 0 Q := by
  refine V_iload_n (i := 2) dX9_worked_0 rfl rfl ?_
  refine V_bipush dX9_worked_1 (by decide +kernel) ⟨by decide, by decide⟩ ?_
  refine V_icmp_ne (tgt := 39) dX9_worked_3 (by decide) (fun c1 => ?_) (fun c1 => ?_)
  · refine V_iload_n (i := 0) dX9_worked_39 rfl rfl ?_
    refine V_bipush dX9_worked_40 (by decide +kernel) ⟨by decide, by decide⟩ ?_
    refine V_icmp_eq (tgt := 51) dX9_worked_42 (by decide) (fun c2 => ?_) (fun c2 => ?_)
    · refine V_bipush dX9_worked_51 (by decide +kernel) ⟨by decide, by decide⟩ ?_
      exact V_reti rfl dX9_worked_53 (q1 c1 c2)
    · refine V_iload_n (i := 1) dX9_worked_45 rfl rfl ?_
      refine V_bipush dX9_worked_46 (by decide +kernel) ⟨by decide, by decide⟩ ?_
      refine V_icmp_ne (tgt := 54) dX9_worked_48 (by decide) (fun c3 => ?_) (fun c3 => ?_)
      · refine V_iload_n (i := 2) dX9_worked_54 rfl rfl ?_
        refine V_bipush dX9_worked_55 (by decide +kernel) ⟨by decide, by decide⟩ ?_
        refine V_icmp_ne (tgt := 66) dX9_worked_57 (by decide) (fun c4 => ?_) (fun c4 => ?_)
        · refine V_iload_n (i := 2) dX9_worked_66 rfl rfl ?_
          refine V_bipush dX9_worked_67 (by decide +kernel) ⟨by decide, by decide⟩ ?_
          refine V_icmp_ne (tgt := 78) dX9_worked_69 (by decide) (fun c5 => ?_) (fun c5 => ?_)
          · refine V_iload_n (i := 2) dX9_worked_78 rfl rfl ?_
            refine V_bipush dX9_worked_79 (by decide +kernel) ⟨by decide, by decide⟩ ?_
            refine V_icmp_ne (tgt := 94) dX9_worked_81 (by decide) (fun c6 => ?_) (fun c6 => ?_)
            · refine V_iload_n (i := 0) dX9_worked_94 rfl rfl ?_
              refine V_iload_n (i := 1) dX9_worked_95 rfl rfl ?_
              refine V_isub dX9_worked_96 (r1 c1 c2 c3 c4 c5 c6) ?_
              refine V_sipush dX9_worked_97 (by decide +kernel) ⟨by decide, by decide⟩ ?_
              refine V_iand dX9_worked_100 ?_
              exact V_reti rfl dX9_worked_101 (q2 c1 c2 c3 c4 c5 c6)
            · refine V_iload_n (i := 0) dX9_worked_84 rfl rfl ?_
              refine V_iload_n (i := 1) dX9_worked_85 rfl rfl ?_
              refine V_iadd dX9_worked_86 (r2 c1 c2 c3 c4 c5 c6) ?_
              refine V_sipush dX9_worked_87 (by decide +kernel) ⟨by decide, by decide⟩ ?_
              refine V_iand dX9_worked_90 ?_
              refine V_goto (tgt := 101) dX9_worked_91 (by decide) ?_
              exact V_reti rfl dX9_worked_101 (q3 c1 c2 c3 c4 c5 c6)
          · refine V_iload_n (i := 0) dX9_worked_72 rfl rfl ?_
            refine V_iload_n (i := 1) dX9_worked_73 rfl rfl ?_
            refine V_ixor dX9_worked_74 ?_
            refine V_goto (tgt := 101) dX9_worked_75 (by decide) ?_
            exact V_reti rfl dX9_worked_101 (q4 c1 c2 c3 c4 c5)
        · refine V_iload_n (i := 0) dX9_worked_60 rfl rfl ?_
          refine V_iload_n (i := 1) dX9_worked_61 rfl rfl ?_
          refine V_ior dX9_worked_62 ?_
          refine V_goto (tgt := 101) dX9_worked_63 (by decide) ?_
          exact V_reti rfl dX9_worked_101 (q5 c1 c2 c3 c4)
      · refine V_bipush dX9_worked_51 (by decide +kernel) ⟨by decide, by decide⟩ ?_
        exact V_reti rfl dX9_worked_53 (q6 c1 c2 c3)
  · refine V_iload_n (i := 0) dX9_worked_6 rfl rfl ?_
    refine V_if_eq (tgt := 14) dX9_worked_7 (by decide) (fun c7 => ?_) (fun c7 => ?_)
    · refine V_iconst dX9_worked_14 ⟨by decide, by decide⟩ ?_
      refine V_goto (tgt := 38) dX9_worked_15 (by decide) ?_
      exact V_reti rfl dX9_worked_38 (q7 c1 c7)
    · refine V_iload_n (i := 1) dX9_worked_10 rfl rfl ?_
      refine V_if_ne (tgt := 18) dX9_worked_11 (by decide) (fun c8 => ?_) (fun c8 => ?_)
      · refine V_iload_n (i := 0) dX9_worked_18 rfl rfl ?_
        refine V_bipush dX9_worked_19 (by decide +kernel) ⟨by decide, by decide⟩ ?_
        refine V_icmp_eq (tgt := 30) dX9_worked_21 (by decide) (fun c9 => ?_) (fun c9 => ?_)
        · refine V_bipush dX9_worked_30 (by decide +kernel) ⟨by decide, by decide⟩ ?_
          refine V_goto (tgt := 38) dX9_worked_32 (by decide) ?_
          exact V_reti rfl dX9_worked_38 (q8 c1 c7 c8 c9)
        · refine V_iload_n (i := 1) dX9_worked_24 rfl rfl ?_
          refine V_bipush dX9_worked_25 (by decide +kernel) ⟨by decide, by decide⟩ ?_
          refine V_icmp_ne (tgt := 35) dX9_worked_27 (by decide) (fun c10 => ?_) (fun c10 => ?_)
          · refine V_iload_n (i := 0) dX9_worked_35 rfl rfl ?_
            refine V_iload_n (i := 1) dX9_worked_36 rfl rfl ?_
            refine V_iand dX9_worked_37 ?_
            exact V_reti rfl dX9_worked_38 (q9 c1 c7 c8 c9 c10)
          · refine V_bipush dX9_worked_30 (by decide +kernel) ⟨by decide, by decide⟩ ?_
            refine V_goto (tgt := 38) dX9_worked_32 (by decide) ?_
            exact V_reti rfl dX9_worked_38 (q10 c1 c7 c8 c9 c10)
      · refine V_iconst dX9_worked_14 ⟨by decide, by decide⟩ ?_
        refine V_goto (tgt := 38) dX9_worked_15 (by decide) ?_
        exact V_reti rfl dX9_worked_38 (q11 c1 c7 c8)
theorem pX9_worked {d : Nat} {z0 z1 z2 : Int} {h : jH} (s0 : -7 ≤ z0) (s1 : z0 ≤ 255) (s2 : -7 ≤ z1) (s3 : z1 ≤ 255) : Ex MX9_worked d [.inl z0, .inl z1, .inl z2] h 0 0 (fun r h2 => r = some (.inl (jop z2 z0 z1)) ∧ h2 = h) := by
  refine Ex_of_V tX9_worked (Nat.le_of_ble_eq_true rfl) (bX9_worked_0 z0 z1 z2 h ?_ ?_ ?_ ?_ ?_ ?_ ?_ ?_ ?_ ?_ ?_ ?_ ?_)
  all_goals intros
  all_goals first
    | assumption
    | omega
    | (constructor <;> omega)
    | exact ⟨rfl, rfl⟩
    | (refine ⟨congrArg (fun z => some (Sum.inl z)) ?_, rfl⟩; simp [jop, jneg, jlet, jorn, jaft, *]; done)
    | (refine ⟨congrArg (fun z => some (Sum.inl z)) ?_, rfl⟩; simp [jop, jneg, jlet, jorn, jaft, *] <;> omega)
    | (refine ⟨congrArg (fun z => some (Sum.inl z)) ?_, rfl⟩; simp_all [jop, jneg, jlet, jorn, jaft] <;> omega)
    | (simp_all; done)
theorem dX2_negated_0 : decode cX2_negated 0 = .ok (.iload_n 0, 1) := by decide +kernel
theorem dX2_negated_1 : decode cX2_negated 1 = .ok (.bipush (-7), 2) := by decide +kernel
theorem dX2_negated_3 : decode cX2_negated 3 = .ok (.if_icmp .ne 6, 3) := by decide +kernel
theorem dX2_negated_6 : decode cX2_negated 6 = .ok (.bipush (-7), 2) := by decide +kernel
theorem dX2_negated_8 : decode cX2_negated 8 = .ok (.ireturn, 1) := by decide +kernel
theorem dX2_negated_9 : decode cX2_negated 9 = .ok (.iload_n 0, 1) := by decide +kernel
theorem dX2_negated_10 : decode cX2_negated 10 = .ok (.ifCond .ne 7, 3) := by decide +kernel
theorem dX2_negated_13 : decode cX2_negated 13 = .ok (.iconst 1, 1) := by decide +kernel
theorem dX2_negated_14 : decode cX2_negated 14 = .ok (.goto 4, 3) := by decide +kernel
theorem dX2_negated_17 : decode cX2_negated 17 = .ok (.iconst 0, 1) := by decide +kernel
theorem dX2_negated_18 : decode cX2_negated 18 = .ok (.ireturn, 1) := by decide +kernel
theorem bX2_negated_0 {d : Nat} {Q : Option jA → jH → Prop} (i0 : Int) (h : jH)
    (q1 : (i0 ≠ ((-7))) → (i0 ≠ 0) → Q (some (.inl 0)) h)
    (q2 : (i0 ≠ ((-7))) → (i0 = 0) → Q (some (.inl 1)) h)
    (q3 : (i0 = ((-7))) → Q (some (.inl ((-7)))) h) :
    V MX2_negated d 0 [some (.inl i0)] [] h 0 0 Q := by
  refine V_iload_n (i := 0) dX2_negated_0 rfl rfl ?_
  refine V_bipush dX2_negated_1 (by decide +kernel) ⟨by decide, by decide⟩ ?_
  refine V_icmp_ne (tgt := 9) dX2_negated_3 (by decide) (fun c1 => ?_) (fun c1 => ?_)
  · refine V_iload_n (i := 0) dX2_negated_9 rfl rfl ?_
    refine V_if_ne (tgt := 17) dX2_negated_10 (by decide) (fun c2 => ?_) (fun c2 => ?_)
    · refine V_iconst dX2_negated_17 ⟨by decide, by decide⟩ ?_
      exact V_reti rfl dX2_negated_18 (q1 c1 c2)
    · refine V_iconst dX2_negated_13 ⟨by decide, by decide⟩ ?_
      refine V_goto (tgt := 18) dX2_negated_14 (by decide) ?_
      exact V_reti rfl dX2_negated_18 (q2 c1 c2)
  · refine V_bipush dX2_negated_6 (by decide +kernel) ⟨by decide, by decide⟩ ?_
    exact V_reti rfl dX2_negated_8 (q3 c1)
theorem pX2_negated {d : Nat} {z0 : Int} {h : jH}  : Ex MX2_negated d [.inl z0] h 0 0 (fun r h2 => r = some (.inl (jneg z0)) ∧ h2 = h) := by
  refine Ex_of_V tX2_negated (Nat.le_of_ble_eq_true rfl) (bX2_negated_0 z0 h ?_ ?_ ?_)
  all_goals intros
  all_goals first
    | assumption
    | omega
    | (constructor <;> omega)
    | exact ⟨rfl, rfl⟩
    | (refine ⟨congrArg (fun z => some (Sum.inl z)) ?_, rfl⟩; simp [jop, jneg, jlet, jorn, jaft, *]; done)
    | (refine ⟨congrArg (fun z => some (Sum.inl z)) ?_, rfl⟩; simp [jop, jneg, jlet, jorn, jaft, *] <;> omega)
    | (refine ⟨congrArg (fun z => some (Sum.inl z)) ?_, rfl⟩; simp_all [jop, jneg, jlet, jorn, jaft] <;> omega)
    | (simp_all; done)
theorem dX2_joined_0 : decode cX2_joined 0 = .ok (.iload_n 0, 1) := by decide +kernel
theorem dX2_joined_1 : decode cX2_joined 1 = .ok (.bipush 38, 2) := by decide +kernel
theorem dX2_joined_3 : decode cX2_joined 3 = .ok (.if_icmp .ne 13, 3) := by decide +kernel
theorem dX2_joined_6 : decode cX2_joined 6 = .ok (.iload_n 1, 1) := by decide +kernel
theorem dX2_joined_7 : decode cX2_joined 7 = .ok (.ifCond .eq 7, 3) := by decide +kernel
theorem dX2_joined_10 : decode cX2_joined 10 = .ok (.iload_n 2, 1) := by decide +kernel
theorem dX2_joined_11 : decode cX2_joined 11 = .ok (.ifCond .ne 5, 3) := by decide +kernel
theorem dX2_joined_14 : decode cX2_joined 14 = .ok (.iconst 0, 1) := by decide +kernel
theorem dX2_joined_15 : decode cX2_joined 15 = .ok (.ireturn, 1) := by decide +kernel
theorem dX2_joined_16 : decode cX2_joined 16 = .ok (.iload_n 1, 1) := by decide +kernel
theorem dX2_joined_17 : decode cX2_joined 17 = .ok (.bipush (-7), 2) := by decide +kernel
theorem dX2_joined_19 : decode cX2_joined 19 = .ok (.if_icmp .eq 9, 3) := by decide +kernel
theorem dX2_joined_22 : decode cX2_joined 22 = .ok (.iload_n 2, 1) := by decide +kernel
theorem dX2_joined_23 : decode cX2_joined 23 = .ok (.bipush (-7), 2) := by decide +kernel
theorem dX2_joined_25 : decode cX2_joined 25 = .ok (.if_icmp .ne 6, 3) := by decide +kernel
theorem dX2_joined_28 : decode cX2_joined 28 = .ok (.bipush (-7), 2) := by decide +kernel
theorem dX2_joined_30 : decode cX2_joined 30 = .ok (.ireturn, 1) := by decide +kernel
theorem dX2_joined_31 : decode cX2_joined 31 = .ok (.iload_n 0, 1) := by decide +kernel
theorem dX2_joined_32 : decode cX2_joined 32 = .ok (.lookupswitch 64 #[(38, 44), (43, 56), (94, 52), (124, 48)], 44) := by decide +kernel
theorem dX2_joined_76 : decode cX2_joined 76 = .ok (.iload_n 1, 1) := by decide +kernel
theorem dX2_joined_77 : decode cX2_joined 77 = .ok (.iload_n 2, 1) := by decide +kernel
theorem dX2_joined_78 : decode cX2_joined 78 = .ok (.iand, 1) := by decide +kernel
theorem dX2_joined_79 : decode cX2_joined 79 = .ok (.ireturn, 1) := by decide +kernel
theorem dX2_joined_80 : decode cX2_joined 80 = .ok (.iload_n 1, 1) := by decide +kernel
theorem dX2_joined_81 : decode cX2_joined 81 = .ok (.iload_n 2, 1) := by decide +kernel
theorem dX2_joined_82 : decode cX2_joined 82 = .ok (.ior, 1) := by decide +kernel
theorem dX2_joined_83 : decode cX2_joined 83 = .ok (.ireturn, 1) := by decide +kernel
theorem dX2_joined_84 : decode cX2_joined 84 = .ok (.iload_n 1, 1) := by decide +kernel
theorem dX2_joined_85 : decode cX2_joined 85 = .ok (.iload_n 2, 1) := by decide +kernel
theorem dX2_joined_86 : decode cX2_joined 86 = .ok (.ixor, 1) := by decide +kernel
theorem dX2_joined_87 : decode cX2_joined 87 = .ok (.ireturn, 1) := by decide +kernel
theorem dX2_joined_88 : decode cX2_joined 88 = .ok (.iload_n 1, 1) := by decide +kernel
theorem dX2_joined_89 : decode cX2_joined 89 = .ok (.iload_n 2, 1) := by decide +kernel
theorem dX2_joined_90 : decode cX2_joined 90 = .ok (.iadd, 1) := by decide +kernel
theorem dX2_joined_91 : decode cX2_joined 91 = .ok (.sipush 255, 3) := by decide +kernel
theorem dX2_joined_94 : decode cX2_joined 94 = .ok (.iand, 1) := by decide +kernel
theorem dX2_joined_95 : decode cX2_joined 95 = .ok (.ireturn, 1) := by decide +kernel
theorem dX2_joined_96 : decode cX2_joined 96 = .ok (.iload_n 1, 1) := by decide +kernel
theorem dX2_joined_97 : decode cX2_joined 97 = .ok (.iload_n 2, 1) := by decide +kernel
theorem dX2_joined_98 : decode cX2_joined 98 = .ok (.isub, 1) := by decide +kernel
theorem dX2_joined_99 : decode cX2_joined 99 = .ok (.sipush 255, 3) := by decide +kernel
theorem dX2_joined_102 : decode cX2_joined 102 = .ok (.iand, 1) := by decide +kernel
theorem dX2_joined_103 : decode cX2_joined 103 = .ok (.ireturn, 1) := by decide +kernel
theorem bX2_joined_0 {d : Nat} {Q : Option jA → jH → Prop} (i0 : Int) (i1 : Int) (i2 : Int) (h : jH)
    (q1 : (i0 ≠ 38) → (i1 = ((-7))) → Q (some (.inl ((-7)))) h)
    (q2 : (i0 ≠ 38) → (¬ (i1 = ((-7)))) → (i2 ≠ ((-7))) → (i0 = 38) → Q (some (.inl (jand i1 i2))) h)
    (r1 : (i0 ≠ 38) → (¬ (i1 = ((-7)))) → (i2 ≠ ((-7))) → (¬ (i0 = 38)) → (i0 = 43) → jR (i1 + i2))
    (q3 : (i0 ≠ 38) → (¬ (i1 = ((-7)))) → (i2 ≠ ((-7))) → (¬ (i0 = 38)) → (i0 = 43) → Q (some (.inl (jand (i1 + i2) 255))) h)
    (q4 : (i0 ≠ 38) → (¬ (i1 = ((-7)))) → (i2 ≠ ((-7))) → (¬ (i0 = 38)) → (¬ (i0 = 43)) → (i0 = 94) → Q (some (.inl (jxor i1 i2))) h)
    (q5 : (i0 ≠ 38) → (¬ (i1 = ((-7)))) → (i2 ≠ ((-7))) → (¬ (i0 = 38)) → (¬ (i0 = 43)) → (¬ (i0 = 94)) → (i0 = 124) → Q (some (.inl (jor i1 i2))) h)
    (r2 : (i0 ≠ 38) → (¬ (i1 = ((-7)))) → (i2 ≠ ((-7))) → (¬ (i0 = 38)) → (¬ (i0 = 43)) → (¬ (i0 = 94)) → (¬ (i0 = 124)) → jR (i1 - i2))
    (q6 : (i0 ≠ 38) → (¬ (i1 = ((-7)))) → (i2 ≠ ((-7))) → (¬ (i0 = 38)) → (¬ (i0 = 43)) → (¬ (i0 = 94)) → (¬ (i0 = 124)) → Q (some (.inl (jand (i1 - i2) 255))) h)
    (q7 : (i0 ≠ 38) → (¬ (i1 = ((-7)))) → (i2 = ((-7))) → Q (some (.inl ((-7)))) h)
    (q8 : (i0 = 38) → (i1 = 0) → Q (some (.inl 0)) h)
    (q9 : (i0 = 38) → (¬ (i1 = 0)) → (i2 ≠ 0) → (i1 = ((-7))) → Q (some (.inl ((-7)))) h)
    (q10 : (i0 = 38) → (¬ (i1 = 0)) → (i2 ≠ 0) → (¬ (i1 = ((-7)))) → (i2 ≠ ((-7))) → (i0 = 38) → Q (some (.inl (jand i1 i2))) h)
    (r3 : (i0 = 38) → (¬ (i1 = 0)) → (i2 ≠ 0) → (¬ (i1 = ((-7)))) → (i2 ≠ ((-7))) → (¬ (i0 = 38)) → (i0 = 43) → jR (i1 + i2))
    (q11 : (i0 = 38) → (¬ (i1 = 0)) → (i2 ≠ 0) → (¬ (i1 = ((-7)))) → (i2 ≠ ((-7))) → (¬ (i0 = 38)) → (i0 = 43) → Q (some (.inl (jand (i1 + i2) 255))) h)
    (q12 : (i0 = 38) → (¬ (i1 = 0)) → (i2 ≠ 0) → (¬ (i1 = ((-7)))) → (i2 ≠ ((-7))) → (¬ (i0 = 38)) → (¬ (i0 = 43)) → (i0 = 94) → Q (some (.inl (jxor i1 i2))) h)
    (q13 : (i0 = 38) → (¬ (i1 = 0)) → (i2 ≠ 0) → (¬ (i1 = ((-7)))) → (i2 ≠ ((-7))) → (¬ (i0 = 38)) → (¬ (i0 = 43)) → (¬ (i0 = 94)) → (i0 = 124) → Q (some (.inl (jor i1 i2))) h)
    (r4 : (i0 = 38) → (¬ (i1 = 0)) → (i2 ≠ 0) → (¬ (i1 = ((-7)))) → (i2 ≠ ((-7))) → (¬ (i0 = 38)) → (¬ (i0 = 43)) → (¬ (i0 = 94)) → (¬ (i0 = 124)) → jR (i1 - i2))
    (q14 : (i0 = 38) → (¬ (i1 = 0)) → (i2 ≠ 0) → (¬ (i1 = ((-7)))) → (i2 ≠ ((-7))) → (¬ (i0 = 38)) → (¬ (i0 = 43)) → (¬ (i0 = 94)) → (¬ (i0 = 124)) → Q (some (.inl (jand (i1 - i2) 255))) h)
    (q15 : (i0 = 38) → (¬ (i1 = 0)) → (i2 ≠ 0) → (¬ (i1 = ((-7)))) → (i2 = ((-7))) → Q (some (.inl ((-7)))) h)
    (q16 : (i0 = 38) → (¬ (i1 = 0)) → (i2 = 0) → Q (some (.inl 0)) h) :
    V MX2_joined d 0 [some (.inl i0), some (.inl i1), some (.inl i2)] [] h 0 0 Q := by
  refine V_iload_n (i := 0) dX2_joined_0 rfl rfl ?_
  refine V_bipush dX2_joined_1 (by decide +kernel) ⟨by decide, by decide⟩ ?_
  refine V_icmp_ne (tgt := 16) dX2_joined_3 (by decide) (fun c1 => ?_) (fun c1 => ?_)
  · refine V_iload_n (i := 1) dX2_joined_16 rfl rfl ?_
    refine V_bipush dX2_joined_17 (by decide +kernel) ⟨by decide, by decide⟩ ?_
    refine V_icmp_eq (tgt := 28) dX2_joined_19 (by decide) (fun c2 => ?_) (fun c2 => ?_)
    · refine V_bipush dX2_joined_28 (by decide +kernel) ⟨by decide, by decide⟩ ?_
      exact V_reti rfl dX2_joined_30 (q1 c1 c2)
    · refine V_iload_n (i := 2) dX2_joined_22 rfl rfl ?_
      refine V_bipush dX2_joined_23 (by decide +kernel) ⟨by decide, by decide⟩ ?_
      refine V_icmp_ne (tgt := 31) dX2_joined_25 (by decide) (fun c3 => ?_) (fun c3 => ?_)
      · refine V_iload_n (i := 0) dX2_joined_31 rfl rfl ?_
        by_cases c4 : i0 = 38
        · refine V_look (off := 44) (tgt := 76) dX2_joined_32 (by decide) (by rw [c4]; decide) (by decide) ?_
          refine V_iload_n (i := 1) dX2_joined_76 rfl rfl ?_
          refine V_iload_n (i := 2) dX2_joined_77 rfl rfl ?_
          refine V_iand dX2_joined_78 ?_
          exact V_reti rfl dX2_joined_79 (q2 c1 c2 c3 c4)
        by_cases c5 : i0 = 43
        · refine V_look (off := 56) (tgt := 88) dX2_joined_32 (by decide) (by rw [c5]; decide) (by decide) ?_
          refine V_iload_n (i := 1) dX2_joined_88 rfl rfl ?_
          refine V_iload_n (i := 2) dX2_joined_89 rfl rfl ?_
          refine V_iadd dX2_joined_90 (r1 c1 c2 c3 c4 c5) ?_
          refine V_sipush dX2_joined_91 (by decide +kernel) ⟨by decide, by decide⟩ ?_
          refine V_iand dX2_joined_94 ?_
          exact V_reti rfl dX2_joined_95 (q3 c1 c2 c3 c4 c5)
        by_cases c6 : i0 = 94
        · refine V_look (off := 52) (tgt := 84) dX2_joined_32 (by decide) (by rw [c6]; decide) (by decide) ?_
          refine V_iload_n (i := 1) dX2_joined_84 rfl rfl ?_
          refine V_iload_n (i := 2) dX2_joined_85 rfl rfl ?_
          refine V_ixor dX2_joined_86 ?_
          exact V_reti rfl dX2_joined_87 (q4 c1 c2 c3 c4 c5 c6)
        by_cases c7 : i0 = 124
        · refine V_look (off := 48) (tgt := 80) dX2_joined_32 (by decide) (by rw [c7]; decide) (by decide) ?_
          refine V_iload_n (i := 1) dX2_joined_80 rfl rfl ?_
          refine V_iload_n (i := 2) dX2_joined_81 rfl rfl ?_
          refine V_ior dX2_joined_82 ?_
          exact V_reti rfl dX2_joined_83 (q5 c1 c2 c3 c4 c5 c6 c7)
        refine V_look (off := 64) (tgt := 96) dX2_joined_32 (by decide) (by simp [Op.lookupswitch.offset, Ne.symm c4, Ne.symm c5, Ne.symm c6, Ne.symm c7, c4, c5, c6, c7]) (by decide) ?_
        refine V_iload_n (i := 1) dX2_joined_96 rfl rfl ?_
        refine V_iload_n (i := 2) dX2_joined_97 rfl rfl ?_
        refine V_isub dX2_joined_98 (r2 c1 c2 c3 c4 c5 c6 c7) ?_
        refine V_sipush dX2_joined_99 (by decide +kernel) ⟨by decide, by decide⟩ ?_
        refine V_iand dX2_joined_102 ?_
        exact V_reti rfl dX2_joined_103 (q6 c1 c2 c3 c4 c5 c6 c7)
      · refine V_bipush dX2_joined_28 (by decide +kernel) ⟨by decide, by decide⟩ ?_
        exact V_reti rfl dX2_joined_30 (q7 c1 c2 c3)
  · refine V_iload_n (i := 1) dX2_joined_6 rfl rfl ?_
    refine V_if_eq (tgt := 14) dX2_joined_7 (by decide) (fun c8 => ?_) (fun c8 => ?_)
    · refine V_iconst dX2_joined_14 ⟨by decide, by decide⟩ ?_
      exact V_reti rfl dX2_joined_15 (q8 c1 c8)
    · refine V_iload_n (i := 2) dX2_joined_10 rfl rfl ?_
      refine V_if_ne (tgt := 16) dX2_joined_11 (by decide) (fun c9 => ?_) (fun c9 => ?_)
      · refine V_iload_n (i := 1) dX2_joined_16 rfl rfl ?_
        refine V_bipush dX2_joined_17 (by decide +kernel) ⟨by decide, by decide⟩ ?_
        refine V_icmp_eq (tgt := 28) dX2_joined_19 (by decide) (fun c10 => ?_) (fun c10 => ?_)
        · refine V_bipush dX2_joined_28 (by decide +kernel) ⟨by decide, by decide⟩ ?_
          exact V_reti rfl dX2_joined_30 (q9 c1 c8 c9 c10)
        · refine V_iload_n (i := 2) dX2_joined_22 rfl rfl ?_
          refine V_bipush dX2_joined_23 (by decide +kernel) ⟨by decide, by decide⟩ ?_
          refine V_icmp_ne (tgt := 31) dX2_joined_25 (by decide) (fun c11 => ?_) (fun c11 => ?_)
          · refine V_iload_n (i := 0) dX2_joined_31 rfl rfl ?_
            by_cases c12 : i0 = 38
            · refine V_look (off := 44) (tgt := 76) dX2_joined_32 (by decide) (by rw [c12]; decide) (by decide) ?_
              refine V_iload_n (i := 1) dX2_joined_76 rfl rfl ?_
              refine V_iload_n (i := 2) dX2_joined_77 rfl rfl ?_
              refine V_iand dX2_joined_78 ?_
              exact V_reti rfl dX2_joined_79 (q10 c1 c8 c9 c10 c11 c12)
            by_cases c13 : i0 = 43
            · refine V_look (off := 56) (tgt := 88) dX2_joined_32 (by decide) (by rw [c13]; decide) (by decide) ?_
              refine V_iload_n (i := 1) dX2_joined_88 rfl rfl ?_
              refine V_iload_n (i := 2) dX2_joined_89 rfl rfl ?_
              refine V_iadd dX2_joined_90 (r3 c1 c8 c9 c10 c11 c12 c13) ?_
              refine V_sipush dX2_joined_91 (by decide +kernel) ⟨by decide, by decide⟩ ?_
              refine V_iand dX2_joined_94 ?_
              exact V_reti rfl dX2_joined_95 (q11 c1 c8 c9 c10 c11 c12 c13)
            by_cases c14 : i0 = 94
            · refine V_look (off := 52) (tgt := 84) dX2_joined_32 (by decide) (by rw [c14]; decide) (by decide) ?_
              refine V_iload_n (i := 1) dX2_joined_84 rfl rfl ?_
              refine V_iload_n (i := 2) dX2_joined_85 rfl rfl ?_
              refine V_ixor dX2_joined_86 ?_
              exact V_reti rfl dX2_joined_87 (q12 c1 c8 c9 c10 c11 c12 c13 c14)
            by_cases c15 : i0 = 124
            · refine V_look (off := 48) (tgt := 80) dX2_joined_32 (by decide) (by rw [c15]; decide) (by decide) ?_
              refine V_iload_n (i := 1) dX2_joined_80 rfl rfl ?_
              refine V_iload_n (i := 2) dX2_joined_81 rfl rfl ?_
              refine V_ior dX2_joined_82 ?_
              exact V_reti rfl dX2_joined_83 (q13 c1 c8 c9 c10 c11 c12 c13 c14 c15)
            refine V_look (off := 64) (tgt := 96) dX2_joined_32 (by decide) (by simp [Op.lookupswitch.offset, Ne.symm c12, Ne.symm c13, Ne.symm c14, Ne.symm c15, c12, c13, c14, c15]) (by decide) ?_
            refine V_iload_n (i := 1) dX2_joined_96 rfl rfl ?_
            refine V_iload_n (i := 2) dX2_joined_97 rfl rfl ?_
            refine V_isub dX2_joined_98 (r4 c1 c8 c9 c10 c11 c12 c13 c14 c15) ?_
            refine V_sipush dX2_joined_99 (by decide +kernel) ⟨by decide, by decide⟩ ?_
            refine V_iand dX2_joined_102 ?_
            exact V_reti rfl dX2_joined_103 (q14 c1 c8 c9 c10 c11 c12 c13 c14 c15)
          · refine V_bipush dX2_joined_28 (by decide +kernel) ⟨by decide, by decide⟩ ?_
            exact V_reti rfl dX2_joined_30 (q15 c1 c8 c9 c10 c11)
      · refine V_iconst dX2_joined_14 ⟨by decide, by decide⟩ ?_
        exact V_reti rfl dX2_joined_15 (q16 c1 c8 c9)
theorem pX2_joined {d : Nat} {z0 z1 z2 : Int} {h : jH} (s0 : -7 ≤ z1) (s1 : z1 ≤ 255) (s2 : -7 ≤ z2) (s3 : z2 ≤ 255) : Ex MX2_joined d [.inl z0, .inl z1, .inl z2] h 0 0 (fun r h2 => r = some (.inl (jop z0 z1 z2)) ∧ h2 = h) := by
  refine Ex_of_V tX2_joined (Nat.le_of_ble_eq_true rfl) (bX2_joined_0 z0 z1 z2 h ?_ ?_ ?_ ?_ ?_ ?_ ?_ ?_ ?_ ?_ ?_ ?_ ?_ ?_ ?_ ?_ ?_ ?_ ?_ ?_)
  all_goals intros
  all_goals first
    | assumption
    | omega
    | (constructor <;> omega)
    | exact ⟨rfl, rfl⟩
    | (refine ⟨congrArg (fun z => some (Sum.inl z)) ?_, rfl⟩; simp [jop, jneg, jlet, jorn, jaft, *]; done)
    | (refine ⟨congrArg (fun z => some (Sum.inl z)) ?_, rfl⟩; simp [jop, jneg, jlet, jorn, jaft, *] <;> omega)
    | (refine ⟨congrArg (fun z => some (Sum.inl z)) ?_, rfl⟩; simp_all [jop, jneg, jlet, jorn, jaft] <;> omega)
    | (simp_all; done)
theorem dX7_letter_0 : decode cX7_letter 0 = .ok (.aload_n 0, 1) := by decide +kernel
theorem dX7_letter_1 : decode cX7_letter 1 = .ok (.getfield 28, 3) := by decide +kernel
theorem dX7_letter_4 : decode cX7_letter 4 = .ok (.bipush 97, 2) := by decide +kernel
theorem dX7_letter_6 : decode cX7_letter 6 = .ok (.if_icmp .lt 22, 3) := by decide +kernel
theorem dX7_letter_9 : decode cX7_letter 9 = .ok (.aload_n 0, 1) := by decide +kernel
theorem dX7_letter_10 : decode cX7_letter 10 = .ok (.getfield 28, 3) := by decide +kernel
theorem dX7_letter_13 : decode cX7_letter 13 = .ok (.bipush 122, 2) := by decide +kernel
theorem dX7_letter_15 : decode cX7_letter 15 = .ok (.if_icmp .gt 13, 3) := by decide +kernel
theorem dX7_letter_18 : decode cX7_letter 18 = .ok (.aload_n 0, 1) := by decide +kernel
theorem dX7_letter_19 : decode cX7_letter 19 = .ok (.getfield 28, 3) := by decide +kernel
theorem dX7_letter_22 : decode cX7_letter 22 = .ok (.bipush 97, 2) := by decide +kernel
theorem dX7_letter_24 : decode cX7_letter 24 = .ok (.isub, 1) := by decide +kernel
theorem dX7_letter_25 : decode cX7_letter 25 = .ok (.goto 5, 3) := by decide +kernel
theorem dX7_letter_28 : decode cX7_letter 28 = .ok (.bipush (-9), 2) := by decide +kernel
theorem dX7_letter_30 : decode cX7_letter 30 = .ok (.ireturn, 1) := by decide +kernel
theorem bX7_letter_0 {d : Nat} {Q : Option jA → jH → Prop} (a0 : Nat) (h : jH)
    (s1 : (jS h a0).1 = 7)
    (q1 : ((jI h a0 4) < 97) → Q (some (.inl ((-9)))) h)
    (q2 : (¬ ((jI h a0 4) < 97)) → (122 < (jI h a0 4)) → Q (some (.inl ((-9)))) h)
    (r1 : (¬ ((jI h a0 4) < 97)) → (¬ (122 < (jI h a0 4))) → jR ((jI h a0 4) - 97))
    (q3 : (¬ ((jI h a0 4) < 97)) → (¬ (122 < (jI h a0 4))) → Q (some (.inl ((jI h a0 4) - 97))) h) :
    V MX7_letter d 0 [some (.inr a0)] [] h 0 0 Q := by
  refine V_aload_n (i := 0) dX7_letter_0 rfl rfl ?_
  refine V_getI dX7_letter_1 fX7_28 rfl s1 ?_
  refine V_bipush dX7_letter_4 (by decide +kernel) ⟨by decide, by decide⟩ ?_
  refine V_icmp_lt (tgt := 28) dX7_letter_6 (by decide) (fun c1 => ?_) (fun c1 => ?_)
  · refine V_bipush dX7_letter_28 (by decide +kernel) ⟨by decide, by decide⟩ ?_
    exact V_reti rfl dX7_letter_30 (q1 c1)
  · refine V_aload_n (i := 0) dX7_letter_9 rfl rfl ?_
    refine V_getI dX7_letter_10 fX7_28 rfl s1 ?_
    refine V_bipush dX7_letter_13 (by decide +kernel) ⟨by decide, by decide⟩ ?_
    refine V_icmp_gt (tgt := 28) dX7_letter_15 (by decide) (fun c2 => ?_) (fun c2 => ?_)
    · refine V_bipush dX7_letter_28 (by decide +kernel) ⟨by decide, by decide⟩ ?_
      exact V_reti rfl dX7_letter_30 (q2 c1 c2)
    · refine V_aload_n (i := 0) dX7_letter_18 rfl rfl ?_
      refine V_getI dX7_letter_19 fX7_28 rfl s1 ?_
      refine V_bipush dX7_letter_22 (by decide +kernel) ⟨by decide, by decide⟩ ?_
      refine V_isub dX7_letter_24 (r1 c1 c2) ?_
      refine V_goto (tgt := 30) dX7_letter_25 (by decide) ?_
      exact V_reti rfl dX7_letter_30 (q3 c1 c2)
theorem pX7_letter {d : Nat} {r0 : Nat} {h : jH} (s0 : (jS h r0).1 = 7) : Ex MX7_letter d [.inr r0] h 0 0 (fun r h2 => r = some (.inl (jlet (jI h r0 4))) ∧ h2 = h) := by
  refine Ex_of_V tX7_letter (Nat.le_of_ble_eq_true rfl) (bX7_letter_0 r0 h ?_ ?_ ?_ ?_ ?_)
  all_goals intros
  all_goals first
    | assumption
    | omega
    | (constructor <;> omega)
    | exact ⟨rfl, rfl⟩
    | (refine ⟨congrArg (fun z => some (Sum.inl z)) ?_, rfl⟩; simp [jop, jneg, jlet, jorn, jaft, *]; done)
    | (refine ⟨congrArg (fun z => some (Sum.inl z)) ?_, rfl⟩; simp [jop, jneg, jlet, jorn, jaft, *] <;> omega)
    | (refine ⟨congrArg (fun z => some (Sum.inl z)) ?_, rfl⟩; simp_all [jop, jneg, jlet, jorn, jaft] <;> omega)
    | (simp_all; done)
theorem dX5_isOperator_0 : decode cX5_isOperator 0 = .ok (.iload_n 0, 1) := by decide +kernel
theorem dX5_isOperator_1 : decode cX5_isOperator 1 = .ok (.bipush 38, 2) := by decide +kernel
theorem dX5_isOperator_3 : decode cX5_isOperator 3 = .ok (.if_icmp .eq 27, 3) := by decide +kernel
theorem dX5_isOperator_6 : decode cX5_isOperator 6 = .ok (.iload_n 0, 1) := by decide +kernel
theorem dX5_isOperator_7 : decode cX5_isOperator 7 = .ok (.bipush 124, 2) := by decide +kernel
theorem dX5_isOperator_9 : decode cX5_isOperator 9 = .ok (.if_icmp .eq 21, 3) := by decide +kernel
theorem dX5_isOperator_12 : decode cX5_isOperator 12 = .ok (.iload_n 0, 1) := by decide +kernel
theorem dX5_isOperator_13 : decode cX5_isOperator 13 = .ok (.bipush 94, 2) := by decide +kernel
theorem dX5_isOperator_15 : decode cX5_isOperator 15 = .ok (.if_icmp .eq 15, 3) := by decide +kernel
theorem dX5_isOperator_18 : decode cX5_isOperator 18 = .ok (.iload_n 0, 1) := by decide +kernel
theorem dX5_isOperator_19 : decode cX5_isOperator 19 = .ok (.bipush 43, 2) := by decide +kernel
theorem dX5_isOperator_21 : decode cX5_isOperator 21 = .ok (.if_icmp .eq 9, 3) := by decide +kernel
theorem dX5_isOperator_24 : decode cX5_isOperator 24 = .ok (.iload_n 0, 1) := by decide +kernel
theorem dX5_isOperator_25 : decode cX5_isOperator 25 = .ok (.bipush 45, 2) := by decide +kernel
theorem dX5_isOperator_27 : decode cX5_isOperator 27 = .ok (.if_icmp .ne 7, 3) := by decide +kernel
theorem dX5_isOperator_30 : decode cX5_isOperator 30 = .ok (.iconst 1, 1) := by decide +kernel
theorem dX5_isOperator_31 : decode cX5_isOperator 31 = .ok (.goto 4, 3) := by decide +kernel
theorem dX5_isOperator_34 : decode cX5_isOperator 34 = .ok (.iconst 0, 1) := by decide +kernel
theorem dX5_isOperator_35 : decode cX5_isOperator 35 = .ok (.ireturn, 1) := by decide +kernel
theorem bX5_isOperator_0 {d : Nat} {Q : Option jA → jH → Prop} (i0 : Int) (h : jH)
    (q1 : (i0 = 38) → Q (some (.inl 1)) h)
    (q2 : (¬ (i0 = 38)) → (i0 = 124) → Q (some (.inl 1)) h)
    (q3 : (¬ (i0 = 38)) → (¬ (i0 = 124)) → (i0 = 94) → Q (some (.inl 1)) h)
    (q4 : (¬ (i0 = 38)) → (¬ (i0 = 124)) → (¬ (i0 = 94)) → (i0 = 43) → Q (some (.inl 1)) h)
    (q5 : (¬ (i0 = 38)) → (¬ (i0 = 124)) → (¬ (i0 = 94)) → (¬ (i0 = 43)) → (i0 ≠ 45) → Q (some (.inl 0)) h)
    (q6 : (¬ (i0 = 38)) → (¬ (i0 = 124)) → (¬ (i0 = 94)) → (¬ (i0 = 43)) → (i0 = 45) → Q (some (.inl 1)) h) :
    V MX5_isOperator d 0 [some (.inl i0)] [] h 0 0 Q := by
  refine V_iload_n (i := 0) dX5_isOperator_0 rfl rfl ?_
  refine V_bipush dX5_isOperator_1 (by decide +kernel) ⟨by decide, by decide⟩ ?_
  refine V_icmp_eq (tgt := 30) dX5_isOperator_3 (by decide) (fun c1 => ?_) (fun c1 => ?_)
  · refine V_iconst dX5_isOperator_30 ⟨by decide, by decide⟩ ?_
    refine V_goto (tgt := 35) dX5_isOperator_31 (by decide) ?_
    exact V_retz rfl dX5_isOperator_35 (by decide) (q1 c1)
  · refine V_iload_n (i := 0) dX5_isOperator_6 rfl rfl ?_
    refine V_bipush dX5_isOperator_7 (by decide +kernel) ⟨by decide, by decide⟩ ?_
    refine V_icmp_eq (tgt := 30) dX5_isOperator_9 (by decide) (fun c2 => ?_) (fun c2 => ?_)
    · refine V_iconst dX5_isOperator_30 ⟨by decide, by decide⟩ ?_
      refine V_goto (tgt := 35) dX5_isOperator_31 (by decide) ?_
      exact V_retz rfl dX5_isOperator_35 (by decide) (q2 c1 c2)
    · refine V_iload_n (i := 0) dX5_isOperator_12 rfl rfl ?_
      refine V_bipush dX5_isOperator_13 (by decide +kernel) ⟨by decide, by decide⟩ ?_
      refine V_icmp_eq (tgt := 30) dX5_isOperator_15 (by decide) (fun c3 => ?_) (fun c3 => ?_)
      · refine V_iconst dX5_isOperator_30 ⟨by decide, by decide⟩ ?_
        refine V_goto (tgt := 35) dX5_isOperator_31 (by decide) ?_
        exact V_retz rfl dX5_isOperator_35 (by decide) (q3 c1 c2 c3)
      · refine V_iload_n (i := 0) dX5_isOperator_18 rfl rfl ?_
        refine V_bipush dX5_isOperator_19 (by decide +kernel) ⟨by decide, by decide⟩ ?_
        refine V_icmp_eq (tgt := 30) dX5_isOperator_21 (by decide) (fun c4 => ?_) (fun c4 => ?_)
        · refine V_iconst dX5_isOperator_30 ⟨by decide, by decide⟩ ?_
          refine V_goto (tgt := 35) dX5_isOperator_31 (by decide) ?_
          exact V_retz rfl dX5_isOperator_35 (by decide) (q4 c1 c2 c3 c4)
        · refine V_iload_n (i := 0) dX5_isOperator_24 rfl rfl ?_
          refine V_bipush dX5_isOperator_25 (by decide +kernel) ⟨by decide, by decide⟩ ?_
          refine V_icmp_ne (tgt := 34) dX5_isOperator_27 (by decide) (fun c5 => ?_) (fun c5 => ?_)
          · refine V_iconst dX5_isOperator_34 ⟨by decide, by decide⟩ ?_
            exact V_retz rfl dX5_isOperator_35 (by decide) (q5 c1 c2 c3 c4 c5)
          · refine V_iconst dX5_isOperator_30 ⟨by decide, by decide⟩ ?_
            refine V_goto (tgt := 35) dX5_isOperator_31 (by decide) ?_
            exact V_retz rfl dX5_isOperator_35 (by decide) (q6 c1 c2 c3 c4 c5)
theorem pX5_isOperator {d : Nat} {z0 : Int} {h : jH}  : Ex MX5_isOperator d [.inl z0] h 0 0 (fun r h2 => r = some (.inl (jb (z0 = 38 ∨ z0 = 124 ∨ z0 = 94 ∨ z0 = 43 ∨ z0 = 45))) ∧ h2 = h) := by
  refine Ex_of_V tX5_isOperator (Nat.le_of_ble_eq_true rfl) (bX5_isOperator_0 z0 h ?_ ?_ ?_ ?_ ?_ ?_)
  all_goals intros
  all_goals first
    | assumption
    | omega
    | (constructor <;> omega)
    | (refine ⟨?_, rfl⟩; rw [jb_t]; first | omega | (refine ⟨?_, ?_⟩ <;> omega) | (refine ⟨?_, ?_, ?_⟩ <;> first | assumption | omega) | (simp_all; done))
    | (refine ⟨?_, rfl⟩; rw [jb_f]; first | omega | (simp_all; done))
    | (simp_all; done)
theorem dX8_isSignal_0 : decode cX8_isSignal 0 = .ok (.iload_n 1, 1) := by decide +kernel
theorem dX8_isSignal_1 : decode cX8_isSignal 1 = .ok (.ifCond .lt 18, 3) := by decide +kernel
theorem dX8_isSignal_4 : decode cX8_isSignal 4 = .ok (.iload_n 1, 1) := by decide +kernel
theorem dX8_isSignal_5 : decode cX8_isSignal 5 = .ok (.aload_n 0, 1) := by decide +kernel
theorem dX8_isSignal_6 : decode cX8_isSignal 6 = .ok (.getfield 19, 3) := by decide +kernel
theorem dX8_isSignal_9 : decode cX8_isSignal 9 = .ok (.getfield 234, 3) := by decide +kernel
theorem dX8_isSignal_12 : decode cX8_isSignal 12 = .ok (.if_icmp .ge 7, 3) := by decide +kernel
theorem dX8_isSignal_15 : decode cX8_isSignal 15 = .ok (.iconst 1, 1) := by decide +kernel
theorem dX8_isSignal_16 : decode cX8_isSignal 16 = .ok (.goto 4, 3) := by decide +kernel
theorem dX8_isSignal_19 : decode cX8_isSignal 19 = .ok (.iconst 0, 1) := by decide +kernel
theorem dX8_isSignal_20 : decode cX8_isSignal 20 = .ok (.ireturn, 1) := by decide +kernel
theorem bX8_isSignal_0 {d : Nat} {Q : Option jA → jH → Prop} (a0 : Nat) (i1 : Int) (h : jH)
    (q1 : (i1 < 0) → Q (some (.inl 0)) h)
    (s1 : (jS h a0).1 = 8)
    (s2 : (jS h (jP h a0 1)).1 = 2)
    (q2 : (¬ (i1 < 0)) → ((jI h (jP h a0 1) 0) ≤ i1) → Q (some (.inl 0)) h)
    (q3 : (¬ (i1 < 0)) → (¬ ((jI h (jP h a0 1) 0) ≤ i1)) → Q (some (.inl 1)) h) :
    V MX8_isSignal d 0 [some (.inr a0), some (.inl i1)] [] h 0 0 Q := by
  refine V_iload_n (i := 1) dX8_isSignal_0 rfl rfl ?_
  refine V_if_lt (tgt := 19) dX8_isSignal_1 (by decide) (fun c1 => ?_) (fun c1 => ?_)
  · refine V_iconst dX8_isSignal_19 ⟨by decide, by decide⟩ ?_
    exact V_retz rfl dX8_isSignal_20 (by decide) (q1 c1)
  · refine V_iload_n (i := 1) dX8_isSignal_4 rfl rfl ?_
    refine V_aload_n (i := 0) dX8_isSignal_5 rfl rfl ?_
    refine V_getP dX8_isSignal_6 fX8_19 rfl s1 ?_
    refine V_getI dX8_isSignal_9 fX8_234 rfl s2 ?_
    refine V_icmp_ge (tgt := 19) dX8_isSignal_12 (by decide) (fun c2 => ?_) (fun c2 => ?_)
    · refine V_iconst dX8_isSignal_19 ⟨by decide, by decide⟩ ?_
      exact V_retz rfl dX8_isSignal_20 (by decide) (q2 c1 c2)
    · refine V_iconst dX8_isSignal_15 ⟨by decide, by decide⟩ ?_
      refine V_goto (tgt := 20) dX8_isSignal_16 (by decide) ?_
      exact V_retz rfl dX8_isSignal_20 (by decide) (q3 c1 c2)
theorem pX8_isSignal {d : Nat} {z1 : Int} {r0 : Nat} {h : jH} (s0 : (jS h r0).1 = 8) (s1 : (jS h (jP h r0 1)).1 = 2) : Ex MX8_isSignal d [.inr r0, .inl z1] h 0 0 (fun r h2 => r = some (.inl (jb (0 ≤ z1 ∧ z1 < (jI h (jP h r0 1) 0)))) ∧ h2 = h) := by
  refine Ex_of_V tX8_isSignal (Nat.le_of_ble_eq_true rfl) (bX8_isSignal_0 r0 z1 h ?_ ?_ ?_ ?_ ?_)
  all_goals intros
  all_goals first
    | assumption
    | omega
    | (constructor <;> omega)
    | (refine ⟨?_, rfl⟩; rw [jb_t]; first | omega | (refine ⟨?_, ?_⟩ <;> omega) | (refine ⟨?_, ?_, ?_⟩ <;> first | assumption | omega) | (simp_all; done))
    | (refine ⟨?_, rfl⟩; rw [jb_f]; first | omega | (simp_all; done))
    | (simp_all; done)
theorem dX8_isWire_0 : decode cX8_isWire 0 = .ok (.aload_n 0, 1) := by decide +kernel
theorem dX8_isWire_1 : decode cX8_isWire 1 = .ok (.iload_n 1, 1) := by decide +kernel
theorem dX8_isWire_2 : decode cX8_isWire 2 = .ok (.invokevirtual 126, 3) := by decide +kernel
theorem dX8_isWire_5 : decode cX8_isWire 5 = .ok (.ifCond .eq 19, 3) := by decide +kernel
theorem dX8_isWire_8 : decode cX8_isWire 8 = .ok (.aload_n 0, 1) := by decide +kernel
theorem dX8_isWire_9 : decode cX8_isWire 9 = .ok (.getfield 19, 3) := by decide +kernel
theorem dX8_isWire_12 : decode cX8_isWire 12 = .ok (.getfield 130, 3) := by decide +kernel
theorem dX8_isWire_15 : decode cX8_isWire 15 = .ok (.iload_n 1, 1) := by decide +kernel
theorem dX8_isWire_16 : decode cX8_isWire 16 = .ok (.iaload, 1) := by decide +kernel
theorem dX8_isWire_17 : decode cX8_isWire 17 = .ok (.ifCond .ne 7, 3) := by decide +kernel
theorem dX8_isWire_20 : decode cX8_isWire 20 = .ok (.iconst 1, 1) := by decide +kernel
theorem dX8_isWire_21 : decode cX8_isWire 21 = .ok (.goto 4, 3) := by decide +kernel
theorem dX8_isWire_24 : decode cX8_isWire 24 = .ok (.iconst 0, 1) := by decide +kernel
theorem dX8_isWire_25 : decode cX8_isWire 25 = .ok (.ireturn, 1) := by decide +kernel
theorem bX8_isWire_0 {d : Nat} {Q : Option jA → jH → Prop} (a0 : Nat) (i1 : Int) (h : jH)
    (s1 : (jS h a0).1 = 8)
    (s2 : (jS h (jP h a0 1)).1 = 2)
    (q1 : (¬ (0 ≤ i1 ∧ i1 < (jI h (jP h a0 1) 0))) → Q (some (.inl 0)) h)
    (s3 : (jS h (jP h (jP h a0 1) 4)).1 = 16)
    (s4 : (0 ≤ i1 ∧ i1 < (jI h (jP h a0 1) 0)) → 0 ≤ i1)
    (s5 : (0 ≤ i1 ∧ i1 < (jI h (jP h a0 1) 0)) → i1 < ((jS h (jP h (jP h a0 1) 4)).2 : Int))
    (q2 : (0 ≤ i1 ∧ i1 < (jI h (jP h a0 1) 0)) → ((jX h (jP h (jP h a0 1) 4) ((i1).toNat)) ≠ 0) → Q (some (.inl 0)) h)
    (q3 : (0 ≤ i1 ∧ i1 < (jI h (jP h a0 1) 0)) → ((jX h (jP h (jP h a0 1) 4) ((i1).toNat)) = 0) → Q (some (.inl 1)) h) :
    V MX8_isWire (d + 1) 0 [some (.inr a0), some (.inl i1)] [] h 0 0 Q := by
  refine V_aload_n (i := 0) dX8_isWire_0 rfl rfl ?_
  refine V_iload_n (i := 1) dX8_isWire_1 rfl rfl ?_
  refine V_callV (M := MX8_isWire) (d := (d + 1)) (mc' := 0) (ms' := 0) (mc := 0) (ms := 0) (As := [.inl i1]) (rest := []) dX8_isWire_2 tX8_isSignal vX8_isSignal lX8_126 s1 ⟨by decide, rfl⟩ rfl rfl (Nat.le_of_ble_eq_true rfl) (show d + 1 ≤ (d + 1) by omega) (Ex.mono (pX8_isSignal (d := d) s1 s2) ?_)
  intro v h2 hq
  rw [hq.1, hq.2]
  show V MX8_isWire (d + 1) 5 [some (.inr a0), some (.inl i1)] [.inl (jb (0 ≤ i1 ∧ i1 < (jI h (jP h a0 1) 0)))] h 0 0 Q
  refine V_ifb_eq (tgt := 24) dX8_isWire_5 (by decide) (fun c1 => ?_) (fun c1 => ?_)
  · refine V_iconst dX8_isWire_24 ⟨by decide, by decide⟩ ?_
    exact V_retz rfl dX8_isWire_25 (by decide) (q1 c1)
  · refine V_aload_n (i := 0) dX8_isWire_8 rfl rfl ?_
    refine V_getP dX8_isWire_9 fX8_19 rfl s1 ?_
    refine V_getP dX8_isWire_12 fX8_130 rfl s2 ?_
    refine V_iload_n (i := 1) dX8_isWire_15 rfl rfl ?_
    refine V_iald dX8_isWire_16 s3 (s4 c1) (s5 c1) ?_
    refine V_if_ne (tgt := 24) dX8_isWire_17 (by decide) (fun c2 => ?_) (fun c2 => ?_)
    · refine V_iconst dX8_isWire_24 ⟨by decide, by decide⟩ ?_
      exact V_retz rfl dX8_isWire_25 (by decide) (q2 c1 c2)
    · refine V_iconst dX8_isWire_20 ⟨by decide, by decide⟩ ?_
      refine V_goto (tgt := 25) dX8_isWire_21 (by decide) ?_
      exact V_retz rfl dX8_isWire_25 (by decide) (q3 c1 c2)
theorem pX8_isWire {d : Nat} {z1 : Int} {r0 : Nat} {h : jH} (s0 : (jS h r0).1 = 8) (s1 : (jS h (jP h r0 1)).1 = 2) (s2 : (jS h (jP h (jP h r0 1) 4)).1 = 16) (s3 : (jS h (jP h (jP h r0 1) 4)).2 = 12) (s4 : jI h (jP h r0 1) 0 ≤ 12) : Ex MX8_isWire (d + 1) [.inr r0, .inl z1] h 0 0 (fun r h2 => r = some (.inl (jb (0 ≤ z1 ∧ z1 < (jI h (jP h r0 1) 0) ∧ (jX h (jP h (jP h r0 1) 4) (z1.toNat)) = 0))) ∧ h2 = h) := by
  refine Ex_of_V tX8_isWire (Nat.le_of_ble_eq_true rfl) (bX8_isWire_0 r0 z1 h ?_ ?_ ?_ ?_ ?_ ?_ ?_ ?_)
  all_goals intros
  all_goals first
    | assumption
    | omega
    | (constructor <;> omega)
    | (refine ⟨?_, rfl⟩; rw [jb_t]; first | omega | (refine ⟨?_, ?_⟩ <;> omega) | (refine ⟨?_, ?_, ?_⟩ <;> first | assumption | omega) | (simp_all; done))
    | (refine ⟨?_, rfl⟩; rw [jb_f]; first | omega | (simp_all; done))
    | (simp_all; done)
theorem dX8_isBlock_0 : decode cX8_isBlock 0 = .ok (.iload_n 1, 1) := by decide +kernel
theorem dX8_isBlock_1 : decode cX8_isBlock 1 = .ok (.ifCond .lt 18, 3) := by decide +kernel
theorem dX8_isBlock_4 : decode cX8_isBlock 4 = .ok (.iload_n 1, 1) := by decide +kernel
theorem dX8_isBlock_5 : decode cX8_isBlock 5 = .ok (.aload_n 0, 1) := by decide +kernel
theorem dX8_isBlock_6 : decode cX8_isBlock 6 = .ok (.getfield 38, 3) := by decide +kernel
theorem dX8_isBlock_9 : decode cX8_isBlock 9 = .ok (.getfield 193, 3) := by decide +kernel
theorem dX8_isBlock_12 : decode cX8_isBlock 12 = .ok (.if_icmp .ge 7, 3) := by decide +kernel
theorem dX8_isBlock_15 : decode cX8_isBlock 15 = .ok (.iconst 1, 1) := by decide +kernel
theorem dX8_isBlock_16 : decode cX8_isBlock 16 = .ok (.goto 4, 3) := by decide +kernel
theorem dX8_isBlock_19 : decode cX8_isBlock 19 = .ok (.iconst 0, 1) := by decide +kernel
theorem dX8_isBlock_20 : decode cX8_isBlock 20 = .ok (.ireturn, 1) := by decide +kernel
theorem bX8_isBlock_0 {d : Nat} {Q : Option jA → jH → Prop} (a0 : Nat) (i1 : Int) (h : jH)
    (q1 : (i1 < 0) → Q (some (.inl 0)) h)
    (s1 : (jS h a0).1 = 8)
    (s2 : (jS h (jP h a0 4)).1 = 6)
    (q2 : (¬ (i1 < 0)) → ((jI h (jP h a0 4) 4) ≤ i1) → Q (some (.inl 0)) h)
    (q3 : (¬ (i1 < 0)) → (¬ ((jI h (jP h a0 4) 4) ≤ i1)) → Q (some (.inl 1)) h) :
    V MX8_isBlock d 0 [some (.inr a0), some (.inl i1)] [] h 0 0 Q := by
  refine V_iload_n (i := 1) dX8_isBlock_0 rfl rfl ?_
  refine V_if_lt (tgt := 19) dX8_isBlock_1 (by decide) (fun c1 => ?_) (fun c1 => ?_)
  · refine V_iconst dX8_isBlock_19 ⟨by decide, by decide⟩ ?_
    exact V_retz rfl dX8_isBlock_20 (by decide) (q1 c1)
  · refine V_iload_n (i := 1) dX8_isBlock_4 rfl rfl ?_
    refine V_aload_n (i := 0) dX8_isBlock_5 rfl rfl ?_
    refine V_getP dX8_isBlock_6 fX8_38 rfl s1 ?_
    refine V_getI dX8_isBlock_9 fX8_193 rfl s2 ?_
    refine V_icmp_ge (tgt := 19) dX8_isBlock_12 (by decide) (fun c2 => ?_) (fun c2 => ?_)
    · refine V_iconst dX8_isBlock_19 ⟨by decide, by decide⟩ ?_
      exact V_retz rfl dX8_isBlock_20 (by decide) (q2 c1 c2)
    · refine V_iconst dX8_isBlock_15 ⟨by decide, by decide⟩ ?_
      refine V_goto (tgt := 20) dX8_isBlock_16 (by decide) ?_
      exact V_retz rfl dX8_isBlock_20 (by decide) (q3 c1 c2)
theorem pX8_isBlock {d : Nat} {z1 : Int} {r0 : Nat} {h : jH} (s0 : (jS h r0).1 = 8) (s1 : (jS h (jP h r0 4)).1 = 6) : Ex MX8_isBlock d [.inr r0, .inl z1] h 0 0 (fun r h2 => r = some (.inl (jb (0 ≤ z1 ∧ z1 < (jI h (jP h r0 4) 4)))) ∧ h2 = h) := by
  refine Ex_of_V tX8_isBlock (Nat.le_of_ble_eq_true rfl) (bX8_isBlock_0 r0 z1 h ?_ ?_ ?_ ?_ ?_)
  all_goals intros
  all_goals first
    | assumption
    | omega
    | (constructor <;> omega)
    | (refine ⟨?_, rfl⟩; rw [jb_t]; first | omega | (refine ⟨?_, ?_⟩ <;> omega) | (refine ⟨?_, ?_, ?_⟩ <;> first | assumption | omega) | (simp_all; done))
    | (refine ⟨?_, rfl⟩; rw [jb_f]; first | omega | (simp_all; done))
    | (simp_all; done)
theorem dX8_isPast_0 : decode cX8_isPast 0 = .ok (.iload_n 1, 1) := by decide +kernel
theorem dX8_isPast_1 : decode cX8_isPast 1 = .ok (.ifCond .lt 18, 3) := by decide +kernel
theorem dX8_isPast_4 : decode cX8_isPast 4 = .ok (.iload_n 1, 1) := by decide +kernel
theorem dX8_isPast_5 : decode cX8_isPast 5 = .ok (.aload_n 0, 1) := by decide +kernel
theorem dX8_isPast_6 : decode cX8_isPast 6 = .ok (.getfield 38, 3) := by decide +kernel
theorem dX8_isPast_9 : decode cX8_isPast 9 = .ok (.getfield 186, 3) := by decide +kernel
theorem dX8_isPast_12 : decode cX8_isPast 12 = .ok (.if_icmp .gt 7, 3) := by decide +kernel
theorem dX8_isPast_15 : decode cX8_isPast 15 = .ok (.iconst 1, 1) := by decide +kernel
theorem dX8_isPast_16 : decode cX8_isPast 16 = .ok (.goto 4, 3) := by decide +kernel
theorem dX8_isPast_19 : decode cX8_isPast 19 = .ok (.iconst 0, 1) := by decide +kernel
theorem dX8_isPast_20 : decode cX8_isPast 20 = .ok (.ireturn, 1) := by decide +kernel
theorem bX8_isPast_0 {d : Nat} {Q : Option jA → jH → Prop} (a0 : Nat) (i1 : Int) (h : jH)
    (q1 : (i1 < 0) → Q (some (.inl 0)) h)
    (s1 : (jS h a0).1 = 8)
    (s2 : (jS h (jP h a0 4)).1 = 6)
    (q2 : (¬ (i1 < 0)) → ((jI h (jP h a0 4) 0) < i1) → Q (some (.inl 0)) h)
    (q3 : (¬ (i1 < 0)) → (¬ ((jI h (jP h a0 4) 0) < i1)) → Q (some (.inl 1)) h) :
    V MX8_isPast d 0 [some (.inr a0), some (.inl i1)] [] h 0 0 Q := by
  refine V_iload_n (i := 1) dX8_isPast_0 rfl rfl ?_
  refine V_if_lt (tgt := 19) dX8_isPast_1 (by decide) (fun c1 => ?_) (fun c1 => ?_)
  · refine V_iconst dX8_isPast_19 ⟨by decide, by decide⟩ ?_
    exact V_retz rfl dX8_isPast_20 (by decide) (q1 c1)
  · refine V_iload_n (i := 1) dX8_isPast_4 rfl rfl ?_
    refine V_aload_n (i := 0) dX8_isPast_5 rfl rfl ?_
    refine V_getP dX8_isPast_6 fX8_38 rfl s1 ?_
    refine V_getI dX8_isPast_9 fX8_186 rfl s2 ?_
    refine V_icmp_gt (tgt := 19) dX8_isPast_12 (by decide) (fun c2 => ?_) (fun c2 => ?_)
    · refine V_iconst dX8_isPast_19 ⟨by decide, by decide⟩ ?_
      exact V_retz rfl dX8_isPast_20 (by decide) (q2 c1 c2)
    · refine V_iconst dX8_isPast_15 ⟨by decide, by decide⟩ ?_
      refine V_goto (tgt := 20) dX8_isPast_16 (by decide) ?_
      exact V_retz rfl dX8_isPast_20 (by decide) (q3 c1 c2)
theorem pX8_isPast {d : Nat} {z1 : Int} {r0 : Nat} {h : jH} (s0 : (jS h r0).1 = 8) (s1 : (jS h (jP h r0 4)).1 = 6) : Ex MX8_isPast d [.inr r0, .inl z1] h 0 0 (fun r h2 => r = some (.inl (jb (0 ≤ z1 ∧ z1 ≤ (jI h (jP h r0 4) 0)))) ∧ h2 = h) := by
  refine Ex_of_V tX8_isPast (Nat.le_of_ble_eq_true rfl) (bX8_isPast_0 r0 z1 h ?_ ?_ ?_ ?_ ?_)
  all_goals intros
  all_goals first
    | assumption
    | omega
    | (constructor <;> omega)
    | (refine ⟨?_, rfl⟩; rw [jb_t]; first | omega | (refine ⟨?_, ?_⟩ <;> omega) | (refine ⟨?_, ?_, ?_⟩ <;> first | assumption | omega) | (simp_all; done))
    | (refine ⟨?_, rfl⟩; rw [jb_f]; first | omega | (simp_all; done))
    | (simp_all; done)
theorem dX8_isKind_0 : decode cX8_isKind 0 = .ok (.iload_n 0, 1) := by decide +kernel
theorem dX8_isKind_1 : decode cX8_isKind 1 = .ok (.ifCond .lt 12, 3) := by decide +kernel
theorem dX8_isKind_4 : decode cX8_isKind 4 = .ok (.iload_n 0, 1) := by decide +kernel
theorem dX8_isKind_5 : decode cX8_isKind 5 = .ok (.iconst 2, 1) := by decide +kernel
theorem dX8_isKind_6 : decode cX8_isKind 6 = .ok (.if_icmp .gt 7, 3) := by decide +kernel
theorem dX8_isKind_9 : decode cX8_isKind 9 = .ok (.iconst 1, 1) := by decide +kernel
theorem dX8_isKind_10 : decode cX8_isKind 10 = .ok (.goto 4, 3) := by decide +kernel
theorem dX8_isKind_13 : decode cX8_isKind 13 = .ok (.iconst 0, 1) := by decide +kernel
theorem dX8_isKind_14 : decode cX8_isKind 14 = .ok (.ireturn, 1) := by decide +kernel
theorem bX8_isKind_0 {d : Nat} {Q : Option jA → jH → Prop} (i0 : Int) (h : jH)
    (q1 : (i0 < 0) → Q (some (.inl 0)) h)
    (q2 : (¬ (i0 < 0)) → (2 < i0) → Q (some (.inl 0)) h)
    (q3 : (¬ (i0 < 0)) → (¬ (2 < i0)) → Q (some (.inl 1)) h) :
    V MX8_isKind d 0 [some (.inl i0)] [] h 0 0 Q := by
  refine V_iload_n (i := 0) dX8_isKind_0 rfl rfl ?_
  refine V_if_lt (tgt := 13) dX8_isKind_1 (by decide) (fun c1 => ?_) (fun c1 => ?_)
  · refine V_iconst dX8_isKind_13 ⟨by decide, by decide⟩ ?_
    exact V_retz rfl dX8_isKind_14 (by decide) (q1 c1)
  · refine V_iload_n (i := 0) dX8_isKind_4 rfl rfl ?_
    refine V_iconst dX8_isKind_5 ⟨by decide, by decide⟩ ?_
    refine V_icmp_gt (tgt := 13) dX8_isKind_6 (by decide) (fun c2 => ?_) (fun c2 => ?_)
    · refine V_iconst dX8_isKind_13 ⟨by decide, by decide⟩ ?_
      exact V_retz rfl dX8_isKind_14 (by decide) (q2 c1 c2)
    · refine V_iconst dX8_isKind_9 ⟨by decide, by decide⟩ ?_
      refine V_goto (tgt := 14) dX8_isKind_10 (by decide) ?_
      exact V_retz rfl dX8_isKind_14 (by decide) (q3 c1 c2)
theorem pX8_isKind {d : Nat} {z0 : Int} {h : jH}  : Ex MX8_isKind d [.inl z0] h 0 0 (fun r h2 => r = some (.inl (jb (0 ≤ z0 ∧ z0 ≤ 2))) ∧ h2 = h) := by
  refine Ex_of_V tX8_isKind (Nat.le_of_ble_eq_true rfl) (bX8_isKind_0 z0 h ?_ ?_ ?_)
  all_goals intros
  all_goals first
    | assumption
    | omega
    | (constructor <;> omega)
    | (refine ⟨?_, rfl⟩; rw [jb_t]; first | omega | (refine ⟨?_, ?_⟩ <;> omega) | (refine ⟨?_, ?_, ?_⟩ <;> first | assumption | omega) | (simp_all; done))
    | (refine ⟨?_, rfl⟩; rw [jb_f]; first | omega | (simp_all; done))
    | (simp_all; done)
theorem dX8_isRecordable_0 : decode cX8_isRecordable 0 = .ok (.iload_n 0, 1) := by decide +kernel
theorem dX8_isRecordable_1 : decode cX8_isRecordable 1 = .ok (.bipush (-7), 2) := by decide +kernel
theorem dX8_isRecordable_3 : decode cX8_isRecordable 3 = .ok (.if_icmp .eq 14, 3) := by decide +kernel
theorem dX8_isRecordable_6 : decode cX8_isRecordable 6 = .ok (.iload_n 0, 1) := by decide +kernel
theorem dX8_isRecordable_7 : decode cX8_isRecordable 7 = .ok (.ifCond .lt 14, 3) := by decide +kernel
theorem dX8_isRecordable_10 : decode cX8_isRecordable 10 = .ok (.iload_n 0, 1) := by decide +kernel
theorem dX8_isRecordable_11 : decode cX8_isRecordable 11 = .ok (.sipush 255, 3) := by decide +kernel
theorem dX8_isRecordable_14 : decode cX8_isRecordable 14 = .ok (.if_icmp .gt 7, 3) := by decide +kernel
theorem dX8_isRecordable_17 : decode cX8_isRecordable 17 = .ok (.iconst 1, 1) := by decide +kernel
theorem dX8_isRecordable_18 : decode cX8_isRecordable 18 = .ok (.goto 4, 3) := by decide +kernel
theorem dX8_isRecordable_21 : decode cX8_isRecordable 21 = .ok (.iconst 0, 1) := by decide +kernel
theorem dX8_isRecordable_22 : decode cX8_isRecordable 22 = .ok (.ireturn, 1) := by decide +kernel
theorem bX8_isRecordable_0 {d : Nat} {Q : Option jA → jH → Prop} (i0 : Int) (h : jH)
    (q1 : (i0 = ((-7))) → Q (some (.inl 1)) h)
    (q2 : (¬ (i0 = ((-7)))) → (i0 < 0) → Q (some (.inl 0)) h)
    (q3 : (¬ (i0 = ((-7)))) → (¬ (i0 < 0)) → (255 < i0) → Q (some (.inl 0)) h)
    (q4 : (¬ (i0 = ((-7)))) → (¬ (i0 < 0)) → (¬ (255 < i0)) → Q (some (.inl 1)) h) :
    V MX8_isRecordable d 0 [some (.inl i0)] [] h 0 0 Q := by
  refine V_iload_n (i := 0) dX8_isRecordable_0 rfl rfl ?_
  refine V_bipush dX8_isRecordable_1 (by decide +kernel) ⟨by decide, by decide⟩ ?_
  refine V_icmp_eq (tgt := 17) dX8_isRecordable_3 (by decide) (fun c1 => ?_) (fun c1 => ?_)
  · refine V_iconst dX8_isRecordable_17 ⟨by decide, by decide⟩ ?_
    refine V_goto (tgt := 22) dX8_isRecordable_18 (by decide) ?_
    exact V_retz rfl dX8_isRecordable_22 (by decide) (q1 c1)
  · refine V_iload_n (i := 0) dX8_isRecordable_6 rfl rfl ?_
    refine V_if_lt (tgt := 21) dX8_isRecordable_7 (by decide) (fun c2 => ?_) (fun c2 => ?_)
    · refine V_iconst dX8_isRecordable_21 ⟨by decide, by decide⟩ ?_
      exact V_retz rfl dX8_isRecordable_22 (by decide) (q2 c1 c2)
    · refine V_iload_n (i := 0) dX8_isRecordable_10 rfl rfl ?_
      refine V_sipush dX8_isRecordable_11 (by decide +kernel) ⟨by decide, by decide⟩ ?_
      refine V_icmp_gt (tgt := 21) dX8_isRecordable_14 (by decide) (fun c3 => ?_) (fun c3 => ?_)
      · refine V_iconst dX8_isRecordable_21 ⟨by decide, by decide⟩ ?_
        exact V_retz rfl dX8_isRecordable_22 (by decide) (q3 c1 c2 c3)
      · refine V_iconst dX8_isRecordable_17 ⟨by decide, by decide⟩ ?_
        refine V_goto (tgt := 22) dX8_isRecordable_18 (by decide) ?_
        exact V_retz rfl dX8_isRecordable_22 (by decide) (q4 c1 c2 c3)
theorem pX8_isRecordable {d : Nat} {z0 : Int} {h : jH}  : Ex MX8_isRecordable d [.inl z0] h 0 0 (fun r h2 => r = some (.inl (jb (z0 = (-7) ∨ (0 ≤ z0 ∧ z0 ≤ 255)))) ∧ h2 = h) := by
  refine Ex_of_V tX8_isRecordable (Nat.le_of_ble_eq_true rfl) (bX8_isRecordable_0 z0 h ?_ ?_ ?_ ?_)
  all_goals intros
  all_goals first
    | assumption
    | omega
    | (constructor <;> omega)
    | (refine ⟨?_, rfl⟩; rw [jb_t]; first | omega | (refine ⟨?_, ?_⟩ <;> omega) | (refine ⟨?_, ?_, ?_⟩ <;> first | assumption | omega) | (simp_all; done))
    | (refine ⟨?_, rfl⟩; rw [jb_f]; first | omega | (simp_all; done))
    | (simp_all; done)
theorem dX8_orNone_0 : decode cX8_orNone 0 = .ok (.iload_n 0, 1) := by decide +kernel
theorem dX8_orNone_1 : decode cX8_orNone 1 = .ok (.iconst (-1), 1) := by decide +kernel
theorem dX8_orNone_2 : decode cX8_orNone 2 = .ok (.if_icmp .ne 8, 3) := by decide +kernel
theorem dX8_orNone_5 : decode cX8_orNone 5 = .ok (.bipush (-9), 2) := by decide +kernel
theorem dX8_orNone_7 : decode cX8_orNone 7 = .ok (.goto 4, 3) := by decide +kernel
theorem dX8_orNone_10 : decode cX8_orNone 10 = .ok (.iload_n 0, 1) := by decide +kernel
theorem dX8_orNone_11 : decode cX8_orNone 11 = .ok (.ireturn, 1) := by decide +kernel
theorem bX8_orNone_0 {d : Nat} {Q : Option jA → jH → Prop} (i0 : Int) (h : jH)
    (q1 : (i0 ≠ ((-1))) → Q (some (.inl i0)) h)
    (q2 : (i0 = ((-1))) → Q (some (.inl ((-9)))) h) :
    V MX8_orNone d 0 [some (.inl i0)] [] h 0 0 Q := by
  refine V_iload_n (i := 0) dX8_orNone_0 rfl rfl ?_
  refine V_iconst dX8_orNone_1 ⟨by decide, by decide⟩ ?_
  refine V_icmp_ne (tgt := 10) dX8_orNone_2 (by decide) (fun c1 => ?_) (fun c1 => ?_)
  · refine V_iload_n (i := 0) dX8_orNone_10 rfl rfl ?_
    exact V_reti rfl dX8_orNone_11 (q1 c1)
  · refine V_bipush dX8_orNone_5 (by decide +kernel) ⟨by decide, by decide⟩ ?_
    refine V_goto (tgt := 11) dX8_orNone_7 (by decide) ?_
    exact V_reti rfl dX8_orNone_11 (q2 c1)
theorem pX8_orNone {d : Nat} {z0 : Int} {h : jH}  : Ex MX8_orNone d [.inl z0] h 0 0 (fun r h2 => r = some (.inl (jorn z0)) ∧ h2 = h) := by
  refine Ex_of_V tX8_orNone (Nat.le_of_ble_eq_true rfl) (bX8_orNone_0 z0 h ?_ ?_)
  all_goals intros
  all_goals first
    | assumption
    | omega
    | (constructor <;> omega)
    | exact ⟨rfl, rfl⟩
    | (refine ⟨congrArg (fun z => some (Sum.inl z)) ?_, rfl⟩; simp [jop, jneg, jlet, jorn, jaft, *]; done)
    | (refine ⟨congrArg (fun z => some (Sum.inl z)) ?_, rfl⟩; simp [jop, jneg, jlet, jorn, jaft, *] <;> omega)
    | (refine ⟨congrArg (fun z => some (Sum.inl z)) ?_, rfl⟩; simp_all [jop, jneg, jlet, jorn, jaft] <;> omega)
    | (simp_all; done)
theorem dX3_after_0 : decode cX3_after 0 = .ok (.iload_n 1, 1) := by decide +kernel
theorem dX3_after_1 : decode cX3_after 1 = .ok (.iconst 1, 1) := by decide +kernel
theorem dX3_after_2 : decode cX3_after 2 = .ok (.iadd, 1) := by decide +kernel
theorem dX3_after_3 : decode cX3_after 3 = .ok (.aload_n 0, 1) := by decide +kernel
theorem dX3_after_4 : decode cX3_after 4 = .ok (.getfield 29, 3) := by decide +kernel
theorem dX3_after_7 : decode cX3_after 7 = .ok (.if_icmp .ge 14, 3) := by decide +kernel
theorem dX3_after_10 : decode cX3_after 10 = .ok (.aload_n 0, 1) := by decide +kernel
theorem dX3_after_11 : decode cX3_after 11 = .ok (.getfield 9, 3) := by decide +kernel
theorem dX3_after_14 : decode cX3_after 14 = .ok (.iload_n 1, 1) := by decide +kernel
theorem dX3_after_15 : decode cX3_after 15 = .ok (.iconst 1, 1) := by decide +kernel
theorem dX3_after_16 : decode cX3_after 16 = .ok (.iadd, 1) := by decide +kernel
theorem dX3_after_17 : decode cX3_after 17 = .ok (.iaload, 1) := by decide +kernel
theorem dX3_after_18 : decode cX3_after 18 = .ok (.goto 9, 3) := by decide +kernel
theorem dX3_after_21 : decode cX3_after 21 = .ok (.aload_n 0, 1) := by decide +kernel
theorem dX3_after_22 : decode cX3_after 22 = .ok (.getfield 26, 3) := by decide +kernel
theorem dX3_after_25 : decode cX3_after 25 = .ok (.iconst 1, 1) := by decide +kernel
theorem dX3_after_26 : decode cX3_after 26 = .ok (.iadd, 1) := by decide +kernel
theorem dX3_after_27 : decode cX3_after 27 = .ok (.ireturn, 1) := by decide +kernel
theorem bX3_after_0 {d : Nat} {Q : Option jA → jH → Prop} (a0 : Nat) (i1 : Int) (h : jH)
    (r1 : jR (i1 + 1))
    (s1 : (jS h a0).1 = 3)
    (r2 : ((jI h a0 0) ≤ (i1 + 1)) → jR ((jI h a0 1) + 1))
    (q1 : ((jI h a0 0) ≤ (i1 + 1)) → Q (some (.inl ((jI h a0 1) + 1))) h)
    (r3 : (¬ ((jI h a0 0) ≤ (i1 + 1))) → jR (i1 + 1))
    (s2 : (jS h (jP h a0 2)).1 = 16)
    (s3 : (¬ ((jI h a0 0) ≤ (i1 + 1))) → 0 ≤ i1 + 1)
    (s4 : (¬ ((jI h a0 0) ≤ (i1 + 1))) → i1 + 1 < ((jS h (jP h a0 2)).2 : Int))
    (q2 : (¬ ((jI h a0 0) ≤ (i1 + 1))) → Q (some (.inl (jX h (jP h a0 2) ((i1 + 1).toNat)))) h) :
    V MX3_after d 0 [some (.inr a0), some (.inl i1)] [] h 0 0 Q := by
  refine V_iload_n (i := 1) dX3_after_0 rfl rfl ?_
  refine V_iconst dX3_after_1 ⟨by decide, by decide⟩ ?_
  refine V_iadd dX3_after_2 r1 ?_
  refine V_aload_n (i := 0) dX3_after_3 rfl rfl ?_
  refine V_getI dX3_after_4 fX3_29 rfl s1 ?_
  refine V_icmp_ge (tgt := 21) dX3_after_7 (by decide) (fun c1 => ?_) (fun c1 => ?_)
  · refine V_aload_n (i := 0) dX3_after_21 rfl rfl ?_
    refine V_getI dX3_after_22 fX3_26 rfl s1 ?_
    refine V_iconst dX3_after_25 ⟨by decide, by decide⟩ ?_
    refine V_iadd dX3_after_26 (r2 c1) ?_
    exact V_reti rfl dX3_after_27 (q1 c1)
  · refine V_aload_n (i := 0) dX3_after_10 rfl rfl ?_
    refine V_getP dX3_after_11 fX3_9 rfl s1 ?_
    refine V_iload_n (i := 1) dX3_after_14 rfl rfl ?_
    refine V_iconst dX3_after_15 ⟨by decide, by decide⟩ ?_
    refine V_iadd dX3_after_16 (r3 c1) ?_
    refine V_iald dX3_after_17 s2 (s3 c1) (s4 c1) ?_
    refine V_goto (tgt := 27) dX3_after_18 (by decide) ?_
    exact V_reti rfl dX3_after_27 (q2 c1)
theorem pX3_after {d : Nat} {z1 : Int} {r0 : Nat} {h : jH} (s0 : (jS h r0).1 = 3) (s1 : (jS h (jP h r0 2)).1 = 16) (s2 : (jS h (jP h r0 2)).2 = 61) (s3 : 0 ≤ z1) (s4 : z1 < jI h r0 0) (s5 : jI h r0 0 ≤ 61) (s6 : 0 ≤ jI h r0 1) (s7 : jI h r0 1 ≤ 999) : Ex MX3_after d [.inr r0, .inl z1] h 0 0 (fun r h2 => r = some (.inl (jaft z1 (jI h r0 0) (jI h r0 1) (jX h (jP h r0 2) ((z1 + 1).toNat)))) ∧ h2 = h) := by
  refine Ex_of_V tX3_after (Nat.le_of_ble_eq_true rfl) (bX3_after_0 r0 z1 h ?_ ?_ ?_ ?_ ?_ ?_ ?_ ?_ ?_)
  all_goals intros
  all_goals first
    | assumption
    | omega
    | (constructor <;> omega)
    | exact ⟨rfl, rfl⟩
    | (refine ⟨congrArg (fun z => some (Sum.inl z)) ?_, rfl⟩; simp [jop, jneg, jlet, jorn, jaft, *]; done)
    | (refine ⟨congrArg (fun z => some (Sum.inl z)) ?_, rfl⟩; simp [jop, jneg, jlet, jorn, jaft, *] <;> omega)
    | (refine ⟨congrArg (fun z => some (Sum.inl z)) ?_, rfl⟩; simp_all [jop, jneg, jlet, jorn, jaft] <;> omega)
    | (simp_all; done)
end JP
