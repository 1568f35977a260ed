/-! ===== SignalWavesModel 1: decode rows and trees ===== -/
theorem dX9_type_0 : decode cX9_type 0 = .ok (.iload_n 1, 1) := by decide +kernel
theorem dX9_type_1 : decode cX9_type 1 = .ok (.iconst 0, 1) := by decide +kernel
theorem dX9_type_2 : decode cX9_type 2 = .ok (.sipush 255, 3) := by decide +kernel
theorem dX9_type_5 : decode cX9_type 5 = .ok (.invokestatic 95, 3) := by decide +kernel
theorem dX9_type_8 : decode cX9_type 8 = .ok (.ifCond .ne 5, 3) := by decide +kernel
theorem dX9_type_11 : decode cX9_type 11 = .ok (.iconst (-1), 1) := by decide +kernel
theorem dX9_type_12 : decode cX9_type 12 = .ok (.ireturn, 1) := by decide +kernel
theorem dX9_type_13 : decode cX9_type 13 = .ok (.aload_n 0, 1) := by decide +kernel
theorem dX9_type_14 : decode cX9_type 14 = .ok (.getfield 99, 3) := by decide +kernel
theorem dX9_type_17 : decode cX9_type 17 = .ok (.sipush 160, 3) := by decide +kernel
theorem dX9_type_20 : decode cX9_type 20 = .ok (.if_icmp .ne 6, 3) := by decide +kernel
theorem dX9_type_23 : decode cX9_type 23 = .ok (.bipush (-3), 2) := by decide +kernel
theorem dX9_type_25 : decode cX9_type 25 = .ok (.ireturn, 1) := by decide +kernel
theorem dX9_type_26 : decode cX9_type 26 = .ok (.aload_n 0, 1) := by decide +kernel
theorem dX9_type_27 : decode cX9_type 27 = .ok (.getfield 38, 3) := by decide +kernel
theorem dX9_type_30 : decode cX9_type 30 = .ok (.aload_n 0, 1) := by decide +kernel
theorem dX9_type_31 : decode cX9_type 31 = .ok (.getfield 99, 3) := by decide +kernel
theorem dX9_type_34 : decode cX9_type 34 = .ok (.iload_n 1, 1) := by decide +kernel
theorem dX9_type_35 : decode cX9_type 35 = .ok (.iastore, 1) := by decide +kernel
theorem dX9_type_36 : decode cX9_type 36 = .ok (.aload_n 0, 1) := by decide +kernel
theorem dX9_type_37 : decode cX9_type 37 = .ok (.dup, 1) := by decide +kernel
theorem dX9_type_38 : decode cX9_type 38 = .ok (.getfield 99, 3) := by decide +kernel
theorem dX9_type_41 : decode cX9_type 41 = .ok (.iconst 1, 1) := by decide +kernel
theorem dX9_type_42 : decode cX9_type 42 = .ok (.iadd, 1) := by decide +kernel
theorem dX9_type_43 : decode cX9_type 43 = .ok (.putfield 99, 3) := by decide +kernel
theorem dX9_type_46 : decode cX9_type 46 = .ok (.aload_n 0, 1) := by decide +kernel
theorem dX9_type_47 : decode cX9_type 47 = .ok (.getfield 99, 3) := by decide +kernel
theorem dX9_type_50 : decode cX9_type 50 = .ok (.ireturn, 1) := by decide +kernel
theorem bX9_type_0 {d : Nat} {Q : Option jA → jH → Prop} (a0 : Nat) (i1 : Int) (h : jH)
    (s1 : (jS h a0).1 = 9)
    (s2 : (jS h (jP h a0 14)).1 = 16)
    (s3 : (0 ≤ i1 ∧ i1 ≤ 255) → ((jI h a0 15) ≠ 160) → 0 ≤ jI h a0 15)
    (s4 : (0 ≤ i1 ∧ i1 ≤ 255) → ((jI h a0 15) ≠ 160) → jI h a0 15 < ((jS h (jP h a0 14)).2 : Int))
    (r1 : (0 ≤ i1 ∧ i1 ≤ 255) → ((jI h a0 15) ≠ 160) → jR ((jI h a0 15) + 1))
    (q1 : (0 ≤ i1 ∧ i1 ≤ 255) → ((jI h a0 15) ≠ 160) → Q (some (.inl ((jI h a0 15) + 1))) (jsI (jsX h (jP h a0 14) ((jI h a0 15).toNat) i1) a0 15 ((jI h a0 15) + 1)))
    (q2 : (0 ≤ i1 ∧ i1 ≤ 255) → ((jI h a0 15) = 160) → Q (some (.inl ((-3)))) h)
    (q3 : (¬ (0 ≤ i1 ∧ i1 ≤ 255)) → Q (some (.inl ((-1)))) h) :
    V MX9_type (d + 1) 0 [some (.inr a0), some (.inl i1)] [] h 0 0 Q := by
  refine V_iload_n (i := 1) dX9_type_0 rfl rfl ?_
  refine V_iconst dX9_type_1 ⟨by decide, by decide⟩ ?_
  refine V_sipush dX9_type_2 (by decide +kernel) ⟨by decide, by decide⟩ ?_
  refine V_callS (M := MX9_type) (d := (d + 1)) (mc' := 0) (ms' := 0) (mc := 0) (ms := 0) (a := 0) (As := [.inl i1, .inl 0, .inl 255]) (rest := []) dX9_type_5 tX9_in sX9_in lX9_95 rfl rfl (Nat.le_of_ble_eq_true rfl) (show d + 1 ≤ (d + 1) by omega) (Ex.mono (pX9_in (d := d) ) ?_)
  intro v h2 hq
  rw [hq.1, hq.2]
  show V MX9_type (d + 1) 8 [some (.inr a0), some (.inl i1)] [.inl (jb (0 ≤ i1 ∧ i1 ≤ 255))] h 0 0 Q
  refine V_ifb_ne (tgt := 13) dX9_type_8 (by decide) (fun c1 => ?_) (fun c1 => ?_)
  · refine V_aload_n (i := 0) dX9_type_13 rfl rfl ?_
    refine V_getI dX9_type_14 fX9_99 rfl s1 ?_
    refine V_sipush dX9_type_17 (by decide +kernel) ⟨by decide, by decide⟩ ?_
    refine V_icmp_ne (tgt := 26) dX9_type_20 (by decide) (fun c2 => ?_) (fun c2 => ?_)
    · refine V_aload_n (i := 0) dX9_type_26 rfl rfl ?_
      refine V_getP dX9_type_27 fX9_38 rfl s1 ?_
      refine V_aload_n (i := 0) dX9_type_30 rfl rfl ?_
      refine V_getI dX9_type_31 fX9_99 rfl s1 ?_
      refine V_iload_n (i := 1) dX9_type_34 rfl rfl ?_
      refine V_iast dX9_type_35 s2 (s3 c1 c2) (s4 c1 c2) ?_
      refine V_aload_n (i := 0) dX9_type_36 rfl rfl ?_
      refine V_dup dX9_type_37 ?_
      refine V_getI dX9_type_38 fX9_99 rfl s1 ?_
      refine V_iconst dX9_type_41 ⟨by decide, by decide⟩ ?_
      refine V_iadd dX9_type_42 (r1 c1 c2) ?_
      refine V_putI (ci := 9) (kf := 15) dX9_type_43 fX9_99 rfl rfl s1 ?_
      refine V_aload_n (i := 0) dX9_type_46 rfl rfl ?_
      refine V_getI dX9_type_47 fX9_99 rfl s1 ?_
      refine V_topI (jI_at) ?_
      exact V_reti rfl dX9_type_50 (q1 c1 c2)
    · refine V_bipush dX9_type_23 (by decide +kernel) ⟨by decide, by decide⟩ ?_
      exact V_reti rfl dX9_type_25 (q2 c1 c2)
  · refine V_iconst dX9_type_11 ⟨by decide, by decide⟩ ?_
    exact V_reti rfl dX9_type_12 (q3 c1)
theorem dX9_clear_0 : decode cX9_clear 0 = .ok (.aload_n 0, 1) := by decide +kernel
theorem dX9_clear_1 : decode cX9_clear 1 = .ok (.getfield 99, 3) := by decide +kernel
theorem dX9_clear_4 : decode cX9_clear 4 = .ok (.istore_n 1, 1) := by decide +kernel
theorem dX9_clear_5 : decode cX9_clear 5 = .ok (.aload_n 0, 1) := by decide +kernel
theorem dX9_clear_6 : decode cX9_clear 6 = .ok (.iconst 0, 1) := by decide +kernel
theorem dX9_clear_7 : decode cX9_clear 7 = .ok (.putfield 99, 3) := by decide +kernel
theorem dX9_clear_10 : decode cX9_clear 10 = .ok (.iload_n 1, 1) := by decide +kernel
theorem dX9_clear_11 : decode cX9_clear 11 = .ok (.ireturn, 1) := by decide +kernel
theorem bX9_clear_0 {d : Nat} {Q : Option jA → jH → Prop} (a0 : Nat) (u1 : Option jA) (h : jH)
    (s1 : (jS h a0).1 = 9)
    (q1 : Q (some (.inl (jI h a0 15))) (jsI h a0 15 0)) :
    V MX9_clear d 0 [some (.inr a0), u1] [] h 0 0 Q := by
  refine V_aload_n (i := 0) dX9_clear_0 rfl rfl ?_
  refine V_getI dX9_clear_1 fX9_99 rfl s1 ?_
  refine V_istore_n (i := 1) dX9_clear_4 rfl (by decide) ?_
  refine V_aload_n (i := 0) dX9_clear_5 rfl rfl ?_
  refine V_iconst dX9_clear_6 ⟨by decide, by decide⟩ ?_
  refine V_putI (ci := 9) (kf := 15) dX9_clear_7 fX9_99 rfl rfl s1 ?_
  refine V_iload_n (i := 1) dX9_clear_10 rfl rfl ?_
  exact V_reti rfl dX9_clear_11 q1
theorem dX9_next_0 : decode cX9_next 0 = .ok (.aload_n 0, 1) := by decide +kernel
theorem dX9_next_1 : decode cX9_next 1 = .ok (.getfield 103, 3) := by decide +kernel
theorem dX9_next_4 : decode cX9_next 4 = .ok (.aload_n 0, 1) := by decide +kernel
theorem dX9_next_5 : decode cX9_next 5 = .ok (.getfield 99, 3) := by decide +kernel
theorem dX9_next_8 : decode cX9_next 8 = .ok (.if_icmp .ge 30, 3) := by decide +kernel
theorem dX9_next_11 : decode cX9_next 11 = .ok (.aload_n 0, 1) := by decide +kernel
theorem dX9_next_12 : decode cX9_next 12 = .ok (.getfield 38, 3) := by decide +kernel
theorem dX9_next_15 : decode cX9_next 15 = .ok (.aload_n 0, 1) := by decide +kernel
theorem dX9_next_16 : decode cX9_next 16 = .ok (.getfield 103, 3) := by decide +kernel
theorem dX9_next_19 : decode cX9_next 19 = .ok (.iaload, 1) := by decide +kernel
theorem dX9_next_20 : decode cX9_next 20 = .ok (.bipush 32, 2) := by decide +kernel
theorem dX9_next_22 : decode cX9_next 22 = .ok (.if_icmp .ne 16, 3) := by decide +kernel
theorem dX9_next_25 : decode cX9_next 25 = .ok (.aload_n 0, 1) := by decide +kernel
theorem dX9_next_26 : decode cX9_next 26 = .ok (.dup, 1) := by decide +kernel
theorem dX9_next_27 : decode cX9_next 27 = .ok (.getfield 103, 3) := by decide +kernel
theorem dX9_next_30 : decode cX9_next 30 = .ok (.iconst 1, 1) := by decide +kernel
theorem dX9_next_31 : decode cX9_next 31 = .ok (.iadd, 1) := by decide +kernel
theorem dX9_next_32 : decode cX9_next 32 = .ok (.putfield 103, 3) := by decide +kernel
theorem dX9_next_35 : decode cX9_next 35 = .ok (.goto (-35), 3) := by decide +kernel
theorem dX9_next_38 : decode cX9_next 38 = .ok (.aload_n 0, 1) := by decide +kernel
theorem dX9_next_39 : decode cX9_next 39 = .ok (.aload_n 0, 1) := by decide +kernel
theorem dX9_next_40 : decode cX9_next 40 = .ok (.getfield 103, 3) := by decide +kernel
theorem dX9_next_43 : decode cX9_next 43 = .ok (.putfield 106, 3) := by decide +kernel
theorem dX9_next_46 : decode cX9_next 46 = .ok (.aload_n 0, 1) := by decide +kernel
theorem dX9_next_47 : decode cX9_next 47 = .ok (.getfield 103, 3) := by decide +kernel
theorem dX9_next_50 : decode cX9_next 50 = .ok (.aload_n 0, 1) := by decide +kernel
theorem dX9_next_51 : decode cX9_next 51 = .ok (.getfield 99, 3) := by decide +kernel
theorem dX9_next_54 : decode cX9_next 54 = .ok (.if_icmp .ne 9, 3) := by decide +kernel
theorem dX9_next_57 : decode cX9_next 57 = .ok (.aload_n 0, 1) := by decide +kernel
theorem dX9_next_58 : decode cX9_next 58 = .ok (.iconst 4, 1) := by decide +kernel
theorem dX9_next_59 : decode cX9_next 59 = .ok (.putfield 109, 3) := by decide +kernel
theorem dX9_next_62 : decode cX9_next 62 = .ok (.return_, 1) := by decide +kernel
theorem dX9_next_63 : decode cX9_next 63 = .ok (.aload_n 0, 1) := by decide +kernel
theorem dX9_next_64 : decode cX9_next 64 = .ok (.getfield 38, 3) := by decide +kernel
theorem dX9_next_67 : decode cX9_next 67 = .ok (.aload_n 0, 1) := by decide +kernel
theorem dX9_next_68 : decode cX9_next 68 = .ok (.getfield 103, 3) := by decide +kernel
theorem dX9_next_71 : decode cX9_next 71 = .ok (.iaload, 1) := by decide +kernel
theorem dX9_next_72 : decode cX9_next 72 = .ok (.istore_n 1, 1) := by decide +kernel
theorem dX9_next_73 : decode cX9_next 73 = .ok (.aload_n 0, 1) := by decide +kernel
theorem dX9_next_74 : decode cX9_next 74 = .ok (.aload_n 0, 1) := by decide +kernel
theorem dX9_next_75 : decode cX9_next 75 = .ok (.getfield 103, 3) := by decide +kernel
theorem dX9_next_78 : decode cX9_next 78 = .ok (.invokevirtual 112, 3) := by decide +kernel
theorem dX9_next_81 : decode cX9_next 81 = .ok (.ifCond .eq 111, 3) := by decide +kernel
theorem dX9_next_84 : decode cX9_next 84 = .ok (.aload_n 0, 1) := by decide +kernel
theorem dX9_next_85 : decode cX9_next 85 = .ok (.iconst 0, 1) := by decide +kernel
theorem dX9_next_86 : decode cX9_next 86 = .ok (.putfield 116, 3) := by decide +kernel
theorem dX9_next_89 : decode cX9_next 89 = .ok (.aload_n 0, 1) := by decide +kernel
theorem dX9_next_90 : decode cX9_next 90 = .ok (.aload_n 0, 1) := by decide +kernel
theorem dX9_next_91 : decode cX9_next 91 = .ok (.getfield 103, 3) := by decide +kernel
theorem dX9_next_94 : decode cX9_next 94 = .ok (.invokevirtual 112, 3) := by decide +kernel
theorem dX9_next_97 : decode cX9_next 97 = .ok (.ifCond .eq 56, 3) := by decide +kernel
theorem dX9_next_100 : decode cX9_next 100 = .ok (.aload_n 0, 1) := by decide +kernel
theorem dX9_next_101 : decode cX9_next 101 = .ok (.aload_n 0, 1) := by decide +kernel
theorem dX9_next_102 : decode cX9_next 102 = .ok (.getfield 116, 3) := by decide +kernel
theorem dX9_next_105 : decode cX9_next 105 = .ok (.sipush 255, 3) := by decide +kernel
theorem dX9_next_108 : decode cX9_next 108 = .ok (.if_icmp .le 9, 3) := by decide +kernel
theorem dX9_next_111 : decode cX9_next 111 = .ok (.sipush 256, 3) := by decide +kernel
theorem dX9_next_114 : decode cX9_next 114 = .ok (.goto 23, 3) := by decide +kernel
theorem dX9_next_117 : decode cX9_next 117 = .ok (.bipush 10, 2) := by decide +kernel
theorem dX9_next_119 : decode cX9_next 119 = .ok (.aload_n 0, 1) := by decide +kernel
theorem dX9_next_120 : decode cX9_next 120 = .ok (.getfield 116, 3) := by decide +kernel
theorem dX9_next_123 : decode cX9_next 123 = .ok (.imul, 1) := by decide +kernel
theorem dX9_next_124 : decode cX9_next 124 = .ok (.aload_n 0, 1) := by decide +kernel
theorem dX9_next_125 : decode cX9_next 125 = .ok (.getfield 38, 3) := by decide +kernel
theorem dX9_next_128 : decode cX9_next 128 = .ok (.aload_n 0, 1) := by decide +kernel
theorem dX9_next_129 : decode cX9_next 129 = .ok (.getfield 103, 3) := by decide +kernel
theorem dX9_next_132 : decode cX9_next 132 = .ok (.iaload, 1) := by decide +kernel
theorem dX9_next_133 : decode cX9_next 133 = .ok (.iadd, 1) := by decide +kernel
theorem dX9_next_134 : decode cX9_next 134 = .ok (.bipush 48, 2) := by decide +kernel
theorem dX9_next_136 : decode cX9_next 136 = .ok (.isub, 1) := by decide +kernel
theorem dX9_next_137 : decode cX9_next 137 = .ok (.putfield 116, 3) := by decide +kernel
theorem dX9_next_140 : decode cX9_next 140 = .ok (.aload_n 0, 1) := by decide +kernel
theorem dX9_next_141 : decode cX9_next 141 = .ok (.dup, 1) := by decide +kernel
theorem dX9_next_142 : decode cX9_next 142 = .ok (.getfield 103, 3) := by decide +kernel
theorem dX9_next_145 : decode cX9_next 145 = .ok (.iconst 1, 1) := by decide +kernel
theorem dX9_next_146 : decode cX9_next 146 = .ok (.iadd, 1) := by decide +kernel
theorem dX9_next_147 : decode cX9_next 147 = .ok (.putfield 103, 3) := by decide +kernel
theorem dX9_next_150 : decode cX9_next 150 = .ok (.goto (-61), 3) := by decide +kernel
theorem dX9_next_153 : decode cX9_next 153 = .ok (.aload_n 0, 1) := by decide +kernel
theorem dX9_next_154 : decode cX9_next 154 = .ok (.aload_n 0, 1) := by decide +kernel
theorem dX9_next_155 : decode cX9_next 155 = .ok (.getfield 116, 3) := by decide +kernel
theorem dX9_next_158 : decode cX9_next 158 = .ok (.sipush 255, 3) := by decide +kernel
theorem dX9_next_161 : decode cX9_next 161 = .ok (.if_icmp .gt 22, 3) := by decide +kernel
theorem dX9_next_164 : decode cX9_next 164 = .ok (.iload_n 1, 1) := by decide +kernel
theorem dX9_next_165 : decode cX9_next 165 = .ok (.bipush 48, 2) := by decide +kernel
theorem dX9_next_167 : decode cX9_next 167 = .ok (.if_icmp .ne 20, 3) := by decide +kernel
theorem dX9_next_170 : decode cX9_next 170 = .ok (.aload_n 0, 1) := by decide +kernel
theorem dX9_next_171 : decode cX9_next 171 = .ok (.getfield 103, 3) := by decide +kernel
theorem dX9_next_174 : decode cX9_next 174 = .ok (.aload_n 0, 1) := by decide +kernel
theorem dX9_next_175 : decode cX9_next 175 = .ok (.getfield 106, 3) := by decide +kernel
theorem dX9_next_178 : decode cX9_next 178 = .ok (.iconst 1, 1) := by decide +kernel
theorem dX9_next_179 : decode cX9_next 179 = .ok (.iadd, 1) := by decide +kernel
theorem dX9_next_180 : decode cX9_next 180 = .ok (.if_icmp .le 7, 3) := by decide +kernel
theorem dX9_next_183 : decode cX9_next 183 = .ok (.iconst 5, 1) := by decide +kernel
theorem dX9_next_184 : decode cX9_next 184 = .ok (.goto 4, 3) := by decide +kernel
theorem dX9_next_187 : decode cX9_next 187 = .ok (.iconst 2, 1) := by decide +kernel
theorem dX9_next_188 : decode cX9_next 188 = .ok (.putfield 109, 3) := by decide +kernel
theorem dX9_next_191 : decode cX9_next 191 = .ok (.return_, 1) := by decide +kernel
theorem dX9_next_192 : decode cX9_next 192 = .ok (.aload_n 0, 1) := by decide +kernel
theorem dX9_next_193 : decode cX9_next 193 = .ok (.dup, 1) := by decide +kernel
theorem dX9_next_194 : decode cX9_next 194 = .ok (.getfield 103, 3) := by decide +kernel
theorem dX9_next_197 : decode cX9_next 197 = .ok (.iconst 1, 1) := by decide +kernel
theorem dX9_next_198 : decode cX9_next 198 = .ok (.iadd, 1) := by decide +kernel
theorem dX9_next_199 : decode cX9_next 199 = .ok (.putfield 103, 3) := by decide +kernel
theorem dX9_next_202 : decode cX9_next 202 = .ok (.aload_n 0, 1) := by decide +kernel
theorem dX9_next_203 : decode cX9_next 203 = .ok (.iload_n 1, 1) := by decide +kernel
theorem dX9_next_204 : decode cX9_next 204 = .ok (.bipush 97, 2) := by decide +kernel
theorem dX9_next_206 : decode cX9_next 206 = .ok (.bipush 122, 2) := by decide +kernel
theorem dX9_next_208 : decode cX9_next 208 = .ok (.invokestatic 95, 3) := by decide +kernel
theorem dX9_next_211 : decode cX9_next 211 = .ok (.ifCond .eq 10, 3) := by decide +kernel
theorem dX9_next_214 : decode cX9_next 214 = .ok (.iload_n 1, 1) := by decide +kernel
theorem dX9_next_215 : decode cX9_next 215 = .ok (.bipush 97, 2) := by decide +kernel
theorem dX9_next_217 : decode cX9_next 217 = .ok (.isub, 1) := by decide +kernel
theorem dX9_next_218 : decode cX9_next 218 = .ok (.goto 4, 3) := by decide +kernel
theorem dX9_next_221 : decode cX9_next 221 = .ok (.iload_n 1, 1) := by decide +kernel
theorem dX9_next_222 : decode cX9_next 222 = .ok (.putfield 116, 3) := by decide +kernel
theorem dX9_next_225 : decode cX9_next 225 = .ok (.aload_n 0, 1) := by decide +kernel
theorem dX9_next_226 : decode cX9_next 226 = .ok (.iload_n 1, 1) := by decide +kernel
theorem dX9_next_227 : decode cX9_next 227 = .ok (.bipush 97, 2) := by decide +kernel
theorem dX9_next_229 : decode cX9_next 229 = .ok (.bipush 122, 2) := by decide +kernel
theorem dX9_next_231 : decode cX9_next 231 = .ok (.invokestatic 95, 3) := by decide +kernel
theorem dX9_next_234 : decode cX9_next 234 = .ok (.ifCond .eq 7, 3) := by decide +kernel
theorem dX9_next_237 : decode cX9_next 237 = .ok (.iconst 1, 1) := by decide +kernel
theorem dX9_next_238 : decode cX9_next 238 = .ok (.goto 15, 3) := by decide +kernel
theorem dX9_next_241 : decode cX9_next 241 = .ok (.iload_n 1, 1) := by decide +kernel
theorem dX9_next_242 : decode cX9_next 242 = .ok (.invokestatic 119, 3) := by decide +kernel
theorem dX9_next_245 : decode cX9_next 245 = .ok (.ifCond .eq 7, 3) := by decide +kernel
theorem dX9_next_248 : decode cX9_next 248 = .ok (.iconst 3, 1) := by decide +kernel
theorem dX9_next_249 : decode cX9_next 249 = .ok (.goto 4, 3) := by decide +kernel
theorem dX9_next_252 : decode cX9_next 252 = .ok (.iconst 5, 1) := by decide +kernel
theorem dX9_next_253 : decode cX9_next 253 = .ok (.putfield 109, 3) := by decide +kernel
theorem dX9_next_256 : decode cX9_next 256 = .ok (.return_, 1) := by decide +kernel
theorem bX9_next_0 {d : Nat} {Q : Option jA → jH → Prop} (a0 : Nat) (u1 : Option jA) (h : jH)
    (s1 : (jS h a0).1 = 9)
    (s2 : (jS h (jP h a0 14)).1 = 16)
    (s3 : ((jI h a0 15) ≤ (jI h a0 16)) → ((jI h a0 16) ≠ (jI h a0 15)) → 0 ≤ jI h a0 16)
    (s4 : ((jI h a0 15) ≤ (jI h a0 16)) → ((jI h a0 16) ≠ (jI h a0 15)) → jI h a0 16 < ((jS h (jP h a0 14)).2 : Int))
    (e1 : ((jI h a0 15) ≤ (jI h a0 16)) → ((jI h a0 16) ≠ (jI h a0 15)) → Ex MX9_isFigure (d + 1) [.inr a0, .inl (jI h a0 16)] (jsI h a0 17 (jI h a0 16)) 0 0 (fun v h2 => V MX9_next (d + 2) 81 [some (.inr a0), some (.inl (jX h (jP h a0 14) ((jI h a0 16).toNat)))] (v.toList ++ []) h2 0 0 Q))
    (q1 : ((jI h a0 15) ≤ (jI h a0 16)) → ((jI h a0 16) = (jI h a0 15)) → Q none (jsI (jsI h a0 17 (jI h a0 16)) a0 18 4))
    (s5 : (¬ ((jI h a0 15) ≤ (jI h a0 16))) → 0 ≤ jI h a0 16)
    (s6 : (¬ ((jI h a0 15) ≤ (jI h a0 16))) → jI h a0 16 < ((jS h (jP h a0 14)).2 : Int))
    (e2 : (¬ ((jI h a0 15) ≤ (jI h a0 16))) → ((jX h (jP h a0 14) ((jI h a0 16).toNat)) ≠ 32) → ((jI h a0 16) ≠ (jI h a0 15)) → Ex MX9_isFigure (d + 1) [.inr a0, .inl (jI h a0 16)] (jsI h a0 17 (jI h a0 16)) 0 0 (fun v h2 => V MX9_next (d + 2) 81 [some (.inr a0), some (.inl (jX h (jP h a0 14) ((jI h a0 16).toNat)))] (v.toList ++ []) h2 0 0 Q))
    (q2 : (¬ ((jI h a0 15) ≤ (jI h a0 16))) → ((jX h (jP h a0 14) ((jI h a0 16).toNat)) ≠ 32) → ((jI h a0 16) = (jI h a0 15)) → Q none (jsI (jsI h a0 17 (jI h a0 16)) a0 18 4))
    (r1 : (¬ ((jI h a0 15) ≤ (jI h a0 16))) → ((jX h (jP h a0 14) ((jI h a0 16).toNat)) = 32) → jR ((jI h a0 16) + 1))
    (k1 : (¬ ((jI h a0 15) ≤ (jI h a0 16))) → ((jX h (jP h a0 14) ((jI h a0 16).toNat)) = 32) → V MX9_next (d + 2) 0 [some (.inr a0), u1] [] (jsI h a0 16 ((jI h a0 16) + 1)) 0 0 Q) :
    V MX9_next (d + 2) 0 [some (.inr a0), u1] [] h 0 0 Q := by
  refine V_aload_n (i := 0) dX9_next_0 rfl rfl ?_
  refine V_getI dX9_next_1 fX9_103 rfl s1 ?_
  refine V_aload_n (i := 0) dX9_next_4 rfl rfl ?_
  refine V_getI dX9_next_5 fX9_99 rfl s1 ?_
  refine V_icmp_ge (tgt := 38) dX9_next_8 (by decide) (fun c1 => ?_) (fun c1 => ?_)
  · refine V_aload_n (i := 0) dX9_next_38 rfl rfl ?_
    refine V_aload_n (i := 0) dX9_next_39 rfl rfl ?_
    refine V_getI dX9_next_40 fX9_103 rfl s1 ?_
    refine V_putI (ci := 9) (kf := 17) dX9_next_43 fX9_106 rfl rfl s1 ?_
    refine V_aload_n (i := 0) dX9_next_46 rfl rfl ?_
    refine V_getI dX9_next_47 fX9_103 rfl s1 ?_
    refine V_topI (jI_ne (by decide)) ?_
    refine V_aload_n (i := 0) dX9_next_50 rfl rfl ?_
    refine V_getI dX9_next_51 fX9_99 rfl s1 ?_
    refine V_topI (jI_ne (by decide)) ?_
    refine V_icmp_ne (tgt := 63) dX9_next_54 (by decide) (fun c2 => ?_) (fun c2 => ?_)
    · refine V_aload_n (i := 0) dX9_next_63 rfl rfl ?_
      refine V_getP dX9_next_64 fX9_38 rfl s1 ?_
      refine V_aload_n (i := 0) dX9_next_67 rfl rfl ?_
      refine V_getI dX9_next_68 fX9_103 rfl s1 ?_
      refine V_topI (jI_ne (by decide)) ?_
      refine V_iald dX9_next_71 s2 (s3 c1 c2) (s4 c1 c2) ?_
      refine V_istore_n (i := 1) dX9_next_72 rfl (by decide) ?_
      refine V_aload_n (i := 0) dX9_next_73 rfl rfl ?_
      refine V_aload_n (i := 0) dX9_next_74 rfl rfl ?_
      refine V_getI dX9_next_75 fX9_103 rfl s1 ?_
      refine V_topI (jI_ne (by decide)) ?_
      exact V_callV (M := MX9_next) (d := (d + 2)) (mc' := 0) (ms' := 0) (mc := 0) (ms := 0) (As := [.inl (jI h a0 16)]) (rest := []) dX9_next_78 tX9_isFigure vX9_isFigure lX9_112 s1 ⟨by decide, rfl⟩ rfl rfl (Nat.le_of_ble_eq_true rfl) (show (d + 1) + 1 ≤ (d + 2) by omega) (e1 c1 c2)
    · refine V_aload_n (i := 0) dX9_next_57 rfl rfl ?_
      refine V_iconst dX9_next_58 ⟨by decide, by decide⟩ ?_
      refine V_putI (ci := 9) (kf := 18) dX9_next_59 fX9_109 rfl rfl s1 ?_
      exact V_ret (v := none) rfl rfl dX9_next_62 trivial rfl (q1 c1 c2)
  · refine V_aload_n (i := 0) dX9_next_11 rfl rfl ?_
    refine V_getP dX9_next_12 fX9_38 rfl s1 ?_
    refine V_aload_n (i := 0) dX9_next_15 rfl rfl ?_
    refine V_getI dX9_next_16 fX9_103 rfl s1 ?_
    refine V_iald dX9_next_19 s2 (s5 c1) (s6 c1) ?_
    refine V_bipush dX9_next_20 (by decide +kernel) ⟨by decide, by decide⟩ ?_
    refine V_icmp_ne (tgt := 38) dX9_next_22 (by decide) (fun c3 => ?_) (fun c3 => ?_)
    · refine V_aload_n (i := 0) dX9_next_38 rfl rfl ?_
      refine V_aload_n (i := 0) dX9_next_39 rfl rfl ?_
      refine V_getI dX9_next_40 fX9_103 rfl s1 ?_
      refine V_putI (ci := 9) (kf := 17) dX9_next_43 fX9_106 rfl rfl s1 ?_
      refine V_aload_n (i := 0) dX9_next_46 rfl rfl ?_
      refine V_getI dX9_next_47 fX9_103 rfl s1 ?_
      refine V_topI (jI_ne (by decide)) ?_
      refine V_aload_n (i := 0) dX9_next_50 rfl rfl ?_
      refine V_getI dX9_next_51 fX9_99 rfl s1 ?_
      refine V_topI (jI_ne (by decide)) ?_
      refine V_icmp_ne (tgt := 63) dX9_next_54 (by decide) (fun c4 => ?_) (fun c4 => ?_)
      · refine V_aload_n (i := 0) dX9_next_63 rfl rfl ?_
        refine V_getP dX9_next_64 fX9_38 rfl s1 ?_
        refine V_aload_n (i := 0) dX9_next_67 rfl rfl ?_
        refine V_getI dX9_next_68 fX9_103 rfl s1 ?_
        refine V_topI (jI_ne (by decide)) ?_
        refine V_iald dX9_next_71 s2 (s5 c1) (s6 c1) ?_
        refine V_istore_n (i := 1) dX9_next_72 rfl (by decide) ?_
        refine V_aload_n (i := 0) dX9_next_73 rfl rfl ?_
        refine V_aload_n (i := 0) dX9_next_74 rfl rfl ?_
        refine V_getI dX9_next_75 fX9_103 rfl s1 ?_
        refine V_topI (jI_ne (by decide)) ?_
        exact V_callV (M := MX9_next) (d := (d + 2)) (mc' := 0) (ms' := 0) (mc := 0) (ms := 0) (As := [.inl (jI h a0 16)]) (rest := []) dX9_next_78 tX9_isFigure vX9_isFigure lX9_112 s1 ⟨by decide, rfl⟩ rfl rfl (Nat.le_of_ble_eq_true rfl) (show (d + 1) + 1 ≤ (d + 2) by omega) (e2 c1 c3 c4)
      · refine V_aload_n (i := 0) dX9_next_57 rfl rfl ?_
        refine V_iconst dX9_next_58 ⟨by decide, by decide⟩ ?_
        refine V_putI (ci := 9) (kf := 18) dX9_next_59 fX9_109 rfl rfl s1 ?_
        exact V_ret (v := none) rfl rfl dX9_next_62 trivial rfl (q2 c1 c3 c4)
    · refine V_aload_n (i := 0) dX9_next_25 rfl rfl ?_
      refine V_dup dX9_next_26 ?_
      refine V_getI dX9_next_27 fX9_103 rfl s1 ?_
      refine V_iconst dX9_next_30 ⟨by decide, by decide⟩ ?_
      refine V_iadd dX9_next_31 (r1 c1 c3) ?_
      refine V_putI (ci := 9) (kf := 16) dX9_next_32 fX9_103 rfl rfl s1 ?_
      refine V_goto (tgt := 0) dX9_next_35 (by decide) ?_
      exact (k1 c1 c3)
theorem bX9_next_89 {d : Nat} {Q : Option jA → jH → Prop} (a0 : Nat) (i1 : Int) (h : jH)
    (s1 : (jS h a0).1 = 9)
    (s2 : (jS h (jP h a0 14)).1 = 16)
    (s3 : (jS h (jP h a0 14)).2 = 160)
    (s4 : jI h a0 15 ≤ 160)
    (s5 : 0 ≤ (jI h a0 16))
    (q1 : (¬ ((jI h a0 16) < (jI h a0 15) ∧ 48 ≤ (jX h (jP h a0 14) ((jI h a0 16).toNat)) ∧ (jX h (jP h a0 14) ((jI h a0 16).toNat)) ≤ 57)) → (255 < (jI h a0 19)) → Q none (jsI h a0 18 5))
    (q2 : (¬ ((jI h a0 16) < (jI h a0 15) ∧ 48 ≤ (jX h (jP h a0 14) ((jI h a0 16).toNat)) ∧ (jX h (jP h a0 14) ((jI h a0 16).toNat)) ≤ 57)) → (¬ (255 < (jI h a0 19))) → (i1 ≠ 48) → Q none (jsI h a0 18 2))
    (r1 : (¬ ((jI h a0 16) < (jI h a0 15) ∧ 48 ≤ (jX h (jP h a0 14) ((jI h a0 16).toNat)) ∧ (jX h (jP h a0 14) ((jI h a0 16).toNat)) ≤ 57)) → (¬ (255 < (jI h a0 19))) → (i1 = 48) → jR ((jI h a0 17) + 1))
    (q3 : (¬ ((jI h a0 16) < (jI h a0 15) ∧ 48 ≤ (jX h (jP h a0 14) ((jI h a0 16).toNat)) ∧ (jX h (jP h a0 14) ((jI h a0 16).toNat)) ≤ 57)) → (¬ (255 < (jI h a0 19))) → (i1 = 48) → ((jI h a0 16) ≤ ((jI h a0 17) + 1)) → Q none (jsI h a0 18 2))
    (q4 : (¬ ((jI h a0 16) < (jI h a0 15) ∧ 48 ≤ (jX h (jP h a0 14) ((jI h a0 16).toNat)) ∧ (jX h (jP h a0 14) ((jI h a0 16).toNat)) ≤ 57)) → (¬ (255 < (jI h a0 19))) → (i1 = 48) → (¬ ((jI h a0 16) ≤ ((jI h a0 17) + 1))) → Q none (jsI h a0 18 5))
    (r2 : ((jI h a0 16) < (jI h a0 15) ∧ 48 ≤ (jX h (jP h a0 14) ((jI h a0 16).toNat)) ∧ (jX h (jP h a0 14) ((jI h a0 16).toNat)) ≤ 57) → ((jI h a0 19) ≤ 255) → jR (10 * (jI h a0 19)))
    (s6 : ((jI h a0 16) < (jI h a0 15) ∧ 48 ≤ (jX h (jP h a0 14) ((jI h a0 16).toNat)) ∧ (jX h (jP h a0 14) ((jI h a0 16).toNat)) ≤ 57) → ((jI h a0 19) ≤ 255) → 0 ≤ jI h a0 16)
    (s7 : ((jI h a0 16) < (jI h a0 15) ∧ 48 ≤ (jX h (jP h a0 14) ((jI h a0 16).toNat)) ∧ (jX h (jP h a0 14) ((jI h a0 16).toNat)) ≤ 57) → ((jI h a0 19) ≤ 255) → jI h a0 16 < ((jS h (jP h a0 14)).2 : Int))
    (r3 : ((jI h a0 16) < (jI h a0 15) ∧ 48 ≤ (jX h (jP h a0 14) ((jI h a0 16).toNat)) ∧ (jX h (jP h a0 14) ((jI h a0 16).toNat)) ≤ 57) → ((jI h a0 19) ≤ 255) → jR ((10 * (jI h a0 19)) + (jX h (jP h a0 14) ((jI h a0 16).toNat))))
    (r4 : ((jI h a0 16) < (jI h a0 15) ∧ 48 ≤ (jX h (jP h a0 14) ((jI h a0 16).toNat)) ∧ (jX h (jP h a0 14) ((jI h a0 16).toNat)) ≤ 57) → ((jI h a0 19) ≤ 255) → jR (((10 * (jI h a0 19)) + (jX h (jP h a0 14) ((jI h a0 16).toNat))) - 48))
    (r5 : ((jI h a0 16) < (jI h a0 15) ∧ 48 ≤ (jX h (jP h a0 14) ((jI h a0 16).toNat)) ∧ (jX h (jP h a0 14) ((jI h a0 16).toNat)) ≤ 57) → ((jI h a0 19) ≤ 255) → jR ((jI h a0 16) + 1))
    (k1 : ((jI h a0 16) < (jI h a0 15) ∧ 48 ≤ (jX h (jP h a0 14) ((jI h a0 16).toNat)) ∧ (jX h (jP h a0 14) ((jI h a0 16).toNat)) ≤ 57) → ((jI h a0 19) ≤ 255) → V MX9_next (d + 2) 89 [some (.inr a0), some (.inl i1)] [] (jsI (jsI h a0 19 (((10 * (jI h a0 19)) + (jX h (jP h a0 14) ((jI h a0 16).toNat))) - 48)) a0 16 ((jI h a0 16) + 1)) 0 0 Q)
    (r6 : ((jI h a0 16) < (jI h a0 15) ∧ 48 ≤ (jX h (jP h a0 14) ((jI h a0 16).toNat)) ∧ (jX h (jP h a0 14) ((jI h a0 16).toNat)) ≤ 57) → (¬ ((jI h a0 19) ≤ 255)) → jR ((jI h a0 16) + 1))
    (k2 : ((jI h a0 16) < (jI h a0 15) ∧ 48 ≤ (jX h (jP h a0 14) ((jI h a0 16).toNat)) ∧ (jX h (jP h a0 14) ((jI h a0 16).toNat)) ≤ 57) → (¬ ((jI h a0 19) ≤ 255)) → V MX9_next (d + 2) 89 [some (.inr a0), some (.inl i1)] [] (jsI (jsI h a0 19 256) a0 16 ((jI h a0 16) + 1)) 0 0 Q) :
    V MX9_next (d + 2) 89 [some (.inr a0), some (.inl i1)] [] h 0 0 Q := by
  refine V_aload_n (i := 0) dX9_next_89 rfl rfl ?_
  refine V_aload_n (i := 0) dX9_next_90 rfl rfl ?_
  refine V_getI dX9_next_91 fX9_103 rfl s1 ?_
  refine V_callV (M := MX9_next) (d := (d + 2)) (mc' := 0) (ms' := 0) (mc := 0) (ms := 0) (As := [.inl (jI h a0 16)]) (rest := []) dX9_next_94 tX9_isFigure vX9_isFigure lX9_112 s1 ⟨by decide, rfl⟩ rfl rfl (Nat.le_of_ble_eq_true rfl) (show (d + 1) + 1 ≤ (d + 2) by omega) (Ex.mono (pX9_isFigure (d := d) s1 s2 s3 s4 s5) ?_)
  intro v h2 hq
  rw [hq.1, hq.2]
  show V MX9_next (d + 2) 97 [some (.inr a0), some (.inl i1)] [.inl (jb ((jI h a0 16) < (jI h a0 15) ∧ 48 ≤ (jX h (jP h a0 14) ((jI h a0 16).toNat)) ∧ (jX h (jP h a0 14) ((jI h a0 16).toNat)) ≤ 57))] h 0 0 Q
  refine V_ifb_eq (tgt := 153) dX9_next_97 (by decide) (fun c1 => ?_) (fun c1 => ?_)
  · refine V_aload_n (i := 0) dX9_next_153 rfl rfl ?_
    refine V_aload_n (i := 0) dX9_next_154 rfl rfl ?_
    refine V_getI dX9_next_155 fX9_116 rfl s1 ?_
    refine V_sipush dX9_next_158 (by decide +kernel) ⟨by decide, by decide⟩ ?_
    refine V_icmp_gt (tgt := 183) dX9_next_161 (by decide) (fun c2 => ?_) (fun c2 => ?_)
    · refine V_iconst dX9_next_183 ⟨by decide, by decide⟩ ?_
      refine V_goto (tgt := 188) dX9_next_184 (by decide) ?_
      refine V_putI (ci := 9) (kf := 18) dX9_next_188 fX9_109 rfl rfl s1 ?_
      exact V_ret (v := none) rfl rfl dX9_next_191 trivial rfl (q1 c1 c2)
    · refine V_iload_n (i := 1) dX9_next_164 rfl rfl ?_
      refine V_bipush dX9_next_165 (by decide +kernel) ⟨by decide, by decide⟩ ?_
      refine V_icmp_ne (tgt := 187) dX9_next_167 (by decide) (fun c3 => ?_) (fun c3 => ?_)
      · refine V_iconst dX9_next_187 ⟨by decide, by decide⟩ ?_
        refine V_putI (ci := 9) (kf := 18) dX9_next_188 fX9_109 rfl rfl s1 ?_
        exact V_ret (v := none) rfl rfl dX9_next_191 trivial rfl (q2 c1 c2 c3)
      · refine V_aload_n (i := 0) dX9_next_170 rfl rfl ?_
        refine V_getI dX9_next_171 fX9_103 rfl s1 ?_
        refine V_aload_n (i := 0) dX9_next_174 rfl rfl ?_
        refine V_getI dX9_next_175 fX9_106 rfl s1 ?_
        refine V_iconst dX9_next_178 ⟨by decide, by decide⟩ ?_
        refine V_iadd dX9_next_179 (r1 c1 c2 c3) ?_
        refine V_icmp_le (tgt := 187) dX9_next_180 (by decide) (fun c4 => ?_) (fun c4 => ?_)
        · refine V_iconst dX9_next_187 ⟨by decide, by decide⟩ ?_
          refine V_putI (ci := 9) (kf := 18) dX9_next_188 fX9_109 rfl rfl s1 ?_
          exact V_ret (v := none) rfl rfl dX9_next_191 trivial rfl (q3 c1 c2 c3 c4)
        · refine V_iconst dX9_next_183 ⟨by decide, by decide⟩ ?_
          refine V_goto (tgt := 188) dX9_next_184 (by decide) ?_
          refine V_putI (ci := 9) (kf := 18) dX9_next_188 fX9_109 rfl rfl s1 ?_
          exact V_ret (v := none) rfl rfl dX9_next_191 trivial rfl (q4 c1 c2 c3 c4)
  · refine V_aload_n (i := 0) dX9_next_100 rfl rfl ?_
    refine V_aload_n (i := 0) dX9_next_101 rfl rfl ?_
    refine V_getI dX9_next_102 fX9_116 rfl s1 ?_
    refine V_sipush dX9_next_105 (by decide +kernel) ⟨by decide, by decide⟩ ?_
    refine V_icmp_le (tgt := 117) dX9_next_108 (by decide) (fun c5 => ?_) (fun c5 => ?_)
    · refine V_bipush dX9_next_117 (by decide +kernel) ⟨by decide, by decide⟩ ?_
      refine V_aload_n (i := 0) dX9_next_119 rfl rfl ?_
      refine V_getI dX9_next_120 fX9_116 rfl s1 ?_
      refine V_imul dX9_next_123 (r2 c1 c5) ?_
      refine V_aload_n (i := 0) dX9_next_124 rfl rfl ?_
      refine V_getP dX9_next_125 fX9_38 rfl s1 ?_
      refine V_aload_n (i := 0) dX9_next_128 rfl rfl ?_
      refine V_getI dX9_next_129 fX9_103 rfl s1 ?_
      refine V_iald dX9_next_132 s2 (s6 c1 c5) (s7 c1 c5) ?_
      refine V_iadd dX9_next_133 (r3 c1 c5) ?_
      refine V_bipush dX9_next_134 (by decide +kernel) ⟨by decide, by decide⟩ ?_
      refine V_isub dX9_next_136 (r4 c1 c5) ?_
      refine V_putI (ci := 9) (kf := 19) dX9_next_137 fX9_116 rfl rfl s1 ?_
      refine V_aload_n (i := 0) dX9_next_140 rfl rfl ?_
      refine V_dup dX9_next_141 ?_
      refine V_getI dX9_next_142 fX9_103 rfl s1 ?_
      refine V_topI (jI_ne (by decide)) ?_
      refine V_iconst dX9_next_145 ⟨by decide, by decide⟩ ?_
      refine V_iadd dX9_next_146 (r5 c1 c5) ?_
      refine V_putI (ci := 9) (kf := 16) dX9_next_147 fX9_103 rfl rfl s1 ?_
      refine V_goto (tgt := 89) dX9_next_150 (by decide) ?_
      exact (k1 c1 c5)
    · refine V_sipush dX9_next_111 (by decide +kernel) ⟨by decide, by decide⟩ ?_
      refine V_goto (tgt := 137) dX9_next_114 (by decide) ?_
      refine V_putI (ci := 9) (kf := 19) dX9_next_137 fX9_116 rfl rfl s1 ?_
      refine V_aload_n (i := 0) dX9_next_140 rfl rfl ?_
      refine V_dup dX9_next_141 ?_
      refine V_getI dX9_next_142 fX9_103 rfl s1 ?_
      refine V_topI (jI_ne (by decide)) ?_
      refine V_iconst dX9_next_145 ⟨by decide, by decide⟩ ?_
      refine V_iadd dX9_next_146 (r6 c1 c5) ?_
      refine V_putI (ci := 9) (kf := 16) dX9_next_147 fX9_103 rfl rfl s1 ?_
      refine V_goto (tgt := 89) dX9_next_150 (by decide) ?_
      exact (k2 c1 c5)
theorem bX9_next_81 {d : Nat} {Q : Option jA → jH → Prop} (a0 : Nat) (i1 : Int) (p0 : Int) (h : jH)
    (s1 : (jS h a0).1 = 9)
    (r1 : (p0 = 0) → jR ((jI h a0 16) + 1))
    (q1 : (p0 = 0) → (¬ (97 ≤ i1 ∧ i1 ≤ 122)) → (¬ (97 ≤ i1 ∧ i1 ≤ 122)) → (¬ (i1 = 91 ∨ i1 = 93 ∨ i1 = 58 ∨ i1 = 64 ∨ i1 = 61 ∨ i1 = 46 ∨ i1 = 38 ∨ i1 = 124 ∨ i1 = 94 ∨ i1 = 43 ∨ i1 = 45 ∨ i1 = 33 ∨ i1 = 40 ∨ i1 = 41 ∨ i1 = 59)) → Q none (jsI (jsI (jsI h a0 16 ((jI h a0 16) + 1)) a0 19 i1) a0 18 5))
    (q2 : (p0 = 0) → (¬ (97 ≤ i1 ∧ i1 ≤ 122)) → (¬ (97 ≤ i1 ∧ i1 ≤ 122)) → (i1 = 91 ∨ i1 = 93 ∨ i1 = 58 ∨ i1 = 64 ∨ i1 = 61 ∨ i1 = 46 ∨ i1 = 38 ∨ i1 = 124 ∨ i1 = 94 ∨ i1 = 43 ∨ i1 = 45 ∨ i1 = 33 ∨ i1 = 40 ∨ i1 = 41 ∨ i1 = 59) → Q none (jsI (jsI (jsI h a0 16 ((jI h a0 16) + 1)) a0 19 i1) a0 18 3))
    (q3 : (p0 = 0) → (¬ (97 ≤ i1 ∧ i1 ≤ 122)) → (97 ≤ i1 ∧ i1 ≤ 122) → Q none (jsI (jsI (jsI h a0 16 ((jI h a0 16) + 1)) a0 19 i1) a0 18 1))
    (r2 : (p0 = 0) → (97 ≤ i1 ∧ i1 ≤ 122) → jR (i1 - 97))
    (q4 : (p0 = 0) → (97 ≤ i1 ∧ i1 ≤ 122) → (¬ (97 ≤ i1 ∧ i1 ≤ 122)) → (¬ (i1 = 91 ∨ i1 = 93 ∨ i1 = 58 ∨ i1 = 64 ∨ i1 = 61 ∨ i1 = 46 ∨ i1 = 38 ∨ i1 = 124 ∨ i1 = 94 ∨ i1 = 43 ∨ i1 = 45 ∨ i1 = 33 ∨ i1 = 40 ∨ i1 = 41 ∨ i1 = 59)) → Q none (jsI (jsI (jsI h a0 16 ((jI h a0 16) + 1)) a0 19 (i1 - 97)) a0 18 5))
    (q5 : (p0 = 0) → (97 ≤ i1 ∧ i1 ≤ 122) → (¬ (97 ≤ i1 ∧ i1 ≤ 122)) → (i1 = 91 ∨ i1 = 93 ∨ i1 = 58 ∨ i1 = 64 ∨ i1 = 61 ∨ i1 = 46 ∨ i1 = 38 ∨ i1 = 124 ∨ i1 = 94 ∨ i1 = 43 ∨ i1 = 45 ∨ i1 = 33 ∨ i1 = 40 ∨ i1 = 41 ∨ i1 = 59) → Q none (jsI (jsI (jsI h a0 16 ((jI h a0 16) + 1)) a0 19 (i1 - 97)) a0 18 3))
    (q6 : (p0 = 0) → (97 ≤ i1 ∧ i1 ≤ 122) → (97 ≤ i1 ∧ i1 ≤ 122) → Q none (jsI (jsI (jsI h a0 16 ((jI h a0 16) + 1)) a0 19 (i1 - 97)) a0 18 1))
    (k1 : (¬ (p0 = 0)) → V MX9_next (d + 2) 89 [some (.inr a0), some (.inl i1)] [] (jsI h a0 19 0) 0 0 Q) :
    V MX9_next (d + 2) 81 [some (.inr a0), some (.inl i1)] [.inl p0] h 0 0 Q := by
  refine V_if_eq (tgt := 192) dX9_next_81 (by decide) (fun c1 => ?_) (fun c1 => ?_)
  · refine V_aload_n (i := 0) dX9_next_192 rfl rfl ?_
    refine V_dup dX9_next_193 ?_
    refine V_getI dX9_next_194 fX9_103 rfl s1 ?_
    refine V_iconst dX9_next_197 ⟨by decide, by decide⟩ ?_
    refine V_iadd dX9_next_198 (r1 c1) ?_
    refine V_putI (ci := 9) (kf := 16) dX9_next_199 fX9_103 rfl rfl s1 ?_
    refine V_aload_n (i := 0) dX9_next_202 rfl rfl ?_
    refine V_iload_n (i := 1) dX9_next_203 rfl rfl ?_
    refine V_bipush dX9_next_204 (by decide +kernel) ⟨by decide, by decide⟩ ?_
    refine V_bipush dX9_next_206 (by decide +kernel) ⟨by decide, by decide⟩ ?_
    refine V_callS (M := MX9_next) (d := (d + 2)) (mc' := 0) (ms' := 0) (mc := 0) (ms := 0) (a := 0) (As := [.inl i1, .inl 97, .inl 122]) (rest := [.inr a0]) dX9_next_208 tX9_in sX9_in lX9_95 rfl rfl (Nat.le_of_ble_eq_true rfl) (show d + 1 ≤ (d + 2) by omega) (Ex.mono (pX9_in (d := d) ) ?_)
    intro v h2 hq
    rw [hq.1, hq.2]
    show V MX9_next (d + 2) 211 [some (.inr a0), some (.inl i1)] [.inl (jb (97 ≤ i1 ∧ i1 ≤ 122)), .inr a0] (jsI h a0 16 ((jI h a0 16) + 1)) 0 0 Q
    refine V_ifb_eq (tgt := 221) dX9_next_211 (by decide) (fun c2 => ?_) (fun c2 => ?_)
    · refine V_iload_n (i := 1) dX9_next_221 rfl rfl ?_
      refine V_putI (ci := 9) (kf := 19) dX9_next_222 fX9_116 rfl rfl s1 ?_
      refine V_aload_n (i := 0) dX9_next_225 rfl rfl ?_
      refine V_iload_n (i := 1) dX9_next_226 rfl rfl ?_
      refine V_bipush dX9_next_227 (by decide +kernel) ⟨by decide, by decide⟩ ?_
      refine V_bipush dX9_next_229 (by decide +kernel) ⟨by decide, by decide⟩ ?_
      refine V_callS (M := MX9_next) (d := (d + 2)) (mc' := 0) (ms' := 0) (mc := 0) (ms := 0) (a := 0) (As := [.inl i1, .inl 97, .inl 122]) (rest := [.inr a0]) dX9_next_231 tX9_in sX9_in lX9_95 rfl rfl (Nat.le_of_ble_eq_true rfl) (show d + 1 ≤ (d + 2) by omega) (Ex.mono (pX9_in (d := d) ) ?_)
      intro v h2 hq
      rw [hq.1, hq.2]
      show V MX9_next (d + 2) 234 [some (.inr a0), some (.inl i1)] [.inl (jb (97 ≤ i1 ∧ i1 ≤ 122)), .inr a0] (jsI (jsI h a0 16 ((jI h a0 16) + 1)) a0 19 i1) 0 0 Q
      refine V_ifb_eq (tgt := 241) dX9_next_234 (by decide) (fun c3 => ?_) (fun c3 => ?_)
      · refine V_iload_n (i := 1) dX9_next_241 rfl rfl ?_
        refine V_callS (M := MX9_next) (d := (d + 2)) (mc' := 0) (ms' := 0) (mc := 0) (ms := 0) (a := 0) (As := [.inl i1]) (rest := [.inr a0]) dX9_next_242 tX9_isSign sX9_isSign lX9_119 rfl rfl (Nat.le_of_ble_eq_true rfl) (show d + 1 ≤ (d + 2) by omega) (Ex.mono (pX9_isSign (d := d) ) ?_)
        intro v h2 hq
        rw [hq.1, hq.2]
        show V MX9_next (d + 2) 245 [some (.inr a0), some (.inl i1)] [.inl (jb (i1 = 91 ∨ i1 = 93 ∨ i1 = 58 ∨ i1 = 64 ∨ i1 = 61 ∨ i1 = 46 ∨ i1 = 38 ∨ i1 = 124 ∨ i1 = 94 ∨ i1 = 43 ∨ i1 = 45 ∨ i1 = 33 ∨ i1 = 40 ∨ i1 = 41 ∨ i1 = 59)), .inr a0] (jsI (jsI h a0 16 ((jI h a0 16) + 1)) a0 19 i1) 0 0 Q
        refine V_ifb_eq (tgt := 252) dX9_next_245 (by decide) (fun c4 => ?_) (fun c4 => ?_)
        · refine V_iconst dX9_next_252 ⟨by decide, by decide⟩ ?_
          refine V_putI (ci := 9) (kf := 18) dX9_next_253 fX9_109 rfl rfl s1 ?_
          exact V_ret (v := none) rfl rfl dX9_next_256 trivial rfl (q1 c1 c2 c3 c4)
        · refine V_iconst dX9_next_248 ⟨by decide, by decide⟩ ?_
          refine V_goto (tgt := 253) dX9_next_249 (by decide) ?_
          refine V_putI (ci := 9) (kf := 18) dX9_next_253 fX9_109 rfl rfl s1 ?_
          exact V_ret (v := none) rfl rfl dX9_next_256 trivial rfl (q2 c1 c2 c3 c4)
      · refine V_iconst dX9_next_237 ⟨by decide, by decide⟩ ?_
        refine V_goto (tgt := 253) dX9_next_238 (by decide) ?_
        refine V_putI (ci := 9) (kf := 18) dX9_next_253 fX9_109 rfl rfl s1 ?_
        exact V_ret (v := none) rfl rfl dX9_next_256 trivial rfl (q3 c1 c2 c3)
    · refine V_iload_n (i := 1) dX9_next_214 rfl rfl ?_
      refine V_bipush dX9_next_215 (by decide +kernel) ⟨by decide, by decide⟩ ?_
      refine V_isub dX9_next_217 (r2 c1 c2) ?_
      refine V_goto (tgt := 222) dX9_next_218 (by decide) ?_
      refine V_putI (ci := 9) (kf := 19) dX9_next_222 fX9_116 rfl rfl s1 ?_
      refine V_aload_n (i := 0) dX9_next_225 rfl rfl ?_
      refine V_iload_n (i := 1) dX9_next_226 rfl rfl ?_
      refine V_bipush dX9_next_227 (by decide +kernel) ⟨by decide, by decide⟩ ?_
      refine V_bipush dX9_next_229 (by decide +kernel) ⟨by decide, by decide⟩ ?_
      refine V_callS (M := MX9_next) (d := (d + 2)) (mc' := 0) (ms' := 0) (mc := 0) (ms := 0) (a := 0) (As := [.inl i1, .inl 97, .inl 122]) (rest := [.inr a0]) dX9_next_231 tX9_in sX9_in lX9_95 rfl rfl (Nat.le_of_ble_eq_true rfl) (show d + 1 ≤ (d + 2) by omega) (Ex.mono (pX9_in (d := d) ) ?_)
      intro v h2 hq
      rw [hq.1, hq.2]
      show V MX9_next (d + 2) 234 [some (.inr a0), some (.inl i1)] [.inl (jb (97 ≤ i1 ∧ i1 ≤ 122)), .inr a0] (jsI (jsI h a0 16 ((jI h a0 16) + 1)) a0 19 (i1 - 97)) 0 0 Q
      refine V_ifb_eq (tgt := 241) dX9_next_234 (by decide) (fun c5 => ?_) (fun c5 => ?_)
      · refine V_iload_n (i := 1) dX9_next_241 rfl rfl ?_
        refine V_callS (M := MX9_next) (d := (d + 2)) (mc' := 0) (ms' := 0) (mc := 0) (ms := 0) (a := 0) (As := [.inl i1]) (rest := [.inr a0]) dX9_next_242 tX9_isSign sX9_isSign lX9_119 rfl rfl (Nat.le_of_ble_eq_true rfl) (show d + 1 ≤ (d + 2) by omega) (Ex.mono (pX9_isSign (d := d) ) ?_)
        intro v h2 hq
        rw [hq.1, hq.2]
        show V MX9_next (d + 2) 245 [some (.inr a0), some (.inl i1)] [.inl (jb (i1 = 91 ∨ i1 = 93 ∨ i1 = 58 ∨ i1 = 64 ∨ i1 = 61 ∨ i1 = 46 ∨ i1 = 38 ∨ i1 = 124 ∨ i1 = 94 ∨ i1 = 43 ∨ i1 = 45 ∨ i1 = 33 ∨ i1 = 40 ∨ i1 = 41 ∨ i1 = 59)), .inr a0] (jsI (jsI h a0 16 ((jI h a0 16) + 1)) a0 19 (i1 - 97)) 0 0 Q
        refine V_ifb_eq (tgt := 252) dX9_next_245 (by decide) (fun c6 => ?_) (fun c6 => ?_)
        · refine V_iconst dX9_next_252 ⟨by decide, by decide⟩ ?_
          refine V_putI (ci := 9) (kf := 18) dX9_next_253 fX9_109 rfl rfl s1 ?_
          exact V_ret (v := none) rfl rfl dX9_next_256 trivial rfl (q4 c1 c2 c5 c6)
        · refine V_iconst dX9_next_248 ⟨by decide, by decide⟩ ?_
          refine V_goto (tgt := 253) dX9_next_249 (by decide) ?_
          refine V_putI (ci := 9) (kf := 18) dX9_next_253 fX9_109 rfl rfl s1 ?_
          exact V_ret (v := none) rfl rfl dX9_next_256 trivial rfl (q5 c1 c2 c5 c6)
      · refine V_iconst dX9_next_237 ⟨by decide, by decide⟩ ?_
        refine V_goto (tgt := 253) dX9_next_238 (by decide) ?_
        refine V_putI (ci := 9) (kf := 18) dX9_next_253 fX9_109 rfl rfl s1 ?_
        exact V_ret (v := none) rfl rfl dX9_next_256 trivial rfl (q6 c1 c2 c5)
  · refine V_aload_n (i := 0) dX9_next_84 rfl rfl ?_
    refine V_iconst dX9_next_85 ⟨by decide, by decide⟩ ?_
    refine V_putI (ci := 9) (kf := 19) dX9_next_86 fX9_116 rfl rfl s1 ?_
    exact (k1 c1)
theorem dX9_due_0 : decode cX9_due 0 = .ok (.iload_n 1, 1) := by decide +kernel
theorem dX9_due_1 : decode cX9_due 1 = .ok (.ifCond .ne 20, 3) := by decide +kernel
theorem dX9_due_4 : decode cX9_due 4 = .ok (.aload_n 0, 1) := by decide +kernel
theorem dX9_due_5 : decode cX9_due 5 = .ok (.getfield 122, 3) := by decide +kernel
theorem dX9_due_8 : decode cX9_due 8 = .ok (.bipush (-9), 2) := by decide +kernel
theorem dX9_due_10 : decode cX9_due 10 = .ok (.if_icmp .ne 11, 3) := by decide +kernel
theorem dX9_due_13 : decode cX9_due 13 = .ok (.aload_n 0, 1) := by decide +kernel
theorem dX9_due_14 : decode cX9_due 14 = .ok (.aload_n 0, 1) := by decide +kernel
theorem dX9_due_15 : decode cX9_due 15 = .ok (.getfield 106, 3) := by decide +kernel
theorem dX9_due_18 : decode cX9_due 18 = .ok (.putfield 122, 3) := by decide +kernel
theorem dX9_due_21 : decode cX9_due 21 = .ok (.return_, 1) := by decide +kernel
theorem bX9_due_0 {d : Nat} {Q : Option jA → jH → Prop} (a0 : Nat) (i1 : Int) (h : jH)
    (q1 : (i1 ≠ 0) → Q none h)
    (s1 : (jS h a0).1 = 9)
    (q2 : (i1 = 0) → ((jI h a0 20) ≠ ((-9))) → Q none h)
    (q3 : (i1 = 0) → ((jI h a0 20) = ((-9))) → Q none (jsI h a0 20 (jI h a0 17))) :
    V MX9_due d 0 [some (.inr a0), some (.inl i1)] [] h 0 0 Q := by
  refine V_iload_n (i := 1) dX9_due_0 rfl rfl ?_
  refine V_if_ne (tgt := 21) dX9_due_1 (by decide) (fun c1 => ?_) (fun c1 => ?_)
  · exact V_ret (v := none) rfl rfl dX9_due_21 trivial rfl (q1 c1)
  · refine V_aload_n (i := 0) dX9_due_4 rfl rfl ?_
    refine V_getI dX9_due_5 fX9_122 rfl s1 ?_
    refine V_bipush dX9_due_8 (by decide +kernel) ⟨by decide, by decide⟩ ?_
    refine V_icmp_ne (tgt := 21) dX9_due_10 (by decide) (fun c2 => ?_) (fun c2 => ?_)
    · exact V_ret (v := none) rfl rfl dX9_due_21 trivial rfl (q2 c1 c2)
    · refine V_aload_n (i := 0) dX9_due_13 rfl rfl ?_
      refine V_aload_n (i := 0) dX9_due_14 rfl rfl ?_
      refine V_getI dX9_due_15 fX9_106 rfl s1 ?_
      refine V_putI (ci := 9) (kf := 20) dX9_due_18 fX9_122 rfl rfl s1 ?_
      exact V_ret (v := none) rfl rfl dX9_due_21 trivial rfl (q3 c1 c2)
theorem dX9_passes_0 : decode cX9_passes 0 = .ok (.aload_n 0, 1) := by decide +kernel
theorem dX9_passes_1 : decode cX9_passes 1 = .ok (.iload_n 1, 1) := by decide +kernel
theorem dX9_passes_2 : decode cX9_passes 2 = .ok (.invokevirtual 125, 3) := by decide +kernel
theorem dX9_passes_5 : decode cX9_passes 5 = .ok (.aload_n 0, 1) := by decide +kernel
theorem dX9_passes_6 : decode cX9_passes 6 = .ok (.getfield 122, 3) := by decide +kernel
theorem dX9_passes_9 : decode cX9_passes 9 = .ok (.bipush (-9), 2) := by decide +kernel
theorem dX9_passes_11 : decode cX9_passes 11 = .ok (.if_icmp .ne 7, 3) := by decide +kernel
theorem dX9_passes_14 : decode cX9_passes 14 = .ok (.aload_n 0, 1) := by decide +kernel
theorem dX9_passes_15 : decode cX9_passes 15 = .ok (.invokevirtual 129, 3) := by decide +kernel
theorem dX9_passes_18 : decode cX9_passes 18 = .ok (.return_, 1) := by decide +kernel
theorem bX9_passes_0 {d : Nat} {Q : Option jA → jH → Prop} (a0 : Nat) (i1 : Int) (h : jH)
    (e1 : Ex MX9_due d [.inr a0, .inl i1] h 0 0 (fun v h2 => V MX9_passes (d + 3) 5 [some (.inr a0), some (.inl i1)] (v.toList ++ []) h2 0 0 Q))
    (s1 : (jS h a0).1 = 9) :
    V MX9_passes (d + 3) 0 [some (.inr a0), some (.inl i1)] [] h 0 0 Q := by
  refine V_aload_n (i := 0) dX9_passes_0 rfl rfl ?_
  refine V_iload_n (i := 1) dX9_passes_1 rfl rfl ?_
  exact V_callV (M := MX9_passes) (d := (d + 3)) (mc' := 0) (ms' := 0) (mc := 0) (ms := 0) (As := [.inl i1]) (rest := []) dX9_passes_2 tX9_due vX9_due lX9_125 s1 ⟨by decide, rfl⟩ rfl rfl (Nat.le_of_ble_eq_true rfl) (show d + 1 ≤ (d + 3) by omega) e1
theorem bX9_passes_5 {d : Nat} {Q : Option jA → jH → Prop} (a0 : Nat) (i1 : Int) (h : jH)
    (s1 : (jS h a0).1 = 9)
    (q1 : ((jI h a0 20) ≠ ((-9))) → Q none h)
    (e1 : ((jI h a0 20) = ((-9))) → Ex MX9_next (d + 2) [.inr a0] h 0 0 (fun v h2 => V MX9_passes (d + 3) 18 [some (.inr a0), some (.inl i1)] (v.toList ++ []) h2 0 0 Q)) :
    V MX9_passes (d + 3) 5 [some (.inr a0), some (.inl i1)] [] h 0 0 Q := by
  refine V_aload_n (i := 0) dX9_passes_5 rfl rfl ?_
  refine V_getI dX9_passes_6 fX9_122 rfl s1 ?_
  refine V_bipush dX9_passes_9 (by decide +kernel) ⟨by decide, by decide⟩ ?_
  refine V_icmp_ne (tgt := 18) dX9_passes_11 (by decide) (fun c1 => ?_) (fun c1 => ?_)
  · exact V_ret (v := none) rfl rfl dX9_passes_18 trivial rfl (q1 c1)
  · refine V_aload_n (i := 0) dX9_passes_14 rfl rfl ?_
    exact V_callV (M := MX9_passes) (d := (d + 3)) (mc' := 0) (ms' := 0) (mc := 0) (ms := 0) (As := []) (rest := []) dX9_passes_15 tX9_next vX9_next lX9_129 s1 ⟨by decide, rfl⟩ rfl rfl (Nat.le_of_ble_eq_true rfl) (show (d + 2) + 1 ≤ (d + 3) by omega) (e1 c1)
theorem bX9_passes_18 {d : Nat} {Q : Option jA → jH → Prop} (a0 : Nat) (i1 : Int) (h : jH)
    (q1 : Q none h) :
    V MX9_passes (d + 3) 18 [some (.inr a0), some (.inl i1)] [] h 0 0 Q := by
  exact V_ret (v := none) rfl rfl dX9_passes_18 trivial rfl q1
theorem dX9_newNodeBy_0 : decode cX9_newNodeBy 0 = .ok (.bipush (-9), 2) := by decide +kernel
theorem dX9_newNodeBy_2 : decode cX9_newNodeBy 2 = .ok (.istore_n 3, 1) := by decide +kernel
theorem dX9_newNodeBy_3 : decode cX9_newNodeBy 3 = .ok (.iconst 0, 1) := by decide +kernel
theorem dX9_newNodeBy_4 : decode cX9_newNodeBy 4 = .ok (.istore 4, 2) := by decide +kernel
theorem dX9_newNodeBy_6 : decode cX9_newNodeBy 6 = .ok (.iload 4, 2) := by decide +kernel
theorem dX9_newNodeBy_8 : decode cX9_newNodeBy 8 = .ok (.aload_n 0, 1) := by decide +kernel
theorem dX9_newNodeBy_9 : decode cX9_newNodeBy 9 = .ok (.getfield 132, 3) := by decide +kernel
theorem dX9_newNodeBy_12 : decode cX9_newNodeBy 12 = .ok (.if_icmp .ge 48, 3) := by decide +kernel
theorem dX9_newNodeBy_15 : decode cX9_newNodeBy 15 = .ok (.aload_n 0, 1) := by decide +kernel
theorem dX9_newNodeBy_16 : decode cX9_newNodeBy 16 = .ok (.getfield 41, 3) := by decide +kernel
theorem dX9_newNodeBy_19 : decode cX9_newNodeBy 19 = .ok (.bipush 6, 2) := by decide +kernel
theorem dX9_newNodeBy_21 : decode cX9_newNodeBy 21 = .ok (.iload 4, 2) := by decide +kernel
theorem dX9_newNodeBy_23 : decode cX9_newNodeBy 23 = .ok (.imul, 1) := by decide +kernel
theorem dX9_newNodeBy_24 : decode cX9_newNodeBy 24 = .ok (.iconst 3, 1) := by decide +kernel
theorem dX9_newNodeBy_25 : decode cX9_newNodeBy 25 = .ok (.iadd, 1) := by decide +kernel
theorem dX9_newNodeBy_26 : decode cX9_newNodeBy 26 = .ok (.iaload, 1) := by decide +kernel
theorem dX9_newNodeBy_27 : decode cX9_newNodeBy 27 = .ok (.iload_n 1, 1) := by decide +kernel
theorem dX9_newNodeBy_28 : decode cX9_newNodeBy 28 = .ok (.if_icmp .ne 24, 3) := by decide +kernel
theorem dX9_newNodeBy_31 : decode cX9_newNodeBy 31 = .ok (.aload_n 0, 1) := by decide +kernel
theorem dX9_newNodeBy_32 : decode cX9_newNodeBy 32 = .ok (.getfield 41, 3) := by decide +kernel
theorem dX9_newNodeBy_35 : decode cX9_newNodeBy 35 = .ok (.bipush 6, 2) := by decide +kernel
theorem dX9_newNodeBy_37 : decode cX9_newNodeBy 37 = .ok (.iload 4, 2) := by decide +kernel
theorem dX9_newNodeBy_39 : decode cX9_newNodeBy 39 = .ok (.imul, 1) := by decide +kernel
theorem dX9_newNodeBy_40 : decode cX9_newNodeBy 40 = .ok (.iconst 4, 1) := by decide +kernel
theorem dX9_newNodeBy_41 : decode cX9_newNodeBy 41 = .ok (.iadd, 1) := by decide +kernel
theorem dX9_newNodeBy_42 : decode cX9_newNodeBy 42 = .ok (.iaload, 1) := by decide +kernel
theorem dX9_newNodeBy_43 : decode cX9_newNodeBy 43 = .ok (.iload_n 2, 1) := by decide +kernel
theorem dX9_newNodeBy_44 : decode cX9_newNodeBy 44 = .ok (.if_icmp .ne 8, 3) := by decide +kernel
theorem dX9_newNodeBy_47 : decode cX9_newNodeBy 47 = .ok (.iload 4, 2) := by decide +kernel
theorem dX9_newNodeBy_49 : decode cX9_newNodeBy 49 = .ok (.goto 4, 3) := by decide +kernel
theorem dX9_newNodeBy_52 : decode cX9_newNodeBy 52 = .ok (.iload_n 3, 1) := by decide +kernel
theorem dX9_newNodeBy_53 : decode cX9_newNodeBy 53 = .ok (.istore_n 3, 1) := by decide +kernel
theorem dX9_newNodeBy_54 : decode cX9_newNodeBy 54 = .ok (.iinc 4 1, 3) := by decide +kernel
theorem dX9_newNodeBy_57 : decode cX9_newNodeBy 57 = .ok (.goto (-51), 3) := by decide +kernel
theorem dX9_newNodeBy_60 : decode cX9_newNodeBy 60 = .ok (.iload_n 3, 1) := by decide +kernel
theorem dX9_newNodeBy_61 : decode cX9_newNodeBy 61 = .ok (.ireturn, 1) := by decide +kernel
theorem bX9_newNodeBy_0 {d : Nat} {Q : Option jA → jH → Prop} (a0 : Nat) (i1 : Int) (i2 : Int) (u3 : Option jA) (u4 : Option jA) (h : jH)
    (k1 : V MX9_newNodeBy d 6 [some (.inr a0), some (.inl i1), some (.inl i2), some (.inl ((-9))), some (.inl 0)] [] h 0 0 Q) :
    V MX9_newNodeBy d 0 [some (.inr a0), some (.inl i1), some (.inl i2), u3, u4] [] h 0 0 Q := by
  refine V_bipush dX9_newNodeBy_0 (by decide +kernel) ⟨by decide, by decide⟩ ?_
  refine V_istore_n (i := 3) dX9_newNodeBy_2 rfl (by decide) ?_
  refine V_iconst dX9_newNodeBy_3 ⟨by decide, by decide⟩ ?_
  refine V_istore (i := 4) dX9_newNodeBy_4 (by decide) ?_
  exact k1
theorem bX9_newNodeBy_6 {d : Nat} {Q : Option jA → jH → Prop} (a0 : Nat) (i1 : Int) (i2 : Int) (i3 : Int) (i4 : Int) (h : jH)
    (s1 : (jS h a0).1 = 9)
    (q1 : ((jI h a0 22) ≤ i4) → Q (some (.inl i3)) h)
    (r1 : (¬ ((jI h a0 22) ≤ i4)) → jR (6 * i4))
    (r2 : (¬ ((jI h a0 22) ≤ i4)) → jR ((6 * i4) + 3))
    (s2 : (jS h (jP h a0 21)).1 = 16)
    (s3 : (¬ ((jI h a0 22) ≤ i4)) → 0 ≤ (6 * i4) + 3)
    (s4 : (¬ ((jI h a0 22) ≤ i4)) → (6 * i4) + 3 < ((jS h (jP h a0 21)).2 : Int))
    (r3 : (¬ ((jI h a0 22) ≤ i4)) → ((jX h (jP h a0 21) (((6 * i4) + 3).toNat)) ≠ i1) → jR (i4 + 1))
    (k1 : (¬ ((jI h a0 22) ≤ i4)) → ((jX h (jP h a0 21) (((6 * i4) + 3).toNat)) ≠ i1) → V MX9_newNodeBy d 6 [some (.inr a0), some (.inl i1), some (.inl i2), some (.inl i3), some (.inl (i4 + 1))] [] h 0 0 Q)
    (r4 : (¬ ((jI h a0 22) ≤ i4)) → ((jX h (jP h a0 21) (((6 * i4) + 3).toNat)) = i1) → jR (6 * i4))
    (r5 : (¬ ((jI h a0 22) ≤ i4)) → ((jX h (jP h a0 21) (((6 * i4) + 3).toNat)) = i1) → jR ((6 * i4) + 4))
    (s5 : (¬ ((jI h a0 22) ≤ i4)) → ((jX h (jP h a0 21) (((6 * i4) + 3).toNat)) = i1) → 0 ≤ (6 * i4) + 4)
    (s6 : (¬ ((jI h a0 22) ≤ i4)) → ((jX h (jP h a0 21) (((6 * i4) + 3).toNat)) = i1) → (6 * i4) + 4 < ((jS h (jP h a0 21)).2 : Int))
    (r6 : (¬ ((jI h a0 22) ≤ i4)) → ((jX h (jP h a0 21) (((6 * i4) + 3).toNat)) = i1) → ((jX h (jP h a0 21) (((6 * i4) + 4).toNat)) ≠ i2) → jR (i4 + 1))
    (k2 : (¬ ((jI h a0 22) ≤ i4)) → ((jX h (jP h a0 21) (((6 * i4) + 3).toNat)) = i1) → ((jX h (jP h a0 21) (((6 * i4) + 4).toNat)) ≠ i2) → V MX9_newNodeBy d 6 [some (.inr a0), some (.inl i1), some (.inl i2), some (.inl i3), some (.inl (i4 + 1))] [] h 0 0 Q)
    (r7 : (¬ ((jI h a0 22) ≤ i4)) → ((jX h (jP h a0 21) (((6 * i4) + 3).toNat)) = i1) → ((jX h (jP h a0 21) (((6 * i4) + 4).toNat)) = i2) → jR (i4 + 1))
    (k3 : (¬ ((jI h a0 22) ≤ i4)) → ((jX h (jP h a0 21) (((6 * i4) + 3).toNat)) = i1) → ((jX h (jP h a0 21) (((6 * i4) + 4).toNat)) = i2) → V MX9_newNodeBy d 6 [some (.inr a0), some (.inl i1), some (.inl i2), some (.inl i4), some (.inl (i4 + 1))] [] h 0 0 Q) :
    V MX9_newNodeBy d 6 [some (.inr a0), some (.inl i1), some (.inl i2), some (.inl i3), some (.inl i4)] [] h 0 0 Q := by
  refine V_iload (i := 4) dX9_newNodeBy_6 rfl ?_
  refine V_aload_n (i := 0) dX9_newNodeBy_8 rfl rfl ?_
  refine V_getI dX9_newNodeBy_9 fX9_132 rfl s1 ?_
  refine V_icmp_ge (tgt := 60) dX9_newNodeBy_12 (by decide) (fun c1 => ?_) (fun c1 => ?_)
  · refine V_iload_n (i := 3) dX9_newNodeBy_60 rfl rfl ?_
    exact V_reti rfl dX9_newNodeBy_61 (q1 c1)
  · refine V_aload_n (i := 0) dX9_newNodeBy_15 rfl rfl ?_
    refine V_getP dX9_newNodeBy_16 fX9_41 rfl s1 ?_
    refine V_bipush dX9_newNodeBy_19 (by decide +kernel) ⟨by decide, by decide⟩ ?_
    refine V_iload (i := 4) dX9_newNodeBy_21 rfl ?_
    refine V_imul dX9_newNodeBy_23 (r1 c1) ?_
    refine V_iconst dX9_newNodeBy_24 ⟨by decide, by decide⟩ ?_
    refine V_iadd dX9_newNodeBy_25 (r2 c1) ?_
    refine V_iald dX9_newNodeBy_26 s2 (s3 c1) (s4 c1) ?_
    refine V_iload_n (i := 1) dX9_newNodeBy_27 rfl rfl ?_
    refine V_icmp_ne (tgt := 52) dX9_newNodeBy_28 (by decide) (fun c2 => ?_) (fun c2 => ?_)
    · refine V_iload_n (i := 3) dX9_newNodeBy_52 rfl rfl ?_
      refine V_istore_n (i := 3) dX9_newNodeBy_53 rfl (by decide) ?_
      refine V_iinc (i := 4) dX9_newNodeBy_54 rfl (by decide) (r3 c1 c2) ?_
      refine V_goto (tgt := 6) dX9_newNodeBy_57 (by decide) ?_
      exact (k1 c1 c2)
    · refine V_aload_n (i := 0) dX9_newNodeBy_31 rfl rfl ?_
      refine V_getP dX9_newNodeBy_32 fX9_41 rfl s1 ?_
      refine V_bipush dX9_newNodeBy_35 (by decide +kernel) ⟨by decide, by decide⟩ ?_
      refine V_iload (i := 4) dX9_newNodeBy_37 rfl ?_
      refine V_imul dX9_newNodeBy_39 (r4 c1 c2) ?_
      refine V_iconst dX9_newNodeBy_40 ⟨by decide, by decide⟩ ?_
      refine V_iadd dX9_newNodeBy_41 (r5 c1 c2) ?_
      refine V_iald dX9_newNodeBy_42 s2 (s5 c1 c2) (s6 c1 c2) ?_
      refine V_iload_n (i := 2) dX9_newNodeBy_43 rfl rfl ?_
      refine V_icmp_ne (tgt := 52) dX9_newNodeBy_44 (by decide) (fun c3 => ?_) (fun c3 => ?_)
      · refine V_iload_n (i := 3) dX9_newNodeBy_52 rfl rfl ?_
        refine V_istore_n (i := 3) dX9_newNodeBy_53 rfl (by decide) ?_
        refine V_iinc (i := 4) dX9_newNodeBy_54 rfl (by decide) (r6 c1 c2 c3) ?_
        refine V_goto (tgt := 6) dX9_newNodeBy_57 (by decide) ?_
        exact (k2 c1 c2 c3)
      · refine V_iload (i := 4) dX9_newNodeBy_47 rfl ?_
        refine V_goto (tgt := 53) dX9_newNodeBy_49 (by decide) ?_
        refine V_istore_n (i := 3) dX9_newNodeBy_53 rfl (by decide) ?_
        refine V_iinc (i := 4) dX9_newNodeBy_54 rfl (by decide) (r7 c1 c2 c3) ?_
        refine V_goto (tgt := 6) dX9_newNodeBy_57 (by decide) ?_
        exact (k3 c1 c2 c3)
theorem dX9_newScopeBy_0 : decode cX9_newScopeBy 0 = .ok (.bipush (-9), 2) := by decide +kernel
theorem dX9_newScopeBy_2 : decode cX9_newScopeBy 2 = .ok (.istore_n 3, 1) := by decide +kernel
theorem dX9_newScopeBy_3 : decode cX9_newScopeBy 3 = .ok (.iconst 0, 1) := by decide +kernel
theorem dX9_newScopeBy_4 : decode cX9_newScopeBy 4 = .ok (.istore 4, 2) := by decide +kernel
theorem dX9_newScopeBy_6 : decode cX9_newScopeBy 6 = .ok (.iload 4, 2) := by decide +kernel
theorem dX9_newScopeBy_8 : decode cX9_newScopeBy 8 = .ok (.aload_n 0, 1) := by decide +kernel
theorem dX9_newScopeBy_9 : decode cX9_newScopeBy 9 = .ok (.getfield 135, 3) := by decide +kernel
theorem dX9_newScopeBy_12 : decode cX9_newScopeBy 12 = .ok (.if_icmp .ge 38, 3) := by decide +kernel
theorem dX9_newScopeBy_15 : decode cX9_newScopeBy 15 = .ok (.aload_n 0, 1) := by decide +kernel
theorem dX9_newScopeBy_16 : decode cX9_newScopeBy 16 = .ok (.getfield 44, 3) := by decide +kernel
theorem dX9_newScopeBy_19 : decode cX9_newScopeBy 19 = .ok (.iload 4, 2) := by decide +kernel
theorem dX9_newScopeBy_21 : decode cX9_newScopeBy 21 = .ok (.iaload, 1) := by decide +kernel
theorem dX9_newScopeBy_22 : decode cX9_newScopeBy 22 = .ok (.iload_n 1, 1) := by decide +kernel
theorem dX9_newScopeBy_23 : decode cX9_newScopeBy 23 = .ok (.if_icmp .ne 19, 3) := by decide +kernel
theorem dX9_newScopeBy_26 : decode cX9_newScopeBy 26 = .ok (.aload_n 0, 1) := by decide +kernel
theorem dX9_newScopeBy_27 : decode cX9_newScopeBy 27 = .ok (.getfield 47, 3) := by decide +kernel
theorem dX9_newScopeBy_30 : decode cX9_newScopeBy 30 = .ok (.iload 4, 2) := by decide +kernel
theorem dX9_newScopeBy_32 : decode cX9_newScopeBy 32 = .ok (.iaload, 1) := by decide +kernel
theorem dX9_newScopeBy_33 : decode cX9_newScopeBy 33 = .ok (.iload_n 2, 1) := by decide +kernel
theorem dX9_newScopeBy_34 : decode cX9_newScopeBy 34 = .ok (.if_icmp .ne 8, 3) := by decide +kernel
theorem dX9_newScopeBy_37 : decode cX9_newScopeBy 37 = .ok (.iload 4, 2) := by decide +kernel
theorem dX9_newScopeBy_39 : decode cX9_newScopeBy 39 = .ok (.goto 4, 3) := by decide +kernel
theorem dX9_newScopeBy_42 : decode cX9_newScopeBy 42 = .ok (.iload_n 3, 1) := by decide +kernel
theorem dX9_newScopeBy_43 : decode cX9_newScopeBy 43 = .ok (.istore_n 3, 1) := by decide +kernel
theorem dX9_newScopeBy_44 : decode cX9_newScopeBy 44 = .ok (.iinc 4 1, 3) := by decide +kernel
theorem dX9_newScopeBy_47 : decode cX9_newScopeBy 47 = .ok (.goto (-41), 3) := by decide +kernel
theorem dX9_newScopeBy_50 : decode cX9_newScopeBy 50 = .ok (.iload_n 3, 1) := by decide +kernel
theorem dX9_newScopeBy_51 : decode cX9_newScopeBy 51 = .ok (.ireturn, 1) := by decide +kernel
theorem bX9_newScopeBy_0 {d : Nat} {Q : Option jA → jH → Prop} (a0 : Nat) (i1 : Int) (i2 : Int) (u3 : Option jA) (u4 : Option jA) (h : jH)
    (k1 : V MX9_newScopeBy d 6 [some (.inr a0), some (.inl i1), some (.inl i2), some (.inl ((-9))), some (.inl 0)] [] h 0 0 Q) :
    V MX9_newScopeBy d 0 [some (.inr a0), some (.inl i1), some (.inl i2), u3, u4] [] h 0 0 Q := by
  refine V_bipush dX9_newScopeBy_0 (by decide +kernel) ⟨by decide, by decide⟩ ?_
  refine V_istore_n (i := 3) dX9_newScopeBy_2 rfl (by decide) ?_
  refine V_iconst dX9_newScopeBy_3 ⟨by decide, by decide⟩ ?_
  refine V_istore (i := 4) dX9_newScopeBy_4 (by decide) ?_
  exact k1
theorem bX9_newScopeBy_6 {d : Nat} {Q : Option jA → jH → Prop} (a0 : Nat) (i1 : Int) (i2 : Int) (i3 : Int) (i4 : Int) (h : jH)
    (s1 : (jS h a0).1 = 9)
    (q1 : ((jI h a0 27) ≤ i4) → Q (some (.inl i3)) h)
    (s2 : (jS h (jP h a0 25)).1 = 16)
    (s3 : (¬ ((jI h a0 27) ≤ i4)) → 0 ≤ i4)
    (s4 : (¬ ((jI h a0 27) ≤ i4)) → i4 < ((jS h (jP h a0 25)).2 : Int))
    (r1 : (¬ ((jI h a0 27) ≤ i4)) → ((jX h (jP h a0 25) ((i4).toNat)) ≠ i1) → jR (i4 + 1))
    (k1 : (¬ ((jI h a0 27) ≤ i4)) → ((jX h (jP h a0 25) ((i4).toNat)) ≠ i1) → V MX9_newScopeBy d 6 [some (.inr a0), some (.inl i1), some (.inl i2), some (.inl i3), some (.inl (i4 + 1))] [] h 0 0 Q)
    (s5 : (jS h (jP h a0 26)).1 = 16)
    (s6 : (¬ ((jI h a0 27) ≤ i4)) → ((jX h (jP h a0 25) ((i4).toNat)) = i1) → i4 < ((jS h (jP h a0 26)).2 : Int))
    (r2 : (¬ ((jI h a0 27) ≤ i4)) → ((jX h (jP h a0 25) ((i4).toNat)) = i1) → ((jX h (jP h a0 26) ((i4).toNat)) ≠ i2) → jR (i4 + 1))
    (k2 : (¬ ((jI h a0 27) ≤ i4)) → ((jX h (jP h a0 25) ((i4).toNat)) = i1) → ((jX h (jP h a0 26) ((i4).toNat)) ≠ i2) → V MX9_newScopeBy d 6 [some (.inr a0), some (.inl i1), some (.inl i2), some (.inl i3), some (.inl (i4 + 1))] [] h 0 0 Q)
    (r3 : (¬ ((jI h a0 27) ≤ i4)) → ((jX h (jP h a0 25) ((i4).toNat)) = i1) → ((jX h (jP h a0 26) ((i4).toNat)) = i2) → jR (i4 + 1))
    (k3 : (¬ ((jI h a0 27) ≤ i4)) → ((jX h (jP h a0 25) ((i4).toNat)) = i1) → ((jX h (jP h a0 26) ((i4).toNat)) = i2) → V MX9_newScopeBy d 6 [some (.inr a0), some (.inl i1), some (.inl i2), some (.inl i4), some (.inl (i4 + 1))] [] h 0 0 Q) :
    V MX9_newScopeBy d 6 [some (.inr a0), some (.inl i1), some (.inl i2), some (.inl i3), some (.inl i4)] [] h 0 0 Q := by
  refine V_iload (i := 4) dX9_newScopeBy_6 rfl ?_
  refine V_aload_n (i := 0) dX9_newScopeBy_8 rfl rfl ?_
  refine V_getI dX9_newScopeBy_9 fX9_135 rfl s1 ?_
  refine V_icmp_ge (tgt := 50) dX9_newScopeBy_12 (by decide) (fun c1 => ?_) (fun c1 => ?_)
  · refine V_iload_n (i := 3) dX9_newScopeBy_50 rfl rfl ?_
    exact V_reti rfl dX9_newScopeBy_51 (q1 c1)
  · refine V_aload_n (i := 0) dX9_newScopeBy_15 rfl rfl ?_
    refine V_getP dX9_newScopeBy_16 fX9_44 rfl s1 ?_
    refine V_iload (i := 4) dX9_newScopeBy_19 rfl ?_
    refine V_iald dX9_newScopeBy_21 s2 (s3 c1) (s4 c1) ?_
    refine V_iload_n (i := 1) dX9_newScopeBy_22 rfl rfl ?_
    refine V_icmp_ne (tgt := 42) dX9_newScopeBy_23 (by decide) (fun c2 => ?_) (fun c2 => ?_)
    · refine V_iload_n (i := 3) dX9_newScopeBy_42 rfl rfl ?_
      refine V_istore_n (i := 3) dX9_newScopeBy_43 rfl (by decide) ?_
      refine V_iinc (i := 4) dX9_newScopeBy_44 rfl (by decide) (r1 c1 c2) ?_
      refine V_goto (tgt := 6) dX9_newScopeBy_47 (by decide) ?_
      exact (k1 c1 c2)
    · refine V_aload_n (i := 0) dX9_newScopeBy_26 rfl rfl ?_
      refine V_getP dX9_newScopeBy_27 fX9_47 rfl s1 ?_
      refine V_iload (i := 4) dX9_newScopeBy_30 rfl ?_
      refine V_iald dX9_newScopeBy_32 s5 (s3 c1) (s6 c1 c2) ?_
      refine V_iload_n (i := 2) dX9_newScopeBy_33 rfl rfl ?_
      refine V_icmp_ne (tgt := 42) dX9_newScopeBy_34 (by decide) (fun c3 => ?_) (fun c3 => ?_)
      · refine V_iload_n (i := 3) dX9_newScopeBy_42 rfl rfl ?_
        refine V_istore_n (i := 3) dX9_newScopeBy_43 rfl (by decide) ?_
        refine V_iinc (i := 4) dX9_newScopeBy_44 rfl (by decide) (r2 c1 c2 c3) ?_
        refine V_goto (tgt := 6) dX9_newScopeBy_47 (by decide) ?_
        exact (k2 c1 c2 c3)
      · refine V_iload (i := 4) dX9_newScopeBy_37 rfl ?_
        refine V_goto (tgt := 43) dX9_newScopeBy_39 (by decide) ?_
        refine V_istore_n (i := 3) dX9_newScopeBy_43 rfl (by decide) ?_
        refine V_iinc (i := 4) dX9_newScopeBy_44 rfl (by decide) (r3 c1 c2 c3) ?_
        refine V_goto (tgt := 6) dX9_newScopeBy_47 (by decide) ?_
        exact (k3 c1 c2 c3)
theorem dX9_opens_0 : decode cX9_opens 0 = .ok (.aload_n 0, 1) := by decide +kernel
theorem dX9_opens_1 : decode cX9_opens 1 = .ok (.aload_n 0, 1) := by decide +kernel
theorem dX9_opens_2 : decode cX9_opens 2 = .ok (.getfield 138, 3) := by decide +kernel
theorem dX9_opens_5 : decode cX9_opens 5 = .ok (.iconst 4, 1) := by decide +kernel
theorem dX9_opens_6 : decode cX9_opens 6 = .ok (.if_icmp .ge 7, 3) := by decide +kernel
theorem dX9_opens_9 : decode cX9_opens 9 = .ok (.iconst 1, 1) := by decide +kernel
theorem dX9_opens_10 : decode cX9_opens 10 = .ok (.goto 4, 3) := by decide +kernel
theorem dX9_opens_13 : decode cX9_opens 13 = .ok (.iconst 0, 1) := by decide +kernel
theorem dX9_opens_14 : decode cX9_opens 14 = .ok (.invokevirtual 125, 3) := by decide +kernel
theorem dX9_opens_17 : decode cX9_opens 17 = .ok (.aload_n 0, 1) := by decide +kernel
theorem dX9_opens_18 : decode cX9_opens 18 = .ok (.iconst 1, 1) := by decide +kernel
theorem dX9_opens_19 : decode cX9_opens 19 = .ok (.invokevirtual 141, 3) := by decide +kernel
theorem dX9_opens_22 : decode cX9_opens 22 = .ok (.aload_n 0, 1) := by decide +kernel
theorem dX9_opens_23 : decode cX9_opens 23 = .ok (.aload_n 0, 1) := by decide +kernel
theorem dX9_opens_24 : decode cX9_opens 24 = .ok (.getfield 109, 3) := by decide +kernel
theorem dX9_opens_27 : decode cX9_opens 27 = .ok (.iconst 1, 1) := by decide +kernel
theorem dX9_opens_28 : decode cX9_opens 28 = .ok (.if_icmp .ne 24, 3) := by decide +kernel
theorem dX9_opens_31 : decode cX9_opens 31 = .ok (.aload_n 0, 1) := by decide +kernel
theorem dX9_opens_32 : decode cX9_opens 32 = .ok (.aload_n 0, 1) := by decide +kernel
theorem dX9_opens_33 : decode cX9_opens 33 = .ok (.getfield 144, 3) := by decide +kernel
theorem dX9_opens_36 : decode cX9_opens 36 = .ok (.aload_n 0, 1) := by decide +kernel
theorem dX9_opens_37 : decode cX9_opens 37 = .ok (.getfield 116, 3) := by decide +kernel
theorem dX9_opens_40 : decode cX9_opens 40 = .ok (.invokevirtual 147, 3) := by decide +kernel
theorem dX9_opens_43 : decode cX9_opens 43 = .ok (.bipush (-9), 2) := by decide +kernel
theorem dX9_opens_45 : decode cX9_opens 45 = .ok (.if_icmp .ne 7, 3) := by decide +kernel
theorem dX9_opens_48 : decode cX9_opens 48 = .ok (.iconst 1, 1) := by decide +kernel
theorem dX9_opens_49 : decode cX9_opens 49 = .ok (.goto 4, 3) := by decide +kernel
theorem dX9_opens_52 : decode cX9_opens 52 = .ok (.iconst 0, 1) := by decide +kernel
theorem dX9_opens_53 : decode cX9_opens 53 = .ok (.invokevirtual 125, 3) := by decide +kernel
theorem dX9_opens_56 : decode cX9_opens 56 = .ok (.aload_n 0, 1) := by decide +kernel
theorem dX9_opens_57 : decode cX9_opens 57 = .ok (.getfield 122, 3) := by decide +kernel
theorem dX9_opens_60 : decode cX9_opens 60 = .ok (.bipush (-9), 2) := by decide +kernel
theorem dX9_opens_62 : decode cX9_opens 62 = .ok (.if_icmp .eq 4, 3) := by decide +kernel
theorem dX9_opens_65 : decode cX9_opens 65 = .ok (.return_, 1) := by decide +kernel
theorem dX9_opens_66 : decode cX9_opens 66 = .ok (.aload_n 0, 1) := by decide +kernel
theorem dX9_opens_67 : decode cX9_opens 67 = .ok (.aload_n 0, 1) := by decide +kernel
theorem dX9_opens_68 : decode cX9_opens 68 = .ok (.getfield 144, 3) := by decide +kernel
theorem dX9_opens_71 : decode cX9_opens 71 = .ok (.aload_n 0, 1) := by decide +kernel
theorem dX9_opens_72 : decode cX9_opens 72 = .ok (.getfield 116, 3) := by decide +kernel
theorem dX9_opens_75 : decode cX9_opens 75 = .ok (.invokevirtual 151, 3) := by decide +kernel
theorem dX9_opens_78 : decode cX9_opens 78 = .ok (.istore_n 1, 1) := by decide +kernel
theorem dX9_opens_79 : decode cX9_opens 79 = .ok (.iload_n 1, 1) := by decide +kernel
theorem dX9_opens_80 : decode cX9_opens 80 = .ok (.bipush (-9), 2) := by decide +kernel
theorem dX9_opens_82 : decode cX9_opens 82 = .ok (.if_icmp .ne 66, 3) := by decide +kernel
theorem dX9_opens_85 : decode cX9_opens 85 = .ok (.aload_n 0, 1) := by decide +kernel
theorem dX9_opens_86 : decode cX9_opens 86 = .ok (.aload_n 0, 1) := by decide +kernel
theorem dX9_opens_87 : decode cX9_opens 87 = .ok (.getfield 135, 3) := by decide +kernel
theorem dX9_opens_90 : decode cX9_opens 90 = .ok (.bipush 6, 2) := by decide +kernel
theorem dX9_opens_92 : decode cX9_opens 92 = .ok (.if_icmp .ge 7, 3) := by decide +kernel
theorem dX9_opens_95 : decode cX9_opens 95 = .ok (.iconst 1, 1) := by decide +kernel
theorem dX9_opens_96 : decode cX9_opens 96 = .ok (.goto 4, 3) := by decide +kernel
theorem dX9_opens_99 : decode cX9_opens 99 = .ok (.iconst 0, 1) := by decide +kernel
theorem dX9_opens_100 : decode cX9_opens 100 = .ok (.invokevirtual 125, 3) := by decide +kernel
theorem dX9_opens_103 : decode cX9_opens 103 = .ok (.aload_n 0, 1) := by decide +kernel
theorem dX9_opens_104 : decode cX9_opens 104 = .ok (.getfield 122, 3) := by decide +kernel
theorem dX9_opens_107 : decode cX9_opens 107 = .ok (.bipush (-9), 2) := by decide +kernel
theorem dX9_opens_109 : decode cX9_opens 109 = .ok (.if_icmp .eq 4, 3) := by decide +kernel
theorem dX9_opens_112 : decode cX9_opens 112 = .ok (.return_, 1) := by decide +kernel
theorem dX9_opens_113 : decode cX9_opens 113 = .ok (.aload_n 0, 1) := by decide +kernel
theorem dX9_opens_114 : decode cX9_opens 114 = .ok (.getfield 135, 3) := by decide +kernel
theorem dX9_opens_117 : decode cX9_opens 117 = .ok (.istore_n 1, 1) := by decide +kernel
theorem dX9_opens_118 : decode cX9_opens 118 = .ok (.aload_n 0, 1) := by decide +kernel
theorem dX9_opens_119 : decode cX9_opens 119 = .ok (.getfield 44, 3) := by decide +kernel
theorem dX9_opens_122 : decode cX9_opens 122 = .ok (.iload_n 1, 1) := by decide +kernel
theorem dX9_opens_123 : decode cX9_opens 123 = .ok (.aload_n 0, 1) := by decide +kernel
theorem dX9_opens_124 : decode cX9_opens 124 = .ok (.getfield 144, 3) := by decide +kernel
theorem dX9_opens_127 : decode cX9_opens 127 = .ok (.iastore, 1) := by decide +kernel
theorem dX9_opens_128 : decode cX9_opens 128 = .ok (.aload_n 0, 1) := by decide +kernel
theorem dX9_opens_129 : decode cX9_opens 129 = .ok (.getfield 47, 3) := by decide +kernel
theorem dX9_opens_132 : decode cX9_opens 132 = .ok (.iload_n 1, 1) := by decide +kernel
theorem dX9_opens_133 : decode cX9_opens 133 = .ok (.aload_n 0, 1) := by decide +kernel
theorem dX9_opens_134 : decode cX9_opens 134 = .ok (.getfield 116, 3) := by decide +kernel
theorem dX9_opens_137 : decode cX9_opens 137 = .ok (.iastore, 1) := by decide +kernel
theorem dX9_opens_138 : decode cX9_opens 138 = .ok (.aload_n 0, 1) := by decide +kernel
theorem dX9_opens_139 : decode cX9_opens 139 = .ok (.dup, 1) := by decide +kernel
theorem dX9_opens_140 : decode cX9_opens 140 = .ok (.getfield 135, 3) := by decide +kernel
theorem dX9_opens_143 : decode cX9_opens 143 = .ok (.iconst 1, 1) := by decide +kernel
theorem dX9_opens_144 : decode cX9_opens 144 = .ok (.iadd, 1) := by decide +kernel
theorem dX9_opens_145 : decode cX9_opens 145 = .ok (.putfield 135, 3) := by decide +kernel
theorem dX9_opens_148 : decode cX9_opens 148 = .ok (.aload_n 0, 1) := by decide +kernel
theorem dX9_opens_149 : decode cX9_opens 149 = .ok (.iload_n 1, 1) := by decide +kernel
theorem dX9_opens_150 : decode cX9_opens 150 = .ok (.putfield 144, 3) := by decide +kernel
theorem dX9_opens_153 : decode cX9_opens 153 = .ok (.aload_n 0, 1) := by decide +kernel
theorem dX9_opens_154 : decode cX9_opens 154 = .ok (.dup, 1) := by decide +kernel
theorem dX9_opens_155 : decode cX9_opens 155 = .ok (.getfield 138, 3) := by decide +kernel
theorem dX9_opens_158 : decode cX9_opens 158 = .ok (.iconst 1, 1) := by decide +kernel
theorem dX9_opens_159 : decode cX9_opens 159 = .ok (.iadd, 1) := by decide +kernel
theorem dX9_opens_160 : decode cX9_opens 160 = .ok (.putfield 138, 3) := by decide +kernel
theorem dX9_opens_163 : decode cX9_opens 163 = .ok (.aload_n 0, 1) := by decide +kernel
theorem dX9_opens_164 : decode cX9_opens 164 = .ok (.invokevirtual 129, 3) := by decide +kernel
theorem dX9_opens_167 : decode cX9_opens 167 = .ok (.return_, 1) := by decide +kernel
theorem bX9_opens_0 {d : Nat} {Q : Option jA → jH → Prop} (a0 : Nat) (u1 : Option jA) (h : jH)
    (s1 : (jS h a0).1 = 9)
    (e1 : (4 ≤ (jI h a0 31)) → Ex MX9_due d [.inr a0, .inl 0] h 0 0 (fun v h2 => V MX9_opens (d + 4) 17 [some (.inr a0), u1] (v.toList ++ []) h2 0 0 Q))
    (e2 : (¬ (4 ≤ (jI h a0 31))) → Ex MX9_due d [.inr a0, .inl 1] h 0 0 (fun v h2 => V MX9_opens (d + 4) 17 [some (.inr a0), u1] (v.toList ++ []) h2 0 0 Q)) :
    V MX9_opens (d + 4) 0 [some (.inr a0), u1] [] h 0 0 Q := by
  refine V_aload_n (i := 0) dX9_opens_0 rfl rfl ?_
  refine V_aload_n (i := 0) dX9_opens_1 rfl rfl ?_
  refine V_getI dX9_opens_2 fX9_138 rfl s1 ?_
  refine V_iconst dX9_opens_5 ⟨by decide, by decide⟩ ?_
  refine V_icmp_ge (tgt := 13) dX9_opens_6 (by decide) (fun c1 => ?_) (fun c1 => ?_)
  · refine V_iconst dX9_opens_13 ⟨by decide, by decide⟩ ?_
    exact V_callV (M := MX9_opens) (d := (d + 4)) (mc' := 0) (ms' := 0) (mc := 0) (ms := 0) (As := [.inl 0]) (rest := []) dX9_opens_14 tX9_due vX9_due lX9_125 s1 ⟨by decide, rfl⟩ rfl rfl (Nat.le_of_ble_eq_true rfl) (show d + 1 ≤ (d + 4) by omega) (e1 c1)
  · refine V_iconst dX9_opens_9 ⟨by decide, by decide⟩ ?_
    refine V_goto (tgt := 14) dX9_opens_10 (by decide) ?_
    exact V_callV (M := MX9_opens) (d := (d + 4)) (mc' := 0) (ms' := 0) (mc := 0) (ms := 0) (As := [.inl 1]) (rest := []) dX9_opens_14 tX9_due vX9_due lX9_125 s1 ⟨by decide, rfl⟩ rfl rfl (Nat.le_of_ble_eq_true rfl) (show d + 1 ≤ (d + 4) by omega) (e2 c1)
theorem bX9_opens_17 {d : Nat} {Q : Option jA → jH → Prop} (a0 : Nat) (u1 : Option jA) (h : jH)
    (e1 : Ex MX9_passes (d + 3) [.inr a0, .inl 1] h 0 0 (fun v h2 => V MX9_opens (d + 4) 22 [some (.inr a0), u1] (v.toList ++ []) h2 0 0 Q))
    (s1 : (jS h a0).1 = 9) :
    V MX9_opens (d + 4) 17 [some (.inr a0), u1] [] h 0 0 Q := by
  refine V_aload_n (i := 0) dX9_opens_17 rfl rfl ?_
  refine V_iconst dX9_opens_18 ⟨by decide, by decide⟩ ?_
  exact V_callV (M := MX9_opens) (d := (d + 4)) (mc' := 0) (ms' := 0) (mc := 0) (ms := 0) (As := [.inl 1]) (rest := []) dX9_opens_19 tX9_passes vX9_passes lX9_141 s1 ⟨by decide, rfl⟩ rfl rfl (Nat.le_of_ble_eq_true rfl) (show (d + 3) + 1 ≤ (d + 4) by omega) e1
theorem bX9_opens_22 {d : Nat} {Q : Option jA → jH → Prop} (a0 : Nat) (u1 : Option jA) (h : jH)
    (s1 : (jS h a0).1 = 9)
    (e1 : ((jI h a0 18) ≠ 1) → Ex MX9_due d [.inr a0, .inl 0] h 0 0 (fun v h2 => V MX9_opens (d + 4) 56 [some (.inr a0), u1] (v.toList ++ []) h2 0 0 Q))
    (e2 : ((jI h a0 18) = 1) → Ex MX9_newNodeBy d [.inr a0, .inl (jI h a0 30), .inl (jI h a0 19)] h 0 0 (fun v h2 => V MX9_opens (d + 4) 43 [some (.inr a0), u1] (v.toList ++ [.inr a0]) h2 0 0 Q)) :
    V MX9_opens (d + 4) 22 [some (.inr a0), u1] [] h 0 0 Q := by
  refine V_aload_n (i := 0) dX9_opens_22 rfl rfl ?_
  refine V_aload_n (i := 0) dX9_opens_23 rfl rfl ?_
  refine V_getI dX9_opens_24 fX9_109 rfl s1 ?_
  refine V_iconst dX9_opens_27 ⟨by decide, by decide⟩ ?_
  refine V_icmp_ne (tgt := 52) dX9_opens_28 (by decide) (fun c1 => ?_) (fun c1 => ?_)
  · refine V_iconst dX9_opens_52 ⟨by decide, by decide⟩ ?_
    exact V_callV (M := MX9_opens) (d := (d + 4)) (mc' := 0) (ms' := 0) (mc := 0) (ms := 0) (As := [.inl 0]) (rest := []) dX9_opens_53 tX9_due vX9_due lX9_125 s1 ⟨by decide, rfl⟩ rfl rfl (Nat.le_of_ble_eq_true rfl) (show d + 1 ≤ (d + 4) by omega) (e1 c1)
  · refine V_aload_n (i := 0) dX9_opens_31 rfl rfl ?_
    refine V_aload_n (i := 0) dX9_opens_32 rfl rfl ?_
    refine V_getI dX9_opens_33 fX9_144 rfl s1 ?_
    refine V_aload_n (i := 0) dX9_opens_36 rfl rfl ?_
    refine V_getI dX9_opens_37 fX9_116 rfl s1 ?_
    exact V_callV (M := MX9_opens) (d := (d + 4)) (mc' := 0) (ms' := 0) (mc := 0) (ms := 0) (As := [.inl (jI h a0 30), .inl (jI h a0 19)]) (rest := [.inr a0]) dX9_opens_40 tX9_newNodeBy vX9_newNodeBy lX9_147 s1 ⟨by decide, rfl⟩ rfl rfl (Nat.le_of_ble_eq_true rfl) (show d + 1 ≤ (d + 4) by omega) (e2 c1)
theorem bX9_opens_56 {d : Nat} {Q : Option jA → jH → Prop} (a0 : Nat) (u1 : Option jA) (h : jH)
    (s1 : (jS h a0).1 = 9)
    (e1 : ((jI h a0 20) = ((-9))) → Ex MX9_newScopeBy d [.inr a0, .inl (jI h a0 30), .inl (jI h a0 19)] h 0 0 (fun v h2 => V MX9_opens (d + 4) 78 [some (.inr a0), u1] (v.toList ++ []) h2 0 0 Q))
    (q1 : (¬ ((jI h a0 20) = ((-9)))) → Q none h) :
    V MX9_opens (d + 4) 56 [some (.inr a0), u1] [] h 0 0 Q := by
  refine V_aload_n (i := 0) dX9_opens_56 rfl rfl ?_
  refine V_getI dX9_opens_57 fX9_122 rfl s1 ?_
  refine V_bipush dX9_opens_60 (by decide +kernel) ⟨by decide, by decide⟩ ?_
  refine V_icmp_eq (tgt := 66) dX9_opens_62 (by decide) (fun c1 => ?_) (fun c1 => ?_)
  · refine V_aload_n (i := 0) dX9_opens_66 rfl rfl ?_
    refine V_aload_n (i := 0) dX9_opens_67 rfl rfl ?_
    refine V_getI dX9_opens_68 fX9_144 rfl s1 ?_
    refine V_aload_n (i := 0) dX9_opens_71 rfl rfl ?_
    refine V_getI dX9_opens_72 fX9_116 rfl s1 ?_
    exact V_callV (M := MX9_opens) (d := (d + 4)) (mc' := 0) (ms' := 0) (mc := 0) (ms := 0) (As := [.inl (jI h a0 30), .inl (jI h a0 19)]) (rest := []) dX9_opens_75 tX9_newScopeBy vX9_newScopeBy lX9_151 s1 ⟨by decide, rfl⟩ rfl rfl (Nat.le_of_ble_eq_true rfl) (show d + 1 ≤ (d + 4) by omega) (e1 c1)
  · exact V_ret (v := none) rfl rfl dX9_opens_65 trivial rfl (q1 c1)
theorem bX9_opens_43 {d : Nat} {Q : Option jA → jH → Prop} (a0 : Nat) (u1 : Option jA) (p0 : Int) (q1 : Nat) (h : jH)
    (e1 : (p0 ≠ ((-9))) → Ex MX9_due d [.inr q1, .inl 0] h 0 0 (fun v h2 => V MX9_opens (d + 4) 56 [some (.inr a0), u1] (v.toList ++ []) h2 0 0 Q))
    (s1 : (jS h q1).1 = 9)
    (e2 : (p0 = ((-9))) → Ex MX9_due d [.inr q1, .inl 1] h 0 0 (fun v h2 => V MX9_opens (d + 4) 56 [some (.inr a0), u1] (v.toList ++ []) h2 0 0 Q)) :
    V MX9_opens (d + 4) 43 [some (.inr a0), u1] [.inl p0, .inr q1] h 0 0 Q := by
  refine V_bipush dX9_opens_43 (by decide +kernel) ⟨by decide, by decide⟩ ?_
  refine V_icmp_ne (tgt := 52) dX9_opens_45 (by decide) (fun c1 => ?_) (fun c1 => ?_)
  · refine V_iconst dX9_opens_52 ⟨by decide, by decide⟩ ?_
    exact V_callV (M := MX9_opens) (d := (d + 4)) (mc' := 0) (ms' := 0) (mc := 0) (ms := 0) (As := [.inl 0]) (rest := []) dX9_opens_53 tX9_due vX9_due lX9_125 s1 ⟨by decide, rfl⟩ rfl rfl (Nat.le_of_ble_eq_true rfl) (show d + 1 ≤ (d + 4) by omega) (e1 c1)
  · refine V_iconst dX9_opens_48 ⟨by decide, by decide⟩ ?_
    refine V_goto (tgt := 53) dX9_opens_49 (by decide) ?_
    exact V_callV (M := MX9_opens) (d := (d + 4)) (mc' := 0) (ms' := 0) (mc := 0) (ms := 0) (As := [.inl 1]) (rest := []) dX9_opens_53 tX9_due vX9_due lX9_125 s1 ⟨by decide, rfl⟩ rfl rfl (Nat.le_of_ble_eq_true rfl) (show d + 1 ≤ (d + 4) by omega) (e2 c1)
theorem bX9_opens_78 {d : Nat} {Q : Option jA → jH → Prop} (a0 : Nat) (u1 : Option jA) (p0 : Int) (h : jH)
    (s1 : (jS h a0).1 = 9)
    (r1 : (p0 ≠ ((-9))) → jR ((jI h a0 31) + 1))
    (e1 : (p0 ≠ ((-9))) → Ex MX9_next (d + 2) [.inr a0] (jsI (jsI h a0 30 p0) a0 31 ((jI h a0 31) + 1)) 0 0 (fun v h2 => V MX9_opens (d + 4) 167 [some (.inr a0), some (.inl p0)] (v.toList ++ []) h2 0 0 Q))
    (e2 : (p0 = ((-9))) → (6 ≤ (jI h a0 27)) → Ex MX9_due d [.inr a0, .inl 0] h 0 0 (fun v h2 => V MX9_opens (d + 4) 103 [some (.inr a0), some (.inl p0)] (v.toList ++ []) h2 0 0 Q))
    (e3 : (p0 = ((-9))) → (¬ (6 ≤ (jI h a0 27))) → Ex MX9_due d [.inr a0, .inl 1] h 0 0 (fun v h2 => V MX9_opens (d + 4) 103 [some (.inr a0), some (.inl p0)] (v.toList ++ []) h2 0 0 Q)) :
    V MX9_opens (d + 4) 78 [some (.inr a0), u1] [.inl p0] h 0 0 Q := by
  refine V_istore_n (i := 1) dX9_opens_78 rfl (by decide) ?_
  refine V_iload_n (i := 1) dX9_opens_79 rfl rfl ?_
  refine V_bipush dX9_opens_80 (by decide +kernel) ⟨by decide, by decide⟩ ?_
  refine V_icmp_ne (tgt := 148) dX9_opens_82 (by decide) (fun c1 => ?_) (fun c1 => ?_)
  · refine V_aload_n (i := 0) dX9_opens_148 rfl rfl ?_
    refine V_iload_n (i := 1) dX9_opens_149 rfl rfl ?_
    refine V_putI (ci := 9) (kf := 30) dX9_opens_150 fX9_144 rfl rfl s1 ?_
    refine V_aload_n (i := 0) dX9_opens_153 rfl rfl ?_
    refine V_dup dX9_opens_154 ?_
    refine V_getI dX9_opens_155 fX9_138 rfl s1 ?_
    refine V_topI (jI_ne (by decide)) ?_
    refine V_iconst dX9_opens_158 ⟨by decide, by decide⟩ ?_
    refine V_iadd dX9_opens_159 (r1 c1) ?_
    refine V_putI (ci := 9) (kf := 31) dX9_opens_160 fX9_138 rfl rfl s1 ?_
    refine V_aload_n (i := 0) dX9_opens_163 rfl rfl ?_
    exact V_callV (M := MX9_opens) (d := (d + 4)) (mc' := 0) (ms' := 0) (mc := 0) (ms := 0) (As := []) (rest := []) dX9_opens_164 tX9_next vX9_next lX9_129 s1 ⟨by decide, rfl⟩ rfl rfl (Nat.le_of_ble_eq_true rfl) (show (d + 2) + 1 ≤ (d + 4) by omega) (e1 c1)
  · refine V_aload_n (i := 0) dX9_opens_85 rfl rfl ?_
    refine V_aload_n (i := 0) dX9_opens_86 rfl rfl ?_
    refine V_getI dX9_opens_87 fX9_135 rfl s1 ?_
    refine V_bipush dX9_opens_90 (by decide +kernel) ⟨by decide, by decide⟩ ?_
    refine V_icmp_ge (tgt := 99) dX9_opens_92 (by decide) (fun c2 => ?_) (fun c2 => ?_)
    · refine V_iconst dX9_opens_99 ⟨by decide, by decide⟩ ?_
      exact V_callV (M := MX9_opens) (d := (d + 4)) (mc' := 0) (ms' := 0) (mc := 0) (ms := 0) (As := [.inl 0]) (rest := []) dX9_opens_100 tX9_due vX9_due lX9_125 s1 ⟨by decide, rfl⟩ rfl rfl (Nat.le_of_ble_eq_true rfl) (show d + 1 ≤ (d + 4) by omega) (e2 c1 c2)
    · refine V_iconst dX9_opens_95 ⟨by decide, by decide⟩ ?_
      refine V_goto (tgt := 100) dX9_opens_96 (by decide) ?_
      exact V_callV (M := MX9_opens) (d := (d + 4)) (mc' := 0) (ms' := 0) (mc := 0) (ms := 0) (As := [.inl 1]) (rest := []) dX9_opens_100 tX9_due vX9_due lX9_125 s1 ⟨by decide, rfl⟩ rfl rfl (Nat.le_of_ble_eq_true rfl) (show d + 1 ≤ (d + 4) by omega) (e3 c1 c2)
theorem bX9_opens_167 {d : Nat} {Q : Option jA → jH → Prop} (a0 : Nat) (i1 : Int) (h : jH)
    (q1 : Q none h) :
    V MX9_opens (d + 4) 167 [some (.inr a0), some (.inl i1)] [] h 0 0 Q := by
  exact V_ret (v := none) rfl rfl dX9_opens_167 trivial rfl q1
theorem bX9_opens_103 {d : Nat} {Q : Option jA → jH → Prop} (a0 : Nat) (i1 : Int) (h : jH)
    (s1 : (jS h a0).1 = 9)
    (s2 : (jS h (jP h a0 25)).1 = 16)
    (s3 : ((jI h a0 20) = ((-9))) → 0 ≤ jI h a0 27)
    (s4 : ((jI h a0 20) = ((-9))) → jI h a0 27 < ((jS h (jP h a0 25)).2 : Int))
    (s5 : (jS h (jP h a0 26)).1 = 16)
    (s6 : ((jI h a0 20) = ((-9))) → jI h a0 27 < ((jS h (jP h a0 26)).2 : Int))
    (r1 : ((jI h a0 20) = ((-9))) → jR ((jI h a0 27) + 1))
    (r2 : ((jI h a0 20) = ((-9))) → jR ((jI h a0 31) + 1))
    (e1 : ((jI h a0 20) = ((-9))) → Ex MX9_next (d + 2) [.inr a0] (jsI (jsI (jsI (jsX (jsX h (jP h a0 25) ((jI h a0 27).toNat) (jI h a0 30)) (jP h a0 26) ((jI h a0 27).toNat) (jI h a0 19)) a0 27 ((jI h a0 27) + 1)) a0 30 (jI h a0 27)) a0 31 ((jI h a0 31) + 1)) 0 0 (fun v h2 => V MX9_opens (d + 4) 167 [some (.inr a0), some (.inl (jI h a0 27))] (v.toList ++ []) h2 0 0 Q))
    (q1 : (¬ ((jI h a0 20) = ((-9)))) → Q none h) :
    V MX9_opens (d + 4) 103 [some (.inr a0), some (.inl i1)] [] h 0 0 Q := by
  refine V_aload_n (i := 0) dX9_opens_103 rfl rfl ?_
  refine V_getI dX9_opens_104 fX9_122 rfl s1 ?_
  refine V_bipush dX9_opens_107 (by decide +kernel) ⟨by decide, by decide⟩ ?_
  refine V_icmp_eq (tgt := 113) dX9_opens_109 (by decide) (fun c1 => ?_) (fun c1 => ?_)
  · refine V_aload_n (i := 0) dX9_opens_113 rfl rfl ?_
    refine V_getI dX9_opens_114 fX9_135 rfl s1 ?_
    refine V_istore_n (i := 1) dX9_opens_117 rfl (by decide) ?_
    refine V_aload_n (i := 0) dX9_opens_118 rfl rfl ?_
    refine V_getP dX9_opens_119 fX9_44 rfl s1 ?_
    refine V_iload_n (i := 1) dX9_opens_122 rfl rfl ?_
    refine V_aload_n (i := 0) dX9_opens_123 rfl rfl ?_
    refine V_getI dX9_opens_124 fX9_144 rfl s1 ?_
    refine V_iast dX9_opens_127 s2 (s3 c1) (s4 c1) ?_
    refine V_aload_n (i := 0) dX9_opens_128 rfl rfl ?_
    refine V_getP dX9_opens_129 fX9_47 rfl s1 ?_
    refine V_iload_n (i := 1) dX9_opens_132 rfl rfl ?_
    refine V_aload_n (i := 0) dX9_opens_133 rfl rfl ?_
    refine V_getI dX9_opens_134 fX9_116 rfl s1 ?_
    refine V_iast dX9_opens_137 s5 (s3 c1) (s6 c1) ?_
    refine V_aload_n (i := 0) dX9_opens_138 rfl rfl ?_
    refine V_dup dX9_opens_139 ?_
    refine V_getI dX9_opens_140 fX9_135 rfl s1 ?_
    refine V_iconst dX9_opens_143 ⟨by decide, by decide⟩ ?_
    refine V_iadd dX9_opens_144 (r1 c1) ?_
    refine V_putI (ci := 9) (kf := 27) dX9_opens_145 fX9_135 rfl rfl s1 ?_
    refine V_aload_n (i := 0) dX9_opens_148 rfl rfl ?_
    refine V_iload_n (i := 1) dX9_opens_149 rfl rfl ?_
    refine V_putI (ci := 9) (kf := 30) dX9_opens_150 fX9_144 rfl rfl s1 ?_
    refine V_aload_n (i := 0) dX9_opens_153 rfl rfl ?_
    refine V_dup dX9_opens_154 ?_
    refine V_getI dX9_opens_155 fX9_138 rfl s1 ?_
    refine V_topI ((jI_ne (by decide)).trans (jI_ne (by decide))) ?_
    refine V_iconst dX9_opens_158 ⟨by decide, by decide⟩ ?_
    refine V_iadd dX9_opens_159 (r2 c1) ?_
    refine V_putI (ci := 9) (kf := 31) dX9_opens_160 fX9_138 rfl rfl s1 ?_
    refine V_aload_n (i := 0) dX9_opens_163 rfl rfl ?_
    exact V_callV (M := MX9_opens) (d := (d + 4)) (mc' := 0) (ms' := 0) (mc := 0) (ms := 0) (As := []) (rest := []) dX9_opens_164 tX9_next vX9_next lX9_129 s1 ⟨by decide, rfl⟩ rfl rfl (Nat.le_of_ble_eq_true rfl) (show (d + 2) + 1 ≤ (d + 4) by omega) (e1 c1)
  · exact V_ret (v := none) rfl rfl dX9_opens_112 trivial rfl (q1 c1)
theorem dX9_closes_0 : decode cX9_closes 0 = .ok (.aload_n 0, 1) := by decide +kernel
theorem dX9_closes_1 : decode cX9_closes 1 = .ok (.aload_n 0, 1) := by decide +kernel
theorem dX9_closes_2 : decode cX9_closes 2 = .ok (.getfield 144, 3) := by decide +kernel
theorem dX9_closes_5 : decode cX9_closes 5 = .ok (.bipush (-9), 2) := by decide +kernel
theorem dX9_closes_7 : decode cX9_closes 7 = .ok (.if_icmp .eq 7, 3) := by decide +kernel
theorem dX9_closes_10 : decode cX9_closes 10 = .ok (.iconst 1, 1) := by decide +kernel
theorem dX9_closes_11 : decode cX9_closes 11 = .ok (.goto 4, 3) := by decide +kernel
theorem dX9_closes_14 : decode cX9_closes 14 = .ok (.iconst 0, 1) := by decide +kernel
theorem dX9_closes_15 : decode cX9_closes 15 = .ok (.invokevirtual 125, 3) := by decide +kernel
theorem dX9_closes_18 : decode cX9_closes 18 = .ok (.aload_n 0, 1) := by decide +kernel
theorem dX9_closes_19 : decode cX9_closes 19 = .ok (.getfield 122, 3) := by decide +kernel
theorem dX9_closes_22 : decode cX9_closes 22 = .ok (.bipush (-9), 2) := by decide +kernel
theorem dX9_closes_24 : decode cX9_closes 24 = .ok (.if_icmp .ne 30, 3) := by decide +kernel
theorem dX9_closes_27 : decode cX9_closes 27 = .ok (.aload_n 0, 1) := by decide +kernel
theorem dX9_closes_28 : decode cX9_closes 28 = .ok (.aload_n 0, 1) := by decide +kernel
theorem dX9_closes_29 : decode cX9_closes 29 = .ok (.getfield 44, 3) := by decide +kernel
theorem dX9_closes_32 : decode cX9_closes 32 = .ok (.aload_n 0, 1) := by decide +kernel
theorem dX9_closes_33 : decode cX9_closes 33 = .ok (.getfield 144, 3) := by decide +kernel
theorem dX9_closes_36 : decode cX9_closes 36 = .ok (.iaload, 1) := by decide +kernel
theorem dX9_closes_37 : decode cX9_closes 37 = .ok (.putfield 144, 3) := by decide +kernel
theorem dX9_closes_40 : decode cX9_closes 40 = .ok (.aload_n 0, 1) := by decide +kernel
theorem dX9_closes_41 : decode cX9_closes 41 = .ok (.dup, 1) := by decide +kernel
theorem dX9_closes_42 : decode cX9_closes 42 = .ok (.getfield 138, 3) := by decide +kernel
theorem dX9_closes_45 : decode cX9_closes 45 = .ok (.iconst 1, 1) := by decide +kernel
theorem dX9_closes_46 : decode cX9_closes 46 = .ok (.isub, 1) := by decide +kernel
theorem dX9_closes_47 : decode cX9_closes 47 = .ok (.putfield 138, 3) := by decide +kernel
theorem dX9_closes_50 : decode cX9_closes 50 = .ok (.aload_n 0, 1) := by decide +kernel
theorem dX9_closes_51 : decode cX9_closes 51 = .ok (.invokevirtual 129, 3) := by decide +kernel
theorem dX9_closes_54 : decode cX9_closes 54 = .ok (.return_, 1) := by decide +kernel
theorem bX9_closes_0 {d : Nat} {Q : Option jA → jH → Prop} (a0 : Nat) (h : jH)
    (s1 : (jS h a0).1 = 9)
    (e1 : ((jI h a0 30) = ((-9))) → Ex MX9_due d [.inr a0, .inl 0] h 0 0 (fun v h2 => V MX9_closes (d + 3) 18 [some (.inr a0)] (v.toList ++ []) h2 0 0 Q))
    (e2 : (¬ ((jI h a0 30) = ((-9)))) → Ex MX9_due d [.inr a0, .inl 1] h 0 0 (fun v h2 => V MX9_closes (d + 3) 18 [some (.inr a0)] (v.toList ++ []) h2 0 0 Q)) :
    V MX9_closes (d + 3) 0 [some (.inr a0)] [] h 0 0 Q := by
  refine V_aload_n (i := 0) dX9_closes_0 rfl rfl ?_
  refine V_aload_n (i := 0) dX9_closes_1 rfl rfl ?_
  refine V_getI dX9_closes_2 fX9_144 rfl s1 ?_
  refine V_bipush dX9_closes_5 (by decide +kernel) ⟨by decide, by decide⟩ ?_
  refine V_icmp_eq (tgt := 14) dX9_closes_7 (by decide) (fun c1 => ?_) (fun c1 => ?_)
  · refine V_iconst dX9_closes_14 ⟨by decide, by decide⟩ ?_
    exact V_callV (M := MX9_closes) (d := (d + 3)) (mc' := 0) (ms' := 0) (mc := 0) (ms := 0) (As := [.inl 0]) (rest := []) dX9_closes_15 tX9_due vX9_due lX9_125 s1 ⟨by decide, rfl⟩ rfl rfl (Nat.le_of_ble_eq_true rfl) (show d + 1 ≤ (d + 3) by omega) (e1 c1)
  · refine V_iconst dX9_closes_10 ⟨by decide, by decide⟩ ?_
    refine V_goto (tgt := 15) dX9_closes_11 (by decide) ?_
    exact V_callV (M := MX9_closes) (d := (d + 3)) (mc' := 0) (ms' := 0) (mc := 0) (ms := 0) (As := [.inl 1]) (rest := []) dX9_closes_15 tX9_due vX9_due lX9_125 s1 ⟨by decide, rfl⟩ rfl rfl (Nat.le_of_ble_eq_true rfl) (show d + 1 ≤ (d + 3) by omega) (e2 c1)
theorem bX9_closes_18 {d : Nat} {Q : Option jA → jH → Prop} (a0 : Nat) (h : jH)
    (s1 : (jS h a0).1 = 9)
    (q1 : ((jI h a0 20) ≠ ((-9))) → Q none h)
    (s2 : (jS h (jP h a0 25)).1 = 16)
    (s3 : ((jI h a0 20) = ((-9))) → 0 ≤ jI h a0 30)
    (s4 : ((jI h a0 20) = ((-9))) → jI h a0 30 < ((jS h (jP h a0 25)).2 : Int))
    (r1 : ((jI h a0 20) = ((-9))) → jR ((jI h a0 31) - 1))
    (e1 : ((jI h a0 20) = ((-9))) → Ex MX9_next (d + 2) [.inr a0] (jsI (jsI h a0 30 (jX h (jP h a0 25) ((jI h a0 30).toNat))) a0 31 ((jI h a0 31) - 1)) 0 0 (fun v h2 => V MX9_closes (d + 3) 54 [some (.inr a0)] (v.toList ++ []) h2 0 0 Q)) :
    V MX9_closes (d + 3) 18 [some (.inr a0)] [] h 0 0 Q := by
  refine V_aload_n (i := 0) dX9_closes_18 rfl rfl ?_
  refine V_getI dX9_closes_19 fX9_122 rfl s1 ?_
  refine V_bipush dX9_closes_22 (by decide +kernel) ⟨by decide, by decide⟩ ?_
  refine V_icmp_ne (tgt := 54) dX9_closes_24 (by decide) (fun c1 => ?_) (fun c1 => ?_)
  · exact V_ret (v := none) rfl rfl dX9_closes_54 trivial rfl (q1 c1)
  · refine V_aload_n (i := 0) dX9_closes_27 rfl rfl ?_
    refine V_aload_n (i := 0) dX9_closes_28 rfl rfl ?_
    refine V_getP dX9_closes_29 fX9_44 rfl s1 ?_
    refine V_aload_n (i := 0) dX9_closes_32 rfl rfl ?_
    refine V_getI dX9_closes_33 fX9_144 rfl s1 ?_
    refine V_iald dX9_closes_36 s2 (s3 c1) (s4 c1) ?_
    refine V_putI (ci := 9) (kf := 30) dX9_closes_37 fX9_144 rfl rfl s1 ?_
    refine V_aload_n (i := 0) dX9_closes_40 rfl rfl ?_
    refine V_dup dX9_closes_41 ?_
    refine V_getI dX9_closes_42 fX9_138 rfl s1 ?_
    refine V_topI (jI_ne (by decide)) ?_
    refine V_iconst dX9_closes_45 ⟨by decide, by decide⟩ ?_
    refine V_isub dX9_closes_46 (r1 c1) ?_
    refine V_putI (ci := 9) (kf := 31) dX9_closes_47 fX9_138 rfl rfl s1 ?_
    refine V_aload_n (i := 0) dX9_closes_50 rfl rfl ?_
    exact V_callV (M := MX9_closes) (d := (d + 3)) (mc' := 0) (ms' := 0) (mc := 0) (ms := 0) (As := []) (rest := []) dX9_closes_51 tX9_next vX9_next lX9_129 s1 ⟨by decide, rfl⟩ rfl rfl (Nat.le_of_ble_eq_true rfl) (show (d + 2) + 1 ≤ (d + 3) by omega) (e1 c1)
theorem bX9_closes_54 {d : Nat} {Q : Option jA → jH → Prop} (a0 : Nat) (h : jH)
    (q1 : Q none h) :
    V MX9_closes (d + 3) 54 [some (.inr a0)] [] h 0 0 Q := by
  exact V_ret (v := none) rfl rfl dX9_closes_54 trivial rfl q1
theorem dX9_readsPath_0 : decode cX9_readsPath 0 = .ok (.bipush (-9), 2) := by decide +kernel
theorem dX9_readsPath_2 : decode cX9_readsPath 2 = .ok (.istore_n 1, 1) := by decide +kernel
theorem dX9_readsPath_3 : decode cX9_readsPath 3 = .ok (.aload_n 0, 1) := by decide +kernel
theorem dX9_readsPath_4 : decode cX9_readsPath 4 = .ok (.getfield 122, 3) := by decide +kernel
theorem dX9_readsPath_7 : decode cX9_readsPath 7 = .ok (.bipush (-9), 2) := by decide +kernel
theorem dX9_readsPath_9 : decode cX9_readsPath 9 = .ok (.if_icmp .ne 102, 3) := by decide +kernel
theorem dX9_readsPath_12 : decode cX9_readsPath 12 = .ok (.aload_n 0, 1) := by decide +kernel
theorem dX9_readsPath_13 : decode cX9_readsPath 13 = .ok (.aload_n 0, 1) := by decide +kernel
theorem dX9_readsPath_14 : decode cX9_readsPath 14 = .ok (.getfield 109, 3) := by decide +kernel
theorem dX9_readsPath_17 : decode cX9_readsPath 17 = .ok (.iconst 1, 1) := by decide +kernel
theorem dX9_readsPath_18 : decode cX9_readsPath 18 = .ok (.if_icmp .ne 7, 3) := by decide +kernel
theorem dX9_readsPath_21 : decode cX9_readsPath 21 = .ok (.iconst 1, 1) := by decide +kernel
theorem dX9_readsPath_22 : decode cX9_readsPath 22 = .ok (.goto 4, 3) := by decide +kernel
theorem dX9_readsPath_25 : decode cX9_readsPath 25 = .ok (.iconst 0, 1) := by decide +kernel
theorem dX9_readsPath_26 : decode cX9_readsPath 26 = .ok (.invokevirtual 125, 3) := by decide +kernel
theorem dX9_readsPath_29 : decode cX9_readsPath 29 = .ok (.aload_n 0, 1) := by decide +kernel
theorem dX9_readsPath_30 : decode cX9_readsPath 30 = .ok (.iload_n 1, 1) := by decide +kernel
theorem dX9_readsPath_31 : decode cX9_readsPath 31 = .ok (.aload_n 0, 1) := by decide +kernel
theorem dX9_readsPath_32 : decode cX9_readsPath 32 = .ok (.getfield 116, 3) := by decide +kernel
theorem dX9_readsPath_35 : decode cX9_readsPath 35 = .ok (.invokevirtual 147, 3) := by decide +kernel
theorem dX9_readsPath_38 : decode cX9_readsPath 38 = .ok (.istore_n 2, 1) := by decide +kernel
theorem dX9_readsPath_39 : decode cX9_readsPath 39 = .ok (.aload_n 0, 1) := by decide +kernel
theorem dX9_readsPath_40 : decode cX9_readsPath 40 = .ok (.iload_n 1, 1) := by decide +kernel
theorem dX9_readsPath_41 : decode cX9_readsPath 41 = .ok (.aload_n 0, 1) := by decide +kernel
theorem dX9_readsPath_42 : decode cX9_readsPath 42 = .ok (.getfield 116, 3) := by decide +kernel
theorem dX9_readsPath_45 : decode cX9_readsPath 45 = .ok (.invokevirtual 151, 3) := by decide +kernel
theorem dX9_readsPath_48 : decode cX9_readsPath 48 = .ok (.istore_n 3, 1) := by decide +kernel
theorem dX9_readsPath_49 : decode cX9_readsPath 49 = .ok (.aload_n 0, 1) := by decide +kernel
theorem dX9_readsPath_50 : decode cX9_readsPath 50 = .ok (.iload_n 2, 1) := by decide +kernel
theorem dX9_readsPath_51 : decode cX9_readsPath 51 = .ok (.bipush (-9), 2) := by decide +kernel
theorem dX9_readsPath_53 : decode cX9_readsPath 53 = .ok (.if_icmp .ne 9, 3) := by decide +kernel
theorem dX9_readsPath_56 : decode cX9_readsPath 56 = .ok (.iload_n 3, 1) := by decide +kernel
theorem dX9_readsPath_57 : decode cX9_readsPath 57 = .ok (.bipush (-9), 2) := by decide +kernel
theorem dX9_readsPath_59 : decode cX9_readsPath 59 = .ok (.if_icmp .eq 7, 3) := by decide +kernel
theorem dX9_readsPath_62 : decode cX9_readsPath 62 = .ok (.iconst 1, 1) := by decide +kernel
theorem dX9_readsPath_63 : decode cX9_readsPath 63 = .ok (.goto 4, 3) := by decide +kernel
theorem dX9_readsPath_66 : decode cX9_readsPath 66 = .ok (.iconst 0, 1) := by decide +kernel
theorem dX9_readsPath_67 : decode cX9_readsPath 67 = .ok (.invokevirtual 125, 3) := by decide +kernel
theorem dX9_readsPath_70 : decode cX9_readsPath 70 = .ok (.aload_n 0, 1) := by decide +kernel
theorem dX9_readsPath_71 : decode cX9_readsPath 71 = .ok (.getfield 122, 3) := by decide +kernel
theorem dX9_readsPath_74 : decode cX9_readsPath 74 = .ok (.bipush (-9), 2) := by decide +kernel
theorem dX9_readsPath_76 : decode cX9_readsPath 76 = .ok (.if_icmp .ne 15, 3) := by decide +kernel
theorem dX9_readsPath_79 : decode cX9_readsPath 79 = .ok (.iload_n 2, 1) := by decide +kernel
theorem dX9_readsPath_80 : decode cX9_readsPath 80 = .ok (.bipush (-9), 2) := by decide +kernel
theorem dX9_readsPath_82 : decode cX9_readsPath 82 = .ok (.if_icmp .eq 9, 3) := by decide +kernel
theorem dX9_readsPath_85 : decode cX9_readsPath 85 = .ok (.aload_n 0, 1) := by decide +kernel
theorem dX9_readsPath_86 : decode cX9_readsPath 86 = .ok (.invokevirtual 129, 3) := by decide +kernel
theorem dX9_readsPath_89 : decode cX9_readsPath 89 = .ok (.iload_n 2, 1) := by decide +kernel
theorem dX9_readsPath_90 : decode cX9_readsPath 90 = .ok (.ireturn, 1) := by decide +kernel
theorem dX9_readsPath_91 : decode cX9_readsPath 91 = .ok (.iload_n 3, 1) := by decide +kernel
theorem dX9_readsPath_92 : decode cX9_readsPath 92 = .ok (.istore_n 1, 1) := by decide +kernel
theorem dX9_readsPath_93 : decode cX9_readsPath 93 = .ok (.aload_n 0, 1) := by decide +kernel
theorem dX9_readsPath_94 : decode cX9_readsPath 94 = .ok (.iconst 1, 1) := by decide +kernel
theorem dX9_readsPath_95 : decode cX9_readsPath 95 = .ok (.invokevirtual 141, 3) := by decide +kernel
theorem dX9_readsPath_98 : decode cX9_readsPath 98 = .ok (.aload_n 0, 1) := by decide +kernel
theorem dX9_readsPath_99 : decode cX9_readsPath 99 = .ok (.aload_n 0, 1) := by decide +kernel
theorem dX9_readsPath_100 : decode cX9_readsPath 100 = .ok (.bipush 46, 2) := by decide +kernel
theorem dX9_readsPath_102 : decode cX9_readsPath 102 = .ok (.invokevirtual 154, 3) := by decide +kernel
theorem dX9_readsPath_105 : decode cX9_readsPath 105 = .ok (.invokevirtual 141, 3) := by decide +kernel
theorem dX9_readsPath_108 : decode cX9_readsPath 108 = .ok (.goto (-105), 3) := by decide +kernel
theorem dX9_readsPath_111 : decode cX9_readsPath 111 = .ok (.iconst 0, 1) := by decide +kernel
theorem dX9_readsPath_112 : decode cX9_readsPath 112 = .ok (.ireturn, 1) := by decide +kernel
theorem bX9_readsPath_0 {d : Nat} {Q : Option jA → jH → Prop} (a0 : Nat) (u1 : Option jA) (u2 : Option jA) (u3 : Option jA) (h : jH)
    (k1 : V MX9_readsPath (d + 4) 3 [some (.inr a0), some (.inl ((-9))), u2, u3] [] h 0 0 Q) :
    V MX9_readsPath (d + 4) 0 [some (.inr a0), u1, u2, u3] [] h 0 0 Q := by
  refine V_bipush dX9_readsPath_0 (by decide +kernel) ⟨by decide, by decide⟩ ?_
  refine V_istore_n (i := 1) dX9_readsPath_2 rfl (by decide) ?_
  exact k1
theorem bX9_readsPath_3 {d : Nat} {Q : Option jA → jH → Prop} (a0 : Nat) (i1 : Int) (u2 : Option jA) (u3 : Option jA) (h : jH)
    (s1 : (jS h a0).1 = 9)
    (q1 : ((jI h a0 20) ≠ ((-9))) → Q (some (.inl 0)) h)
    (e1 : ((jI h a0 20) = ((-9))) → ((jI h a0 18) ≠ 1) → Ex MX9_due d [.inr a0, .inl 0] h 0 0 (fun v h2 => V MX9_readsPath (d + 4) 29 [some (.inr a0), some (.inl i1), u2, u3] (v.toList ++ []) h2 0 0 Q))
    (e2 : ((jI h a0 20) = ((-9))) → ((jI h a0 18) = 1) → Ex MX9_due d [.inr a0, .inl 1] h 0 0 (fun v h2 => V MX9_readsPath (d + 4) 29 [some (.inr a0), some (.inl i1), u2, u3] (v.toList ++ []) h2 0 0 Q)) :
    V MX9_readsPath (d + 4) 3 [some (.inr a0), some (.inl i1), u2, u3] [] h 0 0 Q := by
  refine V_aload_n (i := 0) dX9_readsPath_3 rfl rfl ?_
  refine V_getI dX9_readsPath_4 fX9_122 rfl s1 ?_
  refine V_bipush dX9_readsPath_7 (by decide +kernel) ⟨by decide, by decide⟩ ?_
  refine V_icmp_ne (tgt := 111) dX9_readsPath_9 (by decide) (fun c1 => ?_) (fun c1 => ?_)
  · refine V_iconst dX9_readsPath_111 ⟨by decide, by decide⟩ ?_
    exact V_reti rfl dX9_readsPath_112 (q1 c1)
  · refine V_aload_n (i := 0) dX9_readsPath_12 rfl rfl ?_
    refine V_aload_n (i := 0) dX9_readsPath_13 rfl rfl ?_
    refine V_getI dX9_readsPath_14 fX9_109 rfl s1 ?_
    refine V_iconst dX9_readsPath_17 ⟨by decide, by decide⟩ ?_
    refine V_icmp_ne (tgt := 25) dX9_readsPath_18 (by decide) (fun c2 => ?_) (fun c2 => ?_)
    · refine V_iconst dX9_readsPath_25 ⟨by decide, by decide⟩ ?_
      exact V_callV (M := MX9_readsPath) (d := (d + 4)) (mc' := 0) (ms' := 0) (mc := 0) (ms := 0) (As := [.inl 0]) (rest := []) dX9_readsPath_26 tX9_due vX9_due lX9_125 s1 ⟨by decide, rfl⟩ rfl rfl (Nat.le_of_ble_eq_true rfl) (show d + 1 ≤ (d + 4) by omega) (e1 c1 c2)
    · refine V_iconst dX9_readsPath_21 ⟨by decide, by decide⟩ ?_
      refine V_goto (tgt := 26) dX9_readsPath_22 (by decide) ?_
      exact V_callV (M := MX9_readsPath) (d := (d + 4)) (mc' := 0) (ms' := 0) (mc := 0) (ms := 0) (As := [.inl 1]) (rest := []) dX9_readsPath_26 tX9_due vX9_due lX9_125 s1 ⟨by decide, rfl⟩ rfl rfl (Nat.le_of_ble_eq_true rfl) (show d + 1 ≤ (d + 4) by omega) (e2 c1 c2)
theorem bX9_readsPath_29 {d : Nat} {Q : Option jA → jH → Prop} (a0 : Nat) (i1 : Int) (u2 : Option jA) (u3 : Option jA) (h : jH)
    (s1 : (jS h a0).1 = 9)
    (e1 : Ex MX9_newNodeBy d [.inr a0, .inl i1, .inl (jI h a0 19)] h 0 0 (fun v h2 => V MX9_readsPath (d + 4) 38 [some (.inr a0), some (.inl i1), u2, u3] (v.toList ++ []) h2 0 0 Q)) :
    V MX9_readsPath (d + 4) 29 [some (.inr a0), some (.inl i1), u2, u3] [] h 0 0 Q := by
  refine V_aload_n (i := 0) dX9_readsPath_29 rfl rfl ?_
  refine V_iload_n (i := 1) dX9_readsPath_30 rfl rfl ?_
  refine V_aload_n (i := 0) dX9_readsPath_31 rfl rfl ?_
  refine V_getI dX9_readsPath_32 fX9_116 rfl s1 ?_
  exact V_callV (M := MX9_readsPath) (d := (d + 4)) (mc' := 0) (ms' := 0) (mc := 0) (ms := 0) (As := [.inl i1, .inl (jI h a0 19)]) (rest := []) dX9_readsPath_35 tX9_newNodeBy vX9_newNodeBy lX9_147 s1 ⟨by decide, rfl⟩ rfl rfl (Nat.le_of_ble_eq_true rfl) (show d + 1 ≤ (d + 4) by omega) e1
theorem bX9_readsPath_38 {d : Nat} {Q : Option jA → jH → Prop} (a0 : Nat) (i1 : Int) (u2 : Option jA) (u3 : Option jA) (p0 : Int) (h : jH)
    (s1 : (jS h a0).1 = 9)
    (e1 : Ex MX9_newScopeBy d [.inr a0, .inl i1, .inl (jI h a0 19)] h 0 0 (fun v h2 => V MX9_readsPath (d + 4) 48 [some (.inr a0), some (.inl i1), some (.inl p0), u3] (v.toList ++ []) h2 0 0 Q)) :
    V MX9_readsPath (d + 4) 38 [some (.inr a0), some (.inl i1), u2, u3] [.inl p0] h 0 0 Q := by
  refine V_istore_n (i := 2) dX9_readsPath_38 rfl (by decide) ?_
  refine V_aload_n (i := 0) dX9_readsPath_39 rfl rfl ?_
  refine V_iload_n (i := 1) dX9_readsPath_40 rfl rfl ?_
  refine V_aload_n (i := 0) dX9_readsPath_41 rfl rfl ?_
  refine V_getI dX9_readsPath_42 fX9_116 rfl s1 ?_
  exact V_callV (M := MX9_readsPath) (d := (d + 4)) (mc' := 0) (ms' := 0) (mc := 0) (ms := 0) (As := [.inl i1, .inl (jI h a0 19)]) (rest := []) dX9_readsPath_45 tX9_newScopeBy vX9_newScopeBy lX9_151 s1 ⟨by decide, rfl⟩ rfl rfl (Nat.le_of_ble_eq_true rfl) (show d + 1 ≤ (d + 4) by omega) e1
theorem bX9_readsPath_48 {d : Nat} {Q : Option jA → jH → Prop} (a0 : Nat) (i1 : Int) (i2 : Int) (u3 : Option jA) (p0 : Int) (h : jH)
    (e1 : (i2 ≠ ((-9))) → Ex MX9_due d [.inr a0, .inl 1] h 0 0 (fun v h2 => V MX9_readsPath (d + 4) 70 [some (.inr a0), some (.inl i1), some (.inl i2), some (.inl p0)] (v.toList ++ []) h2 0 0 Q))
    (s1 : (jS h a0).1 = 9)
    (e2 : (i2 = ((-9))) → (p0 = ((-9))) → Ex MX9_due d [.inr a0, .inl 0] h 0 0 (fun v h2 => V MX9_readsPath (d + 4) 70 [some (.inr a0), some (.inl i1), some (.inl i2), some (.inl p0)] (v.toList ++ []) h2 0 0 Q))
    (e3 : (i2 = ((-9))) → (¬ (p0 = ((-9)))) → Ex MX9_due d [.inr a0, .inl 1] h 0 0 (fun v h2 => V MX9_readsPath (d + 4) 70 [some (.inr a0), some (.inl i1), some (.inl i2), some (.inl p0)] (v.toList ++ []) h2 0 0 Q)) :
    V MX9_readsPath (d + 4) 48 [some (.inr a0), some (.inl i1), some (.inl i2), u3] [.inl p0] h 0 0 Q := by
  refine V_istore_n (i := 3) dX9_readsPath_48 rfl (by decide) ?_
  refine V_aload_n (i := 0) dX9_readsPath_49 rfl rfl ?_
  refine V_iload_n (i := 2) dX9_readsPath_50 rfl rfl ?_
  refine V_bipush dX9_readsPath_51 (by decide +kernel) ⟨by decide, by decide⟩ ?_
  refine V_icmp_ne (tgt := 62) dX9_readsPath_53 (by decide) (fun c1 => ?_) (fun c1 => ?_)
  · refine V_iconst dX9_readsPath_62 ⟨by decide, by decide⟩ ?_
    refine V_goto (tgt := 67) dX9_readsPath_63 (by decide) ?_
    exact V_callV (M := MX9_readsPath) (d := (d + 4)) (mc' := 0) (ms' := 0) (mc := 0) (ms := 0) (As := [.inl 1]) (rest := []) dX9_readsPath_67 tX9_due vX9_due lX9_125 s1 ⟨by decide, rfl⟩ rfl rfl (Nat.le_of_ble_eq_true rfl) (show d + 1 ≤ (d + 4) by omega) (e1 c1)
  · refine V_iload_n (i := 3) dX9_readsPath_56 rfl rfl ?_
    refine V_bipush dX9_readsPath_57 (by decide +kernel) ⟨by decide, by decide⟩ ?_
    refine V_icmp_eq (tgt := 66) dX9_readsPath_59 (by decide) (fun c2 => ?_) (fun c2 => ?_)
    · refine V_iconst dX9_readsPath_66 ⟨by decide, by decide⟩ ?_
      exact V_callV (M := MX9_readsPath) (d := (d + 4)) (mc' := 0) (ms' := 0) (mc := 0) (ms := 0) (As := [.inl 0]) (rest := []) dX9_readsPath_67 tX9_due vX9_due lX9_125 s1 ⟨by decide, rfl⟩ rfl rfl (Nat.le_of_ble_eq_true rfl) (show d + 1 ≤ (d + 4) by omega) (e2 c1 c2)
    · refine V_iconst dX9_readsPath_62 ⟨by decide, by decide⟩ ?_
      refine V_goto (tgt := 67) dX9_readsPath_63 (by decide) ?_
      exact V_callV (M := MX9_readsPath) (d := (d + 4)) (mc' := 0) (ms' := 0) (mc := 0) (ms := 0) (As := [.inl 1]) (rest := []) dX9_readsPath_67 tX9_due vX9_due lX9_125 s1 ⟨by decide, rfl⟩ rfl rfl (Nat.le_of_ble_eq_true rfl) (show d + 1 ≤ (d + 4) by omega) (e3 c1 c2)
theorem bX9_readsPath_70 {d : Nat} {Q : Option jA → jH → Prop} (a0 : Nat) (i1 : Int) (i2 : Int) (i3 : Int) (h : jH)
    (s1 : (jS h a0).1 = 9)
    (e1 : ((jI h a0 20) ≠ ((-9))) → Ex MX9_passes (d + 3) [.inr a0, .inl 1] h 0 0 (fun v h2 => V MX9_readsPath (d + 4) 98 [some (.inr a0), some (.inl i3), some (.inl i2), some (.inl i3)] (v.toList ++ []) h2 0 0 Q))
    (e2 : ((jI h a0 20) = ((-9))) → (i2 = ((-9))) → Ex MX9_passes (d + 3) [.inr a0, .inl 1] h 0 0 (fun v h2 => V MX9_readsPath (d + 4) 98 [some (.inr a0), some (.inl i3), some (.inl i2), some (.inl i3)] (v.toList ++ []) h2 0 0 Q))
    (e3 : ((jI h a0 20) = ((-9))) → (¬ (i2 = ((-9)))) → Ex MX9_next (d + 2) [.inr a0] h 0 0 (fun v h2 => V MX9_readsPath (d + 4) 89 [some (.inr a0), some (.inl i1), some (.inl i2), some (.inl i3)] (v.toList ++ []) h2 0 0 Q)) :
    V MX9_readsPath (d + 4) 70 [some (.inr a0), some (.inl i1), some (.inl i2), some (.inl i3)] [] h 0 0 Q := by
  refine V_aload_n (i := 0) dX9_readsPath_70 rfl rfl ?_
  refine V_getI dX9_readsPath_71 fX9_122 rfl s1 ?_
  refine V_bipush dX9_readsPath_74 (by decide +kernel) ⟨by decide, by decide⟩ ?_
  refine V_icmp_ne (tgt := 91) dX9_readsPath_76 (by decide) (fun c1 => ?_) (fun c1 => ?_)
  · refine V_iload_n (i := 3) dX9_readsPath_91 rfl rfl ?_
    refine V_istore_n (i := 1) dX9_readsPath_92 rfl (by decide) ?_
    refine V_aload_n (i := 0) dX9_readsPath_93 rfl rfl ?_
    refine V_iconst dX9_readsPath_94 ⟨by decide, by decide⟩ ?_
    exact V_callV (M := MX9_readsPath) (d := (d + 4)) (mc' := 0) (ms' := 0) (mc := 0) (ms := 0) (As := [.inl 1]) (rest := []) dX9_readsPath_95 tX9_passes vX9_passes lX9_141 s1 ⟨by decide, rfl⟩ rfl rfl (Nat.le_of_ble_eq_true rfl) (show (d + 3) + 1 ≤ (d + 4) by omega) (e1 c1)
  · refine V_iload_n (i := 2) dX9_readsPath_79 rfl rfl ?_
    refine V_bipush dX9_readsPath_80 (by decide +kernel) ⟨by decide, by decide⟩ ?_
    refine V_icmp_eq (tgt := 91) dX9_readsPath_82 (by decide) (fun c2 => ?_) (fun c2 => ?_)
    · refine V_iload_n (i := 3) dX9_readsPath_91 rfl rfl ?_
      refine V_istore_n (i := 1) dX9_readsPath_92 rfl (by decide) ?_
      refine V_aload_n (i := 0) dX9_readsPath_93 rfl rfl ?_
      refine V_iconst dX9_readsPath_94 ⟨by decide, by decide⟩ ?_
      exact V_callV (M := MX9_readsPath) (d := (d + 4)) (mc' := 0) (ms' := 0) (mc := 0) (ms := 0) (As := [.inl 1]) (rest := []) dX9_readsPath_95 tX9_passes vX9_passes lX9_141 s1 ⟨by decide, rfl⟩ rfl rfl (Nat.le_of_ble_eq_true rfl) (show (d + 3) + 1 ≤ (d + 4) by omega) (e2 c1 c2)
    · refine V_aload_n (i := 0) dX9_readsPath_85 rfl rfl ?_
      exact V_callV (M := MX9_readsPath) (d := (d + 4)) (mc' := 0) (ms' := 0) (mc := 0) (ms := 0) (As := []) (rest := []) dX9_readsPath_86 tX9_next vX9_next lX9_129 s1 ⟨by decide, rfl⟩ rfl rfl (Nat.le_of_ble_eq_true rfl) (show (d + 2) + 1 ≤ (d + 4) by omega) (e3 c1 c2)
theorem bX9_readsPath_98 {d : Nat} {Q : Option jA → jH → Prop} (a0 : Nat) (i1 : Int) (i2 : Int) (i3 : Int) (h : jH)
    (s1 : (jS h a0).1 = 9)
    (e1 : Ex MX9_passes (d + 3) [.inr a0, .inl (jb ((jI h a0 18) = 3 ∧ (jI h a0 19) = 46))] h 0 0 (fun v h2 => V MX9_readsPath (d + 4) 108 [some (.inr a0), some (.inl i1), some (.inl i2), some (.inl i3)] (v.toList ++ []) h2 0 0 Q)) :
    V MX9_readsPath (d + 4) 98 [some (.inr a0), some (.inl i1), some (.inl i2), some (.inl i3)] [] h 0 0 Q := by
  refine V_aload_n (i := 0) dX9_readsPath_98 rfl rfl ?_
  refine V_aload_n (i := 0) dX9_readsPath_99 rfl rfl ?_
  refine V_bipush dX9_readsPath_100 (by decide +kernel) ⟨by decide, by decide⟩ ?_
  refine V_callV (M := MX9_readsPath) (d := (d + 4)) (mc' := 0) (ms' := 0) (mc := 0) (ms := 0) (As := [.inl 46]) (rest := [.inr a0]) dX9_readsPath_102 tX9_is vX9_is lX9_154 s1 ⟨by decide, rfl⟩ rfl rfl (Nat.le_of_ble_eq_true rfl) (show d + 1 ≤ (d + 4) by omega) (Ex.mono (pX9_is (d := d) s1) ?_)
  intro v h2 hq
  rw [hq.1, hq.2]
  show V MX9_readsPath (d + 4) 105 [some (.inr a0), some (.inl i1), some (.inl i2), some (.inl i3)] [.inl (jb ((jI h a0 18) = 3 ∧ (jI h a0 19) = 46)), .inr a0] h 0 0 Q
  exact V_callV (M := MX9_readsPath) (d := (d + 4)) (mc' := 0) (ms' := 0) (mc := 0) (ms := 0) (As := [.inl (jb ((jI h a0 18) = 3 ∧ (jI h a0 19) = 46))]) (rest := []) dX9_readsPath_105 tX9_passes vX9_passes lX9_141 s1 ⟨by decide, rfl⟩ rfl rfl (Nat.le_of_ble_eq_true rfl) (show (d + 3) + 1 ≤ (d + 4) by omega) e1
theorem bX9_readsPath_89 {d : Nat} {Q : Option jA → jH → Prop} (a0 : Nat) (i1 : Int) (i2 : Int) (i3 : Int) (h : jH)
    (q1 : Q (some (.inl i2)) h) :
    V MX9_readsPath (d + 4) 89 [some (.inr a0), some (.inl i1), some (.inl i2), some (.inl i3)] [] h 0 0 Q := by
  refine V_iload_n (i := 2) dX9_readsPath_89 rfl rfl ?_
  exact V_reti rfl dX9_readsPath_90 q1
theorem bX9_readsPath_108 {d : Nat} {Q : Option jA → jH → Prop} (a0 : Nat) (i1 : Int) (i2 : Int) (i3 : Int) (h : jH)
    (k1 : V MX9_readsPath (d + 4) 3 [some (.inr a0), some (.inl i1), some (.inl i2), some (.inl i3)] [] h 0 0 Q) :
    V MX9_readsPath (d + 4) 108 [some (.inr a0), some (.inl i1), some (.inl i2), some (.inl i3)] [] h 0 0 Q := by
  refine V_goto (tgt := 3) dX9_readsPath_108 (by decide) ?_
  exact k1
theorem dX9_emits_0 : decode cX9_emits 0 = .ok (.aload_n 0, 1) := by decide +kernel
theorem dX9_emits_1 : decode cX9_emits 1 = .ok (.getfield 53, 3) := by decide +kernel
theorem dX9_emits_4 : decode cX9_emits 4 = .ok (.aload_n 0, 1) := by decide +kernel
theorem dX9_emits_5 : decode cX9_emits 5 = .ok (.getfield 157, 3) := by decide +kernel
theorem dX9_emits_8 : decode cX9_emits 8 = .ok (.iaload, 1) := by decide +kernel
theorem dX9_emits_9 : decode cX9_emits 9 = .ok (.istore_n 3, 1) := by decide +kernel
theorem dX9_emits_10 : decode cX9_emits 10 = .ok (.aload_n 0, 1) := by decide +kernel
theorem dX9_emits_11 : decode cX9_emits 11 = .ok (.getfield 50, 3) := by decide +kernel
theorem dX9_emits_14 : decode cX9_emits 14 = .ok (.bipush 40, 2) := by decide +kernel
theorem dX9_emits_16 : decode cX9_emits 16 = .ok (.aload_n 0, 1) := by decide +kernel
theorem dX9_emits_17 : decode cX9_emits 17 = .ok (.getfield 157, 3) := by decide +kernel
theorem dX9_emits_20 : decode cX9_emits 20 = .ok (.imul, 1) := by decide +kernel
theorem dX9_emits_21 : decode cX9_emits 21 = .ok (.iconst 2, 1) := by decide +kernel
theorem dX9_emits_22 : decode cX9_emits 22 = .ok (.iload_n 3, 1) := by decide +kernel
theorem dX9_emits_23 : decode cX9_emits 23 = .ok (.imul, 1) := by decide +kernel
theorem dX9_emits_24 : decode cX9_emits 24 = .ok (.iadd, 1) := by decide +kernel
theorem dX9_emits_25 : decode cX9_emits 25 = .ok (.iload_n 1, 1) := by decide +kernel
theorem dX9_emits_26 : decode cX9_emits 26 = .ok (.iastore, 1) := by decide +kernel
theorem dX9_emits_27 : decode cX9_emits 27 = .ok (.aload_n 0, 1) := by decide +kernel
theorem dX9_emits_28 : decode cX9_emits 28 = .ok (.getfield 50, 3) := by decide +kernel
theorem dX9_emits_31 : decode cX9_emits 31 = .ok (.bipush 40, 2) := by decide +kernel
theorem dX9_emits_33 : decode cX9_emits 33 = .ok (.aload_n 0, 1) := by decide +kernel
theorem dX9_emits_34 : decode cX9_emits 34 = .ok (.getfield 157, 3) := by decide +kernel
theorem dX9_emits_37 : decode cX9_emits 37 = .ok (.imul, 1) := by decide +kernel
theorem dX9_emits_38 : decode cX9_emits 38 = .ok (.iconst 2, 1) := by decide +kernel
theorem dX9_emits_39 : decode cX9_emits 39 = .ok (.iload_n 3, 1) := by decide +kernel
theorem dX9_emits_40 : decode cX9_emits 40 = .ok (.imul, 1) := by decide +kernel
theorem dX9_emits_41 : decode cX9_emits 41 = .ok (.iadd, 1) := by decide +kernel
theorem dX9_emits_42 : decode cX9_emits 42 = .ok (.iconst 1, 1) := by decide +kernel
theorem dX9_emits_43 : decode cX9_emits 43 = .ok (.iadd, 1) := by decide +kernel
theorem dX9_emits_44 : decode cX9_emits 44 = .ok (.iload_n 2, 1) := by decide +kernel
theorem dX9_emits_45 : decode cX9_emits 45 = .ok (.iastore, 1) := by decide +kernel
theorem dX9_emits_46 : decode cX9_emits 46 = .ok (.aload_n 0, 1) := by decide +kernel
theorem dX9_emits_47 : decode cX9_emits 47 = .ok (.getfield 53, 3) := by decide +kernel
theorem dX9_emits_50 : decode cX9_emits 50 = .ok (.aload_n 0, 1) := by decide +kernel
theorem dX9_emits_51 : decode cX9_emits 51 = .ok (.getfield 157, 3) := by decide +kernel
theorem dX9_emits_54 : decode cX9_emits 54 = .ok (.dup2, 1) := by decide +kernel
theorem dX9_emits_55 : decode cX9_emits 55 = .ok (.iaload, 1) := by decide +kernel
theorem dX9_emits_56 : decode cX9_emits 56 = .ok (.iconst 1, 1) := by decide +kernel
theorem dX9_emits_57 : decode cX9_emits 57 = .ok (.iadd, 1) := by decide +kernel
theorem dX9_emits_58 : decode cX9_emits 58 = .ok (.iastore, 1) := by decide +kernel
theorem dX9_emits_59 : decode cX9_emits 59 = .ok (.return_, 1) := by decide +kernel
theorem bX9_emits_0 {d : Nat} {Q : Option jA → jH → Prop} (a0 : Nat) (i1 : Int) (i2 : Int) (u3 : Option jA) (h : jH)
    (s1 : (jS h a0).1 = 9)
    (s2 : (jS h (jP h a0 29)).1 = 16)
    (s3 : 0 ≤ jI h a0 24)
    (s4 : jI h a0 24 < ((jS h (jP h a0 29)).2 : Int))
    (r1 : jR (40 * (jI h a0 24)))
    (r2 : jR (2 * (jX h (jP h a0 29) ((jI h a0 24).toNat))))
    (r3 : jR ((40 * (jI h a0 24)) + (2 * (jX h (jP h a0 29) ((jI h a0 24).toNat)))))
    (s5 : (jS h (jP h a0 28)).1 = 16)
    (s6 : 0 ≤ (40 * (jI h a0 24)) + (2 * (jX h (jP h a0 29) ((jI h a0 24).toNat))))
    (s7 : (40 * (jI h a0 24)) + (2 * (jX h (jP h a0 29) ((jI h a0 24).toNat))) < ((jS h (jP h a0 28)).2 : Int))
    (r4 : jR (40 * (jI h a0 24)))
    (r5 : jR (2 * (jX h (jP h a0 29) ((jI h a0 24).toNat))))
    (r6 : jR ((40 * (jI h a0 24)) + (2 * (jX h (jP h a0 29) ((jI h a0 24).toNat)))))
    (r7 : jR (((40 * (jI h a0 24)) + (2 * (jX h (jP h a0 29) ((jI h a0 24).toNat)))) + 1))
    (s8 : 0 ≤ ((40 * (jI h a0 24)) + (2 * (jX h (jP h a0 29) ((jI h a0 24).toNat)))) + 1)
    (s9 : ((40 * (jI h a0 24)) + (2 * (jX h (jP h a0 29) ((jI h a0 24).toNat)))) + 1 < ((jS h (jP h a0 28)).2 : Int))
    (r8 : jR ((jX (jsX (jsX h (jP h a0 28) (((40 * (jI h a0 24)) + (2 * (jX h (jP h a0 29) ((jI h a0 24).toNat)))).toNat) i1) (jP h a0 28) ((((40 * (jI h a0 24)) + (2 * (jX h (jP h a0 29) ((jI h a0 24).toNat)))) + 1).toNat) i2) (jP h a0 29) ((jI h a0 24).toNat)) + 1))
    (q1 : Q none (jsX (jsX (jsX h (jP h a0 28) (((40 * (jI h a0 24)) + (2 * (jX h (jP h a0 29) ((jI h a0 24).toNat)))).toNat) i1) (jP h a0 28) ((((40 * (jI h a0 24)) + (2 * (jX h (jP h a0 29) ((jI h a0 24).toNat)))) + 1).toNat) i2) (jP h a0 29) ((jI h a0 24).toNat) ((jX (jsX (jsX h (jP h a0 28) (((40 * (jI h a0 24)) + (2 * (jX h (jP h a0 29) ((jI h a0 24).toNat)))).toNat) i1) (jP h a0 28) ((((40 * (jI h a0 24)) + (2 * (jX h (jP h a0 29) ((jI h a0 24).toNat)))) + 1).toNat) i2) (jP h a0 29) ((jI h a0 24).toNat)) + 1))) :
    V MX9_emits d 0 [some (.inr a0), some (.inl i1), some (.inl i2), u3] [] h 0 0 Q := by
  refine V_aload_n (i := 0) dX9_emits_0 rfl rfl ?_
  refine V_getP dX9_emits_1 fX9_53 rfl s1 ?_
  refine V_aload_n (i := 0) dX9_emits_4 rfl rfl ?_
  refine V_getI dX9_emits_5 fX9_157 rfl s1 ?_
  refine V_iald dX9_emits_8 s2 s3 s4 ?_
  refine V_istore_n (i := 3) dX9_emits_9 rfl (by decide) ?_
  refine V_aload_n (i := 0) dX9_emits_10 rfl rfl ?_
  refine V_getP dX9_emits_11 fX9_50 rfl s1 ?_
  refine V_bipush dX9_emits_14 (by decide +kernel) ⟨by decide, by decide⟩ ?_
  refine V_aload_n (i := 0) dX9_emits_16 rfl rfl ?_
  refine V_getI dX9_emits_17 fX9_157 rfl s1 ?_
  refine V_imul dX9_emits_20 r1 ?_
  refine V_iconst dX9_emits_21 ⟨by decide, by decide⟩ ?_
  refine V_iload_n (i := 3) dX9_emits_22 rfl rfl ?_
  refine V_imul dX9_emits_23 r2 ?_
  refine V_iadd dX9_emits_24 r3 ?_
  refine V_iload_n (i := 1) dX9_emits_25 rfl rfl ?_
  refine V_iast dX9_emits_26 s5 s6 s7 ?_
  refine V_aload_n (i := 0) dX9_emits_27 rfl rfl ?_
  refine V_getP dX9_emits_28 fX9_50 rfl s1 ?_
  refine V_bipush dX9_emits_31 (by decide +kernel) ⟨by decide, by decide⟩ ?_
  refine V_aload_n (i := 0) dX9_emits_33 rfl rfl ?_
  refine V_getI dX9_emits_34 fX9_157 rfl s1 ?_
  refine V_imul dX9_emits_37 r4 ?_
  refine V_iconst dX9_emits_38 ⟨by decide, by decide⟩ ?_
  refine V_iload_n (i := 3) dX9_emits_39 rfl rfl ?_
  refine V_imul dX9_emits_40 r5 ?_
  refine V_iadd dX9_emits_41 r6 ?_
  refine V_iconst dX9_emits_42 ⟨by decide, by decide⟩ ?_
  refine V_iadd dX9_emits_43 r7 ?_
  refine V_iload_n (i := 2) dX9_emits_44 rfl rfl ?_
  refine V_iast dX9_emits_45 s5 s8 s9 ?_
  refine V_aload_n (i := 0) dX9_emits_46 rfl rfl ?_
  refine V_getP dX9_emits_47 fX9_53 rfl s1 ?_
  refine V_aload_n (i := 0) dX9_emits_50 rfl rfl ?_
  refine V_getI dX9_emits_51 fX9_157 rfl s1 ?_
  refine V_dup2 dX9_emits_54 ?_
  refine V_iald dX9_emits_55 s2 s3 s4 ?_
  refine V_iconst dX9_emits_56 ⟨by decide, by decide⟩ ?_
  refine V_iadd dX9_emits_57 r8 ?_
  refine V_iast dX9_emits_58 s2 s3 s4 ?_
  exact V_ret (v := none) rfl rfl dX9_emits_59 trivial rfl q1
theorem dX9_waitsFor_0 : decode cX9_waitsFor 0 = .ok (.aload_n 0, 1) := by decide +kernel
theorem dX9_waitsFor_1 : decode cX9_waitsFor 1 = .ok (.getfield 56, 3) := by decide +kernel
theorem dX9_waitsFor_4 : decode cX9_waitsFor 4 = .ok (.aload_n 0, 1) := by decide +kernel
theorem dX9_waitsFor_5 : decode cX9_waitsFor 5 = .ok (.getfield 160, 3) := by decide +kernel
theorem dX9_waitsFor_8 : decode cX9_waitsFor 8 = .ok (.iload_n 1, 1) := by decide +kernel
theorem dX9_waitsFor_9 : decode cX9_waitsFor 9 = .ok (.iastore, 1) := by decide +kernel
theorem dX9_waitsFor_10 : decode cX9_waitsFor 10 = .ok (.aload_n 0, 1) := by decide +kernel
theorem dX9_waitsFor_11 : decode cX9_waitsFor 11 = .ok (.dup, 1) := by decide +kernel
theorem dX9_waitsFor_12 : decode cX9_waitsFor 12 = .ok (.getfield 160, 3) := by decide +kernel
theorem dX9_waitsFor_15 : decode cX9_waitsFor 15 = .ok (.iconst 1, 1) := by decide +kernel
theorem dX9_waitsFor_16 : decode cX9_waitsFor 16 = .ok (.iadd, 1) := by decide +kernel
theorem dX9_waitsFor_17 : decode cX9_waitsFor 17 = .ok (.putfield 160, 3) := by decide +kernel
theorem dX9_waitsFor_20 : decode cX9_waitsFor 20 = .ok (.return_, 1) := by decide +kernel
theorem bX9_waitsFor_0 {d : Nat} {Q : Option jA → jH → Prop} (a0 : Nat) (i1 : Int) (h : jH)
    (s1 : (jS h a0).1 = 9)
    (s2 : (jS h (jP h a0 32)).1 = 16)
    (s3 : 0 ≤ jI h a0 33)
    (s4 : jI h a0 33 < ((jS h (jP h a0 32)).2 : Int))
    (r1 : jR ((jI h a0 33) + 1))
    (q1 : Q none (jsI (jsX h (jP h a0 32) ((jI h a0 33).toNat) i1) a0 33 ((jI h a0 33) + 1))) :
    V MX9_waitsFor d 0 [some (.inr a0), some (.inl i1)] [] h 0 0 Q := by
  refine V_aload_n (i := 0) dX9_waitsFor_0 rfl rfl ?_
  refine V_getP dX9_waitsFor_1 fX9_56 rfl s1 ?_
  refine V_aload_n (i := 0) dX9_waitsFor_4 rfl rfl ?_
  refine V_getI dX9_waitsFor_5 fX9_160 rfl s1 ?_
  refine V_iload_n (i := 1) dX9_waitsFor_8 rfl rfl ?_
  refine V_iast dX9_waitsFor_9 s2 s3 s4 ?_
  refine V_aload_n (i := 0) dX9_waitsFor_10 rfl rfl ?_
  refine V_dup dX9_waitsFor_11 ?_
  refine V_getI dX9_waitsFor_12 fX9_160 rfl s1 ?_
  refine V_iconst dX9_waitsFor_15 ⟨by decide, by decide⟩ ?_
  refine V_iadd dX9_waitsFor_16 r1 ?_
  refine V_putI (ci := 9) (kf := 33) dX9_waitsFor_17 fX9_160 rfl rfl s1 ?_
  exact V_ret (v := none) rfl rfl dX9_waitsFor_20 trivial rfl q1
theorem dX9_wholeTerm_0 : decode cX9_wholeTerm 0 = .ok (.aload_n 0, 1) := by decide +kernel
theorem dX9_wholeTerm_1 : decode cX9_wholeTerm 1 = .ok (.getfield 160, 3) := by decide +kernel
theorem dX9_wholeTerm_4 : decode cX9_wholeTerm 4 = .ok (.ifCond .le 38, 3) := by decide +kernel
theorem dX9_wholeTerm_7 : decode cX9_wholeTerm 7 = .ok (.aload_n 0, 1) := by decide +kernel
theorem dX9_wholeTerm_8 : decode cX9_wholeTerm 8 = .ok (.getfield 56, 3) := by decide +kernel
theorem dX9_wholeTerm_11 : decode cX9_wholeTerm 11 = .ok (.aload_n 0, 1) := by decide +kernel
theorem dX9_wholeTerm_12 : decode cX9_wholeTerm 12 = .ok (.getfield 160, 3) := by decide +kernel
theorem dX9_wholeTerm_15 : decode cX9_wholeTerm 15 = .ok (.iconst 1, 1) := by decide +kernel
theorem dX9_wholeTerm_16 : decode cX9_wholeTerm 16 = .ok (.isub, 1) := by decide +kernel
theorem dX9_wholeTerm_17 : decode cX9_wholeTerm 17 = .ok (.iaload, 1) := by decide +kernel
theorem dX9_wholeTerm_18 : decode cX9_wholeTerm 18 = .ok (.bipush 33, 2) := by decide +kernel
theorem dX9_wholeTerm_20 : decode cX9_wholeTerm 20 = .ok (.if_icmp .ne 22, 3) := by decide +kernel
theorem dX9_wholeTerm_23 : decode cX9_wholeTerm 23 = .ok (.aload_n 0, 1) := by decide +kernel
theorem dX9_wholeTerm_24 : decode cX9_wholeTerm 24 = .ok (.dup, 1) := by decide +kernel
theorem dX9_wholeTerm_25 : decode cX9_wholeTerm 25 = .ok (.getfield 160, 3) := by decide +kernel
theorem dX9_wholeTerm_28 : decode cX9_wholeTerm 28 = .ok (.iconst 1, 1) := by decide +kernel
theorem dX9_wholeTerm_29 : decode cX9_wholeTerm 29 = .ok (.isub, 1) := by decide +kernel
theorem dX9_wholeTerm_30 : decode cX9_wholeTerm 30 = .ok (.putfield 160, 3) := by decide +kernel
theorem dX9_wholeTerm_33 : decode cX9_wholeTerm 33 = .ok (.aload_n 0, 1) := by decide +kernel
theorem dX9_wholeTerm_34 : decode cX9_wholeTerm 34 = .ok (.iconst 2, 1) := by decide +kernel
theorem dX9_wholeTerm_35 : decode cX9_wholeTerm 35 = .ok (.iconst 0, 1) := by decide +kernel
theorem dX9_wholeTerm_36 : decode cX9_wholeTerm 36 = .ok (.invokevirtual 163, 3) := by decide +kernel
theorem dX9_wholeTerm_39 : decode cX9_wholeTerm 39 = .ok (.goto (-39), 3) := by decide +kernel
theorem dX9_wholeTerm_42 : decode cX9_wholeTerm 42 = .ok (.aload_n 0, 1) := by decide +kernel
theorem dX9_wholeTerm_43 : decode cX9_wholeTerm 43 = .ok (.getfield 160, 3) := by decide +kernel
theorem dX9_wholeTerm_46 : decode cX9_wholeTerm 46 = .ok (.ifCond .le 43, 3) := by decide +kernel
theorem dX9_wholeTerm_49 : decode cX9_wholeTerm 49 = .ok (.aload_n 0, 1) := by decide +kernel
theorem dX9_wholeTerm_50 : decode cX9_wholeTerm 50 = .ok (.getfield 56, 3) := by decide +kernel
theorem dX9_wholeTerm_53 : decode cX9_wholeTerm 53 = .ok (.aload_n 0, 1) := by decide +kernel
theorem dX9_wholeTerm_54 : decode cX9_wholeTerm 54 = .ok (.getfield 160, 3) := by decide +kernel
theorem dX9_wholeTerm_57 : decode cX9_wholeTerm 57 = .ok (.iconst 1, 1) := by decide +kernel
theorem dX9_wholeTerm_58 : decode cX9_wholeTerm 58 = .ok (.isub, 1) := by decide +kernel
theorem dX9_wholeTerm_59 : decode cX9_wholeTerm 59 = .ok (.iaload, 1) := by decide +kernel
theorem dX9_wholeTerm_60 : decode cX9_wholeTerm 60 = .ok (.bipush 40, 2) := by decide +kernel
theorem dX9_wholeTerm_62 : decode cX9_wholeTerm 62 = .ok (.if_icmp .eq 27, 3) := by decide +kernel
theorem dX9_wholeTerm_65 : decode cX9_wholeTerm 65 = .ok (.aload_n 0, 1) := by decide +kernel
theorem dX9_wholeTerm_66 : decode cX9_wholeTerm 66 = .ok (.dup, 1) := by decide +kernel
theorem dX9_wholeTerm_67 : decode cX9_wholeTerm 67 = .ok (.getfield 160, 3) := by decide +kernel
theorem dX9_wholeTerm_70 : decode cX9_wholeTerm 70 = .ok (.iconst 1, 1) := by decide +kernel
theorem dX9_wholeTerm_71 : decode cX9_wholeTerm 71 = .ok (.isub, 1) := by decide +kernel
theorem dX9_wholeTerm_72 : decode cX9_wholeTerm 72 = .ok (.putfield 160, 3) := by decide +kernel
theorem dX9_wholeTerm_75 : decode cX9_wholeTerm 75 = .ok (.aload_n 0, 1) := by decide +kernel
theorem dX9_wholeTerm_76 : decode cX9_wholeTerm 76 = .ok (.iconst 3, 1) := by decide +kernel
theorem dX9_wholeTerm_77 : decode cX9_wholeTerm 77 = .ok (.aload_n 0, 1) := by decide +kernel
theorem dX9_wholeTerm_78 : decode cX9_wholeTerm 78 = .ok (.getfield 56, 3) := by decide +kernel
theorem dX9_wholeTerm_81 : decode cX9_wholeTerm 81 = .ok (.aload_n 0, 1) := by decide +kernel
theorem dX9_wholeTerm_82 : decode cX9_wholeTerm 82 = .ok (.getfield 160, 3) := by decide +kernel
theorem dX9_wholeTerm_85 : decode cX9_wholeTerm 85 = .ok (.iaload, 1) := by decide +kernel
theorem dX9_wholeTerm_86 : decode cX9_wholeTerm 86 = .ok (.invokevirtual 163, 3) := by decide +kernel
theorem dX9_wholeTerm_89 : decode cX9_wholeTerm 89 = .ok (.return_, 1) := by decide +kernel
theorem bX9_wholeTerm_0 {d : Nat} {Q : Option jA → jH → Prop} (a0 : Nat) (h : jH)
    (s1 : (jS h a0).1 = 9)
    (q1 : ((jI h a0 33) ≤ 0) → ((jI h a0 33) ≤ 0) → Q none h)
    (r1 : ((jI h a0 33) ≤ 0) → (¬ ((jI h a0 33) ≤ 0)) → jR ((jI h a0 33) - 1))
    (s2 : (jS h (jP h a0 32)).1 = 16)
    (s3 : ((jI h a0 33) ≤ 0) → (¬ ((jI h a0 33) ≤ 0)) → 0 ≤ (jI h a0 33) - 1)
    (s4 : ((jI h a0 33) ≤ 0) → (¬ ((jI h a0 33) ≤ 0)) → (jI h a0 33) - 1 < ((jS h (jP h a0 32)).2 : Int))
    (q2 : ((jI h a0 33) ≤ 0) → (¬ ((jI h a0 33) ≤ 0)) → ((jX h (jP h a0 32) (((jI h a0 33) - 1).toNat)) = 40) → Q none h)
    (r2 : ((jI h a0 33) ≤ 0) → (¬ ((jI h a0 33) ≤ 0)) → (¬ ((jX h (jP h a0 32) (((jI h a0 33) - 1).toNat)) = 40)) → jR ((jI h a0 33) - 1))
    (e1 : ((jI h a0 33) ≤ 0) → (¬ ((jI h a0 33) ≤ 0)) → (¬ ((jX h (jP h a0 32) (((jI h a0 33) - 1).toNat)) = 40)) → Ex MX9_emits d [.inr a0, .inl 3, .inl (jX h (jP h a0 32) (((jI h a0 33) - 1).toNat))] (jsI h a0 33 ((jI h a0 33) - 1)) 0 0 (fun v h2 => V MX9_wholeTerm (d + 1) 89 [some (.inr a0)] (v.toList ++ []) h2 0 0 Q))
    (r3 : (¬ ((jI h a0 33) ≤ 0)) → jR ((jI h a0 33) - 1))
    (s5 : (¬ ((jI h a0 33) ≤ 0)) → 0 ≤ (jI h a0 33) - 1)
    (s6 : (¬ ((jI h a0 33) ≤ 0)) → (jI h a0 33) - 1 < ((jS h (jP h a0 32)).2 : Int))
    (q3 : (¬ ((jI h a0 33) ≤ 0)) → ((jX h (jP h a0 32) (((jI h a0 33) - 1).toNat)) ≠ 33) → ((jI h a0 33) ≤ 0) → Q none h)
    (r4 : (¬ ((jI h a0 33) ≤ 0)) → ((jX h (jP h a0 32) (((jI h a0 33) - 1).toNat)) ≠ 33) → (¬ ((jI h a0 33) ≤ 0)) → jR ((jI h a0 33) - 1))
    (q4 : (¬ ((jI h a0 33) ≤ 0)) → ((jX h (jP h a0 32) (((jI h a0 33) - 1).toNat)) ≠ 33) → (¬ ((jI h a0 33) ≤ 0)) → ((jX h (jP h a0 32) (((jI h a0 33) - 1).toNat)) = 40) → Q none h)
    (r5 : (¬ ((jI h a0 33) ≤ 0)) → ((jX h (jP h a0 32) (((jI h a0 33) - 1).toNat)) ≠ 33) → (¬ ((jI h a0 33) ≤ 0)) → (¬ ((jX h (jP h a0 32) (((jI h a0 33) - 1).toNat)) = 40)) → jR ((jI h a0 33) - 1))
    (e2 : (¬ ((jI h a0 33) ≤ 0)) → ((jX h (jP h a0 32) (((jI h a0 33) - 1).toNat)) ≠ 33) → (¬ ((jI h a0 33) ≤ 0)) → (¬ ((jX h (jP h a0 32) (((jI h a0 33) - 1).toNat)) = 40)) → Ex MX9_emits d [.inr a0, .inl 3, .inl (jX h (jP h a0 32) (((jI h a0 33) - 1).toNat))] (jsI h a0 33 ((jI h a0 33) - 1)) 0 0 (fun v h2 => V MX9_wholeTerm (d + 1) 89 [some (.inr a0)] (v.toList ++ []) h2 0 0 Q))
    (r6 : (¬ ((jI h a0 33) ≤ 0)) → ((jX h (jP h a0 32) (((jI h a0 33) - 1).toNat)) = 33) → jR ((jI h a0 33) - 1))
    (e3 : (¬ ((jI h a0 33) ≤ 0)) → ((jX h (jP h a0 32) (((jI h a0 33) - 1).toNat)) = 33) → Ex MX9_emits d [.inr a0, .inl 2, .inl 0] (jsI h a0 33 ((jI h a0 33) - 1)) 0 0 (fun v h2 => V MX9_wholeTerm (d + 1) 39 [some (.inr a0)] (v.toList ++ []) h2 0 0 Q)) :
    V MX9_wholeTerm (d + 1) 0 [some (.inr a0)] [] h 0 0 Q := by
  refine V_aload_n (i := 0) dX9_wholeTerm_0 rfl rfl ?_
  refine V_getI dX9_wholeTerm_1 fX9_160 rfl s1 ?_
  refine V_if_le (tgt := 42) dX9_wholeTerm_4 (by decide) (fun c1 => ?_) (fun c1 => ?_)
  · refine V_aload_n (i := 0) dX9_wholeTerm_42 rfl rfl ?_
    refine V_getI dX9_wholeTerm_43 fX9_160 rfl s1 ?_
    refine V_if_le (tgt := 89) dX9_wholeTerm_46 (by decide) (fun c2 => ?_) (fun c2 => ?_)
    · exact V_ret (v := none) rfl rfl dX9_wholeTerm_89 trivial rfl (q1 c1 c2)
    · refine V_aload_n (i := 0) dX9_wholeTerm_49 rfl rfl ?_
      refine V_getP dX9_wholeTerm_50 fX9_56 rfl s1 ?_
      refine V_aload_n (i := 0) dX9_wholeTerm_53 rfl rfl ?_
      refine V_getI dX9_wholeTerm_54 fX9_160 rfl s1 ?_
      refine V_iconst dX9_wholeTerm_57 ⟨by decide, by decide⟩ ?_
      refine V_isub dX9_wholeTerm_58 (r1 c1 c2) ?_
      refine V_iald dX9_wholeTerm_59 s2 (s3 c1 c2) (s4 c1 c2) ?_
      refine V_bipush dX9_wholeTerm_60 (by decide +kernel) ⟨by decide, by decide⟩ ?_
      refine V_icmp_eq (tgt := 89) dX9_wholeTerm_62 (by decide) (fun c3 => ?_) (fun c3 => ?_)
      · exact V_ret (v := none) rfl rfl dX9_wholeTerm_89 trivial rfl (q2 c1 c2 c3)
      · refine V_aload_n (i := 0) dX9_wholeTerm_65 rfl rfl ?_
        refine V_dup dX9_wholeTerm_66 ?_
        refine V_getI dX9_wholeTerm_67 fX9_160 rfl s1 ?_
        refine V_iconst dX9_wholeTerm_70 ⟨by decide, by decide⟩ ?_
        refine V_isub dX9_wholeTerm_71 (r2 c1 c2 c3) ?_
        refine V_putI (ci := 9) (kf := 33) dX9_wholeTerm_72 fX9_160 rfl rfl s1 ?_
        refine V_aload_n (i := 0) dX9_wholeTerm_75 rfl rfl ?_
        refine V_iconst dX9_wholeTerm_76 ⟨by decide, by decide⟩ ?_
        refine V_aload_n (i := 0) dX9_wholeTerm_77 rfl rfl ?_
        refine V_getP dX9_wholeTerm_78 fX9_56 rfl s1 ?_
        refine V_aload_n (i := 0) dX9_wholeTerm_81 rfl rfl ?_
        refine V_getI dX9_wholeTerm_82 fX9_160 rfl s1 ?_
        refine V_topI (jI_at) ?_
        refine V_iald dX9_wholeTerm_85 s2 (s3 c1 c2) (s4 c1 c2) ?_
        exact V_callV (M := MX9_wholeTerm) (d := (d + 1)) (mc' := 0) (ms' := 0) (mc := 0) (ms := 0) (As := [.inl 3, .inl (jX h (jP h a0 32) (((jI h a0 33) - 1).toNat))]) (rest := []) dX9_wholeTerm_86 tX9_emits vX9_emits lX9_163 s1 ⟨by decide, rfl⟩ rfl rfl (Nat.le_of_ble_eq_true rfl) (show d + 1 ≤ (d + 1) by omega) (e1 c1 c2 c3)
  · refine V_aload_n (i := 0) dX9_wholeTerm_7 rfl rfl ?_
    refine V_getP dX9_wholeTerm_8 fX9_56 rfl s1 ?_
    refine V_aload_n (i := 0) dX9_wholeTerm_11 rfl rfl ?_
    refine V_getI dX9_wholeTerm_12 fX9_160 rfl s1 ?_
    refine V_iconst dX9_wholeTerm_15 ⟨by decide, by decide⟩ ?_
    refine V_isub dX9_wholeTerm_16 (r3 c1) ?_
    refine V_iald dX9_wholeTerm_17 s2 (s5 c1) (s6 c1) ?_
    refine V_bipush dX9_wholeTerm_18 (by decide +kernel) ⟨by decide, by decide⟩ ?_
    refine V_icmp_ne (tgt := 42) dX9_wholeTerm_20 (by decide) (fun c4 => ?_) (fun c4 => ?_)
    · refine V_aload_n (i := 0) dX9_wholeTerm_42 rfl rfl ?_
      refine V_getI dX9_wholeTerm_43 fX9_160 rfl s1 ?_
      refine V_if_le (tgt := 89) dX9_wholeTerm_46 (by decide) (fun c5 => ?_) (fun c5 => ?_)
      · exact V_ret (v := none) rfl rfl dX9_wholeTerm_89 trivial rfl (q3 c1 c4 c5)
      · refine V_aload_n (i := 0) dX9_wholeTerm_49 rfl rfl ?_
        refine V_getP dX9_wholeTerm_50 fX9_56 rfl s1 ?_
        refine V_aload_n (i := 0) dX9_wholeTerm_53 rfl rfl ?_
        refine V_getI dX9_wholeTerm_54 fX9_160 rfl s1 ?_
        refine V_iconst dX9_wholeTerm_57 ⟨by decide, by decide⟩ ?_
        refine V_isub dX9_wholeTerm_58 (r4 c1 c4 c5) ?_
        refine V_iald dX9_wholeTerm_59 s2 (s5 c1) (s6 c1) ?_
        refine V_bipush dX9_wholeTerm_60 (by decide +kernel) ⟨by decide, by decide⟩ ?_
        refine V_icmp_eq (tgt := 89) dX9_wholeTerm_62 (by decide) (fun c6 => ?_) (fun c6 => ?_)
        · exact V_ret (v := none) rfl rfl dX9_wholeTerm_89 trivial rfl (q4 c1 c4 c5 c6)
        · refine V_aload_n (i := 0) dX9_wholeTerm_65 rfl rfl ?_
          refine V_dup dX9_wholeTerm_66 ?_
          refine V_getI dX9_wholeTerm_67 fX9_160 rfl s1 ?_
          refine V_iconst dX9_wholeTerm_70 ⟨by decide, by decide⟩ ?_
          refine V_isub dX9_wholeTerm_71 (r5 c1 c4 c5 c6) ?_
          refine V_putI (ci := 9) (kf := 33) dX9_wholeTerm_72 fX9_160 rfl rfl s1 ?_
          refine V_aload_n (i := 0) dX9_wholeTerm_75 rfl rfl ?_
          refine V_iconst dX9_wholeTerm_76 ⟨by decide, by decide⟩ ?_
          refine V_aload_n (i := 0) dX9_wholeTerm_77 rfl rfl ?_
          refine V_getP dX9_wholeTerm_78 fX9_56 rfl s1 ?_
          refine V_aload_n (i := 0) dX9_wholeTerm_81 rfl rfl ?_
          refine V_getI dX9_wholeTerm_82 fX9_160 rfl s1 ?_
          refine V_topI (jI_at) ?_
          refine V_iald dX9_wholeTerm_85 s2 (s5 c1) (s6 c1) ?_
          exact V_callV (M := MX9_wholeTerm) (d := (d + 1)) (mc' := 0) (ms' := 0) (mc := 0) (ms := 0) (As := [.inl 3, .inl (jX h (jP h a0 32) (((jI h a0 33) - 1).toNat))]) (rest := []) dX9_wholeTerm_86 tX9_emits vX9_emits lX9_163 s1 ⟨by decide, rfl⟩ rfl rfl (Nat.le_of_ble_eq_true rfl) (show d + 1 ≤ (d + 1) by omega) (e2 c1 c4 c5 c6)
    · refine V_aload_n (i := 0) dX9_wholeTerm_23 rfl rfl ?_
      refine V_dup dX9_wholeTerm_24 ?_
      refine V_getI dX9_wholeTerm_25 fX9_160 rfl s1 ?_
      refine V_iconst dX9_wholeTerm_28 ⟨by decide, by decide⟩ ?_
      refine V_isub dX9_wholeTerm_29 (r6 c1 c4) ?_
      refine V_putI (ci := 9) (kf := 33) dX9_wholeTerm_30 fX9_160 rfl rfl s1 ?_
      refine V_aload_n (i := 0) dX9_wholeTerm_33 rfl rfl ?_
      refine V_iconst dX9_wholeTerm_34 ⟨by decide, by decide⟩ ?_
      refine V_iconst dX9_wholeTerm_35 ⟨by decide, by decide⟩ ?_
      exact V_callV (M := MX9_wholeTerm) (d := (d + 1)) (mc' := 0) (ms' := 0) (mc := 0) (ms := 0) (As := [.inl 2, .inl 0]) (rest := []) dX9_wholeTerm_36 tX9_emits vX9_emits lX9_163 s1 ⟨by decide, rfl⟩ rfl rfl (Nat.le_of_ble_eq_true rfl) (show d + 1 ≤ (d + 1) by omega) (e3 c1 c4)
theorem bX9_wholeTerm_89 {d : Nat} {Q : Option jA → jH → Prop} (a0 : Nat) (h : jH)
    (q1 : Q none h) :
    V MX9_wholeTerm (d + 1) 89 [some (.inr a0)] [] h 0 0 Q := by
  exact V_ret (v := none) rfl rfl dX9_wholeTerm_89 trivial rfl q1
theorem bX9_wholeTerm_39 {d : Nat} {Q : Option jA → jH → Prop} (a0 : Nat) (h : jH)
    (k1 : V MX9_wholeTerm (d + 1) 0 [some (.inr a0)] [] h 0 0 Q) :
    V MX9_wholeTerm (d + 1) 39 [some (.inr a0)] [] h 0 0 Q := by
  refine V_goto (tgt := 0) dX9_wholeTerm_39 (by decide) ?_
  exact k1
theorem dX9_beginsTerm_0 : decode cX9_beginsTerm 0 = .ok (.aload_n 0, 1) := by decide +kernel
theorem dX9_beginsTerm_1 : decode cX9_beginsTerm 1 = .ok (.getfield 122, 3) := by decide +kernel
theorem dX9_beginsTerm_4 : decode cX9_beginsTerm 4 = .ok (.bipush (-9), 2) := by decide +kernel
theorem dX9_beginsTerm_6 : decode cX9_beginsTerm 6 = .ok (.if_icmp .ne 73, 3) := by decide +kernel
theorem dX9_beginsTerm_9 : decode cX9_beginsTerm 9 = .ok (.aload_n 0, 1) := by decide +kernel
theorem dX9_beginsTerm_10 : decode cX9_beginsTerm 10 = .ok (.bipush 33, 2) := by decide +kernel
theorem dX9_beginsTerm_12 : decode cX9_beginsTerm 12 = .ok (.invokevirtual 154, 3) := by decide +kernel
theorem dX9_beginsTerm_15 : decode cX9_beginsTerm 15 = .ok (.ifCond .ne 12, 3) := by decide +kernel
theorem dX9_beginsTerm_18 : decode cX9_beginsTerm 18 = .ok (.aload_n 0, 1) := by decide +kernel
theorem dX9_beginsTerm_19 : decode cX9_beginsTerm 19 = .ok (.bipush 40, 2) := by decide +kernel
theorem dX9_beginsTerm_21 : decode cX9_beginsTerm 21 = .ok (.invokevirtual 154, 3) := by decide +kernel
theorem dX9_beginsTerm_24 : decode cX9_beginsTerm 24 = .ok (.ifCond .eq 55, 3) := by decide +kernel
theorem dX9_beginsTerm_27 : decode cX9_beginsTerm 27 = .ok (.aload_n 0, 1) := by decide +kernel
theorem dX9_beginsTerm_28 : decode cX9_beginsTerm 28 = .ok (.aload_n 0, 1) := by decide +kernel
theorem dX9_beginsTerm_29 : decode cX9_beginsTerm 29 = .ok (.getfield 167, 3) := by decide +kernel
theorem dX9_beginsTerm_32 : decode cX9_beginsTerm 32 = .ok (.bipush 6, 2) := by decide +kernel
theorem dX9_beginsTerm_34 : decode cX9_beginsTerm 34 = .ok (.if_icmp .ge 7, 3) := by decide +kernel
theorem dX9_beginsTerm_37 : decode cX9_beginsTerm 37 = .ok (.iconst 1, 1) := by decide +kernel
theorem dX9_beginsTerm_38 : decode cX9_beginsTerm 38 = .ok (.goto 4, 3) := by decide +kernel
theorem dX9_beginsTerm_41 : decode cX9_beginsTerm 41 = .ok (.iconst 0, 1) := by decide +kernel
theorem dX9_beginsTerm_42 : decode cX9_beginsTerm 42 = .ok (.invokevirtual 125, 3) := by decide +kernel
theorem dX9_beginsTerm_45 : decode cX9_beginsTerm 45 = .ok (.aload_n 0, 1) := by decide +kernel
theorem dX9_beginsTerm_46 : decode cX9_beginsTerm 46 = .ok (.getfield 122, 3) := by decide +kernel
theorem dX9_beginsTerm_49 : decode cX9_beginsTerm 49 = .ok (.bipush (-9), 2) := by decide +kernel
theorem dX9_beginsTerm_51 : decode cX9_beginsTerm 51 = .ok (.if_icmp .ne (-51), 3) := by decide +kernel
theorem dX9_beginsTerm_54 : decode cX9_beginsTerm 54 = .ok (.aload_n 0, 1) := by decide +kernel
theorem dX9_beginsTerm_55 : decode cX9_beginsTerm 55 = .ok (.dup, 1) := by decide +kernel
theorem dX9_beginsTerm_56 : decode cX9_beginsTerm 56 = .ok (.getfield 167, 3) := by decide +kernel
theorem dX9_beginsTerm_59 : decode cX9_beginsTerm 59 = .ok (.iconst 1, 1) := by decide +kernel
theorem dX9_beginsTerm_60 : decode cX9_beginsTerm 60 = .ok (.iadd, 1) := by decide +kernel
theorem dX9_beginsTerm_61 : decode cX9_beginsTerm 61 = .ok (.putfield 167, 3) := by decide +kernel
theorem dX9_beginsTerm_64 : decode cX9_beginsTerm 64 = .ok (.aload_n 0, 1) := by decide +kernel
theorem dX9_beginsTerm_65 : decode cX9_beginsTerm 65 = .ok (.aload_n 0, 1) := by decide +kernel
theorem dX9_beginsTerm_66 : decode cX9_beginsTerm 66 = .ok (.getfield 116, 3) := by decide +kernel
theorem dX9_beginsTerm_69 : decode cX9_beginsTerm 69 = .ok (.invokevirtual 170, 3) := by decide +kernel
theorem dX9_beginsTerm_72 : decode cX9_beginsTerm 72 = .ok (.aload_n 0, 1) := by decide +kernel
theorem dX9_beginsTerm_73 : decode cX9_beginsTerm 73 = .ok (.invokevirtual 129, 3) := by decide +kernel
theorem dX9_beginsTerm_76 : decode cX9_beginsTerm 76 = .ok (.goto (-76), 3) := by decide +kernel
theorem dX9_beginsTerm_79 : decode cX9_beginsTerm 79 = .ok (.aload_n 0, 1) := by decide +kernel
theorem dX9_beginsTerm_80 : decode cX9_beginsTerm 80 = .ok (.aload_n 0, 1) := by decide +kernel
theorem dX9_beginsTerm_81 : decode cX9_beginsTerm 81 = .ok (.getfield 109, 3) := by decide +kernel
theorem dX9_beginsTerm_84 : decode cX9_beginsTerm 84 = .ok (.iconst 2, 1) := by decide +kernel
theorem dX9_beginsTerm_85 : decode cX9_beginsTerm 85 = .ok (.if_icmp .eq 11, 3) := by decide +kernel
theorem dX9_beginsTerm_88 : decode cX9_beginsTerm 88 = .ok (.aload_n 0, 1) := by decide +kernel
theorem dX9_beginsTerm_89 : decode cX9_beginsTerm 89 = .ok (.getfield 109, 3) := by decide +kernel
theorem dX9_beginsTerm_92 : decode cX9_beginsTerm 92 = .ok (.iconst 1, 1) := by decide +kernel
theorem dX9_beginsTerm_93 : decode cX9_beginsTerm 93 = .ok (.if_icmp .ne 16, 3) := by decide +kernel
theorem dX9_beginsTerm_96 : decode cX9_beginsTerm 96 = .ok (.aload_n 0, 1) := by decide +kernel
theorem dX9_beginsTerm_97 : decode cX9_beginsTerm 97 = .ok (.getfield 174, 3) := by decide +kernel
theorem dX9_beginsTerm_100 : decode cX9_beginsTerm 100 = .ok (.bipush 6, 2) := by decide +kernel
theorem dX9_beginsTerm_102 : decode cX9_beginsTerm 102 = .ok (.if_icmp .ge 7, 3) := by decide +kernel
theorem dX9_beginsTerm_105 : decode cX9_beginsTerm 105 = .ok (.iconst 1, 1) := by decide +kernel
theorem dX9_beginsTerm_106 : decode cX9_beginsTerm 106 = .ok (.goto 4, 3) := by decide +kernel
theorem dX9_beginsTerm_109 : decode cX9_beginsTerm 109 = .ok (.iconst 0, 1) := by decide +kernel
theorem dX9_beginsTerm_110 : decode cX9_beginsTerm 110 = .ok (.invokevirtual 125, 3) := by decide +kernel
theorem dX9_beginsTerm_113 : decode cX9_beginsTerm 113 = .ok (.aload_n 0, 1) := by decide +kernel
theorem dX9_beginsTerm_114 : decode cX9_beginsTerm 114 = .ok (.getfield 122, 3) := by decide +kernel
theorem dX9_beginsTerm_117 : decode cX9_beginsTerm 117 = .ok (.bipush (-9), 2) := by decide +kernel
theorem dX9_beginsTerm_119 : decode cX9_beginsTerm 119 = .ok (.if_icmp .eq 4, 3) := by decide +kernel
theorem dX9_beginsTerm_122 : decode cX9_beginsTerm 122 = .ok (.return_, 1) := by decide +kernel
theorem dX9_beginsTerm_123 : decode cX9_beginsTerm 123 = .ok (.aload_n 0, 1) := by decide +kernel
theorem dX9_beginsTerm_124 : decode cX9_beginsTerm 124 = .ok (.dup, 1) := by decide +kernel
theorem dX9_beginsTerm_125 : decode cX9_beginsTerm 125 = .ok (.getfield 174, 3) := by decide +kernel
theorem dX9_beginsTerm_128 : decode cX9_beginsTerm 128 = .ok (.iconst 1, 1) := by decide +kernel
theorem dX9_beginsTerm_129 : decode cX9_beginsTerm 129 = .ok (.iadd, 1) := by decide +kernel
theorem dX9_beginsTerm_130 : decode cX9_beginsTerm 130 = .ok (.putfield 174, 3) := by decide +kernel
theorem dX9_beginsTerm_133 : decode cX9_beginsTerm 133 = .ok (.aload_n 0, 1) := by decide +kernel
theorem dX9_beginsTerm_134 : decode cX9_beginsTerm 134 = .ok (.getfield 109, 3) := by decide +kernel
theorem dX9_beginsTerm_137 : decode cX9_beginsTerm 137 = .ok (.iconst 2, 1) := by decide +kernel
theorem dX9_beginsTerm_138 : decode cX9_beginsTerm 138 = .ok (.if_icmp .ne 19, 3) := by decide +kernel
theorem dX9_beginsTerm_141 : decode cX9_beginsTerm 141 = .ok (.aload_n 0, 1) := by decide +kernel
theorem dX9_beginsTerm_142 : decode cX9_beginsTerm 142 = .ok (.iconst 0, 1) := by decide +kernel
theorem dX9_beginsTerm_143 : decode cX9_beginsTerm 143 = .ok (.aload_n 0, 1) := by decide +kernel
theorem dX9_beginsTerm_144 : decode cX9_beginsTerm 144 = .ok (.getfield 116, 3) := by decide +kernel
theorem dX9_beginsTerm_147 : decode cX9_beginsTerm 147 = .ok (.invokevirtual 163, 3) := by decide +kernel
theorem dX9_beginsTerm_150 : decode cX9_beginsTerm 150 = .ok (.aload_n 0, 1) := by decide +kernel
theorem dX9_beginsTerm_151 : decode cX9_beginsTerm 151 = .ok (.invokevirtual 129, 3) := by decide +kernel
theorem dX9_beginsTerm_154 : decode cX9_beginsTerm 154 = .ok (.goto 23, 3) := by decide +kernel
theorem dX9_beginsTerm_157 : decode cX9_beginsTerm 157 = .ok (.aload_n 0, 1) := by decide +kernel
theorem dX9_beginsTerm_158 : decode cX9_beginsTerm 158 = .ok (.invokevirtual 177, 3) := by decide +kernel
theorem dX9_beginsTerm_161 : decode cX9_beginsTerm 161 = .ok (.istore_n 1, 1) := by decide +kernel
theorem dX9_beginsTerm_162 : decode cX9_beginsTerm 162 = .ok (.aload_n 0, 1) := by decide +kernel
theorem dX9_beginsTerm_163 : decode cX9_beginsTerm 163 = .ok (.getfield 122, 3) := by decide +kernel
theorem dX9_beginsTerm_166 : decode cX9_beginsTerm 166 = .ok (.bipush (-9), 2) := by decide +kernel
theorem dX9_beginsTerm_168 : decode cX9_beginsTerm 168 = .ok (.if_icmp .ne 9, 3) := by decide +kernel
theorem dX9_beginsTerm_171 : decode cX9_beginsTerm 171 = .ok (.aload_n 0, 1) := by decide +kernel
theorem dX9_beginsTerm_172 : decode cX9_beginsTerm 172 = .ok (.iconst 1, 1) := by decide +kernel
theorem dX9_beginsTerm_173 : decode cX9_beginsTerm 173 = .ok (.iload_n 1, 1) := by decide +kernel
theorem dX9_beginsTerm_174 : decode cX9_beginsTerm 174 = .ok (.invokevirtual 163, 3) := by decide +kernel
theorem dX9_beginsTerm_177 : decode cX9_beginsTerm 177 = .ok (.return_, 1) := by decide +kernel
theorem bX9_beginsTerm_0 {d : Nat} {Q : Option jA → jH → Prop} (a0 : Nat) (u1 : Option jA) (h : jH)
    (s1 : (jS h a0).1 = 9)
    (k1 : ((jI h a0 20) ≠ ((-9))) → V MX9_beginsTerm (d + 5) 79 [some (.inr a0), u1] [] h 0 0 Q)
    (k2 : ((jI h a0 20) = ((-9))) → ((jI h a0 18) = 3 ∧ (jI h a0 19) = 33) → V MX9_beginsTerm (d + 5) 27 [some (.inr a0), u1] [] h 0 0 Q)
    (k3 : ((jI h a0 20) = ((-9))) → (¬ ((jI h a0 18) = 3 ∧ (jI h a0 19) = 33)) → (¬ ((jI h a0 18) = 3 ∧ (jI h a0 19) = 40)) → V MX9_beginsTerm (d + 5) 79 [some (.inr a0), u1] [] h 0 0 Q)
    (k4 : ((jI h a0 20) = ((-9))) → (¬ ((jI h a0 18) = 3 ∧ (jI h a0 19) = 33)) → ((jI h a0 18) = 3 ∧ (jI h a0 19) = 40) → V MX9_beginsTerm (d + 5) 27 [some (.inr a0), u1] [] h 0 0 Q) :
    V MX9_beginsTerm (d + 5) 0 [some (.inr a0), u1] [] h 0 0 Q := by
  refine V_aload_n (i := 0) dX9_beginsTerm_0 rfl rfl ?_
  refine V_getI dX9_beginsTerm_1 fX9_122 rfl s1 ?_
  refine V_bipush dX9_beginsTerm_4 (by decide +kernel) ⟨by decide, by decide⟩ ?_
  refine V_icmp_ne (tgt := 79) dX9_beginsTerm_6 (by decide) (fun c1 => ?_) (fun c1 => ?_)
  · exact (k1 c1)
  · refine V_aload_n (i := 0) dX9_beginsTerm_9 rfl rfl ?_
    refine V_bipush dX9_beginsTerm_10 (by decide +kernel) ⟨by decide, by decide⟩ ?_
    refine V_callV (M := MX9_beginsTerm) (d := (d + 5)) (mc' := 0) (ms' := 0) (mc := 0) (ms := 0) (As := [.inl 33]) (rest := []) dX9_beginsTerm_12 tX9_is vX9_is lX9_154 s1 ⟨by decide, rfl⟩ rfl rfl (Nat.le_of_ble_eq_true rfl) (show d + 1 ≤ (d + 5) by omega) (Ex.mono (pX9_is (d := d) s1) ?_)
    intro v h2 hq
    rw [hq.1, hq.2]
    show V MX9_beginsTerm (d + 5) 15 [some (.inr a0), u1] [.inl (jb ((jI h a0 18) = 3 ∧ (jI h a0 19) = 33))] h 0 0 Q
    refine V_ifb_ne (tgt := 27) dX9_beginsTerm_15 (by decide) (fun c2 => ?_) (fun c2 => ?_)
    · exact (k2 c1 c2)
    · refine V_aload_n (i := 0) dX9_beginsTerm_18 rfl rfl ?_
      refine V_bipush dX9_beginsTerm_19 (by decide +kernel) ⟨by decide, by decide⟩ ?_
      refine V_callV (M := MX9_beginsTerm) (d := (d + 5)) (mc' := 0) (ms' := 0) (mc := 0) (ms := 0) (As := [.inl 40]) (rest := []) dX9_beginsTerm_21 tX9_is vX9_is lX9_154 s1 ⟨by decide, rfl⟩ rfl rfl (Nat.le_of_ble_eq_true rfl) (show d + 1 ≤ (d + 5) by omega) (Ex.mono (pX9_is (d := d) s1) ?_)
      intro v h2 hq
      rw [hq.1, hq.2]
      show V MX9_beginsTerm (d + 5) 24 [some (.inr a0), u1] [.inl (jb ((jI h a0 18) = 3 ∧ (jI h a0 19) = 40))] h 0 0 Q
      refine V_ifb_eq (tgt := 79) dX9_beginsTerm_24 (by decide) (fun c3 => ?_) (fun c3 => ?_)
      · exact (k3 c1 c2 c3)
      · exact (k4 c1 c2 c3)
theorem bX9_beginsTerm_27 {d : Nat} {Q : Option jA → jH → Prop} (a0 : Nat) (u1 : Option jA) (h : jH)
    (s1 : (jS h a0).1 = 9)
    (k1 : (6 ≤ (jI h a0 35)) → V MX9_beginsTerm (d + 5) 42 [some (.inr a0), u1] [.inl 0, .inr a0] h 0 0 Q)
    (k2 : (¬ (6 ≤ (jI h a0 35))) → V MX9_beginsTerm (d + 5) 42 [some (.inr a0), u1] [.inl 1, .inr a0] h 0 0 Q) :
    V MX9_beginsTerm (d + 5) 27 [some (.inr a0), u1] [] h 0 0 Q := by
  refine V_aload_n (i := 0) dX9_beginsTerm_27 rfl rfl ?_
  refine V_aload_n (i := 0) dX9_beginsTerm_28 rfl rfl ?_
  refine V_getI dX9_beginsTerm_29 fX9_167 rfl s1 ?_
  refine V_bipush dX9_beginsTerm_32 (by decide +kernel) ⟨by decide, by decide⟩ ?_
  refine V_icmp_ge (tgt := 41) dX9_beginsTerm_34 (by decide) (fun c1 => ?_) (fun c1 => ?_)
  · refine V_iconst dX9_beginsTerm_41 ⟨by decide, by decide⟩ ?_
    exact (k1 c1)
  · refine V_iconst dX9_beginsTerm_37 ⟨by decide, by decide⟩ ?_
    refine V_goto (tgt := 42) dX9_beginsTerm_38 (by decide) ?_
    exact (k2 c1)
theorem bX9_beginsTerm_42 {d : Nat} {Q : Option jA → jH → Prop} (a0 : Nat) (u1 : Option jA) (p0 : Int) (q1 : Nat) (h : jH)
    (e1 : Ex MX9_due d [.inr q1, .inl p0] h 0 0 (fun v h2 => V MX9_beginsTerm (d + 5) 45 [some (.inr a0), u1] (v.toList ++ []) h2 0 0 Q))
    (s1 : (jS h q1).1 = 9) :
    V MX9_beginsTerm (d + 5) 42 [some (.inr a0), u1] [.inl p0, .inr q1] h 0 0 Q := by
  exact V_callV (M := MX9_beginsTerm) (d := (d + 5)) (mc' := 0) (ms' := 0) (mc := 0) (ms := 0) (As := [.inl p0]) (rest := []) dX9_beginsTerm_42 tX9_due vX9_due lX9_125 s1 ⟨by decide, rfl⟩ rfl rfl (Nat.le_of_ble_eq_true rfl) (show d + 1 ≤ (d + 5) by omega) e1
theorem bX9_beginsTerm_79 {d : Nat} {Q : Option jA → jH → Prop} (a0 : Nat) (u1 : Option jA) (h : jH)
    (s1 : (jS h a0).1 = 9)
    (k1 : ((jI h a0 18) = 2) → V MX9_beginsTerm (d + 5) 96 [some (.inr a0), u1] [.inr a0] h 0 0 Q)
    (k2 : (¬ ((jI h a0 18) = 2)) → ((jI h a0 18) ≠ 1) → V MX9_beginsTerm (d + 5) 109 [some (.inr a0), u1] [.inr a0] h 0 0 Q)
    (k3 : (¬ ((jI h a0 18) = 2)) → ((jI h a0 18) = 1) → V MX9_beginsTerm (d + 5) 96 [some (.inr a0), u1] [.inr a0] h 0 0 Q) :
    V MX9_beginsTerm (d + 5) 79 [some (.inr a0), u1] [] h 0 0 Q := by
  refine V_aload_n (i := 0) dX9_beginsTerm_79 rfl rfl ?_
  refine V_aload_n (i := 0) dX9_beginsTerm_80 rfl rfl ?_
  refine V_getI dX9_beginsTerm_81 fX9_109 rfl s1 ?_
  refine V_iconst dX9_beginsTerm_84 ⟨by decide, by decide⟩ ?_
  refine V_icmp_eq (tgt := 96) dX9_beginsTerm_85 (by decide) (fun c1 => ?_) (fun c1 => ?_)
  · exact (k1 c1)
  · refine V_aload_n (i := 0) dX9_beginsTerm_88 rfl rfl ?_
    refine V_getI dX9_beginsTerm_89 fX9_109 rfl s1 ?_
    refine V_iconst dX9_beginsTerm_92 ⟨by decide, by decide⟩ ?_
    refine V_icmp_ne (tgt := 109) dX9_beginsTerm_93 (by decide) (fun c2 => ?_) (fun c2 => ?_)
    · exact (k2 c1 c2)
    · exact (k3 c1 c2)
theorem bX9_beginsTerm_96 {d : Nat} {Q : Option jA → jH → Prop} (a0 : Nat) (u1 : Option jA) (q0 : Nat) (h : jH)
    (s1 : (jS h a0).1 = 9)
    (k1 : (6 ≤ (jI h a0 34)) → V MX9_beginsTerm (d + 5) 109 [some (.inr a0), u1] [.inr q0] h 0 0 Q)
    (k2 : (¬ (6 ≤ (jI h a0 34))) → V MX9_beginsTerm (d + 5) 110 [some (.inr a0), u1] [.inl 1, .inr q0] h 0 0 Q) :
    V MX9_beginsTerm (d + 5) 96 [some (.inr a0), u1] [.inr q0] h 0 0 Q := by
  refine V_aload_n (i := 0) dX9_beginsTerm_96 rfl rfl ?_
  refine V_getI dX9_beginsTerm_97 fX9_174 rfl s1 ?_
  refine V_bipush dX9_beginsTerm_100 (by decide +kernel) ⟨by decide, by decide⟩ ?_
  refine V_icmp_ge (tgt := 109) dX9_beginsTerm_102 (by decide) (fun c1 => ?_) (fun c1 => ?_)
  · exact (k1 c1)
  · refine V_iconst dX9_beginsTerm_105 ⟨by decide, by decide⟩ ?_
    refine V_goto (tgt := 110) dX9_beginsTerm_106 (by decide) ?_
    exact (k2 c1)
theorem bX9_beginsTerm_109 {d : Nat} {Q : Option jA → jH → Prop} (a0 : Nat) (u1 : Option jA) (q0 : Nat) (h : jH)
    (k1 : V MX9_beginsTerm (d + 5) 110 [some (.inr a0), u1] [.inl 0, .inr q0] h 0 0 Q) :
    V MX9_beginsTerm (d + 5) 109 [some (.inr a0), u1] [.inr q0] h 0 0 Q := by
  refine V_iconst dX9_beginsTerm_109 ⟨by decide, by decide⟩ ?_
  exact k1
theorem bX9_beginsTerm_110 {d : Nat} {Q : Option jA → jH → Prop} (a0 : Nat) (u1 : Option jA) (p0 : Int) (q1 : Nat) (h : jH)
    (e1 : Ex MX9_due d [.inr q1, .inl p0] h 0 0 (fun v h2 => V MX9_beginsTerm (d + 5) 113 [some (.inr a0), u1] (v.toList ++ []) h2 0 0 Q))
    (s1 : (jS h q1).1 = 9) :
    V MX9_beginsTerm (d + 5) 110 [some (.inr a0), u1] [.inl p0, .inr q1] h 0 0 Q := by
  exact V_callV (M := MX9_beginsTerm) (d := (d + 5)) (mc' := 0) (ms' := 0) (mc := 0) (ms := 0) (As := [.inl p0]) (rest := []) dX9_beginsTerm_110 tX9_due vX9_due lX9_125 s1 ⟨by decide, rfl⟩ rfl rfl (Nat.le_of_ble_eq_true rfl) (show d + 1 ≤ (d + 5) by omega) e1
theorem bX9_beginsTerm_177 {d : Nat} {Q : Option jA → jH → Prop} (a0 : Nat) (u1 : Option jA) (h : jH)
    (q1 : Q none h) :
    V MX9_beginsTerm (d + 5) 177 [some (.inr a0), u1] [] h 0 0 Q := by
  exact V_ret (v := none) rfl rfl dX9_beginsTerm_177 trivial rfl q1
theorem bX9_beginsTerm_45 {d : Nat} {Q : Option jA → jH → Prop} (a0 : Nat) (u1 : Option jA) (h : jH)
    (s1 : (jS h a0).1 = 9)
    (k1 : ((jI h a0 20) ≠ ((-9))) → V MX9_beginsTerm (d + 5) 0 [some (.inr a0), u1] [] h 0 0 Q)
    (r1 : ((jI h a0 20) = ((-9))) → jR ((jI h a0 35) + 1))
    (e1 : ((jI h a0 20) = ((-9))) → Ex MX9_waitsFor d [.inr a0, .inl (jI h a0 19)] (jsI h a0 35 ((jI h a0 35) + 1)) 0 0 (fun v h2 => V MX9_beginsTerm (d + 5) 72 [some (.inr a0), u1] (v.toList ++ []) h2 0 0 Q)) :
    V MX9_beginsTerm (d + 5) 45 [some (.inr a0), u1] [] h 0 0 Q := by
  refine V_aload_n (i := 0) dX9_beginsTerm_45 rfl rfl ?_
  refine V_getI dX9_beginsTerm_46 fX9_122 rfl s1 ?_
  refine V_bipush dX9_beginsTerm_49 (by decide +kernel) ⟨by decide, by decide⟩ ?_
  refine V_icmp_ne (tgt := 0) dX9_beginsTerm_51 (by decide) (fun c1 => ?_) (fun c1 => ?_)
  · exact (k1 c1)
  · refine V_aload_n (i := 0) dX9_beginsTerm_54 rfl rfl ?_
    refine V_dup dX9_beginsTerm_55 ?_
    refine V_getI dX9_beginsTerm_56 fX9_167 rfl s1 ?_
    refine V_iconst dX9_beginsTerm_59 ⟨by decide, by decide⟩ ?_
    refine V_iadd dX9_beginsTerm_60 (r1 c1) ?_
    refine V_putI (ci := 9) (kf := 35) dX9_beginsTerm_61 fX9_167 rfl rfl s1 ?_
    refine V_aload_n (i := 0) dX9_beginsTerm_64 rfl rfl ?_
    refine V_aload_n (i := 0) dX9_beginsTerm_65 rfl rfl ?_
    refine V_getI dX9_beginsTerm_66 fX9_116 rfl s1 ?_
    refine V_topI (jI_ne (by decide)) ?_
    exact V_callV (M := MX9_beginsTerm) (d := (d + 5)) (mc' := 0) (ms' := 0) (mc := 0) (ms := 0) (As := [.inl (jI h a0 19)]) (rest := []) dX9_beginsTerm_69 tX9_waitsFor vX9_waitsFor lX9_170 s1 ⟨by decide, rfl⟩ rfl rfl (Nat.le_of_ble_eq_true rfl) (show d + 1 ≤ (d + 5) by omega) (e1 c1)
theorem bX9_beginsTerm_113 {d : Nat} {Q : Option jA → jH → Prop} (a0 : Nat) (u1 : Option jA) (h : jH)
    (s1 : (jS h a0).1 = 9)
    (r1 : ((jI h a0 20) = ((-9))) → jR ((jI h a0 34) + 1))
    (e1 : ((jI h a0 20) = ((-9))) → ((jI h a0 18) ≠ 2) → Ex MX9_readsPath (d + 4) [.inr a0] (jsI h a0 34 ((jI h a0 34) + 1)) 0 0 (fun v h2 => V MX9_beginsTerm (d + 5) 161 [some (.inr a0), u1] (v.toList ++ []) h2 0 0 Q))
    (e2 : ((jI h a0 20) = ((-9))) → ((jI h a0 18) = 2) → Ex MX9_emits d [.inr a0, .inl 0, .inl (jI h a0 19)] (jsI h a0 34 ((jI h a0 34) + 1)) 0 0 (fun v h2 => V MX9_beginsTerm (d + 5) 150 [some (.inr a0), u1] (v.toList ++ []) h2 0 0 Q))
    (q1 : (¬ ((jI h a0 20) = ((-9)))) → Q none h) :
    V MX9_beginsTerm (d + 5) 113 [some (.inr a0), u1] [] h 0 0 Q := by
  refine V_aload_n (i := 0) dX9_beginsTerm_113 rfl rfl ?_
  refine V_getI dX9_beginsTerm_114 fX9_122 rfl s1 ?_
  refine V_bipush dX9_beginsTerm_117 (by decide +kernel) ⟨by decide, by decide⟩ ?_
  refine V_icmp_eq (tgt := 123) dX9_beginsTerm_119 (by decide) (fun c1 => ?_) (fun c1 => ?_)
  · refine V_aload_n (i := 0) dX9_beginsTerm_123 rfl rfl ?_
    refine V_dup dX9_beginsTerm_124 ?_
    refine V_getI dX9_beginsTerm_125 fX9_174 rfl s1 ?_
    refine V_iconst dX9_beginsTerm_128 ⟨by decide, by decide⟩ ?_
    refine V_iadd dX9_beginsTerm_129 (r1 c1) ?_
    refine V_putI (ci := 9) (kf := 34) dX9_beginsTerm_130 fX9_174 rfl rfl s1 ?_
    refine V_aload_n (i := 0) dX9_beginsTerm_133 rfl rfl ?_
    refine V_getI dX9_beginsTerm_134 fX9_109 rfl s1 ?_
    refine V_topI (jI_ne (by decide)) ?_
    refine V_iconst dX9_beginsTerm_137 ⟨by decide, by decide⟩ ?_
    refine V_icmp_ne (tgt := 157) dX9_beginsTerm_138 (by decide) (fun c2 => ?_) (fun c2 => ?_)
    · refine V_aload_n (i := 0) dX9_beginsTerm_157 rfl rfl ?_
      exact V_callV (M := MX9_beginsTerm) (d := (d + 5)) (mc' := 0) (ms' := 0) (mc := 0) (ms := 0) (As := []) (rest := []) dX9_beginsTerm_158 tX9_readsPath vX9_readsPath lX9_177 s1 ⟨by decide, rfl⟩ rfl rfl (Nat.le_of_ble_eq_true rfl) (show (d + 4) + 1 ≤ (d + 5) by omega) (e1 c1 c2)
    · refine V_aload_n (i := 0) dX9_beginsTerm_141 rfl rfl ?_
      refine V_iconst dX9_beginsTerm_142 ⟨by decide, by decide⟩ ?_
      refine V_aload_n (i := 0) dX9_beginsTerm_143 rfl rfl ?_
      refine V_getI dX9_beginsTerm_144 fX9_116 rfl s1 ?_
      refine V_topI (jI_ne (by decide)) ?_
      exact V_callV (M := MX9_beginsTerm) (d := (d + 5)) (mc' := 0) (ms' := 0) (mc := 0) (ms := 0) (As := [.inl 0, .inl (jI h a0 19)]) (rest := []) dX9_beginsTerm_147 tX9_emits vX9_emits lX9_163 s1 ⟨by decide, rfl⟩ rfl rfl (Nat.le_of_ble_eq_true rfl) (show d + 1 ≤ (d + 5) by omega) (e2 c1 c2)
  · exact V_ret (v := none) rfl rfl dX9_beginsTerm_122 trivial rfl (q1 c1)
theorem bX9_beginsTerm_72 {d : Nat} {Q : Option jA → jH → Prop} (a0 : Nat) (u1 : Option jA) (h : jH)
    (e1 : Ex MX9_next (d + 2) [.inr a0] h 0 0 (fun v h2 => V MX9_beginsTerm (d + 5) 76 [some (.inr a0), u1] (v.toList ++ []) h2 0 0 Q))
    (s1 : (jS h a0).1 = 9) :
    V MX9_beginsTerm (d + 5) 72 [some (.inr a0), u1] [] h 0 0 Q := by
  refine V_aload_n (i := 0) dX9_beginsTerm_72 rfl rfl ?_
  exact V_callV (M := MX9_beginsTerm) (d := (d + 5)) (mc' := 0) (ms' := 0) (mc := 0) (ms := 0) (As := []) (rest := []) dX9_beginsTerm_73 tX9_next vX9_next lX9_129 s1 ⟨by decide, rfl⟩ rfl rfl (Nat.le_of_ble_eq_true rfl) (show (d + 2) + 1 ≤ (d + 5) by omega) e1
theorem bX9_beginsTerm_161 {d : Nat} {Q : Option jA → jH → Prop} (a0 : Nat) (u1 : Option jA) (p0 : Int) (h : jH)
    (s1 : (jS h a0).1 = 9)
    (k1 : ((jI h a0 20) ≠ ((-9))) → V MX9_beginsTerm (d + 5) 177 [some (.inr a0), some (.inl p0)] [] h 0 0 Q)
    (e1 : ((jI h a0 20) = ((-9))) → Ex MX9_emits d [.inr a0, .inl 1, .inl p0] h 0 0 (fun v h2 => V MX9_beginsTerm (d + 5) 177 [some (.inr a0), some (.inl p0)] (v.toList ++ []) h2 0 0 Q)) :
    V MX9_beginsTerm (d + 5) 161 [some (.inr a0), u1] [.inl p0] h 0 0 Q := by
  refine V_istore_n (i := 1) dX9_beginsTerm_161 rfl (by decide) ?_
  refine V_aload_n (i := 0) dX9_beginsTerm_162 rfl rfl ?_
  refine V_getI dX9_beginsTerm_163 fX9_122 rfl s1 ?_
  refine V_bipush dX9_beginsTerm_166 (by decide +kernel) ⟨by decide, by decide⟩ ?_
  refine V_icmp_ne (tgt := 177) dX9_beginsTerm_168 (by decide) (fun c1 => ?_) (fun c1 => ?_)
  · exact (k1 c1)
  · refine V_aload_n (i := 0) dX9_beginsTerm_171 rfl rfl ?_
    refine V_iconst dX9_beginsTerm_172 ⟨by decide, by decide⟩ ?_
    refine V_iload_n (i := 1) dX9_beginsTerm_173 rfl rfl ?_
    exact V_callV (M := MX9_beginsTerm) (d := (d + 5)) (mc' := 0) (ms' := 0) (mc := 0) (ms := 0) (As := [.inl 1, .inl p0]) (rest := []) dX9_beginsTerm_174 tX9_emits vX9_emits lX9_163 s1 ⟨by decide, rfl⟩ rfl rfl (Nat.le_of_ble_eq_true rfl) (show d + 1 ≤ (d + 5) by omega) (e1 c1)
theorem bX9_beginsTerm_150 {d : Nat} {Q : Option jA → jH → Prop} (a0 : Nat) (u1 : Option jA) (h : jH)
    (e1 : Ex MX9_next (d + 2) [.inr a0] h 0 0 (fun v h2 => V MX9_beginsTerm (d + 5) 154 [some (.inr a0), u1] (v.toList ++ []) h2 0 0 Q))
    (s1 : (jS h a0).1 = 9) :
    V MX9_beginsTerm (d + 5) 150 [some (.inr a0), u1] [] h 0 0 Q := by
  refine V_aload_n (i := 0) dX9_beginsTerm_150 rfl rfl ?_
  exact V_callV (M := MX9_beginsTerm) (d := (d + 5)) (mc' := 0) (ms' := 0) (mc := 0) (ms := 0) (As := []) (rest := []) dX9_beginsTerm_151 tX9_next vX9_next lX9_129 s1 ⟨by decide, rfl⟩ rfl rfl (Nat.le_of_ble_eq_true rfl) (show (d + 2) + 1 ≤ (d + 5) by omega) e1
theorem bX9_beginsTerm_76 {d : Nat} {Q : Option jA → jH → Prop} (a0 : Nat) (u1 : Option jA) (h : jH)
    (k1 : V MX9_beginsTerm (d + 5) 0 [some (.inr a0), u1] [] h 0 0 Q) :
    V MX9_beginsTerm (d + 5) 76 [some (.inr a0), u1] [] h 0 0 Q := by
  refine V_goto (tgt := 0) dX9_beginsTerm_76 (by decide) ?_
  exact k1
theorem bX9_beginsTerm_154 {d : Nat} {Q : Option jA → jH → Prop} (a0 : Nat) (u1 : Option jA) (h : jH)
    (k1 : V MX9_beginsTerm (d + 5) 177 [some (.inr a0), u1] [] h 0 0 Q) :
    V MX9_beginsTerm (d + 5) 154 [some (.inr a0), u1] [] h 0 0 Q := by
  refine V_goto (tgt := 177) dX9_beginsTerm_154 (by decide) ?_
  exact k1
theorem dX9_readsExpression_0 : decode cX9_readsExpression 0 = .ok (.aload_n 0, 1) := by decide +kernel
theorem dX9_readsExpression_1 : decode cX9_readsExpression 1 = .ok (.iconst 0, 1) := by decide +kernel
theorem dX9_readsExpression_2 : decode cX9_readsExpression 2 = .ok (.putfield 160, 3) := by decide +kernel
theorem dX9_readsExpression_5 : decode cX9_readsExpression 5 = .ok (.aload_n 0, 1) := by decide +kernel
theorem dX9_readsExpression_6 : decode cX9_readsExpression 6 = .ok (.iconst 0, 1) := by decide +kernel
theorem dX9_readsExpression_7 : decode cX9_readsExpression 7 = .ok (.putfield 174, 3) := by decide +kernel
theorem dX9_readsExpression_10 : decode cX9_readsExpression 10 = .ok (.aload_n 0, 1) := by decide +kernel
theorem dX9_readsExpression_11 : decode cX9_readsExpression 11 = .ok (.iconst 0, 1) := by decide +kernel
theorem dX9_readsExpression_12 : decode cX9_readsExpression 12 = .ok (.putfield 167, 3) := by decide +kernel
theorem dX9_readsExpression_15 : decode cX9_readsExpression 15 = .ok (.aload_n 0, 1) := by decide +kernel
theorem dX9_readsExpression_16 : decode cX9_readsExpression 16 = .ok (.getfield 53, 3) := by decide +kernel
theorem dX9_readsExpression_19 : decode cX9_readsExpression 19 = .ok (.aload_n 0, 1) := by decide +kernel
theorem dX9_readsExpression_20 : decode cX9_readsExpression 20 = .ok (.getfield 157, 3) := by decide +kernel
theorem dX9_readsExpression_23 : decode cX9_readsExpression 23 = .ok (.iconst 0, 1) := by decide +kernel
theorem dX9_readsExpression_24 : decode cX9_readsExpression 24 = .ok (.iastore, 1) := by decide +kernel
theorem dX9_readsExpression_25 : decode cX9_readsExpression 25 = .ok (.iconst 1, 1) := by decide +kernel
theorem dX9_readsExpression_26 : decode cX9_readsExpression 26 = .ok (.istore_n 1, 1) := by decide +kernel
theorem dX9_readsExpression_27 : decode cX9_readsExpression 27 = .ok (.aload_n 0, 1) := by decide +kernel
theorem dX9_readsExpression_28 : decode cX9_readsExpression 28 = .ok (.getfield 122, 3) := by decide +kernel
theorem dX9_readsExpression_31 : decode cX9_readsExpression 31 = .ok (.bipush (-9), 2) := by decide +kernel
theorem dX9_readsExpression_33 : decode cX9_readsExpression 33 = .ok (.if_icmp .ne 103, 3) := by decide +kernel
theorem dX9_readsExpression_36 : decode cX9_readsExpression 36 = .ok (.iload_n 1, 1) := by decide +kernel
theorem dX9_readsExpression_37 : decode cX9_readsExpression 37 = .ok (.ifCond .eq 99, 3) := by decide +kernel
theorem dX9_readsExpression_40 : decode cX9_readsExpression 40 = .ok (.aload_n 0, 1) := by decide +kernel
theorem dX9_readsExpression_41 : decode cX9_readsExpression 41 = .ok (.invokevirtual 181, 3) := by decide +kernel
theorem dX9_readsExpression_44 : decode cX9_readsExpression 44 = .ok (.aload_n 0, 1) := by decide +kernel
theorem dX9_readsExpression_45 : decode cX9_readsExpression 45 = .ok (.getfield 122, 3) := by decide +kernel
theorem dX9_readsExpression_48 : decode cX9_readsExpression 48 = .ok (.bipush (-9), 2) := by decide +kernel
theorem dX9_readsExpression_50 : decode cX9_readsExpression 50 = .ok (.if_icmp .ne 7, 3) := by decide +kernel
theorem dX9_readsExpression_53 : decode cX9_readsExpression 53 = .ok (.aload_n 0, 1) := by decide +kernel
theorem dX9_readsExpression_54 : decode cX9_readsExpression 54 = .ok (.invokevirtual 184, 3) := by decide +kernel
theorem dX9_readsExpression_57 : decode cX9_readsExpression 57 = .ok (.aload_n 0, 1) := by decide +kernel
theorem dX9_readsExpression_58 : decode cX9_readsExpression 58 = .ok (.getfield 122, 3) := by decide +kernel
theorem dX9_readsExpression_61 : decode cX9_readsExpression 61 = .ok (.bipush (-9), 2) := by decide +kernel
theorem dX9_readsExpression_63 : decode cX9_readsExpression 63 = .ok (.if_icmp .ne 40, 3) := by decide +kernel
theorem dX9_readsExpression_66 : decode cX9_readsExpression 66 = .ok (.aload_n 0, 1) := by decide +kernel
theorem dX9_readsExpression_67 : decode cX9_readsExpression 67 = .ok (.bipush 41, 2) := by decide +kernel
theorem dX9_readsExpression_69 : decode cX9_readsExpression 69 = .ok (.invokevirtual 154, 3) := by decide +kernel
theorem dX9_readsExpression_72 : decode cX9_readsExpression 72 = .ok (.ifCond .eq 31, 3) := by decide +kernel
theorem dX9_readsExpression_75 : decode cX9_readsExpression 75 = .ok (.aload_n 0, 1) := by decide +kernel
theorem dX9_readsExpression_76 : decode cX9_readsExpression 76 = .ok (.getfield 160, 3) := by decide +kernel
theorem dX9_readsExpression_79 : decode cX9_readsExpression 79 = .ok (.ifCond .le 24, 3) := by decide +kernel
theorem dX9_readsExpression_82 : decode cX9_readsExpression 82 = .ok (.aload_n 0, 1) := by decide +kernel
theorem dX9_readsExpression_83 : decode cX9_readsExpression 83 = .ok (.dup, 1) := by decide +kernel
theorem dX9_readsExpression_84 : decode cX9_readsExpression 84 = .ok (.getfield 160, 3) := by decide +kernel
theorem dX9_readsExpression_87 : decode cX9_readsExpression 87 = .ok (.iconst 1, 1) := by decide +kernel
theorem dX9_readsExpression_88 : decode cX9_readsExpression 88 = .ok (.isub, 1) := by decide +kernel
theorem dX9_readsExpression_89 : decode cX9_readsExpression 89 = .ok (.putfield 160, 3) := by decide +kernel
theorem dX9_readsExpression_92 : decode cX9_readsExpression 92 = .ok (.aload_n 0, 1) := by decide +kernel
theorem dX9_readsExpression_93 : decode cX9_readsExpression 93 = .ok (.invokevirtual 184, 3) := by decide +kernel
theorem dX9_readsExpression_96 : decode cX9_readsExpression 96 = .ok (.aload_n 0, 1) := by decide +kernel
theorem dX9_readsExpression_97 : decode cX9_readsExpression 97 = .ok (.invokevirtual 129, 3) := by decide +kernel
theorem dX9_readsExpression_100 : decode cX9_readsExpression 100 = .ok (.goto (-43), 3) := by decide +kernel
theorem dX9_readsExpression_103 : decode cX9_readsExpression 103 = .ok (.aload_n 0, 1) := by decide +kernel
theorem dX9_readsExpression_104 : decode cX9_readsExpression 104 = .ok (.invokevirtual 187, 3) := by decide +kernel
theorem dX9_readsExpression_107 : decode cX9_readsExpression 107 = .ok (.istore_n 1, 1) := by decide +kernel
theorem dX9_readsExpression_108 : decode cX9_readsExpression 108 = .ok (.aload_n 0, 1) := by decide +kernel
theorem dX9_readsExpression_109 : decode cX9_readsExpression 109 = .ok (.getfield 122, 3) := by decide +kernel
theorem dX9_readsExpression_112 : decode cX9_readsExpression 112 = .ok (.bipush (-9), 2) := by decide +kernel
theorem dX9_readsExpression_114 : decode cX9_readsExpression 114 = .ok (.if_icmp .ne (-87), 3) := by decide +kernel
theorem dX9_readsExpression_117 : decode cX9_readsExpression 117 = .ok (.iload_n 1, 1) := by decide +kernel
theorem dX9_readsExpression_118 : decode cX9_readsExpression 118 = .ok (.ifCond .eq (-91), 3) := by decide +kernel
theorem dX9_readsExpression_121 : decode cX9_readsExpression 121 = .ok (.aload_n 0, 1) := by decide +kernel
theorem dX9_readsExpression_122 : decode cX9_readsExpression 122 = .ok (.aload_n 0, 1) := by decide +kernel
theorem dX9_readsExpression_123 : decode cX9_readsExpression 123 = .ok (.getfield 116, 3) := by decide +kernel
theorem dX9_readsExpression_126 : decode cX9_readsExpression 126 = .ok (.invokevirtual 170, 3) := by decide +kernel
theorem dX9_readsExpression_129 : decode cX9_readsExpression 129 = .ok (.aload_n 0, 1) := by decide +kernel
theorem dX9_readsExpression_130 : decode cX9_readsExpression 130 = .ok (.invokevirtual 129, 3) := by decide +kernel
theorem dX9_readsExpression_133 : decode cX9_readsExpression 133 = .ok (.goto (-106), 3) := by decide +kernel
theorem dX9_readsExpression_136 : decode cX9_readsExpression 136 = .ok (.aload_n 0, 1) := by decide +kernel
theorem dX9_readsExpression_137 : decode cX9_readsExpression 137 = .ok (.aload_n 0, 1) := by decide +kernel
theorem dX9_readsExpression_138 : decode cX9_readsExpression 138 = .ok (.getfield 160, 3) := by decide +kernel
theorem dX9_readsExpression_141 : decode cX9_readsExpression 141 = .ok (.ifCond .ne 16, 3) := by decide +kernel
theorem dX9_readsExpression_144 : decode cX9_readsExpression 144 = .ok (.aload_n 0, 1) := by decide +kernel
theorem dX9_readsExpression_145 : decode cX9_readsExpression 145 = .ok (.bipush 59, 2) := by decide +kernel
theorem dX9_readsExpression_147 : decode cX9_readsExpression 147 = .ok (.invokevirtual 154, 3) := by decide +kernel
theorem dX9_readsExpression_150 : decode cX9_readsExpression 150 = .ok (.ifCond .eq 7, 3) := by decide +kernel
theorem dX9_readsExpression_153 : decode cX9_readsExpression 153 = .ok (.iconst 1, 1) := by decide +kernel
theorem dX9_readsExpression_154 : decode cX9_readsExpression 154 = .ok (.goto 4, 3) := by decide +kernel
theorem dX9_readsExpression_157 : decode cX9_readsExpression 157 = .ok (.iconst 0, 1) := by decide +kernel
theorem dX9_readsExpression_158 : decode cX9_readsExpression 158 = .ok (.invokevirtual 125, 3) := by decide +kernel
theorem dX9_readsExpression_161 : decode cX9_readsExpression 161 = .ok (.return_, 1) := by decide +kernel
theorem bX9_readsExpression_0 {d : Nat} {Q : Option jA → jH → Prop} (a0 : Nat) (u1 : Option jA) (h : jH)
    (s1 : (jS h a0).1 = 9)
    (s2 : (jS h (jP h a0 29)).1 = 16)
    (s3 : 0 ≤ jI h a0 24)
    (s4 : jI h a0 24 < ((jS h (jP h a0 29)).2 : Int))
    (k1 : V MX9_readsExpression (d + 6) 27 [some (.inr a0), some (.inl 1)] [] (jsX (jsI (jsI (jsI h a0 33 0) a0 34 0) a0 35 0) (jP h a0 29) ((jI h a0 24).toNat) 0) 0 0 Q) :
    V MX9_readsExpression (d + 6) 0 [some (.inr a0), u1] [] h 0 0 Q := by
  refine V_aload_n (i := 0) dX9_readsExpression_0 rfl rfl ?_
  refine V_iconst dX9_readsExpression_1 ⟨by decide, by decide⟩ ?_
  refine V_putI (ci := 9) (kf := 33) dX9_readsExpression_2 fX9_160 rfl rfl s1 ?_
  refine V_aload_n (i := 0) dX9_readsExpression_5 rfl rfl ?_
  refine V_iconst dX9_readsExpression_6 ⟨by decide, by decide⟩ ?_
  refine V_putI (ci := 9) (kf := 34) dX9_readsExpression_7 fX9_174 rfl rfl s1 ?_
  refine V_aload_n (i := 0) dX9_readsExpression_10 rfl rfl ?_
  refine V_iconst dX9_readsExpression_11 ⟨by decide, by decide⟩ ?_
  refine V_putI (ci := 9) (kf := 35) dX9_readsExpression_12 fX9_167 rfl rfl s1 ?_
  refine V_aload_n (i := 0) dX9_readsExpression_15 rfl rfl ?_
  refine V_getP dX9_readsExpression_16 fX9_53 rfl s1 ?_
  refine V_aload_n (i := 0) dX9_readsExpression_19 rfl rfl ?_
  refine V_getI dX9_readsExpression_20 fX9_157 rfl s1 ?_
  refine V_topI ((jI_ne (by decide)).trans ((jI_ne (by decide)).trans (jI_ne (by decide)))) ?_
  refine V_iconst dX9_readsExpression_23 ⟨by decide, by decide⟩ ?_
  refine V_iast dX9_readsExpression_24 s2 s3 s4 ?_
  refine V_iconst dX9_readsExpression_25 ⟨by decide, by decide⟩ ?_
  refine V_istore_n (i := 1) dX9_readsExpression_26 rfl (by decide) ?_
  exact k1
theorem bX9_readsExpression_27 {d : Nat} {Q : Option jA → jH → Prop} (a0 : Nat) (i1 : Int) (h : jH)
    (s1 : (jS h a0).1 = 9)
    (e1 : ((jI h a0 20) ≠ ((-9))) → ((jI h a0 33) ≠ 0) → Ex MX9_due d [.inr a0, .inl 0] h 0 0 (fun v h2 => V MX9_readsExpression (d + 6) 161 [some (.inr a0), some (.inl i1)] (v.toList ++ []) h2 0 0 Q))
    (e2 : ((jI h a0 20) ≠ ((-9))) → ((jI h a0 33) = 0) → (¬ ((jI h a0 18) = 3 ∧ (jI h a0 19) = 59)) → Ex MX9_due d [.inr a0, .inl 0] h 0 0 (fun v h2 => V MX9_readsExpression (d + 6) 161 [some (.inr a0), some (.inl i1)] (v.toList ++ []) h2 0 0 Q))
    (e3 : ((jI h a0 20) ≠ ((-9))) → ((jI h a0 33) = 0) → ((jI h a0 18) = 3 ∧ (jI h a0 19) = 59) → Ex MX9_due d [.inr a0, .inl 1] h 0 0 (fun v h2 => V MX9_readsExpression (d + 6) 161 [some (.inr a0), some (.inl i1)] (v.toList ++ []) h2 0 0 Q))
    (e4 : ((jI h a0 20) = ((-9))) → (i1 = 0) → ((jI h a0 33) ≠ 0) → Ex MX9_due d [.inr a0, .inl 0] h 0 0 (fun v h2 => V MX9_readsExpression (d + 6) 161 [some (.inr a0), some (.inl i1)] (v.toList ++ []) h2 0 0 Q))
    (e5 : ((jI h a0 20) = ((-9))) → (i1 = 0) → ((jI h a0 33) = 0) → (¬ ((jI h a0 18) = 3 ∧ (jI h a0 19) = 59)) → Ex MX9_due d [.inr a0, .inl 0] h 0 0 (fun v h2 => V MX9_readsExpression (d + 6) 161 [some (.inr a0), some (.inl i1)] (v.toList ++ []) h2 0 0 Q))
    (e6 : ((jI h a0 20) = ((-9))) → (i1 = 0) → ((jI h a0 33) = 0) → ((jI h a0 18) = 3 ∧ (jI h a0 19) = 59) → Ex MX9_due d [.inr a0, .inl 1] h 0 0 (fun v h2 => V MX9_readsExpression (d + 6) 161 [some (.inr a0), some (.inl i1)] (v.toList ++ []) h2 0 0 Q))
    (e7 : ((jI h a0 20) = ((-9))) → (¬ (i1 = 0)) → Ex MX9_beginsTerm (d + 5) [.inr a0] h 0 0 (fun v h2 => V MX9_readsExpression (d + 6) 44 [some (.inr a0), some (.inl i1)] (v.toList ++ []) h2 0 0 Q)) :
    V MX9_readsExpression (d + 6) 27 [some (.inr a0), some (.inl i1)] [] h 0 0 Q := by
  refine V_aload_n (i := 0) dX9_readsExpression_27 rfl rfl ?_
  refine V_getI dX9_readsExpression_28 fX9_122 rfl s1 ?_
  refine V_bipush dX9_readsExpression_31 (by decide +kernel) ⟨by decide, by decide⟩ ?_
  refine V_icmp_ne (tgt := 136) dX9_readsExpression_33 (by decide) (fun c1 => ?_) (fun c1 => ?_)
  · refine V_aload_n (i := 0) dX9_readsExpression_136 rfl rfl ?_
    refine V_aload_n (i := 0) dX9_readsExpression_137 rfl rfl ?_
    refine V_getI dX9_readsExpression_138 fX9_160 rfl s1 ?_
    refine V_if_ne (tgt := 157) dX9_readsExpression_141 (by decide) (fun c2 => ?_) (fun c2 => ?_)
    · refine V_iconst dX9_readsExpression_157 ⟨by decide, by decide⟩ ?_
      exact V_callV (M := MX9_readsExpression) (d := (d + 6)) (mc' := 0) (ms' := 0) (mc := 0) (ms := 0) (As := [.inl 0]) (rest := []) dX9_readsExpression_158 tX9_due vX9_due lX9_125 s1 ⟨by decide, rfl⟩ rfl rfl (Nat.le_of_ble_eq_true rfl) (show d + 1 ≤ (d + 6) by omega) (e1 c1 c2)
    · refine V_aload_n (i := 0) dX9_readsExpression_144 rfl rfl ?_
      refine V_bipush dX9_readsExpression_145 (by decide +kernel) ⟨by decide, by decide⟩ ?_
      refine V_callV (M := MX9_readsExpression) (d := (d + 6)) (mc' := 0) (ms' := 0) (mc := 0) (ms := 0) (As := [.inl 59]) (rest := [.inr a0]) dX9_readsExpression_147 tX9_is vX9_is lX9_154 s1 ⟨by decide, rfl⟩ rfl rfl (Nat.le_of_ble_eq_true rfl) (show d + 1 ≤ (d + 6) by omega) (Ex.mono (pX9_is (d := d) s1) ?_)
      intro v h2 hq
      rw [hq.1, hq.2]
      show V MX9_readsExpression (d + 6) 150 [some (.inr a0), some (.inl i1)] [.inl (jb ((jI h a0 18) = 3 ∧ (jI h a0 19) = 59)), .inr a0] h 0 0 Q
      refine V_ifb_eq (tgt := 157) dX9_readsExpression_150 (by decide) (fun c3 => ?_) (fun c3 => ?_)
      · refine V_iconst dX9_readsExpression_157 ⟨by decide, by decide⟩ ?_
        exact V_callV (M := MX9_readsExpression) (d := (d + 6)) (mc' := 0) (ms' := 0) (mc := 0) (ms := 0) (As := [.inl 0]) (rest := []) dX9_readsExpression_158 tX9_due vX9_due lX9_125 s1 ⟨by decide, rfl⟩ rfl rfl (Nat.le_of_ble_eq_true rfl) (show d + 1 ≤ (d + 6) by omega) (e2 c1 c2 c3)
      · refine V_iconst dX9_readsExpression_153 ⟨by decide, by decide⟩ ?_
        refine V_goto (tgt := 158) dX9_readsExpression_154 (by decide) ?_
        exact V_callV (M := MX9_readsExpression) (d := (d + 6)) (mc' := 0) (ms' := 0) (mc := 0) (ms := 0) (As := [.inl 1]) (rest := []) dX9_readsExpression_158 tX9_due vX9_due lX9_125 s1 ⟨by decide, rfl⟩ rfl rfl (Nat.le_of_ble_eq_true rfl) (show d + 1 ≤ (d + 6) by omega) (e3 c1 c2 c3)
  · refine V_iload_n (i := 1) dX9_readsExpression_36 rfl rfl ?_
    refine V_if_eq (tgt := 136) dX9_readsExpression_37 (by decide) (fun c4 => ?_) (fun c4 => ?_)
    · refine V_aload_n (i := 0) dX9_readsExpression_136 rfl rfl ?_
      refine V_aload_n (i := 0) dX9_readsExpression_137 rfl rfl ?_
      refine V_getI dX9_readsExpression_138 fX9_160 rfl s1 ?_
      refine V_if_ne (tgt := 157) dX9_readsExpression_141 (by decide) (fun c5 => ?_) (fun c5 => ?_)
      · refine V_iconst dX9_readsExpression_157 ⟨by decide, by decide⟩ ?_
        exact V_callV (M := MX9_readsExpression) (d := (d + 6)) (mc' := 0) (ms' := 0) (mc := 0) (ms := 0) (As := [.inl 0]) (rest := []) dX9_readsExpression_158 tX9_due vX9_due lX9_125 s1 ⟨by decide, rfl⟩ rfl rfl (Nat.le_of_ble_eq_true rfl) (show d + 1 ≤ (d + 6) by omega) (e4 c1 c4 c5)
      · refine V_aload_n (i := 0) dX9_readsExpression_144 rfl rfl ?_
        refine V_bipush dX9_readsExpression_145 (by decide +kernel) ⟨by decide, by decide⟩ ?_
        refine V_callV (M := MX9_readsExpression) (d := (d + 6)) (mc' := 0) (ms' := 0) (mc := 0) (ms := 0) (As := [.inl 59]) (rest := [.inr a0]) dX9_readsExpression_147 tX9_is vX9_is lX9_154 s1 ⟨by decide, rfl⟩ rfl rfl (Nat.le_of_ble_eq_true rfl) (show d + 1 ≤ (d + 6) by omega) (Ex.mono (pX9_is (d := d) s1) ?_)
        intro v h2 hq
        rw [hq.1, hq.2]
        show V MX9_readsExpression (d + 6) 150 [some (.inr a0), some (.inl i1)] [.inl (jb ((jI h a0 18) = 3 ∧ (jI h a0 19) = 59)), .inr a0] h 0 0 Q
        refine V_ifb_eq (tgt := 157) dX9_readsExpression_150 (by decide) (fun c6 => ?_) (fun c6 => ?_)
        · refine V_iconst dX9_readsExpression_157 ⟨by decide, by decide⟩ ?_
          exact V_callV (M := MX9_readsExpression) (d := (d + 6)) (mc' := 0) (ms' := 0) (mc := 0) (ms := 0) (As := [.inl 0]) (rest := []) dX9_readsExpression_158 tX9_due vX9_due lX9_125 s1 ⟨by decide, rfl⟩ rfl rfl (Nat.le_of_ble_eq_true rfl) (show d + 1 ≤ (d + 6) by omega) (e5 c1 c4 c5 c6)
        · refine V_iconst dX9_readsExpression_153 ⟨by decide, by decide⟩ ?_
          refine V_goto (tgt := 158) dX9_readsExpression_154 (by decide) ?_
          exact V_callV (M := MX9_readsExpression) (d := (d + 6)) (mc' := 0) (ms' := 0) (mc := 0) (ms := 0) (As := [.inl 1]) (rest := []) dX9_readsExpression_158 tX9_due vX9_due lX9_125 s1 ⟨by decide, rfl⟩ rfl rfl (Nat.le_of_ble_eq_true rfl) (show d + 1 ≤ (d + 6) by omega) (e6 c1 c4 c5 c6)
    · refine V_aload_n (i := 0) dX9_readsExpression_40 rfl rfl ?_
      exact V_callV (M := MX9_readsExpression) (d := (d + 6)) (mc' := 0) (ms' := 0) (mc := 0) (ms := 0) (As := []) (rest := []) dX9_readsExpression_41 tX9_beginsTerm vX9_beginsTerm lX9_181 s1 ⟨by decide, rfl⟩ rfl rfl (Nat.le_of_ble_eq_true rfl) (show (d + 5) + 1 ≤ (d + 6) by omega) (e7 c1 c4)
theorem bX9_readsExpression_57 {d : Nat} {Q : Option jA → jH → Prop} (a0 : Nat) (i1 : Int) (h : jH)
    (s1 : (jS h a0).1 = 9)
    (k1 : ((jI h a0 20) ≠ ((-9))) → ((jI h a0 20) ≠ ((-9))) → V MX9_readsExpression (d + 6) 27 [some (.inr a0), some (.inl (jb ((jI h a0 18) = 3 ∧ ((jI h a0 19) = 38 ∨ (jI h a0 19) = 124 ∨ (jI h a0 19) = 94 ∨ (jI h a0 19) = 43 ∨ (jI h a0 19) = 45))))] [] h 0 0 Q)
    (k2 : ((jI h a0 20) ≠ ((-9))) → ((jI h a0 20) = ((-9))) → (¬ ((jI h a0 18) = 3 ∧ ((jI h a0 19) = 38 ∨ (jI h a0 19) = 124 ∨ (jI h a0 19) = 94 ∨ (jI h a0 19) = 43 ∨ (jI h a0 19) = 45))) → V MX9_readsExpression (d + 6) 27 [some (.inr a0), some (.inl (jb ((jI h a0 18) = 3 ∧ ((jI h a0 19) = 38 ∨ (jI h a0 19) = 124 ∨ (jI h a0 19) = 94 ∨ (jI h a0 19) = 43 ∨ (jI h a0 19) = 45))))] [] h 0 0 Q)
    (e1 : ((jI h a0 20) ≠ ((-9))) → ((jI h a0 20) = ((-9))) → ((jI h a0 18) = 3 ∧ ((jI h a0 19) = 38 ∨ (jI h a0 19) = 124 ∨ (jI h a0 19) = 94 ∨ (jI h a0 19) = 43 ∨ (jI h a0 19) = 45)) → Ex MX9_waitsFor d [.inr a0, .inl (jI h a0 19)] h 0 0 (fun v h2 => V MX9_readsExpression (d + 6) 129 [some (.inr a0), some (.inl (jb ((jI h a0 18) = 3 ∧ ((jI h a0 19) = 38 ∨ (jI h a0 19) = 124 ∨ (jI h a0 19) = 94 ∨ (jI h a0 19) = 43 ∨ (jI h a0 19) = 45))))] (v.toList ++ []) h2 0 0 Q))
    (k3 : ((jI h a0 20) = ((-9))) → (¬ ((jI h a0 18) = 3 ∧ (jI h a0 19) = 41)) → ((jI h a0 20) ≠ ((-9))) → V MX9_readsExpression (d + 6) 27 [some (.inr a0), some (.inl (jb ((jI h a0 18) = 3 ∧ ((jI h a0 19) = 38 ∨ (jI h a0 19) = 124 ∨ (jI h a0 19) = 94 ∨ (jI h a0 19) = 43 ∨ (jI h a0 19) = 45))))] [] h 0 0 Q)
    (k4 : ((jI h a0 20) = ((-9))) → (¬ ((jI h a0 18) = 3 ∧ (jI h a0 19) = 41)) → ((jI h a0 20) = ((-9))) → (¬ ((jI h a0 18) = 3 ∧ ((jI h a0 19) = 38 ∨ (jI h a0 19) = 124 ∨ (jI h a0 19) = 94 ∨ (jI h a0 19) = 43 ∨ (jI h a0 19) = 45))) → V MX9_readsExpression (d + 6) 27 [some (.inr a0), some (.inl (jb ((jI h a0 18) = 3 ∧ ((jI h a0 19) = 38 ∨ (jI h a0 19) = 124 ∨ (jI h a0 19) = 94 ∨ (jI h a0 19) = 43 ∨ (jI h a0 19) = 45))))] [] h 0 0 Q)
    (e2 : ((jI h a0 20) = ((-9))) → (¬ ((jI h a0 18) = 3 ∧ (jI h a0 19) = 41)) → ((jI h a0 20) = ((-9))) → ((jI h a0 18) = 3 ∧ ((jI h a0 19) = 38 ∨ (jI h a0 19) = 124 ∨ (jI h a0 19) = 94 ∨ (jI h a0 19) = 43 ∨ (jI h a0 19) = 45)) → Ex MX9_waitsFor d [.inr a0, .inl (jI h a0 19)] h 0 0 (fun v h2 => V MX9_readsExpression (d + 6) 129 [some (.inr a0), some (.inl (jb ((jI h a0 18) = 3 ∧ ((jI h a0 19) = 38 ∨ (jI h a0 19) = 124 ∨ (jI h a0 19) = 94 ∨ (jI h a0 19) = 43 ∨ (jI h a0 19) = 45))))] (v.toList ++ []) h2 0 0 Q))
    (k5 : ((jI h a0 20) = ((-9))) → ((jI h a0 18) = 3 ∧ (jI h a0 19) = 41) → ((jI h a0 33) ≤ 0) → ((jI h a0 20) ≠ ((-9))) → V MX9_readsExpression (d + 6) 27 [some (.inr a0), some (.inl (jb ((jI h a0 18) = 3 ∧ ((jI h a0 19) = 38 ∨ (jI h a0 19) = 124 ∨ (jI h a0 19) = 94 ∨ (jI h a0 19) = 43 ∨ (jI h a0 19) = 45))))] [] h 0 0 Q)
    (k6 : ((jI h a0 20) = ((-9))) → ((jI h a0 18) = 3 ∧ (jI h a0 19) = 41) → ((jI h a0 33) ≤ 0) → ((jI h a0 20) = ((-9))) → (¬ ((jI h a0 18) = 3 ∧ ((jI h a0 19) = 38 ∨ (jI h a0 19) = 124 ∨ (jI h a0 19) = 94 ∨ (jI h a0 19) = 43 ∨ (jI h a0 19) = 45))) → V MX9_readsExpression (d + 6) 27 [some (.inr a0), some (.inl (jb ((jI h a0 18) = 3 ∧ ((jI h a0 19) = 38 ∨ (jI h a0 19) = 124 ∨ (jI h a0 19) = 94 ∨ (jI h a0 19) = 43 ∨ (jI h a0 19) = 45))))] [] h 0 0 Q)
    (e3 : ((jI h a0 20) = ((-9))) → ((jI h a0 18) = 3 ∧ (jI h a0 19) = 41) → ((jI h a0 33) ≤ 0) → ((jI h a0 20) = ((-9))) → ((jI h a0 18) = 3 ∧ ((jI h a0 19) = 38 ∨ (jI h a0 19) = 124 ∨ (jI h a0 19) = 94 ∨ (jI h a0 19) = 43 ∨ (jI h a0 19) = 45)) → Ex MX9_waitsFor d [.inr a0, .inl (jI h a0 19)] h 0 0 (fun v h2 => V MX9_readsExpression (d + 6) 129 [some (.inr a0), some (.inl (jb ((jI h a0 18) = 3 ∧ ((jI h a0 19) = 38 ∨ (jI h a0 19) = 124 ∨ (jI h a0 19) = 94 ∨ (jI h a0 19) = 43 ∨ (jI h a0 19) = 45))))] (v.toList ++ []) h2 0 0 Q))
    (r1 : ((jI h a0 20) = ((-9))) → ((jI h a0 18) = 3 ∧ (jI h a0 19) = 41) → (¬ ((jI h a0 33) ≤ 0)) → jR ((jI h a0 33) - 1))
    (e4 : ((jI h a0 20) = ((-9))) → ((jI h a0 18) = 3 ∧ (jI h a0 19) = 41) → (¬ ((jI h a0 33) ≤ 0)) → Ex MX9_wholeTerm (d + 1) [.inr a0] (jsI h a0 33 ((jI h a0 33) - 1)) 0 0 (fun v h2 => V MX9_readsExpression (d + 6) 96 [some (.inr a0), some (.inl i1)] (v.toList ++ []) h2 0 0 Q)) :
    V MX9_readsExpression (d + 6) 57 [some (.inr a0), some (.inl i1)] [] h 0 0 Q := by
  refine V_aload_n (i := 0) dX9_readsExpression_57 rfl rfl ?_
  refine V_getI dX9_readsExpression_58 fX9_122 rfl s1 ?_
  refine V_bipush dX9_readsExpression_61 (by decide +kernel) ⟨by decide, by decide⟩ ?_
  refine V_icmp_ne (tgt := 103) dX9_readsExpression_63 (by decide) (fun c1 => ?_) (fun c1 => ?_)
  · refine V_aload_n (i := 0) dX9_readsExpression_103 rfl rfl ?_
    refine V_callV (M := MX9_readsExpression) (d := (d + 6)) (mc' := 0) (ms' := 0) (mc := 0) (ms := 0) (As := []) (rest := []) dX9_readsExpression_104 tX9_isBetween vX9_isBetween lX9_187 s1 ⟨by decide, rfl⟩ rfl rfl (Nat.le_of_ble_eq_true rfl) (show (d + 1) + 1 ≤ (d + 6) by omega) (Ex.mono (pX9_isBetween (d := d) s1) ?_)
    intro v h2 hq
    rw [hq.1, hq.2]
    show V MX9_readsExpression (d + 6) 107 [some (.inr a0), some (.inl i1)] [.inl (jb ((jI h a0 18) = 3 ∧ ((jI h a0 19) = 38 ∨ (jI h a0 19) = 124 ∨ (jI h a0 19) = 94 ∨ (jI h a0 19) = 43 ∨ (jI h a0 19) = 45)))] h 0 0 Q
    refine V_istore_n (i := 1) dX9_readsExpression_107 rfl (by decide) ?_
    refine V_aload_n (i := 0) dX9_readsExpression_108 rfl rfl ?_
    refine V_getI dX9_readsExpression_109 fX9_122 rfl s1 ?_
    refine V_bipush dX9_readsExpression_112 (by decide +kernel) ⟨by decide, by decide⟩ ?_
    refine V_icmp_ne (tgt := 27) dX9_readsExpression_114 (by decide) (fun c2 => ?_) (fun c2 => ?_)
    · exact (k1 c1 c2)
    · refine V_iload_n (i := 1) dX9_readsExpression_117 rfl rfl ?_
      refine V_ifb_eq (tgt := 27) dX9_readsExpression_118 (by decide) (fun c3 => ?_) (fun c3 => ?_)
      · exact (k2 c1 c2 c3)
      · refine V_aload_n (i := 0) dX9_readsExpression_121 rfl rfl ?_
        refine V_aload_n (i := 0) dX9_readsExpression_122 rfl rfl ?_
        refine V_getI dX9_readsExpression_123 fX9_116 rfl s1 ?_
        exact V_callV (M := MX9_readsExpression) (d := (d + 6)) (mc' := 0) (ms' := 0) (mc := 0) (ms := 0) (As := [.inl (jI h a0 19)]) (rest := []) dX9_readsExpression_126 tX9_waitsFor vX9_waitsFor lX9_170 s1 ⟨by decide, rfl⟩ rfl rfl (Nat.le_of_ble_eq_true rfl) (show d + 1 ≤ (d + 6) by omega) (e1 c1 c2 c3)
  · refine V_aload_n (i := 0) dX9_readsExpression_66 rfl rfl ?_
    refine V_bipush dX9_readsExpression_67 (by decide +kernel) ⟨by decide, by decide⟩ ?_
    refine V_callV (M := MX9_readsExpression) (d := (d + 6)) (mc' := 0) (ms' := 0) (mc := 0) (ms := 0) (As := [.inl 41]) (rest := []) dX9_readsExpression_69 tX9_is vX9_is lX9_154 s1 ⟨by decide, rfl⟩ rfl rfl (Nat.le_of_ble_eq_true rfl) (show d + 1 ≤ (d + 6) by omega) (Ex.mono (pX9_is (d := d) s1) ?_)
    intro v h2 hq
    rw [hq.1, hq.2]
    show V MX9_readsExpression (d + 6) 72 [some (.inr a0), some (.inl i1)] [.inl (jb ((jI h a0 18) = 3 ∧ (jI h a0 19) = 41))] h 0 0 Q
    refine V_ifb_eq (tgt := 103) dX9_readsExpression_72 (by decide) (fun c4 => ?_) (fun c4 => ?_)
    · refine V_aload_n (i := 0) dX9_readsExpression_103 rfl rfl ?_
      refine V_callV (M := MX9_readsExpression) (d := (d + 6)) (mc' := 0) (ms' := 0) (mc := 0) (ms := 0) (As := []) (rest := []) dX9_readsExpression_104 tX9_isBetween vX9_isBetween lX9_187 s1 ⟨by decide, rfl⟩ rfl rfl (Nat.le_of_ble_eq_true rfl) (show (d + 1) + 1 ≤ (d + 6) by omega) (Ex.mono (pX9_isBetween (d := d) s1) ?_)
      intro v h2 hq
      rw [hq.1, hq.2]
      show V MX9_readsExpression (d + 6) 107 [some (.inr a0), some (.inl i1)] [.inl (jb ((jI h a0 18) = 3 ∧ ((jI h a0 19) = 38 ∨ (jI h a0 19) = 124 ∨ (jI h a0 19) = 94 ∨ (jI h a0 19) = 43 ∨ (jI h a0 19) = 45)))] h 0 0 Q
      refine V_istore_n (i := 1) dX9_readsExpression_107 rfl (by decide) ?_
      refine V_aload_n (i := 0) dX9_readsExpression_108 rfl rfl ?_
      refine V_getI dX9_readsExpression_109 fX9_122 rfl s1 ?_
      refine V_bipush dX9_readsExpression_112 (by decide +kernel) ⟨by decide, by decide⟩ ?_
      refine V_icmp_ne (tgt := 27) dX9_readsExpression_114 (by decide) (fun c5 => ?_) (fun c5 => ?_)
      · exact (k3 c1 c4 c5)
      · refine V_iload_n (i := 1) dX9_readsExpression_117 rfl rfl ?_
        refine V_ifb_eq (tgt := 27) dX9_readsExpression_118 (by decide) (fun c6 => ?_) (fun c6 => ?_)
        · exact (k4 c1 c4 c5 c6)
        · refine V_aload_n (i := 0) dX9_readsExpression_121 rfl rfl ?_
          refine V_aload_n (i := 0) dX9_readsExpression_122 rfl rfl ?_
          refine V_getI dX9_readsExpression_123 fX9_116 rfl s1 ?_
          exact V_callV (M := MX9_readsExpression) (d := (d + 6)) (mc' := 0) (ms' := 0) (mc := 0) (ms := 0) (As := [.inl (jI h a0 19)]) (rest := []) dX9_readsExpression_126 tX9_waitsFor vX9_waitsFor lX9_170 s1 ⟨by decide, rfl⟩ rfl rfl (Nat.le_of_ble_eq_true rfl) (show d + 1 ≤ (d + 6) by omega) (e2 c1 c4 c5 c6)
    · refine V_aload_n (i := 0) dX9_readsExpression_75 rfl rfl ?_
      refine V_getI dX9_readsExpression_76 fX9_160 rfl s1 ?_
      refine V_if_le (tgt := 103) dX9_readsExpression_79 (by decide) (fun c7 => ?_) (fun c7 => ?_)
      · refine V_aload_n (i := 0) dX9_readsExpression_103 rfl rfl ?_
        refine V_callV (M := MX9_readsExpression) (d := (d + 6)) (mc' := 0) (ms' := 0) (mc := 0) (ms := 0) (As := []) (rest := []) dX9_readsExpression_104 tX9_isBetween vX9_isBetween lX9_187 s1 ⟨by decide, rfl⟩ rfl rfl (Nat.le_of_ble_eq_true rfl) (show (d + 1) + 1 ≤ (d + 6) by omega) (Ex.mono (pX9_isBetween (d := d) s1) ?_)
        intro v h2 hq
        rw [hq.1, hq.2]
        show V MX9_readsExpression (d + 6) 107 [some (.inr a0), some (.inl i1)] [.inl (jb ((jI h a0 18) = 3 ∧ ((jI h a0 19) = 38 ∨ (jI h a0 19) = 124 ∨ (jI h a0 19) = 94 ∨ (jI h a0 19) = 43 ∨ (jI h a0 19) = 45)))] h 0 0 Q
        refine V_istore_n (i := 1) dX9_readsExpression_107 rfl (by decide) ?_
        refine V_aload_n (i := 0) dX9_readsExpression_108 rfl rfl ?_
        refine V_getI dX9_readsExpression_109 fX9_122 rfl s1 ?_
        refine V_bipush dX9_readsExpression_112 (by decide +kernel) ⟨by decide, by decide⟩ ?_
        refine V_icmp_ne (tgt := 27) dX9_readsExpression_114 (by decide) (fun c8 => ?_) (fun c8 => ?_)
        · exact (k5 c1 c4 c7 c8)
        · refine V_iload_n (i := 1) dX9_readsExpression_117 rfl rfl ?_
          refine V_ifb_eq (tgt := 27) dX9_readsExpression_118 (by decide) (fun c9 => ?_) (fun c9 => ?_)
          · exact (k6 c1 c4 c7 c8 c9)
          · refine V_aload_n (i := 0) dX9_readsExpression_121 rfl rfl ?_
            refine V_aload_n (i := 0) dX9_readsExpression_122 rfl rfl ?_
            refine V_getI dX9_readsExpression_123 fX9_116 rfl s1 ?_
            exact V_callV (M := MX9_readsExpression) (d := (d + 6)) (mc' := 0) (ms' := 0) (mc := 0) (ms := 0) (As := [.inl (jI h a0 19)]) (rest := []) dX9_readsExpression_126 tX9_waitsFor vX9_waitsFor lX9_170 s1 ⟨by decide, rfl⟩ rfl rfl (Nat.le_of_ble_eq_true rfl) (show d + 1 ≤ (d + 6) by omega) (e3 c1 c4 c7 c8 c9)
      · refine V_aload_n (i := 0) dX9_readsExpression_82 rfl rfl ?_
        refine V_dup dX9_readsExpression_83 ?_
        refine V_getI dX9_readsExpression_84 fX9_160 rfl s1 ?_
        refine V_iconst dX9_readsExpression_87 ⟨by decide, by decide⟩ ?_
        refine V_isub dX9_readsExpression_88 (r1 c1 c4 c7) ?_
        refine V_putI (ci := 9) (kf := 33) dX9_readsExpression_89 fX9_160 rfl rfl s1 ?_
        refine V_aload_n (i := 0) dX9_readsExpression_92 rfl rfl ?_
        exact V_callV (M := MX9_readsExpression) (d := (d + 6)) (mc' := 0) (ms' := 0) (mc := 0) (ms := 0) (As := []) (rest := []) dX9_readsExpression_93 tX9_wholeTerm vX9_wholeTerm lX9_184 s1 ⟨by decide, rfl⟩ rfl rfl (Nat.le_of_ble_eq_true rfl) (show (d + 1) + 1 ≤ (d + 6) by omega) (e4 c1 c4 c7)
theorem bX9_readsExpression_161 {d : Nat} {Q : Option jA → jH → Prop} (a0 : Nat) (i1 : Int) (h : jH)
    (q1 : Q none h) :
    V MX9_readsExpression (d + 6) 161 [some (.inr a0), some (.inl i1)] [] h 0 0 Q := by
  exact V_ret (v := none) rfl rfl dX9_readsExpression_161 trivial rfl q1
theorem bX9_readsExpression_44 {d : Nat} {Q : Option jA → jH → Prop} (a0 : Nat) (i1 : Int) (h : jH)
    (s1 : (jS h a0).1 = 9)
    (k1 : ((jI h a0 20) ≠ ((-9))) → V MX9_readsExpression (d + 6) 57 [some (.inr a0), some (.inl i1)] [] h 0 0 Q)
    (e1 : ((jI h a0 20) = ((-9))) → Ex MX9_wholeTerm (d + 1) [.inr a0] h 0 0 (fun v h2 => V MX9_readsExpression (d + 6) 57 [some (.inr a0), some (.inl i1)] (v.toList ++ []) h2 0 0 Q)) :
    V MX9_readsExpression (d + 6) 44 [some (.inr a0), some (.inl i1)] [] h 0 0 Q := by
  refine V_aload_n (i := 0) dX9_readsExpression_44 rfl rfl ?_
  refine V_getI dX9_readsExpression_45 fX9_122 rfl s1 ?_
  refine V_bipush dX9_readsExpression_48 (by decide +kernel) ⟨by decide, by decide⟩ ?_
  refine V_icmp_ne (tgt := 57) dX9_readsExpression_50 (by decide) (fun c1 => ?_) (fun c1 => ?_)
  · exact (k1 c1)
  · refine V_aload_n (i := 0) dX9_readsExpression_53 rfl rfl ?_
    exact V_callV (M := MX9_readsExpression) (d := (d + 6)) (mc' := 0) (ms' := 0) (mc := 0) (ms := 0) (As := []) (rest := []) dX9_readsExpression_54 tX9_wholeTerm vX9_wholeTerm lX9_184 s1 ⟨by decide, rfl⟩ rfl rfl (Nat.le_of_ble_eq_true rfl) (show (d + 1) + 1 ≤ (d + 6) by omega) (e1 c1)
theorem bX9_readsExpression_129 {d : Nat} {Q : Option jA → jH → Prop} (a0 : Nat) (i1 : Int) (h : jH)
    (e1 : Ex MX9_next (d + 2) [.inr a0] h 0 0 (fun v h2 => V MX9_readsExpression (d + 6) 133 [some (.inr a0), some (.inl i1)] (v.toList ++ []) h2 0 0 Q))
    (s1 : (jS h a0).1 = 9) :
    V MX9_readsExpression (d + 6) 129 [some (.inr a0), some (.inl i1)] [] h 0 0 Q := by
  refine V_aload_n (i := 0) dX9_readsExpression_129 rfl rfl ?_
  exact V_callV (M := MX9_readsExpression) (d := (d + 6)) (mc' := 0) (ms' := 0) (mc := 0) (ms := 0) (As := []) (rest := []) dX9_readsExpression_130 tX9_next vX9_next lX9_129 s1 ⟨by decide, rfl⟩ rfl rfl (Nat.le_of_ble_eq_true rfl) (show (d + 2) + 1 ≤ (d + 6) by omega) e1
theorem bX9_readsExpression_96 {d : Nat} {Q : Option jA → jH → Prop} (a0 : Nat) (i1 : Int) (h : jH)
    (e1 : Ex MX9_next (d + 2) [.inr a0] h 0 0 (fun v h2 => V MX9_readsExpression (d + 6) 100 [some (.inr a0), some (.inl i1)] (v.toList ++ []) h2 0 0 Q))
    (s1 : (jS h a0).1 = 9) :
    V MX9_readsExpression (d + 6) 96 [some (.inr a0), some (.inl i1)] [] h 0 0 Q := by
  refine V_aload_n (i := 0) dX9_readsExpression_96 rfl rfl ?_
  exact V_callV (M := MX9_readsExpression) (d := (d + 6)) (mc' := 0) (ms' := 0) (mc := 0) (ms := 0) (As := []) (rest := []) dX9_readsExpression_97 tX9_next vX9_next lX9_129 s1 ⟨by decide, rfl⟩ rfl rfl (Nat.le_of_ble_eq_true rfl) (show (d + 2) + 1 ≤ (d + 6) by omega) e1
theorem bX9_readsExpression_133 {d : Nat} {Q : Option jA → jH → Prop} (a0 : Nat) (i1 : Int) (h : jH)
    (k1 : V MX9_readsExpression (d + 6) 27 [some (.inr a0), some (.inl i1)] [] h 0 0 Q) :
    V MX9_readsExpression (d + 6) 133 [some (.inr a0), some (.inl i1)] [] h 0 0 Q := by
  refine V_goto (tgt := 27) dX9_readsExpression_133 (by decide) ?_
  exact k1
theorem bX9_readsExpression_100 {d : Nat} {Q : Option jA → jH → Prop} (a0 : Nat) (i1 : Int) (h : jH)
    (k1 : V MX9_readsExpression (d + 6) 57 [some (.inr a0), some (.inl i1)] [] h 0 0 Q) :
    V MX9_readsExpression (d + 6) 100 [some (.inr a0), some (.inl i1)] [] h 0 0 Q := by
  refine V_goto (tgt := 57) dX9_readsExpression_100 (by decide) ?_
  exact k1
theorem dX9_readsNode_0 : decode cX9_readsNode 0 = .ok (.aload_n 0, 1) := by decide +kernel
theorem dX9_readsNode_1 : decode cX9_readsNode 1 = .ok (.getfield 116, 3) := by decide +kernel
theorem dX9_readsNode_4 : decode cX9_readsNode 4 = .ok (.istore_n 1, 1) := by decide +kernel
theorem dX9_readsNode_5 : decode cX9_readsNode 5 = .ok (.aload_n 0, 1) := by decide +kernel
theorem dX9_readsNode_6 : decode cX9_readsNode 6 = .ok (.aload_n 0, 1) := by decide +kernel
theorem dX9_readsNode_7 : decode cX9_readsNode 7 = .ok (.getfield 132, 3) := by decide +kernel
theorem dX9_readsNode_10 : decode cX9_readsNode 10 = .ok (.bipush 12, 2) := by decide +kernel
theorem dX9_readsNode_12 : decode cX9_readsNode 12 = .ok (.if_icmp .ge 35, 3) := by decide +kernel
theorem dX9_readsNode_15 : decode cX9_readsNode 15 = .ok (.aload_n 0, 1) := by decide +kernel
theorem dX9_readsNode_16 : decode cX9_readsNode 16 = .ok (.aload_n 0, 1) := by decide +kernel
theorem dX9_readsNode_17 : decode cX9_readsNode 17 = .ok (.getfield 144, 3) := by decide +kernel
theorem dX9_readsNode_20 : decode cX9_readsNode 20 = .ok (.iload_n 1, 1) := by decide +kernel
theorem dX9_readsNode_21 : decode cX9_readsNode 21 = .ok (.invokevirtual 147, 3) := by decide +kernel
theorem dX9_readsNode_24 : decode cX9_readsNode 24 = .ok (.bipush (-9), 2) := by decide +kernel
theorem dX9_readsNode_26 : decode cX9_readsNode 26 = .ok (.if_icmp .ne 21, 3) := by decide +kernel
theorem dX9_readsNode_29 : decode cX9_readsNode 29 = .ok (.aload_n 0, 1) := by decide +kernel
theorem dX9_readsNode_30 : decode cX9_readsNode 30 = .ok (.aload_n 0, 1) := by decide +kernel
theorem dX9_readsNode_31 : decode cX9_readsNode 31 = .ok (.getfield 144, 3) := by decide +kernel
theorem dX9_readsNode_34 : decode cX9_readsNode 34 = .ok (.iload_n 1, 1) := by decide +kernel
theorem dX9_readsNode_35 : decode cX9_readsNode 35 = .ok (.invokevirtual 151, 3) := by decide +kernel
theorem dX9_readsNode_38 : decode cX9_readsNode 38 = .ok (.bipush (-9), 2) := by decide +kernel
theorem dX9_readsNode_40 : decode cX9_readsNode 40 = .ok (.if_icmp .ne 7, 3) := by decide +kernel
theorem dX9_readsNode_43 : decode cX9_readsNode 43 = .ok (.iconst 1, 1) := by decide +kernel
theorem dX9_readsNode_44 : decode cX9_readsNode 44 = .ok (.goto 4, 3) := by decide +kernel
theorem dX9_readsNode_47 : decode cX9_readsNode 47 = .ok (.iconst 0, 1) := by decide +kernel
theorem dX9_readsNode_48 : decode cX9_readsNode 48 = .ok (.invokevirtual 125, 3) := by decide +kernel
theorem dX9_readsNode_51 : decode cX9_readsNode 51 = .ok (.aload_n 0, 1) := by decide +kernel
theorem dX9_readsNode_52 : decode cX9_readsNode 52 = .ok (.iconst 1, 1) := by decide +kernel
theorem dX9_readsNode_53 : decode cX9_readsNode 53 = .ok (.invokevirtual 141, 3) := by decide +kernel
theorem dX9_readsNode_56 : decode cX9_readsNode 56 = .ok (.aload_n 0, 1) := by decide +kernel
theorem dX9_readsNode_57 : decode cX9_readsNode 57 = .ok (.bipush 58, 2) := by decide +kernel
theorem dX9_readsNode_59 : decode cX9_readsNode 59 = .ok (.invokevirtual 154, 3) := by decide +kernel
theorem dX9_readsNode_62 : decode cX9_readsNode 62 = .ok (.ifCond .eq 7, 3) := by decide +kernel
theorem dX9_readsNode_65 : decode cX9_readsNode 65 = .ok (.iconst 0, 1) := by decide +kernel
theorem dX9_readsNode_66 : decode cX9_readsNode 66 = .ok (.goto 17, 3) := by decide +kernel
theorem dX9_readsNode_69 : decode cX9_readsNode 69 = .ok (.aload_n 0, 1) := by decide +kernel
theorem dX9_readsNode_70 : decode cX9_readsNode 70 = .ok (.bipush 64, 2) := by decide +kernel
theorem dX9_readsNode_72 : decode cX9_readsNode 72 = .ok (.invokevirtual 154, 3) := by decide +kernel
theorem dX9_readsNode_75 : decode cX9_readsNode 75 = .ok (.ifCond .eq 7, 3) := by decide +kernel
theorem dX9_readsNode_78 : decode cX9_readsNode 78 = .ok (.iconst 1, 1) := by decide +kernel
theorem dX9_readsNode_79 : decode cX9_readsNode 79 = .ok (.goto 4, 3) := by decide +kernel
theorem dX9_readsNode_82 : decode cX9_readsNode 82 = .ok (.iconst 2, 1) := by decide +kernel
theorem dX9_readsNode_83 : decode cX9_readsNode 83 = .ok (.istore_n 2, 1) := by decide +kernel
theorem dX9_readsNode_84 : decode cX9_readsNode 84 = .ok (.aload_n 0, 1) := by decide +kernel
theorem dX9_readsNode_85 : decode cX9_readsNode 85 = .ok (.aload_n 0, 1) := by decide +kernel
theorem dX9_readsNode_86 : decode cX9_readsNode 86 = .ok (.bipush 58, 2) := by decide +kernel
theorem dX9_readsNode_88 : decode cX9_readsNode 88 = .ok (.invokevirtual 154, 3) := by decide +kernel
theorem dX9_readsNode_91 : decode cX9_readsNode 91 = .ok (.ifCond .eq 12, 3) := by decide +kernel
theorem dX9_readsNode_94 : decode cX9_readsNode 94 = .ok (.aload_n 0, 1) := by decide +kernel
theorem dX9_readsNode_95 : decode cX9_readsNode 95 = .ok (.getfield 191, 3) := by decide +kernel
theorem dX9_readsNode_98 : decode cX9_readsNode 98 = .ok (.bipush 6, 2) := by decide +kernel
theorem dX9_readsNode_100 : decode cX9_readsNode 100 = .ok (.if_icmp .lt 29, 3) := by decide +kernel
theorem dX9_readsNode_103 : decode cX9_readsNode 103 = .ok (.aload_n 0, 1) := by decide +kernel
theorem dX9_readsNode_104 : decode cX9_readsNode 104 = .ok (.bipush 64, 2) := by decide +kernel
theorem dX9_readsNode_106 : decode cX9_readsNode 106 = .ok (.invokevirtual 154, 3) := by decide +kernel
theorem dX9_readsNode_109 : decode cX9_readsNode 109 = .ok (.ifCond .ne 20, 3) := by decide +kernel
theorem dX9_readsNode_112 : decode cX9_readsNode 112 = .ok (.aload_n 0, 1) := by decide +kernel
theorem dX9_readsNode_113 : decode cX9_readsNode 113 = .ok (.bipush 61, 2) := by decide +kernel
theorem dX9_readsNode_115 : decode cX9_readsNode 115 = .ok (.invokevirtual 154, 3) := by decide +kernel
theorem dX9_readsNode_118 : decode cX9_readsNode 118 = .ok (.ifCond .eq 15, 3) := by decide +kernel
theorem dX9_readsNode_121 : decode cX9_readsNode 121 = .ok (.aload_n 0, 1) := by decide +kernel
theorem dX9_readsNode_122 : decode cX9_readsNode 122 = .ok (.getfield 157, 3) := by decide +kernel
theorem dX9_readsNode_125 : decode cX9_readsNode 125 = .ok (.iconst 4, 1) := by decide +kernel
theorem dX9_readsNode_126 : decode cX9_readsNode 126 = .ok (.if_icmp .ge 7, 3) := by decide +kernel
theorem dX9_readsNode_129 : decode cX9_readsNode 129 = .ok (.iconst 1, 1) := by decide +kernel
theorem dX9_readsNode_130 : decode cX9_readsNode 130 = .ok (.goto 4, 3) := by decide +kernel
theorem dX9_readsNode_133 : decode cX9_readsNode 133 = .ok (.iconst 0, 1) := by decide +kernel
theorem dX9_readsNode_134 : decode cX9_readsNode 134 = .ok (.invokevirtual 125, 3) := by decide +kernel
theorem dX9_readsNode_137 : decode cX9_readsNode 137 = .ok (.aload_n 0, 1) := by decide +kernel
theorem dX9_readsNode_138 : decode cX9_readsNode 138 = .ok (.iconst 1, 1) := by decide +kernel
theorem dX9_readsNode_139 : decode cX9_readsNode 139 = .ok (.invokevirtual 141, 3) := by decide +kernel
theorem dX9_readsNode_142 : decode cX9_readsNode 142 = .ok (.bipush (-9), 2) := by decide +kernel
theorem dX9_readsNode_144 : decode cX9_readsNode 144 = .ok (.istore_n 3, 1) := by decide +kernel
theorem dX9_readsNode_145 : decode cX9_readsNode 145 = .ok (.bipush (-9), 2) := by decide +kernel
theorem dX9_readsNode_147 : decode cX9_readsNode 147 = .ok (.istore 4, 2) := by decide +kernel
theorem dX9_readsNode_149 : decode cX9_readsNode 149 = .ok (.aload_n 0, 1) := by decide +kernel
theorem dX9_readsNode_150 : decode cX9_readsNode 150 = .ok (.getfield 122, 3) := by decide +kernel
theorem dX9_readsNode_153 : decode cX9_readsNode 153 = .ok (.bipush (-9), 2) := by decide +kernel
theorem dX9_readsNode_155 : decode cX9_readsNode 155 = .ok (.if_icmp .ne 50, 3) := by decide +kernel
theorem dX9_readsNode_158 : decode cX9_readsNode 158 = .ok (.iload_n 2, 1) := by decide +kernel
theorem dX9_readsNode_159 : decode cX9_readsNode 159 = .ok (.ifCond .ne 46, 3) := by decide +kernel
theorem dX9_readsNode_162 : decode cX9_readsNode 162 = .ok (.aload_n 0, 1) := by decide +kernel
theorem dX9_readsNode_163 : decode cX9_readsNode 163 = .ok (.aload_n 0, 1) := by decide +kernel
theorem dX9_readsNode_164 : decode cX9_readsNode 164 = .ok (.getfield 109, 3) := by decide +kernel
theorem dX9_readsNode_167 : decode cX9_readsNode 167 = .ok (.iconst 2, 1) := by decide +kernel
theorem dX9_readsNode_168 : decode cX9_readsNode 168 = .ok (.if_icmp .ne 20, 3) := by decide +kernel
theorem dX9_readsNode_171 : decode cX9_readsNode 171 = .ok (.aload_n 0, 1) := by decide +kernel
theorem dX9_readsNode_172 : decode cX9_readsNode 172 = .ok (.getfield 116, 3) := by decide +kernel
theorem dX9_readsNode_175 : decode cX9_readsNode 175 = .ok (.iconst 1, 1) := by decide +kernel
theorem dX9_readsNode_176 : decode cX9_readsNode 176 = .ok (.bipush 8, 2) := by decide +kernel
theorem dX9_readsNode_178 : decode cX9_readsNode 178 = .ok (.invokestatic 95, 3) := by decide +kernel
theorem dX9_readsNode_181 : decode cX9_readsNode 181 = .ok (.ifCond .eq 7, 3) := by decide +kernel
theorem dX9_readsNode_184 : decode cX9_readsNode 184 = .ok (.iconst 1, 1) := by decide +kernel
theorem dX9_readsNode_185 : decode cX9_readsNode 185 = .ok (.goto 4, 3) := by decide +kernel
theorem dX9_readsNode_188 : decode cX9_readsNode 188 = .ok (.iconst 0, 1) := by decide +kernel
theorem dX9_readsNode_189 : decode cX9_readsNode 189 = .ok (.invokevirtual 125, 3) := by decide +kernel
theorem dX9_readsNode_192 : decode cX9_readsNode 192 = .ok (.aload_n 0, 1) := by decide +kernel
theorem dX9_readsNode_193 : decode cX9_readsNode 193 = .ok (.getfield 116, 3) := by decide +kernel
theorem dX9_readsNode_196 : decode cX9_readsNode 196 = .ok (.istore_n 3, 1) := by decide +kernel
theorem dX9_readsNode_197 : decode cX9_readsNode 197 = .ok (.aload_n 0, 1) := by decide +kernel
theorem dX9_readsNode_198 : decode cX9_readsNode 198 = .ok (.iconst 1, 1) := by decide +kernel
theorem dX9_readsNode_199 : decode cX9_readsNode 199 = .ok (.invokevirtual 141, 3) := by decide +kernel
theorem dX9_readsNode_202 : decode cX9_readsNode 202 = .ok (.goto 39, 3) := by decide +kernel
theorem dX9_readsNode_205 : decode cX9_readsNode 205 = .ok (.aload_n 0, 1) := by decide +kernel
theorem dX9_readsNode_206 : decode cX9_readsNode 206 = .ok (.getfield 122, 3) := by decide +kernel
theorem dX9_readsNode_209 : decode cX9_readsNode 209 = .ok (.bipush (-9), 2) := by decide +kernel
theorem dX9_readsNode_211 : decode cX9_readsNode 211 = .ok (.if_icmp .ne 17, 3) := by decide +kernel
theorem dX9_readsNode_214 : decode cX9_readsNode 214 = .ok (.iload_n 2, 1) := by decide +kernel
theorem dX9_readsNode_215 : decode cX9_readsNode 215 = .ok (.iconst 1, 1) := by decide +kernel
theorem dX9_readsNode_216 : decode cX9_readsNode 216 = .ok (.if_icmp .ne 12, 3) := by decide +kernel
theorem dX9_readsNode_219 : decode cX9_readsNode 219 = .ok (.aload_n 0, 1) := by decide +kernel
theorem dX9_readsNode_220 : decode cX9_readsNode 220 = .ok (.invokevirtual 177, 3) := by decide +kernel
theorem dX9_readsNode_223 : decode cX9_readsNode 223 = .ok (.istore 4, 2) := by decide +kernel
theorem dX9_readsNode_225 : decode cX9_readsNode 225 = .ok (.goto 16, 3) := by decide +kernel
theorem dX9_readsNode_228 : decode cX9_readsNode 228 = .ok (.aload_n 0, 1) := by decide +kernel
theorem dX9_readsNode_229 : decode cX9_readsNode 229 = .ok (.getfield 122, 3) := by decide +kernel
theorem dX9_readsNode_232 : decode cX9_readsNode 232 = .ok (.bipush (-9), 2) := by decide +kernel
theorem dX9_readsNode_234 : decode cX9_readsNode 234 = .ok (.if_icmp .ne 7, 3) := by decide +kernel
theorem dX9_readsNode_237 : decode cX9_readsNode 237 = .ok (.aload_n 0, 1) := by decide +kernel
theorem dX9_readsNode_238 : decode cX9_readsNode 238 = .ok (.invokevirtual 194, 3) := by decide +kernel
theorem dX9_readsNode_241 : decode cX9_readsNode 241 = .ok (.aload_n 0, 1) := by decide +kernel
theorem dX9_readsNode_242 : decode cX9_readsNode 242 = .ok (.getfield 122, 3) := by decide +kernel
theorem dX9_readsNode_245 : decode cX9_readsNode 245 = .ok (.bipush (-9), 2) := by decide +kernel
theorem dX9_readsNode_247 : decode cX9_readsNode 247 = .ok (.if_icmp .ne 158, 3) := by decide +kernel
theorem dX9_readsNode_250 : decode cX9_readsNode 250 = .ok (.aload_n 0, 1) := by decide +kernel
theorem dX9_readsNode_251 : decode cX9_readsNode 251 = .ok (.getfield 41, 3) := by decide +kernel
theorem dX9_readsNode_254 : decode cX9_readsNode 254 = .ok (.bipush 6, 2) := by decide +kernel
theorem dX9_readsNode_256 : decode cX9_readsNode 256 = .ok (.aload_n 0, 1) := by decide +kernel
theorem dX9_readsNode_257 : decode cX9_readsNode 257 = .ok (.getfield 132, 3) := by decide +kernel
theorem dX9_readsNode_260 : decode cX9_readsNode 260 = .ok (.imul, 1) := by decide +kernel
theorem dX9_readsNode_261 : decode cX9_readsNode 261 = .ok (.iconst 0, 1) := by decide +kernel
theorem dX9_readsNode_262 : decode cX9_readsNode 262 = .ok (.iadd, 1) := by decide +kernel
theorem dX9_readsNode_263 : decode cX9_readsNode 263 = .ok (.iload_n 2, 1) := by decide +kernel
theorem dX9_readsNode_264 : decode cX9_readsNode 264 = .ok (.iastore, 1) := by decide +kernel
theorem dX9_readsNode_265 : decode cX9_readsNode 265 = .ok (.aload_n 0, 1) := by decide +kernel
theorem dX9_readsNode_266 : decode cX9_readsNode 266 = .ok (.getfield 41, 3) := by decide +kernel
theorem dX9_readsNode_269 : decode cX9_readsNode 269 = .ok (.bipush 6, 2) := by decide +kernel
theorem dX9_readsNode_271 : decode cX9_readsNode 271 = .ok (.aload_n 0, 1) := by decide +kernel
theorem dX9_readsNode_272 : decode cX9_readsNode 272 = .ok (.getfield 132, 3) := by decide +kernel
theorem dX9_readsNode_275 : decode cX9_readsNode 275 = .ok (.imul, 1) := by decide +kernel
theorem dX9_readsNode_276 : decode cX9_readsNode 276 = .ok (.iconst 1, 1) := by decide +kernel
theorem dX9_readsNode_277 : decode cX9_readsNode 277 = .ok (.iadd, 1) := by decide +kernel
theorem dX9_readsNode_278 : decode cX9_readsNode 278 = .ok (.iload_n 3, 1) := by decide +kernel
theorem dX9_readsNode_279 : decode cX9_readsNode 279 = .ok (.iastore, 1) := by decide +kernel
theorem dX9_readsNode_280 : decode cX9_readsNode 280 = .ok (.aload_n 0, 1) := by decide +kernel
theorem dX9_readsNode_281 : decode cX9_readsNode 281 = .ok (.getfield 41, 3) := by decide +kernel
theorem dX9_readsNode_284 : decode cX9_readsNode 284 = .ok (.bipush 6, 2) := by decide +kernel
theorem dX9_readsNode_286 : decode cX9_readsNode 286 = .ok (.aload_n 0, 1) := by decide +kernel
theorem dX9_readsNode_287 : decode cX9_readsNode 287 = .ok (.getfield 132, 3) := by decide +kernel
theorem dX9_readsNode_290 : decode cX9_readsNode 290 = .ok (.imul, 1) := by decide +kernel
theorem dX9_readsNode_291 : decode cX9_readsNode 291 = .ok (.iconst 2, 1) := by decide +kernel
theorem dX9_readsNode_292 : decode cX9_readsNode 292 = .ok (.iadd, 1) := by decide +kernel
theorem dX9_readsNode_293 : decode cX9_readsNode 293 = .ok (.iload 4, 2) := by decide +kernel
theorem dX9_readsNode_295 : decode cX9_readsNode 295 = .ok (.iastore, 1) := by decide +kernel
theorem dX9_readsNode_296 : decode cX9_readsNode 296 = .ok (.aload_n 0, 1) := by decide +kernel
theorem dX9_readsNode_297 : decode cX9_readsNode 297 = .ok (.getfield 41, 3) := by decide +kernel
theorem dX9_readsNode_300 : decode cX9_readsNode 300 = .ok (.bipush 6, 2) := by decide +kernel
theorem dX9_readsNode_302 : decode cX9_readsNode 302 = .ok (.aload_n 0, 1) := by decide +kernel
theorem dX9_readsNode_303 : decode cX9_readsNode 303 = .ok (.getfield 132, 3) := by decide +kernel
theorem dX9_readsNode_306 : decode cX9_readsNode 306 = .ok (.imul, 1) := by decide +kernel
theorem dX9_readsNode_307 : decode cX9_readsNode 307 = .ok (.iconst 3, 1) := by decide +kernel
theorem dX9_readsNode_308 : decode cX9_readsNode 308 = .ok (.iadd, 1) := by decide +kernel
theorem dX9_readsNode_309 : decode cX9_readsNode 309 = .ok (.aload_n 0, 1) := by decide +kernel
theorem dX9_readsNode_310 : decode cX9_readsNode 310 = .ok (.getfield 144, 3) := by decide +kernel
theorem dX9_readsNode_313 : decode cX9_readsNode 313 = .ok (.iastore, 1) := by decide +kernel
theorem dX9_readsNode_314 : decode cX9_readsNode 314 = .ok (.aload_n 0, 1) := by decide +kernel
theorem dX9_readsNode_315 : decode cX9_readsNode 315 = .ok (.getfield 41, 3) := by decide +kernel
theorem dX9_readsNode_318 : decode cX9_readsNode 318 = .ok (.bipush 6, 2) := by decide +kernel
theorem dX9_readsNode_320 : decode cX9_readsNode 320 = .ok (.aload_n 0, 1) := by decide +kernel
theorem dX9_readsNode_321 : decode cX9_readsNode 321 = .ok (.getfield 132, 3) := by decide +kernel
theorem dX9_readsNode_324 : decode cX9_readsNode 324 = .ok (.imul, 1) := by decide +kernel
theorem dX9_readsNode_325 : decode cX9_readsNode 325 = .ok (.iconst 4, 1) := by decide +kernel
theorem dX9_readsNode_326 : decode cX9_readsNode 326 = .ok (.iadd, 1) := by decide +kernel
theorem dX9_readsNode_327 : decode cX9_readsNode 327 = .ok (.iload_n 1, 1) := by decide +kernel
theorem dX9_readsNode_328 : decode cX9_readsNode 328 = .ok (.iastore, 1) := by decide +kernel
theorem dX9_readsNode_329 : decode cX9_readsNode 329 = .ok (.aload_n 0, 1) := by decide +kernel
theorem dX9_readsNode_330 : decode cX9_readsNode 330 = .ok (.getfield 41, 3) := by decide +kernel
theorem dX9_readsNode_333 : decode cX9_readsNode 333 = .ok (.bipush 6, 2) := by decide +kernel
theorem dX9_readsNode_335 : decode cX9_readsNode 335 = .ok (.aload_n 0, 1) := by decide +kernel
theorem dX9_readsNode_336 : decode cX9_readsNode 336 = .ok (.getfield 132, 3) := by decide +kernel
theorem dX9_readsNode_339 : decode cX9_readsNode 339 = .ok (.imul, 1) := by decide +kernel
theorem dX9_readsNode_340 : decode cX9_readsNode 340 = .ok (.iconst 5, 1) := by decide +kernel
theorem dX9_readsNode_341 : decode cX9_readsNode 341 = .ok (.iadd, 1) := by decide +kernel
theorem dX9_readsNode_342 : decode cX9_readsNode 342 = .ok (.iload_n 2, 1) := by decide +kernel
theorem dX9_readsNode_343 : decode cX9_readsNode 343 = .ok (.ifCond .ne 10, 3) := by decide +kernel
theorem dX9_readsNode_346 : decode cX9_readsNode 346 = .ok (.aload_n 0, 1) := by decide +kernel
theorem dX9_readsNode_347 : decode cX9_readsNode 347 = .ok (.getfield 191, 3) := by decide +kernel
theorem dX9_readsNode_350 : decode cX9_readsNode 350 = .ok (.goto 7, 3) := by decide +kernel
theorem dX9_readsNode_353 : decode cX9_readsNode 353 = .ok (.aload_n 0, 1) := by decide +kernel
theorem dX9_readsNode_354 : decode cX9_readsNode 354 = .ok (.getfield 157, 3) := by decide +kernel
theorem dX9_readsNode_357 : decode cX9_readsNode 357 = .ok (.iastore, 1) := by decide +kernel
theorem dX9_readsNode_358 : decode cX9_readsNode 358 = .ok (.aload_n 0, 1) := by decide +kernel
theorem dX9_readsNode_359 : decode cX9_readsNode 359 = .ok (.dup, 1) := by decide +kernel
theorem dX9_readsNode_360 : decode cX9_readsNode 360 = .ok (.getfield 132, 3) := by decide +kernel
theorem dX9_readsNode_363 : decode cX9_readsNode 363 = .ok (.iconst 1, 1) := by decide +kernel
theorem dX9_readsNode_364 : decode cX9_readsNode 364 = .ok (.iadd, 1) := by decide +kernel
theorem dX9_readsNode_365 : decode cX9_readsNode 365 = .ok (.putfield 132, 3) := by decide +kernel
theorem dX9_readsNode_368 : decode cX9_readsNode 368 = .ok (.aload_n 0, 1) := by decide +kernel
theorem dX9_readsNode_369 : decode cX9_readsNode 369 = .ok (.dup, 1) := by decide +kernel
theorem dX9_readsNode_370 : decode cX9_readsNode 370 = .ok (.getfield 191, 3) := by decide +kernel
theorem dX9_readsNode_373 : decode cX9_readsNode 373 = .ok (.iload_n 2, 1) := by decide +kernel
theorem dX9_readsNode_374 : decode cX9_readsNode 374 = .ok (.ifCond .ne 7, 3) := by decide +kernel
theorem dX9_readsNode_377 : decode cX9_readsNode 377 = .ok (.iconst 1, 1) := by decide +kernel
theorem dX9_readsNode_378 : decode cX9_readsNode 378 = .ok (.goto 4, 3) := by decide +kernel
theorem dX9_readsNode_381 : decode cX9_readsNode 381 = .ok (.iconst 0, 1) := by decide +kernel
theorem dX9_readsNode_382 : decode cX9_readsNode 382 = .ok (.iadd, 1) := by decide +kernel
theorem dX9_readsNode_383 : decode cX9_readsNode 383 = .ok (.putfield 191, 3) := by decide +kernel
theorem dX9_readsNode_386 : decode cX9_readsNode 386 = .ok (.aload_n 0, 1) := by decide +kernel
theorem dX9_readsNode_387 : decode cX9_readsNode 387 = .ok (.dup, 1) := by decide +kernel
theorem dX9_readsNode_388 : decode cX9_readsNode 388 = .ok (.getfield 157, 3) := by decide +kernel
theorem dX9_readsNode_391 : decode cX9_readsNode 391 = .ok (.iload_n 2, 1) := by decide +kernel
theorem dX9_readsNode_392 : decode cX9_readsNode 392 = .ok (.iconst 2, 1) := by decide +kernel
theorem dX9_readsNode_393 : decode cX9_readsNode 393 = .ok (.if_icmp .ne 7, 3) := by decide +kernel
theorem dX9_readsNode_396 : decode cX9_readsNode 396 = .ok (.iconst 1, 1) := by decide +kernel
theorem dX9_readsNode_397 : decode cX9_readsNode 397 = .ok (.goto 4, 3) := by decide +kernel
theorem dX9_readsNode_400 : decode cX9_readsNode 400 = .ok (.iconst 0, 1) := by decide +kernel
theorem dX9_readsNode_401 : decode cX9_readsNode 401 = .ok (.iadd, 1) := by decide +kernel
theorem dX9_readsNode_402 : decode cX9_readsNode 402 = .ok (.putfield 157, 3) := by decide +kernel
theorem dX9_readsNode_405 : decode cX9_readsNode 405 = .ok (.return_, 1) := by decide +kernel
theorem bX9_readsNode_0 {d : Nat} {Q : Option jA → jH → Prop} (a0 : Nat) (u1 : Option jA) (u2 : Option jA) (u3 : Option jA) (u4 : Option jA) (h : jH)
    (s1 : (jS h a0).1 = 9)
    (k1 : (12 ≤ (jI h a0 22)) → V MX9_readsNode (d + 7) 47 [some (.inr a0), some (.inl (jI h a0 19)), u2, u3, u4] [.inr a0] h 0 0 Q)
    (e1 : (¬ (12 ≤ (jI h a0 22))) → Ex MX9_newNodeBy d [.inr a0, .inl (jI h a0 30), .inl (jI h a0 19)] h 0 0 (fun v h2 => V MX9_readsNode (d + 7) 24 [some (.inr a0), some (.inl (jI h a0 19)), u2, u3, u4] (v.toList ++ [.inr a0]) h2 0 0 Q)) :
    V MX9_readsNode (d + 7) 0 [some (.inr a0), u1, u2, u3, u4] [] h 0 0 Q := by
  refine V_aload_n (i := 0) dX9_readsNode_0 rfl rfl ?_
  refine V_getI dX9_readsNode_1 fX9_116 rfl s1 ?_
  refine V_istore_n (i := 1) dX9_readsNode_4 rfl (by decide) ?_
  refine V_aload_n (i := 0) dX9_readsNode_5 rfl rfl ?_
  refine V_aload_n (i := 0) dX9_readsNode_6 rfl rfl ?_
  refine V_getI dX9_readsNode_7 fX9_132 rfl s1 ?_
  refine V_bipush dX9_readsNode_10 (by decide +kernel) ⟨by decide, by decide⟩ ?_
  refine V_icmp_ge (tgt := 47) dX9_readsNode_12 (by decide) (fun c1 => ?_) (fun c1 => ?_)
  · exact (k1 c1)
  · refine V_aload_n (i := 0) dX9_readsNode_15 rfl rfl ?_
    refine V_aload_n (i := 0) dX9_readsNode_16 rfl rfl ?_
    refine V_getI dX9_readsNode_17 fX9_144 rfl s1 ?_
    refine V_iload_n (i := 1) dX9_readsNode_20 rfl rfl ?_
    exact V_callV (M := MX9_readsNode) (d := (d + 7)) (mc' := 0) (ms' := 0) (mc := 0) (ms := 0) (As := [.inl (jI h a0 30), .inl (jI h a0 19)]) (rest := [.inr a0]) dX9_readsNode_21 tX9_newNodeBy vX9_newNodeBy lX9_147 s1 ⟨by decide, rfl⟩ rfl rfl (Nat.le_of_ble_eq_true rfl) (show d + 1 ≤ (d + 7) by omega) (e1 c1)
theorem bX9_readsNode_47 {d : Nat} {Q : Option jA → jH → Prop} (a0 : Nat) (i1 : Int) (u2 : Option jA) (u3 : Option jA) (u4 : Option jA) (q0 : Nat) (h : jH)
    (k1 : V MX9_readsNode (d + 7) 48 [some (.inr a0), some (.inl i1), u2, u3, u4] [.inl 0, .inr q0] h 0 0 Q) :
    V MX9_readsNode (d + 7) 47 [some (.inr a0), some (.inl i1), u2, u3, u4] [.inr q0] h 0 0 Q := by
  refine V_iconst dX9_readsNode_47 ⟨by decide, by decide⟩ ?_
  exact k1
theorem bX9_readsNode_48 {d : Nat} {Q : Option jA → jH → Prop} (a0 : Nat) (i1 : Int) (u2 : Option jA) (u3 : Option jA) (u4 : Option jA) (p0 : Int) (q1 : Nat) (h : jH)
    (e1 : Ex MX9_due d [.inr q1, .inl p0] h 0 0 (fun v h2 => V MX9_readsNode (d + 7) 51 [some (.inr a0), some (.inl i1), u2, u3, u4] (v.toList ++ []) h2 0 0 Q))
    (s1 : (jS h q1).1 = 9) :
    V MX9_readsNode (d + 7) 48 [some (.inr a0), some (.inl i1), u2, u3, u4] [.inl p0, .inr q1] h 0 0 Q := by
  exact V_callV (M := MX9_readsNode) (d := (d + 7)) (mc' := 0) (ms' := 0) (mc := 0) (ms := 0) (As := [.inl p0]) (rest := []) dX9_readsNode_48 tX9_due vX9_due lX9_125 s1 ⟨by decide, rfl⟩ rfl rfl (Nat.le_of_ble_eq_true rfl) (show d + 1 ≤ (d + 7) by omega) e1
theorem bX9_readsNode_83 {d : Nat} {Q : Option jA → jH → Prop} (a0 : Nat) (i1 : Int) (u2 : Option jA) (u3 : Option jA) (u4 : Option jA) (p0 : Int) (h : jH)
    (s1 : (jS h a0).1 = 9)
    (k1 : (¬ ((jI h a0 18) = 3 ∧ (jI h a0 19) = 58)) → V MX9_readsNode (d + 7) 103 [some (.inr a0), some (.inl i1), some (.inl p0), u3, u4] [.inr a0] h 0 0 Q)
    (k2 : ((jI h a0 18) = 3 ∧ (jI h a0 19) = 58) → ((jI h a0 23) < 6) → V MX9_readsNode (d + 7) 129 [some (.inr a0), some (.inl i1), some (.inl p0), u3, u4] [.inr a0] h 0 0 Q)
    (k3 : ((jI h a0 18) = 3 ∧ (jI h a0 19) = 58) → (¬ ((jI h a0 23) < 6)) → V MX9_readsNode (d + 7) 103 [some (.inr a0), some (.inl i1), some (.inl p0), u3, u4] [.inr a0] h 0 0 Q) :
    V MX9_readsNode (d + 7) 83 [some (.inr a0), some (.inl i1), u2, u3, u4] [.inl p0] h 0 0 Q := by
  refine V_istore_n (i := 2) dX9_readsNode_83 rfl (by decide) ?_
  refine V_aload_n (i := 0) dX9_readsNode_84 rfl rfl ?_
  refine V_aload_n (i := 0) dX9_readsNode_85 rfl rfl ?_
  refine V_bipush dX9_readsNode_86 (by decide +kernel) ⟨by decide, by decide⟩ ?_
  refine V_callV (M := MX9_readsNode) (d := (d + 7)) (mc' := 0) (ms' := 0) (mc := 0) (ms := 0) (As := [.inl 58]) (rest := [.inr a0]) dX9_readsNode_88 tX9_is vX9_is lX9_154 s1 ⟨by decide, rfl⟩ rfl rfl (Nat.le_of_ble_eq_true rfl) (show d + 1 ≤ (d + 7) by omega) (Ex.mono (pX9_is (d := d) s1) ?_)
  intro v h2 hq
  rw [hq.1, hq.2]
  show V MX9_readsNode (d + 7) 91 [some (.inr a0), some (.inl i1), some (.inl p0), u3, u4] [.inl (jb ((jI h a0 18) = 3 ∧ (jI h a0 19) = 58)), .inr a0] h 0 0 Q
  refine V_ifb_eq (tgt := 103) dX9_readsNode_91 (by decide) (fun c1 => ?_) (fun c1 => ?_)
  · exact (k1 c1)
  · refine V_aload_n (i := 0) dX9_readsNode_94 rfl rfl ?_
    refine V_getI dX9_readsNode_95 fX9_191 rfl s1 ?_
    refine V_bipush dX9_readsNode_98 (by decide +kernel) ⟨by decide, by decide⟩ ?_
    refine V_icmp_lt (tgt := 129) dX9_readsNode_100 (by decide) (fun c2 => ?_) (fun c2 => ?_)
    · exact (k2 c1 c2)
    · exact (k3 c1 c2)
theorem bX9_readsNode_103 {d : Nat} {Q : Option jA → jH → Prop} (a0 : Nat) (i1 : Int) (i2 : Int) (u3 : Option jA) (u4 : Option jA) (q0 : Nat) (h : jH)
    (s1 : (jS h a0).1 = 9)
    (k1 : ((jI h a0 18) = 3 ∧ (jI h a0 19) = 64) → V MX9_readsNode (d + 7) 129 [some (.inr a0), some (.inl i1), some (.inl i2), u3, u4] [.inr q0] h 0 0 Q)
    (k2 : (¬ ((jI h a0 18) = 3 ∧ (jI h a0 19) = 64)) → (¬ ((jI h a0 18) = 3 ∧ (jI h a0 19) = 61)) → V MX9_readsNode (d + 7) 133 [some (.inr a0), some (.inl i1), some (.inl i2), u3, u4] [.inr q0] h 0 0 Q)
    (k3 : (¬ ((jI h a0 18) = 3 ∧ (jI h a0 19) = 64)) → ((jI h a0 18) = 3 ∧ (jI h a0 19) = 61) → (4 ≤ (jI h a0 24)) → V MX9_readsNode (d + 7) 133 [some (.inr a0), some (.inl i1), some (.inl i2), u3, u4] [.inr q0] h 0 0 Q)
    (k4 : (¬ ((jI h a0 18) = 3 ∧ (jI h a0 19) = 64)) → ((jI h a0 18) = 3 ∧ (jI h a0 19) = 61) → (¬ (4 ≤ (jI h a0 24))) → V MX9_readsNode (d + 7) 129 [some (.inr a0), some (.inl i1), some (.inl i2), u3, u4] [.inr q0] h 0 0 Q) :
    V MX9_readsNode (d + 7) 103 [some (.inr a0), some (.inl i1), some (.inl i2), u3, u4] [.inr q0] h 0 0 Q := by
  refine V_aload_n (i := 0) dX9_readsNode_103 rfl rfl ?_
  refine V_bipush dX9_readsNode_104 (by decide +kernel) ⟨by decide, by decide⟩ ?_
  refine V_callV (M := MX9_readsNode) (d := (d + 7)) (mc' := 0) (ms' := 0) (mc := 0) (ms := 0) (As := [.inl 64]) (rest := [.inr q0]) dX9_readsNode_106 tX9_is vX9_is lX9_154 s1 ⟨by decide, rfl⟩ rfl rfl (Nat.le_of_ble_eq_true rfl) (show d + 1 ≤ (d + 7) by omega) (Ex.mono (pX9_is (d := d) s1) ?_)
  intro v h2 hq
  rw [hq.1, hq.2]
  show V MX9_readsNode (d + 7) 109 [some (.inr a0), some (.inl i1), some (.inl i2), u3, u4] [.inl (jb ((jI h a0 18) = 3 ∧ (jI h a0 19) = 64)), .inr q0] h 0 0 Q
  refine V_ifb_ne (tgt := 129) dX9_readsNode_109 (by decide) (fun c1 => ?_) (fun c1 => ?_)
  · exact (k1 c1)
  · refine V_aload_n (i := 0) dX9_readsNode_112 rfl rfl ?_
    refine V_bipush dX9_readsNode_113 (by decide +kernel) ⟨by decide, by decide⟩ ?_
    refine V_callV (M := MX9_readsNode) (d := (d + 7)) (mc' := 0) (ms' := 0) (mc := 0) (ms := 0) (As := [.inl 61]) (rest := [.inr q0]) dX9_readsNode_115 tX9_is vX9_is lX9_154 s1 ⟨by decide, rfl⟩ rfl rfl (Nat.le_of_ble_eq_true rfl) (show d + 1 ≤ (d + 7) by omega) (Ex.mono (pX9_is (d := d) s1) ?_)
    intro v h2 hq
    rw [hq.1, hq.2]
    show V MX9_readsNode (d + 7) 118 [some (.inr a0), some (.inl i1), some (.inl i2), u3, u4] [.inl (jb ((jI h a0 18) = 3 ∧ (jI h a0 19) = 61)), .inr q0] h 0 0 Q
    refine V_ifb_eq (tgt := 133) dX9_readsNode_118 (by decide) (fun c2 => ?_) (fun c2 => ?_)
    · exact (k2 c1 c2)
    · refine V_aload_n (i := 0) dX9_readsNode_121 rfl rfl ?_
      refine V_getI dX9_readsNode_122 fX9_157 rfl s1 ?_
      refine V_iconst dX9_readsNode_125 ⟨by decide, by decide⟩ ?_
      refine V_icmp_ge (tgt := 133) dX9_readsNode_126 (by decide) (fun c3 => ?_) (fun c3 => ?_)
      · exact (k3 c1 c2 c3)
      · exact (k4 c1 c2 c3)
theorem bX9_readsNode_129 {d : Nat} {Q : Option jA → jH → Prop} (a0 : Nat) (i1 : Int) (i2 : Int) (u3 : Option jA) (u4 : Option jA) (q0 : Nat) (h : jH)
    (k1 : V MX9_readsNode (d + 7) 134 [some (.inr a0), some (.inl i1), some (.inl i2), u3, u4] [.inl 1, .inr q0] h 0 0 Q) :
    V MX9_readsNode (d + 7) 129 [some (.inr a0), some (.inl i1), some (.inl i2), u3, u4] [.inr q0] h 0 0 Q := by
  refine V_iconst dX9_readsNode_129 ⟨by decide, by decide⟩ ?_
  refine V_goto (tgt := 134) dX9_readsNode_130 (by decide) ?_
  exact k1
theorem bX9_readsNode_133 {d : Nat} {Q : Option jA → jH → Prop} (a0 : Nat) (i1 : Int) (i2 : Int) (u3 : Option jA) (u4 : Option jA) (q0 : Nat) (h : jH)
    (k1 : V MX9_readsNode (d + 7) 134 [some (.inr a0), some (.inl i1), some (.inl i2), u3, u4] [.inl 0, .inr q0] h 0 0 Q) :
    V MX9_readsNode (d + 7) 133 [some (.inr a0), some (.inl i1), some (.inl i2), u3, u4] [.inr q0] h 0 0 Q := by
  refine V_iconst dX9_readsNode_133 ⟨by decide, by decide⟩ ?_
  exact k1
theorem bX9_readsNode_134 {d : Nat} {Q : Option jA → jH → Prop} (a0 : Nat) (i1 : Int) (i2 : Int) (u3 : Option jA) (u4 : Option jA) (p0 : Int) (q1 : Nat) (h : jH)
    (e1 : Ex MX9_due d [.inr q1, .inl p0] h 0 0 (fun v h2 => V MX9_readsNode (d + 7) 137 [some (.inr a0), some (.inl i1), some (.inl i2), u3, u4] (v.toList ++ []) h2 0 0 Q))
    (s1 : (jS h q1).1 = 9) :
    V MX9_readsNode (d + 7) 134 [some (.inr a0), some (.inl i1), some (.inl i2), u3, u4] [.inl p0, .inr q1] h 0 0 Q := by
  exact V_callV (M := MX9_readsNode) (d := (d + 7)) (mc' := 0) (ms' := 0) (mc := 0) (ms := 0) (As := [.inl p0]) (rest := []) dX9_readsNode_134 tX9_due vX9_due lX9_125 s1 ⟨by decide, rfl⟩ rfl rfl (Nat.le_of_ble_eq_true rfl) (show d + 1 ≤ (d + 7) by omega) e1
theorem bX9_readsNode_188 {d : Nat} {Q : Option jA → jH → Prop} (a0 : Nat) (i1 : Int) (i2 : Int) (i3 : Int) (i4 : Int) (q0 : Nat) (h : jH)
    (k1 : V MX9_readsNode (d + 7) 189 [some (.inr a0), some (.inl i1), some (.inl i2), some (.inl i3), some (.inl i4)] [.inl 0, .inr q0] h 0 0 Q) :
    V MX9_readsNode (d + 7) 188 [some (.inr a0), some (.inl i1), some (.inl i2), some (.inl i3), some (.inl i4)] [.inr q0] h 0 0 Q := by
  refine V_iconst dX9_readsNode_188 ⟨by decide, by decide⟩ ?_
  exact k1
theorem bX9_readsNode_189 {d : Nat} {Q : Option jA → jH → Prop} (a0 : Nat) (i1 : Int) (i2 : Int) (i3 : Int) (i4 : Int) (p0 : Int) (q1 : Nat) (h : jH)
    (e1 : Ex MX9_due d [.inr q1, .inl p0] h 0 0 (fun v h2 => V MX9_readsNode (d + 7) 192 [some (.inr a0), some (.inl i1), some (.inl i2), some (.inl i3), some (.inl i4)] (v.toList ++ []) h2 0 0 Q))
    (s1 : (jS h q1).1 = 9) :
    V MX9_readsNode (d + 7) 189 [some (.inr a0), some (.inl i1), some (.inl i2), some (.inl i3), some (.inl i4)] [.inl p0, .inr q1] h 0 0 Q := by
  exact V_callV (M := MX9_readsNode) (d := (d + 7)) (mc' := 0) (ms' := 0) (mc := 0) (ms := 0) (As := [.inl p0]) (rest := []) dX9_readsNode_189 tX9_due vX9_due lX9_125 s1 ⟨by decide, rfl⟩ rfl rfl (Nat.le_of_ble_eq_true rfl) (show d + 1 ≤ (d + 7) by omega) e1
theorem bX9_readsNode_205 {d : Nat} {Q : Option jA → jH → Prop} (a0 : Nat) (i1 : Int) (i2 : Int) (i3 : Int) (i4 : Int) (h : jH)
    (s1 : (jS h a0).1 = 9)
    (k1 : ((jI h a0 20) ≠ ((-9))) → V MX9_readsNode (d + 7) 228 [some (.inr a0), some (.inl i1), some (.inl i2), some (.inl i3), some (.inl i4)] [] h 0 0 Q)
    (k2 : ((jI h a0 20) = ((-9))) → (i2 ≠ 1) → V MX9_readsNode (d + 7) 228 [some (.inr a0), some (.inl i1), some (.inl i2), some (.inl i3), some (.inl i4)] [] h 0 0 Q)
    (e1 : ((jI h a0 20) = ((-9))) → (i2 = 1) → Ex MX9_readsPath (d + 4) [.inr a0] h 0 0 (fun v h2 => V MX9_readsNode (d + 7) 223 [some (.inr a0), some (.inl i1), some (.inl i2), some (.inl i3), some (.inl i4)] (v.toList ++ []) h2 0 0 Q)) :
    V MX9_readsNode (d + 7) 205 [some (.inr a0), some (.inl i1), some (.inl i2), some (.inl i3), some (.inl i4)] [] h 0 0 Q := by
  refine V_aload_n (i := 0) dX9_readsNode_205 rfl rfl ?_
  refine V_getI dX9_readsNode_206 fX9_122 rfl s1 ?_
  refine V_bipush dX9_readsNode_209 (by decide +kernel) ⟨by decide, by decide⟩ ?_
  refine V_icmp_ne (tgt := 228) dX9_readsNode_211 (by decide) (fun c1 => ?_) (fun c1 => ?_)
  · exact (k1 c1)
  · refine V_iload_n (i := 2) dX9_readsNode_214 rfl rfl ?_
    refine V_iconst dX9_readsNode_215 ⟨by decide, by decide⟩ ?_
    refine V_icmp_ne (tgt := 228) dX9_readsNode_216 (by decide) (fun c2 => ?_) (fun c2 => ?_)
    · exact (k2 c1 c2)
    · refine V_aload_n (i := 0) dX9_readsNode_219 rfl rfl ?_
      exact V_callV (M := MX9_readsNode) (d := (d + 7)) (mc' := 0) (ms' := 0) (mc := 0) (ms := 0) (As := []) (rest := []) dX9_readsNode_220 tX9_readsPath vX9_readsPath lX9_177 s1 ⟨by decide, rfl⟩ rfl rfl (Nat.le_of_ble_eq_true rfl) (show (d + 4) + 1 ≤ (d + 7) by omega) (e1 c1 c2)
theorem bX9_readsNode_228 {d : Nat} {Q : Option jA → jH → Prop} (a0 : Nat) (i1 : Int) (i2 : Int) (i3 : Int) (i4 : Int) (h : jH)
    (s1 : (jS h a0).1 = 9)
    (k1 : ((jI h a0 20) ≠ ((-9))) → V MX9_readsNode (d + 7) 241 [some (.inr a0), some (.inl i1), some (.inl i2), some (.inl i3), some (.inl i4)] [] h 0 0 Q)
    (e1 : ((jI h a0 20) = ((-9))) → Ex MX9_readsExpression (d + 6) [.inr a0] h 0 0 (fun v h2 => V MX9_readsNode (d + 7) 241 [some (.inr a0), some (.inl i1), some (.inl i2), some (.inl i3), some (.inl i4)] (v.toList ++ []) h2 0 0 Q)) :
    V MX9_readsNode (d + 7) 228 [some (.inr a0), some (.inl i1), some (.inl i2), some (.inl i3), some (.inl i4)] [] h 0 0 Q := by
  refine V_aload_n (i := 0) dX9_readsNode_228 rfl rfl ?_
  refine V_getI dX9_readsNode_229 fX9_122 rfl s1 ?_
  refine V_bipush dX9_readsNode_232 (by decide +kernel) ⟨by decide, by decide⟩ ?_
  refine V_icmp_ne (tgt := 241) dX9_readsNode_234 (by decide) (fun c1 => ?_) (fun c1 => ?_)
  · exact (k1 c1)
  · refine V_aload_n (i := 0) dX9_readsNode_237 rfl rfl ?_
    exact V_callV (M := MX9_readsNode) (d := (d + 7)) (mc' := 0) (ms' := 0) (mc := 0) (ms := 0) (As := []) (rest := []) dX9_readsNode_238 tX9_readsExpression vX9_readsExpression lX9_194 s1 ⟨by decide, rfl⟩ rfl rfl (Nat.le_of_ble_eq_true rfl) (show (d + 6) + 1 ≤ (d + 7) by omega) (e1 c1)
theorem bX9_readsNode_241 {d : Nat} {Q : Option jA → jH → Prop} (a0 : Nat) (i1 : Int) (i2 : Int) (i3 : Int) (i4 : Int) (h : jH)
    (s1 : (jS h a0).1 = 9)
    (k1 : ((jI h a0 20) ≠ ((-9))) → V MX9_readsNode (d + 7) 405 [some (.inr a0), some (.inl i1), some (.inl i2), some (.inl i3), some (.inl i4)] [] h 0 0 Q)
    (r1 : ((jI h a0 20) = ((-9))) → jR (6 * (jI h a0 22)))
    (r2 : ((jI h a0 20) = ((-9))) → jR ((6 * (jI h a0 22)) + 0))
    (s2 : (jS h (jP h a0 21)).1 = 16)
    (s3 : ((jI h a0 20) = ((-9))) → 0 ≤ (6 * (jI h a0 22)) + 0)
    (s4 : ((jI h a0 20) = ((-9))) → (6 * (jI h a0 22)) + 0 < ((jS h (jP h a0 21)).2 : Int))
    (r3 : ((jI h a0 20) = ((-9))) → jR (6 * (jI h a0 22)))
    (r4 : ((jI h a0 20) = ((-9))) → jR ((6 * (jI h a0 22)) + 1))
    (s5 : ((jI h a0 20) = ((-9))) → 0 ≤ (6 * (jI h a0 22)) + 1)
    (s6 : ((jI h a0 20) = ((-9))) → (6 * (jI h a0 22)) + 1 < ((jS h (jP h a0 21)).2 : Int))
    (r5 : ((jI h a0 20) = ((-9))) → jR (6 * (jI h a0 22)))
    (r6 : ((jI h a0 20) = ((-9))) → jR ((6 * (jI h a0 22)) + 2))
    (s7 : ((jI h a0 20) = ((-9))) → 0 ≤ (6 * (jI h a0 22)) + 2)
    (s8 : ((jI h a0 20) = ((-9))) → (6 * (jI h a0 22)) + 2 < ((jS h (jP h a0 21)).2 : Int))
    (r7 : ((jI h a0 20) = ((-9))) → jR (6 * (jI h a0 22)))
    (r8 : ((jI h a0 20) = ((-9))) → jR ((6 * (jI h a0 22)) + 3))
    (s9 : ((jI h a0 20) = ((-9))) → 0 ≤ (6 * (jI h a0 22)) + 3)
    (s10 : ((jI h a0 20) = ((-9))) → (6 * (jI h a0 22)) + 3 < ((jS h (jP h a0 21)).2 : Int))
    (r9 : ((jI h a0 20) = ((-9))) → jR (6 * (jI h a0 22)))
    (r10 : ((jI h a0 20) = ((-9))) → jR ((6 * (jI h a0 22)) + 4))
    (s11 : ((jI h a0 20) = ((-9))) → 0 ≤ (6 * (jI h a0 22)) + 4)
    (s12 : ((jI h a0 20) = ((-9))) → (6 * (jI h a0 22)) + 4 < ((jS h (jP h a0 21)).2 : Int))
    (r11 : ((jI h a0 20) = ((-9))) → jR (6 * (jI h a0 22)))
    (r12 : ((jI h a0 20) = ((-9))) → jR ((6 * (jI h a0 22)) + 5))
    (k2 : ((jI h a0 20) = ((-9))) → (i2 ≠ 0) → V MX9_readsNode (d + 7) 357 [some (.inr a0), some (.inl i1), some (.inl i2), some (.inl i3), some (.inl i4)] [.inl (jI h a0 24), .inl ((6 * (jI h a0 22)) + 5), .inr (jP h a0 21)] (jsX (jsX (jsX (jsX (jsX h (jP h a0 21) (((6 * (jI h a0 22)) + 0).toNat) i2) (jP h a0 21) (((6 * (jI h a0 22)) + 1).toNat) i3) (jP h a0 21) (((6 * (jI h a0 22)) + 2).toNat) i4) (jP h a0 21) (((6 * (jI h a0 22)) + 3).toNat) (jI h a0 30)) (jP h a0 21) (((6 * (jI h a0 22)) + 4).toNat) i1) 0 0 Q)
    (k3 : ((jI h a0 20) = ((-9))) → (i2 = 0) → V MX9_readsNode (d + 7) 357 [some (.inr a0), some (.inl i1), some (.inl i2), some (.inl i3), some (.inl i4)] [.inl (jI h a0 23), .inl ((6 * (jI h a0 22)) + 5), .inr (jP h a0 21)] (jsX (jsX (jsX (jsX (jsX h (jP h a0 21) (((6 * (jI h a0 22)) + 0).toNat) i2) (jP h a0 21) (((6 * (jI h a0 22)) + 1).toNat) i3) (jP h a0 21) (((6 * (jI h a0 22)) + 2).toNat) i4) (jP h a0 21) (((6 * (jI h a0 22)) + 3).toNat) (jI h a0 30)) (jP h a0 21) (((6 * (jI h a0 22)) + 4).toNat) i1) 0 0 Q) :
    V MX9_readsNode (d + 7) 241 [some (.inr a0), some (.inl i1), some (.inl i2), some (.inl i3), some (.inl i4)] [] h 0 0 Q := by
  refine V_aload_n (i := 0) dX9_readsNode_241 rfl rfl ?_
  refine V_getI dX9_readsNode_242 fX9_122 rfl s1 ?_
  refine V_bipush dX9_readsNode_245 (by decide +kernel) ⟨by decide, by decide⟩ ?_
  refine V_icmp_ne (tgt := 405) dX9_readsNode_247 (by decide) (fun c1 => ?_) (fun c1 => ?_)
  · exact (k1 c1)
  · refine V_aload_n (i := 0) dX9_readsNode_250 rfl rfl ?_
    refine V_getP dX9_readsNode_251 fX9_41 rfl s1 ?_
    refine V_bipush dX9_readsNode_254 (by decide +kernel) ⟨by decide, by decide⟩ ?_
    refine V_aload_n (i := 0) dX9_readsNode_256 rfl rfl ?_
    refine V_getI dX9_readsNode_257 fX9_132 rfl s1 ?_
    refine V_imul dX9_readsNode_260 (r1 c1) ?_
    refine V_iconst dX9_readsNode_261 ⟨by decide, by decide⟩ ?_
    refine V_iadd dX9_readsNode_262 (r2 c1) ?_
    refine V_iload_n (i := 2) dX9_readsNode_263 rfl rfl ?_
    refine V_iast dX9_readsNode_264 s2 (s3 c1) (s4 c1) ?_
    refine V_aload_n (i := 0) dX9_readsNode_265 rfl rfl ?_
    refine V_getP dX9_readsNode_266 fX9_41 rfl s1 ?_
    refine V_bipush dX9_readsNode_269 (by decide +kernel) ⟨by decide, by decide⟩ ?_
    refine V_aload_n (i := 0) dX9_readsNode_271 rfl rfl ?_
    refine V_getI dX9_readsNode_272 fX9_132 rfl s1 ?_
    refine V_imul dX9_readsNode_275 (r3 c1) ?_
    refine V_iconst dX9_readsNode_276 ⟨by decide, by decide⟩ ?_
    refine V_iadd dX9_readsNode_277 (r4 c1) ?_
    refine V_iload_n (i := 3) dX9_readsNode_278 rfl rfl ?_
    refine V_iast dX9_readsNode_279 s2 (s5 c1) (s6 c1) ?_
    refine V_aload_n (i := 0) dX9_readsNode_280 rfl rfl ?_
    refine V_getP dX9_readsNode_281 fX9_41 rfl s1 ?_
    refine V_bipush dX9_readsNode_284 (by decide +kernel) ⟨by decide, by decide⟩ ?_
    refine V_aload_n (i := 0) dX9_readsNode_286 rfl rfl ?_
    refine V_getI dX9_readsNode_287 fX9_132 rfl s1 ?_
    refine V_imul dX9_readsNode_290 (r5 c1) ?_
    refine V_iconst dX9_readsNode_291 ⟨by decide, by decide⟩ ?_
    refine V_iadd dX9_readsNode_292 (r6 c1) ?_
    refine V_iload (i := 4) dX9_readsNode_293 rfl ?_
    refine V_iast dX9_readsNode_295 s2 (s7 c1) (s8 c1) ?_
    refine V_aload_n (i := 0) dX9_readsNode_296 rfl rfl ?_
    refine V_getP dX9_readsNode_297 fX9_41 rfl s1 ?_
    refine V_bipush dX9_readsNode_300 (by decide +kernel) ⟨by decide, by decide⟩ ?_
    refine V_aload_n (i := 0) dX9_readsNode_302 rfl rfl ?_
    refine V_getI dX9_readsNode_303 fX9_132 rfl s1 ?_
    refine V_imul dX9_readsNode_306 (r7 c1) ?_
    refine V_iconst dX9_readsNode_307 ⟨by decide, by decide⟩ ?_
    refine V_iadd dX9_readsNode_308 (r8 c1) ?_
    refine V_aload_n (i := 0) dX9_readsNode_309 rfl rfl ?_
    refine V_getI dX9_readsNode_310 fX9_144 rfl s1 ?_
    refine V_iast dX9_readsNode_313 s2 (s9 c1) (s10 c1) ?_
    refine V_aload_n (i := 0) dX9_readsNode_314 rfl rfl ?_
    refine V_getP dX9_readsNode_315 fX9_41 rfl s1 ?_
    refine V_bipush dX9_readsNode_318 (by decide +kernel) ⟨by decide, by decide⟩ ?_
    refine V_aload_n (i := 0) dX9_readsNode_320 rfl rfl ?_
    refine V_getI dX9_readsNode_321 fX9_132 rfl s1 ?_
    refine V_imul dX9_readsNode_324 (r9 c1) ?_
    refine V_iconst dX9_readsNode_325 ⟨by decide, by decide⟩ ?_
    refine V_iadd dX9_readsNode_326 (r10 c1) ?_
    refine V_iload_n (i := 1) dX9_readsNode_327 rfl rfl ?_
    refine V_iast dX9_readsNode_328 s2 (s11 c1) (s12 c1) ?_
    refine V_aload_n (i := 0) dX9_readsNode_329 rfl rfl ?_
    refine V_getP dX9_readsNode_330 fX9_41 rfl s1 ?_
    refine V_bipush dX9_readsNode_333 (by decide +kernel) ⟨by decide, by decide⟩ ?_
    refine V_aload_n (i := 0) dX9_readsNode_335 rfl rfl ?_
    refine V_getI dX9_readsNode_336 fX9_132 rfl s1 ?_
    refine V_imul dX9_readsNode_339 (r11 c1) ?_
    refine V_iconst dX9_readsNode_340 ⟨by decide, by decide⟩ ?_
    refine V_iadd dX9_readsNode_341 (r12 c1) ?_
    refine V_iload_n (i := 2) dX9_readsNode_342 rfl rfl ?_
    refine V_if_ne (tgt := 353) dX9_readsNode_343 (by decide) (fun c2 => ?_) (fun c2 => ?_)
    · refine V_aload_n (i := 0) dX9_readsNode_353 rfl rfl ?_
      refine V_getI dX9_readsNode_354 fX9_157 rfl s1 ?_
      exact (k2 c1 c2)
    · refine V_aload_n (i := 0) dX9_readsNode_346 rfl rfl ?_
      refine V_getI dX9_readsNode_347 fX9_191 rfl s1 ?_
      refine V_goto (tgt := 357) dX9_readsNode_350 (by decide) ?_
      exact (k3 c1 c2)
theorem bX9_readsNode_357 {d : Nat} {Q : Option jA → jH → Prop} (a0 : Nat) (i1 : Int) (i2 : Int) (i3 : Int) (i4 : Int) (p0 : Int) (p1 : Int) (q2 : Nat) (h : jH)
    (s1 : (jS h q2).1 = 16)
    (s2 : 0 ≤ p1)
    (s3 : p1 < ((jS h q2).2 : Int))
    (s4 : (jS h a0).1 = 9)
    (r1 : jR ((jI h a0 22) + 1))
    (k1 : (i2 ≠ 0) → V MX9_readsNode (d + 7) 382 [some (.inr a0), some (.inl i1), some (.inl i2), some (.inl i3), some (.inl i4)] [.inl 0, .inl (jI h a0 23), .inr a0] (jsI (jsX h q2 ((p1).toNat) p0) a0 22 ((jI h a0 22) + 1)) 0 0 Q)
    (k2 : (i2 = 0) → V MX9_readsNode (d + 7) 382 [some (.inr a0), some (.inl i1), some (.inl i2), some (.inl i3), some (.inl i4)] [.inl 1, .inl (jI h a0 23), .inr a0] (jsI (jsX h q2 ((p1).toNat) p0) a0 22 ((jI h a0 22) + 1)) 0 0 Q) :
    V MX9_readsNode (d + 7) 357 [some (.inr a0), some (.inl i1), some (.inl i2), some (.inl i3), some (.inl i4)] [.inl p0, .inl p1, .inr q2] h 0 0 Q := by
  refine V_iast dX9_readsNode_357 s1 s2 s3 ?_
  refine V_aload_n (i := 0) dX9_readsNode_358 rfl rfl ?_
  refine V_dup dX9_readsNode_359 ?_
  refine V_getI dX9_readsNode_360 fX9_132 rfl s4 ?_
  refine V_iconst dX9_readsNode_363 ⟨by decide, by decide⟩ ?_
  refine V_iadd dX9_readsNode_364 r1 ?_
  refine V_putI (ci := 9) (kf := 22) dX9_readsNode_365 fX9_132 rfl rfl s4 ?_
  refine V_aload_n (i := 0) dX9_readsNode_368 rfl rfl ?_
  refine V_dup dX9_readsNode_369 ?_
  refine V_getI dX9_readsNode_370 fX9_191 rfl s4 ?_
  refine V_topI (jI_ne (by decide)) ?_
  refine V_iload_n (i := 2) dX9_readsNode_373 rfl rfl ?_
  refine V_if_ne (tgt := 381) dX9_readsNode_374 (by decide) (fun c1 => ?_) (fun c1 => ?_)
  · refine V_iconst dX9_readsNode_381 ⟨by decide, by decide⟩ ?_
    exact (k1 c1)
  · refine V_iconst dX9_readsNode_377 ⟨by decide, by decide⟩ ?_
    refine V_goto (tgt := 382) dX9_readsNode_378 (by decide) ?_
    exact (k2 c1)
theorem bX9_readsNode_382 {d : Nat} {Q : Option jA → jH → Prop} (a0 : Nat) (i1 : Int) (i2 : Int) (i3 : Int) (i4 : Int) (p0 : Int) (p1 : Int) (q2 : Nat) (h : jH)
    (r1 : jR (p1 + p0))
    (s1 : (jS h q2).1 = 9)
    (s2 : (jS h a0).1 = 9)
    (k1 : (i2 ≠ 2) → V MX9_readsNode (d + 7) 401 [some (.inr a0), some (.inl i1), some (.inl i2), some (.inl i3), some (.inl i4)] [.inl 0, .inl (jI h a0 24), .inr a0] (jsI h q2 23 (p1 + p0)) 0 0 Q)
    (k2 : (i2 = 2) → V MX9_readsNode (d + 7) 401 [some (.inr a0), some (.inl i1), some (.inl i2), some (.inl i3), some (.inl i4)] [.inl 1, .inl (jI h a0 24), .inr a0] (jsI h q2 23 (p1 + p0)) 0 0 Q) :
    V MX9_readsNode (d + 7) 382 [some (.inr a0), some (.inl i1), some (.inl i2), some (.inl i3), some (.inl i4)] [.inl p0, .inl p1, .inr q2] h 0 0 Q := by
  refine V_iadd dX9_readsNode_382 r1 ?_
  refine V_putI (ci := 9) (kf := 23) dX9_readsNode_383 fX9_191 rfl rfl s1 ?_
  refine V_aload_n (i := 0) dX9_readsNode_386 rfl rfl ?_
  refine V_dup dX9_readsNode_387 ?_
  refine V_getI dX9_readsNode_388 fX9_157 rfl s2 ?_
  refine V_topI (jI_ne (by decide)) ?_
  refine V_iload_n (i := 2) dX9_readsNode_391 rfl rfl ?_
  refine V_iconst dX9_readsNode_392 ⟨by decide, by decide⟩ ?_
  refine V_icmp_ne (tgt := 400) dX9_readsNode_393 (by decide) (fun c1 => ?_) (fun c1 => ?_)
  · refine V_iconst dX9_readsNode_400 ⟨by decide, by decide⟩ ?_
    exact (k1 c1)
  · refine V_iconst dX9_readsNode_396 ⟨by decide, by decide⟩ ?_
    refine V_goto (tgt := 401) dX9_readsNode_397 (by decide) ?_
    exact (k2 c1)
theorem bX9_readsNode_401 {d : Nat} {Q : Option jA → jH → Prop} (a0 : Nat) (i1 : Int) (i2 : Int) (i3 : Int) (i4 : Int) (p0 : Int) (p1 : Int) (q2 : Nat) (h : jH)
    (r1 : jR (p1 + p0))
    (s1 : (jS h q2).1 = 9)
    (k1 : V MX9_readsNode (d + 7) 405 [some (.inr a0), some (.inl i1), some (.inl i2), some (.inl i3), some (.inl i4)] [] (jsI h q2 24 (p1 + p0)) 0 0 Q) :
    V MX9_readsNode (d + 7) 401 [some (.inr a0), some (.inl i1), some (.inl i2), some (.inl i3), some (.inl i4)] [.inl p0, .inl p1, .inr q2] h 0 0 Q := by
  refine V_iadd dX9_readsNode_401 r1 ?_
  refine V_putI (ci := 9) (kf := 24) dX9_readsNode_402 fX9_157 rfl rfl s1 ?_
  exact k1
theorem bX9_readsNode_405 {d : Nat} {Q : Option jA → jH → Prop} (a0 : Nat) (i1 : Int) (i2 : Int) (i3 : Int) (i4 : Int) (h : jH)
    (q1 : Q none h) :
    V MX9_readsNode (d + 7) 405 [some (.inr a0), some (.inl i1), some (.inl i2), some (.inl i3), some (.inl i4)] [] h 0 0 Q := by
  exact V_ret (v := none) rfl rfl dX9_readsNode_405 trivial rfl q1
theorem bX9_readsNode_24 {d : Nat} {Q : Option jA → jH → Prop} (a0 : Nat) (i1 : Int) (u2 : Option jA) (u3 : Option jA) (u4 : Option jA) (p0 : Int) (q1 : Nat) (h : jH)
    (k1 : (p0 ≠ ((-9))) → V MX9_readsNode (d + 7) 47 [some (.inr a0), some (.inl i1), u2, u3, u4] [.inr q1] h 0 0 Q)
    (s1 : (jS h a0).1 = 9)
    (e1 : (p0 = ((-9))) → Ex MX9_newScopeBy d [.inr a0, .inl (jI h a0 30), .inl i1] h 0 0 (fun v h2 => V MX9_readsNode (d + 7) 38 [some (.inr a0), some (.inl i1), u2, u3, u4] (v.toList ++ [.inr q1]) h2 0 0 Q)) :
    V MX9_readsNode (d + 7) 24 [some (.inr a0), some (.inl i1), u2, u3, u4] [.inl p0, .inr q1] h 0 0 Q := by
  refine V_bipush dX9_readsNode_24 (by decide +kernel) ⟨by decide, by decide⟩ ?_
  refine V_icmp_ne (tgt := 47) dX9_readsNode_26 (by decide) (fun c1 => ?_) (fun c1 => ?_)
  · exact (k1 c1)
  · refine V_aload_n (i := 0) dX9_readsNode_29 rfl rfl ?_
    refine V_aload_n (i := 0) dX9_readsNode_30 rfl rfl ?_
    refine V_getI dX9_readsNode_31 fX9_144 rfl s1 ?_
    refine V_iload_n (i := 1) dX9_readsNode_34 rfl rfl ?_
    exact V_callV (M := MX9_readsNode) (d := (d + 7)) (mc' := 0) (ms' := 0) (mc := 0) (ms := 0) (As := [.inl (jI h a0 30), .inl i1]) (rest := [.inr q1]) dX9_readsNode_35 tX9_newScopeBy vX9_newScopeBy lX9_151 s1 ⟨by decide, rfl⟩ rfl rfl (Nat.le_of_ble_eq_true rfl) (show d + 1 ≤ (d + 7) by omega) (e1 c1)
theorem bX9_readsNode_51 {d : Nat} {Q : Option jA → jH → Prop} (a0 : Nat) (i1 : Int) (u2 : Option jA) (u3 : Option jA) (u4 : Option jA) (h : jH)
    (e1 : Ex MX9_passes (d + 3) [.inr a0, .inl 1] h 0 0 (fun v h2 => V MX9_readsNode (d + 7) 56 [some (.inr a0), some (.inl i1), u2, u3, u4] (v.toList ++ []) h2 0 0 Q))
    (s1 : (jS h a0).1 = 9) :
    V MX9_readsNode (d + 7) 51 [some (.inr a0), some (.inl i1), u2, u3, u4] [] h 0 0 Q := by
  refine V_aload_n (i := 0) dX9_readsNode_51 rfl rfl ?_
  refine V_iconst dX9_readsNode_52 ⟨by decide, by decide⟩ ?_
  exact V_callV (M := MX9_readsNode) (d := (d + 7)) (mc' := 0) (ms' := 0) (mc := 0) (ms := 0) (As := [.inl 1]) (rest := []) dX9_readsNode_53 tX9_passes vX9_passes lX9_141 s1 ⟨by decide, rfl⟩ rfl rfl (Nat.le_of_ble_eq_true rfl) (show (d + 3) + 1 ≤ (d + 7) by omega) e1
theorem bX9_readsNode_137 {d : Nat} {Q : Option jA → jH → Prop} (a0 : Nat) (i1 : Int) (i2 : Int) (u3 : Option jA) (u4 : Option jA) (h : jH)
    (e1 : Ex MX9_passes (d + 3) [.inr a0, .inl 1] h 0 0 (fun v h2 => V MX9_readsNode (d + 7) 142 [some (.inr a0), some (.inl i1), some (.inl i2), u3, u4] (v.toList ++ []) h2 0 0 Q))
    (s1 : (jS h a0).1 = 9) :
    V MX9_readsNode (d + 7) 137 [some (.inr a0), some (.inl i1), some (.inl i2), u3, u4] [] h 0 0 Q := by
  refine V_aload_n (i := 0) dX9_readsNode_137 rfl rfl ?_
  refine V_iconst dX9_readsNode_138 ⟨by decide, by decide⟩ ?_
  exact V_callV (M := MX9_readsNode) (d := (d + 7)) (mc' := 0) (ms' := 0) (mc := 0) (ms := 0) (As := [.inl 1]) (rest := []) dX9_readsNode_139 tX9_passes vX9_passes lX9_141 s1 ⟨by decide, rfl⟩ rfl rfl (Nat.le_of_ble_eq_true rfl) (show (d + 3) + 1 ≤ (d + 7) by omega) e1
theorem bX9_readsNode_192 {d : Nat} {Q : Option jA → jH → Prop} (a0 : Nat) (i1 : Int) (i2 : Int) (i3 : Int) (i4 : Int) (h : jH)
    (s1 : (jS h a0).1 = 9)
    (e1 : Ex MX9_passes (d + 3) [.inr a0, .inl 1] h 0 0 (fun v h2 => V MX9_readsNode (d + 7) 202 [some (.inr a0), some (.inl i1), some (.inl i2), some (.inl (jI h a0 19)), some (.inl i4)] (v.toList ++ []) h2 0 0 Q)) :
    V MX9_readsNode (d + 7) 192 [some (.inr a0), some (.inl i1), some (.inl i2), some (.inl i3), some (.inl i4)] [] h 0 0 Q := by
  refine V_aload_n (i := 0) dX9_readsNode_192 rfl rfl ?_
  refine V_getI dX9_readsNode_193 fX9_116 rfl s1 ?_
  refine V_istore_n (i := 3) dX9_readsNode_196 rfl (by decide) ?_
  refine V_aload_n (i := 0) dX9_readsNode_197 rfl rfl ?_
  refine V_iconst dX9_readsNode_198 ⟨by decide, by decide⟩ ?_
  exact V_callV (M := MX9_readsNode) (d := (d + 7)) (mc' := 0) (ms' := 0) (mc := 0) (ms := 0) (As := [.inl 1]) (rest := []) dX9_readsNode_199 tX9_passes vX9_passes lX9_141 s1 ⟨by decide, rfl⟩ rfl rfl (Nat.le_of_ble_eq_true rfl) (show (d + 3) + 1 ≤ (d + 7) by omega) e1
theorem bX9_readsNode_223 {d : Nat} {Q : Option jA → jH → Prop} (a0 : Nat) (i1 : Int) (i2 : Int) (i3 : Int) (i4 : Int) (p0 : Int) (h : jH)
    (k1 : V MX9_readsNode (d + 7) 241 [some (.inr a0), some (.inl i1), some (.inl i2), some (.inl i3), some (.inl p0)] [] h 0 0 Q) :
    V MX9_readsNode (d + 7) 223 [some (.inr a0), some (.inl i1), some (.inl i2), some (.inl i3), some (.inl i4)] [.inl p0] h 0 0 Q := by
  refine V_istore (i := 4) dX9_readsNode_223 (by decide) ?_
  refine V_goto (tgt := 241) dX9_readsNode_225 (by decide) ?_
  exact k1
theorem bX9_readsNode_38 {d : Nat} {Q : Option jA → jH → Prop} (a0 : Nat) (i1 : Int) (u2 : Option jA) (u3 : Option jA) (u4 : Option jA) (p0 : Int) (q1 : Nat) (h : jH)
    (k1 : (p0 ≠ ((-9))) → V MX9_readsNode (d + 7) 47 [some (.inr a0), some (.inl i1), u2, u3, u4] [.inr q1] h 0 0 Q)
    (k2 : (p0 = ((-9))) → V MX9_readsNode (d + 7) 48 [some (.inr a0), some (.inl i1), u2, u3, u4] [.inl 1, .inr q1] h 0 0 Q) :
    V MX9_readsNode (d + 7) 38 [some (.inr a0), some (.inl i1), u2, u3, u4] [.inl p0, .inr q1] h 0 0 Q := by
  refine V_bipush dX9_readsNode_38 (by decide +kernel) ⟨by decide, by decide⟩ ?_
  refine V_icmp_ne (tgt := 47) dX9_readsNode_40 (by decide) (fun c1 => ?_) (fun c1 => ?_)
  · exact (k1 c1)
  · refine V_iconst dX9_readsNode_43 ⟨by decide, by decide⟩ ?_
    refine V_goto (tgt := 48) dX9_readsNode_44 (by decide) ?_
    exact (k2 c1)
theorem bX9_readsNode_56 {d : Nat} {Q : Option jA → jH → Prop} (a0 : Nat) (i1 : Int) (u2 : Option jA) (u3 : Option jA) (u4 : Option jA) (h : jH)
    (s1 : (jS h a0).1 = 9)
    (k1 : (¬ ((jI h a0 18) = 3 ∧ (jI h a0 19) = 58)) → (¬ ((jI h a0 18) = 3 ∧ (jI h a0 19) = 64)) → V MX9_readsNode (d + 7) 83 [some (.inr a0), some (.inl i1), u2, u3, u4] [.inl 2] h 0 0 Q)
    (k2 : (¬ ((jI h a0 18) = 3 ∧ (jI h a0 19) = 58)) → ((jI h a0 18) = 3 ∧ (jI h a0 19) = 64) → V MX9_readsNode (d + 7) 83 [some (.inr a0), some (.inl i1), u2, u3, u4] [.inl 1] h 0 0 Q)
    (k3 : ((jI h a0 18) = 3 ∧ (jI h a0 19) = 58) → V MX9_readsNode (d + 7) 83 [some (.inr a0), some (.inl i1), u2, u3, u4] [.inl 0] h 0 0 Q) :
    V MX9_readsNode (d + 7) 56 [some (.inr a0), some (.inl i1), u2, u3, u4] [] h 0 0 Q := by
  refine V_aload_n (i := 0) dX9_readsNode_56 rfl rfl ?_
  refine V_bipush dX9_readsNode_57 (by decide +kernel) ⟨by decide, by decide⟩ ?_
  refine V_callV (M := MX9_readsNode) (d := (d + 7)) (mc' := 0) (ms' := 0) (mc := 0) (ms := 0) (As := [.inl 58]) (rest := []) dX9_readsNode_59 tX9_is vX9_is lX9_154 s1 ⟨by decide, rfl⟩ rfl rfl (Nat.le_of_ble_eq_true rfl) (show d + 1 ≤ (d + 7) by omega) (Ex.mono (pX9_is (d := d) s1) ?_)
  intro v h2 hq
  rw [hq.1, hq.2]
  show V MX9_readsNode (d + 7) 62 [some (.inr a0), some (.inl i1), u2, u3, u4] [.inl (jb ((jI h a0 18) = 3 ∧ (jI h a0 19) = 58))] h 0 0 Q
  refine V_ifb_eq (tgt := 69) dX9_readsNode_62 (by decide) (fun c1 => ?_) (fun c1 => ?_)
  · refine V_aload_n (i := 0) dX9_readsNode_69 rfl rfl ?_
    refine V_bipush dX9_readsNode_70 (by decide +kernel) ⟨by decide, by decide⟩ ?_
    refine V_callV (M := MX9_readsNode) (d := (d + 7)) (mc' := 0) (ms' := 0) (mc := 0) (ms := 0) (As := [.inl 64]) (rest := []) dX9_readsNode_72 tX9_is vX9_is lX9_154 s1 ⟨by decide, rfl⟩ rfl rfl (Nat.le_of_ble_eq_true rfl) (show d + 1 ≤ (d + 7) by omega) (Ex.mono (pX9_is (d := d) s1) ?_)
    intro v h2 hq
    rw [hq.1, hq.2]
    show V MX9_readsNode (d + 7) 75 [some (.inr a0), some (.inl i1), u2, u3, u4] [.inl (jb ((jI h a0 18) = 3 ∧ (jI h a0 19) = 64))] h 0 0 Q
    refine V_ifb_eq (tgt := 82) dX9_readsNode_75 (by decide) (fun c2 => ?_) (fun c2 => ?_)
    · refine V_iconst dX9_readsNode_82 ⟨by decide, by decide⟩ ?_
      exact (k1 c1 c2)
    · refine V_iconst dX9_readsNode_78 ⟨by decide, by decide⟩ ?_
      refine V_goto (tgt := 83) dX9_readsNode_79 (by decide) ?_
      exact (k2 c1 c2)
  · refine V_iconst dX9_readsNode_65 ⟨by decide, by decide⟩ ?_
    refine V_goto (tgt := 83) dX9_readsNode_66 (by decide) ?_
    exact (k3 c1)
theorem bX9_readsNode_142 {d : Nat} {Q : Option jA → jH → Prop} (a0 : Nat) (i1 : Int) (i2 : Int) (u3 : Option jA) (u4 : Option jA) (h : jH)
    (s1 : (jS h a0).1 = 9)
    (k1 : ((jI h a0 20) ≠ ((-9))) → V MX9_readsNode (d + 7) 205 [some (.inr a0), some (.inl i1), some (.inl i2), some (.inl ((-9))), some (.inl ((-9)))] [] h 0 0 Q)
    (k2 : ((jI h a0 20) = ((-9))) → (i2 ≠ 0) → V MX9_readsNode (d + 7) 205 [some (.inr a0), some (.inl i1), some (.inl i2), some (.inl ((-9))), some (.inl ((-9)))] [] h 0 0 Q)
    (k3 : ((jI h a0 20) = ((-9))) → (i2 = 0) → ((jI h a0 18) ≠ 2) → V MX9_readsNode (d + 7) 188 [some (.inr a0), some (.inl i1), some (.inl i2), some (.inl ((-9))), some (.inl ((-9)))] [.inr a0] h 0 0 Q)
    (k4 : ((jI h a0 20) = ((-9))) → (i2 = 0) → ((jI h a0 18) = 2) → (¬ (1 ≤ (jI h a0 19) ∧ (jI h a0 19) ≤ 8)) → V MX9_readsNode (d + 7) 188 [some (.inr a0), some (.inl i1), some (.inl i2), some (.inl ((-9))), some (.inl ((-9)))] [.inr a0] h 0 0 Q)
    (k5 : ((jI h a0 20) = ((-9))) → (i2 = 0) → ((jI h a0 18) = 2) → (1 ≤ (jI h a0 19) ∧ (jI h a0 19) ≤ 8) → V MX9_readsNode (d + 7) 189 [some (.inr a0), some (.inl i1), some (.inl i2), some (.inl ((-9))), some (.inl ((-9)))] [.inl 1, .inr a0] h 0 0 Q) :
    V MX9_readsNode (d + 7) 142 [some (.inr a0), some (.inl i1), some (.inl i2), u3, u4] [] h 0 0 Q := by
  refine V_bipush dX9_readsNode_142 (by decide +kernel) ⟨by decide, by decide⟩ ?_
  refine V_istore_n (i := 3) dX9_readsNode_144 rfl (by decide) ?_
  refine V_bipush dX9_readsNode_145 (by decide +kernel) ⟨by decide, by decide⟩ ?_
  refine V_istore (i := 4) dX9_readsNode_147 (by decide) ?_
  refine V_aload_n (i := 0) dX9_readsNode_149 rfl rfl ?_
  refine V_getI dX9_readsNode_150 fX9_122 rfl s1 ?_
  refine V_bipush dX9_readsNode_153 (by decide +kernel) ⟨by decide, by decide⟩ ?_
  refine V_icmp_ne (tgt := 205) dX9_readsNode_155 (by decide) (fun c1 => ?_) (fun c1 => ?_)
  · exact (k1 c1)
  · refine V_iload_n (i := 2) dX9_readsNode_158 rfl rfl ?_
    refine V_if_ne (tgt := 205) dX9_readsNode_159 (by decide) (fun c2 => ?_) (fun c2 => ?_)
    · exact (k2 c1 c2)
    · refine V_aload_n (i := 0) dX9_readsNode_162 rfl rfl ?_
      refine V_aload_n (i := 0) dX9_readsNode_163 rfl rfl ?_
      refine V_getI dX9_readsNode_164 fX9_109 rfl s1 ?_
      refine V_iconst dX9_readsNode_167 ⟨by decide, by decide⟩ ?_
      refine V_icmp_ne (tgt := 188) dX9_readsNode_168 (by decide) (fun c3 => ?_) (fun c3 => ?_)
      · exact (k3 c1 c2 c3)
      · refine V_aload_n (i := 0) dX9_readsNode_171 rfl rfl ?_
        refine V_getI dX9_readsNode_172 fX9_116 rfl s1 ?_
        refine V_iconst dX9_readsNode_175 ⟨by decide, by decide⟩ ?_
        refine V_bipush dX9_readsNode_176 (by decide +kernel) ⟨by decide, by decide⟩ ?_
        refine V_callS (M := MX9_readsNode) (d := (d + 7)) (mc' := 0) (ms' := 0) (mc := 0) (ms := 0) (a := 0) (As := [.inl (jI h a0 19), .inl 1, .inl 8]) (rest := [.inr a0]) dX9_readsNode_178 tX9_in sX9_in lX9_95 rfl rfl (Nat.le_of_ble_eq_true rfl) (show d + 1 ≤ (d + 7) by omega) (Ex.mono (pX9_in (d := d) ) ?_)
        intro v h2 hq
        rw [hq.1, hq.2]
        show V MX9_readsNode (d + 7) 181 [some (.inr a0), some (.inl i1), some (.inl i2), some (.inl ((-9))), some (.inl ((-9)))] [.inl (jb (1 ≤ (jI h a0 19) ∧ (jI h a0 19) ≤ 8)), .inr a0] h 0 0 Q
        refine V_ifb_eq (tgt := 188) dX9_readsNode_181 (by decide) (fun c4 => ?_) (fun c4 => ?_)
        · exact (k4 c1 c2 c3 c4)
        · refine V_iconst dX9_readsNode_184 ⟨by decide, by decide⟩ ?_
          refine V_goto (tgt := 189) dX9_readsNode_185 (by decide) ?_
          exact (k5 c1 c2 c3 c4)
theorem bX9_readsNode_202 {d : Nat} {Q : Option jA → jH → Prop} (a0 : Nat) (i1 : Int) (i2 : Int) (i3 : Int) (i4 : Int) (h : jH)
    (k1 : V MX9_readsNode (d + 7) 241 [some (.inr a0), some (.inl i1), some (.inl i2), some (.inl i3), some (.inl i4)] [] h 0 0 Q) :
    V MX9_readsNode (d + 7) 202 [some (.inr a0), some (.inl i1), some (.inl i2), some (.inl i3), some (.inl i4)] [] h 0 0 Q := by
  refine V_goto (tgt := 241) dX9_readsNode_202 (by decide) ?_
  exact k1
