/-! ===== the model's constructor: its rows ===== -/
section NKr
variable {h g h0 : jH} {d : Nat} {Q : Option jA → jH → Prop}
def ml9 : List (Nat × Nat) := [(48, 503), (46, 502), (44, 501), (43, 500), (42, 499), (41, 498), (40, 497), (39, 496), (38, 495), (37, 494), (36, 493), (32, 492), (29, 491), (28, 490), (26, 489), (25, 488), (21, 487), (14, 486), (13, 485), (12, 484), (10, 483), (9, 482), (8, 481), (7, 480), (5, 479), (4, 478), (0, 477)]
def mt9 : List (Nat × Nat × Nat) := [(503, 16, 12), (502, 16, 8), (501, 16, 48), (500, 16, 48), (499, 17, 1000), (498, 16, 12), (497, 16, 1000), (496, 17, 1002), (495, 16, 6), (494, 16, 8), (493, 16, 12), (492, 16, 16), (491, 16, 4), (490, 16, 160), (489, 16, 6), (488, 16, 6), (487, 16, 72), (486, 16, 160), (485, 17, 2), (484, 16, 418), (483, 16, 1254), (482, 16, 209), (481, 16, 4), (480, 16, 160), (479, 16, 6), (478, 16, 6), (477, 16, 72)]
theorem X9_rows (h2 : 2 ≤ 476) (hC : CT 476 9 477 [] [] [] h0 h) (k : ∀ g, CT 476 9 504 ml9 mt9 [] h0 g → V MX9_init (d + 3) 226 [some (.inr 476)] [] g 0 0 Q) : V MX9_init (d + 3) 0 [some (.inr 476)] [] h 27 5711 Q := by
  refine V_aload_n (i := 0) dX9_init_0 rfl rfl ?_
  refine V_objI dX9_init_1 lX9_1 jobI jobC h2 (Nat.le_of_ble_eq_true rfl) ?_
  refine V_aload_n (i := 0) dX9_init_4 rfl rfl ?_
  refine V_bipush dX9_init_5 (by decide +kernel) ⟨by decide, by decide⟩ ?_
  refine V_cost (mc' := 26 + 1) (ms' := 5639 + Int.toNat 72) rfl rfl ?_
  refine V_newi dX9_init_7 jacI (by decide) (by decide) ?_
  refine V_putF (ci := 9) (kf := 0) dX9_init_9 gX9_7 rfl rfl rfl rfl hC.sh ?_
  refine V_arr hC ?_
  clear hC
  intro g hC
  refine V_aload_n (i := 0) dX9_init_12 rfl rfl ?_
  refine V_bipush dX9_init_13 (by decide +kernel) ⟨by decide, by decide⟩ ?_
  refine V_cost (mc' := 25 + 1) (ms' := 5633 + Int.toNat 6) rfl rfl ?_
  refine V_newi dX9_init_15 jacI (by decide) (by decide) ?_
  refine V_putF (ci := 9) (kf := 4) dX9_init_17 gX9_13 rfl rfl rfl rfl hC.sh ?_
  refine V_arr hC ?_
  clear hC
  intro g hC
  refine V_aload_n (i := 0) dX9_init_20 rfl rfl ?_
  refine V_bipush dX9_init_21 (by decide +kernel) ⟨by decide, by decide⟩ ?_
  refine V_cost (mc' := 24 + 1) (ms' := 5627 + Int.toNat 6) rfl rfl ?_
  refine V_newi dX9_init_23 jacI (by decide) (by decide) ?_
  refine V_putF (ci := 9) (kf := 5) dX9_init_25 gX9_16 rfl rfl rfl rfl hC.sh ?_
  refine V_arr hC ?_
  clear hC
  intro g hC
  refine V_aload_n (i := 0) dX9_init_28 rfl rfl ?_
  refine V_sipush dX9_init_29 (by decide +kernel) ⟨by decide, by decide⟩ ?_
  refine V_cost (mc' := 23 + 1) (ms' := 5467 + Int.toNat 160) rfl rfl ?_
  refine V_newi dX9_init_32 jacI (by decide) (by decide) ?_
  refine V_putF (ci := 9) (kf := 7) dX9_init_34 gX9_19 rfl rfl rfl rfl hC.sh ?_
  refine V_arr hC ?_
  clear hC
  intro g hC
  refine V_aload_n (i := 0) dX9_init_37 rfl rfl ?_
  refine V_iconst dX9_init_38 ⟨by decide, by decide⟩ ?_
  refine V_cost (mc' := 22 + 1) (ms' := 5463 + Int.toNat 4) rfl rfl ?_
  refine V_newi dX9_init_39 jacI (by decide) (by decide) ?_
  refine V_putF (ci := 9) (kf := 8) dX9_init_41 gX9_22 rfl rfl rfl rfl hC.sh ?_
  refine V_arr hC ?_
  clear hC
  intro g hC
  refine V_aload_n (i := 0) dX9_init_44 rfl rfl ?_
  refine V_sipush dX9_init_45 (by decide +kernel) ⟨by decide, by decide⟩ ?_
  refine V_cost (mc' := 21 + 1) (ms' := 5254 + Int.toNat 209) rfl rfl ?_
  refine V_newi dX9_init_48 jacI (by decide) (by decide) ?_
  refine V_putF (ci := 9) (kf := 9) dX9_init_50 gX9_25 rfl rfl rfl rfl hC.sh ?_
  refine V_arr hC ?_
  clear hC
  intro g hC
  refine V_aload_n (i := 0) dX9_init_53 rfl rfl ?_
  refine V_sipush dX9_init_54 (by decide +kernel) ⟨by decide, by decide⟩ ?_
  refine V_cost (mc' := 20 + 1) (ms' := 4000 + Int.toNat 1254) rfl rfl ?_
  refine V_newi dX9_init_57 jacI (by decide) (by decide) ?_
  refine V_putF (ci := 9) (kf := 10) dX9_init_59 gX9_28 rfl rfl rfl rfl hC.sh ?_
  refine V_arr hC ?_
  clear hC
  intro g hC
  refine V_aload_n (i := 0) dX9_init_62 rfl rfl ?_
  refine V_sipush dX9_init_63 (by decide +kernel) ⟨by decide, by decide⟩ ?_
  refine V_cost (mc' := 19 + 1) (ms' := 3582 + Int.toNat 418) rfl rfl ?_
  refine V_newi dX9_init_66 jacI (by decide) (by decide) ?_
  refine V_putF (ci := 9) (kf := 12) dX9_init_68 gX9_31 rfl rfl rfl rfl hC.sh ?_
  refine V_arr hC ?_
  clear hC
  intro g hC
  refine V_aload_n (i := 0) dX9_init_71 rfl rfl ?_
  refine V_iconst dX9_init_72 ⟨by decide, by decide⟩ ?_
  refine V_cost (mc' := 18 + 1) (ms' := 3580 + Int.toNat 2) rfl rfl ?_
  refine V_newz dX9_init_73 jacZ (by decide) (by decide) ?_
  refine V_putF (ci := 9) (kf := 13) dX9_init_75 gX9_34 rfl rfl rfl rfl hC.sh ?_
  refine V_arr hC ?_
  clear hC
  intro g hC
  refine V_aload_n (i := 0) dX9_init_78 rfl rfl ?_
  refine V_sipush dX9_init_79 (by decide +kernel) ⟨by decide, by decide⟩ ?_
  refine V_cost (mc' := 17 + 1) (ms' := 3420 + Int.toNat 160) rfl rfl ?_
  refine V_newi dX9_init_82 jacI (by decide) (by decide) ?_
  refine V_putF (ci := 9) (kf := 14) dX9_init_84 gX9_38 rfl rfl rfl rfl hC.sh ?_
  refine V_arr hC ?_
  clear hC
  intro g hC
  refine V_aload_n (i := 0) dX9_init_87 rfl rfl ?_
  refine V_bipush dX9_init_88 (by decide +kernel) ⟨by decide, by decide⟩ ?_
  refine V_cost (mc' := 16 + 1) (ms' := 3348 + Int.toNat 72) rfl rfl ?_
  refine V_newi dX9_init_90 jacI (by decide) (by decide) ?_
  refine V_putF (ci := 9) (kf := 21) dX9_init_92 gX9_41 rfl rfl rfl rfl hC.sh ?_
  refine V_arr hC ?_
  clear hC
  intro g hC
  refine V_aload_n (i := 0) dX9_init_95 rfl rfl ?_
  refine V_bipush dX9_init_96 (by decide +kernel) ⟨by decide, by decide⟩ ?_
  refine V_cost (mc' := 15 + 1) (ms' := 3342 + Int.toNat 6) rfl rfl ?_
  refine V_newi dX9_init_98 jacI (by decide) (by decide) ?_
  refine V_putF (ci := 9) (kf := 25) dX9_init_100 gX9_44 rfl rfl rfl rfl hC.sh ?_
  refine V_arr hC ?_
  clear hC
  intro g hC
  refine V_aload_n (i := 0) dX9_init_103 rfl rfl ?_
  refine V_bipush dX9_init_104 (by decide +kernel) ⟨by decide, by decide⟩ ?_
  refine V_cost (mc' := 14 + 1) (ms' := 3336 + Int.toNat 6) rfl rfl ?_
  refine V_newi dX9_init_106 jacI (by decide) (by decide) ?_
  refine V_putF (ci := 9) (kf := 26) dX9_init_108 gX9_47 rfl rfl rfl rfl hC.sh ?_
  refine V_arr hC ?_
  clear hC
  intro g hC
  refine V_aload_n (i := 0) dX9_init_111 rfl rfl ?_
  refine V_sipush dX9_init_112 (by decide +kernel) ⟨by decide, by decide⟩ ?_
  refine V_cost (mc' := 13 + 1) (ms' := 3176 + Int.toNat 160) rfl rfl ?_
  refine V_newi dX9_init_115 jacI (by decide) (by decide) ?_
  refine V_putF (ci := 9) (kf := 28) dX9_init_117 gX9_50 rfl rfl rfl rfl hC.sh ?_
  refine V_arr hC ?_
  clear hC
  intro g hC
  refine V_aload_n (i := 0) dX9_init_120 rfl rfl ?_
  refine V_iconst dX9_init_121 ⟨by decide, by decide⟩ ?_
  refine V_cost (mc' := 12 + 1) (ms' := 3172 + Int.toNat 4) rfl rfl ?_
  refine V_newi dX9_init_122 jacI (by decide) (by decide) ?_
  refine V_putF (ci := 9) (kf := 29) dX9_init_124 gX9_53 rfl rfl rfl rfl hC.sh ?_
  refine V_arr hC ?_
  clear hC
  intro g hC
  refine V_aload_n (i := 0) dX9_init_127 rfl rfl ?_
  refine V_bipush dX9_init_128 (by decide +kernel) ⟨by decide, by decide⟩ ?_
  refine V_cost (mc' := 11 + 1) (ms' := 3156 + Int.toNat 16) rfl rfl ?_
  refine V_newi dX9_init_130 jacI (by decide) (by decide) ?_
  refine V_putF (ci := 9) (kf := 32) dX9_init_132 gX9_56 rfl rfl rfl rfl hC.sh ?_
  refine V_arr hC ?_
  clear hC
  intro g hC
  refine V_aload_n (i := 0) dX9_init_135 rfl rfl ?_
  refine V_bipush dX9_init_136 (by decide +kernel) ⟨by decide, by decide⟩ ?_
  refine V_cost (mc' := 10 + 1) (ms' := 3144 + Int.toNat 12) rfl rfl ?_
  refine V_newi dX9_init_138 jacI (by decide) (by decide) ?_
  refine V_putF (ci := 9) (kf := 36) dX9_init_140 gX9_59 rfl rfl rfl rfl hC.sh ?_
  refine V_arr hC ?_
  clear hC
  intro g hC
  refine V_aload_n (i := 0) dX9_init_143 rfl rfl ?_
  refine V_bipush dX9_init_144 (by decide +kernel) ⟨by decide, by decide⟩ ?_
  refine V_cost (mc' := 9 + 1) (ms' := 3136 + Int.toNat 8) rfl rfl ?_
  refine V_newi dX9_init_146 jacI (by decide) (by decide) ?_
  refine V_putF (ci := 9) (kf := 37) dX9_init_148 gX9_62 rfl rfl rfl rfl hC.sh ?_
  refine V_arr hC ?_
  clear hC
  intro g hC
  refine V_aload_n (i := 0) dX9_init_151 rfl rfl ?_
  refine V_bipush dX9_init_152 (by decide +kernel) ⟨by decide, by decide⟩ ?_
  refine V_cost (mc' := 8 + 1) (ms' := 3130 + Int.toNat 6) rfl rfl ?_
  refine V_newi dX9_init_154 jacI (by decide) (by decide) ?_
  refine V_putF (ci := 9) (kf := 38) dX9_init_156 gX9_65 rfl rfl rfl rfl hC.sh ?_
  refine V_arr hC ?_
  clear hC
  intro g hC
  refine V_aload_n (i := 0) dX9_init_159 rfl rfl ?_
  refine V_sipush dX9_init_160 (by decide +kernel) ⟨by decide, by decide⟩ ?_
  refine V_cost (mc' := 7 + 1) (ms' := 2128 + Int.toNat 1002) rfl rfl ?_
  refine V_newz dX9_init_163 jacZ (by decide) (by decide) ?_
  refine V_putF (ci := 9) (kf := 39) dX9_init_165 gX9_68 rfl rfl rfl rfl hC.sh ?_
  refine V_arr hC ?_
  clear hC
  intro g hC
  refine V_aload_n (i := 0) dX9_init_168 rfl rfl ?_
  refine V_sipush dX9_init_169 (by decide +kernel) ⟨by decide, by decide⟩ ?_
  refine V_cost (mc' := 6 + 1) (ms' := 1128 + Int.toNat 1000) rfl rfl ?_
  refine V_newi dX9_init_172 jacI (by decide) (by decide) ?_
  refine V_putF (ci := 9) (kf := 40) dX9_init_174 gX9_71 rfl rfl rfl rfl hC.sh ?_
  refine V_arr hC ?_
  clear hC
  intro g hC
  refine V_aload_n (i := 0) dX9_init_177 rfl rfl ?_
  refine V_bipush dX9_init_178 (by decide +kernel) ⟨by decide, by decide⟩ ?_
  refine V_cost (mc' := 5 + 1) (ms' := 1116 + Int.toNat 12) rfl rfl ?_
  refine V_newi dX9_init_180 jacI (by decide) (by decide) ?_
  refine V_putF (ci := 9) (kf := 41) dX9_init_182 gX9_74 rfl rfl rfl rfl hC.sh ?_
  refine V_arr hC ?_
  clear hC
  intro g hC
  refine V_aload_n (i := 0) dX9_init_185 rfl rfl ?_
  refine V_sipush dX9_init_186 (by decide +kernel) ⟨by decide, by decide⟩ ?_
  refine V_cost (mc' := 4 + 1) (ms' := 116 + Int.toNat 1000) rfl rfl ?_
  refine V_newz dX9_init_189 jacZ (by decide) (by decide) ?_
  refine V_putF (ci := 9) (kf := 42) dX9_init_191 gX9_77 rfl rfl rfl rfl hC.sh ?_
  refine V_arr hC ?_
  clear hC
  intro g hC
  refine V_aload_n (i := 0) dX9_init_194 rfl rfl ?_
  refine V_bipush dX9_init_195 (by decide +kernel) ⟨by decide, by decide⟩ ?_
  refine V_cost (mc' := 3 + 1) (ms' := 68 + Int.toNat 48) rfl rfl ?_
  refine V_newi dX9_init_197 jacI (by decide) (by decide) ?_
  refine V_putF (ci := 9) (kf := 43) dX9_init_199 gX9_80 rfl rfl rfl rfl hC.sh ?_
  refine V_arr hC ?_
  clear hC
  intro g hC
  refine V_aload_n (i := 0) dX9_init_202 rfl rfl ?_
  refine V_bipush dX9_init_203 (by decide +kernel) ⟨by decide, by decide⟩ ?_
  refine V_cost (mc' := 2 + 1) (ms' := 20 + Int.toNat 48) rfl rfl ?_
  refine V_newi dX9_init_205 jacI (by decide) (by decide) ?_
  refine V_putF (ci := 9) (kf := 44) dX9_init_207 gX9_83 rfl rfl rfl rfl hC.sh ?_
  refine V_arr hC ?_
  clear hC
  intro g hC
  refine V_aload_n (i := 0) dX9_init_210 rfl rfl ?_
  refine V_bipush dX9_init_211 (by decide +kernel) ⟨by decide, by decide⟩ ?_
  refine V_cost (mc' := 1 + 1) (ms' := 12 + Int.toNat 8) rfl rfl ?_
  refine V_newi dX9_init_213 jacI (by decide) (by decide) ?_
  refine V_putF (ci := 9) (kf := 46) dX9_init_215 gX9_86 rfl rfl rfl rfl hC.sh ?_
  refine V_arr hC ?_
  clear hC
  intro g hC
  refine V_aload_n (i := 0) dX9_init_218 rfl rfl ?_
  refine V_bipush dX9_init_219 (by decide +kernel) ⟨by decide, by decide⟩ ?_
  refine V_cost (mc' := 0 + 1) (ms' := 0 + Int.toNat 12) rfl rfl ?_
  refine V_newi dX9_init_221 jacI (by decide) (by decide) ?_
  refine V_putF (ci := 9) (kf := 48) dX9_init_223 gX9_89 rfl rfl rfl rfl hC.sh ?_
  refine V_arr hC ?_
  clear hC
  intro g hC
  exact k g hC
end NKr
