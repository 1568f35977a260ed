/-! ===== the words of the tables, by their places ===== -/
theorem jmem {w : Cond} (i : Nat) (h : lw_tbl[i]? = some w) (hg : goodWord w = true) : w ∈ jTs := List.mem_filter.mpr ⟨List.mem_of_getElem? h, hg⟩
theorem jnem {w : Cond} (i : Nat) (h : lw_tbl[i]? = some w) : w ∈ lw_tbl := List.mem_of_getElem? h
theorem jTs_good {w : Cond} (h : w ∈ jTs) : w ∈ jTs ∧ ((w.onTables && w.keeps) = true ∨ ∃ ty, w = .arrayClass ty) := ⟨h, good_of_word (List.mem_filter.mp h).2⟩
theorem jl0_0 : u_lay RX0 TX0 0 ∈ jTs := jmem 266 (by decide +kernel) (by decide +kernel)
theorem jl0_1 : u_lay RX0 TX0 1 ∈ jTs := jmem 268 (by decide +kernel) (by decide +kernel)
theorem jl0_2 : u_lay RX0 TX0 2 ∈ jTs := jmem 270 (by decide +kernel) (by decide +kernel)
theorem jl0_3 : u_lay RX0 TX0 3 ∈ jTs := jmem 272 (by decide +kernel) (by decide +kernel)
theorem jin0 : ∀ w ∈ u_ws RX0 TX0 4, w ∈ jTs := show ∀ w ∈ [u_lay RX0 TX0 0, u_lay RX0 TX0 1, u_lay RX0 TX0 2, u_lay RX0 TX0 3], w ∈ jTs from List.forall_mem_cons.mpr ⟨jl0_0, List.forall_mem_cons.mpr ⟨jl0_1, List.forall_mem_cons.mpr ⟨jl0_2, List.forall_mem_cons.mpr ⟨jl0_3, fun _ h => absurd h List.not_mem_nil⟩⟩⟩⟩
theorem jl1_0 : u_lay RX1 TX1 0 ∈ jTs := jmem 242 (by decide +kernel) (by decide +kernel)
theorem jl1_1 : u_lay RX1 TX1 1 ∈ jTs := jmem 244 (by decide +kernel) (by decide +kernel)
theorem jl1_2 : u_lay RX1 TX1 2 ∈ jTs := jmem 246 (by decide +kernel) (by decide +kernel)
theorem jl1_3 : u_lay RX1 TX1 3 ∈ jTs := jmem 248 (by decide +kernel) (by decide +kernel)
theorem jin1 : ∀ w ∈ u_ws RX1 TX1 4, w ∈ jTs := show ∀ w ∈ [u_lay RX1 TX1 0, u_lay RX1 TX1 1, u_lay RX1 TX1 2, u_lay RX1 TX1 3], w ∈ jTs from List.forall_mem_cons.mpr ⟨jl1_0, List.forall_mem_cons.mpr ⟨jl1_1, List.forall_mem_cons.mpr ⟨jl1_2, List.forall_mem_cons.mpr ⟨jl1_3, fun _ h => absurd h List.not_mem_nil⟩⟩⟩⟩
theorem jl2_0 : u_lay RX2 TX2 0 ∈ jTs := jmem 159 (by decide +kernel) (by decide +kernel)
theorem jl2_1 : u_lay RX2 TX2 1 ∈ jTs := jmem 161 (by decide +kernel) (by decide +kernel)
theorem jl2_2 : u_lay RX2 TX2 2 ∈ jTs := jmem 163 (by decide +kernel) (by decide +kernel)
theorem jl2_3 : u_lay RX2 TX2 3 ∈ jTs := jmem 165 (by decide +kernel) (by decide +kernel)
theorem jl2_4 : u_lay RX2 TX2 4 ∈ jTs := jmem 167 (by decide +kernel) (by decide +kernel)
theorem jl2_5 : u_lay RX2 TX2 5 ∈ jTs := jmem 169 (by decide +kernel) (by decide +kernel)
theorem jl2_6 : u_lay RX2 TX2 6 ∈ jTs := jmem 171 (by decide +kernel) (by decide +kernel)
theorem jl2_7 : u_lay RX2 TX2 7 ∈ jTs := jmem 173 (by decide +kernel) (by decide +kernel)
theorem jl2_8 : u_lay RX2 TX2 8 ∈ jTs := jmem 175 (by decide +kernel) (by decide +kernel)
theorem jl2_9 : u_lay RX2 TX2 9 ∈ jTs := jmem 177 (by decide +kernel) (by decide +kernel)
theorem jl2_10 : u_lay RX2 TX2 10 ∈ jTs := jmem 179 (by decide +kernel) (by decide +kernel)
theorem jl2_11 : u_lay RX2 TX2 11 ∈ jTs := jmem 181 (by decide +kernel) (by decide +kernel)
theorem jl2_12 : u_lay RX2 TX2 12 ∈ jTs := jmem 183 (by decide +kernel) (by decide +kernel)
theorem jin2 : ∀ w ∈ u_ws RX2 TX2 13, w ∈ jTs := show ∀ w ∈ [u_lay RX2 TX2 0, u_lay RX2 TX2 1, u_lay RX2 TX2 2, u_lay RX2 TX2 3, u_lay RX2 TX2 4, u_lay RX2 TX2 5, u_lay RX2 TX2 6, u_lay RX2 TX2 7, u_lay RX2 TX2 8, u_lay RX2 TX2 9, u_lay RX2 TX2 10, u_lay RX2 TX2 11, u_lay RX2 TX2 12], w ∈ jTs from List.forall_mem_cons.mpr ⟨jl2_0, List.forall_mem_cons.mpr ⟨jl2_1, List.forall_mem_cons.mpr ⟨jl2_2, List.forall_mem_cons.mpr ⟨jl2_3, List.forall_mem_cons.mpr ⟨jl2_4, List.forall_mem_cons.mpr ⟨jl2_5, List.forall_mem_cons.mpr ⟨jl2_6, List.forall_mem_cons.mpr ⟨jl2_7, List.forall_mem_cons.mpr ⟨jl2_8, List.forall_mem_cons.mpr ⟨jl2_9, List.forall_mem_cons.mpr ⟨jl2_10, List.forall_mem_cons.mpr ⟨jl2_11, List.forall_mem_cons.mpr ⟨jl2_12, fun _ h => absurd h List.not_mem_nil⟩⟩⟩⟩⟩⟩⟩⟩⟩⟩⟩⟩⟩
theorem jl3_0 : u_lay RX3 TX3 0 ∈ jTs := jmem 360 (by decide +kernel) (by decide +kernel)
theorem jl3_1 : u_lay RX3 TX3 1 ∈ jTs := jmem 362 (by decide +kernel) (by decide +kernel)
theorem jl3_2 : u_lay RX3 TX3 2 ∈ jTs := jmem 364 (by decide +kernel) (by decide +kernel)
theorem jl3_3 : u_lay RX3 TX3 3 ∈ jTs := jmem 366 (by decide +kernel) (by decide +kernel)
theorem jin3 : ∀ w ∈ u_ws RX3 TX3 4, w ∈ jTs := show ∀ w ∈ [u_lay RX3 TX3 0, u_lay RX3 TX3 1, u_lay RX3 TX3 2, u_lay RX3 TX3 3], w ∈ jTs from List.forall_mem_cons.mpr ⟨jl3_0, List.forall_mem_cons.mpr ⟨jl3_1, List.forall_mem_cons.mpr ⟨jl3_2, List.forall_mem_cons.mpr ⟨jl3_3, fun _ h => absurd h List.not_mem_nil⟩⟩⟩⟩
theorem jl4_0 : u_lay RX4 TX4 0 ∈ jTs := jmem 341 (by decide +kernel) (by decide +kernel)
theorem jl4_1 : u_lay RX4 TX4 1 ∈ jTs := jmem 343 (by decide +kernel) (by decide +kernel)
theorem jin4 : ∀ w ∈ u_ws RX4 TX4 2, w ∈ jTs := show ∀ w ∈ [u_lay RX4 TX4 0, u_lay RX4 TX4 1], w ∈ jTs from List.forall_mem_cons.mpr ⟨jl4_0, List.forall_mem_cons.mpr ⟨jl4_1, fun _ h => absurd h List.not_mem_nil⟩⟩
theorem jl5_0 : u_lay RX5 TX5 0 ∈ jTs := jmem 197 (by decide +kernel) (by decide +kernel)
theorem jl5_1 : u_lay RX5 TX5 1 ∈ jTs := jmem 199 (by decide +kernel) (by decide +kernel)
theorem jl5_2 : u_lay RX5 TX5 2 ∈ jTs := jmem 201 (by decide +kernel) (by decide +kernel)
theorem jl5_3 : u_lay RX5 TX5 3 ∈ jTs := jmem 203 (by decide +kernel) (by decide +kernel)
theorem jl5_4 : u_lay RX5 TX5 4 ∈ jTs := jmem 205 (by decide +kernel) (by decide +kernel)
theorem jin5 : ∀ w ∈ u_ws RX5 TX5 5, w ∈ jTs := show ∀ w ∈ [u_lay RX5 TX5 0, u_lay RX5 TX5 1, u_lay RX5 TX5 2, u_lay RX5 TX5 3, u_lay RX5 TX5 4], w ∈ jTs from List.forall_mem_cons.mpr ⟨jl5_0, List.forall_mem_cons.mpr ⟨jl5_1, List.forall_mem_cons.mpr ⟨jl5_2, List.forall_mem_cons.mpr ⟨jl5_3, List.forall_mem_cons.mpr ⟨jl5_4, fun _ h => absurd h List.not_mem_nil⟩⟩⟩⟩⟩
theorem jl6_0 : u_lay RX6 TX6 0 ∈ jTs := jmem 314 (by decide +kernel) (by decide +kernel)
theorem jl6_1 : u_lay RX6 TX6 1 ∈ jTs := jmem 316 (by decide +kernel) (by decide +kernel)
theorem jl6_2 : u_lay RX6 TX6 2 ∈ jTs := jmem 318 (by decide +kernel) (by decide +kernel)
theorem jl6_3 : u_lay RX6 TX6 3 ∈ jTs := jmem 320 (by decide +kernel) (by decide +kernel)
theorem jl6_4 : u_lay RX6 TX6 4 ∈ jTs := jmem 322 (by decide +kernel) (by decide +kernel)
theorem jl6_5 : u_lay RX6 TX6 5 ∈ jTs := jmem 324 (by decide +kernel) (by decide +kernel)
theorem jl6_6 : u_lay RX6 TX6 6 ∈ jTs := jmem 326 (by decide +kernel) (by decide +kernel)
theorem jin6 : ∀ w ∈ u_ws RX6 TX6 7, w ∈ jTs := show ∀ w ∈ [u_lay RX6 TX6 0, u_lay RX6 TX6 1, u_lay RX6 TX6 2, u_lay RX6 TX6 3, u_lay RX6 TX6 4, u_lay RX6 TX6 5, u_lay RX6 TX6 6], w ∈ jTs from List.forall_mem_cons.mpr ⟨jl6_0, List.forall_mem_cons.mpr ⟨jl6_1, List.forall_mem_cons.mpr ⟨jl6_2, List.forall_mem_cons.mpr ⟨jl6_3, List.forall_mem_cons.mpr ⟨jl6_4, List.forall_mem_cons.mpr ⟨jl6_5, List.forall_mem_cons.mpr ⟨jl6_6, fun _ h => absurd h List.not_mem_nil⟩⟩⟩⟩⟩⟩⟩
theorem jl7_0 : u_lay RX7 TX7 0 ∈ jTs := jmem 112 (by decide +kernel) (by decide +kernel)
theorem jl7_1 : u_lay RX7 TX7 1 ∈ jTs := jmem 114 (by decide +kernel) (by decide +kernel)
theorem jl7_2 : u_lay RX7 TX7 2 ∈ jTs := jmem 116 (by decide +kernel) (by decide +kernel)
theorem jl7_3 : u_lay RX7 TX7 3 ∈ jTs := jmem 118 (by decide +kernel) (by decide +kernel)
theorem jl7_4 : u_lay RX7 TX7 4 ∈ jTs := jmem 120 (by decide +kernel) (by decide +kernel)
theorem jin7 : ∀ w ∈ u_ws RX7 TX7 5, w ∈ jTs := show ∀ w ∈ [u_lay RX7 TX7 0, u_lay RX7 TX7 1, u_lay RX7 TX7 2, u_lay RX7 TX7 3, u_lay RX7 TX7 4], w ∈ jTs from List.forall_mem_cons.mpr ⟨jl7_0, List.forall_mem_cons.mpr ⟨jl7_1, List.forall_mem_cons.mpr ⟨jl7_2, List.forall_mem_cons.mpr ⟨jl7_3, List.forall_mem_cons.mpr ⟨jl7_4, fun _ h => absurd h List.not_mem_nil⟩⟩⟩⟩⟩
theorem jl8_0 : u_lay RX8 TX8 0 ∈ jTs := jmem 386 (by decide +kernel) (by decide +kernel)
theorem jl8_1 : u_lay RX8 TX8 1 ∈ jTs := jmem 388 (by decide +kernel) (by decide +kernel)
theorem jl8_2 : u_lay RX8 TX8 2 ∈ jTs := jmem 390 (by decide +kernel) (by decide +kernel)
theorem jl8_3 : u_lay RX8 TX8 3 ∈ jTs := jmem 392 (by decide +kernel) (by decide +kernel)
theorem jl8_4 : u_lay RX8 TX8 4 ∈ jTs := jmem 394 (by decide +kernel) (by decide +kernel)
theorem jl8_5 : u_lay RX8 TX8 5 ∈ jTs := jmem 396 (by decide +kernel) (by decide +kernel)
theorem jl8_6 : u_lay RX8 TX8 6 ∈ jTs := jmem 398 (by decide +kernel) (by decide +kernel)
theorem jl8_7 : u_lay RX8 TX8 7 ∈ jTs := jmem 400 (by decide +kernel) (by decide +kernel)
theorem jl8_8 : u_lay RX8 TX8 8 ∈ jTs := jmem 402 (by decide +kernel) (by decide +kernel)
theorem jl8_9 : u_lay RX8 TX8 9 ∈ jTs := jmem 404 (by decide +kernel) (by decide +kernel)
theorem jl8_10 : u_lay RX8 TX8 10 ∈ jTs := jmem 406 (by decide +kernel) (by decide +kernel)
theorem jl8_11 : u_lay RX8 TX8 11 ∈ jTs := jmem 408 (by decide +kernel) (by decide +kernel)
theorem jl8_12 : u_lay RX8 TX8 12 ∈ jTs := jmem 410 (by decide +kernel) (by decide +kernel)
theorem jl8_13 : u_lay RX8 TX8 13 ∈ jTs := jmem 412 (by decide +kernel) (by decide +kernel)
theorem jin8 : ∀ w ∈ u_ws RX8 TX8 14, w ∈ jTs := show ∀ w ∈ [u_lay RX8 TX8 0, u_lay RX8 TX8 1, u_lay RX8 TX8 2, u_lay RX8 TX8 3, u_lay RX8 TX8 4, u_lay RX8 TX8 5, u_lay RX8 TX8 6, u_lay RX8 TX8 7, u_lay RX8 TX8 8, u_lay RX8 TX8 9, u_lay RX8 TX8 10, u_lay RX8 TX8 11, u_lay RX8 TX8 12, u_lay RX8 TX8 13], w ∈ jTs from List.forall_mem_cons.mpr ⟨jl8_0, List.forall_mem_cons.mpr ⟨jl8_1, List.forall_mem_cons.mpr ⟨jl8_2, List.forall_mem_cons.mpr ⟨jl8_3, List.forall_mem_cons.mpr ⟨jl8_4, List.forall_mem_cons.mpr ⟨jl8_5, List.forall_mem_cons.mpr ⟨jl8_6, List.forall_mem_cons.mpr ⟨jl8_7, List.forall_mem_cons.mpr ⟨jl8_8, List.forall_mem_cons.mpr ⟨jl8_9, List.forall_mem_cons.mpr ⟨jl8_10, List.forall_mem_cons.mpr ⟨jl8_11, List.forall_mem_cons.mpr ⟨jl8_12, List.forall_mem_cons.mpr ⟨jl8_13, fun _ h => absurd h List.not_mem_nil⟩⟩⟩⟩⟩⟩⟩⟩⟩⟩⟩⟩⟩⟩
theorem jl9_0 : u_lay RX9 TX9 0 ∈ jTs := jmem 906 (by decide +kernel) (by decide +kernel)
theorem jl9_1 : u_lay RX9 TX9 1 ∈ jTs := jmem 908 (by decide +kernel) (by decide +kernel)
theorem jl9_2 : u_lay RX9 TX9 2 ∈ jTs := jmem 910 (by decide +kernel) (by decide +kernel)
theorem jl9_3 : u_lay RX9 TX9 3 ∈ jTs := jmem 912 (by decide +kernel) (by decide +kernel)
theorem jl9_4 : u_lay RX9 TX9 4 ∈ jTs := jmem 914 (by decide +kernel) (by decide +kernel)
theorem jl9_5 : u_lay RX9 TX9 5 ∈ jTs := jmem 916 (by decide +kernel) (by decide +kernel)
theorem jl9_6 : u_lay RX9 TX9 6 ∈ jTs := jmem 918 (by decide +kernel) (by decide +kernel)
theorem jl9_7 : u_lay RX9 TX9 7 ∈ jTs := jmem 920 (by decide +kernel) (by decide +kernel)
theorem jl9_8 : u_lay RX9 TX9 8 ∈ jTs := jmem 922 (by decide +kernel) (by decide +kernel)
theorem jl9_9 : u_lay RX9 TX9 9 ∈ jTs := jmem 924 (by decide +kernel) (by decide +kernel)
theorem jl9_10 : u_lay RX9 TX9 10 ∈ jTs := jmem 926 (by decide +kernel) (by decide +kernel)
theorem jl9_11 : u_lay RX9 TX9 11 ∈ jTs := jmem 928 (by decide +kernel) (by decide +kernel)
theorem jl9_12 : u_lay RX9 TX9 12 ∈ jTs := jmem 930 (by decide +kernel) (by decide +kernel)
theorem jl9_13 : u_lay RX9 TX9 13 ∈ jTs := jmem 932 (by decide +kernel) (by decide +kernel)
theorem jl9_14 : u_lay RX9 TX9 14 ∈ jTs := jmem 934 (by decide +kernel) (by decide +kernel)
theorem jl9_15 : u_lay RX9 TX9 15 ∈ jTs := jmem 936 (by decide +kernel) (by decide +kernel)
theorem jl9_16 : u_lay RX9 TX9 16 ∈ jTs := jmem 938 (by decide +kernel) (by decide +kernel)
theorem jl9_17 : u_lay RX9 TX9 17 ∈ jTs := jmem 940 (by decide +kernel) (by decide +kernel)
theorem jl9_18 : u_lay RX9 TX9 18 ∈ jTs := jmem 942 (by decide +kernel) (by decide +kernel)
theorem jl9_19 : u_lay RX9 TX9 19 ∈ jTs := jmem 944 (by decide +kernel) (by decide +kernel)
theorem jl9_20 : u_lay RX9 TX9 20 ∈ jTs := jmem 946 (by decide +kernel) (by decide +kernel)
theorem jl9_21 : u_lay RX9 TX9 21 ∈ jTs := jmem 948 (by decide +kernel) (by decide +kernel)
theorem jl9_22 : u_lay RX9 TX9 22 ∈ jTs := jmem 950 (by decide +kernel) (by decide +kernel)
theorem jl9_23 : u_lay RX9 TX9 23 ∈ jTs := jmem 952 (by decide +kernel) (by decide +kernel)
theorem jl9_24 : u_lay RX9 TX9 24 ∈ jTs := jmem 954 (by decide +kernel) (by decide +kernel)
theorem jl9_25 : u_lay RX9 TX9 25 ∈ jTs := jmem 956 (by decide +kernel) (by decide +kernel)
theorem jl9_26 : u_lay RX9 TX9 26 ∈ jTs := jmem 958 (by decide +kernel) (by decide +kernel)
theorem jl9_27 : u_lay RX9 TX9 27 ∈ jTs := jmem 960 (by decide +kernel) (by decide +kernel)
theorem jl9_28 : u_lay RX9 TX9 28 ∈ jTs := jmem 962 (by decide +kernel) (by decide +kernel)
theorem jl9_29 : u_lay RX9 TX9 29 ∈ jTs := jmem 964 (by decide +kernel) (by decide +kernel)
theorem jl9_30 : u_lay RX9 TX9 30 ∈ jTs := jmem 966 (by decide +kernel) (by decide +kernel)
theorem jl9_31 : u_lay RX9 TX9 31 ∈ jTs := jmem 968 (by decide +kernel) (by decide +kernel)
theorem jl9_32 : u_lay RX9 TX9 32 ∈ jTs := jmem 970 (by decide +kernel) (by decide +kernel)
theorem jl9_33 : u_lay RX9 TX9 33 ∈ jTs := jmem 972 (by decide +kernel) (by decide +kernel)
theorem jl9_34 : u_lay RX9 TX9 34 ∈ jTs := jmem 974 (by decide +kernel) (by decide +kernel)
theorem jl9_35 : u_lay RX9 TX9 35 ∈ jTs := jmem 976 (by decide +kernel) (by decide +kernel)
theorem jl9_36 : u_lay RX9 TX9 36 ∈ jTs := jmem 978 (by decide +kernel) (by decide +kernel)
theorem jl9_37 : u_lay RX9 TX9 37 ∈ jTs := jmem 980 (by decide +kernel) (by decide +kernel)
theorem jl9_38 : u_lay RX9 TX9 38 ∈ jTs := jmem 982 (by decide +kernel) (by decide +kernel)
theorem jl9_39 : u_lay RX9 TX9 39 ∈ jTs := jmem 984 (by decide +kernel) (by decide +kernel)
theorem jl9_40 : u_lay RX9 TX9 40 ∈ jTs := jmem 986 (by decide +kernel) (by decide +kernel)
theorem jl9_41 : u_lay RX9 TX9 41 ∈ jTs := jmem 988 (by decide +kernel) (by decide +kernel)
theorem jl9_42 : u_lay RX9 TX9 42 ∈ jTs := jmem 990 (by decide +kernel) (by decide +kernel)
theorem jl9_43 : u_lay RX9 TX9 43 ∈ jTs := jmem 992 (by decide +kernel) (by decide +kernel)
theorem jl9_44 : u_lay RX9 TX9 44 ∈ jTs := jmem 994 (by decide +kernel) (by decide +kernel)
theorem jl9_45 : u_lay RX9 TX9 45 ∈ jTs := jmem 996 (by decide +kernel) (by decide +kernel)
theorem jl9_46 : u_lay RX9 TX9 46 ∈ jTs := jmem 998 (by decide +kernel) (by decide +kernel)
theorem jl9_47 : u_lay RX9 TX9 47 ∈ jTs := jmem 1000 (by decide +kernel) (by decide +kernel)
theorem jl9_48 : u_lay RX9 TX9 48 ∈ jTs := jmem 1002 (by decide +kernel) (by decide +kernel)
theorem jl9_49 : u_lay RX9 TX9 49 ∈ jTs := jmem 1004 (by decide +kernel) (by decide +kernel)
theorem jin9 : ∀ w ∈ u_ws RX9 TX9 50, w ∈ jTs := show ∀ w ∈ [u_lay RX9 TX9 0, u_lay RX9 TX9 1, u_lay RX9 TX9 2, u_lay RX9 TX9 3, u_lay RX9 TX9 4, u_lay RX9 TX9 5, u_lay RX9 TX9 6, u_lay RX9 TX9 7, u_lay RX9 TX9 8, u_lay RX9 TX9 9, u_lay RX9 TX9 10, u_lay RX9 TX9 11, u_lay RX9 TX9 12, u_lay RX9 TX9 13, u_lay RX9 TX9 14, u_lay RX9 TX9 15, u_lay RX9 TX9 16, u_lay RX9 TX9 17, u_lay RX9 TX9 18, u_lay RX9 TX9 19, u_lay RX9 TX9 20, u_lay RX9 TX9 21, u_lay RX9 TX9 22, u_lay RX9 TX9 23, u_lay RX9 TX9 24, u_lay RX9 TX9 25, u_lay RX9 TX9 26, u_lay RX9 TX9 27, u_lay RX9 TX9 28, u_lay RX9 TX9 29, u_lay RX9 TX9 30, u_lay RX9 TX9 31, u_lay RX9 TX9 32, u_lay RX9 TX9 33, u_lay RX9 TX9 34, u_lay RX9 TX9 35, u_lay RX9 TX9 36, u_lay RX9 TX9 37, u_lay RX9 TX9 38, u_lay RX9 TX9 39, u_lay RX9 TX9 40, u_lay RX9 TX9 41, u_lay RX9 TX9 42, u_lay RX9 TX9 43, u_lay RX9 TX9 44, u_lay RX9 TX9 45, u_lay RX9 TX9 46, u_lay RX9 TX9 47, u_lay RX9 TX9 48, u_lay RX9 TX9 49], w ∈ jTs from List.forall_mem_cons.mpr ⟨jl9_0, List.forall_mem_cons.mpr ⟨jl9_1, List.forall_mem_cons.mpr ⟨jl9_2, List.forall_mem_cons.mpr ⟨jl9_3, List.forall_mem_cons.mpr ⟨jl9_4, List.forall_mem_cons.mpr ⟨jl9_5, List.forall_mem_cons.mpr ⟨jl9_6, List.forall_mem_cons.mpr ⟨jl9_7, List.forall_mem_cons.mpr ⟨jl9_8, List.forall_mem_cons.mpr ⟨jl9_9, List.forall_mem_cons.mpr ⟨jl9_10, List.forall_mem_cons.mpr ⟨jl9_11, List.forall_mem_cons.mpr ⟨jl9_12, List.forall_mem_cons.mpr ⟨jl9_13, List.forall_mem_cons.mpr ⟨jl9_14, List.forall_mem_cons.mpr ⟨jl9_15, List.forall_mem_cons.mpr ⟨jl9_16, List.forall_mem_cons.mpr ⟨jl9_17, List.forall_mem_cons.mpr ⟨jl9_18, List.forall_mem_cons.mpr ⟨jl9_19, List.forall_mem_cons.mpr ⟨jl9_20, List.forall_mem_cons.mpr ⟨jl9_21, List.forall_mem_cons.mpr ⟨jl9_22, List.forall_mem_cons.mpr ⟨jl9_23, List.forall_mem_cons.mpr ⟨jl9_24, List.forall_mem_cons.mpr ⟨jl9_25, List.forall_mem_cons.mpr ⟨jl9_26, List.forall_mem_cons.mpr ⟨jl9_27, List.forall_mem_cons.mpr ⟨jl9_28, List.forall_mem_cons.mpr ⟨jl9_29, List.forall_mem_cons.mpr ⟨jl9_30, List.forall_mem_cons.mpr ⟨jl9_31, List.forall_mem_cons.mpr ⟨jl9_32, List.forall_mem_cons.mpr ⟨jl9_33, List.forall_mem_cons.mpr ⟨jl9_34, List.forall_mem_cons.mpr ⟨jl9_35, List.forall_mem_cons.mpr ⟨jl9_36, List.forall_mem_cons.mpr ⟨jl9_37, List.forall_mem_cons.mpr ⟨jl9_38, List.forall_mem_cons.mpr ⟨jl9_39, List.forall_mem_cons.mpr ⟨jl9_40, List.forall_mem_cons.mpr ⟨jl9_41, List.forall_mem_cons.mpr ⟨jl9_42, List.forall_mem_cons.mpr ⟨jl9_43, List.forall_mem_cons.mpr ⟨jl9_44, List.forall_mem_cons.mpr ⟨jl9_45, List.forall_mem_cons.mpr ⟨jl9_46, List.forall_mem_cons.mpr ⟨jl9_47, List.forall_mem_cons.mpr ⟨jl9_48, List.forall_mem_cons.mpr ⟨jl9_49, fun _ h => absurd h List.not_mem_nil⟩⟩⟩⟩⟩⟩⟩⟩⟩⟩⟩⟩⟩⟩⟩⟩⟩⟩⟩⟩⟩⟩⟩⟩⟩⟩⟩⟩⟩⟩⟩⟩⟩⟩⟩⟩⟩⟩⟩⟩⟩⟩⟩⟩⟩⟩⟩⟩⟩⟩
theorem jin : ∀ c, c < 10 → ∀ w ∈ u_ws (jR_ c) (jT_ c) (jF_ c), w ∈ jTs := by
  intro c hc
  rcases (show c = 0 ∨ c = 1 ∨ c = 2 ∨ c = 3 ∨ c = 4 ∨ c = 5 ∨ c = 6 ∨ c = 7 ∨ c = 8 ∨ c = 9 by omega) with rfl | rfl | rfl | rfl | rfl | rfl | rfl | rfl | rfl | rfl
  · exact jin0
  · exact jin1
  · exact jin2
  · exact jin3
  · exact jin4
  · exact jin5
  · exact jin6
  · exact jin7
  · exact jin8
  · exact jin9
