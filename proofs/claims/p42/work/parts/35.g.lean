section
theorem wn_MO_callsJoy_0 : ∀ i, i < 95 → bA b_MO_callsJoy (0 + i) = wB [3, 62, 3, 54, 4, 3, 54, 5, 3, 54, 6, 21, 6, 42, 180, 0, 13, 16, 6, 46, 162, 0, 83, 42, 27, 42, 180, 0, 79, 16, 8, 27, 104, 21, 6, 96, 46, 182, 1, 158, 42, 180, 1, 91, 157, 0, 53, 42, 180, 0, 25, 42, 180, 1, 100, 46, 28, 4, 96, 159, 0, 6, 167, 0, 35, 132, 3, 1, 21, 4, 42, 180, 0, 38, 21, 6, 46, 96, 54, 4, 21, 5, 42, 180, 1, 85, 158, 0, 7, 4, 167, 0, 4, 3, 96] i := wB_of (by decide +kernel)
theorem d_MO_callsJoy_0 : decode b_MO_callsJoy 0 = .ok (.iconst 0, 1) := dc_3 (q0_win (r := 0) wn_MO_callsJoy_0 (by decide +kernel))
theorem d_MO_callsJoy_1 : decode b_MO_callsJoy 1 = .ok (.istore_n 3, 1) := dc_62 (q0_win (r := 1) wn_MO_callsJoy_0 (by decide +kernel))
theorem d_MO_callsJoy_2 : decode b_MO_callsJoy 2 = .ok (.iconst 0, 1) := dc_3 (q0_win (r := 2) wn_MO_callsJoy_0 (by decide +kernel))
theorem d_MO_callsJoy_3 : decode b_MO_callsJoy 3 = .ok (.istore 4, 2) := dc_54 (qU1_win (r := 3) wn_MO_callsJoy_0 (by decide +kernel))
theorem d_MO_callsJoy_5 : decode b_MO_callsJoy 5 = .ok (.iconst 0, 1) := dc_3 (q0_win (r := 5) wn_MO_callsJoy_0 (by decide +kernel))
theorem d_MO_callsJoy_6 : decode b_MO_callsJoy 6 = .ok (.istore 5, 2) := dc_54 (qU1_win (r := 6) wn_MO_callsJoy_0 (by decide +kernel))
theorem d_MO_callsJoy_8 : decode b_MO_callsJoy 8 = .ok (.iconst 0, 1) := dc_3 (q0_win (r := 8) wn_MO_callsJoy_0 (by decide +kernel))
theorem d_MO_callsJoy_9 : decode b_MO_callsJoy 9 = .ok (.istore 6, 2) := dc_54 (qU1_win (r := 9) wn_MO_callsJoy_0 (by decide +kernel))
theorem d_MO_callsJoy_11 : decode b_MO_callsJoy 11 = .ok (.iload 6, 2) := dc_21 (qU1_win (r := 11) wn_MO_callsJoy_0 (by decide +kernel))
theorem d_MO_callsJoy_13 : decode b_MO_callsJoy 13 = .ok (.aload_n 0, 1) := dc_42 (q0_win (r := 13) wn_MO_callsJoy_0 (by decide +kernel))
theorem d_MO_callsJoy_14 : decode b_MO_callsJoy 14 = .ok (.getfield 13, 3) := dc_180 (qU2_win (r := 14) wn_MO_callsJoy_0 (by decide +kernel))
theorem d_MO_callsJoy_17 : decode b_MO_callsJoy 17 = .ok (.bipush 6, 2) := dc_16 (qS1_win (r := 17) wn_MO_callsJoy_0 (by decide +kernel))
theorem d_MO_callsJoy_19 : decode b_MO_callsJoy 19 = .ok (.iaload, 1) := dc_46 (q0_win (r := 19) wn_MO_callsJoy_0 (by decide +kernel))
theorem d_MO_callsJoy_20 : decode b_MO_callsJoy 20 = .ok (.if_icmp .ge 83, 3) := dc_162 (qS2_win (r := 20) wn_MO_callsJoy_0 (by decide +kernel))
theorem d_MO_callsJoy_23 : decode b_MO_callsJoy 23 = .ok (.aload_n 0, 1) := dc_42 (q0_win (r := 23) wn_MO_callsJoy_0 (by decide +kernel))
theorem d_MO_callsJoy_24 : decode b_MO_callsJoy 24 = .ok (.iload_n 1, 1) := dc_27 (q0_win (r := 24) wn_MO_callsJoy_0 (by decide +kernel))
theorem d_MO_callsJoy_25 : decode b_MO_callsJoy 25 = .ok (.aload_n 0, 1) := dc_42 (q0_win (r := 25) wn_MO_callsJoy_0 (by decide +kernel))
theorem d_MO_callsJoy_26 : decode b_MO_callsJoy 26 = .ok (.getfield 79, 3) := dc_180 (qU2_win (r := 26) wn_MO_callsJoy_0 (by decide +kernel))
theorem d_MO_callsJoy_29 : decode b_MO_callsJoy 29 = .ok (.bipush 8, 2) := dc_16 (qS1_win (r := 29) wn_MO_callsJoy_0 (by decide +kernel))
theorem d_MO_callsJoy_31 : decode b_MO_callsJoy 31 = .ok (.iload_n 1, 1) := dc_27 (q0_win (r := 31) wn_MO_callsJoy_0 (by decide +kernel))
theorem d_MO_callsJoy_32 : decode b_MO_callsJoy 32 = .ok (.imul, 1) := dc_104 (q0_win (r := 32) wn_MO_callsJoy_0 (by decide +kernel))
theorem d_MO_callsJoy_33 : decode b_MO_callsJoy 33 = .ok (.iload 6, 2) := dc_21 (qU1_win (r := 33) wn_MO_callsJoy_0 (by decide +kernel))
theorem d_MO_callsJoy_35 : decode b_MO_callsJoy 35 = .ok (.iadd, 1) := dc_96 (q0_win (r := 35) wn_MO_callsJoy_0 (by decide +kernel))
theorem d_MO_callsJoy_36 : decode b_MO_callsJoy 36 = .ok (.iaload, 1) := dc_46 (q0_win (r := 36) wn_MO_callsJoy_0 (by decide +kernel))
theorem d_MO_callsJoy_37 : decode b_MO_callsJoy 37 = .ok (.invokevirtual 414, 3) := dc_182 (qU2_win (r := 37) wn_MO_callsJoy_0 (by decide +kernel))
theorem d_MO_callsJoy_40 : decode b_MO_callsJoy 40 = .ok (.aload_n 0, 1) := dc_42 (q0_win (r := 40) wn_MO_callsJoy_0 (by decide +kernel))
theorem d_MO_callsJoy_41 : decode b_MO_callsJoy 41 = .ok (.getfield 347, 3) := dc_180 (qU2_win (r := 41) wn_MO_callsJoy_0 (by decide +kernel))
theorem d_MO_callsJoy_44 : decode b_MO_callsJoy 44 = .ok (.ifCond .gt 53, 3) := dc_157 (qS2_win (r := 44) wn_MO_callsJoy_0 (by decide +kernel))
theorem d_MO_callsJoy_47 : decode b_MO_callsJoy 47 = .ok (.aload_n 0, 1) := dc_42 (q0_win (r := 47) wn_MO_callsJoy_0 (by decide +kernel))
theorem d_MO_callsJoy_48 : decode b_MO_callsJoy 48 = .ok (.getfield 25, 3) := dc_180 (qU2_win (r := 48) wn_MO_callsJoy_0 (by decide +kernel))
theorem d_MO_callsJoy_51 : decode b_MO_callsJoy 51 = .ok (.aload_n 0, 1) := dc_42 (q0_win (r := 51) wn_MO_callsJoy_0 (by decide +kernel))
theorem d_MO_callsJoy_52 : decode b_MO_callsJoy 52 = .ok (.getfield 356, 3) := dc_180 (qU2_win (r := 52) wn_MO_callsJoy_0 (by decide +kernel))
theorem d_MO_callsJoy_55 : decode b_MO_callsJoy 55 = .ok (.iaload, 1) := dc_46 (q0_win (r := 55) wn_MO_callsJoy_0 (by decide +kernel))
theorem d_MO_callsJoy_56 : decode b_MO_callsJoy 56 = .ok (.iload_n 2, 1) := dc_28 (q0_win (r := 56) wn_MO_callsJoy_0 (by decide +kernel))
theorem d_MO_callsJoy_57 : decode b_MO_callsJoy 57 = .ok (.iconst 1, 1) := dc_4 (q0_win (r := 57) wn_MO_callsJoy_0 (by decide +kernel))
theorem d_MO_callsJoy_58 : decode b_MO_callsJoy 58 = .ok (.iadd, 1) := dc_96 (q0_win (r := 58) wn_MO_callsJoy_0 (by decide +kernel))
theorem d_MO_callsJoy_59 : decode b_MO_callsJoy 59 = .ok (.if_icmp .eq 6, 3) := dc_159 (qS2_win (r := 59) wn_MO_callsJoy_0 (by decide +kernel))
theorem d_MO_callsJoy_62 : decode b_MO_callsJoy 62 = .ok (.goto 35, 3) := dc_167 (qS2_win (r := 62) wn_MO_callsJoy_0 (by decide +kernel))
theorem d_MO_callsJoy_65 : decode b_MO_callsJoy 65 = .ok (.iinc 3 1, 3) := dc_132 (qI_win (r := 65) wn_MO_callsJoy_0 (by decide +kernel))
theorem d_MO_callsJoy_68 : decode b_MO_callsJoy 68 = .ok (.iload 4, 2) := dc_21 (qU1_win (r := 68) wn_MO_callsJoy_0 (by decide +kernel))
theorem d_MO_callsJoy_70 : decode b_MO_callsJoy 70 = .ok (.aload_n 0, 1) := dc_42 (q0_win (r := 70) wn_MO_callsJoy_0 (by decide +kernel))
theorem d_MO_callsJoy_71 : decode b_MO_callsJoy 71 = .ok (.getfield 38, 3) := dc_180 (qU2_win (r := 71) wn_MO_callsJoy_0 (by decide +kernel))
theorem d_MO_callsJoy_74 : decode b_MO_callsJoy 74 = .ok (.iload 6, 2) := dc_21 (qU1_win (r := 74) wn_MO_callsJoy_0 (by decide +kernel))
theorem d_MO_callsJoy_76 : decode b_MO_callsJoy 76 = .ok (.iaload, 1) := dc_46 (q0_win (r := 76) wn_MO_callsJoy_0 (by decide +kernel))
theorem d_MO_callsJoy_77 : decode b_MO_callsJoy 77 = .ok (.iadd, 1) := dc_96 (q0_win (r := 77) wn_MO_callsJoy_0 (by decide +kernel))
theorem d_MO_callsJoy_78 : decode b_MO_callsJoy 78 = .ok (.istore 4, 2) := dc_54 (qU1_win (r := 78) wn_MO_callsJoy_0 (by decide +kernel))
theorem d_MO_callsJoy_80 : decode b_MO_callsJoy 80 = .ok (.iload 5, 2) := dc_21 (qU1_win (r := 80) wn_MO_callsJoy_0 (by decide +kernel))
theorem d_MO_callsJoy_82 : decode b_MO_callsJoy 82 = .ok (.aload_n 0, 1) := dc_42 (q0_win (r := 82) wn_MO_callsJoy_0 (by decide +kernel))
theorem d_MO_callsJoy_83 : decode b_MO_callsJoy 83 = .ok (.getfield 341, 3) := dc_180 (qU2_win (r := 83) wn_MO_callsJoy_0 (by decide +kernel))
theorem d_MO_callsJoy_86 : decode b_MO_callsJoy 86 = .ok (.ifCond .le 7, 3) := dc_158 (qS2_win (r := 86) wn_MO_callsJoy_0 (by decide +kernel))
theorem d_MO_callsJoy_89 : decode b_MO_callsJoy 89 = .ok (.iconst 1, 1) := dc_4 (q0_win (r := 89) wn_MO_callsJoy_0 (by decide +kernel))
theorem d_MO_callsJoy_90 : decode b_MO_callsJoy 90 = .ok (.goto 4, 3) := dc_167 (qS2_win (r := 90) wn_MO_callsJoy_0 (by decide +kernel))
theorem d_MO_callsJoy_93 : decode b_MO_callsJoy 93 = .ok (.iconst 0, 1) := dc_3 (q0_win (r := 93) wn_MO_callsJoy_0 (by decide +kernel))
theorem d_MO_callsJoy_94 : decode b_MO_callsJoy 94 = .ok (.iadd, 1) := dc_96 (q0_win (r := 94) wn_MO_callsJoy_0 (by decide +kernel))
theorem wn_MO_callsJoy_95 : ∀ i, i < 81 → bA b_MO_callsJoy (95 + i) = wB [54, 5, 132, 6, 1, 167, 255, 167, 42, 180, 0, 106, 3, 42, 180, 0, 22, 28, 46, 133, 80, 42, 180, 0, 106, 4, 42, 28, 182, 1, 116, 133, 80, 42, 180, 0, 106, 5, 29, 133, 80, 42, 180, 0, 106, 6, 21, 4, 133, 80, 42, 180, 0, 106, 7, 21, 5, 133, 80, 42, 180, 0, 106, 8, 9, 80, 42, 180, 0, 106, 16, 6, 42, 180, 0, 60, 27, 46, 133, 80, 177] i := wB_of (by decide +kernel)
theorem d_MO_callsJoy_95 : decode b_MO_callsJoy 95 = .ok (.istore 5, 2) := dc_54 (qU1_win (r := 0) wn_MO_callsJoy_95 (by decide +kernel))
theorem d_MO_callsJoy_97 : decode b_MO_callsJoy 97 = .ok (.iinc 6 1, 3) := dc_132 (qI_win (r := 2) wn_MO_callsJoy_95 (by decide +kernel))
theorem d_MO_callsJoy_100 : decode b_MO_callsJoy 100 = .ok (.goto (-89), 3) := dc_167 (qS2_win (r := 5) wn_MO_callsJoy_95 (by decide +kernel))
theorem d_MO_callsJoy_103 : decode b_MO_callsJoy 103 = .ok (.aload_n 0, 1) := dc_42 (q0_win (r := 8) wn_MO_callsJoy_95 (by decide +kernel))
theorem d_MO_callsJoy_104 : decode b_MO_callsJoy 104 = .ok (.getfield 106, 3) := dc_180 (qU2_win (r := 9) wn_MO_callsJoy_95 (by decide +kernel))
theorem d_MO_callsJoy_107 : decode b_MO_callsJoy 107 = .ok (.iconst 0, 1) := dc_3 (q0_win (r := 12) wn_MO_callsJoy_95 (by decide +kernel))
theorem d_MO_callsJoy_108 : decode b_MO_callsJoy 108 = .ok (.aload_n 0, 1) := dc_42 (q0_win (r := 13) wn_MO_callsJoy_95 (by decide +kernel))
theorem d_MO_callsJoy_109 : decode b_MO_callsJoy 109 = .ok (.getfield 22, 3) := dc_180 (qU2_win (r := 14) wn_MO_callsJoy_95 (by decide +kernel))
theorem d_MO_callsJoy_112 : decode b_MO_callsJoy 112 = .ok (.iload_n 2, 1) := dc_28 (q0_win (r := 17) wn_MO_callsJoy_95 (by decide +kernel))
theorem d_MO_callsJoy_113 : decode b_MO_callsJoy 113 = .ok (.iaload, 1) := dc_46 (q0_win (r := 18) wn_MO_callsJoy_95 (by decide +kernel))
theorem d_MO_callsJoy_114 : decode b_MO_callsJoy 114 = .ok (.i2l, 1) := dc_133 (q0_win (r := 19) wn_MO_callsJoy_95 (by decide +kernel))
theorem d_MO_callsJoy_115 : decode b_MO_callsJoy 115 = .ok (.lastore, 1) := dc_80 (q0_win (r := 20) wn_MO_callsJoy_95 (by decide +kernel))
theorem d_MO_callsJoy_116 : decode b_MO_callsJoy 116 = .ok (.aload_n 0, 1) := dc_42 (q0_win (r := 21) wn_MO_callsJoy_95 (by decide +kernel))
theorem d_MO_callsJoy_117 : decode b_MO_callsJoy 117 = .ok (.getfield 106, 3) := dc_180 (qU2_win (r := 22) wn_MO_callsJoy_95 (by decide +kernel))
theorem d_MO_callsJoy_120 : decode b_MO_callsJoy 120 = .ok (.iconst 1, 1) := dc_4 (q0_win (r := 25) wn_MO_callsJoy_95 (by decide +kernel))
theorem d_MO_callsJoy_121 : decode b_MO_callsJoy 121 = .ok (.aload_n 0, 1) := dc_42 (q0_win (r := 26) wn_MO_callsJoy_95 (by decide +kernel))
theorem d_MO_callsJoy_122 : decode b_MO_callsJoy 122 = .ok (.iload_n 2, 1) := dc_28 (q0_win (r := 27) wn_MO_callsJoy_95 (by decide +kernel))
theorem d_MO_callsJoy_123 : decode b_MO_callsJoy 123 = .ok (.invokevirtual 372, 3) := dc_182 (qU2_win (r := 28) wn_MO_callsJoy_95 (by decide +kernel))
theorem d_MO_callsJoy_126 : decode b_MO_callsJoy 126 = .ok (.i2l, 1) := dc_133 (q0_win (r := 31) wn_MO_callsJoy_95 (by decide +kernel))
theorem d_MO_callsJoy_127 : decode b_MO_callsJoy 127 = .ok (.lastore, 1) := dc_80 (q0_win (r := 32) wn_MO_callsJoy_95 (by decide +kernel))
theorem d_MO_callsJoy_128 : decode b_MO_callsJoy 128 = .ok (.aload_n 0, 1) := dc_42 (q0_win (r := 33) wn_MO_callsJoy_95 (by decide +kernel))
theorem d_MO_callsJoy_129 : decode b_MO_callsJoy 129 = .ok (.getfield 106, 3) := dc_180 (qU2_win (r := 34) wn_MO_callsJoy_95 (by decide +kernel))
theorem d_MO_callsJoy_132 : decode b_MO_callsJoy 132 = .ok (.iconst 2, 1) := dc_5 (q0_win (r := 37) wn_MO_callsJoy_95 (by decide +kernel))
theorem d_MO_callsJoy_133 : decode b_MO_callsJoy 133 = .ok (.iload_n 3, 1) := dc_29 (q0_win (r := 38) wn_MO_callsJoy_95 (by decide +kernel))
theorem d_MO_callsJoy_134 : decode b_MO_callsJoy 134 = .ok (.i2l, 1) := dc_133 (q0_win (r := 39) wn_MO_callsJoy_95 (by decide +kernel))
theorem d_MO_callsJoy_135 : decode b_MO_callsJoy 135 = .ok (.lastore, 1) := dc_80 (q0_win (r := 40) wn_MO_callsJoy_95 (by decide +kernel))
theorem d_MO_callsJoy_136 : decode b_MO_callsJoy 136 = .ok (.aload_n 0, 1) := dc_42 (q0_win (r := 41) wn_MO_callsJoy_95 (by decide +kernel))
theorem d_MO_callsJoy_137 : decode b_MO_callsJoy 137 = .ok (.getfield 106, 3) := dc_180 (qU2_win (r := 42) wn_MO_callsJoy_95 (by decide +kernel))
theorem d_MO_callsJoy_140 : decode b_MO_callsJoy 140 = .ok (.iconst 3, 1) := dc_6 (q0_win (r := 45) wn_MO_callsJoy_95 (by decide +kernel))
theorem d_MO_callsJoy_141 : decode b_MO_callsJoy 141 = .ok (.iload 4, 2) := dc_21 (qU1_win (r := 46) wn_MO_callsJoy_95 (by decide +kernel))
theorem d_MO_callsJoy_143 : decode b_MO_callsJoy 143 = .ok (.i2l, 1) := dc_133 (q0_win (r := 48) wn_MO_callsJoy_95 (by decide +kernel))
theorem d_MO_callsJoy_144 : decode b_MO_callsJoy 144 = .ok (.lastore, 1) := dc_80 (q0_win (r := 49) wn_MO_callsJoy_95 (by decide +kernel))
theorem d_MO_callsJoy_145 : decode b_MO_callsJoy 145 = .ok (.aload_n 0, 1) := dc_42 (q0_win (r := 50) wn_MO_callsJoy_95 (by decide +kernel))
theorem d_MO_callsJoy_146 : decode b_MO_callsJoy 146 = .ok (.getfield 106, 3) := dc_180 (qU2_win (r := 51) wn_MO_callsJoy_95 (by decide +kernel))
theorem d_MO_callsJoy_149 : decode b_MO_callsJoy 149 = .ok (.iconst 4, 1) := dc_7 (q0_win (r := 54) wn_MO_callsJoy_95 (by decide +kernel))
theorem d_MO_callsJoy_150 : decode b_MO_callsJoy 150 = .ok (.iload 5, 2) := dc_21 (qU1_win (r := 55) wn_MO_callsJoy_95 (by decide +kernel))
theorem d_MO_callsJoy_152 : decode b_MO_callsJoy 152 = .ok (.i2l, 1) := dc_133 (q0_win (r := 57) wn_MO_callsJoy_95 (by decide +kernel))
theorem d_MO_callsJoy_153 : decode b_MO_callsJoy 153 = .ok (.lastore, 1) := dc_80 (q0_win (r := 58) wn_MO_callsJoy_95 (by decide +kernel))
theorem d_MO_callsJoy_154 : decode b_MO_callsJoy 154 = .ok (.aload_n 0, 1) := dc_42 (q0_win (r := 59) wn_MO_callsJoy_95 (by decide +kernel))
theorem d_MO_callsJoy_155 : decode b_MO_callsJoy 155 = .ok (.getfield 106, 3) := dc_180 (qU2_win (r := 60) wn_MO_callsJoy_95 (by decide +kernel))
theorem d_MO_callsJoy_158 : decode b_MO_callsJoy 158 = .ok (.iconst 5, 1) := dc_8 (q0_win (r := 63) wn_MO_callsJoy_95 (by decide +kernel))
theorem d_MO_callsJoy_159 : decode b_MO_callsJoy 159 = .ok (.lconst 0, 1) := dc_9 (q0_win (r := 64) wn_MO_callsJoy_95 (by decide +kernel))
theorem d_MO_callsJoy_160 : decode b_MO_callsJoy 160 = .ok (.lastore, 1) := dc_80 (q0_win (r := 65) wn_MO_callsJoy_95 (by decide +kernel))
theorem d_MO_callsJoy_161 : decode b_MO_callsJoy 161 = .ok (.aload_n 0, 1) := dc_42 (q0_win (r := 66) wn_MO_callsJoy_95 (by decide +kernel))
theorem d_MO_callsJoy_162 : decode b_MO_callsJoy 162 = .ok (.getfield 106, 3) := dc_180 (qU2_win (r := 67) wn_MO_callsJoy_95 (by decide +kernel))
theorem d_MO_callsJoy_165 : decode b_MO_callsJoy 165 = .ok (.bipush 6, 2) := dc_16 (qS1_win (r := 70) wn_MO_callsJoy_95 (by decide +kernel))
theorem d_MO_callsJoy_167 : decode b_MO_callsJoy 167 = .ok (.aload_n 0, 1) := dc_42 (q0_win (r := 72) wn_MO_callsJoy_95 (by decide +kernel))
theorem d_MO_callsJoy_168 : decode b_MO_callsJoy 168 = .ok (.getfield 60, 3) := dc_180 (qU2_win (r := 73) wn_MO_callsJoy_95 (by decide +kernel))
theorem d_MO_callsJoy_171 : decode b_MO_callsJoy 171 = .ok (.iload_n 1, 1) := dc_27 (q0_win (r := 76) wn_MO_callsJoy_95 (by decide +kernel))
theorem d_MO_callsJoy_172 : decode b_MO_callsJoy 172 = .ok (.iaload, 1) := dc_46 (q0_win (r := 77) wn_MO_callsJoy_95 (by decide +kernel))
theorem d_MO_callsJoy_173 : decode b_MO_callsJoy 173 = .ok (.i2l, 1) := dc_133 (q0_win (r := 78) wn_MO_callsJoy_95 (by decide +kernel))
theorem d_MO_callsJoy_174 : decode b_MO_callsJoy 174 = .ok (.lastore, 1) := dc_80 (q0_win (r := 79) wn_MO_callsJoy_95 (by decide +kernel))
theorem d_MO_callsJoy_175 : decode b_MO_callsJoy 175 = .ok (.return_, 1) := dc_177 (q0_win (r := 80) wn_MO_callsJoy_95 (by decide +kernel))
def t_MO_callsJoy_L97 (x1 : Int) (x2 : Int) (bk11 : Mem → Int → Int → Int → Int → Option (Mem)) (M : Mem) (v3_ : Int) (v4_ : Int) (v5_ : Int) (v6_ : Int) : Option (Mem) := (bk11 M v3_ v4_ v5_ (w32 (v6_ + 1)))
def t_MO_callsJoy_L94 (x1 : Int) (x2 : Int) (bk11 : Mem → Int → Int → Int → Int → Option (Mem)) (M : Mem) (v3_ : Int) (v4_ : Int) (v5_ : Int) (v6_ : Int) (v7_ : Int) : Option (Mem) := (t_MO_callsJoy_L97 x1 x2 bk11 M v3_ v4_ (w32 (v6_ + v7_)) v5_)
def t_MO_callsJoy_L11 (x1 : Int) (x2 : Int)  : Nat → Mem → Int → Int → Int → Int → Option (Mem)
  | 0, _, _, _, _, _ => none
  | fu + 1, M, v3_, v4_, v5_, v6_ => (if (M.1 193 6) ≤ v6_ then (qguard (0 ≤ x2 ∧ x2 < 8) (qlet (setL M 220 0 (q_i2l (M.1 196 x2))) fun M5 => (obind (t_MO_sizeOf M5 x2) fun q6 => (qlet (setL M5 220 1 (q_i2l q6)) fun M8 => (qlet (setL M8 220 2 (q_i2l v3_)) fun M9 => (qlet (setL M9 220 3 (q_i2l v4_)) fun M10 => (qlet (setL M10 220 4 (q_i2l v5_)) fun M11 => (qlet (setL M11 220 5 0) fun M12 => (qguard (0 ≤ x1 ∧ x1 < 23) (qlet (setL M12 220 6 (q_i2l (M12.1 207 x1))) fun M15 => (some M15))))))))))) else (qguard (0 ≤ (w32 ((w32 (8 * x1)) + v6_)) ∧ (w32 ((w32 (8 * x1)) + v6_)) < 184) (obind (t_MO_goesFrom M x1 (M.1 213 (w32 ((w32 (8 * x1)) + v6_)))) fun q18 => (if 0 < (q18.1 191 48) then (t_MO_callsJoy_L97 x1 x2 (fun a0_ a1_ a2_ a3_ a4_ => t_MO_callsJoy_L11 x1 x2 fu a0_ a1_ a2_ a3_ a4_) q18 v3_ v4_ v5_ v6_) else (qguard (0 ≤ (q18.1 191 47) ∧ (q18.1 191 47) < 96) (if (q18.1 197 (q18.1 191 47)) = (w32 (x2 + 1)) then (qguard (0 ≤ v6_ ∧ v6_ < 16) (if (q18.1 191 49) ≤ 0 then (t_MO_callsJoy_L94 x1 x2 (fun a0_ a1_ a2_ a3_ a4_ => t_MO_callsJoy_L11 x1 x2 fu a0_ a1_ a2_ a3_ a4_) q18 (w32 (v3_ + 1)) (w32 (v4_ + (q18.1 201 v6_))) v6_ v5_ 0) else (t_MO_callsJoy_L94 x1 x2 (fun a0_ a1_ a2_ a3_ a4_ => t_MO_callsJoy_L11 x1 x2 fu a0_ a1_ a2_ a3_ a4_) q18 (w32 (v3_ + 1)) (w32 (v4_ + (q18.1 201 v6_))) v6_ v5_ 1))) else (t_MO_callsJoy_L97 x1 x2 (fun a0_ a1_ a2_ a3_ a4_ => t_MO_callsJoy_L11 x1 x2 fu a0_ a1_ a2_ a3_ a4_) q18 v3_ v4_ v5_ v6_)))))))
def t_MO_callsJoy (M : Mem) (x1 : Int) (x2 : Int) : Option (Mem) := (t_MO_callsJoy_L11 x1 x2 FU M 0 0 0 0)
set_option maxHeartbeats 4000000 in
set_option maxRecDepth 100000 in
theorem k_MO_callsJoy_L97 (l : Launch) {p : Program} {e : Env} {s : State} {m : MethodId} {below : List Frame} {meth : Method} {c : Code} {b n : Nat} {C : CT} (hlo : 231 ≤ n) (x1 : Int) (x2 : Int) (hx1 : InR x1) (hx2 : InR x2) (F : Cx b p m c b_MO_callsJoy 7 s ([.ref (b + 191), vI x1, vI x2] : List Value).toArray "WardFallsModel" C n 231) (hlk : meth.locks = false) (hr : meth.sig.returnType = none) {res : Mem} (bk11 : Mem → Int → Int → Int → Int → Option (Mem)) (hbk11 : ∀ (M : Mem) (v3_ : Int) (hv3_ : InR v3_) (v4_ : Int) (hv4_ : InR v4_) (v5_ : Int) (hv5_ : InR v5_) (v6_ : Int) (hv6_ : InR v6_) (H : Heap) (locs : List Loc) (ls : Array Slot), St b C n M s H locs → lv_has ls 7 [(0, .ref (b + 191)), (1, vI x1), (2, vI x2), (3, vI v3_), (4, vI v4_), (5, vI v5_), (6, vI v6_)] → bk11 M v3_ v4_ v5_ v6_ = some res → W p l e (headSpec (wsM y_MO_callsJoy b_MO_callsJoy 7 (none)) (rmD 3)).room s m ([.ref (b + 191), vI x1, vI x2] : List Value).toArray below meth c H locs 0 0 (MQ below (QV b C n res) ([.ref (b + 191), vI x1, vI x2] : List Value).toArray s 0 0 (frb b)) (F0 m 11 ls [])) (M : Mem) (v3_ : Int) (hv3_ : InR v3_) (v4_ : Int) (hv4_ : InR v4_) (v5_ : Int) (hv5_ : InR v5_) (v6_ : Int) (hv6_ : InR v6_) (H : Heap) (locs : List Loc) (ls : Array Slot) (hS : St b C n M s H locs) (hl : lv_has ls 7 [(0, .ref (b + 191)), (1, vI x1), (2, vI x2), (3, vI v3_), (4, vI v4_), (5, vI v5_), (6, vI v6_)]) (hT : t_MO_callsJoy_L97 x1 x2 bk11 M v3_ v4_ v5_ v6_ = some res) : W p l e (headSpec (wsM y_MO_callsJoy b_MO_callsJoy 7 (none)) (rmD 3)).room s m ([.ref (b + 191), vI x1, vI x2] : List Value).toArray below meth c H locs 0 0 (MQ below (QV b C n res) ([.ref (b + 191), vI x1, vI x2] : List Value).toArray s 0 0 (frb b)) (F0 m 97 ls []) := by
  unfold t_MO_callsJoy_L97 at hT
  refine lv_iinc (v := Int32.ofInt (w32 (v6_ + 1))) (lv' := [(6, vI (w32 (v6_ + 1))), (0, .ref (b + 191)), (1, vI x1), (2, vI x2), (3, vI v3_), (4, vI v4_), (5, vI v5_)]) F.hx F.hb d_MO_callsJoy_97 hl (k := 6) rfl (q_of_add _ _) (Nat.le_of_ble_eq_true rfl) rfl (fun ls hl => ?_)
  refine lv_goto (tgt := 11) F.hx F.hb d_MO_callsJoy_100 (by decide) ?_
  exact hbk11 M v3_ hv3_ v4_ hv4_ v5_ hv5_ (w32 (v6_ + 1)) (inr_w32 _) _ _ _ hS (lv_sub hl [1, 2, 3, 4, 5, 6, 0] rfl) hT
set_option maxHeartbeats 4000000 in
set_option maxRecDepth 100000 in
theorem k_MO_callsJoy_L94 (l : Launch) {p : Program} {e : Env} {s : State} {m : MethodId} {below : List Frame} {meth : Method} {c : Code} {b n : Nat} {C : CT} (hlo : 231 ≤ n) (x1 : Int) (x2 : Int) (hx1 : InR x1) (hx2 : InR x2) (F : Cx b p m c b_MO_callsJoy 7 s ([.ref (b + 191), vI x1, vI x2] : List Value).toArray "WardFallsModel" C n 231) (hlk : meth.locks = false) (hr : meth.sig.returnType = none) {res : Mem} (bk11 : Mem → Int → Int → Int → Int → Option (Mem)) (hbk11 : ∀ (M : Mem) (v3_ : Int) (hv3_ : InR v3_) (v4_ : Int) (hv4_ : InR v4_) (v5_ : Int) (hv5_ : InR v5_) (v6_ : Int) (hv6_ : InR v6_) (H : Heap) (locs : List Loc) (ls : Array Slot), St b C n M s H locs → lv_has ls 7 [(0, .ref (b + 191)), (1, vI x1), (2, vI x2), (3, vI v3_), (4, vI v4_), (5, vI v5_), (6, vI v6_)] → bk11 M v3_ v4_ v5_ v6_ = some res → W p l e (headSpec (wsM y_MO_callsJoy b_MO_callsJoy 7 (none)) (rmD 3)).room s m ([.ref (b + 191), vI x1, vI x2] : List Value).toArray below meth c H locs 0 0 (MQ below (QV b C n res) ([.ref (b + 191), vI x1, vI x2] : List Value).toArray s 0 0 (frb b)) (F0 m 11 ls [])) (M : Mem) (v3_ : Int) (hv3_ : InR v3_) (v4_ : Int) (hv4_ : InR v4_) (v5_ : Int) (hv5_ : InR v5_) (v6_ : Int) (hv6_ : InR v6_) (v7_ : Int) (hv7_ : v7_ = 0 ∨ v7_ = 1) (H : Heap) (locs : List Loc) (ls : Array Slot) (hS : St b C n M s H locs) (hl : lv_has ls 7 [(0, .ref (b + 191)), (1, vI x1), (2, vI x2), (3, vI v3_), (4, vI v4_), (6, vI v5_)]) (hT : t_MO_callsJoy_L94 x1 x2 bk11 M v3_ v4_ v5_ v6_ v7_ = some res) : W p l e (headSpec (wsM y_MO_callsJoy b_MO_callsJoy 7 (none)) (rmD 3)).room s m ([.ref (b + 191), vI x1, vI x2] : List Value).toArray below meth c H locs 0 0 (MQ below (QV b C n res) ([.ref (b + 191), vI x1, vI x2] : List Value).toArray s 0 0 (frb b)) (F0 m 94 ls [vI v7_, vI v6_]) := by
  unfold t_MO_callsJoy_L94 at hT
  refine r_iadd F.hx F.hb d_MO_callsJoy_94 ?_
  refine lv_istore (lv' := [(5, vI (w32 (v6_ + v7_))), (0, .ref (b + 191)), (1, vI x1), (2, vI x2), (3, vI v3_), (4, vI v4_), (6, vI v5_)]) F.hx F.hb d_MO_callsJoy_95 hl (Nat.le_of_ble_eq_true rfl) rfl (fun ls hl => ?_)
  exact k_MO_callsJoy_L97 l hlo x1 x2 hx1 hx2 F hlk hr bk11 hbk11 M v3_ hv3_ v4_ hv4_ (w32 (v6_ + v7_)) (inr_w32 _) v5_ hv5_ _ _ _ hS (lv_sub hl [1, 2, 3, 4, 5, 0, 6] rfl) hT
set_option maxHeartbeats 4000000 in
set_option maxRecDepth 100000 in
theorem k_MO_callsJoy_L11 (l : Launch) {p : Program} {e : Env} {s : State} {m : MethodId} {below : List Frame} {meth : Method} {c : Code} {b n : Nat} {C : CT} (hlo : 231 ≤ n) (x1 : Int) (x2 : Int) (hx1 : InR x1) (hx2 : InR x2) (F : Cx b p m c b_MO_callsJoy 7 s ([.ref (b + 191), vI x1, vI x2] : List Value).toArray "WardFallsModel" C n 231) (hlk : meth.locks = false) (hr : meth.sig.returnType = none) {res : Mem} : ∀ (fu : Nat) (M : Mem) (v3_ : Int) (hv3_ : InR v3_) (v4_ : Int) (hv4_ : InR v4_) (v5_ : Int) (hv5_ : InR v5_) (v6_ : Int) (hv6_ : InR v6_) (H : Heap) (locs : List Loc) (ls : Array Slot), St b C n M s H locs → lv_has ls 7 [(0, .ref (b + 191)), (1, vI x1), (2, vI x2), (3, vI v3_), (4, vI v4_), (5, vI v5_), (6, vI v6_)] → t_MO_callsJoy_L11 x1 x2 fu M v3_ v4_ v5_ v6_ = some res → W p l e (headSpec (wsM y_MO_callsJoy b_MO_callsJoy 7 (none)) (rmD 3)).room s m ([.ref (b + 191), vI x1, vI x2] : List Value).toArray below meth c H locs 0 0 (MQ below (QV b C n res) ([.ref (b + 191), vI x1, vI x2] : List Value).toArray s 0 0 (frb b)) (F0 m 11 ls []) := by
  intro fu
  induction fu with
  | zero => intro M v3_ hv3_ v4_ hv4_ v5_ hv5_ v6_ hv6_ H locs ls hS hl hT; exact absurd hT (by simp [t_MO_callsJoy_L11])
  | succ fu ih =>
    intro M v3_ hv3_ v4_ hv4_ v5_ hv5_ v6_ hv6_ H locs ls hS hl hT
    rw [t_MO_callsJoy_L11] at hT
    refine lv_iload F.hx F.hb d_MO_callsJoy_11 (lv_at hl 6 rfl) ?_
    refine lv_aload_n F.hx F.hb d_MO_callsJoy_13 rfl (lv_at hl 0 rfl) ?_
    refine r_get (v := .ref (b + 193)) (N := 68) (T := T1) (j := 3) F hS (show 191 < 231 by decide) (show shK 191 = 5 from rfl) (show shN 191 = 68 from rfl) rfl (Nat.le_of_ble_eq_true rfl) ing1 mw_1392 (fv_sg rfl rfl rfl) d_MO_callsJoy_14 ?_
    refine r_bipush F.hx F.hb d_MO_callsJoy_17 rfl ?_
    refine r_iald F hS (show 193 < 231 by decide) (show shK 193 = 0 from rfl) (show shN 193 = 18 from rfl) (inr_c rfl) (by omega) (by omega) d_MO_callsJoy_19 ?_
    have i1 := hS.rng 193 6
    refine r_icmp_ge (tgt := 103) F.hx F.hb hv6_ i1 d_MO_callsJoy_20 (by decide) (fun c2 => ?_) (fun c2 => ?_)
    · replace hT := (if_pos c2).symm.trans hT
      refine lv_aload_n F.hx F.hb d_MO_callsJoy_103 rfl (lv_at hl 0 rfl) ?_
      refine r_get (v := .ref (b + 220)) (N := 68) (T := T1) (j := 52) F hS (show 191 < 231 by decide) (show shK 191 = 5 from rfl) (show shN 191 = 68 from rfl) rfl (Nat.le_of_ble_eq_true rfl) ing1 mw_1441 (fv_sg rfl rfl rfl) d_MO_callsJoy_104 ?_
      refine r_iconst F.hx F.hb d_MO_callsJoy_107 ?_
      refine lv_aload_n F.hx F.hb d_MO_callsJoy_108 rfl (lv_at hl 0 rfl) ?_
      refine r_get (v := .ref (b + 196)) (N := 68) (T := T1) (j := 6) F hS (show 191 < 231 by decide) (show shK 191 = 5 from rfl) (show shN 191 = 68 from rfl) rfl (Nat.le_of_ble_eq_true rfl) ing1 mw_1395 (fv_sg rfl rfl rfl) d_MO_callsJoy_109 ?_
      refine lv_iload_n F.hx F.hb d_MO_callsJoy_112 rfl (lv_at hl 2 rfl) ?_
      obtain ⟨⟨g3a, g3b⟩, hT⟩ := q_guard hT
      refine r_iald F hS (show 196 < 231 by decide) (show shK 196 = 0 from rfl) (show shN 196 = 8 from rfl) hx2 g3a g3b d_MO_callsJoy_113 ?_
      have i4 := hS.rng 196 x2
      refine r_i2l F.hx F.hb d_MO_callsJoy_114 ?_
      refine r_last F hS (show 220 < 231 by decide) (show shK 220 = 2 from rfl) (show shN 220 = 7 from rfl) (inr_c rfl) (by omega) (by omega) d_MO_callsJoy_115 (fun H locs hS => ?_)
      obtain ⟨M5, eM5⟩ : ∃ q, q = (setL M 220 0 (q_i2l (M.1 196 x2))) := ⟨_, rfl⟩
      replace hS : St b C n M5 s H locs := by rw [eM5]; exact hS
      replace hT := qlet_eq hT eM5
      refine lv_aload_n F.hx F.hb d_MO_callsJoy_116 rfl (lv_at hl 0 rfl) ?_
      refine r_get (v := .ref (b + 220)) (N := 68) (T := T1) (j := 52) F hS (show 191 < 231 by decide) (show shK 191 = 5 from rfl) (show shN 191 = 68 from rfl) rfl (Nat.le_of_ble_eq_true rfl) ing1 mw_1441 (fv_sg rfl rfl rfl) d_MO_callsJoy_117 ?_
      refine r_iconst F.hx F.hb d_MO_callsJoy_120 ?_
      refine lv_aload_n F.hx F.hb d_MO_callsJoy_121 rfl (lv_at hl 0 rfl) ?_
      refine lv_iload_n F.hx F.hb d_MO_callsJoy_122 rfl (lv_at hl 2 rfl) ?_
      obtain ⟨q6, hq6, hT⟩ := q_obind hT
      refine r_backI F hS (r_runV (k := 191) (N := 68) (T := T1) (As := [vI x2]) F hS (show 191 < 231 by decide) (show shK 191 = 5 from rfl) rfl (c_MO_sizeOf l F.2.2.1 M5 x2 hx2 _ hq6) gs_MO_372 hd_MO_sizeOf ⟨Nat.le_of_ble_eq_true rfl, Nat.le_of_ble_eq_true rfl⟩ rfl hl.1 (Nat.le_of_ble_eq_true rfl) ⟨Nat.zero_le _, Nat.zero_le _⟩ rfl d_MO_callsJoy_123) (fun H locs hS h7 => ?_)
      refine r_i2l F.hx F.hb d_MO_callsJoy_126 ?_
      refine r_last F hS (show 220 < 231 by decide) (show shK 220 = 2 from rfl) (show shN 220 = 7 from rfl) (inr_c rfl) (by omega) (by omega) d_MO_callsJoy_127 (fun H locs hS => ?_)
      obtain ⟨M8, eM8⟩ : ∃ q, q = (setL M5 220 1 (q_i2l q6)) := ⟨_, rfl⟩
      replace hS : St b C n M8 s H locs := by rw [eM8]; exact hS
      replace hT := qlet_eq hT eM8
      refine lv_aload_n F.hx F.hb d_MO_callsJoy_128 rfl (lv_at hl 0 rfl) ?_
      refine r_get (v := .ref (b + 220)) (N := 68) (T := T1) (j := 52) F hS (show 191 < 231 by decide) (show shK 191 = 5 from rfl) (show shN 191 = 68 from rfl) rfl (Nat.le_of_ble_eq_true rfl) ing1 mw_1441 (fv_sg rfl rfl rfl) d_MO_callsJoy_129 ?_
      refine r_iconst F.hx F.hb d_MO_callsJoy_132 ?_
      refine lv_iload_n F.hx F.hb d_MO_callsJoy_133 rfl (lv_at hl 3 rfl) ?_
      refine r_i2l F.hx F.hb d_MO_callsJoy_134 ?_
      refine r_last F hS (show 220 < 231 by decide) (show shK 220 = 2 from rfl) (show shN 220 = 7 from rfl) (inr_c rfl) (by omega) (by omega) d_MO_callsJoy_135 (fun H locs hS => ?_)
      obtain ⟨M9, eM9⟩ : ∃ q, q = (setL M8 220 2 (q_i2l v3_)) := ⟨_, rfl⟩
      replace hS : St b C n M9 s H locs := by rw [eM9]; exact hS
      replace hT := qlet_eq hT eM9
      refine lv_aload_n F.hx F.hb d_MO_callsJoy_136 rfl (lv_at hl 0 rfl) ?_
      refine r_get (v := .ref (b + 220)) (N := 68) (T := T1) (j := 52) F hS (show 191 < 231 by decide) (show shK 191 = 5 from rfl) (show shN 191 = 68 from rfl) rfl (Nat.le_of_ble_eq_true rfl) ing1 mw_1441 (fv_sg rfl rfl rfl) d_MO_callsJoy_137 ?_
      refine r_iconst F.hx F.hb d_MO_callsJoy_140 ?_
      refine lv_iload F.hx F.hb d_MO_callsJoy_141 (lv_at hl 4 rfl) ?_
      refine r_i2l F.hx F.hb d_MO_callsJoy_143 ?_
      refine r_last F hS (show 220 < 231 by decide) (show shK 220 = 2 from rfl) (show shN 220 = 7 from rfl) (inr_c rfl) (by omega) (by omega) d_MO_callsJoy_144 (fun H locs hS => ?_)
      obtain ⟨M10, eM10⟩ : ∃ q, q = (setL M9 220 3 (q_i2l v4_)) := ⟨_, rfl⟩
      replace hS : St b C n M10 s H locs := by rw [eM10]; exact hS
      replace hT := qlet_eq hT eM10
      refine lv_aload_n F.hx F.hb d_MO_callsJoy_145 rfl (lv_at hl 0 rfl) ?_
      refine r_get (v := .ref (b + 220)) (N := 68) (T := T1) (j := 52) F hS (show 191 < 231 by decide) (show shK 191 = 5 from rfl) (show shN 191 = 68 from rfl) rfl (Nat.le_of_ble_eq_true rfl) ing1 mw_1441 (fv_sg rfl rfl rfl) d_MO_callsJoy_146 ?_
      refine r_iconst F.hx F.hb d_MO_callsJoy_149 ?_
      refine lv_iload F.hx F.hb d_MO_callsJoy_150 (lv_at hl 5 rfl) ?_
      refine r_i2l F.hx F.hb d_MO_callsJoy_152 ?_
      refine r_last F hS (show 220 < 231 by decide) (show shK 220 = 2 from rfl) (show shN 220 = 7 from rfl) (inr_c rfl) (by omega) (by omega) d_MO_callsJoy_153 (fun H locs hS => ?_)
      obtain ⟨M11, eM11⟩ : ∃ q, q = (setL M10 220 4 (q_i2l v5_)) := ⟨_, rfl⟩
      replace hS : St b C n M11 s H locs := by rw [eM11]; exact hS
      replace hT := qlet_eq hT eM11
      refine lv_aload_n F.hx F.hb d_MO_callsJoy_154 rfl (lv_at hl 0 rfl) ?_
      refine r_get (v := .ref (b + 220)) (N := 68) (T := T1) (j := 52) F hS (show 191 < 231 by decide) (show shK 191 = 5 from rfl) (show shN 191 = 68 from rfl) rfl (Nat.le_of_ble_eq_true rfl) ing1 mw_1441 (fv_sg rfl rfl rfl) d_MO_callsJoy_155 ?_
      refine r_iconst F.hx F.hb d_MO_callsJoy_158 ?_
      refine lv_lconst (v := 0) F.hx F.hb d_MO_callsJoy_159 rfl ?_
      refine r_last F hS (show 220 < 231 by decide) (show shK 220 = 2 from rfl) (show shN 220 = 7 from rfl) (inr_c rfl) (by omega) (by omega) d_MO_callsJoy_160 (fun H locs hS => ?_)
      obtain ⟨M12, eM12⟩ : ∃ q, q = (setL M11 220 5 0) := ⟨_, rfl⟩
      replace hS : St b C n M12 s H locs := by rw [eM12]; exact hS
      replace hT := qlet_eq hT eM12
      refine lv_aload_n F.hx F.hb d_MO_callsJoy_161 rfl (lv_at hl 0 rfl) ?_
      refine r_get (v := .ref (b + 220)) (N := 68) (T := T1) (j := 52) F hS (show 191 < 231 by decide) (show shK 191 = 5 from rfl) (show shN 191 = 68 from rfl) rfl (Nat.le_of_ble_eq_true rfl) ing1 mw_1441 (fv_sg rfl rfl rfl) d_MO_callsJoy_162 ?_
      refine r_bipush F.hx F.hb d_MO_callsJoy_165 rfl ?_
      refine lv_aload_n F.hx F.hb d_MO_callsJoy_167 rfl (lv_at hl 0 rfl) ?_
      refine r_get (v := .ref (b + 207)) (N := 68) (T := T1) (j := 30) F hS (show 191 < 231 by decide) (show shK 191 = 5 from rfl) (show shN 191 = 68 from rfl) rfl (Nat.le_of_ble_eq_true rfl) ing1 mw_1419 (fv_sg rfl rfl rfl) d_MO_callsJoy_168 ?_
      refine lv_iload_n F.hx F.hb d_MO_callsJoy_171 rfl (lv_at hl 1 rfl) ?_
      obtain ⟨⟨g13a, g13b⟩, hT⟩ := q_guard hT
      refine r_iald F hS (show 207 < 231 by decide) (show shK 207 = 0 from rfl) (show shN 207 = 23 from rfl) hx1 g13a g13b d_MO_callsJoy_172 ?_
      have i14 := hS.rng 207 x1
      refine r_i2l F.hx F.hb d_MO_callsJoy_173 ?_
      refine r_last F hS (show 220 < 231 by decide) (show shK 220 = 2 from rfl) (show shN 220 = 7 from rfl) (inr_c rfl) (by omega) (by omega) d_MO_callsJoy_174 (fun H locs hS => ?_)
      obtain ⟨M15, eM15⟩ : ∃ q, q = (setL M12 220 6 (q_i2l (M12.1 207 x1))) := ⟨_, rfl⟩
      replace hS : St b C n M15 s H locs := by rw [eM15]; exact hS
      replace hT := qlet_eq hT eM15
      cases hT
      exact r_vret F hlk hr hS d_MO_callsJoy_175
    · replace hT := (if_neg c2).symm.trans hT
      refine lv_aload_n F.hx F.hb d_MO_callsJoy_23 rfl (lv_at hl 0 rfl) ?_
      refine lv_iload_n F.hx F.hb d_MO_callsJoy_24 rfl (lv_at hl 1 rfl) ?_
      refine lv_aload_n F.hx F.hb d_MO_callsJoy_25 rfl (lv_at hl 0 rfl) ?_
      refine r_get (v := .ref (b + 213)) (N := 68) (T := T1) (j := 36) F hS (show 191 < 231 by decide) (show shK 191 = 5 from rfl) (show shN 191 = 68 from rfl) rfl (Nat.le_of_ble_eq_true rfl) ing1 mw_1425 (fv_sg rfl rfl rfl) d_MO_callsJoy_26 ?_
      refine r_bipush F.hx F.hb d_MO_callsJoy_29 rfl ?_
      refine lv_iload_n F.hx F.hb d_MO_callsJoy_31 rfl (lv_at hl 1 rfl) ?_
      refine r_imul F.hx F.hb d_MO_callsJoy_32 ?_
      refine lv_iload F.hx F.hb d_MO_callsJoy_33 (lv_at hl 6 rfl) ?_
      refine r_iadd F.hx F.hb d_MO_callsJoy_35 ?_
      obtain ⟨⟨g16a, g16b⟩, hT⟩ := q_guard hT
      refine r_iald F hS (show 213 < 231 by decide) (show shK 213 = 0 from rfl) (show shN 213 = 184 from rfl) (inr_w32 _) g16a g16b d_MO_callsJoy_36 ?_
      have i17 := hS.rng 213 (w32 ((w32 (8 * x1)) + v6_))
      obtain ⟨q18, hq18, hT⟩ := q_obind hT
      refine r_backV F hS (r_runV (k := 191) (N := 68) (T := T1) (As := [vI x1, vI (M.1 213 (w32 ((w32 (8 * x1)) + v6_)))]) F hS (show 191 < 231 by decide) (show shK 191 = 5 from rfl) rfl (c_MO_goesFrom l F.2.2.1 M x1 (M.1 213 (w32 ((w32 (8 * x1)) + v6_))) hx1 i17 _ hq18) gs_MO_414 hd_MO_goesFrom ⟨Nat.le_of_ble_eq_true rfl, Nat.le_of_ble_eq_true rfl⟩ rfl hl.1 (Nat.le_of_ble_eq_true rfl) ⟨Nat.zero_le _, Nat.zero_le _⟩ rfl d_MO_callsJoy_37) (fun H locs hS => ?_)
      refine lv_aload_n F.hx F.hb d_MO_callsJoy_40 rfl (lv_at hl 0 rfl) ?_
      refine r_get (v := vI (q18.1 191 48)) (N := 68) (T := T1) (j := 48) F hS (show 191 < 231 by decide) (show shK 191 = 5 from rfl) (show shN 191 = 68 from rfl) rfl (Nat.le_of_ble_eq_true rfl) ing1 mw_1437 (fv_int rfl) d_MO_callsJoy_41 ?_
      have i20 := hS.rng 191 48
      refine r_if_gt (tgt := 97) F.hx F.hb i20 d_MO_callsJoy_44 (by decide) (fun c21 => ?_) (fun c21 => ?_)
      · replace hT := (if_pos c21).symm.trans hT
        exact k_MO_callsJoy_L97 l hlo x1 x2 hx1 hx2 F hlk hr (fun a0_ a1_ a2_ a3_ a4_ => t_MO_callsJoy_L11 x1 x2 fu a0_ a1_ a2_ a3_ a4_) ih q18 v3_ hv3_ v4_ hv4_ v5_ hv5_ v6_ hv6_ _ _ _ hS (lv_sub hl [0, 1, 2, 3, 4, 5, 6] rfl) hT
      · replace hT := (if_neg c21).symm.trans hT
        refine lv_aload_n F.hx F.hb d_MO_callsJoy_47 rfl (lv_at hl 0 rfl) ?_
        refine r_get (v := .ref (b + 197)) (N := 68) (T := T1) (j := 7) F hS (show 191 < 231 by decide) (show shK 191 = 5 from rfl) (show shN 191 = 68 from rfl) rfl (Nat.le_of_ble_eq_true rfl) ing1 mw_1396 (fv_sg rfl rfl rfl) d_MO_callsJoy_48 ?_
        refine lv_aload_n F.hx F.hb d_MO_callsJoy_51 rfl (lv_at hl 0 rfl) ?_
        refine r_get (v := vI (q18.1 191 47)) (N := 68) (T := T1) (j := 47) F hS (show 191 < 231 by decide) (show shK 191 = 5 from rfl) (show shN 191 = 68 from rfl) rfl (Nat.le_of_ble_eq_true rfl) ing1 mw_1436 (fv_int rfl) d_MO_callsJoy_52 ?_
        have i22 := hS.rng 191 47
        obtain ⟨⟨g23a, g23b⟩, hT⟩ := q_guard hT
        refine r_iald F hS (show 197 < 231 by decide) (show shK 197 = 0 from rfl) (show shN 197 = 96 from rfl) i22 g23a g23b d_MO_callsJoy_55 ?_
        have i24 := hS.rng 197 (q18.1 191 47)
        refine lv_iload_n F.hx F.hb d_MO_callsJoy_56 rfl (lv_at hl 2 rfl) ?_
        refine r_iconst F.hx F.hb d_MO_callsJoy_57 ?_
        refine r_iadd F.hx F.hb d_MO_callsJoy_58 ?_
        refine r_icmp_eq (tgt := 65) F.hx F.hb i24 (inr_w32 _) d_MO_callsJoy_59 (by decide) (fun c25 => ?_) (fun c25 => ?_)
        · replace hT := (if_pos c25).symm.trans hT
          refine lv_iinc (v := Int32.ofInt (w32 (v3_ + 1))) (lv' := [(3, vI (w32 (v3_ + 1))), (0, .ref (b + 191)), (1, vI x1), (2, vI x2), (4, vI v4_), (5, vI v5_), (6, vI v6_)]) F.hx F.hb d_MO_callsJoy_65 hl (k := 3) rfl (q_of_add _ _) (Nat.le_of_ble_eq_true rfl) rfl (fun ls hl => ?_)
          refine lv_iload F.hx F.hb d_MO_callsJoy_68 (lv_at hl 4 rfl) ?_
          refine lv_aload_n F.hx F.hb d_MO_callsJoy_70 rfl (lv_at hl 1 rfl) ?_
          refine r_get (v := .ref (b + 201)) (N := 68) (T := T1) (j := 11) F hS (show 191 < 231 by decide) (show shK 191 = 5 from rfl) (show shN 191 = 68 from rfl) rfl (Nat.le_of_ble_eq_true rfl) ing1 mw_1400 (fv_sg rfl rfl rfl) d_MO_callsJoy_71 ?_
          refine lv_iload F.hx F.hb d_MO_callsJoy_74 (lv_at hl 6 rfl) ?_
          obtain ⟨⟨g26a, g26b⟩, hT⟩ := q_guard hT
          refine r_iald F hS (show 201 < 231 by decide) (show shK 201 = 0 from rfl) (show shN 201 = 16 from rfl) hv6_ g26a g26b d_MO_callsJoy_76 ?_
          have i27 := hS.rng 201 v6_
          refine r_iadd F.hx F.hb d_MO_callsJoy_77 ?_
          refine lv_istore (lv' := [(4, vI (w32 (v4_ + (q18.1 201 v6_)))), (3, vI (w32 (v3_ + 1))), (0, .ref (b + 191)), (1, vI x1), (2, vI x2), (5, vI v5_), (6, vI v6_)]) F.hx F.hb d_MO_callsJoy_78 hl (Nat.le_of_ble_eq_true rfl) rfl (fun ls hl => ?_)
          refine lv_iload F.hx F.hb d_MO_callsJoy_80 (lv_at hl 5 rfl) ?_
          refine lv_aload_n F.hx F.hb d_MO_callsJoy_82 rfl (lv_at hl 2 rfl) ?_
          refine r_get (v := vI (q18.1 191 49)) (N := 68) (T := T1) (j := 49) F hS (show 191 < 231 by decide) (show shK 191 = 5 from rfl) (show shN 191 = 68 from rfl) rfl (Nat.le_of_ble_eq_true rfl) ing1 mw_1438 (fv_int rfl) d_MO_callsJoy_83 ?_
          have i28 := hS.rng 191 49
          refine r_if_le (tgt := 93) F.hx F.hb i28 d_MO_callsJoy_86 (by decide) (fun c29 => ?_) (fun c29 => ?_)
          · replace hT := (if_pos c29).symm.trans hT
            refine r_iconst F.hx F.hb d_MO_callsJoy_93 ?_
            exact k_MO_callsJoy_L94 l hlo x1 x2 hx1 hx2 F hlk hr (fun a0_ a1_ a2_ a3_ a4_ => t_MO_callsJoy_L11 x1 x2 fu a0_ a1_ a2_ a3_ a4_) ih q18 (w32 (v3_ + 1)) (inr_w32 _) (w32 (v4_ + (q18.1 201 v6_))) (inr_w32 _) v6_ hv6_ v5_ hv5_ 0 (Or.inl rfl) _ _ _ hS (lv_sub hl [2, 3, 4, 1, 0, 6] rfl) hT
          · replace hT := (if_neg c29).symm.trans hT
            refine r_iconst F.hx F.hb d_MO_callsJoy_89 ?_
            refine lv_goto (tgt := 94) F.hx F.hb d_MO_callsJoy_90 (by decide) ?_
            exact k_MO_callsJoy_L94 l hlo x1 x2 hx1 hx2 F hlk hr (fun a0_ a1_ a2_ a3_ a4_ => t_MO_callsJoy_L11 x1 x2 fu a0_ a1_ a2_ a3_ a4_) ih q18 (w32 (v3_ + 1)) (inr_w32 _) (w32 (v4_ + (q18.1 201 v6_))) (inr_w32 _) v6_ hv6_ v5_ hv5_ 1 (Or.inr rfl) _ _ _ hS (lv_sub hl [2, 3, 4, 1, 0, 6] rfl) hT
        · replace hT := (if_neg c25).symm.trans hT
          refine lv_goto (tgt := 97) F.hx F.hb d_MO_callsJoy_62 (by decide) ?_
          exact k_MO_callsJoy_L97 l hlo x1 x2 hx1 hx2 F hlk hr (fun a0_ a1_ a2_ a3_ a4_ => t_MO_callsJoy_L11 x1 x2 fu a0_ a1_ a2_ a3_ a4_) ih q18 v3_ hv3_ v4_ hv4_ v5_ hv5_ v6_ hv6_ _ _ _ hS (lv_sub hl [0, 1, 2, 3, 4, 5, 6] rfl) hT
set_option maxHeartbeats 4000000 in
set_option maxRecDepth 100000 in
theorem c_MO_callsJoy (l : Launch) {b n : Nat} {C : CT} (hlo : 231 ≤ n) (M : Mem) (x1 : Int) (x2 : Int) (hx1 : InR x1) (hx2 : InR x2) (res : Mem) (hT : t_MO_callsJoy M x1 x2 = some res) : CM l b C n 3 y_MO_callsJoy b_MO_callsJoy 7 (none) [.ref (b + 191), vI x1, vI x2] M (QV b C n res) := by
  refine CM.of (lo := 231) (ow := "WardFallsModel") (by decide) rfl (Nat.le_of_ble_eq_true rfl) hlo (fun p e s m below meth c F hlk hr hS ls hl => ?_)
  have hl : lv_has ls 7 [(0, .ref (b + 191)), (1, vI x1), (2, vI x2)] := hl
  unfold t_MO_callsJoy at hT
  refine r_iconst F.hx F.hb d_MO_callsJoy_0 ?_
  refine lv_istore_n (lv' := [(3, vI 0), (0, .ref (b + 191)), (1, vI x1), (2, vI x2)]) F.hx F.hb d_MO_callsJoy_1 rfl hl (Nat.le_of_ble_eq_true rfl) rfl (fun ls hl => ?_)
  refine r_iconst F.hx F.hb d_MO_callsJoy_2 ?_
  refine lv_istore (lv' := [(4, vI 0), (3, vI 0), (0, .ref (b + 191)), (1, vI x1), (2, vI x2)]) F.hx F.hb d_MO_callsJoy_3 hl (Nat.le_of_ble_eq_true rfl) rfl (fun ls hl => ?_)
  refine r_iconst F.hx F.hb d_MO_callsJoy_5 ?_
  refine lv_istore (lv' := [(5, vI 0), (4, vI 0), (3, vI 0), (0, .ref (b + 191)), (1, vI x1), (2, vI x2)]) F.hx F.hb d_MO_callsJoy_6 hl (Nat.le_of_ble_eq_true rfl) rfl (fun ls hl => ?_)
  refine r_iconst F.hx F.hb d_MO_callsJoy_8 ?_
  refine lv_istore (lv' := [(6, vI 0), (5, vI 0), (4, vI 0), (3, vI 0), (0, .ref (b + 191)), (1, vI x1), (2, vI x2)]) F.hx F.hb d_MO_callsJoy_9 hl (Nat.le_of_ble_eq_true rfl) rfl (fun ls hl => ?_)
  exact k_MO_callsJoy_L11 l hlo x1 x2 hx1 hx2 F hlk hr FU M 0 (inr_c rfl) 0 (inr_c rfl) 0 (inr_c rfl) 0 (inr_c rfl) _ _ _ hS (lv_sub hl [4, 5, 6, 3, 2, 1, 0] rfl) hT
theorem d_MO_hasLaw_0 : decode b_MO_hasLaw 0 = .ok (.aload_n 0, 1) := dc_42 (by decide +kernel)
theorem d_MO_hasLaw_1 : decode b_MO_hasLaw 1 = .ok (.getfield 47, 3) := dc_180 (by decide +kernel)
theorem d_MO_hasLaw_4 : decode b_MO_hasLaw 4 = .ok (.iload_n 1, 1) := dc_27 (by decide +kernel)
theorem d_MO_hasLaw_5 : decode b_MO_hasLaw 5 = .ok (.iaload, 1) := dc_46 (by decide +kernel)
theorem d_MO_hasLaw_6 : decode b_MO_hasLaw 6 = .ok (.aload_n 0, 1) := dc_42 (by decide +kernel)
theorem d_MO_hasLaw_7 : decode b_MO_hasLaw 7 = .ok (.getfield 44, 3) := dc_180 (by decide +kernel)
theorem d_MO_hasLaw_10 : decode b_MO_hasLaw 10 = .ok (.iload_n 1, 1) := dc_27 (by decide +kernel)
theorem d_MO_hasLaw_11 : decode b_MO_hasLaw 11 = .ok (.iaload, 1) := dc_46 (by decide +kernel)
theorem d_MO_hasLaw_12 : decode b_MO_hasLaw 12 = .ok (.if_icmp .le 7, 3) := dc_164 (by decide +kernel)
theorem d_MO_hasLaw_15 : decode b_MO_hasLaw 15 = .ok (.iconst 1, 1) := dc_4 (by decide +kernel)
theorem d_MO_hasLaw_16 : decode b_MO_hasLaw 16 = .ok (.goto 4, 3) := dc_167 (by decide +kernel)
theorem d_MO_hasLaw_19 : decode b_MO_hasLaw 19 = .ok (.iconst 0, 1) := dc_3 (by decide +kernel)
theorem d_MO_hasLaw_20 : decode b_MO_hasLaw 20 = .ok (.ireturn, 1) := dc_172 (by decide +kernel)
def t_MO_hasLaw (M : Mem) (x1 : Int) : Option (Int) := (qguard (0 ≤ x1 ∧ x1 < 4) (qguard (0 ≤ x1 ∧ x1 < 4) (if (M.1 204 x1) ≤ (M.1 203 x1) then (some 0) else (some 1))))
set_option maxHeartbeats 4000000 in
set_option maxRecDepth 100000 in
theorem c_MO_hasLaw (l : Launch) {b n : Nat} {C : CT} (hlo : 231 ≤ n) (M : Mem) (x1 : Int) (hx1 : InR x1) (res : Int) (hT : t_MO_hasLaw M x1 = some res) : CM l b C n 0 y_MO_hasLaw b_MO_hasLaw 2 (some .boolean) [.ref (b + 191), vI x1] M (QZ b C n M res) := by
  refine CM.of (lo := 231) (ow := "WardFallsModel") (by decide) rfl (Nat.le_of_ble_eq_true rfl) hlo (fun p e s m below meth c F hlk hr hS ls hl => ?_)
  have hl : lv_has ls 2 [(0, .ref (b + 191)), (1, vI x1)] := hl
  unfold t_MO_hasLaw at hT
  refine lv_aload_n F.hx F.hb d_MO_hasLaw_0 rfl (lv_at hl 0 rfl) ?_
  refine r_get (v := .ref (b + 204)) (N := 68) (T := T1) (j := 14) F hS (show 191 < 231 by decide) (show shK 191 = 5 from rfl) (show shN 191 = 68 from rfl) rfl (Nat.le_of_ble_eq_true rfl) ing1 mw_1403 (fv_sg rfl rfl rfl) d_MO_hasLaw_1 ?_
  refine lv_iload_n F.hx F.hb d_MO_hasLaw_4 rfl (lv_at hl 1 rfl) ?_
  obtain ⟨⟨g1a, g1b⟩, hT⟩ := q_guard hT
  refine r_iald F hS (show 204 < 231 by decide) (show shK 204 = 0 from rfl) (show shN 204 = 4 from rfl) hx1 g1a g1b d_MO_hasLaw_5 ?_
  have i2 := hS.rng 204 x1
  refine lv_aload_n F.hx F.hb d_MO_hasLaw_6 rfl (lv_at hl 0 rfl) ?_
  refine r_get (v := .ref (b + 203)) (N := 68) (T := T1) (j := 13) F hS (show 191 < 231 by decide) (show shK 191 = 5 from rfl) (show shN 191 = 68 from rfl) rfl (Nat.le_of_ble_eq_true rfl) ing1 mw_1402 (fv_sg rfl rfl rfl) d_MO_hasLaw_7 ?_
  refine lv_iload_n F.hx F.hb d_MO_hasLaw_10 rfl (lv_at hl 1 rfl) ?_
  obtain ⟨⟨g3a, g3b⟩, hT⟩ := q_guard hT
  refine r_iald F hS (show 203 < 231 by decide) (show shK 203 = 0 from rfl) (show shN 203 = 4 from rfl) hx1 g3a g3b d_MO_hasLaw_11 ?_
  have i4 := hS.rng 203 x1
  refine r_icmp_le (tgt := 19) F.hx F.hb i2 i4 d_MO_hasLaw_12 (by decide) (fun c5 => ?_) (fun c5 => ?_)
  · replace hT := (if_pos c5).symm.trans hT
    refine r_iconst F.hx F.hb d_MO_hasLaw_19 ?_
    cases hT
    exact r_zret F hlk hr hS (Or.inl rfl) d_MO_hasLaw_20
  · replace hT := (if_neg c5).symm.trans hT
    refine r_iconst F.hx F.hb d_MO_hasLaw_15 ?_
    refine lv_goto (tgt := 20) F.hx F.hb d_MO_hasLaw_16 (by decide) ?_
    cases hT
    exact r_zret F hlk hr hS (Or.inr rfl) d_MO_hasLaw_20
theorem d_MO_is_0 : decode b_MO_is 0 = .ok (.iload_n 0, 1) := dc_26 (by decide +kernel)
theorem d_MO_is_1 : decode b_MO_is 1 = .ok (.ifCond .eq 7, 3) := dc_153 (by decide +kernel)
theorem d_MO_is_4 : decode b_MO_is 4 = .ok (.lconst 1, 1) := dc_10 (by decide +kernel)
theorem d_MO_is_5 : decode b_MO_is 5 = .ok (.goto 4, 3) := dc_167 (by decide +kernel)
theorem d_MO_is_8 : decode b_MO_is 8 = .ok (.lconst 0, 1) := dc_9 (by decide +kernel)
theorem d_MO_is_9 : decode b_MO_is 9 = .ok (.lreturn, 1) := dc_173 (by decide +kernel)
def t_MO_is (M : Mem) (x1 : Int) : Int64 := (if x1 = 0 then 0 else 1)
set_option maxHeartbeats 4000000 in
set_option maxRecDepth 100000 in
theorem c_MO_is (l : Launch) {b n : Nat} {C : CT} (hlo : 231 ≤ n) (M : Mem) (x1 : Int) (hx1 : InR x1) (res : Int64) (hT : t_MO_is M x1 = res) : CM l b C n 0 y_MO_is b_MO_is 1 (some .long) [vI x1] M (QL b C n M res) := by
  refine CM.of (lo := 231) (ow := "WardFallsModel") (by decide) rfl (Nat.le_of_ble_eq_true rfl) hlo (fun p e s m below meth c F hlk hr hS ls hl => ?_)
  have hl : lv_has ls 1 [(0, vI x1)] := hl
  unfold t_MO_is at hT
  refine lv_iload_n F.hx F.hb d_MO_is_0 rfl (lv_at hl 0 rfl) ?_
  refine r_if_eq (tgt := 8) F.hx F.hb hx1 d_MO_is_1 (by decide) (fun c1 => ?_) (fun c1 => ?_)
  · replace hT := (if_pos c1).symm.trans hT
    refine lv_lconst (v := 0) F.hx F.hb d_MO_is_8 rfl ?_
    subst hT
    exact r_lret F hlk hr hS d_MO_is_9
  · replace hT := (if_neg c1).symm.trans hT
    refine lv_lconst (v := 1) F.hx F.hb d_MO_is_4 rfl ?_
    refine lv_goto (tgt := 9) F.hx F.hb d_MO_is_5 (by decide) ?_
    subst hT
    exact r_lret F hlk hr hS d_MO_is_9
theorem wn_MO_works_0 : ∀ i, i < 70 → bA b_MO_works (0 + i) = wB [42, 180, 0, 109, 42, 180, 1, 125, 4, 100, 47, 65, 27, 17, 1, 4, 160, 0, 30, 42, 180, 0, 109, 42, 180, 1, 125, 4, 100, 32, 9, 148, 154, 0, 7, 4, 167, 0, 4, 3, 184, 1, 128, 80, 4, 172, 42, 180, 0, 109, 42, 180, 1, 125, 5, 100, 47, 55, 4, 42, 89, 180, 1, 125, 4, 100, 181, 1, 125, 27] i := wB_of (by decide +kernel)
theorem d_MO_works_0 : decode b_MO_works 0 = .ok (.aload_n 0, 1) := dc_42 (q0_win (r := 0) wn_MO_works_0 (by decide +kernel))
theorem d_MO_works_1 : decode b_MO_works 1 = .ok (.getfield 109, 3) := dc_180 (qU2_win (r := 1) wn_MO_works_0 (by decide +kernel))
theorem d_MO_works_4 : decode b_MO_works 4 = .ok (.aload_n 0, 1) := dc_42 (q0_win (r := 4) wn_MO_works_0 (by decide +kernel))
theorem d_MO_works_5 : decode b_MO_works 5 = .ok (.getfield 381, 3) := dc_180 (qU2_win (r := 5) wn_MO_works_0 (by decide +kernel))
theorem d_MO_works_8 : decode b_MO_works 8 = .ok (.iconst 1, 1) := dc_4 (q0_win (r := 8) wn_MO_works_0 (by decide +kernel))
theorem d_MO_works_9 : decode b_MO_works 9 = .ok (.isub, 1) := dc_100 (q0_win (r := 9) wn_MO_works_0 (by decide +kernel))
theorem d_MO_works_10 : decode b_MO_works 10 = .ok (.laload, 1) := dc_47 (q0_win (r := 10) wn_MO_works_0 (by decide +kernel))
theorem d_MO_works_11 : decode b_MO_works 11 = .ok (.lstore_n 2, 1) := dc_65 (q0_win (r := 11) wn_MO_works_0 (by decide +kernel))
theorem d_MO_works_12 : decode b_MO_works 12 = .ok (.iload_n 1, 1) := dc_27 (q0_win (r := 12) wn_MO_works_0 (by decide +kernel))
theorem d_MO_works_13 : decode b_MO_works 13 = .ok (.sipush 260, 3) := dc_17 (qS2_win (r := 13) wn_MO_works_0 (by decide +kernel))
theorem d_MO_works_16 : decode b_MO_works 16 = .ok (.if_icmp .ne 30, 3) := dc_160 (qS2_win (r := 16) wn_MO_works_0 (by decide +kernel))
theorem d_MO_works_19 : decode b_MO_works 19 = .ok (.aload_n 0, 1) := dc_42 (q0_win (r := 19) wn_MO_works_0 (by decide +kernel))
theorem d_MO_works_20 : decode b_MO_works 20 = .ok (.getfield 109, 3) := dc_180 (qU2_win (r := 20) wn_MO_works_0 (by decide +kernel))
theorem d_MO_works_23 : decode b_MO_works 23 = .ok (.aload_n 0, 1) := dc_42 (q0_win (r := 23) wn_MO_works_0 (by decide +kernel))
theorem d_MO_works_24 : decode b_MO_works 24 = .ok (.getfield 381, 3) := dc_180 (qU2_win (r := 24) wn_MO_works_0 (by decide +kernel))
theorem d_MO_works_27 : decode b_MO_works 27 = .ok (.iconst 1, 1) := dc_4 (q0_win (r := 27) wn_MO_works_0 (by decide +kernel))
theorem d_MO_works_28 : decode b_MO_works 28 = .ok (.isub, 1) := dc_100 (q0_win (r := 28) wn_MO_works_0 (by decide +kernel))
theorem d_MO_works_29 : decode b_MO_works 29 = .ok (.lload_n 2, 1) := dc_32 (q0_win (r := 29) wn_MO_works_0 (by decide +kernel))
theorem d_MO_works_30 : decode b_MO_works 30 = .ok (.lconst 0, 1) := dc_9 (q0_win (r := 30) wn_MO_works_0 (by decide +kernel))
theorem d_MO_works_31 : decode b_MO_works 31 = .ok (.lcmp, 1) := dc_148 (q0_win (r := 31) wn_MO_works_0 (by decide +kernel))
theorem d_MO_works_32 : decode b_MO_works 32 = .ok (.ifCond .ne 7, 3) := dc_154 (qS2_win (r := 32) wn_MO_works_0 (by decide +kernel))
theorem d_MO_works_35 : decode b_MO_works 35 = .ok (.iconst 1, 1) := dc_4 (q0_win (r := 35) wn_MO_works_0 (by decide +kernel))
theorem d_MO_works_36 : decode b_MO_works 36 = .ok (.goto 4, 3) := dc_167 (qS2_win (r := 36) wn_MO_works_0 (by decide +kernel))
theorem d_MO_works_39 : decode b_MO_works 39 = .ok (.iconst 0, 1) := dc_3 (q0_win (r := 39) wn_MO_works_0 (by decide +kernel))
theorem d_MO_works_40 : decode b_MO_works 40 = .ok (.invokestatic 384, 3) := dc_184 (qU2_win (r := 40) wn_MO_works_0 (by decide +kernel))
theorem d_MO_works_43 : decode b_MO_works 43 = .ok (.lastore, 1) := dc_80 (q0_win (r := 43) wn_MO_works_0 (by decide +kernel))
theorem d_MO_works_44 : decode b_MO_works 44 = .ok (.iconst 1, 1) := dc_4 (q0_win (r := 44) wn_MO_works_0 (by decide +kernel))
theorem d_MO_works_45 : decode b_MO_works 45 = .ok (.ireturn, 1) := dc_172 (q0_win (r := 45) wn_MO_works_0 (by decide +kernel))
theorem d_MO_works_46 : decode b_MO_works 46 = .ok (.aload_n 0, 1) := dc_42 (q0_win (r := 46) wn_MO_works_0 (by decide +kernel))
theorem d_MO_works_47 : decode b_MO_works 47 = .ok (.getfield 109, 3) := dc_180 (qU2_win (r := 47) wn_MO_works_0 (by decide +kernel))
theorem d_MO_works_50 : decode b_MO_works 50 = .ok (.aload_n 0, 1) := dc_42 (q0_win (r := 50) wn_MO_works_0 (by decide +kernel))
theorem d_MO_works_51 : decode b_MO_works 51 = .ok (.getfield 381, 3) := dc_180 (qU2_win (r := 51) wn_MO_works_0 (by decide +kernel))
theorem d_MO_works_54 : decode b_MO_works 54 = .ok (.iconst 2, 1) := dc_5 (q0_win (r := 54) wn_MO_works_0 (by decide +kernel))
theorem d_MO_works_55 : decode b_MO_works 55 = .ok (.isub, 1) := dc_100 (q0_win (r := 55) wn_MO_works_0 (by decide +kernel))
theorem d_MO_works_56 : decode b_MO_works 56 = .ok (.laload, 1) := dc_47 (q0_win (r := 56) wn_MO_works_0 (by decide +kernel))
theorem d_MO_works_57 : decode b_MO_works 57 = .ok (.lstore 4, 2) := dc_55 (qU1_win (r := 57) wn_MO_works_0 (by decide +kernel))
theorem d_MO_works_59 : decode b_MO_works 59 = .ok (.aload_n 0, 1) := dc_42 (q0_win (r := 59) wn_MO_works_0 (by decide +kernel))
theorem d_MO_works_60 : decode b_MO_works 60 = .ok (.dup, 1) := dc_89 (q0_win (r := 60) wn_MO_works_0 (by decide +kernel))
theorem d_MO_works_61 : decode b_MO_works 61 = .ok (.getfield 381, 3) := dc_180 (qU2_win (r := 61) wn_MO_works_0 (by decide +kernel))
theorem d_MO_works_64 : decode b_MO_works 64 = .ok (.iconst 1, 1) := dc_4 (q0_win (r := 64) wn_MO_works_0 (by decide +kernel))
theorem d_MO_works_65 : decode b_MO_works 65 = .ok (.isub, 1) := dc_100 (q0_win (r := 65) wn_MO_works_0 (by decide +kernel))
theorem d_MO_works_66 : decode b_MO_works 66 = .ok (.putfield 381, 3) := dc_181 (qU2_win (r := 66) wn_MO_works_0 (by decide +kernel))
theorem d_MO_works_69 : decode b_MO_works 69 = .ok (.iload_n 1, 1) := dc_27 (q0_win (r := 69) wn_MO_works_0 (by decide +kernel))
theorem d_MO_works_70 : decode b_MO_works 70 = .ok (.lookupswitch 314 #[(42, 116), (43, 98), (45, 107), (47, 151), (60, 168), (61, 208), (62, 188), (256, 228), (257, 268), (258, 248), (261, 288)], 98) := by decide +kernel
theorem wn_MO_works_168 : ∀ i, i < 94 → bA b_MO_works (168 + i) = wB [22, 4, 32, 97, 55, 6, 167, 0, 233, 22, 4, 32, 101, 55, 6, 167, 0, 224, 22, 4, 9, 148, 153, 0, 22, 32, 184, 1, 132, 20, 1, 138, 22, 4, 184, 1, 132, 109, 148, 158, 0, 5, 3, 172, 22, 4, 32, 105, 55, 6, 167, 0, 189, 32, 9, 148, 154, 0, 5, 3, 172, 22, 4, 32, 109, 55, 6, 167, 0, 172, 22, 4, 32, 148, 156, 0, 7, 4, 167, 0, 4, 3, 184, 1, 128, 55, 6, 167, 0, 152, 22, 4, 32, 148] i := wB_of (by decide +kernel)
theorem d_MO_works_168 : decode b_MO_works 168 = .ok (.lload 4, 2) := dc_22 (qU1_win (r := 0) wn_MO_works_168 (by decide +kernel))
theorem d_MO_works_170 : decode b_MO_works 170 = .ok (.lload_n 2, 1) := dc_32 (q0_win (r := 2) wn_MO_works_168 (by decide +kernel))
theorem d_MO_works_171 : decode b_MO_works 171 = .ok (.ladd, 1) := dc_97 (q0_win (r := 3) wn_MO_works_168 (by decide +kernel))
theorem d_MO_works_172 : decode b_MO_works 172 = .ok (.lstore 6, 2) := dc_55 (qU1_win (r := 4) wn_MO_works_168 (by decide +kernel))
theorem d_MO_works_174 : decode b_MO_works 174 = .ok (.goto 233, 3) := dc_167 (qS2_win (r := 6) wn_MO_works_168 (by decide +kernel))
theorem d_MO_works_177 : decode b_MO_works 177 = .ok (.lload 4, 2) := dc_22 (qU1_win (r := 9) wn_MO_works_168 (by decide +kernel))
theorem d_MO_works_179 : decode b_MO_works 179 = .ok (.lload_n 2, 1) := dc_32 (q0_win (r := 11) wn_MO_works_168 (by decide +kernel))
theorem d_MO_works_180 : decode b_MO_works 180 = .ok (.lsub, 1) := dc_101 (q0_win (r := 12) wn_MO_works_168 (by decide +kernel))
theorem d_MO_works_181 : decode b_MO_works 181 = .ok (.lstore 6, 2) := dc_55 (qU1_win (r := 13) wn_MO_works_168 (by decide +kernel))
theorem d_MO_works_183 : decode b_MO_works 183 = .ok (.goto 224, 3) := dc_167 (qS2_win (r := 15) wn_MO_works_168 (by decide +kernel))
theorem d_MO_works_186 : decode b_MO_works 186 = .ok (.lload 4, 2) := dc_22 (qU1_win (r := 18) wn_MO_works_168 (by decide +kernel))
theorem d_MO_works_188 : decode b_MO_works 188 = .ok (.lconst 0, 1) := dc_9 (q0_win (r := 20) wn_MO_works_168 (by decide +kernel))
theorem d_MO_works_189 : decode b_MO_works 189 = .ok (.lcmp, 1) := dc_148 (q0_win (r := 21) wn_MO_works_168 (by decide +kernel))
theorem d_MO_works_190 : decode b_MO_works 190 = .ok (.ifCond .eq 22, 3) := dc_153 (qS2_win (r := 22) wn_MO_works_168 (by decide +kernel))
theorem d_MO_works_193 : decode b_MO_works 193 = .ok (.lload_n 2, 1) := dc_32 (q0_win (r := 25) wn_MO_works_168 (by decide +kernel))
theorem d_MO_works_194 : decode b_MO_works 194 = .ok (.invokestatic 388, 3) := dc_184 (qU2_win (r := 26) wn_MO_works_168 (by decide +kernel))
theorem d_MO_works_197 : decode b_MO_works 197 = .ok (.ldc2_w 394, 3) := dc_20 (qU2_win (r := 29) wn_MO_works_168 (by decide +kernel))
theorem d_MO_works_200 : decode b_MO_works 200 = .ok (.lload 4, 2) := dc_22 (qU1_win (r := 32) wn_MO_works_168 (by decide +kernel))
theorem d_MO_works_202 : decode b_MO_works 202 = .ok (.invokestatic 388, 3) := dc_184 (qU2_win (r := 34) wn_MO_works_168 (by decide +kernel))
theorem d_MO_works_205 : decode b_MO_works 205 = .ok (.ldiv, 1) := dc_109 (q0_win (r := 37) wn_MO_works_168 (by decide +kernel))
theorem d_MO_works_206 : decode b_MO_works 206 = .ok (.lcmp, 1) := dc_148 (q0_win (r := 38) wn_MO_works_168 (by decide +kernel))
theorem d_MO_works_207 : decode b_MO_works 207 = .ok (.ifCond .le 5, 3) := dc_158 (qS2_win (r := 39) wn_MO_works_168 (by decide +kernel))
theorem d_MO_works_210 : decode b_MO_works 210 = .ok (.iconst 0, 1) := dc_3 (q0_win (r := 42) wn_MO_works_168 (by decide +kernel))
theorem d_MO_works_211 : decode b_MO_works 211 = .ok (.ireturn, 1) := dc_172 (q0_win (r := 43) wn_MO_works_168 (by decide +kernel))
theorem d_MO_works_212 : decode b_MO_works 212 = .ok (.lload 4, 2) := dc_22 (qU1_win (r := 44) wn_MO_works_168 (by decide +kernel))
theorem d_MO_works_214 : decode b_MO_works 214 = .ok (.lload_n 2, 1) := dc_32 (q0_win (r := 46) wn_MO_works_168 (by decide +kernel))
theorem d_MO_works_215 : decode b_MO_works 215 = .ok (.lmul, 1) := dc_105 (q0_win (r := 47) wn_MO_works_168 (by decide +kernel))
theorem d_MO_works_216 : decode b_MO_works 216 = .ok (.lstore 6, 2) := dc_55 (qU1_win (r := 48) wn_MO_works_168 (by decide +kernel))
theorem d_MO_works_218 : decode b_MO_works 218 = .ok (.goto 189, 3) := dc_167 (qS2_win (r := 50) wn_MO_works_168 (by decide +kernel))
theorem d_MO_works_221 : decode b_MO_works 221 = .ok (.lload_n 2, 1) := dc_32 (q0_win (r := 53) wn_MO_works_168 (by decide +kernel))
theorem d_MO_works_222 : decode b_MO_works 222 = .ok (.lconst 0, 1) := dc_9 (q0_win (r := 54) wn_MO_works_168 (by decide +kernel))
theorem d_MO_works_223 : decode b_MO_works 223 = .ok (.lcmp, 1) := dc_148 (q0_win (r := 55) wn_MO_works_168 (by decide +kernel))
theorem d_MO_works_224 : decode b_MO_works 224 = .ok (.ifCond .ne 5, 3) := dc_154 (qS2_win (r := 56) wn_MO_works_168 (by decide +kernel))
theorem d_MO_works_227 : decode b_MO_works 227 = .ok (.iconst 0, 1) := dc_3 (q0_win (r := 59) wn_MO_works_168 (by decide +kernel))
theorem d_MO_works_228 : decode b_MO_works 228 = .ok (.ireturn, 1) := dc_172 (q0_win (r := 60) wn_MO_works_168 (by decide +kernel))
theorem d_MO_works_229 : decode b_MO_works 229 = .ok (.lload 4, 2) := dc_22 (qU1_win (r := 61) wn_MO_works_168 (by decide +kernel))
theorem d_MO_works_231 : decode b_MO_works 231 = .ok (.lload_n 2, 1) := dc_32 (q0_win (r := 63) wn_MO_works_168 (by decide +kernel))
theorem d_MO_works_232 : decode b_MO_works 232 = .ok (.ldiv, 1) := dc_109 (q0_win (r := 64) wn_MO_works_168 (by decide +kernel))
theorem d_MO_works_233 : decode b_MO_works 233 = .ok (.lstore 6, 2) := dc_55 (qU1_win (r := 65) wn_MO_works_168 (by decide +kernel))
theorem d_MO_works_235 : decode b_MO_works 235 = .ok (.goto 172, 3) := dc_167 (qS2_win (r := 67) wn_MO_works_168 (by decide +kernel))
theorem d_MO_works_238 : decode b_MO_works 238 = .ok (.lload 4, 2) := dc_22 (qU1_win (r := 70) wn_MO_works_168 (by decide +kernel))
theorem d_MO_works_240 : decode b_MO_works 240 = .ok (.lload_n 2, 1) := dc_32 (q0_win (r := 72) wn_MO_works_168 (by decide +kernel))
theorem d_MO_works_241 : decode b_MO_works 241 = .ok (.lcmp, 1) := dc_148 (q0_win (r := 73) wn_MO_works_168 (by decide +kernel))
theorem d_MO_works_242 : decode b_MO_works 242 = .ok (.ifCond .ge 7, 3) := dc_156 (qS2_win (r := 74) wn_MO_works_168 (by decide +kernel))
theorem d_MO_works_245 : decode b_MO_works 245 = .ok (.iconst 1, 1) := dc_4 (q0_win (r := 77) wn_MO_works_168 (by decide +kernel))
theorem d_MO_works_246 : decode b_MO_works 246 = .ok (.goto 4, 3) := dc_167 (qS2_win (r := 78) wn_MO_works_168 (by decide +kernel))
theorem d_MO_works_249 : decode b_MO_works 249 = .ok (.iconst 0, 1) := dc_3 (q0_win (r := 81) wn_MO_works_168 (by decide +kernel))
theorem d_MO_works_250 : decode b_MO_works 250 = .ok (.invokestatic 384, 3) := dc_184 (qU2_win (r := 82) wn_MO_works_168 (by decide +kernel))
theorem d_MO_works_253 : decode b_MO_works 253 = .ok (.lstore 6, 2) := dc_55 (qU1_win (r := 85) wn_MO_works_168 (by decide +kernel))
theorem d_MO_works_255 : decode b_MO_works 255 = .ok (.goto 152, 3) := dc_167 (qS2_win (r := 87) wn_MO_works_168 (by decide +kernel))
theorem d_MO_works_258 : decode b_MO_works 258 = .ok (.lload 4, 2) := dc_22 (qU1_win (r := 90) wn_MO_works_168 (by decide +kernel))
theorem d_MO_works_260 : decode b_MO_works 260 = .ok (.lload_n 2, 1) := dc_32 (q0_win (r := 92) wn_MO_works_168 (by decide +kernel))
theorem d_MO_works_261 : decode b_MO_works 261 = .ok (.lcmp, 1) := dc_148 (q0_win (r := 93) wn_MO_works_168 (by decide +kernel))
theorem wn_MO_works_262 : ∀ i, i < 96 → bA b_MO_works (262 + i) = wB [158, 0, 7, 4, 167, 0, 4, 3, 184, 1, 128, 55, 6, 167, 0, 132, 22, 4, 32, 148, 154, 0, 7, 4, 167, 0, 4, 3, 184, 1, 128, 55, 6, 167, 0, 112, 22, 4, 32, 148, 157, 0, 7, 4, 167, 0, 4, 3, 184, 1, 128, 55, 6, 167, 0, 92, 22, 4, 32, 148, 155, 0, 7, 4, 167, 0, 4, 3, 184, 1, 128, 55, 6, 167, 0, 72, 22, 4, 32, 148, 153, 0, 7, 4, 167, 0, 4, 3, 184, 1, 128, 55, 6, 167, 0, 52] i := wB_of (by decide +kernel)
theorem d_MO_works_262 : decode b_MO_works 262 = .ok (.ifCond .le 7, 3) := dc_158 (qS2_win (r := 0) wn_MO_works_262 (by decide +kernel))
theorem d_MO_works_265 : decode b_MO_works 265 = .ok (.iconst 1, 1) := dc_4 (q0_win (r := 3) wn_MO_works_262 (by decide +kernel))
theorem d_MO_works_266 : decode b_MO_works 266 = .ok (.goto 4, 3) := dc_167 (qS2_win (r := 4) wn_MO_works_262 (by decide +kernel))
theorem d_MO_works_269 : decode b_MO_works 269 = .ok (.iconst 0, 1) := dc_3 (q0_win (r := 7) wn_MO_works_262 (by decide +kernel))
theorem d_MO_works_270 : decode b_MO_works 270 = .ok (.invokestatic 384, 3) := dc_184 (qU2_win (r := 8) wn_MO_works_262 (by decide +kernel))
theorem d_MO_works_273 : decode b_MO_works 273 = .ok (.lstore 6, 2) := dc_55 (qU1_win (r := 11) wn_MO_works_262 (by decide +kernel))
theorem d_MO_works_275 : decode b_MO_works 275 = .ok (.goto 132, 3) := dc_167 (qS2_win (r := 13) wn_MO_works_262 (by decide +kernel))
theorem d_MO_works_278 : decode b_MO_works 278 = .ok (.lload 4, 2) := dc_22 (qU1_win (r := 16) wn_MO_works_262 (by decide +kernel))
theorem d_MO_works_280 : decode b_MO_works 280 = .ok (.lload_n 2, 1) := dc_32 (q0_win (r := 18) wn_MO_works_262 (by decide +kernel))
theorem d_MO_works_281 : decode b_MO_works 281 = .ok (.lcmp, 1) := dc_148 (q0_win (r := 19) wn_MO_works_262 (by decide +kernel))
theorem d_MO_works_282 : decode b_MO_works 282 = .ok (.ifCond .ne 7, 3) := dc_154 (qS2_win (r := 20) wn_MO_works_262 (by decide +kernel))
theorem d_MO_works_285 : decode b_MO_works 285 = .ok (.iconst 1, 1) := dc_4 (q0_win (r := 23) wn_MO_works_262 (by decide +kernel))
theorem d_MO_works_286 : decode b_MO_works 286 = .ok (.goto 4, 3) := dc_167 (qS2_win (r := 24) wn_MO_works_262 (by decide +kernel))
theorem d_MO_works_289 : decode b_MO_works 289 = .ok (.iconst 0, 1) := dc_3 (q0_win (r := 27) wn_MO_works_262 (by decide +kernel))
theorem d_MO_works_290 : decode b_MO_works 290 = .ok (.invokestatic 384, 3) := dc_184 (qU2_win (r := 28) wn_MO_works_262 (by decide +kernel))
theorem d_MO_works_293 : decode b_MO_works 293 = .ok (.lstore 6, 2) := dc_55 (qU1_win (r := 31) wn_MO_works_262 (by decide +kernel))
theorem d_MO_works_295 : decode b_MO_works 295 = .ok (.goto 112, 3) := dc_167 (qS2_win (r := 33) wn_MO_works_262 (by decide +kernel))
theorem d_MO_works_298 : decode b_MO_works 298 = .ok (.lload 4, 2) := dc_22 (qU1_win (r := 36) wn_MO_works_262 (by decide +kernel))
theorem d_MO_works_300 : decode b_MO_works 300 = .ok (.lload_n 2, 1) := dc_32 (q0_win (r := 38) wn_MO_works_262 (by decide +kernel))
theorem d_MO_works_301 : decode b_MO_works 301 = .ok (.lcmp, 1) := dc_148 (q0_win (r := 39) wn_MO_works_262 (by decide +kernel))
theorem d_MO_works_302 : decode b_MO_works 302 = .ok (.ifCond .gt 7, 3) := dc_157 (qS2_win (r := 40) wn_MO_works_262 (by decide +kernel))
theorem d_MO_works_305 : decode b_MO_works 305 = .ok (.iconst 1, 1) := dc_4 (q0_win (r := 43) wn_MO_works_262 (by decide +kernel))
theorem d_MO_works_306 : decode b_MO_works 306 = .ok (.goto 4, 3) := dc_167 (qS2_win (r := 44) wn_MO_works_262 (by decide +kernel))
theorem d_MO_works_309 : decode b_MO_works 309 = .ok (.iconst 0, 1) := dc_3 (q0_win (r := 47) wn_MO_works_262 (by decide +kernel))
theorem d_MO_works_310 : decode b_MO_works 310 = .ok (.invokestatic 384, 3) := dc_184 (qU2_win (r := 48) wn_MO_works_262 (by decide +kernel))
theorem d_MO_works_313 : decode b_MO_works 313 = .ok (.lstore 6, 2) := dc_55 (qU1_win (r := 51) wn_MO_works_262 (by decide +kernel))
theorem d_MO_works_315 : decode b_MO_works 315 = .ok (.goto 92, 3) := dc_167 (qS2_win (r := 53) wn_MO_works_262 (by decide +kernel))
theorem d_MO_works_318 : decode b_MO_works 318 = .ok (.lload 4, 2) := dc_22 (qU1_win (r := 56) wn_MO_works_262 (by decide +kernel))
theorem d_MO_works_320 : decode b_MO_works 320 = .ok (.lload_n 2, 1) := dc_32 (q0_win (r := 58) wn_MO_works_262 (by decide +kernel))
theorem d_MO_works_321 : decode b_MO_works 321 = .ok (.lcmp, 1) := dc_148 (q0_win (r := 59) wn_MO_works_262 (by decide +kernel))
theorem d_MO_works_322 : decode b_MO_works 322 = .ok (.ifCond .lt 7, 3) := dc_155 (qS2_win (r := 60) wn_MO_works_262 (by decide +kernel))
theorem d_MO_works_325 : decode b_MO_works 325 = .ok (.iconst 1, 1) := dc_4 (q0_win (r := 63) wn_MO_works_262 (by decide +kernel))
theorem d_MO_works_326 : decode b_MO_works 326 = .ok (.goto 4, 3) := dc_167 (qS2_win (r := 64) wn_MO_works_262 (by decide +kernel))
theorem d_MO_works_329 : decode b_MO_works 329 = .ok (.iconst 0, 1) := dc_3 (q0_win (r := 67) wn_MO_works_262 (by decide +kernel))
theorem d_MO_works_330 : decode b_MO_works 330 = .ok (.invokestatic 384, 3) := dc_184 (qU2_win (r := 68) wn_MO_works_262 (by decide +kernel))
theorem d_MO_works_333 : decode b_MO_works 333 = .ok (.lstore 6, 2) := dc_55 (qU1_win (r := 71) wn_MO_works_262 (by decide +kernel))
theorem d_MO_works_335 : decode b_MO_works 335 = .ok (.goto 72, 3) := dc_167 (qS2_win (r := 73) wn_MO_works_262 (by decide +kernel))
theorem d_MO_works_338 : decode b_MO_works 338 = .ok (.lload 4, 2) := dc_22 (qU1_win (r := 76) wn_MO_works_262 (by decide +kernel))
theorem d_MO_works_340 : decode b_MO_works 340 = .ok (.lload_n 2, 1) := dc_32 (q0_win (r := 78) wn_MO_works_262 (by decide +kernel))
theorem d_MO_works_341 : decode b_MO_works 341 = .ok (.lcmp, 1) := dc_148 (q0_win (r := 79) wn_MO_works_262 (by decide +kernel))
theorem d_MO_works_342 : decode b_MO_works 342 = .ok (.ifCond .eq 7, 3) := dc_153 (qS2_win (r := 80) wn_MO_works_262 (by decide +kernel))
theorem d_MO_works_345 : decode b_MO_works 345 = .ok (.iconst 1, 1) := dc_4 (q0_win (r := 83) wn_MO_works_262 (by decide +kernel))
theorem d_MO_works_346 : decode b_MO_works 346 = .ok (.goto 4, 3) := dc_167 (qS2_win (r := 84) wn_MO_works_262 (by decide +kernel))
theorem d_MO_works_349 : decode b_MO_works 349 = .ok (.iconst 0, 1) := dc_3 (q0_win (r := 87) wn_MO_works_262 (by decide +kernel))
theorem d_MO_works_350 : decode b_MO_works 350 = .ok (.invokestatic 384, 3) := dc_184 (qU2_win (r := 88) wn_MO_works_262 (by decide +kernel))
theorem d_MO_works_353 : decode b_MO_works 353 = .ok (.lstore 6, 2) := dc_55 (qU1_win (r := 91) wn_MO_works_262 (by decide +kernel))
theorem d_MO_works_355 : decode b_MO_works 355 = .ok (.goto 52, 3) := dc_167 (qS2_win (r := 93) wn_MO_works_262 (by decide +kernel))
theorem wn_MO_works_358 : ∀ i, i < 86 → bA b_MO_works (358 + i) = wB [22, 4, 9, 148, 153, 0, 13, 32, 9, 148, 153, 0, 7, 4, 167, 0, 4, 3, 184, 1, 128, 55, 6, 167, 0, 26, 22, 4, 9, 148, 154, 0, 9, 32, 9, 148, 153, 0, 7, 4, 167, 0, 4, 3, 184, 1, 128, 55, 6, 42, 180, 0, 109, 42, 180, 1, 125, 4, 100, 22, 6, 80, 22, 6, 20, 1, 138, 148, 157, 0, 16, 22, 6, 20, 1, 140, 148, 155, 0, 7, 4, 167, 0, 4, 3, 172] i := wB_of (by decide +kernel)
theorem d_MO_works_358 : decode b_MO_works 358 = .ok (.lload 4, 2) := dc_22 (qU1_win (r := 0) wn_MO_works_358 (by decide +kernel))
theorem d_MO_works_360 : decode b_MO_works 360 = .ok (.lconst 0, 1) := dc_9 (q0_win (r := 2) wn_MO_works_358 (by decide +kernel))
theorem d_MO_works_361 : decode b_MO_works 361 = .ok (.lcmp, 1) := dc_148 (q0_win (r := 3) wn_MO_works_358 (by decide +kernel))
theorem d_MO_works_362 : decode b_MO_works 362 = .ok (.ifCond .eq 13, 3) := dc_153 (qS2_win (r := 4) wn_MO_works_358 (by decide +kernel))
theorem d_MO_works_365 : decode b_MO_works 365 = .ok (.lload_n 2, 1) := dc_32 (q0_win (r := 7) wn_MO_works_358 (by decide +kernel))
theorem d_MO_works_366 : decode b_MO_works 366 = .ok (.lconst 0, 1) := dc_9 (q0_win (r := 8) wn_MO_works_358 (by decide +kernel))
theorem d_MO_works_367 : decode b_MO_works 367 = .ok (.lcmp, 1) := dc_148 (q0_win (r := 9) wn_MO_works_358 (by decide +kernel))
theorem d_MO_works_368 : decode b_MO_works 368 = .ok (.ifCond .eq 7, 3) := dc_153 (qS2_win (r := 10) wn_MO_works_358 (by decide +kernel))
theorem d_MO_works_371 : decode b_MO_works 371 = .ok (.iconst 1, 1) := dc_4 (q0_win (r := 13) wn_MO_works_358 (by decide +kernel))
theorem d_MO_works_372 : decode b_MO_works 372 = .ok (.goto 4, 3) := dc_167 (qS2_win (r := 14) wn_MO_works_358 (by decide +kernel))
theorem d_MO_works_375 : decode b_MO_works 375 = .ok (.iconst 0, 1) := dc_3 (q0_win (r := 17) wn_MO_works_358 (by decide +kernel))
theorem d_MO_works_376 : decode b_MO_works 376 = .ok (.invokestatic 384, 3) := dc_184 (qU2_win (r := 18) wn_MO_works_358 (by decide +kernel))
theorem d_MO_works_379 : decode b_MO_works 379 = .ok (.lstore 6, 2) := dc_55 (qU1_win (r := 21) wn_MO_works_358 (by decide +kernel))
theorem d_MO_works_381 : decode b_MO_works 381 = .ok (.goto 26, 3) := dc_167 (qS2_win (r := 23) wn_MO_works_358 (by decide +kernel))
theorem d_MO_works_384 : decode b_MO_works 384 = .ok (.lload 4, 2) := dc_22 (qU1_win (r := 26) wn_MO_works_358 (by decide +kernel))
theorem d_MO_works_386 : decode b_MO_works 386 = .ok (.lconst 0, 1) := dc_9 (q0_win (r := 28) wn_MO_works_358 (by decide +kernel))
theorem d_MO_works_387 : decode b_MO_works 387 = .ok (.lcmp, 1) := dc_148 (q0_win (r := 29) wn_MO_works_358 (by decide +kernel))
theorem d_MO_works_388 : decode b_MO_works 388 = .ok (.ifCond .ne 9, 3) := dc_154 (qS2_win (r := 30) wn_MO_works_358 (by decide +kernel))
theorem d_MO_works_391 : decode b_MO_works 391 = .ok (.lload_n 2, 1) := dc_32 (q0_win (r := 33) wn_MO_works_358 (by decide +kernel))
theorem d_MO_works_392 : decode b_MO_works 392 = .ok (.lconst 0, 1) := dc_9 (q0_win (r := 34) wn_MO_works_358 (by decide +kernel))
theorem d_MO_works_393 : decode b_MO_works 393 = .ok (.lcmp, 1) := dc_148 (q0_win (r := 35) wn_MO_works_358 (by decide +kernel))
theorem d_MO_works_394 : decode b_MO_works 394 = .ok (.ifCond .eq 7, 3) := dc_153 (qS2_win (r := 36) wn_MO_works_358 (by decide +kernel))
theorem d_MO_works_397 : decode b_MO_works 397 = .ok (.iconst 1, 1) := dc_4 (q0_win (r := 39) wn_MO_works_358 (by decide +kernel))
theorem d_MO_works_398 : decode b_MO_works 398 = .ok (.goto 4, 3) := dc_167 (qS2_win (r := 40) wn_MO_works_358 (by decide +kernel))
theorem d_MO_works_401 : decode b_MO_works 401 = .ok (.iconst 0, 1) := dc_3 (q0_win (r := 43) wn_MO_works_358 (by decide +kernel))
theorem d_MO_works_402 : decode b_MO_works 402 = .ok (.invokestatic 384, 3) := dc_184 (qU2_win (r := 44) wn_MO_works_358 (by decide +kernel))
theorem d_MO_works_405 : decode b_MO_works 405 = .ok (.lstore 6, 2) := dc_55 (qU1_win (r := 47) wn_MO_works_358 (by decide +kernel))
theorem d_MO_works_407 : decode b_MO_works 407 = .ok (.aload_n 0, 1) := dc_42 (q0_win (r := 49) wn_MO_works_358 (by decide +kernel))
theorem d_MO_works_408 : decode b_MO_works 408 = .ok (.getfield 109, 3) := dc_180 (qU2_win (r := 50) wn_MO_works_358 (by decide +kernel))
theorem d_MO_works_411 : decode b_MO_works 411 = .ok (.aload_n 0, 1) := dc_42 (q0_win (r := 53) wn_MO_works_358 (by decide +kernel))
theorem d_MO_works_412 : decode b_MO_works 412 = .ok (.getfield 381, 3) := dc_180 (qU2_win (r := 54) wn_MO_works_358 (by decide +kernel))
theorem d_MO_works_415 : decode b_MO_works 415 = .ok (.iconst 1, 1) := dc_4 (q0_win (r := 57) wn_MO_works_358 (by decide +kernel))
theorem d_MO_works_416 : decode b_MO_works 416 = .ok (.isub, 1) := dc_100 (q0_win (r := 58) wn_MO_works_358 (by decide +kernel))
theorem d_MO_works_417 : decode b_MO_works 417 = .ok (.lload 6, 2) := dc_22 (qU1_win (r := 59) wn_MO_works_358 (by decide +kernel))
theorem d_MO_works_419 : decode b_MO_works 419 = .ok (.lastore, 1) := dc_80 (q0_win (r := 61) wn_MO_works_358 (by decide +kernel))
theorem d_MO_works_420 : decode b_MO_works 420 = .ok (.lload 6, 2) := dc_22 (qU1_win (r := 62) wn_MO_works_358 (by decide +kernel))
theorem d_MO_works_422 : decode b_MO_works 422 = .ok (.ldc2_w 394, 3) := dc_20 (qU2_win (r := 64) wn_MO_works_358 (by decide +kernel))
theorem d_MO_works_425 : decode b_MO_works 425 = .ok (.lcmp, 1) := dc_148 (q0_win (r := 67) wn_MO_works_358 (by decide +kernel))
theorem d_MO_works_426 : decode b_MO_works 426 = .ok (.ifCond .gt 16, 3) := dc_157 (qS2_win (r := 68) wn_MO_works_358 (by decide +kernel))
theorem d_MO_works_429 : decode b_MO_works 429 = .ok (.lload 6, 2) := dc_22 (qU1_win (r := 71) wn_MO_works_358 (by decide +kernel))
theorem d_MO_works_431 : decode b_MO_works 431 = .ok (.ldc2_w 396, 3) := dc_20 (qU2_win (r := 73) wn_MO_works_358 (by decide +kernel))
theorem d_MO_works_434 : decode b_MO_works 434 = .ok (.lcmp, 1) := dc_148 (q0_win (r := 76) wn_MO_works_358 (by decide +kernel))
theorem d_MO_works_435 : decode b_MO_works 435 = .ok (.ifCond .lt 7, 3) := dc_155 (qS2_win (r := 77) wn_MO_works_358 (by decide +kernel))
theorem d_MO_works_438 : decode b_MO_works 438 = .ok (.iconst 1, 1) := dc_4 (q0_win (r := 80) wn_MO_works_358 (by decide +kernel))
theorem d_MO_works_439 : decode b_MO_works 439 = .ok (.goto 4, 3) := dc_167 (qS2_win (r := 81) wn_MO_works_358 (by decide +kernel))
theorem d_MO_works_442 : decode b_MO_works 442 = .ok (.iconst 0, 1) := dc_3 (q0_win (r := 84) wn_MO_works_358 (by decide +kernel))
theorem d_MO_works_443 : decode b_MO_works 443 = .ok (.ireturn, 1) := dc_172 (q0_win (r := 85) wn_MO_works_358 (by decide +kernel))
def t_MO_works_L40 (x1 : Int)  (M : Mem) (v1_ : Int) (v2_ : Int) : Option (Mem × Int) := (qlet (t_MO_is M v2_) fun q56 => (qguard (0 ≤ v1_ ∧ v1_ < 64) (qlet (setL M 221 v1_ q56) fun M59 => (some (M59, 1)))))
def t_MO_works_L407 (x1 : Int)  (M : Mem) (v1_ : Int64) : Option (Mem × Int) := (qguard (0 ≤ (w32 ((M.1 191 54) - 1)) ∧ (w32 ((M.1 191 54) - 1)) < 64) (qlet (setL M 221 (w32 ((M.1 191 54) - 1)) v1_) fun M37 => (if 1000000000000 < v1_ then (some (M37, 0)) else (if v1_ < (-1000000000000) then (some (M37, 0)) else (some (M37, 1))))))
def t_MO_works_L212 (x1 : Int)  (M : Mem) (v1_ : Int64) (v2_ : Int64) : Option (Mem × Int) := (t_MO_works_L407 x1 M (v2_ * v1_))
def t_MO_works_L250 (x1 : Int)  (M : Mem) (v1_ : Int) : Option (Mem × Int) := (qlet (t_MO_is M v1_) fun q40 => (t_MO_works_L407 x1 M q40))
def t_MO_works_L270 (x1 : Int)  (M : Mem) (v1_ : Int) : Option (Mem × Int) := (qlet (t_MO_is M v1_) fun q44 => (t_MO_works_L407 x1 M q44))
def t_MO_works_L290 (x1 : Int)  (M : Mem) (v1_ : Int) : Option (Mem × Int) := (qlet (t_MO_is M v1_) fun q42 => (t_MO_works_L407 x1 M q42))
def t_MO_works_L310 (x1 : Int)  (M : Mem) (v1_ : Int) : Option (Mem × Int) := (qlet (t_MO_is M v1_) fun q46 => (t_MO_works_L407 x1 M q46))
def t_MO_works_L330 (x1 : Int)  (M : Mem) (v1_ : Int) : Option (Mem × Int) := (qlet (t_MO_is M v1_) fun q50 => (t_MO_works_L407 x1 M q50))
def t_MO_works_L350 (x1 : Int)  (M : Mem) (v1_ : Int) : Option (Mem × Int) := (qlet (t_MO_is M v1_) fun q48 => (t_MO_works_L407 x1 M q48))
def t_MO_works_L376 (x1 : Int)  (M : Mem) (v1_ : Int) : Option (Mem × Int) := (qlet (t_MO_is M v1_) fun q52 => (t_MO_works_L407 x1 M q52))
def t_MO_works_L375 (x1 : Int)  (M : Mem)  : Option (Mem × Int) := (t_MO_works_L376 x1 M 0)
def t_MO_works_L402 (x1 : Int)  (M : Mem) (v1_ : Int) : Option (Mem × Int) := (qlet (t_MO_is M v1_) fun q54 => (t_MO_works_L407 x1 M q54))
def t_MO_works_L397 (x1 : Int)  (M : Mem)  : Option (Mem × Int) := (t_MO_works_L402 x1 M 1)
def t_MO_works (M : Mem) (x1 : Int) : Option (Mem × Int) := (qguard (0 ≤ (w32 ((M.1 191 54) - 1)) ∧ (w32 ((M.1 191 54) - 1)) < 64) (if x1 = 260 then (if (M.2 221 (w32 ((M.1 191 54) - 1))) = 0 then (t_MO_works_L40 x1 M (w32 ((M.1 191 54) - 1)) 1) else (t_MO_works_L40 x1 M (w32 ((M.1 191 54) - 1)) 0)) else (qguard (0 ≤ (w32 ((M.1 191 54) - 2)) ∧ (w32 ((M.1 191 54) - 2)) < 64) (qlet (setI M 191 54 (w32 ((M.1 191 54) - 1))) fun M7 => (if x1 = 42 then (if (M.2 221 (w32 ((M.1 191 54) - 2))) = 0 then (t_MO_works_L212 x1 M7 (M.2 221 (w32 ((M.1 191 54) - 1))) (M.2 221 (w32 ((M.1 191 54) - 2)))) else (if (q_absl (M.2 221 (w32 ((M.1 191 54) - 2)))) = 0 then none else (if (q_absl (M.2 221 (w32 ((M.1 191 54) - 1)))) ≤ (1000000000000 / (q_absl (M.2 221 (w32 ((M.1 191 54) - 2))))) then (t_MO_works_L212 x1 M7 (M.2 221 (w32 ((M.1 191 54) - 1))) (M.2 221 (w32 ((M.1 191 54) - 2)))) else (some (M7, 0))))) else (if x1 = 43 then (t_MO_works_L407 x1 M7 ((M.2 221 (w32 ((M.1 191 54) - 2))) + (M.2 221 (w32 ((M.1 191 54) - 1))))) else (if x1 = 45 then (t_MO_works_L407 x1 M7 ((M.2 221 (w32 ((M.1 191 54) - 2))) - (M.2 221 (w32 ((M.1 191 54) - 1))))) else (if x1 = 47 then (if (M.2 221 (w32 ((M.1 191 54) - 1))) = 0 then (some (M7, 0)) else (t_MO_works_L407 x1 M7 ((M.2 221 (w32 ((M.1 191 54) - 2))) / (M.2 221 (w32 ((M.1 191 54) - 1)))))) else (if x1 = 60 then (if (M.2 221 (w32 ((M.1 191 54) - 1))) ≤ (M.2 221 (w32 ((M.1 191 54) - 2))) then (t_MO_works_L250 x1 M7 0) else (t_MO_works_L250 x1 M7 1)) else (if x1 = 61 then (if (M.2 221 (w32 ((M.1 191 54) - 2))) = (M.2 221 (w32 ((M.1 191 54) - 1))) then (t_MO_works_L290 x1 M7 1) else (t_MO_works_L290 x1 M7 0)) else (if x1 = 62 then (if (M.2 221 (w32 ((M.1 191 54) - 2))) ≤ (M.2 221 (w32 ((M.1 191 54) - 1))) then (t_MO_works_L270 x1 M7 0) else (t_MO_works_L270 x1 M7 1)) else (if x1 = 256 then (if (M.2 221 (w32 ((M.1 191 54) - 1))) < (M.2 221 (w32 ((M.1 191 54) - 2))) then (t_MO_works_L310 x1 M7 0) else (t_MO_works_L310 x1 M7 1)) else (if x1 = 257 then (if (M.2 221 (w32 ((M.1 191 54) - 2))) = (M.2 221 (w32 ((M.1 191 54) - 1))) then (t_MO_works_L350 x1 M7 0) else (t_MO_works_L350 x1 M7 1)) else (if x1 = 258 then (if (M.2 221 (w32 ((M.1 191 54) - 2))) < (M.2 221 (w32 ((M.1 191 54) - 1))) then (t_MO_works_L330 x1 M7 0) else (t_MO_works_L330 x1 M7 1)) else (if x1 = 261 then (if (M.2 221 (w32 ((M.1 191 54) - 2))) = 0 then (t_MO_works_L375 x1 M7) else (if (M.2 221 (w32 ((M.1 191 54) - 1))) = 0 then (t_MO_works_L375 x1 M7) else (t_MO_works_L376 x1 M7 1))) else (if (M.2 221 (w32 ((M.1 191 54) - 2))) = 0 then (if (M.2 221 (w32 ((M.1 191 54) - 1))) = 0 then (t_MO_works_L402 x1 M7 0) else (t_MO_works_L397 x1 M7)) else (t_MO_works_L397 x1 M7)))))))))))))))))
set_option maxHeartbeats 4000000 in
set_option maxRecDepth 100000 in
theorem k_MO_works_L40 (l : Launch) {p : Program} {e : Env} {s : State} {m : MethodId} {below : List Frame} {meth : Method} {c : Code} {b n : Nat} {C : CT} (hlo : 231 ≤ n) (x1 : Int) (hx1 : InR x1) (F : Cx b p m c b_MO_works 8 s ([.ref (b + 191), vI x1] : List Value).toArray "WardFallsModel" C n 231) (hlk : meth.locks = false) (hr : meth.sig.returnType = some .boolean) {res : Mem × Int} (M : Mem) (v1_ : Int) (hv1_ : InR v1_) (v2_ : Int) (hv2_ : v2_ = 0 ∨ v2_ = 1) (H : Heap) (locs : List Loc) (ls : Array Slot) (hS : St b C n M s H locs) (hl : lv_has ls 8 []) (hT : t_MO_works_L40 x1 M v1_ v2_ = some res) : W p l e (headSpec (wsM y_MO_works b_MO_works 8 (some .boolean)) (rmD 1)).room s m ([.ref (b + 191), vI x1] : List Value).toArray below meth c H locs 0 0 (MQ below (QZ b C n res.1 res.2) ([.ref (b + 191), vI x1] : List Value).toArray s 0 0 (frb b)) (F0 m 40 ls [vI v2_, vI v1_, .ref (b + 221)]) := by
  unfold t_MO_works_L40 at hT
  obtain ⟨q56, hq56⟩ : ∃ q, q = (t_MO_is M v2_) := ⟨_, rfl⟩
  replace hT := qlet_eq hT hq56
  refine r_backL F hS (r_runS (As := [vI v2_]) F hS (c_MO_is l F.2.2.1 M v2_ (inr_z hv2_) _ hq56.symm) gs_MO_384 hd_MO_is ⟨Nat.le_of_ble_eq_true rfl, Nat.le_of_ble_eq_true rfl⟩ rfl hl.1 (Nat.le_of_ble_eq_true rfl) ⟨Nat.zero_le _, Nat.zero_le _⟩ rfl d_MO_works_40) (fun H locs hS => ?_)
  obtain ⟨⟨g58a, g58b⟩, hT⟩ := q_guard hT
  refine r_last F hS (show 221 < 231 by decide) (show shK 221 = 2 from rfl) (show shN 221 = 64 from rfl) hv1_ g58a g58b d_MO_works_43 (fun H locs hS => ?_)
  obtain ⟨M59, eM59⟩ : ∃ q, q = (setL M 221 v1_ q56) := ⟨_, rfl⟩
  replace hS : St b C n M59 s H locs := by rw [eM59]; exact hS
  replace hT := qlet_eq hT eM59
  refine r_iconst F.hx F.hb d_MO_works_44 ?_
  cases hT
  exact r_zret F hlk hr hS (Or.inr rfl) d_MO_works_45
set_option maxHeartbeats 4000000 in
set_option maxRecDepth 100000 in
theorem k_MO_works_L407 (l : Launch) {p : Program} {e : Env} {s : State} {m : MethodId} {below : List Frame} {meth : Method} {c : Code} {b n : Nat} {C : CT} (hlo : 231 ≤ n) (x1 : Int) (hx1 : InR x1) (F : Cx b p m c b_MO_works 8 s ([.ref (b + 191), vI x1] : List Value).toArray "WardFallsModel" C n 231) (hlk : meth.locks = false) (hr : meth.sig.returnType = some .boolean) {res : Mem × Int} (M : Mem) (v1_ : Int64) (H : Heap) (locs : List Loc) (ls : Array Slot) (hS : St b C n M s H locs) (hl : lv_has ls 8 [(0, .ref (b + 191)), (6, .long v1_)]) (hT : t_MO_works_L407 x1 M v1_ = some res) : W p l e (headSpec (wsM y_MO_works b_MO_works 8 (some .boolean)) (rmD 1)).room s m ([.ref (b + 191), vI x1] : List Value).toArray below meth c H locs 0 0 (MQ below (QZ b C n res.1 res.2) ([.ref (b + 191), vI x1] : List Value).toArray s 0 0 (frb b)) (F0 m 407 ls []) := by
  unfold t_MO_works_L407 at hT
  refine lv_aload_n F.hx F.hb d_MO_works_407 rfl (lv_at hl 0 rfl) ?_
  refine r_get (v := .ref (b + 221)) (N := 68) (T := T1) (j := 53) F hS (show 191 < 231 by decide) (show shK 191 = 5 from rfl) (show shN 191 = 68 from rfl) rfl (Nat.le_of_ble_eq_true rfl) ing1 mw_1442 (fv_sg rfl rfl rfl) d_MO_works_408 ?_
  refine lv_aload_n F.hx F.hb d_MO_works_411 rfl (lv_at hl 0 rfl) ?_
  refine r_get (v := vI (M.1 191 54)) (N := 68) (T := T1) (j := 54) F hS (show 191 < 231 by decide) (show shK 191 = 5 from rfl) (show shN 191 = 68 from rfl) rfl (Nat.le_of_ble_eq_true rfl) ing1 mw_1443 (fv_int rfl) d_MO_works_412 ?_
  have i35 := hS.rng 191 54
  refine r_iconst F.hx F.hb d_MO_works_415 ?_
  refine r_isub F.hx F.hb d_MO_works_416 ?_
  refine lv_lload F.hx F.hb d_MO_works_417 (lv_at hl 1 rfl) ?_
  obtain ⟨⟨g36a, g36b⟩, hT⟩ := q_guard hT
  refine r_last F hS (show 221 < 231 by decide) (show shK 221 = 2 from rfl) (show shN 221 = 64 from rfl) (inr_w32 _) g36a g36b d_MO_works_419 (fun H locs hS => ?_)
  obtain ⟨M37, eM37⟩ : ∃ q, q = (setL M 221 (w32 ((M.1 191 54) - 1)) v1_) := ⟨_, rfl⟩
  replace hS : St b C n M37 s H locs := by rw [eM37]; exact hS
  replace hT := qlet_eq hT eM37
  refine lv_lload F.hx F.hb d_MO_works_420 (lv_at hl 1 rfl) ?_
  refine lv_ldc2 (v := 1000000000000) F.hx F.hb F.hown (F.hts mw_1839) d_MO_works_422 ?_
  refine W.lcmp F.hx F.hb d_MO_works_425 ?_
  refine r_lif_gt (tgt := 442) F.hx F.hb  d_MO_works_426 (by decide) (fun c38 => ?_) (fun c38 => ?_)
  · replace hT := (if_pos c38).symm.trans hT
    refine r_iconst F.hx F.hb d_MO_works_442 ?_
    cases hT
    exact r_zret F hlk hr hS (Or.inl rfl) d_MO_works_443
  · replace hT := (if_neg c38).symm.trans hT
    refine lv_lload F.hx F.hb d_MO_works_429 (lv_at hl 1 rfl) ?_
    refine lv_ldc2 (v := (-1000000000000)) F.hx F.hb F.hown (F.hts mw_1840) d_MO_works_431 ?_
    refine W.lcmp F.hx F.hb d_MO_works_434 ?_
    refine r_lif_lt (tgt := 442) F.hx F.hb  d_MO_works_435 (by decide) (fun c39 => ?_) (fun c39 => ?_)
    · replace hT := (if_pos c39).symm.trans hT
      refine r_iconst F.hx F.hb d_MO_works_442 ?_
      cases hT
      exact r_zret F hlk hr hS (Or.inl rfl) d_MO_works_443
    · replace hT := (if_neg c39).symm.trans hT
      refine r_iconst F.hx F.hb d_MO_works_438 ?_
      refine lv_goto (tgt := 443) F.hx F.hb d_MO_works_439 (by decide) ?_
      cases hT
      exact r_zret F hlk hr hS (Or.inr rfl) d_MO_works_443
set_option maxHeartbeats 4000000 in
set_option maxRecDepth 100000 in
theorem k_MO_works_L212 (l : Launch) {p : Program} {e : Env} {s : State} {m : MethodId} {below : List Frame} {meth : Method} {c : Code} {b n : Nat} {C : CT} (hlo : 231 ≤ n) (x1 : Int) (hx1 : InR x1) (F : Cx b p m c b_MO_works 8 s ([.ref (b + 191), vI x1] : List Value).toArray "WardFallsModel" C n 231) (hlk : meth.locks = false) (hr : meth.sig.returnType = some .boolean) {res : Mem × Int} (M : Mem) (v1_ : Int64) (v2_ : Int64) (H : Heap) (locs : List Loc) (ls : Array Slot) (hS : St b C n M s H locs) (hl : lv_has ls 8 [(0, .ref (b + 191)), (2, .long v1_), (4, .long v2_)]) (hT : t_MO_works_L212 x1 M v1_ v2_ = some res) : W p l e (headSpec (wsM y_MO_works b_MO_works 8 (some .boolean)) (rmD 1)).room s m ([.ref (b + 191), vI x1] : List Value).toArray below meth c H locs 0 0 (MQ below (QZ b C n res.1 res.2) ([.ref (b + 191), vI x1] : List Value).toArray s 0 0 (frb b)) (F0 m 212 ls []) := by
  unfold t_MO_works_L212 at hT
  refine lv_lload F.hx F.hb d_MO_works_212 (lv_at hl 2 rfl) ?_
  refine lv_lload_n F.hx F.hb d_MO_works_214 rfl (lv_at hl 1 rfl) ?_
  refine lv_lmul F.hx F.hb d_MO_works_215 ?_
  refine lv_lstore (lv' := [(6, .long (v2_ * v1_)), (0, .ref (b + 191)), (2, .long v1_), (4, .long v2_)]) F.hx F.hb d_MO_works_216 hl (Nat.le_of_ble_eq_true rfl) rfl (fun ls hl => ?_)
  refine lv_goto (tgt := 407) F.hx F.hb d_MO_works_218 (by decide) ?_
  exact k_MO_works_L407 l hlo x1 hx1 F hlk hr M (v2_ * v1_) _ _ _ hS (lv_sub hl [1, 0] rfl) hT
set_option maxHeartbeats 4000000 in
set_option maxRecDepth 100000 in
theorem k_MO_works_L250 (l : Launch) {p : Program} {e : Env} {s : State} {m : MethodId} {below : List Frame} {meth : Method} {c : Code} {b n : Nat} {C : CT} (hlo : 231 ≤ n) (x1 : Int) (hx1 : InR x1) (F : Cx b p m c b_MO_works 8 s ([.ref (b + 191), vI x1] : List Value).toArray "WardFallsModel" C n 231) (hlk : meth.locks = false) (hr : meth.sig.returnType = some .boolean) {res : Mem × Int} (M : Mem) (v1_ : Int) (hv1_ : v1_ = 0 ∨ v1_ = 1) (H : Heap) (locs : List Loc) (ls : Array Slot) (hS : St b C n M s H locs) (hl : lv_has ls 8 [(0, .ref (b + 191))]) (hT : t_MO_works_L250 x1 M v1_ = some res) : W p l e (headSpec (wsM y_MO_works b_MO_works 8 (some .boolean)) (rmD 1)).room s m ([.ref (b + 191), vI x1] : List Value).toArray below meth c H locs 0 0 (MQ below (QZ b C n res.1 res.2) ([.ref (b + 191), vI x1] : List Value).toArray s 0 0 (frb b)) (F0 m 250 ls [vI v1_]) := by
  unfold t_MO_works_L250 at hT
  obtain ⟨q40, hq40⟩ : ∃ q, q = (t_MO_is M v1_) := ⟨_, rfl⟩
  replace hT := qlet_eq hT hq40
  refine r_backL F hS (r_runS (As := [vI v1_]) F hS (c_MO_is l F.2.2.1 M v1_ (inr_z hv1_) _ hq40.symm) gs_MO_384 hd_MO_is ⟨Nat.le_of_ble_eq_true rfl, Nat.le_of_ble_eq_true rfl⟩ rfl hl.1 (Nat.le_of_ble_eq_true rfl) ⟨Nat.zero_le _, Nat.zero_le _⟩ rfl d_MO_works_250) (fun H locs hS => ?_)
  refine lv_lstore (lv' := [(6, .long q40), (0, .ref (b + 191))]) F.hx F.hb d_MO_works_253 hl (Nat.le_of_ble_eq_true rfl) rfl (fun ls hl => ?_)
  refine lv_goto (tgt := 407) F.hx F.hb d_MO_works_255 (by decide) ?_
  exact k_MO_works_L407 l hlo x1 hx1 F hlk hr M q40 _ _ _ hS (lv_sub hl [1, 0] rfl) hT
set_option maxHeartbeats 4000000 in
set_option maxRecDepth 100000 in
theorem k_MO_works_L270 (l : Launch) {p : Program} {e : Env} {s : State} {m : MethodId} {below : List Frame} {meth : Method} {c : Code} {b n : Nat} {C : CT} (hlo : 231 ≤ n) (x1 : Int) (hx1 : InR x1) (F : Cx b p m c b_MO_works 8 s ([.ref (b + 191), vI x1] : List Value).toArray "WardFallsModel" C n 231) (hlk : meth.locks = false) (hr : meth.sig.returnType = some .boolean) {res : Mem × Int} (M : Mem) (v1_ : Int) (hv1_ : v1_ = 0 ∨ v1_ = 1) (H : Heap) (locs : List Loc) (ls : Array Slot) (hS : St b C n M s H locs) (hl : lv_has ls 8 [(0, .ref (b + 191))]) (hT : t_MO_works_L270 x1 M v1_ = some res) : W p l e (headSpec (wsM y_MO_works b_MO_works 8 (some .boolean)) (rmD 1)).room s m ([.ref (b + 191), vI x1] : List Value).toArray below meth c H locs 0 0 (MQ below (QZ b C n res.1 res.2) ([.ref (b + 191), vI x1] : List Value).toArray s 0 0 (frb b)) (F0 m 270 ls [vI v1_]) := by
  unfold t_MO_works_L270 at hT
  obtain ⟨q44, hq44⟩ : ∃ q, q = (t_MO_is M v1_) := ⟨_, rfl⟩
  replace hT := qlet_eq hT hq44
  refine r_backL F hS (r_runS (As := [vI v1_]) F hS (c_MO_is l F.2.2.1 M v1_ (inr_z hv1_) _ hq44.symm) gs_MO_384 hd_MO_is ⟨Nat.le_of_ble_eq_true rfl, Nat.le_of_ble_eq_true rfl⟩ rfl hl.1 (Nat.le_of_ble_eq_true rfl) ⟨Nat.zero_le _, Nat.zero_le _⟩ rfl d_MO_works_270) (fun H locs hS => ?_)
  refine lv_lstore (lv' := [(6, .long q44), (0, .ref (b + 191))]) F.hx F.hb d_MO_works_273 hl (Nat.le_of_ble_eq_true rfl) rfl (fun ls hl => ?_)
  refine lv_goto (tgt := 407) F.hx F.hb d_MO_works_275 (by decide) ?_
  exact k_MO_works_L407 l hlo x1 hx1 F hlk hr M q44 _ _ _ hS (lv_sub hl [1, 0] rfl) hT
set_option maxHeartbeats 4000000 in
set_option maxRecDepth 100000 in
theorem k_MO_works_L290 (l : Launch) {p : Program} {e : Env} {s : State} {m : MethodId} {below : List Frame} {meth : Method} {c : Code} {b n : Nat} {C : CT} (hlo : 231 ≤ n) (x1 : Int) (hx1 : InR x1) (F : Cx b p m c b_MO_works 8 s ([.ref (b + 191), vI x1] : List Value).toArray "WardFallsModel" C n 231) (hlk : meth.locks = false) (hr : meth.sig.returnType = some .boolean) {res : Mem × Int} (M : Mem) (v1_ : Int) (hv1_ : v1_ = 0 ∨ v1_ = 1) (H : Heap) (locs : List Loc) (ls : Array Slot) (hS : St b C n M s H locs) (hl : lv_has ls 8 [(0, .ref (b + 191))]) (hT : t_MO_works_L290 x1 M v1_ = some res) : W p l e (headSpec (wsM y_MO_works b_MO_works 8 (some .boolean)) (rmD 1)).room s m ([.ref (b + 191), vI x1] : List Value).toArray below meth c H locs 0 0 (MQ below (QZ b C n res.1 res.2) ([.ref (b + 191), vI x1] : List Value).toArray s 0 0 (frb b)) (F0 m 290 ls [vI v1_]) := by
  unfold t_MO_works_L290 at hT
  obtain ⟨q42, hq42⟩ : ∃ q, q = (t_MO_is M v1_) := ⟨_, rfl⟩
  replace hT := qlet_eq hT hq42
  refine r_backL F hS (r_runS (As := [vI v1_]) F hS (c_MO_is l F.2.2.1 M v1_ (inr_z hv1_) _ hq42.symm) gs_MO_384 hd_MO_is ⟨Nat.le_of_ble_eq_true rfl, Nat.le_of_ble_eq_true rfl⟩ rfl hl.1 (Nat.le_of_ble_eq_true rfl) ⟨Nat.zero_le _, Nat.zero_le _⟩ rfl d_MO_works_290) (fun H locs hS => ?_)
  refine lv_lstore (lv' := [(6, .long q42), (0, .ref (b + 191))]) F.hx F.hb d_MO_works_293 hl (Nat.le_of_ble_eq_true rfl) rfl (fun ls hl => ?_)
  refine lv_goto (tgt := 407) F.hx F.hb d_MO_works_295 (by decide) ?_
  exact k_MO_works_L407 l hlo x1 hx1 F hlk hr M q42 _ _ _ hS (lv_sub hl [1, 0] rfl) hT
set_option maxHeartbeats 4000000 in
set_option maxRecDepth 100000 in
theorem k_MO_works_L310 (l : Launch) {p : Program} {e : Env} {s : State} {m : MethodId} {below : List Frame} {meth : Method} {c : Code} {b n : Nat} {C : CT} (hlo : 231 ≤ n) (x1 : Int) (hx1 : InR x1) (F : Cx b p m c b_MO_works 8 s ([.ref (b + 191), vI x1] : List Value).toArray "WardFallsModel" C n 231) (hlk : meth.locks = false) (hr : meth.sig.returnType = some .boolean) {res : Mem × Int} (M : Mem) (v1_ : Int) (hv1_ : v1_ = 0 ∨ v1_ = 1) (H : Heap) (locs : List Loc) (ls : Array Slot) (hS : St b C n M s H locs) (hl : lv_has ls 8 [(0, .ref (b + 191))]) (hT : t_MO_works_L310 x1 M v1_ = some res) : W p l e (headSpec (wsM y_MO_works b_MO_works 8 (some .boolean)) (rmD 1)).room s m ([.ref (b + 191), vI x1] : List Value).toArray below meth c H locs 0 0 (MQ below (QZ b C n res.1 res.2) ([.ref (b + 191), vI x1] : List Value).toArray s 0 0 (frb b)) (F0 m 310 ls [vI v1_]) := by
  unfold t_MO_works_L310 at hT
  obtain ⟨q46, hq46⟩ : ∃ q, q = (t_MO_is M v1_) := ⟨_, rfl⟩
  replace hT := qlet_eq hT hq46
  refine r_backL F hS (r_runS (As := [vI v1_]) F hS (c_MO_is l F.2.2.1 M v1_ (inr_z hv1_) _ hq46.symm) gs_MO_384 hd_MO_is ⟨Nat.le_of_ble_eq_true rfl, Nat.le_of_ble_eq_true rfl⟩ rfl hl.1 (Nat.le_of_ble_eq_true rfl) ⟨Nat.zero_le _, Nat.zero_le _⟩ rfl d_MO_works_310) (fun H locs hS => ?_)
  refine lv_lstore (lv' := [(6, .long q46), (0, .ref (b + 191))]) F.hx F.hb d_MO_works_313 hl (Nat.le_of_ble_eq_true rfl) rfl (fun ls hl => ?_)
  refine lv_goto (tgt := 407) F.hx F.hb d_MO_works_315 (by decide) ?_
  exact k_MO_works_L407 l hlo x1 hx1 F hlk hr M q46 _ _ _ hS (lv_sub hl [1, 0] rfl) hT
set_option maxHeartbeats 4000000 in
set_option maxRecDepth 100000 in
theorem k_MO_works_L330 (l : Launch) {p : Program} {e : Env} {s : State} {m : MethodId} {below : List Frame} {meth : Method} {c : Code} {b n : Nat} {C : CT} (hlo : 231 ≤ n) (x1 : Int) (hx1 : InR x1) (F : Cx b p m c b_MO_works 8 s ([.ref (b + 191), vI x1] : List Value).toArray "WardFallsModel" C n 231) (hlk : meth.locks = false) (hr : meth.sig.returnType = some .boolean) {res : Mem × Int} (M : Mem) (v1_ : Int) (hv1_ : v1_ = 0 ∨ v1_ = 1) (H : Heap) (locs : List Loc) (ls : Array Slot) (hS : St b C n M s H locs) (hl : lv_has ls 8 [(0, .ref (b + 191))]) (hT : t_MO_works_L330 x1 M v1_ = some res) : W p l e (headSpec (wsM y_MO_works b_MO_works 8 (some .boolean)) (rmD 1)).room s m ([.ref (b + 191), vI x1] : List Value).toArray below meth c H locs 0 0 (MQ below (QZ b C n res.1 res.2) ([.ref (b + 191), vI x1] : List Value).toArray s 0 0 (frb b)) (F0 m 330 ls [vI v1_]) := by
  unfold t_MO_works_L330 at hT
  obtain ⟨q50, hq50⟩ : ∃ q, q = (t_MO_is M v1_) := ⟨_, rfl⟩
  replace hT := qlet_eq hT hq50
  refine r_backL F hS (r_runS (As := [vI v1_]) F hS (c_MO_is l F.2.2.1 M v1_ (inr_z hv1_) _ hq50.symm) gs_MO_384 hd_MO_is ⟨Nat.le_of_ble_eq_true rfl, Nat.le_of_ble_eq_true rfl⟩ rfl hl.1 (Nat.le_of_ble_eq_true rfl) ⟨Nat.zero_le _, Nat.zero_le _⟩ rfl d_MO_works_330) (fun H locs hS => ?_)
  refine lv_lstore (lv' := [(6, .long q50), (0, .ref (b + 191))]) F.hx F.hb d_MO_works_333 hl (Nat.le_of_ble_eq_true rfl) rfl (fun ls hl => ?_)
  refine lv_goto (tgt := 407) F.hx F.hb d_MO_works_335 (by decide) ?_
  exact k_MO_works_L407 l hlo x1 hx1 F hlk hr M q50 _ _ _ hS (lv_sub hl [1, 0] rfl) hT
set_option maxHeartbeats 4000000 in
set_option maxRecDepth 100000 in
theorem k_MO_works_L350 (l : Launch) {p : Program} {e : Env} {s : State} {m : MethodId} {below : List Frame} {meth : Method} {c : Code} {b n : Nat} {C : CT} (hlo : 231 ≤ n) (x1 : Int) (hx1 : InR x1) (F : Cx b p m c b_MO_works 8 s ([.ref (b + 191), vI x1] : List Value).toArray "WardFallsModel" C n 231) (hlk : meth.locks = false) (hr : meth.sig.returnType = some .boolean) {res : Mem × Int} (M : Mem) (v1_ : Int) (hv1_ : v1_ = 0 ∨ v1_ = 1) (H : Heap) (locs : List Loc) (ls : Array Slot) (hS : St b C n M s H locs) (hl : lv_has ls 8 [(0, .ref (b + 191))]) (hT : t_MO_works_L350 x1 M v1_ = some res) : W p l e (headSpec (wsM y_MO_works b_MO_works 8 (some .boolean)) (rmD 1)).room s m ([.ref (b + 191), vI x1] : List Value).toArray below meth c H locs 0 0 (MQ below (QZ b C n res.1 res.2) ([.ref (b + 191), vI x1] : List Value).toArray s 0 0 (frb b)) (F0 m 350 ls [vI v1_]) := by
  unfold t_MO_works_L350 at hT
  obtain ⟨q48, hq48⟩ : ∃ q, q = (t_MO_is M v1_) := ⟨_, rfl⟩
  replace hT := qlet_eq hT hq48
  refine r_backL F hS (r_runS (As := [vI v1_]) F hS (c_MO_is l F.2.2.1 M v1_ (inr_z hv1_) _ hq48.symm) gs_MO_384 hd_MO_is ⟨Nat.le_of_ble_eq_true rfl, Nat.le_of_ble_eq_true rfl⟩ rfl hl.1 (Nat.le_of_ble_eq_true rfl) ⟨Nat.zero_le _, Nat.zero_le _⟩ rfl d_MO_works_350) (fun H locs hS => ?_)
  refine lv_lstore (lv' := [(6, .long q48), (0, .ref (b + 191))]) F.hx F.hb d_MO_works_353 hl (Nat.le_of_ble_eq_true rfl) rfl (fun ls hl => ?_)
  refine lv_goto (tgt := 407) F.hx F.hb d_MO_works_355 (by decide) ?_
  exact k_MO_works_L407 l hlo x1 hx1 F hlk hr M q48 _ _ _ hS (lv_sub hl [1, 0] rfl) hT
set_option maxHeartbeats 4000000 in
set_option maxRecDepth 100000 in
theorem k_MO_works_L376 (l : Launch) {p : Program} {e : Env} {s : State} {m : MethodId} {below : List Frame} {meth : Method} {c : Code} {b n : Nat} {C : CT} (hlo : 231 ≤ n) (x1 : Int) (hx1 : InR x1) (F : Cx b p m c b_MO_works 8 s ([.ref (b + 191), vI x1] : List Value).toArray "WardFallsModel" C n 231) (hlk : meth.locks = false) (hr : meth.sig.returnType = some .boolean) {res : Mem × Int} (M : Mem) (v1_ : Int) (hv1_ : v1_ = 0 ∨ v1_ = 1) (H : Heap) (locs : List Loc) (ls : Array Slot) (hS : St b C n M s H locs) (hl : lv_has ls 8 [(0, .ref (b + 191))]) (hT : t_MO_works_L376 x1 M v1_ = some res) : W p l e (headSpec (wsM y_MO_works b_MO_works 8 (some .boolean)) (rmD 1)).room s m ([.ref (b + 191), vI x1] : List Value).toArray below meth c H locs 0 0 (MQ below (QZ b C n res.1 res.2) ([.ref (b + 191), vI x1] : List Value).toArray s 0 0 (frb b)) (F0 m 376 ls [vI v1_]) := by
  unfold t_MO_works_L376 at hT
  obtain ⟨q52, hq52⟩ : ∃ q, q = (t_MO_is M v1_) := ⟨_, rfl⟩
  replace hT := qlet_eq hT hq52
  refine r_backL F hS (r_runS (As := [vI v1_]) F hS (c_MO_is l F.2.2.1 M v1_ (inr_z hv1_) _ hq52.symm) gs_MO_384 hd_MO_is ⟨Nat.le_of_ble_eq_true rfl, Nat.le_of_ble_eq_true rfl⟩ rfl hl.1 (Nat.le_of_ble_eq_true rfl) ⟨Nat.zero_le _, Nat.zero_le _⟩ rfl d_MO_works_376) (fun H locs hS => ?_)
  refine lv_lstore (lv' := [(6, .long q52), (0, .ref (b + 191))]) F.hx F.hb d_MO_works_379 hl (Nat.le_of_ble_eq_true rfl) rfl (fun ls hl => ?_)
  refine lv_goto (tgt := 407) F.hx F.hb d_MO_works_381 (by decide) ?_
  exact k_MO_works_L407 l hlo x1 hx1 F hlk hr M q52 _ _ _ hS (lv_sub hl [1, 0] rfl) hT
set_option maxHeartbeats 4000000 in
set_option maxRecDepth 100000 in
theorem k_MO_works_L375 (l : Launch) {p : Program} {e : Env} {s : State} {m : MethodId} {below : List Frame} {meth : Method} {c : Code} {b n : Nat} {C : CT} (hlo : 231 ≤ n) (x1 : Int) (hx1 : InR x1) (F : Cx b p m c b_MO_works 8 s ([.ref (b + 191), vI x1] : List Value).toArray "WardFallsModel" C n 231) (hlk : meth.locks = false) (hr : meth.sig.returnType = some .boolean) {res : Mem × Int} (M : Mem)  (H : Heap) (locs : List Loc) (ls : Array Slot) (hS : St b C n M s H locs) (hl : lv_has ls 8 [(0, .ref (b + 191))]) (hT : t_MO_works_L375 x1 M = some res) : W p l e (headSpec (wsM y_MO_works b_MO_works 8 (some .boolean)) (rmD 1)).room s m ([.ref (b + 191), vI x1] : List Value).toArray below meth c H locs 0 0 (MQ below (QZ b C n res.1 res.2) ([.ref (b + 191), vI x1] : List Value).toArray s 0 0 (frb b)) (F0 m 375 ls []) := by
  unfold t_MO_works_L375 at hT
  refine r_iconst F.hx F.hb d_MO_works_375 ?_
  exact k_MO_works_L376 l hlo x1 hx1 F hlk hr M 0 (Or.inl rfl) _ _ _ hS (lv_sub hl [0] rfl) hT
set_option maxHeartbeats 4000000 in
set_option maxRecDepth 100000 in
theorem k_MO_works_L402 (l : Launch) {p : Program} {e : Env} {s : State} {m : MethodId} {below : List Frame} {meth : Method} {c : Code} {b n : Nat} {C : CT} (hlo : 231 ≤ n) (x1 : Int) (hx1 : InR x1) (F : Cx b p m c b_MO_works 8 s ([.ref (b + 191), vI x1] : List Value).toArray "WardFallsModel" C n 231) (hlk : meth.locks = false) (hr : meth.sig.returnType = some .boolean) {res : Mem × Int} (M : Mem) (v1_ : Int) (hv1_ : v1_ = 0 ∨ v1_ = 1) (H : Heap) (locs : List Loc) (ls : Array Slot) (hS : St b C n M s H locs) (hl : lv_has ls 8 [(0, .ref (b + 191))]) (hT : t_MO_works_L402 x1 M v1_ = some res) : W p l e (headSpec (wsM y_MO_works b_MO_works 8 (some .boolean)) (rmD 1)).room s m ([.ref (b + 191), vI x1] : List Value).toArray below meth c H locs 0 0 (MQ below (QZ b C n res.1 res.2) ([.ref (b + 191), vI x1] : List Value).toArray s 0 0 (frb b)) (F0 m 402 ls [vI v1_]) := by
  unfold t_MO_works_L402 at hT
  obtain ⟨q54, hq54⟩ : ∃ q, q = (t_MO_is M v1_) := ⟨_, rfl⟩
  replace hT := qlet_eq hT hq54
  refine r_backL F hS (r_runS (As := [vI v1_]) F hS (c_MO_is l F.2.2.1 M v1_ (inr_z hv1_) _ hq54.symm) gs_MO_384 hd_MO_is ⟨Nat.le_of_ble_eq_true rfl, Nat.le_of_ble_eq_true rfl⟩ rfl hl.1 (Nat.le_of_ble_eq_true rfl) ⟨Nat.zero_le _, Nat.zero_le _⟩ rfl d_MO_works_402) (fun H locs hS => ?_)
  refine lv_lstore (lv' := [(6, .long q54), (0, .ref (b + 191))]) F.hx F.hb d_MO_works_405 hl (Nat.le_of_ble_eq_true rfl) rfl (fun ls hl => ?_)
  exact k_MO_works_L407 l hlo x1 hx1 F hlk hr M q54 _ _ _ hS (lv_sub hl [1, 0] rfl) hT
set_option maxHeartbeats 4000000 in
set_option maxRecDepth 100000 in
theorem k_MO_works_L397 (l : Launch) {p : Program} {e : Env} {s : State} {m : MethodId} {below : List Frame} {meth : Method} {c : Code} {b n : Nat} {C : CT} (hlo : 231 ≤ n) (x1 : Int) (hx1 : InR x1) (F : Cx b p m c b_MO_works 8 s ([.ref (b + 191), vI x1] : List Value).toArray "WardFallsModel" C n 231) (hlk : meth.locks = false) (hr : meth.sig.returnType = some .boolean) {res : Mem × Int} (M : Mem)  (H : Heap) (locs : List Loc) (ls : Array Slot) (hS : St b C n M s H locs) (hl : lv_has ls 8 [(0, .ref (b + 191))]) (hT : t_MO_works_L397 x1 M = some res) : W p l e (headSpec (wsM y_MO_works b_MO_works 8 (some .boolean)) (rmD 1)).room s m ([.ref (b + 191), vI x1] : List Value).toArray below meth c H locs 0 0 (MQ below (QZ b C n res.1 res.2) ([.ref (b + 191), vI x1] : List Value).toArray s 0 0 (frb b)) (F0 m 397 ls []) := by
  unfold t_MO_works_L397 at hT
  refine r_iconst F.hx F.hb d_MO_works_397 ?_
  refine lv_goto (tgt := 402) F.hx F.hb d_MO_works_398 (by decide) ?_
  exact k_MO_works_L402 l hlo x1 hx1 F hlk hr M 1 (Or.inr rfl) _ _ _ hS (lv_sub hl [0] rfl) hT
set_option maxHeartbeats 4000000 in
set_option maxRecDepth 100000 in
theorem c_MO_works (l : Launch) {b n : Nat} {C : CT} (hlo : 231 ≤ n) (M : Mem) (x1 : Int) (hx1 : InR x1) (res : Mem × Int) (hT : t_MO_works M x1 = some res) : CM l b C n 1 y_MO_works b_MO_works 8 (some .boolean) [.ref (b + 191), vI x1] M (QZ b C n res.1 res.2) := by
  refine CM.of (lo := 231) (ow := "WardFallsModel") (by decide) rfl (Nat.le_of_ble_eq_true rfl) hlo (fun p e s m below meth c F hlk hr hS ls hl => ?_)
  have hl : lv_has ls 8 [(0, .ref (b + 191)), (1, vI x1)] := hl
  unfold t_MO_works at hT
  refine lv_aload_n F.hx F.hb d_MO_works_0 rfl (lv_at hl 0 rfl) ?_
  refine r_get (v := .ref (b + 221)) (N := 68) (T := T1) (j := 53) F hS (show 191 < 231 by decide) (show shK 191 = 5 from rfl) (show shN 191 = 68 from rfl) rfl (Nat.le_of_ble_eq_true rfl) ing1 mw_1442 (fv_sg rfl rfl rfl) d_MO_works_1 ?_
  refine lv_aload_n F.hx F.hb d_MO_works_4 rfl (lv_at hl 0 rfl) ?_
  refine r_get (v := vI (M.1 191 54)) (N := 68) (T := T1) (j := 54) F hS (show 191 < 231 by decide) (show shK 191 = 5 from rfl) (show shN 191 = 68 from rfl) rfl (Nat.le_of_ble_eq_true rfl) ing1 mw_1443 (fv_int rfl) d_MO_works_5 ?_
  have i1 := hS.rng 191 54
  refine r_iconst F.hx F.hb d_MO_works_8 ?_
  refine r_isub F.hx F.hb d_MO_works_9 ?_
  obtain ⟨⟨g2a, g2b⟩, hT⟩ := q_guard hT
  refine r_lald F hS (show 221 < 231 by decide) (show shK 221 = 2 from rfl) (show shN 221 = 64 from rfl) (inr_w32 _) g2a g2b d_MO_works_10 ?_
  refine lv_lstore_n (lv' := [(2, .long (M.2 221 (w32 ((M.1 191 54) - 1)))), (0, .ref (b + 191)), (1, vI x1)]) F.hx F.hb d_MO_works_11 rfl hl (Nat.le_of_ble_eq_true rfl) rfl (fun ls hl => ?_)
  refine lv_iload_n F.hx F.hb d_MO_works_12 rfl (lv_at hl 2 rfl) ?_
  refine r_sipush F.hx F.hb d_MO_works_13 rfl ?_
  refine r_icmp_ne (tgt := 46) F.hx F.hb hx1 (inr_c rfl) d_MO_works_16 (by decide) (fun c3 => ?_) (fun c3 => ?_)
  · replace hT := (if_neg c3).symm.trans hT
    refine lv_aload_n F.hx F.hb d_MO_works_46 rfl (lv_at hl 1 rfl) ?_
    refine r_get (v := .ref (b + 221)) (N := 68) (T := T1) (j := 53) F hS (show 191 < 231 by decide) (show shK 191 = 5 from rfl) (show shN 191 = 68 from rfl) rfl (Nat.le_of_ble_eq_true rfl) ing1 mw_1442 (fv_sg rfl rfl rfl) d_MO_works_47 ?_
    refine lv_aload_n F.hx F.hb d_MO_works_50 rfl (lv_at hl 1 rfl) ?_
    refine r_get (v := vI (M.1 191 54)) (N := 68) (T := T1) (j := 54) F hS (show 191 < 231 by decide) (show shK 191 = 5 from rfl) (show shN 191 = 68 from rfl) rfl (Nat.le_of_ble_eq_true rfl) ing1 mw_1443 (fv_int rfl) d_MO_works_51 ?_
    have i4 := hS.rng 191 54
    refine r_iconst F.hx F.hb d_MO_works_54 ?_
    refine r_isub F.hx F.hb d_MO_works_55 ?_
    obtain ⟨⟨g5a, g5b⟩, hT⟩ := q_guard hT
    refine r_lald F hS (show 221 < 231 by decide) (show shK 221 = 2 from rfl) (show shN 221 = 64 from rfl) (inr_w32 _) g5a g5b d_MO_works_56 ?_
    refine lv_lstore (lv' := [(4, .long (M.2 221 (w32 ((M.1 191 54) - 2)))), (2, .long (M.2 221 (w32 ((M.1 191 54) - 1)))), (0, .ref (b + 191)), (1, vI x1)]) F.hx F.hb d_MO_works_57 hl (Nat.le_of_ble_eq_true rfl) rfl (fun ls hl => ?_)
    refine lv_aload_n F.hx F.hb d_MO_works_59 rfl (lv_at hl 2 rfl) ?_
    refine lv_dup F.hx F.hb d_MO_works_60 rfl ?_
    refine r_get (v := vI (M.1 191 54)) (N := 68) (T := T1) (j := 54) F hS (show 191 < 231 by decide) (show shK 191 = 5 from rfl) (show shN 191 = 68 from rfl) rfl (Nat.le_of_ble_eq_true rfl) ing1 mw_1443 (fv_int rfl) d_MO_works_61 ?_
    have i6 := hS.rng 191 54
    refine r_iconst F.hx F.hb d_MO_works_64 ?_
    refine r_isub F.hx F.hb d_MO_works_65 ?_
    refine r_putI (N := 68) (T := T1) (j := 54) F hS (show 191 < 231 by decide) (show shK 191 = 5 from rfl) (show shN 191 = 68 from rfl) rfl (Nat.le_of_ble_eq_true rfl) ing1 tyok1 nm1 rfl rfl rfl rfl rfl rfl mw_1443 (inr_w32 _) d_MO_works_66 (fun H locs hS => ?_)
    obtain ⟨M7, eM7⟩ : ∃ q, q = (setI M 191 54 (w32 ((M.1 191 54) - 1))) := ⟨_, rfl⟩
    replace hS : St b C n M7 s H locs := by rw [eM7]; exact hS
    replace hT := qlet_eq hT eM7
    refine lv_iload_n F.hx F.hb d_MO_works_69 rfl (lv_at hl 3 rfl) ?_
    rcases q_ite hT with ⟨c8, hT⟩ | ⟨c8, hT⟩
    · refine r_lookup (off := 116) (tgt := 186) F.hx F.hb hx1 d_MO_works_70 (by decide) (by rw [c8] <;> rfl) (by decide) ?_
      refine lv_lload F.hx F.hb d_MO_works_186 (lv_at hl 0 rfl) ?_
      refine lv_lconst (v := 0) F.hx F.hb d_MO_works_188 rfl ?_
      refine W.lcmp F.hx F.hb d_MO_works_189 ?_
      refine r_lif_eq (tgt := 212) F.hx F.hb  d_MO_works_190 (by decide) (fun c9 => ?_) (fun c9 => ?_)
      · replace hT := (if_pos c9).symm.trans hT
        exact k_MO_works_L212 l hlo x1 hx1 F hlk hr M7 (M.2 221 (w32 ((M.1 191 54) - 1))) (M.2 221 (w32 ((M.1 191 54) - 2))) _ _ _ hS (lv_sub hl [2, 1, 0] rfl) hT
      · replace hT := (if_neg c9).symm.trans hT
        refine lv_lload_n F.hx F.hb d_MO_works_193 rfl (lv_at hl 1 rfl) ?_
        refine r_mabsl F hl.1 mw_1838 mw_916 mw_14 mw_917 ⟨Nat.le_of_ble_eq_true rfl, Nat.le_of_ble_eq_true rfl⟩ (Nat.le_of_ble_eq_true rfl) ⟨Nat.zero_le _, Nat.zero_le _⟩ d_MO_works_194 ?_
        refine lv_ldc2 (v := 1000000000000) F.hx F.hb F.hown (F.hts mw_1839) d_MO_works_197 ?_
        refine lv_lload F.hx F.hb d_MO_works_200 (lv_at hl 0 rfl) ?_
        refine r_mabsl F hl.1 mw_1838 mw_916 mw_14 mw_917 ⟨Nat.le_of_ble_eq_true rfl, Nat.le_of_ble_eq_true rfl⟩ (Nat.le_of_ble_eq_true rfl) ⟨Nat.zero_le _, Nat.zero_le _⟩ d_MO_works_202 ?_
        obtain ⟨c10, hT⟩ := q_guardn hT
        refine lv_ldiv F.hx F.hb d_MO_works_205 c10 ?_
        refine W.lcmp F.hx F.hb d_MO_works_206 ?_
        refine r_lif_le (tgt := 212) F.hx F.hb  d_MO_works_207 (by decide) (fun c11 => ?_) (fun c11 => ?_)
        · replace hT := (if_pos c11).symm.trans hT
          exact k_MO_works_L212 l hlo x1 hx1 F hlk hr M7 (M.2 221 (w32 ((M.1 191 54) - 1))) (M.2 221 (w32 ((M.1 191 54) - 2))) _ _ _ hS (lv_sub hl [2, 1, 0] rfl) hT
        · replace hT := (if_neg c11).symm.trans hT
          refine r_iconst F.hx F.hb d_MO_works_210 ?_
          cases hT
          exact r_zret F hlk hr hS (Or.inl rfl) d_MO_works_211
    ·
      rcases q_ite hT with ⟨c12, hT⟩ | ⟨c12, hT⟩
      · refine r_lookup (off := 98) (tgt := 168) F.hx F.hb hx1 d_MO_works_70 (by decide) (by rw [c12] <;> rfl) (by decide) ?_
        refine lv_lload F.hx F.hb d_MO_works_168 (lv_at hl 0 rfl) ?_
        refine lv_lload_n F.hx F.hb d_MO_works_170 rfl (lv_at hl 1 rfl) ?_
        refine lv_ladd F.hx F.hb d_MO_works_171 ?_
        refine lv_lstore (lv' := [(6, .long ((M.2 221 (w32 ((M.1 191 54) - 2))) + (M.2 221 (w32 ((M.1 191 54) - 1))))), (4, .long (M.2 221 (w32 ((M.1 191 54) - 2)))), (2, .long (M.2 221 (w32 ((M.1 191 54) - 1)))), (0, .ref (b + 191)), (1, vI x1)]) F.hx F.hb d_MO_works_172 hl (Nat.le_of_ble_eq_true rfl) rfl (fun ls hl => ?_)
        refine lv_goto (tgt := 407) F.hx F.hb d_MO_works_174 (by decide) ?_
        exact k_MO_works_L407 l hlo x1 hx1 F hlk hr M7 ((M.2 221 (w32 ((M.1 191 54) - 2))) + (M.2 221 (w32 ((M.1 191 54) - 1)))) _ _ _ hS (lv_sub hl [3, 0] rfl) hT
      ·
        rcases q_ite hT with ⟨c13, hT⟩ | ⟨c13, hT⟩
        · refine r_lookup (off := 107) (tgt := 177) F.hx F.hb hx1 d_MO_works_70 (by decide) (by rw [c13] <;> rfl) (by decide) ?_
          refine lv_lload F.hx F.hb d_MO_works_177 (lv_at hl 0 rfl) ?_
          refine lv_lload_n F.hx F.hb d_MO_works_179 rfl (lv_at hl 1 rfl) ?_
          refine lv_lsub F.hx F.hb d_MO_works_180 ?_
          refine lv_lstore (lv' := [(6, .long ((M.2 221 (w32 ((M.1 191 54) - 2))) - (M.2 221 (w32 ((M.1 191 54) - 1))))), (4, .long (M.2 221 (w32 ((M.1 191 54) - 2)))), (2, .long (M.2 221 (w32 ((M.1 191 54) - 1)))), (0, .ref (b + 191)), (1, vI x1)]) F.hx F.hb d_MO_works_181 hl (Nat.le_of_ble_eq_true rfl) rfl (fun ls hl => ?_)
          refine lv_goto (tgt := 407) F.hx F.hb d_MO_works_183 (by decide) ?_
          exact k_MO_works_L407 l hlo x1 hx1 F hlk hr M7 ((M.2 221 (w32 ((M.1 191 54) - 2))) - (M.2 221 (w32 ((M.1 191 54) - 1)))) _ _ _ hS (lv_sub hl [3, 0] rfl) hT
        ·
          rcases q_ite hT with ⟨c14, hT⟩ | ⟨c14, hT⟩
          · refine r_lookup (off := 151) (tgt := 221) F.hx F.hb hx1 d_MO_works_70 (by decide) (by rw [c14] <;> rfl) (by decide) ?_
            refine lv_lload_n F.hx F.hb d_MO_works_221 rfl (lv_at hl 1 rfl) ?_
            refine lv_lconst (v := 0) F.hx F.hb d_MO_works_222 rfl ?_
            refine W.lcmp F.hx F.hb d_MO_works_223 ?_
            refine r_lif_ne (tgt := 229) F.hx F.hb  d_MO_works_224 (by decide) (fun c15 => ?_) (fun c15 => ?_)
            · replace hT := (if_neg c15).symm.trans hT
              refine lv_lload F.hx F.hb d_MO_works_229 (lv_at hl 0 rfl) ?_
              refine lv_lload_n F.hx F.hb d_MO_works_231 rfl (lv_at hl 1 rfl) ?_
              refine lv_ldiv F.hx F.hb d_MO_works_232 c15 ?_
              refine lv_lstore (lv' := [(6, .long ((M.2 221 (w32 ((M.1 191 54) - 2))) / (M.2 221 (w32 ((M.1 191 54) - 1))))), (4, .long (M.2 221 (w32 ((M.1 191 54) - 2)))), (2, .long (M.2 221 (w32 ((M.1 191 54) - 1)))), (0, .ref (b + 191)), (1, vI x1)]) F.hx F.hb d_MO_works_233 hl (Nat.le_of_ble_eq_true rfl) rfl (fun ls hl => ?_)
              refine lv_goto (tgt := 407) F.hx F.hb d_MO_works_235 (by decide) ?_
              exact k_MO_works_L407 l hlo x1 hx1 F hlk hr M7 ((M.2 221 (w32 ((M.1 191 54) - 2))) / (M.2 221 (w32 ((M.1 191 54) - 1)))) _ _ _ hS (lv_sub hl [3, 0] rfl) hT
            · replace hT := (if_pos c15).symm.trans hT
              refine r_iconst F.hx F.hb d_MO_works_227 ?_
              cases hT
              exact r_zret F hlk hr hS (Or.inl rfl) d_MO_works_228
          ·
            rcases q_ite hT with ⟨c16, hT⟩ | ⟨c16, hT⟩
            · refine r_lookup (off := 168) (tgt := 238) F.hx F.hb hx1 d_MO_works_70 (by decide) (by rw [c16] <;> rfl) (by decide) ?_
              refine lv_lload F.hx F.hb d_MO_works_238 (lv_at hl 0 rfl) ?_
              refine lv_lload_n F.hx F.hb d_MO_works_240 rfl (lv_at hl 1 rfl) ?_
              refine W.lcmp F.hx F.hb d_MO_works_241 ?_
              refine r_lif_ge (tgt := 249) F.hx F.hb  d_MO_works_242 (by decide) (fun c17 => ?_) (fun c17 => ?_)
              · replace hT := (if_pos c17).symm.trans hT
                refine r_iconst F.hx F.hb d_MO_works_249 ?_
                exact k_MO_works_L250 l hlo x1 hx1 F hlk hr M7 0 (Or.inl rfl) _ _ _ hS (lv_sub hl [2] rfl) hT
              · replace hT := (if_neg c17).symm.trans hT
                refine r_iconst F.hx F.hb d_MO_works_245 ?_
                refine lv_goto (tgt := 250) F.hx F.hb d_MO_works_246 (by decide) ?_
                exact k_MO_works_L250 l hlo x1 hx1 F hlk hr M7 1 (Or.inr rfl) _ _ _ hS (lv_sub hl [2] rfl) hT
            ·
              rcases q_ite hT with ⟨c18, hT⟩ | ⟨c18, hT⟩
              · refine r_lookup (off := 208) (tgt := 278) F.hx F.hb hx1 d_MO_works_70 (by decide) (by rw [c18] <;> rfl) (by decide) ?_
                refine lv_lload F.hx F.hb d_MO_works_278 (lv_at hl 0 rfl) ?_
                refine lv_lload_n F.hx F.hb d_MO_works_280 rfl (lv_at hl 1 rfl) ?_
                refine W.lcmp F.hx F.hb d_MO_works_281 ?_
                refine r_lif_ne (tgt := 289) F.hx F.hb  d_MO_works_282 (by decide) (fun c19 => ?_) (fun c19 => ?_)
                · replace hT := (if_neg c19).symm.trans hT
                  refine r_iconst F.hx F.hb d_MO_works_289 ?_
                  exact k_MO_works_L290 l hlo x1 hx1 F hlk hr M7 0 (Or.inl rfl) _ _ _ hS (lv_sub hl [2] rfl) hT
                · replace hT := (if_pos c19).symm.trans hT
                  refine r_iconst F.hx F.hb d_MO_works_285 ?_
                  refine lv_goto (tgt := 290) F.hx F.hb d_MO_works_286 (by decide) ?_
                  exact k_MO_works_L290 l hlo x1 hx1 F hlk hr M7 1 (Or.inr rfl) _ _ _ hS (lv_sub hl [2] rfl) hT
              ·
                rcases q_ite hT with ⟨c20, hT⟩ | ⟨c20, hT⟩
                · refine r_lookup (off := 188) (tgt := 258) F.hx F.hb hx1 d_MO_works_70 (by decide) (by rw [c20] <;> rfl) (by decide) ?_
                  refine lv_lload F.hx F.hb d_MO_works_258 (lv_at hl 0 rfl) ?_
                  refine lv_lload_n F.hx F.hb d_MO_works_260 rfl (lv_at hl 1 rfl) ?_
                  refine W.lcmp F.hx F.hb d_MO_works_261 ?_
                  refine r_lif_le (tgt := 269) F.hx F.hb  d_MO_works_262 (by decide) (fun c21 => ?_) (fun c21 => ?_)
                  · replace hT := (if_pos c21).symm.trans hT
                    refine r_iconst F.hx F.hb d_MO_works_269 ?_
                    exact k_MO_works_L270 l hlo x1 hx1 F hlk hr M7 0 (Or.inl rfl) _ _ _ hS (lv_sub hl [2] rfl) hT
                  · replace hT := (if_neg c21).symm.trans hT
                    refine r_iconst F.hx F.hb d_MO_works_265 ?_
                    refine lv_goto (tgt := 270) F.hx F.hb d_MO_works_266 (by decide) ?_
                    exact k_MO_works_L270 l hlo x1 hx1 F hlk hr M7 1 (Or.inr rfl) _ _ _ hS (lv_sub hl [2] rfl) hT
                ·
                  rcases q_ite hT with ⟨c22, hT⟩ | ⟨c22, hT⟩
                  · refine r_lookup (off := 228) (tgt := 298) F.hx F.hb hx1 d_MO_works_70 (by decide) (by rw [c22] <;> rfl) (by decide) ?_
                    refine lv_lload F.hx F.hb d_MO_works_298 (lv_at hl 0 rfl) ?_
                    refine lv_lload_n F.hx F.hb d_MO_works_300 rfl (lv_at hl 1 rfl) ?_
                    refine W.lcmp F.hx F.hb d_MO_works_301 ?_
                    refine r_lif_gt (tgt := 309) F.hx F.hb  d_MO_works_302 (by decide) (fun c23 => ?_) (fun c23 => ?_)
                    · replace hT := (if_pos c23).symm.trans hT
                      refine r_iconst F.hx F.hb d_MO_works_309 ?_
                      exact k_MO_works_L310 l hlo x1 hx1 F hlk hr M7 0 (Or.inl rfl) _ _ _ hS (lv_sub hl [2] rfl) hT
                    · replace hT := (if_neg c23).symm.trans hT
                      refine r_iconst F.hx F.hb d_MO_works_305 ?_
                      refine lv_goto (tgt := 310) F.hx F.hb d_MO_works_306 (by decide) ?_
                      exact k_MO_works_L310 l hlo x1 hx1 F hlk hr M7 1 (Or.inr rfl) _ _ _ hS (lv_sub hl [2] rfl) hT
                  ·
                    rcases q_ite hT with ⟨c24, hT⟩ | ⟨c24, hT⟩
                    · refine r_lookup (off := 268) (tgt := 338) F.hx F.hb hx1 d_MO_works_70 (by decide) (by rw [c24] <;> rfl) (by decide) ?_
                      refine lv_lload F.hx F.hb d_MO_works_338 (lv_at hl 0 rfl) ?_
                      refine lv_lload_n F.hx F.hb d_MO_works_340 rfl (lv_at hl 1 rfl) ?_
                      refine W.lcmp F.hx F.hb d_MO_works_341 ?_
                      refine r_lif_eq (tgt := 349) F.hx F.hb  d_MO_works_342 (by decide) (fun c25 => ?_) (fun c25 => ?_)
                      · replace hT := (if_pos c25).symm.trans hT
                        refine r_iconst F.hx F.hb d_MO_works_349 ?_
                        exact k_MO_works_L350 l hlo x1 hx1 F hlk hr M7 0 (Or.inl rfl) _ _ _ hS (lv_sub hl [2] rfl) hT
                      · replace hT := (if_neg c25).symm.trans hT
                        refine r_iconst F.hx F.hb d_MO_works_345 ?_
                        refine lv_goto (tgt := 350) F.hx F.hb d_MO_works_346 (by decide) ?_
                        exact k_MO_works_L350 l hlo x1 hx1 F hlk hr M7 1 (Or.inr rfl) _ _ _ hS (lv_sub hl [2] rfl) hT
                    ·
                      rcases q_ite hT with ⟨c26, hT⟩ | ⟨c26, hT⟩
                      · refine r_lookup (off := 248) (tgt := 318) F.hx F.hb hx1 d_MO_works_70 (by decide) (by rw [c26] <;> rfl) (by decide) ?_
                        refine lv_lload F.hx F.hb d_MO_works_318 (lv_at hl 0 rfl) ?_
                        refine lv_lload_n F.hx F.hb d_MO_works_320 rfl (lv_at hl 1 rfl) ?_
                        refine W.lcmp F.hx F.hb d_MO_works_321 ?_
                        refine r_lif_lt (tgt := 329) F.hx F.hb  d_MO_works_322 (by decide) (fun c27 => ?_) (fun c27 => ?_)
                        · replace hT := (if_pos c27).symm.trans hT
                          refine r_iconst F.hx F.hb d_MO_works_329 ?_
                          exact k_MO_works_L330 l hlo x1 hx1 F hlk hr M7 0 (Or.inl rfl) _ _ _ hS (lv_sub hl [2] rfl) hT
                        · replace hT := (if_neg c27).symm.trans hT
                          refine r_iconst F.hx F.hb d_MO_works_325 ?_
                          refine lv_goto (tgt := 330) F.hx F.hb d_MO_works_326 (by decide) ?_
                          exact k_MO_works_L330 l hlo x1 hx1 F hlk hr M7 1 (Or.inr rfl) _ _ _ hS (lv_sub hl [2] rfl) hT
                      ·
                        rcases q_ite hT with ⟨c28, hT⟩ | ⟨c28, hT⟩
                        · refine r_lookup (off := 288) (tgt := 358) F.hx F.hb hx1 d_MO_works_70 (by decide) (by rw [c28] <;> rfl) (by decide) ?_
                          refine lv_lload F.hx F.hb d_MO_works_358 (lv_at hl 0 rfl) ?_
                          refine lv_lconst (v := 0) F.hx F.hb d_MO_works_360 rfl ?_
                          refine W.lcmp F.hx F.hb d_MO_works_361 ?_
                          refine r_lif_eq (tgt := 375) F.hx F.hb  d_MO_works_362 (by decide) (fun c29 => ?_) (fun c29 => ?_)
                          · replace hT := (if_pos c29).symm.trans hT
                            exact k_MO_works_L375 l hlo x1 hx1 F hlk hr M7 _ _ _ hS (lv_sub hl [2] rfl) hT
                          · replace hT := (if_neg c29).symm.trans hT
                            refine lv_lload_n F.hx F.hb d_MO_works_365 rfl (lv_at hl 1 rfl) ?_
                            refine lv_lconst (v := 0) F.hx F.hb d_MO_works_366 rfl ?_
                            refine W.lcmp F.hx F.hb d_MO_works_367 ?_
                            refine r_lif_eq (tgt := 375) F.hx F.hb  d_MO_works_368 (by decide) (fun c30 => ?_) (fun c30 => ?_)
                            · replace hT := (if_pos c30).symm.trans hT
                              exact k_MO_works_L375 l hlo x1 hx1 F hlk hr M7 _ _ _ hS (lv_sub hl [2] rfl) hT
                            · replace hT := (if_neg c30).symm.trans hT
                              refine r_iconst F.hx F.hb d_MO_works_371 ?_
                              refine lv_goto (tgt := 376) F.hx F.hb d_MO_works_372 (by decide) ?_
                              exact k_MO_works_L376 l hlo x1 hx1 F hlk hr M7 1 (Or.inr rfl) _ _ _ hS (lv_sub hl [2] rfl) hT
                        ·
                          refine r_lookup (off := 314) (tgt := 384) F.hx F.hb hx1 d_MO_works_70 (by decide) (by simp [Op.lookupswitch.offset, List.find?, q_nes c8, q_nes c12, q_nes c13, q_nes c14, q_nes c16, q_nes c18, q_nes c20, q_nes c22, q_nes c24, q_nes c26, q_nes c28]) (by decide) ?_
                          refine lv_lload F.hx F.hb d_MO_works_384 (lv_at hl 0 rfl) ?_
                          refine lv_lconst (v := 0) F.hx F.hb d_MO_works_386 rfl ?_
                          refine W.lcmp F.hx F.hb d_MO_works_387 ?_
                          refine r_lif_ne (tgt := 397) F.hx F.hb  d_MO_works_388 (by decide) (fun c31 => ?_) (fun c31 => ?_)
                          · replace hT := (if_neg c31).symm.trans hT
                            exact k_MO_works_L397 l hlo x1 hx1 F hlk hr M7 _ _ _ hS (lv_sub hl [2] rfl) hT
                          · replace hT := (if_pos c31).symm.trans hT
                            refine lv_lload_n F.hx F.hb d_MO_works_391 rfl (lv_at hl 1 rfl) ?_
                            refine lv_lconst (v := 0) F.hx F.hb d_MO_works_392 rfl ?_
                            refine W.lcmp F.hx F.hb d_MO_works_393 ?_
                            refine r_lif_eq (tgt := 401) F.hx F.hb  d_MO_works_394 (by decide) (fun c32 => ?_) (fun c32 => ?_)
                            · replace hT := (if_pos c32).symm.trans hT
                              refine r_iconst F.hx F.hb d_MO_works_401 ?_
                              exact k_MO_works_L402 l hlo x1 hx1 F hlk hr M7 0 (Or.inl rfl) _ _ _ hS (lv_sub hl [2] rfl) hT
                            · replace hT := (if_neg c32).symm.trans hT
                              exact k_MO_works_L397 l hlo x1 hx1 F hlk hr M7 _ _ _ hS (lv_sub hl [2] rfl) hT
  · replace hT := (if_pos c3).symm.trans hT
    refine lv_aload_n F.hx F.hb d_MO_works_19 rfl (lv_at hl 1 rfl) ?_
    refine r_get (v := .ref (b + 221)) (N := 68) (T := T1) (j := 53) F hS (show 191 < 231 by decide) (show shK 191 = 5 from rfl) (show shN 191 = 68 from rfl) rfl (Nat.le_of_ble_eq_true rfl) ing1 mw_1442 (fv_sg rfl rfl rfl) d_MO_works_20 ?_
    refine lv_aload_n F.hx F.hb d_MO_works_23 rfl (lv_at hl 1 rfl) ?_
    refine r_get (v := vI (M.1 191 54)) (N := 68) (T := T1) (j := 54) F hS (show 191 < 231 by decide) (show shK 191 = 5 from rfl) (show shN 191 = 68 from rfl) rfl (Nat.le_of_ble_eq_true rfl) ing1 mw_1443 (fv_int rfl) d_MO_works_24 ?_
    have i33 := hS.rng 191 54
    refine r_iconst F.hx F.hb d_MO_works_27 ?_
    refine r_isub F.hx F.hb d_MO_works_28 ?_
    refine lv_lload_n F.hx F.hb d_MO_works_29 rfl (lv_at hl 0 rfl) ?_
    refine lv_lconst (v := 0) F.hx F.hb d_MO_works_30 rfl ?_
    refine W.lcmp F.hx F.hb d_MO_works_31 ?_
    refine r_lif_ne (tgt := 39) F.hx F.hb  d_MO_works_32 (by decide) (fun c34 => ?_) (fun c34 => ?_)
    · replace hT := (if_neg c34).symm.trans hT
      refine r_iconst F.hx F.hb d_MO_works_39 ?_
      exact k_MO_works_L40 l hlo x1 hx1 F hlk hr M (w32 ((M.1 191 54) - 1)) (inr_w32 _) 0 (Or.inl rfl) _ _ _ hS (lv_sub hl [] rfl) hT
    · replace hT := (if_pos c34).symm.trans hT
      refine r_iconst F.hx F.hb d_MO_works_35 ?_
      refine lv_goto (tgt := 40) F.hx F.hb d_MO_works_36 (by decide) ?_
      exact k_MO_works_L40 l hlo x1 hx1 F hlk hr M (w32 ((M.1 191 54) - 1)) (inr_w32 _) 1 (Or.inr rfl) _ _ _ hS (lv_sub hl [] rfl) hT
theorem d_MO_goes_0 : decode b_MO_goes 0 = .ok (.aload_n 0, 1) := dc_42 (by decide +kernel)
theorem d_MO_goes_1 : decode b_MO_goes 1 = .ok (.iconst 0, 1) := dc_3 (by decide +kernel)
theorem d_MO_goes_2 : decode b_MO_goes 2 = .ok (.putfield 381, 3) := dc_181 (by decide +kernel)
theorem d_MO_goes_5 : decode b_MO_goes 5 = .ok (.aload_n 0, 1) := dc_42 (by decide +kernel)
theorem d_MO_goes_6 : decode b_MO_goes 6 = .ok (.getfield 44, 3) := dc_180 (by decide +kernel)
theorem d_MO_goes_9 : decode b_MO_goes 9 = .ok (.iload_n 1, 1) := dc_27 (by decide +kernel)
theorem d_MO_goes_10 : decode b_MO_goes 10 = .ok (.iaload, 1) := dc_46 (by decide +kernel)
theorem d_MO_goes_11 : decode b_MO_goes 11 = .ok (.istore_n 2, 1) := dc_61 (by decide +kernel)
theorem d_MO_goes_12 : decode b_MO_goes 12 = .ok (.iload_n 2, 1) := dc_28 (by decide +kernel)
theorem d_MO_goes_13 : decode b_MO_goes 13 = .ok (.aload_n 0, 1) := dc_42 (by decide +kernel)
theorem d_MO_goes_14 : decode b_MO_goes 14 = .ok (.getfield 47, 3) := dc_180 (by decide +kernel)
theorem d_MO_goes_17 : decode b_MO_goes 17 = .ok (.iload_n 1, 1) := dc_27 (by decide +kernel)
theorem d_MO_goes_18 : decode b_MO_goes 18 = .ok (.iaload, 1) := dc_46 (by decide +kernel)
theorem d_MO_goes_19 : decode b_MO_goes 19 = .ok (.if_icmp .ge 83, 3) := dc_162 (by decide +kernel)
theorem d_MO_goes_22 : decode b_MO_goes 22 = .ok (.aload_n 0, 1) := dc_42 (by decide +kernel)
theorem d_MO_goes_23 : decode b_MO_goes 23 = .ok (.getfield 50, 3) := dc_180 (by decide +kernel)
theorem d_MO_goes_26 : decode b_MO_goes 26 = .ok (.iload_n 2, 1) := dc_28 (by decide +kernel)
theorem d_MO_goes_27 : decode b_MO_goes 27 = .ok (.iaload, 1) := dc_46 (by decide +kernel)
theorem d_MO_goes_28 : decode b_MO_goes 28 = .ok (.iconst 2, 1) := dc_5 (by decide +kernel)
theorem d_MO_goes_29 : decode b_MO_goes 29 = .ok (.if_icmp .ne 18, 3) := dc_160 (by decide +kernel)
theorem d_MO_goes_32 : decode b_MO_goes 32 = .ok (.aload_n 0, 1) := dc_42 (by decide +kernel)
theorem d_MO_goes_33 : decode b_MO_goes 33 = .ok (.aload_n 0, 1) := dc_42 (by decide +kernel)
theorem d_MO_goes_34 : decode b_MO_goes 34 = .ok (.getfield 53, 3) := dc_180 (by decide +kernel)
theorem d_MO_goes_37 : decode b_MO_goes 37 = .ok (.iload_n 2, 1) := dc_28 (by decide +kernel)
theorem d_MO_goes_38 : decode b_MO_goes 38 = .ok (.iaload, 1) := dc_46 (by decide +kernel)
theorem d_MO_goes_39 : decode b_MO_goes 39 = .ok (.invokevirtual 398, 3) := dc_182 (by decide +kernel)
theorem d_MO_goes_42 : decode b_MO_goes 42 = .ok (.ifCond .ne 54, 3) := dc_154 (by decide +kernel)
theorem d_MO_goes_45 : decode b_MO_goes 45 = .ok (.iconst 0, 1) := dc_3 (by decide +kernel)
theorem d_MO_goes_46 : decode b_MO_goes 46 = .ok (.ireturn, 1) := dc_172 (by decide +kernel)
theorem d_MO_goes_47 : decode b_MO_goes 47 = .ok (.aload_n 0, 1) := dc_42 (by decide +kernel)
theorem d_MO_goes_48 : decode b_MO_goes 48 = .ok (.getfield 109, 3) := dc_180 (by decide +kernel)
theorem d_MO_goes_51 : decode b_MO_goes 51 = .ok (.aload_n 0, 1) := dc_42 (by decide +kernel)
theorem d_MO_goes_52 : decode b_MO_goes 52 = .ok (.getfield 381, 3) := dc_180 (by decide +kernel)
theorem d_MO_goes_55 : decode b_MO_goes 55 = .ok (.aload_n 0, 1) := dc_42 (by decide +kernel)
theorem d_MO_goes_56 : decode b_MO_goes 56 = .ok (.getfield 50, 3) := dc_180 (by decide +kernel)
theorem d_MO_goes_59 : decode b_MO_goes 59 = .ok (.iload_n 2, 1) := dc_28 (by decide +kernel)
theorem d_MO_goes_60 : decode b_MO_goes 60 = .ok (.iaload, 1) := dc_46 (by decide +kernel)
theorem d_MO_goes_61 : decode b_MO_goes 61 = .ok (.ifCond .ne 13, 3) := dc_154 (by decide +kernel)
theorem d_MO_goes_64 : decode b_MO_goes 64 = .ok (.aload_n 0, 1) := dc_42 (by decide +kernel)
theorem d_MO_goes_65 : decode b_MO_goes 65 = .ok (.getfield 53, 3) := dc_180 (by decide +kernel)
theorem d_MO_goes_68 : decode b_MO_goes 68 = .ok (.iload_n 2, 1) := dc_28 (by decide +kernel)
theorem d_MO_goes_69 : decode b_MO_goes 69 = .ok (.iaload, 1) := dc_46 (by decide +kernel)
theorem d_MO_goes_70 : decode b_MO_goes 70 = .ok (.i2l, 1) := dc_133 (by decide +kernel)
theorem d_MO_goes_71 : decode b_MO_goes 71 = .ok (.goto 14, 3) := dc_167 (by decide +kernel)
theorem d_MO_goes_74 : decode b_MO_goes 74 = .ok (.aload_n 0, 1) := dc_42 (by decide +kernel)
theorem d_MO_goes_75 : decode b_MO_goes 75 = .ok (.getfield 106, 3) := dc_180 (by decide +kernel)
theorem d_MO_goes_78 : decode b_MO_goes 78 = .ok (.aload_n 0, 1) := dc_42 (by decide +kernel)
theorem d_MO_goes_79 : decode b_MO_goes 79 = .ok (.getfield 53, 3) := dc_180 (by decide +kernel)
theorem d_MO_goes_82 : decode b_MO_goes 82 = .ok (.iload_n 2, 1) := dc_28 (by decide +kernel)
theorem d_MO_goes_83 : decode b_MO_goes 83 = .ok (.iaload, 1) := dc_46 (by decide +kernel)
theorem d_MO_goes_84 : decode b_MO_goes 84 = .ok (.laload, 1) := dc_47 (by decide +kernel)
theorem d_MO_goes_85 : decode b_MO_goes 85 = .ok (.lastore, 1) := dc_80 (by decide +kernel)
theorem d_MO_goes_86 : decode b_MO_goes 86 = .ok (.aload_n 0, 1) := dc_42 (by decide +kernel)
theorem d_MO_goes_87 : decode b_MO_goes 87 = .ok (.dup, 1) := dc_89 (by decide +kernel)
theorem d_MO_goes_88 : decode b_MO_goes 88 = .ok (.getfield 381, 3) := dc_180 (by decide +kernel)
theorem d_MO_goes_91 : decode b_MO_goes 91 = .ok (.iconst 1, 1) := dc_4 (by decide +kernel)
theorem d_MO_goes_92 : decode b_MO_goes 92 = .ok (.iadd, 1) := dc_96 (by decide +kernel)
theorem d_MO_goes_93 : decode b_MO_goes 93 = .ok (.putfield 381, 3) := dc_181 (by decide +kernel)
theorem d_MO_goes_96 : decode b_MO_goes 96 = .ok (.iinc 2 1, 3) := dc_132 (by decide +kernel)
theorem d_MO_goes_99 : decode b_MO_goes 99 = .ok (.goto (-87), 3) := dc_167 (by decide +kernel)
theorem d_MO_goes_102 : decode b_MO_goes 102 = .ok (.iconst 1, 1) := dc_4 (by decide +kernel)
theorem d_MO_goes_103 : decode b_MO_goes 103 = .ok (.ireturn, 1) := dc_172 (by decide +kernel)
def t_MO_goes_L96 (x1 : Int) (bk12 : Mem → Int → Option (Mem × Int)) (M : Mem) (v2_ : Int) : Option (Mem × Int) := (bk12 M (w32 (v2_ + 1)))
def t_MO_goes_L85 (x1 : Int) (bk12 : Mem → Int → Option (Mem × Int)) (M : Mem) (v2_ : Int) (v4_ : Int) (v5_ : Int64) : Option (Mem × Int) := (qguard (0 ≤ v4_ ∧ v4_ < 64) (qlet (setL M 221 v4_ v5_) fun M25 => (qlet (setI M25 191 54 (w32 ((M25.1 191 54) + 1))) fun M27 => (t_MO_goes_L96 x1 bk12 M27 v2_))))
def t_MO_goes_L12 (x1 : Int)  : Nat → Mem → Int → Option (Mem × Int)
  | 0, _, _ => none
  | fu + 1, M, v2_ => (qguard (0 ≤ x1 ∧ x1 < 4) (if (M.1 204 x1) ≤ v2_ then (some (M, 1)) else (qguard (0 ≤ v2_ ∧ v2_ < 128) (if (M.1 205 v2_) = 2 then (qguard (0 ≤ v2_ ∧ v2_ < 128) (obind (t_MO_works M (M.1 206 v2_)) fun q21 => (if (q21.2) = 0 then (some ((q21.1), 0)) else (t_MO_goes_L96 x1 (fun a0_ a1_ => t_MO_goes_L12 x1 fu a0_ a1_) (q21.1) v2_)))) else (qguard (0 ≤ v2_ ∧ v2_ < 128) (if (M.1 205 v2_) = 0 then (qguard (0 ≤ v2_ ∧ v2_ < 128) (t_MO_goes_L85 x1 (fun a0_ a1_ => t_MO_goes_L12 x1 fu a0_ a1_) M v2_ (M.1 191 54) (q_i2l (M.1 206 v2_)))) else (qguard (0 ≤ v2_ ∧ v2_ < 128) (qguard (0 ≤ (M.1 206 v2_) ∧ (M.1 206 v2_) < 7) (t_MO_goes_L85 x1 (fun a0_ a1_ => t_MO_goes_L12 x1 fu a0_ a1_) M v2_ (M.1 191 54) (M.2 220 (M.1 206 v2_)))))))))))
def t_MO_goes (M : Mem) (x1 : Int) : Option (Mem × Int) := (qlet (setI M 191 54 0) fun M1 => (qguard (0 ≤ x1 ∧ x1 < 4) (t_MO_goes_L12 x1 FU M1 (M1.1 203 x1))))
set_option maxHeartbeats 4000000 in
set_option maxRecDepth 100000 in
theorem k_MO_goes_L96 (l : Launch) {p : Program} {e : Env} {s : State} {m : MethodId} {below : List Frame} {meth : Method} {c : Code} {b n : Nat} {C : CT} (hlo : 231 ≤ n) (x1 : Int) (hx1 : InR x1) (F : Cx b p m c b_MO_goes 3 s ([.ref (b + 191), vI x1] : List Value).toArray "WardFallsModel" C n 231) (hlk : meth.locks = false) (hr : meth.sig.returnType = some .boolean) {res : Mem × Int} (bk12 : Mem → Int → Option (Mem × Int)) (hbk12 : ∀ (M : Mem) (v2_ : Int) (hv2_ : InR v2_) (H : Heap) (locs : List Loc) (ls : Array Slot), St b C n M s H locs → lv_has ls 3 [(0, .ref (b + 191)), (1, vI x1), (2, vI v2_)] → bk12 M v2_ = some res → W p l e (headSpec (wsM y_MO_goes b_MO_goes 3 (some .boolean)) (rmD 2)).room s m ([.ref (b + 191), vI x1] : List Value).toArray below meth c H locs 0 0 (MQ below (QZ b C n res.1 res.2) ([.ref (b + 191), vI x1] : List Value).toArray s 0 0 (frb b)) (F0 m 12 ls [])) (M : Mem) (v2_ : Int) (hv2_ : InR v2_) (H : Heap) (locs : List Loc) (ls : Array Slot) (hS : St b C n M s H locs) (hl : lv_has ls 3 [(0, .ref (b + 191)), (1, vI x1), (2, vI v2_)]) (hT : t_MO_goes_L96 x1 bk12 M v2_ = some res) : W p l e (headSpec (wsM y_MO_goes b_MO_goes 3 (some .boolean)) (rmD 2)).room s m ([.ref (b + 191), vI x1] : List Value).toArray below meth c H locs 0 0 (MQ below (QZ b C n res.1 res.2) ([.ref (b + 191), vI x1] : List Value).toArray s 0 0 (frb b)) (F0 m 96 ls []) := by
  unfold t_MO_goes_L96 at hT
  refine lv_iinc (v := Int32.ofInt (w32 (v2_ + 1))) (lv' := [(2, vI (w32 (v2_ + 1))), (0, .ref (b + 191)), (1, vI x1)]) F.hx F.hb d_MO_goes_96 hl (k := 2) rfl (q_of_add _ _) (Nat.le_of_ble_eq_true rfl) rfl (fun ls hl => ?_)
  refine lv_goto (tgt := 12) F.hx F.hb d_MO_goes_99 (by decide) ?_
  exact hbk12 M (w32 (v2_ + 1)) (inr_w32 _) _ _ _ hS (lv_sub hl [1, 2, 0] rfl) hT
set_option maxHeartbeats 4000000 in
set_option maxRecDepth 100000 in
theorem k_MO_goes_L85 (l : Launch) {p : Program} {e : Env} {s : State} {m : MethodId} {below : List Frame} {meth : Method} {c : Code} {b n : Nat} {C : CT} (hlo : 231 ≤ n) (x1 : Int) (hx1 : InR x1) (F : Cx b p m c b_MO_goes 3 s ([.ref (b + 191), vI x1] : List Value).toArray "WardFallsModel" C n 231) (hlk : meth.locks = false) (hr : meth.sig.returnType = some .boolean) {res : Mem × Int} (bk12 : Mem → Int → Option (Mem × Int)) (hbk12 : ∀ (M : Mem) (v2_ : Int) (hv2_ : InR v2_) (H : Heap) (locs : List Loc) (ls : Array Slot), St b C n M s H locs → lv_has ls 3 [(0, .ref (b + 191)), (1, vI x1), (2, vI v2_)] → bk12 M v2_ = some res → W p l e (headSpec (wsM y_MO_goes b_MO_goes 3 (some .boolean)) (rmD 2)).room s m ([.ref (b + 191), vI x1] : List Value).toArray below meth c H locs 0 0 (MQ below (QZ b C n res.1 res.2) ([.ref (b + 191), vI x1] : List Value).toArray s 0 0 (frb b)) (F0 m 12 ls [])) (M : Mem) (v2_ : Int) (hv2_ : InR v2_) (v4_ : Int) (hv4_ : InR v4_) (v5_ : Int64) (H : Heap) (locs : List Loc) (ls : Array Slot) (hS : St b C n M s H locs) (hl : lv_has ls 3 [(0, .ref (b + 191)), (1, vI x1), (2, vI v2_)]) (hT : t_MO_goes_L85 x1 bk12 M v2_ v4_ v5_ = some res) : W p l e (headSpec (wsM y_MO_goes b_MO_goes 3 (some .boolean)) (rmD 2)).room s m ([.ref (b + 191), vI x1] : List Value).toArray below meth c H locs 0 0 (MQ below (QZ b C n res.1 res.2) ([.ref (b + 191), vI x1] : List Value).toArray s 0 0 (frb b)) (F0 m 85 ls [.long v5_, vI v4_, .ref (b + 221)]) := by
  unfold t_MO_goes_L85 at hT
  obtain ⟨⟨g24a, g24b⟩, hT⟩ := q_guard hT
  refine r_last F hS (show 221 < 231 by decide) (show shK 221 = 2 from rfl) (show shN 221 = 64 from rfl) hv4_ g24a g24b d_MO_goes_85 (fun H locs hS => ?_)
  obtain ⟨M25, eM25⟩ : ∃ q, q = (setL M 221 v4_ v5_) := ⟨_, rfl⟩
  replace hS : St b C n M25 s H locs := by rw [eM25]; exact hS
  replace hT := qlet_eq hT eM25
  refine lv_aload_n F.hx F.hb d_MO_goes_86 rfl (lv_at hl 0 rfl) ?_
  refine lv_dup F.hx F.hb d_MO_goes_87 rfl ?_
  refine r_get (v := vI (M25.1 191 54)) (N := 68) (T := T1) (j := 54) F hS (show 191 < 231 by decide) (show shK 191 = 5 from rfl) (show shN 191 = 68 from rfl) rfl (Nat.le_of_ble_eq_true rfl) ing1 mw_1443 (fv_int rfl) d_MO_goes_88 ?_
  have i26 := hS.rng 191 54
  refine r_iconst F.hx F.hb d_MO_goes_91 ?_
  refine r_iadd F.hx F.hb d_MO_goes_92 ?_
  refine r_putI (N := 68) (T := T1) (j := 54) F hS (show 191 < 231 by decide) (show shK 191 = 5 from rfl) (show shN 191 = 68 from rfl) rfl (Nat.le_of_ble_eq_true rfl) ing1 tyok1 nm1 rfl rfl rfl rfl rfl rfl mw_1443 (inr_w32 _) d_MO_goes_93 (fun H locs hS => ?_)
  obtain ⟨M27, eM27⟩ : ∃ q, q = (setI M25 191 54 (w32 ((M25.1 191 54) + 1))) := ⟨_, rfl⟩
  replace hS : St b C n M27 s H locs := by rw [eM27]; exact hS
  replace hT := qlet_eq hT eM27
  exact k_MO_goes_L96 l hlo x1 hx1 F hlk hr bk12 hbk12 M27 v2_ hv2_ _ _ _ hS (lv_sub hl [0, 1, 2] rfl) hT
set_option maxHeartbeats 4000000 in
set_option maxRecDepth 100000 in
theorem k_MO_goes_L12 (l : Launch) {p : Program} {e : Env} {s : State} {m : MethodId} {below : List Frame} {meth : Method} {c : Code} {b n : Nat} {C : CT} (hlo : 231 ≤ n) (x1 : Int) (hx1 : InR x1) (F : Cx b p m c b_MO_goes 3 s ([.ref (b + 191), vI x1] : List Value).toArray "WardFallsModel" C n 231) (hlk : meth.locks = false) (hr : meth.sig.returnType = some .boolean) {res : Mem × Int} : ∀ (fu : Nat) (M : Mem) (v2_ : Int) (hv2_ : InR v2_) (H : Heap) (locs : List Loc) (ls : Array Slot), St b C n M s H locs → lv_has ls 3 [(0, .ref (b + 191)), (1, vI x1), (2, vI v2_)] → t_MO_goes_L12 x1 fu M v2_ = some res → W p l e (headSpec (wsM y_MO_goes b_MO_goes 3 (some .boolean)) (rmD 2)).room s m ([.ref (b + 191), vI x1] : List Value).toArray below meth c H locs 0 0 (MQ below (QZ b C n res.1 res.2) ([.ref (b + 191), vI x1] : List Value).toArray s 0 0 (frb b)) (F0 m 12 ls []) := by
  intro fu
  induction fu with
  | zero => intro M v2_ hv2_ H locs ls hS hl hT; exact absurd hT (by simp [t_MO_goes_L12])
  | succ fu ih =>
    intro M v2_ hv2_ H locs ls hS hl hT
    rw [t_MO_goes_L12] at hT
    refine lv_iload_n F.hx F.hb d_MO_goes_12 rfl (lv_at hl 2 rfl) ?_
    refine lv_aload_n F.hx F.hb d_MO_goes_13 rfl (lv_at hl 0 rfl) ?_
    refine r_get (v := .ref (b + 204)) (N := 68) (T := T1) (j := 14) F hS (show 191 < 231 by decide) (show shK 191 = 5 from rfl) (show shN 191 = 68 from rfl) rfl (Nat.le_of_ble_eq_true rfl) ing1 mw_1403 (fv_sg rfl rfl rfl) d_MO_goes_14 ?_
    refine lv_iload_n F.hx F.hb d_MO_goes_17 rfl (lv_at hl 1 rfl) ?_
    obtain ⟨⟨g4a, g4b⟩, hT⟩ := q_guard hT
    refine r_iald F hS (show 204 < 231 by decide) (show shK 204 = 0 from rfl) (show shN 204 = 4 from rfl) hx1 g4a g4b d_MO_goes_18 ?_
    have i5 := hS.rng 204 x1
    refine r_icmp_ge (tgt := 102) F.hx F.hb hv2_ i5 d_MO_goes_19 (by decide) (fun c6 => ?_) (fun c6 => ?_)
    · replace hT := (if_pos c6).symm.trans hT
      refine r_iconst F.hx F.hb d_MO_goes_102 ?_
      cases hT
      exact r_zret F hlk hr hS (Or.inr rfl) d_MO_goes_103
    · replace hT := (if_neg c6).symm.trans hT
      refine lv_aload_n F.hx F.hb d_MO_goes_22 rfl (lv_at hl 0 rfl) ?_
      refine r_get (v := .ref (b + 205)) (N := 68) (T := T1) (j := 15) F hS (show 191 < 231 by decide) (show shK 191 = 5 from rfl) (show shN 191 = 68 from rfl) rfl (Nat.le_of_ble_eq_true rfl) ing1 mw_1404 (fv_sg rfl rfl rfl) d_MO_goes_23 ?_
      refine lv_iload_n F.hx F.hb d_MO_goes_26 rfl (lv_at hl 2 rfl) ?_
      obtain ⟨⟨g7a, g7b⟩, hT⟩ := q_guard hT
      refine r_iald F hS (show 205 < 231 by decide) (show shK 205 = 0 from rfl) (show shN 205 = 128 from rfl) hv2_ g7a g7b d_MO_goes_27 ?_
      have i8 := hS.rng 205 v2_
      refine r_iconst F.hx F.hb d_MO_goes_28 ?_
      refine r_icmp_ne (tgt := 47) F.hx F.hb i8 (inr_c rfl) d_MO_goes_29 (by decide) (fun c9 => ?_) (fun c9 => ?_)
      · replace hT := (if_neg c9).symm.trans hT
        refine lv_aload_n F.hx F.hb d_MO_goes_47 rfl (lv_at hl 0 rfl) ?_
        refine r_get (v := .ref (b + 221)) (N := 68) (T := T1) (j := 53) F hS (show 191 < 231 by decide) (show shK 191 = 5 from rfl) (show shN 191 = 68 from rfl) rfl (Nat.le_of_ble_eq_true rfl) ing1 mw_1442 (fv_sg rfl rfl rfl) d_MO_goes_48 ?_
        refine lv_aload_n F.hx F.hb d_MO_goes_51 rfl (lv_at hl 0 rfl) ?_
        refine r_get (v := vI (M.1 191 54)) (N := 68) (T := T1) (j := 54) F hS (show 191 < 231 by decide) (show shK 191 = 5 from rfl) (show shN 191 = 68 from rfl) rfl (Nat.le_of_ble_eq_true rfl) ing1 mw_1443 (fv_int rfl) d_MO_goes_52 ?_
        have i10 := hS.rng 191 54
        refine lv_aload_n F.hx F.hb d_MO_goes_55 rfl (lv_at hl 0 rfl) ?_
        refine r_get (v := .ref (b + 205)) (N := 68) (T := T1) (j := 15) F hS (show 191 < 231 by decide) (show shK 191 = 5 from rfl) (show shN 191 = 68 from rfl) rfl (Nat.le_of_ble_eq_true rfl) ing1 mw_1404 (fv_sg rfl rfl rfl) d_MO_goes_56 ?_
        refine lv_iload_n F.hx F.hb d_MO_goes_59 rfl (lv_at hl 2 rfl) ?_
        obtain ⟨⟨g11a, g11b⟩, hT⟩ := q_guard hT
        refine r_iald F hS (show 205 < 231 by decide) (show shK 205 = 0 from rfl) (show shN 205 = 128 from rfl) hv2_ g11a g11b d_MO_goes_60 ?_
        have i12 := hS.rng 205 v2_
        refine r_if_ne (tgt := 74) F.hx F.hb i12 d_MO_goes_61 (by decide) (fun c13 => ?_) (fun c13 => ?_)
        · replace hT := (if_neg c13).symm.trans hT
          refine lv_aload_n F.hx F.hb d_MO_goes_74 rfl (lv_at hl 0 rfl) ?_
          refine r_get (v := .ref (b + 220)) (N := 68) (T := T1) (j := 52) F hS (show 191 < 231 by decide) (show shK 191 = 5 from rfl) (show shN 191 = 68 from rfl) rfl (Nat.le_of_ble_eq_true rfl) ing1 mw_1441 (fv_sg rfl rfl rfl) d_MO_goes_75 ?_
          refine lv_aload_n F.hx F.hb d_MO_goes_78 rfl (lv_at hl 0 rfl) ?_
          refine r_get (v := .ref (b + 206)) (N := 68) (T := T1) (j := 16) F hS (show 191 < 231 by decide) (show shK 191 = 5 from rfl) (show shN 191 = 68 from rfl) rfl (Nat.le_of_ble_eq_true rfl) ing1 mw_1405 (fv_sg rfl rfl rfl) d_MO_goes_79 ?_
          refine lv_iload_n F.hx F.hb d_MO_goes_82 rfl (lv_at hl 2 rfl) ?_
          obtain ⟨⟨g14a, g14b⟩, hT⟩ := q_guard hT
          refine r_iald F hS (show 206 < 231 by decide) (show shK 206 = 0 from rfl) (show shN 206 = 128 from rfl) hv2_ g14a g14b d_MO_goes_83 ?_
          have i15 := hS.rng 206 v2_
          obtain ⟨⟨g16a, g16b⟩, hT⟩ := q_guard hT
          refine r_lald F hS (show 220 < 231 by decide) (show shK 220 = 2 from rfl) (show shN 220 = 7 from rfl) i15 g16a g16b d_MO_goes_84 ?_
          exact k_MO_goes_L85 l hlo x1 hx1 F hlk hr (fun a0_ a1_ => t_MO_goes_L12 x1 fu a0_ a1_) ih M v2_ hv2_ (M.1 191 54) i10 (M.2 220 (M.1 206 v2_)) _ _ _ hS (lv_sub hl [0, 1, 2] rfl) hT
        · replace hT := (if_pos c13).symm.trans hT
          refine lv_aload_n F.hx F.hb d_MO_goes_64 rfl (lv_at hl 0 rfl) ?_
          refine r_get (v := .ref (b + 206)) (N := 68) (T := T1) (j := 16) F hS (show 191 < 231 by decide) (show shK 191 = 5 from rfl) (show shN 191 = 68 from rfl) rfl (Nat.le_of_ble_eq_true rfl) ing1 mw_1405 (fv_sg rfl rfl rfl) d_MO_goes_65 ?_
          refine lv_iload_n F.hx F.hb d_MO_goes_68 rfl (lv_at hl 2 rfl) ?_
          obtain ⟨⟨g17a, g17b⟩, hT⟩ := q_guard hT
          refine r_iald F hS (show 206 < 231 by decide) (show shK 206 = 0 from rfl) (show shN 206 = 128 from rfl) hv2_ g17a g17b d_MO_goes_69 ?_
          have i18 := hS.rng 206 v2_
          refine r_i2l F.hx F.hb d_MO_goes_70 ?_
          refine lv_goto (tgt := 85) F.hx F.hb d_MO_goes_71 (by decide) ?_
          exact k_MO_goes_L85 l hlo x1 hx1 F hlk hr (fun a0_ a1_ => t_MO_goes_L12 x1 fu a0_ a1_) ih M v2_ hv2_ (M.1 191 54) i10 (q_i2l (M.1 206 v2_)) _ _ _ hS (lv_sub hl [0, 1, 2] rfl) hT
      · replace hT := (if_pos c9).symm.trans hT
        refine lv_aload_n F.hx F.hb d_MO_goes_32 rfl (lv_at hl 0 rfl) ?_
        refine lv_aload_n F.hx F.hb d_MO_goes_33 rfl (lv_at hl 0 rfl) ?_
        refine r_get (v := .ref (b + 206)) (N := 68) (T := T1) (j := 16) F hS (show 191 < 231 by decide) (show shK 191 = 5 from rfl) (show shN 191 = 68 from rfl) rfl (Nat.le_of_ble_eq_true rfl) ing1 mw_1405 (fv_sg rfl rfl rfl) d_MO_goes_34 ?_
        refine lv_iload_n F.hx F.hb d_MO_goes_37 rfl (lv_at hl 2 rfl) ?_
        obtain ⟨⟨g19a, g19b⟩, hT⟩ := q_guard hT
        refine r_iald F hS (show 206 < 231 by decide) (show shK 206 = 0 from rfl) (show shN 206 = 128 from rfl) hv2_ g19a g19b d_MO_goes_38 ?_
        have i20 := hS.rng 206 v2_
        obtain ⟨q21, hq21, hT⟩ := q_obind hT
        refine r_backZ F hS (r_runV (k := 191) (N := 68) (T := T1) (As := [vI (M.1 206 v2_)]) F hS (show 191 < 231 by decide) (show shK 191 = 5 from rfl) rfl (c_MO_works l F.2.2.1 M (M.1 206 v2_) i20 _ hq21) gs_MO_398 hd_MO_works ⟨Nat.le_of_ble_eq_true rfl, Nat.le_of_ble_eq_true rfl⟩ rfl hl.1 (Nat.le_of_ble_eq_true rfl) ⟨Nat.zero_le _, Nat.zero_le _⟩ rfl d_MO_goes_39) (fun H locs hS h22 => ?_)
        refine r_if_ne (tgt := 96) F.hx F.hb (inr_z h22) d_MO_goes_42 (by decide) (fun c23 => ?_) (fun c23 => ?_)
        · replace hT := (if_neg c23).symm.trans hT
          exact k_MO_goes_L96 l hlo x1 hx1 F hlk hr (fun a0_ a1_ => t_MO_goes_L12 x1 fu a0_ a1_) ih (q21.1) v2_ hv2_ _ _ _ hS (lv_sub hl [0, 1, 2] rfl) hT
        · replace hT := (if_pos c23).symm.trans hT
          refine r_iconst F.hx F.hb d_MO_goes_45 ?_
          cases hT
          exact r_zret F hlk hr hS (Or.inl rfl) d_MO_goes_46
set_option maxHeartbeats 4000000 in
set_option maxRecDepth 100000 in
theorem c_MO_goes (l : Launch) {b n : Nat} {C : CT} (hlo : 231 ≤ n) (M : Mem) (x1 : Int) (hx1 : InR x1) (res : Mem × Int) (hT : t_MO_goes M x1 = some res) : CM l b C n 2 y_MO_goes b_MO_goes 3 (some .boolean) [.ref (b + 191), vI x1] M (QZ b C n res.1 res.2) := by
  refine CM.of (lo := 231) (ow := "WardFallsModel") (by decide) rfl (Nat.le_of_ble_eq_true rfl) hlo (fun p e s m below meth c F hlk hr hS ls hl => ?_)
  have hl : lv_has ls 3 [(0, .ref (b + 191)), (1, vI x1)] := hl
  unfold t_MO_goes at hT
  refine lv_aload_n F.hx F.hb d_MO_goes_0 rfl (lv_at hl 0 rfl) ?_
  refine r_iconst F.hx F.hb d_MO_goes_1 ?_
  refine r_putI (N := 68) (T := T1) (j := 54) F hS (show 191 < 231 by decide) (show shK 191 = 5 from rfl) (show shN 191 = 68 from rfl) rfl (Nat.le_of_ble_eq_true rfl) ing1 tyok1 nm1 rfl rfl rfl rfl rfl rfl mw_1443 (inr_c rfl) d_MO_goes_2 (fun H locs hS => ?_)
  obtain ⟨M1, eM1⟩ : ∃ q, q = (setI M 191 54 0) := ⟨_, rfl⟩
  replace hS : St b C n M1 s H locs := by rw [eM1]; exact hS
  replace hT := qlet_eq hT eM1
  refine lv_aload_n F.hx F.hb d_MO_goes_5 rfl (lv_at hl 0 rfl) ?_
  refine r_get (v := .ref (b + 203)) (N := 68) (T := T1) (j := 13) F hS (show 191 < 231 by decide) (show shK 191 = 5 from rfl) (show shN 191 = 68 from rfl) rfl (Nat.le_of_ble_eq_true rfl) ing1 mw_1402 (fv_sg rfl rfl rfl) d_MO_goes_6 ?_
  refine lv_iload_n F.hx F.hb d_MO_goes_9 rfl (lv_at hl 1 rfl) ?_
  obtain ⟨⟨g2a, g2b⟩, hT⟩ := q_guard hT
  refine r_iald F hS (show 203 < 231 by decide) (show shK 203 = 0 from rfl) (show shN 203 = 4 from rfl) hx1 g2a g2b d_MO_goes_10 ?_
  have i3 := hS.rng 203 x1
  refine lv_istore_n (lv' := [(2, vI (M1.1 203 x1)), (0, .ref (b + 191)), (1, vI x1)]) F.hx F.hb d_MO_goes_11 rfl hl (Nat.le_of_ble_eq_true rfl) rfl (fun ls hl => ?_)
  exact k_MO_goes_L12 l hlo x1 hx1 F hlk hr FU M1 (M1.1 203 x1) i3 _ _ _ hS (lv_sub hl [1, 2, 0] rfl) hT
theorem d_MO_within_0 : decode b_MO_within 0 = .ok (.aload_n 0, 1) := dc_42 (by decide +kernel)
theorem d_MO_within_1 : decode b_MO_within 1 = .ok (.iload_n 1, 1) := dc_27 (by decide +kernel)
theorem d_MO_within_2 : decode b_MO_within 2 = .ok (.invokevirtual 401, 3) := dc_182 (by decide +kernel)
theorem d_MO_within_5 : decode b_MO_within 5 = .ok (.ifCond .eq 11, 3) := dc_153 (by decide +kernel)
theorem d_MO_within_8 : decode b_MO_within 8 = .ok (.aload_n 0, 1) := dc_42 (by decide +kernel)
theorem d_MO_within_9 : decode b_MO_within 9 = .ok (.iload_n 1, 1) := dc_27 (by decide +kernel)
theorem d_MO_within_10 : decode b_MO_within 10 = .ok (.invokevirtual 404, 3) := dc_182 (by decide +kernel)
theorem d_MO_within_13 : decode b_MO_within 13 = .ok (.ifCond .ne 5, 3) := dc_154 (by decide +kernel)
theorem d_MO_within_16 : decode b_MO_within 16 = .ok (.iload_n 3, 1) := dc_29 (by decide +kernel)
theorem d_MO_within_17 : decode b_MO_within 17 = .ok (.ireturn, 1) := dc_172 (by decide +kernel)
theorem d_MO_within_18 : decode b_MO_within 18 = .ok (.lconst 0, 1) := dc_9 (by decide +kernel)
theorem d_MO_within_19 : decode b_MO_within 19 = .ok (.iload_n 2, 1) := dc_28 (by decide +kernel)
theorem d_MO_within_20 : decode b_MO_within 20 = .ok (.i2l, 1) := dc_133 (by decide +kernel)
theorem d_MO_within_21 : decode b_MO_within 21 = .ok (.aload_n 0, 1) := dc_42 (by decide +kernel)
theorem d_MO_within_22 : decode b_MO_within 22 = .ok (.getfield 109, 3) := dc_180 (by decide +kernel)
theorem d_MO_within_25 : decode b_MO_within 25 = .ok (.iconst 0, 1) := dc_3 (by decide +kernel)
theorem d_MO_within_26 : decode b_MO_within 26 = .ok (.laload, 1) := dc_47 (by decide +kernel)
theorem d_MO_within_27 : decode b_MO_within 27 = .ok (.invokestatic 407, 3) := dc_184 (by decide +kernel)
theorem d_MO_within_30 : decode b_MO_within 30 = .ok (.invokestatic 411, 3) := dc_184 (by decide +kernel)
theorem d_MO_within_33 : decode b_MO_within 33 = .ok (.l2i, 1) := dc_136 (by decide +kernel)
theorem d_MO_within_34 : decode b_MO_within 34 = .ok (.ireturn, 1) := dc_172 (by decide +kernel)
def t_MO_within (M : Mem) (x1 : Int) (x2 : Int) (x3 : Int) : Option (Mem × Int) := (obind (t_MO_hasLaw M x1) fun q1 => (if q1 = 0 then (some (M, x3)) else (obind (t_MO_goes M x1) fun q4 => (if (q4.2) = 0 then (some ((q4.1), x3)) else (some ((q4.1), (q_l2i (q_maxl 0 (q_minl (q_i2l x2) ((q4.1).2 221 0))))))))))
set_option maxHeartbeats 4000000 in
set_option maxRecDepth 100000 in
theorem c_MO_within (l : Launch) {b n : Nat} {C : CT} (hlo : 231 ≤ n) (M : Mem) (x1 : Int) (x2 : Int) (x3 : Int) (hx1 : InR x1) (hx2 : InR x2) (hx3 : InR x3) (res : Mem × Int) (hT : t_MO_within M x1 x2 x3 = some res) : CM l b C n 3 y_MO_within b_MO_within 4 (some .int) [.ref (b + 191), vI x1, vI x2, vI x3] M (QI b C n res.1 res.2) := by
  refine CM.of (lo := 231) (ow := "WardFallsModel") (by decide) rfl (Nat.le_of_ble_eq_true rfl) hlo (fun p e s m below meth c F hlk hr hS ls hl => ?_)
  have hl : lv_has ls 4 [(0, .ref (b + 191)), (1, vI x1), (2, vI x2), (3, vI x3)] := hl
  unfold t_MO_within at hT
  refine lv_aload_n F.hx F.hb d_MO_within_0 rfl (lv_at hl 0 rfl) ?_
  refine lv_iload_n F.hx F.hb d_MO_within_1 rfl (lv_at hl 1 rfl) ?_
  obtain ⟨q1, hq1, hT⟩ := q_obind hT
  refine r_backZ F hS (r_runV (k := 191) (N := 68) (T := T1) (As := [vI x1]) F hS (show 191 < 231 by decide) (show shK 191 = 5 from rfl) rfl (c_MO_hasLaw l F.2.2.1 M x1 hx1 _ hq1) gs_MO_401 hd_MO_hasLaw ⟨Nat.le_of_ble_eq_true rfl, Nat.le_of_ble_eq_true rfl⟩ rfl hl.1 (Nat.le_of_ble_eq_true rfl) ⟨Nat.zero_le _, Nat.zero_le _⟩ rfl d_MO_within_2) (fun H locs hS h2 => ?_)
  refine r_if_eq (tgt := 16) F.hx F.hb (inr_z h2) d_MO_within_5 (by decide) (fun c3 => ?_) (fun c3 => ?_)
  · replace hT := (if_pos c3).symm.trans hT
    refine lv_iload_n F.hx F.hb d_MO_within_16 rfl (lv_at hl 3 rfl) ?_
    cases hT
    exact r_iret F hlk hr rfl hS hx3 d_MO_within_17
  · replace hT := (if_neg c3).symm.trans hT
    refine lv_aload_n F.hx F.hb d_MO_within_8 rfl (lv_at hl 0 rfl) ?_
    refine lv_iload_n F.hx F.hb d_MO_within_9 rfl (lv_at hl 1 rfl) ?_
    obtain ⟨q4, hq4, hT⟩ := q_obind hT
    refine r_backZ F hS (r_runV (k := 191) (N := 68) (T := T1) (As := [vI x1]) F hS (show 191 < 231 by decide) (show shK 191 = 5 from rfl) rfl (c_MO_goes l F.2.2.1 M x1 hx1 _ hq4) gs_MO_404 hd_MO_goes ⟨Nat.le_of_ble_eq_true rfl, Nat.le_of_ble_eq_true rfl⟩ rfl hl.1 (Nat.le_of_ble_eq_true rfl) ⟨Nat.zero_le _, Nat.zero_le _⟩ rfl d_MO_within_10) (fun H locs hS h5 => ?_)
    refine r_if_ne (tgt := 18) F.hx F.hb (inr_z h5) d_MO_within_13 (by decide) (fun c6 => ?_) (fun c6 => ?_)
    · replace hT := (if_neg c6).symm.trans hT
      refine lv_lconst (v := 0) F.hx F.hb d_MO_within_18 rfl ?_
      refine lv_iload_n F.hx F.hb d_MO_within_19 rfl (lv_at hl 2 rfl) ?_
      refine r_i2l F.hx F.hb d_MO_within_20 ?_
      refine lv_aload_n F.hx F.hb d_MO_within_21 rfl (lv_at hl 0 rfl) ?_
      refine r_get (v := .ref (b + 221)) (N := 68) (T := T1) (j := 53) F hS (show 191 < 231 by decide) (show shK 191 = 5 from rfl) (show shN 191 = 68 from rfl) rfl (Nat.le_of_ble_eq_true rfl) ing1 mw_1442 (fv_sg rfl rfl rfl) d_MO_within_22 ?_
      refine r_iconst F.hx F.hb d_MO_within_25 ?_
      refine r_lald F hS (show 221 < 231 by decide) (show shK 221 = 2 from rfl) (show shN 221 = 64 from rfl) (inr_c rfl) (by omega) (by omega) d_MO_within_26 ?_
      refine r_mminl F hl.1 mw_1841 mw_923 mw_14 mw_924 ⟨Nat.le_of_ble_eq_true rfl, Nat.le_of_ble_eq_true rfl⟩ (Nat.le_of_ble_eq_true rfl) ⟨Nat.zero_le _, Nat.zero_le _⟩ d_MO_within_27 ?_
      refine r_mmaxl F hl.1 mw_1842 mw_926 mw_14 mw_927 ⟨Nat.le_of_ble_eq_true rfl, Nat.le_of_ble_eq_true rfl⟩ (Nat.le_of_ble_eq_true rfl) ⟨Nat.zero_le _, Nat.zero_le _⟩ d_MO_within_30 ?_
      refine r_l2i F.hx F.hb d_MO_within_33 ?_
      have hz := q_inr_l2i (q_maxl 0 (q_minl (q_i2l x2) (q4.1.2 221 0)))
      generalize q_l2i (q_maxl 0 (q_minl (q_i2l x2) (q4.1.2 221 0))) = z at hT hz ⊢
      cases hT
      exact r_iret F hlk hr rfl hS hz d_MO_within_34
    · replace hT := (if_pos c6).symm.trans hT
      refine lv_iload_n F.hx F.hb d_MO_within_16 rfl (lv_at hl 3 rfl) ?_
      cases hT
      exact r_iret F hlk hr rfl hS hx3 d_MO_within_17
theorem d_MO_joyOf_0 : decode b_MO_joyOf 0 = .ok (.aload_n 0, 1) := dc_42 (by decide +kernel)
theorem d_MO_joyOf_1 : decode b_MO_joyOf 1 = .ok (.iload_n 1, 1) := dc_27 (by decide +kernel)
theorem d_MO_joyOf_2 : decode b_MO_joyOf 2 = .ok (.iload_n 2, 1) := dc_28 (by decide +kernel)
theorem d_MO_joyOf_3 : decode b_MO_joyOf 3 = .ok (.invokevirtual 417, 3) := dc_182 (by decide +kernel)
theorem d_MO_joyOf_6 : decode b_MO_joyOf 6 = .ok (.aload_n 0, 1) := dc_42 (by decide +kernel)
theorem d_MO_joyOf_7 : decode b_MO_joyOf 7 = .ok (.iconst 1, 1) := dc_4 (by decide +kernel)
theorem d_MO_joyOf_8 : decode b_MO_joyOf 8 = .ok (.sipush 9999, 3) := dc_17 (by decide +kernel)
theorem d_MO_joyOf_11 : decode b_MO_joyOf 11 = .ok (.aload_n 0, 1) := dc_42 (by decide +kernel)
theorem d_MO_joyOf_12 : decode b_MO_joyOf 12 = .ok (.getfield 106, 3) := dc_180 (by decide +kernel)
theorem d_MO_joyOf_15 : decode b_MO_joyOf 15 = .ok (.iconst 3, 1) := dc_6 (by decide +kernel)
theorem d_MO_joyOf_16 : decode b_MO_joyOf 16 = .ok (.laload, 1) := dc_47 (by decide +kernel)
theorem d_MO_joyOf_17 : decode b_MO_joyOf 17 = .ok (.l2i, 1) := dc_136 (by decide +kernel)
theorem d_MO_joyOf_18 : decode b_MO_joyOf 18 = .ok (.invokevirtual 420, 3) := dc_182 (by decide +kernel)
theorem d_MO_joyOf_21 : decode b_MO_joyOf 21 = .ok (.ireturn, 1) := dc_172 (by decide +kernel)
def t_MO_joyOf (M : Mem) (x1 : Int) (x2 : Int) : Option (Mem × Int) := (obind (t_MO_callsJoy M x1 x2) fun q1 => (obind (t_MO_within q1 1 9999 (q_l2i (q1.2 220 3))) fun q3 => (some ((q3.1), (q3.2)))))
set_option maxHeartbeats 4000000 in
set_option maxRecDepth 100000 in
theorem c_MO_joyOf (l : Launch) {b n : Nat} {C : CT} (hlo : 231 ≤ n) (M : Mem) (x1 : Int) (x2 : Int) (hx1 : InR x1) (hx2 : InR x2) (res : Mem × Int) (hT : t_MO_joyOf M x1 x2 = some res) : CM l b C n 4 y_MO_joyOf b_MO_joyOf 3 (some .int) [.ref (b + 191), vI x1, vI x2] M (QI b C n res.1 res.2) := by
  refine CM.of (lo := 231) (ow := "WardFallsModel") (by decide) rfl (Nat.le_of_ble_eq_true rfl) hlo (fun p e s m below meth c F hlk hr hS ls hl => ?_)
  have hl : lv_has ls 3 [(0, .ref (b + 191)), (1, vI x1), (2, vI x2)] := hl
  unfold t_MO_joyOf at hT
  refine lv_aload_n F.hx F.hb d_MO_joyOf_0 rfl (lv_at hl 0 rfl) ?_
  refine lv_iload_n F.hx F.hb d_MO_joyOf_1 rfl (lv_at hl 1 rfl) ?_
  refine lv_iload_n F.hx F.hb d_MO_joyOf_2 rfl (lv_at hl 2 rfl) ?_
  obtain ⟨q1, hq1, hT⟩ := q_obind hT
  refine r_backV F hS (r_runV (k := 191) (N := 68) (T := T1) (As := [vI x1, vI x2]) F hS (show 191 < 231 by decide) (show shK 191 = 5 from rfl) rfl (c_MO_callsJoy l F.2.2.1 M x1 x2 hx1 hx2 _ hq1) gs_MO_417 hd_MO_callsJoy ⟨Nat.le_of_ble_eq_true rfl, Nat.le_of_ble_eq_true rfl⟩ rfl hl.1 (Nat.le_of_ble_eq_true rfl) ⟨Nat.zero_le _, Nat.zero_le _⟩ rfl d_MO_joyOf_3) (fun H locs hS => ?_)
  refine lv_aload_n F.hx F.hb d_MO_joyOf_6 rfl (lv_at hl 0 rfl) ?_
  refine r_iconst F.hx F.hb d_MO_joyOf_7 ?_
  refine r_sipush F.hx F.hb d_MO_joyOf_8 rfl ?_
  refine lv_aload_n F.hx F.hb d_MO_joyOf_11 rfl (lv_at hl 0 rfl) ?_
  refine r_get (v := .ref (b + 220)) (N := 68) (T := T1) (j := 52) F hS (show 191 < 231 by decide) (show shK 191 = 5 from rfl) (show shN 191 = 68 from rfl) rfl (Nat.le_of_ble_eq_true rfl) ing1 mw_1441 (fv_sg rfl rfl rfl) d_MO_joyOf_12 ?_
  refine r_iconst F.hx F.hb d_MO_joyOf_15 ?_
  refine r_lald F hS (show 220 < 231 by decide) (show shK 220 = 2 from rfl) (show shN 220 = 7 from rfl) (inr_c rfl) (by omega) (by omega) d_MO_joyOf_16 ?_
  refine r_l2i F.hx F.hb d_MO_joyOf_17 ?_
  obtain ⟨q3, hq3, hT⟩ := q_obind hT
  refine r_backI F hS (r_runV (k := 191) (N := 68) (T := T1) (As := [vI 1, vI 9999, vI (q_l2i (q1.2 220 3))]) F hS (show 191 < 231 by decide) (show shK 191 = 5 from rfl) rfl (c_MO_within l F.2.2.1 q1 1 9999 (q_l2i (q1.2 220 3)) (inr_c rfl) (inr_c rfl) (q_inr_toInt _) _ hq3) gs_MO_420 hd_MO_within ⟨Nat.le_of_ble_eq_true rfl, Nat.le_of_ble_eq_true rfl⟩ rfl hl.1 (Nat.le_of_ble_eq_true rfl) ⟨Nat.zero_le _, Nat.zero_le _⟩ rfl d_MO_joyOf_18) (fun H locs hS h4 => ?_)
  cases hT
  exact r_iret F hlk hr rfl hS h4 d_MO_joyOf_21
theorem d_MO_ward_0 : decode b_MO_ward 0 = .ok (.aload_n 0, 1) := dc_42 (by decide +kernel)
theorem d_MO_ward_1 : decode b_MO_ward 1 = .ok (.iconst 0, 1) := dc_3 (by decide +kernel)
theorem d_MO_ward_2 : decode b_MO_ward 2 = .ok (.putfield 145, 3) := dc_181 (by decide +kernel)
theorem d_MO_ward_5 : decode b_MO_ward 5 = .ok (.aload_n 0, 1) := dc_42 (by decide +kernel)
theorem d_MO_ward_6 : decode b_MO_ward 6 = .ok (.iload_n 1, 1) := dc_27 (by decide +kernel)
theorem d_MO_ward_7 : decode b_MO_ward 7 = .ok (.invokevirtual 369, 3) := dc_182 (by decide +kernel)
theorem d_MO_ward_10 : decode b_MO_ward 10 = .ok (.ifCond .ne 5, 3) := dc_154 (by decide +kernel)
theorem d_MO_ward_13 : decode b_MO_ward 13 = .ok (.iconst (-1), 1) := dc_2 (by decide +kernel)
theorem d_MO_ward_14 : decode b_MO_ward 14 = .ok (.ireturn, 1) := dc_172 (by decide +kernel)
theorem d_MO_ward_15 : decode b_MO_ward 15 = .ok (.iload_n 2, 1) := dc_28 (by decide +kernel)
theorem d_MO_ward_16 : decode b_MO_ward 16 = .ok (.tableswitch 59 0 3 #[32, 39, 46, 52], 32) := by decide +kernel
theorem d_MO_ward_48 : decode b_MO_ward 48 = .ok (.aload_n 0, 1) := dc_42 (by decide +kernel)
theorem d_MO_ward_49 : decode b_MO_ward 49 = .ok (.getfield 76, 3) := dc_180 (by decide +kernel)
theorem d_MO_ward_52 : decode b_MO_ward 52 = .ok (.iload_n 1, 1) := dc_27 (by decide +kernel)
theorem d_MO_ward_53 : decode b_MO_ward 53 = .ok (.iaload, 1) := dc_46 (by decide +kernel)
theorem d_MO_ward_54 : decode b_MO_ward 54 = .ok (.ireturn, 1) := dc_172 (by decide +kernel)
theorem d_MO_ward_55 : decode b_MO_ward 55 = .ok (.aload_n 0, 1) := dc_42 (by decide +kernel)
theorem d_MO_ward_56 : decode b_MO_ward 56 = .ok (.getfield 22, 3) := dc_180 (by decide +kernel)
theorem d_MO_ward_59 : decode b_MO_ward 59 = .ok (.iload_n 1, 1) := dc_27 (by decide +kernel)
theorem d_MO_ward_60 : decode b_MO_ward 60 = .ok (.iaload, 1) := dc_46 (by decide +kernel)
theorem d_MO_ward_61 : decode b_MO_ward 61 = .ok (.ireturn, 1) := dc_172 (by decide +kernel)
theorem d_MO_ward_62 : decode b_MO_ward 62 = .ok (.aload_n 0, 1) := dc_42 (by decide +kernel)
theorem d_MO_ward_63 : decode b_MO_ward 63 = .ok (.iload_n 1, 1) := dc_27 (by decide +kernel)
theorem d_MO_ward_64 : decode b_MO_ward 64 = .ok (.invokevirtual 372, 3) := dc_182 (by decide +kernel)
theorem d_MO_ward_67 : decode b_MO_ward 67 = .ok (.ireturn, 1) := dc_172 (by decide +kernel)
theorem d_MO_ward_68 : decode b_MO_ward 68 = .ok (.aload_n 0, 1) := dc_42 (by decide +kernel)
theorem d_MO_ward_69 : decode b_MO_ward 69 = .ok (.iconst 0, 1) := dc_3 (by decide +kernel)
theorem d_MO_ward_70 : decode b_MO_ward 70 = .ok (.iload_n 1, 1) := dc_27 (by decide +kernel)
theorem d_MO_ward_71 : decode b_MO_ward 71 = .ok (.invokevirtual 375, 3) := dc_182 (by decide +kernel)
theorem d_MO_ward_74 : decode b_MO_ward 74 = .ok (.ireturn, 1) := dc_172 (by decide +kernel)
theorem d_MO_ward_75 : decode b_MO_ward 75 = .ok (.iconst (-1), 1) := dc_2 (by decide +kernel)
theorem d_MO_ward_76 : decode b_MO_ward 76 = .ok (.ireturn, 1) := dc_172 (by decide +kernel)
def t_MO_ward (M : Mem) (x1 : Int) (x2 : Int) : Option (Mem × Int) := (qlet (setI M 191 0 0) fun M1 => (qlet (t_MO_isWard M1 x1) fun q2 => (if q2 = 0 then (some (M1, (-1))) else (if x2 = 0 then (qguard (0 ≤ x1 ∧ x1 < 92) (some (M1, (M1.1 212 x1)))) else (if x2 = 1 then (qguard (0 ≤ x1 ∧ x1 < 8) (some (M1, (M1.1 196 x1)))) else (if x2 = 2 then (obind (t_MO_sizeOf M1 x1) fun q12 => (some (M1, q12))) else (if x2 = 3 then (obind (t_MO_joyOf M1 0 x1) fun q15 => (some ((q15.1), (q15.2)))) else (some (M1, (-1))))))))))
set_option maxHeartbeats 4000000 in
set_option maxRecDepth 100000 in
theorem c_MO_ward (l : Launch) {b n : Nat} {C : CT} (hlo : 231 ≤ n) (M : Mem) (x1 : Int) (x2 : Int) (hx1 : InR x1) (hx2 : InR x2) (res : Mem × Int) (hT : t_MO_ward M x1 x2 = some res) : CM l b C n 5 y_MO_ward b_MO_ward 3 (some .int) [.ref (b + 191), vI x1, vI x2] M (QI b C n res.1 res.2) := by
  refine CM.of (lo := 231) (ow := "WardFallsModel") (by decide) rfl (Nat.le_of_ble_eq_true rfl) hlo (fun p e s m below meth c F hlk hr hS ls hl => ?_)
  have hl : lv_has ls 3 [(0, .ref (b + 191)), (1, vI x1), (2, vI x2)] := hl
  unfold t_MO_ward at hT
  refine lv_aload_n F.hx F.hb d_MO_ward_0 rfl (lv_at hl 0 rfl) ?_
  refine r_iconst F.hx F.hb d_MO_ward_1 ?_
  refine r_putI (N := 68) (T := T1) (j := 0) F hS (show 191 < 231 by decide) (show shK 191 = 5 from rfl) (show shN 191 = 68 from rfl) rfl (Nat.le_of_ble_eq_true rfl) ing1 tyok1 nm1 rfl rfl rfl rfl rfl rfl mw_1389 (inr_c rfl) d_MO_ward_2 (fun H locs hS => ?_)
  obtain ⟨M1, eM1⟩ : ∃ q, q = (setI M 191 0 0) := ⟨_, rfl⟩
  replace hS : St b C n M1 s H locs := by rw [eM1]; exact hS
  replace hT := qlet_eq hT eM1
  refine lv_aload_n F.hx F.hb d_MO_ward_5 rfl (lv_at hl 0 rfl) ?_
  refine lv_iload_n F.hx F.hb d_MO_ward_6 rfl (lv_at hl 1 rfl) ?_
  obtain ⟨q2, hq2⟩ : ∃ q, q = (t_MO_isWard M1 x1) := ⟨_, rfl⟩
  replace hT := qlet_eq hT hq2
  refine r_backZ F hS (r_runV (k := 191) (N := 68) (T := T1) (As := [vI x1]) F hS (show 191 < 231 by decide) (show shK 191 = 5 from rfl) rfl (c_MO_isWard l F.2.2.1 M1 x1 hx1 _ hq2.symm) gs_MO_369 hd_MO_isWard ⟨Nat.le_of_ble_eq_true rfl, Nat.le_of_ble_eq_true rfl⟩ rfl hl.1 (Nat.le_of_ble_eq_true rfl) ⟨Nat.zero_le _, Nat.zero_le _⟩ rfl d_MO_ward_7) (fun H locs hS h3 => ?_)
  refine r_if_ne (tgt := 15) F.hx F.hb (inr_z h3) d_MO_ward_10 (by decide) (fun c4 => ?_) (fun c4 => ?_)
  · replace hT := (if_neg c4).symm.trans hT
    refine lv_iload_n F.hx F.hb d_MO_ward_15 rfl (lv_at hl 2 rfl) ?_
    rcases q_ite hT with ⟨c5, hT⟩ | ⟨c5, hT⟩
    · refine r_tableIn (i := 0) (tgt := 48) F.hx F.hb hx2 c5 d_MO_ward_16 (by decide) (by decide) rfl (by decide) ?_
      refine lv_aload_n F.hx F.hb d_MO_ward_48 rfl (lv_at hl 0 rfl) ?_
      refine r_get (v := .ref (b + 212)) (N := 68) (T := T1) (j := 35) F hS (show 191 < 231 by decide) (show shK 191 = 5 from rfl) (show shN 191 = 68 from rfl) rfl (Nat.le_of_ble_eq_true rfl) ing1 mw_1424 (fv_sg rfl rfl rfl) d_MO_ward_49 ?_
      refine lv_iload_n F.hx F.hb d_MO_ward_52 rfl (lv_at hl 1 rfl) ?_
      obtain ⟨⟨g6a, g6b⟩, hT⟩ := q_guard hT
      refine r_iald F hS (show 212 < 231 by decide) (show shK 212 = 0 from rfl) (show shN 212 = 92 from rfl) hx1 g6a g6b d_MO_ward_53 ?_
      have i7 := hS.rng 212 x1
      cases hT
      exact r_iret F hlk hr rfl hS i7 d_MO_ward_54
    ·
      rcases q_ite hT with ⟨c8, hT⟩ | ⟨c8, hT⟩
      · refine r_tableIn (i := 1) (tgt := 55) F.hx F.hb hx2 c8 d_MO_ward_16 (by decide) (by decide) rfl (by decide) ?_
        refine lv_aload_n F.hx F.hb d_MO_ward_55 rfl (lv_at hl 0 rfl) ?_
        refine r_get (v := .ref (b + 196)) (N := 68) (T := T1) (j := 6) F hS (show 191 < 231 by decide) (show shK 191 = 5 from rfl) (show shN 191 = 68 from rfl) rfl (Nat.le_of_ble_eq_true rfl) ing1 mw_1395 (fv_sg rfl rfl rfl) d_MO_ward_56 ?_
        refine lv_iload_n F.hx F.hb d_MO_ward_59 rfl (lv_at hl 1 rfl) ?_
        obtain ⟨⟨g9a, g9b⟩, hT⟩ := q_guard hT
        refine r_iald F hS (show 196 < 231 by decide) (show shK 196 = 0 from rfl) (show shN 196 = 8 from rfl) hx1 g9a g9b d_MO_ward_60 ?_
        have i10 := hS.rng 196 x1
        cases hT
        exact r_iret F hlk hr rfl hS i10 d_MO_ward_61
      ·
        rcases q_ite hT with ⟨c11, hT⟩ | ⟨c11, hT⟩
        · refine r_tableIn (i := 2) (tgt := 62) F.hx F.hb hx2 c11 d_MO_ward_16 (by decide) (by decide) rfl (by decide) ?_
          refine lv_aload_n F.hx F.hb d_MO_ward_62 rfl (lv_at hl 0 rfl) ?_
          refine lv_iload_n F.hx F.hb d_MO_ward_63 rfl (lv_at hl 1 rfl) ?_
          obtain ⟨q12, hq12, hT⟩ := q_obind hT
          refine r_backI F hS (r_runV (k := 191) (N := 68) (T := T1) (As := [vI x1]) F hS (show 191 < 231 by decide) (show shK 191 = 5 from rfl) rfl (c_MO_sizeOf l F.2.2.1 M1 x1 hx1 _ hq12) gs_MO_372 hd_MO_sizeOf ⟨Nat.le_of_ble_eq_true rfl, Nat.le_of_ble_eq_true rfl⟩ rfl hl.1 (Nat.le_of_ble_eq_true rfl) ⟨Nat.zero_le _, Nat.zero_le _⟩ rfl d_MO_ward_64) (fun H locs hS h13 => ?_)
          cases hT
          exact r_iret F hlk hr rfl hS h13 d_MO_ward_67
        ·
          rcases q_ite hT with ⟨c14, hT⟩ | ⟨c14, hT⟩
          · refine r_tableIn (i := 3) (tgt := 68) F.hx F.hb hx2 c14 d_MO_ward_16 (by decide) (by decide) rfl (by decide) ?_
            refine lv_aload_n F.hx F.hb d_MO_ward_68 rfl (lv_at hl 0 rfl) ?_
            refine r_iconst F.hx F.hb d_MO_ward_69 ?_
            refine lv_iload_n F.hx F.hb d_MO_ward_70 rfl (lv_at hl 1 rfl) ?_
            obtain ⟨q15, hq15, hT⟩ := q_obind hT
            refine r_backI F hS (r_runV (k := 191) (N := 68) (T := T1) (As := [vI 0, vI x1]) F hS (show 191 < 231 by decide) (show shK 191 = 5 from rfl) rfl (c_MO_joyOf l F.2.2.1 M1 0 x1 (inr_c rfl) hx1 _ hq15) gs_MO_375 hd_MO_joyOf ⟨Nat.le_of_ble_eq_true rfl, Nat.le_of_ble_eq_true rfl⟩ rfl hl.1 (Nat.le_of_ble_eq_true rfl) ⟨Nat.zero_le _, Nat.zero_le _⟩ rfl d_MO_ward_71) (fun H locs hS h16 => ?_)
            cases hT
            exact r_iret F hlk hr rfl hS h16 d_MO_ward_74
          ·
            refine r_tableOut (tgt := 75) F.hx F.hb hx2 (by omega) d_MO_ward_16 (by decide) ?_
            refine r_iconst F.hx F.hb d_MO_ward_75 ?_
            cases hT
            exact r_iret F hlk hr rfl hS (inr_c rfl) d_MO_ward_76
  · replace hT := (if_pos c4).symm.trans hT
    refine r_iconst F.hx F.hb d_MO_ward_13 ?_
    cases hT
    exact r_iret F hlk hr rfl hS (inr_c rfl) d_MO_ward_14
end
section
theorem d_MO_thing_0 : decode b_MO_thing 0 = .ok (.aload_n 0, 1) := dc_42 (by decide +kernel)
theorem d_MO_thing_1 : decode b_MO_thing 1 = .ok (.iconst 0, 1) := dc_3 (by decide +kernel)
theorem d_MO_thing_2 : decode b_MO_thing 2 = .ok (.putfield 145, 3) := dc_181 (by decide +kernel)
theorem d_MO_thing_5 : decode b_MO_thing 5 = .ok (.aload_n 0, 1) := dc_42 (by decide +kernel)
theorem d_MO_thing_6 : decode b_MO_thing 6 = .ok (.iload_n 1, 1) := dc_27 (by decide +kernel)
theorem d_MO_thing_7 : decode b_MO_thing 7 = .ok (.invokevirtual 378, 3) := dc_182 (by decide +kernel)
theorem d_MO_thing_10 : decode b_MO_thing 10 = .ok (.ifCond .ne 5, 3) := dc_154 (by decide +kernel)
theorem d_MO_thing_13 : decode b_MO_thing 13 = .ok (.iconst (-1), 1) := dc_2 (by decide +kernel)
theorem d_MO_thing_14 : decode b_MO_thing 14 = .ok (.ireturn, 1) := dc_172 (by decide +kernel)
theorem d_MO_thing_15 : decode b_MO_thing 15 = .ok (.iload_n 2, 1) := dc_28 (by decide +kernel)
theorem d_MO_thing_16 : decode b_MO_thing 16 = .ok (.ifCond .ne 12, 3) := dc_154 (by decide +kernel)
theorem d_MO_thing_19 : decode b_MO_thing 19 = .ok (.aload_n 0, 1) := dc_42 (by decide +kernel)
theorem d_MO_thing_20 : decode b_MO_thing 20 = .ok (.getfield 79, 3) := dc_180 (by decide +kernel)
theorem d_MO_thing_23 : decode b_MO_thing 23 = .ok (.iload_n 1, 1) := dc_27 (by decide +kernel)
theorem d_MO_thing_24 : decode b_MO_thing 24 = .ok (.iaload, 1) := dc_46 (by decide +kernel)
theorem d_MO_thing_25 : decode b_MO_thing 25 = .ok (.goto 46, 3) := dc_167 (by decide +kernel)
theorem d_MO_thing_28 : decode b_MO_thing 28 = .ok (.iload_n 2, 1) := dc_28 (by decide +kernel)
theorem d_MO_thing_29 : decode b_MO_thing 29 = .ok (.iconst 1, 1) := dc_4 (by decide +kernel)
theorem d_MO_thing_30 : decode b_MO_thing 30 = .ok (.if_icmp .ne 12, 3) := dc_160 (by decide +kernel)
theorem d_MO_thing_33 : decode b_MO_thing 33 = .ok (.aload_n 0, 1) := dc_42 (by decide +kernel)
theorem d_MO_thing_34 : decode b_MO_thing 34 = .ok (.getfield 38, 3) := dc_180 (by decide +kernel)
theorem d_MO_thing_37 : decode b_MO_thing 37 = .ok (.iload_n 1, 1) := dc_27 (by decide +kernel)
theorem d_MO_thing_38 : decode b_MO_thing 38 = .ok (.iaload, 1) := dc_46 (by decide +kernel)
theorem d_MO_thing_39 : decode b_MO_thing 39 = .ok (.goto 32, 3) := dc_167 (by decide +kernel)
theorem d_MO_thing_42 : decode b_MO_thing 42 = .ok (.iload_n 2, 1) := dc_28 (by decide +kernel)
theorem d_MO_thing_43 : decode b_MO_thing 43 = .ok (.iconst 2, 1) := dc_5 (by decide +kernel)
theorem d_MO_thing_44 : decode b_MO_thing 44 = .ok (.if_icmp .ne 12, 3) := dc_160 (by decide +kernel)
theorem d_MO_thing_47 : decode b_MO_thing 47 = .ok (.aload_n 0, 1) := dc_42 (by decide +kernel)
theorem d_MO_thing_48 : decode b_MO_thing 48 = .ok (.getfield 82, 3) := dc_180 (by decide +kernel)
theorem d_MO_thing_51 : decode b_MO_thing 51 = .ok (.iload_n 1, 1) := dc_27 (by decide +kernel)
theorem d_MO_thing_52 : decode b_MO_thing 52 = .ok (.iaload, 1) := dc_46 (by decide +kernel)
theorem d_MO_thing_53 : decode b_MO_thing 53 = .ok (.goto 18, 3) := dc_167 (by decide +kernel)
theorem d_MO_thing_56 : decode b_MO_thing 56 = .ok (.iload_n 2, 1) := dc_28 (by decide +kernel)
theorem d_MO_thing_57 : decode b_MO_thing 57 = .ok (.iconst 3, 1) := dc_6 (by decide +kernel)
theorem d_MO_thing_58 : decode b_MO_thing 58 = .ok (.if_icmp .ne 12, 3) := dc_160 (by decide +kernel)
theorem d_MO_thing_61 : decode b_MO_thing 61 = .ok (.aload_n 0, 1) := dc_42 (by decide +kernel)
theorem d_MO_thing_62 : decode b_MO_thing 62 = .ok (.getfield 85, 3) := dc_180 (by decide +kernel)
theorem d_MO_thing_65 : decode b_MO_thing 65 = .ok (.iload_n 1, 1) := dc_27 (by decide +kernel)
theorem d_MO_thing_66 : decode b_MO_thing 66 = .ok (.iaload, 1) := dc_46 (by decide +kernel)
theorem d_MO_thing_67 : decode b_MO_thing 67 = .ok (.goto 4, 3) := dc_167 (by decide +kernel)
theorem d_MO_thing_70 : decode b_MO_thing 70 = .ok (.iconst (-1), 1) := dc_2 (by decide +kernel)
theorem d_MO_thing_71 : decode b_MO_thing 71 = .ok (.ireturn, 1) := dc_172 (by decide +kernel)
def t_MO_thing (M : Mem) (x1 : Int) (x2 : Int) : Option (Mem × Int) := (qlet (setI M 191 0 0) fun M1 => (qlet (t_MO_isThing M1 x1) fun q2 => (if q2 = 0 then (some (M1, (-1))) else (if x2 = 0 then (qguard (0 ≤ x1 ∧ x1 < 184) (some (M1, (M1.1 213 x1)))) else (if x2 = 1 then (qguard (0 ≤ x1 ∧ x1 < 16) (some (M1, (M1.1 201 x1)))) else (if x2 = 2 then (qguard (0 ≤ x1 ∧ x1 < 184) (some (M1, (M1.1 214 x1)))) else (if x2 = 3 then (qguard (0 ≤ x1 ∧ x1 < 184) (some (M1, (M1.1 215 x1)))) else (some (M1, (-1))))))))))
set_option maxHeartbeats 4000000 in
set_option maxRecDepth 100000 in
theorem c_MO_thing (l : Launch) {b n : Nat} {C : CT} (hlo : 231 ≤ n) (M : Mem) (x1 : Int) (x2 : Int) (hx1 : InR x1) (hx2 : InR x2) (res : Mem × Int) (hT : t_MO_thing M x1 x2 = some res) : CM l b C n 1 y_MO_thing b_MO_thing 3 (some .int) [.ref (b + 191), vI x1, vI x2] M (QI b C n res.1 res.2) := by
  refine CM.of (lo := 231) (ow := "WardFallsModel") (by decide) rfl (Nat.le_of_ble_eq_true rfl) hlo (fun p e s m below meth c F hlk hr hS ls hl => ?_)
  have hl : lv_has ls 3 [(0, .ref (b + 191)), (1, vI x1), (2, vI x2)] := hl
  unfold t_MO_thing at hT
  refine lv_aload_n F.hx F.hb d_MO_thing_0 rfl (lv_at hl 0 rfl) ?_
  refine r_iconst F.hx F.hb d_MO_thing_1 ?_
  refine r_putI (N := 68) (T := T1) (j := 0) F hS (show 191 < 231 by decide) (show shK 191 = 5 from rfl) (show shN 191 = 68 from rfl) rfl (Nat.le_of_ble_eq_true rfl) ing1 tyok1 nm1 rfl rfl rfl rfl rfl rfl mw_1389 (inr_c rfl) d_MO_thing_2 (fun H locs hS => ?_)
  obtain ⟨M1, eM1⟩ : ∃ q, q = (setI M 191 0 0) := ⟨_, rfl⟩
  replace hS : St b C n M1 s H locs := by rw [eM1]; exact hS
  replace hT := qlet_eq hT eM1
  refine lv_aload_n F.hx F.hb d_MO_thing_5 rfl (lv_at hl 0 rfl) ?_
  refine lv_iload_n F.hx F.hb d_MO_thing_6 rfl (lv_at hl 1 rfl) ?_
  obtain ⟨q2, hq2⟩ : ∃ q, q = (t_MO_isThing M1 x1) := ⟨_, rfl⟩
  replace hT := qlet_eq hT hq2
  refine r_backZ F hS (r_runV (k := 191) (N := 68) (T := T1) (As := [vI x1]) F hS (show 191 < 231 by decide) (show shK 191 = 5 from rfl) rfl (c_MO_isThing l F.2.2.1 M1 x1 hx1 _ hq2.symm) gs_MO_378 hd_MO_isThing ⟨Nat.le_of_ble_eq_true rfl, Nat.le_of_ble_eq_true rfl⟩ rfl hl.1 (Nat.le_of_ble_eq_true rfl) ⟨Nat.zero_le _, Nat.zero_le _⟩ rfl d_MO_thing_7) (fun H locs hS h3 => ?_)
  refine r_if_ne (tgt := 15) F.hx F.hb (inr_z h3) d_MO_thing_10 (by decide) (fun c4 => ?_) (fun c4 => ?_)
  · replace hT := (if_neg c4).symm.trans hT
    refine lv_iload_n F.hx F.hb d_MO_thing_15 rfl (lv_at hl 2 rfl) ?_
    refine r_if_ne (tgt := 28) F.hx F.hb hx2 d_MO_thing_16 (by decide) (fun c5 => ?_) (fun c5 => ?_)
    · replace hT := (if_neg c5).symm.trans hT
      refine lv_iload_n F.hx F.hb d_MO_thing_28 rfl (lv_at hl 2 rfl) ?_
      refine r_iconst F.hx F.hb d_MO_thing_29 ?_
      refine r_icmp_ne (tgt := 42) F.hx F.hb hx2 (inr_c rfl) d_MO_thing_30 (by decide) (fun c6 => ?_) (fun c6 => ?_)
      · replace hT := (if_neg c6).symm.trans hT
        refine lv_iload_n F.hx F.hb d_MO_thing_42 rfl (lv_at hl 2 rfl) ?_
        refine r_iconst F.hx F.hb d_MO_thing_43 ?_
        refine r_icmp_ne (tgt := 56) F.hx F.hb hx2 (inr_c rfl) d_MO_thing_44 (by decide) (fun c7 => ?_) (fun c7 => ?_)
        · replace hT := (if_neg c7).symm.trans hT
          refine lv_iload_n F.hx F.hb d_MO_thing_56 rfl (lv_at hl 2 rfl) ?_
          refine r_iconst F.hx F.hb d_MO_thing_57 ?_
          refine r_icmp_ne (tgt := 70) F.hx F.hb hx2 (inr_c rfl) d_MO_thing_58 (by decide) (fun c8 => ?_) (fun c8 => ?_)
          · replace hT := (if_neg c8).symm.trans hT
            refine r_iconst F.hx F.hb d_MO_thing_70 ?_
            cases hT
            exact r_iret F hlk hr rfl hS (inr_c rfl) d_MO_thing_71
          · replace hT := (if_pos c8).symm.trans hT
            refine lv_aload_n F.hx F.hb d_MO_thing_61 rfl (lv_at hl 0 rfl) ?_
            refine r_get (v := .ref (b + 215)) (N := 68) (T := T1) (j := 38) F hS (show 191 < 231 by decide) (show shK 191 = 5 from rfl) (show shN 191 = 68 from rfl) rfl (Nat.le_of_ble_eq_true rfl) ing1 mw_1427 (fv_sg rfl rfl rfl) d_MO_thing_62 ?_
            refine lv_iload_n F.hx F.hb d_MO_thing_65 rfl (lv_at hl 1 rfl) ?_
            obtain ⟨⟨g9a, g9b⟩, hT⟩ := q_guard hT
            refine r_iald F hS (show 215 < 231 by decide) (show shK 215 = 0 from rfl) (show shN 215 = 184 from rfl) hx1 g9a g9b d_MO_thing_66 ?_
            have i10 := hS.rng 215 x1
            refine lv_goto (tgt := 71) F.hx F.hb d_MO_thing_67 (by decide) ?_
            cases hT
            exact r_iret F hlk hr rfl hS i10 d_MO_thing_71
        · replace hT := (if_pos c7).symm.trans hT
          refine lv_aload_n F.hx F.hb d_MO_thing_47 rfl (lv_at hl 0 rfl) ?_
          refine r_get (v := .ref (b + 214)) (N := 68) (T := T1) (j := 37) F hS (show 191 < 231 by decide) (show shK 191 = 5 from rfl) (show shN 191 = 68 from rfl) rfl (Nat.le_of_ble_eq_true rfl) ing1 mw_1426 (fv_sg rfl rfl rfl) d_MO_thing_48 ?_
          refine lv_iload_n F.hx F.hb d_MO_thing_51 rfl (lv_at hl 1 rfl) ?_
          obtain ⟨⟨g11a, g11b⟩, hT⟩ := q_guard hT
          refine r_iald F hS (show 214 < 231 by decide) (show shK 214 = 0 from rfl) (show shN 214 = 184 from rfl) hx1 g11a g11b d_MO_thing_52 ?_
          have i12 := hS.rng 214 x1
          refine lv_goto (tgt := 71) F.hx F.hb d_MO_thing_53 (by decide) ?_
          cases hT
          exact r_iret F hlk hr rfl hS i12 d_MO_thing_71
      · replace hT := (if_pos c6).symm.trans hT
        refine lv_aload_n F.hx F.hb d_MO_thing_33 rfl (lv_at hl 0 rfl) ?_
        refine r_get (v := .ref (b + 201)) (N := 68) (T := T1) (j := 11) F hS (show 191 < 231 by decide) (show shK 191 = 5 from rfl) (show shN 191 = 68 from rfl) rfl (Nat.le_of_ble_eq_true rfl) ing1 mw_1400 (fv_sg rfl rfl rfl) d_MO_thing_34 ?_
        refine lv_iload_n F.hx F.hb d_MO_thing_37 rfl (lv_at hl 1 rfl) ?_
        obtain ⟨⟨g13a, g13b⟩, hT⟩ := q_guard hT
        refine r_iald F hS (show 201 < 231 by decide) (show shK 201 = 0 from rfl) (show shN 201 = 16 from rfl) hx1 g13a g13b d_MO_thing_38 ?_
        have i14 := hS.rng 201 x1
        refine lv_goto (tgt := 71) F.hx F.hb d_MO_thing_39 (by decide) ?_
        cases hT
        exact r_iret F hlk hr rfl hS i14 d_MO_thing_71
    · replace hT := (if_pos c5).symm.trans hT
      refine lv_aload_n F.hx F.hb d_MO_thing_19 rfl (lv_at hl 0 rfl) ?_
      refine r_get (v := .ref (b + 213)) (N := 68) (T := T1) (j := 36) F hS (show 191 < 231 by decide) (show shK 191 = 5 from rfl) (show shN 191 = 68 from rfl) rfl (Nat.le_of_ble_eq_true rfl) ing1 mw_1425 (fv_sg rfl rfl rfl) d_MO_thing_20 ?_
      refine lv_iload_n F.hx F.hb d_MO_thing_23 rfl (lv_at hl 1 rfl) ?_
      obtain ⟨⟨g15a, g15b⟩, hT⟩ := q_guard hT
      refine r_iald F hS (show 213 < 231 by decide) (show shK 213 = 0 from rfl) (show shN 213 = 184 from rfl) hx1 g15a g15b d_MO_thing_24 ?_
      have i16 := hS.rng 213 x1
      refine lv_goto (tgt := 71) F.hx F.hb d_MO_thing_25 (by decide) ?_
      cases hT
      exact r_iret F hlk hr rfl hS i16 d_MO_thing_71
  · replace hT := (if_pos c4).symm.trans hT
    refine r_iconst F.hx F.hb d_MO_thing_13 ?_
    cases hT
    exact r_iret F hlk hr rfl hS (inr_c rfl) d_MO_thing_14
theorem wn_MO_callsPush_0 : ∀ i, i < 96 → bA b_MO_callsPush (0 + i) = wB [42, 27, 28, 182, 1, 82, 62, 42, 180, 0, 25, 29, 46, 4, 100, 54, 4, 42, 180, 0, 106, 3, 21, 4, 2, 160, 0, 7, 9, 167, 0, 11, 42, 180, 0, 22, 21, 4, 46, 133, 80, 42, 180, 0, 106, 4, 21, 4, 2, 160, 0, 7, 9, 167, 0, 10, 42, 21, 4, 182, 1, 116, 133, 80, 42, 3, 29, 182, 1, 107, 54, 5, 42, 180, 0, 106, 5, 21, 5, 2, 159, 0, 7, 4, 167, 0, 4, 3, 184, 1, 128, 80, 42, 180, 0, 106] i := wB_of (by decide +kernel)
theorem d_MO_callsPush_0 : decode b_MO_callsPush 0 = .ok (.aload_n 0, 1) := dc_42 (q0_win (r := 0) wn_MO_callsPush_0 (by decide +kernel))
theorem d_MO_callsPush_1 : decode b_MO_callsPush 1 = .ok (.iload_n 1, 1) := dc_27 (q0_win (r := 1) wn_MO_callsPush_0 (by decide +kernel))
theorem d_MO_callsPush_2 : decode b_MO_callsPush 2 = .ok (.iload_n 2, 1) := dc_28 (q0_win (r := 2) wn_MO_callsPush_0 (by decide +kernel))
theorem d_MO_callsPush_3 : decode b_MO_callsPush 3 = .ok (.invokevirtual 338, 3) := dc_182 (qU2_win (r := 3) wn_MO_callsPush_0 (by decide +kernel))
theorem d_MO_callsPush_6 : decode b_MO_callsPush 6 = .ok (.istore_n 3, 1) := dc_62 (q0_win (r := 6) wn_MO_callsPush_0 (by decide +kernel))
theorem d_MO_callsPush_7 : decode b_MO_callsPush 7 = .ok (.aload_n 0, 1) := dc_42 (q0_win (r := 7) wn_MO_callsPush_0 (by decide +kernel))
theorem d_MO_callsPush_8 : decode b_MO_callsPush 8 = .ok (.getfield 25, 3) := dc_180 (qU2_win (r := 8) wn_MO_callsPush_0 (by decide +kernel))
theorem d_MO_callsPush_11 : decode b_MO_callsPush 11 = .ok (.iload_n 3, 1) := dc_29 (q0_win (r := 11) wn_MO_callsPush_0 (by decide +kernel))
theorem d_MO_callsPush_12 : decode b_MO_callsPush 12 = .ok (.iaload, 1) := dc_46 (q0_win (r := 12) wn_MO_callsPush_0 (by decide +kernel))
theorem d_MO_callsPush_13 : decode b_MO_callsPush 13 = .ok (.iconst 1, 1) := dc_4 (q0_win (r := 13) wn_MO_callsPush_0 (by decide +kernel))
theorem d_MO_callsPush_14 : decode b_MO_callsPush 14 = .ok (.isub, 1) := dc_100 (q0_win (r := 14) wn_MO_callsPush_0 (by decide +kernel))
theorem d_MO_callsPush_15 : decode b_MO_callsPush 15 = .ok (.istore 4, 2) := dc_54 (qU1_win (r := 15) wn_MO_callsPush_0 (by decide +kernel))
theorem d_MO_callsPush_17 : decode b_MO_callsPush 17 = .ok (.aload_n 0, 1) := dc_42 (q0_win (r := 17) wn_MO_callsPush_0 (by decide +kernel))
theorem d_MO_callsPush_18 : decode b_MO_callsPush 18 = .ok (.getfield 106, 3) := dc_180 (qU2_win (r := 18) wn_MO_callsPush_0 (by decide +kernel))
theorem d_MO_callsPush_21 : decode b_MO_callsPush 21 = .ok (.iconst 0, 1) := dc_3 (q0_win (r := 21) wn_MO_callsPush_0 (by decide +kernel))
theorem d_MO_callsPush_22 : decode b_MO_callsPush 22 = .ok (.iload 4, 2) := dc_21 (qU1_win (r := 22) wn_MO_callsPush_0 (by decide +kernel))
theorem d_MO_callsPush_24 : decode b_MO_callsPush 24 = .ok (.iconst (-1), 1) := dc_2 (q0_win (r := 24) wn_MO_callsPush_0 (by decide +kernel))
theorem d_MO_callsPush_25 : decode b_MO_callsPush 25 = .ok (.if_icmp .ne 7, 3) := dc_160 (qS2_win (r := 25) wn_MO_callsPush_0 (by decide +kernel))
theorem d_MO_callsPush_28 : decode b_MO_callsPush 28 = .ok (.lconst 0, 1) := dc_9 (q0_win (r := 28) wn_MO_callsPush_0 (by decide +kernel))
theorem d_MO_callsPush_29 : decode b_MO_callsPush 29 = .ok (.goto 11, 3) := dc_167 (qS2_win (r := 29) wn_MO_callsPush_0 (by decide +kernel))
theorem d_MO_callsPush_32 : decode b_MO_callsPush 32 = .ok (.aload_n 0, 1) := dc_42 (q0_win (r := 32) wn_MO_callsPush_0 (by decide +kernel))
theorem d_MO_callsPush_33 : decode b_MO_callsPush 33 = .ok (.getfield 22, 3) := dc_180 (qU2_win (r := 33) wn_MO_callsPush_0 (by decide +kernel))
theorem d_MO_callsPush_36 : decode b_MO_callsPush 36 = .ok (.iload 4, 2) := dc_21 (qU1_win (r := 36) wn_MO_callsPush_0 (by decide +kernel))
theorem d_MO_callsPush_38 : decode b_MO_callsPush 38 = .ok (.iaload, 1) := dc_46 (q0_win (r := 38) wn_MO_callsPush_0 (by decide +kernel))
theorem d_MO_callsPush_39 : decode b_MO_callsPush 39 = .ok (.i2l, 1) := dc_133 (q0_win (r := 39) wn_MO_callsPush_0 (by decide +kernel))
theorem d_MO_callsPush_40 : decode b_MO_callsPush 40 = .ok (.lastore, 1) := dc_80 (q0_win (r := 40) wn_MO_callsPush_0 (by decide +kernel))
theorem d_MO_callsPush_41 : decode b_MO_callsPush 41 = .ok (.aload_n 0, 1) := dc_42 (q0_win (r := 41) wn_MO_callsPush_0 (by decide +kernel))
theorem d_MO_callsPush_42 : decode b_MO_callsPush 42 = .ok (.getfield 106, 3) := dc_180 (qU2_win (r := 42) wn_MO_callsPush_0 (by decide +kernel))
theorem d_MO_callsPush_45 : decode b_MO_callsPush 45 = .ok (.iconst 1, 1) := dc_4 (q0_win (r := 45) wn_MO_callsPush_0 (by decide +kernel))
theorem d_MO_callsPush_46 : decode b_MO_callsPush 46 = .ok (.iload 4, 2) := dc_21 (qU1_win (r := 46) wn_MO_callsPush_0 (by decide +kernel))
theorem d_MO_callsPush_48 : decode b_MO_callsPush 48 = .ok (.iconst (-1), 1) := dc_2 (q0_win (r := 48) wn_MO_callsPush_0 (by decide +kernel))
theorem d_MO_callsPush_49 : decode b_MO_callsPush 49 = .ok (.if_icmp .ne 7, 3) := dc_160 (qS2_win (r := 49) wn_MO_callsPush_0 (by decide +kernel))
theorem d_MO_callsPush_52 : decode b_MO_callsPush 52 = .ok (.lconst 0, 1) := dc_9 (q0_win (r := 52) wn_MO_callsPush_0 (by decide +kernel))
theorem d_MO_callsPush_53 : decode b_MO_callsPush 53 = .ok (.goto 10, 3) := dc_167 (qS2_win (r := 53) wn_MO_callsPush_0 (by decide +kernel))
theorem d_MO_callsPush_56 : decode b_MO_callsPush 56 = .ok (.aload_n 0, 1) := dc_42 (q0_win (r := 56) wn_MO_callsPush_0 (by decide +kernel))
theorem d_MO_callsPush_57 : decode b_MO_callsPush 57 = .ok (.iload 4, 2) := dc_21 (qU1_win (r := 57) wn_MO_callsPush_0 (by decide +kernel))
theorem d_MO_callsPush_59 : decode b_MO_callsPush 59 = .ok (.invokevirtual 372, 3) := dc_182 (qU2_win (r := 59) wn_MO_callsPush_0 (by decide +kernel))
theorem d_MO_callsPush_62 : decode b_MO_callsPush 62 = .ok (.i2l, 1) := dc_133 (q0_win (r := 62) wn_MO_callsPush_0 (by decide +kernel))
theorem d_MO_callsPush_63 : decode b_MO_callsPush 63 = .ok (.lastore, 1) := dc_80 (q0_win (r := 63) wn_MO_callsPush_0 (by decide +kernel))
theorem d_MO_callsPush_64 : decode b_MO_callsPush 64 = .ok (.aload_n 0, 1) := dc_42 (q0_win (r := 64) wn_MO_callsPush_0 (by decide +kernel))
theorem d_MO_callsPush_65 : decode b_MO_callsPush 65 = .ok (.iconst 0, 1) := dc_3 (q0_win (r := 65) wn_MO_callsPush_0 (by decide +kernel))
theorem d_MO_callsPush_66 : decode b_MO_callsPush 66 = .ok (.iload_n 3, 1) := dc_29 (q0_win (r := 66) wn_MO_callsPush_0 (by decide +kernel))
theorem d_MO_callsPush_67 : decode b_MO_callsPush 67 = .ok (.invokevirtual 363, 3) := dc_182 (qU2_win (r := 67) wn_MO_callsPush_0 (by decide +kernel))
theorem d_MO_callsPush_70 : decode b_MO_callsPush 70 = .ok (.istore 5, 2) := dc_54 (qU1_win (r := 70) wn_MO_callsPush_0 (by decide +kernel))
theorem d_MO_callsPush_72 : decode b_MO_callsPush 72 = .ok (.aload_n 0, 1) := dc_42 (q0_win (r := 72) wn_MO_callsPush_0 (by decide +kernel))
theorem d_MO_callsPush_73 : decode b_MO_callsPush 73 = .ok (.getfield 106, 3) := dc_180 (qU2_win (r := 73) wn_MO_callsPush_0 (by decide +kernel))
theorem d_MO_callsPush_76 : decode b_MO_callsPush 76 = .ok (.iconst 2, 1) := dc_5 (q0_win (r := 76) wn_MO_callsPush_0 (by decide +kernel))
theorem d_MO_callsPush_77 : decode b_MO_callsPush 77 = .ok (.iload 5, 2) := dc_21 (qU1_win (r := 77) wn_MO_callsPush_0 (by decide +kernel))
theorem d_MO_callsPush_79 : decode b_MO_callsPush 79 = .ok (.iconst (-1), 1) := dc_2 (q0_win (r := 79) wn_MO_callsPush_0 (by decide +kernel))
theorem d_MO_callsPush_80 : decode b_MO_callsPush 80 = .ok (.if_icmp .eq 7, 3) := dc_159 (qS2_win (r := 80) wn_MO_callsPush_0 (by decide +kernel))
theorem d_MO_callsPush_83 : decode b_MO_callsPush 83 = .ok (.iconst 1, 1) := dc_4 (q0_win (r := 83) wn_MO_callsPush_0 (by decide +kernel))
theorem d_MO_callsPush_84 : decode b_MO_callsPush 84 = .ok (.goto 4, 3) := dc_167 (qS2_win (r := 84) wn_MO_callsPush_0 (by decide +kernel))
theorem d_MO_callsPush_87 : decode b_MO_callsPush 87 = .ok (.iconst 0, 1) := dc_3 (q0_win (r := 87) wn_MO_callsPush_0 (by decide +kernel))
theorem d_MO_callsPush_88 : decode b_MO_callsPush 88 = .ok (.invokestatic 384, 3) := dc_184 (qU2_win (r := 88) wn_MO_callsPush_0 (by decide +kernel))
theorem d_MO_callsPush_91 : decode b_MO_callsPush 91 = .ok (.lastore, 1) := dc_80 (q0_win (r := 91) wn_MO_callsPush_0 (by decide +kernel))
theorem d_MO_callsPush_92 : decode b_MO_callsPush 92 = .ok (.aload_n 0, 1) := dc_42 (q0_win (r := 92) wn_MO_callsPush_0 (by decide +kernel))
theorem d_MO_callsPush_93 : decode b_MO_callsPush 93 = .ok (.getfield 106, 3) := dc_180 (qU2_win (r := 93) wn_MO_callsPush_0 (by decide +kernel))
theorem wn_MO_callsPush_96 : ∀ i, i < 88 → bA b_MO_callsPush (96 + i) = wB [6, 21, 5, 2, 160, 0, 7, 9, 167, 0, 11, 42, 180, 0, 38, 21, 5, 46, 133, 80, 42, 180, 0, 106, 7, 42, 27, 29, 182, 1, 103, 184, 1, 128, 80, 42, 3, 27, 182, 1, 79, 54, 6, 42, 180, 0, 106, 8, 21, 6, 7, 159, 0, 17, 21, 6, 5, 96, 7, 112, 28, 160, 0, 7, 4, 167, 0, 4, 3, 184, 1, 128, 80, 42, 180, 0, 106, 16, 6, 42, 180, 0, 60, 3, 46, 133, 80, 177] i := wB_of (by decide +kernel)
theorem d_MO_callsPush_96 : decode b_MO_callsPush 96 = .ok (.iconst 3, 1) := dc_6 (q0_win (r := 0) wn_MO_callsPush_96 (by decide +kernel))
theorem d_MO_callsPush_97 : decode b_MO_callsPush 97 = .ok (.iload 5, 2) := dc_21 (qU1_win (r := 1) wn_MO_callsPush_96 (by decide +kernel))
theorem d_MO_callsPush_99 : decode b_MO_callsPush 99 = .ok (.iconst (-1), 1) := dc_2 (q0_win (r := 3) wn_MO_callsPush_96 (by decide +kernel))
theorem d_MO_callsPush_100 : decode b_MO_callsPush 100 = .ok (.if_icmp .ne 7, 3) := dc_160 (qS2_win (r := 4) wn_MO_callsPush_96 (by decide +kernel))
theorem d_MO_callsPush_103 : decode b_MO_callsPush 103 = .ok (.lconst 0, 1) := dc_9 (q0_win (r := 7) wn_MO_callsPush_96 (by decide +kernel))
theorem d_MO_callsPush_104 : decode b_MO_callsPush 104 = .ok (.goto 11, 3) := dc_167 (qS2_win (r := 8) wn_MO_callsPush_96 (by decide +kernel))
theorem d_MO_callsPush_107 : decode b_MO_callsPush 107 = .ok (.aload_n 0, 1) := dc_42 (q0_win (r := 11) wn_MO_callsPush_96 (by decide +kernel))
theorem d_MO_callsPush_108 : decode b_MO_callsPush 108 = .ok (.getfield 38, 3) := dc_180 (qU2_win (r := 12) wn_MO_callsPush_96 (by decide +kernel))
theorem d_MO_callsPush_111 : decode b_MO_callsPush 111 = .ok (.iload 5, 2) := dc_21 (qU1_win (r := 15) wn_MO_callsPush_96 (by decide +kernel))
theorem d_MO_callsPush_113 : decode b_MO_callsPush 113 = .ok (.iaload, 1) := dc_46 (q0_win (r := 17) wn_MO_callsPush_96 (by decide +kernel))
theorem d_MO_callsPush_114 : decode b_MO_callsPush 114 = .ok (.i2l, 1) := dc_133 (q0_win (r := 18) wn_MO_callsPush_96 (by decide +kernel))
theorem d_MO_callsPush_115 : decode b_MO_callsPush 115 = .ok (.lastore, 1) := dc_80 (q0_win (r := 19) wn_MO_callsPush_96 (by decide +kernel))
theorem d_MO_callsPush_116 : decode b_MO_callsPush 116 = .ok (.aload_n 0, 1) := dc_42 (q0_win (r := 20) wn_MO_callsPush_96 (by decide +kernel))
theorem d_MO_callsPush_117 : decode b_MO_callsPush 117 = .ok (.getfield 106, 3) := dc_180 (qU2_win (r := 21) wn_MO_callsPush_96 (by decide +kernel))
theorem d_MO_callsPush_120 : decode b_MO_callsPush 120 = .ok (.iconst 4, 1) := dc_7 (q0_win (r := 24) wn_MO_callsPush_96 (by decide +kernel))
theorem d_MO_callsPush_121 : decode b_MO_callsPush 121 = .ok (.aload_n 0, 1) := dc_42 (q0_win (r := 25) wn_MO_callsPush_96 (by decide +kernel))
theorem d_MO_callsPush_122 : decode b_MO_callsPush 122 = .ok (.iload_n 1, 1) := dc_27 (q0_win (r := 26) wn_MO_callsPush_96 (by decide +kernel))
theorem d_MO_callsPush_123 : decode b_MO_callsPush 123 = .ok (.iload_n 3, 1) := dc_29 (q0_win (r := 27) wn_MO_callsPush_96 (by decide +kernel))
theorem d_MO_callsPush_124 : decode b_MO_callsPush 124 = .ok (.invokevirtual 359, 3) := dc_182 (qU2_win (r := 28) wn_MO_callsPush_96 (by decide +kernel))
theorem d_MO_callsPush_127 : decode b_MO_callsPush 127 = .ok (.invokestatic 384, 3) := dc_184 (qU2_win (r := 31) wn_MO_callsPush_96 (by decide +kernel))
theorem d_MO_callsPush_130 : decode b_MO_callsPush 130 = .ok (.lastore, 1) := dc_80 (q0_win (r := 34) wn_MO_callsPush_96 (by decide +kernel))
theorem d_MO_callsPush_131 : decode b_MO_callsPush 131 = .ok (.aload_n 0, 1) := dc_42 (q0_win (r := 35) wn_MO_callsPush_96 (by decide +kernel))
theorem d_MO_callsPush_132 : decode b_MO_callsPush 132 = .ok (.iconst 0, 1) := dc_3 (q0_win (r := 36) wn_MO_callsPush_96 (by decide +kernel))
theorem d_MO_callsPush_133 : decode b_MO_callsPush 133 = .ok (.iload_n 1, 1) := dc_27 (q0_win (r := 37) wn_MO_callsPush_96 (by decide +kernel))
theorem d_MO_callsPush_134 : decode b_MO_callsPush 134 = .ok (.invokevirtual 335, 3) := dc_182 (qU2_win (r := 38) wn_MO_callsPush_96 (by decide +kernel))
theorem d_MO_callsPush_137 : decode b_MO_callsPush 137 = .ok (.istore 6, 2) := dc_54 (qU1_win (r := 41) wn_MO_callsPush_96 (by decide +kernel))
theorem d_MO_callsPush_139 : decode b_MO_callsPush 139 = .ok (.aload_n 0, 1) := dc_42 (q0_win (r := 43) wn_MO_callsPush_96 (by decide +kernel))
theorem d_MO_callsPush_140 : decode b_MO_callsPush 140 = .ok (.getfield 106, 3) := dc_180 (qU2_win (r := 44) wn_MO_callsPush_96 (by decide +kernel))
theorem d_MO_callsPush_143 : decode b_MO_callsPush 143 = .ok (.iconst 5, 1) := dc_8 (q0_win (r := 47) wn_MO_callsPush_96 (by decide +kernel))
theorem d_MO_callsPush_144 : decode b_MO_callsPush 144 = .ok (.iload 6, 2) := dc_21 (qU1_win (r := 48) wn_MO_callsPush_96 (by decide +kernel))
theorem d_MO_callsPush_146 : decode b_MO_callsPush 146 = .ok (.iconst 4, 1) := dc_7 (q0_win (r := 50) wn_MO_callsPush_96 (by decide +kernel))
theorem d_MO_callsPush_147 : decode b_MO_callsPush 147 = .ok (.if_icmp .eq 17, 3) := dc_159 (qS2_win (r := 51) wn_MO_callsPush_96 (by decide +kernel))
theorem d_MO_callsPush_150 : decode b_MO_callsPush 150 = .ok (.iload 6, 2) := dc_21 (qU1_win (r := 54) wn_MO_callsPush_96 (by decide +kernel))
theorem d_MO_callsPush_152 : decode b_MO_callsPush 152 = .ok (.iconst 2, 1) := dc_5 (q0_win (r := 56) wn_MO_callsPush_96 (by decide +kernel))
theorem d_MO_callsPush_153 : decode b_MO_callsPush 153 = .ok (.iadd, 1) := dc_96 (q0_win (r := 57) wn_MO_callsPush_96 (by decide +kernel))
theorem d_MO_callsPush_154 : decode b_MO_callsPush 154 = .ok (.iconst 4, 1) := dc_7 (q0_win (r := 58) wn_MO_callsPush_96 (by decide +kernel))
theorem d_MO_callsPush_155 : decode b_MO_callsPush 155 = .ok (.irem, 1) := dc_112 (q0_win (r := 59) wn_MO_callsPush_96 (by decide +kernel))
theorem d_MO_callsPush_156 : decode b_MO_callsPush 156 = .ok (.iload_n 2, 1) := dc_28 (q0_win (r := 60) wn_MO_callsPush_96 (by decide +kernel))
theorem d_MO_callsPush_157 : decode b_MO_callsPush 157 = .ok (.if_icmp .ne 7, 3) := dc_160 (qS2_win (r := 61) wn_MO_callsPush_96 (by decide +kernel))
theorem d_MO_callsPush_160 : decode b_MO_callsPush 160 = .ok (.iconst 1, 1) := dc_4 (q0_win (r := 64) wn_MO_callsPush_96 (by decide +kernel))
theorem d_MO_callsPush_161 : decode b_MO_callsPush 161 = .ok (.goto 4, 3) := dc_167 (qS2_win (r := 65) wn_MO_callsPush_96 (by decide +kernel))
theorem d_MO_callsPush_164 : decode b_MO_callsPush 164 = .ok (.iconst 0, 1) := dc_3 (q0_win (r := 68) wn_MO_callsPush_96 (by decide +kernel))
theorem d_MO_callsPush_165 : decode b_MO_callsPush 165 = .ok (.invokestatic 384, 3) := dc_184 (qU2_win (r := 69) wn_MO_callsPush_96 (by decide +kernel))
theorem d_MO_callsPush_168 : decode b_MO_callsPush 168 = .ok (.lastore, 1) := dc_80 (q0_win (r := 72) wn_MO_callsPush_96 (by decide +kernel))
theorem d_MO_callsPush_169 : decode b_MO_callsPush 169 = .ok (.aload_n 0, 1) := dc_42 (q0_win (r := 73) wn_MO_callsPush_96 (by decide +kernel))
theorem d_MO_callsPush_170 : decode b_MO_callsPush 170 = .ok (.getfield 106, 3) := dc_180 (qU2_win (r := 74) wn_MO_callsPush_96 (by decide +kernel))
theorem d_MO_callsPush_173 : decode b_MO_callsPush 173 = .ok (.bipush 6, 2) := dc_16 (qS1_win (r := 77) wn_MO_callsPush_96 (by decide +kernel))
theorem d_MO_callsPush_175 : decode b_MO_callsPush 175 = .ok (.aload_n 0, 1) := dc_42 (q0_win (r := 79) wn_MO_callsPush_96 (by decide +kernel))
theorem d_MO_callsPush_176 : decode b_MO_callsPush 176 = .ok (.getfield 60, 3) := dc_180 (qU2_win (r := 80) wn_MO_callsPush_96 (by decide +kernel))
theorem d_MO_callsPush_179 : decode b_MO_callsPush 179 = .ok (.iconst 0, 1) := dc_3 (q0_win (r := 83) wn_MO_callsPush_96 (by decide +kernel))
theorem d_MO_callsPush_180 : decode b_MO_callsPush 180 = .ok (.iaload, 1) := dc_46 (q0_win (r := 84) wn_MO_callsPush_96 (by decide +kernel))
theorem d_MO_callsPush_181 : decode b_MO_callsPush 181 = .ok (.i2l, 1) := dc_133 (q0_win (r := 85) wn_MO_callsPush_96 (by decide +kernel))
theorem d_MO_callsPush_182 : decode b_MO_callsPush 182 = .ok (.lastore, 1) := dc_80 (q0_win (r := 86) wn_MO_callsPush_96 (by decide +kernel))
theorem d_MO_callsPush_183 : decode b_MO_callsPush 183 = .ok (.return_, 1) := dc_177 (q0_win (r := 87) wn_MO_callsPush_96 (by decide +kernel))
def t_MO_callsPush_L165 (x1 : Int) (x2 : Int)  (M : Mem) (v2_ : Int) (v3_ : Int) : Option (Mem) := (qlet (t_MO_is M v3_) fun q36 => (qguard (0 ≤ v2_ ∧ v2_ < 7) (qlet (setL M 220 v2_ q36) fun M39 => (qlet (setL M39 220 6 (q_i2l (M39.1 207 0))) fun M41 => (some M41)))))
def t_MO_callsPush_L164 (x1 : Int) (x2 : Int)  (M : Mem) (v2_ : Int) : Option (Mem) := (t_MO_callsPush_L165 x1 x2 M v2_ 0)
def t_MO_callsPush_L115 (x1 : Int) (x2 : Int)  (M : Mem) (v3_ : Int) (v5_ : Int) (v6_ : Int64) : Option (Mem) := (qguard (0 ≤ v5_ ∧ v5_ < 7) (qlet (setL M 220 v5_ v6_) fun M26 => (obind (t_MO_isLine M26 x1 v3_) fun q27 => (qlet (t_MO_is M26 q27) fun q29 => (qlet (setL M26 220 4 q29) fun M31 => (obind (t_MO_downOf M31 0 x1) fun q32 => (if q32 = 4 then (t_MO_callsPush_L164 x1 x2 M31 5) else (if (q_rem (w32 (q32 + 2)) 4) = x2 then (t_MO_callsPush_L165 x1 x2 M31 5 1) else (t_MO_callsPush_L164 x1 x2 M31 5)))))))))
def t_MO_callsPush_L88 (x1 : Int) (x2 : Int)  (M : Mem) (v3_ : Int) (v4_ : Int) (v6_ : Int) (v7_ : Int) : Option (Mem) := (qlet (t_MO_is M v7_) fun q18 => (qguard (0 ≤ v6_ ∧ v6_ < 7) (qlet (setL M 220 v6_ q18) fun M21 => (if v4_ = (-1) then (t_MO_callsPush_L115 x1 x2 M21 v3_ 3 0) else (qguard (0 ≤ v4_ ∧ v4_ < 16) (t_MO_callsPush_L115 x1 x2 M21 v3_ 3 (q_i2l (M21.1 201 v4_))))))))
def t_MO_callsPush_L63 (x1 : Int) (x2 : Int)  (M : Mem) (v3_ : Int) (v5_ : Int) (v6_ : Int64) : Option (Mem) := (qguard (0 ≤ v5_ ∧ v5_ < 7) (qlet (setL M 220 v5_ v6_) fun M14 => (obind (t_MO_thingIn M14 0 v3_) fun q15 => (if q15 = (-1) then (t_MO_callsPush_L88 x1 x2 M14 v3_ q15 2 0) else (t_MO_callsPush_L88 x1 x2 M14 v3_ q15 2 1)))))
def t_MO_callsPush_L40 (x1 : Int) (x2 : Int)  (M : Mem) (v3_ : Int) (v4_ : Int) (v6_ : Int) (v7_ : Int64) : Option (Mem) := (qguard (0 ≤ v6_ ∧ v6_ < 7) (qlet (setL M 220 v6_ v7_) fun M9 => (if v4_ = (-1) then (t_MO_callsPush_L63 x1 x2 M9 v3_ 1 0) else (obind (t_MO_sizeOf M9 v4_) fun q11 => (t_MO_callsPush_L63 x1 x2 M9 v3_ 1 (q_i2l q11))))))
def t_MO_callsPush (M : Mem) (x1 : Int) (x2 : Int) : Option (Mem) := (obind (t_MO_beside M x1 x2) fun q1 => (qguard (0 ≤ q1 ∧ q1 < 96) (if (w32 ((M.1 197 q1) - 1)) = (-1) then (t_MO_callsPush_L40 x1 x2 M q1 (w32 ((M.1 197 q1) - 1)) 0 0) else (qguard (0 ≤ (w32 ((M.1 197 q1) - 1)) ∧ (w32 ((M.1 197 q1) - 1)) < 8) (t_MO_callsPush_L40 x1 x2 M q1 (w32 ((M.1 197 q1) - 1)) 0 (q_i2l (M.1 196 (w32 ((M.1 197 q1) - 1)))))))))
set_option maxHeartbeats 4000000 in
set_option maxRecDepth 100000 in
theorem k_MO_callsPush_L165 (l : Launch) {p : Program} {e : Env} {s : State} {m : MethodId} {below : List Frame} {meth : Method} {c : Code} {b n : Nat} {C : CT} (hlo : 231 ≤ n) (x1 : Int) (x2 : Int) (hx1 : InR x1) (hx2 : InR x2) (F : Cx b p m c b_MO_callsPush 7 s ([.ref (b + 191), vI x1, vI x2] : List Value).toArray "WardFallsModel" C n 231) (hlk : meth.locks = false) (hr : meth.sig.returnType = none) {res : Mem} (M : Mem) (v2_ : Int) (hv2_ : InR v2_) (v3_ : Int) (hv3_ : v3_ = 0 ∨ v3_ = 1) (H : Heap) (locs : List Loc) (ls : Array Slot) (hS : St b C n M s H locs) (hl : lv_has ls 7 [(0, .ref (b + 191))]) (hT : t_MO_callsPush_L165 x1 x2 M v2_ v3_ = some res) : W p l e (headSpec (wsM y_MO_callsPush b_MO_callsPush 7 (none)) (rmD 2)).room s m ([.ref (b + 191), vI x1, vI x2] : List Value).toArray below meth c H locs 0 0 (MQ below (QV b C n res) ([.ref (b + 191), vI x1, vI x2] : List Value).toArray s 0 0 (frb b)) (F0 m 165 ls [vI v3_, vI v2_, .ref (b + 220)]) := by
  unfold t_MO_callsPush_L165 at hT
  obtain ⟨q36, hq36⟩ : ∃ q, q = (t_MO_is M v3_) := ⟨_, rfl⟩
  replace hT := qlet_eq hT hq36
  refine r_backL F hS (r_runS (As := [vI v3_]) F hS (c_MO_is l F.2.2.1 M v3_ (inr_z hv3_) _ hq36.symm) gs_MO_384 hd_MO_is ⟨Nat.le_of_ble_eq_true rfl, Nat.le_of_ble_eq_true rfl⟩ rfl hl.1 (Nat.le_of_ble_eq_true rfl) ⟨Nat.zero_le _, Nat.zero_le _⟩ rfl d_MO_callsPush_165) (fun H locs hS => ?_)
  obtain ⟨⟨g38a, g38b⟩, hT⟩ := q_guard hT
  refine r_last F hS (show 220 < 231 by decide) (show shK 220 = 2 from rfl) (show shN 220 = 7 from rfl) hv2_ g38a g38b d_MO_callsPush_168 (fun H locs hS => ?_)
  obtain ⟨M39, eM39⟩ : ∃ q, q = (setL M 220 v2_ q36) := ⟨_, rfl⟩
  replace hS : St b C n M39 s H locs := by rw [eM39]; exact hS
  replace hT := qlet_eq hT eM39
  refine lv_aload_n F.hx F.hb d_MO_callsPush_169 rfl (lv_at hl 0 rfl) ?_
  refine r_get (v := .ref (b + 220)) (N := 68) (T := T1) (j := 52) F hS (show 191 < 231 by decide) (show shK 191 = 5 from rfl) (show shN 191 = 68 from rfl) rfl (Nat.le_of_ble_eq_true rfl) ing1 mw_1441 (fv_sg rfl rfl rfl) d_MO_callsPush_170 ?_
  refine r_bipush F.hx F.hb d_MO_callsPush_173 rfl ?_
  refine lv_aload_n F.hx F.hb d_MO_callsPush_175 rfl (lv_at hl 0 rfl) ?_
  refine r_get (v := .ref (b + 207)) (N := 68) (T := T1) (j := 30) F hS (show 191 < 231 by decide) (show shK 191 = 5 from rfl) (show shN 191 = 68 from rfl) rfl (Nat.le_of_ble_eq_true rfl) ing1 mw_1419 (fv_sg rfl rfl rfl) d_MO_callsPush_176 ?_
  refine r_iconst F.hx F.hb d_MO_callsPush_179 ?_
  refine r_iald F hS (show 207 < 231 by decide) (show shK 207 = 0 from rfl) (show shN 207 = 23 from rfl) (inr_c rfl) (by omega) (by omega) d_MO_callsPush_180 ?_
  have i40 := hS.rng 207 0
  refine r_i2l F.hx F.hb d_MO_callsPush_181 ?_
  refine r_last F hS (show 220 < 231 by decide) (show shK 220 = 2 from rfl) (show shN 220 = 7 from rfl) (inr_c rfl) (by omega) (by omega) d_MO_callsPush_182 (fun H locs hS => ?_)
  obtain ⟨M41, eM41⟩ : ∃ q, q = (setL M39 220 6 (q_i2l (M39.1 207 0))) := ⟨_, rfl⟩
  replace hS : St b C n M41 s H locs := by rw [eM41]; exact hS
  replace hT := qlet_eq hT eM41
  cases hT
  exact r_vret F hlk hr hS d_MO_callsPush_183
set_option maxHeartbeats 4000000 in
set_option maxRecDepth 100000 in
theorem k_MO_callsPush_L164 (l : Launch) {p : Program} {e : Env} {s : State} {m : MethodId} {below : List Frame} {meth : Method} {c : Code} {b n : Nat} {C : CT} (hlo : 231 ≤ n) (x1 : Int) (x2 : Int) (hx1 : InR x1) (hx2 : InR x2) (F : Cx b p m c b_MO_callsPush 7 s ([.ref (b + 191), vI x1, vI x2] : List Value).toArray "WardFallsModel" C n 231) (hlk : meth.locks = false) (hr : meth.sig.returnType = none) {res : Mem} (M : Mem) (v2_ : Int) (hv2_ : InR v2_) (H : Heap) (locs : List Loc) (ls : Array Slot) (hS : St b C n M s H locs) (hl : lv_has ls 7 [(0, .ref (b + 191))]) (hT : t_MO_callsPush_L164 x1 x2 M v2_ = some res) : W p l e (headSpec (wsM y_MO_callsPush b_MO_callsPush 7 (none)) (rmD 2)).room s m ([.ref (b + 191), vI x1, vI x2] : List Value).toArray below meth c H locs 0 0 (MQ below (QV b C n res) ([.ref (b + 191), vI x1, vI x2] : List Value).toArray s 0 0 (frb b)) (F0 m 164 ls [vI v2_, .ref (b + 220)]) := by
  unfold t_MO_callsPush_L164 at hT
  refine r_iconst F.hx F.hb d_MO_callsPush_164 ?_
  exact k_MO_callsPush_L165 l hlo x1 x2 hx1 hx2 F hlk hr M v2_ hv2_ 0 (Or.inl rfl) _ _ _ hS (lv_sub hl [0] rfl) hT
set_option maxHeartbeats 4000000 in
set_option maxRecDepth 100000 in
theorem k_MO_callsPush_L115 (l : Launch) {p : Program} {e : Env} {s : State} {m : MethodId} {below : List Frame} {meth : Method} {c : Code} {b n : Nat} {C : CT} (hlo : 231 ≤ n) (x1 : Int) (x2 : Int) (hx1 : InR x1) (hx2 : InR x2) (F : Cx b p m c b_MO_callsPush 7 s ([.ref (b + 191), vI x1, vI x2] : List Value).toArray "WardFallsModel" C n 231) (hlk : meth.locks = false) (hr : meth.sig.returnType = none) {res : Mem} (M : Mem) (v3_ : Int) (hv3_ : InR v3_) (v5_ : Int) (hv5_ : InR v5_) (v6_ : Int64) (H : Heap) (locs : List Loc) (ls : Array Slot) (hS : St b C n M s H locs) (hl : lv_has ls 7 [(0, .ref (b + 191)), (1, vI x1), (2, vI x2), (3, vI v3_)]) (hT : t_MO_callsPush_L115 x1 x2 M v3_ v5_ v6_ = some res) : W p l e (headSpec (wsM y_MO_callsPush b_MO_callsPush 7 (none)) (rmD 2)).room s m ([.ref (b + 191), vI x1, vI x2] : List Value).toArray below meth c H locs 0 0 (MQ below (QV b C n res) ([.ref (b + 191), vI x1, vI x2] : List Value).toArray s 0 0 (frb b)) (F0 m 115 ls [.long v6_, vI v5_, .ref (b + 220)]) := by
  unfold t_MO_callsPush_L115 at hT
  obtain ⟨⟨g25a, g25b⟩, hT⟩ := q_guard hT
  refine r_last F hS (show 220 < 231 by decide) (show shK 220 = 2 from rfl) (show shN 220 = 7 from rfl) hv5_ g25a g25b d_MO_callsPush_115 (fun H locs hS => ?_)
  obtain ⟨M26, eM26⟩ : ∃ q, q = (setL M 220 v5_ v6_) := ⟨_, rfl⟩
  replace hS : St b C n M26 s H locs := by rw [eM26]; exact hS
  replace hT := qlet_eq hT eM26
  refine lv_aload_n F.hx F.hb d_MO_callsPush_116 rfl (lv_at hl 0 rfl) ?_
  refine r_get (v := .ref (b + 220)) (N := 68) (T := T1) (j := 52) F hS (show 191 < 231 by decide) (show shK 191 = 5 from rfl) (show shN 191 = 68 from rfl) rfl (Nat.le_of_ble_eq_true rfl) ing1 mw_1441 (fv_sg rfl rfl rfl) d_MO_callsPush_117 ?_
  refine r_iconst F.hx F.hb d_MO_callsPush_120 ?_
  refine lv_aload_n F.hx F.hb d_MO_callsPush_121 rfl (lv_at hl 0 rfl) ?_
  refine lv_iload_n F.hx F.hb d_MO_callsPush_122 rfl (lv_at hl 1 rfl) ?_
  refine lv_iload_n F.hx F.hb d_MO_callsPush_123 rfl (lv_at hl 3 rfl) ?_
  obtain ⟨q27, hq27, hT⟩ := q_obind hT
  refine r_backZ F hS (r_runV (k := 191) (N := 68) (T := T1) (As := [vI x1, vI v3_]) F hS (show 191 < 231 by decide) (show shK 191 = 5 from rfl) rfl (c_MO_isLine l F.2.2.1 M26 x1 v3_ hx1 hv3_ _ hq27) gs_MO_359 hd_MO_isLine ⟨Nat.le_of_ble_eq_true rfl, Nat.le_of_ble_eq_true rfl⟩ rfl hl.1 (Nat.le_of_ble_eq_true rfl) ⟨Nat.zero_le _, Nat.zero_le _⟩ rfl d_MO_callsPush_124) (fun H locs hS h28 => ?_)
  obtain ⟨q29, hq29⟩ : ∃ q, q = (t_MO_is M26 q27) := ⟨_, rfl⟩
  replace hT := qlet_eq hT hq29
  refine r_backL F hS (r_runS (As := [vI q27]) F hS (c_MO_is l F.2.2.1 M26 q27 (inr_z h28) _ hq29.symm) gs_MO_384 hd_MO_is ⟨Nat.le_of_ble_eq_true rfl, Nat.le_of_ble_eq_true rfl⟩ rfl hl.1 (Nat.le_of_ble_eq_true rfl) ⟨Nat.zero_le _, Nat.zero_le _⟩ rfl d_MO_callsPush_127) (fun H locs hS => ?_)
  refine r_last F hS (show 220 < 231 by decide) (show shK 220 = 2 from rfl) (show shN 220 = 7 from rfl) (inr_c rfl) (by omega) (by omega) d_MO_callsPush_130 (fun H locs hS => ?_)
  obtain ⟨M31, eM31⟩ : ∃ q, q = (setL M26 220 4 q29) := ⟨_, rfl⟩
  replace hS : St b C n M31 s H locs := by rw [eM31]; exact hS
  replace hT := qlet_eq hT eM31
  refine lv_aload_n F.hx F.hb d_MO_callsPush_131 rfl (lv_at hl 0 rfl) ?_
  refine r_iconst F.hx F.hb d_MO_callsPush_132 ?_
  refine lv_iload_n F.hx F.hb d_MO_callsPush_133 rfl (lv_at hl 1 rfl) ?_
  obtain ⟨q32, hq32, hT⟩ := q_obind hT
  refine r_backI F hS (r_runV (k := 191) (N := 68) (T := T1) (As := [vI 0, vI x1]) F hS (show 191 < 231 by decide) (show shK 191 = 5 from rfl) rfl (c_MO_downOf l F.2.2.1 M31 0 x1 (inr_c rfl) hx1 _ hq32) gs_MO_335 hd_MO_downOf ⟨Nat.le_of_ble_eq_true rfl, Nat.le_of_ble_eq_true rfl⟩ rfl hl.1 (Nat.le_of_ble_eq_true rfl) ⟨Nat.zero_le _, Nat.zero_le _⟩ rfl d_MO_callsPush_134) (fun H locs hS h33 => ?_)
  refine lv_istore (lv' := [(6, vI q32), (0, .ref (b + 191)), (1, vI x1), (2, vI x2), (3, vI v3_)]) F.hx F.hb d_MO_callsPush_137 hl (Nat.le_of_ble_eq_true rfl) rfl (fun ls hl => ?_)
  refine lv_aload_n F.hx F.hb d_MO_callsPush_139 rfl (lv_at hl 1 rfl) ?_
  refine r_get (v := .ref (b + 220)) (N := 68) (T := T1) (j := 52) F hS (show 191 < 231 by decide) (show shK 191 = 5 from rfl) (show shN 191 = 68 from rfl) rfl (Nat.le_of_ble_eq_true rfl) ing1 mw_1441 (fv_sg rfl rfl rfl) d_MO_callsPush_140 ?_
  refine r_iconst F.hx F.hb d_MO_callsPush_143 ?_
  refine lv_iload F.hx F.hb d_MO_callsPush_144 (lv_at hl 0 rfl) ?_
  refine r_iconst F.hx F.hb d_MO_callsPush_146 ?_
  refine r_icmp_eq (tgt := 164) F.hx F.hb h33 (inr_c rfl) d_MO_callsPush_147 (by decide) (fun c34 => ?_) (fun c34 => ?_)
  · replace hT := (if_pos c34).symm.trans hT
    exact k_MO_callsPush_L164 l hlo x1 x2 hx1 hx2 F hlk hr M31 5 (inr_c rfl) _ _ _ hS (lv_sub hl [1] rfl) hT
  · replace hT := (if_neg c34).symm.trans hT
    refine lv_iload F.hx F.hb d_MO_callsPush_150 (lv_at hl 0 rfl) ?_
    refine r_iconst F.hx F.hb d_MO_callsPush_152 ?_
    refine r_iadd F.hx F.hb d_MO_callsPush_153 ?_
    refine r_iconst F.hx F.hb d_MO_callsPush_154 ?_
    refine r_irem F.hx F.hb (inr_c rfl) (by decide) d_MO_callsPush_155 ?_
    refine lv_iload_n F.hx F.hb d_MO_callsPush_156 rfl (lv_at hl 3 rfl) ?_
    refine r_icmp_ne (tgt := 164) F.hx F.hb (q_inr_toInt _) hx2 d_MO_callsPush_157 (by decide) (fun c35 => ?_) (fun c35 => ?_)
    · replace hT := (if_neg c35).symm.trans hT
      exact k_MO_callsPush_L164 l hlo x1 x2 hx1 hx2 F hlk hr M31 5 (inr_c rfl) _ _ _ hS (lv_sub hl [1] rfl) hT
    · replace hT := (if_pos c35).symm.trans hT
      refine r_iconst F.hx F.hb d_MO_callsPush_160 ?_
      refine lv_goto (tgt := 165) F.hx F.hb d_MO_callsPush_161 (by decide) ?_
      exact k_MO_callsPush_L165 l hlo x1 x2 hx1 hx2 F hlk hr M31 5 (inr_c rfl) 1 (Or.inr rfl) _ _ _ hS (lv_sub hl [1] rfl) hT
set_option maxHeartbeats 4000000 in
set_option maxRecDepth 100000 in
theorem k_MO_callsPush_L88 (l : Launch) {p : Program} {e : Env} {s : State} {m : MethodId} {below : List Frame} {meth : Method} {c : Code} {b n : Nat} {C : CT} (hlo : 231 ≤ n) (x1 : Int) (x2 : Int) (hx1 : InR x1) (hx2 : InR x2) (F : Cx b p m c b_MO_callsPush 7 s ([.ref (b + 191), vI x1, vI x2] : List Value).toArray "WardFallsModel" C n 231) (hlk : meth.locks = false) (hr : meth.sig.returnType = none) {res : Mem} (M : Mem) (v3_ : Int) (hv3_ : InR v3_) (v4_ : Int) (hv4_ : InR v4_) (v6_ : Int) (hv6_ : InR v6_) (v7_ : Int) (hv7_ : v7_ = 0 ∨ v7_ = 1) (H : Heap) (locs : List Loc) (ls : Array Slot) (hS : St b C n M s H locs) (hl : lv_has ls 7 [(0, .ref (b + 191)), (1, vI x1), (2, vI x2), (3, vI v3_), (5, vI v4_)]) (hT : t_MO_callsPush_L88 x1 x2 M v3_ v4_ v6_ v7_ = some res) : W p l e (headSpec (wsM y_MO_callsPush b_MO_callsPush 7 (none)) (rmD 2)).room s m ([.ref (b + 191), vI x1, vI x2] : List Value).toArray below meth c H locs 0 0 (MQ below (QV b C n res) ([.ref (b + 191), vI x1, vI x2] : List Value).toArray s 0 0 (frb b)) (F0 m 88 ls [vI v7_, vI v6_, .ref (b + 220)]) := by
  unfold t_MO_callsPush_L88 at hT
  obtain ⟨q18, hq18⟩ : ∃ q, q = (t_MO_is M v7_) := ⟨_, rfl⟩
  replace hT := qlet_eq hT hq18
  refine r_backL F hS (r_runS (As := [vI v7_]) F hS (c_MO_is l F.2.2.1 M v7_ (inr_z hv7_) _ hq18.symm) gs_MO_384 hd_MO_is ⟨Nat.le_of_ble_eq_true rfl, Nat.le_of_ble_eq_true rfl⟩ rfl hl.1 (Nat.le_of_ble_eq_true rfl) ⟨Nat.zero_le _, Nat.zero_le _⟩ rfl d_MO_callsPush_88) (fun H locs hS => ?_)
  obtain ⟨⟨g20a, g20b⟩, hT⟩ := q_guard hT
  refine r_last F hS (show 220 < 231 by decide) (show shK 220 = 2 from rfl) (show shN 220 = 7 from rfl) hv6_ g20a g20b d_MO_callsPush_91 (fun H locs hS => ?_)
  obtain ⟨M21, eM21⟩ : ∃ q, q = (setL M 220 v6_ q18) := ⟨_, rfl⟩
  replace hS : St b C n M21 s H locs := by rw [eM21]; exact hS
  replace hT := qlet_eq hT eM21
  refine lv_aload_n F.hx F.hb d_MO_callsPush_92 rfl (lv_at hl 0 rfl) ?_
  refine r_get (v := .ref (b + 220)) (N := 68) (T := T1) (j := 52) F hS (show 191 < 231 by decide) (show shK 191 = 5 from rfl) (show shN 191 = 68 from rfl) rfl (Nat.le_of_ble_eq_true rfl) ing1 mw_1441 (fv_sg rfl rfl rfl) d_MO_callsPush_93 ?_
  refine r_iconst F.hx F.hb d_MO_callsPush_96 ?_
  refine lv_iload F.hx F.hb d_MO_callsPush_97 (lv_at hl 4 rfl) ?_
  refine r_iconst F.hx F.hb d_MO_callsPush_99 ?_
  refine r_icmp_ne (tgt := 107) F.hx F.hb hv4_ (inr_c rfl) d_MO_callsPush_100 (by decide) (fun c22 => ?_) (fun c22 => ?_)
  · replace hT := (if_neg c22).symm.trans hT
    refine lv_aload_n F.hx F.hb d_MO_callsPush_107 rfl (lv_at hl 0 rfl) ?_
    refine r_get (v := .ref (b + 201)) (N := 68) (T := T1) (j := 11) F hS (show 191 < 231 by decide) (show shK 191 = 5 from rfl) (show shN 191 = 68 from rfl) rfl (Nat.le_of_ble_eq_true rfl) ing1 mw_1400 (fv_sg rfl rfl rfl) d_MO_callsPush_108 ?_
    refine lv_iload F.hx F.hb d_MO_callsPush_111 (lv_at hl 4 rfl) ?_
    obtain ⟨⟨g23a, g23b⟩, hT⟩ := q_guard hT
    refine r_iald F hS (show 201 < 231 by decide) (show shK 201 = 0 from rfl) (show shN 201 = 16 from rfl) hv4_ g23a g23b d_MO_callsPush_113 ?_
    have i24 := hS.rng 201 v4_
    refine r_i2l F.hx F.hb d_MO_callsPush_114 ?_
    exact k_MO_callsPush_L115 l hlo x1 x2 hx1 hx2 F hlk hr M21 v3_ hv3_ 3 (inr_c rfl) (q_i2l (M21.1 201 v4_)) _ _ _ hS (lv_sub hl [0, 1, 2, 3] rfl) hT
  · replace hT := (if_pos c22).symm.trans hT
    refine lv_lconst (v := 0) F.hx F.hb d_MO_callsPush_103 rfl ?_
    refine lv_goto (tgt := 115) F.hx F.hb d_MO_callsPush_104 (by decide) ?_
    exact k_MO_callsPush_L115 l hlo x1 x2 hx1 hx2 F hlk hr M21 v3_ hv3_ 3 (inr_c rfl) 0 _ _ _ hS (lv_sub hl [0, 1, 2, 3] rfl) hT
set_option maxHeartbeats 4000000 in
set_option maxRecDepth 100000 in
theorem k_MO_callsPush_L63 (l : Launch) {p : Program} {e : Env} {s : State} {m : MethodId} {below : List Frame} {meth : Method} {c : Code} {b n : Nat} {C : CT} (hlo : 231 ≤ n) (x1 : Int) (x2 : Int) (hx1 : InR x1) (hx2 : InR x2) (F : Cx b p m c b_MO_callsPush 7 s ([.ref (b + 191), vI x1, vI x2] : List Value).toArray "WardFallsModel" C n 231) (hlk : meth.locks = false) (hr : meth.sig.returnType = none) {res : Mem} (M : Mem) (v3_ : Int) (hv3_ : InR v3_) (v5_ : Int) (hv5_ : v5_ = 0 ∨ v5_ = 1) (v6_ : Int64) (H : Heap) (locs : List Loc) (ls : Array Slot) (hS : St b C n M s H locs) (hl : lv_has ls 7 [(0, .ref (b + 191)), (1, vI x1), (2, vI x2), (3, vI v3_)]) (hT : t_MO_callsPush_L63 x1 x2 M v3_ v5_ v6_ = some res) : W p l e (headSpec (wsM y_MO_callsPush b_MO_callsPush 7 (none)) (rmD 2)).room s m ([.ref (b + 191), vI x1, vI x2] : List Value).toArray below meth c H locs 0 0 (MQ below (QV b C n res) ([.ref (b + 191), vI x1, vI x2] : List Value).toArray s 0 0 (frb b)) (F0 m 63 ls [.long v6_, vI v5_, .ref (b + 220)]) := by
  unfold t_MO_callsPush_L63 at hT
  obtain ⟨⟨g13a, g13b⟩, hT⟩ := q_guard hT
  refine r_last F hS (show 220 < 231 by decide) (show shK 220 = 2 from rfl) (show shN 220 = 7 from rfl) (inr_z hv5_) g13a g13b d_MO_callsPush_63 (fun H locs hS => ?_)
  obtain ⟨M14, eM14⟩ : ∃ q, q = (setL M 220 v5_ v6_) := ⟨_, rfl⟩
  replace hS : St b C n M14 s H locs := by rw [eM14]; exact hS
  replace hT := qlet_eq hT eM14
  refine lv_aload_n F.hx F.hb d_MO_callsPush_64 rfl (lv_at hl 0 rfl) ?_
  refine r_iconst F.hx F.hb d_MO_callsPush_65 ?_
  refine lv_iload_n F.hx F.hb d_MO_callsPush_66 rfl (lv_at hl 3 rfl) ?_
  obtain ⟨q15, hq15, hT⟩ := q_obind hT
  refine r_backI F hS (r_runV (k := 191) (N := 68) (T := T1) (As := [vI 0, vI v3_]) F hS (show 191 < 231 by decide) (show shK 191 = 5 from rfl) rfl (c_MO_thingIn l F.2.2.1 M14 0 v3_ (inr_c rfl) hv3_ _ hq15) gs_MO_363 hd_MO_thingIn ⟨Nat.le_of_ble_eq_true rfl, Nat.le_of_ble_eq_true rfl⟩ rfl hl.1 (Nat.le_of_ble_eq_true rfl) ⟨Nat.zero_le _, Nat.zero_le _⟩ rfl d_MO_callsPush_67) (fun H locs hS h16 => ?_)
  refine lv_istore (lv' := [(5, vI q15), (0, .ref (b + 191)), (1, vI x1), (2, vI x2), (3, vI v3_)]) F.hx F.hb d_MO_callsPush_70 hl (Nat.le_of_ble_eq_true rfl) rfl (fun ls hl => ?_)
  refine lv_aload_n F.hx F.hb d_MO_callsPush_72 rfl (lv_at hl 1 rfl) ?_
  refine r_get (v := .ref (b + 220)) (N := 68) (T := T1) (j := 52) F hS (show 191 < 231 by decide) (show shK 191 = 5 from rfl) (show shN 191 = 68 from rfl) rfl (Nat.le_of_ble_eq_true rfl) ing1 mw_1441 (fv_sg rfl rfl rfl) d_MO_callsPush_73 ?_
  refine r_iconst F.hx F.hb d_MO_callsPush_76 ?_
  refine lv_iload F.hx F.hb d_MO_callsPush_77 (lv_at hl 0 rfl) ?_
  refine r_iconst F.hx F.hb d_MO_callsPush_79 ?_
  refine r_icmp_eq (tgt := 87) F.hx F.hb h16 (inr_c rfl) d_MO_callsPush_80 (by decide) (fun c17 => ?_) (fun c17 => ?_)
  · replace hT := (if_pos c17).symm.trans hT
    refine r_iconst F.hx F.hb d_MO_callsPush_87 ?_
    exact k_MO_callsPush_L88 l hlo x1 x2 hx1 hx2 F hlk hr M14 v3_ hv3_ q15 h16 2 (inr_c rfl) 0 (Or.inl rfl) _ _ _ hS (lv_sub hl [1, 2, 3, 4, 0] rfl) hT
  · replace hT := (if_neg c17).symm.trans hT
    refine r_iconst F.hx F.hb d_MO_callsPush_83 ?_
    refine lv_goto (tgt := 88) F.hx F.hb d_MO_callsPush_84 (by decide) ?_
    exact k_MO_callsPush_L88 l hlo x1 x2 hx1 hx2 F hlk hr M14 v3_ hv3_ q15 h16 2 (inr_c rfl) 1 (Or.inr rfl) _ _ _ hS (lv_sub hl [1, 2, 3, 4, 0] rfl) hT
set_option maxHeartbeats 4000000 in
set_option maxRecDepth 100000 in
theorem k_MO_callsPush_L40 (l : Launch) {p : Program} {e : Env} {s : State} {m : MethodId} {below : List Frame} {meth : Method} {c : Code} {b n : Nat} {C : CT} (hlo : 231 ≤ n) (x1 : Int) (x2 : Int) (hx1 : InR x1) (hx2 : InR x2) (F : Cx b p m c b_MO_callsPush 7 s ([.ref (b + 191), vI x1, vI x2] : List Value).toArray "WardFallsModel" C n 231) (hlk : meth.locks = false) (hr : meth.sig.returnType = none) {res : Mem} (M : Mem) (v3_ : Int) (hv3_ : InR v3_) (v4_ : Int) (hv4_ : InR v4_) (v6_ : Int) (hv6_ : v6_ = 0 ∨ v6_ = 1) (v7_ : Int64) (H : Heap) (locs : List Loc) (ls : Array Slot) (hS : St b C n M s H locs) (hl : lv_has ls 7 [(0, .ref (b + 191)), (1, vI x1), (2, vI x2), (3, vI v3_), (4, vI v4_)]) (hT : t_MO_callsPush_L40 x1 x2 M v3_ v4_ v6_ v7_ = some res) : W p l e (headSpec (wsM y_MO_callsPush b_MO_callsPush 7 (none)) (rmD 2)).room s m ([.ref (b + 191), vI x1, vI x2] : List Value).toArray below meth c H locs 0 0 (MQ below (QV b C n res) ([.ref (b + 191), vI x1, vI x2] : List Value).toArray s 0 0 (frb b)) (F0 m 40 ls [.long v7_, vI v6_, .ref (b + 220)]) := by
  unfold t_MO_callsPush_L40 at hT
  obtain ⟨⟨g8a, g8b⟩, hT⟩ := q_guard hT
  refine r_last F hS (show 220 < 231 by decide) (show shK 220 = 2 from rfl) (show shN 220 = 7 from rfl) (inr_z hv6_) g8a g8b d_MO_callsPush_40 (fun H locs hS => ?_)
  obtain ⟨M9, eM9⟩ : ∃ q, q = (setL M 220 v6_ v7_) := ⟨_, rfl⟩
  replace hS : St b C n M9 s H locs := by rw [eM9]; exact hS
  replace hT := qlet_eq hT eM9
  refine lv_aload_n F.hx F.hb d_MO_callsPush_41 rfl (lv_at hl 0 rfl) ?_
  refine r_get (v := .ref (b + 220)) (N := 68) (T := T1) (j := 52) F hS (show 191 < 231 by decide) (show shK 191 = 5 from rfl) (show shN 191 = 68 from rfl) rfl (Nat.le_of_ble_eq_true rfl) ing1 mw_1441 (fv_sg rfl rfl rfl) d_MO_callsPush_42 ?_
  refine r_iconst F.hx F.hb d_MO_callsPush_45 ?_
  refine lv_iload F.hx F.hb d_MO_callsPush_46 (lv_at hl 4 rfl) ?_
  refine r_iconst F.hx F.hb d_MO_callsPush_48 ?_
  refine r_icmp_ne (tgt := 56) F.hx F.hb hv4_ (inr_c rfl) d_MO_callsPush_49 (by decide) (fun c10 => ?_) (fun c10 => ?_)
  · replace hT := (if_neg c10).symm.trans hT
    refine lv_aload_n F.hx F.hb d_MO_callsPush_56 rfl (lv_at hl 0 rfl) ?_
    refine lv_iload F.hx F.hb d_MO_callsPush_57 (lv_at hl 4 rfl) ?_
    obtain ⟨q11, hq11, hT⟩ := q_obind hT
    refine r_backI F hS (r_runV (k := 191) (N := 68) (T := T1) (As := [vI v4_]) F hS (show 191 < 231 by decide) (show shK 191 = 5 from rfl) rfl (c_MO_sizeOf l F.2.2.1 M9 v4_ hv4_ _ hq11) gs_MO_372 hd_MO_sizeOf ⟨Nat.le_of_ble_eq_true rfl, Nat.le_of_ble_eq_true rfl⟩ rfl hl.1 (Nat.le_of_ble_eq_true rfl) ⟨Nat.zero_le _, Nat.zero_le _⟩ rfl d_MO_callsPush_59) (fun H locs hS h12 => ?_)
    refine r_i2l F.hx F.hb d_MO_callsPush_62 ?_
    exact k_MO_callsPush_L63 l hlo x1 x2 hx1 hx2 F hlk hr M9 v3_ hv3_ 1 (Or.inr rfl) (q_i2l q11) _ _ _ hS (lv_sub hl [0, 1, 2, 3] rfl) hT
  · replace hT := (if_pos c10).symm.trans hT
    refine lv_lconst (v := 0) F.hx F.hb d_MO_callsPush_52 rfl ?_
    refine lv_goto (tgt := 63) F.hx F.hb d_MO_callsPush_53 (by decide) ?_
    exact k_MO_callsPush_L63 l hlo x1 x2 hx1 hx2 F hlk hr M9 v3_ hv3_ 1 (Or.inr rfl) 0 _ _ _ hS (lv_sub hl [0, 1, 2, 3] rfl) hT
set_option maxHeartbeats 4000000 in
set_option maxRecDepth 100000 in
theorem c_MO_callsPush (l : Launch) {b n : Nat} {C : CT} (hlo : 231 ≤ n) (M : Mem) (x1 : Int) (x2 : Int) (hx1 : InR x1) (hx2 : InR x2) (res : Mem) (hT : t_MO_callsPush M x1 x2 = some res) : CM l b C n 2 y_MO_callsPush b_MO_callsPush 7 (none) [.ref (b + 191), vI x1, vI x2] M (QV b C n res) := by
  refine CM.of (lo := 231) (ow := "WardFallsModel") (by decide) rfl (Nat.le_of_ble_eq_true rfl) hlo (fun p e s m below meth c F hlk hr hS ls hl => ?_)
  have hl : lv_has ls 7 [(0, .ref (b + 191)), (1, vI x1), (2, vI x2)] := hl
  unfold t_MO_callsPush at hT
  refine lv_aload_n F.hx F.hb d_MO_callsPush_0 rfl (lv_at hl 0 rfl) ?_
  refine lv_iload_n F.hx F.hb d_MO_callsPush_1 rfl (lv_at hl 1 rfl) ?_
  refine lv_iload_n F.hx F.hb d_MO_callsPush_2 rfl (lv_at hl 2 rfl) ?_
  obtain ⟨q1, hq1, hT⟩ := q_obind hT
  refine r_backI F hS (r_runV (k := 191) (N := 68) (T := T1) (As := [vI x1, vI x2]) F hS (show 191 < 231 by decide) (show shK 191 = 5 from rfl) rfl (c_MO_beside l F.2.2.1 M x1 x2 hx1 hx2 _ hq1) gs_MO_338 hd_MO_beside ⟨Nat.le_of_ble_eq_true rfl, Nat.le_of_ble_eq_true rfl⟩ rfl hl.1 (Nat.le_of_ble_eq_true rfl) ⟨Nat.zero_le _, Nat.zero_le _⟩ rfl d_MO_callsPush_3) (fun H locs hS h2 => ?_)
  refine lv_istore_n (lv' := [(3, vI q1), (0, .ref (b + 191)), (1, vI x1), (2, vI x2)]) F.hx F.hb d_MO_callsPush_6 rfl hl (Nat.le_of_ble_eq_true rfl) rfl (fun ls hl => ?_)
  refine lv_aload_n F.hx F.hb d_MO_callsPush_7 rfl (lv_at hl 1 rfl) ?_
  refine r_get (v := .ref (b + 197)) (N := 68) (T := T1) (j := 7) F hS (show 191 < 231 by decide) (show shK 191 = 5 from rfl) (show shN 191 = 68 from rfl) rfl (Nat.le_of_ble_eq_true rfl) ing1 mw_1396 (fv_sg rfl rfl rfl) d_MO_callsPush_8 ?_
  refine lv_iload_n F.hx F.hb d_MO_callsPush_11 rfl (lv_at hl 0 rfl) ?_
  obtain ⟨⟨g3a, g3b⟩, hT⟩ := q_guard hT
  refine r_iald F hS (show 197 < 231 by decide) (show shK 197 = 0 from rfl) (show shN 197 = 96 from rfl) h2 g3a g3b d_MO_callsPush_12 ?_
  have i4 := hS.rng 197 q1
  refine r_iconst F.hx F.hb d_MO_callsPush_13 ?_
  refine r_isub F.hx F.hb d_MO_callsPush_14 ?_
  refine lv_istore (lv' := [(4, vI (w32 ((M.1 197 q1) - 1))), (3, vI q1), (0, .ref (b + 191)), (1, vI x1), (2, vI x2)]) F.hx F.hb d_MO_callsPush_15 hl (Nat.le_of_ble_eq_true rfl) rfl (fun ls hl => ?_)
  refine lv_aload_n F.hx F.hb d_MO_callsPush_17 rfl (lv_at hl 2 rfl) ?_
  refine r_get (v := .ref (b + 220)) (N := 68) (T := T1) (j := 52) F hS (show 191 < 231 by decide) (show shK 191 = 5 from rfl) (show shN 191 = 68 from rfl) rfl (Nat.le_of_ble_eq_true rfl) ing1 mw_1441 (fv_sg rfl rfl rfl) d_MO_callsPush_18 ?_
  refine r_iconst F.hx F.hb d_MO_callsPush_21 ?_
  refine lv_iload F.hx F.hb d_MO_callsPush_22 (lv_at hl 0 rfl) ?_
  refine r_iconst F.hx F.hb d_MO_callsPush_24 ?_
  refine r_icmp_ne (tgt := 32) F.hx F.hb (inr_w32 _) (inr_c rfl) d_MO_callsPush_25 (by decide) (fun c5 => ?_) (fun c5 => ?_)
  · replace hT := (if_neg c5).symm.trans hT
    refine lv_aload_n F.hx F.hb d_MO_callsPush_32 rfl (lv_at hl 2 rfl) ?_
    refine r_get (v := .ref (b + 196)) (N := 68) (T := T1) (j := 6) F hS (show 191 < 231 by decide) (show shK 191 = 5 from rfl) (show shN 191 = 68 from rfl) rfl (Nat.le_of_ble_eq_true rfl) ing1 mw_1395 (fv_sg rfl rfl rfl) d_MO_callsPush_33 ?_
    refine lv_iload F.hx F.hb d_MO_callsPush_36 (lv_at hl 0 rfl) ?_
    obtain ⟨⟨g6a, g6b⟩, hT⟩ := q_guard hT
    refine r_iald F hS (show 196 < 231 by decide) (show shK 196 = 0 from rfl) (show shN 196 = 8 from rfl) (inr_w32 _) g6a g6b d_MO_callsPush_38 ?_
    have i7 := hS.rng 196 (w32 ((M.1 197 q1) - 1))
    refine r_i2l F.hx F.hb d_MO_callsPush_39 ?_
    exact k_MO_callsPush_L40 l hlo x1 x2 hx1 hx2 F hlk hr M q1 h2 (w32 ((M.1 197 q1) - 1)) (inr_w32 _) 0 (Or.inl rfl) (q_i2l (M.1 196 (w32 ((M.1 197 q1) - 1)))) _ _ _ hS (lv_sub hl [2, 3, 4, 1, 0] rfl) hT
  · replace hT := (if_pos c5).symm.trans hT
    refine lv_lconst (v := 0) F.hx F.hb d_MO_callsPush_28 rfl ?_
    refine lv_goto (tgt := 40) F.hx F.hb d_MO_callsPush_29 (by decide) ?_
    exact k_MO_callsPush_L40 l hlo x1 x2 hx1 hx2 F hlk hr M q1 h2 (w32 ((M.1 197 q1) - 1)) (inr_w32 _) 0 (Or.inl rfl) 0 _ _ _ hS (lv_sub hl [2, 3, 4, 1, 0] rfl) hT
theorem d_MO_law_0 : decode b_MO_law 0 = .ok (.aload_n 0, 1) := dc_42 (by decide +kernel)
theorem d_MO_law_1 : decode b_MO_law 1 = .ok (.iconst 0, 1) := dc_3 (by decide +kernel)
theorem d_MO_law_2 : decode b_MO_law 2 = .ok (.putfield 145, 3) := dc_181 (by decide +kernel)
theorem d_MO_law_5 : decode b_MO_law 5 = .ok (.iload_n 1, 1) := dc_27 (by decide +kernel)
theorem d_MO_law_6 : decode b_MO_law 6 = .ok (.ifCond .lt 16, 3) := dc_155 (by decide +kernel)
theorem d_MO_law_9 : decode b_MO_law 9 = .ok (.iload_n 1, 1) := dc_27 (by decide +kernel)
theorem d_MO_law_10 : decode b_MO_law 10 = .ok (.iconst 1, 1) := dc_4 (by decide +kernel)
theorem d_MO_law_11 : decode b_MO_law 11 = .ok (.if_icmp .gt 11, 3) := dc_163 (by decide +kernel)
theorem d_MO_law_14 : decode b_MO_law 14 = .ok (.aload_n 0, 1) := dc_42 (by decide +kernel)
theorem d_MO_law_15 : decode b_MO_law 15 = .ok (.iload_n 1, 1) := dc_27 (by decide +kernel)
theorem d_MO_law_16 : decode b_MO_law 16 = .ok (.invokevirtual 401, 3) := dc_182 (by decide +kernel)
theorem d_MO_law_19 : decode b_MO_law 19 = .ok (.ifCond .ne 7, 3) := dc_154 (by decide +kernel)
theorem d_MO_law_22 : decode b_MO_law 22 = .ok (.ldc2_w 426, 3) := dc_20 (by decide +kernel)
theorem d_MO_law_25 : decode b_MO_law 25 = .ok (.lreturn, 1) := dc_173 (by decide +kernel)
theorem d_MO_law_26 : decode b_MO_law 26 = .ok (.iload_n 1, 1) := dc_27 (by decide +kernel)
theorem d_MO_law_27 : decode b_MO_law 27 = .ok (.iconst 1, 1) := dc_4 (by decide +kernel)
theorem d_MO_law_28 : decode b_MO_law 28 = .ok (.if_icmp .ne 24, 3) := dc_160 (by decide +kernel)
theorem d_MO_law_31 : decode b_MO_law 31 = .ok (.aload_n 0, 1) := dc_42 (by decide +kernel)
theorem d_MO_law_32 : decode b_MO_law 32 = .ok (.iload_n 2, 1) := dc_28 (by decide +kernel)
theorem d_MO_law_33 : decode b_MO_law 33 = .ok (.invokevirtual 369, 3) := dc_182 (by decide +kernel)
theorem d_MO_law_36 : decode b_MO_law 36 = .ok (.ifCond .ne 7, 3) := dc_154 (by decide +kernel)
theorem d_MO_law_39 : decode b_MO_law 39 = .ok (.ldc2_w 426, 3) := dc_20 (by decide +kernel)
theorem d_MO_law_42 : decode b_MO_law 42 = .ok (.lreturn, 1) := dc_173 (by decide +kernel)
theorem d_MO_law_43 : decode b_MO_law 43 = .ok (.aload_n 0, 1) := dc_42 (by decide +kernel)
theorem d_MO_law_44 : decode b_MO_law 44 = .ok (.iconst 0, 1) := dc_3 (by decide +kernel)
theorem d_MO_law_45 : decode b_MO_law 45 = .ok (.iload_n 2, 1) := dc_28 (by decide +kernel)
theorem d_MO_law_46 : decode b_MO_law 46 = .ok (.invokevirtual 417, 3) := dc_182 (by decide +kernel)
theorem d_MO_law_49 : decode b_MO_law 49 = .ok (.goto 43, 3) := dc_167 (by decide +kernel)
theorem d_MO_law_52 : decode b_MO_law 52 = .ok (.aload_n 0, 1) := dc_42 (by decide +kernel)
theorem d_MO_law_53 : decode b_MO_law 53 = .ok (.iload_n 2, 1) := dc_28 (by decide +kernel)
theorem d_MO_law_54 : decode b_MO_law 54 = .ok (.invokevirtual 428, 3) := dc_182 (by decide +kernel)
theorem d_MO_law_57 : decode b_MO_law 57 = .ok (.ifCond .eq 25, 3) := dc_153 (by decide +kernel)
theorem d_MO_law_60 : decode b_MO_law 60 = .ok (.iload_n 3, 1) := dc_29 (by decide +kernel)
theorem d_MO_law_61 : decode b_MO_law 61 = .ok (.ifCond .lt 21, 3) := dc_155 (by decide +kernel)
theorem d_MO_law_64 : decode b_MO_law 64 = .ok (.iload_n 3, 1) := dc_29 (by decide +kernel)
theorem d_MO_law_65 : decode b_MO_law 65 = .ok (.iconst 3, 1) := dc_6 (by decide +kernel)
theorem d_MO_law_66 : decode b_MO_law 66 = .ok (.if_icmp .gt 16, 3) := dc_163 (by decide +kernel)
theorem d_MO_law_69 : decode b_MO_law 69 = .ok (.aload_n 0, 1) := dc_42 (by decide +kernel)
theorem d_MO_law_70 : decode b_MO_law 70 = .ok (.aload_n 0, 1) := dc_42 (by decide +kernel)
theorem d_MO_law_71 : decode b_MO_law 71 = .ok (.iload_n 2, 1) := dc_28 (by decide +kernel)
theorem d_MO_law_72 : decode b_MO_law 72 = .ok (.iload_n 3, 1) := dc_29 (by decide +kernel)
theorem d_MO_law_73 : decode b_MO_law 73 = .ok (.invokevirtual 338, 3) := dc_182 (by decide +kernel)
theorem d_MO_law_76 : decode b_MO_law 76 = .ok (.invokevirtual 428, 3) := dc_182 (by decide +kernel)
theorem d_MO_law_79 : decode b_MO_law 79 = .ok (.ifCond .ne 7, 3) := dc_154 (by decide +kernel)
theorem d_MO_law_82 : decode b_MO_law 82 = .ok (.ldc2_w 426, 3) := dc_20 (by decide +kernel)
theorem d_MO_law_85 : decode b_MO_law 85 = .ok (.lreturn, 1) := dc_173 (by decide +kernel)
theorem d_MO_law_86 : decode b_MO_law 86 = .ok (.aload_n 0, 1) := dc_42 (by decide +kernel)
theorem d_MO_law_87 : decode b_MO_law 87 = .ok (.iload_n 2, 1) := dc_28 (by decide +kernel)
theorem d_MO_law_88 : decode b_MO_law 88 = .ok (.iload_n 3, 1) := dc_29 (by decide +kernel)
theorem d_MO_law_89 : decode b_MO_law 89 = .ok (.invokevirtual 431, 3) := dc_182 (by decide +kernel)
theorem d_MO_law_92 : decode b_MO_law 92 = .ok (.aload_n 0, 1) := dc_42 (by decide +kernel)
theorem d_MO_law_93 : decode b_MO_law 93 = .ok (.iload_n 1, 1) := dc_27 (by decide +kernel)
theorem d_MO_law_94 : decode b_MO_law 94 = .ok (.invokevirtual 404, 3) := dc_182 (by decide +kernel)
theorem d_MO_law_97 : decode b_MO_law 97 = .ok (.ifCond .eq 12, 3) := dc_153 (by decide +kernel)
theorem d_MO_law_100 : decode b_MO_law 100 = .ok (.aload_n 0, 1) := dc_42 (by decide +kernel)
theorem d_MO_law_101 : decode b_MO_law 101 = .ok (.getfield 109, 3) := dc_180 (by decide +kernel)
theorem d_MO_law_104 : decode b_MO_law 104 = .ok (.iconst 0, 1) := dc_3 (by decide +kernel)
theorem d_MO_law_105 : decode b_MO_law 105 = .ok (.laload, 1) := dc_47 (by decide +kernel)
theorem d_MO_law_106 : decode b_MO_law 106 = .ok (.goto 6, 3) := dc_167 (by decide +kernel)
theorem d_MO_law_109 : decode b_MO_law 109 = .ok (.ldc2_w 426, 3) := dc_20 (by decide +kernel)
theorem d_MO_law_112 : decode b_MO_law 112 = .ok (.lreturn, 1) := dc_173 (by decide +kernel)
def t_MO_law_L92 (x1 : Int) (x2 : Int) (x3 : Int)  (M : Mem)  : Option (Mem × Int64) := (obind (t_MO_goes M x1) fun q25 => (if (q25.2) = 0 then (some ((q25.1), (-9223372036854775808))) else (some ((q25.1), ((q25.1).2 221 0)))))
def t_MO_law (M : Mem) (x1 : Int) (x2 : Int) (x3 : Int) : Option (Mem × Int64) := (qlet (setI M 191 0 0) fun M1 => (if x1 < 0 then (some (M1, (-9223372036854775808))) else (if 1 < x1 then (some (M1, (-9223372036854775808))) else (obind (t_MO_hasLaw M1 x1) fun q4 => (if q4 = 0 then (some (M1, (-9223372036854775808))) else (if x1 = 1 then (qlet (t_MO_isWard M1 x2) fun q20 => (if q20 = 0 then (some (M1, (-9223372036854775808))) else (obind (t_MO_callsJoy M1 0 x2) fun q23 => (t_MO_law_L92 x1 x2 x3 q23)))) else (obind (t_MO_isOpen M1 x2) fun q8 => (if q8 = 0 then (some (M1, (-9223372036854775808))) else (if x3 < 0 then (some (M1, (-9223372036854775808))) else (if 3 < x3 then (some (M1, (-9223372036854775808))) else (obind (t_MO_beside M1 x2 x3) fun q13 => (obind (t_MO_isOpen M1 q13) fun q15 => (if q15 = 0 then (some (M1, (-9223372036854775808))) else (obind (t_MO_callsPush M1 x2 x3) fun q18 => (t_MO_law_L92 x1 x2 x3 q18)))))))))))))))
set_option maxHeartbeats 4000000 in
set_option maxRecDepth 100000 in
theorem k_MO_law_L92 (l : Launch) {p : Program} {e : Env} {s : State} {m : MethodId} {below : List Frame} {meth : Method} {c : Code} {b n : Nat} {C : CT} (hlo : 231 ≤ n) (x1 : Int) (x2 : Int) (x3 : Int) (hx1 : InR x1) (hx2 : InR x2) (hx3 : InR x3) (F : Cx b p m c b_MO_law 4 s ([.ref (b + 191), vI x1, vI x2, vI x3] : List Value).toArray "WardFallsModel" C n 231) (hlk : meth.locks = false) (hr : meth.sig.returnType = some .long) {res : Mem × Int64} (M : Mem)  (H : Heap) (locs : List Loc) (ls : Array Slot) (hS : St b C n M s H locs) (hl : lv_has ls 4 [(0, .ref (b + 191)), (1, vI x1)]) (hT : t_MO_law_L92 x1 x2 x3 M = some res) : W p l e (headSpec (wsM y_MO_law b_MO_law 4 (some .long)) (rmD 4)).room s m ([.ref (b + 191), vI x1, vI x2, vI x3] : List Value).toArray below meth c H locs 0 0 (MQ below (QL b C n res.1 res.2) ([.ref (b + 191), vI x1, vI x2, vI x3] : List Value).toArray s 0 0 (frb b)) (F0 m 92 ls []) := by
  unfold t_MO_law_L92 at hT
  refine lv_aload_n F.hx F.hb d_MO_law_92 rfl (lv_at hl 0 rfl) ?_
  refine lv_iload_n F.hx F.hb d_MO_law_93 rfl (lv_at hl 1 rfl) ?_
  obtain ⟨q25, hq25, hT⟩ := q_obind hT
  refine r_backZ F hS (r_runV (k := 191) (N := 68) (T := T1) (As := [vI x1]) F hS (show 191 < 231 by decide) (show shK 191 = 5 from rfl) rfl (c_MO_goes l F.2.2.1 M x1 hx1 _ hq25) gs_MO_404 hd_MO_goes ⟨Nat.le_of_ble_eq_true rfl, Nat.le_of_ble_eq_true rfl⟩ rfl hl.1 (Nat.le_of_ble_eq_true rfl) ⟨Nat.zero_le _, Nat.zero_le _⟩ rfl d_MO_law_94) (fun H locs hS h26 => ?_)
  refine r_if_eq (tgt := 109) F.hx F.hb (inr_z h26) d_MO_law_97 (by decide) (fun c27 => ?_) (fun c27 => ?_)
  · replace hT := (if_pos c27).symm.trans hT
    refine lv_ldc2 (v := (-9223372036854775808)) F.hx F.hb F.hown (F.hts mw_1855) d_MO_law_109 ?_
    cases hT
    exact r_lret F hlk hr hS d_MO_law_112
  · replace hT := (if_neg c27).symm.trans hT
    refine lv_aload_n F.hx F.hb d_MO_law_100 rfl (lv_at hl 0 rfl) ?_
    refine r_get (v := .ref (b + 221)) (N := 68) (T := T1) (j := 53) F hS (show 191 < 231 by decide) (show shK 191 = 5 from rfl) (show shN 191 = 68 from rfl) rfl (Nat.le_of_ble_eq_true rfl) ing1 mw_1442 (fv_sg rfl rfl rfl) d_MO_law_101 ?_
    refine r_iconst F.hx F.hb d_MO_law_104 ?_
    refine r_lald F hS (show 221 < 231 by decide) (show shK 221 = 2 from rfl) (show shN 221 = 64 from rfl) (inr_c rfl) (by omega) (by omega) d_MO_law_105 ?_
    refine lv_goto (tgt := 112) F.hx F.hb d_MO_law_106 (by decide) ?_
    cases hT
    exact r_lret F hlk hr hS d_MO_law_112
set_option maxHeartbeats 4000000 in
set_option maxRecDepth 100000 in
theorem c_MO_law (l : Launch) {b n : Nat} {C : CT} (hlo : 231 ≤ n) (M : Mem) (x1 : Int) (x2 : Int) (x3 : Int) (hx1 : InR x1) (hx2 : InR x2) (hx3 : InR x3) (res : Mem × Int64) (hT : t_MO_law M x1 x2 x3 = some res) : CM l b C n 4 y_MO_law b_MO_law 4 (some .long) [.ref (b + 191), vI x1, vI x2, vI x3] M (QL b C n res.1 res.2) := by
  refine CM.of (lo := 231) (ow := "WardFallsModel") (by decide) rfl (Nat.le_of_ble_eq_true rfl) hlo (fun p e s m below meth c F hlk hr hS ls hl => ?_)
  have hl : lv_has ls 4 [(0, .ref (b + 191)), (1, vI x1), (2, vI x2), (3, vI x3)] := hl
  unfold t_MO_law at hT
  refine lv_aload_n F.hx F.hb d_MO_law_0 rfl (lv_at hl 0 rfl) ?_
  refine r_iconst F.hx F.hb d_MO_law_1 ?_
  refine r_putI (N := 68) (T := T1) (j := 0) F hS (show 191 < 231 by decide) (show shK 191 = 5 from rfl) (show shN 191 = 68 from rfl) rfl (Nat.le_of_ble_eq_true rfl) ing1 tyok1 nm1 rfl rfl rfl rfl rfl rfl mw_1389 (inr_c rfl) d_MO_law_2 (fun H locs hS => ?_)
  obtain ⟨M1, eM1⟩ : ∃ q, q = (setI M 191 0 0) := ⟨_, rfl⟩
  replace hS : St b C n M1 s H locs := by rw [eM1]; exact hS
  replace hT := qlet_eq hT eM1
  refine lv_iload_n F.hx F.hb d_MO_law_5 rfl (lv_at hl 1 rfl) ?_
  refine r_if_lt (tgt := 22) F.hx F.hb hx1 d_MO_law_6 (by decide) (fun c2 => ?_) (fun c2 => ?_)
  · replace hT := (if_pos c2).symm.trans hT
    refine lv_ldc2 (v := (-9223372036854775808)) F.hx F.hb F.hown (F.hts mw_1855) d_MO_law_22 ?_
    cases hT
    exact r_lret F hlk hr hS d_MO_law_25
  · replace hT := (if_neg c2).symm.trans hT
    refine lv_iload_n F.hx F.hb d_MO_law_9 rfl (lv_at hl 1 rfl) ?_
    refine r_iconst F.hx F.hb d_MO_law_10 ?_
    refine r_icmp_gt (tgt := 22) F.hx F.hb hx1 (inr_c rfl) d_MO_law_11 (by decide) (fun c3 => ?_) (fun c3 => ?_)
    · replace hT := (if_pos c3).symm.trans hT
      refine lv_ldc2 (v := (-9223372036854775808)) F.hx F.hb F.hown (F.hts mw_1855) d_MO_law_22 ?_
      cases hT
      exact r_lret F hlk hr hS d_MO_law_25
    · replace hT := (if_neg c3).symm.trans hT
      refine lv_aload_n F.hx F.hb d_MO_law_14 rfl (lv_at hl 0 rfl) ?_
      refine lv_iload_n F.hx F.hb d_MO_law_15 rfl (lv_at hl 1 rfl) ?_
      obtain ⟨q4, hq4, hT⟩ := q_obind hT
      refine r_backZ F hS (r_runV (k := 191) (N := 68) (T := T1) (As := [vI x1]) F hS (show 191 < 231 by decide) (show shK 191 = 5 from rfl) rfl (c_MO_hasLaw l F.2.2.1 M1 x1 hx1 _ hq4) gs_MO_401 hd_MO_hasLaw ⟨Nat.le_of_ble_eq_true rfl, Nat.le_of_ble_eq_true rfl⟩ rfl hl.1 (Nat.le_of_ble_eq_true rfl) ⟨Nat.zero_le _, Nat.zero_le _⟩ rfl d_MO_law_16) (fun H locs hS h5 => ?_)
      refine r_if_ne (tgt := 26) F.hx F.hb (inr_z h5) d_MO_law_19 (by decide) (fun c6 => ?_) (fun c6 => ?_)
      · replace hT := (if_neg c6).symm.trans hT
        refine lv_iload_n F.hx F.hb d_MO_law_26 rfl (lv_at hl 1 rfl) ?_
        refine r_iconst F.hx F.hb d_MO_law_27 ?_
        refine r_icmp_ne (tgt := 52) F.hx F.hb hx1 (inr_c rfl) d_MO_law_28 (by decide) (fun c7 => ?_) (fun c7 => ?_)
        · replace hT := (if_neg c7).symm.trans hT
          refine lv_aload_n F.hx F.hb d_MO_law_52 rfl (lv_at hl 0 rfl) ?_
          refine lv_iload_n F.hx F.hb d_MO_law_53 rfl (lv_at hl 2 rfl) ?_
          obtain ⟨q8, hq8, hT⟩ := q_obind hT
          refine r_backZ F hS (r_runV (k := 191) (N := 68) (T := T1) (As := [vI x2]) F hS (show 191 < 231 by decide) (show shK 191 = 5 from rfl) rfl (c_MO_isOpen l F.2.2.1 M1 x2 hx2 _ hq8) gs_MO_428 hd_MO_isOpen ⟨Nat.le_of_ble_eq_true rfl, Nat.le_of_ble_eq_true rfl⟩ rfl hl.1 (Nat.le_of_ble_eq_true rfl) ⟨Nat.zero_le _, Nat.zero_le _⟩ rfl d_MO_law_54) (fun H locs hS h9 => ?_)
          refine r_if_eq (tgt := 82) F.hx F.hb (inr_z h9) d_MO_law_57 (by decide) (fun c10 => ?_) (fun c10 => ?_)
          · replace hT := (if_pos c10).symm.trans hT
            refine lv_ldc2 (v := (-9223372036854775808)) F.hx F.hb F.hown (F.hts mw_1855) d_MO_law_82 ?_
            cases hT
            exact r_lret F hlk hr hS d_MO_law_85
          · replace hT := (if_neg c10).symm.trans hT
            refine lv_iload_n F.hx F.hb d_MO_law_60 rfl (lv_at hl 3 rfl) ?_
            refine r_if_lt (tgt := 82) F.hx F.hb hx3 d_MO_law_61 (by decide) (fun c11 => ?_) (fun c11 => ?_)
            · replace hT := (if_pos c11).symm.trans hT
              refine lv_ldc2 (v := (-9223372036854775808)) F.hx F.hb F.hown (F.hts mw_1855) d_MO_law_82 ?_
              cases hT
              exact r_lret F hlk hr hS d_MO_law_85
            · replace hT := (if_neg c11).symm.trans hT
              refine lv_iload_n F.hx F.hb d_MO_law_64 rfl (lv_at hl 3 rfl) ?_
              refine r_iconst F.hx F.hb d_MO_law_65 ?_
              refine r_icmp_gt (tgt := 82) F.hx F.hb hx3 (inr_c rfl) d_MO_law_66 (by decide) (fun c12 => ?_) (fun c12 => ?_)
              · replace hT := (if_pos c12).symm.trans hT
                refine lv_ldc2 (v := (-9223372036854775808)) F.hx F.hb F.hown (F.hts mw_1855) d_MO_law_82 ?_
                cases hT
                exact r_lret F hlk hr hS d_MO_law_85
              · replace hT := (if_neg c12).symm.trans hT
                refine lv_aload_n F.hx F.hb d_MO_law_69 rfl (lv_at hl 0 rfl) ?_
                refine lv_aload_n F.hx F.hb d_MO_law_70 rfl (lv_at hl 0 rfl) ?_
                refine lv_iload_n F.hx F.hb d_MO_law_71 rfl (lv_at hl 2 rfl) ?_
                refine lv_iload_n F.hx F.hb d_MO_law_72 rfl (lv_at hl 3 rfl) ?_
                obtain ⟨q13, hq13, hT⟩ := q_obind hT
                refine r_backI F hS (r_runV (k := 191) (N := 68) (T := T1) (As := [vI x2, vI x3]) F hS (show 191 < 231 by decide) (show shK 191 = 5 from rfl) rfl (c_MO_beside l F.2.2.1 M1 x2 x3 hx2 hx3 _ hq13) gs_MO_338 hd_MO_beside ⟨Nat.le_of_ble_eq_true rfl, Nat.le_of_ble_eq_true rfl⟩ rfl hl.1 (Nat.le_of_ble_eq_true rfl) ⟨Nat.zero_le _, Nat.zero_le _⟩ rfl d_MO_law_73) (fun H locs hS h14 => ?_)
                obtain ⟨q15, hq15, hT⟩ := q_obind hT
                refine r_backZ F hS (r_runV (k := 191) (N := 68) (T := T1) (As := [vI q13]) F hS (show 191 < 231 by decide) (show shK 191 = 5 from rfl) rfl (c_MO_isOpen l F.2.2.1 M1 q13 h14 _ hq15) gs_MO_428 hd_MO_isOpen ⟨Nat.le_of_ble_eq_true rfl, Nat.le_of_ble_eq_true rfl⟩ rfl hl.1 (Nat.le_of_ble_eq_true rfl) ⟨Nat.zero_le _, Nat.zero_le _⟩ rfl d_MO_law_76) (fun H locs hS h16 => ?_)
                refine r_if_ne (tgt := 86) F.hx F.hb (inr_z h16) d_MO_law_79 (by decide) (fun c17 => ?_) (fun c17 => ?_)
                · replace hT := (if_neg c17).symm.trans hT
                  refine lv_aload_n F.hx F.hb d_MO_law_86 rfl (lv_at hl 0 rfl) ?_
                  refine lv_iload_n F.hx F.hb d_MO_law_87 rfl (lv_at hl 2 rfl) ?_
                  refine lv_iload_n F.hx F.hb d_MO_law_88 rfl (lv_at hl 3 rfl) ?_
                  obtain ⟨q18, hq18, hT⟩ := q_obind hT
                  refine r_backV F hS (r_runV (k := 191) (N := 68) (T := T1) (As := [vI x2, vI x3]) F hS (show 191 < 231 by decide) (show shK 191 = 5 from rfl) rfl (c_MO_callsPush l F.2.2.1 M1 x2 x3 hx2 hx3 _ hq18) gs_MO_431 hd_MO_callsPush ⟨Nat.le_of_ble_eq_true rfl, Nat.le_of_ble_eq_true rfl⟩ rfl hl.1 (Nat.le_of_ble_eq_true rfl) ⟨Nat.zero_le _, Nat.zero_le _⟩ rfl d_MO_law_89) (fun H locs hS => ?_)
                  exact k_MO_law_L92 l hlo x1 x2 x3 hx1 hx2 hx3 F hlk hr q18 _ _ _ hS (lv_sub hl [0, 1] rfl) hT
                · replace hT := (if_pos c17).symm.trans hT
                  refine lv_ldc2 (v := (-9223372036854775808)) F.hx F.hb F.hown (F.hts mw_1855) d_MO_law_82 ?_
                  cases hT
                  exact r_lret F hlk hr hS d_MO_law_85
        · replace hT := (if_pos c7).symm.trans hT
          refine lv_aload_n F.hx F.hb d_MO_law_31 rfl (lv_at hl 0 rfl) ?_
          refine lv_iload_n F.hx F.hb d_MO_law_32 rfl (lv_at hl 2 rfl) ?_
          obtain ⟨q20, hq20⟩ : ∃ q, q = (t_MO_isWard M1 x2) := ⟨_, rfl⟩
          replace hT := qlet_eq hT hq20
          refine r_backZ F hS (r_runV (k := 191) (N := 68) (T := T1) (As := [vI x2]) F hS (show 191 < 231 by decide) (show shK 191 = 5 from rfl) rfl (c_MO_isWard l F.2.2.1 M1 x2 hx2 _ hq20.symm) gs_MO_369 hd_MO_isWard ⟨Nat.le_of_ble_eq_true rfl, Nat.le_of_ble_eq_true rfl⟩ rfl hl.1 (Nat.le_of_ble_eq_true rfl) ⟨Nat.zero_le _, Nat.zero_le _⟩ rfl d_MO_law_33) (fun H locs hS h21 => ?_)
          refine r_if_ne (tgt := 43) F.hx F.hb (inr_z h21) d_MO_law_36 (by decide) (fun c22 => ?_) (fun c22 => ?_)
          · replace hT := (if_neg c22).symm.trans hT
            refine lv_aload_n F.hx F.hb d_MO_law_43 rfl (lv_at hl 0 rfl) ?_
            refine r_iconst F.hx F.hb d_MO_law_44 ?_
            refine lv_iload_n F.hx F.hb d_MO_law_45 rfl (lv_at hl 2 rfl) ?_
            obtain ⟨q23, hq23, hT⟩ := q_obind hT
            refine r_backV F hS (r_runV (k := 191) (N := 68) (T := T1) (As := [vI 0, vI x2]) F hS (show 191 < 231 by decide) (show shK 191 = 5 from rfl) rfl (c_MO_callsJoy l F.2.2.1 M1 0 x2 (inr_c rfl) hx2 _ hq23) gs_MO_417 hd_MO_callsJoy ⟨Nat.le_of_ble_eq_true rfl, Nat.le_of_ble_eq_true rfl⟩ rfl hl.1 (Nat.le_of_ble_eq_true rfl) ⟨Nat.zero_le _, Nat.zero_le _⟩ rfl d_MO_law_46) (fun H locs hS => ?_)
            refine lv_goto (tgt := 92) F.hx F.hb d_MO_law_49 (by decide) ?_
            exact k_MO_law_L92 l hlo x1 x2 x3 hx1 hx2 hx3 F hlk hr q23 _ _ _ hS (lv_sub hl [0, 1] rfl) hT
          · replace hT := (if_pos c22).symm.trans hT
            refine lv_ldc2 (v := (-9223372036854775808)) F.hx F.hb F.hown (F.hts mw_1855) d_MO_law_39 ?_
            cases hT
            exact r_lret F hlk hr hS d_MO_law_42
      · replace hT := (if_pos c6).symm.trans hT
        refine lv_ldc2 (v := (-9223372036854775808)) F.hx F.hb F.hown (F.hts mw_1855) d_MO_law_22 ?_
        cases hT
        exact r_lret F hlk hr hS d_MO_law_25
theorem d_MO_rest_0 : decode b_MO_rest 0 = .ok (.aload_n 0, 1) := dc_42 (by decide +kernel)
theorem d_MO_rest_1 : decode b_MO_rest 1 = .ok (.iconst 0, 1) := dc_3 (by decide +kernel)
theorem d_MO_rest_2 : decode b_MO_rest 2 = .ok (.putfield 145, 3) := dc_181 (by decide +kernel)
theorem d_MO_rest_5 : decode b_MO_rest 5 = .ok (.aload_n 0, 1) := dc_42 (by decide +kernel)
theorem d_MO_rest_6 : decode b_MO_rest 6 = .ok (.iload_n 1, 1) := dc_27 (by decide +kernel)
theorem d_MO_rest_7 : decode b_MO_rest 7 = .ok (.invokevirtual 428, 3) := dc_182 (by decide +kernel)
theorem d_MO_rest_10 : decode b_MO_rest 10 = .ok (.ifCond .ne 5, 3) := dc_154 (by decide +kernel)
theorem d_MO_rest_13 : decode b_MO_rest 13 = .ok (.iconst (-1), 1) := dc_2 (by decide +kernel)
theorem d_MO_rest_14 : decode b_MO_rest 14 = .ok (.ireturn, 1) := dc_172 (by decide +kernel)
theorem d_MO_rest_15 : decode b_MO_rest 15 = .ok (.aload_n 0, 1) := dc_42 (by decide +kernel)
theorem d_MO_rest_16 : decode b_MO_rest 16 = .ok (.iconst 0, 1) := dc_3 (by decide +kernel)
theorem d_MO_rest_17 : decode b_MO_rest 17 = .ok (.iload_n 1, 1) := dc_27 (by decide +kernel)
theorem d_MO_rest_18 : decode b_MO_rest 18 = .ok (.invokevirtual 414, 3) := dc_182 (by decide +kernel)
theorem d_MO_rest_21 : decode b_MO_rest 21 = .ok (.aload_n 0, 1) := dc_42 (by decide +kernel)
theorem d_MO_rest_22 : decode b_MO_rest 22 = .ok (.getfield 347, 3) := dc_180 (by decide +kernel)
theorem d_MO_rest_25 : decode b_MO_rest 25 = .ok (.ifCond .le 8, 3) := dc_158 (by decide +kernel)
theorem d_MO_rest_28 : decode b_MO_rest 28 = .ok (.bipush (-2), 2) := dc_16 (by decide +kernel)
theorem d_MO_rest_30 : decode b_MO_rest 30 = .ok (.goto 7, 3) := dc_167 (by decide +kernel)
theorem d_MO_rest_33 : decode b_MO_rest 33 = .ok (.aload_n 0, 1) := dc_42 (by decide +kernel)
theorem d_MO_rest_34 : decode b_MO_rest 34 = .ok (.getfield 356, 3) := dc_180 (by decide +kernel)
theorem d_MO_rest_37 : decode b_MO_rest 37 = .ok (.ireturn, 1) := dc_172 (by decide +kernel)
def t_MO_rest (M : Mem) (x1 : Int) : Option (Mem × Int) := (qlet (setI M 191 0 0) fun M1 => (obind (t_MO_isOpen M1 x1) fun q2 => (if q2 = 0 then (some (M1, (-1))) else (obind (t_MO_goesFrom M1 0 x1) fun q5 => (if (q5.1 191 48) ≤ 0 then (some (q5, (q5.1 191 47))) else (some (q5, (-2))))))))
set_option maxHeartbeats 4000000 in
set_option maxRecDepth 100000 in
theorem c_MO_rest (l : Launch) {b n : Nat} {C : CT} (hlo : 231 ≤ n) (M : Mem) (x1 : Int) (hx1 : InR x1) (res : Mem × Int) (hT : t_MO_rest M x1 = some res) : CM l b C n 3 y_MO_rest b_MO_rest 2 (some .int) [.ref (b + 191), vI x1] M (QI b C n res.1 res.2) := by
  refine CM.of (lo := 231) (ow := "WardFallsModel") (by decide) rfl (Nat.le_of_ble_eq_true rfl) hlo (fun p e s m below meth c F hlk hr hS ls hl => ?_)
  have hl : lv_has ls 2 [(0, .ref (b + 191)), (1, vI x1)] := hl
  unfold t_MO_rest at hT
  refine lv_aload_n F.hx F.hb d_MO_rest_0 rfl (lv_at hl 0 rfl) ?_
  refine r_iconst F.hx F.hb d_MO_rest_1 ?_
  refine r_putI (N := 68) (T := T1) (j := 0) F hS (show 191 < 231 by decide) (show shK 191 = 5 from rfl) (show shN 191 = 68 from rfl) rfl (Nat.le_of_ble_eq_true rfl) ing1 tyok1 nm1 rfl rfl rfl rfl rfl rfl mw_1389 (inr_c rfl) d_MO_rest_2 (fun H locs hS => ?_)
  obtain ⟨M1, eM1⟩ : ∃ q, q = (setI M 191 0 0) := ⟨_, rfl⟩
  replace hS : St b C n M1 s H locs := by rw [eM1]; exact hS
  replace hT := qlet_eq hT eM1
  refine lv_aload_n F.hx F.hb d_MO_rest_5 rfl (lv_at hl 0 rfl) ?_
  refine lv_iload_n F.hx F.hb d_MO_rest_6 rfl (lv_at hl 1 rfl) ?_
  obtain ⟨q2, hq2, hT⟩ := q_obind hT
  refine r_backZ F hS (r_runV (k := 191) (N := 68) (T := T1) (As := [vI x1]) F hS (show 191 < 231 by decide) (show shK 191 = 5 from rfl) rfl (c_MO_isOpen l F.2.2.1 M1 x1 hx1 _ hq2) gs_MO_428 hd_MO_isOpen ⟨Nat.le_of_ble_eq_true rfl, Nat.le_of_ble_eq_true rfl⟩ rfl hl.1 (Nat.le_of_ble_eq_true rfl) ⟨Nat.zero_le _, Nat.zero_le _⟩ rfl d_MO_rest_7) (fun H locs hS h3 => ?_)
  refine r_if_ne (tgt := 15) F.hx F.hb (inr_z h3) d_MO_rest_10 (by decide) (fun c4 => ?_) (fun c4 => ?_)
  · replace hT := (if_neg c4).symm.trans hT
    refine lv_aload_n F.hx F.hb d_MO_rest_15 rfl (lv_at hl 0 rfl) ?_
    refine r_iconst F.hx F.hb d_MO_rest_16 ?_
    refine lv_iload_n F.hx F.hb d_MO_rest_17 rfl (lv_at hl 1 rfl) ?_
    obtain ⟨q5, hq5, hT⟩ := q_obind hT
    refine r_backV F hS (r_runV (k := 191) (N := 68) (T := T1) (As := [vI 0, vI x1]) F hS (show 191 < 231 by decide) (show shK 191 = 5 from rfl) rfl (c_MO_goesFrom l F.2.2.1 M1 0 x1 (inr_c rfl) hx1 _ hq5) gs_MO_414 hd_MO_goesFrom ⟨Nat.le_of_ble_eq_true rfl, Nat.le_of_ble_eq_true rfl⟩ rfl hl.1 (Nat.le_of_ble_eq_true rfl) ⟨Nat.zero_le _, Nat.zero_le _⟩ rfl d_MO_rest_18) (fun H locs hS => ?_)
    refine lv_aload_n F.hx F.hb d_MO_rest_21 rfl (lv_at hl 0 rfl) ?_
    refine r_get (v := vI (q5.1 191 48)) (N := 68) (T := T1) (j := 48) F hS (show 191 < 231 by decide) (show shK 191 = 5 from rfl) (show shN 191 = 68 from rfl) rfl (Nat.le_of_ble_eq_true rfl) ing1 mw_1437 (fv_int rfl) d_MO_rest_22 ?_
    have i7 := hS.rng 191 48
    refine r_if_le (tgt := 33) F.hx F.hb i7 d_MO_rest_25 (by decide) (fun c8 => ?_) (fun c8 => ?_)
    · replace hT := (if_pos c8).symm.trans hT
      refine lv_aload_n F.hx F.hb d_MO_rest_33 rfl (lv_at hl 0 rfl) ?_
      refine r_get (v := vI (q5.1 191 47)) (N := 68) (T := T1) (j := 47) F hS (show 191 < 231 by decide) (show shK 191 = 5 from rfl) (show shN 191 = 68 from rfl) rfl (Nat.le_of_ble_eq_true rfl) ing1 mw_1436 (fv_int rfl) d_MO_rest_34 ?_
      have i9 := hS.rng 191 47
      cases hT
      exact r_iret F hlk hr rfl hS i9 d_MO_rest_37
    · replace hT := (if_neg c8).symm.trans hT
      refine r_bipush F.hx F.hb d_MO_rest_28 rfl ?_
      refine lv_goto (tgt := 37) F.hx F.hb d_MO_rest_30 (by decide) ?_
      cases hT
      exact r_iret F hlk hr rfl hS (inr_c rfl) d_MO_rest_37
  · replace hT := (if_pos c4).symm.trans hT
    refine r_iconst F.hx F.hb d_MO_rest_13 ?_
    cases hT
    exact r_iret F hlk hr rfl hS (inr_c rfl) d_MO_rest_14
theorem d_MO_way_0 : decode b_MO_way 0 = .ok (.aload_n 0, 1) := dc_42 (by decide +kernel)
theorem d_MO_way_1 : decode b_MO_way 1 = .ok (.iconst 0, 1) := dc_3 (by decide +kernel)
theorem d_MO_way_2 : decode b_MO_way 2 = .ok (.putfield 145, 3) := dc_181 (by decide +kernel)
theorem d_MO_way_5 : decode b_MO_way 5 = .ok (.aload_n 0, 1) := dc_42 (by decide +kernel)
theorem d_MO_way_6 : decode b_MO_way 6 = .ok (.iload_n 1, 1) := dc_27 (by decide +kernel)
theorem d_MO_way_7 : decode b_MO_way 7 = .ok (.invokevirtual 428, 3) := dc_182 (by decide +kernel)
theorem d_MO_way_10 : decode b_MO_way 10 = .ok (.ifCond .eq 7, 3) := dc_153 (by decide +kernel)
theorem d_MO_way_13 : decode b_MO_way 13 = .ok (.iload_n 2, 1) := dc_28 (by decide +kernel)
theorem d_MO_way_14 : decode b_MO_way 14 = .ok (.ifCond .ge 5, 3) := dc_156 (by decide +kernel)
theorem d_MO_way_17 : decode b_MO_way 17 = .ok (.iconst (-1), 1) := dc_2 (by decide +kernel)
theorem d_MO_way_18 : decode b_MO_way 18 = .ok (.ireturn, 1) := dc_172 (by decide +kernel)
theorem d_MO_way_19 : decode b_MO_way 19 = .ok (.aload_n 0, 1) := dc_42 (by decide +kernel)
theorem d_MO_way_20 : decode b_MO_way 20 = .ok (.iconst 0, 1) := dc_3 (by decide +kernel)
theorem d_MO_way_21 : decode b_MO_way 21 = .ok (.iload_n 1, 1) := dc_27 (by decide +kernel)
theorem d_MO_way_22 : decode b_MO_way 22 = .ok (.invokevirtual 414, 3) := dc_182 (by decide +kernel)
theorem d_MO_way_25 : decode b_MO_way 25 = .ok (.iload_n 2, 1) := dc_28 (by decide +kernel)
theorem d_MO_way_26 : decode b_MO_way 26 = .ok (.istore_n 3, 1) := dc_62 (by decide +kernel)
theorem d_MO_way_27 : decode b_MO_way 27 = .ok (.iload_n 3, 1) := dc_29 (by decide +kernel)
theorem d_MO_way_28 : decode b_MO_way 28 = .ok (.aload_n 0, 1) := dc_42 (by decide +kernel)
theorem d_MO_way_29 : decode b_MO_way 29 = .ok (.getfield 353, 3) := dc_180 (by decide +kernel)
theorem d_MO_way_32 : decode b_MO_way 32 = .ok (.if_icmp .le 30, 3) := dc_164 (by decide +kernel)
theorem d_MO_way_35 : decode b_MO_way 35 = .ok (.aload_n 0, 1) := dc_42 (by decide +kernel)
theorem d_MO_way_36 : decode b_MO_way 36 = .ok (.getfield 347, 3) := dc_180 (by decide +kernel)
theorem d_MO_way_39 : decode b_MO_way 39 = .ok (.ifCond .ne 6, 3) := dc_154 (by decide +kernel)
theorem d_MO_way_42 : decode b_MO_way 42 = .ok (.bipush (-2), 2) := dc_16 (by decide +kernel)
theorem d_MO_way_44 : decode b_MO_way 44 = .ok (.ireturn, 1) := dc_172 (by decide +kernel)
theorem d_MO_way_45 : decode b_MO_way 45 = .ok (.aload_n 0, 1) := dc_42 (by decide +kernel)
theorem d_MO_way_46 : decode b_MO_way 46 = .ok (.getfield 353, 3) := dc_180 (by decide +kernel)
theorem d_MO_way_49 : decode b_MO_way 49 = .ok (.iload_n 3, 1) := dc_29 (by decide +kernel)
theorem d_MO_way_50 : decode b_MO_way 50 = .ok (.aload_n 0, 1) := dc_42 (by decide +kernel)
theorem d_MO_way_51 : decode b_MO_way 51 = .ok (.getfield 353, 3) := dc_180 (by decide +kernel)
theorem d_MO_way_54 : decode b_MO_way 54 = .ok (.isub, 1) := dc_100 (by decide +kernel)
theorem d_MO_way_55 : decode b_MO_way 55 = .ok (.aload_n 0, 1) := dc_42 (by decide +kernel)
theorem d_MO_way_56 : decode b_MO_way 56 = .ok (.getfield 347, 3) := dc_180 (by decide +kernel)
theorem d_MO_way_59 : decode b_MO_way 59 = .ok (.irem, 1) := dc_112 (by decide +kernel)
theorem d_MO_way_60 : decode b_MO_way 60 = .ok (.iadd, 1) := dc_96 (by decide +kernel)
theorem d_MO_way_61 : decode b_MO_way 61 = .ok (.istore_n 3, 1) := dc_62 (by decide +kernel)
theorem d_MO_way_62 : decode b_MO_way 62 = .ok (.iload_n 1, 1) := dc_27 (by decide +kernel)
theorem d_MO_way_63 : decode b_MO_way 63 = .ok (.istore 4, 2) := dc_54 (by decide +kernel)
theorem d_MO_way_65 : decode b_MO_way 65 = .ok (.iconst 0, 1) := dc_3 (by decide +kernel)
theorem d_MO_way_66 : decode b_MO_way 66 = .ok (.istore 5, 2) := dc_54 (by decide +kernel)
theorem d_MO_way_68 : decode b_MO_way 68 = .ok (.iload 5, 2) := dc_21 (by decide +kernel)
theorem d_MO_way_70 : decode b_MO_way 70 = .ok (.iload_n 3, 1) := dc_29 (by decide +kernel)
theorem d_MO_way_71 : decode b_MO_way 71 = .ok (.if_icmp .ge 18, 3) := dc_162 (by decide +kernel)
theorem d_MO_way_74 : decode b_MO_way 74 = .ok (.aload_n 0, 1) := dc_42 (by decide +kernel)
theorem d_MO_way_75 : decode b_MO_way 75 = .ok (.iconst 0, 1) := dc_3 (by decide +kernel)
theorem d_MO_way_76 : decode b_MO_way 76 = .ok (.iload 4, 2) := dc_21 (by decide +kernel)
theorem d_MO_way_78 : decode b_MO_way 78 = .ok (.invokevirtual 350, 3) := dc_182 (by decide +kernel)
theorem d_MO_way_81 : decode b_MO_way 81 = .ok (.istore 4, 2) := dc_54 (by decide +kernel)
theorem d_MO_way_83 : decode b_MO_way 83 = .ok (.iinc 5 1, 3) := dc_132 (by decide +kernel)
theorem d_MO_way_86 : decode b_MO_way 86 = .ok (.goto (-18), 3) := dc_167 (by decide +kernel)
theorem d_MO_way_89 : decode b_MO_way 89 = .ok (.iload 4, 2) := dc_21 (by decide +kernel)
theorem d_MO_way_91 : decode b_MO_way 91 = .ok (.ireturn, 1) := dc_172 (by decide +kernel)
def t_MO_way_L68 (x1 : Int) (x2 : Int)  : Nat → Mem → Int → Int → Int → Option (Mem × Int)
  | 0, _, _, _, _ => none
  | fu + 1, M, v1_, v2_, v3_ => (if v1_ ≤ v3_ then (some (M, v2_)) else (obind (t_MO_nextOf M 0 v2_) fun q17 => (t_MO_way_L68 x1 x2 fu M v1_ q17 (w32 (v3_ + 1)))))
def t_MO_way_L62 (x1 : Int) (x2 : Int)  (M : Mem) (v2_ : Int) : Option (Mem × Int) := (t_MO_way_L68 x1 x2 FU M v2_ x1 0)
def t_MO_way (M : Mem) (x1 : Int) (x2 : Int) : Option (Mem × Int) := (qlet (setI M 191 0 0) fun M1 => (obind (t_MO_isOpen M1 x1) fun q2 => (if q2 = 0 then (some (M1, (-1))) else (if 0 ≤ x2 then (obind (t_MO_goesFrom M1 0 x1) fun q6 => (if x2 ≤ (q6.1 191 46) then (t_MO_way_L62 x1 x2 q6 x2) else (if (q6.1 191 48) = 0 then (some (q6, (-2))) else (if (q6.1 191 48) = 0 then none else (t_MO_way_L62 x1 x2 q6 (w32 ((q6.1 191 46) + (q_rem (w32 (x2 - (q6.1 191 46))) (q6.1 191 48))))))))) else (some (M1, (-1)))))))
set_option maxHeartbeats 4000000 in
set_option maxRecDepth 100000 in
theorem k_MO_way_L68 (l : Launch) {p : Program} {e : Env} {s : State} {m : MethodId} {below : List Frame} {meth : Method} {c : Code} {b n : Nat} {C : CT} (hlo : 231 ≤ n) (x1 : Int) (x2 : Int) (hx1 : InR x1) (hx2 : InR x2) (F : Cx b p m c b_MO_way 6 s ([.ref (b + 191), vI x1, vI x2] : List Value).toArray "WardFallsModel" C n 231) (hlk : meth.locks = false) (hr : meth.sig.returnType = some .int) {res : Mem × Int} : ∀ (fu : Nat) (M : Mem) (v1_ : Int) (hv1_ : InR v1_) (v2_ : Int) (hv2_ : InR v2_) (v3_ : Int) (hv3_ : InR v3_) (H : Heap) (locs : List Loc) (ls : Array Slot), St b C n M s H locs → lv_has ls 6 [(0, .ref (b + 191)), (3, vI v1_), (4, vI v2_), (5, vI v3_)] → t_MO_way_L68 x1 x2 fu M v1_ v2_ v3_ = some res → W p l e (headSpec (wsM y_MO_way b_MO_way 6 (some .int)) (rmD 3)).room s m ([.ref (b + 191), vI x1, vI x2] : List Value).toArray below meth c H locs 0 0 (MQ below (QI b C n res.1 res.2) ([.ref (b + 191), vI x1, vI x2] : List Value).toArray s 0 0 (frb b)) (F0 m 68 ls []) := by
  intro fu
  induction fu with
  | zero => intro M v1_ hv1_ v2_ hv2_ v3_ hv3_ H locs ls hS hl hT; exact absurd hT (by simp [t_MO_way_L68])
  | succ fu ih =>
    intro M v1_ hv1_ v2_ hv2_ v3_ hv3_ H locs ls hS hl hT
    rw [t_MO_way_L68] at hT
    refine lv_iload F.hx F.hb d_MO_way_68 (lv_at hl 3 rfl) ?_
    refine lv_iload_n F.hx F.hb d_MO_way_70 rfl (lv_at hl 1 rfl) ?_
    refine r_icmp_ge (tgt := 89) F.hx F.hb hv3_ hv1_ d_MO_way_71 (by decide) (fun c16 => ?_) (fun c16 => ?_)
    · replace hT := (if_pos c16).symm.trans hT
      refine lv_iload F.hx F.hb d_MO_way_89 (lv_at hl 2 rfl) ?_
      cases hT
      exact r_iret F hlk hr rfl hS hv2_ d_MO_way_91
    · replace hT := (if_neg c16).symm.trans hT
      refine lv_aload_n F.hx F.hb d_MO_way_74 rfl (lv_at hl 0 rfl) ?_
      refine r_iconst F.hx F.hb d_MO_way_75 ?_
      refine lv_iload F.hx F.hb d_MO_way_76 (lv_at hl 2 rfl) ?_
      obtain ⟨q17, hq17, hT⟩ := q_obind hT
      refine r_backI F hS (r_runV (k := 191) (N := 68) (T := T1) (As := [vI 0, vI v2_]) F hS (show 191 < 231 by decide) (show shK 191 = 5 from rfl) rfl (c_MO_nextOf l F.2.2.1 M 0 v2_ (inr_c rfl) hv2_ _ hq17) gs_MO_350 hd_MO_nextOf ⟨Nat.le_of_ble_eq_true rfl, Nat.le_of_ble_eq_true rfl⟩ rfl hl.1 (Nat.le_of_ble_eq_true rfl) ⟨Nat.zero_le _, Nat.zero_le _⟩ rfl d_MO_way_78) (fun H locs hS h18 => ?_)
      refine lv_istore (lv' := [(4, vI q17), (0, .ref (b + 191)), (3, vI v1_), (5, vI v3_)]) F.hx F.hb d_MO_way_81 hl (Nat.le_of_ble_eq_true rfl) rfl (fun ls hl => ?_)
      refine lv_iinc (v := Int32.ofInt (w32 (v3_ + 1))) (lv' := [(5, vI (w32 (v3_ + 1))), (4, vI q17), (0, .ref (b + 191)), (3, vI v1_)]) F.hx F.hb d_MO_way_83 hl (k := 3) rfl (q_of_add _ _) (Nat.le_of_ble_eq_true rfl) rfl (fun ls hl => ?_)
      refine lv_goto (tgt := 68) F.hx F.hb d_MO_way_86 (by decide) ?_
      exact ih M v1_ hv1_ q17 h18 (w32 (v3_ + 1)) (inr_w32 _) _ _ _ hS (lv_sub hl [2, 3, 1, 0] rfl) hT
set_option maxHeartbeats 4000000 in
set_option maxRecDepth 100000 in
theorem k_MO_way_L62 (l : Launch) {p : Program} {e : Env} {s : State} {m : MethodId} {below : List Frame} {meth : Method} {c : Code} {b n : Nat} {C : CT} (hlo : 231 ≤ n) (x1 : Int) (x2 : Int) (hx1 : InR x1) (hx2 : InR x2) (F : Cx b p m c b_MO_way 6 s ([.ref (b + 191), vI x1, vI x2] : List Value).toArray "WardFallsModel" C n 231) (hlk : meth.locks = false) (hr : meth.sig.returnType = some .int) {res : Mem × Int} (M : Mem) (v2_ : Int) (hv2_ : InR v2_) (H : Heap) (locs : List Loc) (ls : Array Slot) (hS : St b C n M s H locs) (hl : lv_has ls 6 [(0, .ref (b + 191)), (1, vI x1), (3, vI v2_)]) (hT : t_MO_way_L62 x1 x2 M v2_ = some res) : W p l e (headSpec (wsM y_MO_way b_MO_way 6 (some .int)) (rmD 3)).room s m ([.ref (b + 191), vI x1, vI x2] : List Value).toArray below meth c H locs 0 0 (MQ below (QI b C n res.1 res.2) ([.ref (b + 191), vI x1, vI x2] : List Value).toArray s 0 0 (frb b)) (F0 m 62 ls []) := by
  unfold t_MO_way_L62 at hT
  refine lv_iload_n F.hx F.hb d_MO_way_62 rfl (lv_at hl 1 rfl) ?_
  refine lv_istore (lv' := [(4, vI x1), (0, .ref (b + 191)), (1, vI x1), (3, vI v2_)]) F.hx F.hb d_MO_way_63 hl (Nat.le_of_ble_eq_true rfl) rfl (fun ls hl => ?_)
  refine r_iconst F.hx F.hb d_MO_way_65 ?_
  refine lv_istore (lv' := [(5, vI 0), (4, vI x1), (0, .ref (b + 191)), (1, vI x1), (3, vI v2_)]) F.hx F.hb d_MO_way_66 hl (Nat.le_of_ble_eq_true rfl) rfl (fun ls hl => ?_)
  exact k_MO_way_L68 l hlo x1 x2 hx1 hx2 F hlk hr FU M v2_ hv2_ x1 hx1 0 (inr_c rfl) _ _ _ hS (lv_sub hl [2, 4, 1, 0] rfl) hT
set_option maxHeartbeats 4000000 in
set_option maxRecDepth 100000 in
theorem c_MO_way (l : Launch) {b n : Nat} {C : CT} (hlo : 231 ≤ n) (M : Mem) (x1 : Int) (x2 : Int) (hx1 : InR x1) (hx2 : InR x2) (res : Mem × Int) (hT : t_MO_way M x1 x2 = some res) : CM l b C n 3 y_MO_way b_MO_way 6 (some .int) [.ref (b + 191), vI x1, vI x2] M (QI b C n res.1 res.2) := by
  refine CM.of (lo := 231) (ow := "WardFallsModel") (by decide) rfl (Nat.le_of_ble_eq_true rfl) hlo (fun p e s m below meth c F hlk hr hS ls hl => ?_)
  have hl : lv_has ls 6 [(0, .ref (b + 191)), (1, vI x1), (2, vI x2)] := hl
  unfold t_MO_way at hT
  refine lv_aload_n F.hx F.hb d_MO_way_0 rfl (lv_at hl 0 rfl) ?_
  refine r_iconst F.hx F.hb d_MO_way_1 ?_
  refine r_putI (N := 68) (T := T1) (j := 0) F hS (show 191 < 231 by decide) (show shK 191 = 5 from rfl) (show shN 191 = 68 from rfl) rfl (Nat.le_of_ble_eq_true rfl) ing1 tyok1 nm1 rfl rfl rfl rfl rfl rfl mw_1389 (inr_c rfl) d_MO_way_2 (fun H locs hS => ?_)
  obtain ⟨M1, eM1⟩ : ∃ q, q = (setI M 191 0 0) := ⟨_, rfl⟩
  replace hS : St b C n M1 s H locs := by rw [eM1]; exact hS
  replace hT := qlet_eq hT eM1
  refine lv_aload_n F.hx F.hb d_MO_way_5 rfl (lv_at hl 0 rfl) ?_
  refine lv_iload_n F.hx F.hb d_MO_way_6 rfl (lv_at hl 1 rfl) ?_
  obtain ⟨q2, hq2, hT⟩ := q_obind hT
  refine r_backZ F hS (r_runV (k := 191) (N := 68) (T := T1) (As := [vI x1]) F hS (show 191 < 231 by decide) (show shK 191 = 5 from rfl) rfl (c_MO_isOpen l F.2.2.1 M1 x1 hx1 _ hq2) gs_MO_428 hd_MO_isOpen ⟨Nat.le_of_ble_eq_true rfl, Nat.le_of_ble_eq_true rfl⟩ rfl hl.1 (Nat.le_of_ble_eq_true rfl) ⟨Nat.zero_le _, Nat.zero_le _⟩ rfl d_MO_way_7) (fun H locs hS h3 => ?_)
  refine r_if_eq (tgt := 17) F.hx F.hb (inr_z h3) d_MO_way_10 (by decide) (fun c4 => ?_) (fun c4 => ?_)
  · replace hT := (if_pos c4).symm.trans hT
    refine r_iconst F.hx F.hb d_MO_way_17 ?_
    cases hT
    exact r_iret F hlk hr rfl hS (inr_c rfl) d_MO_way_18
  · replace hT := (if_neg c4).symm.trans hT
    refine lv_iload_n F.hx F.hb d_MO_way_13 rfl (lv_at hl 2 rfl) ?_
    refine r_if_ge (tgt := 19) F.hx F.hb hx2 d_MO_way_14 (by decide) (fun c5 => ?_) (fun c5 => ?_)
    · replace hT := (if_pos c5).symm.trans hT
      refine lv_aload_n F.hx F.hb d_MO_way_19 rfl (lv_at hl 0 rfl) ?_
      refine r_iconst F.hx F.hb d_MO_way_20 ?_
      refine lv_iload_n F.hx F.hb d_MO_way_21 rfl (lv_at hl 1 rfl) ?_
      obtain ⟨q6, hq6, hT⟩ := q_obind hT
      refine r_backV F hS (r_runV (k := 191) (N := 68) (T := T1) (As := [vI 0, vI x1]) F hS (show 191 < 231 by decide) (show shK 191 = 5 from rfl) rfl (c_MO_goesFrom l F.2.2.1 M1 0 x1 (inr_c rfl) hx1 _ hq6) gs_MO_414 hd_MO_goesFrom ⟨Nat.le_of_ble_eq_true rfl, Nat.le_of_ble_eq_true rfl⟩ rfl hl.1 (Nat.le_of_ble_eq_true rfl) ⟨Nat.zero_le _, Nat.zero_le _⟩ rfl d_MO_way_22) (fun H locs hS => ?_)
      refine lv_iload_n F.hx F.hb d_MO_way_25 rfl (lv_at hl 2 rfl) ?_
      refine lv_istore_n (lv' := [(3, vI x2), (0, .ref (b + 191)), (1, vI x1), (2, vI x2)]) F.hx F.hb d_MO_way_26 rfl hl (Nat.le_of_ble_eq_true rfl) rfl (fun ls hl => ?_)
      refine lv_iload_n F.hx F.hb d_MO_way_27 rfl (lv_at hl 0 rfl) ?_
      refine lv_aload_n F.hx F.hb d_MO_way_28 rfl (lv_at hl 1 rfl) ?_
      refine r_get (v := vI (q6.1 191 46)) (N := 68) (T := T1) (j := 46) F hS (show 191 < 231 by decide) (show shK 191 = 5 from rfl) (show shN 191 = 68 from rfl) rfl (Nat.le_of_ble_eq_true rfl) ing1 mw_1435 (fv_int rfl) d_MO_way_29 ?_
      have i8 := hS.rng 191 46
      refine r_icmp_le (tgt := 62) F.hx F.hb hx2 i8 d_MO_way_32 (by decide) (fun c9 => ?_) (fun c9 => ?_)
      · replace hT := (if_pos c9).symm.trans hT
        exact k_MO_way_L62 l hlo x1 x2 hx1 hx2 F hlk hr q6 x2 hx2 _ _ _ hS (lv_sub hl [1, 2, 0] rfl) hT
      · replace hT := (if_neg c9).symm.trans hT
        refine lv_aload_n F.hx F.hb d_MO_way_35 rfl (lv_at hl 1 rfl) ?_
        refine r_get (v := vI (q6.1 191 48)) (N := 68) (T := T1) (j := 48) F hS (show 191 < 231 by decide) (show shK 191 = 5 from rfl) (show shN 191 = 68 from rfl) rfl (Nat.le_of_ble_eq_true rfl) ing1 mw_1437 (fv_int rfl) d_MO_way_36 ?_
        have i10 := hS.rng 191 48
        refine r_if_ne (tgt := 45) F.hx F.hb i10 d_MO_way_39 (by decide) (fun c11 => ?_) (fun c11 => ?_)
        · replace hT := (if_neg c11).symm.trans hT
          refine lv_aload_n F.hx F.hb d_MO_way_45 rfl (lv_at hl 1 rfl) ?_
          refine r_get (v := vI (q6.1 191 46)) (N := 68) (T := T1) (j := 46) F hS (show 191 < 231 by decide) (show shK 191 = 5 from rfl) (show shN 191 = 68 from rfl) rfl (Nat.le_of_ble_eq_true rfl) ing1 mw_1435 (fv_int rfl) d_MO_way_46 ?_
          have i12 := hS.rng 191 46
          refine lv_iload_n F.hx F.hb d_MO_way_49 rfl (lv_at hl 0 rfl) ?_
          refine lv_aload_n F.hx F.hb d_MO_way_50 rfl (lv_at hl 1 rfl) ?_
          refine r_get (v := vI (q6.1 191 46)) (N := 68) (T := T1) (j := 46) F hS (show 191 < 231 by decide) (show shK 191 = 5 from rfl) (show shN 191 = 68 from rfl) rfl (Nat.le_of_ble_eq_true rfl) ing1 mw_1435 (fv_int rfl) d_MO_way_51 ?_
          have i13 := hS.rng 191 46
          refine r_isub F.hx F.hb d_MO_way_54 ?_
          refine lv_aload_n F.hx F.hb d_MO_way_55 rfl (lv_at hl 1 rfl) ?_
          refine r_get (v := vI (q6.1 191 48)) (N := 68) (T := T1) (j := 48) F hS (show 191 < 231 by decide) (show shK 191 = 5 from rfl) (show shN 191 = 68 from rfl) rfl (Nat.le_of_ble_eq_true rfl) ing1 mw_1437 (fv_int rfl) d_MO_way_56 ?_
          have i14 := hS.rng 191 48
          obtain ⟨c15, hT⟩ := q_guardn hT
          refine r_irem F.hx F.hb i14 c15 d_MO_way_59 ?_
          refine r_iadd F.hx F.hb d_MO_way_60 ?_
          refine lv_istore_n (lv' := [(3, vI (w32 ((q6.1 191 46) + (q_rem (w32 (x2 - (q6.1 191 46))) (q6.1 191 48))))), (0, .ref (b + 191)), (1, vI x1), (2, vI x2)]) F.hx F.hb d_MO_way_61 rfl hl (Nat.le_of_ble_eq_true rfl) rfl (fun ls hl => ?_)
          exact k_MO_way_L62 l hlo x1 x2 hx1 hx2 F hlk hr q6 (w32 ((q6.1 191 46) + (q_rem (w32 (x2 - (q6.1 191 46))) (q6.1 191 48)))) (inr_w32 _) _ _ _ hS (lv_sub hl [1, 2, 0] rfl) hT
        · replace hT := (if_pos c11).symm.trans hT
          refine r_bipush F.hx F.hb d_MO_way_42 rfl ?_
          cases hT
          exact r_iret F hlk hr rfl hS (inr_c rfl) d_MO_way_44
    · replace hT := (if_neg c5).symm.trans hT
      refine r_iconst F.hx F.hb d_MO_way_17 ?_
      cases hT
      exact r_iret F hlk hr rfl hS (inr_c rfl) d_MO_way_18
theorem d_MO_falls_0 : decode b_MO_falls 0 = .ok (.aload_n 0, 1) := dc_42 (by decide +kernel)
theorem d_MO_falls_1 : decode b_MO_falls 1 = .ok (.iconst 0, 1) := dc_3 (by decide +kernel)
theorem d_MO_falls_2 : decode b_MO_falls 2 = .ok (.putfield 145, 3) := dc_181 (by decide +kernel)
theorem d_MO_falls_5 : decode b_MO_falls 5 = .ok (.aload_n 0, 1) := dc_42 (by decide +kernel)
theorem d_MO_falls_6 : decode b_MO_falls 6 = .ok (.iload_n 1, 1) := dc_27 (by decide +kernel)
theorem d_MO_falls_7 : decode b_MO_falls 7 = .ok (.invokevirtual 428, 3) := dc_182 (by decide +kernel)
theorem d_MO_falls_10 : decode b_MO_falls 10 = .ok (.ifCond .eq 12, 3) := dc_153 (by decide +kernel)
theorem d_MO_falls_13 : decode b_MO_falls 13 = .ok (.iload_n 2, 1) := dc_28 (by decide +kernel)
theorem d_MO_falls_14 : decode b_MO_falls 14 = .ok (.ifCond .lt 8, 3) := dc_155 (by decide +kernel)
theorem d_MO_falls_17 : decode b_MO_falls 17 = .ok (.iload_n 2, 1) := dc_28 (by decide +kernel)
theorem d_MO_falls_18 : decode b_MO_falls 18 = .ok (.iconst 2, 1) := dc_5 (by decide +kernel)
theorem d_MO_falls_19 : decode b_MO_falls 19 = .ok (.if_icmp .le 5, 3) := dc_164 (by decide +kernel)
theorem d_MO_falls_22 : decode b_MO_falls 22 = .ok (.iconst (-1), 1) := dc_2 (by decide +kernel)
theorem d_MO_falls_23 : decode b_MO_falls 23 = .ok (.ireturn, 1) := dc_172 (by decide +kernel)
theorem d_MO_falls_24 : decode b_MO_falls 24 = .ok (.aload_n 0, 1) := dc_42 (by decide +kernel)
theorem d_MO_falls_25 : decode b_MO_falls 25 = .ok (.iconst 0, 1) := dc_3 (by decide +kernel)
theorem d_MO_falls_26 : decode b_MO_falls 26 = .ok (.iload_n 1, 1) := dc_27 (by decide +kernel)
theorem d_MO_falls_27 : decode b_MO_falls 27 = .ok (.invokevirtual 414, 3) := dc_182 (by decide +kernel)
theorem d_MO_falls_30 : decode b_MO_falls 30 = .ok (.iload_n 2, 1) := dc_28 (by decide +kernel)
theorem d_MO_falls_31 : decode b_MO_falls 31 = .ok (.ifCond .ne 10, 3) := dc_154 (by decide +kernel)
theorem d_MO_falls_34 : decode b_MO_falls 34 = .ok (.aload_n 0, 1) := dc_42 (by decide +kernel)
theorem d_MO_falls_35 : decode b_MO_falls 35 = .ok (.getfield 353, 3) := dc_180 (by decide +kernel)
theorem d_MO_falls_38 : decode b_MO_falls 38 = .ok (.goto 31, 3) := dc_167 (by decide +kernel)
theorem d_MO_falls_41 : decode b_MO_falls 41 = .ok (.iload_n 2, 1) := dc_28 (by decide +kernel)
theorem d_MO_falls_42 : decode b_MO_falls 42 = .ok (.iconst 1, 1) := dc_4 (by decide +kernel)
theorem d_MO_falls_43 : decode b_MO_falls 43 = .ok (.if_icmp .ne 10, 3) := dc_160 (by decide +kernel)
theorem d_MO_falls_46 : decode b_MO_falls 46 = .ok (.aload_n 0, 1) := dc_42 (by decide +kernel)
theorem d_MO_falls_47 : decode b_MO_falls 47 = .ok (.getfield 347, 3) := dc_180 (by decide +kernel)
theorem d_MO_falls_50 : decode b_MO_falls 50 = .ok (.goto 19, 3) := dc_167 (by decide +kernel)
theorem d_MO_falls_53 : decode b_MO_falls 53 = .ok (.aload_n 0, 1) := dc_42 (by decide +kernel)
theorem d_MO_falls_54 : decode b_MO_falls 54 = .ok (.getfield 347, 3) := dc_180 (by decide +kernel)
theorem d_MO_falls_57 : decode b_MO_falls 57 = .ok (.ifCond .le 8, 3) := dc_158 (by decide +kernel)
theorem d_MO_falls_60 : decode b_MO_falls 60 = .ok (.bipush (-2), 2) := dc_16 (by decide +kernel)
theorem d_MO_falls_62 : decode b_MO_falls 62 = .ok (.goto 7, 3) := dc_167 (by decide +kernel)
theorem d_MO_falls_65 : decode b_MO_falls 65 = .ok (.aload_n 0, 1) := dc_42 (by decide +kernel)
theorem d_MO_falls_66 : decode b_MO_falls 66 = .ok (.getfield 341, 3) := dc_180 (by decide +kernel)
theorem d_MO_falls_69 : decode b_MO_falls 69 = .ok (.ireturn, 1) := dc_172 (by decide +kernel)
def t_MO_falls (M : Mem) (x1 : Int) (x2 : Int) : Option (Mem × Int) := (qlet (setI M 191 0 0) fun M1 => (obind (t_MO_isOpen M1 x1) fun q2 => (if q2 = 0 then (some (M1, (-1))) else (if x2 < 0 then (some (M1, (-1))) else (if x2 ≤ 2 then (obind (t_MO_goesFrom M1 0 x1) fun q7 => (if x2 = 0 then (some (q7, (q7.1 191 46))) else (if x2 = 1 then (some (q7, (q7.1 191 48))) else (if (q7.1 191 48) ≤ 0 then (some (q7, (q7.1 191 49))) else (some (q7, (-2))))))) else (some (M1, (-1))))))))
set_option maxHeartbeats 4000000 in
set_option maxRecDepth 100000 in
theorem c_MO_falls (l : Launch) {b n : Nat} {C : CT} (hlo : 231 ≤ n) (M : Mem) (x1 : Int) (x2 : Int) (hx1 : InR x1) (hx2 : InR x2) (res : Mem × Int) (hT : t_MO_falls M x1 x2 = some res) : CM l b C n 3 y_MO_falls b_MO_falls 3 (some .int) [.ref (b + 191), vI x1, vI x2] M (QI b C n res.1 res.2) := by
  refine CM.of (lo := 231) (ow := "WardFallsModel") (by decide) rfl (Nat.le_of_ble_eq_true rfl) hlo (fun p e s m below meth c F hlk hr hS ls hl => ?_)
  have hl : lv_has ls 3 [(0, .ref (b + 191)), (1, vI x1), (2, vI x2)] := hl
  unfold t_MO_falls at hT
  refine lv_aload_n F.hx F.hb d_MO_falls_0 rfl (lv_at hl 0 rfl) ?_
  refine r_iconst F.hx F.hb d_MO_falls_1 ?_
  refine r_putI (N := 68) (T := T1) (j := 0) F hS (show 191 < 231 by decide) (show shK 191 = 5 from rfl) (show shN 191 = 68 from rfl) rfl (Nat.le_of_ble_eq_true rfl) ing1 tyok1 nm1 rfl rfl rfl rfl rfl rfl mw_1389 (inr_c rfl) d_MO_falls_2 (fun H locs hS => ?_)
  obtain ⟨M1, eM1⟩ : ∃ q, q = (setI M 191 0 0) := ⟨_, rfl⟩
  replace hS : St b C n M1 s H locs := by rw [eM1]; exact hS
  replace hT := qlet_eq hT eM1
  refine lv_aload_n F.hx F.hb d_MO_falls_5 rfl (lv_at hl 0 rfl) ?_
  refine lv_iload_n F.hx F.hb d_MO_falls_6 rfl (lv_at hl 1 rfl) ?_
  obtain ⟨q2, hq2, hT⟩ := q_obind hT
  refine r_backZ F hS (r_runV (k := 191) (N := 68) (T := T1) (As := [vI x1]) F hS (show 191 < 231 by decide) (show shK 191 = 5 from rfl) rfl (c_MO_isOpen l F.2.2.1 M1 x1 hx1 _ hq2) gs_MO_428 hd_MO_isOpen ⟨Nat.le_of_ble_eq_true rfl, Nat.le_of_ble_eq_true rfl⟩ rfl hl.1 (Nat.le_of_ble_eq_true rfl) ⟨Nat.zero_le _, Nat.zero_le _⟩ rfl d_MO_falls_7) (fun H locs hS h3 => ?_)
  refine r_if_eq (tgt := 22) F.hx F.hb (inr_z h3) d_MO_falls_10 (by decide) (fun c4 => ?_) (fun c4 => ?_)
  · replace hT := (if_pos c4).symm.trans hT
    refine r_iconst F.hx F.hb d_MO_falls_22 ?_
    cases hT
    exact r_iret F hlk hr rfl hS (inr_c rfl) d_MO_falls_23
  · replace hT := (if_neg c4).symm.trans hT
    refine lv_iload_n F.hx F.hb d_MO_falls_13 rfl (lv_at hl 2 rfl) ?_
    refine r_if_lt (tgt := 22) F.hx F.hb hx2 d_MO_falls_14 (by decide) (fun c5 => ?_) (fun c5 => ?_)
    · replace hT := (if_pos c5).symm.trans hT
      refine r_iconst F.hx F.hb d_MO_falls_22 ?_
      cases hT
      exact r_iret F hlk hr rfl hS (inr_c rfl) d_MO_falls_23
    · replace hT := (if_neg c5).symm.trans hT
      refine lv_iload_n F.hx F.hb d_MO_falls_17 rfl (lv_at hl 2 rfl) ?_
      refine r_iconst F.hx F.hb d_MO_falls_18 ?_
      refine r_icmp_le (tgt := 24) F.hx F.hb hx2 (inr_c rfl) d_MO_falls_19 (by decide) (fun c6 => ?_) (fun c6 => ?_)
      · replace hT := (if_pos c6).symm.trans hT
        refine lv_aload_n F.hx F.hb d_MO_falls_24 rfl (lv_at hl 0 rfl) ?_
        refine r_iconst F.hx F.hb d_MO_falls_25 ?_
        refine lv_iload_n F.hx F.hb d_MO_falls_26 rfl (lv_at hl 1 rfl) ?_
        obtain ⟨q7, hq7, hT⟩ := q_obind hT
        refine r_backV F hS (r_runV (k := 191) (N := 68) (T := T1) (As := [vI 0, vI x1]) F hS (show 191 < 231 by decide) (show shK 191 = 5 from rfl) rfl (c_MO_goesFrom l F.2.2.1 M1 0 x1 (inr_c rfl) hx1 _ hq7) gs_MO_414 hd_MO_goesFrom ⟨Nat.le_of_ble_eq_true rfl, Nat.le_of_ble_eq_true rfl⟩ rfl hl.1 (Nat.le_of_ble_eq_true rfl) ⟨Nat.zero_le _, Nat.zero_le _⟩ rfl d_MO_falls_27) (fun H locs hS => ?_)
        refine lv_iload_n F.hx F.hb d_MO_falls_30 rfl (lv_at hl 2 rfl) ?_
        refine r_if_ne (tgt := 41) F.hx F.hb hx2 d_MO_falls_31 (by decide) (fun c9 => ?_) (fun c9 => ?_)
        · replace hT := (if_neg c9).symm.trans hT
          refine lv_iload_n F.hx F.hb d_MO_falls_41 rfl (lv_at hl 2 rfl) ?_
          refine r_iconst F.hx F.hb d_MO_falls_42 ?_
          refine r_icmp_ne (tgt := 53) F.hx F.hb hx2 (inr_c rfl) d_MO_falls_43 (by decide) (fun c10 => ?_) (fun c10 => ?_)
          · replace hT := (if_neg c10).symm.trans hT
            refine lv_aload_n F.hx F.hb d_MO_falls_53 rfl (lv_at hl 0 rfl) ?_
            refine r_get (v := vI (q7.1 191 48)) (N := 68) (T := T1) (j := 48) F hS (show 191 < 231 by decide) (show shK 191 = 5 from rfl) (show shN 191 = 68 from rfl) rfl (Nat.le_of_ble_eq_true rfl) ing1 mw_1437 (fv_int rfl) d_MO_falls_54 ?_
            have i11 := hS.rng 191 48
            refine r_if_le (tgt := 65) F.hx F.hb i11 d_MO_falls_57 (by decide) (fun c12 => ?_) (fun c12 => ?_)
            · replace hT := (if_pos c12).symm.trans hT
              refine lv_aload_n F.hx F.hb d_MO_falls_65 rfl (lv_at hl 0 rfl) ?_
              refine r_get (v := vI (q7.1 191 49)) (N := 68) (T := T1) (j := 49) F hS (show 191 < 231 by decide) (show shK 191 = 5 from rfl) (show shN 191 = 68 from rfl) rfl (Nat.le_of_ble_eq_true rfl) ing1 mw_1438 (fv_int rfl) d_MO_falls_66 ?_
              have i13 := hS.rng 191 49
              cases hT
              exact r_iret F hlk hr rfl hS i13 d_MO_falls_69
            · replace hT := (if_neg c12).symm.trans hT
              refine r_bipush F.hx F.hb d_MO_falls_60 rfl ?_
              refine lv_goto (tgt := 69) F.hx F.hb d_MO_falls_62 (by decide) ?_
              cases hT
              exact r_iret F hlk hr rfl hS (inr_c rfl) d_MO_falls_69
          · replace hT := (if_pos c10).symm.trans hT
            refine lv_aload_n F.hx F.hb d_MO_falls_46 rfl (lv_at hl 0 rfl) ?_
            refine r_get (v := vI (q7.1 191 48)) (N := 68) (T := T1) (j := 48) F hS (show 191 < 231 by decide) (show shK 191 = 5 from rfl) (show shN 191 = 68 from rfl) rfl (Nat.le_of_ble_eq_true rfl) ing1 mw_1437 (fv_int rfl) d_MO_falls_47 ?_
            have i14 := hS.rng 191 48
            refine lv_goto (tgt := 69) F.hx F.hb d_MO_falls_50 (by decide) ?_
            cases hT
            exact r_iret F hlk hr rfl hS i14 d_MO_falls_69
        · replace hT := (if_pos c9).symm.trans hT
          refine lv_aload_n F.hx F.hb d_MO_falls_34 rfl (lv_at hl 0 rfl) ?_
          refine r_get (v := vI (q7.1 191 46)) (N := 68) (T := T1) (j := 46) F hS (show 191 < 231 by decide) (show shK 191 = 5 from rfl) (show shN 191 = 68 from rfl) rfl (Nat.le_of_ble_eq_true rfl) ing1 mw_1435 (fv_int rfl) d_MO_falls_35 ?_
          have i15 := hS.rng 191 46
          refine lv_goto (tgt := 69) F.hx F.hb d_MO_falls_38 (by decide) ?_
          cases hT
          exact r_iret F hlk hr rfl hS i15 d_MO_falls_69
      · replace hT := (if_neg c6).symm.trans hT
        refine r_iconst F.hx F.hb d_MO_falls_22 ?_
        cases hT
        exact r_iret F hlk hr rfl hS (inr_c rfl) d_MO_falls_23
theorem wn_MO_beat_0 : ∀ i, i < 94 → bA b_MO_beat (0 + i) = wB [3, 61, 3, 62, 29, 42, 180, 0, 13, 16, 6, 46, 162, 0, 132, 42, 180, 0, 97, 7, 160, 0, 14, 42, 180, 0, 100, 29, 160, 0, 6, 167, 0, 107, 16, 8, 27, 104, 29, 96, 54, 4, 42, 27, 42, 180, 0, 79, 21, 4, 46, 182, 1, 94, 54, 5, 21, 5, 2, 159, 0, 79, 42, 180, 0, 97, 4, 159, 0, 17, 42, 27, 21, 5, 182, 1, 107, 2, 159, 0, 6, 167, 0, 57, 42, 180, 0, 85, 21, 4, 92, 46, 42, 42] i := wB_of (by decide +kernel)
theorem d_MO_beat_0 : decode b_MO_beat 0 = .ok (.iconst 0, 1) := dc_3 (q0_win (r := 0) wn_MO_beat_0 (by decide +kernel))
theorem d_MO_beat_1 : decode b_MO_beat 1 = .ok (.istore_n 2, 1) := dc_61 (q0_win (r := 1) wn_MO_beat_0 (by decide +kernel))
theorem d_MO_beat_2 : decode b_MO_beat 2 = .ok (.iconst 0, 1) := dc_3 (q0_win (r := 2) wn_MO_beat_0 (by decide +kernel))
theorem d_MO_beat_3 : decode b_MO_beat 3 = .ok (.istore_n 3, 1) := dc_62 (q0_win (r := 3) wn_MO_beat_0 (by decide +kernel))
theorem d_MO_beat_4 : decode b_MO_beat 4 = .ok (.iload_n 3, 1) := dc_29 (q0_win (r := 4) wn_MO_beat_0 (by decide +kernel))
theorem d_MO_beat_5 : decode b_MO_beat 5 = .ok (.aload_n 0, 1) := dc_42 (q0_win (r := 5) wn_MO_beat_0 (by decide +kernel))
theorem d_MO_beat_6 : decode b_MO_beat 6 = .ok (.getfield 13, 3) := dc_180 (qU2_win (r := 6) wn_MO_beat_0 (by decide +kernel))
theorem d_MO_beat_9 : decode b_MO_beat 9 = .ok (.bipush 6, 2) := dc_16 (qS1_win (r := 9) wn_MO_beat_0 (by decide +kernel))
theorem d_MO_beat_11 : decode b_MO_beat 11 = .ok (.iaload, 1) := dc_46 (q0_win (r := 11) wn_MO_beat_0 (by decide +kernel))
theorem d_MO_beat_12 : decode b_MO_beat 12 = .ok (.if_icmp .ge 132, 3) := dc_162 (qS2_win (r := 12) wn_MO_beat_0 (by decide +kernel))
theorem d_MO_beat_15 : decode b_MO_beat 15 = .ok (.aload_n 0, 1) := dc_42 (q0_win (r := 15) wn_MO_beat_0 (by decide +kernel))
theorem d_MO_beat_16 : decode b_MO_beat 16 = .ok (.getfield 97, 3) := dc_180 (qU2_win (r := 16) wn_MO_beat_0 (by decide +kernel))
theorem d_MO_beat_19 : decode b_MO_beat 19 = .ok (.iconst 4, 1) := dc_7 (q0_win (r := 19) wn_MO_beat_0 (by decide +kernel))
theorem d_MO_beat_20 : decode b_MO_beat 20 = .ok (.if_icmp .ne 14, 3) := dc_160 (qS2_win (r := 20) wn_MO_beat_0 (by decide +kernel))
theorem d_MO_beat_23 : decode b_MO_beat 23 = .ok (.aload_n 0, 1) := dc_42 (q0_win (r := 23) wn_MO_beat_0 (by decide +kernel))
theorem d_MO_beat_24 : decode b_MO_beat 24 = .ok (.getfield 100, 3) := dc_180 (qU2_win (r := 24) wn_MO_beat_0 (by decide +kernel))
theorem d_MO_beat_27 : decode b_MO_beat 27 = .ok (.iload_n 3, 1) := dc_29 (q0_win (r := 27) wn_MO_beat_0 (by decide +kernel))
theorem d_MO_beat_28 : decode b_MO_beat 28 = .ok (.if_icmp .ne 6, 3) := dc_160 (qS2_win (r := 28) wn_MO_beat_0 (by decide +kernel))
theorem d_MO_beat_31 : decode b_MO_beat 31 = .ok (.goto 107, 3) := dc_167 (qS2_win (r := 31) wn_MO_beat_0 (by decide +kernel))
theorem d_MO_beat_34 : decode b_MO_beat 34 = .ok (.bipush 8, 2) := dc_16 (qS1_win (r := 34) wn_MO_beat_0 (by decide +kernel))
theorem d_MO_beat_36 : decode b_MO_beat 36 = .ok (.iload_n 1, 1) := dc_27 (q0_win (r := 36) wn_MO_beat_0 (by decide +kernel))
theorem d_MO_beat_37 : decode b_MO_beat 37 = .ok (.imul, 1) := dc_104 (q0_win (r := 37) wn_MO_beat_0 (by decide +kernel))
theorem d_MO_beat_38 : decode b_MO_beat 38 = .ok (.iload_n 3, 1) := dc_29 (q0_win (r := 38) wn_MO_beat_0 (by decide +kernel))
theorem d_MO_beat_39 : decode b_MO_beat 39 = .ok (.iadd, 1) := dc_96 (q0_win (r := 39) wn_MO_beat_0 (by decide +kernel))
theorem d_MO_beat_40 : decode b_MO_beat 40 = .ok (.istore 4, 2) := dc_54 (qU1_win (r := 40) wn_MO_beat_0 (by decide +kernel))
theorem d_MO_beat_42 : decode b_MO_beat 42 = .ok (.aload_n 0, 1) := dc_42 (q0_win (r := 42) wn_MO_beat_0 (by decide +kernel))
theorem d_MO_beat_43 : decode b_MO_beat 43 = .ok (.iload_n 1, 1) := dc_27 (q0_win (r := 43) wn_MO_beat_0 (by decide +kernel))
theorem d_MO_beat_44 : decode b_MO_beat 44 = .ok (.aload_n 0, 1) := dc_42 (q0_win (r := 44) wn_MO_beat_0 (by decide +kernel))
theorem d_MO_beat_45 : decode b_MO_beat 45 = .ok (.getfield 79, 3) := dc_180 (qU2_win (r := 45) wn_MO_beat_0 (by decide +kernel))
theorem d_MO_beat_48 : decode b_MO_beat 48 = .ok (.iload 4, 2) := dc_21 (qU1_win (r := 48) wn_MO_beat_0 (by decide +kernel))
theorem d_MO_beat_50 : decode b_MO_beat 50 = .ok (.iaload, 1) := dc_46 (q0_win (r := 50) wn_MO_beat_0 (by decide +kernel))
theorem d_MO_beat_51 : decode b_MO_beat 51 = .ok (.invokevirtual 350, 3) := dc_182 (qU2_win (r := 51) wn_MO_beat_0 (by decide +kernel))
theorem d_MO_beat_54 : decode b_MO_beat 54 = .ok (.istore 5, 2) := dc_54 (qU1_win (r := 54) wn_MO_beat_0 (by decide +kernel))
theorem d_MO_beat_56 : decode b_MO_beat 56 = .ok (.iload 5, 2) := dc_21 (qU1_win (r := 56) wn_MO_beat_0 (by decide +kernel))
theorem d_MO_beat_58 : decode b_MO_beat 58 = .ok (.iconst (-1), 1) := dc_2 (q0_win (r := 58) wn_MO_beat_0 (by decide +kernel))
theorem d_MO_beat_59 : decode b_MO_beat 59 = .ok (.if_icmp .eq 79, 3) := dc_159 (qS2_win (r := 59) wn_MO_beat_0 (by decide +kernel))
theorem d_MO_beat_62 : decode b_MO_beat 62 = .ok (.aload_n 0, 1) := dc_42 (q0_win (r := 62) wn_MO_beat_0 (by decide +kernel))
theorem d_MO_beat_63 : decode b_MO_beat 63 = .ok (.getfield 97, 3) := dc_180 (qU2_win (r := 63) wn_MO_beat_0 (by decide +kernel))
theorem d_MO_beat_66 : decode b_MO_beat 66 = .ok (.iconst 1, 1) := dc_4 (q0_win (r := 66) wn_MO_beat_0 (by decide +kernel))
theorem d_MO_beat_67 : decode b_MO_beat 67 = .ok (.if_icmp .eq 17, 3) := dc_159 (qS2_win (r := 67) wn_MO_beat_0 (by decide +kernel))
theorem d_MO_beat_70 : decode b_MO_beat 70 = .ok (.aload_n 0, 1) := dc_42 (q0_win (r := 70) wn_MO_beat_0 (by decide +kernel))
theorem d_MO_beat_71 : decode b_MO_beat 71 = .ok (.iload_n 1, 1) := dc_27 (q0_win (r := 71) wn_MO_beat_0 (by decide +kernel))
theorem d_MO_beat_72 : decode b_MO_beat 72 = .ok (.iload 5, 2) := dc_21 (qU1_win (r := 72) wn_MO_beat_0 (by decide +kernel))
theorem d_MO_beat_74 : decode b_MO_beat 74 = .ok (.invokevirtual 363, 3) := dc_182 (qU2_win (r := 74) wn_MO_beat_0 (by decide +kernel))
theorem d_MO_beat_77 : decode b_MO_beat 77 = .ok (.iconst (-1), 1) := dc_2 (q0_win (r := 77) wn_MO_beat_0 (by decide +kernel))
theorem d_MO_beat_78 : decode b_MO_beat 78 = .ok (.if_icmp .eq 6, 3) := dc_159 (qS2_win (r := 78) wn_MO_beat_0 (by decide +kernel))
theorem d_MO_beat_81 : decode b_MO_beat 81 = .ok (.goto 57, 3) := dc_167 (qS2_win (r := 81) wn_MO_beat_0 (by decide +kernel))
theorem d_MO_beat_84 : decode b_MO_beat 84 = .ok (.aload_n 0, 1) := dc_42 (q0_win (r := 84) wn_MO_beat_0 (by decide +kernel))
theorem d_MO_beat_85 : decode b_MO_beat 85 = .ok (.getfield 85, 3) := dc_180 (qU2_win (r := 85) wn_MO_beat_0 (by decide +kernel))
theorem d_MO_beat_88 : decode b_MO_beat 88 = .ok (.iload 4, 2) := dc_21 (qU1_win (r := 88) wn_MO_beat_0 (by decide +kernel))
theorem d_MO_beat_90 : decode b_MO_beat 90 = .ok (.dup2, 1) := dc_92 (q0_win (r := 90) wn_MO_beat_0 (by decide +kernel))
theorem d_MO_beat_91 : decode b_MO_beat 91 = .ok (.iaload, 1) := dc_46 (q0_win (r := 91) wn_MO_beat_0 (by decide +kernel))
theorem d_MO_beat_92 : decode b_MO_beat 92 = .ok (.aload_n 0, 1) := dc_42 (q0_win (r := 92) wn_MO_beat_0 (by decide +kernel))
theorem d_MO_beat_93 : decode b_MO_beat 93 = .ok (.aload_n 0, 1) := dc_42 (q0_win (r := 93) wn_MO_beat_0 (by decide +kernel))
theorem wn_MO_beat_94 : ∀ i, i < 62 → bA b_MO_beat (94 + i) = wB [180, 0, 79, 21, 4, 46, 21, 5, 182, 1, 103, 153, 0, 7, 4, 167, 0, 4, 3, 96, 79, 42, 180, 0, 82, 21, 4, 92, 46, 4, 96, 79, 42, 180, 0, 79, 21, 4, 21, 5, 79, 132, 2, 1, 132, 3, 1, 167, 255, 119, 42, 180, 0, 63, 27, 92, 46, 4, 96, 79, 28, 172] i := wB_of (by decide +kernel)
theorem d_MO_beat_94 : decode b_MO_beat 94 = .ok (.getfield 79, 3) := dc_180 (qU2_win (r := 0) wn_MO_beat_94 (by decide +kernel))
theorem d_MO_beat_97 : decode b_MO_beat 97 = .ok (.iload 4, 2) := dc_21 (qU1_win (r := 3) wn_MO_beat_94 (by decide +kernel))
theorem d_MO_beat_99 : decode b_MO_beat 99 = .ok (.iaload, 1) := dc_46 (q0_win (r := 5) wn_MO_beat_94 (by decide +kernel))
theorem d_MO_beat_100 : decode b_MO_beat 100 = .ok (.iload 5, 2) := dc_21 (qU1_win (r := 6) wn_MO_beat_94 (by decide +kernel))
theorem d_MO_beat_102 : decode b_MO_beat 102 = .ok (.invokevirtual 359, 3) := dc_182 (qU2_win (r := 8) wn_MO_beat_94 (by decide +kernel))
theorem d_MO_beat_105 : decode b_MO_beat 105 = .ok (.ifCond .eq 7, 3) := dc_153 (qS2_win (r := 11) wn_MO_beat_94 (by decide +kernel))
theorem d_MO_beat_108 : decode b_MO_beat 108 = .ok (.iconst 1, 1) := dc_4 (q0_win (r := 14) wn_MO_beat_94 (by decide +kernel))
theorem d_MO_beat_109 : decode b_MO_beat 109 = .ok (.goto 4, 3) := dc_167 (qS2_win (r := 15) wn_MO_beat_94 (by decide +kernel))
theorem d_MO_beat_112 : decode b_MO_beat 112 = .ok (.iconst 0, 1) := dc_3 (q0_win (r := 18) wn_MO_beat_94 (by decide +kernel))
theorem d_MO_beat_113 : decode b_MO_beat 113 = .ok (.iadd, 1) := dc_96 (q0_win (r := 19) wn_MO_beat_94 (by decide +kernel))
theorem d_MO_beat_114 : decode b_MO_beat 114 = .ok (.iastore, 1) := dc_79 (q0_win (r := 20) wn_MO_beat_94 (by decide +kernel))
theorem d_MO_beat_115 : decode b_MO_beat 115 = .ok (.aload_n 0, 1) := dc_42 (q0_win (r := 21) wn_MO_beat_94 (by decide +kernel))
theorem d_MO_beat_116 : decode b_MO_beat 116 = .ok (.getfield 82, 3) := dc_180 (qU2_win (r := 22) wn_MO_beat_94 (by decide +kernel))
theorem d_MO_beat_119 : decode b_MO_beat 119 = .ok (.iload 4, 2) := dc_21 (qU1_win (r := 25) wn_MO_beat_94 (by decide +kernel))
theorem d_MO_beat_121 : decode b_MO_beat 121 = .ok (.dup2, 1) := dc_92 (q0_win (r := 27) wn_MO_beat_94 (by decide +kernel))
theorem d_MO_beat_122 : decode b_MO_beat 122 = .ok (.iaload, 1) := dc_46 (q0_win (r := 28) wn_MO_beat_94 (by decide +kernel))
theorem d_MO_beat_123 : decode b_MO_beat 123 = .ok (.iconst 1, 1) := dc_4 (q0_win (r := 29) wn_MO_beat_94 (by decide +kernel))
theorem d_MO_beat_124 : decode b_MO_beat 124 = .ok (.iadd, 1) := dc_96 (q0_win (r := 30) wn_MO_beat_94 (by decide +kernel))
theorem d_MO_beat_125 : decode b_MO_beat 125 = .ok (.iastore, 1) := dc_79 (q0_win (r := 31) wn_MO_beat_94 (by decide +kernel))
theorem d_MO_beat_126 : decode b_MO_beat 126 = .ok (.aload_n 0, 1) := dc_42 (q0_win (r := 32) wn_MO_beat_94 (by decide +kernel))
theorem d_MO_beat_127 : decode b_MO_beat 127 = .ok (.getfield 79, 3) := dc_180 (qU2_win (r := 33) wn_MO_beat_94 (by decide +kernel))
theorem d_MO_beat_130 : decode b_MO_beat 130 = .ok (.iload 4, 2) := dc_21 (qU1_win (r := 36) wn_MO_beat_94 (by decide +kernel))
theorem d_MO_beat_132 : decode b_MO_beat 132 = .ok (.iload 5, 2) := dc_21 (qU1_win (r := 38) wn_MO_beat_94 (by decide +kernel))
theorem d_MO_beat_134 : decode b_MO_beat 134 = .ok (.iastore, 1) := dc_79 (q0_win (r := 40) wn_MO_beat_94 (by decide +kernel))
theorem d_MO_beat_135 : decode b_MO_beat 135 = .ok (.iinc 2 1, 3) := dc_132 (qI_win (r := 41) wn_MO_beat_94 (by decide +kernel))
theorem d_MO_beat_138 : decode b_MO_beat 138 = .ok (.iinc 3 1, 3) := dc_132 (qI_win (r := 44) wn_MO_beat_94 (by decide +kernel))
theorem d_MO_beat_141 : decode b_MO_beat 141 = .ok (.goto (-137), 3) := dc_167 (qS2_win (r := 47) wn_MO_beat_94 (by decide +kernel))
theorem d_MO_beat_144 : decode b_MO_beat 144 = .ok (.aload_n 0, 1) := dc_42 (q0_win (r := 50) wn_MO_beat_94 (by decide +kernel))
theorem d_MO_beat_145 : decode b_MO_beat 145 = .ok (.getfield 63, 3) := dc_180 (qU2_win (r := 51) wn_MO_beat_94 (by decide +kernel))
theorem d_MO_beat_148 : decode b_MO_beat 148 = .ok (.iload_n 1, 1) := dc_27 (q0_win (r := 54) wn_MO_beat_94 (by decide +kernel))
theorem d_MO_beat_149 : decode b_MO_beat 149 = .ok (.dup2, 1) := dc_92 (q0_win (r := 55) wn_MO_beat_94 (by decide +kernel))
theorem d_MO_beat_150 : decode b_MO_beat 150 = .ok (.iaload, 1) := dc_46 (q0_win (r := 56) wn_MO_beat_94 (by decide +kernel))
theorem d_MO_beat_151 : decode b_MO_beat 151 = .ok (.iconst 1, 1) := dc_4 (q0_win (r := 57) wn_MO_beat_94 (by decide +kernel))
theorem d_MO_beat_152 : decode b_MO_beat 152 = .ok (.iadd, 1) := dc_96 (q0_win (r := 58) wn_MO_beat_94 (by decide +kernel))
theorem d_MO_beat_153 : decode b_MO_beat 153 = .ok (.iastore, 1) := dc_79 (q0_win (r := 59) wn_MO_beat_94 (by decide +kernel))
theorem d_MO_beat_154 : decode b_MO_beat 154 = .ok (.iload_n 2, 1) := dc_28 (q0_win (r := 60) wn_MO_beat_94 (by decide +kernel))
theorem d_MO_beat_155 : decode b_MO_beat 155 = .ok (.ireturn, 1) := dc_172 (q0_win (r := 61) wn_MO_beat_94 (by decide +kernel))
def t_MO_beat_L138 (x1 : Int) (bk4 : Mem → Int → Int → Option (Mem × Int)) (M : Mem) (v2_ : Int) (v3_ : Int) : Option (Mem × Int) := (bk4 M v2_ (w32 (v3_ + 1)))
def t_MO_beat_L113 (x1 : Int) (bk4 : Mem → Int → Int → Option (Mem × Int)) (M : Mem) (v2_ : Int) (v3_ : Int) (v4_ : Int) (v5_ : Int) (v7_ : Int) (v8_ : Int) (v9_ : Int) : Option (Mem × Int) := (qguard (0 ≤ v7_ ∧ v7_ < 184) (qlet (setI M 215 v7_ (w32 (v8_ + v9_))) fun M29 => (qguard (0 ≤ v4_ ∧ v4_ < 184) (qguard (0 ≤ v4_ ∧ v4_ < 184) (qlet (setI M29 214 v4_ (w32 ((M29.1 214 v4_) + 1))) fun M33 => (qguard (0 ≤ v4_ ∧ v4_ < 184) (qlet (setI M33 213 v4_ v5_) fun M35 => (t_MO_beat_L138 x1 bk4 M35 (w32 (v2_ + 1)) v3_))))))))
def t_MO_beat_L84 (x1 : Int) (bk4 : Mem → Int → Int → Option (Mem × Int)) (M : Mem) (v2_ : Int) (v3_ : Int) (v4_ : Int) (v5_ : Int) : Option (Mem × Int) := (qguard (0 ≤ v4_ ∧ v4_ < 184) (qguard (0 ≤ v4_ ∧ v4_ < 184) (obind (t_MO_isLine M (M.1 213 v4_) v5_) fun q25 => (if q25 = 0 then (t_MO_beat_L113 x1 bk4 M v2_ v3_ v4_ v5_ v4_ (M.1 215 v4_) 0) else (t_MO_beat_L113 x1 bk4 M v2_ v3_ v4_ v5_ v4_ (M.1 215 v4_) 1)))))
def t_MO_beat_L34 (x1 : Int) (bk4 : Mem → Int → Int → Option (Mem × Int)) (M : Mem) (v2_ : Int) (v3_ : Int) : Option (Mem × Int) := (qguard (0 ≤ (w32 ((w32 (8 * x1)) + v3_)) ∧ (w32 ((w32 (8 * x1)) + v3_)) < 184) (obind (t_MO_nextOf M x1 (M.1 213 (w32 ((w32 (8 * x1)) + v3_)))) fun q13 => (if q13 = (-1) then (t_MO_beat_L138 x1 bk4 M v2_ v3_) else (if (M.1 191 44) = 1 then (t_MO_beat_L84 x1 bk4 M v2_ v3_ (w32 ((w32 (8 * x1)) + v3_)) q13) else (obind (t_MO_thingIn M x1 q13) fun q18 => (if q18 = (-1) then (t_MO_beat_L84 x1 bk4 M v2_ v3_ (w32 ((w32 (8 * x1)) + v3_)) q13) else (t_MO_beat_L138 x1 bk4 M v2_ v3_)))))))
def t_MO_beat_L4 (x1 : Int)  : Nat → Mem → Int → Int → Option (Mem × Int)
  | 0, _, _, _ => none
  | fu + 1, M, v2_, v3_ => (if (M.1 193 6) ≤ v3_ then (qguard (0 ≤ x1 ∧ x1 < 23) (qguard (0 ≤ x1 ∧ x1 < 23) (qlet (setI M 208 x1 (w32 ((M.1 208 x1) + 1))) fun M6 => (some (M6, v2_))))) else (if (M.1 191 44) = 4 then (if (M.1 191 45) = v3_ then (t_MO_beat_L138 x1 (fun a0_ a1_ a2_ => t_MO_beat_L4 x1 fu a0_ a1_ a2_) M v2_ v3_) else (t_MO_beat_L34 x1 (fun a0_ a1_ a2_ => t_MO_beat_L4 x1 fu a0_ a1_ a2_) M v2_ v3_)) else (t_MO_beat_L34 x1 (fun a0_ a1_ a2_ => t_MO_beat_L4 x1 fu a0_ a1_ a2_) M v2_ v3_)))
def t_MO_beat (M : Mem) (x1 : Int) : Option (Mem × Int) := (t_MO_beat_L4 x1 FU M 0 0)
set_option maxHeartbeats 4000000 in
set_option maxRecDepth 100000 in
theorem k_MO_beat_L138 (l : Launch) {p : Program} {e : Env} {s : State} {m : MethodId} {below : List Frame} {meth : Method} {c : Code} {b n : Nat} {C : CT} (hlo : 231 ≤ n) (x1 : Int) (hx1 : InR x1) (F : Cx b p m c b_MO_beat 6 s ([.ref (b + 191), vI x1] : List Value).toArray "WardFallsModel" C n 231) (hlk : meth.locks = false) (hr : meth.sig.returnType = some .int) {res : Mem × Int} (bk4 : Mem → Int → Int → Option (Mem × Int)) (hbk4 : ∀ (M : Mem) (v2_ : Int) (hv2_ : InR v2_) (v3_ : Int) (hv3_ : InR v3_) (H : Heap) (locs : List Loc) (ls : Array Slot), St b C n M s H locs → lv_has ls 6 [(0, .ref (b + 191)), (1, vI x1), (2, vI v2_), (3, vI v3_)] → bk4 M v2_ v3_ = some res → W p l e (headSpec (wsM y_MO_beat b_MO_beat 6 (some .int)) (rmD 2)).room s m ([.ref (b + 191), vI x1] : List Value).toArray below meth c H locs 0 0 (MQ below (QI b C n res.1 res.2) ([.ref (b + 191), vI x1] : List Value).toArray s 0 0 (frb b)) (F0 m 4 ls [])) (M : Mem) (v2_ : Int) (hv2_ : InR v2_) (v3_ : Int) (hv3_ : InR v3_) (H : Heap) (locs : List Loc) (ls : Array Slot) (hS : St b C n M s H locs) (hl : lv_has ls 6 [(0, .ref (b + 191)), (1, vI x1), (2, vI v2_), (3, vI v3_)]) (hT : t_MO_beat_L138 x1 bk4 M v2_ v3_ = some res) : W p l e (headSpec (wsM y_MO_beat b_MO_beat 6 (some .int)) (rmD 2)).room s m ([.ref (b + 191), vI x1] : List Value).toArray below meth c H locs 0 0 (MQ below (QI b C n res.1 res.2) ([.ref (b + 191), vI x1] : List Value).toArray s 0 0 (frb b)) (F0 m 138 ls []) := by
  unfold t_MO_beat_L138 at hT
  refine lv_iinc (v := Int32.ofInt (w32 (v3_ + 1))) (lv' := [(3, vI (w32 (v3_ + 1))), (0, .ref (b + 191)), (1, vI x1), (2, vI v2_)]) F.hx F.hb d_MO_beat_138 hl (k := 3) rfl (q_of_add _ _) (Nat.le_of_ble_eq_true rfl) rfl (fun ls hl => ?_)
  refine lv_goto (tgt := 4) F.hx F.hb d_MO_beat_141 (by decide) ?_
  exact hbk4 M v2_ hv2_ (w32 (v3_ + 1)) (inr_w32 _) _ _ _ hS (lv_sub hl [1, 2, 3, 0] rfl) hT
set_option maxHeartbeats 4000000 in
set_option maxRecDepth 100000 in
theorem k_MO_beat_L113 (l : Launch) {p : Program} {e : Env} {s : State} {m : MethodId} {below : List Frame} {meth : Method} {c : Code} {b n : Nat} {C : CT} (hlo : 231 ≤ n) (x1 : Int) (hx1 : InR x1) (F : Cx b p m c b_MO_beat 6 s ([.ref (b + 191), vI x1] : List Value).toArray "WardFallsModel" C n 231) (hlk : meth.locks = false) (hr : meth.sig.returnType = some .int) {res : Mem × Int} (bk4 : Mem → Int → Int → Option (Mem × Int)) (hbk4 : ∀ (M : Mem) (v2_ : Int) (hv2_ : InR v2_) (v3_ : Int) (hv3_ : InR v3_) (H : Heap) (locs : List Loc) (ls : Array Slot), St b C n M s H locs → lv_has ls 6 [(0, .ref (b + 191)), (1, vI x1), (2, vI v2_), (3, vI v3_)] → bk4 M v2_ v3_ = some res → W p l e (headSpec (wsM y_MO_beat b_MO_beat 6 (some .int)) (rmD 2)).room s m ([.ref (b + 191), vI x1] : List Value).toArray below meth c H locs 0 0 (MQ below (QI b C n res.1 res.2) ([.ref (b + 191), vI x1] : List Value).toArray s 0 0 (frb b)) (F0 m 4 ls [])) (M : Mem) (v2_ : Int) (hv2_ : InR v2_) (v3_ : Int) (hv3_ : InR v3_) (v4_ : Int) (hv4_ : InR v4_) (v5_ : Int) (hv5_ : InR v5_) (v7_ : Int) (hv7_ : InR v7_) (v8_ : Int) (hv8_ : InR v8_) (v9_ : Int) (hv9_ : v9_ = 0 ∨ v9_ = 1) (H : Heap) (locs : List Loc) (ls : Array Slot) (hS : St b C n M s H locs) (hl : lv_has ls 6 [(0, .ref (b + 191)), (1, vI x1), (2, vI v2_), (3, vI v3_), (4, vI v4_), (5, vI v5_)]) (hT : t_MO_beat_L113 x1 bk4 M v2_ v3_ v4_ v5_ v7_ v8_ v9_ = some res) : W p l e (headSpec (wsM y_MO_beat b_MO_beat 6 (some .int)) (rmD 2)).room s m ([.ref (b + 191), vI x1] : List Value).toArray below meth c H locs 0 0 (MQ below (QI b C n res.1 res.2) ([.ref (b + 191), vI x1] : List Value).toArray s 0 0 (frb b)) (F0 m 113 ls [vI v9_, vI v8_, vI v7_, .ref (b + 215)]) := by
  unfold t_MO_beat_L113 at hT
  refine r_iadd F.hx F.hb d_MO_beat_113 ?_
  obtain ⟨⟨g28a, g28b⟩, hT⟩ := q_guard hT
  refine r_iast F hS (show 215 < 231 by decide) (show shK 215 = 0 from rfl) (show shN 215 = 184 from rfl) hv7_ (inr_w32 _) g28a g28b d_MO_beat_114 (fun H locs hS => ?_)
  obtain ⟨M29, eM29⟩ : ∃ q, q = (setI M 215 v7_ (w32 (v8_ + v9_))) := ⟨_, rfl⟩
  replace hS : St b C n M29 s H locs := by rw [eM29]; exact hS
  replace hT := qlet_eq hT eM29
  refine lv_aload_n F.hx F.hb d_MO_beat_115 rfl (lv_at hl 0 rfl) ?_
  refine r_get (v := .ref (b + 214)) (N := 68) (T := T1) (j := 37) F hS (show 191 < 231 by decide) (show shK 191 = 5 from rfl) (show shN 191 = 68 from rfl) rfl (Nat.le_of_ble_eq_true rfl) ing1 mw_1426 (fv_sg rfl rfl rfl) d_MO_beat_116 ?_
  refine lv_iload F.hx F.hb d_MO_beat_119 (lv_at hl 4 rfl) ?_
  refine lv_dup2_11 F.hx F.hb d_MO_beat_121 rfl rfl ?_
  obtain ⟨⟨g30a, g30b⟩, hT⟩ := q_guard hT
  refine r_iald F hS (show 214 < 231 by decide) (show shK 214 = 0 from rfl) (show shN 214 = 184 from rfl) hv4_ g30a g30b d_MO_beat_122 ?_
  have i31 := hS.rng 214 v4_
  refine r_iconst F.hx F.hb d_MO_beat_123 ?_
  refine r_iadd F.hx F.hb d_MO_beat_124 ?_
  obtain ⟨⟨g32a, g32b⟩, hT⟩ := q_guard hT
  refine r_iast F hS (show 214 < 231 by decide) (show shK 214 = 0 from rfl) (show shN 214 = 184 from rfl) hv4_ (inr_w32 _) g32a g32b d_MO_beat_125 (fun H locs hS => ?_)
  obtain ⟨M33, eM33⟩ : ∃ q, q = (setI M29 214 v4_ (w32 ((M29.1 214 v4_) + 1))) := ⟨_, rfl⟩
  replace hS : St b C n M33 s H locs := by rw [eM33]; exact hS
  replace hT := qlet_eq hT eM33
  refine lv_aload_n F.hx F.hb d_MO_beat_126 rfl (lv_at hl 0 rfl) ?_
  refine r_get (v := .ref (b + 213)) (N := 68) (T := T1) (j := 36) F hS (show 191 < 231 by decide) (show shK 191 = 5 from rfl) (show shN 191 = 68 from rfl) rfl (Nat.le_of_ble_eq_true rfl) ing1 mw_1425 (fv_sg rfl rfl rfl) d_MO_beat_127 ?_
  refine lv_iload F.hx F.hb d_MO_beat_130 (lv_at hl 4 rfl) ?_
  refine lv_iload F.hx F.hb d_MO_beat_132 (lv_at hl 5 rfl) ?_
  obtain ⟨⟨g34a, g34b⟩, hT⟩ := q_guard hT
  refine r_iast F hS (show 213 < 231 by decide) (show shK 213 = 0 from rfl) (show shN 213 = 184 from rfl) hv4_ hv5_ g34a g34b d_MO_beat_134 (fun H locs hS => ?_)
  obtain ⟨M35, eM35⟩ : ∃ q, q = (setI M33 213 v4_ v5_) := ⟨_, rfl⟩
  replace hS : St b C n M35 s H locs := by rw [eM35]; exact hS
  replace hT := qlet_eq hT eM35
  refine lv_iinc (v := Int32.ofInt (w32 (v2_ + 1))) (lv' := [(2, vI (w32 (v2_ + 1))), (0, .ref (b + 191)), (1, vI x1), (3, vI v3_), (4, vI v4_), (5, vI v5_)]) F.hx F.hb d_MO_beat_135 hl (k := 2) rfl (q_of_add _ _) (Nat.le_of_ble_eq_true rfl) rfl (fun ls hl => ?_)
  exact k_MO_beat_L138 l hlo x1 hx1 F hlk hr bk4 hbk4 M35 (w32 (v2_ + 1)) (inr_w32 _) v3_ hv3_ _ _ _ hS (lv_sub hl [1, 2, 0, 3] rfl) hT
set_option maxHeartbeats 4000000 in
set_option maxRecDepth 100000 in
theorem k_MO_beat_L84 (l : Launch) {p : Program} {e : Env} {s : State} {m : MethodId} {below : List Frame} {meth : Method} {c : Code} {b n : Nat} {C : CT} (hlo : 231 ≤ n) (x1 : Int) (hx1 : InR x1) (F : Cx b p m c b_MO_beat 6 s ([.ref (b + 191), vI x1] : List Value).toArray "WardFallsModel" C n 231) (hlk : meth.locks = false) (hr : meth.sig.returnType = some .int) {res : Mem × Int} (bk4 : Mem → Int → Int → Option (Mem × Int)) (hbk4 : ∀ (M : Mem) (v2_ : Int) (hv2_ : InR v2_) (v3_ : Int) (hv3_ : InR v3_) (H : Heap) (locs : List Loc) (ls : Array Slot), St b C n M s H locs → lv_has ls 6 [(0, .ref (b + 191)), (1, vI x1), (2, vI v2_), (3, vI v3_)] → bk4 M v2_ v3_ = some res → W p l e (headSpec (wsM y_MO_beat b_MO_beat 6 (some .int)) (rmD 2)).room s m ([.ref (b + 191), vI x1] : List Value).toArray below meth c H locs 0 0 (MQ below (QI b C n res.1 res.2) ([.ref (b + 191), vI x1] : List Value).toArray s 0 0 (frb b)) (F0 m 4 ls [])) (M : Mem) (v2_ : Int) (hv2_ : InR v2_) (v3_ : Int) (hv3_ : InR v3_) (v4_ : Int) (hv4_ : InR v4_) (v5_ : Int) (hv5_ : InR v5_) (H : Heap) (locs : List Loc) (ls : Array Slot) (hS : St b C n M s H locs) (hl : lv_has ls 6 [(0, .ref (b + 191)), (1, vI x1), (2, vI v2_), (3, vI v3_), (4, vI v4_), (5, vI v5_)]) (hT : t_MO_beat_L84 x1 bk4 M v2_ v3_ v4_ v5_ = some res) : W p l e (headSpec (wsM y_MO_beat b_MO_beat 6 (some .int)) (rmD 2)).room s m ([.ref (b + 191), vI x1] : List Value).toArray below meth c H locs 0 0 (MQ below (QI b C n res.1 res.2) ([.ref (b + 191), vI x1] : List Value).toArray s 0 0 (frb b)) (F0 m 84 ls []) := by
  unfold t_MO_beat_L84 at hT
  refine lv_aload_n F.hx F.hb d_MO_beat_84 rfl (lv_at hl 0 rfl) ?_
  refine r_get (v := .ref (b + 215)) (N := 68) (T := T1) (j := 38) F hS (show 191 < 231 by decide) (show shK 191 = 5 from rfl) (show shN 191 = 68 from rfl) rfl (Nat.le_of_ble_eq_true rfl) ing1 mw_1427 (fv_sg rfl rfl rfl) d_MO_beat_85 ?_
  refine lv_iload F.hx F.hb d_MO_beat_88 (lv_at hl 4 rfl) ?_
  refine lv_dup2_11 F.hx F.hb d_MO_beat_90 rfl rfl ?_
  obtain ⟨⟨g21a, g21b⟩, hT⟩ := q_guard hT
  refine r_iald F hS (show 215 < 231 by decide) (show shK 215 = 0 from rfl) (show shN 215 = 184 from rfl) hv4_ g21a g21b d_MO_beat_91 ?_
  have i22 := hS.rng 215 v4_
  refine lv_aload_n F.hx F.hb d_MO_beat_92 rfl (lv_at hl 0 rfl) ?_
  refine lv_aload_n F.hx F.hb d_MO_beat_93 rfl (lv_at hl 0 rfl) ?_
  refine r_get (v := .ref (b + 213)) (N := 68) (T := T1) (j := 36) F hS (show 191 < 231 by decide) (show shK 191 = 5 from rfl) (show shN 191 = 68 from rfl) rfl (Nat.le_of_ble_eq_true rfl) ing1 mw_1425 (fv_sg rfl rfl rfl) d_MO_beat_94 ?_
  refine lv_iload F.hx F.hb d_MO_beat_97 (lv_at hl 4 rfl) ?_
  obtain ⟨⟨g23a, g23b⟩, hT⟩ := q_guard hT
  refine r_iald F hS (show 213 < 231 by decide) (show shK 213 = 0 from rfl) (show shN 213 = 184 from rfl) hv4_ g23a g23b d_MO_beat_99 ?_
  have i24 := hS.rng 213 v4_
  refine lv_iload F.hx F.hb d_MO_beat_100 (lv_at hl 5 rfl) ?_
  obtain ⟨q25, hq25, hT⟩ := q_obind hT
  refine r_backZ F hS (r_runV (k := 191) (N := 68) (T := T1) (As := [vI (M.1 213 v4_), vI v5_]) F hS (show 191 < 231 by decide) (show shK 191 = 5 from rfl) rfl (c_MO_isLine l F.2.2.1 M (M.1 213 v4_) v5_ i24 hv5_ _ hq25) gs_MO_359 hd_MO_isLine ⟨Nat.le_of_ble_eq_true rfl, Nat.le_of_ble_eq_true rfl⟩ rfl hl.1 (Nat.le_of_ble_eq_true rfl) ⟨Nat.zero_le _, Nat.zero_le _⟩ rfl d_MO_beat_102) (fun H locs hS h26 => ?_)
  refine r_if_eq (tgt := 112) F.hx F.hb (inr_z h26) d_MO_beat_105 (by decide) (fun c27 => ?_) (fun c27 => ?_)
  · replace hT := (if_pos c27).symm.trans hT
    refine r_iconst F.hx F.hb d_MO_beat_112 ?_
    exact k_MO_beat_L113 l hlo x1 hx1 F hlk hr bk4 hbk4 M v2_ hv2_ v3_ hv3_ v4_ hv4_ v5_ hv5_ v4_ hv4_ (M.1 215 v4_) i22 0 (Or.inl rfl) _ _ _ hS (lv_sub hl [0, 1, 2, 3, 4, 5] rfl) hT
  · replace hT := (if_neg c27).symm.trans hT
    refine r_iconst F.hx F.hb d_MO_beat_108 ?_
    refine lv_goto (tgt := 113) F.hx F.hb d_MO_beat_109 (by decide) ?_
    exact k_MO_beat_L113 l hlo x1 hx1 F hlk hr bk4 hbk4 M v2_ hv2_ v3_ hv3_ v4_ hv4_ v5_ hv5_ v4_ hv4_ (M.1 215 v4_) i22 1 (Or.inr rfl) _ _ _ hS (lv_sub hl [0, 1, 2, 3, 4, 5] rfl) hT
set_option maxHeartbeats 4000000 in
set_option maxRecDepth 100000 in
theorem k_MO_beat_L34 (l : Launch) {p : Program} {e : Env} {s : State} {m : MethodId} {below : List Frame} {meth : Method} {c : Code} {b n : Nat} {C : CT} (hlo : 231 ≤ n) (x1 : Int) (hx1 : InR x1) (F : Cx b p m c b_MO_beat 6 s ([.ref (b + 191), vI x1] : List Value).toArray "WardFallsModel" C n 231) (hlk : meth.locks = false) (hr : meth.sig.returnType = some .int) {res : Mem × Int} (bk4 : Mem → Int → Int → Option (Mem × Int)) (hbk4 : ∀ (M : Mem) (v2_ : Int) (hv2_ : InR v2_) (v3_ : Int) (hv3_ : InR v3_) (H : Heap) (locs : List Loc) (ls : Array Slot), St b C n M s H locs → lv_has ls 6 [(0, .ref (b + 191)), (1, vI x1), (2, vI v2_), (3, vI v3_)] → bk4 M v2_ v3_ = some res → W p l e (headSpec (wsM y_MO_beat b_MO_beat 6 (some .int)) (rmD 2)).room s m ([.ref (b + 191), vI x1] : List Value).toArray below meth c H locs 0 0 (MQ below (QI b C n res.1 res.2) ([.ref (b + 191), vI x1] : List Value).toArray s 0 0 (frb b)) (F0 m 4 ls [])) (M : Mem) (v2_ : Int) (hv2_ : InR v2_) (v3_ : Int) (hv3_ : InR v3_) (H : Heap) (locs : List Loc) (ls : Array Slot) (hS : St b C n M s H locs) (hl : lv_has ls 6 [(0, .ref (b + 191)), (1, vI x1), (2, vI v2_), (3, vI v3_)]) (hT : t_MO_beat_L34 x1 bk4 M v2_ v3_ = some res) : W p l e (headSpec (wsM y_MO_beat b_MO_beat 6 (some .int)) (rmD 2)).room s m ([.ref (b + 191), vI x1] : List Value).toArray below meth c H locs 0 0 (MQ below (QI b C n res.1 res.2) ([.ref (b + 191), vI x1] : List Value).toArray s 0 0 (frb b)) (F0 m 34 ls []) := by
  unfold t_MO_beat_L34 at hT
  refine r_bipush F.hx F.hb d_MO_beat_34 rfl ?_
  refine lv_iload_n F.hx F.hb d_MO_beat_36 rfl (lv_at hl 1 rfl) ?_
  refine r_imul F.hx F.hb d_MO_beat_37 ?_
  refine lv_iload_n F.hx F.hb d_MO_beat_38 rfl (lv_at hl 3 rfl) ?_
  refine r_iadd F.hx F.hb d_MO_beat_39 ?_
  refine lv_istore (lv' := [(4, vI (w32 ((w32 (8 * x1)) + v3_))), (0, .ref (b + 191)), (1, vI x1), (2, vI v2_), (3, vI v3_)]) F.hx F.hb d_MO_beat_40 hl (Nat.le_of_ble_eq_true rfl) rfl (fun ls hl => ?_)
  refine lv_aload_n F.hx F.hb d_MO_beat_42 rfl (lv_at hl 1 rfl) ?_
  refine lv_iload_n F.hx F.hb d_MO_beat_43 rfl (lv_at hl 2 rfl) ?_
  refine lv_aload_n F.hx F.hb d_MO_beat_44 rfl (lv_at hl 1 rfl) ?_
  refine r_get (v := .ref (b + 213)) (N := 68) (T := T1) (j := 36) F hS (show 191 < 231 by decide) (show shK 191 = 5 from rfl) (show shN 191 = 68 from rfl) rfl (Nat.le_of_ble_eq_true rfl) ing1 mw_1425 (fv_sg rfl rfl rfl) d_MO_beat_45 ?_
  refine lv_iload F.hx F.hb d_MO_beat_48 (lv_at hl 0 rfl) ?_
  obtain ⟨⟨g11a, g11b⟩, hT⟩ := q_guard hT
  refine r_iald F hS (show 213 < 231 by decide) (show shK 213 = 0 from rfl) (show shN 213 = 184 from rfl) (inr_w32 _) g11a g11b d_MO_beat_50 ?_
  have i12 := hS.rng 213 (w32 ((w32 (8 * x1)) + v3_))
  obtain ⟨q13, hq13, hT⟩ := q_obind hT
  refine r_backI F hS (r_runV (k := 191) (N := 68) (T := T1) (As := [vI x1, vI (M.1 213 (w32 ((w32 (8 * x1)) + v3_)))]) F hS (show 191 < 231 by decide) (show shK 191 = 5 from rfl) rfl (c_MO_nextOf l F.2.2.1 M x1 (M.1 213 (w32 ((w32 (8 * x1)) + v3_))) hx1 i12 _ hq13) gs_MO_350 hd_MO_nextOf ⟨Nat.le_of_ble_eq_true rfl, Nat.le_of_ble_eq_true rfl⟩ rfl hl.1 (Nat.le_of_ble_eq_true rfl) ⟨Nat.zero_le _, Nat.zero_le _⟩ rfl d_MO_beat_51) (fun H locs hS h14 => ?_)
  refine lv_istore (lv' := [(5, vI q13), (4, vI (w32 ((w32 (8 * x1)) + v3_))), (0, .ref (b + 191)), (1, vI x1), (2, vI v2_), (3, vI v3_)]) F.hx F.hb d_MO_beat_54 hl (Nat.le_of_ble_eq_true rfl) rfl (fun ls hl => ?_)
  refine lv_iload F.hx F.hb d_MO_beat_56 (lv_at hl 0 rfl) ?_
  refine r_iconst F.hx F.hb d_MO_beat_58 ?_
  refine r_icmp_eq (tgt := 138) F.hx F.hb h14 (inr_c rfl) d_MO_beat_59 (by decide) (fun c15 => ?_) (fun c15 => ?_)
  · replace hT := (if_pos c15).symm.trans hT
    exact k_MO_beat_L138 l hlo x1 hx1 F hlk hr bk4 hbk4 M v2_ hv2_ v3_ hv3_ _ _ _ hS (lv_sub hl [2, 3, 4, 5] rfl) hT
  · replace hT := (if_neg c15).symm.trans hT
    refine lv_aload_n F.hx F.hb d_MO_beat_62 rfl (lv_at hl 2 rfl) ?_
    refine r_get (v := vI (M.1 191 44)) (N := 68) (T := T1) (j := 44) F hS (show 191 < 231 by decide) (show shK 191 = 5 from rfl) (show shN 191 = 68 from rfl) rfl (Nat.le_of_ble_eq_true rfl) ing1 mw_1433 (fv_int rfl) d_MO_beat_63 ?_
    have i16 := hS.rng 191 44
    refine r_iconst F.hx F.hb d_MO_beat_66 ?_
    refine r_icmp_eq (tgt := 84) F.hx F.hb i16 (inr_c rfl) d_MO_beat_67 (by decide) (fun c17 => ?_) (fun c17 => ?_)
    · replace hT := (if_pos c17).symm.trans hT
      exact k_MO_beat_L84 l hlo x1 hx1 F hlk hr bk4 hbk4 M v2_ hv2_ v3_ hv3_ (w32 ((w32 (8 * x1)) + v3_)) (inr_w32 _) q13 h14 _ _ _ hS (lv_sub hl [2, 3, 4, 5, 1, 0] rfl) hT
    · replace hT := (if_neg c17).symm.trans hT
      refine lv_aload_n F.hx F.hb d_MO_beat_70 rfl (lv_at hl 2 rfl) ?_
      refine lv_iload_n F.hx F.hb d_MO_beat_71 rfl (lv_at hl 3 rfl) ?_
      refine lv_iload F.hx F.hb d_MO_beat_72 (lv_at hl 0 rfl) ?_
      obtain ⟨q18, hq18, hT⟩ := q_obind hT
      refine r_backI F hS (r_runV (k := 191) (N := 68) (T := T1) (As := [vI x1, vI q13]) F hS (show 191 < 231 by decide) (show shK 191 = 5 from rfl) rfl (c_MO_thingIn l F.2.2.1 M x1 q13 hx1 h14 _ hq18) gs_MO_363 hd_MO_thingIn ⟨Nat.le_of_ble_eq_true rfl, Nat.le_of_ble_eq_true rfl⟩ rfl hl.1 (Nat.le_of_ble_eq_true rfl) ⟨Nat.zero_le _, Nat.zero_le _⟩ rfl d_MO_beat_74) (fun H locs hS h19 => ?_)
      refine r_iconst F.hx F.hb d_MO_beat_77 ?_
      refine r_icmp_eq (tgt := 84) F.hx F.hb h19 (inr_c rfl) d_MO_beat_78 (by decide) (fun c20 => ?_) (fun c20 => ?_)
      · replace hT := (if_pos c20).symm.trans hT
        exact k_MO_beat_L84 l hlo x1 hx1 F hlk hr bk4 hbk4 M v2_ hv2_ v3_ hv3_ (w32 ((w32 (8 * x1)) + v3_)) (inr_w32 _) q13 h14 _ _ _ hS (lv_sub hl [2, 3, 4, 5, 1, 0] rfl) hT
      · replace hT := (if_neg c20).symm.trans hT
        refine lv_goto (tgt := 138) F.hx F.hb d_MO_beat_81 (by decide) ?_
        exact k_MO_beat_L138 l hlo x1 hx1 F hlk hr bk4 hbk4 M v2_ hv2_ v3_ hv3_ _ _ _ hS (lv_sub hl [2, 3, 4, 5] rfl) hT
set_option maxHeartbeats 4000000 in
set_option maxRecDepth 100000 in
theorem k_MO_beat_L4 (l : Launch) {p : Program} {e : Env} {s : State} {m : MethodId} {below : List Frame} {meth : Method} {c : Code} {b n : Nat} {C : CT} (hlo : 231 ≤ n) (x1 : Int) (hx1 : InR x1) (F : Cx b p m c b_MO_beat 6 s ([.ref (b + 191), vI x1] : List Value).toArray "WardFallsModel" C n 231) (hlk : meth.locks = false) (hr : meth.sig.returnType = some .int) {res : Mem × Int} : ∀ (fu : Nat) (M : Mem) (v2_ : Int) (hv2_ : InR v2_) (v3_ : Int) (hv3_ : InR v3_) (H : Heap) (locs : List Loc) (ls : Array Slot), St b C n M s H locs → lv_has ls 6 [(0, .ref (b + 191)), (1, vI x1), (2, vI v2_), (3, vI v3_)] → t_MO_beat_L4 x1 fu M v2_ v3_ = some res → W p l e (headSpec (wsM y_MO_beat b_MO_beat 6 (some .int)) (rmD 2)).room s m ([.ref (b + 191), vI x1] : List Value).toArray below meth c H locs 0 0 (MQ below (QI b C n res.1 res.2) ([.ref (b + 191), vI x1] : List Value).toArray s 0 0 (frb b)) (F0 m 4 ls []) := by
  intro fu
  induction fu with
  | zero => intro M v2_ hv2_ v3_ hv3_ H locs ls hS hl hT; exact absurd hT (by simp [t_MO_beat_L4])
  | succ fu ih =>
    intro M v2_ hv2_ v3_ hv3_ H locs ls hS hl hT
    rw [t_MO_beat_L4] at hT
    refine lv_iload_n F.hx F.hb d_MO_beat_4 rfl (lv_at hl 3 rfl) ?_
    refine lv_aload_n F.hx F.hb d_MO_beat_5 rfl (lv_at hl 0 rfl) ?_
    refine r_get (v := .ref (b + 193)) (N := 68) (T := T1) (j := 3) F hS (show 191 < 231 by decide) (show shK 191 = 5 from rfl) (show shN 191 = 68 from rfl) rfl (Nat.le_of_ble_eq_true rfl) ing1 mw_1392 (fv_sg rfl rfl rfl) d_MO_beat_6 ?_
    refine r_bipush F.hx F.hb d_MO_beat_9 rfl ?_
    refine r_iald F hS (show 193 < 231 by decide) (show shK 193 = 0 from rfl) (show shN 193 = 18 from rfl) (inr_c rfl) (by omega) (by omega) d_MO_beat_11 ?_
    have i1 := hS.rng 193 6
    refine r_icmp_ge (tgt := 144) F.hx F.hb hv3_ i1 d_MO_beat_12 (by decide) (fun c2 => ?_) (fun c2 => ?_)
    · replace hT := (if_pos c2).symm.trans hT
      refine lv_aload_n F.hx F.hb d_MO_beat_144 rfl (lv_at hl 0 rfl) ?_
      refine r_get (v := .ref (b + 208)) (N := 68) (T := T1) (j := 31) F hS (show 191 < 231 by decide) (show shK 191 = 5 from rfl) (show shN 191 = 68 from rfl) rfl (Nat.le_of_ble_eq_true rfl) ing1 mw_1420 (fv_sg rfl rfl rfl) d_MO_beat_145 ?_
      refine lv_iload_n F.hx F.hb d_MO_beat_148 rfl (lv_at hl 1 rfl) ?_
      refine lv_dup2_11 F.hx F.hb d_MO_beat_149 rfl rfl ?_
      obtain ⟨⟨g3a, g3b⟩, hT⟩ := q_guard hT
      refine r_iald F hS (show 208 < 231 by decide) (show shK 208 = 0 from rfl) (show shN 208 = 23 from rfl) hx1 g3a g3b d_MO_beat_150 ?_
      have i4 := hS.rng 208 x1
      refine r_iconst F.hx F.hb d_MO_beat_151 ?_
      refine r_iadd F.hx F.hb d_MO_beat_152 ?_
      obtain ⟨⟨g5a, g5b⟩, hT⟩ := q_guard hT
      refine r_iast F hS (show 208 < 231 by decide) (show shK 208 = 0 from rfl) (show shN 208 = 23 from rfl) hx1 (inr_w32 _) g5a g5b d_MO_beat_153 (fun H locs hS => ?_)
      obtain ⟨M6, eM6⟩ : ∃ q, q = (setI M 208 x1 (w32 ((M.1 208 x1) + 1))) := ⟨_, rfl⟩
      replace hS : St b C n M6 s H locs := by rw [eM6]; exact hS
      replace hT := qlet_eq hT eM6
      refine lv_iload_n F.hx F.hb d_MO_beat_154 rfl (lv_at hl 2 rfl) ?_
      cases hT
      exact r_iret F hlk hr rfl hS hv2_ d_MO_beat_155
    · replace hT := (if_neg c2).symm.trans hT
      refine lv_aload_n F.hx F.hb d_MO_beat_15 rfl (lv_at hl 0 rfl) ?_
      refine r_get (v := vI (M.1 191 44)) (N := 68) (T := T1) (j := 44) F hS (show 191 < 231 by decide) (show shK 191 = 5 from rfl) (show shN 191 = 68 from rfl) rfl (Nat.le_of_ble_eq_true rfl) ing1 mw_1433 (fv_int rfl) d_MO_beat_16 ?_
      have i7 := hS.rng 191 44
      refine r_iconst F.hx F.hb d_MO_beat_19 ?_
      refine r_icmp_ne (tgt := 34) F.hx F.hb i7 (inr_c rfl) d_MO_beat_20 (by decide) (fun c8 => ?_) (fun c8 => ?_)
      · replace hT := (if_neg c8).symm.trans hT
        exact k_MO_beat_L34 l hlo x1 hx1 F hlk hr (fun a0_ a1_ a2_ => t_MO_beat_L4 x1 fu a0_ a1_ a2_) ih M v2_ hv2_ v3_ hv3_ _ _ _ hS (lv_sub hl [0, 1, 2, 3] rfl) hT
      · replace hT := (if_pos c8).symm.trans hT
        refine lv_aload_n F.hx F.hb d_MO_beat_23 rfl (lv_at hl 0 rfl) ?_
        refine r_get (v := vI (M.1 191 45)) (N := 68) (T := T1) (j := 45) F hS (show 191 < 231 by decide) (show shK 191 = 5 from rfl) (show shN 191 = 68 from rfl) rfl (Nat.le_of_ble_eq_true rfl) ing1 mw_1434 (fv_int rfl) d_MO_beat_24 ?_
        have i9 := hS.rng 191 45
        refine lv_iload_n F.hx F.hb d_MO_beat_27 rfl (lv_at hl 3 rfl) ?_
        refine r_icmp_ne (tgt := 34) F.hx F.hb i9 hv3_ d_MO_beat_28 (by decide) (fun c10 => ?_) (fun c10 => ?_)
        · replace hT := (if_neg c10).symm.trans hT
          exact k_MO_beat_L34 l hlo x1 hx1 F hlk hr (fun a0_ a1_ a2_ => t_MO_beat_L4 x1 fu a0_ a1_ a2_) ih M v2_ hv2_ v3_ hv3_ _ _ _ hS (lv_sub hl [0, 1, 2, 3] rfl) hT
        · replace hT := (if_pos c10).symm.trans hT
          refine lv_goto (tgt := 138) F.hx F.hb d_MO_beat_31 (by decide) ?_
          exact k_MO_beat_L138 l hlo x1 hx1 F hlk hr (fun a0_ a1_ a2_ => t_MO_beat_L4 x1 fu a0_ a1_ a2_) ih M v2_ hv2_ v3_ hv3_ _ _ _ hS (lv_sub hl [0, 1, 2, 3] rfl) hT
set_option maxHeartbeats 4000000 in
set_option maxRecDepth 100000 in
theorem c_MO_beat (l : Launch) {b n : Nat} {C : CT} (hlo : 231 ≤ n) (M : Mem) (x1 : Int) (hx1 : InR x1) (res : Mem × Int) (hT : t_MO_beat M x1 = some res) : CM l b C n 2 y_MO_beat b_MO_beat 6 (some .int) [.ref (b + 191), vI x1] M (QI b C n res.1 res.2) := by
  refine CM.of (lo := 231) (ow := "WardFallsModel") (by decide) rfl (Nat.le_of_ble_eq_true rfl) hlo (fun p e s m below meth c F hlk hr hS ls hl => ?_)
  have hl : lv_has ls 6 [(0, .ref (b + 191)), (1, vI x1)] := hl
  unfold t_MO_beat at hT
  refine r_iconst F.hx F.hb d_MO_beat_0 ?_
  refine lv_istore_n (lv' := [(2, vI 0), (0, .ref (b + 191)), (1, vI x1)]) F.hx F.hb d_MO_beat_1 rfl hl (Nat.le_of_ble_eq_true rfl) rfl (fun ls hl => ?_)
  refine r_iconst F.hx F.hb d_MO_beat_2 ?_
  refine lv_istore_n (lv' := [(3, vI 0), (2, vI 0), (0, .ref (b + 191)), (1, vI x1)]) F.hx F.hb d_MO_beat_3 rfl hl (Nat.le_of_ble_eq_true rfl) rfl (fun ls hl => ?_)
  exact k_MO_beat_L4 l hlo x1 hx1 F hlk hr FU M 0 (inr_c rfl) 0 (inr_c rfl) _ _ _ hS (lv_sub hl [2, 3, 1, 0] rfl) hT
theorem d_MO_beats_0 : decode b_MO_beats 0 = .ok (.aload_n 0, 1) := dc_42 (by decide +kernel)
theorem d_MO_beats_1 : decode b_MO_beats 1 = .ok (.iconst 0, 1) := dc_3 (by decide +kernel)
theorem d_MO_beats_2 : decode b_MO_beats 2 = .ok (.putfield 145, 3) := dc_181 (by decide +kernel)
theorem d_MO_beats_5 : decode b_MO_beats 5 = .ok (.iload_n 1, 1) := dc_27 (by decide +kernel)
theorem d_MO_beats_6 : decode b_MO_beats 6 = .ok (.ifCond .lt 10, 3) := dc_155 (by decide +kernel)
theorem d_MO_beats_9 : decode b_MO_beats 9 = .ok (.iload_n 1, 1) := dc_27 (by decide +kernel)
theorem d_MO_beats_10 : decode b_MO_beats 10 = .ok (.sipush 200, 3) := dc_17 (by decide +kernel)
theorem d_MO_beats_13 : decode b_MO_beats 13 = .ok (.if_icmp .le 5, 3) := dc_164 (by decide +kernel)
theorem d_MO_beats_16 : decode b_MO_beats 16 = .ok (.iconst (-1), 1) := dc_2 (by decide +kernel)
theorem d_MO_beats_17 : decode b_MO_beats 17 = .ok (.ireturn, 1) := dc_172 (by decide +kernel)
theorem d_MO_beats_18 : decode b_MO_beats 18 = .ok (.iload_n 1, 1) := dc_27 (by decide +kernel)
theorem d_MO_beats_19 : decode b_MO_beats 19 = .ok (.ifCond .le 8, 3) := dc_158 (by decide +kernel)
theorem d_MO_beats_22 : decode b_MO_beats 22 = .ok (.aload_n 0, 1) := dc_42 (by decide +kernel)
theorem d_MO_beats_23 : decode b_MO_beats 23 = .ok (.iconst 0, 1) := dc_3 (by decide +kernel)
theorem d_MO_beats_24 : decode b_MO_beats 24 = .ok (.putfield 326, 3) := dc_181 (by decide +kernel)
theorem d_MO_beats_27 : decode b_MO_beats 27 = .ok (.iconst 0, 1) := dc_3 (by decide +kernel)
theorem d_MO_beats_28 : decode b_MO_beats 28 = .ok (.istore_n 2, 1) := dc_61 (by decide +kernel)
theorem d_MO_beats_29 : decode b_MO_beats 29 = .ok (.iconst 0, 1) := dc_3 (by decide +kernel)
theorem d_MO_beats_30 : decode b_MO_beats 30 = .ok (.istore_n 3, 1) := dc_62 (by decide +kernel)
theorem d_MO_beats_31 : decode b_MO_beats 31 = .ok (.iload_n 3, 1) := dc_29 (by decide +kernel)
theorem d_MO_beats_32 : decode b_MO_beats 32 = .ok (.iload_n 1, 1) := dc_27 (by decide +kernel)
theorem d_MO_beats_33 : decode b_MO_beats 33 = .ok (.if_icmp .ge 17, 3) := dc_162 (by decide +kernel)
theorem d_MO_beats_36 : decode b_MO_beats 36 = .ok (.iload_n 2, 1) := dc_28 (by decide +kernel)
theorem d_MO_beats_37 : decode b_MO_beats 37 = .ok (.aload_n 0, 1) := dc_42 (by decide +kernel)
theorem d_MO_beats_38 : decode b_MO_beats 38 = .ok (.iconst 0, 1) := dc_3 (by decide +kernel)
theorem d_MO_beats_39 : decode b_MO_beats 39 = .ok (.invokevirtual 434, 3) := dc_182 (by decide +kernel)
theorem d_MO_beats_42 : decode b_MO_beats 42 = .ok (.iadd, 1) := dc_96 (by decide +kernel)
theorem d_MO_beats_43 : decode b_MO_beats 43 = .ok (.istore_n 2, 1) := dc_61 (by decide +kernel)
theorem d_MO_beats_44 : decode b_MO_beats 44 = .ok (.iinc 3 1, 3) := dc_132 (by decide +kernel)
theorem d_MO_beats_47 : decode b_MO_beats 47 = .ok (.goto (-16), 3) := dc_167 (by decide +kernel)
theorem d_MO_beats_50 : decode b_MO_beats 50 = .ok (.iload_n 2, 1) := dc_28 (by decide +kernel)
theorem d_MO_beats_51 : decode b_MO_beats 51 = .ok (.ireturn, 1) := dc_172 (by decide +kernel)
def t_MO_beats_L31 (x1 : Int)  : Nat → Mem → Int → Int → Option (Mem × Int)
  | 0, _, _, _ => none
  | fu + 1, M, v2_, v3_ => (if x1 ≤ v3_ then (some (M, v2_)) else (obind (t_MO_beat M 0) fun q7 => (t_MO_beats_L31 x1 fu (q7.1) (w32 (v2_ + (q7.2))) (w32 (v3_ + 1)))))
def t_MO_beats_L27 (x1 : Int)  (M : Mem)  : Option (Mem × Int) := (t_MO_beats_L31 x1 FU M 0 0)
def t_MO_beats (M : Mem) (x1 : Int) : Option (Mem × Int) := (qlet (setI M 191 0 0) fun M1 => (if x1 < 0 then (some (M1, (-1))) else (if x1 ≤ 200 then (if x1 ≤ 0 then (t_MO_beats_L27 x1 M1) else (qlet (setI M1 191 43 0) fun M5 => (t_MO_beats_L27 x1 M5))) else (some (M1, (-1))))))
set_option maxHeartbeats 4000000 in
set_option maxRecDepth 100000 in
theorem k_MO_beats_L31 (l : Launch) {p : Program} {e : Env} {s : State} {m : MethodId} {below : List Frame} {meth : Method} {c : Code} {b n : Nat} {C : CT} (hlo : 231 ≤ n) (x1 : Int) (hx1 : InR x1) (F : Cx b p m c b_MO_beats 4 s ([.ref (b + 191), vI x1] : List Value).toArray "WardFallsModel" C n 231) (hlk : meth.locks = false) (hr : meth.sig.returnType = some .int) {res : Mem × Int} : ∀ (fu : Nat) (M : Mem) (v2_ : Int) (hv2_ : InR v2_) (v3_ : Int) (hv3_ : InR v3_) (H : Heap) (locs : List Loc) (ls : Array Slot), St b C n M s H locs → lv_has ls 4 [(0, .ref (b + 191)), (1, vI x1), (2, vI v2_), (3, vI v3_)] → t_MO_beats_L31 x1 fu M v2_ v3_ = some res → W p l e (headSpec (wsM y_MO_beats b_MO_beats 4 (some .int)) (rmD 3)).room s m ([.ref (b + 191), vI x1] : List Value).toArray below meth c H locs 0 0 (MQ below (QI b C n res.1 res.2) ([.ref (b + 191), vI x1] : List Value).toArray s 0 0 (frb b)) (F0 m 31 ls []) := by
  intro fu
  induction fu with
  | zero => intro M v2_ hv2_ v3_ hv3_ H locs ls hS hl hT; exact absurd hT (by simp [t_MO_beats_L31])
  | succ fu ih =>
    intro M v2_ hv2_ v3_ hv3_ H locs ls hS hl hT
    rw [t_MO_beats_L31] at hT
    refine lv_iload_n F.hx F.hb d_MO_beats_31 rfl (lv_at hl 3 rfl) ?_
    refine lv_iload_n F.hx F.hb d_MO_beats_32 rfl (lv_at hl 1 rfl) ?_
    refine r_icmp_ge (tgt := 50) F.hx F.hb hv3_ hx1 d_MO_beats_33 (by decide) (fun c6 => ?_) (fun c6 => ?_)
    · replace hT := (if_pos c6).symm.trans hT
      refine lv_iload_n F.hx F.hb d_MO_beats_50 rfl (lv_at hl 2 rfl) ?_
      cases hT
      exact r_iret F hlk hr rfl hS hv2_ d_MO_beats_51
    · replace hT := (if_neg c6).symm.trans hT
      refine lv_iload_n F.hx F.hb d_MO_beats_36 rfl (lv_at hl 2 rfl) ?_
      refine lv_aload_n F.hx F.hb d_MO_beats_37 rfl (lv_at hl 0 rfl) ?_
      refine r_iconst F.hx F.hb d_MO_beats_38 ?_
      obtain ⟨q7, hq7, hT⟩ := q_obind hT
      refine r_backI F hS (r_runV (k := 191) (N := 68) (T := T1) (As := [vI 0]) F hS (show 191 < 231 by decide) (show shK 191 = 5 from rfl) rfl (c_MO_beat l F.2.2.1 M 0 (inr_c rfl) _ hq7) gs_MO_434 hd_MO_beat ⟨Nat.le_of_ble_eq_true rfl, Nat.le_of_ble_eq_true rfl⟩ rfl hl.1 (Nat.le_of_ble_eq_true rfl) ⟨Nat.zero_le _, Nat.zero_le _⟩ rfl d_MO_beats_39) (fun H locs hS h8 => ?_)
      refine r_iadd F.hx F.hb d_MO_beats_42 ?_
      refine lv_istore_n (lv' := [(2, vI (w32 (v2_ + (q7.2)))), (0, .ref (b + 191)), (1, vI x1), (3, vI v3_)]) F.hx F.hb d_MO_beats_43 rfl hl (Nat.le_of_ble_eq_true rfl) rfl (fun ls hl => ?_)
      refine lv_iinc (v := Int32.ofInt (w32 (v3_ + 1))) (lv' := [(3, vI (w32 (v3_ + 1))), (2, vI (w32 (v2_ + (q7.2)))), (0, .ref (b + 191)), (1, vI x1)]) F.hx F.hb d_MO_beats_44 hl (k := 3) rfl (q_of_add _ _) (Nat.le_of_ble_eq_true rfl) rfl (fun ls hl => ?_)
      refine lv_goto (tgt := 31) F.hx F.hb d_MO_beats_47 (by decide) ?_
      exact ih (q7.1) (w32 (v2_ + (q7.2))) (inr_w32 _) (w32 (v3_ + 1)) (inr_w32 _) _ _ _ hS (lv_sub hl [2, 3, 1, 0] rfl) hT
set_option maxHeartbeats 4000000 in
set_option maxRecDepth 100000 in
theorem k_MO_beats_L27 (l : Launch) {p : Program} {e : Env} {s : State} {m : MethodId} {below : List Frame} {meth : Method} {c : Code} {b n : Nat} {C : CT} (hlo : 231 ≤ n) (x1 : Int) (hx1 : InR x1) (F : Cx b p m c b_MO_beats 4 s ([.ref (b + 191), vI x1] : List Value).toArray "WardFallsModel" C n 231) (hlk : meth.locks = false) (hr : meth.sig.returnType = some .int) {res : Mem × Int} (M : Mem)  (H : Heap) (locs : List Loc) (ls : Array Slot) (hS : St b C n M s H locs) (hl : lv_has ls 4 [(0, .ref (b + 191)), (1, vI x1)]) (hT : t_MO_beats_L27 x1 M = some res) : W p l e (headSpec (wsM y_MO_beats b_MO_beats 4 (some .int)) (rmD 3)).room s m ([.ref (b + 191), vI x1] : List Value).toArray below meth c H locs 0 0 (MQ below (QI b C n res.1 res.2) ([.ref (b + 191), vI x1] : List Value).toArray s 0 0 (frb b)) (F0 m 27 ls []) := by
  unfold t_MO_beats_L27 at hT
  refine r_iconst F.hx F.hb d_MO_beats_27 ?_
  refine lv_istore_n (lv' := [(2, vI 0), (0, .ref (b + 191)), (1, vI x1)]) F.hx F.hb d_MO_beats_28 rfl hl (Nat.le_of_ble_eq_true rfl) rfl (fun ls hl => ?_)
  refine r_iconst F.hx F.hb d_MO_beats_29 ?_
  refine lv_istore_n (lv' := [(3, vI 0), (2, vI 0), (0, .ref (b + 191)), (1, vI x1)]) F.hx F.hb d_MO_beats_30 rfl hl (Nat.le_of_ble_eq_true rfl) rfl (fun ls hl => ?_)
  exact k_MO_beats_L31 l hlo x1 hx1 F hlk hr FU M 0 (inr_c rfl) 0 (inr_c rfl) _ _ _ hS (lv_sub hl [2, 3, 1, 0] rfl) hT
set_option maxHeartbeats 4000000 in
set_option maxRecDepth 100000 in
theorem c_MO_beats (l : Launch) {b n : Nat} {C : CT} (hlo : 231 ≤ n) (M : Mem) (x1 : Int) (hx1 : InR x1) (res : Mem × Int) (hT : t_MO_beats M x1 = some res) : CM l b C n 3 y_MO_beats b_MO_beats 4 (some .int) [.ref (b + 191), vI x1] M (QI b C n res.1 res.2) := by
  refine CM.of (lo := 231) (ow := "WardFallsModel") (by decide) rfl (Nat.le_of_ble_eq_true rfl) hlo (fun p e s m below meth c F hlk hr hS ls hl => ?_)
  have hl : lv_has ls 4 [(0, .ref (b + 191)), (1, vI x1)] := hl
  unfold t_MO_beats at hT
  refine lv_aload_n F.hx F.hb d_MO_beats_0 rfl (lv_at hl 0 rfl) ?_
  refine r_iconst F.hx F.hb d_MO_beats_1 ?_
  refine r_putI (N := 68) (T := T1) (j := 0) F hS (show 191 < 231 by decide) (show shK 191 = 5 from rfl) (show shN 191 = 68 from rfl) rfl (Nat.le_of_ble_eq_true rfl) ing1 tyok1 nm1 rfl rfl rfl rfl rfl rfl mw_1389 (inr_c rfl) d_MO_beats_2 (fun H locs hS => ?_)
  obtain ⟨M1, eM1⟩ : ∃ q, q = (setI M 191 0 0) := ⟨_, rfl⟩
  replace hS : St b C n M1 s H locs := by rw [eM1]; exact hS
  replace hT := qlet_eq hT eM1
  refine lv_iload_n F.hx F.hb d_MO_beats_5 rfl (lv_at hl 1 rfl) ?_
  refine r_if_lt (tgt := 16) F.hx F.hb hx1 d_MO_beats_6 (by decide) (fun c2 => ?_) (fun c2 => ?_)
  · replace hT := (if_pos c2).symm.trans hT
    refine r_iconst F.hx F.hb d_MO_beats_16 ?_
    cases hT
    exact r_iret F hlk hr rfl hS (inr_c rfl) d_MO_beats_17
  · replace hT := (if_neg c2).symm.trans hT
    refine lv_iload_n F.hx F.hb d_MO_beats_9 rfl (lv_at hl 1 rfl) ?_
    refine r_sipush F.hx F.hb d_MO_beats_10 rfl ?_
    refine r_icmp_le (tgt := 18) F.hx F.hb hx1 (inr_c rfl) d_MO_beats_13 (by decide) (fun c3 => ?_) (fun c3 => ?_)
    · replace hT := (if_pos c3).symm.trans hT
      refine lv_iload_n F.hx F.hb d_MO_beats_18 rfl (lv_at hl 1 rfl) ?_
      refine r_if_le (tgt := 27) F.hx F.hb hx1 d_MO_beats_19 (by decide) (fun c4 => ?_) (fun c4 => ?_)
      · replace hT := (if_pos c4).symm.trans hT
        exact k_MO_beats_L27 l hlo x1 hx1 F hlk hr M1 _ _ _ hS (lv_sub hl [0, 1] rfl) hT
      · replace hT := (if_neg c4).symm.trans hT
        refine lv_aload_n F.hx F.hb d_MO_beats_22 rfl (lv_at hl 0 rfl) ?_
        refine r_iconst F.hx F.hb d_MO_beats_23 ?_
        refine r_putI (N := 68) (T := T1) (j := 43) F hS (show 191 < 231 by decide) (show shK 191 = 5 from rfl) (show shN 191 = 68 from rfl) rfl (Nat.le_of_ble_eq_true rfl) ing1 tyok1 nm1 rfl rfl rfl rfl rfl rfl mw_1432 (inr_c rfl) d_MO_beats_24 (fun H locs hS => ?_)
        obtain ⟨M5, eM5⟩ : ∃ q, q = (setI M1 191 43 0) := ⟨_, rfl⟩
        replace hS : St b C n M5 s H locs := by rw [eM5]; exact hS
        replace hT := qlet_eq hT eM5
        exact k_MO_beats_L27 l hlo x1 hx1 F hlk hr M5 _ _ _ hS (lv_sub hl [0, 1] rfl) hT
    · replace hT := (if_neg c3).symm.trans hT
      refine r_iconst F.hx F.hb d_MO_beats_16 ?_
      cases hT
      exact r_iret F hlk hr rfl hS (inr_c rfl) d_MO_beats_17
end
section
theorem d_MO_keepNow_0 : decode b_MO_keepNow 0 = .ok (.aload_n 0, 1) := dc_42 (by decide +kernel)
theorem d_MO_keepNow_1 : decode b_MO_keepNow 1 = .ok (.getfield 326, 3) := dc_180 (by decide +kernel)
theorem d_MO_keepNow_4 : decode b_MO_keepNow 4 = .ok (.bipush 20, 2) := dc_16 (by decide +kernel)
theorem d_MO_keepNow_6 : decode b_MO_keepNow 6 = .ok (.if_icmp .ne 39, 3) := dc_160 (by decide +kernel)
theorem d_MO_keepNow_9 : decode b_MO_keepNow 9 = .ok (.iconst 1, 1) := dc_4 (by decide +kernel)
theorem d_MO_keepNow_10 : decode b_MO_keepNow 10 = .ok (.istore_n 1, 1) := dc_60 (by decide +kernel)
theorem d_MO_keepNow_11 : decode b_MO_keepNow 11 = .ok (.iload_n 1, 1) := dc_27 (by decide +kernel)
theorem d_MO_keepNow_12 : decode b_MO_keepNow 12 = .ok (.bipush 20, 2) := dc_16 (by decide +kernel)
theorem d_MO_keepNow_14 : decode b_MO_keepNow 14 = .ok (.if_icmp .ge 21, 3) := dc_162 (by decide +kernel)
theorem d_MO_keepNow_17 : decode b_MO_keepNow 17 = .ok (.aload_n 0, 1) := dc_42 (by decide +kernel)
theorem d_MO_keepNow_18 : decode b_MO_keepNow 18 = .ok (.iconst 3, 1) := dc_6 (by decide +kernel)
theorem d_MO_keepNow_19 : decode b_MO_keepNow 19 = .ok (.iload_n 1, 1) := dc_27 (by decide +kernel)
theorem d_MO_keepNow_20 : decode b_MO_keepNow 20 = .ok (.iadd, 1) := dc_96 (by decide +kernel)
theorem d_MO_keepNow_21 : decode b_MO_keepNow 21 = .ok (.iconst 1, 1) := dc_4 (by decide +kernel)
theorem d_MO_keepNow_22 : decode b_MO_keepNow 22 = .ok (.isub, 1) := dc_100 (by decide +kernel)
theorem d_MO_keepNow_23 : decode b_MO_keepNow 23 = .ok (.iconst 3, 1) := dc_6 (by decide +kernel)
theorem d_MO_keepNow_24 : decode b_MO_keepNow 24 = .ok (.iload_n 1, 1) := dc_27 (by decide +kernel)
theorem d_MO_keepNow_25 : decode b_MO_keepNow 25 = .ok (.iadd, 1) := dc_96 (by decide +kernel)
theorem d_MO_keepNow_26 : decode b_MO_keepNow 26 = .ok (.invokevirtual 437, 3) := dc_182 (by decide +kernel)
theorem d_MO_keepNow_29 : decode b_MO_keepNow 29 = .ok (.iinc 1 1, 3) := dc_132 (by decide +kernel)
theorem d_MO_keepNow_32 : decode b_MO_keepNow 32 = .ok (.goto (-21), 3) := dc_167 (by decide +kernel)
theorem d_MO_keepNow_35 : decode b_MO_keepNow 35 = .ok (.aload_n 0, 1) := dc_42 (by decide +kernel)
theorem d_MO_keepNow_36 : decode b_MO_keepNow 36 = .ok (.dup, 1) := dc_89 (by decide +kernel)
theorem d_MO_keepNow_37 : decode b_MO_keepNow 37 = .ok (.getfield 326, 3) := dc_180 (by decide +kernel)
theorem d_MO_keepNow_40 : decode b_MO_keepNow 40 = .ok (.iconst 1, 1) := dc_4 (by decide +kernel)
theorem d_MO_keepNow_41 : decode b_MO_keepNow 41 = .ok (.isub, 1) := dc_100 (by decide +kernel)
theorem d_MO_keepNow_42 : decode b_MO_keepNow 42 = .ok (.putfield 326, 3) := dc_181 (by decide +kernel)
theorem d_MO_keepNow_45 : decode b_MO_keepNow 45 = .ok (.aload_n 0, 1) := dc_42 (by decide +kernel)
theorem d_MO_keepNow_46 : decode b_MO_keepNow 46 = .ok (.iconst 3, 1) := dc_6 (by decide +kernel)
theorem d_MO_keepNow_47 : decode b_MO_keepNow 47 = .ok (.aload_n 0, 1) := dc_42 (by decide +kernel)
theorem d_MO_keepNow_48 : decode b_MO_keepNow 48 = .ok (.getfield 326, 3) := dc_180 (by decide +kernel)
theorem d_MO_keepNow_51 : decode b_MO_keepNow 51 = .ok (.iadd, 1) := dc_96 (by decide +kernel)
theorem d_MO_keepNow_52 : decode b_MO_keepNow 52 = .ok (.iconst 0, 1) := dc_3 (by decide +kernel)
theorem d_MO_keepNow_53 : decode b_MO_keepNow 53 = .ok (.invokevirtual 437, 3) := dc_182 (by decide +kernel)
theorem d_MO_keepNow_56 : decode b_MO_keepNow 56 = .ok (.aload_n 0, 1) := dc_42 (by decide +kernel)
theorem d_MO_keepNow_57 : decode b_MO_keepNow 57 = .ok (.dup, 1) := dc_89 (by decide +kernel)
theorem d_MO_keepNow_58 : decode b_MO_keepNow 58 = .ok (.getfield 326, 3) := dc_180 (by decide +kernel)
theorem d_MO_keepNow_61 : decode b_MO_keepNow 61 = .ok (.iconst 1, 1) := dc_4 (by decide +kernel)
theorem d_MO_keepNow_62 : decode b_MO_keepNow 62 = .ok (.iadd, 1) := dc_96 (by decide +kernel)
theorem d_MO_keepNow_63 : decode b_MO_keepNow 63 = .ok (.putfield 326, 3) := dc_181 (by decide +kernel)
theorem d_MO_keepNow_66 : decode b_MO_keepNow 66 = .ok (.return_, 1) := dc_177 (by decide +kernel)
def t_MO_keepNow_L45   (M : Mem)  : Option (Mem) := (obind (t_MO_copies M (w32 (3 + (M.1 191 43))) 0) fun q4 => (qlet (setI q4 191 43 (w32 ((q4.1 191 43) + 1))) fun M7 => (some M7)))
def t_MO_keepNow_L11   : Nat → Mem → Int → Option (Mem)
  | 0, _, _ => none
  | fu + 1, M, v1_ => (if 20 ≤ v1_ then (qlet (setI M 191 43 (w32 ((M.1 191 43) - 1))) fun M10 => (t_MO_keepNow_L45 M10)) else (obind (t_MO_copies M (w32 ((w32 (3 + v1_)) - 1)) (w32 (3 + v1_))) fun q11 => (t_MO_keepNow_L11 fu q11 (w32 (v1_ + 1)))))
def t_MO_keepNow (M : Mem)  : Option (Mem) := (if (M.1 191 43) = 20 then (t_MO_keepNow_L11 FU M 1) else (t_MO_keepNow_L45 M))
set_option maxHeartbeats 4000000 in
set_option maxRecDepth 100000 in
theorem k_MO_keepNow_L45 (l : Launch) {p : Program} {e : Env} {s : State} {m : MethodId} {below : List Frame} {meth : Method} {c : Code} {b n : Nat} {C : CT} (hlo : 231 ≤ n)   (F : Cx b p m c b_MO_keepNow 2 s ([.ref (b + 191)] : List Value).toArray "WardFallsModel" C n 231) (hlk : meth.locks = false) (hr : meth.sig.returnType = none) {res : Mem} (M : Mem)  (H : Heap) (locs : List Loc) (ls : Array Slot) (hS : St b C n M s H locs) (hl : lv_has ls 2 [(0, .ref (b + 191))]) (hT : t_MO_keepNow_L45 M = some res) : W p l e (headSpec (wsM y_MO_keepNow b_MO_keepNow 2 (none)) (rmD 1)).room s m ([.ref (b + 191)] : List Value).toArray below meth c H locs 0 0 (MQ below (QV b C n res) ([.ref (b + 191)] : List Value).toArray s 0 0 (frb b)) (F0 m 45 ls []) := by
  unfold t_MO_keepNow_L45 at hT
  refine lv_aload_n F.hx F.hb d_MO_keepNow_45 rfl (lv_at hl 0 rfl) ?_
  refine r_iconst F.hx F.hb d_MO_keepNow_46 ?_
  refine lv_aload_n F.hx F.hb d_MO_keepNow_47 rfl (lv_at hl 0 rfl) ?_
  refine r_get (v := vI (M.1 191 43)) (N := 68) (T := T1) (j := 43) F hS (show 191 < 231 by decide) (show shK 191 = 5 from rfl) (show shN 191 = 68 from rfl) rfl (Nat.le_of_ble_eq_true rfl) ing1 mw_1432 (fv_int rfl) d_MO_keepNow_48 ?_
  have i3 := hS.rng 191 43
  refine r_iadd F.hx F.hb d_MO_keepNow_51 ?_
  refine r_iconst F.hx F.hb d_MO_keepNow_52 ?_
  obtain ⟨q4, hq4, hT⟩ := q_obind hT
  refine r_backV F hS (r_runV (k := 191) (N := 68) (T := T1) (As := [vI (w32 (3 + (M.1 191 43))), vI 0]) F hS (show 191 < 231 by decide) (show shK 191 = 5 from rfl) rfl (c_MO_copies l F.2.2.1 M (w32 (3 + (M.1 191 43))) 0 (inr_w32 _) (inr_c rfl) _ hq4) gs_MO_437 hd_MO_copies ⟨Nat.le_of_ble_eq_true rfl, Nat.le_of_ble_eq_true rfl⟩ rfl hl.1 (Nat.le_of_ble_eq_true rfl) ⟨Nat.zero_le _, Nat.zero_le _⟩ rfl d_MO_keepNow_53) (fun H locs hS => ?_)
  refine lv_aload_n F.hx F.hb d_MO_keepNow_56 rfl (lv_at hl 0 rfl) ?_
  refine lv_dup F.hx F.hb d_MO_keepNow_57 rfl ?_
  refine r_get (v := vI (q4.1 191 43)) (N := 68) (T := T1) (j := 43) F hS (show 191 < 231 by decide) (show shK 191 = 5 from rfl) (show shN 191 = 68 from rfl) rfl (Nat.le_of_ble_eq_true rfl) ing1 mw_1432 (fv_int rfl) d_MO_keepNow_58 ?_
  have i6 := hS.rng 191 43
  refine r_iconst F.hx F.hb d_MO_keepNow_61 ?_
  refine r_iadd F.hx F.hb d_MO_keepNow_62 ?_
  refine r_putI (N := 68) (T := T1) (j := 43) F hS (show 191 < 231 by decide) (show shK 191 = 5 from rfl) (show shN 191 = 68 from rfl) rfl (Nat.le_of_ble_eq_true rfl) ing1 tyok1 nm1 rfl rfl rfl rfl rfl rfl mw_1432 (inr_w32 _) d_MO_keepNow_63 (fun H locs hS => ?_)
  obtain ⟨M7, eM7⟩ : ∃ q, q = (setI q4 191 43 (w32 ((q4.1 191 43) + 1))) := ⟨_, rfl⟩
  replace hS : St b C n M7 s H locs := by rw [eM7]; exact hS
  replace hT := qlet_eq hT eM7
  cases hT
  exact r_vret F hlk hr hS d_MO_keepNow_66
set_option maxHeartbeats 4000000 in
set_option maxRecDepth 100000 in
theorem k_MO_keepNow_L11 (l : Launch) {p : Program} {e : Env} {s : State} {m : MethodId} {below : List Frame} {meth : Method} {c : Code} {b n : Nat} {C : CT} (hlo : 231 ≤ n)   (F : Cx b p m c b_MO_keepNow 2 s ([.ref (b + 191)] : List Value).toArray "WardFallsModel" C n 231) (hlk : meth.locks = false) (hr : meth.sig.returnType = none) {res : Mem} : ∀ (fu : Nat) (M : Mem) (v1_ : Int) (hv1_ : InR v1_) (H : Heap) (locs : List Loc) (ls : Array Slot), St b C n M s H locs → lv_has ls 2 [(0, .ref (b + 191)), (1, vI v1_)] → t_MO_keepNow_L11 fu M v1_ = some res → W p l e (headSpec (wsM y_MO_keepNow b_MO_keepNow 2 (none)) (rmD 1)).room s m ([.ref (b + 191)] : List Value).toArray below meth c H locs 0 0 (MQ below (QV b C n res) ([.ref (b + 191)] : List Value).toArray s 0 0 (frb b)) (F0 m 11 ls []) := by
  intro fu
  induction fu with
  | zero => intro M v1_ hv1_ H locs ls hS hl hT; exact absurd hT (by simp [t_MO_keepNow_L11])
  | succ fu ih =>
    intro M v1_ hv1_ H locs ls hS hl hT
    rw [t_MO_keepNow_L11] at hT
    refine lv_iload_n F.hx F.hb d_MO_keepNow_11 rfl (lv_at hl 1 rfl) ?_
    refine r_bipush F.hx F.hb d_MO_keepNow_12 rfl ?_
    refine r_icmp_ge (tgt := 35) F.hx F.hb hv1_ (inr_c rfl) d_MO_keepNow_14 (by decide) (fun c8 => ?_) (fun c8 => ?_)
    · replace hT := (if_pos c8).symm.trans hT
      refine lv_aload_n F.hx F.hb d_MO_keepNow_35 rfl (lv_at hl 0 rfl) ?_
      refine lv_dup F.hx F.hb d_MO_keepNow_36 rfl ?_
      refine r_get (v := vI (M.1 191 43)) (N := 68) (T := T1) (j := 43) F hS (show 191 < 231 by decide) (show shK 191 = 5 from rfl) (show shN 191 = 68 from rfl) rfl (Nat.le_of_ble_eq_true rfl) ing1 mw_1432 (fv_int rfl) d_MO_keepNow_37 ?_
      have i9 := hS.rng 191 43
      refine r_iconst F.hx F.hb d_MO_keepNow_40 ?_
      refine r_isub F.hx F.hb d_MO_keepNow_41 ?_
      refine r_putI (N := 68) (T := T1) (j := 43) F hS (show 191 < 231 by decide) (show shK 191 = 5 from rfl) (show shN 191 = 68 from rfl) rfl (Nat.le_of_ble_eq_true rfl) ing1 tyok1 nm1 rfl rfl rfl rfl rfl rfl mw_1432 (inr_w32 _) d_MO_keepNow_42 (fun H locs hS => ?_)
      obtain ⟨M10, eM10⟩ : ∃ q, q = (setI M 191 43 (w32 ((M.1 191 43) - 1))) := ⟨_, rfl⟩
      replace hS : St b C n M10 s H locs := by rw [eM10]; exact hS
      replace hT := qlet_eq hT eM10
      exact k_MO_keepNow_L45 l hlo F hlk hr M10 _ _ _ hS (lv_sub hl [0] rfl) hT
    · replace hT := (if_neg c8).symm.trans hT
      refine lv_aload_n F.hx F.hb d_MO_keepNow_17 rfl (lv_at hl 0 rfl) ?_
      refine r_iconst F.hx F.hb d_MO_keepNow_18 ?_
      refine lv_iload_n F.hx F.hb d_MO_keepNow_19 rfl (lv_at hl 1 rfl) ?_
      refine r_iadd F.hx F.hb d_MO_keepNow_20 ?_
      refine r_iconst F.hx F.hb d_MO_keepNow_21 ?_
      refine r_isub F.hx F.hb d_MO_keepNow_22 ?_
      refine r_iconst F.hx F.hb d_MO_keepNow_23 ?_
      refine lv_iload_n F.hx F.hb d_MO_keepNow_24 rfl (lv_at hl 1 rfl) ?_
      refine r_iadd F.hx F.hb d_MO_keepNow_25 ?_
      obtain ⟨q11, hq11, hT⟩ := q_obind hT
      refine r_backV F hS (r_runV (k := 191) (N := 68) (T := T1) (As := [vI (w32 ((w32 (3 + v1_)) - 1)), vI (w32 (3 + v1_))]) F hS (show 191 < 231 by decide) (show shK 191 = 5 from rfl) rfl (c_MO_copies l F.2.2.1 M (w32 ((w32 (3 + v1_)) - 1)) (w32 (3 + v1_)) (inr_w32 _) (inr_w32 _) _ hq11) gs_MO_437 hd_MO_copies ⟨Nat.le_of_ble_eq_true rfl, Nat.le_of_ble_eq_true rfl⟩ rfl hl.1 (Nat.le_of_ble_eq_true rfl) ⟨Nat.zero_le _, Nat.zero_le _⟩ rfl d_MO_keepNow_26) (fun H locs hS => ?_)
      refine lv_iinc (v := Int32.ofInt (w32 (v1_ + 1))) (lv' := [(1, vI (w32 (v1_ + 1))), (0, .ref (b + 191))]) F.hx F.hb d_MO_keepNow_29 hl (k := 1) rfl (q_of_add _ _) (Nat.le_of_ble_eq_true rfl) rfl (fun ls hl => ?_)
      refine lv_goto (tgt := 11) F.hx F.hb d_MO_keepNow_32 (by decide) ?_
      exact ih q11 (w32 (v1_ + 1)) (inr_w32 _) _ _ _ hS (lv_sub hl [1, 0] rfl) hT
set_option maxHeartbeats 4000000 in
set_option maxRecDepth 100000 in
theorem c_MO_keepNow (l : Launch) {b n : Nat} {C : CT} (hlo : 231 ≤ n) (M : Mem)   (res : Mem) (hT : t_MO_keepNow M  = some res) : CM l b C n 1 y_MO_keepNow b_MO_keepNow 2 (none) [.ref (b + 191)] M (QV b C n res) := by
  refine CM.of (lo := 231) (ow := "WardFallsModel") (by decide) rfl (Nat.le_of_ble_eq_true rfl) hlo (fun p e s m below meth c F hlk hr hS ls hl => ?_)
  have hl : lv_has ls 2 [(0, .ref (b + 191))] := hl
  unfold t_MO_keepNow at hT
  refine lv_aload_n F.hx F.hb d_MO_keepNow_0 rfl (lv_at hl 0 rfl) ?_
  refine r_get (v := vI (M.1 191 43)) (N := 68) (T := T1) (j := 43) F hS (show 191 < 231 by decide) (show shK 191 = 5 from rfl) (show shN 191 = 68 from rfl) rfl (Nat.le_of_ble_eq_true rfl) ing1 mw_1432 (fv_int rfl) d_MO_keepNow_1 ?_
  have i1 := hS.rng 191 43
  refine r_bipush F.hx F.hb d_MO_keepNow_4 rfl ?_
  refine r_icmp_ne (tgt := 45) F.hx F.hb i1 (inr_c rfl) d_MO_keepNow_6 (by decide) (fun c2 => ?_) (fun c2 => ?_)
  · replace hT := (if_neg c2).symm.trans hT
    exact k_MO_keepNow_L45 l hlo F hlk hr M _ _ _ hS (lv_sub hl [0] rfl) hT
  · replace hT := (if_pos c2).symm.trans hT
    refine r_iconst F.hx F.hb d_MO_keepNow_9 ?_
    refine lv_istore_n (lv' := [(1, vI 1), (0, .ref (b + 191))]) F.hx F.hb d_MO_keepNow_10 rfl hl (Nat.le_of_ble_eq_true rfl) rfl (fun ls hl => ?_)
    exact k_MO_keepNow_L11 l hlo F hlk hr FU M 1 (inr_c rfl) _ _ _ hS (lv_sub hl [1, 0] rfl) hT
theorem d_MO_isDown_0 : decode b_MO_isDown 0 = .ok (.iload_n 0, 1) := dc_26 (by decide +kernel)
theorem d_MO_isDown_1 : decode b_MO_isDown 1 = .ok (.ifCond .lt 12, 3) := dc_155 (by decide +kernel)
theorem d_MO_isDown_4 : decode b_MO_isDown 4 = .ok (.iload_n 0, 1) := dc_26 (by decide +kernel)
theorem d_MO_isDown_5 : decode b_MO_isDown 5 = .ok (.iconst 4, 1) := dc_7 (by decide +kernel)
theorem d_MO_isDown_6 : decode b_MO_isDown 6 = .ok (.if_icmp .gt 7, 3) := dc_163 (by decide +kernel)
theorem d_MO_isDown_9 : decode b_MO_isDown 9 = .ok (.iconst 1, 1) := dc_4 (by decide +kernel)
theorem d_MO_isDown_10 : decode b_MO_isDown 10 = .ok (.goto 4, 3) := dc_167 (by decide +kernel)
theorem d_MO_isDown_13 : decode b_MO_isDown 13 = .ok (.iconst 0, 1) := dc_3 (by decide +kernel)
theorem d_MO_isDown_14 : decode b_MO_isDown 14 = .ok (.ireturn, 1) := dc_172 (by decide +kernel)
def t_MO_isDown (M : Mem) (x1 : Int) : Int := (if x1 < 0 then 0 else (if 4 < x1 then 0 else 1))
set_option maxHeartbeats 4000000 in
set_option maxRecDepth 100000 in
theorem c_MO_isDown (l : Launch) {b n : Nat} {C : CT} (hlo : 231 ≤ n) (M : Mem) (x1 : Int) (hx1 : InR x1) (res : Int) (hT : t_MO_isDown M x1 = res) : CM l b C n 0 y_MO_isDown b_MO_isDown 1 (some .boolean) [vI x1] M (QZ b C n M res) := by
  refine CM.of (lo := 231) (ow := "WardFallsModel") (by decide) rfl (Nat.le_of_ble_eq_true rfl) hlo (fun p e s m below meth c F hlk hr hS ls hl => ?_)
  have hl : lv_has ls 1 [(0, vI x1)] := hl
  unfold t_MO_isDown at hT
  refine lv_iload_n F.hx F.hb d_MO_isDown_0 rfl (lv_at hl 0 rfl) ?_
  refine r_if_lt (tgt := 13) F.hx F.hb hx1 d_MO_isDown_1 (by decide) (fun c1 => ?_) (fun c1 => ?_)
  · replace hT := (if_pos c1).symm.trans hT
    refine r_iconst F.hx F.hb d_MO_isDown_13 ?_
    subst hT
    exact r_zret F hlk hr hS (Or.inl rfl) d_MO_isDown_14
  · replace hT := (if_neg c1).symm.trans hT
    refine lv_iload_n F.hx F.hb d_MO_isDown_4 rfl (lv_at hl 0 rfl) ?_
    refine r_iconst F.hx F.hb d_MO_isDown_5 ?_
    refine r_icmp_gt (tgt := 13) F.hx F.hb hx1 (inr_c rfl) d_MO_isDown_6 (by decide) (fun c2 => ?_) (fun c2 => ?_)
    · replace hT := (if_pos c2).symm.trans hT
      refine r_iconst F.hx F.hb d_MO_isDown_13 ?_
      subst hT
      exact r_zret F hlk hr hS (Or.inl rfl) d_MO_isDown_14
    · replace hT := (if_neg c2).symm.trans hT
      refine r_iconst F.hx F.hb d_MO_isDown_9 ?_
      refine lv_goto (tgt := 14) F.hx F.hb d_MO_isDown_10 (by decide) ?_
      subst hT
      exact r_zret F hlk hr hS (Or.inr rfl) d_MO_isDown_14
theorem d_MO_pours_0 : decode b_MO_pours 0 = .ok (.iload_n 2, 1) := dc_28 (by decide +kernel)
theorem d_MO_pours_1 : decode b_MO_pours 1 = .ok (.istore_n 3, 1) := dc_62 (by decide +kernel)
theorem d_MO_pours_2 : decode b_MO_pours 2 = .ok (.iconst 0, 1) := dc_3 (by decide +kernel)
theorem d_MO_pours_3 : decode b_MO_pours 3 = .ok (.istore 4, 2) := dc_54 (by decide +kernel)
theorem d_MO_pours_5 : decode b_MO_pours 5 = .ok (.iload 4, 2) := dc_21 (by decide +kernel)
theorem d_MO_pours_7 : decode b_MO_pours 7 = .ok (.bipush 48, 2) := dc_16 (by decide +kernel)
theorem d_MO_pours_9 : decode b_MO_pours 9 = .ok (.if_icmp .gt 73, 3) := dc_163 (by decide +kernel)
theorem d_MO_pours_12 : decode b_MO_pours 12 = .ok (.aload_n 0, 1) := dc_42 (by decide +kernel)
theorem d_MO_pours_13 : decode b_MO_pours 13 = .ok (.iload_n 1, 1) := dc_27 (by decide +kernel)
theorem d_MO_pours_14 : decode b_MO_pours 14 = .ok (.iload_n 3, 1) := dc_29 (by decide +kernel)
theorem d_MO_pours_15 : decode b_MO_pours 15 = .ok (.invokevirtual 350, 3) := dc_182 (by decide +kernel)
theorem d_MO_pours_18 : decode b_MO_pours 18 = .ok (.istore 5, 2) := dc_54 (by decide +kernel)
theorem d_MO_pours_20 : decode b_MO_pours 20 = .ok (.iload 5, 2) := dc_21 (by decide +kernel)
theorem d_MO_pours_22 : decode b_MO_pours 22 = .ok (.iconst (-1), 1) := dc_2 (by decide +kernel)
theorem d_MO_pours_23 : decode b_MO_pours 23 = .ok (.if_icmp .eq 19, 3) := dc_159 (by decide +kernel)
theorem d_MO_pours_26 : decode b_MO_pours 26 = .ok (.aload_n 0, 1) := dc_42 (by decide +kernel)
theorem d_MO_pours_27 : decode b_MO_pours 27 = .ok (.getfield 73, 3) := dc_180 (by decide +kernel)
theorem d_MO_pours_30 : decode b_MO_pours 30 = .ok (.iload_n 1, 1) := dc_27 (by decide +kernel)
theorem d_MO_pours_31 : decode b_MO_pours 31 = .ok (.laload, 1) := dc_47 (by decide +kernel)
theorem d_MO_pours_32 : decode b_MO_pours 32 = .ok (.iload 5, 2) := dc_21 (by decide +kernel)
theorem d_MO_pours_34 : decode b_MO_pours 34 = .ok (.lshr, 1) := dc_123 (by decide +kernel)
theorem d_MO_pours_35 : decode b_MO_pours 35 = .ok (.lconst 1, 1) := dc_10 (by decide +kernel)
theorem d_MO_pours_36 : decode b_MO_pours 36 = .ok (.land, 1) := dc_127 (by decide +kernel)
theorem d_MO_pours_37 : decode b_MO_pours 37 = .ok (.lconst 1, 1) := dc_10 (by decide +kernel)
theorem d_MO_pours_38 : decode b_MO_pours 38 = .ok (.lcmp, 1) := dc_148 (by decide +kernel)
theorem d_MO_pours_39 : decode b_MO_pours 39 = .ok (.ifCond .ne 34, 3) := dc_154 (by decide +kernel)
theorem d_MO_pours_42 : decode b_MO_pours 42 = .ok (.aload_n 0, 1) := dc_42 (by decide +kernel)
theorem d_MO_pours_43 : decode b_MO_pours 43 = .ok (.getfield 73, 3) := dc_180 (by decide +kernel)
theorem d_MO_pours_46 : decode b_MO_pours 46 = .ok (.iload_n 1, 1) := dc_27 (by decide +kernel)
theorem d_MO_pours_47 : decode b_MO_pours 47 = .ok (.laload, 1) := dc_47 (by decide +kernel)
theorem d_MO_pours_48 : decode b_MO_pours 48 = .ok (.iload_n 3, 1) := dc_29 (by decide +kernel)
theorem d_MO_pours_49 : decode b_MO_pours 49 = .ok (.lshr, 1) := dc_123 (by decide +kernel)
theorem d_MO_pours_50 : decode b_MO_pours 50 = .ok (.lconst 1, 1) := dc_10 (by decide +kernel)
theorem d_MO_pours_51 : decode b_MO_pours 51 = .ok (.land, 1) := dc_127 (by decide +kernel)
theorem d_MO_pours_52 : decode b_MO_pours 52 = .ok (.lconst 1, 1) := dc_10 (by decide +kernel)
theorem d_MO_pours_53 : decode b_MO_pours 53 = .ok (.lcmp, 1) := dc_148 (by decide +kernel)
theorem d_MO_pours_54 : decode b_MO_pours 54 = .ok (.ifCond .ne 5, 3) := dc_154 (by decide +kernel)
theorem d_MO_pours_57 : decode b_MO_pours 57 = .ok (.iconst 0, 1) := dc_3 (by decide +kernel)
theorem d_MO_pours_58 : decode b_MO_pours 58 = .ok (.ireturn, 1) := dc_172 (by decide +kernel)
theorem d_MO_pours_59 : decode b_MO_pours 59 = .ok (.aload_n 0, 1) := dc_42 (by decide +kernel)
theorem d_MO_pours_60 : decode b_MO_pours 60 = .ok (.getfield 73, 3) := dc_180 (by decide +kernel)
theorem d_MO_pours_63 : decode b_MO_pours 63 = .ok (.iload_n 1, 1) := dc_27 (by decide +kernel)
theorem d_MO_pours_64 : decode b_MO_pours 64 = .ok (.dup2, 1) := dc_92 (by decide +kernel)
theorem d_MO_pours_65 : decode b_MO_pours 65 = .ok (.laload, 1) := dc_47 (by decide +kernel)
theorem d_MO_pours_66 : decode b_MO_pours 66 = .ok (.lconst 1, 1) := dc_10 (by decide +kernel)
theorem d_MO_pours_67 : decode b_MO_pours 67 = .ok (.iload_n 3, 1) := dc_29 (by decide +kernel)
theorem d_MO_pours_68 : decode b_MO_pours 68 = .ok (.lshl, 1) := dc_121 (by decide +kernel)
theorem d_MO_pours_69 : decode b_MO_pours 69 = .ok (.lor, 1) := dc_129 (by decide +kernel)
theorem d_MO_pours_70 : decode b_MO_pours 70 = .ok (.lastore, 1) := dc_80 (by decide +kernel)
theorem d_MO_pours_71 : decode b_MO_pours 71 = .ok (.iconst 1, 1) := dc_4 (by decide +kernel)
theorem d_MO_pours_72 : decode b_MO_pours 72 = .ok (.ireturn, 1) := dc_172 (by decide +kernel)
theorem d_MO_pours_73 : decode b_MO_pours 73 = .ok (.iload 5, 2) := dc_21 (by decide +kernel)
theorem d_MO_pours_75 : decode b_MO_pours 75 = .ok (.istore_n 3, 1) := dc_62 (by decide +kernel)
theorem d_MO_pours_76 : decode b_MO_pours 76 = .ok (.iinc 4 1, 3) := dc_132 (by decide +kernel)
theorem d_MO_pours_79 : decode b_MO_pours 79 = .ok (.goto (-74), 3) := dc_167 (by decide +kernel)
theorem d_MO_pours_82 : decode b_MO_pours 82 = .ok (.iconst 0, 1) := dc_3 (by decide +kernel)
theorem d_MO_pours_83 : decode b_MO_pours 83 = .ok (.ireturn, 1) := dc_172 (by decide +kernel)
def t_MO_pours_L42 (x1 : Int) (x2 : Int)  (M : Mem) (v2_ : Int) : Option (Mem × Int) := (qguard (0 ≤ x1 ∧ x1 < 23) (if ((q_lshr (M.2 211 x1) v2_) &&& 1) = 1 then (some (M, 0)) else (qguard (0 ≤ x1 ∧ x1 < 23) (qguard (0 ≤ x1 ∧ x1 < 23) (qlet (setL M 211 x1 ((M.2 211 x1) ||| (q_lshl 1 v2_))) fun M11 => (some (M11, 1)))))))
def t_MO_pours_L5 (x1 : Int) (x2 : Int)  : Nat → Mem → Int → Int → Option (Mem × Int)
  | 0, _, _, _ => none
  | fu + 1, M, v2_, v3_ => (if 48 < v3_ then (some (M, 0)) else (obind (t_MO_nextOf M x1 v2_) fun q2 => (if q2 = (-1) then (t_MO_pours_L42 x1 x2 M v2_) else (qguard (0 ≤ x1 ∧ x1 < 23) (if ((q_lshr (M.2 211 x1) q2) &&& 1) = 1 then (t_MO_pours_L42 x1 x2 M v2_) else (t_MO_pours_L5 x1 x2 fu M q2 (w32 (v3_ + 1))))))))
def t_MO_pours (M : Mem) (x1 : Int) (x2 : Int) : Option (Mem × Int) := (t_MO_pours_L5 x1 x2 FU M x2 0)
set_option maxHeartbeats 4000000 in
set_option maxRecDepth 100000 in
theorem k_MO_pours_L42 (l : Launch) {p : Program} {e : Env} {s : State} {m : MethodId} {below : List Frame} {meth : Method} {c : Code} {b n : Nat} {C : CT} (hlo : 231 ≤ n) (x1 : Int) (x2 : Int) (hx1 : InR x1) (hx2 : InR x2) (F : Cx b p m c b_MO_pours 6 s ([.ref (b + 191), vI x1, vI x2] : List Value).toArray "WardFallsModel" C n 231) (hlk : meth.locks = false) (hr : meth.sig.returnType = some .boolean) {res : Mem × Int} (M : Mem) (v2_ : Int) (hv2_ : InR v2_) (H : Heap) (locs : List Loc) (ls : Array Slot) (hS : St b C n M s H locs) (hl : lv_has ls 6 [(0, .ref (b + 191)), (1, vI x1), (3, vI v2_)]) (hT : t_MO_pours_L42 x1 x2 M v2_ = some res) : W p l e (headSpec (wsM y_MO_pours b_MO_pours 6 (some .boolean)) (rmD 2)).room s m ([.ref (b + 191), vI x1, vI x2] : List Value).toArray below meth c H locs 0 0 (MQ below (QZ b C n res.1 res.2) ([.ref (b + 191), vI x1, vI x2] : List Value).toArray s 0 0 (frb b)) (F0 m 42 ls []) := by
  unfold t_MO_pours_L42 at hT
  refine lv_aload_n F.hx F.hb d_MO_pours_42 rfl (lv_at hl 0 rfl) ?_
  refine r_get (v := .ref (b + 211)) (N := 68) (T := T1) (j := 34) F hS (show 191 < 231 by decide) (show shK 191 = 5 from rfl) (show shN 191 = 68 from rfl) rfl (Nat.le_of_ble_eq_true rfl) ing1 mw_1423 (fv_sg rfl rfl rfl) d_MO_pours_43 ?_
  refine lv_iload_n F.hx F.hb d_MO_pours_46 rfl (lv_at hl 1 rfl) ?_
  obtain ⟨⟨g7a, g7b⟩, hT⟩ := q_guard hT
  refine r_lald F hS (show 211 < 231 by decide) (show shK 211 = 2 from rfl) (show shN 211 = 23 from rfl) hx1 g7a g7b d_MO_pours_47 ?_
  refine lv_iload_n F.hx F.hb d_MO_pours_48 rfl (lv_at hl 2 rfl) ?_
  refine r_lshr F.hx F.hb d_MO_pours_49 ?_
  refine lv_lconst (v := 1) F.hx F.hb d_MO_pours_50 rfl ?_
  refine lv_land F.hx F.hb d_MO_pours_51 ?_
  refine lv_lconst (v := 1) F.hx F.hb d_MO_pours_52 rfl ?_
  refine W.lcmp F.hx F.hb d_MO_pours_53 ?_
  refine r_lif_ne (tgt := 59) F.hx F.hb  d_MO_pours_54 (by decide) (fun c8 => ?_) (fun c8 => ?_)
  · replace hT := (if_neg c8).symm.trans hT
    refine lv_aload_n F.hx F.hb d_MO_pours_59 rfl (lv_at hl 0 rfl) ?_
    refine r_get (v := .ref (b + 211)) (N := 68) (T := T1) (j := 34) F hS (show 191 < 231 by decide) (show shK 191 = 5 from rfl) (show shN 191 = 68 from rfl) rfl (Nat.le_of_ble_eq_true rfl) ing1 mw_1423 (fv_sg rfl rfl rfl) d_MO_pours_60 ?_
    refine lv_iload_n F.hx F.hb d_MO_pours_63 rfl (lv_at hl 1 rfl) ?_
    refine lv_dup2_11 F.hx F.hb d_MO_pours_64 rfl rfl ?_
    obtain ⟨⟨g9a, g9b⟩, hT⟩ := q_guard hT
    refine r_lald F hS (show 211 < 231 by decide) (show shK 211 = 2 from rfl) (show shN 211 = 23 from rfl) hx1 g9a g9b d_MO_pours_65 ?_
    refine lv_lconst (v := 1) F.hx F.hb d_MO_pours_66 rfl ?_
    refine lv_iload_n F.hx F.hb d_MO_pours_67 rfl (lv_at hl 2 rfl) ?_
    refine r_lshl F.hx F.hb d_MO_pours_68 ?_
    refine lv_lor F.hx F.hb d_MO_pours_69 ?_
    obtain ⟨⟨g10a, g10b⟩, hT⟩ := q_guard hT
    refine r_last F hS (show 211 < 231 by decide) (show shK 211 = 2 from rfl) (show shN 211 = 23 from rfl) hx1 g10a g10b d_MO_pours_70 (fun H locs hS => ?_)
    obtain ⟨M11, eM11⟩ : ∃ q, q = (setL M 211 x1 ((M.2 211 x1) ||| (q_lshl 1 v2_))) := ⟨_, rfl⟩
    replace hS : St b C n M11 s H locs := by rw [eM11]; exact hS
    replace hT := qlet_eq hT eM11
    refine r_iconst F.hx F.hb d_MO_pours_71 ?_
    cases hT
    exact r_zret F hlk hr hS (Or.inr rfl) d_MO_pours_72
  · replace hT := (if_pos c8).symm.trans hT
    refine r_iconst F.hx F.hb d_MO_pours_57 ?_
    cases hT
    exact r_zret F hlk hr hS (Or.inl rfl) d_MO_pours_58
set_option maxHeartbeats 4000000 in
set_option maxRecDepth 100000 in
theorem k_MO_pours_L5 (l : Launch) {p : Program} {e : Env} {s : State} {m : MethodId} {below : List Frame} {meth : Method} {c : Code} {b n : Nat} {C : CT} (hlo : 231 ≤ n) (x1 : Int) (x2 : Int) (hx1 : InR x1) (hx2 : InR x2) (F : Cx b p m c b_MO_pours 6 s ([.ref (b + 191), vI x1, vI x2] : List Value).toArray "WardFallsModel" C n 231) (hlk : meth.locks = false) (hr : meth.sig.returnType = some .boolean) {res : Mem × Int} : ∀ (fu : Nat) (M : Mem) (v2_ : Int) (hv2_ : InR v2_) (v3_ : Int) (hv3_ : InR v3_) (H : Heap) (locs : List Loc) (ls : Array Slot), St b C n M s H locs → lv_has ls 6 [(0, .ref (b + 191)), (1, vI x1), (3, vI v2_), (4, vI v3_)] → t_MO_pours_L5 x1 x2 fu M v2_ v3_ = some res → W p l e (headSpec (wsM y_MO_pours b_MO_pours 6 (some .boolean)) (rmD 2)).room s m ([.ref (b + 191), vI x1, vI x2] : List Value).toArray below meth c H locs 0 0 (MQ below (QZ b C n res.1 res.2) ([.ref (b + 191), vI x1, vI x2] : List Value).toArray s 0 0 (frb b)) (F0 m 5 ls []) := by
  intro fu
  induction fu with
  | zero => intro M v2_ hv2_ v3_ hv3_ H locs ls hS hl hT; exact absurd hT (by simp [t_MO_pours_L5])
  | succ fu ih =>
    intro M v2_ hv2_ v3_ hv3_ H locs ls hS hl hT
    rw [t_MO_pours_L5] at hT
    refine lv_iload F.hx F.hb d_MO_pours_5 (lv_at hl 3 rfl) ?_
    refine r_bipush F.hx F.hb d_MO_pours_7 rfl ?_
    refine r_icmp_gt (tgt := 82) F.hx F.hb hv3_ (inr_c rfl) d_MO_pours_9 (by decide) (fun c1 => ?_) (fun c1 => ?_)
    · replace hT := (if_pos c1).symm.trans hT
      refine r_iconst F.hx F.hb d_MO_pours_82 ?_
      cases hT
      exact r_zret F hlk hr hS (Or.inl rfl) d_MO_pours_83
    · replace hT := (if_neg c1).symm.trans hT
      refine lv_aload_n F.hx F.hb d_MO_pours_12 rfl (lv_at hl 0 rfl) ?_
      refine lv_iload_n F.hx F.hb d_MO_pours_13 rfl (lv_at hl 1 rfl) ?_
      refine lv_iload_n F.hx F.hb d_MO_pours_14 rfl (lv_at hl 2 rfl) ?_
      obtain ⟨q2, hq2, hT⟩ := q_obind hT
      refine r_backI F hS (r_runV (k := 191) (N := 68) (T := T1) (As := [vI x1, vI v2_]) F hS (show 191 < 231 by decide) (show shK 191 = 5 from rfl) rfl (c_MO_nextOf l F.2.2.1 M x1 v2_ hx1 hv2_ _ hq2) gs_MO_350 hd_MO_nextOf ⟨Nat.le_of_ble_eq_true rfl, Nat.le_of_ble_eq_true rfl⟩ rfl hl.1 (Nat.le_of_ble_eq_true rfl) ⟨Nat.zero_le _, Nat.zero_le _⟩ rfl d_MO_pours_15) (fun H locs hS h3 => ?_)
      refine lv_istore (lv' := [(5, vI q2), (0, .ref (b + 191)), (1, vI x1), (3, vI v2_), (4, vI v3_)]) F.hx F.hb d_MO_pours_18 hl (Nat.le_of_ble_eq_true rfl) rfl (fun ls hl => ?_)
      refine lv_iload F.hx F.hb d_MO_pours_20 (lv_at hl 0 rfl) ?_
      refine r_iconst F.hx F.hb d_MO_pours_22 ?_
      refine r_icmp_eq (tgt := 42) F.hx F.hb h3 (inr_c rfl) d_MO_pours_23 (by decide) (fun c4 => ?_) (fun c4 => ?_)
      · replace hT := (if_pos c4).symm.trans hT
        exact k_MO_pours_L42 l hlo x1 x2 hx1 hx2 F hlk hr M v2_ hv2_ _ _ _ hS (lv_sub hl [1, 2, 3] rfl) hT
      · replace hT := (if_neg c4).symm.trans hT
        refine lv_aload_n F.hx F.hb d_MO_pours_26 rfl (lv_at hl 1 rfl) ?_
        refine r_get (v := .ref (b + 211)) (N := 68) (T := T1) (j := 34) F hS (show 191 < 231 by decide) (show shK 191 = 5 from rfl) (show shN 191 = 68 from rfl) rfl (Nat.le_of_ble_eq_true rfl) ing1 mw_1423 (fv_sg rfl rfl rfl) d_MO_pours_27 ?_
        refine lv_iload_n F.hx F.hb d_MO_pours_30 rfl (lv_at hl 2 rfl) ?_
        obtain ⟨⟨g5a, g5b⟩, hT⟩ := q_guard hT
        refine r_lald F hS (show 211 < 231 by decide) (show shK 211 = 2 from rfl) (show shN 211 = 23 from rfl) hx1 g5a g5b d_MO_pours_31 ?_
        refine lv_iload F.hx F.hb d_MO_pours_32 (lv_at hl 0 rfl) ?_
        refine r_lshr F.hx F.hb d_MO_pours_34 ?_
        refine lv_lconst (v := 1) F.hx F.hb d_MO_pours_35 rfl ?_
        refine lv_land F.hx F.hb d_MO_pours_36 ?_
        refine lv_lconst (v := 1) F.hx F.hb d_MO_pours_37 rfl ?_
        refine W.lcmp F.hx F.hb d_MO_pours_38 ?_
        refine r_lif_ne (tgt := 73) F.hx F.hb  d_MO_pours_39 (by decide) (fun c6 => ?_) (fun c6 => ?_)
        · replace hT := (if_neg c6).symm.trans hT
          refine lv_iload F.hx F.hb d_MO_pours_73 (lv_at hl 0 rfl) ?_
          refine lv_istore_n (lv' := [(3, vI q2), (5, vI q2), (0, .ref (b + 191)), (1, vI x1), (4, vI v3_)]) F.hx F.hb d_MO_pours_75 rfl hl (Nat.le_of_ble_eq_true rfl) rfl (fun ls hl => ?_)
          refine lv_iinc (v := Int32.ofInt (w32 (v3_ + 1))) (lv' := [(4, vI (w32 (v3_ + 1))), (3, vI q2), (5, vI q2), (0, .ref (b + 191)), (1, vI x1)]) F.hx F.hb d_MO_pours_76 hl (k := 4) rfl (q_of_add _ _) (Nat.le_of_ble_eq_true rfl) rfl (fun ls hl => ?_)
          refine lv_goto (tgt := 5) F.hx F.hb d_MO_pours_79 (by decide) ?_
          exact ih M q2 h3 (w32 (v3_ + 1)) (inr_w32 _) _ _ _ hS (lv_sub hl [3, 4, 1, 0] rfl) hT
        · replace hT := (if_pos c6).symm.trans hT
          exact k_MO_pours_L42 l hlo x1 x2 hx1 hx2 F hlk hr M v2_ hv2_ _ _ _ hS (lv_sub hl [1, 2, 3] rfl) hT
set_option maxHeartbeats 4000000 in
set_option maxRecDepth 100000 in
theorem c_MO_pours (l : Launch) {b n : Nat} {C : CT} (hlo : 231 ≤ n) (M : Mem) (x1 : Int) (x2 : Int) (hx1 : InR x1) (hx2 : InR x2) (res : Mem × Int) (hT : t_MO_pours M x1 x2 = some res) : CM l b C n 2 y_MO_pours b_MO_pours 6 (some .boolean) [.ref (b + 191), vI x1, vI x2] M (QZ b C n res.1 res.2) := by
  refine CM.of (lo := 231) (ow := "WardFallsModel") (by decide) rfl (Nat.le_of_ble_eq_true rfl) hlo (fun p e s m below meth c F hlk hr hS ls hl => ?_)
  have hl : lv_has ls 6 [(0, .ref (b + 191)), (1, vI x1), (2, vI x2)] := hl
  unfold t_MO_pours at hT
  refine lv_iload_n F.hx F.hb d_MO_pours_0 rfl (lv_at hl 2 rfl) ?_
  refine lv_istore_n (lv' := [(3, vI x2), (0, .ref (b + 191)), (1, vI x1), (2, vI x2)]) F.hx F.hb d_MO_pours_1 rfl hl (Nat.le_of_ble_eq_true rfl) rfl (fun ls hl => ?_)
  refine r_iconst F.hx F.hb d_MO_pours_2 ?_
  refine lv_istore (lv' := [(4, vI 0), (3, vI x2), (0, .ref (b + 191)), (1, vI x1), (2, vI x2)]) F.hx F.hb d_MO_pours_3 hl (Nat.le_of_ble_eq_true rfl) rfl (fun ls hl => ?_)
  exact k_MO_pours_L5 l hlo x1 x2 hx1 hx2 F hlk hr FU M x2 hx2 0 (inr_c rfl) _ _ _ hS (lv_sub hl [2, 3, 1, 0] rfl) hT
theorem d_MO_floods_0 : decode b_MO_floods 0 = .ok (.aload_n 0, 1) := dc_42 (by decide +kernel)
theorem d_MO_floods_1 : decode b_MO_floods 1 = .ok (.getfield 73, 3) := dc_180 (by decide +kernel)
theorem d_MO_floods_4 : decode b_MO_floods 4 = .ok (.iload_n 1, 1) := dc_27 (by decide +kernel)
theorem d_MO_floods_5 : decode b_MO_floods 5 = .ok (.laload, 1) := dc_47 (by decide +kernel)
theorem d_MO_floods_6 : decode b_MO_floods 6 = .ok (.lstore_n 2, 1) := dc_65 (by decide +kernel)
theorem d_MO_floods_7 : decode b_MO_floods 7 = .ok (.aload_n 0, 1) := dc_42 (by decide +kernel)
theorem d_MO_floods_8 : decode b_MO_floods 8 = .ok (.getfield 73, 3) := dc_180 (by decide +kernel)
theorem d_MO_floods_11 : decode b_MO_floods 11 = .ok (.iload_n 1, 1) := dc_27 (by decide +kernel)
theorem d_MO_floods_12 : decode b_MO_floods 12 = .ok (.lconst 0, 1) := dc_9 (by decide +kernel)
theorem d_MO_floods_13 : decode b_MO_floods 13 = .ok (.lastore, 1) := dc_80 (by decide +kernel)
theorem d_MO_floods_14 : decode b_MO_floods 14 = .ok (.iconst 0, 1) := dc_3 (by decide +kernel)
theorem d_MO_floods_15 : decode b_MO_floods 15 = .ok (.istore 4, 2) := dc_54 (by decide +kernel)
theorem d_MO_floods_17 : decode b_MO_floods 17 = .ok (.iload 4, 2) := dc_21 (by decide +kernel)
theorem d_MO_floods_19 : decode b_MO_floods 19 = .ok (.aload_n 0, 1) := dc_42 (by decide +kernel)
theorem d_MO_floods_20 : decode b_MO_floods 20 = .ok (.invokevirtual 329, 3) := dc_182 (by decide +kernel)
theorem d_MO_floods_23 : decode b_MO_floods 23 = .ok (.if_icmp .ge 28, 3) := dc_162 (by decide +kernel)
theorem d_MO_floods_26 : decode b_MO_floods 26 = .ok (.lload_n 2, 1) := dc_32 (by decide +kernel)
theorem d_MO_floods_27 : decode b_MO_floods 27 = .ok (.iload 4, 2) := dc_21 (by decide +kernel)
theorem d_MO_floods_29 : decode b_MO_floods 29 = .ok (.lshr, 1) := dc_123 (by decide +kernel)
theorem d_MO_floods_30 : decode b_MO_floods 30 = .ok (.lconst 1, 1) := dc_10 (by decide +kernel)
theorem d_MO_floods_31 : decode b_MO_floods 31 = .ok (.land, 1) := dc_127 (by decide +kernel)
theorem d_MO_floods_32 : decode b_MO_floods 32 = .ok (.lconst 1, 1) := dc_10 (by decide +kernel)
theorem d_MO_floods_33 : decode b_MO_floods 33 = .ok (.lcmp, 1) := dc_148 (by decide +kernel)
theorem d_MO_floods_34 : decode b_MO_floods 34 = .ok (.ifCond .ne 11, 3) := dc_154 (by decide +kernel)
theorem d_MO_floods_37 : decode b_MO_floods 37 = .ok (.aload_n 0, 1) := dc_42 (by decide +kernel)
theorem d_MO_floods_38 : decode b_MO_floods 38 = .ok (.iload_n 1, 1) := dc_27 (by decide +kernel)
theorem d_MO_floods_39 : decode b_MO_floods 39 = .ok (.iload 4, 2) := dc_21 (by decide +kernel)
theorem d_MO_floods_41 : decode b_MO_floods 41 = .ok (.invokevirtual 449, 3) := dc_182 (by decide +kernel)
theorem d_MO_floods_44 : decode b_MO_floods 44 = .ok (.pop, 1) := dc_87 (by decide +kernel)
theorem d_MO_floods_45 : decode b_MO_floods 45 = .ok (.iinc 4 1, 3) := dc_132 (by decide +kernel)
theorem d_MO_floods_48 : decode b_MO_floods 48 = .ok (.goto (-31), 3) := dc_167 (by decide +kernel)
theorem d_MO_floods_51 : decode b_MO_floods 51 = .ok (.return_, 1) := dc_177 (by decide +kernel)
def t_MO_floods_L45 (x1 : Int) (bk17 : Mem → Int64 → Int → Option (Mem)) (M : Mem) (v2_ : Int64) (v3_ : Int) : Option (Mem) := (bk17 M v2_ (w32 (v3_ + 1)))
def t_MO_floods_L17 (x1 : Int)  : Nat → Mem → Int64 → Int → Option (Mem)
  | 0, _, _, _ => none
  | fu + 1, M, v2_, v3_ => (qlet (t_MO_cells M) fun q4 => (if q4 ≤ v3_ then (some M) else (if ((q_lshr v2_ v3_) &&& 1) = 1 then (obind (t_MO_pours M x1 v3_) fun q8 => (t_MO_floods_L45 x1 (fun a0_ a1_ a2_ => t_MO_floods_L17 x1 fu a0_ a1_ a2_) (q8.1) v2_ v3_)) else (t_MO_floods_L45 x1 (fun a0_ a1_ a2_ => t_MO_floods_L17 x1 fu a0_ a1_ a2_) M v2_ v3_))))
def t_MO_floods (M : Mem) (x1 : Int) : Option (Mem) := (qguard (0 ≤ x1 ∧ x1 < 23) (qguard (0 ≤ x1 ∧ x1 < 23) (qlet (setL M 211 x1 0) fun M3 => (t_MO_floods_L17 x1 FU M3 (M.2 211 x1) 0))))
set_option maxHeartbeats 4000000 in
set_option maxRecDepth 100000 in
theorem k_MO_floods_L45 (l : Launch) {p : Program} {e : Env} {s : State} {m : MethodId} {below : List Frame} {meth : Method} {c : Code} {b n : Nat} {C : CT} (hlo : 231 ≤ n) (x1 : Int) (hx1 : InR x1) (F : Cx b p m c b_MO_floods 5 s ([.ref (b + 191), vI x1] : List Value).toArray "WardFallsModel" C n 231) (hlk : meth.locks = false) (hr : meth.sig.returnType = none) {res : Mem} (bk17 : Mem → Int64 → Int → Option (Mem)) (hbk17 : ∀ (M : Mem) (v2_ : Int64) (v3_ : Int) (hv3_ : InR v3_) (H : Heap) (locs : List Loc) (ls : Array Slot), St b C n M s H locs → lv_has ls 5 [(0, .ref (b + 191)), (1, vI x1), (2, .long v2_), (4, vI v3_)] → bk17 M v2_ v3_ = some res → W p l e (headSpec (wsM y_MO_floods b_MO_floods 5 (none)) (rmD 3)).room s m ([.ref (b + 191), vI x1] : List Value).toArray below meth c H locs 0 0 (MQ below (QV b C n res) ([.ref (b + 191), vI x1] : List Value).toArray s 0 0 (frb b)) (F0 m 17 ls [])) (M : Mem) (v2_ : Int64) (v3_ : Int) (hv3_ : InR v3_) (H : Heap) (locs : List Loc) (ls : Array Slot) (hS : St b C n M s H locs) (hl : lv_has ls 5 [(0, .ref (b + 191)), (1, vI x1), (2, .long v2_), (4, vI v3_)]) (hT : t_MO_floods_L45 x1 bk17 M v2_ v3_ = some res) : W p l e (headSpec (wsM y_MO_floods b_MO_floods 5 (none)) (rmD 3)).room s m ([.ref (b + 191), vI x1] : List Value).toArray below meth c H locs 0 0 (MQ below (QV b C n res) ([.ref (b + 191), vI x1] : List Value).toArray s 0 0 (frb b)) (F0 m 45 ls []) := by
  unfold t_MO_floods_L45 at hT
  refine lv_iinc (v := Int32.ofInt (w32 (v3_ + 1))) (lv' := [(4, vI (w32 (v3_ + 1))), (0, .ref (b + 191)), (1, vI x1), (2, .long v2_)]) F.hx F.hb d_MO_floods_45 hl (k := 3) rfl (q_of_add _ _) (Nat.le_of_ble_eq_true rfl) rfl (fun ls hl => ?_)
  refine lv_goto (tgt := 17) F.hx F.hb d_MO_floods_48 (by decide) ?_
  exact hbk17 M v2_ (w32 (v3_ + 1)) (inr_w32 _) _ _ _ hS (lv_sub hl [1, 2, 3, 0] rfl) hT
set_option maxHeartbeats 4000000 in
set_option maxRecDepth 100000 in
theorem k_MO_floods_L17 (l : Launch) {p : Program} {e : Env} {s : State} {m : MethodId} {below : List Frame} {meth : Method} {c : Code} {b n : Nat} {C : CT} (hlo : 231 ≤ n) (x1 : Int) (hx1 : InR x1) (F : Cx b p m c b_MO_floods 5 s ([.ref (b + 191), vI x1] : List Value).toArray "WardFallsModel" C n 231) (hlk : meth.locks = false) (hr : meth.sig.returnType = none) {res : Mem} : ∀ (fu : Nat) (M : Mem) (v2_ : Int64) (v3_ : Int) (hv3_ : InR v3_) (H : Heap) (locs : List Loc) (ls : Array Slot), St b C n M s H locs → lv_has ls 5 [(0, .ref (b + 191)), (1, vI x1), (2, .long v2_), (4, vI v3_)] → t_MO_floods_L17 x1 fu M v2_ v3_ = some res → W p l e (headSpec (wsM y_MO_floods b_MO_floods 5 (none)) (rmD 3)).room s m ([.ref (b + 191), vI x1] : List Value).toArray below meth c H locs 0 0 (MQ below (QV b C n res) ([.ref (b + 191), vI x1] : List Value).toArray s 0 0 (frb b)) (F0 m 17 ls []) := by
  intro fu
  induction fu with
  | zero => intro M v2_ v3_ hv3_ H locs ls hS hl hT; exact absurd hT (by simp [t_MO_floods_L17])
  | succ fu ih =>
    intro M v2_ v3_ hv3_ H locs ls hS hl hT
    rw [t_MO_floods_L17] at hT
    refine lv_iload F.hx F.hb d_MO_floods_17 (lv_at hl 3 rfl) ?_
    refine lv_aload_n F.hx F.hb d_MO_floods_19 rfl (lv_at hl 0 rfl) ?_
    obtain ⟨q4, hq4⟩ : ∃ q, q = (t_MO_cells M) := ⟨_, rfl⟩
    replace hT := qlet_eq hT hq4
    refine r_backI F hS (r_runV (k := 191) (N := 68) (T := T1) (As := []) F hS (show 191 < 231 by decide) (show shK 191 = 5 from rfl) rfl (c_MO_cells l F.2.2.1 M _ hq4.symm) gs_MO_329 hd_MO_cells ⟨Nat.le_of_ble_eq_true rfl, Nat.le_of_ble_eq_true rfl⟩ rfl hl.1 (Nat.le_of_ble_eq_true rfl) ⟨Nat.zero_le _, Nat.zero_le _⟩ rfl d_MO_floods_20) (fun H locs hS h5 => ?_)
    refine r_icmp_ge (tgt := 51) F.hx F.hb hv3_ h5 d_MO_floods_23 (by decide) (fun c6 => ?_) (fun c6 => ?_)
    · replace hT := (if_pos c6).symm.trans hT
      cases hT
      exact r_vret F hlk hr hS d_MO_floods_51
    · replace hT := (if_neg c6).symm.trans hT
      refine lv_lload_n F.hx F.hb d_MO_floods_26 rfl (lv_at hl 2 rfl) ?_
      refine lv_iload F.hx F.hb d_MO_floods_27 (lv_at hl 3 rfl) ?_
      refine r_lshr F.hx F.hb d_MO_floods_29 ?_
      refine lv_lconst (v := 1) F.hx F.hb d_MO_floods_30 rfl ?_
      refine lv_land F.hx F.hb d_MO_floods_31 ?_
      refine lv_lconst (v := 1) F.hx F.hb d_MO_floods_32 rfl ?_
      refine W.lcmp F.hx F.hb d_MO_floods_33 ?_
      refine r_lif_ne (tgt := 45) F.hx F.hb  d_MO_floods_34 (by decide) (fun c7 => ?_) (fun c7 => ?_)
      · replace hT := (if_neg c7).symm.trans hT
        exact k_MO_floods_L45 l hlo x1 hx1 F hlk hr (fun a0_ a1_ a2_ => t_MO_floods_L17 x1 fu a0_ a1_ a2_) ih M v2_ v3_ hv3_ _ _ _ hS (lv_sub hl [0, 1, 2, 3] rfl) hT
      · replace hT := (if_pos c7).symm.trans hT
        refine lv_aload_n F.hx F.hb d_MO_floods_37 rfl (lv_at hl 0 rfl) ?_
        refine lv_iload_n F.hx F.hb d_MO_floods_38 rfl (lv_at hl 1 rfl) ?_
        refine lv_iload F.hx F.hb d_MO_floods_39 (lv_at hl 3 rfl) ?_
        obtain ⟨q8, hq8, hT⟩ := q_obind hT
        refine r_backZ F hS (r_runV (k := 191) (N := 68) (T := T1) (As := [vI x1, vI v3_]) F hS (show 191 < 231 by decide) (show shK 191 = 5 from rfl) rfl (c_MO_pours l F.2.2.1 M x1 v3_ hx1 hv3_ _ hq8) gs_MO_449 hd_MO_pours ⟨Nat.le_of_ble_eq_true rfl, Nat.le_of_ble_eq_true rfl⟩ rfl hl.1 (Nat.le_of_ble_eq_true rfl) ⟨Nat.zero_le _, Nat.zero_le _⟩ rfl d_MO_floods_41) (fun H locs hS h9 => ?_)
        refine lv_pop F.hx F.hb d_MO_floods_44 rfl ?_
        exact k_MO_floods_L45 l hlo x1 hx1 F hlk hr (fun a0_ a1_ a2_ => t_MO_floods_L17 x1 fu a0_ a1_ a2_) ih (q8.1) v2_ v3_ hv3_ _ _ _ hS (lv_sub hl [0, 1, 2, 3] rfl) hT
set_option maxHeartbeats 4000000 in
set_option maxRecDepth 100000 in
theorem c_MO_floods (l : Launch) {b n : Nat} {C : CT} (hlo : 231 ≤ n) (M : Mem) (x1 : Int) (hx1 : InR x1) (res : Mem) (hT : t_MO_floods M x1 = some res) : CM l b C n 3 y_MO_floods b_MO_floods 5 (none) [.ref (b + 191), vI x1] M (QV b C n res) := by
  refine CM.of (lo := 231) (ow := "WardFallsModel") (by decide) rfl (Nat.le_of_ble_eq_true rfl) hlo (fun p e s m below meth c F hlk hr hS ls hl => ?_)
  have hl : lv_has ls 5 [(0, .ref (b + 191)), (1, vI x1)] := hl
  unfold t_MO_floods at hT
  refine lv_aload_n F.hx F.hb d_MO_floods_0 rfl (lv_at hl 0 rfl) ?_
  refine r_get (v := .ref (b + 211)) (N := 68) (T := T1) (j := 34) F hS (show 191 < 231 by decide) (show shK 191 = 5 from rfl) (show shN 191 = 68 from rfl) rfl (Nat.le_of_ble_eq_true rfl) ing1 mw_1423 (fv_sg rfl rfl rfl) d_MO_floods_1 ?_
  refine lv_iload_n F.hx F.hb d_MO_floods_4 rfl (lv_at hl 1 rfl) ?_
  obtain ⟨⟨g1a, g1b⟩, hT⟩ := q_guard hT
  refine r_lald F hS (show 211 < 231 by decide) (show shK 211 = 2 from rfl) (show shN 211 = 23 from rfl) hx1 g1a g1b d_MO_floods_5 ?_
  refine lv_lstore_n (lv' := [(2, .long (M.2 211 x1)), (0, .ref (b + 191)), (1, vI x1)]) F.hx F.hb d_MO_floods_6 rfl hl (Nat.le_of_ble_eq_true rfl) rfl (fun ls hl => ?_)
  refine lv_aload_n F.hx F.hb d_MO_floods_7 rfl (lv_at hl 1 rfl) ?_
  refine r_get (v := .ref (b + 211)) (N := 68) (T := T1) (j := 34) F hS (show 191 < 231 by decide) (show shK 191 = 5 from rfl) (show shN 191 = 68 from rfl) rfl (Nat.le_of_ble_eq_true rfl) ing1 mw_1423 (fv_sg rfl rfl rfl) d_MO_floods_8 ?_
  refine lv_iload_n F.hx F.hb d_MO_floods_11 rfl (lv_at hl 2 rfl) ?_
  refine lv_lconst (v := 0) F.hx F.hb d_MO_floods_12 rfl ?_
  obtain ⟨⟨g2a, g2b⟩, hT⟩ := q_guard hT
  refine r_last F hS (show 211 < 231 by decide) (show shK 211 = 2 from rfl) (show shN 211 = 23 from rfl) hx1 g2a g2b d_MO_floods_13 (fun H locs hS => ?_)
  obtain ⟨M3, eM3⟩ : ∃ q, q = (setL M 211 x1 0) := ⟨_, rfl⟩
  replace hS : St b C n M3 s H locs := by rw [eM3]; exact hS
  replace hT := qlet_eq hT eM3
  refine r_iconst F.hx F.hb d_MO_floods_14 ?_
  refine lv_istore (lv' := [(4, vI 0), (2, .long (M.2 211 x1)), (0, .ref (b + 191)), (1, vI x1)]) F.hx F.hb d_MO_floods_15 hl (Nat.le_of_ble_eq_true rfl) rfl (fun ls hl => ?_)
  exact k_MO_floods_L17 l hlo x1 hx1 F hlk hr FU M3 (M.2 211 x1) 0 (inr_c rfl) _ _ _ hS (lv_sub hl [2, 3, 1, 0] rfl) hT
theorem d_MO_vote_0 : decode b_MO_vote 0 = .ok (.aload_n 0, 1) := dc_42 (by decide +kernel)
theorem d_MO_vote_1 : decode b_MO_vote 1 = .ok (.iconst 0, 1) := dc_3 (by decide +kernel)
theorem d_MO_vote_2 : decode b_MO_vote 2 = .ok (.putfield 145, 3) := dc_181 (by decide +kernel)
theorem d_MO_vote_5 : decode b_MO_vote 5 = .ok (.aload_n 0, 1) := dc_42 (by decide +kernel)
theorem d_MO_vote_6 : decode b_MO_vote 6 = .ok (.iload_n 1, 1) := dc_27 (by decide +kernel)
theorem d_MO_vote_7 : decode b_MO_vote 7 = .ok (.invokevirtual 369, 3) := dc_182 (by decide +kernel)
theorem d_MO_vote_10 : decode b_MO_vote 10 = .ok (.ifCond .eq 20, 3) := dc_153 (by decide +kernel)
theorem d_MO_vote_13 : decode b_MO_vote 13 = .ok (.iload_n 2, 1) := dc_28 (by decide +kernel)
theorem d_MO_vote_14 : decode b_MO_vote 14 = .ok (.invokestatic 440, 3) := dc_184 (by decide +kernel)
theorem d_MO_vote_17 : decode b_MO_vote 17 = .ok (.ifCond .eq 13, 3) := dc_153 (by decide +kernel)
theorem d_MO_vote_20 : decode b_MO_vote 20 = .ok (.aload_n 0, 1) := dc_42 (by decide +kernel)
theorem d_MO_vote_21 : decode b_MO_vote 21 = .ok (.getfield 76, 3) := dc_180 (by decide +kernel)
theorem d_MO_vote_24 : decode b_MO_vote 24 = .ok (.iload_n 1, 1) := dc_27 (by decide +kernel)
theorem d_MO_vote_25 : decode b_MO_vote 25 = .ok (.iaload, 1) := dc_46 (by decide +kernel)
theorem d_MO_vote_26 : decode b_MO_vote 26 = .ok (.iload_n 2, 1) := dc_28 (by decide +kernel)
theorem d_MO_vote_27 : decode b_MO_vote 27 = .ok (.if_icmp .ne 5, 3) := dc_160 (by decide +kernel)
theorem d_MO_vote_30 : decode b_MO_vote 30 = .ok (.iconst 0, 1) := dc_3 (by decide +kernel)
theorem d_MO_vote_31 : decode b_MO_vote 31 = .ok (.ireturn, 1) := dc_172 (by decide +kernel)
theorem d_MO_vote_32 : decode b_MO_vote 32 = .ok (.aload_n 0, 1) := dc_42 (by decide +kernel)
theorem d_MO_vote_33 : decode b_MO_vote 33 = .ok (.invokevirtual 443, 3) := dc_182 (by decide +kernel)
theorem d_MO_vote_36 : decode b_MO_vote 36 = .ok (.aload_n 0, 1) := dc_42 (by decide +kernel)
theorem d_MO_vote_37 : decode b_MO_vote 37 = .ok (.getfield 76, 3) := dc_180 (by decide +kernel)
theorem d_MO_vote_40 : decode b_MO_vote 40 = .ok (.iload_n 1, 1) := dc_27 (by decide +kernel)
theorem d_MO_vote_41 : decode b_MO_vote 41 = .ok (.iload_n 2, 1) := dc_28 (by decide +kernel)
theorem d_MO_vote_42 : decode b_MO_vote 42 = .ok (.iastore, 1) := dc_79 (by decide +kernel)
theorem d_MO_vote_43 : decode b_MO_vote 43 = .ok (.aload_n 0, 1) := dc_42 (by decide +kernel)
theorem d_MO_vote_44 : decode b_MO_vote 44 = .ok (.iconst 0, 1) := dc_3 (by decide +kernel)
theorem d_MO_vote_45 : decode b_MO_vote 45 = .ok (.invokevirtual 446, 3) := dc_182 (by decide +kernel)
theorem d_MO_vote_48 : decode b_MO_vote 48 = .ok (.iconst 1, 1) := dc_4 (by decide +kernel)
theorem d_MO_vote_49 : decode b_MO_vote 49 = .ok (.ireturn, 1) := dc_172 (by decide +kernel)
def t_MO_vote (M : Mem) (x1 : Int) (x2 : Int) : Option (Mem × Int) := (qlet (setI M 191 0 0) fun M1 => (qlet (t_MO_isWard M1 x1) fun q2 => (if q2 = 0 then (some (M1, 0)) else (qlet (t_MO_isDown M1 x2) fun q5 => (if q5 = 0 then (some (M1, 0)) else (qguard (0 ≤ x1 ∧ x1 < 92) (if (M1.1 212 x1) = x2 then (some (M1, 0)) else (obind (t_MO_keepNow M1) fun q11 => (qguard (0 ≤ x1 ∧ x1 < 92) (qlet (setI q11 212 x1 x2) fun M14 => (obind (t_MO_floods M14 0) fun q15 => (some (q15, 1)))))))))))))
set_option maxHeartbeats 4000000 in
set_option maxRecDepth 100000 in
theorem c_MO_vote (l : Launch) {b n : Nat} {C : CT} (hlo : 231 ≤ n) (M : Mem) (x1 : Int) (x2 : Int) (hx1 : InR x1) (hx2 : InR x2) (res : Mem × Int) (hT : t_MO_vote M x1 x2 = some res) : CM l b C n 4 y_MO_vote b_MO_vote 3 (some .boolean) [.ref (b + 191), vI x1, vI x2] M (QZ b C n res.1 res.2) := by
  refine CM.of (lo := 231) (ow := "WardFallsModel") (by decide) rfl (Nat.le_of_ble_eq_true rfl) hlo (fun p e s m below meth c F hlk hr hS ls hl => ?_)
  have hl : lv_has ls 3 [(0, .ref (b + 191)), (1, vI x1), (2, vI x2)] := hl
  unfold t_MO_vote at hT
  refine lv_aload_n F.hx F.hb d_MO_vote_0 rfl (lv_at hl 0 rfl) ?_
  refine r_iconst F.hx F.hb d_MO_vote_1 ?_
  refine r_putI (N := 68) (T := T1) (j := 0) F hS (show 191 < 231 by decide) (show shK 191 = 5 from rfl) (show shN 191 = 68 from rfl) rfl (Nat.le_of_ble_eq_true rfl) ing1 tyok1 nm1 rfl rfl rfl rfl rfl rfl mw_1389 (inr_c rfl) d_MO_vote_2 (fun H locs hS => ?_)
  obtain ⟨M1, eM1⟩ : ∃ q, q = (setI M 191 0 0) := ⟨_, rfl⟩
  replace hS : St b C n M1 s H locs := by rw [eM1]; exact hS
  replace hT := qlet_eq hT eM1
  refine lv_aload_n F.hx F.hb d_MO_vote_5 rfl (lv_at hl 0 rfl) ?_
  refine lv_iload_n F.hx F.hb d_MO_vote_6 rfl (lv_at hl 1 rfl) ?_
  obtain ⟨q2, hq2⟩ : ∃ q, q = (t_MO_isWard M1 x1) := ⟨_, rfl⟩
  replace hT := qlet_eq hT hq2
  refine r_backZ F hS (r_runV (k := 191) (N := 68) (T := T1) (As := [vI x1]) F hS (show 191 < 231 by decide) (show shK 191 = 5 from rfl) rfl (c_MO_isWard l F.2.2.1 M1 x1 hx1 _ hq2.symm) gs_MO_369 hd_MO_isWard ⟨Nat.le_of_ble_eq_true rfl, Nat.le_of_ble_eq_true rfl⟩ rfl hl.1 (Nat.le_of_ble_eq_true rfl) ⟨Nat.zero_le _, Nat.zero_le _⟩ rfl d_MO_vote_7) (fun H locs hS h3 => ?_)
  refine r_if_eq (tgt := 30) F.hx F.hb (inr_z h3) d_MO_vote_10 (by decide) (fun c4 => ?_) (fun c4 => ?_)
  · replace hT := (if_pos c4).symm.trans hT
    refine r_iconst F.hx F.hb d_MO_vote_30 ?_
    cases hT
    exact r_zret F hlk hr hS (Or.inl rfl) d_MO_vote_31
  · replace hT := (if_neg c4).symm.trans hT
    refine lv_iload_n F.hx F.hb d_MO_vote_13 rfl (lv_at hl 2 rfl) ?_
    obtain ⟨q5, hq5⟩ : ∃ q, q = (t_MO_isDown M1 x2) := ⟨_, rfl⟩
    replace hT := qlet_eq hT hq5
    refine r_backZ F hS (r_runS (As := [vI x2]) F hS (c_MO_isDown l F.2.2.1 M1 x2 hx2 _ hq5.symm) gs_MO_440 hd_MO_isDown ⟨Nat.le_of_ble_eq_true rfl, Nat.le_of_ble_eq_true rfl⟩ rfl hl.1 (Nat.le_of_ble_eq_true rfl) ⟨Nat.zero_le _, Nat.zero_le _⟩ rfl d_MO_vote_14) (fun H locs hS h6 => ?_)
    refine r_if_eq (tgt := 30) F.hx F.hb (inr_z h6) d_MO_vote_17 (by decide) (fun c7 => ?_) (fun c7 => ?_)
    · replace hT := (if_pos c7).symm.trans hT
      refine r_iconst F.hx F.hb d_MO_vote_30 ?_
      cases hT
      exact r_zret F hlk hr hS (Or.inl rfl) d_MO_vote_31
    · replace hT := (if_neg c7).symm.trans hT
      refine lv_aload_n F.hx F.hb d_MO_vote_20 rfl (lv_at hl 0 rfl) ?_
      refine r_get (v := .ref (b + 212)) (N := 68) (T := T1) (j := 35) F hS (show 191 < 231 by decide) (show shK 191 = 5 from rfl) (show shN 191 = 68 from rfl) rfl (Nat.le_of_ble_eq_true rfl) ing1 mw_1424 (fv_sg rfl rfl rfl) d_MO_vote_21 ?_
      refine lv_iload_n F.hx F.hb d_MO_vote_24 rfl (lv_at hl 1 rfl) ?_
      obtain ⟨⟨g8a, g8b⟩, hT⟩ := q_guard hT
      refine r_iald F hS (show 212 < 231 by decide) (show shK 212 = 0 from rfl) (show shN 212 = 92 from rfl) hx1 g8a g8b d_MO_vote_25 ?_
      have i9 := hS.rng 212 x1
      refine lv_iload_n F.hx F.hb d_MO_vote_26 rfl (lv_at hl 2 rfl) ?_
      refine r_icmp_ne (tgt := 32) F.hx F.hb i9 hx2 d_MO_vote_27 (by decide) (fun c10 => ?_) (fun c10 => ?_)
      · replace hT := (if_neg c10).symm.trans hT
        refine lv_aload_n F.hx F.hb d_MO_vote_32 rfl (lv_at hl 0 rfl) ?_
        obtain ⟨q11, hq11, hT⟩ := q_obind hT
        refine r_backV F hS (r_runV (k := 191) (N := 68) (T := T1) (As := []) F hS (show 191 < 231 by decide) (show shK 191 = 5 from rfl) rfl (c_MO_keepNow l F.2.2.1 M1 _ hq11) gs_MO_443 hd_MO_keepNow ⟨Nat.le_of_ble_eq_true rfl, Nat.le_of_ble_eq_true rfl⟩ rfl hl.1 (Nat.le_of_ble_eq_true rfl) ⟨Nat.zero_le _, Nat.zero_le _⟩ rfl d_MO_vote_33) (fun H locs hS => ?_)
        refine lv_aload_n F.hx F.hb d_MO_vote_36 rfl (lv_at hl 0 rfl) ?_
        refine r_get (v := .ref (b + 212)) (N := 68) (T := T1) (j := 35) F hS (show 191 < 231 by decide) (show shK 191 = 5 from rfl) (show shN 191 = 68 from rfl) rfl (Nat.le_of_ble_eq_true rfl) ing1 mw_1424 (fv_sg rfl rfl rfl) d_MO_vote_37 ?_
        refine lv_iload_n F.hx F.hb d_MO_vote_40 rfl (lv_at hl 1 rfl) ?_
        refine lv_iload_n F.hx F.hb d_MO_vote_41 rfl (lv_at hl 2 rfl) ?_
        obtain ⟨⟨g13a, g13b⟩, hT⟩ := q_guard hT
        refine r_iast F hS (show 212 < 231 by decide) (show shK 212 = 0 from rfl) (show shN 212 = 92 from rfl) hx1 hx2 g13a g13b d_MO_vote_42 (fun H locs hS => ?_)
        obtain ⟨M14, eM14⟩ : ∃ q, q = (setI q11 212 x1 x2) := ⟨_, rfl⟩
        replace hS : St b C n M14 s H locs := by rw [eM14]; exact hS
        replace hT := qlet_eq hT eM14
        refine lv_aload_n F.hx F.hb d_MO_vote_43 rfl (lv_at hl 0 rfl) ?_
        refine r_iconst F.hx F.hb d_MO_vote_44 ?_
        obtain ⟨q15, hq15, hT⟩ := q_obind hT
        refine r_backV F hS (r_runV (k := 191) (N := 68) (T := T1) (As := [vI 0]) F hS (show 191 < 231 by decide) (show shK 191 = 5 from rfl) rfl (c_MO_floods l F.2.2.1 M14 0 (inr_c rfl) _ hq15) gs_MO_446 hd_MO_floods ⟨Nat.le_of_ble_eq_true rfl, Nat.le_of_ble_eq_true rfl⟩ rfl hl.1 (Nat.le_of_ble_eq_true rfl) ⟨Nat.zero_le _, Nat.zero_le _⟩ rfl d_MO_vote_45) (fun H locs hS => ?_)
        refine r_iconst F.hx F.hb d_MO_vote_48 ?_
        cases hT
        exact r_zret F hlk hr hS (Or.inr rfl) d_MO_vote_49
      · replace hT := (if_pos c10).symm.trans hT
        refine r_iconst F.hx F.hb d_MO_vote_30 ?_
        cases hT
        exact r_zret F hlk hr hS (Or.inl rfl) d_MO_vote_31
theorem d_MO_net_0 : decode b_MO_net 0 = .ok (.aload_n 0, 1) := dc_42 (by decide +kernel)
theorem d_MO_net_1 : decode b_MO_net 1 = .ok (.iconst 0, 1) := dc_3 (by decide +kernel)
theorem d_MO_net_2 : decode b_MO_net 2 = .ok (.putfield 145, 3) := dc_181 (by decide +kernel)
theorem d_MO_net_5 : decode b_MO_net 5 = .ok (.aload_n 0, 1) := dc_42 (by decide +kernel)
theorem d_MO_net_6 : decode b_MO_net 6 = .ok (.iload_n 1, 1) := dc_27 (by decide +kernel)
theorem d_MO_net_7 : decode b_MO_net 7 = .ok (.invokevirtual 428, 3) := dc_182 (by decide +kernel)
theorem d_MO_net_10 : decode b_MO_net 10 = .ok (.ifCond .eq 27, 3) := dc_153 (by decide +kernel)
theorem d_MO_net_13 : decode b_MO_net 13 = .ok (.aload_n 0, 1) := dc_42 (by decide +kernel)
theorem d_MO_net_14 : decode b_MO_net 14 = .ok (.getfield 69, 3) := dc_180 (by decide +kernel)
theorem d_MO_net_17 : decode b_MO_net 17 = .ok (.iconst 0, 1) := dc_3 (by decide +kernel)
theorem d_MO_net_18 : decode b_MO_net 18 = .ok (.laload, 1) := dc_47 (by decide +kernel)
theorem d_MO_net_19 : decode b_MO_net 19 = .ok (.iload_n 1, 1) := dc_27 (by decide +kernel)
theorem d_MO_net_20 : decode b_MO_net 20 = .ok (.lshr, 1) := dc_123 (by decide +kernel)
theorem d_MO_net_21 : decode b_MO_net 21 = .ok (.lconst 1, 1) := dc_10 (by decide +kernel)
theorem d_MO_net_22 : decode b_MO_net 22 = .ok (.land, 1) := dc_127 (by decide +kernel)
theorem d_MO_net_23 : decode b_MO_net 23 = .ok (.lconst 1, 1) := dc_10 (by decide +kernel)
theorem d_MO_net_24 : decode b_MO_net 24 = .ok (.lcmp, 1) := dc_148 (by decide +kernel)
theorem d_MO_net_25 : decode b_MO_net 25 = .ok (.ifCond .ne 7, 3) := dc_154 (by decide +kernel)
theorem d_MO_net_28 : decode b_MO_net 28 = .ok (.iconst 1, 1) := dc_4 (by decide +kernel)
theorem d_MO_net_29 : decode b_MO_net 29 = .ok (.goto 4, 3) := dc_167 (by decide +kernel)
theorem d_MO_net_32 : decode b_MO_net 32 = .ok (.iconst 0, 1) := dc_3 (by decide +kernel)
theorem d_MO_net_33 : decode b_MO_net 33 = .ok (.iload_n 2, 1) := dc_28 (by decide +kernel)
theorem d_MO_net_34 : decode b_MO_net 34 = .ok (.if_icmp .ne 5, 3) := dc_160 (by decide +kernel)
theorem d_MO_net_37 : decode b_MO_net 37 = .ok (.iconst 0, 1) := dc_3 (by decide +kernel)
theorem d_MO_net_38 : decode b_MO_net 38 = .ok (.ireturn, 1) := dc_172 (by decide +kernel)
theorem d_MO_net_39 : decode b_MO_net 39 = .ok (.aload_n 0, 1) := dc_42 (by decide +kernel)
theorem d_MO_net_40 : decode b_MO_net 40 = .ok (.invokevirtual 443, 3) := dc_182 (by decide +kernel)
theorem d_MO_net_43 : decode b_MO_net 43 = .ok (.aload_n 0, 1) := dc_42 (by decide +kernel)
theorem d_MO_net_44 : decode b_MO_net 44 = .ok (.getfield 69, 3) := dc_180 (by decide +kernel)
theorem d_MO_net_47 : decode b_MO_net 47 = .ok (.iconst 0, 1) := dc_3 (by decide +kernel)
theorem d_MO_net_48 : decode b_MO_net 48 = .ok (.dup2, 1) := dc_92 (by decide +kernel)
theorem d_MO_net_49 : decode b_MO_net 49 = .ok (.laload, 1) := dc_47 (by decide +kernel)
theorem d_MO_net_50 : decode b_MO_net 50 = .ok (.lconst 1, 1) := dc_10 (by decide +kernel)
theorem d_MO_net_51 : decode b_MO_net 51 = .ok (.iload_n 1, 1) := dc_27 (by decide +kernel)
theorem d_MO_net_52 : decode b_MO_net 52 = .ok (.lshl, 1) := dc_121 (by decide +kernel)
theorem d_MO_net_53 : decode b_MO_net 53 = .ok (.lxor, 1) := dc_131 (by decide +kernel)
theorem d_MO_net_54 : decode b_MO_net 54 = .ok (.lastore, 1) := dc_80 (by decide +kernel)
theorem d_MO_net_55 : decode b_MO_net 55 = .ok (.iconst 1, 1) := dc_4 (by decide +kernel)
theorem d_MO_net_56 : decode b_MO_net 56 = .ok (.ireturn, 1) := dc_172 (by decide +kernel)
def t_MO_net_L33 (x1 : Int) (x2 : Int)  (M : Mem) (v3_ : Int) : Option (Mem × Int) := (if v3_ = x2 then (some (M, 0)) else (obind (t_MO_keepNow M) fun q7 => (qlet (setL q7 210 0 ((q7.2 210 0) ^^^ (q_lshl 1 x1))) fun M9 => (some (M9, 1)))))
def t_MO_net (M : Mem) (x1 : Int) (x2 : Int) : Option (Mem × Int) := (qlet (setI M 191 0 0) fun M1 => (obind (t_MO_isOpen M1 x1) fun q2 => (if q2 = 0 then (some (M1, 0)) else (if ((q_lshr (M1.2 210 0) x1) &&& 1) = 1 then (t_MO_net_L33 x1 x2 M1 1) else (t_MO_net_L33 x1 x2 M1 0)))))
set_option maxHeartbeats 4000000 in
set_option maxRecDepth 100000 in
theorem k_MO_net_L33 (l : Launch) {p : Program} {e : Env} {s : State} {m : MethodId} {below : List Frame} {meth : Method} {c : Code} {b n : Nat} {C : CT} (hlo : 231 ≤ n) (x1 : Int) (x2 : Int) (hx1 : InR x1) (hx2 : InR x2) (F : Cx b p m c b_MO_net 3 s ([.ref (b + 191), vI x1, vI x2] : List Value).toArray "WardFallsModel" C n 231) (hlk : meth.locks = false) (hr : meth.sig.returnType = some .boolean) {res : Mem × Int} (M : Mem) (v3_ : Int) (hv3_ : v3_ = 0 ∨ v3_ = 1) (H : Heap) (locs : List Loc) (ls : Array Slot) (hS : St b C n M s H locs) (hl : lv_has ls 3 [(0, .ref (b + 191)), (1, vI x1), (2, vI x2)]) (hT : t_MO_net_L33 x1 x2 M v3_ = some res) : W p l e (headSpec (wsM y_MO_net b_MO_net 3 (some .boolean)) (rmD 3)).room s m ([.ref (b + 191), vI x1, vI x2] : List Value).toArray below meth c H locs 0 0 (MQ below (QZ b C n res.1 res.2) ([.ref (b + 191), vI x1, vI x2] : List Value).toArray s 0 0 (frb b)) (F0 m 33 ls [vI v3_]) := by
  unfold t_MO_net_L33 at hT
  refine lv_iload_n F.hx F.hb d_MO_net_33 rfl (lv_at hl 2 rfl) ?_
  refine r_icmp_ne (tgt := 39) F.hx F.hb (inr_z hv3_) hx2 d_MO_net_34 (by decide) (fun c6 => ?_) (fun c6 => ?_)
  · replace hT := (if_neg c6).symm.trans hT
    refine lv_aload_n F.hx F.hb d_MO_net_39 rfl (lv_at hl 0 rfl) ?_
    obtain ⟨q7, hq7, hT⟩ := q_obind hT
    refine r_backV F hS (r_runV (k := 191) (N := 68) (T := T1) (As := []) F hS (show 191 < 231 by decide) (show shK 191 = 5 from rfl) rfl (c_MO_keepNow l F.2.2.1 M _ hq7) gs_MO_443 hd_MO_keepNow ⟨Nat.le_of_ble_eq_true rfl, Nat.le_of_ble_eq_true rfl⟩ rfl hl.1 (Nat.le_of_ble_eq_true rfl) ⟨Nat.zero_le _, Nat.zero_le _⟩ rfl d_MO_net_40) (fun H locs hS => ?_)
    refine lv_aload_n F.hx F.hb d_MO_net_43 rfl (lv_at hl 0 rfl) ?_
    refine r_get (v := .ref (b + 210)) (N := 68) (T := T1) (j := 33) F hS (show 191 < 231 by decide) (show shK 191 = 5 from rfl) (show shN 191 = 68 from rfl) rfl (Nat.le_of_ble_eq_true rfl) ing1 mw_1422 (fv_sg rfl rfl rfl) d_MO_net_44 ?_
    refine r_iconst F.hx F.hb d_MO_net_47 ?_
    refine lv_dup2_11 F.hx F.hb d_MO_net_48 rfl rfl ?_
    refine r_lald F hS (show 210 < 231 by decide) (show shK 210 = 2 from rfl) (show shN 210 = 23 from rfl) (inr_c rfl) (by omega) (by omega) d_MO_net_49 ?_
    refine lv_lconst (v := 1) F.hx F.hb d_MO_net_50 rfl ?_
    refine lv_iload_n F.hx F.hb d_MO_net_51 rfl (lv_at hl 1 rfl) ?_
    refine r_lshl F.hx F.hb d_MO_net_52 ?_
    refine lv_lxor F.hx F.hb d_MO_net_53 ?_
    refine r_last F hS (show 210 < 231 by decide) (show shK 210 = 2 from rfl) (show shN 210 = 23 from rfl) (inr_c rfl) (by omega) (by omega) d_MO_net_54 (fun H locs hS => ?_)
    obtain ⟨M9, eM9⟩ : ∃ q, q = (setL q7 210 0 ((q7.2 210 0) ^^^ (q_lshl 1 x1))) := ⟨_, rfl⟩
    replace hS : St b C n M9 s H locs := by rw [eM9]; exact hS
    replace hT := qlet_eq hT eM9
    refine r_iconst F.hx F.hb d_MO_net_55 ?_
    cases hT
    exact r_zret F hlk hr hS (Or.inr rfl) d_MO_net_56
  · replace hT := (if_pos c6).symm.trans hT
    refine r_iconst F.hx F.hb d_MO_net_37 ?_
    cases hT
    exact r_zret F hlk hr hS (Or.inl rfl) d_MO_net_38
set_option maxHeartbeats 4000000 in
set_option maxRecDepth 100000 in
theorem c_MO_net (l : Launch) {b n : Nat} {C : CT} (hlo : 231 ≤ n) (M : Mem) (x1 : Int) (x2 : Int) (hx1 : InR x1) (hx2 : InR x2) (res : Mem × Int) (hT : t_MO_net M x1 x2 = some res) : CM l b C n 3 y_MO_net b_MO_net 3 (some .boolean) [.ref (b + 191), vI x1, vI x2] M (QZ b C n res.1 res.2) := by
  refine CM.of (lo := 231) (ow := "WardFallsModel") (by decide) rfl (Nat.le_of_ble_eq_true rfl) hlo (fun p e s m below meth c F hlk hr hS ls hl => ?_)
  have hl : lv_has ls 3 [(0, .ref (b + 191)), (1, vI x1), (2, vI x2)] := hl
  unfold t_MO_net at hT
  refine lv_aload_n F.hx F.hb d_MO_net_0 rfl (lv_at hl 0 rfl) ?_
  refine r_iconst F.hx F.hb d_MO_net_1 ?_
  refine r_putI (N := 68) (T := T1) (j := 0) F hS (show 191 < 231 by decide) (show shK 191 = 5 from rfl) (show shN 191 = 68 from rfl) rfl (Nat.le_of_ble_eq_true rfl) ing1 tyok1 nm1 rfl rfl rfl rfl rfl rfl mw_1389 (inr_c rfl) d_MO_net_2 (fun H locs hS => ?_)
  obtain ⟨M1, eM1⟩ : ∃ q, q = (setI M 191 0 0) := ⟨_, rfl⟩
  replace hS : St b C n M1 s H locs := by rw [eM1]; exact hS
  replace hT := qlet_eq hT eM1
  refine lv_aload_n F.hx F.hb d_MO_net_5 rfl (lv_at hl 0 rfl) ?_
  refine lv_iload_n F.hx F.hb d_MO_net_6 rfl (lv_at hl 1 rfl) ?_
  obtain ⟨q2, hq2, hT⟩ := q_obind hT
  refine r_backZ F hS (r_runV (k := 191) (N := 68) (T := T1) (As := [vI x1]) F hS (show 191 < 231 by decide) (show shK 191 = 5 from rfl) rfl (c_MO_isOpen l F.2.2.1 M1 x1 hx1 _ hq2) gs_MO_428 hd_MO_isOpen ⟨Nat.le_of_ble_eq_true rfl, Nat.le_of_ble_eq_true rfl⟩ rfl hl.1 (Nat.le_of_ble_eq_true rfl) ⟨Nat.zero_le _, Nat.zero_le _⟩ rfl d_MO_net_7) (fun H locs hS h3 => ?_)
  refine r_if_eq (tgt := 37) F.hx F.hb (inr_z h3) d_MO_net_10 (by decide) (fun c4 => ?_) (fun c4 => ?_)
  · replace hT := (if_pos c4).symm.trans hT
    refine r_iconst F.hx F.hb d_MO_net_37 ?_
    cases hT
    exact r_zret F hlk hr hS (Or.inl rfl) d_MO_net_38
  · replace hT := (if_neg c4).symm.trans hT
    refine lv_aload_n F.hx F.hb d_MO_net_13 rfl (lv_at hl 0 rfl) ?_
    refine r_get (v := .ref (b + 210)) (N := 68) (T := T1) (j := 33) F hS (show 191 < 231 by decide) (show shK 191 = 5 from rfl) (show shN 191 = 68 from rfl) rfl (Nat.le_of_ble_eq_true rfl) ing1 mw_1422 (fv_sg rfl rfl rfl) d_MO_net_14 ?_
    refine r_iconst F.hx F.hb d_MO_net_17 ?_
    refine r_lald F hS (show 210 < 231 by decide) (show shK 210 = 2 from rfl) (show shN 210 = 23 from rfl) (inr_c rfl) (by omega) (by omega) d_MO_net_18 ?_
    refine lv_iload_n F.hx F.hb d_MO_net_19 rfl (lv_at hl 1 rfl) ?_
    refine r_lshr F.hx F.hb d_MO_net_20 ?_
    refine lv_lconst (v := 1) F.hx F.hb d_MO_net_21 rfl ?_
    refine lv_land F.hx F.hb d_MO_net_22 ?_
    refine lv_lconst (v := 1) F.hx F.hb d_MO_net_23 rfl ?_
    refine W.lcmp F.hx F.hb d_MO_net_24 ?_
    refine r_lif_ne (tgt := 32) F.hx F.hb  d_MO_net_25 (by decide) (fun c5 => ?_) (fun c5 => ?_)
    · replace hT := (if_neg c5).symm.trans hT
      refine r_iconst F.hx F.hb d_MO_net_32 ?_
      exact k_MO_net_L33 l hlo x1 x2 hx1 hx2 F hlk hr M1 0 (Or.inl rfl) _ _ _ hS (lv_sub hl [0, 1, 2] rfl) hT
    · replace hT := (if_pos c5).symm.trans hT
      refine r_iconst F.hx F.hb d_MO_net_28 ?_
      refine lv_goto (tgt := 33) F.hx F.hb d_MO_net_29 (by decide) ?_
      exact k_MO_net_L33 l hlo x1 x2 hx1 hx2 F hlk hr M1 1 (Or.inr rfl) _ _ _ hS (lv_sub hl [0, 1, 2] rfl) hT
theorem d_MO_lay_0 : decode b_MO_lay 0 = .ok (.aload_n 0, 1) := dc_42 (by decide +kernel)
theorem d_MO_lay_1 : decode b_MO_lay 1 = .ok (.iconst 0, 1) := dc_3 (by decide +kernel)
theorem d_MO_lay_2 : decode b_MO_lay 2 = .ok (.putfield 145, 3) := dc_181 (by decide +kernel)
theorem d_MO_lay_5 : decode b_MO_lay 5 = .ok (.aload_n 0, 1) := dc_42 (by decide +kernel)
theorem d_MO_lay_6 : decode b_MO_lay 6 = .ok (.iload_n 1, 1) := dc_27 (by decide +kernel)
theorem d_MO_lay_7 : decode b_MO_lay 7 = .ok (.invokevirtual 378, 3) := dc_182 (by decide +kernel)
theorem d_MO_lay_10 : decode b_MO_lay 10 = .ok (.ifCond .eq 21, 3) := dc_153 (by decide +kernel)
theorem d_MO_lay_13 : decode b_MO_lay 13 = .ok (.aload_n 0, 1) := dc_42 (by decide +kernel)
theorem d_MO_lay_14 : decode b_MO_lay 14 = .ok (.iload_n 2, 1) := dc_28 (by decide +kernel)
theorem d_MO_lay_15 : decode b_MO_lay 15 = .ok (.invokevirtual 428, 3) := dc_182 (by decide +kernel)
theorem d_MO_lay_18 : decode b_MO_lay 18 = .ok (.ifCond .eq 13, 3) := dc_153 (by decide +kernel)
theorem d_MO_lay_21 : decode b_MO_lay 21 = .ok (.aload_n 0, 1) := dc_42 (by decide +kernel)
theorem d_MO_lay_22 : decode b_MO_lay 22 = .ok (.iconst 0, 1) := dc_3 (by decide +kernel)
theorem d_MO_lay_23 : decode b_MO_lay 23 = .ok (.iload_n 2, 1) := dc_28 (by decide +kernel)
theorem d_MO_lay_24 : decode b_MO_lay 24 = .ok (.invokevirtual 363, 3) := dc_182 (by decide +kernel)
theorem d_MO_lay_27 : decode b_MO_lay 27 = .ok (.iconst (-1), 1) := dc_2 (by decide +kernel)
theorem d_MO_lay_28 : decode b_MO_lay 28 = .ok (.if_icmp .eq 5, 3) := dc_159 (by decide +kernel)
theorem d_MO_lay_31 : decode b_MO_lay 31 = .ok (.iconst 0, 1) := dc_3 (by decide +kernel)
theorem d_MO_lay_32 : decode b_MO_lay 32 = .ok (.ireturn, 1) := dc_172 (by decide +kernel)
theorem d_MO_lay_33 : decode b_MO_lay 33 = .ok (.aload_n 0, 1) := dc_42 (by decide +kernel)
theorem d_MO_lay_34 : decode b_MO_lay 34 = .ok (.invokevirtual 443, 3) := dc_182 (by decide +kernel)
theorem d_MO_lay_37 : decode b_MO_lay 37 = .ok (.aload_n 0, 1) := dc_42 (by decide +kernel)
theorem d_MO_lay_38 : decode b_MO_lay 38 = .ok (.getfield 79, 3) := dc_180 (by decide +kernel)
theorem d_MO_lay_41 : decode b_MO_lay 41 = .ok (.iload_n 1, 1) := dc_27 (by decide +kernel)
theorem d_MO_lay_42 : decode b_MO_lay 42 = .ok (.iload_n 2, 1) := dc_28 (by decide +kernel)
theorem d_MO_lay_43 : decode b_MO_lay 43 = .ok (.iastore, 1) := dc_79 (by decide +kernel)
theorem d_MO_lay_44 : decode b_MO_lay 44 = .ok (.iconst 1, 1) := dc_4 (by decide +kernel)
theorem d_MO_lay_45 : decode b_MO_lay 45 = .ok (.ireturn, 1) := dc_172 (by decide +kernel)
def t_MO_lay (M : Mem) (x1 : Int) (x2 : Int) : Option (Mem × Int) := (qlet (setI M 191 0 0) fun M1 => (qlet (t_MO_isThing M1 x1) fun q2 => (if q2 = 0 then (some (M1, 0)) else (obind (t_MO_isOpen M1 x2) fun q5 => (if q5 = 0 then (some (M1, 0)) else (obind (t_MO_thingIn M1 0 x2) fun q8 => (if q8 = (-1) then (obind (t_MO_keepNow M1) fun q11 => (qguard (0 ≤ x1 ∧ x1 < 184) (qlet (setI q11 213 x1 x2) fun M14 => (some (M14, 1))))) else (some (M1, 0)))))))))
set_option maxHeartbeats 4000000 in
set_option maxRecDepth 100000 in
theorem c_MO_lay (l : Launch) {b n : Nat} {C : CT} (hlo : 231 ≤ n) (M : Mem) (x1 : Int) (x2 : Int) (hx1 : InR x1) (hx2 : InR x2) (res : Mem × Int) (hT : t_MO_lay M x1 x2 = some res) : CM l b C n 3 y_MO_lay b_MO_lay 3 (some .boolean) [.ref (b + 191), vI x1, vI x2] M (QZ b C n res.1 res.2) := by
  refine CM.of (lo := 231) (ow := "WardFallsModel") (by decide) rfl (Nat.le_of_ble_eq_true rfl) hlo (fun p e s m below meth c F hlk hr hS ls hl => ?_)
  have hl : lv_has ls 3 [(0, .ref (b + 191)), (1, vI x1), (2, vI x2)] := hl
  unfold t_MO_lay at hT
  refine lv_aload_n F.hx F.hb d_MO_lay_0 rfl (lv_at hl 0 rfl) ?_
  refine r_iconst F.hx F.hb d_MO_lay_1 ?_
  refine r_putI (N := 68) (T := T1) (j := 0) F hS (show 191 < 231 by decide) (show shK 191 = 5 from rfl) (show shN 191 = 68 from rfl) rfl (Nat.le_of_ble_eq_true rfl) ing1 tyok1 nm1 rfl rfl rfl rfl rfl rfl mw_1389 (inr_c rfl) d_MO_lay_2 (fun H locs hS => ?_)
  obtain ⟨M1, eM1⟩ : ∃ q, q = (setI M 191 0 0) := ⟨_, rfl⟩
  replace hS : St b C n M1 s H locs := by rw [eM1]; exact hS
  replace hT := qlet_eq hT eM1
  refine lv_aload_n F.hx F.hb d_MO_lay_5 rfl (lv_at hl 0 rfl) ?_
  refine lv_iload_n F.hx F.hb d_MO_lay_6 rfl (lv_at hl 1 rfl) ?_
  obtain ⟨q2, hq2⟩ : ∃ q, q = (t_MO_isThing M1 x1) := ⟨_, rfl⟩
  replace hT := qlet_eq hT hq2
  refine r_backZ F hS (r_runV (k := 191) (N := 68) (T := T1) (As := [vI x1]) F hS (show 191 < 231 by decide) (show shK 191 = 5 from rfl) rfl (c_MO_isThing l F.2.2.1 M1 x1 hx1 _ hq2.symm) gs_MO_378 hd_MO_isThing ⟨Nat.le_of_ble_eq_true rfl, Nat.le_of_ble_eq_true rfl⟩ rfl hl.1 (Nat.le_of_ble_eq_true rfl) ⟨Nat.zero_le _, Nat.zero_le _⟩ rfl d_MO_lay_7) (fun H locs hS h3 => ?_)
  refine r_if_eq (tgt := 31) F.hx F.hb (inr_z h3) d_MO_lay_10 (by decide) (fun c4 => ?_) (fun c4 => ?_)
  · replace hT := (if_pos c4).symm.trans hT
    refine r_iconst F.hx F.hb d_MO_lay_31 ?_
    cases hT
    exact r_zret F hlk hr hS (Or.inl rfl) d_MO_lay_32
  · replace hT := (if_neg c4).symm.trans hT
    refine lv_aload_n F.hx F.hb d_MO_lay_13 rfl (lv_at hl 0 rfl) ?_
    refine lv_iload_n F.hx F.hb d_MO_lay_14 rfl (lv_at hl 2 rfl) ?_
    obtain ⟨q5, hq5, hT⟩ := q_obind hT
    refine r_backZ F hS (r_runV (k := 191) (N := 68) (T := T1) (As := [vI x2]) F hS (show 191 < 231 by decide) (show shK 191 = 5 from rfl) rfl (c_MO_isOpen l F.2.2.1 M1 x2 hx2 _ hq5) gs_MO_428 hd_MO_isOpen ⟨Nat.le_of_ble_eq_true rfl, Nat.le_of_ble_eq_true rfl⟩ rfl hl.1 (Nat.le_of_ble_eq_true rfl) ⟨Nat.zero_le _, Nat.zero_le _⟩ rfl d_MO_lay_15) (fun H locs hS h6 => ?_)
    refine r_if_eq (tgt := 31) F.hx F.hb (inr_z h6) d_MO_lay_18 (by decide) (fun c7 => ?_) (fun c7 => ?_)
    · replace hT := (if_pos c7).symm.trans hT
      refine r_iconst F.hx F.hb d_MO_lay_31 ?_
      cases hT
      exact r_zret F hlk hr hS (Or.inl rfl) d_MO_lay_32
    · replace hT := (if_neg c7).symm.trans hT
      refine lv_aload_n F.hx F.hb d_MO_lay_21 rfl (lv_at hl 0 rfl) ?_
      refine r_iconst F.hx F.hb d_MO_lay_22 ?_
      refine lv_iload_n F.hx F.hb d_MO_lay_23 rfl (lv_at hl 2 rfl) ?_
      obtain ⟨q8, hq8, hT⟩ := q_obind hT
      refine r_backI F hS (r_runV (k := 191) (N := 68) (T := T1) (As := [vI 0, vI x2]) F hS (show 191 < 231 by decide) (show shK 191 = 5 from rfl) rfl (c_MO_thingIn l F.2.2.1 M1 0 x2 (inr_c rfl) hx2 _ hq8) gs_MO_363 hd_MO_thingIn ⟨Nat.le_of_ble_eq_true rfl, Nat.le_of_ble_eq_true rfl⟩ rfl hl.1 (Nat.le_of_ble_eq_true rfl) ⟨Nat.zero_le _, Nat.zero_le _⟩ rfl d_MO_lay_24) (fun H locs hS h9 => ?_)
      refine r_iconst F.hx F.hb d_MO_lay_27 ?_
      refine r_icmp_eq (tgt := 33) F.hx F.hb h9 (inr_c rfl) d_MO_lay_28 (by decide) (fun c10 => ?_) (fun c10 => ?_)
      · replace hT := (if_pos c10).symm.trans hT
        refine lv_aload_n F.hx F.hb d_MO_lay_33 rfl (lv_at hl 0 rfl) ?_
        obtain ⟨q11, hq11, hT⟩ := q_obind hT
        refine r_backV F hS (r_runV (k := 191) (N := 68) (T := T1) (As := []) F hS (show 191 < 231 by decide) (show shK 191 = 5 from rfl) rfl (c_MO_keepNow l F.2.2.1 M1 _ hq11) gs_MO_443 hd_MO_keepNow ⟨Nat.le_of_ble_eq_true rfl, Nat.le_of_ble_eq_true rfl⟩ rfl hl.1 (Nat.le_of_ble_eq_true rfl) ⟨Nat.zero_le _, Nat.zero_le _⟩ rfl d_MO_lay_34) (fun H locs hS => ?_)
        refine lv_aload_n F.hx F.hb d_MO_lay_37 rfl (lv_at hl 0 rfl) ?_
        refine r_get (v := .ref (b + 213)) (N := 68) (T := T1) (j := 36) F hS (show 191 < 231 by decide) (show shK 191 = 5 from rfl) (show shN 191 = 68 from rfl) rfl (Nat.le_of_ble_eq_true rfl) ing1 mw_1425 (fv_sg rfl rfl rfl) d_MO_lay_38 ?_
        refine lv_iload_n F.hx F.hb d_MO_lay_41 rfl (lv_at hl 1 rfl) ?_
        refine lv_iload_n F.hx F.hb d_MO_lay_42 rfl (lv_at hl 2 rfl) ?_
        obtain ⟨⟨g13a, g13b⟩, hT⟩ := q_guard hT
        refine r_iast F hS (show 213 < 231 by decide) (show shK 213 = 0 from rfl) (show shN 213 = 184 from rfl) hx1 hx2 g13a g13b d_MO_lay_43 (fun H locs hS => ?_)
        obtain ⟨M14, eM14⟩ : ∃ q, q = (setI q11 213 x1 x2) := ⟨_, rfl⟩
        replace hS : St b C n M14 s H locs := by rw [eM14]; exact hS
        replace hT := qlet_eq hT eM14
        refine r_iconst F.hx F.hb d_MO_lay_44 ?_
        cases hT
        exact r_zret F hlk hr hS (Or.inr rfl) d_MO_lay_45
      · replace hT := (if_neg c10).symm.trans hT
        refine r_iconst F.hx F.hb d_MO_lay_31 ?_
        cases hT
        exact r_zret F hlk hr hS (Or.inl rfl) d_MO_lay_32
theorem d_MO_pour_0 : decode b_MO_pour 0 = .ok (.aload_n 0, 1) := dc_42 (by decide +kernel)
theorem d_MO_pour_1 : decode b_MO_pour 1 = .ok (.iconst 0, 1) := dc_3 (by decide +kernel)
theorem d_MO_pour_2 : decode b_MO_pour 2 = .ok (.putfield 145, 3) := dc_181 (by decide +kernel)
theorem d_MO_pour_5 : decode b_MO_pour 5 = .ok (.aload_n 0, 1) := dc_42 (by decide +kernel)
theorem d_MO_pour_6 : decode b_MO_pour 6 = .ok (.iload_n 1, 1) := dc_27 (by decide +kernel)
theorem d_MO_pour_7 : decode b_MO_pour 7 = .ok (.invokevirtual 428, 3) := dc_182 (by decide +kernel)
theorem d_MO_pour_10 : decode b_MO_pour 10 = .ok (.ifCond .eq 14, 3) := dc_153 (by decide +kernel)
theorem d_MO_pour_13 : decode b_MO_pour 13 = .ok (.iload_n 2, 1) := dc_28 (by decide +kernel)
theorem d_MO_pour_14 : decode b_MO_pour 14 = .ok (.iconst 1, 1) := dc_4 (by decide +kernel)
theorem d_MO_pour_15 : decode b_MO_pour 15 = .ok (.if_icmp .lt 9, 3) := dc_161 (by decide +kernel)
theorem d_MO_pour_18 : decode b_MO_pour 18 = .ok (.iload_n 2, 1) := dc_28 (by decide +kernel)
theorem d_MO_pour_19 : decode b_MO_pour 19 = .ok (.bipush 99, 2) := dc_16 (by decide +kernel)
theorem d_MO_pour_21 : decode b_MO_pour 21 = .ok (.if_icmp .le 5, 3) := dc_164 (by decide +kernel)
theorem d_MO_pour_24 : decode b_MO_pour 24 = .ok (.iconst (-1), 1) := dc_2 (by decide +kernel)
theorem d_MO_pour_25 : decode b_MO_pour 25 = .ok (.ireturn, 1) := dc_172 (by decide +kernel)
theorem d_MO_pour_26 : decode b_MO_pour 26 = .ok (.aload_n 0, 1) := dc_42 (by decide +kernel)
theorem d_MO_pour_27 : decode b_MO_pour 27 = .ok (.iconst 1, 1) := dc_4 (by decide +kernel)
theorem d_MO_pour_28 : decode b_MO_pour 28 = .ok (.iconst 0, 1) := dc_3 (by decide +kernel)
theorem d_MO_pour_29 : decode b_MO_pour 29 = .ok (.invokevirtual 437, 3) := dc_182 (by decide +kernel)
theorem d_MO_pour_32 : decode b_MO_pour 32 = .ok (.iconst 0, 1) := dc_3 (by decide +kernel)
theorem d_MO_pour_33 : decode b_MO_pour 33 = .ok (.istore_n 3, 1) := dc_62 (by decide +kernel)
theorem d_MO_pour_34 : decode b_MO_pour 34 = .ok (.iconst 0, 1) := dc_3 (by decide +kernel)
theorem d_MO_pour_35 : decode b_MO_pour 35 = .ok (.istore 4, 2) := dc_54 (by decide +kernel)
theorem d_MO_pour_37 : decode b_MO_pour 37 = .ok (.iload 4, 2) := dc_21 (by decide +kernel)
theorem d_MO_pour_39 : decode b_MO_pour 39 = .ok (.iload_n 2, 1) := dc_28 (by decide +kernel)
theorem d_MO_pour_40 : decode b_MO_pour 40 = .ok (.if_icmp .ge 26, 3) := dc_162 (by decide +kernel)
theorem d_MO_pour_43 : decode b_MO_pour 43 = .ok (.iload_n 3, 1) := dc_29 (by decide +kernel)
theorem d_MO_pour_44 : decode b_MO_pour 44 = .ok (.aload_n 0, 1) := dc_42 (by decide +kernel)
theorem d_MO_pour_45 : decode b_MO_pour 45 = .ok (.iconst 1, 1) := dc_4 (by decide +kernel)
theorem d_MO_pour_46 : decode b_MO_pour 46 = .ok (.iload_n 1, 1) := dc_27 (by decide +kernel)
theorem d_MO_pour_47 : decode b_MO_pour 47 = .ok (.invokevirtual 449, 3) := dc_182 (by decide +kernel)
theorem d_MO_pour_50 : decode b_MO_pour 50 = .ok (.ifCond .eq 7, 3) := dc_153 (by decide +kernel)
theorem d_MO_pour_53 : decode b_MO_pour 53 = .ok (.iconst 1, 1) := dc_4 (by decide +kernel)
theorem d_MO_pour_54 : decode b_MO_pour 54 = .ok (.goto 4, 3) := dc_167 (by decide +kernel)
theorem d_MO_pour_57 : decode b_MO_pour 57 = .ok (.iconst 0, 1) := dc_3 (by decide +kernel)
theorem d_MO_pour_58 : decode b_MO_pour 58 = .ok (.iadd, 1) := dc_96 (by decide +kernel)
theorem d_MO_pour_59 : decode b_MO_pour 59 = .ok (.istore_n 3, 1) := dc_62 (by decide +kernel)
theorem d_MO_pour_60 : decode b_MO_pour 60 = .ok (.iinc 4 1, 3) := dc_132 (by decide +kernel)
theorem d_MO_pour_63 : decode b_MO_pour 63 = .ok (.goto (-26), 3) := dc_167 (by decide +kernel)
theorem d_MO_pour_66 : decode b_MO_pour 66 = .ok (.iload_n 3, 1) := dc_29 (by decide +kernel)
theorem d_MO_pour_67 : decode b_MO_pour 67 = .ok (.ifCond .ne 5, 3) := dc_154 (by decide +kernel)
theorem d_MO_pour_70 : decode b_MO_pour 70 = .ok (.iconst 0, 1) := dc_3 (by decide +kernel)
theorem d_MO_pour_71 : decode b_MO_pour 71 = .ok (.ireturn, 1) := dc_172 (by decide +kernel)
theorem d_MO_pour_72 : decode b_MO_pour 72 = .ok (.aload_n 0, 1) := dc_42 (by decide +kernel)
theorem d_MO_pour_73 : decode b_MO_pour 73 = .ok (.invokevirtual 443, 3) := dc_182 (by decide +kernel)
theorem d_MO_pour_76 : decode b_MO_pour 76 = .ok (.aload_n 0, 1) := dc_42 (by decide +kernel)
theorem d_MO_pour_77 : decode b_MO_pour 77 = .ok (.getfield 73, 3) := dc_180 (by decide +kernel)
theorem d_MO_pour_80 : decode b_MO_pour 80 = .ok (.iconst 0, 1) := dc_3 (by decide +kernel)
theorem d_MO_pour_81 : decode b_MO_pour 81 = .ok (.aload_n 0, 1) := dc_42 (by decide +kernel)
theorem d_MO_pour_82 : decode b_MO_pour 82 = .ok (.getfield 73, 3) := dc_180 (by decide +kernel)
theorem d_MO_pour_85 : decode b_MO_pour 85 = .ok (.iconst 1, 1) := dc_4 (by decide +kernel)
theorem d_MO_pour_86 : decode b_MO_pour 86 = .ok (.laload, 1) := dc_47 (by decide +kernel)
theorem d_MO_pour_87 : decode b_MO_pour 87 = .ok (.lastore, 1) := dc_80 (by decide +kernel)
theorem d_MO_pour_88 : decode b_MO_pour 88 = .ok (.iload_n 3, 1) := dc_29 (by decide +kernel)
theorem d_MO_pour_89 : decode b_MO_pour 89 = .ok (.ireturn, 1) := dc_172 (by decide +kernel)
def t_MO_pour_L58 (x1 : Int) (x2 : Int) (bk37 : Mem → Int → Int → Option (Mem × Int)) (M : Mem) (v3_ : Int) (v4_ : Int) (v5_ : Int) : Option (Mem × Int) := (bk37 M (w32 (v4_ + v5_)) (w32 (v3_ + 1)))
def t_MO_pour_L37 (x1 : Int) (x2 : Int)  : Nat → Mem → Int → Int → Option (Mem × Int)
  | 0, _, _, _ => none
  | fu + 1, M, v3_, v4_ => (if x2 ≤ v4_ then (if v3_ = 0 then (some (M, 0)) else (obind (t_MO_keepNow M) fun q11 => (qlet (setL q11 211 0 (q11.2 211 1)) fun M13 => (some (M13, v3_))))) else (obind (t_MO_pours M 1 x1) fun q14 => (if (q14.2) = 0 then (t_MO_pour_L58 x1 x2 (fun a0_ a1_ a2_ => t_MO_pour_L37 x1 x2 fu a0_ a1_ a2_) (q14.1) v4_ v3_ 0) else (t_MO_pour_L58 x1 x2 (fun a0_ a1_ a2_ => t_MO_pour_L37 x1 x2 fu a0_ a1_ a2_) (q14.1) v4_ v3_ 1))))
def t_MO_pour (M : Mem) (x1 : Int) (x2 : Int) : Option (Mem × Int) := (qlet (setI M 191 0 0) fun M1 => (obind (t_MO_isOpen M1 x1) fun q2 => (if q2 = 0 then (some (M1, (-1))) else (if x2 < 1 then (some (M1, (-1))) else (if x2 ≤ 99 then (obind (t_MO_copies M1 1 0) fun q7 => (t_MO_pour_L37 x1 x2 FU q7 0 0)) else (some (M1, (-1))))))))
set_option maxHeartbeats 4000000 in
set_option maxRecDepth 100000 in
theorem k_MO_pour_L58 (l : Launch) {p : Program} {e : Env} {s : State} {m : MethodId} {below : List Frame} {meth : Method} {c : Code} {b n : Nat} {C : CT} (hlo : 231 ≤ n) (x1 : Int) (x2 : Int) (hx1 : InR x1) (hx2 : InR x2) (F : Cx b p m c b_MO_pour 5 s ([.ref (b + 191), vI x1, vI x2] : List Value).toArray "WardFallsModel" C n 231) (hlk : meth.locks = false) (hr : meth.sig.returnType = some .int) {res : Mem × Int} (bk37 : Mem → Int → Int → Option (Mem × Int)) (hbk37 : ∀ (M : Mem) (v3_ : Int) (hv3_ : InR v3_) (v4_ : Int) (hv4_ : InR v4_) (H : Heap) (locs : List Loc) (ls : Array Slot), St b C n M s H locs → lv_has ls 5 [(0, .ref (b + 191)), (1, vI x1), (2, vI x2), (3, vI v3_), (4, vI v4_)] → bk37 M v3_ v4_ = some res → W p l e (headSpec (wsM y_MO_pour b_MO_pour 5 (some .int)) (rmD 3)).room s m ([.ref (b + 191), vI x1, vI x2] : List Value).toArray below meth c H locs 0 0 (MQ below (QI b C n res.1 res.2) ([.ref (b + 191), vI x1, vI x2] : List Value).toArray s 0 0 (frb b)) (F0 m 37 ls [])) (M : Mem) (v3_ : Int) (hv3_ : InR v3_) (v4_ : Int) (hv4_ : InR v4_) (v5_ : Int) (hv5_ : v5_ = 0 ∨ v5_ = 1) (H : Heap) (locs : List Loc) (ls : Array Slot) (hS : St b C n M s H locs) (hl : lv_has ls 5 [(0, .ref (b + 191)), (1, vI x1), (2, vI x2), (4, vI v3_)]) (hT : t_MO_pour_L58 x1 x2 bk37 M v3_ v4_ v5_ = some res) : W p l e (headSpec (wsM y_MO_pour b_MO_pour 5 (some .int)) (rmD 3)).room s m ([.ref (b + 191), vI x1, vI x2] : List Value).toArray below meth c H locs 0 0 (MQ below (QI b C n res.1 res.2) ([.ref (b + 191), vI x1, vI x2] : List Value).toArray s 0 0 (frb b)) (F0 m 58 ls [vI v5_, vI v4_]) := by
  unfold t_MO_pour_L58 at hT
  refine r_iadd F.hx F.hb d_MO_pour_58 ?_
  refine lv_istore_n (lv' := [(3, vI (w32 (v4_ + v5_))), (0, .ref (b + 191)), (1, vI x1), (2, vI x2), (4, vI v3_)]) F.hx F.hb d_MO_pour_59 rfl hl (Nat.le_of_ble_eq_true rfl) rfl (fun ls hl => ?_)
  refine lv_iinc (v := Int32.ofInt (w32 (v3_ + 1))) (lv' := [(4, vI (w32 (v3_ + 1))), (3, vI (w32 (v4_ + v5_))), (0, .ref (b + 191)), (1, vI x1), (2, vI x2)]) F.hx F.hb d_MO_pour_60 hl (k := 4) rfl (q_of_add _ _) (Nat.le_of_ble_eq_true rfl) rfl (fun ls hl => ?_)
  refine lv_goto (tgt := 37) F.hx F.hb d_MO_pour_63 (by decide) ?_
  exact hbk37 M (w32 (v4_ + v5_)) (inr_w32 _) (w32 (v3_ + 1)) (inr_w32 _) _ _ _ hS (lv_sub hl [2, 3, 4, 1, 0] rfl) hT
set_option maxHeartbeats 4000000 in
set_option maxRecDepth 100000 in
theorem k_MO_pour_L37 (l : Launch) {p : Program} {e : Env} {s : State} {m : MethodId} {below : List Frame} {meth : Method} {c : Code} {b n : Nat} {C : CT} (hlo : 231 ≤ n) (x1 : Int) (x2 : Int) (hx1 : InR x1) (hx2 : InR x2) (F : Cx b p m c b_MO_pour 5 s ([.ref (b + 191), vI x1, vI x2] : List Value).toArray "WardFallsModel" C n 231) (hlk : meth.locks = false) (hr : meth.sig.returnType = some .int) {res : Mem × Int} : ∀ (fu : Nat) (M : Mem) (v3_ : Int) (hv3_ : InR v3_) (v4_ : Int) (hv4_ : InR v4_) (H : Heap) (locs : List Loc) (ls : Array Slot), St b C n M s H locs → lv_has ls 5 [(0, .ref (b + 191)), (1, vI x1), (2, vI x2), (3, vI v3_), (4, vI v4_)] → t_MO_pour_L37 x1 x2 fu M v3_ v4_ = some res → W p l e (headSpec (wsM y_MO_pour b_MO_pour 5 (some .int)) (rmD 3)).room s m ([.ref (b + 191), vI x1, vI x2] : List Value).toArray below meth c H locs 0 0 (MQ below (QI b C n res.1 res.2) ([.ref (b + 191), vI x1, vI x2] : List Value).toArray s 0 0 (frb b)) (F0 m 37 ls []) := by
  intro fu
  induction fu with
  | zero => intro M v3_ hv3_ v4_ hv4_ H locs ls hS hl hT; exact absurd hT (by simp [t_MO_pour_L37])
  | succ fu ih =>
    intro M v3_ hv3_ v4_ hv4_ H locs ls hS hl hT
    rw [t_MO_pour_L37] at hT
    refine lv_iload F.hx F.hb d_MO_pour_37 (lv_at hl 4 rfl) ?_
    refine lv_iload_n F.hx F.hb d_MO_pour_39 rfl (lv_at hl 2 rfl) ?_
    refine r_icmp_ge (tgt := 66) F.hx F.hb hv4_ hx2 d_MO_pour_40 (by decide) (fun c9 => ?_) (fun c9 => ?_)
    · replace hT := (if_pos c9).symm.trans hT
      refine lv_iload_n F.hx F.hb d_MO_pour_66 rfl (lv_at hl 3 rfl) ?_
      refine r_if_ne (tgt := 72) F.hx F.hb hv3_ d_MO_pour_67 (by decide) (fun c10 => ?_) (fun c10 => ?_)
      · replace hT := (if_neg c10).symm.trans hT
        refine lv_aload_n F.hx F.hb d_MO_pour_72 rfl (lv_at hl 0 rfl) ?_
        obtain ⟨q11, hq11, hT⟩ := q_obind hT
        refine r_backV F hS (r_runV (k := 191) (N := 68) (T := T1) (As := []) F hS (show 191 < 231 by decide) (show shK 191 = 5 from rfl) rfl (c_MO_keepNow l F.2.2.1 M _ hq11) gs_MO_443 hd_MO_keepNow ⟨Nat.le_of_ble_eq_true rfl, Nat.le_of_ble_eq_true rfl⟩ rfl hl.1 (Nat.le_of_ble_eq_true rfl) ⟨Nat.zero_le _, Nat.zero_le _⟩ rfl d_MO_pour_73) (fun H locs hS => ?_)
        refine lv_aload_n F.hx F.hb d_MO_pour_76 rfl (lv_at hl 0 rfl) ?_
        refine r_get (v := .ref (b + 211)) (N := 68) (T := T1) (j := 34) F hS (show 191 < 231 by decide) (show shK 191 = 5 from rfl) (show shN 191 = 68 from rfl) rfl (Nat.le_of_ble_eq_true rfl) ing1 mw_1423 (fv_sg rfl rfl rfl) d_MO_pour_77 ?_
        refine r_iconst F.hx F.hb d_MO_pour_80 ?_
        refine lv_aload_n F.hx F.hb d_MO_pour_81 rfl (lv_at hl 0 rfl) ?_
        refine r_get (v := .ref (b + 211)) (N := 68) (T := T1) (j := 34) F hS (show 191 < 231 by decide) (show shK 191 = 5 from rfl) (show shN 191 = 68 from rfl) rfl (Nat.le_of_ble_eq_true rfl) ing1 mw_1423 (fv_sg rfl rfl rfl) d_MO_pour_82 ?_
        refine r_iconst F.hx F.hb d_MO_pour_85 ?_
        refine r_lald F hS (show 211 < 231 by decide) (show shK 211 = 2 from rfl) (show shN 211 = 23 from rfl) (inr_c rfl) (by omega) (by omega) d_MO_pour_86 ?_
        refine r_last F hS (show 211 < 231 by decide) (show shK 211 = 2 from rfl) (show shN 211 = 23 from rfl) (inr_c rfl) (by omega) (by omega) d_MO_pour_87 (fun H locs hS => ?_)
        obtain ⟨M13, eM13⟩ : ∃ q, q = (setL q11 211 0 (q11.2 211 1)) := ⟨_, rfl⟩
        replace hS : St b C n M13 s H locs := by rw [eM13]; exact hS
        replace hT := qlet_eq hT eM13
        refine lv_iload_n F.hx F.hb d_MO_pour_88 rfl (lv_at hl 3 rfl) ?_
        cases hT
        exact r_iret F hlk hr rfl hS hv3_ d_MO_pour_89
      · replace hT := (if_pos c10).symm.trans hT
        refine r_iconst F.hx F.hb d_MO_pour_70 ?_
        cases hT
        exact r_iret F hlk hr rfl hS (inr_c rfl) d_MO_pour_71
    · replace hT := (if_neg c9).symm.trans hT
      refine lv_iload_n F.hx F.hb d_MO_pour_43 rfl (lv_at hl 3 rfl) ?_
      refine lv_aload_n F.hx F.hb d_MO_pour_44 rfl (lv_at hl 0 rfl) ?_
      refine r_iconst F.hx F.hb d_MO_pour_45 ?_
      refine lv_iload_n F.hx F.hb d_MO_pour_46 rfl (lv_at hl 1 rfl) ?_
      obtain ⟨q14, hq14, hT⟩ := q_obind hT
      refine r_backZ F hS (r_runV (k := 191) (N := 68) (T := T1) (As := [vI 1, vI x1]) F hS (show 191 < 231 by decide) (show shK 191 = 5 from rfl) rfl (c_MO_pours l F.2.2.1 M 1 x1 (inr_c rfl) hx1 _ hq14) gs_MO_449 hd_MO_pours ⟨Nat.le_of_ble_eq_true rfl, Nat.le_of_ble_eq_true rfl⟩ rfl hl.1 (Nat.le_of_ble_eq_true rfl) ⟨Nat.zero_le _, Nat.zero_le _⟩ rfl d_MO_pour_47) (fun H locs hS h15 => ?_)
      refine r_if_eq (tgt := 57) F.hx F.hb (inr_z h15) d_MO_pour_50 (by decide) (fun c16 => ?_) (fun c16 => ?_)
      · replace hT := (if_pos c16).symm.trans hT
        refine r_iconst F.hx F.hb d_MO_pour_57 ?_
        exact k_MO_pour_L58 l hlo x1 x2 hx1 hx2 F hlk hr (fun a0_ a1_ a2_ => t_MO_pour_L37 x1 x2 fu a0_ a1_ a2_) ih (q14.1) v4_ hv4_ v3_ hv3_ 0 (Or.inl rfl) _ _ _ hS (lv_sub hl [0, 1, 2, 4] rfl) hT
      · replace hT := (if_neg c16).symm.trans hT
        refine r_iconst F.hx F.hb d_MO_pour_53 ?_
        refine lv_goto (tgt := 58) F.hx F.hb d_MO_pour_54 (by decide) ?_
        exact k_MO_pour_L58 l hlo x1 x2 hx1 hx2 F hlk hr (fun a0_ a1_ a2_ => t_MO_pour_L37 x1 x2 fu a0_ a1_ a2_) ih (q14.1) v4_ hv4_ v3_ hv3_ 1 (Or.inr rfl) _ _ _ hS (lv_sub hl [0, 1, 2, 4] rfl) hT
set_option maxHeartbeats 4000000 in
set_option maxRecDepth 100000 in
theorem c_MO_pour (l : Launch) {b n : Nat} {C : CT} (hlo : 231 ≤ n) (M : Mem) (x1 : Int) (x2 : Int) (hx1 : InR x1) (hx2 : InR x2) (res : Mem × Int) (hT : t_MO_pour M x1 x2 = some res) : CM l b C n 3 y_MO_pour b_MO_pour 5 (some .int) [.ref (b + 191), vI x1, vI x2] M (QI b C n res.1 res.2) := by
  refine CM.of (lo := 231) (ow := "WardFallsModel") (by decide) rfl (Nat.le_of_ble_eq_true rfl) hlo (fun p e s m below meth c F hlk hr hS ls hl => ?_)
  have hl : lv_has ls 5 [(0, .ref (b + 191)), (1, vI x1), (2, vI x2)] := hl
  unfold t_MO_pour at hT
  refine lv_aload_n F.hx F.hb d_MO_pour_0 rfl (lv_at hl 0 rfl) ?_
  refine r_iconst F.hx F.hb d_MO_pour_1 ?_
  refine r_putI (N := 68) (T := T1) (j := 0) F hS (show 191 < 231 by decide) (show shK 191 = 5 from rfl) (show shN 191 = 68 from rfl) rfl (Nat.le_of_ble_eq_true rfl) ing1 tyok1 nm1 rfl rfl rfl rfl rfl rfl mw_1389 (inr_c rfl) d_MO_pour_2 (fun H locs hS => ?_)
  obtain ⟨M1, eM1⟩ : ∃ q, q = (setI M 191 0 0) := ⟨_, rfl⟩
  replace hS : St b C n M1 s H locs := by rw [eM1]; exact hS
  replace hT := qlet_eq hT eM1
  refine lv_aload_n F.hx F.hb d_MO_pour_5 rfl (lv_at hl 0 rfl) ?_
  refine lv_iload_n F.hx F.hb d_MO_pour_6 rfl (lv_at hl 1 rfl) ?_
  obtain ⟨q2, hq2, hT⟩ := q_obind hT
  refine r_backZ F hS (r_runV (k := 191) (N := 68) (T := T1) (As := [vI x1]) F hS (show 191 < 231 by decide) (show shK 191 = 5 from rfl) rfl (c_MO_isOpen l F.2.2.1 M1 x1 hx1 _ hq2) gs_MO_428 hd_MO_isOpen ⟨Nat.le_of_ble_eq_true rfl, Nat.le_of_ble_eq_true rfl⟩ rfl hl.1 (Nat.le_of_ble_eq_true rfl) ⟨Nat.zero_le _, Nat.zero_le _⟩ rfl d_MO_pour_7) (fun H locs hS h3 => ?_)
  refine r_if_eq (tgt := 24) F.hx F.hb (inr_z h3) d_MO_pour_10 (by decide) (fun c4 => ?_) (fun c4 => ?_)
  · replace hT := (if_pos c4).symm.trans hT
    refine r_iconst F.hx F.hb d_MO_pour_24 ?_
    cases hT
    exact r_iret F hlk hr rfl hS (inr_c rfl) d_MO_pour_25
  · replace hT := (if_neg c4).symm.trans hT
    refine lv_iload_n F.hx F.hb d_MO_pour_13 rfl (lv_at hl 2 rfl) ?_
    refine r_iconst F.hx F.hb d_MO_pour_14 ?_
    refine r_icmp_lt (tgt := 24) F.hx F.hb hx2 (inr_c rfl) d_MO_pour_15 (by decide) (fun c5 => ?_) (fun c5 => ?_)
    · replace hT := (if_pos c5).symm.trans hT
      refine r_iconst F.hx F.hb d_MO_pour_24 ?_
      cases hT
      exact r_iret F hlk hr rfl hS (inr_c rfl) d_MO_pour_25
    · replace hT := (if_neg c5).symm.trans hT
      refine lv_iload_n F.hx F.hb d_MO_pour_18 rfl (lv_at hl 2 rfl) ?_
      refine r_bipush F.hx F.hb d_MO_pour_19 rfl ?_
      refine r_icmp_le (tgt := 26) F.hx F.hb hx2 (inr_c rfl) d_MO_pour_21 (by decide) (fun c6 => ?_) (fun c6 => ?_)
      · replace hT := (if_pos c6).symm.trans hT
        refine lv_aload_n F.hx F.hb d_MO_pour_26 rfl (lv_at hl 0 rfl) ?_
        refine r_iconst F.hx F.hb d_MO_pour_27 ?_
        refine r_iconst F.hx F.hb d_MO_pour_28 ?_
        obtain ⟨q7, hq7, hT⟩ := q_obind hT
        refine r_backV F hS (r_runV (k := 191) (N := 68) (T := T1) (As := [vI 1, vI 0]) F hS (show 191 < 231 by decide) (show shK 191 = 5 from rfl) rfl (c_MO_copies l F.2.2.1 M1 1 0 (inr_c rfl) (inr_c rfl) _ hq7) gs_MO_437 hd_MO_copies ⟨Nat.le_of_ble_eq_true rfl, Nat.le_of_ble_eq_true rfl⟩ rfl hl.1 (Nat.le_of_ble_eq_true rfl) ⟨Nat.zero_le _, Nat.zero_le _⟩ rfl d_MO_pour_29) (fun H locs hS => ?_)
        refine r_iconst F.hx F.hb d_MO_pour_32 ?_
        refine lv_istore_n (lv' := [(3, vI 0), (0, .ref (b + 191)), (1, vI x1), (2, vI x2)]) F.hx F.hb d_MO_pour_33 rfl hl (Nat.le_of_ble_eq_true rfl) rfl (fun ls hl => ?_)
        refine r_iconst F.hx F.hb d_MO_pour_34 ?_
        refine lv_istore (lv' := [(4, vI 0), (3, vI 0), (0, .ref (b + 191)), (1, vI x1), (2, vI x2)]) F.hx F.hb d_MO_pour_35 hl (Nat.le_of_ble_eq_true rfl) rfl (fun ls hl => ?_)
        exact k_MO_pour_L37 l hlo x1 x2 hx1 hx2 F hlk hr FU q7 0 (inr_c rfl) 0 (inr_c rfl) _ _ _ hS (lv_sub hl [2, 3, 4, 1, 0] rfl) hT
      · replace hT := (if_neg c6).symm.trans hT
        refine r_iconst F.hx F.hb d_MO_pour_24 ?_
        cases hT
        exact r_iret F hlk hr rfl hS (inr_c rfl) d_MO_pour_25
theorem d_MO_bitsOf_0 : decode b_MO_bitsOf 0 = .ok (.iconst 0, 1) := dc_3 (by decide +kernel)
theorem d_MO_bitsOf_1 : decode b_MO_bitsOf 1 = .ok (.istore_n 2, 1) := dc_61 (by decide +kernel)
theorem d_MO_bitsOf_2 : decode b_MO_bitsOf 2 = .ok (.iconst 0, 1) := dc_3 (by decide +kernel)
theorem d_MO_bitsOf_3 : decode b_MO_bitsOf 3 = .ok (.istore_n 3, 1) := dc_62 (by decide +kernel)
theorem d_MO_bitsOf_4 : decode b_MO_bitsOf 4 = .ok (.iload_n 3, 1) := dc_29 (by decide +kernel)
theorem d_MO_bitsOf_5 : decode b_MO_bitsOf 5 = .ok (.bipush 48, 2) := dc_16 (by decide +kernel)
theorem d_MO_bitsOf_7 : decode b_MO_bitsOf 7 = .ok (.if_icmp .ge 18, 3) := dc_162 (by decide +kernel)
theorem d_MO_bitsOf_10 : decode b_MO_bitsOf 10 = .ok (.iload_n 2, 1) := dc_28 (by decide +kernel)
theorem d_MO_bitsOf_11 : decode b_MO_bitsOf 11 = .ok (.lload_n 0, 1) := dc_30 (by decide +kernel)
theorem d_MO_bitsOf_12 : decode b_MO_bitsOf 12 = .ok (.iload_n 3, 1) := dc_29 (by decide +kernel)
theorem d_MO_bitsOf_13 : decode b_MO_bitsOf 13 = .ok (.lshr, 1) := dc_123 (by decide +kernel)
theorem d_MO_bitsOf_14 : decode b_MO_bitsOf 14 = .ok (.lconst 1, 1) := dc_10 (by decide +kernel)
theorem d_MO_bitsOf_15 : decode b_MO_bitsOf 15 = .ok (.land, 1) := dc_127 (by decide +kernel)
theorem d_MO_bitsOf_16 : decode b_MO_bitsOf 16 = .ok (.l2i, 1) := dc_136 (by decide +kernel)
theorem d_MO_bitsOf_17 : decode b_MO_bitsOf 17 = .ok (.iadd, 1) := dc_96 (by decide +kernel)
theorem d_MO_bitsOf_18 : decode b_MO_bitsOf 18 = .ok (.istore_n 2, 1) := dc_61 (by decide +kernel)
theorem d_MO_bitsOf_19 : decode b_MO_bitsOf 19 = .ok (.iinc 3 1, 3) := dc_132 (by decide +kernel)
theorem d_MO_bitsOf_22 : decode b_MO_bitsOf 22 = .ok (.goto (-18), 3) := dc_167 (by decide +kernel)
theorem d_MO_bitsOf_25 : decode b_MO_bitsOf 25 = .ok (.iload_n 2, 1) := dc_28 (by decide +kernel)
theorem d_MO_bitsOf_26 : decode b_MO_bitsOf 26 = .ok (.ireturn, 1) := dc_172 (by decide +kernel)
def t_MO_bitsOf_L4 (x1 : Int64)  : Nat → Mem → Int → Int → Option (Int)
  | 0, _, _, _ => none
  | fu + 1, M, v1_, v2_ => (if 48 ≤ v2_ then (some v1_) else (t_MO_bitsOf_L4 x1 fu M (w32 (v1_ + (q_l2i ((q_lshr x1 v2_) &&& 1)))) (w32 (v2_ + 1))))
def t_MO_bitsOf (M : Mem) (x1 : Int64) : Option (Int) := (t_MO_bitsOf_L4 x1 FU M 0 0)
set_option maxHeartbeats 4000000 in
set_option maxRecDepth 100000 in
theorem k_MO_bitsOf_L4 (l : Launch) {p : Program} {e : Env} {s : State} {m : MethodId} {below : List Frame} {meth : Method} {c : Code} {b n : Nat} {C : CT} (hlo : 231 ≤ n) (x1 : Int64)  (F : Cx b p m c b_MO_bitsOf 4 s ([.long x1] : List Value).toArray "WardFallsModel" C n 231) (hlk : meth.locks = false) (hr : meth.sig.returnType = some .int) {res : Int} : ∀ (fu : Nat) (M : Mem) (v1_ : Int) (hv1_ : InR v1_) (v2_ : Int) (hv2_ : InR v2_) (H : Heap) (locs : List Loc) (ls : Array Slot), St b C n M s H locs → lv_has ls 4 [(0, .long x1), (2, vI v1_), (3, vI v2_)] → t_MO_bitsOf_L4 x1 fu M v1_ v2_ = some res → W p l e (headSpec (wsM y_MO_bitsOf b_MO_bitsOf 4 (some .int)) (rmD 0)).room s m ([.long x1] : List Value).toArray below meth c H locs 0 0 (MQ below (QI b C n M res) ([.long x1] : List Value).toArray s 0 0 (frb b)) (F0 m 4 ls []) := by
  intro fu
  induction fu with
  | zero => intro M v1_ hv1_ v2_ hv2_ H locs ls hS hl hT; exact absurd hT (by simp [t_MO_bitsOf_L4])
  | succ fu ih =>
    intro M v1_ hv1_ v2_ hv2_ H locs ls hS hl hT
    rw [t_MO_bitsOf_L4] at hT
    refine lv_iload_n F.hx F.hb d_MO_bitsOf_4 rfl (lv_at hl 2 rfl) ?_
    refine r_bipush F.hx F.hb d_MO_bitsOf_5 rfl ?_
    refine r_icmp_ge (tgt := 25) F.hx F.hb hv2_ (inr_c rfl) d_MO_bitsOf_7 (by decide) (fun c1 => ?_) (fun c1 => ?_)
    · replace hT := (if_pos c1).symm.trans hT
      refine lv_iload_n F.hx F.hb d_MO_bitsOf_25 rfl (lv_at hl 1 rfl) ?_
      cases hT
      exact r_iret F hlk hr rfl hS hv1_ d_MO_bitsOf_26
    · replace hT := (if_neg c1).symm.trans hT
      refine lv_iload_n F.hx F.hb d_MO_bitsOf_10 rfl (lv_at hl 1 rfl) ?_
      refine lv_lload_n F.hx F.hb d_MO_bitsOf_11 rfl (lv_at hl 0 rfl) ?_
      refine lv_iload_n F.hx F.hb d_MO_bitsOf_12 rfl (lv_at hl 2 rfl) ?_
      refine r_lshr F.hx F.hb d_MO_bitsOf_13 ?_
      refine lv_lconst (v := 1) F.hx F.hb d_MO_bitsOf_14 rfl ?_
      refine lv_land F.hx F.hb d_MO_bitsOf_15 ?_
      refine r_l2i F.hx F.hb d_MO_bitsOf_16 ?_
      refine r_iadd F.hx F.hb d_MO_bitsOf_17 ?_
      refine lv_istore_n (lv' := [(2, vI (w32 (v1_ + (q_l2i ((q_lshr x1 v2_) &&& 1))))), (0, .long x1), (3, vI v2_)]) F.hx F.hb d_MO_bitsOf_18 rfl hl (Nat.le_of_ble_eq_true rfl) rfl (fun ls hl => ?_)
      refine lv_iinc (v := Int32.ofInt (w32 (v2_ + 1))) (lv' := [(3, vI (w32 (v2_ + 1))), (2, vI (w32 (v1_ + (q_l2i ((q_lshr x1 v2_) &&& 1))))), (0, .long x1)]) F.hx F.hb d_MO_bitsOf_19 hl (k := 2) rfl (q_of_add _ _) (Nat.le_of_ble_eq_true rfl) rfl (fun ls hl => ?_)
      refine lv_goto (tgt := 4) F.hx F.hb d_MO_bitsOf_22 (by decide) ?_
      exact ih M (w32 (v1_ + (q_l2i ((q_lshr x1 v2_) &&& 1)))) (inr_w32 _) (w32 (v2_ + 1)) (inr_w32 _) _ _ _ hS (lv_sub hl [2, 1, 0] rfl) hT
set_option maxHeartbeats 4000000 in
set_option maxRecDepth 100000 in
theorem c_MO_bitsOf (l : Launch) {b n : Nat} {C : CT} (hlo : 231 ≤ n) (M : Mem) (x1 : Int64)  (res : Int) (hT : t_MO_bitsOf M x1 = some res) : CM l b C n 0 y_MO_bitsOf b_MO_bitsOf 4 (some .int) [.long x1] M (QI b C n M res) := by
  refine CM.of (lo := 231) (ow := "WardFallsModel") (by decide) rfl (Nat.le_of_ble_eq_true rfl) hlo (fun p e s m below meth c F hlk hr hS ls hl => ?_)
  have hl : lv_has ls 4 [(0, .long x1)] := hl
  unfold t_MO_bitsOf at hT
  refine r_iconst F.hx F.hb d_MO_bitsOf_0 ?_
  refine lv_istore_n (lv' := [(2, vI 0), (0, .long x1)]) F.hx F.hb d_MO_bitsOf_1 rfl hl (Nat.le_of_ble_eq_true rfl) rfl (fun ls hl => ?_)
  refine r_iconst F.hx F.hb d_MO_bitsOf_2 ?_
  refine lv_istore_n (lv' := [(3, vI 0), (2, vI 0), (0, .long x1)]) F.hx F.hb d_MO_bitsOf_3 rfl hl (Nat.le_of_ble_eq_true rfl) rfl (fun ls hl => ?_)
  exact k_MO_bitsOf_L4 l hlo x1 F hlk hr FU M 0 (inr_c rfl) 0 (inr_c rfl) _ _ _ hS (lv_sub hl [2, 1, 0] rfl) hT
theorem d_MO_drain_0 : decode b_MO_drain 0 = .ok (.aload_n 0, 1) := dc_42 (by decide +kernel)
theorem d_MO_drain_1 : decode b_MO_drain 1 = .ok (.iconst 0, 1) := dc_3 (by decide +kernel)
theorem d_MO_drain_2 : decode b_MO_drain 2 = .ok (.putfield 145, 3) := dc_181 (by decide +kernel)
theorem d_MO_drain_5 : decode b_MO_drain 5 = .ok (.aload_n 0, 1) := dc_42 (by decide +kernel)
theorem d_MO_drain_6 : decode b_MO_drain 6 = .ok (.getfield 73, 3) := dc_180 (by decide +kernel)
theorem d_MO_drain_9 : decode b_MO_drain 9 = .ok (.iconst 0, 1) := dc_3 (by decide +kernel)
theorem d_MO_drain_10 : decode b_MO_drain 10 = .ok (.laload, 1) := dc_47 (by decide +kernel)
theorem d_MO_drain_11 : decode b_MO_drain 11 = .ok (.lconst 0, 1) := dc_9 (by decide +kernel)
theorem d_MO_drain_12 : decode b_MO_drain 12 = .ok (.lcmp, 1) := dc_148 (by decide +kernel)
theorem d_MO_drain_13 : decode b_MO_drain 13 = .ok (.ifCond .ne 5, 3) := dc_154 (by decide +kernel)
theorem d_MO_drain_16 : decode b_MO_drain 16 = .ok (.iconst 0, 1) := dc_3 (by decide +kernel)
theorem d_MO_drain_17 : decode b_MO_drain 17 = .ok (.ireturn, 1) := dc_172 (by decide +kernel)
theorem d_MO_drain_18 : decode b_MO_drain 18 = .ok (.aload_n 0, 1) := dc_42 (by decide +kernel)
theorem d_MO_drain_19 : decode b_MO_drain 19 = .ok (.invokevirtual 443, 3) := dc_182 (by decide +kernel)
theorem d_MO_drain_22 : decode b_MO_drain 22 = .ok (.aload_n 0, 1) := dc_42 (by decide +kernel)
theorem d_MO_drain_23 : decode b_MO_drain 23 = .ok (.getfield 73, 3) := dc_180 (by decide +kernel)
theorem d_MO_drain_26 : decode b_MO_drain 26 = .ok (.iconst 0, 1) := dc_3 (by decide +kernel)
theorem d_MO_drain_27 : decode b_MO_drain 27 = .ok (.laload, 1) := dc_47 (by decide +kernel)
theorem d_MO_drain_28 : decode b_MO_drain 28 = .ok (.invokestatic 452, 3) := dc_184 (by decide +kernel)
theorem d_MO_drain_31 : decode b_MO_drain 31 = .ok (.istore_n 1, 1) := dc_60 (by decide +kernel)
theorem d_MO_drain_32 : decode b_MO_drain 32 = .ok (.aload_n 0, 1) := dc_42 (by decide +kernel)
theorem d_MO_drain_33 : decode b_MO_drain 33 = .ok (.getfield 73, 3) := dc_180 (by decide +kernel)
theorem d_MO_drain_36 : decode b_MO_drain 36 = .ok (.iconst 0, 1) := dc_3 (by decide +kernel)
theorem d_MO_drain_37 : decode b_MO_drain 37 = .ok (.lconst 0, 1) := dc_9 (by decide +kernel)
theorem d_MO_drain_38 : decode b_MO_drain 38 = .ok (.lastore, 1) := dc_80 (by decide +kernel)
theorem d_MO_drain_39 : decode b_MO_drain 39 = .ok (.iload_n 1, 1) := dc_27 (by decide +kernel)
theorem d_MO_drain_40 : decode b_MO_drain 40 = .ok (.ireturn, 1) := dc_172 (by decide +kernel)
def t_MO_drain (M : Mem)  : Option (Mem × Int) := (qlet (setI M 191 0 0) fun M1 => (if (M1.2 211 0) = 0 then (some (M1, 0)) else (obind (t_MO_keepNow M1) fun q3 => (obind (t_MO_bitsOf q3 (q3.2 211 0)) fun q5 => (qlet (setL q3 211 0 0) fun M7 => (some (M7, q5)))))))
set_option maxHeartbeats 4000000 in
set_option maxRecDepth 100000 in
theorem c_MO_drain (l : Launch) {b n : Nat} {C : CT} (hlo : 231 ≤ n) (M : Mem)   (res : Mem × Int) (hT : t_MO_drain M  = some res) : CM l b C n 2 y_MO_drain b_MO_drain 2 (some .int) [.ref (b + 191)] M (QI b C n res.1 res.2) := by
  refine CM.of (lo := 231) (ow := "WardFallsModel") (by decide) rfl (Nat.le_of_ble_eq_true rfl) hlo (fun p e s m below meth c F hlk hr hS ls hl => ?_)
  have hl : lv_has ls 2 [(0, .ref (b + 191))] := hl
  unfold t_MO_drain at hT
  refine lv_aload_n F.hx F.hb d_MO_drain_0 rfl (lv_at hl 0 rfl) ?_
  refine r_iconst F.hx F.hb d_MO_drain_1 ?_
  refine r_putI (N := 68) (T := T1) (j := 0) F hS (show 191 < 231 by decide) (show shK 191 = 5 from rfl) (show shN 191 = 68 from rfl) rfl (Nat.le_of_ble_eq_true rfl) ing1 tyok1 nm1 rfl rfl rfl rfl rfl rfl mw_1389 (inr_c rfl) d_MO_drain_2 (fun H locs hS => ?_)
  obtain ⟨M1, eM1⟩ : ∃ q, q = (setI M 191 0 0) := ⟨_, rfl⟩
  replace hS : St b C n M1 s H locs := by rw [eM1]; exact hS
  replace hT := qlet_eq hT eM1
  refine lv_aload_n F.hx F.hb d_MO_drain_5 rfl (lv_at hl 0 rfl) ?_
  refine r_get (v := .ref (b + 211)) (N := 68) (T := T1) (j := 34) F hS (show 191 < 231 by decide) (show shK 191 = 5 from rfl) (show shN 191 = 68 from rfl) rfl (Nat.le_of_ble_eq_true rfl) ing1 mw_1423 (fv_sg rfl rfl rfl) d_MO_drain_6 ?_
  refine r_iconst F.hx F.hb d_MO_drain_9 ?_
  refine r_lald F hS (show 211 < 231 by decide) (show shK 211 = 2 from rfl) (show shN 211 = 23 from rfl) (inr_c rfl) (by omega) (by omega) d_MO_drain_10 ?_
  refine lv_lconst (v := 0) F.hx F.hb d_MO_drain_11 rfl ?_
  refine W.lcmp F.hx F.hb d_MO_drain_12 ?_
  refine r_lif_ne (tgt := 18) F.hx F.hb  d_MO_drain_13 (by decide) (fun c2 => ?_) (fun c2 => ?_)
  · replace hT := (if_neg c2).symm.trans hT
    refine lv_aload_n F.hx F.hb d_MO_drain_18 rfl (lv_at hl 0 rfl) ?_
    obtain ⟨q3, hq3, hT⟩ := q_obind hT
    refine r_backV F hS (r_runV (k := 191) (N := 68) (T := T1) (As := []) F hS (show 191 < 231 by decide) (show shK 191 = 5 from rfl) rfl (c_MO_keepNow l F.2.2.1 M1 _ hq3) gs_MO_443 hd_MO_keepNow ⟨Nat.le_of_ble_eq_true rfl, Nat.le_of_ble_eq_true rfl⟩ rfl hl.1 (Nat.le_of_ble_eq_true rfl) ⟨Nat.zero_le _, Nat.zero_le _⟩ rfl d_MO_drain_19) (fun H locs hS => ?_)
    refine lv_aload_n F.hx F.hb d_MO_drain_22 rfl (lv_at hl 0 rfl) ?_
    refine r_get (v := .ref (b + 211)) (N := 68) (T := T1) (j := 34) F hS (show 191 < 231 by decide) (show shK 191 = 5 from rfl) (show shN 191 = 68 from rfl) rfl (Nat.le_of_ble_eq_true rfl) ing1 mw_1423 (fv_sg rfl rfl rfl) d_MO_drain_23 ?_
    refine r_iconst F.hx F.hb d_MO_drain_26 ?_
    refine r_lald F hS (show 211 < 231 by decide) (show shK 211 = 2 from rfl) (show shN 211 = 23 from rfl) (inr_c rfl) (by omega) (by omega) d_MO_drain_27 ?_
    obtain ⟨q5, hq5, hT⟩ := q_obind hT
    refine r_backI F hS (r_runS (As := [.long (q3.2 211 0)]) F hS (c_MO_bitsOf l F.2.2.1 q3 (q3.2 211 0) _ hq5) gs_MO_452 hd_MO_bitsOf ⟨Nat.le_of_ble_eq_true rfl, Nat.le_of_ble_eq_true rfl⟩ rfl hl.1 (Nat.le_of_ble_eq_true rfl) ⟨Nat.zero_le _, Nat.zero_le _⟩ rfl d_MO_drain_28) (fun H locs hS h6 => ?_)
    refine lv_istore_n (lv' := [(1, vI q5), (0, .ref (b + 191))]) F.hx F.hb d_MO_drain_31 rfl hl (Nat.le_of_ble_eq_true rfl) rfl (fun ls hl => ?_)
    refine lv_aload_n F.hx F.hb d_MO_drain_32 rfl (lv_at hl 1 rfl) ?_
    refine r_get (v := .ref (b + 211)) (N := 68) (T := T1) (j := 34) F hS (show 191 < 231 by decide) (show shK 191 = 5 from rfl) (show shN 191 = 68 from rfl) rfl (Nat.le_of_ble_eq_true rfl) ing1 mw_1423 (fv_sg rfl rfl rfl) d_MO_drain_33 ?_
    refine r_iconst F.hx F.hb d_MO_drain_36 ?_
    refine lv_lconst (v := 0) F.hx F.hb d_MO_drain_37 rfl ?_
    refine r_last F hS (show 211 < 231 by decide) (show shK 211 = 2 from rfl) (show shN 211 = 23 from rfl) (inr_c rfl) (by omega) (by omega) d_MO_drain_38 (fun H locs hS => ?_)
    obtain ⟨M7, eM7⟩ : ∃ q, q = (setL q3 211 0 0) := ⟨_, rfl⟩
    replace hS : St b C n M7 s H locs := by rw [eM7]; exact hS
    replace hT := qlet_eq hT eM7
    refine lv_iload_n F.hx F.hb d_MO_drain_39 rfl (lv_at hl 0 rfl) ?_
    cases hT
    exact r_iret F hlk hr rfl hS h6 d_MO_drain_40
  · replace hT := (if_pos c2).symm.trans hT
    refine r_iconst F.hx F.hb d_MO_drain_16 ?_
    cases hT
    exact r_iret F hlk hr rfl hS (inr_c rfl) d_MO_drain_17
theorem d_MO_flood_0 : decode b_MO_flood 0 = .ok (.aload_n 0, 1) := dc_42 (by decide +kernel)
theorem d_MO_flood_1 : decode b_MO_flood 1 = .ok (.iconst 0, 1) := dc_3 (by decide +kernel)
theorem d_MO_flood_2 : decode b_MO_flood 2 = .ok (.putfield 145, 3) := dc_181 (by decide +kernel)
theorem d_MO_flood_5 : decode b_MO_flood 5 = .ok (.aload_n 0, 1) := dc_42 (by decide +kernel)
theorem d_MO_flood_6 : decode b_MO_flood 6 = .ok (.iload_n 1, 1) := dc_27 (by decide +kernel)
theorem d_MO_flood_7 : decode b_MO_flood 7 = .ok (.invokevirtual 369, 3) := dc_182 (by decide +kernel)
theorem d_MO_flood_10 : decode b_MO_flood 10 = .ok (.ifCond .eq 10, 3) := dc_153 (by decide +kernel)
theorem d_MO_flood_13 : decode b_MO_flood 13 = .ok (.iload_n 2, 1) := dc_28 (by decide +kernel)
theorem d_MO_flood_14 : decode b_MO_flood 14 = .ok (.invokestatic 440, 3) := dc_184 (by decide +kernel)
theorem d_MO_flood_17 : decode b_MO_flood 17 = .ok (.ifCond .ne 7, 3) := dc_154 (by decide +kernel)
theorem d_MO_flood_20 : decode b_MO_flood 20 = .ok (.ldc2_w 456, 3) := dc_20 (by decide +kernel)
theorem d_MO_flood_23 : decode b_MO_flood 23 = .ok (.lreturn, 1) := dc_173 (by decide +kernel)
theorem d_MO_flood_24 : decode b_MO_flood 24 = .ok (.aload_n 0, 1) := dc_42 (by decide +kernel)
theorem d_MO_flood_25 : decode b_MO_flood 25 = .ok (.iconst 1, 1) := dc_4 (by decide +kernel)
theorem d_MO_flood_26 : decode b_MO_flood 26 = .ok (.iconst 0, 1) := dc_3 (by decide +kernel)
theorem d_MO_flood_27 : decode b_MO_flood 27 = .ok (.invokevirtual 437, 3) := dc_182 (by decide +kernel)
theorem d_MO_flood_30 : decode b_MO_flood 30 = .ok (.aload_n 0, 1) := dc_42 (by decide +kernel)
theorem d_MO_flood_31 : decode b_MO_flood 31 = .ok (.getfield 76, 3) := dc_180 (by decide +kernel)
theorem d_MO_flood_34 : decode b_MO_flood 34 = .ok (.iconst 4, 1) := dc_7 (by decide +kernel)
theorem d_MO_flood_35 : decode b_MO_flood 35 = .ok (.iload_n 1, 1) := dc_27 (by decide +kernel)
theorem d_MO_flood_36 : decode b_MO_flood 36 = .ok (.iadd, 1) := dc_96 (by decide +kernel)
theorem d_MO_flood_37 : decode b_MO_flood 37 = .ok (.iload_n 2, 1) := dc_28 (by decide +kernel)
theorem d_MO_flood_38 : decode b_MO_flood 38 = .ok (.iastore, 1) := dc_79 (by decide +kernel)
theorem d_MO_flood_39 : decode b_MO_flood 39 = .ok (.aload_n 0, 1) := dc_42 (by decide +kernel)
theorem d_MO_flood_40 : decode b_MO_flood 40 = .ok (.iconst 1, 1) := dc_4 (by decide +kernel)
theorem d_MO_flood_41 : decode b_MO_flood 41 = .ok (.invokevirtual 446, 3) := dc_182 (by decide +kernel)
theorem d_MO_flood_44 : decode b_MO_flood 44 = .ok (.aload_n 0, 1) := dc_42 (by decide +kernel)
theorem d_MO_flood_45 : decode b_MO_flood 45 = .ok (.getfield 73, 3) := dc_180 (by decide +kernel)
theorem d_MO_flood_48 : decode b_MO_flood 48 = .ok (.iconst 1, 1) := dc_4 (by decide +kernel)
theorem d_MO_flood_49 : decode b_MO_flood 49 = .ok (.laload, 1) := dc_47 (by decide +kernel)
theorem d_MO_flood_50 : decode b_MO_flood 50 = .ok (.lreturn, 1) := dc_173 (by decide +kernel)
def t_MO_flood (M : Mem) (x1 : Int) (x2 : Int) : Option (Mem × Int64) := (qlet (setI M 191 0 0) fun M1 => (qlet (t_MO_isWard M1 x1) fun q2 => (if q2 = 0 then (some (M1, (-1))) else (qlet (t_MO_isDown M1 x2) fun q5 => (if q5 = 0 then (some (M1, (-1))) else (obind (t_MO_copies M1 1 0) fun q8 => (qguard (0 ≤ (w32 (4 + x1)) ∧ (w32 (4 + x1)) < 92) (qlet (setI q8 212 (w32 (4 + x1)) x2) fun M11 => (obind (t_MO_floods M11 1) fun q12 => (some (q12, (q12.2 211 1))))))))))))
set_option maxHeartbeats 4000000 in
set_option maxRecDepth 100000 in
theorem c_MO_flood (l : Launch) {b n : Nat} {C : CT} (hlo : 231 ≤ n) (M : Mem) (x1 : Int) (x2 : Int) (hx1 : InR x1) (hx2 : InR x2) (res : Mem × Int64) (hT : t_MO_flood M x1 x2 = some res) : CM l b C n 4 y_MO_flood b_MO_flood 3 (some .long) [.ref (b + 191), vI x1, vI x2] M (QL b C n res.1 res.2) := by
  refine CM.of (lo := 231) (ow := "WardFallsModel") (by decide) rfl (Nat.le_of_ble_eq_true rfl) hlo (fun p e s m below meth c F hlk hr hS ls hl => ?_)
  have hl : lv_has ls 3 [(0, .ref (b + 191)), (1, vI x1), (2, vI x2)] := hl
  unfold t_MO_flood at hT
  refine lv_aload_n F.hx F.hb d_MO_flood_0 rfl (lv_at hl 0 rfl) ?_
  refine r_iconst F.hx F.hb d_MO_flood_1 ?_
  refine r_putI (N := 68) (T := T1) (j := 0) F hS (show 191 < 231 by decide) (show shK 191 = 5 from rfl) (show shN 191 = 68 from rfl) rfl (Nat.le_of_ble_eq_true rfl) ing1 tyok1 nm1 rfl rfl rfl rfl rfl rfl mw_1389 (inr_c rfl) d_MO_flood_2 (fun H locs hS => ?_)
  obtain ⟨M1, eM1⟩ : ∃ q, q = (setI M 191 0 0) := ⟨_, rfl⟩
  replace hS : St b C n M1 s H locs := by rw [eM1]; exact hS
  replace hT := qlet_eq hT eM1
  refine lv_aload_n F.hx F.hb d_MO_flood_5 rfl (lv_at hl 0 rfl) ?_
  refine lv_iload_n F.hx F.hb d_MO_flood_6 rfl (lv_at hl 1 rfl) ?_
  obtain ⟨q2, hq2⟩ : ∃ q, q = (t_MO_isWard M1 x1) := ⟨_, rfl⟩
  replace hT := qlet_eq hT hq2
  refine r_backZ F hS (r_runV (k := 191) (N := 68) (T := T1) (As := [vI x1]) F hS (show 191 < 231 by decide) (show shK 191 = 5 from rfl) rfl (c_MO_isWard l F.2.2.1 M1 x1 hx1 _ hq2.symm) gs_MO_369 hd_MO_isWard ⟨Nat.le_of_ble_eq_true rfl, Nat.le_of_ble_eq_true rfl⟩ rfl hl.1 (Nat.le_of_ble_eq_true rfl) ⟨Nat.zero_le _, Nat.zero_le _⟩ rfl d_MO_flood_7) (fun H locs hS h3 => ?_)
  refine r_if_eq (tgt := 20) F.hx F.hb (inr_z h3) d_MO_flood_10 (by decide) (fun c4 => ?_) (fun c4 => ?_)
  · replace hT := (if_pos c4).symm.trans hT
    refine lv_ldc2 (v := (-1)) F.hx F.hb F.hown (F.hts mw_1930) d_MO_flood_20 ?_
    cases hT
    exact r_lret F hlk hr hS d_MO_flood_23
  · replace hT := (if_neg c4).symm.trans hT
    refine lv_iload_n F.hx F.hb d_MO_flood_13 rfl (lv_at hl 2 rfl) ?_
    obtain ⟨q5, hq5⟩ : ∃ q, q = (t_MO_isDown M1 x2) := ⟨_, rfl⟩
    replace hT := qlet_eq hT hq5
    refine r_backZ F hS (r_runS (As := [vI x2]) F hS (c_MO_isDown l F.2.2.1 M1 x2 hx2 _ hq5.symm) gs_MO_440 hd_MO_isDown ⟨Nat.le_of_ble_eq_true rfl, Nat.le_of_ble_eq_true rfl⟩ rfl hl.1 (Nat.le_of_ble_eq_true rfl) ⟨Nat.zero_le _, Nat.zero_le _⟩ rfl d_MO_flood_14) (fun H locs hS h6 => ?_)
    refine r_if_ne (tgt := 24) F.hx F.hb (inr_z h6) d_MO_flood_17 (by decide) (fun c7 => ?_) (fun c7 => ?_)
    · replace hT := (if_neg c7).symm.trans hT
      refine lv_aload_n F.hx F.hb d_MO_flood_24 rfl (lv_at hl 0 rfl) ?_
      refine r_iconst F.hx F.hb d_MO_flood_25 ?_
      refine r_iconst F.hx F.hb d_MO_flood_26 ?_
      obtain ⟨q8, hq8, hT⟩ := q_obind hT
      refine r_backV F hS (r_runV (k := 191) (N := 68) (T := T1) (As := [vI 1, vI 0]) F hS (show 191 < 231 by decide) (show shK 191 = 5 from rfl) rfl (c_MO_copies l F.2.2.1 M1 1 0 (inr_c rfl) (inr_c rfl) _ hq8) gs_MO_437 hd_MO_copies ⟨Nat.le_of_ble_eq_true rfl, Nat.le_of_ble_eq_true rfl⟩ rfl hl.1 (Nat.le_of_ble_eq_true rfl) ⟨Nat.zero_le _, Nat.zero_le _⟩ rfl d_MO_flood_27) (fun H locs hS => ?_)
      refine lv_aload_n F.hx F.hb d_MO_flood_30 rfl (lv_at hl 0 rfl) ?_
      refine r_get (v := .ref (b + 212)) (N := 68) (T := T1) (j := 35) F hS (show 191 < 231 by decide) (show shK 191 = 5 from rfl) (show shN 191 = 68 from rfl) rfl (Nat.le_of_ble_eq_true rfl) ing1 mw_1424 (fv_sg rfl rfl rfl) d_MO_flood_31 ?_
      refine r_iconst F.hx F.hb d_MO_flood_34 ?_
      refine lv_iload_n F.hx F.hb d_MO_flood_35 rfl (lv_at hl 1 rfl) ?_
      refine r_iadd F.hx F.hb d_MO_flood_36 ?_
      refine lv_iload_n F.hx F.hb d_MO_flood_37 rfl (lv_at hl 2 rfl) ?_
      obtain ⟨⟨g10a, g10b⟩, hT⟩ := q_guard hT
      refine r_iast F hS (show 212 < 231 by decide) (show shK 212 = 0 from rfl) (show shN 212 = 92 from rfl) (inr_w32 _) hx2 g10a g10b d_MO_flood_38 (fun H locs hS => ?_)
      obtain ⟨M11, eM11⟩ : ∃ q, q = (setI q8 212 (w32 (4 + x1)) x2) := ⟨_, rfl⟩
      replace hS : St b C n M11 s H locs := by rw [eM11]; exact hS
      replace hT := qlet_eq hT eM11
      refine lv_aload_n F.hx F.hb d_MO_flood_39 rfl (lv_at hl 0 rfl) ?_
      refine r_iconst F.hx F.hb d_MO_flood_40 ?_
      obtain ⟨q12, hq12, hT⟩ := q_obind hT
      refine r_backV F hS (r_runV (k := 191) (N := 68) (T := T1) (As := [vI 1]) F hS (show 191 < 231 by decide) (show shK 191 = 5 from rfl) rfl (c_MO_floods l F.2.2.1 M11 1 (inr_c rfl) _ hq12) gs_MO_446 hd_MO_floods ⟨Nat.le_of_ble_eq_true rfl, Nat.le_of_ble_eq_true rfl⟩ rfl hl.1 (Nat.le_of_ble_eq_true rfl) ⟨Nat.zero_le _, Nat.zero_le _⟩ rfl d_MO_flood_41) (fun H locs hS => ?_)
      refine lv_aload_n F.hx F.hb d_MO_flood_44 rfl (lv_at hl 0 rfl) ?_
      refine r_get (v := .ref (b + 211)) (N := 68) (T := T1) (j := 34) F hS (show 191 < 231 by decide) (show shK 191 = 5 from rfl) (show shN 191 = 68 from rfl) rfl (Nat.le_of_ble_eq_true rfl) ing1 mw_1423 (fv_sg rfl rfl rfl) d_MO_flood_45 ?_
      refine r_iconst F.hx F.hb d_MO_flood_48 ?_
      refine r_lald F hS (show 211 < 231 by decide) (show shK 211 = 2 from rfl) (show shN 211 = 23 from rfl) (inr_c rfl) (by omega) (by omega) d_MO_flood_49 ?_
      cases hT
      exact r_lret F hlk hr hS d_MO_flood_50
    · replace hT := (if_pos c7).symm.trans hT
      refine lv_ldc2 (v := (-1)) F.hx F.hb F.hown (F.hts mw_1930) d_MO_flood_20 ?_
      cases hT
      exact r_lret F hlk hr hS d_MO_flood_23
theorem d_MO_canStep_0 : decode b_MO_canStep 0 = .ok (.iload_n 2, 1) := dc_28 (by decide +kernel)
theorem d_MO_canStep_1 : decode b_MO_canStep 1 = .ok (.iconst (-1), 1) := dc_2 (by decide +kernel)
theorem d_MO_canStep_2 : decode b_MO_canStep 2 = .ok (.if_icmp .eq 50, 3) := dc_159 (by decide +kernel)
theorem d_MO_canStep_5 : decode b_MO_canStep 5 = .ok (.aload_n 0, 1) := dc_42 (by decide +kernel)
theorem d_MO_canStep_6 : decode b_MO_canStep 6 = .ok (.iload_n 1, 1) := dc_27 (by decide +kernel)
theorem d_MO_canStep_7 : decode b_MO_canStep 7 = .ok (.invokevirtual 366, 3) := dc_182 (by decide +kernel)
theorem d_MO_canStep_10 : decode b_MO_canStep 10 = .ok (.ifCond .eq 42, 3) := dc_153 (by decide +kernel)
theorem d_MO_canStep_13 : decode b_MO_canStep 13 = .ok (.aload_n 0, 1) := dc_42 (by decide +kernel)
theorem d_MO_canStep_14 : decode b_MO_canStep 14 = .ok (.iload_n 2, 1) := dc_28 (by decide +kernel)
theorem d_MO_canStep_15 : decode b_MO_canStep 15 = .ok (.invokevirtual 366, 3) := dc_182 (by decide +kernel)
theorem d_MO_canStep_18 : decode b_MO_canStep 18 = .ok (.ifCond .eq 34, 3) := dc_153 (by decide +kernel)
theorem d_MO_canStep_21 : decode b_MO_canStep 21 = .ok (.aload_n 0, 1) := dc_42 (by decide +kernel)
theorem d_MO_canStep_22 : decode b_MO_canStep 22 = .ok (.iload_n 1, 1) := dc_27 (by decide +kernel)
theorem d_MO_canStep_23 : decode b_MO_canStep 23 = .ok (.iload_n 2, 1) := dc_28 (by decide +kernel)
theorem d_MO_canStep_24 : decode b_MO_canStep 24 = .ok (.invokevirtual 359, 3) := dc_182 (by decide +kernel)
theorem d_MO_canStep_27 : decode b_MO_canStep 27 = .ok (.ifCond .eq 21, 3) := dc_153 (by decide +kernel)
theorem d_MO_canStep_30 : decode b_MO_canStep 30 = .ok (.aload_n 0, 1) := dc_42 (by decide +kernel)
theorem d_MO_canStep_31 : decode b_MO_canStep 31 = .ok (.getfield 32, 3) := dc_180 (by decide +kernel)
theorem d_MO_canStep_34 : decode b_MO_canStep 34 = .ok (.iload_n 1, 1) := dc_27 (by decide +kernel)
theorem d_MO_canStep_35 : decode b_MO_canStep 35 = .ok (.baload, 1) := dc_51 (by decide +kernel)
theorem d_MO_canStep_36 : decode b_MO_canStep 36 = .ok (.ifCond .ne 12, 3) := dc_154 (by decide +kernel)
theorem d_MO_canStep_39 : decode b_MO_canStep 39 = .ok (.aload_n 0, 1) := dc_42 (by decide +kernel)
theorem d_MO_canStep_40 : decode b_MO_canStep 40 = .ok (.getfield 32, 3) := dc_180 (by decide +kernel)
theorem d_MO_canStep_43 : decode b_MO_canStep 43 = .ok (.iload_n 2, 1) := dc_28 (by decide +kernel)
theorem d_MO_canStep_44 : decode b_MO_canStep 44 = .ok (.baload, 1) := dc_51 (by decide +kernel)
theorem d_MO_canStep_45 : decode b_MO_canStep 45 = .ok (.ifCond .eq 7, 3) := dc_153 (by decide +kernel)
theorem d_MO_canStep_48 : decode b_MO_canStep 48 = .ok (.iconst 1, 1) := dc_4 (by decide +kernel)
theorem d_MO_canStep_49 : decode b_MO_canStep 49 = .ok (.goto 4, 3) := dc_167 (by decide +kernel)
theorem d_MO_canStep_52 : decode b_MO_canStep 52 = .ok (.iconst 0, 1) := dc_3 (by decide +kernel)
theorem d_MO_canStep_53 : decode b_MO_canStep 53 = .ok (.ireturn, 1) := dc_172 (by decide +kernel)
def t_MO_canStep (M : Mem) (x1 : Int) (x2 : Int) : Option (Int) := (if x2 = (-1) then (some 0) else (obind (t_MO_stands M x1) fun q2 => (if q2 = 0 then (some 0) else (obind (t_MO_stands M x2) fun q5 => (if q5 = 0 then (some 0) else (obind (t_MO_isLine M x1 x2) fun q8 => (if q8 = 0 then (some 1) else (qguard (0 ≤ x1 ∧ x1 < 96) (if (M.1 199 x1) = 0 then (qguard (0 ≤ x2 ∧ x2 < 96) (if (M.1 199 x2) = 0 then (some 0) else (some 1))) else (some 1))))))))))
set_option maxHeartbeats 4000000 in
set_option maxRecDepth 100000 in
theorem c_MO_canStep (l : Launch) {b n : Nat} {C : CT} (hlo : 231 ≤ n) (M : Mem) (x1 : Int) (x2 : Int) (hx1 : InR x1) (hx2 : InR x2) (res : Int) (hT : t_MO_canStep M x1 x2 = some res) : CM l b C n 2 y_MO_canStep b_MO_canStep 3 (some .boolean) [.ref (b + 191), vI x1, vI x2] M (QZ b C n M res) := by
  refine CM.of (lo := 231) (ow := "WardFallsModel") (by decide) rfl (Nat.le_of_ble_eq_true rfl) hlo (fun p e s m below meth c F hlk hr hS ls hl => ?_)
  have hl : lv_has ls 3 [(0, .ref (b + 191)), (1, vI x1), (2, vI x2)] := hl
  unfold t_MO_canStep at hT
  refine lv_iload_n F.hx F.hb d_MO_canStep_0 rfl (lv_at hl 2 rfl) ?_
  refine r_iconst F.hx F.hb d_MO_canStep_1 ?_
  refine r_icmp_eq (tgt := 52) F.hx F.hb hx2 (inr_c rfl) d_MO_canStep_2 (by decide) (fun c1 => ?_) (fun c1 => ?_)
  · replace hT := (if_pos c1).symm.trans hT
    refine r_iconst F.hx F.hb d_MO_canStep_52 ?_
    cases hT
    exact r_zret F hlk hr hS (Or.inl rfl) d_MO_canStep_53
  · replace hT := (if_neg c1).symm.trans hT
    refine lv_aload_n F.hx F.hb d_MO_canStep_5 rfl (lv_at hl 0 rfl) ?_
    refine lv_iload_n F.hx F.hb d_MO_canStep_6 rfl (lv_at hl 1 rfl) ?_
    obtain ⟨q2, hq2, hT⟩ := q_obind hT
    refine r_backZ F hS (r_runV (k := 191) (N := 68) (T := T1) (As := [vI x1]) F hS (show 191 < 231 by decide) (show shK 191 = 5 from rfl) rfl (c_MO_stands l F.2.2.1 M x1 hx1 _ hq2) gs_MO_366 hd_MO_stands ⟨Nat.le_of_ble_eq_true rfl, Nat.le_of_ble_eq_true rfl⟩ rfl hl.1 (Nat.le_of_ble_eq_true rfl) ⟨Nat.zero_le _, Nat.zero_le _⟩ rfl d_MO_canStep_7) (fun H locs hS h3 => ?_)
    refine r_if_eq (tgt := 52) F.hx F.hb (inr_z h3) d_MO_canStep_10 (by decide) (fun c4 => ?_) (fun c4 => ?_)
    · replace hT := (if_pos c4).symm.trans hT
      refine r_iconst F.hx F.hb d_MO_canStep_52 ?_
      cases hT
      exact r_zret F hlk hr hS (Or.inl rfl) d_MO_canStep_53
    · replace hT := (if_neg c4).symm.trans hT
      refine lv_aload_n F.hx F.hb d_MO_canStep_13 rfl (lv_at hl 0 rfl) ?_
      refine lv_iload_n F.hx F.hb d_MO_canStep_14 rfl (lv_at hl 2 rfl) ?_
      obtain ⟨q5, hq5, hT⟩ := q_obind hT
      refine r_backZ F hS (r_runV (k := 191) (N := 68) (T := T1) (As := [vI x2]) F hS (show 191 < 231 by decide) (show shK 191 = 5 from rfl) rfl (c_MO_stands l F.2.2.1 M x2 hx2 _ hq5) gs_MO_366 hd_MO_stands ⟨Nat.le_of_ble_eq_true rfl, Nat.le_of_ble_eq_true rfl⟩ rfl hl.1 (Nat.le_of_ble_eq_true rfl) ⟨Nat.zero_le _, Nat.zero_le _⟩ rfl d_MO_canStep_15) (fun H locs hS h6 => ?_)
      refine r_if_eq (tgt := 52) F.hx F.hb (inr_z h6) d_MO_canStep_18 (by decide) (fun c7 => ?_) (fun c7 => ?_)
      · replace hT := (if_pos c7).symm.trans hT
        refine r_iconst F.hx F.hb d_MO_canStep_52 ?_
        cases hT
        exact r_zret F hlk hr hS (Or.inl rfl) d_MO_canStep_53
      · replace hT := (if_neg c7).symm.trans hT
        refine lv_aload_n F.hx F.hb d_MO_canStep_21 rfl (lv_at hl 0 rfl) ?_
        refine lv_iload_n F.hx F.hb d_MO_canStep_22 rfl (lv_at hl 1 rfl) ?_
        refine lv_iload_n F.hx F.hb d_MO_canStep_23 rfl (lv_at hl 2 rfl) ?_
        obtain ⟨q8, hq8, hT⟩ := q_obind hT
        refine r_backZ F hS (r_runV (k := 191) (N := 68) (T := T1) (As := [vI x1, vI x2]) F hS (show 191 < 231 by decide) (show shK 191 = 5 from rfl) rfl (c_MO_isLine l F.2.2.1 M x1 x2 hx1 hx2 _ hq8) gs_MO_359 hd_MO_isLine ⟨Nat.le_of_ble_eq_true rfl, Nat.le_of_ble_eq_true rfl⟩ rfl hl.1 (Nat.le_of_ble_eq_true rfl) ⟨Nat.zero_le _, Nat.zero_le _⟩ rfl d_MO_canStep_24) (fun H locs hS h9 => ?_)
        refine r_if_eq (tgt := 48) F.hx F.hb (inr_z h9) d_MO_canStep_27 (by decide) (fun c10 => ?_) (fun c10 => ?_)
        · replace hT := (if_pos c10).symm.trans hT
          refine r_iconst F.hx F.hb d_MO_canStep_48 ?_
          refine lv_goto (tgt := 53) F.hx F.hb d_MO_canStep_49 (by decide) ?_
          cases hT
          exact r_zret F hlk hr hS (Or.inr rfl) d_MO_canStep_53
        · replace hT := (if_neg c10).symm.trans hT
          refine lv_aload_n F.hx F.hb d_MO_canStep_30 rfl (lv_at hl 0 rfl) ?_
          refine r_get (v := .ref (b + 199)) (N := 68) (T := T1) (j := 9) F hS (show 191 < 231 by decide) (show shK 191 = 5 from rfl) (show shN 191 = 68 from rfl) rfl (Nat.le_of_ble_eq_true rfl) ing1 mw_1398 (fv_sg rfl rfl rfl) d_MO_canStep_31 ?_
          refine lv_iload_n F.hx F.hb d_MO_canStep_34 rfl (lv_at hl 1 rfl) ?_
          obtain ⟨⟨g11a, g11b⟩, hT⟩ := q_guard hT
          have z12 := hS.bool (show shK 199 = 1 from rfl) x1
          refine r_zald F hS (show 199 < 231 by decide) (show shK 199 = 1 from rfl) (show shN 199 = 96 from rfl) hx1 g11a g11b d_MO_canStep_35 ?_
          refine r_if_ne (tgt := 48) F.hx F.hb (inr_z z12) d_MO_canStep_36 (by decide) (fun c13 => ?_) (fun c13 => ?_)
          · replace hT := (if_neg c13).symm.trans hT
            refine r_iconst F.hx F.hb d_MO_canStep_48 ?_
            refine lv_goto (tgt := 53) F.hx F.hb d_MO_canStep_49 (by decide) ?_
            cases hT
            exact r_zret F hlk hr hS (Or.inr rfl) d_MO_canStep_53
          · replace hT := (if_pos c13).symm.trans hT
            refine lv_aload_n F.hx F.hb d_MO_canStep_39 rfl (lv_at hl 0 rfl) ?_
            refine r_get (v := .ref (b + 199)) (N := 68) (T := T1) (j := 9) F hS (show 191 < 231 by decide) (show shK 191 = 5 from rfl) (show shN 191 = 68 from rfl) rfl (Nat.le_of_ble_eq_true rfl) ing1 mw_1398 (fv_sg rfl rfl rfl) d_MO_canStep_40 ?_
            refine lv_iload_n F.hx F.hb d_MO_canStep_43 rfl (lv_at hl 2 rfl) ?_
            obtain ⟨⟨g14a, g14b⟩, hT⟩ := q_guard hT
            have z15 := hS.bool (show shK 199 = 1 from rfl) x2
            refine r_zald F hS (show 199 < 231 by decide) (show shK 199 = 1 from rfl) (show shN 199 = 96 from rfl) hx2 g14a g14b d_MO_canStep_44 ?_
            refine r_if_eq (tgt := 52) F.hx F.hb (inr_z z15) d_MO_canStep_45 (by decide) (fun c16 => ?_) (fun c16 => ?_)
            · replace hT := (if_pos c16).symm.trans hT
              refine r_iconst F.hx F.hb d_MO_canStep_52 ?_
              cases hT
              exact r_zret F hlk hr hS (Or.inl rfl) d_MO_canStep_53
            · replace hT := (if_neg c16).symm.trans hT
              refine r_iconst F.hx F.hb d_MO_canStep_48 ?_
              refine lv_goto (tgt := 53) F.hx F.hb d_MO_canStep_49 (by decide) ?_
              cases hT
              exact r_zret F hlk hr hS (Or.inr rfl) d_MO_canStep_53
end
