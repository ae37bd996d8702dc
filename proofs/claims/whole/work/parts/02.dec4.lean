theorem dX12_on_109 : decode cX12_on 109 = .ok (.iconst 1, 1) := by decide +kernel
theorem dX12_on_110 : decode cX12_on 110 = .ok (.iload 8, 2) := by decide +kernel
theorem dX12_on_112 : decode cX12_on 112 = .ok (.ishl, 1) := by decide +kernel
theorem dX12_on_113 : decode cX12_on 113 = .ok (.ior, 1) := by decide +kernel
theorem dX12_on_114 : decode cX12_on 114 = .ok (.iload 5, 2) := by decide +kernel
theorem dX12_on_116 : decode cX12_on 116 = .ok (.invokevirtual 242, 3) := by decide +kernel
theorem dX12_on_119 : decode cX12_on 119 = .ok (.aload_n 0, 1) := by decide +kernel
theorem dX12_on_120 : decode cX12_on 120 = .ok (.getfield 37, 3) := by decide +kernel
theorem dX12_on_123 : decode cX12_on 123 = .ok (.iconst 4, 1) := by decide +kernel
theorem dX12_on_124 : decode cX12_on 124 = .ok (.iload_n 2, 1) := by decide +kernel
theorem dX12_on_125 : decode cX12_on 125 = .ok (.iconst 1, 1) := by decide +kernel
theorem dX12_on_126 : decode cX12_on 126 = .ok (.iload 8, 2) := by decide +kernel
theorem dX12_on_128 : decode cX12_on 128 = .ok (.ishl, 1) := by decide +kernel
theorem dX12_on_129 : decode cX12_on 129 = .ok (.ior, 1) := by decide +kernel
theorem dX12_on_130 : decode cX12_on 130 = .ok (.imul, 1) := by decide +kernel
theorem dX12_on_131 : decode cX12_on 131 = .ok (.iload 8, 2) := by decide +kernel
theorem dX12_on_133 : decode cX12_on 133 = .ok (.iadd, 1) := by decide +kernel
theorem dX12_on_134 : decode cX12_on 134 = .ok (.laload, 1) := by decide +kernel
theorem dX12_on_135 : decode cX12_on 135 = .ok (.ladd, 1) := by decide +kernel
theorem dX12_on_136 : decode cX12_on 136 = .ok (.lstore 9, 2) := by decide +kernel
theorem dX12_on_138 : decode cX12_on 138 = .ok (.lload 9, 2) := by decide +kernel
theorem dX12_on_140 : decode cX12_on 140 = .ok (.lload 6, 2) := by decide +kernel
theorem dX12_on_142 : decode cX12_on 142 = .ok (.lcmp, 1) := by decide +kernel
theorem dX12_on_143 : decode cX12_on 143 = .ok (.ifCond .le 15, 3) := by decide +kernel
theorem dX12_on_146 : decode cX12_on 146 = .ok (.iload_n 3, 1) := by decide +kernel
theorem dX12_on_147 : decode cX12_on 147 = .ok (.ifCond .ne 8, 3) := by decide +kernel
theorem dX12_on_150 : decode cX12_on 150 = .ok (.iload 5, 2) := by decide +kernel
theorem dX12_on_152 : decode cX12_on 152 = .ok (.goto 5, 3) := by decide +kernel
theorem dX12_on_155 : decode cX12_on 155 = .ok (.iload 8, 2) := by decide +kernel
theorem dX12_on_157 : decode cX12_on 157 = .ok (.ireturn, 1) := by decide +kernel
theorem dX12_on_158 : decode cX12_on 158 = .ok (.iinc 8 1, 3) := by decide +kernel
theorem dX12_on_161 : decode cX12_on 161 = .ok (.goto (-83), 3) := by decide +kernel
theorem dX12_on_164 : decode cX12_on 164 = .ok (.iinc 5 1, 3) := by decide +kernel
theorem dX12_on_167 : decode cX12_on 167 = .ok (.goto (-125), 3) := by decide +kernel
theorem dX12_on_170 : decode cX12_on 170 = .ok (.iconst (-1), 1) := by decide +kernel
theorem dX12_on_171 : decode cX12_on 171 = .ok (.ireturn, 1) := by decide +kernel
theorem dX12_shut_0 : decode cX12_shut 0 = .ok (.aload_n 0, 1) := by decide +kernel
theorem dX12_shut_1 : decode cX12_shut 1 = .ok (.iload_n 1, 1) := by decide +kernel
theorem dX12_shut_2 : decode cX12_shut 2 = .ok (.invokevirtual 127, 3) := by decide +kernel
theorem dX12_shut_5 : decode cX12_shut 5 = .ok (.ifCond .eq 18, 3) := by decide +kernel
theorem dX12_shut_8 : decode cX12_shut 8 = .ok (.aload_n 0, 1) := by decide +kernel
theorem dX12_shut_9 : decode cX12_shut 9 = .ok (.getfield 44, 3) := by decide +kernel
theorem dX12_shut_12 : decode cX12_shut 12 = .ok (.ifCond .le 15, 3) := by decide +kernel
theorem dX12_shut_15 : decode cX12_shut 15 = .ok (.aload_n 0, 1) := by decide +kernel
theorem dX12_shut_16 : decode cX12_shut 16 = .ok (.iload_n 2, 1) := by decide +kernel
theorem dX12_shut_17 : decode cX12_shut 17 = .ok (.invokevirtual 117, 3) := by decide +kernel
theorem dX12_shut_20 : decode cX12_shut 20 = .ok (.ifCond .ne 7, 3) := by decide +kernel
theorem dX12_shut_23 : decode cX12_shut 23 = .ok (.ldc2_w 148, 3) := by decide +kernel
theorem dX12_shut_26 : decode cX12_shut 26 = .ok (.lreturn, 1) := by decide +kernel
theorem dX12_shut_27 : decode cX12_shut 27 = .ok (.aload_n 0, 1) := by decide +kernel
theorem dX12_shut_28 : decode cX12_shut 28 = .ok (.iload_n 1, 1) := by decide +kernel
theorem dX12_shut_29 : decode cX12_shut 29 = .ok (.aload_n 0, 1) := by decide +kernel
theorem dX12_shut_30 : decode cX12_shut 30 = .ok (.iload_n 2, 1) := by decide +kernel
theorem dX12_shut_31 : decode cX12_shut 31 = .ok (.invokevirtual 117, 3) := by decide +kernel
theorem dX12_shut_34 : decode cX12_shut 34 = .ok (.iload_n 3, 1) := by decide +kernel
theorem dX12_shut_35 : decode cX12_shut 35 = .ok (.invokestatic 157, 3) := by decide +kernel
theorem dX12_shut_38 : decode cX12_shut 38 = .ok (.invokevirtual 160, 3) := by decide +kernel
theorem dX12_shut_41 : decode cX12_shut 41 = .ok (.istore 4, 2) := by decide +kernel
theorem dX12_shut_43 : decode cX12_shut 43 = .ok (.iload 4, 2) := by decide +kernel
theorem dX12_shut_45 : decode cX12_shut 45 = .ok (.ifCond .eq 9, 3) := by decide +kernel
theorem dX12_shut_48 : decode cX12_shut 48 = .ok (.iload 4, 2) := by decide +kernel
theorem dX12_shut_50 : decode cX12_shut 50 = .ok (.invokestatic 164, 3) := by decide +kernel
theorem dX12_shut_53 : decode cX12_shut 53 = .ok (.lreturn, 1) := by decide +kernel
theorem dX12_shut_54 : decode cX12_shut 54 = .ok (.aload_n 0, 1) := by decide +kernel
theorem dX12_shut_55 : decode cX12_shut 55 = .ok (.iload_n 1, 1) := by decide +kernel
theorem dX12_shut_56 : decode cX12_shut 56 = .ok (.iconst 1, 1) := by decide +kernel
theorem dX12_shut_57 : decode cX12_shut 57 = .ok (.iload_n 2, 1) := by decide +kernel
theorem dX12_shut_58 : decode cX12_shut 58 = .ok (.ishl, 1) := by decide +kernel
theorem dX12_shut_59 : decode cX12_shut 59 = .ok (.iload_n 2, 1) := by decide +kernel
theorem dX12_shut_60 : decode cX12_shut 60 = .ok (.invokevirtual 242, 3) := by decide +kernel
theorem dX12_shut_63 : decode cX12_shut 63 = .ok (.lstore 5, 2) := by decide +kernel
theorem dX12_shut_65 : decode cX12_shut 65 = .ok (.lload 5, 2) := by decide +kernel
theorem dX12_shut_67 : decode cX12_shut 67 = .ok (.aload_n 0, 1) := by decide +kernel
theorem dX12_shut_68 : decode cX12_shut 68 = .ok (.iload_n 1, 1) := by decide +kernel
theorem dX12_shut_69 : decode cX12_shut 69 = .ok (.iconst 1, 1) := by decide +kernel
theorem dX12_shut_70 : decode cX12_shut 70 = .ok (.aload_n 0, 1) := by decide +kernel
theorem dX12_shut_71 : decode cX12_shut 71 = .ok (.getfield 114, 3) := by decide +kernel
theorem dX12_shut_74 : decode cX12_shut 74 = .ok (.ishl, 1) := by decide +kernel
theorem dX12_shut_75 : decode cX12_shut 75 = .ok (.iconst 1, 1) := by decide +kernel
theorem dX12_shut_76 : decode cX12_shut 76 = .ok (.isub, 1) := by decide +kernel
theorem dX12_shut_77 : decode cX12_shut 77 = .ok (.iload_n 2, 1) := by decide +kernel
theorem dX12_shut_78 : decode cX12_shut 78 = .ok (.invokevirtual 242, 3) := by decide +kernel
theorem dX12_shut_81 : decode cX12_shut 81 = .ok (.lsub, 1) := by decide +kernel
theorem dX12_shut_82 : decode cX12_shut 82 = .ok (.aload_n 0, 1) := by decide +kernel
theorem dX12_shut_83 : decode cX12_shut 83 = .ok (.invokevirtual 245, 3) := by decide +kernel
theorem dX12_shut_86 : decode cX12_shut 86 = .ok (.iload_n 3, 1) := by decide +kernel
theorem dX12_shut_87 : decode cX12_shut 87 = .ok (.invokestatic 174, 3) := by decide +kernel
theorem dX12_shut_90 : decode cX12_shut 90 = .ok (.lreturn, 1) := by decide +kernel
theorem dX12_wrongly_0 : decode cX12_wrongly 0 = .ok (.aload_n 0, 1) := by decide +kernel
theorem dX12_wrongly_1 : decode cX12_wrongly 1 = .ok (.iload_n 1, 1) := by decide +kernel
theorem dX12_wrongly_2 : decode cX12_wrongly 2 = .ok (.aload_n 0, 1) := by decide +kernel
theorem dX12_wrongly_3 : decode cX12_wrongly 3 = .ok (.iload 5, 2) := by decide +kernel
theorem dX12_wrongly_5 : decode cX12_wrongly 5 = .ok (.invokevirtual 117, 3) := by decide +kernel
theorem dX12_wrongly_8 : decode cX12_wrongly 8 = .ok (.ifCond .eq 16, 3) := by decide +kernel
theorem dX12_wrongly_11 : decode cX12_wrongly 11 = .ok (.aload_n 0, 1) := by decide +kernel
theorem dX12_wrongly_12 : decode cX12_wrongly 12 = .ok (.iload 4, 2) := by decide +kernel
theorem dX12_wrongly_14 : decode cX12_wrongly 14 = .ok (.invokevirtual 107, 3) := by decide +kernel
theorem dX12_wrongly_17 : decode cX12_wrongly 17 = .ok (.ifCond .eq 7, 3) := by decide +kernel
theorem dX12_wrongly_20 : decode cX12_wrongly 20 = .ok (.iconst 1, 1) := by decide +kernel
theorem dX12_wrongly_21 : decode cX12_wrongly 21 = .ok (.goto 4, 3) := by decide +kernel
theorem dX12_wrongly_24 : decode cX12_wrongly 24 = .ok (.iconst 0, 1) := by decide +kernel
theorem dX12_wrongly_25 : decode cX12_wrongly 25 = .ok (.aload_n 0, 1) := by decide +kernel
theorem dX12_wrongly_26 : decode cX12_wrongly 26 = .ok (.iload_n 2, 1) := by decide +kernel
theorem dX12_wrongly_27 : decode cX12_wrongly 27 = .ok (.invokevirtual 227, 3) := by decide +kernel
theorem dX12_wrongly_30 : decode cX12_wrongly 30 = .ok (.ifCond .eq 22, 3) := by decide +kernel
theorem dX12_wrongly_33 : decode cX12_wrongly 33 = .ok (.iload_n 3, 1) := by decide +kernel
theorem dX12_wrongly_34 : decode cX12_wrongly 34 = .ok (.invokestatic 154, 3) := by decide +kernel
theorem dX12_wrongly_37 : decode cX12_wrongly 37 = .ok (.ifCond .eq 15, 3) := by decide +kernel
theorem dX12_wrongly_40 : decode cX12_wrongly 40 = .ok (.iload 6, 2) := by decide +kernel
theorem dX12_wrongly_42 : decode cX12_wrongly 42 = .ok (.invokestatic 157, 3) := by decide +kernel
theorem dX12_wrongly_45 : decode cX12_wrongly 45 = .ok (.ifCond .eq 7, 3) := by decide +kernel
theorem dX12_wrongly_48 : decode cX12_wrongly 48 = .ok (.iconst 1, 1) := by decide +kernel
theorem dX12_wrongly_49 : decode cX12_wrongly 49 = .ok (.goto 4, 3) := by decide +kernel
theorem dX12_wrongly_52 : decode cX12_wrongly 52 = .ok (.iconst 0, 1) := by decide +kernel
theorem dX12_wrongly_53 : decode cX12_wrongly 53 = .ok (.invokevirtual 160, 3) := by decide +kernel
theorem dX12_wrongly_56 : decode cX12_wrongly 56 = .ok (.istore 7, 2) := by decide +kernel
theorem dX12_wrongly_58 : decode cX12_wrongly 58 = .ok (.iload 7, 2) := by decide +kernel
theorem dX12_wrongly_60 : decode cX12_wrongly 60 = .ok (.ifCond .eq 9, 3) := by decide +kernel
theorem dX12_wrongly_63 : decode cX12_wrongly 63 = .ok (.iload 7, 2) := by decide +kernel
theorem dX12_wrongly_65 : decode cX12_wrongly 65 = .ok (.invokestatic 164, 3) := by decide +kernel
theorem dX12_wrongly_68 : decode cX12_wrongly 68 = .ok (.lreturn, 1) := by decide +kernel
theorem dX12_wrongly_69 : decode cX12_wrongly 69 = .ok (.aload_n 0, 1) := by decide +kernel
theorem dX12_wrongly_70 : decode cX12_wrongly 70 = .ok (.iload_n 1, 1) := by decide +kernel
theorem dX12_wrongly_71 : decode cX12_wrongly 71 = .ok (.iload_n 3, 1) := by decide +kernel
theorem dX12_wrongly_72 : decode cX12_wrongly 72 = .ok (.invokevirtual 168, 3) := by decide +kernel
theorem dX12_wrongly_75 : decode cX12_wrongly 75 = .ok (.ifCond .ne 7, 3) := by decide +kernel
theorem dX12_wrongly_78 : decode cX12_wrongly 78 = .ok (.ldc2_w 178, 3) := by decide +kernel
theorem dX12_wrongly_81 : decode cX12_wrongly 81 = .ok (.lreturn, 1) := by decide +kernel
theorem dX12_wrongly_82 : decode cX12_wrongly 82 = .ok (.aload_n 0, 1) := by decide +kernel
theorem dX12_wrongly_83 : decode cX12_wrongly 83 = .ok (.iload_n 1, 1) := by decide +kernel
theorem dX12_wrongly_84 : decode cX12_wrongly 84 = .ok (.iload_n 2, 1) := by decide +kernel
theorem dX12_wrongly_85 : decode cX12_wrongly 85 = .ok (.iload_n 3, 1) := by decide +kernel
theorem dX12_wrongly_86 : decode cX12_wrongly 86 = .ok (.iconst (-1), 1) := by decide +kernel
theorem dX12_wrongly_87 : decode cX12_wrongly 87 = .ok (.invokevirtual 232, 3) := by decide +kernel
theorem dX12_wrongly_90 : decode cX12_wrongly 90 = .ok (.istore 8, 2) := by decide +kernel
theorem dX12_wrongly_92 : decode cX12_wrongly 92 = .ok (.iload 8, 2) := by decide +kernel
theorem dX12_wrongly_94 : decode cX12_wrongly 94 = .ok (.iload 5, 2) := by decide +kernel
theorem dX12_wrongly_96 : decode cX12_wrongly 96 = .ok (.invokestatic 188, 3) := by decide +kernel
theorem dX12_wrongly_99 : decode cX12_wrongly 99 = .ok (.istore 9, 2) := by decide +kernel
theorem dX12_wrongly_101 : decode cX12_wrongly 101 = .ok (.iload 9, 2) := by decide +kernel
theorem dX12_wrongly_103 : decode cX12_wrongly 103 = .ok (.ifCond .ge 9, 3) := by decide +kernel
theorem dX12_wrongly_106 : decode cX12_wrongly 106 = .ok (.iload 9, 2) := by decide +kernel
theorem dX12_wrongly_108 : decode cX12_wrongly 108 = .ok (.ineg, 1) := by decide +kernel
theorem dX12_wrongly_109 : decode cX12_wrongly 109 = .ok (.goto 5, 3) := by decide +kernel
theorem dX12_wrongly_112 : decode cX12_wrongly 112 = .ok (.iload 9, 2) := by decide +kernel
theorem dX12_wrongly_114 : decode cX12_wrongly 114 = .ok (.istore 10, 2) := by decide +kernel
theorem dX12_wrongly_116 : decode cX12_wrongly 116 = .ok (.iload 9, 2) := by decide +kernel
theorem dX12_wrongly_118 : decode cX12_wrongly 118 = .ok (.i2l, 1) := by decide +kernel
theorem dX12_wrongly_119 : decode cX12_wrongly 119 = .ok (.bipush 100, 2) := by decide +kernel
theorem dX12_wrongly_121 : decode cX12_wrongly 121 = .ok (.aload_n 0, 1) := by decide +kernel
theorem dX12_wrongly_122 : decode cX12_wrongly 122 = .ok (.getfield 16, 3) := by decide +kernel
theorem dX12_wrongly_125 : decode cX12_wrongly 125 = .ok (.iload 4, 2) := by decide +kernel
theorem dX12_wrongly_127 : decode cX12_wrongly 127 = .ok (.iaload, 1) := by decide +kernel
theorem dX12_wrongly_128 : decode cX12_wrongly 128 = .ok (.imul, 1) := by decide +kernel
theorem dX12_wrongly_129 : decode cX12_wrongly 129 = .ok (.aload_n 0, 1) := by decide +kernel
theorem dX12_wrongly_130 : decode cX12_wrongly 130 = .ok (.iload_n 1, 1) := by decide +kernel
theorem dX12_wrongly_131 : decode cX12_wrongly 131 = .ok (.iload 4, 2) := by decide +kernel
theorem dX12_wrongly_133 : decode cX12_wrongly 133 = .ok (.invokevirtual 140, 3) := by decide +kernel
theorem dX12_wrongly_136 : decode cX12_wrongly 136 = .ok (.isub, 1) := by decide +kernel
theorem dX12_wrongly_137 : decode cX12_wrongly 137 = .ok (.bipush 100, 2) := by decide +kernel
theorem dX12_wrongly_139 : decode cX12_wrongly 139 = .ok (.aload_n 0, 1) := by decide +kernel
theorem dX12_wrongly_140 : decode cX12_wrongly 140 = .ok (.getfield 104, 3) := by decide +kernel
theorem dX12_wrongly_143 : decode cX12_wrongly 143 = .ok (.imul, 1) := by decide +kernel
theorem dX12_wrongly_144 : decode cX12_wrongly 144 = .ok (.aload_n 0, 1) := by decide +kernel
theorem dX12_wrongly_145 : decode cX12_wrongly 145 = .ok (.iload 8, 2) := by decide +kernel
theorem dX12_wrongly_147 : decode cX12_wrongly 147 = .ok (.invokevirtual 198, 3) := by decide +kernel
theorem dX12_wrongly_150 : decode cX12_wrongly 150 = .ok (.imul, 1) := by decide +kernel
theorem dX12_wrongly_151 : decode cX12_wrongly 151 = .ok (.isub, 1) := by decide +kernel
theorem dX12_wrongly_152 : decode cX12_wrongly 152 = .ok (.i2l, 1) := by decide +kernel
theorem dX12_wrongly_153 : decode cX12_wrongly 153 = .ok (.lmul, 1) := by decide +kernel
theorem dX12_wrongly_154 : decode cX12_wrongly 154 = .ok (.ldc2_w 122, 3) := by decide +kernel
theorem dX12_wrongly_157 : decode cX12_wrongly 157 = .ok (.aload_n 0, 1) := by decide +kernel
theorem dX12_wrongly_158 : decode cX12_wrongly 158 = .ok (.getfield 28, 3) := by decide +kernel
theorem dX12_wrongly_161 : decode cX12_wrongly 161 = .ok (.iload 5, 2) := by decide +kernel
theorem dX12_wrongly_163 : decode cX12_wrongly 163 = .ok (.iaload, 1) := by decide +kernel
theorem dX12_wrongly_164 : decode cX12_wrongly 164 = .ok (.i2l, 1) := by decide +kernel
theorem dX12_wrongly_165 : decode cX12_wrongly 165 = .ok (.lmul, 1) := by decide +kernel
theorem dX12_wrongly_166 : decode cX12_wrongly 166 = .ok (.iload 10, 2) := by decide +kernel
theorem dX12_wrongly_168 : decode cX12_wrongly 168 = .ok (.i2l, 1) := by decide +kernel
theorem dX12_wrongly_169 : decode cX12_wrongly 169 = .ok (.lmul, 1) := by decide +kernel
theorem dX12_wrongly_170 : decode cX12_wrongly 170 = .ok (.lsub, 1) := by decide +kernel
theorem dX12_wrongly_171 : decode cX12_wrongly 171 = .ok (.lstore 11, 2) := by decide +kernel
theorem dX12_wrongly_173 : decode cX12_wrongly 173 = .ok (.lload 11, 2) := by decide +kernel
theorem dX12_wrongly_175 : decode cX12_wrongly 175 = .ok (.ldc2_w 122, 3) := by decide +kernel
theorem dX12_wrongly_178 : decode cX12_wrongly 178 = .ok (.iload 6, 2) := by decide +kernel
theorem dX12_wrongly_180 : decode cX12_wrongly 180 = .ok (.invokestatic 174, 3) := by decide +kernel
theorem dX12_wrongly_183 : decode cX12_wrongly 183 = .ok (.lreturn, 1) := by decide +kernel
theorem dX12_shown_0 : decode cX12_shown 0 = .ok (.aload_n 0, 1) := by decide +kernel
theorem dX12_shown_1 : decode cX12_shown 1 = .ok (.iload_n 1, 1) := by decide +kernel
theorem dX12_shown_2 : decode cX12_shown 2 = .ok (.iconst 1, 1) := by decide +kernel
theorem dX12_shown_3 : decode cX12_shown 3 = .ok (.aload_n 0, 1) := by decide +kernel
theorem dX12_shown_4 : decode cX12_shown 4 = .ok (.iload_n 2, 1) := by decide +kernel
theorem dX12_shown_5 : decode cX12_shown 5 = .ok (.invokevirtual 227, 3) := by decide +kernel
theorem dX12_shown_8 : decode cX12_shown 8 = .ok (.invokevirtual 160, 3) := by decide +kernel
theorem dX12_shown_11 : decode cX12_shown 11 = .ok (.istore_n 3, 1) := by decide +kernel
theorem dX12_shown_12 : decode cX12_shown 12 = .ok (.iload_n 3, 1) := by decide +kernel
theorem dX12_shown_13 : decode cX12_shown 13 = .ok (.ifCond .eq 5, 3) := by decide +kernel
theorem dX12_shown_16 : decode cX12_shown 16 = .ok (.iload_n 3, 1) := by decide +kernel
theorem dX12_shown_17 : decode cX12_shown 17 = .ok (.ireturn, 1) := by decide +kernel
theorem dX12_shown_18 : decode cX12_shown 18 = .ok (.iconst 0, 1) := by decide +kernel
theorem dX12_shown_19 : decode cX12_shown 19 = .ok (.istore 4, 2) := by decide +kernel
theorem dX12_shown_21 : decode cX12_shown 21 = .ok (.aload_n 0, 1) := by decide +kernel
theorem dX12_shown_22 : decode cX12_shown 22 = .ok (.iload_n 1, 1) := by decide +kernel
theorem dX12_shown_23 : decode cX12_shown 23 = .ok (.iload_n 2, 1) := by decide +kernel
theorem dX12_shown_24 : decode cX12_shown 24 = .ok (.invokevirtual 264, 3) := by decide +kernel
theorem dX12_shown_27 : decode cX12_shown 27 = .ok (.iconst 0, 1) := by decide +kernel
theorem dX12_shown_28 : decode cX12_shown 28 = .ok (.istore 5, 2) := by decide +kernel
theorem dX12_shown_30 : decode cX12_shown 30 = .ok (.iload 5, 2) := by decide +kernel
theorem dX12_shown_32 : decode cX12_shown 32 = .ok (.iconst 4, 1) := by decide +kernel
theorem dX12_shown_33 : decode cX12_shown 33 = .ok (.if_icmp .ge 88, 3) := by decide +kernel
theorem dX12_shown_36 : decode cX12_shown 36 = .ok (.aload_n 0, 1) := by decide +kernel
theorem dX12_shown_37 : decode cX12_shown 37 = .ok (.getfield 41, 3) := by decide +kernel
theorem dX12_shown_40 : decode cX12_shown 40 = .ok (.iload 5, 2) := by decide +kernel
theorem dX12_shown_42 : decode cX12_shown 42 = .ok (.iaload, 1) := by decide +kernel
theorem dX12_shown_43 : decode cX12_shown 43 = .ok (.bipush 99, 2) := by decide +kernel
theorem dX12_shown_45 : decode cX12_shown 45 = .ok (.if_icmp .eq 7, 3) := by decide +kernel
theorem dX12_shown_48 : decode cX12_shown 48 = .ok (.iconst 1, 1) := by decide +kernel
theorem dX12_shown_49 : decode cX12_shown 49 = .ok (.goto 4, 3) := by decide +kernel
theorem dX12_shown_52 : decode cX12_shown 52 = .ok (.iconst 0, 1) := by decide +kernel
theorem dX12_shown_53 : decode cX12_shown 53 = .ok (.istore 6, 2) := by decide +kernel
theorem dX12_shown_55 : decode cX12_shown 55 = .ok (.iconst 0, 1) := by decide +kernel
theorem dX12_shown_56 : decode cX12_shown 56 = .ok (.istore 7, 2) := by decide +kernel
theorem dX12_shown_58 : decode cX12_shown 58 = .ok (.iload 7, 2) := by decide +kernel
theorem dX12_shown_60 : decode cX12_shown 60 = .ok (.iload 5, 2) := by decide +kernel
theorem dX12_shown_62 : decode cX12_shown 62 = .ok (.if_icmp .ge 38, 3) := by decide +kernel
theorem dX12_shown_65 : decode cX12_shown 65 = .ok (.iload 6, 2) := by decide +kernel
theorem dX12_shown_67 : decode cX12_shown 67 = .ok (.ifCond .eq 24, 3) := by decide +kernel
theorem dX12_shown_70 : decode cX12_shown 70 = .ok (.aload_n 0, 1) := by decide +kernel
theorem dX12_shown_71 : decode cX12_shown 71 = .ok (.getfield 41, 3) := by decide +kernel
theorem dX12_shown_74 : decode cX12_shown 74 = .ok (.iload 7, 2) := by decide +kernel
theorem dX12_shown_76 : decode cX12_shown 76 = .ok (.iaload, 1) := by decide +kernel
theorem dX12_shown_77 : decode cX12_shown 77 = .ok (.aload_n 0, 1) := by decide +kernel
theorem dX12_shown_78 : decode cX12_shown 78 = .ok (.getfield 41, 3) := by decide +kernel
theorem dX12_shown_81 : decode cX12_shown 81 = .ok (.iload 5, 2) := by decide +kernel
theorem dX12_shown_83 : decode cX12_shown 83 = .ok (.iaload, 1) := by decide +kernel
theorem dX12_shown_84 : decode cX12_shown 84 = .ok (.if_icmp .eq 7, 3) := by decide +kernel
theorem dX12_shown_87 : decode cX12_shown 87 = .ok (.iconst 1, 1) := by decide +kernel
theorem dX12_shown_88 : decode cX12_shown 88 = .ok (.goto 4, 3) := by decide +kernel
theorem dX12_shown_91 : decode cX12_shown 91 = .ok (.iconst 0, 1) := by decide +kernel
theorem dX12_shown_92 : decode cX12_shown 92 = .ok (.istore 6, 2) := by decide +kernel
theorem dX12_shown_94 : decode cX12_shown 94 = .ok (.iinc 7 1, 3) := by decide +kernel
theorem dX12_shown_97 : decode cX12_shown 97 = .ok (.goto (-39), 3) := by decide +kernel
theorem dX12_shown_100 : decode cX12_shown 100 = .ok (.iload 4, 2) := by decide +kernel
theorem dX12_shown_102 : decode cX12_shown 102 = .ok (.iload 6, 2) := by decide +kernel
theorem dX12_shown_104 : decode cX12_shown 104 = .ok (.ifCond .eq 7, 3) := by decide +kernel
theorem dX12_shown_107 : decode cX12_shown 107 = .ok (.iconst 1, 1) := by decide +kernel
theorem dX12_shown_108 : decode cX12_shown 108 = .ok (.goto 4, 3) := by decide +kernel
theorem dX12_shown_111 : decode cX12_shown 111 = .ok (.iconst 0, 1) := by decide +kernel
theorem dX12_shown_112 : decode cX12_shown 112 = .ok (.iadd, 1) := by decide +kernel
theorem dX12_shown_113 : decode cX12_shown 113 = .ok (.istore 4, 2) := by decide +kernel
theorem dX12_shown_115 : decode cX12_shown 115 = .ok (.iinc 5 1, 3) := by decide +kernel
theorem dX12_shown_118 : decode cX12_shown 118 = .ok (.goto (-88), 3) := by decide +kernel
theorem dX12_shown_121 : decode cX12_shown 121 = .ok (.iload 4, 2) := by decide +kernel
theorem dX12_shown_123 : decode cX12_shown 123 = .ok (.ireturn, 1) := by decide +kernel
theorem dX12_layStepsBySign_0 : decode cX12_layStepsBySign 0 = .ok (.iconst 0, 1) := by decide +kernel
theorem dX12_layStepsBySign_1 : decode cX12_layStepsBySign 1 = .ok (.istore_n 3, 1) := by decide +kernel
theorem dX12_layStepsBySign_2 : decode cX12_layStepsBySign 2 = .ok (.iload_n 3, 1) := by decide +kernel
theorem dX12_layStepsBySign_3 : decode cX12_layStepsBySign 3 = .ok (.iconst 4, 1) := by decide +kernel
theorem dX12_layStepsBySign_4 : decode cX12_layStepsBySign 4 = .ok (.if_icmp .ge 41, 3) := by decide +kernel
theorem dX12_layStepsBySign_7 : decode cX12_layStepsBySign 7 = .ok (.aload_n 0, 1) := by decide +kernel
theorem dX12_layStepsBySign_8 : decode cX12_layStepsBySign 8 = .ok (.getfield 41, 3) := by decide +kernel
theorem dX12_layStepsBySign_11 : decode cX12_layStepsBySign 11 = .ok (.iload_n 3, 1) := by decide +kernel
theorem dX12_layStepsBySign_12 : decode cX12_layStepsBySign 12 = .ok (.aload_n 0, 1) := by decide +kernel
theorem dX12_layStepsBySign_13 : decode cX12_layStepsBySign 13 = .ok (.iload_n 1, 1) := by decide +kernel
theorem dX12_layStepsBySign_14 : decode cX12_layStepsBySign 14 = .ok (.iload_n 3, 1) := by decide +kernel
theorem dX12_layStepsBySign_15 : decode cX12_layStepsBySign 15 = .ok (.invokevirtual 168, 3) := by decide +kernel
theorem dX12_layStepsBySign_18 : decode cX12_layStepsBySign 18 = .ok (.ifCond .ne 8, 3) := by decide +kernel
theorem dX12_layStepsBySign_21 : decode cX12_layStepsBySign 21 = .ok (.bipush 99, 2) := by decide +kernel
theorem dX12_layStepsBySign_23 : decode cX12_layStepsBySign 23 = .ok (.goto 15, 3) := by decide +kernel
theorem dX12_layStepsBySign_26 : decode cX12_layStepsBySign 26 = .ok (.aload_n 0, 1) := by decide +kernel
theorem dX12_layStepsBySign_27 : decode cX12_layStepsBySign 27 = .ok (.aload_n 0, 1) := by decide +kernel
theorem dX12_layStepsBySign_28 : decode cX12_layStepsBySign 28 = .ok (.iload_n 1, 1) := by decide +kernel
theorem dX12_layStepsBySign_29 : decode cX12_layStepsBySign 29 = .ok (.iload_n 2, 1) := by decide +kernel
theorem dX12_layStepsBySign_30 : decode cX12_layStepsBySign 30 = .ok (.iload_n 3, 1) := by decide +kernel
theorem dX12_layStepsBySign_31 : decode cX12_layStepsBySign 31 = .ok (.iconst (-1), 1) := by decide +kernel
theorem dX12_layStepsBySign_32 : decode cX12_layStepsBySign 32 = .ok (.invokevirtual 232, 3) := by decide +kernel
theorem dX12_layStepsBySign_35 : decode cX12_layStepsBySign 35 = .ok (.invokevirtual 198, 3) := by decide +kernel
theorem dX12_layStepsBySign_38 : decode cX12_layStepsBySign 38 = .ok (.iastore, 1) := by decide +kernel
theorem dX12_layStepsBySign_39 : decode cX12_layStepsBySign 39 = .ok (.iinc 3 1, 3) := by decide +kernel
theorem dX12_layStepsBySign_42 : decode cX12_layStepsBySign 42 = .ok (.goto (-40), 3) := by decide +kernel
theorem dX12_layStepsBySign_45 : decode cX12_layStepsBySign 45 = .ok (.return_, 1) := by decide +kernel
theorem dX12_thought_0 : decode cX12_thought 0 = .ok (.aload_n 0, 1) := by decide +kernel
theorem dX12_thought_1 : decode cX12_thought 1 = .ok (.iload_n 1, 1) := by decide +kernel
theorem dX12_thought_2 : decode cX12_thought 2 = .ok (.iconst 1, 1) := by decide +kernel
theorem dX12_thought_3 : decode cX12_thought 3 = .ok (.aload_n 0, 1) := by decide +kernel
theorem dX12_thought_4 : decode cX12_thought 4 = .ok (.iload_n 2, 1) := by decide +kernel
theorem dX12_thought_5 : decode cX12_thought 5 = .ok (.invokevirtual 227, 3) := by decide +kernel
theorem dX12_thought_8 : decode cX12_thought 8 = .ok (.ifCond .eq 22, 3) := by decide +kernel
theorem dX12_thought_11 : decode cX12_thought 11 = .ok (.iload_n 3, 1) := by decide +kernel
theorem dX12_thought_12 : decode cX12_thought 12 = .ok (.invokestatic 154, 3) := by decide +kernel
theorem dX12_thought_15 : decode cX12_thought 15 = .ok (.ifCond .eq 15, 3) := by decide +kernel
theorem dX12_thought_18 : decode cX12_thought 18 = .ok (.iload 4, 2) := by decide +kernel
theorem dX12_thought_20 : decode cX12_thought 20 = .ok (.invokestatic 157, 3) := by decide +kernel
theorem dX12_thought_23 : decode cX12_thought 23 = .ok (.ifCond .eq 7, 3) := by decide +kernel
theorem dX12_thought_26 : decode cX12_thought 26 = .ok (.iconst 1, 1) := by decide +kernel
theorem dX12_thought_27 : decode cX12_thought 27 = .ok (.goto 4, 3) := by decide +kernel
theorem dX12_thought_30 : decode cX12_thought 30 = .ok (.iconst 0, 1) := by decide +kernel
theorem dX12_thought_31 : decode cX12_thought 31 = .ok (.invokevirtual 160, 3) := by decide +kernel
theorem dX12_thought_34 : decode cX12_thought 34 = .ok (.istore 5, 2) := by decide +kernel
theorem dX12_thought_36 : decode cX12_thought 36 = .ok (.iload 5, 2) := by decide +kernel
theorem dX12_thought_38 : decode cX12_thought 38 = .ok (.ifCond .eq 9, 3) := by decide +kernel
theorem dX12_thought_41 : decode cX12_thought 41 = .ok (.iload 5, 2) := by decide +kernel
theorem dX12_thought_43 : decode cX12_thought 43 = .ok (.invokestatic 164, 3) := by decide +kernel
theorem dX12_thought_46 : decode cX12_thought 46 = .ok (.lreturn, 1) := by decide +kernel
theorem dX12_thought_47 : decode cX12_thought 47 = .ok (.aload_n 0, 1) := by decide +kernel
theorem dX12_thought_48 : decode cX12_thought 48 = .ok (.iload_n 1, 1) := by decide +kernel
theorem dX12_thought_49 : decode cX12_thought 49 = .ok (.iload_n 3, 1) := by decide +kernel
theorem dX12_thought_50 : decode cX12_thought 50 = .ok (.invokevirtual 168, 3) := by decide +kernel
theorem dX12_thought_53 : decode cX12_thought 53 = .ok (.ifCond .ne 7, 3) := by decide +kernel
theorem dX12_thought_56 : decode cX12_thought 56 = .ok (.ldc2_w 178, 3) := by decide +kernel
theorem dX12_thought_59 : decode cX12_thought 59 = .ok (.lreturn, 1) := by decide +kernel
theorem dX12_thought_60 : decode cX12_thought 60 = .ok (.aload_n 0, 1) := by decide +kernel
theorem dX12_thought_61 : decode cX12_thought 61 = .ok (.iload_n 1, 1) := by decide +kernel
theorem dX12_thought_62 : decode cX12_thought 62 = .ok (.iload_n 2, 1) := by decide +kernel
theorem dX12_thought_63 : decode cX12_thought 63 = .ok (.invokevirtual 264, 3) := by decide +kernel
theorem dX12_thought_66 : decode cX12_thought 66 = .ok (.lconst 0, 1) := by decide +kernel
theorem dX12_thought_67 : decode cX12_thought 67 = .ok (.lstore 6, 2) := by decide +kernel
theorem dX12_thought_69 : decode cX12_thought 69 = .ok (.lconst 0, 1) := by decide +kernel
theorem dX12_thought_70 : decode cX12_thought 70 = .ok (.lstore 8, 2) := by decide +kernel
theorem dX12_thought_72 : decode cX12_thought 72 = .ok (.iconst 0, 1) := by decide +kernel
theorem dX12_thought_73 : decode cX12_thought 73 = .ok (.istore 10, 2) := by decide +kernel
theorem dX12_thought_75 : decode cX12_thought 75 = .ok (.iload 10, 2) := by decide +kernel
theorem dX12_thought_77 : decode cX12_thought 77 = .ok (.iconst 4, 1) := by decide +kernel
theorem dX12_thought_78 : decode cX12_thought 78 = .ok (.if_icmp .ge 87, 3) := by decide +kernel
theorem dX12_thought_81 : decode cX12_thought 81 = .ok (.iconst 0, 1) := by decide +kernel
theorem dX12_thought_82 : decode cX12_thought 82 = .ok (.istore 11, 2) := by decide +kernel
theorem dX12_thought_84 : decode cX12_thought 84 = .ok (.iload 11, 2) := by decide +kernel
theorem dX12_thought_86 : decode cX12_thought 86 = .ok (.aload_n 0, 1) := by decide +kernel
theorem dX12_thought_87 : decode cX12_thought 87 = .ok (.getfield 44, 3) := by decide +kernel
theorem dX12_thought_90 : decode cX12_thought 90 = .ok (.if_icmp .ge 69, 3) := by decide +kernel
theorem dX12_thought_93 : decode cX12_thought 93 = .ok (.aload_n 0, 1) := by decide +kernel
theorem dX12_thought_94 : decode cX12_thought 94 = .ok (.getfield 41, 3) := by decide +kernel
theorem dX12_thought_97 : decode cX12_thought 97 = .ok (.iload 10, 2) := by decide +kernel
theorem dX12_thought_99 : decode cX12_thought 99 = .ok (.iaload, 1) := by decide +kernel
theorem dX12_thought_100 : decode cX12_thought 100 = .ok (.aload_n 0, 1) := by decide +kernel
theorem dX12_thought_101 : decode cX12_thought 101 = .ok (.getfield 41, 3) := by decide +kernel
theorem dX12_thought_104 : decode cX12_thought 104 = .ok (.iload_n 3, 1) := by decide +kernel
theorem dX12_thought_105 : decode cX12_thought 105 = .ok (.iaload, 1) := by decide +kernel
theorem dX12_thought_106 : decode cX12_thought 106 = .ok (.if_icmp .ne 53, 3) := by decide +kernel
theorem dX12_thought_109 : decode cX12_thought 109 = .ok (.aload_n 0, 1) := by decide +kernel
theorem dX12_thought_110 : decode cX12_thought 110 = .ok (.getfield 13, 3) := by decide +kernel
theorem dX12_thought_113 : decode cX12_thought 113 = .ok (.iload 11, 2) := by decide +kernel
theorem dX12_thought_115 : decode cX12_thought 115 = .ok (.iaload, 1) := by decide +kernel
theorem dX12_thought_116 : decode cX12_thought 116 = .ok (.i2l, 1) := by decide +kernel
theorem dX12_thought_117 : decode cX12_thought 117 = .ok (.aload_n 0, 1) := by decide +kernel
theorem dX12_thought_118 : decode cX12_thought 118 = .ok (.iload_n 1, 1) := by decide +kernel
theorem dX12_thought_119 : decode cX12_thought 119 = .ok (.iload 11, 2) := by decide +kernel
theorem dX12_thought_121 : decode cX12_thought 121 = .ok (.iload 10, 2) := by decide +kernel
theorem dX12_thought_123 : decode cX12_thought 123 = .ok (.invokevirtual 136, 3) := by decide +kernel
theorem dX12_thought_126 : decode cX12_thought 126 = .ok (.i2l, 1) := by decide +kernel
theorem dX12_thought_127 : decode cX12_thought 127 = .ok (.lmul, 1) := by decide +kernel
theorem dX12_thought_128 : decode cX12_thought 128 = .ok (.lstore 12, 2) := by decide +kernel
theorem dX12_thought_130 : decode cX12_thought 130 = .ok (.lload 6, 2) := by decide +kernel
theorem dX12_thought_132 : decode cX12_thought 132 = .ok (.lload 12, 2) := by decide +kernel
theorem dX12_thought_134 : decode cX12_thought 134 = .ok (.aload_n 0, 1) := by decide +kernel
theorem dX12_thought_135 : decode cX12_thought 135 = .ok (.getfield 16, 3) := by decide +kernel
theorem dX12_thought_138 : decode cX12_thought 138 = .ok (.iload 11, 2) := by decide +kernel
theorem dX12_thought_140 : decode cX12_thought 140 = .ok (.iaload, 1) := by decide +kernel
theorem dX12_thought_141 : decode cX12_thought 141 = .ok (.i2l, 1) := by decide +kernel
theorem dX12_thought_142 : decode cX12_thought 142 = .ok (.lmul, 1) := by decide +kernel
theorem dX12_thought_143 : decode cX12_thought 143 = .ok (.ladd, 1) := by decide +kernel
theorem dX12_thought_144 : decode cX12_thought 144 = .ok (.lstore 6, 2) := by decide +kernel
theorem dX12_thought_146 : decode cX12_thought 146 = .ok (.lload 8, 2) := by decide +kernel
theorem dX12_thought_148 : decode cX12_thought 148 = .ok (.lload 12, 2) := by decide +kernel
theorem dX12_thought_150 : decode cX12_thought 150 = .ok (.ladd, 1) := by decide +kernel
theorem dX12_thought_151 : decode cX12_thought 151 = .ok (.lstore 8, 2) := by decide +kernel
theorem dX12_thought_153 : decode cX12_thought 153 = .ok (.iinc 11 1, 3) := by decide +kernel
theorem dX12_thought_156 : decode cX12_thought 156 = .ok (.goto (-72), 3) := by decide +kernel
theorem dX12_thought_159 : decode cX12_thought 159 = .ok (.iinc 10 1, 3) := by decide +kernel
theorem dX12_thought_162 : decode cX12_thought 162 = .ok (.goto (-87), 3) := by decide +kernel
theorem dX12_thought_165 : decode cX12_thought 165 = .ok (.lload 6, 2) := by decide +kernel
theorem dX12_thought_167 : decode cX12_thought 167 = .ok (.lload 8, 2) := by decide +kernel
theorem dX12_thought_169 : decode cX12_thought 169 = .ok (.iload 4, 2) := by decide +kernel
theorem dX12_thought_171 : decode cX12_thought 171 = .ok (.invokestatic 174, 3) := by decide +kernel
theorem dX12_thought_174 : decode cX12_thought 174 = .ok (.lreturn, 1) := by decide +kernel
theorem dX12_boundOf_0 : decode cX12_boundOf 0 = .ok (.iconst 0, 1) := by decide +kernel
theorem dX12_boundOf_1 : decode cX12_boundOf 1 = .ok (.istore_n 1, 1) := by decide +kernel
theorem dX12_boundOf_2 : decode cX12_boundOf 2 = .ok (.iconst 0, 1) := by decide +kernel
theorem dX12_boundOf_3 : decode cX12_boundOf 3 = .ok (.istore_n 2, 1) := by decide +kernel
theorem dX12_boundOf_4 : decode cX12_boundOf 4 = .ok (.iload_n 2, 1) := by decide +kernel
theorem dX12_boundOf_5 : decode cX12_boundOf 5 = .ok (.aload_n 0, 1) := by decide +kernel
theorem dX12_boundOf_6 : decode cX12_boundOf 6 = .ok (.getfield 114, 3) := by decide +kernel
theorem dX12_boundOf_9 : decode cX12_boundOf 9 = .ok (.if_icmp .ge 18, 3) := by decide +kernel
theorem dX12_boundOf_12 : decode cX12_boundOf 12 = .ok (.iload_n 1, 1) := by decide +kernel
theorem dX12_boundOf_13 : decode cX12_boundOf 13 = .ok (.aload_n 0, 1) := by decide +kernel
theorem dX12_boundOf_14 : decode cX12_boundOf 14 = .ok (.getfield 25, 3) := by decide +kernel
theorem dX12_boundOf_17 : decode cX12_boundOf 17 = .ok (.iload_n 2, 1) := by decide +kernel
theorem dX12_boundOf_18 : decode cX12_boundOf 18 = .ok (.iaload, 1) := by decide +kernel
theorem dX12_boundOf_19 : decode cX12_boundOf 19 = .ok (.iadd, 1) := by decide +kernel
theorem dX12_boundOf_20 : decode cX12_boundOf 20 = .ok (.istore_n 1, 1) := by decide +kernel
theorem dX12_boundOf_21 : decode cX12_boundOf 21 = .ok (.iinc 2 1, 3) := by decide +kernel
theorem dX12_boundOf_24 : decode cX12_boundOf 24 = .ok (.goto (-20), 3) := by decide +kernel
theorem dX12_boundOf_27 : decode cX12_boundOf 27 = .ok (.lconst 0, 1) := by decide +kernel
theorem dX12_boundOf_28 : decode cX12_boundOf 28 = .ok (.lstore_n 2, 1) := by decide +kernel
theorem dX12_boundOf_29 : decode cX12_boundOf 29 = .ok (.iconst 0, 1) := by decide +kernel
theorem dX12_boundOf_30 : decode cX12_boundOf 30 = .ok (.istore 4, 2) := by decide +kernel
theorem dX12_boundOf_32 : decode cX12_boundOf 32 = .ok (.iload 4, 2) := by decide +kernel
theorem dX12_boundOf_34 : decode cX12_boundOf 34 = .ok (.aload_n 0, 1) := by decide +kernel
theorem dX12_boundOf_35 : decode cX12_boundOf 35 = .ok (.getfield 44, 3) := by decide +kernel
theorem dX12_boundOf_38 : decode cX12_boundOf 38 = .ok (.if_icmp .ge 84, 3) := by decide +kernel
theorem dX12_boundOf_41 : decode cX12_boundOf 41 = .ok (.iconst 0, 1) := by decide +kernel
theorem dX12_boundOf_42 : decode cX12_boundOf 42 = .ok (.istore 5, 2) := by decide +kernel
theorem dX12_boundOf_44 : decode cX12_boundOf 44 = .ok (.iload_n 1, 1) := by decide +kernel
theorem dX12_boundOf_45 : decode cX12_boundOf 45 = .ok (.ineg, 1) := by decide +kernel
theorem dX12_boundOf_46 : decode cX12_boundOf 46 = .ok (.istore 6, 2) := by decide +kernel
theorem dX12_boundOf_48 : decode cX12_boundOf 48 = .ok (.iload 6, 2) := by decide +kernel
theorem dX12_boundOf_50 : decode cX12_boundOf 50 = .ok (.iload_n 1, 1) := by decide +kernel
theorem dX12_boundOf_51 : decode cX12_boundOf 51 = .ok (.if_icmp .gt 50, 3) := by decide +kernel
theorem dX12_boundOf_54 : decode cX12_boundOf 54 = .ok (.iload 6, 2) := by decide +kernel
theorem dX12_boundOf_56 : decode cX12_boundOf 56 = .ok (.aload_n 0, 1) := by decide +kernel
theorem dX12_boundOf_57 : decode cX12_boundOf 57 = .ok (.getfield 16, 3) := by decide +kernel
theorem dX12_boundOf_60 : decode cX12_boundOf 60 = .ok (.iload 4, 2) := by decide +kernel
theorem dX12_boundOf_62 : decode cX12_boundOf 62 = .ok (.iaload, 1) := by decide +kernel
theorem dX12_boundOf_63 : decode cX12_boundOf 63 = .ok (.aload_n 0, 1) := by decide +kernel
theorem dX12_boundOf_64 : decode cX12_boundOf 64 = .ok (.getfield 101, 3) := by decide +kernel
theorem dX12_boundOf_67 : decode cX12_boundOf 67 = .ok (.isub, 1) := by decide +kernel
theorem dX12_boundOf_68 : decode cX12_boundOf 68 = .ok (.aload_n 0, 1) := by decide +kernel
theorem dX12_boundOf_69 : decode cX12_boundOf 69 = .ok (.getfield 104, 3) := by decide +kernel
theorem dX12_boundOf_72 : decode cX12_boundOf 72 = .ok (.iload 6, 2) := by decide +kernel
theorem dX12_boundOf_74 : decode cX12_boundOf 74 = .ok (.imul, 1) := by decide +kernel
theorem dX12_boundOf_75 : decode cX12_boundOf 75 = .ok (.isub, 1) := by decide +kernel
theorem dX12_boundOf_76 : decode cX12_boundOf 76 = .ok (.imul, 1) := by decide +kernel
theorem dX12_boundOf_77 : decode cX12_boundOf 77 = .ok (.istore 7, 2) := by decide +kernel
theorem dX12_boundOf_79 : decode cX12_boundOf 79 = .ok (.iload 7, 2) := by decide +kernel
theorem dX12_boundOf_81 : decode cX12_boundOf 81 = .ok (.iload 5, 2) := by decide +kernel
theorem dX12_boundOf_83 : decode cX12_boundOf 83 = .ok (.if_icmp .le 8, 3) := by decide +kernel
theorem dX12_boundOf_86 : decode cX12_boundOf 86 = .ok (.iload 7, 2) := by decide +kernel
theorem dX12_boundOf_88 : decode cX12_boundOf 88 = .ok (.goto 5, 3) := by decide +kernel
theorem dX12_boundOf_91 : decode cX12_boundOf 91 = .ok (.iload 5, 2) := by decide +kernel
theorem dX12_boundOf_93 : decode cX12_boundOf 93 = .ok (.istore 5, 2) := by decide +kernel
theorem dX12_boundOf_95 : decode cX12_boundOf 95 = .ok (.iinc 6 1, 3) := by decide +kernel
theorem dX12_boundOf_98 : decode cX12_boundOf 98 = .ok (.goto (-50), 3) := by decide +kernel
theorem dX12_boundOf_101 : decode cX12_boundOf 101 = .ok (.lload_n 2, 1) := by decide +kernel
theorem dX12_boundOf_102 : decode cX12_boundOf 102 = .ok (.aload_n 0, 1) := by decide +kernel
theorem dX12_boundOf_103 : decode cX12_boundOf 103 = .ok (.getfield 13, 3) := by decide +kernel
theorem dX12_boundOf_106 : decode cX12_boundOf 106 = .ok (.iload 4, 2) := by decide +kernel
theorem dX12_boundOf_108 : decode cX12_boundOf 108 = .ok (.iaload, 1) := by decide +kernel
theorem dX12_boundOf_109 : decode cX12_boundOf 109 = .ok (.i2l, 1) := by decide +kernel
theorem dX12_boundOf_110 : decode cX12_boundOf 110 = .ok (.iload 5, 2) := by decide +kernel
theorem dX12_boundOf_112 : decode cX12_boundOf 112 = .ok (.i2l, 1) := by decide +kernel
theorem dX12_boundOf_113 : decode cX12_boundOf 113 = .ok (.lmul, 1) := by decide +kernel
theorem dX12_boundOf_114 : decode cX12_boundOf 114 = .ok (.ladd, 1) := by decide +kernel
theorem dX12_boundOf_115 : decode cX12_boundOf 115 = .ok (.lstore_n 2, 1) := by decide +kernel
theorem dX12_boundOf_116 : decode cX12_boundOf 116 = .ok (.iinc 4 1, 3) := by decide +kernel
theorem dX12_boundOf_119 : decode cX12_boundOf 119 = .ok (.goto (-87), 3) := by decide +kernel
theorem dX12_boundOf_122 : decode cX12_boundOf 122 = .ok (.lload_n 2, 1) := by decide +kernel
theorem dX12_boundOf_123 : decode cX12_boundOf 123 = .ok (.lreturn, 1) := by decide +kernel
theorem dX12_bound_0 : decode cX12_bound 0 = .ok (.aload_n 0, 1) := by decide +kernel
theorem dX12_bound_1 : decode cX12_bound 1 = .ok (.getfield 44, 3) := by decide +kernel
theorem dX12_bound_4 : decode cX12_bound 4 = .ok (.ifCond .ne 7, 3) := by decide +kernel
theorem dX12_bound_7 : decode cX12_bound 7 = .ok (.ldc2_w 152, 3) := by decide +kernel
theorem dX12_bound_10 : decode cX12_bound 10 = .ok (.lreturn, 1) := by decide +kernel
theorem dX12_bound_11 : decode cX12_bound 11 = .ok (.iload_n 1, 1) := by decide +kernel
theorem dX12_bound_12 : decode cX12_bound 12 = .ok (.invokestatic 157, 3) := by decide +kernel
theorem dX12_bound_15 : decode cX12_bound 15 = .ok (.ifCond .eq 19, 3) := by decide +kernel
theorem dX12_bound_18 : decode cX12_bound 18 = .ok (.aload_n 0, 1) := by decide +kernel
theorem dX12_bound_19 : decode cX12_bound 19 = .ok (.invokevirtual 267, 3) := by decide +kernel
theorem dX12_bound_22 : decode cX12_bound 22 = .ok (.aload_n 0, 1) := by decide +kernel
theorem dX12_bound_23 : decode cX12_bound 23 = .ok (.invokevirtual 171, 3) := by decide +kernel
theorem dX12_bound_26 : decode cX12_bound 26 = .ok (.i2l, 1) := by decide +kernel
theorem dX12_bound_27 : decode cX12_bound 27 = .ok (.iload_n 1, 1) := by decide +kernel
theorem dX12_bound_28 : decode cX12_bound 28 = .ok (.invokestatic 174, 3) := by decide +kernel
theorem dX12_bound_31 : decode cX12_bound 31 = .ok (.goto 6, 3) := by decide +kernel
theorem dX12_bound_34 : decode cX12_bound 34 = .ok (.ldc2_w 150, 3) := by decide +kernel
theorem dX12_bound_37 : decode cX12_bound 37 = .ok (.lreturn, 1) := by decide +kernel
theorem dX12_draw_0 : decode cX12_draw 0 = .ok (.aload_n 0, 1) := by decide +kernel
theorem dX12_draw_1 : decode cX12_draw 1 = .ok (.ldc2_w 270, 3) := by decide +kernel
theorem dX12_draw_4 : decode cX12_draw 4 = .ok (.aload_n 0, 1) := by decide +kernel
theorem dX12_draw_5 : decode cX12_draw 5 = .ok (.getfield 272, 3) := by decide +kernel
theorem dX12_draw_8 : decode cX12_draw 8 = .ok (.i2l, 1) := by decide +kernel
theorem dX12_draw_9 : decode cX12_draw 9 = .ok (.lmul, 1) := by decide +kernel
theorem dX12_draw_10 : decode cX12_draw 10 = .ok (.ldc2_w 275, 3) := by decide +kernel
theorem dX12_draw_13 : decode cX12_draw 13 = .ok (.ladd, 1) := by decide +kernel
theorem dX12_draw_14 : decode cX12_draw 14 = .ok (.ldc2_w 277, 3) := by decide +kernel
theorem dX12_draw_17 : decode cX12_draw 17 = .ok (.land, 1) := by decide +kernel
theorem dX12_draw_18 : decode cX12_draw 18 = .ok (.l2i, 1) := by decide +kernel
theorem dX12_draw_19 : decode cX12_draw 19 = .ok (.putfield 272, 3) := by decide +kernel
theorem dX12_draw_22 : decode cX12_draw 22 = .ok (.aload_n 0, 1) := by decide +kernel
theorem dX12_draw_23 : decode cX12_draw 23 = .ok (.getfield 272, 3) := by decide +kernel
theorem dX12_draw_26 : decode cX12_draw 26 = .ok (.ldc_w 279, 3) := by decide +kernel
theorem dX12_draw_29 : decode cX12_draw 29 = .ok (.idiv, 1) := by decide +kernel
theorem dX12_draw_30 : decode cX12_draw 30 = .ok (.iload_n 1, 1) := by decide +kernel
theorem dX12_draw_31 : decode cX12_draw 31 = .ok (.irem, 1) := by decide +kernel
theorem dX12_draw_32 : decode cX12_draw 32 = .ok (.ireturn, 1) := by decide +kernel
theorem dX12_drawCase_0 : decode cX12_drawCase 0 = .ok (.aload_n 0, 1) := by decide +kernel
theorem dX12_drawCase_1 : decode cX12_drawCase 1 = .ok (.aload_n 0, 1) := by decide +kernel
theorem dX12_drawCase_2 : decode cX12_drawCase 2 = .ok (.invokevirtual 171, 3) := by decide +kernel
theorem dX12_drawCase_5 : decode cX12_drawCase 5 = .ok (.invokevirtual 280, 3) := by decide +kernel
theorem dX12_drawCase_8 : decode cX12_drawCase 8 = .ok (.istore_n 1, 1) := by decide +kernel
theorem dX12_drawCase_9 : decode cX12_drawCase 9 = .ok (.iconst 0, 1) := by decide +kernel
theorem dX12_drawCase_10 : decode cX12_drawCase 10 = .ok (.istore_n 2, 1) := by decide +kernel
theorem dX12_drawCase_11 : decode cX12_drawCase 11 = .ok (.iload_n 1, 1) := by decide +kernel
theorem dX12_drawCase_12 : decode cX12_drawCase 12 = .ok (.aload_n 0, 1) := by decide +kernel
theorem dX12_drawCase_13 : decode cX12_drawCase 13 = .ok (.getfield 13, 3) := by decide +kernel
theorem dX12_drawCase_16 : decode cX12_drawCase 16 = .ok (.iload_n 2, 1) := by decide +kernel
theorem dX12_drawCase_17 : decode cX12_drawCase 17 = .ok (.iaload, 1) := by decide +kernel
theorem dX12_drawCase_18 : decode cX12_drawCase 18 = .ok (.if_icmp .lt 18, 3) := by decide +kernel
theorem dX12_drawCase_21 : decode cX12_drawCase 21 = .ok (.iload_n 1, 1) := by decide +kernel
theorem dX12_drawCase_22 : decode cX12_drawCase 22 = .ok (.aload_n 0, 1) := by decide +kernel
theorem dX12_drawCase_23 : decode cX12_drawCase 23 = .ok (.getfield 13, 3) := by decide +kernel
theorem dX12_drawCase_26 : decode cX12_drawCase 26 = .ok (.iload_n 2, 1) := by decide +kernel
theorem dX12_drawCase_27 : decode cX12_drawCase 27 = .ok (.iaload, 1) := by decide +kernel
theorem dX12_drawCase_28 : decode cX12_drawCase 28 = .ok (.isub, 1) := by decide +kernel
theorem dX12_drawCase_29 : decode cX12_drawCase 29 = .ok (.istore_n 1, 1) := by decide +kernel
theorem dX12_drawCase_30 : decode cX12_drawCase 30 = .ok (.iinc 2 1, 3) := by decide +kernel
theorem dX12_drawCase_33 : decode cX12_drawCase 33 = .ok (.goto (-22), 3) := by decide +kernel
theorem dX12_drawCase_36 : decode cX12_drawCase 36 = .ok (.iload_n 2, 1) := by decide +kernel
theorem dX12_drawCase_37 : decode cX12_drawCase 37 = .ok (.ireturn, 1) := by decide +kernel
theorem dX12_drawSign_0 : decode cX12_drawSign 0 = .ok (.aload_n 0, 1) := by decide +kernel
theorem dX12_drawSign_1 : decode cX12_drawSign 1 = .ok (.invokevirtual 283, 3) := by decide +kernel
theorem dX12_drawSign_4 : decode cX12_drawSign 4 = .ok (.istore_n 2, 1) := by decide +kernel
theorem dX12_drawSign_5 : decode cX12_drawSign 5 = .ok (.aload_n 0, 1) := by decide +kernel
theorem dX12_drawSign_6 : decode cX12_drawSign 6 = .ok (.getfield 31, 3) := by decide +kernel
theorem dX12_drawSign_9 : decode cX12_drawSign 9 = .ok (.iload_n 1, 1) := by decide +kernel
theorem dX12_drawSign_10 : decode cX12_drawSign 10 = .ok (.iaload, 1) := by decide +kernel
theorem dX12_drawSign_11 : decode cX12_drawSign 11 = .ok (.iconst 3, 1) := by decide +kernel
theorem dX12_drawSign_12 : decode cX12_drawSign 12 = .ok (.if_icmp .ne 52, 3) := by decide +kernel
theorem dX12_drawSign_15 : decode cX12_drawSign 15 = .ok (.aload_n 0, 1) := by decide +kernel
theorem dX12_drawSign_16 : decode cX12_drawSign 16 = .ok (.getfield 44, 3) := by decide +kernel
theorem dX12_drawSign_19 : decode cX12_drawSign 19 = .ok (.iconst 1, 1) := by decide +kernel
theorem dX12_drawSign_20 : decode cX12_drawSign 20 = .ok (.if_icmp .le 44, 3) := by decide +kernel
theorem dX12_drawSign_23 : decode cX12_drawSign 23 = .ok (.aload_n 0, 1) := by decide +kernel
theorem dX12_drawSign_24 : decode cX12_drawSign 24 = .ok (.bipush 100, 2) := by decide +kernel
theorem dX12_drawSign_26 : decode cX12_drawSign 26 = .ok (.invokevirtual 280, 3) := by decide +kernel
theorem dX12_drawSign_29 : decode cX12_drawSign 29 = .ok (.aload_n 0, 1) := by decide +kernel
theorem dX12_drawSign_30 : decode cX12_drawSign 30 = .ok (.getfield 34, 3) := by decide +kernel
theorem dX12_drawSign_33 : decode cX12_drawSign 33 = .ok (.iload_n 1, 1) := by decide +kernel
theorem dX12_drawSign_34 : decode cX12_drawSign 34 = .ok (.iaload, 1) := by decide +kernel
theorem dX12_drawSign_35 : decode cX12_drawSign 35 = .ok (.if_icmp .ge 27, 3) := by decide +kernel
theorem dX12_drawSign_38 : decode cX12_drawSign 38 = .ok (.aload_n 0, 1) := by decide +kernel
theorem dX12_drawSign_39 : decode cX12_drawSign 39 = .ok (.aload_n 0, 1) := by decide +kernel
theorem dX12_drawSign_40 : decode cX12_drawSign 40 = .ok (.getfield 44, 3) := by decide +kernel
theorem dX12_drawSign_43 : decode cX12_drawSign 43 = .ok (.iconst 1, 1) := by decide +kernel
theorem dX12_drawSign_44 : decode cX12_drawSign 44 = .ok (.isub, 1) := by decide +kernel
theorem dX12_drawSign_45 : decode cX12_drawSign 45 = .ok (.invokevirtual 280, 3) := by decide +kernel
theorem dX12_drawSign_48 : decode cX12_drawSign 48 = .ok (.istore_n 3, 1) := by decide +kernel
theorem dX12_drawSign_49 : decode cX12_drawSign 49 = .ok (.iload_n 3, 1) := by decide +kernel
theorem dX12_drawSign_50 : decode cX12_drawSign 50 = .ok (.iload_n 2, 1) := by decide +kernel
theorem dX12_drawSign_51 : decode cX12_drawSign 51 = .ok (.if_icmp .ge 7, 3) := by decide +kernel
theorem dX12_drawSign_54 : decode cX12_drawSign 54 = .ok (.iload_n 3, 1) := by decide +kernel
theorem dX12_drawSign_55 : decode cX12_drawSign 55 = .ok (.goto 6, 3) := by decide +kernel
theorem dX12_drawSign_58 : decode cX12_drawSign 58 = .ok (.iload_n 3, 1) := by decide +kernel
theorem dX12_drawSign_59 : decode cX12_drawSign 59 = .ok (.iconst 1, 1) := by decide +kernel
theorem dX12_drawSign_60 : decode cX12_drawSign 60 = .ok (.iadd, 1) := by decide +kernel
theorem dX12_drawSign_61 : decode cX12_drawSign 61 = .ok (.ireturn, 1) := by decide +kernel
theorem dX12_drawSign_62 : decode cX12_drawSign 62 = .ok (.iload_n 2, 1) := by decide +kernel
theorem dX12_drawSign_63 : decode cX12_drawSign 63 = .ok (.ireturn, 1) := by decide +kernel
theorem dX12_drawSign_64 : decode cX12_drawSign 64 = .ok (.aload_n 0, 1) := by decide +kernel
theorem dX12_drawSign_65 : decode cX12_drawSign 65 = .ok (.getfield 31, 3) := by decide +kernel
theorem dX12_drawSign_68 : decode cX12_drawSign 68 = .ok (.iload_n 1, 1) := by decide +kernel
theorem dX12_drawSign_69 : decode cX12_drawSign 69 = .ok (.iaload, 1) := by decide +kernel
theorem dX12_drawSign_70 : decode cX12_drawSign 70 = .ok (.ifCond .ne 7, 3) := by decide +kernel
theorem dX12_drawSign_73 : decode cX12_drawSign 73 = .ok (.iconst 0, 1) := by decide +kernel
theorem dX12_drawSign_74 : decode cX12_drawSign 74 = .ok (.goto 29, 3) := by decide +kernel
theorem dX12_drawSign_77 : decode cX12_drawSign 77 = .ok (.aload_n 0, 1) := by decide +kernel
theorem dX12_drawSign_78 : decode cX12_drawSign 78 = .ok (.getfield 31, 3) := by decide +kernel
theorem dX12_drawSign_81 : decode cX12_drawSign 81 = .ok (.iload_n 1, 1) := by decide +kernel
theorem dX12_drawSign_82 : decode cX12_drawSign 82 = .ok (.iaload, 1) := by decide +kernel
theorem dX12_drawSign_83 : decode cX12_drawSign 83 = .ok (.iconst 2, 1) := by decide +kernel
theorem dX12_drawSign_84 : decode cX12_drawSign 84 = .ok (.if_icmp .ne 18, 3) := by decide +kernel
theorem dX12_drawSign_87 : decode cX12_drawSign 87 = .ok (.aload_n 0, 1) := by decide +kernel
theorem dX12_drawSign_88 : decode cX12_drawSign 88 = .ok (.getfield 34, 3) := by decide +kernel
theorem dX12_drawSign_91 : decode cX12_drawSign 91 = .ok (.iload_n 1, 1) := by decide +kernel
theorem dX12_drawSign_92 : decode cX12_drawSign 92 = .ok (.iaload, 1) := by decide +kernel
theorem dX12_drawSign_93 : decode cX12_drawSign 93 = .ok (.iconst 2, 1) := by decide +kernel
theorem dX12_drawSign_94 : decode cX12_drawSign 94 = .ok (.iload_n 2, 1) := by decide +kernel
theorem dX12_drawSign_95 : decode cX12_drawSign 95 = .ok (.imul, 1) := by decide +kernel
theorem dX12_drawSign_96 : decode cX12_drawSign 96 = .ok (.ishr, 1) := by decide +kernel
theorem dX12_drawSign_97 : decode cX12_drawSign 97 = .ok (.iconst 3, 1) := by decide +kernel
theorem dX12_drawSign_98 : decode cX12_drawSign 98 = .ok (.iand, 1) := by decide +kernel
theorem dX12_drawSign_99 : decode cX12_drawSign 99 = .ok (.goto 4, 3) := by decide +kernel
theorem dX12_drawSign_102 : decode cX12_drawSign 102 = .ok (.iload_n 2, 1) := by decide +kernel
theorem dX12_drawSign_103 : decode cX12_drawSign 103 = .ok (.ireturn, 1) := by decide +kernel
theorem dX12_run_0 : decode cX12_run 0 = .ok (.aload_n 0, 1) := by decide +kernel
theorem dX12_run_1 : decode cX12_run 1 = .ok (.iload_n 1, 1) := by decide +kernel
theorem dX12_run_2 : decode cX12_run 2 = .ok (.iconst 1, 1) := by decide +kernel
theorem dX12_run_3 : decode cX12_run 3 = .ok (.aload_n 0, 1) := by decide +kernel
theorem dX12_run_4 : decode cX12_run 4 = .ok (.iload_n 2, 1) := by decide +kernel
theorem dX12_run_5 : decode cX12_run 5 = .ok (.invokevirtual 227, 3) := by decide +kernel
theorem dX12_run_8 : decode cX12_run 8 = .ok (.ifCond .eq 37, 3) := by decide +kernel
theorem dX12_run_11 : decode cX12_run 11 = .ok (.iload_n 3, 1) := by decide +kernel
theorem dX12_run_12 : decode cX12_run 12 = .ok (.ifCond .lt 33, 3) := by decide +kernel
theorem dX12_run_15 : decode cX12_run 15 = .ok (.iload 4, 2) := by decide +kernel
theorem dX12_run_17 : decode cX12_run 17 = .ok (.i2l, 1) := by decide +kernel
theorem dX12_run_18 : decode cX12_run 18 = .ok (.lconst 1, 1) := by decide +kernel
theorem dX12_run_19 : decode cX12_run 19 = .ok (.ldc2_w 122, 3) := by decide +kernel
theorem dX12_run_22 : decode cX12_run 22 = .ok (.invokestatic 73, 3) := by decide +kernel
theorem dX12_run_25 : decode cX12_run 25 = .ok (.ifCond .eq 20, 3) := by decide +kernel
theorem dX12_run_28 : decode cX12_run 28 = .ok (.iload 5, 2) := by decide +kernel
theorem dX12_run_30 : decode cX12_run 30 = .ok (.i2l, 1) := by decide +kernel
theorem dX12_run_31 : decode cX12_run 31 = .ok (.lconst 0, 1) := by decide +kernel
theorem dX12_run_32 : decode cX12_run 32 = .ok (.ldc2_w 286, 3) := by decide +kernel
theorem dX12_run_35 : decode cX12_run 35 = .ok (.invokestatic 73, 3) := by decide +kernel
theorem dX12_run_38 : decode cX12_run 38 = .ok (.ifCond .eq 7, 3) := by decide +kernel
theorem dX12_run_41 : decode cX12_run 41 = .ok (.iconst 1, 1) := by decide +kernel
theorem dX12_run_42 : decode cX12_run 42 = .ok (.goto 4, 3) := by decide +kernel
theorem dX12_run_45 : decode cX12_run 45 = .ok (.iconst 0, 1) := by decide +kernel
theorem dX12_run_46 : decode cX12_run 46 = .ok (.invokevirtual 160, 3) := by decide +kernel
theorem dX12_run_49 : decode cX12_run 49 = .ok (.istore 6, 2) := by decide +kernel
theorem dX12_run_51 : decode cX12_run 51 = .ok (.iload 6, 2) := by decide +kernel
theorem dX12_run_53 : decode cX12_run 53 = .ok (.ifCond .eq 6, 3) := by decide +kernel
theorem dX12_run_56 : decode cX12_run 56 = .ok (.iload 6, 2) := by decide +kernel
theorem dX12_run_58 : decode cX12_run 58 = .ok (.ireturn, 1) := by decide +kernel
theorem dX12_run_59 : decode cX12_run 59 = .ok (.iconst 0, 1) := by decide +kernel
theorem dX12_run_60 : decode cX12_run 60 = .ok (.istore 7, 2) := by decide +kernel
theorem dX12_run_62 : decode cX12_run 62 = .ok (.iconst 0, 1) := by decide +kernel
theorem dX12_run_63 : decode cX12_run 63 = .ok (.istore 8, 2) := by decide +kernel
theorem dX12_run_65 : decode cX12_run 65 = .ok (.iload 8, 2) := by decide +kernel
theorem dX12_run_67 : decode cX12_run 67 = .ok (.aload_n 0, 1) := by decide +kernel
theorem dX12_run_68 : decode cX12_run 68 = .ok (.getfield 114, 3) := by decide +kernel
theorem dX12_run_71 : decode cX12_run 71 = .ok (.if_icmp .ge 21, 3) := by decide +kernel
theorem dX12_run_74 : decode cX12_run 74 = .ok (.iload 7, 2) := by decide +kernel
theorem dX12_run_76 : decode cX12_run 76 = .ok (.iconst 3, 1) := by decide +kernel
theorem dX12_run_77 : decode cX12_run 77 = .ok (.iload 8, 2) := by decide +kernel
theorem dX12_run_79 : decode cX12_run 79 = .ok (.invokestatic 184, 3) := by decide +kernel
theorem dX12_run_82 : decode cX12_run 82 = .ok (.imul, 1) := by decide +kernel
theorem dX12_run_83 : decode cX12_run 83 = .ok (.iadd, 1) := by decide +kernel
theorem dX12_run_84 : decode cX12_run 84 = .ok (.istore 7, 2) := by decide +kernel
theorem dX12_run_86 : decode cX12_run 86 = .ok (.iinc 8 1, 3) := by decide +kernel
theorem dX12_run_89 : decode cX12_run 89 = .ok (.goto (-24), 3) := by decide +kernel
theorem dX12_run_92 : decode cX12_run 92 = .ok (.aload_n 0, 1) := by decide +kernel
theorem dX12_run_93 : decode cX12_run 93 = .ok (.iload_n 1, 1) := by decide +kernel
theorem dX12_run_94 : decode cX12_run 94 = .ok (.iload_n 2, 1) := by decide +kernel
theorem dX12_run_95 : decode cX12_run 95 = .ok (.invokevirtual 288, 3) := by decide +kernel
theorem dX12_run_98 : decode cX12_run 98 = .ok (.aload_n 0, 1) := by decide +kernel
theorem dX12_run_99 : decode cX12_run 99 = .ok (.iload_n 3, 1) := by decide +kernel
theorem dX12_run_100 : decode cX12_run 100 = .ok (.putfield 272, 3) := by decide +kernel
theorem dX12_run_103 : decode cX12_run 103 = .ok (.iconst 0, 1) := by decide +kernel
theorem dX12_run_104 : decode cX12_run 104 = .ok (.istore 8, 2) := by decide +kernel
theorem dX12_run_106 : decode cX12_run 106 = .ok (.iconst 0, 1) := by decide +kernel
theorem dX12_run_107 : decode cX12_run 107 = .ok (.istore 9, 2) := by decide +kernel
theorem dX12_run_109 : decode cX12_run 109 = .ok (.iconst 0, 1) := by decide +kernel
theorem dX12_run_110 : decode cX12_run 110 = .ok (.istore 10, 2) := by decide +kernel
theorem dX12_run_112 : decode cX12_run 112 = .ok (.iload 10, 2) := by decide +kernel
theorem dX12_run_114 : decode cX12_run 114 = .ok (.iload 4, 2) := by decide +kernel
theorem dX12_run_116 : decode cX12_run 116 = .ok (.if_icmp .ge 83, 3) := by decide +kernel
theorem dX12_run_119 : decode cX12_run 119 = .ok (.aload_n 0, 1) := by decide +kernel
theorem dX12_run_120 : decode cX12_run 120 = .ok (.getfield 41, 3) := by decide +kernel
theorem dX12_run_123 : decode cX12_run 123 = .ok (.aload_n 0, 1) := by decide +kernel
theorem dX12_run_124 : decode cX12_run 124 = .ok (.iload_n 1, 1) := by decide +kernel
theorem dX12_run_125 : decode cX12_run 125 = .ok (.invokevirtual 291, 3) := by decide +kernel
theorem dX12_run_128 : decode cX12_run 128 = .ok (.iaload, 1) := by decide +kernel
theorem dX12_run_129 : decode cX12_run 129 = .ok (.istore 11, 2) := by decide +kernel
theorem dX12_run_131 : decode cX12_run 131 = .ok (.iconst 0, 1) := by decide +kernel
theorem dX12_run_132 : decode cX12_run 132 = .ok (.istore 12, 2) := by decide +kernel
theorem dX12_run_134 : decode cX12_run 134 = .ok (.iload 12, 2) := by decide +kernel
theorem dX12_run_136 : decode cX12_run 136 = .ok (.aload_n 0, 1) := by decide +kernel
theorem dX12_run_137 : decode cX12_run 137 = .ok (.getfield 114, 3) := by decide +kernel
theorem dX12_run_140 : decode cX12_run 140 = .ok (.if_icmp .ge 36, 3) := by decide +kernel
theorem dX12_run_143 : decode cX12_run 143 = .ok (.iload 11, 2) := by decide +kernel
theorem dX12_run_145 : decode cX12_run 145 = .ok (.iload 12, 2) := by decide +kernel
theorem dX12_run_147 : decode cX12_run 147 = .ok (.invokestatic 188, 3) := by decide +kernel
theorem dX12_run_150 : decode cX12_run 150 = .ok (.istore 13, 2) := by decide +kernel
theorem dX12_run_152 : decode cX12_run 152 = .ok (.iload 8, 2) := by decide +kernel
theorem dX12_run_154 : decode cX12_run 154 = .ok (.iload 13, 2) := by decide +kernel
theorem dX12_run_156 : decode cX12_run 156 = .ok (.ifCond .ge 9, 3) := by decide +kernel
theorem dX12_run_159 : decode cX12_run 159 = .ok (.iload 13, 2) := by decide +kernel
theorem dX12_run_161 : decode cX12_run 161 = .ok (.ineg, 1) := by decide +kernel
theorem dX12_run_162 : decode cX12_run 162 = .ok (.goto 5, 3) := by decide +kernel
theorem dX12_run_165 : decode cX12_run 165 = .ok (.iload 13, 2) := by decide +kernel
theorem dX12_run_167 : decode cX12_run 167 = .ok (.iadd, 1) := by decide +kernel
theorem dX12_run_168 : decode cX12_run 168 = .ok (.istore 8, 2) := by decide +kernel
theorem dX12_run_170 : decode cX12_run 170 = .ok (.iinc 12 1, 3) := by decide +kernel
theorem dX12_run_173 : decode cX12_run 173 = .ok (.goto (-39), 3) := by decide +kernel
theorem dX12_run_176 : decode cX12_run 176 = .ok (.iload 9, 2) := by decide +kernel
theorem dX12_run_178 : decode cX12_run 178 = .ok (.iload 11, 2) := by decide +kernel
theorem dX12_run_180 : decode cX12_run 180 = .ok (.iload 7, 2) := by decide +kernel
theorem dX12_run_182 : decode cX12_run 182 = .ok (.if_icmp .ne 7, 3) := by decide +kernel
theorem dX12_run_185 : decode cX12_run 185 = .ok (.iconst 1, 1) := by decide +kernel
theorem dX12_run_186 : decode cX12_run 186 = .ok (.goto 4, 3) := by decide +kernel
theorem dX12_run_189 : decode cX12_run 189 = .ok (.iconst 0, 1) := by decide +kernel
theorem dX12_run_190 : decode cX12_run 190 = .ok (.iadd, 1) := by decide +kernel
theorem dX12_run_191 : decode cX12_run 191 = .ok (.istore 9, 2) := by decide +kernel
theorem dX12_run_193 : decode cX12_run 193 = .ok (.iinc 10 1, 3) := by decide +kernel
theorem dX12_run_196 : decode cX12_run 196 = .ok (.goto (-84), 3) := by decide +kernel
theorem dX12_run_199 : decode cX12_run 199 = .ok (.iload 5, 2) := by decide +kernel
theorem dX12_run_201 : decode cX12_run 201 = .ok (.ifCond .ne 10, 3) := by decide +kernel
theorem dX12_run_204 : decode cX12_run 204 = .ok (.aload_n 0, 1) := by decide +kernel
theorem dX12_run_205 : decode cX12_run 205 = .ok (.getfield 272, 3) := by decide +kernel
theorem dX12_run_208 : decode cX12_run 208 = .ok (.goto 16, 3) := by decide +kernel
theorem dX12_run_211 : decode cX12_run 211 = .ok (.iload 5, 2) := by decide +kernel
theorem dX12_run_213 : decode cX12_run 213 = .ok (.iconst 1, 1) := by decide +kernel
theorem dX12_run_214 : decode cX12_run 214 = .ok (.if_icmp .ne 8, 3) := by decide +kernel
theorem dX12_run_217 : decode cX12_run 217 = .ok (.iload 8, 2) := by decide +kernel
theorem dX12_run_219 : decode cX12_run 219 = .ok (.goto 5, 3) := by decide +kernel
theorem dX12_run_222 : decode cX12_run 222 = .ok (.iload 9, 2) := by decide +kernel
theorem dX12_run_224 : decode cX12_run 224 = .ok (.ireturn, 1) := by decide +kernel
theorem dX12_layDealtBySign_0 : decode cX12_layDealtBySign 0 = .ok (.iconst 0, 1) := by decide +kernel
theorem dX12_layDealtBySign_1 : decode cX12_layDealtBySign 1 = .ok (.istore_n 3, 1) := by decide +kernel
theorem dX12_layDealtBySign_2 : decode cX12_layDealtBySign 2 = .ok (.iload_n 3, 1) := by decide +kernel
theorem dX12_layDealtBySign_3 : decode cX12_layDealtBySign 3 = .ok (.iconst 4, 1) := by decide +kernel
theorem dX12_layDealtBySign_4 : decode cX12_layDealtBySign 4 = .ok (.if_icmp .ge 36, 3) := by decide +kernel
theorem dX12_layDealtBySign_7 : decode cX12_layDealtBySign 7 = .ok (.aload_n 0, 1) := by decide +kernel
theorem dX12_layDealtBySign_8 : decode cX12_layDealtBySign 8 = .ok (.getfield 41, 3) := by decide +kernel
theorem dX12_layDealtBySign_11 : decode cX12_layDealtBySign 11 = .ok (.iload_n 3, 1) := by decide +kernel
theorem dX12_layDealtBySign_12 : decode cX12_layDealtBySign 12 = .ok (.aload_n 0, 1) := by decide +kernel
theorem dX12_layDealtBySign_13 : decode cX12_layDealtBySign 13 = .ok (.iload_n 1, 1) := by decide +kernel
theorem dX12_layDealtBySign_14 : decode cX12_layDealtBySign 14 = .ok (.iload_n 3, 1) := by decide +kernel
theorem dX12_layDealtBySign_15 : decode cX12_layDealtBySign 15 = .ok (.invokevirtual 168, 3) := by decide +kernel
theorem dX12_layDealtBySign_18 : decode cX12_layDealtBySign 18 = .ok (.ifCond .ne 7, 3) := by decide +kernel
theorem dX12_layDealtBySign_21 : decode cX12_layDealtBySign 21 = .ok (.iconst 0, 1) := by decide +kernel
theorem dX12_layDealtBySign_22 : decode cX12_layDealtBySign 22 = .ok (.goto 11, 3) := by decide +kernel
theorem dX12_layDealtBySign_25 : decode cX12_layDealtBySign 25 = .ok (.aload_n 0, 1) := by decide +kernel
theorem dX12_layDealtBySign_26 : decode cX12_layDealtBySign 26 = .ok (.iload_n 1, 1) := by decide +kernel
theorem dX12_layDealtBySign_27 : decode cX12_layDealtBySign 27 = .ok (.iload_n 2, 1) := by decide +kernel
theorem dX12_layDealtBySign_28 : decode cX12_layDealtBySign 28 = .ok (.iload_n 3, 1) := by decide +kernel
theorem dX12_layDealtBySign_29 : decode cX12_layDealtBySign 29 = .ok (.iconst (-1), 1) := by decide +kernel
theorem dX12_layDealtBySign_30 : decode cX12_layDealtBySign 30 = .ok (.invokevirtual 232, 3) := by decide +kernel
theorem dX12_layDealtBySign_33 : decode cX12_layDealtBySign 33 = .ok (.iastore, 1) := by decide +kernel
theorem dX12_layDealtBySign_34 : decode cX12_layDealtBySign 34 = .ok (.iinc 3 1, 3) := by decide +kernel
theorem dX12_layDealtBySign_37 : decode cX12_layDealtBySign 37 = .ok (.goto (-35), 3) := by decide +kernel
theorem dX12_layDealtBySign_40 : decode cX12_layDealtBySign 40 = .ok (.return_, 1) := by decide +kernel
theorem dX12_count_0 : decode cX12_count 0 = .ok (.iload_n 1, 1) := by decide +kernel
theorem dX12_count_1 : decode cX12_count 1 = .ok (.ifCond .ne 10, 3) := by decide +kernel
theorem dX12_count_4 : decode cX12_count 4 = .ok (.aload_n 0, 1) := by decide +kernel
theorem dX12_count_5 : decode cX12_count 5 = .ok (.getfield 44, 3) := by decide +kernel
theorem dX12_count_8 : decode cX12_count 8 = .ok (.goto 53, 3) := by decide +kernel
theorem dX12_count_11 : decode cX12_count 11 = .ok (.iload_n 1, 1) := by decide +kernel
theorem dX12_count_12 : decode cX12_count 12 = .ok (.iconst 1, 1) := by decide +kernel
theorem dX12_count_13 : decode cX12_count 13 = .ok (.if_icmp .ne 10, 3) := by decide +kernel
theorem dX12_count_16 : decode cX12_count 16 = .ok (.aload_n 0, 1) := by decide +kernel
theorem dX12_count_17 : decode cX12_count 17 = .ok (.getfield 114, 3) := by decide +kernel
theorem dX12_count_20 : decode cX12_count 20 = .ok (.goto 41, 3) := by decide +kernel
theorem dX12_count_23 : decode cX12_count 23 = .ok (.iload_n 1, 1) := by decide +kernel
theorem dX12_count_24 : decode cX12_count 24 = .ok (.iconst 2, 1) := by decide +kernel
theorem dX12_count_25 : decode cX12_count 25 = .ok (.if_icmp .ne 10, 3) := by decide +kernel
theorem dX12_count_28 : decode cX12_count 28 = .ok (.aload_n 0, 1) := by decide +kernel
theorem dX12_count_29 : decode cX12_count 29 = .ok (.getfield 124, 3) := by decide +kernel
theorem dX12_count_32 : decode cX12_count 32 = .ok (.goto 29, 3) := by decide +kernel
theorem dX12_count_35 : decode cX12_count 35 = .ok (.iload_n 1, 1) := by decide +kernel
theorem dX12_count_36 : decode cX12_count 36 = .ok (.iconst 3, 1) := by decide +kernel
theorem dX12_count_37 : decode cX12_count 37 = .ok (.if_icmp .ne 10, 3) := by decide +kernel
theorem dX12_count_40 : decode cX12_count 40 = .ok (.aload_n 0, 1) := by decide +kernel
theorem dX12_count_41 : decode cX12_count 41 = .ok (.getfield 50, 3) := by decide +kernel
theorem dX12_count_44 : decode cX12_count 44 = .ok (.goto 17, 3) := by decide +kernel
theorem dX12_count_47 : decode cX12_count 47 = .ok (.iload_n 1, 1) := by decide +kernel
theorem dX12_count_48 : decode cX12_count 48 = .ok (.iconst 4, 1) := by decide +kernel
theorem dX12_count_49 : decode cX12_count 49 = .ok (.if_icmp .ne 10, 3) := by decide +kernel
theorem dX12_count_52 : decode cX12_count 52 = .ok (.aload_n 0, 1) := by decide +kernel
theorem dX12_count_53 : decode cX12_count 53 = .ok (.getfield 252, 3) := by decide +kernel
theorem dX12_count_56 : decode cX12_count 56 = .ok (.goto 5, 3) := by decide +kernel
theorem dX12_count_59 : decode cX12_count 59 = .ok (.bipush (-102), 2) := by decide +kernel
theorem dX12_count_61 : decode cX12_count 61 = .ok (.ireturn, 1) := by decide +kernel
theorem dX12_tell_0 : decode cX12_tell 0 = .ok (.aload_n 0, 1) := by decide +kernel
theorem dX12_tell_1 : decode cX12_tell 1 = .ok (.ldc2_w 294, 3) := by decide +kernel
theorem dX12_tell_4 : decode cX12_tell 4 = .ok (.aload_n 0, 1) := by decide +kernel
theorem dX12_tell_5 : decode cX12_tell 5 = .ok (.getfield 296, 3) := by decide +kernel
theorem dX12_tell_8 : decode cX12_tell 8 = .ok (.lmul, 1) := by decide +kernel
theorem dX12_tell_9 : decode cX12_tell 9 = .ok (.lload_n 1, 1) := by decide +kernel
theorem dX12_tell_10 : decode cX12_tell 10 = .ok (.ladd, 1) := by decide +kernel
theorem dX12_tell_11 : decode cX12_tell 11 = .ok (.putfield 296, 3) := by decide +kernel
theorem dX12_tell_14 : decode cX12_tell 14 = .ok (.return_, 1) := by decide +kernel
theorem dX12_tellNews_0 : decode cX12_tellNews 0 = .ok (.aload_n 0, 1) := by decide +kernel
theorem dX12_tellNews_1 : decode cX12_tellNews 1 = .ok (.aload_n 0, 1) := by decide +kernel
theorem dX12_tellNews_2 : decode cX12_tellNews 2 = .ok (.getfield 31, 3) := by decide +kernel
theorem dX12_tellNews_5 : decode cX12_tellNews 5 = .ok (.iload_n 1, 1) := by decide +kernel
theorem dX12_tellNews_6 : decode cX12_tellNews 6 = .ok (.iaload, 1) := by decide +kernel
theorem dX12_tellNews_7 : decode cX12_tellNews 7 = .ok (.i2l, 1) := by decide +kernel
theorem dX12_tellNews_8 : decode cX12_tellNews 8 = .ok (.invokevirtual 299, 3) := by decide +kernel
theorem dX12_tellNews_11 : decode cX12_tellNews 11 = .ok (.aload_n 0, 1) := by decide +kernel
theorem dX12_tellNews_12 : decode cX12_tellNews 12 = .ok (.aload_n 0, 1) := by decide +kernel
theorem dX12_tellNews_13 : decode cX12_tellNews 13 = .ok (.getfield 34, 3) := by decide +kernel
theorem dX12_tellNews_16 : decode cX12_tellNews 16 = .ok (.iload_n 1, 1) := by decide +kernel
theorem dX12_tellNews_17 : decode cX12_tellNews 17 = .ok (.iaload, 1) := by decide +kernel
theorem dX12_tellNews_18 : decode cX12_tellNews 18 = .ok (.i2l, 1) := by decide +kernel
theorem dX12_tellNews_19 : decode cX12_tellNews 19 = .ok (.invokevirtual 299, 3) := by decide +kernel
theorem dX12_tellNews_22 : decode cX12_tellNews 22 = .ok (.iconst 0, 1) := by decide +kernel
theorem dX12_tellNews_23 : decode cX12_tellNews 23 = .ok (.istore_n 2, 1) := by decide +kernel
theorem dX12_tellNews_24 : decode cX12_tellNews 24 = .ok (.iload_n 2, 1) := by decide +kernel
theorem dX12_tellNews_25 : decode cX12_tellNews 25 = .ok (.iconst 4, 1) := by decide +kernel
theorem dX12_tellNews_26 : decode cX12_tellNews 26 = .ok (.if_icmp .ge 51, 3) := by decide +kernel
theorem dX12_tellNews_29 : decode cX12_tellNews 29 = .ok (.aload_n 0, 1) := by decide +kernel
theorem dX12_tellNews_30 : decode cX12_tellNews 30 = .ok (.getfield 44, 3) := by decide +kernel
theorem dX12_tellNews_33 : decode cX12_tellNews 33 = .ok (.ifCond .le 44, 3) := by decide +kernel
theorem dX12_tellNews_36 : decode cX12_tellNews 36 = .ok (.aload_n 0, 1) := by decide +kernel
theorem dX12_tellNews_37 : decode cX12_tellNews 37 = .ok (.aload_n 0, 1) := by decide +kernel
theorem dX12_tellNews_38 : decode cX12_tellNews 38 = .ok (.iload_n 1, 1) := by decide +kernel
theorem dX12_tellNews_39 : decode cX12_tellNews 39 = .ok (.iload_n 2, 1) := by decide +kernel
theorem dX12_tellNews_40 : decode cX12_tellNews 40 = .ok (.invokevirtual 168, 3) := by decide +kernel
theorem dX12_tellNews_43 : decode cX12_tellNews 43 = .ok (.ifCond .ne 9, 3) := by decide +kernel
theorem dX12_tellNews_46 : decode cX12_tellNews 46 = .ok (.ldc2_w 303, 3) := by decide +kernel
theorem dX12_tellNews_49 : decode cX12_tellNews 49 = .ok (.goto 19, 3) := by decide +kernel
theorem dX12_tellNews_52 : decode cX12_tellNews 52 = .ok (.aload_n 0, 1) := by decide +kernel
theorem dX12_tellNews_53 : decode cX12_tellNews 53 = .ok (.iload_n 1, 1) := by decide +kernel
theorem dX12_tellNews_54 : decode cX12_tellNews 54 = .ok (.iconst 1, 1) := by decide +kernel
theorem dX12_tellNews_55 : decode cX12_tellNews 55 = .ok (.aload_n 0, 1) := by decide +kernel
theorem dX12_tellNews_56 : decode cX12_tellNews 56 = .ok (.getfield 114, 3) := by decide +kernel
theorem dX12_tellNews_59 : decode cX12_tellNews 59 = .ok (.ishl, 1) := by decide +kernel
theorem dX12_tellNews_60 : decode cX12_tellNews 60 = .ok (.iconst 1, 1) := by decide +kernel
theorem dX12_tellNews_61 : decode cX12_tellNews 61 = .ok (.isub, 1) := by decide +kernel
theorem dX12_tellNews_62 : decode cX12_tellNews 62 = .ok (.iload_n 2, 1) := by decide +kernel
theorem dX12_tellNews_63 : decode cX12_tellNews 63 = .ok (.iconst (-1), 1) := by decide +kernel
theorem dX12_tellNews_64 : decode cX12_tellNews 64 = .ok (.invokevirtual 232, 3) := by decide +kernel
theorem dX12_tellNews_67 : decode cX12_tellNews 67 = .ok (.i2l, 1) := by decide +kernel
theorem dX12_tellNews_68 : decode cX12_tellNews 68 = .ok (.invokevirtual 299, 3) := by decide +kernel
theorem dX12_tellNews_71 : decode cX12_tellNews 71 = .ok (.iinc 2 1, 3) := by decide +kernel
theorem dX12_tellNews_74 : decode cX12_tellNews 74 = .ok (.goto (-50), 3) := by decide +kernel
theorem dX12_tellNews_77 : decode cX12_tellNews 77 = .ok (.return_, 1) := by decide +kernel
theorem dX12_digest_0 : decode cX12_digest 0 = .ok (.aload_n 0, 1) := by decide +kernel
theorem dX12_digest_1 : decode cX12_digest 1 = .ok (.ldc2_w 305, 3) := by decide +kernel
theorem dX12_digest_4 : decode cX12_digest 4 = .ok (.putfield 296, 3) := by decide +kernel
theorem dX12_digest_7 : decode cX12_digest 7 = .ok (.aload_n 0, 1) := by decide +kernel
theorem dX12_digest_8 : decode cX12_digest 8 = .ok (.getfield 44, 3) := by decide +kernel
theorem dX12_digest_11 : decode cX12_digest 11 = .ok (.ifCond .le 21, 3) := by decide +kernel
theorem dX12_digest_14 : decode cX12_digest 14 = .ok (.aload_n 0, 1) := by decide +kernel
theorem dX12_digest_15 : decode cX12_digest 15 = .ok (.aload_n 0, 1) := by decide +kernel
theorem dX12_digest_16 : decode cX12_digest 16 = .ok (.getfield 101, 3) := by decide +kernel
theorem dX12_digest_19 : decode cX12_digest 19 = .ok (.i2l, 1) := by decide +kernel
theorem dX12_digest_20 : decode cX12_digest 20 = .ok (.invokevirtual 299, 3) := by decide +kernel
theorem dX12_digest_23 : decode cX12_digest 23 = .ok (.aload_n 0, 1) := by decide +kernel
theorem dX12_digest_24 : decode cX12_digest 24 = .ok (.aload_n 0, 1) := by decide +kernel
theorem dX12_digest_25 : decode cX12_digest 25 = .ok (.getfield 104, 3) := by decide +kernel
theorem dX12_digest_28 : decode cX12_digest 28 = .ok (.i2l, 1) := by decide +kernel
theorem dX12_digest_29 : decode cX12_digest 29 = .ok (.invokevirtual 299, 3) := by decide +kernel
theorem dX12_digest_32 : decode cX12_digest 32 = .ok (.iconst 0, 1) := by decide +kernel
theorem dX12_digest_33 : decode cX12_digest 33 = .ok (.istore_n 1, 1) := by decide +kernel
theorem dX12_digest_34 : decode cX12_digest 34 = .ok (.iload_n 1, 1) := by decide +kernel
theorem dX12_digest_35 : decode cX12_digest 35 = .ok (.aload_n 0, 1) := by decide +kernel
theorem dX12_digest_36 : decode cX12_digest 36 = .ok (.getfield 44, 3) := by decide +kernel
theorem dX12_digest_39 : decode cX12_digest 39 = .ok (.if_icmp .ge 31, 3) := by decide +kernel
theorem dX12_digest_42 : decode cX12_digest 42 = .ok (.aload_n 0, 1) := by decide +kernel
theorem dX12_digest_43 : decode cX12_digest 43 = .ok (.aload_n 0, 1) := by decide +kernel
theorem dX12_digest_44 : decode cX12_digest 44 = .ok (.getfield 13, 3) := by decide +kernel
theorem dX12_digest_47 : decode cX12_digest 47 = .ok (.iload_n 1, 1) := by decide +kernel
theorem dX12_digest_48 : decode cX12_digest 48 = .ok (.iaload, 1) := by decide +kernel
theorem dX12_digest_49 : decode cX12_digest 49 = .ok (.i2l, 1) := by decide +kernel
theorem dX12_digest_50 : decode cX12_digest 50 = .ok (.invokevirtual 299, 3) := by decide +kernel
theorem dX12_digest_53 : decode cX12_digest 53 = .ok (.aload_n 0, 1) := by decide +kernel
theorem dX12_digest_54 : decode cX12_digest 54 = .ok (.aload_n 0, 1) := by decide +kernel
theorem dX12_digest_55 : decode cX12_digest 55 = .ok (.getfield 16, 3) := by decide +kernel
theorem dX12_digest_58 : decode cX12_digest 58 = .ok (.iload_n 1, 1) := by decide +kernel
theorem dX12_digest_59 : decode cX12_digest 59 = .ok (.iaload, 1) := by decide +kernel
theorem dX12_digest_60 : decode cX12_digest 60 = .ok (.i2l, 1) := by decide +kernel
theorem dX12_digest_61 : decode cX12_digest 61 = .ok (.invokevirtual 299, 3) := by decide +kernel
theorem dX12_digest_64 : decode cX12_digest 64 = .ok (.iinc 1 1, 3) := by decide +kernel
theorem dX12_digest_67 : decode cX12_digest 67 = .ok (.goto (-33), 3) := by decide +kernel
theorem dX12_digest_70 : decode cX12_digest 70 = .ok (.iconst 0, 1) := by decide +kernel
theorem dX12_digest_71 : decode cX12_digest 71 = .ok (.istore_n 1, 1) := by decide +kernel
theorem dX12_digest_72 : decode cX12_digest 72 = .ok (.iload_n 1, 1) := by decide +kernel
theorem dX12_digest_73 : decode cX12_digest 73 = .ok (.aload_n 0, 1) := by decide +kernel
theorem dX12_digest_74 : decode cX12_digest 74 = .ok (.getfield 114, 3) := by decide +kernel
theorem dX12_digest_77 : decode cX12_digest 77 = .ok (.if_icmp .ge 31, 3) := by decide +kernel
theorem dX12_digest_80 : decode cX12_digest 80 = .ok (.aload_n 0, 1) := by decide +kernel
theorem dX12_digest_81 : decode cX12_digest 81 = .ok (.aload_n 0, 1) := by decide +kernel
theorem dX12_digest_82 : decode cX12_digest 82 = .ok (.getfield 25, 3) := by decide +kernel
theorem dX12_digest_85 : decode cX12_digest 85 = .ok (.iload_n 1, 1) := by decide +kernel
theorem dX12_digest_86 : decode cX12_digest 86 = .ok (.iaload, 1) := by decide +kernel
theorem dX12_digest_87 : decode cX12_digest 87 = .ok (.i2l, 1) := by decide +kernel
theorem dX12_digest_88 : decode cX12_digest 88 = .ok (.invokevirtual 299, 3) := by decide +kernel
theorem dX12_digest_91 : decode cX12_digest 91 = .ok (.aload_n 0, 1) := by decide +kernel
theorem dX12_digest_92 : decode cX12_digest 92 = .ok (.aload_n 0, 1) := by decide +kernel
theorem dX12_digest_93 : decode cX12_digest 93 = .ok (.getfield 28, 3) := by decide +kernel
theorem dX12_digest_96 : decode cX12_digest 96 = .ok (.iload_n 1, 1) := by decide +kernel
theorem dX12_digest_97 : decode cX12_digest 97 = .ok (.iaload, 1) := by decide +kernel
theorem dX12_digest_98 : decode cX12_digest 98 = .ok (.i2l, 1) := by decide +kernel
theorem dX12_digest_99 : decode cX12_digest 99 = .ok (.invokevirtual 299, 3) := by decide +kernel
theorem dX12_digest_102 : decode cX12_digest 102 = .ok (.iinc 1 1, 3) := by decide +kernel
theorem dX12_digest_105 : decode cX12_digest 105 = .ok (.goto (-33), 3) := by decide +kernel
theorem dX12_digest_108 : decode cX12_digest 108 = .ok (.iconst 0, 1) := by decide +kernel
theorem dX12_digest_109 : decode cX12_digest 109 = .ok (.istore_n 1, 1) := by decide +kernel
theorem dX12_digest_110 : decode cX12_digest 110 = .ok (.iload_n 1, 1) := by decide +kernel
theorem dX12_digest_111 : decode cX12_digest 111 = .ok (.aload_n 0, 1) := by decide +kernel
theorem dX12_digest_112 : decode cX12_digest 112 = .ok (.getfield 124, 3) := by decide +kernel
theorem dX12_digest_115 : decode cX12_digest 115 = .ok (.if_icmp .ge 14, 3) := by decide +kernel
theorem dX12_digest_118 : decode cX12_digest 118 = .ok (.aload_n 0, 1) := by decide +kernel
theorem dX12_digest_119 : decode cX12_digest 119 = .ok (.iload_n 1, 1) := by decide +kernel
theorem dX12_digest_120 : decode cX12_digest 120 = .ok (.invokevirtual 307, 3) := by decide +kernel
theorem dX12_digest_123 : decode cX12_digest 123 = .ok (.iinc 1 1, 3) := by decide +kernel
theorem dX12_digest_126 : decode cX12_digest 126 = .ok (.goto (-16), 3) := by decide +kernel
theorem dX12_digest_129 : decode cX12_digest 129 = .ok (.aload_n 0, 1) := by decide +kernel
theorem dX12_digest_130 : decode cX12_digest 130 = .ok (.getfield 44, 3) := by decide +kernel
theorem dX12_digest_133 : decode cX12_digest 133 = .ok (.ifCond .le 37, 3) := by decide +kernel
theorem dX12_digest_136 : decode cX12_digest 136 = .ok (.aload_n 0, 1) := by decide +kernel
theorem dX12_digest_137 : decode cX12_digest 137 = .ok (.aload_n 0, 1) := by decide +kernel
theorem dX12_digest_138 : decode cX12_digest 138 = .ok (.invokevirtual 267, 3) := by decide +kernel
theorem dX12_digest_141 : decode cX12_digest 141 = .ok (.aload_n 0, 1) := by decide +kernel
theorem dX12_digest_142 : decode cX12_digest 142 = .ok (.invokevirtual 171, 3) := by decide +kernel
theorem dX12_digest_145 : decode cX12_digest 145 = .ok (.i2l, 1) := by decide +kernel
theorem dX12_digest_146 : decode cX12_digest 146 = .ok (.iconst 0, 1) := by decide +kernel
theorem dX12_digest_147 : decode cX12_digest 147 = .ok (.invokestatic 174, 3) := by decide +kernel
theorem dX12_digest_150 : decode cX12_digest 150 = .ok (.invokevirtual 299, 3) := by decide +kernel
theorem dX12_digest_153 : decode cX12_digest 153 = .ok (.aload_n 0, 1) := by decide +kernel
theorem dX12_digest_154 : decode cX12_digest 154 = .ok (.aload_n 0, 1) := by decide +kernel
theorem dX12_digest_155 : decode cX12_digest 155 = .ok (.invokevirtual 267, 3) := by decide +kernel
theorem dX12_digest_158 : decode cX12_digest 158 = .ok (.aload_n 0, 1) := by decide +kernel
theorem dX12_digest_159 : decode cX12_digest 159 = .ok (.invokevirtual 171, 3) := by decide +kernel
theorem dX12_digest_162 : decode cX12_digest 162 = .ok (.i2l, 1) := by decide +kernel
theorem dX12_digest_163 : decode cX12_digest 163 = .ok (.iconst 1, 1) := by decide +kernel
theorem dX12_digest_164 : decode cX12_digest 164 = .ok (.invokestatic 174, 3) := by decide +kernel
theorem dX12_digest_167 : decode cX12_digest 167 = .ok (.invokevirtual 299, 3) := by decide +kernel
theorem dX12_digest_170 : decode cX12_digest 170 = .ok (.iconst 0, 1) := by decide +kernel
theorem dX12_digest_171 : decode cX12_digest 171 = .ok (.istore_n 1, 1) := by decide +kernel
theorem dX12_digest_172 : decode cX12_digest 172 = .ok (.iload_n 1, 1) := by decide +kernel
theorem dX12_digest_173 : decode cX12_digest 173 = .ok (.aload_n 0, 1) := by decide +kernel
theorem dX12_digest_174 : decode cX12_digest 174 = .ok (.getfield 50, 3) := by decide +kernel
theorem dX12_digest_177 : decode cX12_digest 177 = .ok (.if_icmp .ge 20, 3) := by decide +kernel
theorem dX12_digest_180 : decode cX12_digest 180 = .ok (.aload_n 0, 1) := by decide +kernel
theorem dX12_digest_181 : decode cX12_digest 181 = .ok (.aload_n 0, 1) := by decide +kernel
theorem dX12_digest_182 : decode cX12_digest 182 = .ok (.getfield 7, 3) := by decide +kernel
theorem dX12_digest_185 : decode cX12_digest 185 = .ok (.iload_n 1, 1) := by decide +kernel
theorem dX12_digest_186 : decode cX12_digest 186 = .ok (.iaload, 1) := by decide +kernel
theorem dX12_digest_187 : decode cX12_digest 187 = .ok (.i2l, 1) := by decide +kernel
theorem dX12_digest_188 : decode cX12_digest 188 = .ok (.invokevirtual 299, 3) := by decide +kernel
theorem dX12_digest_191 : decode cX12_digest 191 = .ok (.iinc 1 1, 3) := by decide +kernel
theorem dX12_digest_194 : decode cX12_digest 194 = .ok (.goto (-22), 3) := by decide +kernel
theorem dX12_digest_197 : decode cX12_digest 197 = .ok (.iconst 0, 1) := by decide +kernel
theorem dX12_digest_198 : decode cX12_digest 198 = .ok (.istore_n 1, 1) := by decide +kernel
theorem dX12_digest_199 : decode cX12_digest 199 = .ok (.iload_n 1, 1) := by decide +kernel
theorem dX12_digest_200 : decode cX12_digest 200 = .ok (.iconst 5, 1) := by decide +kernel
theorem dX12_digest_201 : decode cX12_digest 201 = .ok (.if_icmp .ge 19, 3) := by decide +kernel
theorem dX12_digest_204 : decode cX12_digest 204 = .ok (.aload_n 0, 1) := by decide +kernel
theorem dX12_digest_205 : decode cX12_digest 205 = .ok (.aload_n 0, 1) := by decide +kernel
theorem dX12_digest_206 : decode cX12_digest 206 = .ok (.iload_n 1, 1) := by decide +kernel
theorem dX12_digest_207 : decode cX12_digest 207 = .ok (.invokevirtual 310, 3) := by decide +kernel
theorem dX12_digest_210 : decode cX12_digest 210 = .ok (.i2l, 1) := by decide +kernel
theorem dX12_digest_211 : decode cX12_digest 211 = .ok (.invokevirtual 299, 3) := by decide +kernel
theorem dX12_digest_214 : decode cX12_digest 214 = .ok (.iinc 1 1, 3) := by decide +kernel
theorem dX12_digest_217 : decode cX12_digest 217 = .ok (.goto (-18), 3) := by decide +kernel
theorem dX12_digest_220 : decode cX12_digest 220 = .ok (.aload_n 0, 1) := by decide +kernel
theorem dX12_digest_221 : decode cX12_digest 221 = .ok (.getfield 296, 3) := by decide +kernel
theorem dX12_digest_224 : decode cX12_digest 224 = .ok (.lreturn, 1) := by decide +kernel
theorem dL_law_0 : decode cL_law 0 = .ok (.new 7, 3) := by decide +kernel
theorem dL_law_3 : decode cL_law 3 = .ok (.dup, 1) := by decide +kernel
theorem dL_law_4 : decode cL_law 4 = .ok (.invokespecial 9, 3) := by decide +kernel
theorem dL_law_7 : decode cL_law 7 = .ok (.astore_n 1, 1) := by decide +kernel
theorem dL_law_8 : decode cL_law 8 = .ok (.new 10, 3) := by decide +kernel
theorem dL_law_11 : decode cL_law 11 = .ok (.dup, 1) := by decide +kernel
theorem dL_law_12 : decode cL_law 12 = .ok (.invokespecial 12, 3) := by decide +kernel
theorem dL_law_15 : decode cL_law 15 = .ok (.astore_n 2, 1) := by decide +kernel
theorem dL_law_16 : decode cL_law 16 = .ok (.iconst 0, 1) := by decide +kernel
theorem dL_law_17 : decode cL_law 17 = .ok (.istore_n 3, 1) := by decide +kernel
theorem dL_law_18 : decode cL_law 18 = .ok (.iload_n 3, 1) := by decide +kernel
theorem dL_law_19 : decode cL_law 19 = .ok (.aload_n 0, 1) := by decide +kernel
theorem dL_law_20 : decode cL_law 20 = .ok (.arraylength, 1) := by decide +kernel
theorem dL_law_21 : decode cL_law 21 = .ok (.bipush 7, 2) := by decide +kernel
theorem dL_law_23 : decode cL_law 23 = .ok (.isub, 1) := by decide +kernel
theorem dL_law_24 : decode cL_law 24 = .ok (.if_icmp .gt 1171, 3) := by decide +kernel
theorem dL_law_27 : decode cL_law 27 = .ok (.aload_n 0, 1) := by decide +kernel
theorem dL_law_28 : decode cL_law 28 = .ok (.iload_n 3, 1) := by decide +kernel
theorem dL_law_29 : decode cL_law 29 = .ok (.iaload, 1) := by decide +kernel
theorem dL_law_30 : decode cL_law 30 = .ok (.bipush 31, 2) := by decide +kernel
theorem dL_law_32 : decode cL_law 32 = .ok (.iand, 1) := by decide +kernel
theorem dL_law_33 : decode cL_law 33 = .ok (.tableswitch 1156 0 26 #[123, 176, 189, 202, 215, 248, 281, 324, 357, 390, 434, 478, 531, 595, 649, 682, 705, 738, 782, 825, 869, 945, 978, 1032, 1056, 1119, 1142], 123) := by decide +kernel
theorem dL_law_156 : decode cL_law 156 = .ok (.aload_n 1, 1) := by decide +kernel
theorem dL_law_157 : decode cL_law 157 = .ok (.aload_n 0, 1) := by decide +kernel
theorem dL_law_158 : decode cL_law 158 = .ok (.iload_n 3, 1) := by decide +kernel
theorem dL_law_159 : decode cL_law 159 = .ok (.iconst 1, 1) := by decide +kernel
theorem dL_law_160 : decode cL_law 160 = .ok (.iadd, 1) := by decide +kernel
theorem dL_law_161 : decode cL_law 161 = .ok (.iaload, 1) := by decide +kernel
theorem dL_law_162 : decode cL_law 162 = .ok (.i2l, 1) := by decide +kernel
theorem dL_law_163 : decode cL_law 163 = .ok (.bipush 32, 2) := by decide +kernel
theorem dL_law_165 : decode cL_law 165 = .ok (.lshl, 1) := by decide +kernel
theorem dL_law_166 : decode cL_law 166 = .ok (.aload_n 0, 1) := by decide +kernel
theorem dL_law_167 : decode cL_law 167 = .ok (.iload_n 3, 1) := by decide +kernel
theorem dL_law_168 : decode cL_law 168 = .ok (.iconst 2, 1) := by decide +kernel
theorem dL_law_169 : decode cL_law 169 = .ok (.iadd, 1) := by decide +kernel
theorem dL_law_170 : decode cL_law 170 = .ok (.iaload, 1) := by decide +kernel
theorem dL_law_171 : decode cL_law 171 = .ok (.i2l, 1) := by decide +kernel
theorem dL_law_172 : decode cL_law 172 = .ok (.ldc2_w 13, 3) := by decide +kernel
theorem dL_law_175 : decode cL_law 175 = .ok (.land, 1) := by decide +kernel
theorem dL_law_176 : decode cL_law 176 = .ok (.lor, 1) := by decide +kernel
theorem dL_law_177 : decode cL_law 177 = .ok (.invokevirtual 15, 3) := by decide +kernel
theorem dL_law_180 : decode cL_law 180 = .ok (.aload_n 2, 1) := by decide +kernel
theorem dL_law_181 : decode cL_law 181 = .ok (.aload_n 0, 1) := by decide +kernel
theorem dL_law_182 : decode cL_law 182 = .ok (.iload_n 3, 1) := by decide +kernel
theorem dL_law_183 : decode cL_law 183 = .ok (.iconst 1, 1) := by decide +kernel
theorem dL_law_184 : decode cL_law 184 = .ok (.iadd, 1) := by decide +kernel
theorem dL_law_185 : decode cL_law 185 = .ok (.iaload, 1) := by decide +kernel
theorem dL_law_186 : decode cL_law 186 = .ok (.i2l, 1) := by decide +kernel
theorem dL_law_187 : decode cL_law 187 = .ok (.bipush 32, 2) := by decide +kernel
theorem dL_law_189 : decode cL_law 189 = .ok (.lshl, 1) := by decide +kernel
theorem dL_law_190 : decode cL_law 190 = .ok (.aload_n 0, 1) := by decide +kernel
theorem dL_law_191 : decode cL_law 191 = .ok (.iload_n 3, 1) := by decide +kernel
theorem dL_law_192 : decode cL_law 192 = .ok (.iconst 2, 1) := by decide +kernel
theorem dL_law_193 : decode cL_law 193 = .ok (.iadd, 1) := by decide +kernel
theorem dL_law_194 : decode cL_law 194 = .ok (.iaload, 1) := by decide +kernel
theorem dL_law_195 : decode cL_law 195 = .ok (.i2l, 1) := by decide +kernel
theorem dL_law_196 : decode cL_law 196 = .ok (.ldc2_w 13, 3) := by decide +kernel
theorem dL_law_199 : decode cL_law 199 = .ok (.land, 1) := by decide +kernel
theorem dL_law_200 : decode cL_law 200 = .ok (.lor, 1) := by decide +kernel
theorem dL_law_201 : decode cL_law 201 = .ok (.invokevirtual 19, 3) := by decide +kernel
theorem dL_law_204 : decode cL_law 204 = .ok (.if_icmp .eq 985, 3) := by decide +kernel
theorem dL_law_207 : decode cL_law 207 = .ok (.iconst 0, 1) := by decide +kernel
theorem dL_law_208 : decode cL_law 208 = .ok (.ireturn, 1) := by decide +kernel
theorem dL_law_209 : decode cL_law 209 = .ok (.aload_n 1, 1) := by decide +kernel
theorem dL_law_210 : decode cL_law 210 = .ok (.invokevirtual 20, 3) := by decide +kernel
theorem dL_law_213 : decode cL_law 213 = .ok (.aload_n 2, 1) := by decide +kernel
theorem dL_law_214 : decode cL_law 214 = .ok (.invokevirtual 24, 3) := by decide +kernel
theorem dL_law_217 : decode cL_law 217 = .ok (.if_icmp .eq 972, 3) := by decide +kernel
theorem dL_law_220 : decode cL_law 220 = .ok (.iconst 0, 1) := by decide +kernel
theorem dL_law_221 : decode cL_law 221 = .ok (.ireturn, 1) := by decide +kernel
theorem dL_law_222 : decode cL_law 222 = .ok (.aload_n 1, 1) := by decide +kernel
theorem dL_law_223 : decode cL_law 223 = .ok (.invokevirtual 25, 3) := by decide +kernel
theorem dL_law_226 : decode cL_law 226 = .ok (.aload_n 2, 1) := by decide +kernel
theorem dL_law_227 : decode cL_law 227 = .ok (.invokevirtual 28, 3) := by decide +kernel
theorem dL_law_230 : decode cL_law 230 = .ok (.if_icmp .eq 959, 3) := by decide +kernel
theorem dL_law_233 : decode cL_law 233 = .ok (.iconst 0, 1) := by decide +kernel
theorem dL_law_234 : decode cL_law 234 = .ok (.ireturn, 1) := by decide +kernel
theorem dL_law_235 : decode cL_law 235 = .ok (.aload_n 1, 1) := by decide +kernel
theorem dL_law_236 : decode cL_law 236 = .ok (.invokevirtual 29, 3) := by decide +kernel
theorem dL_law_239 : decode cL_law 239 = .ok (.aload_n 2, 1) := by decide +kernel
theorem dL_law_240 : decode cL_law 240 = .ok (.invokevirtual 32, 3) := by decide +kernel
theorem dL_law_243 : decode cL_law 243 = .ok (.if_icmp .eq 946, 3) := by decide +kernel
theorem dL_law_246 : decode cL_law 246 = .ok (.iconst 0, 1) := by decide +kernel
theorem dL_law_247 : decode cL_law 247 = .ok (.ireturn, 1) := by decide +kernel
theorem dL_law_248 : decode cL_law 248 = .ok (.aload_n 1, 1) := by decide +kernel
theorem dL_law_249 : decode cL_law 249 = .ok (.aload_n 0, 1) := by decide +kernel
theorem dL_law_250 : decode cL_law 250 = .ok (.iload_n 3, 1) := by decide +kernel
theorem dL_law_251 : decode cL_law 251 = .ok (.iconst 1, 1) := by decide +kernel
theorem dL_law_252 : decode cL_law 252 = .ok (.iadd, 1) := by decide +kernel
theorem dL_law_253 : decode cL_law 253 = .ok (.iaload, 1) := by decide +kernel
theorem dL_law_254 : decode cL_law 254 = .ok (.aload_n 0, 1) := by decide +kernel
theorem dL_law_255 : decode cL_law 255 = .ok (.iload_n 3, 1) := by decide +kernel
theorem dL_law_256 : decode cL_law 256 = .ok (.iconst 2, 1) := by decide +kernel
theorem dL_law_257 : decode cL_law 257 = .ok (.iadd, 1) := by decide +kernel
theorem dL_law_258 : decode cL_law 258 = .ok (.iaload, 1) := by decide +kernel
theorem dL_law_259 : decode cL_law 259 = .ok (.invokevirtual 33, 3) := by decide +kernel
theorem dL_law_262 : decode cL_law 262 = .ok (.aload_n 2, 1) := by decide +kernel
theorem dL_law_263 : decode cL_law 263 = .ok (.aload_n 0, 1) := by decide +kernel
theorem dL_law_264 : decode cL_law 264 = .ok (.iload_n 3, 1) := by decide +kernel
theorem dL_law_265 : decode cL_law 265 = .ok (.iconst 1, 1) := by decide +kernel
theorem dL_law_266 : decode cL_law 266 = .ok (.iadd, 1) := by decide +kernel
theorem dL_law_267 : decode cL_law 267 = .ok (.iaload, 1) := by decide +kernel
theorem dL_law_268 : decode cL_law 268 = .ok (.aload_n 0, 1) := by decide +kernel
theorem dL_law_269 : decode cL_law 269 = .ok (.iload_n 3, 1) := by decide +kernel
theorem dL_law_270 : decode cL_law 270 = .ok (.iconst 2, 1) := by decide +kernel
theorem dL_law_271 : decode cL_law 271 = .ok (.iadd, 1) := by decide +kernel
theorem dL_law_272 : decode cL_law 272 = .ok (.iaload, 1) := by decide +kernel
theorem dL_law_273 : decode cL_law 273 = .ok (.invokevirtual 37, 3) := by decide +kernel
theorem dL_law_276 : decode cL_law 276 = .ok (.if_icmp .eq 913, 3) := by decide +kernel
theorem dL_law_279 : decode cL_law 279 = .ok (.iconst 0, 1) := by decide +kernel
theorem dL_law_280 : decode cL_law 280 = .ok (.ireturn, 1) := by decide +kernel
theorem dL_law_281 : decode cL_law 281 = .ok (.aload_n 1, 1) := by decide +kernel
theorem dL_law_282 : decode cL_law 282 = .ok (.aload_n 0, 1) := by decide +kernel
theorem dL_law_283 : decode cL_law 283 = .ok (.iload_n 3, 1) := by decide +kernel
theorem dL_law_284 : decode cL_law 284 = .ok (.iconst 1, 1) := by decide +kernel
theorem dL_law_285 : decode cL_law 285 = .ok (.iadd, 1) := by decide +kernel
theorem dL_law_286 : decode cL_law 286 = .ok (.iaload, 1) := by decide +kernel
theorem dL_law_287 : decode cL_law 287 = .ok (.aload_n 0, 1) := by decide +kernel
theorem dL_law_288 : decode cL_law 288 = .ok (.iload_n 3, 1) := by decide +kernel
theorem dL_law_289 : decode cL_law 289 = .ok (.iconst 2, 1) := by decide +kernel
theorem dL_law_290 : decode cL_law 290 = .ok (.iadd, 1) := by decide +kernel
theorem dL_law_291 : decode cL_law 291 = .ok (.iaload, 1) := by decide +kernel
theorem dL_law_292 : decode cL_law 292 = .ok (.invokevirtual 38, 3) := by decide +kernel
theorem dL_law_295 : decode cL_law 295 = .ok (.aload_n 2, 1) := by decide +kernel
theorem dL_law_296 : decode cL_law 296 = .ok (.aload_n 0, 1) := by decide +kernel
theorem dL_law_297 : decode cL_law 297 = .ok (.iload_n 3, 1) := by decide +kernel
theorem dL_law_298 : decode cL_law 298 = .ok (.iconst 1, 1) := by decide +kernel
theorem dL_law_299 : decode cL_law 299 = .ok (.iadd, 1) := by decide +kernel
theorem dL_law_300 : decode cL_law 300 = .ok (.iaload, 1) := by decide +kernel
theorem dL_law_301 : decode cL_law 301 = .ok (.aload_n 0, 1) := by decide +kernel
theorem dL_law_302 : decode cL_law 302 = .ok (.iload_n 3, 1) := by decide +kernel
theorem dL_law_303 : decode cL_law 303 = .ok (.iconst 2, 1) := by decide +kernel
theorem dL_law_304 : decode cL_law 304 = .ok (.iadd, 1) := by decide +kernel
theorem dL_law_305 : decode cL_law 305 = .ok (.iaload, 1) := by decide +kernel
theorem dL_law_306 : decode cL_law 306 = .ok (.invokevirtual 41, 3) := by decide +kernel
theorem dL_law_309 : decode cL_law 309 = .ok (.if_icmp .eq 880, 3) := by decide +kernel
theorem dL_law_312 : decode cL_law 312 = .ok (.iconst 0, 1) := by decide +kernel
theorem dL_law_313 : decode cL_law 313 = .ok (.ireturn, 1) := by decide +kernel
theorem dL_law_314 : decode cL_law 314 = .ok (.aload_n 1, 1) := by decide +kernel
theorem dL_law_315 : decode cL_law 315 = .ok (.aload_n 0, 1) := by decide +kernel
theorem dL_law_316 : decode cL_law 316 = .ok (.iload_n 3, 1) := by decide +kernel
theorem dL_law_317 : decode cL_law 317 = .ok (.iconst 1, 1) := by decide +kernel
theorem dL_law_318 : decode cL_law 318 = .ok (.iadd, 1) := by decide +kernel
theorem dL_law_319 : decode cL_law 319 = .ok (.iaload, 1) := by decide +kernel
theorem dL_law_320 : decode cL_law 320 = .ok (.aload_n 0, 1) := by decide +kernel
theorem dL_law_321 : decode cL_law 321 = .ok (.iload_n 3, 1) := by decide +kernel
theorem dL_law_322 : decode cL_law 322 = .ok (.iconst 2, 1) := by decide +kernel
theorem dL_law_323 : decode cL_law 323 = .ok (.iadd, 1) := by decide +kernel
theorem dL_law_324 : decode cL_law 324 = .ok (.iaload, 1) := by decide +kernel
theorem dL_law_325 : decode cL_law 325 = .ok (.aload_n 0, 1) := by decide +kernel
theorem dL_law_326 : decode cL_law 326 = .ok (.iload_n 3, 1) := by decide +kernel
theorem dL_law_327 : decode cL_law 327 = .ok (.iconst 3, 1) := by decide +kernel
theorem dL_law_328 : decode cL_law 328 = .ok (.iadd, 1) := by decide +kernel
theorem dL_law_329 : decode cL_law 329 = .ok (.iaload, 1) := by decide +kernel
theorem dL_law_330 : decode cL_law 330 = .ok (.invokevirtual 42, 3) := by decide +kernel
theorem dL_law_333 : decode cL_law 333 = .ok (.aload_n 2, 1) := by decide +kernel
theorem dL_law_334 : decode cL_law 334 = .ok (.aload_n 0, 1) := by decide +kernel
theorem dL_law_335 : decode cL_law 335 = .ok (.iload_n 3, 1) := by decide +kernel
theorem dL_law_336 : decode cL_law 336 = .ok (.iconst 1, 1) := by decide +kernel
theorem dL_law_337 : decode cL_law 337 = .ok (.iadd, 1) := by decide +kernel
theorem dL_law_338 : decode cL_law 338 = .ok (.iaload, 1) := by decide +kernel
theorem dL_law_339 : decode cL_law 339 = .ok (.aload_n 0, 1) := by decide +kernel
theorem dL_law_340 : decode cL_law 340 = .ok (.iload_n 3, 1) := by decide +kernel
theorem dL_law_341 : decode cL_law 341 = .ok (.iconst 2, 1) := by decide +kernel
theorem dL_law_342 : decode cL_law 342 = .ok (.iadd, 1) := by decide +kernel
theorem dL_law_343 : decode cL_law 343 = .ok (.iaload, 1) := by decide +kernel
theorem dL_law_344 : decode cL_law 344 = .ok (.aload_n 0, 1) := by decide +kernel
theorem dL_law_345 : decode cL_law 345 = .ok (.iload_n 3, 1) := by decide +kernel
theorem dL_law_346 : decode cL_law 346 = .ok (.iconst 3, 1) := by decide +kernel
theorem dL_law_347 : decode cL_law 347 = .ok (.iadd, 1) := by decide +kernel
theorem dL_law_348 : decode cL_law 348 = .ok (.iaload, 1) := by decide +kernel
theorem dL_law_349 : decode cL_law 349 = .ok (.invokevirtual 46, 3) := by decide +kernel
theorem dL_law_352 : decode cL_law 352 = .ok (.if_icmp .eq 837, 3) := by decide +kernel
theorem dL_law_355 : decode cL_law 355 = .ok (.iconst 0, 1) := by decide +kernel
theorem dL_law_356 : decode cL_law 356 = .ok (.ireturn, 1) := by decide +kernel
theorem dL_law_357 : decode cL_law 357 = .ok (.aload_n 1, 1) := by decide +kernel
theorem dL_law_358 : decode cL_law 358 = .ok (.aload_n 0, 1) := by decide +kernel
theorem dL_law_359 : decode cL_law 359 = .ok (.iload_n 3, 1) := by decide +kernel
theorem dL_law_360 : decode cL_law 360 = .ok (.iconst 1, 1) := by decide +kernel
theorem dL_law_361 : decode cL_law 361 = .ok (.iadd, 1) := by decide +kernel
theorem dL_law_362 : decode cL_law 362 = .ok (.iaload, 1) := by decide +kernel
theorem dL_law_363 : decode cL_law 363 = .ok (.aload_n 0, 1) := by decide +kernel
theorem dL_law_364 : decode cL_law 364 = .ok (.iload_n 3, 1) := by decide +kernel
theorem dL_law_365 : decode cL_law 365 = .ok (.iconst 2, 1) := by decide +kernel
theorem dL_law_366 : decode cL_law 366 = .ok (.iadd, 1) := by decide +kernel
theorem dL_law_367 : decode cL_law 367 = .ok (.iaload, 1) := by decide +kernel
theorem dL_law_368 : decode cL_law 368 = .ok (.invokevirtual 47, 3) := by decide +kernel
theorem dL_law_371 : decode cL_law 371 = .ok (.aload_n 2, 1) := by decide +kernel
theorem dL_law_372 : decode cL_law 372 = .ok (.aload_n 0, 1) := by decide +kernel
theorem dL_law_373 : decode cL_law 373 = .ok (.iload_n 3, 1) := by decide +kernel
theorem dL_law_374 : decode cL_law 374 = .ok (.iconst 1, 1) := by decide +kernel
theorem dL_law_375 : decode cL_law 375 = .ok (.iadd, 1) := by decide +kernel
theorem dL_law_376 : decode cL_law 376 = .ok (.iaload, 1) := by decide +kernel
theorem dL_law_377 : decode cL_law 377 = .ok (.aload_n 0, 1) := by decide +kernel
theorem dL_law_378 : decode cL_law 378 = .ok (.iload_n 3, 1) := by decide +kernel
theorem dL_law_379 : decode cL_law 379 = .ok (.iconst 2, 1) := by decide +kernel
theorem dL_law_380 : decode cL_law 380 = .ok (.iadd, 1) := by decide +kernel
theorem dL_law_381 : decode cL_law 381 = .ok (.iaload, 1) := by decide +kernel
theorem dL_law_382 : decode cL_law 382 = .ok (.invokevirtual 50, 3) := by decide +kernel
theorem dL_law_385 : decode cL_law 385 = .ok (.if_icmp .eq 804, 3) := by decide +kernel
theorem dL_law_388 : decode cL_law 388 = .ok (.iconst 0, 1) := by decide +kernel
theorem dL_law_389 : decode cL_law 389 = .ok (.ireturn, 1) := by decide +kernel
theorem dL_law_390 : decode cL_law 390 = .ok (.aload_n 1, 1) := by decide +kernel
theorem dL_law_391 : decode cL_law 391 = .ok (.aload_n 0, 1) := by decide +kernel
theorem dL_law_392 : decode cL_law 392 = .ok (.iload_n 3, 1) := by decide +kernel
theorem dL_law_393 : decode cL_law 393 = .ok (.iconst 1, 1) := by decide +kernel
theorem dL_law_394 : decode cL_law 394 = .ok (.iadd, 1) := by decide +kernel
theorem dL_law_395 : decode cL_law 395 = .ok (.iaload, 1) := by decide +kernel
theorem dL_law_396 : decode cL_law 396 = .ok (.aload_n 0, 1) := by decide +kernel
theorem dL_law_397 : decode cL_law 397 = .ok (.iload_n 3, 1) := by decide +kernel
theorem dL_law_398 : decode cL_law 398 = .ok (.iconst 2, 1) := by decide +kernel
theorem dL_law_399 : decode cL_law 399 = .ok (.iadd, 1) := by decide +kernel
theorem dL_law_400 : decode cL_law 400 = .ok (.iaload, 1) := by decide +kernel
theorem dL_law_401 : decode cL_law 401 = .ok (.invokevirtual 51, 3) := by decide +kernel
theorem dL_law_404 : decode cL_law 404 = .ok (.aload_n 2, 1) := by decide +kernel
theorem dL_law_405 : decode cL_law 405 = .ok (.aload_n 0, 1) := by decide +kernel
theorem dL_law_406 : decode cL_law 406 = .ok (.iload_n 3, 1) := by decide +kernel
theorem dL_law_407 : decode cL_law 407 = .ok (.iconst 1, 1) := by decide +kernel
theorem dL_law_408 : decode cL_law 408 = .ok (.iadd, 1) := by decide +kernel
theorem dL_law_409 : decode cL_law 409 = .ok (.iaload, 1) := by decide +kernel
theorem dL_law_410 : decode cL_law 410 = .ok (.aload_n 0, 1) := by decide +kernel
theorem dL_law_411 : decode cL_law 411 = .ok (.iload_n 3, 1) := by decide +kernel
theorem dL_law_412 : decode cL_law 412 = .ok (.iconst 2, 1) := by decide +kernel
theorem dL_law_413 : decode cL_law 413 = .ok (.iadd, 1) := by decide +kernel
theorem dL_law_414 : decode cL_law 414 = .ok (.iaload, 1) := by decide +kernel
theorem dL_law_415 : decode cL_law 415 = .ok (.invokevirtual 54, 3) := by decide +kernel
theorem dL_law_418 : decode cL_law 418 = .ok (.if_icmp .eq 771, 3) := by decide +kernel
theorem dL_law_421 : decode cL_law 421 = .ok (.iconst 0, 1) := by decide +kernel
theorem dL_law_422 : decode cL_law 422 = .ok (.ireturn, 1) := by decide +kernel
theorem dL_law_423 : decode cL_law 423 = .ok (.aload_n 1, 1) := by decide +kernel
theorem dL_law_424 : decode cL_law 424 = .ok (.aload_n 0, 1) := by decide +kernel
theorem dL_law_425 : decode cL_law 425 = .ok (.iload_n 3, 1) := by decide +kernel
theorem dL_law_426 : decode cL_law 426 = .ok (.iconst 1, 1) := by decide +kernel
theorem dL_law_427 : decode cL_law 427 = .ok (.iadd, 1) := by decide +kernel
theorem dL_law_428 : decode cL_law 428 = .ok (.iaload, 1) := by decide +kernel
theorem dL_law_429 : decode cL_law 429 = .ok (.aload_n 0, 1) := by decide +kernel
theorem dL_law_430 : decode cL_law 430 = .ok (.iload_n 3, 1) := by decide +kernel
theorem dL_law_431 : decode cL_law 431 = .ok (.iconst 2, 1) := by decide +kernel
theorem dL_law_432 : decode cL_law 432 = .ok (.iadd, 1) := by decide +kernel
theorem dL_law_433 : decode cL_law 433 = .ok (.iaload, 1) := by decide +kernel
theorem dL_law_434 : decode cL_law 434 = .ok (.aload_n 0, 1) := by decide +kernel
theorem dL_law_435 : decode cL_law 435 = .ok (.iload_n 3, 1) := by decide +kernel
theorem dL_law_436 : decode cL_law 436 = .ok (.iconst 3, 1) := by decide +kernel
theorem dL_law_437 : decode cL_law 437 = .ok (.iadd, 1) := by decide +kernel
theorem dL_law_438 : decode cL_law 438 = .ok (.iaload, 1) := by decide +kernel
theorem dL_law_439 : decode cL_law 439 = .ok (.invokevirtual 55, 3) := by decide +kernel
theorem dL_law_442 : decode cL_law 442 = .ok (.aload_n 2, 1) := by decide +kernel
theorem dL_law_443 : decode cL_law 443 = .ok (.aload_n 0, 1) := by decide +kernel
theorem dL_law_444 : decode cL_law 444 = .ok (.iload_n 3, 1) := by decide +kernel
theorem dL_law_445 : decode cL_law 445 = .ok (.iconst 1, 1) := by decide +kernel
theorem dL_law_446 : decode cL_law 446 = .ok (.iadd, 1) := by decide +kernel
theorem dL_law_447 : decode cL_law 447 = .ok (.iaload, 1) := by decide +kernel
theorem dL_law_448 : decode cL_law 448 = .ok (.aload_n 0, 1) := by decide +kernel
theorem dL_law_449 : decode cL_law 449 = .ok (.iload_n 3, 1) := by decide +kernel
theorem dL_law_450 : decode cL_law 450 = .ok (.iconst 2, 1) := by decide +kernel
theorem dL_law_451 : decode cL_law 451 = .ok (.iadd, 1) := by decide +kernel
theorem dL_law_452 : decode cL_law 452 = .ok (.iaload, 1) := by decide +kernel
theorem dL_law_453 : decode cL_law 453 = .ok (.aload_n 0, 1) := by decide +kernel
theorem dL_law_454 : decode cL_law 454 = .ok (.iload_n 3, 1) := by decide +kernel
theorem dL_law_455 : decode cL_law 455 = .ok (.iconst 3, 1) := by decide +kernel
theorem dL_law_456 : decode cL_law 456 = .ok (.iadd, 1) := by decide +kernel
theorem dL_law_457 : decode cL_law 457 = .ok (.iaload, 1) := by decide +kernel
theorem dL_law_458 : decode cL_law 458 = .ok (.invokevirtual 59, 3) := by decide +kernel
theorem dL_law_461 : decode cL_law 461 = .ok (.lcmp, 1) := by decide +kernel
theorem dL_law_462 : decode cL_law 462 = .ok (.ifCond .eq 727, 3) := by decide +kernel
theorem dL_law_465 : decode cL_law 465 = .ok (.iconst 0, 1) := by decide +kernel
theorem dL_law_466 : decode cL_law 466 = .ok (.ireturn, 1) := by decide +kernel
theorem dL_law_467 : decode cL_law 467 = .ok (.aload_n 1, 1) := by decide +kernel
theorem dL_law_468 : decode cL_law 468 = .ok (.aload_n 0, 1) := by decide +kernel
theorem dL_law_469 : decode cL_law 469 = .ok (.iload_n 3, 1) := by decide +kernel
theorem dL_law_470 : decode cL_law 470 = .ok (.iconst 1, 1) := by decide +kernel
theorem dL_law_471 : decode cL_law 471 = .ok (.iadd, 1) := by decide +kernel
theorem dL_law_472 : decode cL_law 472 = .ok (.iaload, 1) := by decide +kernel
theorem dL_law_473 : decode cL_law 473 = .ok (.aload_n 0, 1) := by decide +kernel
theorem dL_law_474 : decode cL_law 474 = .ok (.iload_n 3, 1) := by decide +kernel
theorem dL_law_475 : decode cL_law 475 = .ok (.iconst 2, 1) := by decide +kernel
theorem dL_law_476 : decode cL_law 476 = .ok (.iadd, 1) := by decide +kernel
theorem dL_law_477 : decode cL_law 477 = .ok (.iaload, 1) := by decide +kernel
theorem dL_law_478 : decode cL_law 478 = .ok (.aload_n 0, 1) := by decide +kernel
theorem dL_law_479 : decode cL_law 479 = .ok (.iload_n 3, 1) := by decide +kernel
theorem dL_law_480 : decode cL_law 480 = .ok (.iconst 3, 1) := by decide +kernel
theorem dL_law_481 : decode cL_law 481 = .ok (.iadd, 1) := by decide +kernel
theorem dL_law_482 : decode cL_law 482 = .ok (.iaload, 1) := by decide +kernel
theorem dL_law_483 : decode cL_law 483 = .ok (.invokevirtual 60, 3) := by decide +kernel
theorem dL_law_486 : decode cL_law 486 = .ok (.aload_n 2, 1) := by decide +kernel
theorem dL_law_487 : decode cL_law 487 = .ok (.aload_n 0, 1) := by decide +kernel
theorem dL_law_488 : decode cL_law 488 = .ok (.iload_n 3, 1) := by decide +kernel
theorem dL_law_489 : decode cL_law 489 = .ok (.iconst 1, 1) := by decide +kernel
theorem dL_law_490 : decode cL_law 490 = .ok (.iadd, 1) := by decide +kernel
theorem dL_law_491 : decode cL_law 491 = .ok (.iaload, 1) := by decide +kernel
theorem dL_law_492 : decode cL_law 492 = .ok (.aload_n 0, 1) := by decide +kernel
theorem dL_law_493 : decode cL_law 493 = .ok (.iload_n 3, 1) := by decide +kernel
theorem dL_law_494 : decode cL_law 494 = .ok (.iconst 2, 1) := by decide +kernel
theorem dL_law_495 : decode cL_law 495 = .ok (.iadd, 1) := by decide +kernel
theorem dL_law_496 : decode cL_law 496 = .ok (.iaload, 1) := by decide +kernel
theorem dL_law_497 : decode cL_law 497 = .ok (.aload_n 0, 1) := by decide +kernel
theorem dL_law_498 : decode cL_law 498 = .ok (.iload_n 3, 1) := by decide +kernel
theorem dL_law_499 : decode cL_law 499 = .ok (.iconst 3, 1) := by decide +kernel
theorem dL_law_500 : decode cL_law 500 = .ok (.iadd, 1) := by decide +kernel
theorem dL_law_501 : decode cL_law 501 = .ok (.iaload, 1) := by decide +kernel
theorem dL_law_502 : decode cL_law 502 = .ok (.invokevirtual 63, 3) := by decide +kernel
theorem dL_law_505 : decode cL_law 505 = .ok (.lcmp, 1) := by decide +kernel
theorem dL_law_506 : decode cL_law 506 = .ok (.ifCond .eq 683, 3) := by decide +kernel
theorem dL_law_509 : decode cL_law 509 = .ok (.iconst 0, 1) := by decide +kernel
theorem dL_law_510 : decode cL_law 510 = .ok (.ireturn, 1) := by decide +kernel
theorem dL_law_511 : decode cL_law 511 = .ok (.aload_n 1, 1) := by decide +kernel
theorem dL_law_512 : decode cL_law 512 = .ok (.aload_n 0, 1) := by decide +kernel
theorem dL_law_513 : decode cL_law 513 = .ok (.iload_n 3, 1) := by decide +kernel
theorem dL_law_514 : decode cL_law 514 = .ok (.iconst 1, 1) := by decide +kernel
theorem dL_law_515 : decode cL_law 515 = .ok (.iadd, 1) := by decide +kernel
theorem dL_law_516 : decode cL_law 516 = .ok (.iaload, 1) := by decide +kernel
theorem dL_law_517 : decode cL_law 517 = .ok (.aload_n 0, 1) := by decide +kernel
theorem dL_law_518 : decode cL_law 518 = .ok (.iload_n 3, 1) := by decide +kernel
theorem dL_law_519 : decode cL_law 519 = .ok (.iconst 2, 1) := by decide +kernel
theorem dL_law_520 : decode cL_law 520 = .ok (.iadd, 1) := by decide +kernel
theorem dL_law_521 : decode cL_law 521 = .ok (.iaload, 1) := by decide +kernel
theorem dL_law_522 : decode cL_law 522 = .ok (.aload_n 0, 1) := by decide +kernel
theorem dL_law_523 : decode cL_law 523 = .ok (.iload_n 3, 1) := by decide +kernel
theorem dL_law_524 : decode cL_law 524 = .ok (.iconst 3, 1) := by decide +kernel
theorem dL_law_525 : decode cL_law 525 = .ok (.iadd, 1) := by decide +kernel
theorem dL_law_526 : decode cL_law 526 = .ok (.iaload, 1) := by decide +kernel
theorem dL_law_527 : decode cL_law 527 = .ok (.aload_n 0, 1) := by decide +kernel
theorem dL_law_528 : decode cL_law 528 = .ok (.iload_n 3, 1) := by decide +kernel
theorem dL_law_529 : decode cL_law 529 = .ok (.iconst 4, 1) := by decide +kernel
theorem dL_law_530 : decode cL_law 530 = .ok (.iadd, 1) := by decide +kernel
theorem dL_law_531 : decode cL_law 531 = .ok (.iaload, 1) := by decide +kernel
theorem dL_law_532 : decode cL_law 532 = .ok (.invokevirtual 64, 3) := by decide +kernel
theorem dL_law_535 : decode cL_law 535 = .ok (.aload_n 2, 1) := by decide +kernel
theorem dL_law_536 : decode cL_law 536 = .ok (.aload_n 0, 1) := by decide +kernel
theorem dL_law_537 : decode cL_law 537 = .ok (.iload_n 3, 1) := by decide +kernel
theorem dL_law_538 : decode cL_law 538 = .ok (.iconst 1, 1) := by decide +kernel
theorem dL_law_539 : decode cL_law 539 = .ok (.iadd, 1) := by decide +kernel
theorem dL_law_540 : decode cL_law 540 = .ok (.iaload, 1) := by decide +kernel
theorem dL_law_541 : decode cL_law 541 = .ok (.aload_n 0, 1) := by decide +kernel
theorem dL_law_542 : decode cL_law 542 = .ok (.iload_n 3, 1) := by decide +kernel
theorem dL_law_543 : decode cL_law 543 = .ok (.iconst 2, 1) := by decide +kernel
theorem dL_law_544 : decode cL_law 544 = .ok (.iadd, 1) := by decide +kernel
theorem dL_law_545 : decode cL_law 545 = .ok (.iaload, 1) := by decide +kernel
theorem dL_law_546 : decode cL_law 546 = .ok (.aload_n 0, 1) := by decide +kernel
theorem dL_law_547 : decode cL_law 547 = .ok (.iload_n 3, 1) := by decide +kernel
theorem dL_law_548 : decode cL_law 548 = .ok (.iconst 3, 1) := by decide +kernel
theorem dL_law_549 : decode cL_law 549 = .ok (.iadd, 1) := by decide +kernel
theorem dL_law_550 : decode cL_law 550 = .ok (.iaload, 1) := by decide +kernel
theorem dL_law_551 : decode cL_law 551 = .ok (.aload_n 0, 1) := by decide +kernel
theorem dL_law_552 : decode cL_law 552 = .ok (.iload_n 3, 1) := by decide +kernel
theorem dL_law_553 : decode cL_law 553 = .ok (.iconst 4, 1) := by decide +kernel
theorem dL_law_554 : decode cL_law 554 = .ok (.iadd, 1) := by decide +kernel
theorem dL_law_555 : decode cL_law 555 = .ok (.iaload, 1) := by decide +kernel
theorem dL_law_556 : decode cL_law 556 = .ok (.invokevirtual 68, 3) := by decide +kernel
theorem dL_law_559 : decode cL_law 559 = .ok (.if_icmp .eq 630, 3) := by decide +kernel
theorem dL_law_562 : decode cL_law 562 = .ok (.iconst 0, 1) := by decide +kernel
theorem dL_law_563 : decode cL_law 563 = .ok (.ireturn, 1) := by decide +kernel
theorem dL_law_564 : decode cL_law 564 = .ok (.aload_n 1, 1) := by decide +kernel
theorem dL_law_565 : decode cL_law 565 = .ok (.aload_n 0, 1) := by decide +kernel
theorem dL_law_566 : decode cL_law 566 = .ok (.iload_n 3, 1) := by decide +kernel
theorem dL_law_567 : decode cL_law 567 = .ok (.iconst 1, 1) := by decide +kernel
theorem dL_law_568 : decode cL_law 568 = .ok (.iadd, 1) := by decide +kernel
theorem dL_law_569 : decode cL_law 569 = .ok (.iaload, 1) := by decide +kernel
theorem dL_law_570 : decode cL_law 570 = .ok (.aload_n 0, 1) := by decide +kernel
theorem dL_law_571 : decode cL_law 571 = .ok (.iload_n 3, 1) := by decide +kernel
theorem dL_law_572 : decode cL_law 572 = .ok (.iconst 2, 1) := by decide +kernel
theorem dL_law_573 : decode cL_law 573 = .ok (.iadd, 1) := by decide +kernel
theorem dL_law_574 : decode cL_law 574 = .ok (.iaload, 1) := by decide +kernel
theorem dL_law_575 : decode cL_law 575 = .ok (.aload_n 0, 1) := by decide +kernel
theorem dL_law_576 : decode cL_law 576 = .ok (.iload_n 3, 1) := by decide +kernel
theorem dL_law_577 : decode cL_law 577 = .ok (.iconst 3, 1) := by decide +kernel
theorem dL_law_578 : decode cL_law 578 = .ok (.iadd, 1) := by decide +kernel
theorem dL_law_579 : decode cL_law 579 = .ok (.iaload, 1) := by decide +kernel
theorem dL_law_580 : decode cL_law 580 = .ok (.aload_n 0, 1) := by decide +kernel
theorem dL_law_581 : decode cL_law 581 = .ok (.iload_n 3, 1) := by decide +kernel
theorem dL_law_582 : decode cL_law 582 = .ok (.iconst 4, 1) := by decide +kernel
theorem dL_law_583 : decode cL_law 583 = .ok (.iadd, 1) := by decide +kernel
theorem dL_law_584 : decode cL_law 584 = .ok (.iaload, 1) := by decide +kernel
theorem dL_law_585 : decode cL_law 585 = .ok (.aload_n 0, 1) := by decide +kernel
theorem dL_law_586 : decode cL_law 586 = .ok (.iload_n 3, 1) := by decide +kernel
theorem dL_law_587 : decode cL_law 587 = .ok (.iconst 5, 1) := by decide +kernel
theorem dL_law_588 : decode cL_law 588 = .ok (.iadd, 1) := by decide +kernel
theorem dL_law_589 : decode cL_law 589 = .ok (.iaload, 1) := by decide +kernel
theorem dL_law_590 : decode cL_law 590 = .ok (.invokevirtual 69, 3) := by decide +kernel
theorem dL_law_593 : decode cL_law 593 = .ok (.aload_n 2, 1) := by decide +kernel
theorem dL_law_594 : decode cL_law 594 = .ok (.aload_n 0, 1) := by decide +kernel
theorem dL_law_595 : decode cL_law 595 = .ok (.iload_n 3, 1) := by decide +kernel
theorem dL_law_596 : decode cL_law 596 = .ok (.iconst 1, 1) := by decide +kernel
theorem dL_law_597 : decode cL_law 597 = .ok (.iadd, 1) := by decide +kernel
theorem dL_law_598 : decode cL_law 598 = .ok (.iaload, 1) := by decide +kernel
theorem dL_law_599 : decode cL_law 599 = .ok (.aload_n 0, 1) := by decide +kernel
theorem dL_law_600 : decode cL_law 600 = .ok (.iload_n 3, 1) := by decide +kernel
theorem dL_law_601 : decode cL_law 601 = .ok (.iconst 2, 1) := by decide +kernel
theorem dL_law_602 : decode cL_law 602 = .ok (.iadd, 1) := by decide +kernel
theorem dL_law_603 : decode cL_law 603 = .ok (.iaload, 1) := by decide +kernel
theorem dL_law_604 : decode cL_law 604 = .ok (.aload_n 0, 1) := by decide +kernel
theorem dL_law_605 : decode cL_law 605 = .ok (.iload_n 3, 1) := by decide +kernel
theorem dL_law_606 : decode cL_law 606 = .ok (.iconst 3, 1) := by decide +kernel
theorem dL_law_607 : decode cL_law 607 = .ok (.iadd, 1) := by decide +kernel
theorem dL_law_608 : decode cL_law 608 = .ok (.iaload, 1) := by decide +kernel
theorem dL_law_609 : decode cL_law 609 = .ok (.aload_n 0, 1) := by decide +kernel
theorem dL_law_610 : decode cL_law 610 = .ok (.iload_n 3, 1) := by decide +kernel
theorem dL_law_611 : decode cL_law 611 = .ok (.iconst 4, 1) := by decide +kernel
theorem dL_law_612 : decode cL_law 612 = .ok (.iadd, 1) := by decide +kernel
theorem dL_law_613 : decode cL_law 613 = .ok (.iaload, 1) := by decide +kernel
theorem dL_law_614 : decode cL_law 614 = .ok (.aload_n 0, 1) := by decide +kernel
theorem dL_law_615 : decode cL_law 615 = .ok (.iload_n 3, 1) := by decide +kernel
theorem dL_law_616 : decode cL_law 616 = .ok (.iconst 5, 1) := by decide +kernel
theorem dL_law_617 : decode cL_law 617 = .ok (.iadd, 1) := by decide +kernel
theorem dL_law_618 : decode cL_law 618 = .ok (.iaload, 1) := by decide +kernel
theorem dL_law_619 : decode cL_law 619 = .ok (.invokevirtual 73, 3) := by decide +kernel
theorem dL_law_622 : decode cL_law 622 = .ok (.lcmp, 1) := by decide +kernel
theorem dL_law_623 : decode cL_law 623 = .ok (.ifCond .eq 566, 3) := by decide +kernel
theorem dL_law_626 : decode cL_law 626 = .ok (.iconst 0, 1) := by decide +kernel
theorem dL_law_627 : decode cL_law 627 = .ok (.ireturn, 1) := by decide +kernel
theorem dL_law_628 : decode cL_law 628 = .ok (.aload_n 1, 1) := by decide +kernel
theorem dL_law_629 : decode cL_law 629 = .ok (.aload_n 0, 1) := by decide +kernel
theorem dL_law_630 : decode cL_law 630 = .ok (.iload_n 3, 1) := by decide +kernel
theorem dL_law_631 : decode cL_law 631 = .ok (.iconst 1, 1) := by decide +kernel
theorem dL_law_632 : decode cL_law 632 = .ok (.iadd, 1) := by decide +kernel
theorem dL_law_633 : decode cL_law 633 = .ok (.iaload, 1) := by decide +kernel
theorem dL_law_634 : decode cL_law 634 = .ok (.aload_n 0, 1) := by decide +kernel
theorem dL_law_635 : decode cL_law 635 = .ok (.iload_n 3, 1) := by decide +kernel
theorem dL_law_636 : decode cL_law 636 = .ok (.iconst 2, 1) := by decide +kernel
theorem dL_law_637 : decode cL_law 637 = .ok (.iadd, 1) := by decide +kernel
theorem dL_law_638 : decode cL_law 638 = .ok (.iaload, 1) := by decide +kernel
theorem dL_law_639 : decode cL_law 639 = .ok (.aload_n 0, 1) := by decide +kernel
theorem dL_law_640 : decode cL_law 640 = .ok (.iload_n 3, 1) := by decide +kernel
theorem dL_law_641 : decode cL_law 641 = .ok (.iconst 3, 1) := by decide +kernel
theorem dL_law_642 : decode cL_law 642 = .ok (.iadd, 1) := by decide +kernel
theorem dL_law_643 : decode cL_law 643 = .ok (.iaload, 1) := by decide +kernel
theorem dL_law_644 : decode cL_law 644 = .ok (.aload_n 0, 1) := by decide +kernel
theorem dL_law_645 : decode cL_law 645 = .ok (.iload_n 3, 1) := by decide +kernel
theorem dL_law_646 : decode cL_law 646 = .ok (.iconst 4, 1) := by decide +kernel
theorem dL_law_647 : decode cL_law 647 = .ok (.iadd, 1) := by decide +kernel
theorem dL_law_648 : decode cL_law 648 = .ok (.iaload, 1) := by decide +kernel
theorem dL_law_649 : decode cL_law 649 = .ok (.invokevirtual 74, 3) := by decide +kernel
theorem dL_law_652 : decode cL_law 652 = .ok (.aload_n 2, 1) := by decide +kernel
theorem dL_law_653 : decode cL_law 653 = .ok (.aload_n 0, 1) := by decide +kernel
theorem dL_law_654 : decode cL_law 654 = .ok (.iload_n 3, 1) := by decide +kernel
theorem dL_law_655 : decode cL_law 655 = .ok (.iconst 1, 1) := by decide +kernel
theorem dL_law_656 : decode cL_law 656 = .ok (.iadd, 1) := by decide +kernel
theorem dL_law_657 : decode cL_law 657 = .ok (.iaload, 1) := by decide +kernel
theorem dL_law_658 : decode cL_law 658 = .ok (.aload_n 0, 1) := by decide +kernel
theorem dL_law_659 : decode cL_law 659 = .ok (.iload_n 3, 1) := by decide +kernel
theorem dL_law_660 : decode cL_law 660 = .ok (.iconst 2, 1) := by decide +kernel
theorem dL_law_661 : decode cL_law 661 = .ok (.iadd, 1) := by decide +kernel
theorem dL_law_662 : decode cL_law 662 = .ok (.iaload, 1) := by decide +kernel
theorem dL_law_663 : decode cL_law 663 = .ok (.aload_n 0, 1) := by decide +kernel
theorem dL_law_664 : decode cL_law 664 = .ok (.iload_n 3, 1) := by decide +kernel
theorem dL_law_665 : decode cL_law 665 = .ok (.iconst 3, 1) := by decide +kernel
theorem dL_law_666 : decode cL_law 666 = .ok (.iadd, 1) := by decide +kernel
theorem dL_law_667 : decode cL_law 667 = .ok (.iaload, 1) := by decide +kernel
theorem dL_law_668 : decode cL_law 668 = .ok (.aload_n 0, 1) := by decide +kernel
theorem dL_law_669 : decode cL_law 669 = .ok (.iload_n 3, 1) := by decide +kernel
theorem dL_law_670 : decode cL_law 670 = .ok (.iconst 4, 1) := by decide +kernel
theorem dL_law_671 : decode cL_law 671 = .ok (.iadd, 1) := by decide +kernel
theorem dL_law_672 : decode cL_law 672 = .ok (.iaload, 1) := by decide +kernel
theorem dL_law_673 : decode cL_law 673 = .ok (.invokevirtual 78, 3) := by decide +kernel
theorem dL_law_676 : decode cL_law 676 = .ok (.lcmp, 1) := by decide +kernel
theorem dL_law_677 : decode cL_law 677 = .ok (.ifCond .eq 512, 3) := by decide +kernel
theorem dL_law_680 : decode cL_law 680 = .ok (.iconst 0, 1) := by decide +kernel
theorem dL_law_681 : decode cL_law 681 = .ok (.ireturn, 1) := by decide +kernel
theorem dL_law_682 : decode cL_law 682 = .ok (.aload_n 1, 1) := by decide +kernel
theorem dL_law_683 : decode cL_law 683 = .ok (.aload_n 0, 1) := by decide +kernel
theorem dL_law_684 : decode cL_law 684 = .ok (.iload_n 3, 1) := by decide +kernel
theorem dL_law_685 : decode cL_law 685 = .ok (.iconst 1, 1) := by decide +kernel
theorem dL_law_686 : decode cL_law 686 = .ok (.iadd, 1) := by decide +kernel
theorem dL_law_687 : decode cL_law 687 = .ok (.iaload, 1) := by decide +kernel
theorem dL_law_688 : decode cL_law 688 = .ok (.aload_n 0, 1) := by decide +kernel
theorem dL_law_689 : decode cL_law 689 = .ok (.iload_n 3, 1) := by decide +kernel
theorem dL_law_690 : decode cL_law 690 = .ok (.iconst 2, 1) := by decide +kernel
theorem dL_law_691 : decode cL_law 691 = .ok (.iadd, 1) := by decide +kernel
theorem dL_law_692 : decode cL_law 692 = .ok (.iaload, 1) := by decide +kernel
theorem dL_law_693 : decode cL_law 693 = .ok (.invokevirtual 79, 3) := by decide +kernel
theorem dL_law_696 : decode cL_law 696 = .ok (.aload_n 2, 1) := by decide +kernel
theorem dL_law_697 : decode cL_law 697 = .ok (.aload_n 0, 1) := by decide +kernel
theorem dL_law_698 : decode cL_law 698 = .ok (.iload_n 3, 1) := by decide +kernel
theorem dL_law_699 : decode cL_law 699 = .ok (.iconst 1, 1) := by decide +kernel
theorem dL_law_700 : decode cL_law 700 = .ok (.iadd, 1) := by decide +kernel
theorem dL_law_701 : decode cL_law 701 = .ok (.iaload, 1) := by decide +kernel
theorem dL_law_702 : decode cL_law 702 = .ok (.aload_n 0, 1) := by decide +kernel
theorem dL_law_703 : decode cL_law 703 = .ok (.iload_n 3, 1) := by decide +kernel
theorem dL_law_704 : decode cL_law 704 = .ok (.iconst 2, 1) := by decide +kernel
theorem dL_law_705 : decode cL_law 705 = .ok (.iadd, 1) := by decide +kernel
theorem dL_law_706 : decode cL_law 706 = .ok (.iaload, 1) := by decide +kernel
theorem dL_law_707 : decode cL_law 707 = .ok (.invokevirtual 82, 3) := by decide +kernel
theorem dL_law_710 : decode cL_law 710 = .ok (.if_icmp .eq 479, 3) := by decide +kernel
theorem dL_law_713 : decode cL_law 713 = .ok (.iconst 0, 1) := by decide +kernel
theorem dL_law_714 : decode cL_law 714 = .ok (.ireturn, 1) := by decide +kernel
theorem dL_law_715 : decode cL_law 715 = .ok (.aload_n 1, 1) := by decide +kernel
theorem dL_law_716 : decode cL_law 716 = .ok (.aload_n 0, 1) := by decide +kernel
theorem dL_law_717 : decode cL_law 717 = .ok (.iload_n 3, 1) := by decide +kernel
theorem dL_law_718 : decode cL_law 718 = .ok (.iconst 1, 1) := by decide +kernel
theorem dL_law_719 : decode cL_law 719 = .ok (.iadd, 1) := by decide +kernel
theorem dL_law_720 : decode cL_law 720 = .ok (.iaload, 1) := by decide +kernel
theorem dL_law_721 : decode cL_law 721 = .ok (.invokevirtual 83, 3) := by decide +kernel
theorem dL_law_724 : decode cL_law 724 = .ok (.aload_n 2, 1) := by decide +kernel
theorem dL_law_725 : decode cL_law 725 = .ok (.aload_n 0, 1) := by decide +kernel
theorem dL_law_726 : decode cL_law 726 = .ok (.iload_n 3, 1) := by decide +kernel
theorem dL_law_727 : decode cL_law 727 = .ok (.iconst 1, 1) := by decide +kernel
theorem dL_law_728 : decode cL_law 728 = .ok (.iadd, 1) := by decide +kernel
theorem dL_law_729 : decode cL_law 729 = .ok (.iaload, 1) := by decide +kernel
theorem dL_law_730 : decode cL_law 730 = .ok (.invokevirtual 87, 3) := by decide +kernel
theorem dL_law_733 : decode cL_law 733 = .ok (.if_icmp .eq 456, 3) := by decide +kernel
theorem dL_law_736 : decode cL_law 736 = .ok (.iconst 0, 1) := by decide +kernel
theorem dL_law_737 : decode cL_law 737 = .ok (.ireturn, 1) := by decide +kernel
theorem dL_law_738 : decode cL_law 738 = .ok (.aload_n 1, 1) := by decide +kernel
theorem dL_law_739 : decode cL_law 739 = .ok (.aload_n 0, 1) := by decide +kernel
theorem dL_law_740 : decode cL_law 740 = .ok (.iload_n 3, 1) := by decide +kernel
theorem dL_law_741 : decode cL_law 741 = .ok (.iconst 1, 1) := by decide +kernel
theorem dL_law_742 : decode cL_law 742 = .ok (.iadd, 1) := by decide +kernel
theorem dL_law_743 : decode cL_law 743 = .ok (.iaload, 1) := by decide +kernel
theorem dL_law_744 : decode cL_law 744 = .ok (.aload_n 0, 1) := by decide +kernel
theorem dL_law_745 : decode cL_law 745 = .ok (.iload_n 3, 1) := by decide +kernel
theorem dL_law_746 : decode cL_law 746 = .ok (.iconst 2, 1) := by decide +kernel
theorem dL_law_747 : decode cL_law 747 = .ok (.iadd, 1) := by decide +kernel
theorem dL_law_748 : decode cL_law 748 = .ok (.iaload, 1) := by decide +kernel
theorem dL_law_749 : decode cL_law 749 = .ok (.invokevirtual 88, 3) := by decide +kernel
theorem dL_law_752 : decode cL_law 752 = .ok (.aload_n 2, 1) := by decide +kernel
theorem dL_law_753 : decode cL_law 753 = .ok (.aload_n 0, 1) := by decide +kernel
theorem dL_law_754 : decode cL_law 754 = .ok (.iload_n 3, 1) := by decide +kernel
theorem dL_law_755 : decode cL_law 755 = .ok (.iconst 1, 1) := by decide +kernel
theorem dL_law_756 : decode cL_law 756 = .ok (.iadd, 1) := by decide +kernel
theorem dL_law_757 : decode cL_law 757 = .ok (.iaload, 1) := by decide +kernel
theorem dL_law_758 : decode cL_law 758 = .ok (.aload_n 0, 1) := by decide +kernel
theorem dL_law_759 : decode cL_law 759 = .ok (.iload_n 3, 1) := by decide +kernel
theorem dL_law_760 : decode cL_law 760 = .ok (.iconst 2, 1) := by decide +kernel
theorem dL_law_761 : decode cL_law 761 = .ok (.iadd, 1) := by decide +kernel
theorem dL_law_762 : decode cL_law 762 = .ok (.iaload, 1) := by decide +kernel
theorem dL_law_763 : decode cL_law 763 = .ok (.invokevirtual 91, 3) := by decide +kernel
theorem dL_law_766 : decode cL_law 766 = .ok (.if_icmp .eq 423, 3) := by decide +kernel
theorem dL_law_769 : decode cL_law 769 = .ok (.iconst 0, 1) := by decide +kernel
theorem dL_law_770 : decode cL_law 770 = .ok (.ireturn, 1) := by decide +kernel
theorem dL_law_771 : decode cL_law 771 = .ok (.aload_n 1, 1) := by decide +kernel
theorem dL_law_772 : decode cL_law 772 = .ok (.aload_n 0, 1) := by decide +kernel
theorem dL_law_773 : decode cL_law 773 = .ok (.iload_n 3, 1) := by decide +kernel
theorem dL_law_774 : decode cL_law 774 = .ok (.iconst 1, 1) := by decide +kernel
theorem dL_law_775 : decode cL_law 775 = .ok (.iadd, 1) := by decide +kernel
theorem dL_law_776 : decode cL_law 776 = .ok (.iaload, 1) := by decide +kernel
theorem dL_law_777 : decode cL_law 777 = .ok (.aload_n 0, 1) := by decide +kernel
theorem dL_law_778 : decode cL_law 778 = .ok (.iload_n 3, 1) := by decide +kernel
theorem dL_law_779 : decode cL_law 779 = .ok (.iconst 2, 1) := by decide +kernel
theorem dL_law_780 : decode cL_law 780 = .ok (.iadd, 1) := by decide +kernel
theorem dL_law_781 : decode cL_law 781 = .ok (.iaload, 1) := by decide +kernel
theorem dL_law_782 : decode cL_law 782 = .ok (.aload_n 0, 1) := by decide +kernel
theorem dL_law_783 : decode cL_law 783 = .ok (.iload_n 3, 1) := by decide +kernel
theorem dL_law_784 : decode cL_law 784 = .ok (.iconst 3, 1) := by decide +kernel
theorem dL_law_785 : decode cL_law 785 = .ok (.iadd, 1) := by decide +kernel
theorem dL_law_786 : decode cL_law 786 = .ok (.iaload, 1) := by decide +kernel
theorem dL_law_787 : decode cL_law 787 = .ok (.invokevirtual 92, 3) := by decide +kernel
theorem dL_law_790 : decode cL_law 790 = .ok (.aload_n 2, 1) := by decide +kernel
theorem dL_law_791 : decode cL_law 791 = .ok (.aload_n 0, 1) := by decide +kernel
theorem dL_law_792 : decode cL_law 792 = .ok (.iload_n 3, 1) := by decide +kernel
theorem dL_law_793 : decode cL_law 793 = .ok (.iconst 1, 1) := by decide +kernel
theorem dL_law_794 : decode cL_law 794 = .ok (.iadd, 1) := by decide +kernel
theorem dL_law_795 : decode cL_law 795 = .ok (.iaload, 1) := by decide +kernel
theorem dL_law_796 : decode cL_law 796 = .ok (.aload_n 0, 1) := by decide +kernel
theorem dL_law_797 : decode cL_law 797 = .ok (.iload_n 3, 1) := by decide +kernel
theorem dL_law_798 : decode cL_law 798 = .ok (.iconst 2, 1) := by decide +kernel
theorem dL_law_799 : decode cL_law 799 = .ok (.iadd, 1) := by decide +kernel
theorem dL_law_800 : decode cL_law 800 = .ok (.iaload, 1) := by decide +kernel
theorem dL_law_801 : decode cL_law 801 = .ok (.aload_n 0, 1) := by decide +kernel
theorem dL_law_802 : decode cL_law 802 = .ok (.iload_n 3, 1) := by decide +kernel
theorem dL_law_803 : decode cL_law 803 = .ok (.iconst 3, 1) := by decide +kernel
theorem dL_law_804 : decode cL_law 804 = .ok (.iadd, 1) := by decide +kernel
theorem dL_law_805 : decode cL_law 805 = .ok (.iaload, 1) := by decide +kernel
theorem dL_law_806 : decode cL_law 806 = .ok (.invokevirtual 95, 3) := by decide +kernel
theorem dL_law_809 : decode cL_law 809 = .ok (.lcmp, 1) := by decide +kernel
theorem dL_law_810 : decode cL_law 810 = .ok (.ifCond .eq 379, 3) := by decide +kernel
theorem dL_law_813 : decode cL_law 813 = .ok (.iconst 0, 1) := by decide +kernel
theorem dL_law_814 : decode cL_law 814 = .ok (.ireturn, 1) := by decide +kernel
theorem dL_law_815 : decode cL_law 815 = .ok (.aload_n 1, 1) := by decide +kernel
theorem dL_law_816 : decode cL_law 816 = .ok (.aload_n 0, 1) := by decide +kernel
theorem dL_law_817 : decode cL_law 817 = .ok (.iload_n 3, 1) := by decide +kernel
theorem dL_law_818 : decode cL_law 818 = .ok (.iconst 1, 1) := by decide +kernel
theorem dL_law_819 : decode cL_law 819 = .ok (.iadd, 1) := by decide +kernel
theorem dL_law_820 : decode cL_law 820 = .ok (.iaload, 1) := by decide +kernel
theorem dL_law_821 : decode cL_law 821 = .ok (.aload_n 0, 1) := by decide +kernel
theorem dL_law_822 : decode cL_law 822 = .ok (.iload_n 3, 1) := by decide +kernel
theorem dL_law_823 : decode cL_law 823 = .ok (.iconst 2, 1) := by decide +kernel
theorem dL_law_824 : decode cL_law 824 = .ok (.iadd, 1) := by decide +kernel
theorem dL_law_825 : decode cL_law 825 = .ok (.iaload, 1) := by decide +kernel
theorem dL_law_826 : decode cL_law 826 = .ok (.aload_n 0, 1) := by decide +kernel
theorem dL_law_827 : decode cL_law 827 = .ok (.iload_n 3, 1) := by decide +kernel
theorem dL_law_828 : decode cL_law 828 = .ok (.iconst 3, 1) := by decide +kernel
theorem dL_law_829 : decode cL_law 829 = .ok (.iadd, 1) := by decide +kernel
theorem dL_law_830 : decode cL_law 830 = .ok (.iaload, 1) := by decide +kernel
theorem dL_law_831 : decode cL_law 831 = .ok (.invokevirtual 96, 3) := by decide +kernel
theorem dL_law_834 : decode cL_law 834 = .ok (.aload_n 2, 1) := by decide +kernel
theorem dL_law_835 : decode cL_law 835 = .ok (.aload_n 0, 1) := by decide +kernel
theorem dL_law_836 : decode cL_law 836 = .ok (.iload_n 3, 1) := by decide +kernel
theorem dL_law_837 : decode cL_law 837 = .ok (.iconst 1, 1) := by decide +kernel
theorem dL_law_838 : decode cL_law 838 = .ok (.iadd, 1) := by decide +kernel
theorem dL_law_839 : decode cL_law 839 = .ok (.iaload, 1) := by decide +kernel
theorem dL_law_840 : decode cL_law 840 = .ok (.aload_n 0, 1) := by decide +kernel
theorem dL_law_841 : decode cL_law 841 = .ok (.iload_n 3, 1) := by decide +kernel
theorem dL_law_842 : decode cL_law 842 = .ok (.iconst 2, 1) := by decide +kernel
theorem dL_law_843 : decode cL_law 843 = .ok (.iadd, 1) := by decide +kernel
theorem dL_law_844 : decode cL_law 844 = .ok (.iaload, 1) := by decide +kernel
theorem dL_law_845 : decode cL_law 845 = .ok (.aload_n 0, 1) := by decide +kernel
theorem dL_law_846 : decode cL_law 846 = .ok (.iload_n 3, 1) := by decide +kernel
theorem dL_law_847 : decode cL_law 847 = .ok (.iconst 3, 1) := by decide +kernel
theorem dL_law_848 : decode cL_law 848 = .ok (.iadd, 1) := by decide +kernel
theorem dL_law_849 : decode cL_law 849 = .ok (.iaload, 1) := by decide +kernel
theorem dL_law_850 : decode cL_law 850 = .ok (.invokevirtual 99, 3) := by decide +kernel
theorem dL_law_853 : decode cL_law 853 = .ok (.if_icmp .eq 336, 3) := by decide +kernel
theorem dL_law_856 : decode cL_law 856 = .ok (.iconst 0, 1) := by decide +kernel
theorem dL_law_857 : decode cL_law 857 = .ok (.ireturn, 1) := by decide +kernel
theorem dL_law_858 : decode cL_law 858 = .ok (.aload_n 1, 1) := by decide +kernel
theorem dL_law_859 : decode cL_law 859 = .ok (.aload_n 0, 1) := by decide +kernel
theorem dL_law_860 : decode cL_law 860 = .ok (.iload_n 3, 1) := by decide +kernel
theorem dL_law_861 : decode cL_law 861 = .ok (.iconst 1, 1) := by decide +kernel
theorem dL_law_862 : decode cL_law 862 = .ok (.iadd, 1) := by decide +kernel
theorem dL_law_863 : decode cL_law 863 = .ok (.iaload, 1) := by decide +kernel
theorem dL_law_864 : decode cL_law 864 = .ok (.aload_n 0, 1) := by decide +kernel
theorem dL_law_865 : decode cL_law 865 = .ok (.iload_n 3, 1) := by decide +kernel
theorem dL_law_866 : decode cL_law 866 = .ok (.iconst 2, 1) := by decide +kernel
theorem dL_law_867 : decode cL_law 867 = .ok (.iadd, 1) := by decide +kernel
theorem dL_law_868 : decode cL_law 868 = .ok (.iaload, 1) := by decide +kernel
theorem dL_law_869 : decode cL_law 869 = .ok (.aload_n 0, 1) := by decide +kernel
theorem dL_law_870 : decode cL_law 870 = .ok (.iload_n 3, 1) := by decide +kernel
theorem dL_law_871 : decode cL_law 871 = .ok (.iconst 3, 1) := by decide +kernel
theorem dL_law_872 : decode cL_law 872 = .ok (.iadd, 1) := by decide +kernel
theorem dL_law_873 : decode cL_law 873 = .ok (.iaload, 1) := by decide +kernel
theorem dL_law_874 : decode cL_law 874 = .ok (.invokevirtual 100, 3) := by decide +kernel
theorem dL_law_877 : decode cL_law 877 = .ok (.aload_n 2, 1) := by decide +kernel
theorem dL_law_878 : decode cL_law 878 = .ok (.aload_n 0, 1) := by decide +kernel
theorem dL_law_879 : decode cL_law 879 = .ok (.iload_n 3, 1) := by decide +kernel
theorem dL_law_880 : decode cL_law 880 = .ok (.iconst 1, 1) := by decide +kernel
theorem dL_law_881 : decode cL_law 881 = .ok (.iadd, 1) := by decide +kernel
theorem dL_law_882 : decode cL_law 882 = .ok (.iaload, 1) := by decide +kernel
theorem dL_law_883 : decode cL_law 883 = .ok (.aload_n 0, 1) := by decide +kernel
theorem dL_law_884 : decode cL_law 884 = .ok (.iload_n 3, 1) := by decide +kernel
theorem dL_law_885 : decode cL_law 885 = .ok (.iconst 2, 1) := by decide +kernel
theorem dL_law_886 : decode cL_law 886 = .ok (.iadd, 1) := by decide +kernel
theorem dL_law_887 : decode cL_law 887 = .ok (.iaload, 1) := by decide +kernel
theorem dL_law_888 : decode cL_law 888 = .ok (.aload_n 0, 1) := by decide +kernel
theorem dL_law_889 : decode cL_law 889 = .ok (.iload_n 3, 1) := by decide +kernel
theorem dL_law_890 : decode cL_law 890 = .ok (.iconst 3, 1) := by decide +kernel
theorem dL_law_891 : decode cL_law 891 = .ok (.iadd, 1) := by decide +kernel
theorem dL_law_892 : decode cL_law 892 = .ok (.iaload, 1) := by decide +kernel
theorem dL_law_893 : decode cL_law 893 = .ok (.invokevirtual 103, 3) := by decide +kernel
theorem dL_law_896 : decode cL_law 896 = .ok (.lcmp, 1) := by decide +kernel
theorem dL_law_897 : decode cL_law 897 = .ok (.ifCond .eq 292, 3) := by decide +kernel
theorem dL_law_900 : decode cL_law 900 = .ok (.iconst 0, 1) := by decide +kernel
theorem dL_law_901 : decode cL_law 901 = .ok (.ireturn, 1) := by decide +kernel
theorem dL_law_902 : decode cL_law 902 = .ok (.aload_n 1, 1) := by decide +kernel
theorem dL_law_903 : decode cL_law 903 = .ok (.aload_n 0, 1) := by decide +kernel
theorem dL_law_904 : decode cL_law 904 = .ok (.iload_n 3, 1) := by decide +kernel
theorem dL_law_905 : decode cL_law 905 = .ok (.iconst 1, 1) := by decide +kernel
theorem dL_law_906 : decode cL_law 906 = .ok (.iadd, 1) := by decide +kernel
theorem dL_law_907 : decode cL_law 907 = .ok (.iaload, 1) := by decide +kernel
theorem dL_law_908 : decode cL_law 908 = .ok (.aload_n 0, 1) := by decide +kernel
theorem dL_law_909 : decode cL_law 909 = .ok (.iload_n 3, 1) := by decide +kernel
theorem dL_law_910 : decode cL_law 910 = .ok (.iconst 2, 1) := by decide +kernel
theorem dL_law_911 : decode cL_law 911 = .ok (.iadd, 1) := by decide +kernel
theorem dL_law_912 : decode cL_law 912 = .ok (.iaload, 1) := by decide +kernel
theorem dL_law_913 : decode cL_law 913 = .ok (.aload_n 0, 1) := by decide +kernel
theorem dL_law_914 : decode cL_law 914 = .ok (.iload_n 3, 1) := by decide +kernel
theorem dL_law_915 : decode cL_law 915 = .ok (.iconst 3, 1) := by decide +kernel
theorem dL_law_916 : decode cL_law 916 = .ok (.iadd, 1) := by decide +kernel
theorem dL_law_917 : decode cL_law 917 = .ok (.iaload, 1) := by decide +kernel
theorem dL_law_918 : decode cL_law 918 = .ok (.aload_n 0, 1) := by decide +kernel
theorem dL_law_919 : decode cL_law 919 = .ok (.iload_n 3, 1) := by decide +kernel
theorem dL_law_920 : decode cL_law 920 = .ok (.iconst 4, 1) := by decide +kernel
theorem dL_law_921 : decode cL_law 921 = .ok (.iadd, 1) := by decide +kernel
theorem dL_law_922 : decode cL_law 922 = .ok (.iaload, 1) := by decide +kernel
theorem dL_law_923 : decode cL_law 923 = .ok (.aload_n 0, 1) := by decide +kernel
theorem dL_law_924 : decode cL_law 924 = .ok (.iload_n 3, 1) := by decide +kernel
theorem dL_law_925 : decode cL_law 925 = .ok (.iconst 5, 1) := by decide +kernel
theorem dL_law_926 : decode cL_law 926 = .ok (.iadd, 1) := by decide +kernel
theorem dL_law_927 : decode cL_law 927 = .ok (.iaload, 1) := by decide +kernel
theorem dL_law_928 : decode cL_law 928 = .ok (.aload_n 0, 1) := by decide +kernel
theorem dL_law_929 : decode cL_law 929 = .ok (.iload_n 3, 1) := by decide +kernel
theorem dL_law_930 : decode cL_law 930 = .ok (.bipush 6, 2) := by decide +kernel
theorem dL_law_932 : decode cL_law 932 = .ok (.iadd, 1) := by decide +kernel
theorem dL_law_933 : decode cL_law 933 = .ok (.iaload, 1) := by decide +kernel
theorem dL_law_934 : decode cL_law 934 = .ok (.invokevirtual 104, 3) := by decide +kernel
theorem dL_law_937 : decode cL_law 937 = .ok (.aload_n 2, 1) := by decide +kernel
theorem dL_law_938 : decode cL_law 938 = .ok (.aload_n 0, 1) := by decide +kernel
theorem dL_law_939 : decode cL_law 939 = .ok (.iload_n 3, 1) := by decide +kernel
theorem dL_law_940 : decode cL_law 940 = .ok (.iconst 1, 1) := by decide +kernel
theorem dL_law_941 : decode cL_law 941 = .ok (.iadd, 1) := by decide +kernel
theorem dL_law_942 : decode cL_law 942 = .ok (.iaload, 1) := by decide +kernel
theorem dL_law_943 : decode cL_law 943 = .ok (.aload_n 0, 1) := by decide +kernel
theorem dL_law_944 : decode cL_law 944 = .ok (.iload_n 3, 1) := by decide +kernel
theorem dL_law_945 : decode cL_law 945 = .ok (.iconst 2, 1) := by decide +kernel
theorem dL_law_946 : decode cL_law 946 = .ok (.iadd, 1) := by decide +kernel
theorem dL_law_947 : decode cL_law 947 = .ok (.iaload, 1) := by decide +kernel
theorem dL_law_948 : decode cL_law 948 = .ok (.aload_n 0, 1) := by decide +kernel
theorem dL_law_949 : decode cL_law 949 = .ok (.iload_n 3, 1) := by decide +kernel
theorem dL_law_950 : decode cL_law 950 = .ok (.iconst 3, 1) := by decide +kernel
theorem dL_law_951 : decode cL_law 951 = .ok (.iadd, 1) := by decide +kernel
theorem dL_law_952 : decode cL_law 952 = .ok (.iaload, 1) := by decide +kernel
theorem dL_law_953 : decode cL_law 953 = .ok (.aload_n 0, 1) := by decide +kernel
theorem dL_law_954 : decode cL_law 954 = .ok (.iload_n 3, 1) := by decide +kernel
theorem dL_law_955 : decode cL_law 955 = .ok (.iconst 4, 1) := by decide +kernel
theorem dL_law_956 : decode cL_law 956 = .ok (.iadd, 1) := by decide +kernel
theorem dL_law_957 : decode cL_law 957 = .ok (.iaload, 1) := by decide +kernel
theorem dL_law_958 : decode cL_law 958 = .ok (.aload_n 0, 1) := by decide +kernel
theorem dL_law_959 : decode cL_law 959 = .ok (.iload_n 3, 1) := by decide +kernel
theorem dL_law_960 : decode cL_law 960 = .ok (.iconst 5, 1) := by decide +kernel
theorem dL_law_961 : decode cL_law 961 = .ok (.iadd, 1) := by decide +kernel
theorem dL_law_962 : decode cL_law 962 = .ok (.iaload, 1) := by decide +kernel
theorem dL_law_963 : decode cL_law 963 = .ok (.aload_n 0, 1) := by decide +kernel
theorem dL_law_964 : decode cL_law 964 = .ok (.iload_n 3, 1) := by decide +kernel
theorem dL_law_965 : decode cL_law 965 = .ok (.bipush 6, 2) := by decide +kernel
theorem dL_law_967 : decode cL_law 967 = .ok (.iadd, 1) := by decide +kernel
theorem dL_law_968 : decode cL_law 968 = .ok (.iaload, 1) := by decide +kernel
theorem dL_law_969 : decode cL_law 969 = .ok (.invokevirtual 108, 3) := by decide +kernel
theorem dL_law_972 : decode cL_law 972 = .ok (.lcmp, 1) := by decide +kernel
theorem dL_law_973 : decode cL_law 973 = .ok (.ifCond .eq 216, 3) := by decide +kernel
theorem dL_law_976 : decode cL_law 976 = .ok (.iconst 0, 1) := by decide +kernel
theorem dL_law_977 : decode cL_law 977 = .ok (.ireturn, 1) := by decide +kernel
theorem dL_law_978 : decode cL_law 978 = .ok (.aload_n 1, 1) := by decide +kernel
theorem dL_law_979 : decode cL_law 979 = .ok (.aload_n 0, 1) := by decide +kernel
theorem dL_law_980 : decode cL_law 980 = .ok (.iload_n 3, 1) := by decide +kernel
theorem dL_law_981 : decode cL_law 981 = .ok (.iconst 1, 1) := by decide +kernel
theorem dL_law_982 : decode cL_law 982 = .ok (.iadd, 1) := by decide +kernel
theorem dL_law_983 : decode cL_law 983 = .ok (.iaload, 1) := by decide +kernel
theorem dL_law_984 : decode cL_law 984 = .ok (.aload_n 0, 1) := by decide +kernel
theorem dL_law_985 : decode cL_law 985 = .ok (.iload_n 3, 1) := by decide +kernel
theorem dL_law_986 : decode cL_law 986 = .ok (.iconst 2, 1) := by decide +kernel
theorem dL_law_987 : decode cL_law 987 = .ok (.iadd, 1) := by decide +kernel
theorem dL_law_988 : decode cL_law 988 = .ok (.iaload, 1) := by decide +kernel
theorem dL_law_989 : decode cL_law 989 = .ok (.invokevirtual 109, 3) := by decide +kernel
theorem dL_law_992 : decode cL_law 992 = .ok (.aload_n 2, 1) := by decide +kernel
theorem dL_law_993 : decode cL_law 993 = .ok (.aload_n 0, 1) := by decide +kernel
theorem dL_law_994 : decode cL_law 994 = .ok (.iload_n 3, 1) := by decide +kernel
theorem dL_law_995 : decode cL_law 995 = .ok (.iconst 1, 1) := by decide +kernel
theorem dL_law_996 : decode cL_law 996 = .ok (.iadd, 1) := by decide +kernel
theorem dL_law_997 : decode cL_law 997 = .ok (.iaload, 1) := by decide +kernel
theorem dL_law_998 : decode cL_law 998 = .ok (.aload_n 0, 1) := by decide +kernel
theorem dL_law_999 : decode cL_law 999 = .ok (.iload_n 3, 1) := by decide +kernel
theorem dL_law_1000 : decode cL_law 1000 = .ok (.iconst 2, 1) := by decide +kernel
theorem dL_law_1001 : decode cL_law 1001 = .ok (.iadd, 1) := by decide +kernel
theorem dL_law_1002 : decode cL_law 1002 = .ok (.iaload, 1) := by decide +kernel
theorem dL_law_1003 : decode cL_law 1003 = .ok (.invokevirtual 112, 3) := by decide +kernel
theorem dL_law_1006 : decode cL_law 1006 = .ok (.if_icmp .eq 183, 3) := by decide +kernel
theorem dL_law_1009 : decode cL_law 1009 = .ok (.iconst 0, 1) := by decide +kernel
theorem dL_law_1010 : decode cL_law 1010 = .ok (.ireturn, 1) := by decide +kernel
theorem dL_law_1011 : decode cL_law 1011 = .ok (.aload_n 1, 1) := by decide +kernel
theorem dL_law_1012 : decode cL_law 1012 = .ok (.aload_n 0, 1) := by decide +kernel
theorem dL_law_1013 : decode cL_law 1013 = .ok (.iload_n 3, 1) := by decide +kernel
theorem dL_law_1014 : decode cL_law 1014 = .ok (.iconst 1, 1) := by decide +kernel
theorem dL_law_1015 : decode cL_law 1015 = .ok (.iadd, 1) := by decide +kernel
theorem dL_law_1016 : decode cL_law 1016 = .ok (.iaload, 1) := by decide +kernel
theorem dL_law_1017 : decode cL_law 1017 = .ok (.aload_n 0, 1) := by decide +kernel
theorem dL_law_1018 : decode cL_law 1018 = .ok (.iload_n 3, 1) := by decide +kernel
theorem dL_law_1019 : decode cL_law 1019 = .ok (.iconst 2, 1) := by decide +kernel
theorem dL_law_1020 : decode cL_law 1020 = .ok (.iadd, 1) := by decide +kernel
theorem dL_law_1021 : decode cL_law 1021 = .ok (.iaload, 1) := by decide +kernel
theorem dL_law_1022 : decode cL_law 1022 = .ok (.aload_n 0, 1) := by decide +kernel
theorem dL_law_1023 : decode cL_law 1023 = .ok (.iload_n 3, 1) := by decide +kernel
theorem dL_law_1024 : decode cL_law 1024 = .ok (.iconst 3, 1) := by decide +kernel
theorem dL_law_1025 : decode cL_law 1025 = .ok (.iadd, 1) := by decide +kernel
theorem dL_law_1026 : decode cL_law 1026 = .ok (.iaload, 1) := by decide +kernel
theorem dL_law_1027 : decode cL_law 1027 = .ok (.aload_n 0, 1) := by decide +kernel
theorem dL_law_1028 : decode cL_law 1028 = .ok (.iload_n 3, 1) := by decide +kernel
theorem dL_law_1029 : decode cL_law 1029 = .ok (.iconst 4, 1) := by decide +kernel
theorem dL_law_1030 : decode cL_law 1030 = .ok (.iadd, 1) := by decide +kernel
theorem dL_law_1031 : decode cL_law 1031 = .ok (.iaload, 1) := by decide +kernel
theorem dL_law_1032 : decode cL_law 1032 = .ok (.invokevirtual 113, 3) := by decide +kernel
theorem dL_law_1035 : decode cL_law 1035 = .ok (.aload_n 2, 1) := by decide +kernel
theorem dL_law_1036 : decode cL_law 1036 = .ok (.aload_n 0, 1) := by decide +kernel
theorem dL_law_1037 : decode cL_law 1037 = .ok (.iload_n 3, 1) := by decide +kernel
theorem dL_law_1038 : decode cL_law 1038 = .ok (.iconst 1, 1) := by decide +kernel
theorem dL_law_1039 : decode cL_law 1039 = .ok (.iadd, 1) := by decide +kernel
theorem dL_law_1040 : decode cL_law 1040 = .ok (.iaload, 1) := by decide +kernel
theorem dL_law_1041 : decode cL_law 1041 = .ok (.aload_n 0, 1) := by decide +kernel
theorem dL_law_1042 : decode cL_law 1042 = .ok (.iload_n 3, 1) := by decide +kernel
theorem dL_law_1043 : decode cL_law 1043 = .ok (.iconst 2, 1) := by decide +kernel
theorem dL_law_1044 : decode cL_law 1044 = .ok (.iadd, 1) := by decide +kernel
theorem dL_law_1045 : decode cL_law 1045 = .ok (.iaload, 1) := by decide +kernel
theorem dL_law_1046 : decode cL_law 1046 = .ok (.aload_n 0, 1) := by decide +kernel
theorem dL_law_1047 : decode cL_law 1047 = .ok (.iload_n 3, 1) := by decide +kernel
theorem dL_law_1048 : decode cL_law 1048 = .ok (.iconst 3, 1) := by decide +kernel
theorem dL_law_1049 : decode cL_law 1049 = .ok (.iadd, 1) := by decide +kernel
theorem dL_law_1050 : decode cL_law 1050 = .ok (.iaload, 1) := by decide +kernel
theorem dL_law_1051 : decode cL_law 1051 = .ok (.aload_n 0, 1) := by decide +kernel
theorem dL_law_1052 : decode cL_law 1052 = .ok (.iload_n 3, 1) := by decide +kernel
theorem dL_law_1053 : decode cL_law 1053 = .ok (.iconst 4, 1) := by decide +kernel
theorem dL_law_1054 : decode cL_law 1054 = .ok (.iadd, 1) := by decide +kernel
theorem dL_law_1055 : decode cL_law 1055 = .ok (.iaload, 1) := by decide +kernel
theorem dL_law_1056 : decode cL_law 1056 = .ok (.invokevirtual 116, 3) := by decide +kernel
theorem dL_law_1059 : decode cL_law 1059 = .ok (.lcmp, 1) := by decide +kernel
theorem dL_law_1060 : decode cL_law 1060 = .ok (.ifCond .eq 129, 3) := by decide +kernel
theorem dL_law_1063 : decode cL_law 1063 = .ok (.iconst 0, 1) := by decide +kernel
theorem dL_law_1064 : decode cL_law 1064 = .ok (.ireturn, 1) := by decide +kernel
theorem dL_law_1065 : decode cL_law 1065 = .ok (.aload_n 1, 1) := by decide +kernel
theorem dL_law_1066 : decode cL_law 1066 = .ok (.aload_n 0, 1) := by decide +kernel
theorem dL_law_1067 : decode cL_law 1067 = .ok (.iload_n 3, 1) := by decide +kernel
theorem dL_law_1068 : decode cL_law 1068 = .ok (.iconst 1, 1) := by decide +kernel
theorem dL_law_1069 : decode cL_law 1069 = .ok (.iadd, 1) := by decide +kernel
theorem dL_law_1070 : decode cL_law 1070 = .ok (.iaload, 1) := by decide +kernel
theorem dL_law_1071 : decode cL_law 1071 = .ok (.invokevirtual 117, 3) := by decide +kernel
theorem dL_law_1074 : decode cL_law 1074 = .ok (.aload_n 2, 1) := by decide +kernel
theorem dL_law_1075 : decode cL_law 1075 = .ok (.aload_n 0, 1) := by decide +kernel
theorem dL_law_1076 : decode cL_law 1076 = .ok (.iload_n 3, 1) := by decide +kernel
theorem dL_law_1077 : decode cL_law 1077 = .ok (.iconst 1, 1) := by decide +kernel
theorem dL_law_1078 : decode cL_law 1078 = .ok (.iadd, 1) := by decide +kernel
theorem dL_law_1079 : decode cL_law 1079 = .ok (.iaload, 1) := by decide +kernel
theorem dL_law_1080 : decode cL_law 1080 = .ok (.invokevirtual 121, 3) := by decide +kernel
theorem dL_law_1083 : decode cL_law 1083 = .ok (.lcmp, 1) := by decide +kernel
theorem dL_law_1084 : decode cL_law 1084 = .ok (.ifCond .eq 105, 3) := by decide +kernel
theorem dL_law_1087 : decode cL_law 1087 = .ok (.iconst 0, 1) := by decide +kernel
theorem dL_law_1088 : decode cL_law 1088 = .ok (.ireturn, 1) := by decide +kernel
theorem dL_law_1089 : decode cL_law 1089 = .ok (.aload_n 1, 1) := by decide +kernel
theorem dL_law_1090 : decode cL_law 1090 = .ok (.aload_n 0, 1) := by decide +kernel
theorem dL_law_1091 : decode cL_law 1091 = .ok (.iload_n 3, 1) := by decide +kernel
theorem dL_law_1092 : decode cL_law 1092 = .ok (.iconst 1, 1) := by decide +kernel
theorem dL_law_1093 : decode cL_law 1093 = .ok (.iadd, 1) := by decide +kernel
theorem dL_law_1094 : decode cL_law 1094 = .ok (.iaload, 1) := by decide +kernel
theorem dL_law_1095 : decode cL_law 1095 = .ok (.aload_n 0, 1) := by decide +kernel
theorem dL_law_1096 : decode cL_law 1096 = .ok (.iload_n 3, 1) := by decide +kernel
theorem dL_law_1097 : decode cL_law 1097 = .ok (.iconst 2, 1) := by decide +kernel
theorem dL_law_1098 : decode cL_law 1098 = .ok (.iadd, 1) := by decide +kernel
theorem dL_law_1099 : decode cL_law 1099 = .ok (.iaload, 1) := by decide +kernel
theorem dL_law_1100 : decode cL_law 1100 = .ok (.aload_n 0, 1) := by decide +kernel
theorem dL_law_1101 : decode cL_law 1101 = .ok (.iload_n 3, 1) := by decide +kernel
theorem dL_law_1102 : decode cL_law 1102 = .ok (.iconst 3, 1) := by decide +kernel
theorem dL_law_1103 : decode cL_law 1103 = .ok (.iadd, 1) := by decide +kernel
theorem dL_law_1104 : decode cL_law 1104 = .ok (.iaload, 1) := by decide +kernel
theorem dL_law_1105 : decode cL_law 1105 = .ok (.aload_n 0, 1) := by decide +kernel
theorem dL_law_1106 : decode cL_law 1106 = .ok (.iload_n 3, 1) := by decide +kernel
theorem dL_law_1107 : decode cL_law 1107 = .ok (.iconst 4, 1) := by decide +kernel
theorem dL_law_1108 : decode cL_law 1108 = .ok (.iadd, 1) := by decide +kernel
theorem dL_law_1109 : decode cL_law 1109 = .ok (.iaload, 1) := by decide +kernel
theorem dL_law_1110 : decode cL_law 1110 = .ok (.aload_n 0, 1) := by decide +kernel
theorem dL_law_1111 : decode cL_law 1111 = .ok (.iload_n 3, 1) := by decide +kernel
theorem dL_law_1112 : decode cL_law 1112 = .ok (.iconst 5, 1) := by decide +kernel
theorem dL_law_1113 : decode cL_law 1113 = .ok (.iadd, 1) := by decide +kernel
theorem dL_law_1114 : decode cL_law 1114 = .ok (.iaload, 1) := by decide +kernel
theorem dL_law_1115 : decode cL_law 1115 = .ok (.invokevirtual 122, 3) := by decide +kernel
theorem dL_law_1118 : decode cL_law 1118 = .ok (.aload_n 2, 1) := by decide +kernel
theorem dL_law_1119 : decode cL_law 1119 = .ok (.aload_n 0, 1) := by decide +kernel
theorem dL_law_1120 : decode cL_law 1120 = .ok (.iload_n 3, 1) := by decide +kernel
theorem dL_law_1121 : decode cL_law 1121 = .ok (.iconst 1, 1) := by decide +kernel
theorem dL_law_1122 : decode cL_law 1122 = .ok (.iadd, 1) := by decide +kernel
theorem dL_law_1123 : decode cL_law 1123 = .ok (.iaload, 1) := by decide +kernel
theorem dL_law_1124 : decode cL_law 1124 = .ok (.aload_n 0, 1) := by decide +kernel
theorem dL_law_1125 : decode cL_law 1125 = .ok (.iload_n 3, 1) := by decide +kernel
theorem dL_law_1126 : decode cL_law 1126 = .ok (.iconst 2, 1) := by decide +kernel
theorem dL_law_1127 : decode cL_law 1127 = .ok (.iadd, 1) := by decide +kernel
theorem dL_law_1128 : decode cL_law 1128 = .ok (.iaload, 1) := by decide +kernel
theorem dL_law_1129 : decode cL_law 1129 = .ok (.aload_n 0, 1) := by decide +kernel
theorem dL_law_1130 : decode cL_law 1130 = .ok (.iload_n 3, 1) := by decide +kernel
theorem dL_law_1131 : decode cL_law 1131 = .ok (.iconst 3, 1) := by decide +kernel
theorem dL_law_1132 : decode cL_law 1132 = .ok (.iadd, 1) := by decide +kernel
theorem dL_law_1133 : decode cL_law 1133 = .ok (.iaload, 1) := by decide +kernel
theorem dL_law_1134 : decode cL_law 1134 = .ok (.aload_n 0, 1) := by decide +kernel
theorem dL_law_1135 : decode cL_law 1135 = .ok (.iload_n 3, 1) := by decide +kernel
theorem dL_law_1136 : decode cL_law 1136 = .ok (.iconst 4, 1) := by decide +kernel
theorem dL_law_1137 : decode cL_law 1137 = .ok (.iadd, 1) := by decide +kernel
theorem dL_law_1138 : decode cL_law 1138 = .ok (.iaload, 1) := by decide +kernel
theorem dL_law_1139 : decode cL_law 1139 = .ok (.aload_n 0, 1) := by decide +kernel
theorem dL_law_1140 : decode cL_law 1140 = .ok (.iload_n 3, 1) := by decide +kernel
theorem dL_law_1141 : decode cL_law 1141 = .ok (.iconst 5, 1) := by decide +kernel
theorem dL_law_1142 : decode cL_law 1142 = .ok (.iadd, 1) := by decide +kernel
theorem dL_law_1143 : decode cL_law 1143 = .ok (.iaload, 1) := by decide +kernel
theorem dL_law_1144 : decode cL_law 1144 = .ok (.invokevirtual 126, 3) := by decide +kernel
theorem dL_law_1147 : decode cL_law 1147 = .ok (.if_icmp .eq 42, 3) := by decide +kernel
theorem dL_law_1150 : decode cL_law 1150 = .ok (.iconst 0, 1) := by decide +kernel
theorem dL_law_1151 : decode cL_law 1151 = .ok (.ireturn, 1) := by decide +kernel
theorem dL_law_1152 : decode cL_law 1152 = .ok (.aload_n 1, 1) := by decide +kernel
theorem dL_law_1153 : decode cL_law 1153 = .ok (.aload_n 0, 1) := by decide +kernel
theorem dL_law_1154 : decode cL_law 1154 = .ok (.iload_n 3, 1) := by decide +kernel
theorem dL_law_1155 : decode cL_law 1155 = .ok (.iconst 1, 1) := by decide +kernel
theorem dL_law_1156 : decode cL_law 1156 = .ok (.iadd, 1) := by decide +kernel
theorem dL_law_1157 : decode cL_law 1157 = .ok (.iaload, 1) := by decide +kernel
theorem dL_law_1158 : decode cL_law 1158 = .ok (.invokevirtual 127, 3) := by decide +kernel
theorem dL_law_1161 : decode cL_law 1161 = .ok (.aload_n 2, 1) := by decide +kernel
theorem dL_law_1162 : decode cL_law 1162 = .ok (.aload_n 0, 1) := by decide +kernel
theorem dL_law_1163 : decode cL_law 1163 = .ok (.iload_n 3, 1) := by decide +kernel
theorem dL_law_1164 : decode cL_law 1164 = .ok (.iconst 1, 1) := by decide +kernel
theorem dL_law_1165 : decode cL_law 1165 = .ok (.iadd, 1) := by decide +kernel
theorem dL_law_1166 : decode cL_law 1166 = .ok (.iaload, 1) := by decide +kernel
theorem dL_law_1167 : decode cL_law 1167 = .ok (.invokevirtual 130, 3) := by decide +kernel
theorem dL_law_1170 : decode cL_law 1170 = .ok (.if_icmp .eq 19, 3) := by decide +kernel
theorem dL_law_1173 : decode cL_law 1173 = .ok (.iconst 0, 1) := by decide +kernel
theorem dL_law_1174 : decode cL_law 1174 = .ok (.ireturn, 1) := by decide +kernel
theorem dL_law_1175 : decode cL_law 1175 = .ok (.aload_n 1, 1) := by decide +kernel
theorem dL_law_1176 : decode cL_law 1176 = .ok (.invokevirtual 131, 3) := by decide +kernel
theorem dL_law_1179 : decode cL_law 1179 = .ok (.aload_n 2, 1) := by decide +kernel
theorem dL_law_1180 : decode cL_law 1180 = .ok (.invokevirtual 135, 3) := by decide +kernel
theorem dL_law_1183 : decode cL_law 1183 = .ok (.lcmp, 1) := by decide +kernel
theorem dL_law_1184 : decode cL_law 1184 = .ok (.ifCond .eq 5, 3) := by decide +kernel
theorem dL_law_1187 : decode cL_law 1187 = .ok (.iconst 0, 1) := by decide +kernel
theorem dL_law_1188 : decode cL_law 1188 = .ok (.ireturn, 1) := by decide +kernel
theorem dL_law_1189 : decode cL_law 1189 = .ok (.iinc 3 7, 3) := by decide +kernel
theorem dL_law_1192 : decode cL_law 1192 = .ok (.goto (-1174), 3) := by decide +kernel
theorem dL_law_1195 : decode cL_law 1195 = .ok (.iconst 1, 1) := by decide +kernel
theorem dL_law_1196 : decode cL_law 1196 = .ok (.ireturn, 1) := by decide +kernel
