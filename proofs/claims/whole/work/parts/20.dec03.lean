theorem d_M_thing_0 : decode b_M_thing 0 = .ok (.iload_n 1, 1) := by decide +kernel
theorem d_M_thing_1 : decode b_M_thing 1 = .ok (.iconst 0, 1) := by decide +kernel
theorem d_M_thing_2 : decode b_M_thing 2 = .ok (.iconst 3, 1) := by decide +kernel
theorem d_M_thing_3 : decode b_M_thing 3 = .ok (.invokestatic 153, 3) := by decide +kernel
theorem d_M_thing_6 : decode b_M_thing 6 = .ok (.ifCond .eq 13, 3) := by decide +kernel
theorem d_M_thing_9 : decode b_M_thing 9 = .ok (.iload_n 2, 1) := by decide +kernel
theorem d_M_thing_10 : decode b_M_thing 10 = .ok (.iconst 1, 1) := by decide +kernel
theorem d_M_thing_11 : decode b_M_thing 11 = .ok (.bipush 9, 2) := by decide +kernel
theorem d_M_thing_13 : decode b_M_thing 13 = .ok (.invokestatic 153, 3) := by decide +kernel
theorem d_M_thing_16 : decode b_M_thing 16 = .ok (.ifCond .ne 5, 3) := by decide +kernel
theorem d_M_thing_19 : decode b_M_thing 19 = .ok (.iconst (-1), 1) := by decide +kernel
theorem d_M_thing_20 : decode b_M_thing 20 = .ok (.ireturn, 1) := by decide +kernel
theorem d_M_thing_21 : decode b_M_thing 21 = .ok (.aload_n 0, 1) := by decide +kernel
theorem d_M_thing_22 : decode b_M_thing 22 = .ok (.getfield 150, 3) := by decide +kernel
theorem d_M_thing_25 : decode b_M_thing 25 = .ok (.bipush 10, 2) := by decide +kernel
theorem d_M_thing_27 : decode b_M_thing 27 = .ok (.if_icmp .ne 8, 3) := by decide +kernel
theorem d_M_thing_30 : decode b_M_thing 30 = .ok (.bipush (-3), 2) := by decide +kernel
theorem d_M_thing_32 : decode b_M_thing 32 = .ok (.goto 10, 3) := by decide +kernel
theorem d_M_thing_35 : decode b_M_thing 35 = .ok (.aload_n 0, 1) := by decide +kernel
theorem d_M_thing_36 : decode b_M_thing 36 = .ok (.iload_n 1, 1) := by decide +kernel
theorem d_M_thing_37 : decode b_M_thing 37 = .ok (.iconst 0, 1) := by decide +kernel
theorem d_M_thing_38 : decode b_M_thing 38 = .ok (.iload_n 2, 1) := by decide +kernel
theorem d_M_thing_39 : decode b_M_thing 39 = .ok (.invokevirtual 157, 3) := by decide +kernel
theorem d_M_thing_42 : decode b_M_thing 42 = .ok (.ireturn, 1) := by decide +kernel
theorem d_M_things_0 : decode b_M_things 0 = .ok (.iload_n 1, 1) := by decide +kernel
theorem d_M_things_1 : decode b_M_things 1 = .ok (.invokestatic 161, 3) := by decide +kernel
theorem d_M_things_4 : decode b_M_things 4 = .ok (.ifCond .eq 13, 3) := by decide +kernel
theorem d_M_things_7 : decode b_M_things 7 = .ok (.iload_n 3, 1) := by decide +kernel
theorem d_M_things_8 : decode b_M_things 8 = .ok (.iconst 1, 1) := by decide +kernel
theorem d_M_things_9 : decode b_M_things 9 = .ok (.bipush 10, 2) := by decide +kernel
theorem d_M_things_11 : decode b_M_things 11 = .ok (.invokestatic 153, 3) := by decide +kernel
theorem d_M_things_14 : decode b_M_things 14 = .ok (.ifCond .ne 5, 3) := by decide +kernel
theorem d_M_things_17 : decode b_M_things 17 = .ok (.iconst (-1), 1) := by decide +kernel
theorem d_M_things_18 : decode b_M_things 18 = .ok (.ireturn, 1) := by decide +kernel
theorem d_M_things_19 : decode b_M_things 19 = .ok (.aload_n 0, 1) := by decide +kernel
theorem d_M_things_20 : decode b_M_things 20 = .ok (.getfield 134, 3) := by decide +kernel
theorem d_M_things_23 : decode b_M_things 23 = .ok (.iload_n 1, 1) := by decide +kernel
theorem d_M_things_24 : decode b_M_things 24 = .ok (.iaload, 1) := by decide +kernel
theorem d_M_things_25 : decode b_M_things 25 = .ok (.iconst (-1), 1) := by decide +kernel
theorem d_M_things_26 : decode b_M_things 26 = .ok (.if_icmp .eq 17, 3) := by decide +kernel
theorem d_M_things_29 : decode b_M_things 29 = .ok (.aload_n 0, 1) := by decide +kernel
theorem d_M_things_30 : decode b_M_things 30 = .ok (.getfield 134, 3) := by decide +kernel
theorem d_M_things_33 : decode b_M_things 33 = .ok (.iload_n 1, 1) := by decide +kernel
theorem d_M_things_34 : decode b_M_things 34 = .ok (.iaload, 1) := by decide +kernel
theorem d_M_things_35 : decode b_M_things 35 = .ok (.bipush (-2), 2) := by decide +kernel
theorem d_M_things_37 : decode b_M_things 37 = .ok (.if_icmp .eq 6, 3) := by decide +kernel
theorem d_M_things_40 : decode b_M_things 40 = .ok (.bipush (-12), 2) := by decide +kernel
theorem d_M_things_42 : decode b_M_things 42 = .ok (.ireturn, 1) := by decide +kernel
theorem d_M_things_43 : decode b_M_things 43 = .ok (.aload_n 0, 1) := by decide +kernel
theorem d_M_things_44 : decode b_M_things 44 = .ok (.getfield 134, 3) := by decide +kernel
theorem d_M_things_47 : decode b_M_things 47 = .ok (.iload_n 1, 1) := by decide +kernel
theorem d_M_things_48 : decode b_M_things 48 = .ok (.iaload, 1) := by decide +kernel
theorem d_M_things_49 : decode b_M_things 49 = .ok (.iconst (-1), 1) := by decide +kernel
theorem d_M_things_50 : decode b_M_things 50 = .ok (.if_icmp .ne 5, 3) := by decide +kernel
theorem d_M_things_53 : decode b_M_things 53 = .ok (.iconst 0, 1) := by decide +kernel
theorem d_M_things_54 : decode b_M_things 54 = .ok (.ireturn, 1) := by decide +kernel
theorem d_M_things_55 : decode b_M_things 55 = .ok (.iconst 0, 1) := by decide +kernel
theorem d_M_things_56 : decode b_M_things 56 = .ok (.istore 4, 2) := by decide +kernel
theorem d_M_things_58 : decode b_M_things 58 = .ok (.iload 4, 2) := by decide +kernel
theorem d_M_things_60 : decode b_M_things 60 = .ok (.iload_n 3, 1) := by decide +kernel
theorem d_M_things_61 : decode b_M_things 61 = .ok (.if_icmp .ge 155, 3) := by decide +kernel
theorem d_M_things_64 : decode b_M_things 64 = .ok (.iload_n 2, 1) := by decide +kernel
theorem d_M_things_65 : decode b_M_things 65 = .ok (.i2l, 1) := by decide +kernel
theorem d_M_things_66 : decode b_M_things 66 = .ok (.iconst 3, 1) := by decide +kernel
theorem d_M_things_67 : decode b_M_things 67 = .ok (.iload 4, 2) := by decide +kernel
theorem d_M_things_69 : decode b_M_things 69 = .ok (.imul, 1) := by decide +kernel
theorem d_M_things_70 : decode b_M_things 70 = .ok (.i2l, 1) := by decide +kernel
theorem d_M_things_71 : decode b_M_things 71 = .ok (.ladd, 1) := by decide +kernel
theorem d_M_things_72 : decode b_M_things 72 = .ok (.lstore 5, 2) := by decide +kernel
theorem d_M_things_74 : decode b_M_things 74 = .ok (.lload 5, 2) := by decide +kernel
theorem d_M_things_76 : decode b_M_things 76 = .ok (.lconst 0, 1) := by decide +kernel
theorem d_M_things_77 : decode b_M_things 77 = .ok (.lcmp, 1) := by decide +kernel
theorem d_M_things_78 : decode b_M_things 78 = .ok (.ifCond .lt 29, 3) := by decide +kernel
theorem d_M_things_81 : decode b_M_things 81 = .ok (.lload 5, 2) := by decide +kernel
theorem d_M_things_83 : decode b_M_things 83 = .ok (.ldc2_w 165, 3) := by decide +kernel
theorem d_M_things_86 : decode b_M_things 86 = .ok (.ladd, 1) := by decide +kernel
theorem d_M_things_87 : decode b_M_things 87 = .ok (.aload_n 0, 1) := by decide +kernel
theorem d_M_things_88 : decode b_M_things 88 = .ok (.getfield 137, 3) := by decide +kernel
theorem d_M_things_91 : decode b_M_things 91 = .ok (.iload_n 1, 1) := by decide +kernel
theorem d_M_things_92 : decode b_M_things 92 = .ok (.iaload, 1) := by decide +kernel
theorem d_M_things_93 : decode b_M_things 93 = .ok (.i2l, 1) := by decide +kernel
theorem d_M_things_94 : decode b_M_things 94 = .ok (.lcmp, 1) := by decide +kernel
theorem d_M_things_95 : decode b_M_things 95 = .ok (.ifCond .ge 12, 3) := by decide +kernel
theorem d_M_things_98 : decode b_M_things 98 = .ok (.aload_n 0, 1) := by decide +kernel
theorem d_M_things_99 : decode b_M_things 99 = .ok (.getfield 150, 3) := by decide +kernel
theorem d_M_things_102 : decode b_M_things 102 = .ok (.bipush 10, 2) := by decide +kernel
theorem d_M_things_104 : decode b_M_things 104 = .ok (.if_icmp .ne 6, 3) := by decide +kernel
theorem d_M_things_107 : decode b_M_things 107 = .ok (.iload 4, 2) := by decide +kernel
theorem d_M_things_109 : decode b_M_things 109 = .ok (.ireturn, 1) := by decide +kernel
theorem d_M_things_110 : decode b_M_things 110 = .ok (.bipush 60, 2) := by decide +kernel
theorem d_M_things_112 : decode b_M_things 112 = .ok (.iload_n 1, 1) := by decide +kernel
theorem d_M_things_113 : decode b_M_things 113 = .ok (.imul, 1) := by decide +kernel
theorem d_M_things_114 : decode b_M_things 114 = .ok (.lload 5, 2) := by decide +kernel
theorem d_M_things_116 : decode b_M_things 116 = .ok (.l2i, 1) := by decide +kernel
theorem d_M_things_117 : decode b_M_things 117 = .ok (.iadd, 1) := by decide +kernel
theorem d_M_things_118 : decode b_M_things 118 = .ok (.istore 7, 2) := by decide +kernel
theorem d_M_things_120 : decode b_M_things 120 = .ok (.aload_n 0, 1) := by decide +kernel
theorem d_M_things_121 : decode b_M_things 121 = .ok (.getfield 140, 3) := by decide +kernel
theorem d_M_things_124 : decode b_M_things 124 = .ok (.iload 7, 2) := by decide +kernel
theorem d_M_things_126 : decode b_M_things 126 = .ok (.laload, 1) := by decide +kernel
theorem d_M_things_127 : decode b_M_things 127 = .ok (.l2i, 1) := by decide +kernel
theorem d_M_things_128 : decode b_M_things 128 = .ok (.iconst 0, 1) := by decide +kernel
theorem d_M_things_129 : decode b_M_things 129 = .ok (.iconst 3, 1) := by decide +kernel
theorem d_M_things_130 : decode b_M_things 130 = .ok (.invokestatic 153, 3) := by decide +kernel
theorem d_M_things_133 : decode b_M_things 133 = .ok (.ifCond .eq 41, 3) := by decide +kernel
theorem d_M_things_136 : decode b_M_things 136 = .ok (.aload_n 0, 1) := by decide +kernel
theorem d_M_things_137 : decode b_M_things 137 = .ok (.getfield 140, 3) := by decide +kernel
theorem d_M_things_140 : decode b_M_things 140 = .ok (.iload 7, 2) := by decide +kernel
theorem d_M_things_142 : decode b_M_things 142 = .ok (.iconst 1, 1) := by decide +kernel
theorem d_M_things_143 : decode b_M_things 143 = .ok (.iadd, 1) := by decide +kernel
theorem d_M_things_144 : decode b_M_things 144 = .ok (.laload, 1) := by decide +kernel
theorem d_M_things_145 : decode b_M_things 145 = .ok (.l2i, 1) := by decide +kernel
theorem d_M_things_146 : decode b_M_things 146 = .ok (.iconst 0, 1) := by decide +kernel
theorem d_M_things_147 : decode b_M_things 147 = .ok (.bipush 9, 2) := by decide +kernel
theorem d_M_things_149 : decode b_M_things 149 = .ok (.invokestatic 153, 3) := by decide +kernel
theorem d_M_things_152 : decode b_M_things 152 = .ok (.ifCond .eq 22, 3) := by decide +kernel
theorem d_M_things_155 : decode b_M_things 155 = .ok (.aload_n 0, 1) := by decide +kernel
theorem d_M_things_156 : decode b_M_things 156 = .ok (.getfield 140, 3) := by decide +kernel
theorem d_M_things_159 : decode b_M_things 159 = .ok (.iload 7, 2) := by decide +kernel
theorem d_M_things_161 : decode b_M_things 161 = .ok (.iconst 2, 1) := by decide +kernel
theorem d_M_things_162 : decode b_M_things 162 = .ok (.iadd, 1) := by decide +kernel
theorem d_M_things_163 : decode b_M_things 163 = .ok (.laload, 1) := by decide +kernel
theorem d_M_things_164 : decode b_M_things 164 = .ok (.l2i, 1) := by decide +kernel
theorem d_M_things_165 : decode b_M_things 165 = .ok (.iconst 1, 1) := by decide +kernel
theorem d_M_things_166 : decode b_M_things 166 = .ok (.bipush 9, 2) := by decide +kernel
theorem d_M_things_168 : decode b_M_things 168 = .ok (.invokestatic 153, 3) := by decide +kernel
theorem d_M_things_171 : decode b_M_things 171 = .ok (.ifCond .ne 6, 3) := by decide +kernel
theorem d_M_things_174 : decode b_M_things 174 = .ok (.iload 4, 2) := by decide +kernel
theorem d_M_things_176 : decode b_M_things 176 = .ok (.ireturn, 1) := by decide +kernel
theorem d_M_things_177 : decode b_M_things 177 = .ok (.aload_n 0, 1) := by decide +kernel
theorem d_M_things_178 : decode b_M_things 178 = .ok (.aload_n 0, 1) := by decide +kernel
theorem d_M_things_179 : decode b_M_things 179 = .ok (.getfield 140, 3) := by decide +kernel
theorem d_M_things_182 : decode b_M_things 182 = .ok (.iload 7, 2) := by decide +kernel
theorem d_M_things_184 : decode b_M_things 184 = .ok (.laload, 1) := by decide +kernel
theorem d_M_things_185 : decode b_M_things 185 = .ok (.l2i, 1) := by decide +kernel
theorem d_M_things_186 : decode b_M_things 186 = .ok (.aload_n 0, 1) := by decide +kernel
theorem d_M_things_187 : decode b_M_things 187 = .ok (.getfield 140, 3) := by decide +kernel
theorem d_M_things_190 : decode b_M_things 190 = .ok (.iload 7, 2) := by decide +kernel
theorem d_M_things_192 : decode b_M_things 192 = .ok (.iconst 1, 1) := by decide +kernel
theorem d_M_things_193 : decode b_M_things 193 = .ok (.iadd, 1) := by decide +kernel
theorem d_M_things_194 : decode b_M_things 194 = .ok (.laload, 1) := by decide +kernel
theorem d_M_things_195 : decode b_M_things 195 = .ok (.l2i, 1) := by decide +kernel
theorem d_M_things_196 : decode b_M_things 196 = .ok (.aload_n 0, 1) := by decide +kernel
theorem d_M_things_197 : decode b_M_things 197 = .ok (.getfield 140, 3) := by decide +kernel
theorem d_M_things_200 : decode b_M_things 200 = .ok (.iload 7, 2) := by decide +kernel
theorem d_M_things_202 : decode b_M_things 202 = .ok (.iconst 2, 1) := by decide +kernel
theorem d_M_things_203 : decode b_M_things 203 = .ok (.iadd, 1) := by decide +kernel
theorem d_M_things_204 : decode b_M_things 204 = .ok (.laload, 1) := by decide +kernel
theorem d_M_things_205 : decode b_M_things 205 = .ok (.l2i, 1) := by decide +kernel
theorem d_M_things_206 : decode b_M_things 206 = .ok (.invokevirtual 157, 3) := by decide +kernel
theorem d_M_things_209 : decode b_M_things 209 = .ok (.pop, 1) := by decide +kernel
theorem d_M_things_210 : decode b_M_things 210 = .ok (.iinc 4 1, 3) := by decide +kernel
theorem d_M_things_213 : decode b_M_things 213 = .ok (.goto (-155), 3) := by decide +kernel
theorem d_M_things_216 : decode b_M_things 216 = .ok (.iload_n 3, 1) := by decide +kernel
theorem d_M_things_217 : decode b_M_things 217 = .ok (.ireturn, 1) := by decide +kernel
theorem d_M_throwAway_0 : decode b_M_throwAway 0 = .ok (.aload_n 0, 1) := by decide +kernel
theorem d_M_throwAway_1 : decode b_M_throwAway 1 = .ok (.iload_n 1, 1) := by decide +kernel
theorem d_M_throwAway_2 : decode b_M_throwAway 2 = .ok (.invokevirtual 181, 3) := by decide +kernel
theorem d_M_throwAway_5 : decode b_M_throwAway 5 = .ok (.ifCond .ne 5, 3) := by decide +kernel
theorem d_M_throwAway_8 : decode b_M_throwAway 8 = .ok (.iconst (-1), 1) := by decide +kernel
theorem d_M_throwAway_9 : decode b_M_throwAway 9 = .ok (.ireturn, 1) := by decide +kernel
theorem d_M_throwAway_10 : decode b_M_throwAway 10 = .ok (.aload_n 0, 1) := by decide +kernel
theorem d_M_throwAway_11 : decode b_M_throwAway 11 = .ok (.getfield 109, 3) := by decide +kernel
theorem d_M_throwAway_14 : decode b_M_throwAway 14 = .ok (.iload_n 1, 1) := by decide +kernel
theorem d_M_throwAway_15 : decode b_M_throwAway 15 = .ok (.baload, 1) := by decide +kernel
theorem d_M_throwAway_16 : decode b_M_throwAway 16 = .ok (.ifCond .eq 6, 3) := by decide +kernel
theorem d_M_throwAway_19 : decode b_M_throwAway 19 = .ok (.bipush (-5), 2) := by decide +kernel
theorem d_M_throwAway_21 : decode b_M_throwAway 21 = .ok (.ireturn, 1) := by decide +kernel
theorem d_M_throwAway_22 : decode b_M_throwAway 22 = .ok (.aload_n 0, 1) := by decide +kernel
theorem d_M_throwAway_23 : decode b_M_throwAway 23 = .ok (.getfield 109, 3) := by decide +kernel
theorem d_M_throwAway_26 : decode b_M_throwAway 26 = .ok (.iload_n 1, 1) := by decide +kernel
theorem d_M_throwAway_27 : decode b_M_throwAway 27 = .ok (.iconst 1, 1) := by decide +kernel
theorem d_M_throwAway_28 : decode b_M_throwAway 28 = .ok (.bastore, 1) := by decide +kernel
theorem d_M_throwAway_29 : decode b_M_throwAway 29 = .ok (.aload_n 0, 1) := by decide +kernel
theorem d_M_throwAway_30 : decode b_M_throwAway 30 = .ok (.getfield 113, 3) := by decide +kernel
theorem d_M_throwAway_33 : decode b_M_throwAway 33 = .ok (.iconst 4, 1) := by decide +kernel
theorem d_M_throwAway_34 : decode b_M_throwAway 34 = .ok (.dup2, 1) := by decide +kernel
theorem d_M_throwAway_35 : decode b_M_throwAway 35 = .ok (.iaload, 1) := by decide +kernel
theorem d_M_throwAway_36 : decode b_M_throwAway 36 = .ok (.iconst 1, 1) := by decide +kernel
theorem d_M_throwAway_37 : decode b_M_throwAway 37 = .ok (.iadd, 1) := by decide +kernel
theorem d_M_throwAway_38 : decode b_M_throwAway 38 = .ok (.iastore, 1) := by decide +kernel
theorem d_M_throwAway_39 : decode b_M_throwAway 39 = .ok (.aload_n 0, 1) := by decide +kernel
theorem d_M_throwAway_40 : decode b_M_throwAway 40 = .ok (.invokevirtual 373, 3) := by decide +kernel
theorem d_M_throwAway_43 : decode b_M_throwAway 43 = .ok (.ireturn, 1) := by decide +kernel
theorem d_M_tint_0 : decode b_M_tint 0 = .ok (.aload_n 0, 1) := by decide +kernel
theorem d_M_tint_1 : decode b_M_tint 1 = .ok (.iload_n 1, 1) := by decide +kernel
theorem d_M_tint_2 : decode b_M_tint 2 = .ok (.invokevirtual 289, 3) := by decide +kernel
theorem d_M_tint_5 : decode b_M_tint 5 = .ok (.ifCond .eq 26, 3) := by decide +kernel
theorem d_M_tint_8 : decode b_M_tint 8 = .ok (.iload_n 2, 1) := by decide +kernel
theorem d_M_tint_9 : decode b_M_tint 9 = .ok (.invokestatic 292, 3) := by decide +kernel
theorem d_M_tint_12 : decode b_M_tint 12 = .ok (.ifCond .eq 19, 3) := by decide +kernel
theorem d_M_tint_15 : decode b_M_tint 15 = .ok (.aload_n 0, 1) := by decide +kernel
theorem d_M_tint_16 : decode b_M_tint 16 = .ok (.iload_n 3, 1) := by decide +kernel
theorem d_M_tint_17 : decode b_M_tint 17 = .ok (.invokevirtual 181, 3) := by decide +kernel
theorem d_M_tint_20 : decode b_M_tint 20 = .ok (.ifCond .eq 11, 3) := by decide +kernel
theorem d_M_tint_23 : decode b_M_tint 23 = .ok (.iload_n 1, 1) := by decide +kernel
theorem d_M_tint_24 : decode b_M_tint 24 = .ok (.iload_n 3, 1) := by decide +kernel
theorem d_M_tint_25 : decode b_M_tint 25 = .ok (.ishr, 1) := by decide +kernel
theorem d_M_tint_26 : decode b_M_tint 26 = .ok (.iconst 1, 1) := by decide +kernel
theorem d_M_tint_27 : decode b_M_tint 27 = .ok (.iand, 1) := by decide +kernel
theorem d_M_tint_28 : decode b_M_tint 28 = .ok (.ifCond .ne 5, 3) := by decide +kernel
theorem d_M_tint_31 : decode b_M_tint 31 = .ok (.iconst (-1), 1) := by decide +kernel
theorem d_M_tint_32 : decode b_M_tint 32 = .ok (.ireturn, 1) := by decide +kernel
theorem d_M_tint_33 : decode b_M_tint 33 = .ok (.aload_n 0, 1) := by decide +kernel
theorem d_M_tint_34 : decode b_M_tint 34 = .ok (.iload_n 3, 1) := by decide +kernel
theorem d_M_tint_35 : decode b_M_tint 35 = .ok (.aload_n 0, 1) := by decide +kernel
theorem d_M_tint_36 : decode b_M_tint 36 = .ok (.iload_n 1, 1) := by decide +kernel
theorem d_M_tint_37 : decode b_M_tint 37 = .ok (.iload_n 2, 1) := by decide +kernel
theorem d_M_tint_38 : decode b_M_tint 38 = .ok (.bipush 10, 2) := by decide +kernel
theorem d_M_tint_40 : decode b_M_tint 40 = .ok (.idiv, 1) := by decide +kernel
theorem d_M_tint_41 : decode b_M_tint 41 = .ok (.aload_n 0, 1) := by decide +kernel
theorem d_M_tint_42 : decode b_M_tint 42 = .ok (.iload_n 2, 1) := by decide +kernel
theorem d_M_tint_43 : decode b_M_tint 43 = .ok (.invokevirtual 295, 3) := by decide +kernel
theorem d_M_tint_46 : decode b_M_tint 46 = .ok (.invokevirtual 277, 3) := by decide +kernel
theorem d_M_tint_49 : decode b_M_tint 49 = .ok (.iload_n 2, 1) := by decide +kernel
theorem d_M_tint_50 : decode b_M_tint 50 = .ok (.bipush 10, 2) := by decide +kernel
theorem d_M_tint_52 : decode b_M_tint 52 = .ok (.idiv, 1) := by decide +kernel
theorem d_M_tint_53 : decode b_M_tint 53 = .ok (.invokevirtual 280, 3) := by decide +kernel
theorem d_M_tint_56 : decode b_M_tint 56 = .ok (.ireturn, 1) := by decide +kernel
theorem d_M_together_0 : decode b_M_together 0 = .ok (.aload_n 0, 1) := by decide +kernel
theorem d_M_together_1 : decode b_M_together 1 = .ok (.iload_n 1, 1) := by decide +kernel
theorem d_M_together_2 : decode b_M_together 2 = .ok (.invokevirtual 181, 3) := by decide +kernel
theorem d_M_together_5 : decode b_M_together 5 = .ok (.ifCond .eq 10, 3) := by decide +kernel
theorem d_M_together_8 : decode b_M_together 8 = .ok (.iload_n 2, 1) := by decide +kernel
theorem d_M_together_9 : decode b_M_together 9 = .ok (.invokestatic 305, 3) := by decide +kernel
theorem d_M_together_12 : decode b_M_together 12 = .ok (.ifCond .ne 5, 3) := by decide +kernel
theorem d_M_together_15 : decode b_M_together 15 = .ok (.iconst (-1), 1) := by decide +kernel
theorem d_M_together_16 : decode b_M_together 16 = .ok (.ireturn, 1) := by decide +kernel
theorem d_M_together_17 : decode b_M_together 17 = .ok (.iconst 0, 1) := by decide +kernel
theorem d_M_together_18 : decode b_M_together 18 = .ok (.istore_n 3, 1) := by decide +kernel
theorem d_M_together_19 : decode b_M_together 19 = .ok (.iconst 0, 1) := by decide +kernel
theorem d_M_together_20 : decode b_M_together 20 = .ok (.istore 4, 2) := by decide +kernel
theorem d_M_together_22 : decode b_M_together 22 = .ok (.iload 4, 2) := by decide +kernel
theorem d_M_together_24 : decode b_M_together 24 = .ok (.aload_n 0, 1) := by decide +kernel
theorem d_M_together_25 : decode b_M_together 25 = .ok (.getfield 150, 3) := by decide +kernel
theorem d_M_together_28 : decode b_M_together 28 = .ok (.if_icmp .ge 46, 3) := by decide +kernel
theorem d_M_together_31 : decode b_M_together 31 = .ok (.iload 4, 2) := by decide +kernel
theorem d_M_together_33 : decode b_M_together 33 = .ok (.iload_n 1, 1) := by decide +kernel
theorem d_M_together_34 : decode b_M_together 34 = .ok (.if_icmp .eq 34, 3) := by decide +kernel
theorem d_M_together_37 : decode b_M_together 37 = .ok (.aload_n 0, 1) := by decide +kernel
theorem d_M_together_38 : decode b_M_together 38 = .ok (.iconst 1, 1) := by decide +kernel
theorem d_M_together_39 : decode b_M_together 39 = .ok (.iload_n 1, 1) := by decide +kernel
theorem d_M_together_40 : decode b_M_together 40 = .ok (.ishl, 1) := by decide +kernel
theorem d_M_together_41 : decode b_M_together 41 = .ok (.iconst 1, 1) := by decide +kernel
theorem d_M_together_42 : decode b_M_together 42 = .ok (.iload 4, 2) := by decide +kernel
theorem d_M_together_44 : decode b_M_together 44 = .ok (.ishl, 1) := by decide +kernel
theorem d_M_together_45 : decode b_M_together 45 = .ok (.ior, 1) := by decide +kernel
theorem d_M_together_46 : decode b_M_together 46 = .ok (.iload_n 2, 1) := by decide +kernel
theorem d_M_together_47 : decode b_M_together 47 = .ok (.bipush 100, 2) := by decide +kernel
theorem d_M_together_49 : decode b_M_together 49 = .ok (.idiv, 1) := by decide +kernel
theorem d_M_together_50 : decode b_M_together 50 = .ok (.iconst 0, 1) := by decide +kernel
theorem d_M_together_51 : decode b_M_together 51 = .ok (.iload_n 2, 1) := by decide +kernel
theorem d_M_together_52 : decode b_M_together 52 = .ok (.bipush 100, 2) := by decide +kernel
theorem d_M_together_54 : decode b_M_together 54 = .ok (.irem, 1) := by decide +kernel
theorem d_M_together_55 : decode b_M_together 55 = .ok (.invokevirtual 301, 3) := by decide +kernel
theorem d_M_together_58 : decode b_M_together 58 = .ok (.ifCond .eq 10, 3) := by decide +kernel
theorem d_M_together_61 : decode b_M_together 61 = .ok (.iload_n 3, 1) := by decide +kernel
theorem d_M_together_62 : decode b_M_together 62 = .ok (.iconst 1, 1) := by decide +kernel
theorem d_M_together_63 : decode b_M_together 63 = .ok (.iload 4, 2) := by decide +kernel
theorem d_M_together_65 : decode b_M_together 65 = .ok (.ishl, 1) := by decide +kernel
theorem d_M_together_66 : decode b_M_together 66 = .ok (.ior, 1) := by decide +kernel
theorem d_M_together_67 : decode b_M_together 67 = .ok (.istore_n 3, 1) := by decide +kernel
theorem d_M_together_68 : decode b_M_together 68 = .ok (.iinc 4 1, 3) := by decide +kernel
theorem d_M_together_71 : decode b_M_together 71 = .ok (.goto (-49), 3) := by decide +kernel
theorem d_M_together_74 : decode b_M_together 74 = .ok (.iload_n 3, 1) := by decide +kernel
theorem d_M_together_75 : decode b_M_together 75 = .ok (.ireturn, 1) := by decide +kernel
theorem d_M_trace_0 : decode b_M_trace 0 = .ok (.iload_n 1, 1) := by decide +kernel
theorem d_M_trace_1 : decode b_M_trace 1 = .ok (.ifCond .lt 26, 3) := by decide +kernel
theorem d_M_trace_4 : decode b_M_trace 4 = .ok (.iload_n 1, 1) := by decide +kernel
theorem d_M_trace_5 : decode b_M_trace 5 = .ok (.aload_n 0, 1) := by decide +kernel
theorem d_M_trace_6 : decode b_M_trace 6 = .ok (.getfield 385, 3) := by decide +kernel
theorem d_M_trace_9 : decode b_M_trace 9 = .ok (.if_icmp .ge 18, 3) := by decide +kernel
theorem d_M_trace_12 : decode b_M_trace 12 = .ok (.iload_n 1, 1) := by decide +kernel
theorem d_M_trace_13 : decode b_M_trace 13 = .ok (.bipush 24, 2) := by decide +kernel
theorem d_M_trace_15 : decode b_M_trace 15 = .ok (.if_icmp .ge 12, 3) := by decide +kernel
theorem d_M_trace_18 : decode b_M_trace 18 = .ok (.aload_n 0, 1) := by decide +kernel
theorem d_M_trace_19 : decode b_M_trace 19 = .ok (.getfield 131, 3) := by decide +kernel
theorem d_M_trace_22 : decode b_M_trace 22 = .ok (.iload_n 1, 1) := by decide +kernel
theorem d_M_trace_23 : decode b_M_trace 23 = .ok (.iaload, 1) := by decide +kernel
theorem d_M_trace_24 : decode b_M_trace 24 = .ok (.goto 4, 3) := by decide +kernel
theorem d_M_trace_27 : decode b_M_trace 27 = .ok (.iconst (-1), 1) := by decide +kernel
theorem d_M_trace_28 : decode b_M_trace 28 = .ok (.ireturn, 1) := by decide +kernel
theorem d_M_undo_0 : decode b_M_undo 0 = .ok (.aload_n 0, 1) := by decide +kernel
theorem d_M_undo_1 : decode b_M_undo 1 = .ok (.getfield 174, 3) := by decide +kernel
theorem d_M_undo_4 : decode b_M_undo 4 = .ok (.ifCond .ne 6, 3) := by decide +kernel
theorem d_M_undo_7 : decode b_M_undo 7 = .ok (.bipush (-5), 2) := by decide +kernel
theorem d_M_undo_9 : decode b_M_undo 9 = .ok (.ireturn, 1) := by decide +kernel
theorem d_M_undo_10 : decode b_M_undo 10 = .ok (.aload_n 0, 1) := by decide +kernel
theorem d_M_undo_11 : decode b_M_undo 11 = .ok (.dup, 1) := by decide +kernel
theorem d_M_undo_12 : decode b_M_undo 12 = .ok (.getfield 174, 3) := by decide +kernel
theorem d_M_undo_15 : decode b_M_undo 15 = .ok (.iconst 1, 1) := by decide +kernel
theorem d_M_undo_16 : decode b_M_undo 16 = .ok (.isub, 1) := by decide +kernel
theorem d_M_undo_17 : decode b_M_undo 17 = .ok (.putfield 174, 3) := by decide +kernel
theorem d_M_undo_20 : decode b_M_undo 20 = .ok (.aload_n 0, 1) := by decide +kernel
theorem d_M_undo_21 : decode b_M_undo 21 = .ok (.dup, 1) := by decide +kernel
theorem d_M_undo_22 : decode b_M_undo 22 = .ok (.getfield 171, 3) := by decide +kernel
theorem d_M_undo_25 : decode b_M_undo 25 = .ok (.iconst 1, 1) := by decide +kernel
theorem d_M_undo_26 : decode b_M_undo 26 = .ok (.iadd, 1) := by decide +kernel
theorem d_M_undo_27 : decode b_M_undo 27 = .ok (.putfield 171, 3) := by decide +kernel
theorem d_M_undo_30 : decode b_M_undo 30 = .ok (.aload_n 0, 1) := by decide +kernel
theorem d_M_undo_31 : decode b_M_undo 31 = .ok (.aload_n 0, 1) := by decide +kernel
theorem d_M_undo_32 : decode b_M_undo 32 = .ok (.getfield 47, 3) := by decide +kernel
theorem d_M_undo_35 : decode b_M_undo 35 = .ok (.aload_n 0, 1) := by decide +kernel
theorem d_M_undo_36 : decode b_M_undo 36 = .ok (.getfield 174, 3) := by decide +kernel
theorem d_M_undo_39 : decode b_M_undo 39 = .ok (.iaload, 1) := by decide +kernel
theorem d_M_undo_40 : decode b_M_undo 40 = .ok (.aload_n 0, 1) := by decide +kernel
theorem d_M_undo_41 : decode b_M_undo 41 = .ok (.getfield 50, 3) := by decide +kernel
theorem d_M_undo_44 : decode b_M_undo 44 = .ok (.aload_n 0, 1) := by decide +kernel
theorem d_M_undo_45 : decode b_M_undo 45 = .ok (.getfield 174, 3) := by decide +kernel
theorem d_M_undo_48 : decode b_M_undo 48 = .ok (.iaload, 1) := by decide +kernel
theorem d_M_undo_49 : decode b_M_undo 49 = .ok (.aload_n 0, 1) := by decide +kernel
theorem d_M_undo_50 : decode b_M_undo 50 = .ok (.getfield 53, 3) := by decide +kernel
theorem d_M_undo_53 : decode b_M_undo 53 = .ok (.aload_n 0, 1) := by decide +kernel
theorem d_M_undo_54 : decode b_M_undo 54 = .ok (.getfield 174, 3) := by decide +kernel
theorem d_M_undo_57 : decode b_M_undo 57 = .ok (.iaload, 1) := by decide +kernel
theorem d_M_undo_58 : decode b_M_undo 58 = .ok (.invokevirtual 177, 3) := by decide +kernel
theorem d_M_undo_61 : decode b_M_undo 61 = .ok (.aload_n 0, 1) := by decide +kernel
theorem d_M_undo_62 : decode b_M_undo 62 = .ok (.getfield 174, 3) := by decide +kernel
theorem d_M_undo_65 : decode b_M_undo 65 = .ok (.ireturn, 1) := by decide +kernel
theorem d_M_wash_0 : decode b_M_wash 0 = .ok (.aload_n 0, 1) := by decide +kernel
theorem d_M_wash_1 : decode b_M_wash 1 = .ok (.iload_n 1, 1) := by decide +kernel
theorem d_M_wash_2 : decode b_M_wash 2 = .ok (.invokevirtual 289, 3) := by decide +kernel
theorem d_M_wash_5 : decode b_M_wash 5 = .ok (.ifCond .eq 10, 3) := by decide +kernel
theorem d_M_wash_8 : decode b_M_wash 8 = .ok (.iload_n 2, 1) := by decide +kernel
theorem d_M_wash_9 : decode b_M_wash 9 = .ok (.invokestatic 292, 3) := by decide +kernel
theorem d_M_wash_12 : decode b_M_wash 12 = .ok (.ifCond .ne 5, 3) := by decide +kernel
theorem d_M_wash_15 : decode b_M_wash 15 = .ok (.iconst (-1), 1) := by decide +kernel
theorem d_M_wash_16 : decode b_M_wash 16 = .ok (.ireturn, 1) := by decide +kernel
theorem d_M_wash_17 : decode b_M_wash 17 = .ok (.aload_n 0, 1) := by decide +kernel
theorem d_M_wash_18 : decode b_M_wash 18 = .ok (.iload_n 1, 1) := by decide +kernel
theorem d_M_wash_19 : decode b_M_wash 19 = .ok (.invokevirtual 283, 3) := by decide +kernel
theorem d_M_wash_22 : decode b_M_wash 22 = .ok (.ifCond .ne 6, 3) := by decide +kernel
theorem d_M_wash_25 : decode b_M_wash 25 = .ok (.bipush (-5), 2) := by decide +kernel
theorem d_M_wash_27 : decode b_M_wash 27 = .ok (.ireturn, 1) := by decide +kernel
theorem d_M_wash_28 : decode b_M_wash 28 = .ok (.iload_n 2, 1) := by decide +kernel
theorem d_M_wash_29 : decode b_M_wash 29 = .ok (.bipush 10, 2) := by decide +kernel
theorem d_M_wash_31 : decode b_M_wash 31 = .ok (.idiv, 1) := by decide +kernel
theorem d_M_wash_32 : decode b_M_wash 32 = .ok (.istore_n 3, 1) := by decide +kernel
theorem d_M_wash_33 : decode b_M_wash 33 = .ok (.aload_n 0, 1) := by decide +kernel
theorem d_M_wash_34 : decode b_M_wash 34 = .ok (.iload_n 1, 1) := by decide +kernel
theorem d_M_wash_35 : decode b_M_wash 35 = .ok (.iload_n 3, 1) := by decide +kernel
theorem d_M_wash_36 : decode b_M_wash 36 = .ok (.aload_n 0, 1) := by decide +kernel
theorem d_M_wash_37 : decode b_M_wash 37 = .ok (.iload_n 2, 1) := by decide +kernel
theorem d_M_wash_38 : decode b_M_wash 38 = .ok (.invokevirtual 295, 3) := by decide +kernel
theorem d_M_wash_41 : decode b_M_wash 41 = .ok (.invokevirtual 277, 3) := by decide +kernel
theorem d_M_wash_44 : decode b_M_wash 44 = .ok (.istore 4, 2) := by decide +kernel
theorem d_M_wash_46 : decode b_M_wash 46 = .ok (.aload_n 0, 1) := by decide +kernel
theorem d_M_wash_47 : decode b_M_wash 47 = .ok (.iload_n 1, 1) := by decide +kernel
theorem d_M_wash_48 : decode b_M_wash 48 = .ok (.iload_n 3, 1) := by decide +kernel
theorem d_M_wash_49 : decode b_M_wash 49 = .ok (.aload_n 0, 1) := by decide +kernel
theorem d_M_wash_50 : decode b_M_wash 50 = .ok (.iload_n 2, 1) := by decide +kernel
theorem d_M_wash_51 : decode b_M_wash 51 = .ok (.invokevirtual 295, 3) := by decide +kernel
theorem d_M_wash_54 : decode b_M_wash 54 = .ok (.invokevirtual 298, 3) := by decide +kernel
theorem d_M_wash_57 : decode b_M_wash 57 = .ok (.istore 5, 2) := by decide +kernel
theorem d_M_wash_59 : decode b_M_wash 59 = .ok (.aload_n 0, 1) := by decide +kernel
theorem d_M_wash_60 : decode b_M_wash 60 = .ok (.getfield 113, 3) := by decide +kernel
theorem d_M_wash_63 : decode b_M_wash 63 = .ok (.iconst 0, 1) := by decide +kernel
theorem d_M_wash_64 : decode b_M_wash 64 = .ok (.dup2, 1) := by decide +kernel
theorem d_M_wash_65 : decode b_M_wash 65 = .ok (.iaload, 1) := by decide +kernel
theorem d_M_wash_66 : decode b_M_wash 66 = .ok (.iconst 1, 1) := by decide +kernel
theorem d_M_wash_67 : decode b_M_wash 67 = .ok (.iadd, 1) := by decide +kernel
theorem d_M_wash_68 : decode b_M_wash 68 = .ok (.iastore, 1) := by decide +kernel
theorem d_M_wash_69 : decode b_M_wash 69 = .ok (.aload_n 0, 1) := by decide +kernel
theorem d_M_wash_70 : decode b_M_wash 70 = .ok (.getfield 113, 3) := by decide +kernel
theorem d_M_wash_73 : decode b_M_wash 73 = .ok (.iconst 1, 1) := by decide +kernel
theorem d_M_wash_74 : decode b_M_wash 74 = .ok (.dup2, 1) := by decide +kernel
theorem d_M_wash_75 : decode b_M_wash 75 = .ok (.iaload, 1) := by decide +kernel
theorem d_M_wash_76 : decode b_M_wash 76 = .ok (.iload 5, 2) := by decide +kernel
theorem d_M_wash_78 : decode b_M_wash 78 = .ok (.iadd, 1) := by decide +kernel
theorem d_M_wash_79 : decode b_M_wash 79 = .ok (.iastore, 1) := by decide +kernel
theorem d_M_wash_80 : decode b_M_wash 80 = .ok (.aload_n 0, 1) := by decide +kernel
theorem d_M_wash_81 : decode b_M_wash 81 = .ok (.getfield 113, 3) := by decide +kernel
theorem d_M_wash_84 : decode b_M_wash 84 = .ok (.iconst 2, 1) := by decide +kernel
theorem d_M_wash_85 : decode b_M_wash 85 = .ok (.dup2, 1) := by decide +kernel
theorem d_M_wash_86 : decode b_M_wash 86 = .ok (.iaload, 1) := by decide +kernel
theorem d_M_wash_87 : decode b_M_wash 87 = .ok (.aload_n 0, 1) := by decide +kernel
theorem d_M_wash_88 : decode b_M_wash 88 = .ok (.iload_n 1, 1) := by decide +kernel
theorem d_M_wash_89 : decode b_M_wash 89 = .ok (.iload_n 3, 1) := by decide +kernel
theorem d_M_wash_90 : decode b_M_wash 90 = .ok (.invokevirtual 286, 3) := by decide +kernel
theorem d_M_wash_93 : decode b_M_wash 93 = .ok (.invokestatic 318, 3) := by decide +kernel
theorem d_M_wash_96 : decode b_M_wash 96 = .ok (.iadd, 1) := by decide +kernel
theorem d_M_wash_97 : decode b_M_wash 97 = .ok (.iastore, 1) := by decide +kernel
theorem d_M_wash_98 : decode b_M_wash 98 = .ok (.aload_n 0, 1) := by decide +kernel
theorem d_M_wash_99 : decode b_M_wash 99 = .ok (.getfield 113, 3) := by decide +kernel
theorem d_M_wash_102 : decode b_M_wash 102 = .ok (.iconst 3, 1) := by decide +kernel
theorem d_M_wash_103 : decode b_M_wash 103 = .ok (.dup2, 1) := by decide +kernel
theorem d_M_wash_104 : decode b_M_wash 104 = .ok (.iaload, 1) := by decide +kernel
theorem d_M_wash_105 : decode b_M_wash 105 = .ok (.iload_n 2, 1) := by decide +kernel
theorem d_M_wash_106 : decode b_M_wash 106 = .ok (.bipush 10, 2) := by decide +kernel
theorem d_M_wash_108 : decode b_M_wash 108 = .ok (.irem, 1) := by decide +kernel
theorem d_M_wash_109 : decode b_M_wash 109 = .ok (.iadd, 1) := by decide +kernel
theorem d_M_wash_110 : decode b_M_wash 110 = .ok (.iastore, 1) := by decide +kernel
theorem d_M_wash_111 : decode b_M_wash 111 = .ok (.iconst 0, 1) := by decide +kernel
theorem d_M_wash_112 : decode b_M_wash 112 = .ok (.istore 6, 2) := by decide +kernel
theorem d_M_wash_114 : decode b_M_wash 114 = .ok (.iload 6, 2) := by decide +kernel
theorem d_M_wash_116 : decode b_M_wash 116 = .ok (.aload_n 0, 1) := by decide +kernel
theorem d_M_wash_117 : decode b_M_wash 117 = .ok (.getfield 150, 3) := by decide +kernel
theorem d_M_wash_120 : decode b_M_wash 120 = .ok (.if_icmp .ge 61, 3) := by decide +kernel
theorem d_M_wash_123 : decode b_M_wash 123 = .ok (.iload_n 1, 1) := by decide +kernel
theorem d_M_wash_124 : decode b_M_wash 124 = .ok (.iload 6, 2) := by decide +kernel
theorem d_M_wash_126 : decode b_M_wash 126 = .ok (.ishr, 1) := by decide +kernel
theorem d_M_wash_127 : decode b_M_wash 127 = .ok (.iconst 1, 1) := by decide +kernel
theorem d_M_wash_128 : decode b_M_wash 128 = .ok (.iand, 1) := by decide +kernel
theorem d_M_wash_129 : decode b_M_wash 129 = .ok (.ifCond .ne 6, 3) := by decide +kernel
theorem d_M_wash_132 : decode b_M_wash 132 = .ok (.goto 43, 3) := by decide +kernel
theorem d_M_wash_135 : decode b_M_wash 135 = .ok (.aload_n 0, 1) := by decide +kernel
theorem d_M_wash_136 : decode b_M_wash 136 = .ok (.getfield 106, 3) := by decide +kernel
theorem d_M_wash_139 : decode b_M_wash 139 = .ok (.iload 6, 2) := by decide +kernel
theorem d_M_wash_141 : decode b_M_wash 141 = .ok (.iaload, 1) := by decide +kernel
theorem d_M_wash_142 : decode b_M_wash 142 = .ok (.aload_n 0, 1) := by decide +kernel
theorem d_M_wash_143 : decode b_M_wash 143 = .ok (.iload 6, 2) := by decide +kernel
theorem d_M_wash_145 : decode b_M_wash 145 = .ok (.iload 4, 2) := by decide +kernel
theorem d_M_wash_147 : decode b_M_wash 147 = .ok (.iload_n 3, 1) := by decide +kernel
theorem d_M_wash_148 : decode b_M_wash 148 = .ok (.invokevirtual 280, 3) := by decide +kernel
theorem d_M_wash_151 : decode b_M_wash 151 = .ok (.iadd, 1) := by decide +kernel
theorem d_M_wash_152 : decode b_M_wash 152 = .ok (.istore 7, 2) := by decide +kernel
theorem d_M_wash_154 : decode b_M_wash 154 = .ok (.aload_n 0, 1) := by decide +kernel
theorem d_M_wash_155 : decode b_M_wash 155 = .ok (.getfield 106, 3) := by decide +kernel
theorem d_M_wash_158 : decode b_M_wash 158 = .ok (.iload 6, 2) := by decide +kernel
theorem d_M_wash_160 : decode b_M_wash 160 = .ok (.iload 7, 2) := by decide +kernel
theorem d_M_wash_162 : decode b_M_wash 162 = .ok (.bipush 99, 2) := by decide +kernel
theorem d_M_wash_164 : decode b_M_wash 164 = .ok (.if_icmp .le 8, 3) := by decide +kernel
theorem d_M_wash_167 : decode b_M_wash 167 = .ok (.bipush 99, 2) := by decide +kernel
theorem d_M_wash_169 : decode b_M_wash 169 = .ok (.goto 5, 3) := by decide +kernel
theorem d_M_wash_172 : decode b_M_wash 172 = .ok (.iload 7, 2) := by decide +kernel
theorem d_M_wash_174 : decode b_M_wash 174 = .ok (.iastore, 1) := by decide +kernel
theorem d_M_wash_175 : decode b_M_wash 175 = .ok (.iinc 6 1, 3) := by decide +kernel
theorem d_M_wash_178 : decode b_M_wash 178 = .ok (.goto (-64), 3) := by decide +kernel
theorem d_M_wash_181 : decode b_M_wash 181 = .ok (.iconst 0, 1) := by decide +kernel
theorem d_M_wash_182 : decode b_M_wash 182 = .ok (.istore 6, 2) := by decide +kernel
theorem d_M_wash_184 : decode b_M_wash 184 = .ok (.iload 6, 2) := by decide +kernel
theorem d_M_wash_186 : decode b_M_wash 186 = .ok (.aload_n 0, 1) := by decide +kernel
theorem d_M_wash_187 : decode b_M_wash 187 = .ok (.getfield 150, 3) := by decide +kernel
theorem d_M_wash_190 : decode b_M_wash 190 = .ok (.if_icmp .ge 42, 3) := by decide +kernel
theorem d_M_wash_193 : decode b_M_wash 193 = .ok (.iload_n 1, 1) := by decide +kernel
theorem d_M_wash_194 : decode b_M_wash 194 = .ok (.iload 6, 2) := by decide +kernel
theorem d_M_wash_196 : decode b_M_wash 196 = .ok (.ishr, 1) := by decide +kernel
theorem d_M_wash_197 : decode b_M_wash 197 = .ok (.iconst 1, 1) := by decide +kernel
theorem d_M_wash_198 : decode b_M_wash 198 = .ok (.iand, 1) := by decide +kernel
theorem d_M_wash_199 : decode b_M_wash 199 = .ok (.iconst 1, 1) := by decide +kernel
theorem d_M_wash_200 : decode b_M_wash 200 = .ok (.if_icmp .ne 26, 3) := by decide +kernel
theorem d_M_wash_203 : decode b_M_wash 203 = .ok (.aload_n 0, 1) := by decide +kernel
theorem d_M_wash_204 : decode b_M_wash 204 = .ok (.getfield 16, 3) := by decide +kernel
theorem d_M_wash_207 : decode b_M_wash 207 = .ok (.iload 6, 2) := by decide +kernel
theorem d_M_wash_209 : decode b_M_wash 209 = .ok (.iaload, 1) := by decide +kernel
theorem d_M_wash_210 : decode b_M_wash 210 = .ok (.bipush 99, 2) := by decide +kernel
theorem d_M_wash_212 : decode b_M_wash 212 = .ok (.if_icmp .ge 14, 3) := by decide +kernel
theorem d_M_wash_215 : decode b_M_wash 215 = .ok (.aload_n 0, 1) := by decide +kernel
theorem d_M_wash_216 : decode b_M_wash 216 = .ok (.getfield 16, 3) := by decide +kernel
theorem d_M_wash_219 : decode b_M_wash 219 = .ok (.iload 6, 2) := by decide +kernel
theorem d_M_wash_221 : decode b_M_wash 221 = .ok (.dup2, 1) := by decide +kernel
theorem d_M_wash_222 : decode b_M_wash 222 = .ok (.iaload, 1) := by decide +kernel
theorem d_M_wash_223 : decode b_M_wash 223 = .ok (.iconst 1, 1) := by decide +kernel
theorem d_M_wash_224 : decode b_M_wash 224 = .ok (.iadd, 1) := by decide +kernel
theorem d_M_wash_225 : decode b_M_wash 225 = .ok (.iastore, 1) := by decide +kernel
theorem d_M_wash_226 : decode b_M_wash 226 = .ok (.iinc 6 1, 3) := by decide +kernel
theorem d_M_wash_229 : decode b_M_wash 229 = .ok (.goto (-45), 3) := by decide +kernel
theorem d_M_wash_232 : decode b_M_wash 232 = .ok (.iload 5, 2) := by decide +kernel
theorem d_M_wash_234 : decode b_M_wash 234 = .ok (.ireturn, 1) := by decide +kernel
theorem d_M_which_0 : decode b_M_which 0 = .ok (.iload_n 1, 1) := by decide +kernel
theorem d_M_which_1 : decode b_M_which 1 = .ok (.invokestatic 161, 3) := by decide +kernel
theorem d_M_which_4 : decode b_M_which 4 = .ok (.ifCond .eq 28, 3) := by decide +kernel
theorem d_M_which_7 : decode b_M_which 7 = .ok (.aload_n 0, 1) := by decide +kernel
theorem d_M_which_8 : decode b_M_which 8 = .ok (.iload_n 2, 1) := by decide +kernel
theorem d_M_which_9 : decode b_M_which 9 = .ok (.invokevirtual 289, 3) := by decide +kernel
theorem d_M_which_12 : decode b_M_which 12 = .ok (.ifCond .eq 20, 3) := by decide +kernel
theorem d_M_which_15 : decode b_M_which 15 = .ok (.iload_n 3, 1) := by decide +kernel
theorem d_M_which_16 : decode b_M_which 16 = .ok (.invokestatic 292, 3) := by decide +kernel
theorem d_M_which_19 : decode b_M_which 19 = .ok (.ifCond .eq 13, 3) := by decide +kernel
theorem d_M_which_22 : decode b_M_which 22 = .ok (.iload 4, 2) := by decide +kernel
theorem d_M_which_24 : decode b_M_which 24 = .ok (.iconst 0, 1) := by decide +kernel
theorem d_M_which_25 : decode b_M_which 25 = .ok (.iconst 1, 1) := by decide +kernel
theorem d_M_which_26 : decode b_M_which 26 = .ok (.invokestatic 153, 3) := by decide +kernel
theorem d_M_which_29 : decode b_M_which 29 = .ok (.ifCond .ne 5, 3) := by decide +kernel
theorem d_M_which_32 : decode b_M_which 32 = .ok (.iconst (-1), 1) := by decide +kernel
theorem d_M_which_33 : decode b_M_which 33 = .ok (.ireturn, 1) := by decide +kernel
theorem d_M_which_34 : decode b_M_which 34 = .ok (.aload_n 0, 1) := by decide +kernel
theorem d_M_which_35 : decode b_M_which 35 = .ok (.iload_n 1, 1) := by decide +kernel
theorem d_M_which_36 : decode b_M_which 36 = .ok (.iconst 1, 1) := by decide +kernel
theorem d_M_which_37 : decode b_M_which 37 = .ok (.invokevirtual 337, 3) := by decide +kernel
theorem d_M_which_40 : decode b_M_which 40 = .ok (.istore 5, 2) := by decide +kernel
theorem d_M_which_42 : decode b_M_which 42 = .ok (.iload 5, 2) := by decide +kernel
theorem d_M_which_44 : decode b_M_which 44 = .ok (.ifCond .ge 6, 3) := by decide +kernel
theorem d_M_which_47 : decode b_M_which 47 = .ok (.iload 5, 2) := by decide +kernel
theorem d_M_which_49 : decode b_M_which 49 = .ok (.ireturn, 1) := by decide +kernel
theorem d_M_which_50 : decode b_M_which 50 = .ok (.iconst 0, 1) := by decide +kernel
theorem d_M_which_51 : decode b_M_which 51 = .ok (.istore 6, 2) := by decide +kernel
theorem d_M_which_53 : decode b_M_which 53 = .ok (.bipush (-2), 2) := by decide +kernel
theorem d_M_which_55 : decode b_M_which 55 = .ok (.istore 7, 2) := by decide +kernel
theorem d_M_which_57 : decode b_M_which 57 = .ok (.iconst 0, 1) := by decide +kernel
theorem d_M_which_58 : decode b_M_which 58 = .ok (.istore 8, 2) := by decide +kernel
theorem d_M_which_60 : decode b_M_which 60 = .ok (.iload 8, 2) := by decide +kernel
theorem d_M_which_62 : decode b_M_which 62 = .ok (.aload_n 0, 1) := by decide +kernel
theorem d_M_which_63 : decode b_M_which 63 = .ok (.getfield 150, 3) := by decide +kernel
theorem d_M_which_66 : decode b_M_which 66 = .ok (.if_icmp .ge 58, 3) := by decide +kernel
theorem d_M_which_69 : decode b_M_which 69 = .ok (.iload_n 2, 1) := by decide +kernel
theorem d_M_which_70 : decode b_M_which 70 = .ok (.iload 8, 2) := by decide +kernel
theorem d_M_which_72 : decode b_M_which 72 = .ok (.ishr, 1) := by decide +kernel
theorem d_M_which_73 : decode b_M_which 73 = .ok (.iconst 1, 1) := by decide +kernel
theorem d_M_which_74 : decode b_M_which 74 = .ok (.iand, 1) := by decide +kernel
theorem d_M_which_75 : decode b_M_which 75 = .ok (.iconst 1, 1) := by decide +kernel
theorem d_M_which_76 : decode b_M_which 76 = .ok (.if_icmp .eq 42, 3) := by decide +kernel
theorem d_M_which_79 : decode b_M_which 79 = .ok (.aload_n 0, 1) := by decide +kernel
theorem d_M_which_80 : decode b_M_which 80 = .ok (.iload_n 1, 1) := by decide +kernel
theorem d_M_which_81 : decode b_M_which 81 = .ok (.iload_n 2, 1) := by decide +kernel
theorem d_M_which_82 : decode b_M_which 82 = .ok (.iload_n 2, 1) := by decide +kernel
theorem d_M_which_83 : decode b_M_which 83 = .ok (.iconst 1, 1) := by decide +kernel
theorem d_M_which_84 : decode b_M_which 84 = .ok (.iload 8, 2) := by decide +kernel
theorem d_M_which_86 : decode b_M_which 86 = .ok (.ishl, 1) := by decide +kernel
theorem d_M_which_87 : decode b_M_which 87 = .ok (.ior, 1) := by decide +kernel
theorem d_M_which_88 : decode b_M_which 88 = .ok (.iload_n 3, 1) := by decide +kernel
theorem d_M_which_89 : decode b_M_which 89 = .ok (.bipush 10, 2) := by decide +kernel
theorem d_M_which_91 : decode b_M_which 91 = .ok (.idiv, 1) := by decide +kernel
theorem d_M_which_92 : decode b_M_which 92 = .ok (.aload_n 0, 1) := by decide +kernel
theorem d_M_which_93 : decode b_M_which 93 = .ok (.iload_n 3, 1) := by decide +kernel
theorem d_M_which_94 : decode b_M_which 94 = .ok (.invokevirtual 295, 3) := by decide +kernel
theorem d_M_which_97 : decode b_M_which 97 = .ok (.invokevirtual 368, 3) := by decide +kernel
theorem d_M_which_100 : decode b_M_which 100 = .ok (.ifCond .lt 6, 3) := by decide +kernel
theorem d_M_which_103 : decode b_M_which 103 = .ok (.goto 15, 3) := by decide +kernel
theorem d_M_which_106 : decode b_M_which 106 = .ok (.iload 6, 2) := by decide +kernel
theorem d_M_which_108 : decode b_M_which 108 = .ok (.ifCond .ne 7, 3) := by decide +kernel
theorem d_M_which_111 : decode b_M_which 111 = .ok (.iload 8, 2) := by decide +kernel
theorem d_M_which_113 : decode b_M_which 113 = .ok (.istore 7, 2) := by decide +kernel
theorem d_M_which_115 : decode b_M_which 115 = .ok (.iinc 6 1, 3) := by decide +kernel
theorem d_M_which_118 : decode b_M_which 118 = .ok (.iinc 8 1, 3) := by decide +kernel
theorem d_M_which_121 : decode b_M_which 121 = .ok (.goto (-61), 3) := by decide +kernel
theorem d_M_which_124 : decode b_M_which 124 = .ok (.iload 4, 2) := by decide +kernel
theorem d_M_which_126 : decode b_M_which 126 = .ok (.ifCond .ne 8, 3) := by decide +kernel
theorem d_M_which_129 : decode b_M_which 129 = .ok (.iload 6, 2) := by decide +kernel
theorem d_M_which_131 : decode b_M_which 131 = .ok (.goto 5, 3) := by decide +kernel
theorem d_M_which_134 : decode b_M_which 134 = .ok (.iload 7, 2) := by decide +kernel
theorem d_M_which_136 : decode b_M_which 136 = .ok (.ireturn, 1) := by decide +kernel
