theorem d_Top_within_0 : decode b_Top_within 0 = .ok (.iload_n 0, 1) := by decide +kernel
theorem d_Top_within_1 : decode b_Top_within 1 = .ok (.iload_n 1, 1) := by decide +kernel
theorem d_Top_within_2 : decode b_Top_within 2 = .ok (.if_icmp .lt 12, 3) := by decide +kernel
theorem d_Top_within_5 : decode b_Top_within 5 = .ok (.iload_n 0, 1) := by decide +kernel
theorem d_Top_within_6 : decode b_Top_within 6 = .ok (.iload_n 2, 1) := by decide +kernel
theorem d_Top_within_7 : decode b_Top_within 7 = .ok (.if_icmp .gt 7, 3) := by decide +kernel
theorem d_Top_within_10 : decode b_Top_within 10 = .ok (.iconst 1, 1) := by decide +kernel
theorem d_Top_within_11 : decode b_Top_within 11 = .ok (.goto 4, 3) := by decide +kernel
theorem d_Top_within_14 : decode b_Top_within 14 = .ok (.iconst 0, 1) := by decide +kernel
theorem d_Top_within_15 : decode b_Top_within 15 = .ok (.ireturn, 1) := by decide +kernel
theorem d_Socks_note_0 : decode b_Socks_note 0 = .ok (.aload_n 0, 1) := by decide +kernel
theorem d_Socks_note_1 : decode b_Socks_note 1 = .ok (.getfield 33, 3) := by decide +kernel
theorem d_Socks_note_4 : decode b_Socks_note 4 = .ok (.bipush 24, 2) := by decide +kernel
theorem d_Socks_note_6 : decode b_Socks_note 6 = .ok (.if_icmp .ge 13, 3) := by decide +kernel
theorem d_Socks_note_9 : decode b_Socks_note 9 = .ok (.aload_n 0, 1) := by decide +kernel
theorem d_Socks_note_10 : decode b_Socks_note 10 = .ok (.getfield 15, 3) := by decide +kernel
theorem d_Socks_note_13 : decode b_Socks_note 13 = .ok (.aload_n 0, 1) := by decide +kernel
theorem d_Socks_note_14 : decode b_Socks_note 14 = .ok (.getfield 33, 3) := by decide +kernel
theorem d_Socks_note_17 : decode b_Socks_note 17 = .ok (.iload_n 1, 1) := by decide +kernel
theorem d_Socks_note_18 : decode b_Socks_note 18 = .ok (.iastore, 1) := by decide +kernel
theorem d_Socks_note_19 : decode b_Socks_note 19 = .ok (.aload_n 0, 1) := by decide +kernel
theorem d_Socks_note_20 : decode b_Socks_note 20 = .ok (.dup, 1) := by decide +kernel
theorem d_Socks_note_21 : decode b_Socks_note 21 = .ok (.getfield 33, 3) := by decide +kernel
theorem d_Socks_note_24 : decode b_Socks_note 24 = .ok (.iconst 1, 1) := by decide +kernel
theorem d_Socks_note_25 : decode b_Socks_note 25 = .ok (.iadd, 1) := by decide +kernel
theorem d_Socks_note_26 : decode b_Socks_note 26 = .ok (.putfield 33, 3) := by decide +kernel
theorem d_Socks_note_29 : decode b_Socks_note 29 = .ok (.return_, 1) := by decide +kernel
theorem d_Socks_ownerOf_0 : decode b_Socks_ownerOf 0 = .ok (.iload_n 0, 1) := by decide +kernel
theorem d_Socks_ownerOf_1 : decode b_Socks_ownerOf 1 = .ok (.istore_n 2, 1) := by decide +kernel
theorem d_Socks_ownerOf_2 : decode b_Socks_ownerOf 2 = .ok (.iconst 0, 1) := by decide +kernel
theorem d_Socks_ownerOf_3 : decode b_Socks_ownerOf 3 = .ok (.istore_n 3, 1) := by decide +kernel
theorem d_Socks_ownerOf_4 : decode b_Socks_ownerOf 4 = .ok (.iload_n 3, 1) := by decide +kernel
theorem d_Socks_ownerOf_5 : decode b_Socks_ownerOf 5 = .ok (.bipush 7, 2) := by decide +kernel
theorem d_Socks_ownerOf_7 : decode b_Socks_ownerOf 7 = .ok (.if_icmp .gt 33, 3) := by decide +kernel
theorem d_Socks_ownerOf_10 : decode b_Socks_ownerOf 10 = .ok (.iload_n 2, 1) := by decide +kernel
theorem d_Socks_ownerOf_11 : decode b_Socks_ownerOf 11 = .ok (.ifCond .lt 29, 3) := by decide +kernel
theorem d_Socks_ownerOf_14 : decode b_Socks_ownerOf 14 = .ok (.getstatic 57, 3) := by decide +kernel
theorem d_Socks_ownerOf_17 : decode b_Socks_ownerOf 17 = .ok (.iload_n 2, 1) := by decide +kernel
theorem d_Socks_ownerOf_18 : decode b_Socks_ownerOf 18 = .ok (.iconst 4, 1) := by decide +kernel
theorem d_Socks_ownerOf_19 : decode b_Socks_ownerOf 19 = .ok (.imul, 1) := by decide +kernel
theorem d_Socks_ownerOf_20 : decode b_Socks_ownerOf 20 = .ok (.iload_n 1, 1) := by decide +kernel
theorem d_Socks_ownerOf_21 : decode b_Socks_ownerOf 21 = .ok (.iadd, 1) := by decide +kernel
theorem d_Socks_ownerOf_22 : decode b_Socks_ownerOf 22 = .ok (.iaload, 1) := by decide +kernel
theorem d_Socks_ownerOf_23 : decode b_Socks_ownerOf 23 = .ok (.ifCond .eq 5, 3) := by decide +kernel
theorem d_Socks_ownerOf_26 : decode b_Socks_ownerOf 26 = .ok (.iload_n 2, 1) := by decide +kernel
theorem d_Socks_ownerOf_27 : decode b_Socks_ownerOf 27 = .ok (.ireturn, 1) := by decide +kernel
theorem d_Socks_ownerOf_28 : decode b_Socks_ownerOf 28 = .ok (.getstatic 30, 3) := by decide +kernel
theorem d_Socks_ownerOf_31 : decode b_Socks_ownerOf 31 = .ok (.iload_n 2, 1) := by decide +kernel
theorem d_Socks_ownerOf_32 : decode b_Socks_ownerOf 32 = .ok (.iaload, 1) := by decide +kernel
theorem d_Socks_ownerOf_33 : decode b_Socks_ownerOf 33 = .ok (.istore_n 2, 1) := by decide +kernel
theorem d_Socks_ownerOf_34 : decode b_Socks_ownerOf 34 = .ok (.iinc 3 1, 3) := by decide +kernel
theorem d_Socks_ownerOf_37 : decode b_Socks_ownerOf 37 = .ok (.goto (-33), 3) := by decide +kernel
theorem d_Socks_ownerOf_40 : decode b_Socks_ownerOf 40 = .ok (.iconst (-1), 1) := by decide +kernel
theorem d_Socks_ownerOf_41 : decode b_Socks_ownerOf 41 = .ok (.ireturn, 1) := by decide +kernel
theorem d_Socks_isBody_0 : decode b_Socks_isBody 0 = .ok (.iload_n 1, 1) := by decide +kernel
theorem d_Socks_isBody_1 : decode b_Socks_isBody 1 = .ok (.iconst 0, 1) := by decide +kernel
theorem d_Socks_isBody_2 : decode b_Socks_isBody 2 = .ok (.aload_n 0, 1) := by decide +kernel
theorem d_Socks_isBody_3 : decode b_Socks_isBody 3 = .ok (.getfield 18, 3) := by decide +kernel
theorem d_Socks_isBody_6 : decode b_Socks_isBody 6 = .ok (.iconst 1, 1) := by decide +kernel
theorem d_Socks_isBody_7 : decode b_Socks_isBody 7 = .ok (.isub, 1) := by decide +kernel
theorem d_Socks_isBody_8 : decode b_Socks_isBody 8 = .ok (.invokestatic 22, 3) := by decide +kernel
theorem d_Socks_isBody_11 : decode b_Socks_isBody 11 = .ok (.ireturn, 1) := by decide +kernel
theorem d_Socks_own_0 : decode b_Socks_own 0 = .ok (.aload_n 0, 1) := by decide +kernel
theorem d_Socks_own_1 : decode b_Socks_own 1 = .ok (.iload_n 1, 1) := by decide +kernel
theorem d_Socks_own_2 : decode b_Socks_own 2 = .ok (.invokevirtual 46, 3) := by decide +kernel
theorem d_Socks_own_5 : decode b_Socks_own 5 = .ok (.ifCond .eq 21, 3) := by decide +kernel
theorem d_Socks_own_8 : decode b_Socks_own 8 = .ok (.aload_n 0, 1) := by decide +kernel
theorem d_Socks_own_9 : decode b_Socks_own 9 = .ok (.aload_n 0, 1) := by decide +kernel
theorem d_Socks_own_10 : decode b_Socks_own 10 = .ok (.getfield 11, 3) := by decide +kernel
theorem d_Socks_own_13 : decode b_Socks_own 13 = .ok (.iload_n 1, 1) := by decide +kernel
theorem d_Socks_own_14 : decode b_Socks_own 14 = .ok (.iaload, 1) := by decide +kernel
theorem d_Socks_own_15 : decode b_Socks_own 15 = .ok (.iload_n 1, 1) := by decide +kernel
theorem d_Socks_own_16 : decode b_Socks_own 16 = .ok (.iload_n 2, 1) := by decide +kernel
theorem d_Socks_own_17 : decode b_Socks_own 17 = .ok (.iload_n 3, 1) := by decide +kernel
theorem d_Socks_own_18 : decode b_Socks_own 18 = .ok (.iload 4, 2) := by decide +kernel
theorem d_Socks_own_20 : decode b_Socks_own 20 = .ok (.invokevirtual 50, 3) := by decide +kernel
theorem d_Socks_own_23 : decode b_Socks_own 23 = .ok (.goto 4, 3) := by decide +kernel
theorem d_Socks_own_26 : decode b_Socks_own 26 = .ok (.iconst 0, 1) := by decide +kernel
theorem d_Socks_own_27 : decode b_Socks_own 27 = .ok (.ireturn, 1) := by decide +kernel
theorem d_Socks_lower_0 : decode b_Socks_lower 0 = .ok (.iload_n 1, 1) := by decide +kernel
theorem d_Socks_lower_1 : decode b_Socks_lower 1 = .ok (.lookupswitch 134 #[(20, 83), (30, 87), (40, 90), (50, 94), (60, 98), (61, 110), (70, 114), (80, 118), (81, 130)], 83) := by decide +kernel
theorem d_Socks_lower_84 : decode b_Socks_lower 84 = .ok (.iload_n 3, 1) := by decide +kernel
theorem d_Socks_lower_85 : decode b_Socks_lower 85 = .ok (.iconst 3, 1) := by decide +kernel
theorem d_Socks_lower_86 : decode b_Socks_lower 86 = .ok (.iadd, 1) := by decide +kernel
theorem d_Socks_lower_87 : decode b_Socks_lower 87 = .ok (.ireturn, 1) := by decide +kernel
theorem d_Socks_lower_88 : decode b_Socks_lower 88 = .ok (.iload_n 3, 1) := by decide +kernel
theorem d_Socks_lower_89 : decode b_Socks_lower 89 = .ok (.ineg, 1) := by decide +kernel
theorem d_Socks_lower_90 : decode b_Socks_lower 90 = .ok (.ireturn, 1) := by decide +kernel
theorem d_Socks_lower_91 : decode b_Socks_lower 91 = .ok (.iload_n 3, 1) := by decide +kernel
theorem d_Socks_lower_92 : decode b_Socks_lower 92 = .ok (.iconst 3, 1) := by decide +kernel
theorem d_Socks_lower_93 : decode b_Socks_lower 93 = .ok (.imul, 1) := by decide +kernel
theorem d_Socks_lower_94 : decode b_Socks_lower 94 = .ok (.ireturn, 1) := by decide +kernel
theorem d_Socks_lower_95 : decode b_Socks_lower 95 = .ok (.iload_n 3, 1) := by decide +kernel
theorem d_Socks_lower_96 : decode b_Socks_lower 96 = .ok (.iconst 5, 1) := by decide +kernel
theorem d_Socks_lower_97 : decode b_Socks_lower 97 = .ok (.ixor, 1) := by decide +kernel
theorem d_Socks_lower_98 : decode b_Socks_lower 98 = .ok (.ireturn, 1) := by decide +kernel
theorem d_Socks_lower_99 : decode b_Socks_lower 99 = .ok (.iload_n 3, 1) := by decide +kernel
theorem d_Socks_lower_100 : decode b_Socks_lower 100 = .ok (.aload_n 0, 1) := by decide +kernel
theorem d_Socks_lower_101 : decode b_Socks_lower 101 = .ok (.iload_n 2, 1) := by decide +kernel
theorem d_Socks_lower_102 : decode b_Socks_lower 102 = .ok (.iconst 0, 1) := by decide +kernel
theorem d_Socks_lower_103 : decode b_Socks_lower 103 = .ok (.iconst 2, 1) := by decide +kernel
theorem d_Socks_lower_104 : decode b_Socks_lower 104 = .ok (.iload 4, 2) := by decide +kernel
theorem d_Socks_lower_106 : decode b_Socks_lower 106 = .ok (.invokevirtual 42, 3) := by decide +kernel
theorem d_Socks_lower_109 : decode b_Socks_lower 109 = .ok (.isub, 1) := by decide +kernel
theorem d_Socks_lower_110 : decode b_Socks_lower 110 = .ok (.ireturn, 1) := by decide +kernel
theorem d_Socks_lower_111 : decode b_Socks_lower 111 = .ok (.iload_n 3, 1) := by decide +kernel
theorem d_Socks_lower_112 : decode b_Socks_lower 112 = .ok (.iconst 1, 1) := by decide +kernel
theorem d_Socks_lower_113 : decode b_Socks_lower 113 = .ok (.iadd, 1) := by decide +kernel
theorem d_Socks_lower_114 : decode b_Socks_lower 114 = .ok (.ireturn, 1) := by decide +kernel
theorem d_Socks_lower_115 : decode b_Socks_lower 115 = .ok (.iload_n 3, 1) := by decide +kernel
theorem d_Socks_lower_116 : decode b_Socks_lower 116 = .ok (.iconst 2, 1) := by decide +kernel
theorem d_Socks_lower_117 : decode b_Socks_lower 117 = .ok (.imul, 1) := by decide +kernel
theorem d_Socks_lower_118 : decode b_Socks_lower 118 = .ok (.ireturn, 1) := by decide +kernel
theorem d_Socks_lower_119 : decode b_Socks_lower 119 = .ok (.iload_n 3, 1) := by decide +kernel
theorem d_Socks_lower_120 : decode b_Socks_lower 120 = .ok (.aload_n 0, 1) := by decide +kernel
theorem d_Socks_lower_121 : decode b_Socks_lower 121 = .ok (.iload_n 2, 1) := by decide +kernel
theorem d_Socks_lower_122 : decode b_Socks_lower 122 = .ok (.iconst 2, 1) := by decide +kernel
theorem d_Socks_lower_123 : decode b_Socks_lower 123 = .ok (.iconst 2, 1) := by decide +kernel
theorem d_Socks_lower_124 : decode b_Socks_lower 124 = .ok (.iload 4, 2) := by decide +kernel
theorem d_Socks_lower_126 : decode b_Socks_lower 126 = .ok (.invokevirtual 42, 3) := by decide +kernel
theorem d_Socks_lower_129 : decode b_Socks_lower 129 = .ok (.iadd, 1) := by decide +kernel
theorem d_Socks_lower_130 : decode b_Socks_lower 130 = .ok (.ireturn, 1) := by decide +kernel
theorem d_Socks_lower_131 : decode b_Socks_lower 131 = .ok (.iload_n 3, 1) := by decide +kernel
theorem d_Socks_lower_132 : decode b_Socks_lower 132 = .ok (.iconst 1, 1) := by decide +kernel
theorem d_Socks_lower_133 : decode b_Socks_lower 133 = .ok (.isub, 1) := by decide +kernel
theorem d_Socks_lower_134 : decode b_Socks_lower 134 = .ok (.ireturn, 1) := by decide +kernel
theorem d_Socks_lower_135 : decode b_Socks_lower 135 = .ok (.iload_n 3, 1) := by decide +kernel
theorem d_Socks_lower_136 : decode b_Socks_lower 136 = .ok (.ireturn, 1) := by decide +kernel
theorem d_Socks_topmost_0 : decode b_Socks_topmost 0 = .ok (.iload_n 1, 1) := by decide +kernel
theorem d_Socks_topmost_1 : decode b_Socks_topmost 1 = .ok (.lookupswitch 83 #[(1, 43), (2, 63), (10, 47), (11, 59)], 43) := by decide +kernel
theorem d_Socks_topmost_44 : decode b_Socks_topmost 44 = .ok (.iload_n 3, 1) := by decide +kernel
theorem d_Socks_topmost_45 : decode b_Socks_topmost 45 = .ok (.iload_n 2, 1) := by decide +kernel
theorem d_Socks_topmost_46 : decode b_Socks_topmost 46 = .ok (.iadd, 1) := by decide +kernel
theorem d_Socks_topmost_47 : decode b_Socks_topmost 47 = .ok (.ireturn, 1) := by decide +kernel
theorem d_Socks_topmost_48 : decode b_Socks_topmost 48 = .ok (.aload_n 0, 1) := by decide +kernel
theorem d_Socks_topmost_49 : decode b_Socks_topmost 49 = .ok (.iload_n 2, 1) := by decide +kernel
theorem d_Socks_topmost_50 : decode b_Socks_topmost 50 = .ok (.iconst 0, 1) := by decide +kernel
theorem d_Socks_topmost_51 : decode b_Socks_topmost 51 = .ok (.iload_n 3, 1) := by decide +kernel
theorem d_Socks_topmost_52 : decode b_Socks_topmost 52 = .ok (.iload 4, 2) := by decide +kernel
theorem d_Socks_topmost_54 : decode b_Socks_topmost 54 = .ok (.invokevirtual 42, 3) := by decide +kernel
theorem d_Socks_topmost_57 : decode b_Socks_topmost 57 = .ok (.iconst 2, 1) := by decide +kernel
theorem d_Socks_topmost_58 : decode b_Socks_topmost 58 = .ok (.imul, 1) := by decide +kernel
theorem d_Socks_topmost_59 : decode b_Socks_topmost 59 = .ok (.ireturn, 1) := by decide +kernel
theorem d_Socks_topmost_60 : decode b_Socks_topmost 60 = .ok (.iload_n 3, 1) := by decide +kernel
theorem d_Socks_topmost_61 : decode b_Socks_topmost 61 = .ok (.iload_n 2, 1) := by decide +kernel
theorem d_Socks_topmost_62 : decode b_Socks_topmost 62 = .ok (.ixor, 1) := by decide +kernel
theorem d_Socks_topmost_63 : decode b_Socks_topmost 63 = .ok (.ireturn, 1) := by decide +kernel
theorem d_Socks_topmost_64 : decode b_Socks_topmost 64 = .ok (.aload_n 0, 1) := by decide +kernel
theorem d_Socks_topmost_65 : decode b_Socks_topmost 65 = .ok (.iload_n 2, 1) := by decide +kernel
theorem d_Socks_topmost_66 : decode b_Socks_topmost 66 = .ok (.iconst 1, 1) := by decide +kernel
theorem d_Socks_topmost_67 : decode b_Socks_topmost 67 = .ok (.iload_n 3, 1) := by decide +kernel
theorem d_Socks_topmost_68 : decode b_Socks_topmost 68 = .ok (.iload 4, 2) := by decide +kernel
theorem d_Socks_topmost_70 : decode b_Socks_topmost 70 = .ok (.invokevirtual 42, 3) := by decide +kernel
theorem d_Socks_topmost_73 : decode b_Socks_topmost 73 = .ok (.aload_n 0, 1) := by decide +kernel
theorem d_Socks_topmost_74 : decode b_Socks_topmost 74 = .ok (.iload_n 2, 1) := by decide +kernel
theorem d_Socks_topmost_75 : decode b_Socks_topmost 75 = .ok (.iconst 2, 1) := by decide +kernel
theorem d_Socks_topmost_76 : decode b_Socks_topmost 76 = .ok (.iconst 1, 1) := by decide +kernel
theorem d_Socks_topmost_77 : decode b_Socks_topmost 77 = .ok (.iload 4, 2) := by decide +kernel
theorem d_Socks_topmost_79 : decode b_Socks_topmost 79 = .ok (.invokevirtual 42, 3) := by decide +kernel
theorem d_Socks_topmost_82 : decode b_Socks_topmost 82 = .ok (.isub, 1) := by decide +kernel
theorem d_Socks_topmost_83 : decode b_Socks_topmost 83 = .ok (.ireturn, 1) := by decide +kernel
theorem d_Socks_topmost_84 : decode b_Socks_topmost 84 = .ok (.iconst 0, 1) := by decide +kernel
theorem d_Socks_topmost_85 : decode b_Socks_topmost 85 = .ok (.ireturn, 1) := by decide +kernel
theorem d_Socks_from_0 : decode b_Socks_from 0 = .ok (.iload_n 1, 1) := by decide +kernel
theorem d_Socks_from_1 : decode b_Socks_from 1 = .ok (.iload_n 3, 1) := by decide +kernel
theorem d_Socks_from_2 : decode b_Socks_from 2 = .ok (.invokestatic 54, 3) := by decide +kernel
theorem d_Socks_from_5 : decode b_Socks_from 5 = .ok (.istore 6, 2) := by decide +kernel
theorem d_Socks_from_7 : decode b_Socks_from 7 = .ok (.iload 6, 2) := by decide +kernel
theorem d_Socks_from_9 : decode b_Socks_from 9 = .ok (.iconst (-1), 1) := by decide +kernel
theorem d_Socks_from_10 : decode b_Socks_from 10 = .ok (.if_icmp .eq 10, 3) := by decide +kernel
theorem d_Socks_from_13 : decode b_Socks_from 13 = .ok (.iload 5, 2) := by decide +kernel
theorem d_Socks_from_15 : decode b_Socks_from 15 = .ok (.bipush 40, 2) := by decide +kernel
theorem d_Socks_from_17 : decode b_Socks_from 17 = .ok (.if_icmp .le 5, 3) := by decide +kernel
theorem d_Socks_from_20 : decode b_Socks_from 20 = .ok (.iconst 0, 1) := by decide +kernel
theorem d_Socks_from_21 : decode b_Socks_from 21 = .ok (.ireturn, 1) := by decide +kernel
theorem d_Socks_from_22 : decode b_Socks_from 22 = .ok (.getstatic 57, 3) := by decide +kernel
theorem d_Socks_from_25 : decode b_Socks_from 25 = .ok (.iload 6, 2) := by decide +kernel
theorem d_Socks_from_27 : decode b_Socks_from 27 = .ok (.iconst 4, 1) := by decide +kernel
theorem d_Socks_from_28 : decode b_Socks_from 28 = .ok (.imul, 1) := by decide +kernel
theorem d_Socks_from_29 : decode b_Socks_from 29 = .ok (.iload_n 3, 1) := by decide +kernel
theorem d_Socks_from_30 : decode b_Socks_from 30 = .ok (.iadd, 1) := by decide +kernel
theorem d_Socks_from_31 : decode b_Socks_from 31 = .ok (.iaload, 1) := by decide +kernel
theorem d_Socks_from_32 : decode b_Socks_from 32 = .ok (.istore 7, 2) := by decide +kernel
theorem d_Socks_from_34 : decode b_Socks_from 34 = .ok (.aload_n 0, 1) := by decide +kernel
theorem d_Socks_from_35 : decode b_Socks_from 35 = .ok (.iload 7, 2) := by decide +kernel
theorem d_Socks_from_37 : decode b_Socks_from 37 = .ok (.invokevirtual 60, 3) := by decide +kernel
theorem d_Socks_from_40 : decode b_Socks_from 40 = .ok (.iload 6, 2) := by decide +kernel
theorem d_Socks_from_42 : decode b_Socks_from 42 = .ok (.ifCond .ne 17, 3) := by decide +kernel
theorem d_Socks_from_45 : decode b_Socks_from 45 = .ok (.aload_n 0, 1) := by decide +kernel
theorem d_Socks_from_46 : decode b_Socks_from 46 = .ok (.iload 7, 2) := by decide +kernel
theorem d_Socks_from_48 : decode b_Socks_from 48 = .ok (.iload_n 2, 1) := by decide +kernel
theorem d_Socks_from_49 : decode b_Socks_from 49 = .ok (.iload 4, 2) := by decide +kernel
theorem d_Socks_from_51 : decode b_Socks_from 51 = .ok (.iload 5, 2) := by decide +kernel
theorem d_Socks_from_53 : decode b_Socks_from 53 = .ok (.iconst 1, 1) := by decide +kernel
theorem d_Socks_from_54 : decode b_Socks_from 54 = .ok (.iadd, 1) := by decide +kernel
theorem d_Socks_from_55 : decode b_Socks_from 55 = .ok (.invokevirtual 64, 3) := by decide +kernel
theorem d_Socks_from_58 : decode b_Socks_from 58 = .ok (.ireturn, 1) := by decide +kernel
theorem d_Socks_from_59 : decode b_Socks_from 59 = .ok (.iload 7, 2) := by decide +kernel
theorem d_Socks_from_61 : decode b_Socks_from 61 = .ok (.bipush 41, 2) := by decide +kernel
theorem d_Socks_from_63 : decode b_Socks_from 63 = .ok (.if_icmp .ne 10, 3) := by decide +kernel
theorem d_Socks_from_66 : decode b_Socks_from 66 = .ok (.iload 4, 2) := by decide +kernel
theorem d_Socks_from_68 : decode b_Socks_from 68 = .ok (.iconst 1, 1) := by decide +kernel
theorem d_Socks_from_69 : decode b_Socks_from 69 = .ok (.iadd, 1) := by decide +kernel
theorem d_Socks_from_70 : decode b_Socks_from 70 = .ok (.goto 5, 3) := by decide +kernel
theorem d_Socks_from_73 : decode b_Socks_from 73 = .ok (.iload 4, 2) := by decide +kernel
theorem d_Socks_from_75 : decode b_Socks_from 75 = .ok (.istore 8, 2) := by decide +kernel
theorem d_Socks_from_77 : decode b_Socks_from 77 = .ok (.aload_n 0, 1) := by decide +kernel
theorem d_Socks_from_78 : decode b_Socks_from 78 = .ok (.getstatic 30, 3) := by decide +kernel
theorem d_Socks_from_81 : decode b_Socks_from 81 = .ok (.iload 6, 2) := by decide +kernel
theorem d_Socks_from_83 : decode b_Socks_from 83 = .ok (.iaload, 1) := by decide +kernel
theorem d_Socks_from_84 : decode b_Socks_from 84 = .ok (.iload_n 2, 1) := by decide +kernel
theorem d_Socks_from_85 : decode b_Socks_from 85 = .ok (.iload_n 3, 1) := by decide +kernel
theorem d_Socks_from_86 : decode b_Socks_from 86 = .ok (.iload 8, 2) := by decide +kernel
theorem d_Socks_from_88 : decode b_Socks_from 88 = .ok (.iload 5, 2) := by decide +kernel
theorem d_Socks_from_90 : decode b_Socks_from 90 = .ok (.iconst 1, 1) := by decide +kernel
theorem d_Socks_from_91 : decode b_Socks_from 91 = .ok (.iadd, 1) := by decide +kernel
theorem d_Socks_from_92 : decode b_Socks_from 92 = .ok (.invokevirtual 50, 3) := by decide +kernel
theorem d_Socks_from_95 : decode b_Socks_from 95 = .ok (.istore 9, 2) := by decide +kernel
theorem d_Socks_from_97 : decode b_Socks_from 97 = .ok (.aload_n 0, 1) := by decide +kernel
theorem d_Socks_from_98 : decode b_Socks_from 98 = .ok (.iload 7, 2) := by decide +kernel
theorem d_Socks_from_100 : decode b_Socks_from 100 = .ok (.iload_n 2, 1) := by decide +kernel
theorem d_Socks_from_101 : decode b_Socks_from 101 = .ok (.iload 9, 2) := by decide +kernel
theorem d_Socks_from_103 : decode b_Socks_from 103 = .ok (.iload 5, 2) := by decide +kernel
theorem d_Socks_from_105 : decode b_Socks_from 105 = .ok (.iconst 1, 1) := by decide +kernel
theorem d_Socks_from_106 : decode b_Socks_from 106 = .ok (.iadd, 1) := by decide +kernel
theorem d_Socks_from_107 : decode b_Socks_from 107 = .ok (.invokevirtual 67, 3) := by decide +kernel
theorem d_Socks_from_110 : decode b_Socks_from 110 = .ok (.ireturn, 1) := by decide +kernel
theorem d_Socks_begin_0 : decode b_Socks_begin 0 = .ok (.aload_n 0, 1) := by decide +kernel
theorem d_Socks_begin_1 : decode b_Socks_begin 1 = .ok (.iconst 0, 1) := by decide +kernel
theorem d_Socks_begin_2 : decode b_Socks_begin 2 = .ok (.putfield 33, 3) := by decide +kernel
theorem d_Socks_begin_5 : decode b_Socks_begin 5 = .ok (.iload_n 2, 1) := by decide +kernel
theorem d_Socks_begin_6 : decode b_Socks_begin 6 = .ok (.iconst 0, 1) := by decide +kernel
theorem d_Socks_begin_7 : decode b_Socks_begin 7 = .ok (.iconst 3, 1) := by decide +kernel
theorem d_Socks_begin_8 : decode b_Socks_begin 8 = .ok (.invokestatic 22, 3) := by decide +kernel
theorem d_Socks_begin_11 : decode b_Socks_begin 11 = .ok (.ifCond .eq 14, 3) := by decide +kernel
theorem d_Socks_begin_14 : decode b_Socks_begin 14 = .ok (.aload_n 0, 1) := by decide +kernel
theorem d_Socks_begin_15 : decode b_Socks_begin 15 = .ok (.iload_n 1, 1) := by decide +kernel
theorem d_Socks_begin_16 : decode b_Socks_begin 16 = .ok (.iload_n 2, 1) := by decide +kernel
theorem d_Socks_begin_17 : decode b_Socks_begin 17 = .ok (.iload_n 3, 1) := by decide +kernel
theorem d_Socks_begin_18 : decode b_Socks_begin 18 = .ok (.iconst 0, 1) := by decide +kernel
theorem d_Socks_begin_19 : decode b_Socks_begin 19 = .ok (.invokevirtual 42, 3) := by decide +kernel
theorem d_Socks_begin_22 : decode b_Socks_begin 22 = .ok (.goto 4, 3) := by decide +kernel
theorem d_Socks_begin_25 : decode b_Socks_begin 25 = .ok (.iconst 0, 1) := by decide +kernel
theorem d_Socks_begin_26 : decode b_Socks_begin 26 = .ok (.ireturn, 1) := by decide +kernel
theorem d_Top_act_0 : decode b_Top_act 0 = .ok (.aload_n 0, 1) := by decide +kernel
theorem d_Top_act_1 : decode b_Top_act 1 = .ok (.getfield 81, 3) := by decide +kernel
theorem d_Top_act_4 : decode b_Top_act 4 = .ok (.iload_n 1, 1) := by decide +kernel
theorem d_Top_act_5 : decode b_Top_act 5 = .ok (.iload_n 2, 1) := by decide +kernel
theorem d_Top_act_6 : decode b_Top_act 6 = .ok (.iload_n 3, 1) := by decide +kernel
theorem d_Top_act_7 : decode b_Top_act 7 = .ok (.invokevirtual 336, 3) := by decide +kernel
theorem d_Top_act_10 : decode b_Top_act 10 = .ok (.ireturn, 1) := by decide +kernel
theorem d_Basket_isFull_0 : decode b_Basket_isFull 0 = .ok (.aload_n 0, 1) := by decide +kernel
theorem d_Basket_isFull_1 : decode b_Basket_isFull 1 = .ok (.getfield 41, 3) := by decide +kernel
theorem d_Basket_isFull_4 : decode b_Basket_isFull 4 = .ok (.bipush 10, 2) := by decide +kernel
theorem d_Basket_isFull_6 : decode b_Basket_isFull 6 = .ok (.if_icmp .lt 7, 3) := by decide +kernel
theorem d_Basket_isFull_9 : decode b_Basket_isFull 9 = .ok (.iconst 1, 1) := by decide +kernel
theorem d_Basket_isFull_10 : decode b_Basket_isFull 10 = .ok (.goto 4, 3) := by decide +kernel
theorem d_Basket_isFull_13 : decode b_Basket_isFull 13 = .ok (.iconst 0, 1) := by decide +kernel
theorem d_Basket_isFull_14 : decode b_Basket_isFull 14 = .ok (.ireturn, 1) := by decide +kernel
theorem d_Basket_add_0 : decode b_Basket_add 0 = .ok (.aload_n 0, 1) := by decide +kernel
theorem d_Basket_add_1 : decode b_Basket_add 1 = .ok (.invokevirtual 45, 3) := by decide +kernel
theorem d_Basket_add_4 : decode b_Basket_add 4 = .ok (.ifCond .eq 6, 3) := by decide +kernel
theorem d_Basket_add_7 : decode b_Basket_add 7 = .ok (.bipush (-3), 2) := by decide +kernel
theorem d_Basket_add_9 : decode b_Basket_add 9 = .ok (.ireturn, 1) := by decide +kernel
theorem d_Basket_add_10 : decode b_Basket_add 10 = .ok (.aload_n 0, 1) := by decide +kernel
theorem d_Basket_add_11 : decode b_Basket_add 11 = .ok (.getfield 41, 3) := by decide +kernel
theorem d_Basket_add_14 : decode b_Basket_add 14 = .ok (.bipush 8, 2) := by decide +kernel
theorem d_Basket_add_16 : decode b_Basket_add 16 = .ok (.imul, 1) := by decide +kernel
theorem d_Basket_add_17 : decode b_Basket_add 17 = .ok (.istore 4, 2) := by decide +kernel
theorem d_Basket_add_19 : decode b_Basket_add 19 = .ok (.getstatic 22, 3) := by decide +kernel
theorem d_Basket_add_22 : decode b_Basket_add 22 = .ok (.iconst 0, 1) := by decide +kernel
theorem d_Basket_add_23 : decode b_Basket_add 23 = .ok (.aload_n 0, 1) := by decide +kernel
theorem d_Basket_add_24 : decode b_Basket_add 24 = .ok (.getfield 11, 3) := by decide +kernel
theorem d_Basket_add_27 : decode b_Basket_add 27 = .ok (.iload 4, 2) := by decide +kernel
theorem d_Basket_add_29 : decode b_Basket_add 29 = .ok (.bipush 8, 2) := by decide +kernel
theorem d_Basket_add_31 : decode b_Basket_add 31 = .ok (.invokestatic 25, 3) := by decide +kernel
theorem d_Basket_add_34 : decode b_Basket_add 34 = .ok (.aload_n 0, 1) := by decide +kernel
theorem d_Basket_add_35 : decode b_Basket_add 35 = .ok (.getfield 11, 3) := by decide +kernel
theorem d_Basket_add_38 : decode b_Basket_add 38 = .ok (.iload 4, 2) := by decide +kernel
theorem d_Basket_add_40 : decode b_Basket_add 40 = .ok (.iconst 0, 1) := by decide +kernel
theorem d_Basket_add_41 : decode b_Basket_add 41 = .ok (.iadd, 1) := by decide +kernel
theorem d_Basket_add_42 : decode b_Basket_add 42 = .ok (.iload_n 1, 1) := by decide +kernel
theorem d_Basket_add_43 : decode b_Basket_add 43 = .ok (.iastore, 1) := by decide +kernel
theorem d_Basket_add_44 : decode b_Basket_add 44 = .ok (.aload_n 0, 1) := by decide +kernel
theorem d_Basket_add_45 : decode b_Basket_add 45 = .ok (.getfield 11, 3) := by decide +kernel
theorem d_Basket_add_48 : decode b_Basket_add 48 = .ok (.iload 4, 2) := by decide +kernel
theorem d_Basket_add_50 : decode b_Basket_add 50 = .ok (.iconst 1, 1) := by decide +kernel
theorem d_Basket_add_51 : decode b_Basket_add 51 = .ok (.iadd, 1) := by decide +kernel
theorem d_Basket_add_52 : decode b_Basket_add 52 = .ok (.iload_n 2, 1) := by decide +kernel
theorem d_Basket_add_53 : decode b_Basket_add 53 = .ok (.iastore, 1) := by decide +kernel
theorem d_Basket_add_54 : decode b_Basket_add 54 = .ok (.aload_n 0, 1) := by decide +kernel
theorem d_Basket_add_55 : decode b_Basket_add 55 = .ok (.getfield 11, 3) := by decide +kernel
theorem d_Basket_add_58 : decode b_Basket_add 58 = .ok (.iload 4, 2) := by decide +kernel
theorem d_Basket_add_60 : decode b_Basket_add 60 = .ok (.iconst 4, 1) := by decide +kernel
theorem d_Basket_add_61 : decode b_Basket_add 61 = .ok (.iadd, 1) := by decide +kernel
theorem d_Basket_add_62 : decode b_Basket_add 62 = .ok (.iload_n 3, 1) := by decide +kernel
theorem d_Basket_add_63 : decode b_Basket_add 63 = .ok (.iastore, 1) := by decide +kernel
theorem d_Basket_add_64 : decode b_Basket_add 64 = .ok (.aload_n 0, 1) := by decide +kernel
theorem d_Basket_add_65 : decode b_Basket_add 65 = .ok (.dup, 1) := by decide +kernel
theorem d_Basket_add_66 : decode b_Basket_add 66 = .ok (.getfield 41, 3) := by decide +kernel
theorem d_Basket_add_69 : decode b_Basket_add 69 = .ok (.iconst 1, 1) := by decide +kernel
theorem d_Basket_add_70 : decode b_Basket_add 70 = .ok (.iadd, 1) := by decide +kernel
theorem d_Basket_add_71 : decode b_Basket_add 71 = .ok (.putfield 41, 3) := by decide +kernel
theorem d_Basket_add_74 : decode b_Basket_add 74 = .ok (.aload_n 0, 1) := by decide +kernel
theorem d_Basket_add_75 : decode b_Basket_add 75 = .ok (.getfield 41, 3) := by decide +kernel
theorem d_Basket_add_78 : decode b_Basket_add 78 = .ok (.iconst 1, 1) := by decide +kernel
theorem d_Basket_add_79 : decode b_Basket_add 79 = .ok (.isub, 1) := by decide +kernel
theorem d_Basket_add_80 : decode b_Basket_add 80 = .ok (.ireturn, 1) := by decide +kernel
theorem d_Basket_mayBe_0 : decode b_Basket_mayBe 0 = .ok (.iload_n 0, 1) := by decide +kernel
theorem d_Basket_mayBe_1 : decode b_Basket_mayBe 1 = .ok (.iconst 0, 1) := by decide +kernel
theorem d_Basket_mayBe_2 : decode b_Basket_mayBe 2 = .ok (.bipush 11, 2) := by decide +kernel
theorem d_Basket_mayBe_4 : decode b_Basket_mayBe 4 = .ok (.invokestatic 31, 3) := by decide +kernel
theorem d_Basket_mayBe_7 : decode b_Basket_mayBe 7 = .ok (.ifCond .eq 24, 3) := by decide +kernel
theorem d_Basket_mayBe_10 : decode b_Basket_mayBe 10 = .ok (.iload_n 1, 1) := by decide +kernel
theorem d_Basket_mayBe_11 : decode b_Basket_mayBe 11 = .ok (.getstatic 35, 3) := by decide +kernel
theorem d_Basket_mayBe_14 : decode b_Basket_mayBe 14 = .ok (.iload_n 0, 1) := by decide +kernel
theorem d_Basket_mayBe_15 : decode b_Basket_mayBe 15 = .ok (.iaload, 1) := by decide +kernel
theorem d_Basket_mayBe_16 : decode b_Basket_mayBe 16 = .ok (.getstatic 38, 3) := by decide +kernel
theorem d_Basket_mayBe_19 : decode b_Basket_mayBe 19 = .ok (.iload_n 0, 1) := by decide +kernel
theorem d_Basket_mayBe_20 : decode b_Basket_mayBe 20 = .ok (.iaload, 1) := by decide +kernel
theorem d_Basket_mayBe_21 : decode b_Basket_mayBe 21 = .ok (.invokestatic 31, 3) := by decide +kernel
theorem d_Basket_mayBe_24 : decode b_Basket_mayBe 24 = .ok (.ifCond .eq 7, 3) := by decide +kernel
theorem d_Basket_mayBe_27 : decode b_Basket_mayBe 27 = .ok (.iconst 1, 1) := by decide +kernel
theorem d_Basket_mayBe_28 : decode b_Basket_mayBe 28 = .ok (.goto 4, 3) := by decide +kernel
theorem d_Basket_mayBe_31 : decode b_Basket_mayBe 31 = .ok (.iconst 0, 1) := by decide +kernel
theorem d_Basket_mayBe_32 : decode b_Basket_mayBe 32 = .ok (.ireturn, 1) := by decide +kernel
theorem d_Shelf_isRow_0 : decode b_Shelf_isRow 0 = .ok (.aload_n 0, 1) := by decide +kernel
theorem d_Shelf_isRow_1 : decode b_Shelf_isRow 1 = .ok (.getfield 15, 3) := by decide +kernel
theorem d_Shelf_isRow_4 : decode b_Shelf_isRow 4 = .ok (.ifCond .lt 7, 3) := by decide +kernel
theorem d_Shelf_isRow_7 : decode b_Shelf_isRow 7 = .ok (.iconst 1, 1) := by decide +kernel
theorem d_Shelf_isRow_8 : decode b_Shelf_isRow 8 = .ok (.goto 4, 3) := by decide +kernel
theorem d_Shelf_isRow_11 : decode b_Shelf_isRow 11 = .ok (.iconst 0, 1) := by decide +kernel
theorem d_Shelf_isRow_12 : decode b_Shelf_isRow 12 = .ok (.ireturn, 1) := by decide +kernel
theorem d_Shelf_hasPlaces_0 : decode b_Shelf_hasPlaces 0 = .ok (.aload_n 0, 1) := by decide +kernel
theorem d_Shelf_hasPlaces_1 : decode b_Shelf_hasPlaces 1 = .ok (.invokevirtual 22, 3) := by decide +kernel
theorem d_Shelf_hasPlaces_4 : decode b_Shelf_hasPlaces 4 = .ok (.ifCond .eq 33, 3) := by decide +kernel
theorem d_Shelf_hasPlaces_7 : decode b_Shelf_hasPlaces 7 = .ok (.iload_n 1, 1) := by decide +kernel
theorem d_Shelf_hasPlaces_8 : decode b_Shelf_hasPlaces 8 = .ok (.ifCond .lt 29, 3) := by decide +kernel
theorem d_Shelf_hasPlaces_11 : decode b_Shelf_hasPlaces 11 = .ok (.iload_n 2, 1) := by decide +kernel
theorem d_Shelf_hasPlaces_12 : decode b_Shelf_hasPlaces 12 = .ok (.ifCond .lt 25, 3) := by decide +kernel
theorem d_Shelf_hasPlaces_15 : decode b_Shelf_hasPlaces 15 = .ok (.iload_n 2, 1) := by decide +kernel
theorem d_Shelf_hasPlaces_16 : decode b_Shelf_hasPlaces 16 = .ok (.aload_n 0, 1) := by decide +kernel
theorem d_Shelf_hasPlaces_17 : decode b_Shelf_hasPlaces 17 = .ok (.getfield 26, 3) := by decide +kernel
theorem d_Shelf_hasPlaces_20 : decode b_Shelf_hasPlaces 20 = .ok (.if_icmp .gt 17, 3) := by decide +kernel
theorem d_Shelf_hasPlaces_23 : decode b_Shelf_hasPlaces 23 = .ok (.iload_n 1, 1) := by decide +kernel
theorem d_Shelf_hasPlaces_24 : decode b_Shelf_hasPlaces 24 = .ok (.aload_n 0, 1) := by decide +kernel
theorem d_Shelf_hasPlaces_25 : decode b_Shelf_hasPlaces 25 = .ok (.getfield 26, 3) := by decide +kernel
theorem d_Shelf_hasPlaces_28 : decode b_Shelf_hasPlaces 28 = .ok (.iload_n 2, 1) := by decide +kernel
theorem d_Shelf_hasPlaces_29 : decode b_Shelf_hasPlaces 29 = .ok (.isub, 1) := by decide +kernel
theorem d_Shelf_hasPlaces_30 : decode b_Shelf_hasPlaces 30 = .ok (.if_icmp .gt 7, 3) := by decide +kernel
theorem d_Shelf_hasPlaces_33 : decode b_Shelf_hasPlaces 33 = .ok (.iconst 1, 1) := by decide +kernel
theorem d_Shelf_hasPlaces_34 : decode b_Shelf_hasPlaces 34 = .ok (.goto 4, 3) := by decide +kernel
theorem d_Shelf_hasPlaces_37 : decode b_Shelf_hasPlaces 37 = .ok (.iconst 0, 1) := by decide +kernel
theorem d_Shelf_hasPlaces_38 : decode b_Shelf_hasPlaces 38 = .ok (.ireturn, 1) := by decide +kernel
theorem d_Top_addFrom_0 : decode b_Top_addFrom 0 = .ok (.iconst 0, 1) := by decide +kernel
theorem d_Top_addFrom_1 : decode b_Top_addFrom 1 = .ok (.istore 4, 2) := by decide +kernel
theorem d_Top_addFrom_3 : decode b_Top_addFrom 3 = .ok (.iload_n 2, 1) := by decide +kernel
theorem d_Top_addFrom_4 : decode b_Top_addFrom 4 = .ok (.istore 5, 2) := by decide +kernel
theorem d_Top_addFrom_6 : decode b_Top_addFrom 6 = .ok (.iload 4, 2) := by decide +kernel
theorem d_Top_addFrom_8 : decode b_Top_addFrom 8 = .ok (.iload_n 3, 1) := by decide +kernel
theorem d_Top_addFrom_9 : decode b_Top_addFrom 9 = .ok (.if_icmp .ge 110, 3) := by decide +kernel
theorem d_Top_addFrom_12 : decode b_Top_addFrom 12 = .ok (.aload_n 1, 1) := by decide +kernel
theorem d_Top_addFrom_13 : decode b_Top_addFrom 13 = .ok (.iload 5, 2) := by decide +kernel
theorem d_Top_addFrom_15 : decode b_Top_addFrom 15 = .ok (.iconst 3, 1) := by decide +kernel
theorem d_Top_addFrom_16 : decode b_Top_addFrom 16 = .ok (.invokevirtual 374, 3) := by decide +kernel
theorem d_Top_addFrom_19 : decode b_Top_addFrom 19 = .ok (.ifCond .eq 100, 3) := by decide +kernel
theorem d_Top_addFrom_22 : decode b_Top_addFrom 22 = .ok (.aload_n 0, 1) := by decide +kernel
theorem d_Top_addFrom_23 : decode b_Top_addFrom 23 = .ok (.getfield 10, 3) := by decide +kernel
theorem d_Top_addFrom_26 : decode b_Top_addFrom 26 = .ok (.invokevirtual 96, 3) := by decide +kernel
theorem d_Top_addFrom_29 : decode b_Top_addFrom 29 = .ok (.ifCond .ne 90, 3) := by decide +kernel
theorem d_Top_addFrom_32 : decode b_Top_addFrom 32 = .ok (.aload_n 1, 1) := by decide +kernel
theorem d_Top_addFrom_33 : decode b_Top_addFrom 33 = .ok (.getfield 360, 3) := by decide +kernel
theorem d_Top_addFrom_36 : decode b_Top_addFrom 36 = .ok (.iload 5, 2) := by decide +kernel
theorem d_Top_addFrom_38 : decode b_Top_addFrom 38 = .ok (.laload, 1) := by decide +kernel
theorem d_Top_addFrom_39 : decode b_Top_addFrom 39 = .ok (.l2i, 1) := by decide +kernel
theorem d_Top_addFrom_40 : decode b_Top_addFrom 40 = .ok (.istore 6, 2) := by decide +kernel
theorem d_Top_addFrom_42 : decode b_Top_addFrom 42 = .ok (.aload_n 1, 1) := by decide +kernel
theorem d_Top_addFrom_43 : decode b_Top_addFrom 43 = .ok (.getfield 360, 3) := by decide +kernel
theorem d_Top_addFrom_46 : decode b_Top_addFrom 46 = .ok (.iload 5, 2) := by decide +kernel
theorem d_Top_addFrom_48 : decode b_Top_addFrom 48 = .ok (.iconst 1, 1) := by decide +kernel
theorem d_Top_addFrom_49 : decode b_Top_addFrom 49 = .ok (.iadd, 1) := by decide +kernel
theorem d_Top_addFrom_50 : decode b_Top_addFrom 50 = .ok (.laload, 1) := by decide +kernel
theorem d_Top_addFrom_51 : decode b_Top_addFrom 51 = .ok (.l2i, 1) := by decide +kernel
theorem d_Top_addFrom_52 : decode b_Top_addFrom 52 = .ok (.istore 7, 2) := by decide +kernel
theorem d_Top_addFrom_54 : decode b_Top_addFrom 54 = .ok (.aload_n 1, 1) := by decide +kernel
theorem d_Top_addFrom_55 : decode b_Top_addFrom 55 = .ok (.getfield 360, 3) := by decide +kernel
theorem d_Top_addFrom_58 : decode b_Top_addFrom 58 = .ok (.iload 5, 2) := by decide +kernel
theorem d_Top_addFrom_60 : decode b_Top_addFrom 60 = .ok (.iconst 2, 1) := by decide +kernel
theorem d_Top_addFrom_61 : decode b_Top_addFrom 61 = .ok (.iadd, 1) := by decide +kernel
theorem d_Top_addFrom_62 : decode b_Top_addFrom 62 = .ok (.laload, 1) := by decide +kernel
theorem d_Top_addFrom_63 : decode b_Top_addFrom 63 = .ok (.l2i, 1) := by decide +kernel
theorem d_Top_addFrom_64 : decode b_Top_addFrom 64 = .ok (.istore 8, 2) := by decide +kernel
theorem d_Top_addFrom_66 : decode b_Top_addFrom 66 = .ok (.iconst 0, 1) := by decide +kernel
theorem d_Top_addFrom_67 : decode b_Top_addFrom 67 = .ok (.iload 6, 2) := by decide +kernel
theorem d_Top_addFrom_69 : decode b_Top_addFrom 69 = .ok (.invokestatic 92, 3) := by decide +kernel
theorem d_Top_addFrom_72 : decode b_Top_addFrom 72 = .ok (.ifCond .eq 21, 3) := by decide +kernel
theorem d_Top_addFrom_75 : decode b_Top_addFrom 75 = .ok (.iconst 1, 1) := by decide +kernel
theorem d_Top_addFrom_76 : decode b_Top_addFrom 76 = .ok (.iload 7, 2) := by decide +kernel
theorem d_Top_addFrom_78 : decode b_Top_addFrom 78 = .ok (.invokestatic 92, 3) := by decide +kernel
theorem d_Top_addFrom_81 : decode b_Top_addFrom 81 = .ok (.ifCond .eq 12, 3) := by decide +kernel
theorem d_Top_addFrom_84 : decode b_Top_addFrom 84 = .ok (.iconst 4, 1) := by decide +kernel
theorem d_Top_addFrom_85 : decode b_Top_addFrom 85 = .ok (.iload 8, 2) := by decide +kernel
theorem d_Top_addFrom_87 : decode b_Top_addFrom 87 = .ok (.invokestatic 92, 3) := by decide +kernel
theorem d_Top_addFrom_90 : decode b_Top_addFrom 90 = .ok (.ifCond .ne 6, 3) := by decide +kernel
theorem d_Top_addFrom_93 : decode b_Top_addFrom 93 = .ok (.iload 4, 2) := by decide +kernel
theorem d_Top_addFrom_95 : decode b_Top_addFrom 95 = .ok (.ireturn, 1) := by decide +kernel
theorem d_Top_addFrom_96 : decode b_Top_addFrom 96 = .ok (.aload_n 0, 1) := by decide +kernel
theorem d_Top_addFrom_97 : decode b_Top_addFrom 97 = .ok (.getfield 10, 3) := by decide +kernel
theorem d_Top_addFrom_100 : decode b_Top_addFrom 100 = .ok (.iload 6, 2) := by decide +kernel
theorem d_Top_addFrom_102 : decode b_Top_addFrom 102 = .ok (.iload 7, 2) := by decide +kernel
theorem d_Top_addFrom_104 : decode b_Top_addFrom 104 = .ok (.iload 8, 2) := by decide +kernel
theorem d_Top_addFrom_106 : decode b_Top_addFrom 106 = .ok (.invokevirtual 100, 3) := by decide +kernel
theorem d_Top_addFrom_109 : decode b_Top_addFrom 109 = .ok (.pop, 1) := by decide +kernel
theorem d_Top_addFrom_110 : decode b_Top_addFrom 110 = .ok (.iinc 4 1, 3) := by decide +kernel
theorem d_Top_addFrom_113 : decode b_Top_addFrom 113 = .ok (.iinc 5 3, 3) := by decide +kernel
theorem d_Top_addFrom_116 : decode b_Top_addFrom 116 = .ok (.goto (-110), 3) := by decide +kernel
theorem d_Top_addFrom_119 : decode b_Top_addFrom 119 = .ok (.iload 4, 2) := by decide +kernel
theorem d_Top_addFrom_121 : decode b_Top_addFrom 121 = .ok (.ireturn, 1) := by decide +kernel
theorem d_Top_isHeat_0 : decode b_Top_isHeat 0 = .ok (.iload_n 0, 1) := by decide +kernel
theorem d_Top_isHeat_1 : decode b_Top_isHeat 1 = .ok (.iconst 3, 1) := by decide +kernel
theorem d_Top_isHeat_2 : decode b_Top_isHeat 2 = .ok (.bipush 9, 2) := by decide +kernel
theorem d_Top_isHeat_4 : decode b_Top_isHeat 4 = .ok (.invokestatic 108, 3) := by decide +kernel
theorem d_Top_isHeat_7 : decode b_Top_isHeat 7 = .ok (.ireturn, 1) := by decide +kernel
theorem d_Basket_isThing_0 : decode b_Basket_isThing 0 = .ok (.iload_n 1, 1) := by decide +kernel
theorem d_Basket_isThing_1 : decode b_Basket_isThing 1 = .ok (.iconst 0, 1) := by decide +kernel
theorem d_Basket_isThing_2 : decode b_Basket_isThing 2 = .ok (.aload_n 0, 1) := by decide +kernel
theorem d_Basket_isThing_3 : decode b_Basket_isThing 3 = .ok (.getfield 41, 3) := by decide +kernel
theorem d_Basket_isThing_6 : decode b_Basket_isThing 6 = .ok (.iconst 1, 1) := by decide +kernel
theorem d_Basket_isThing_7 : decode b_Basket_isThing 7 = .ok (.isub, 1) := by decide +kernel
theorem d_Basket_isThing_8 : decode b_Basket_isThing 8 = .ok (.invokestatic 31, 3) := by decide +kernel
theorem d_Basket_isThing_11 : decode b_Basket_isThing 11 = .ok (.ireturn, 1) := by decide +kernel
theorem d_Basket_told_0 : decode b_Basket_told 0 = .ok (.iload_n 1, 1) := by decide +kernel
theorem d_Basket_told_1 : decode b_Basket_told 1 = .ok (.bipush 8, 2) := by decide +kernel
theorem d_Basket_told_3 : decode b_Basket_told 3 = .ok (.imul, 1) := by decide +kernel
theorem d_Basket_told_4 : decode b_Basket_told 4 = .ok (.iload_n 2, 1) := by decide +kernel
theorem d_Basket_told_5 : decode b_Basket_told 5 = .ok (.iadd, 1) := by decide +kernel
theorem d_Basket_told_6 : decode b_Basket_told 6 = .ok (.istore_n 3, 1) := by decide +kernel
theorem d_Basket_told_7 : decode b_Basket_told 7 = .ok (.iload_n 3, 1) := by decide +kernel
theorem d_Basket_told_8 : decode b_Basket_told 8 = .ok (.ifCond .lt 18, 3) := by decide +kernel
theorem d_Basket_told_11 : decode b_Basket_told 11 = .ok (.iload_n 3, 1) := by decide +kernel
theorem d_Basket_told_12 : decode b_Basket_told 12 = .ok (.bipush 80, 2) := by decide +kernel
theorem d_Basket_told_14 : decode b_Basket_told 14 = .ok (.if_icmp .ge 12, 3) := by decide +kernel
theorem d_Basket_told_17 : decode b_Basket_told 17 = .ok (.aload_n 0, 1) := by decide +kernel
theorem d_Basket_told_18 : decode b_Basket_told 18 = .ok (.getfield 11, 3) := by decide +kernel
theorem d_Basket_told_21 : decode b_Basket_told 21 = .ok (.iload_n 3, 1) := by decide +kernel
theorem d_Basket_told_22 : decode b_Basket_told 22 = .ok (.iaload, 1) := by decide +kernel
theorem d_Basket_told_23 : decode b_Basket_told 23 = .ok (.goto 4, 3) := by decide +kernel
theorem d_Basket_told_26 : decode b_Basket_told 26 = .ok (.iconst 0, 1) := by decide +kernel
theorem d_Basket_told_27 : decode b_Basket_told 27 = .ok (.ireturn, 1) := by decide +kernel
theorem d_Law_isTold_0 : decode b_Law_isTold 0 = .ok (.aload_n 0, 1) := by decide +kernel
theorem d_Law_isTold_1 : decode b_Law_isTold 1 = .ok (.getfield 31, 3) := by decide +kernel
theorem d_Law_isTold_4 : decode b_Law_isTold 4 = .ok (.ifCond .le 7, 3) := by decide +kernel
theorem d_Law_isTold_7 : decode b_Law_isTold 7 = .ok (.iconst 1, 1) := by decide +kernel
theorem d_Law_isTold_8 : decode b_Law_isTold 8 = .ok (.goto 4, 3) := by decide +kernel
theorem d_Law_isTold_11 : decode b_Law_isTold 11 = .ok (.iconst 0, 1) := by decide +kernel
theorem d_Law_isTold_12 : decode b_Law_isTold 12 = .ok (.ireturn, 1) := by decide +kernel
theorem d_Law_name_0 : decode b_Law_name 0 = .ok (.aload_n 0, 1) := by decide +kernel
theorem d_Law_name_1 : decode b_Law_name 1 = .ok (.getfield 18, 3) := by decide +kernel
theorem d_Law_name_4 : decode b_Law_name 4 = .ok (.iconst 0, 1) := by decide +kernel
theorem d_Law_name_5 : decode b_Law_name 5 = .ok (.iload_n 1, 1) := by decide +kernel
theorem d_Law_name_6 : decode b_Law_name 6 = .ok (.iastore, 1) := by decide +kernel
theorem d_Law_name_7 : decode b_Law_name 7 = .ok (.aload_n 0, 1) := by decide +kernel
theorem d_Law_name_8 : decode b_Law_name 8 = .ok (.getfield 18, 3) := by decide +kernel
theorem d_Law_name_11 : decode b_Law_name 11 = .ok (.iconst 1, 1) := by decide +kernel
theorem d_Law_name_12 : decode b_Law_name 12 = .ok (.iload_n 2, 1) := by decide +kernel
theorem d_Law_name_13 : decode b_Law_name 13 = .ok (.iastore, 1) := by decide +kernel
theorem d_Law_name_14 : decode b_Law_name 14 = .ok (.aload_n 0, 1) := by decide +kernel
theorem d_Law_name_15 : decode b_Law_name 15 = .ok (.getfield 18, 3) := by decide +kernel
theorem d_Law_name_18 : decode b_Law_name 18 = .ok (.iconst 2, 1) := by decide +kernel
theorem d_Law_name_19 : decode b_Law_name 19 = .ok (.iload_n 3, 1) := by decide +kernel
theorem d_Law_name_20 : decode b_Law_name 20 = .ok (.iastore, 1) := by decide +kernel
theorem d_Law_name_21 : decode b_Law_name 21 = .ok (.aload_n 0, 1) := by decide +kernel
theorem d_Law_name_22 : decode b_Law_name 22 = .ok (.getfield 18, 3) := by decide +kernel
theorem d_Law_name_25 : decode b_Law_name 25 = .ok (.iconst 3, 1) := by decide +kernel
theorem d_Law_name_26 : decode b_Law_name 26 = .ok (.iload 4, 2) := by decide +kernel
theorem d_Law_name_28 : decode b_Law_name 28 = .ok (.iastore, 1) := by decide +kernel
theorem d_Law_name_29 : decode b_Law_name 29 = .ok (.aload_n 0, 1) := by decide +kernel
theorem d_Law_name_30 : decode b_Law_name 30 = .ok (.getfield 18, 3) := by decide +kernel
theorem d_Law_name_33 : decode b_Law_name 33 = .ok (.iconst 4, 1) := by decide +kernel
theorem d_Law_name_34 : decode b_Law_name 34 = .ok (.iload 5, 2) := by decide +kernel
theorem d_Law_name_36 : decode b_Law_name 36 = .ok (.iastore, 1) := by decide +kernel
theorem d_Law_name_37 : decode b_Law_name 37 = .ok (.aload_n 0, 1) := by decide +kernel
theorem d_Law_name_38 : decode b_Law_name 38 = .ok (.getfield 18, 3) := by decide +kernel
theorem d_Law_name_41 : decode b_Law_name 41 = .ok (.iconst 5, 1) := by decide +kernel
theorem d_Law_name_42 : decode b_Law_name 42 = .ok (.iload 6, 2) := by decide +kernel
theorem d_Law_name_44 : decode b_Law_name 44 = .ok (.iastore, 1) := by decide +kernel
theorem d_Law_name_45 : decode b_Law_name 45 = .ok (.return_, 1) := by decide +kernel
theorem d_Law_pop_0 : decode b_Law_pop 0 = .ok (.aload_n 0, 1) := by decide +kernel
theorem d_Law_pop_1 : decode b_Law_pop 1 = .ok (.getfield 41, 3) := by decide +kernel
theorem d_Law_pop_4 : decode b_Law_pop 4 = .ok (.ifCond .gt 5, 3) := by decide +kernel
theorem d_Law_pop_7 : decode b_Law_pop 7 = .ok (.iconst 0, 1) := by decide +kernel
theorem d_Law_pop_8 : decode b_Law_pop 8 = .ok (.ireturn, 1) := by decide +kernel
theorem d_Law_pop_9 : decode b_Law_pop 9 = .ok (.aload_n 0, 1) := by decide +kernel
theorem d_Law_pop_10 : decode b_Law_pop 10 = .ok (.dup, 1) := by decide +kernel
theorem d_Law_pop_11 : decode b_Law_pop 11 = .ok (.getfield 41, 3) := by decide +kernel
theorem d_Law_pop_14 : decode b_Law_pop 14 = .ok (.iconst 1, 1) := by decide +kernel
theorem d_Law_pop_15 : decode b_Law_pop 15 = .ok (.isub, 1) := by decide +kernel
theorem d_Law_pop_16 : decode b_Law_pop 16 = .ok (.putfield 41, 3) := by decide +kernel
theorem d_Law_pop_19 : decode b_Law_pop 19 = .ok (.aload_n 0, 1) := by decide +kernel
theorem d_Law_pop_20 : decode b_Law_pop 20 = .ok (.getfield 15, 3) := by decide +kernel
theorem d_Law_pop_23 : decode b_Law_pop 23 = .ok (.aload_n 0, 1) := by decide +kernel
theorem d_Law_pop_24 : decode b_Law_pop 24 = .ok (.getfield 41, 3) := by decide +kernel
theorem d_Law_pop_27 : decode b_Law_pop 27 = .ok (.iaload, 1) := by decide +kernel
theorem d_Law_pop_28 : decode b_Law_pop 28 = .ok (.ireturn, 1) := by decide +kernel
theorem d_Law_push_0 : decode b_Law_push 0 = .ok (.aload_n 0, 1) := by decide +kernel
theorem d_Law_push_1 : decode b_Law_push 1 = .ok (.getfield 41, 3) := by decide +kernel
theorem d_Law_push_4 : decode b_Law_push 4 = .ok (.aload_n 0, 1) := by decide +kernel
theorem d_Law_push_5 : decode b_Law_push 5 = .ok (.getfield 15, 3) := by decide +kernel
theorem d_Law_push_8 : decode b_Law_push 8 = .ok (.arraylength, 1) := by decide +kernel
theorem d_Law_push_9 : decode b_Law_push 9 = .ok (.if_icmp .ge 23, 3) := by decide +kernel
theorem d_Law_push_12 : decode b_Law_push 12 = .ok (.aload_n 0, 1) := by decide +kernel
theorem d_Law_push_13 : decode b_Law_push 13 = .ok (.getfield 15, 3) := by decide +kernel
theorem d_Law_push_16 : decode b_Law_push 16 = .ok (.aload_n 0, 1) := by decide +kernel
theorem d_Law_push_17 : decode b_Law_push 17 = .ok (.getfield 41, 3) := by decide +kernel
theorem d_Law_push_20 : decode b_Law_push 20 = .ok (.iload_n 1, 1) := by decide +kernel
theorem d_Law_push_21 : decode b_Law_push 21 = .ok (.iastore, 1) := by decide +kernel
theorem d_Law_push_22 : decode b_Law_push 22 = .ok (.aload_n 0, 1) := by decide +kernel
theorem d_Law_push_23 : decode b_Law_push 23 = .ok (.dup, 1) := by decide +kernel
theorem d_Law_push_24 : decode b_Law_push 24 = .ok (.getfield 41, 3) := by decide +kernel
theorem d_Law_push_27 : decode b_Law_push 27 = .ok (.iconst 1, 1) := by decide +kernel
theorem d_Law_push_28 : decode b_Law_push 28 = .ok (.iadd, 1) := by decide +kernel
theorem d_Law_push_29 : decode b_Law_push 29 = .ok (.putfield 41, 3) := by decide +kernel
theorem d_Law_push_32 : decode b_Law_push 32 = .ok (.return_, 1) := by decide +kernel
theorem d_Law_joined_0 : decode b_Law_joined 0 = .ok (.iload_n 0, 1) := by decide +kernel
theorem d_Law_joined_1 : decode b_Law_joined 1 = .ok (.lookupswitch 188 #[(37, 176), (38, 105), (42, 160), (43, 152), (45, 156), (47, 164), (60, 119), (61, 130), (62, 141), (124, 91)], 91) := by decide +kernel
theorem d_Law_joined_92 : decode b_Law_joined 92 = .ok (.iload_n 1, 1) := by decide +kernel
theorem d_Law_joined_93 : decode b_Law_joined 93 = .ok (.ifCond .ne 7, 3) := by decide +kernel
theorem d_Law_joined_96 : decode b_Law_joined 96 = .ok (.iload_n 2, 1) := by decide +kernel
theorem d_Law_joined_97 : decode b_Law_joined 97 = .ok (.ifCond .eq 7, 3) := by decide +kernel
theorem d_Law_joined_100 : decode b_Law_joined 100 = .ok (.iconst 1, 1) := by decide +kernel
theorem d_Law_joined_101 : decode b_Law_joined 101 = .ok (.goto 4, 3) := by decide +kernel
theorem d_Law_joined_104 : decode b_Law_joined 104 = .ok (.iconst 0, 1) := by decide +kernel
theorem d_Law_joined_105 : decode b_Law_joined 105 = .ok (.ireturn, 1) := by decide +kernel
theorem d_Law_joined_106 : decode b_Law_joined 106 = .ok (.iload_n 1, 1) := by decide +kernel
theorem d_Law_joined_107 : decode b_Law_joined 107 = .ok (.ifCond .eq 11, 3) := by decide +kernel
theorem d_Law_joined_110 : decode b_Law_joined 110 = .ok (.iload_n 2, 1) := by decide +kernel
theorem d_Law_joined_111 : decode b_Law_joined 111 = .ok (.ifCond .eq 7, 3) := by decide +kernel
theorem d_Law_joined_114 : decode b_Law_joined 114 = .ok (.iconst 1, 1) := by decide +kernel
theorem d_Law_joined_115 : decode b_Law_joined 115 = .ok (.goto 4, 3) := by decide +kernel
theorem d_Law_joined_118 : decode b_Law_joined 118 = .ok (.iconst 0, 1) := by decide +kernel
theorem d_Law_joined_119 : decode b_Law_joined 119 = .ok (.ireturn, 1) := by decide +kernel
theorem d_Law_joined_120 : decode b_Law_joined 120 = .ok (.iload_n 1, 1) := by decide +kernel
theorem d_Law_joined_121 : decode b_Law_joined 121 = .ok (.iload_n 2, 1) := by decide +kernel
theorem d_Law_joined_122 : decode b_Law_joined 122 = .ok (.if_icmp .ge 7, 3) := by decide +kernel
theorem d_Law_joined_125 : decode b_Law_joined 125 = .ok (.iconst 1, 1) := by decide +kernel
theorem d_Law_joined_126 : decode b_Law_joined 126 = .ok (.goto 4, 3) := by decide +kernel
theorem d_Law_joined_129 : decode b_Law_joined 129 = .ok (.iconst 0, 1) := by decide +kernel
theorem d_Law_joined_130 : decode b_Law_joined 130 = .ok (.ireturn, 1) := by decide +kernel
theorem d_Law_joined_131 : decode b_Law_joined 131 = .ok (.iload_n 1, 1) := by decide +kernel
theorem d_Law_joined_132 : decode b_Law_joined 132 = .ok (.iload_n 2, 1) := by decide +kernel
theorem d_Law_joined_133 : decode b_Law_joined 133 = .ok (.if_icmp .ne 7, 3) := by decide +kernel
theorem d_Law_joined_136 : decode b_Law_joined 136 = .ok (.iconst 1, 1) := by decide +kernel
theorem d_Law_joined_137 : decode b_Law_joined 137 = .ok (.goto 4, 3) := by decide +kernel
theorem d_Law_joined_140 : decode b_Law_joined 140 = .ok (.iconst 0, 1) := by decide +kernel
theorem d_Law_joined_141 : decode b_Law_joined 141 = .ok (.ireturn, 1) := by decide +kernel
theorem d_Law_joined_142 : decode b_Law_joined 142 = .ok (.iload_n 1, 1) := by decide +kernel
theorem d_Law_joined_143 : decode b_Law_joined 143 = .ok (.iload_n 2, 1) := by decide +kernel
theorem d_Law_joined_144 : decode b_Law_joined 144 = .ok (.if_icmp .le 7, 3) := by decide +kernel
theorem d_Law_joined_147 : decode b_Law_joined 147 = .ok (.iconst 1, 1) := by decide +kernel
theorem d_Law_joined_148 : decode b_Law_joined 148 = .ok (.goto 4, 3) := by decide +kernel
theorem d_Law_joined_151 : decode b_Law_joined 151 = .ok (.iconst 0, 1) := by decide +kernel
theorem d_Law_joined_152 : decode b_Law_joined 152 = .ok (.ireturn, 1) := by decide +kernel
theorem d_Law_joined_153 : decode b_Law_joined 153 = .ok (.iload_n 1, 1) := by decide +kernel
theorem d_Law_joined_154 : decode b_Law_joined 154 = .ok (.iload_n 2, 1) := by decide +kernel
theorem d_Law_joined_155 : decode b_Law_joined 155 = .ok (.iadd, 1) := by decide +kernel
theorem d_Law_joined_156 : decode b_Law_joined 156 = .ok (.ireturn, 1) := by decide +kernel
theorem d_Law_joined_157 : decode b_Law_joined 157 = .ok (.iload_n 1, 1) := by decide +kernel
theorem d_Law_joined_158 : decode b_Law_joined 158 = .ok (.iload_n 2, 1) := by decide +kernel
theorem d_Law_joined_159 : decode b_Law_joined 159 = .ok (.isub, 1) := by decide +kernel
theorem d_Law_joined_160 : decode b_Law_joined 160 = .ok (.ireturn, 1) := by decide +kernel
theorem d_Law_joined_161 : decode b_Law_joined 161 = .ok (.iload_n 1, 1) := by decide +kernel
theorem d_Law_joined_162 : decode b_Law_joined 162 = .ok (.iload_n 2, 1) := by decide +kernel
theorem d_Law_joined_163 : decode b_Law_joined 163 = .ok (.imul, 1) := by decide +kernel
theorem d_Law_joined_164 : decode b_Law_joined 164 = .ok (.ireturn, 1) := by decide +kernel
theorem d_Law_joined_165 : decode b_Law_joined 165 = .ok (.iload_n 2, 1) := by decide +kernel
theorem d_Law_joined_166 : decode b_Law_joined 166 = .ok (.ifCond .ne 7, 3) := by decide +kernel
theorem d_Law_joined_169 : decode b_Law_joined 169 = .ok (.iconst 0, 1) := by decide +kernel
theorem d_Law_joined_170 : decode b_Law_joined 170 = .ok (.goto 6, 3) := by decide +kernel
theorem d_Law_joined_173 : decode b_Law_joined 173 = .ok (.iload_n 1, 1) := by decide +kernel
theorem d_Law_joined_174 : decode b_Law_joined 174 = .ok (.iload_n 2, 1) := by decide +kernel
theorem d_Law_joined_175 : decode b_Law_joined 175 = .ok (.idiv, 1) := by decide +kernel
theorem d_Law_joined_176 : decode b_Law_joined 176 = .ok (.ireturn, 1) := by decide +kernel
theorem d_Law_joined_177 : decode b_Law_joined 177 = .ok (.iload_n 2, 1) := by decide +kernel
theorem d_Law_joined_178 : decode b_Law_joined 178 = .ok (.ifCond .ne 7, 3) := by decide +kernel
theorem d_Law_joined_181 : decode b_Law_joined 181 = .ok (.iconst 0, 1) := by decide +kernel
theorem d_Law_joined_182 : decode b_Law_joined 182 = .ok (.goto 6, 3) := by decide +kernel
theorem d_Law_joined_185 : decode b_Law_joined 185 = .ok (.iload_n 1, 1) := by decide +kernel
theorem d_Law_joined_186 : decode b_Law_joined 186 = .ok (.iload_n 2, 1) := by decide +kernel
theorem d_Law_joined_187 : decode b_Law_joined 187 = .ok (.irem, 1) := by decide +kernel
theorem d_Law_joined_188 : decode b_Law_joined 188 = .ok (.ireturn, 1) := by decide +kernel
theorem d_Law_joined_189 : decode b_Law_joined 189 = .ok (.iconst 0, 1) := by decide +kernel
theorem d_Law_joined_190 : decode b_Law_joined 190 = .ok (.ireturn, 1) := by decide +kernel
theorem d_Law_value_0 : decode b_Law_value 0 = .ok (.iload_n 1, 1) := by decide +kernel
theorem d_Law_value_1 : decode b_Law_value 1 = .ok (.ifCond .lt 5, 3) := by decide +kernel
theorem d_Law_value_4 : decode b_Law_value 4 = .ok (.iload_n 1, 1) := by decide +kernel
theorem d_Law_value_5 : decode b_Law_value 5 = .ok (.ireturn, 1) := by decide +kernel
theorem d_Law_value_6 : decode b_Law_value 6 = .ok (.iload_n 1, 1) := by decide +kernel
theorem d_Law_value_7 : decode b_Law_value 7 = .ok (.bipush (-6), 2) := by decide +kernel
theorem d_Law_value_9 : decode b_Law_value 9 = .ok (.if_icmp .lt 12, 3) := by decide +kernel
theorem d_Law_value_12 : decode b_Law_value 12 = .ok (.aload_n 0, 1) := by decide +kernel
theorem d_Law_value_13 : decode b_Law_value 13 = .ok (.getfield 18, 3) := by decide +kernel
theorem d_Law_value_16 : decode b_Law_value 16 = .ok (.iconst (-1), 1) := by decide +kernel
theorem d_Law_value_17 : decode b_Law_value 17 = .ok (.iload_n 1, 1) := by decide +kernel
theorem d_Law_value_18 : decode b_Law_value 18 = .ok (.isub, 1) := by decide +kernel
theorem d_Law_value_19 : decode b_Law_value 19 = .ok (.iaload, 1) := by decide +kernel
theorem d_Law_value_20 : decode b_Law_value 20 = .ok (.ireturn, 1) := by decide +kernel
theorem d_Law_value_21 : decode b_Law_value 21 = .ok (.aload_n 0, 1) := by decide +kernel
theorem d_Law_value_22 : decode b_Law_value 22 = .ok (.invokevirtual 44, 3) := by decide +kernel
theorem d_Law_value_25 : decode b_Law_value 25 = .ok (.istore_n 2, 1) := by decide +kernel
theorem d_Law_value_26 : decode b_Law_value 26 = .ok (.iload_n 1, 1) := by decide +kernel
theorem d_Law_value_27 : decode b_Law_value 27 = .ok (.bipush (-33), 2) := by decide +kernel
theorem d_Law_value_29 : decode b_Law_value 29 = .ok (.if_icmp .ne 13, 3) := by decide +kernel
theorem d_Law_value_32 : decode b_Law_value 32 = .ok (.iload_n 2, 1) := by decide +kernel
theorem d_Law_value_33 : decode b_Law_value 33 = .ok (.ifCond .ne 7, 3) := by decide +kernel
theorem d_Law_value_36 : decode b_Law_value 36 = .ok (.iconst 1, 1) := by decide +kernel
theorem d_Law_value_37 : decode b_Law_value 37 = .ok (.goto 4, 3) := by decide +kernel
theorem d_Law_value_40 : decode b_Law_value 40 = .ok (.iconst 0, 1) := by decide +kernel
theorem d_Law_value_41 : decode b_Law_value 41 = .ok (.ireturn, 1) := by decide +kernel
theorem d_Law_value_42 : decode b_Law_value 42 = .ok (.iload_n 1, 1) := by decide +kernel
theorem d_Law_value_43 : decode b_Law_value 43 = .ok (.bipush (-126), 2) := by decide +kernel
theorem d_Law_value_45 : decode b_Law_value 45 = .ok (.if_icmp .ne 6, 3) := by decide +kernel
theorem d_Law_value_48 : decode b_Law_value 48 = .ok (.iload_n 2, 1) := by decide +kernel
theorem d_Law_value_49 : decode b_Law_value 49 = .ok (.ineg, 1) := by decide +kernel
theorem d_Law_value_50 : decode b_Law_value 50 = .ok (.ireturn, 1) := by decide +kernel
theorem d_Law_value_51 : decode b_Law_value 51 = .ok (.iload_n 1, 1) := by decide +kernel
theorem d_Law_value_52 : decode b_Law_value 52 = .ok (.ineg, 1) := by decide +kernel
theorem d_Law_value_53 : decode b_Law_value 53 = .ok (.aload_n 0, 1) := by decide +kernel
theorem d_Law_value_54 : decode b_Law_value 54 = .ok (.invokevirtual 44, 3) := by decide +kernel
theorem d_Law_value_57 : decode b_Law_value 57 = .ok (.iload_n 2, 1) := by decide +kernel
theorem d_Law_value_58 : decode b_Law_value 58 = .ok (.invokestatic 56, 3) := by decide +kernel
theorem d_Law_value_61 : decode b_Law_value 61 = .ok (.ireturn, 1) := by decide +kernel
theorem d_Law_worth_0 : decode b_Law_worth 0 = .ok (.aload_n 0, 1) := by decide +kernel
theorem d_Law_worth_1 : decode b_Law_worth 1 = .ok (.iconst 0, 1) := by decide +kernel
theorem d_Law_worth_2 : decode b_Law_worth 2 = .ok (.putfield 41, 3) := by decide +kernel
theorem d_Law_worth_5 : decode b_Law_worth 5 = .ok (.iconst 0, 1) := by decide +kernel
theorem d_Law_worth_6 : decode b_Law_worth 6 = .ok (.istore_n 1, 1) := by decide +kernel
theorem d_Law_worth_7 : decode b_Law_worth 7 = .ok (.iload_n 1, 1) := by decide +kernel
theorem d_Law_worth_8 : decode b_Law_worth 8 = .ok (.aload_n 0, 1) := by decide +kernel
theorem d_Law_worth_9 : decode b_Law_worth 9 = .ok (.getfield 31, 3) := by decide +kernel
theorem d_Law_worth_12 : decode b_Law_worth 12 = .ok (.if_icmp .ge 59, 3) := by decide +kernel
theorem d_Law_worth_15 : decode b_Law_worth 15 = .ok (.aload_n 0, 1) := by decide +kernel
theorem d_Law_worth_16 : decode b_Law_worth 16 = .ok (.getfield 11, 3) := by decide +kernel
theorem d_Law_worth_19 : decode b_Law_worth 19 = .ok (.iload_n 1, 1) := by decide +kernel
theorem d_Law_worth_20 : decode b_Law_worth 20 = .ok (.iaload, 1) := by decide +kernel
theorem d_Law_worth_21 : decode b_Law_worth 21 = .ok (.istore_n 2, 1) := by decide +kernel
theorem d_Law_worth_22 : decode b_Law_worth 22 = .ok (.iload_n 2, 1) := by decide +kernel
theorem d_Law_worth_23 : decode b_Law_worth 23 = .ok (.bipush (-59), 2) := by decide +kernel
theorem d_Law_worth_25 : decode b_Law_worth 25 = .ok (.if_icmp .ne 8, 3) := by decide +kernel
theorem d_Law_worth_28 : decode b_Law_worth 28 = .ok (.aload_n 0, 1) := by decide +kernel
theorem d_Law_worth_29 : decode b_Law_worth 29 = .ok (.invokevirtual 44, 3) := by decide +kernel
theorem d_Law_worth_32 : decode b_Law_worth 32 = .ok (.ireturn, 1) := by decide +kernel
theorem d_Law_worth_33 : decode b_Law_worth 33 = .ok (.iload_n 2, 1) := by decide +kernel
theorem d_Law_worth_34 : decode b_Law_worth 34 = .ok (.bipush (-63), 2) := by decide +kernel
theorem d_Law_worth_36 : decode b_Law_worth 36 = .ok (.if_icmp .ne 20, 3) := by decide +kernel
theorem d_Law_worth_39 : decode b_Law_worth 39 = .ok (.aload_n 0, 1) := by decide +kernel
theorem d_Law_worth_40 : decode b_Law_worth 40 = .ok (.invokevirtual 44, 3) := by decide +kernel
theorem d_Law_worth_43 : decode b_Law_worth 43 = .ok (.istore_n 3, 1) := by decide +kernel
theorem d_Law_worth_44 : decode b_Law_worth 44 = .ok (.aload_n 0, 1) := by decide +kernel
theorem d_Law_worth_45 : decode b_Law_worth 45 = .ok (.invokevirtual 44, 3) := by decide +kernel
theorem d_Law_worth_48 : decode b_Law_worth 48 = .ok (.ifCond .eq 5, 3) := by decide +kernel
theorem d_Law_worth_51 : decode b_Law_worth 51 = .ok (.iload_n 3, 1) := by decide +kernel
theorem d_Law_worth_52 : decode b_Law_worth 52 = .ok (.ireturn, 1) := by decide +kernel
theorem d_Law_worth_53 : decode b_Law_worth 53 = .ok (.goto 12, 3) := by decide +kernel
theorem d_Law_worth_56 : decode b_Law_worth 56 = .ok (.aload_n 0, 1) := by decide +kernel
theorem d_Law_worth_57 : decode b_Law_worth 57 = .ok (.aload_n 0, 1) := by decide +kernel
theorem d_Law_worth_58 : decode b_Law_worth 58 = .ok (.iload_n 2, 1) := by decide +kernel
theorem d_Law_worth_59 : decode b_Law_worth 59 = .ok (.invokevirtual 48, 3) := by decide +kernel
theorem d_Law_worth_62 : decode b_Law_worth 62 = .ok (.invokevirtual 52, 3) := by decide +kernel
theorem d_Law_worth_65 : decode b_Law_worth 65 = .ok (.iinc 1 1, 3) := by decide +kernel
theorem d_Law_worth_68 : decode b_Law_worth 68 = .ok (.goto (-61), 3) := by decide +kernel
theorem d_Law_worth_71 : decode b_Law_worth 71 = .ok (.iconst 0, 1) := by decide +kernel
theorem d_Law_worth_72 : decode b_Law_worth 72 = .ok (.ireturn, 1) := by decide +kernel
theorem d_Tub_dyeIf_0 : decode b_Tub_dyeIf 0 = .ok (.aload_n 0, 1) := by decide +kernel
theorem d_Tub_dyeIf_1 : decode b_Tub_dyeIf 1 = .ok (.getfield 23, 3) := by decide +kernel
theorem d_Tub_dyeIf_4 : decode b_Tub_dyeIf 4 = .ok (.invokevirtual 37, 3) := by decide +kernel
theorem d_Tub_dyeIf_7 : decode b_Tub_dyeIf 7 = .ok (.ifCond .ne 16, 3) := by decide +kernel
theorem d_Tub_dyeIf_10 : decode b_Tub_dyeIf 10 = .ok (.iconst 0, 1) := by decide +kernel
theorem d_Tub_dyeIf_11 : decode b_Tub_dyeIf 11 = .ok (.iload_n 2, 1) := by decide +kernel
theorem d_Tub_dyeIf_12 : decode b_Tub_dyeIf 12 = .ok (.iload_n 3, 1) := by decide +kernel
theorem d_Tub_dyeIf_13 : decode b_Tub_dyeIf 13 = .ok (.isub, 1) := by decide +kernel
theorem d_Tub_dyeIf_14 : decode b_Tub_dyeIf 14 = .ok (.invokestatic 43, 3) := by decide +kernel
theorem d_Tub_dyeIf_17 : decode b_Tub_dyeIf 17 = .ok (.iload 4, 2) := by decide +kernel
theorem d_Tub_dyeIf_19 : decode b_Tub_dyeIf 19 = .ok (.imul, 1) := by decide +kernel
theorem d_Tub_dyeIf_20 : decode b_Tub_dyeIf 20 = .ok (.iconst 3, 1) := by decide +kernel
theorem d_Tub_dyeIf_21 : decode b_Tub_dyeIf 21 = .ok (.idiv, 1) := by decide +kernel
theorem d_Tub_dyeIf_22 : decode b_Tub_dyeIf 22 = .ok (.ireturn, 1) := by decide +kernel
theorem d_Tub_dyeIf_23 : decode b_Tub_dyeIf 23 = .ok (.aload_n 0, 1) := by decide +kernel
theorem d_Tub_dyeIf_24 : decode b_Tub_dyeIf 24 = .ok (.getfield 23, 3) := by decide +kernel
theorem d_Tub_dyeIf_27 : decode b_Tub_dyeIf 27 = .ok (.iload_n 2, 1) := by decide +kernel
theorem d_Tub_dyeIf_28 : decode b_Tub_dyeIf 28 = .ok (.iload_n 3, 1) := by decide +kernel
theorem d_Tub_dyeIf_29 : decode b_Tub_dyeIf 29 = .ok (.iload 4, 2) := by decide +kernel
theorem d_Tub_dyeIf_31 : decode b_Tub_dyeIf 31 = .ok (.aload_n 0, 1) := by decide +kernel
theorem d_Tub_dyeIf_32 : decode b_Tub_dyeIf 32 = .ok (.getfield 19, 3) := by decide +kernel
theorem d_Tub_dyeIf_35 : decode b_Tub_dyeIf 35 = .ok (.iload_n 1, 1) := by decide +kernel
theorem d_Tub_dyeIf_36 : decode b_Tub_dyeIf 36 = .ok (.iconst 0, 1) := by decide +kernel
theorem d_Tub_dyeIf_37 : decode b_Tub_dyeIf 37 = .ok (.invokevirtual 29, 3) := by decide +kernel
theorem d_Tub_dyeIf_40 : decode b_Tub_dyeIf 40 = .ok (.aload_n 0, 1) := by decide +kernel
theorem d_Tub_dyeIf_41 : decode b_Tub_dyeIf 41 = .ok (.getfield 19, 3) := by decide +kernel
theorem d_Tub_dyeIf_44 : decode b_Tub_dyeIf 44 = .ok (.iload_n 1, 1) := by decide +kernel
theorem d_Tub_dyeIf_45 : decode b_Tub_dyeIf 45 = .ok (.iconst 4, 1) := by decide +kernel
theorem d_Tub_dyeIf_46 : decode b_Tub_dyeIf 46 = .ok (.invokevirtual 29, 3) := by decide +kernel
theorem d_Tub_dyeIf_49 : decode b_Tub_dyeIf 49 = .ok (.aload_n 0, 1) := by decide +kernel
theorem d_Tub_dyeIf_50 : decode b_Tub_dyeIf 50 = .ok (.getfield 19, 3) := by decide +kernel
theorem d_Tub_dyeIf_53 : decode b_Tub_dyeIf 53 = .ok (.iload_n 1, 1) := by decide +kernel
theorem d_Tub_dyeIf_54 : decode b_Tub_dyeIf 54 = .ok (.iconst 3, 1) := by decide +kernel
theorem d_Tub_dyeIf_55 : decode b_Tub_dyeIf 55 = .ok (.invokevirtual 29, 3) := by decide +kernel
theorem d_Tub_dyeIf_58 : decode b_Tub_dyeIf 58 = .ok (.invokevirtual 48, 3) := by decide +kernel
theorem d_Tub_dyeIf_61 : decode b_Tub_dyeIf 61 = .ok (.iconst 0, 1) := by decide +kernel
theorem d_Tub_dyeIf_62 : decode b_Tub_dyeIf 62 = .ok (.bipush 99, 2) := by decide +kernel
theorem d_Tub_dyeIf_64 : decode b_Tub_dyeIf 64 = .ok (.aload_n 0, 1) := by decide +kernel
theorem d_Tub_dyeIf_65 : decode b_Tub_dyeIf 65 = .ok (.getfield 23, 3) := by decide +kernel
theorem d_Tub_dyeIf_68 : decode b_Tub_dyeIf 68 = .ok (.invokevirtual 52, 3) := by decide +kernel
theorem d_Tub_dyeIf_71 : decode b_Tub_dyeIf 71 = .ok (.invokestatic 56, 3) := by decide +kernel
theorem d_Tub_dyeIf_74 : decode b_Tub_dyeIf 74 = .ok (.invokestatic 43, 3) := by decide +kernel
theorem d_Tub_dyeIf_77 : decode b_Tub_dyeIf 77 = .ok (.ireturn, 1) := by decide +kernel
theorem d_Top_alone_0 : decode b_Top_alone 0 = .ok (.aload_n 0, 1) := by decide +kernel
theorem d_Top_alone_1 : decode b_Top_alone 1 = .ok (.getfield 10, 3) := by decide +kernel
theorem d_Top_alone_4 : decode b_Top_alone 4 = .ok (.iload_n 1, 1) := by decide +kernel
theorem d_Top_alone_5 : decode b_Top_alone 5 = .ok (.invokevirtual 134, 3) := by decide +kernel
theorem d_Top_alone_8 : decode b_Top_alone 8 = .ok (.ifCond .eq 10, 3) := by decide +kernel
theorem d_Top_alone_11 : decode b_Top_alone 11 = .ok (.iload_n 2, 1) := by decide +kernel
theorem d_Top_alone_12 : decode b_Top_alone 12 = .ok (.invokestatic 154, 3) := by decide +kernel
theorem d_Top_alone_15 : decode b_Top_alone 15 = .ok (.ifCond .ne 5, 3) := by decide +kernel
theorem d_Top_alone_18 : decode b_Top_alone 18 = .ok (.iconst (-1), 1) := by decide +kernel
theorem d_Top_alone_19 : decode b_Top_alone 19 = .ok (.ireturn, 1) := by decide +kernel
theorem d_Top_alone_20 : decode b_Top_alone 20 = .ok (.aload_n 0, 1) := by decide +kernel
theorem d_Top_alone_21 : decode b_Top_alone 21 = .ok (.getfield 10, 3) := by decide +kernel
theorem d_Top_alone_24 : decode b_Top_alone 24 = .ok (.iload_n 1, 1) := by decide +kernel
theorem d_Top_alone_25 : decode b_Top_alone 25 = .ok (.iconst 1, 1) := by decide +kernel
theorem d_Top_alone_26 : decode b_Top_alone 26 = .ok (.invokevirtual 227, 3) := by decide +kernel
theorem d_Top_alone_29 : decode b_Top_alone 29 = .ok (.istore_n 3, 1) := by decide +kernel
theorem d_Top_alone_30 : decode b_Top_alone 30 = .ok (.aload_n 0, 1) := by decide +kernel
theorem d_Top_alone_31 : decode b_Top_alone 31 = .ok (.getfield 10, 3) := by decide +kernel
theorem d_Top_alone_34 : decode b_Top_alone 34 = .ok (.iload_n 1, 1) := by decide +kernel
theorem d_Top_alone_35 : decode b_Top_alone 35 = .ok (.iconst 2, 1) := by decide +kernel
theorem d_Top_alone_36 : decode b_Top_alone 36 = .ok (.invokevirtual 227, 3) := by decide +kernel
theorem d_Top_alone_39 : decode b_Top_alone 39 = .ok (.istore 4, 2) := by decide +kernel
theorem d_Top_alone_41 : decode b_Top_alone 41 = .ok (.bipush 100, 2) := by decide +kernel
theorem d_Top_alone_43 : decode b_Top_alone 43 = .ok (.istore 5, 2) := by decide +kernel
theorem d_Top_alone_45 : decode b_Top_alone 45 = .ok (.iload 5, 2) := by decide +kernel
theorem d_Top_alone_47 : decode b_Top_alone 47 = .ok (.iload 4, 2) := by decide +kernel
theorem d_Top_alone_49 : decode b_Top_alone 49 = .ok (.if_icmp .le 26, 3) := by decide +kernel
theorem d_Top_alone_52 : decode b_Top_alone 52 = .ok (.aload_n 0, 1) := by decide +kernel
theorem d_Top_alone_53 : decode b_Top_alone 53 = .ok (.getfield 35, 3) := by decide +kernel
theorem d_Top_alone_56 : decode b_Top_alone 56 = .ok (.iload_n 1, 1) := by decide +kernel
theorem d_Top_alone_57 : decode b_Top_alone 57 = .ok (.iload_n 3, 1) := by decide +kernel
theorem d_Top_alone_58 : decode b_Top_alone 58 = .ok (.iload 5, 2) := by decide +kernel
theorem d_Top_alone_60 : decode b_Top_alone 60 = .ok (.iconst 1, 1) := by decide +kernel
theorem d_Top_alone_61 : decode b_Top_alone 61 = .ok (.isub, 1) := by decide +kernel
theorem d_Top_alone_62 : decode b_Top_alone 62 = .ok (.iload_n 2, 1) := by decide +kernel
theorem d_Top_alone_63 : decode b_Top_alone 63 = .ok (.invokevirtual 230, 3) := by decide +kernel
theorem d_Top_alone_66 : decode b_Top_alone 66 = .ok (.ifCond .ne 9, 3) := by decide +kernel
theorem d_Top_alone_69 : decode b_Top_alone 69 = .ok (.iinc 5 (-1), 3) := by decide +kernel
theorem d_Top_alone_72 : decode b_Top_alone 72 = .ok (.goto (-27), 3) := by decide +kernel
theorem d_Top_alone_75 : decode b_Top_alone 75 = .ok (.iload 5, 2) := by decide +kernel
theorem d_Top_alone_77 : decode b_Top_alone 77 = .ok (.bipush 99, 2) := by decide +kernel
theorem d_Top_alone_79 : decode b_Top_alone 79 = .ok (.if_icmp .le 8, 3) := by decide +kernel
theorem d_Top_alone_82 : decode b_Top_alone 82 = .ok (.bipush (-2), 2) := by decide +kernel
theorem d_Top_alone_84 : decode b_Top_alone 84 = .ok (.goto 8, 3) := by decide +kernel
theorem d_Top_alone_87 : decode b_Top_alone 87 = .ok (.iload 5, 2) := by decide +kernel
theorem d_Top_alone_89 : decode b_Top_alone 89 = .ok (.iload 4, 2) := by decide +kernel
theorem d_Top_alone_91 : decode b_Top_alone 91 = .ok (.isub, 1) := by decide +kernel
theorem d_Top_alone_92 : decode b_Top_alone 92 = .ok (.ireturn, 1) := by decide +kernel
theorem d_Deeds_hasImage_0 : decode b_Deeds_hasImage 0 = .ok (.aload_n 0, 1) := by decide +kernel
theorem d_Deeds_hasImage_1 : decode b_Deeds_hasImage 1 = .ok (.getfield 28, 3) := by decide +kernel
theorem d_Deeds_hasImage_4 : decode b_Deeds_hasImage 4 = .ok (.iconst (-1), 1) := by decide +kernel
theorem d_Deeds_hasImage_5 : decode b_Deeds_hasImage 5 = .ok (.if_icmp .eq 7, 3) := by decide +kernel
theorem d_Deeds_hasImage_8 : decode b_Deeds_hasImage 8 = .ok (.iconst 1, 1) := by decide +kernel
theorem d_Deeds_hasImage_9 : decode b_Deeds_hasImage 9 = .ok (.goto 4, 3) := by decide +kernel
theorem d_Deeds_hasImage_12 : decode b_Deeds_hasImage 12 = .ok (.iconst 0, 1) := by decide +kernel
theorem d_Deeds_hasImage_13 : decode b_Deeds_hasImage 13 = .ok (.ireturn, 1) := by decide +kernel
theorem d_Basket_slot_0 : decode b_Basket_slot 0 = .ok (.iload_n 2, 1) := by decide +kernel
theorem d_Basket_slot_1 : decode b_Basket_slot 1 = .ok (.iconst 0, 1) := by decide +kernel
theorem d_Basket_slot_2 : decode b_Basket_slot 2 = .ok (.bipush 7, 2) := by decide +kernel
theorem d_Basket_slot_4 : decode b_Basket_slot 4 = .ok (.invokestatic 31, 3) := by decide +kernel
theorem d_Basket_slot_7 : decode b_Basket_slot 7 = .ok (.ifCond .eq 22, 3) := by decide +kernel
theorem d_Basket_slot_10 : decode b_Basket_slot 10 = .ok (.aload_n 0, 1) := by decide +kernel
theorem d_Basket_slot_11 : decode b_Basket_slot 11 = .ok (.iload_n 1, 1) := by decide +kernel
theorem d_Basket_slot_12 : decode b_Basket_slot 12 = .ok (.invokevirtual 49, 3) := by decide +kernel
theorem d_Basket_slot_15 : decode b_Basket_slot 15 = .ok (.ifCond .eq 12, 3) := by decide +kernel
theorem d_Basket_slot_18 : decode b_Basket_slot 18 = .ok (.iload_n 1, 1) := by decide +kernel
theorem d_Basket_slot_19 : decode b_Basket_slot 19 = .ok (.bipush 8, 2) := by decide +kernel
theorem d_Basket_slot_21 : decode b_Basket_slot 21 = .ok (.imul, 1) := by decide +kernel
theorem d_Basket_slot_22 : decode b_Basket_slot 22 = .ok (.iload_n 2, 1) := by decide +kernel
theorem d_Basket_slot_23 : decode b_Basket_slot 23 = .ok (.iadd, 1) := by decide +kernel
theorem d_Basket_slot_24 : decode b_Basket_slot 24 = .ok (.goto 4, 3) := by decide +kernel
theorem d_Basket_slot_27 : decode b_Basket_slot 27 = .ok (.iconst (-1), 1) := by decide +kernel
theorem d_Basket_slot_28 : decode b_Basket_slot 28 = .ok (.ireturn, 1) := by decide +kernel
theorem d_Basket_slot_29 : decode b_Basket_slot 29 = .ok (.iload_n 2, 1) := by decide +kernel
theorem d_Basket_slot_30 : decode b_Basket_slot 30 = .ok (.bipush 8, 2) := by decide +kernel
theorem d_Basket_slot_32 : decode b_Basket_slot 32 = .ok (.bipush 11, 2) := by decide +kernel
theorem d_Basket_slot_34 : decode b_Basket_slot 34 = .ok (.invokestatic 31, 3) := by decide +kernel
theorem d_Basket_slot_37 : decode b_Basket_slot 37 = .ok (.ifCond .eq 17, 3) := by decide +kernel
theorem d_Basket_slot_40 : decode b_Basket_slot 40 = .ok (.iload_n 1, 1) := by decide +kernel
theorem d_Basket_slot_41 : decode b_Basket_slot 41 = .ok (.ifCond .ne 13, 3) := by decide +kernel
theorem d_Basket_slot_44 : decode b_Basket_slot 44 = .ok (.bipush 80, 2) := by decide +kernel
theorem d_Basket_slot_46 : decode b_Basket_slot 46 = .ok (.iload_n 2, 1) := by decide +kernel
theorem d_Basket_slot_47 : decode b_Basket_slot 47 = .ok (.iadd, 1) := by decide +kernel
theorem d_Basket_slot_48 : decode b_Basket_slot 48 = .ok (.bipush 8, 2) := by decide +kernel
theorem d_Basket_slot_50 : decode b_Basket_slot 50 = .ok (.isub, 1) := by decide +kernel
theorem d_Basket_slot_51 : decode b_Basket_slot 51 = .ok (.goto 4, 3) := by decide +kernel
theorem d_Basket_slot_54 : decode b_Basket_slot 54 = .ok (.iconst (-1), 1) := by decide +kernel
theorem d_Basket_slot_55 : decode b_Basket_slot 55 = .ok (.ireturn, 1) := by decide +kernel
theorem d_Basket_write_0 : decode b_Basket_write 0 = .ok (.iload_n 1, 1) := by decide +kernel
theorem d_Basket_write_1 : decode b_Basket_write 1 = .ok (.ifCond .lt 19, 3) := by decide +kernel
theorem d_Basket_write_4 : decode b_Basket_write 4 = .ok (.iload_n 1, 1) := by decide +kernel
theorem d_Basket_write_5 : decode b_Basket_write 5 = .ok (.aload_n 0, 1) := by decide +kernel
theorem d_Basket_write_6 : decode b_Basket_write 6 = .ok (.getfield 11, 3) := by decide +kernel
theorem d_Basket_write_9 : decode b_Basket_write 9 = .ok (.arraylength, 1) := by decide +kernel
theorem d_Basket_write_10 : decode b_Basket_write 10 = .ok (.if_icmp .ge 10, 3) := by decide +kernel
theorem d_Basket_write_13 : decode b_Basket_write 13 = .ok (.aload_n 0, 1) := by decide +kernel
theorem d_Basket_write_14 : decode b_Basket_write 14 = .ok (.getfield 11, 3) := by decide +kernel
theorem d_Basket_write_17 : decode b_Basket_write 17 = .ok (.iload_n 1, 1) := by decide +kernel
theorem d_Basket_write_18 : decode b_Basket_write 18 = .ok (.iload_n 2, 1) := by decide +kernel
theorem d_Basket_write_19 : decode b_Basket_write 19 = .ok (.iastore, 1) := by decide +kernel
theorem d_Basket_write_20 : decode b_Basket_write 20 = .ok (.return_, 1) := by decide +kernel
theorem d_Deeds_layBack_0 : decode b_Deeds_layBack 0 = .ok (.aload_n 0, 1) := by decide +kernel
theorem d_Deeds_layBack_1 : decode b_Deeds_layBack 1 = .ok (.getfield 15, 3) := by decide +kernel
theorem d_Deeds_layBack_4 : decode b_Deeds_layBack 4 = .ok (.iconst 0, 1) := by decide +kernel
theorem d_Deeds_layBack_5 : decode b_Deeds_layBack 5 = .ok (.aload_n 0, 1) := by decide +kernel
theorem d_Deeds_layBack_6 : decode b_Deeds_layBack 6 = .ok (.getfield 11, 3) := by decide +kernel
theorem d_Deeds_layBack_9 : decode b_Deeds_layBack 9 = .ok (.iconst 0, 1) := by decide +kernel
theorem d_Deeds_layBack_10 : decode b_Deeds_layBack 10 = .ok (.iconst 4, 1) := by decide +kernel
theorem d_Deeds_layBack_11 : decode b_Deeds_layBack 11 = .ok (.invokestatic 85, 3) := by decide +kernel
theorem d_Deeds_layBack_14 : decode b_Deeds_layBack 14 = .ok (.iconst 0, 1) := by decide +kernel
theorem d_Deeds_layBack_15 : decode b_Deeds_layBack 15 = .ok (.istore_n 1, 1) := by decide +kernel
theorem d_Deeds_layBack_16 : decode b_Deeds_layBack 16 = .ok (.iload_n 1, 1) := by decide +kernel
theorem d_Deeds_layBack_17 : decode b_Deeds_layBack 17 = .ok (.aload_n 0, 1) := by decide +kernel
theorem d_Deeds_layBack_18 : decode b_Deeds_layBack 18 = .ok (.getfield 32, 3) := by decide +kernel
theorem d_Deeds_layBack_21 : decode b_Deeds_layBack 21 = .ok (.getfield 51, 3) := by decide +kernel
theorem d_Deeds_layBack_24 : decode b_Deeds_layBack 24 = .ok (.if_icmp .ge 99, 3) := by decide +kernel
theorem d_Deeds_layBack_27 : decode b_Deeds_layBack 27 = .ok (.iload_n 1, 1) := by decide +kernel
theorem d_Deeds_layBack_28 : decode b_Deeds_layBack 28 = .ok (.aload_n 0, 1) := by decide +kernel
theorem d_Deeds_layBack_29 : decode b_Deeds_layBack 29 = .ok (.getfield 28, 3) := by decide +kernel
theorem d_Deeds_layBack_32 : decode b_Deeds_layBack 32 = .ok (.if_icmp .ge 7, 3) := by decide +kernel
theorem d_Deeds_layBack_35 : decode b_Deeds_layBack 35 = .ok (.iconst 1, 1) := by decide +kernel
theorem d_Deeds_layBack_36 : decode b_Deeds_layBack 36 = .ok (.goto 4, 3) := by decide +kernel
theorem d_Deeds_layBack_39 : decode b_Deeds_layBack 39 = .ok (.iconst 0, 1) := by decide +kernel
theorem d_Deeds_layBack_40 : decode b_Deeds_layBack 40 = .ok (.istore_n 2, 1) := by decide +kernel
theorem d_Deeds_layBack_41 : decode b_Deeds_layBack 41 = .ok (.aload_n 0, 1) := by decide +kernel
theorem d_Deeds_layBack_42 : decode b_Deeds_layBack 42 = .ok (.getfield 32, 3) := by decide +kernel
theorem d_Deeds_layBack_45 : decode b_Deeds_layBack 45 = .ok (.getfield 63, 3) := by decide +kernel
theorem d_Deeds_layBack_48 : decode b_Deeds_layBack 48 = .ok (.iload_n 1, 1) := by decide +kernel
theorem d_Deeds_layBack_49 : decode b_Deeds_layBack 49 = .ok (.iload_n 2, 1) := by decide +kernel
theorem d_Deeds_layBack_50 : decode b_Deeds_layBack 50 = .ok (.ifCond .eq 12, 3) := by decide +kernel
theorem d_Deeds_layBack_53 : decode b_Deeds_layBack 53 = .ok (.aload_n 0, 1) := by decide +kernel
theorem d_Deeds_layBack_54 : decode b_Deeds_layBack 54 = .ok (.getfield 21, 3) := by decide +kernel
theorem d_Deeds_layBack_57 : decode b_Deeds_layBack 57 = .ok (.iload_n 1, 1) := by decide +kernel
theorem d_Deeds_layBack_58 : decode b_Deeds_layBack 58 = .ok (.iaload, 1) := by decide +kernel
theorem d_Deeds_layBack_59 : decode b_Deeds_layBack 59 = .ok (.goto 4, 3) := by decide +kernel
theorem d_Deeds_layBack_62 : decode b_Deeds_layBack 62 = .ok (.iconst 0, 1) := by decide +kernel
theorem d_Deeds_layBack_63 : decode b_Deeds_layBack 63 = .ok (.iastore, 1) := by decide +kernel
theorem d_Deeds_layBack_64 : decode b_Deeds_layBack 64 = .ok (.aload_n 0, 1) := by decide +kernel
theorem d_Deeds_layBack_65 : decode b_Deeds_layBack 65 = .ok (.getfield 32, 3) := by decide +kernel
theorem d_Deeds_layBack_68 : decode b_Deeds_layBack 68 = .ok (.getfield 91, 3) := by decide +kernel
theorem d_Deeds_layBack_71 : decode b_Deeds_layBack 71 = .ok (.iload_n 1, 1) := by decide +kernel
theorem d_Deeds_layBack_72 : decode b_Deeds_layBack 72 = .ok (.iload_n 2, 1) := by decide +kernel
theorem d_Deeds_layBack_73 : decode b_Deeds_layBack 73 = .ok (.ifCond .eq 16, 3) := by decide +kernel
theorem d_Deeds_layBack_76 : decode b_Deeds_layBack 76 = .ok (.aload_n 0, 1) := by decide +kernel
theorem d_Deeds_layBack_77 : decode b_Deeds_layBack 77 = .ok (.getfield 24, 3) := by decide +kernel
theorem d_Deeds_layBack_80 : decode b_Deeds_layBack 80 = .ok (.iload_n 1, 1) := by decide +kernel
theorem d_Deeds_layBack_81 : decode b_Deeds_layBack 81 = .ok (.baload, 1) := by decide +kernel
theorem d_Deeds_layBack_82 : decode b_Deeds_layBack 82 = .ok (.ifCond .eq 7, 3) := by decide +kernel
theorem d_Deeds_layBack_85 : decode b_Deeds_layBack 85 = .ok (.iconst 1, 1) := by decide +kernel
theorem d_Deeds_layBack_86 : decode b_Deeds_layBack 86 = .ok (.goto 4, 3) := by decide +kernel
theorem d_Deeds_layBack_89 : decode b_Deeds_layBack 89 = .ok (.iconst 0, 1) := by decide +kernel
theorem d_Deeds_layBack_90 : decode b_Deeds_layBack 90 = .ok (.bastore, 1) := by decide +kernel
theorem d_Deeds_layBack_91 : decode b_Deeds_layBack 91 = .ok (.iload_n 2, 1) := by decide +kernel
theorem d_Deeds_layBack_92 : decode b_Deeds_layBack 92 = .ok (.ifCond .eq 25, 3) := by decide +kernel
theorem d_Deeds_layBack_95 : decode b_Deeds_layBack 95 = .ok (.aload_n 0, 1) := by decide +kernel
theorem d_Deeds_layBack_96 : decode b_Deeds_layBack 96 = .ok (.getfield 32, 3) := by decide +kernel
theorem d_Deeds_layBack_99 : decode b_Deeds_layBack 99 = .ok (.aload_n 0, 1) := by decide +kernel
theorem d_Deeds_layBack_100 : decode b_Deeds_layBack 100 = .ok (.getfield 32, 3) := by decide +kernel
theorem d_Deeds_layBack_103 : decode b_Deeds_layBack 103 = .ok (.iload_n 1, 1) := by decide +kernel
theorem d_Deeds_layBack_104 : decode b_Deeds_layBack 104 = .ok (.iconst 2, 1) := by decide +kernel
theorem d_Deeds_layBack_105 : decode b_Deeds_layBack 105 = .ok (.invokevirtual 78, 3) := by decide +kernel
theorem d_Deeds_layBack_108 : decode b_Deeds_layBack 108 = .ok (.aload_n 0, 1) := by decide +kernel
theorem d_Deeds_layBack_109 : decode b_Deeds_layBack 109 = .ok (.getfield 18, 3) := by decide +kernel
theorem d_Deeds_layBack_112 : decode b_Deeds_layBack 112 = .ok (.iload_n 1, 1) := by decide +kernel
theorem d_Deeds_layBack_113 : decode b_Deeds_layBack 113 = .ok (.iaload, 1) := by decide +kernel
theorem d_Deeds_layBack_114 : decode b_Deeds_layBack 114 = .ok (.invokevirtual 81, 3) := by decide +kernel
theorem d_Deeds_layBack_117 : decode b_Deeds_layBack 117 = .ok (.iinc 1 1, 3) := by decide +kernel
theorem d_Deeds_layBack_120 : decode b_Deeds_layBack 120 = .ok (.goto (-104), 3) := by decide +kernel
theorem d_Deeds_layBack_123 : decode b_Deeds_layBack 123 = .ok (.return_, 1) := by decide +kernel
theorem d_Top_back_0 : decode b_Top_back 0 = .ok (.aload_n 0, 1) := by decide +kernel
theorem d_Top_back_1 : decode b_Top_back 1 = .ok (.getfield 67, 3) := by decide +kernel
theorem d_Top_back_4 : decode b_Top_back 4 = .ok (.invokevirtual 316, 3) := by decide +kernel
theorem d_Top_back_7 : decode b_Top_back 7 = .ok (.ifCond .ne 6, 3) := by decide +kernel
theorem d_Top_back_10 : decode b_Top_back 10 = .ok (.bipush (-5), 2) := by decide +kernel
theorem d_Top_back_12 : decode b_Top_back 12 = .ok (.ireturn, 1) := by decide +kernel
theorem d_Top_back_13 : decode b_Top_back 13 = .ok (.aload_n 0, 1) := by decide +kernel
theorem d_Top_back_14 : decode b_Top_back 14 = .ok (.getfield 67, 3) := by decide +kernel
theorem d_Top_back_17 : decode b_Top_back 17 = .ok (.invokevirtual 319, 3) := by decide +kernel
theorem d_Top_back_20 : decode b_Top_back 20 = .ok (.aload_n 0, 1) := by decide +kernel
theorem d_Top_back_21 : decode b_Top_back 21 = .ok (.getfield 67, 3) := by decide +kernel
theorem d_Top_back_24 : decode b_Top_back 24 = .ok (.getfield 310, 3) := by decide +kernel
theorem d_Top_back_27 : decode b_Top_back 27 = .ok (.iconst 0, 1) := by decide +kernel
theorem d_Top_back_28 : decode b_Top_back 28 = .ok (.iaload, 1) := by decide +kernel
theorem d_Top_back_29 : decode b_Top_back 29 = .ok (.ireturn, 1) := by decide +kernel
theorem d_Top_bleach_0 : decode b_Top_bleach 0 = .ok (.aload_n 0, 1) := by decide +kernel
theorem d_Top_bleach_1 : decode b_Top_bleach 1 = .ok (.getfield 10, 3) := by decide +kernel
theorem d_Top_bleach_4 : decode b_Top_bleach 4 = .ok (.iload_n 1, 1) := by decide +kernel
theorem d_Top_bleach_5 : decode b_Top_bleach 5 = .ok (.invokevirtual 134, 3) := by decide +kernel
theorem d_Top_bleach_8 : decode b_Top_bleach 8 = .ok (.ifCond .ne 5, 3) := by decide +kernel
theorem d_Top_bleach_11 : decode b_Top_bleach 11 = .ok (.iconst (-1), 1) := by decide +kernel
theorem d_Top_bleach_12 : decode b_Top_bleach 12 = .ok (.ireturn, 1) := by decide +kernel
theorem d_Top_bleach_13 : decode b_Top_bleach 13 = .ok (.aload_n 0, 1) := by decide +kernel
theorem d_Top_bleach_14 : decode b_Top_bleach 14 = .ok (.getfield 10, 3) := by decide +kernel
theorem d_Top_bleach_17 : decode b_Top_bleach 17 = .ok (.getfield 300, 3) := by decide +kernel
theorem d_Top_bleach_20 : decode b_Top_bleach 20 = .ok (.iload_n 1, 1) := by decide +kernel
theorem d_Top_bleach_21 : decode b_Top_bleach 21 = .ok (.iaload, 1) := by decide +kernel
theorem d_Top_bleach_22 : decode b_Top_bleach 22 = .ok (.istore_n 2, 1) := by decide +kernel
theorem d_Top_bleach_23 : decode b_Top_bleach 23 = .ok (.aload_n 0, 1) := by decide +kernel
theorem d_Top_bleach_24 : decode b_Top_bleach 24 = .ok (.getfield 10, 3) := by decide +kernel
theorem d_Top_bleach_27 : decode b_Top_bleach 27 = .ok (.getfield 300, 3) := by decide +kernel
theorem d_Top_bleach_30 : decode b_Top_bleach 30 = .ok (.iload_n 1, 1) := by decide +kernel
theorem d_Top_bleach_31 : decode b_Top_bleach 31 = .ok (.iconst 0, 1) := by decide +kernel
theorem d_Top_bleach_32 : decode b_Top_bleach 32 = .ok (.iastore, 1) := by decide +kernel
theorem d_Top_bleach_33 : decode b_Top_bleach 33 = .ok (.iload_n 2, 1) := by decide +kernel
theorem d_Top_bleach_34 : decode b_Top_bleach 34 = .ok (.ireturn, 1) := by decide +kernel
theorem d_Socks_isFull_0 : decode b_Socks_isFull 0 = .ok (.aload_n 0, 1) := by decide +kernel
theorem d_Socks_isFull_1 : decode b_Socks_isFull 1 = .ok (.getfield 18, 3) := by decide +kernel
theorem d_Socks_isFull_4 : decode b_Socks_isFull 4 = .ok (.bipush 50, 2) := by decide +kernel
theorem d_Socks_isFull_6 : decode b_Socks_isFull 6 = .ok (.if_icmp .lt 7, 3) := by decide +kernel
theorem d_Socks_isFull_9 : decode b_Socks_isFull 9 = .ok (.iconst 1, 1) := by decide +kernel
theorem d_Socks_isFull_10 : decode b_Socks_isFull 10 = .ok (.goto 4, 3) := by decide +kernel
theorem d_Socks_isFull_13 : decode b_Socks_isFull 13 = .ok (.iconst 0, 1) := by decide +kernel
theorem d_Socks_isFull_14 : decode b_Socks_isFull 14 = .ok (.ireturn, 1) := by decide +kernel
theorem d_Socks_add_0 : decode b_Socks_add 0 = .ok (.aload_n 0, 1) := by decide +kernel
theorem d_Socks_add_1 : decode b_Socks_add 1 = .ok (.invokevirtual 26, 3) := by decide +kernel
theorem d_Socks_add_4 : decode b_Socks_add 4 = .ok (.ifCond .eq 6, 3) := by decide +kernel
theorem d_Socks_add_7 : decode b_Socks_add 7 = .ok (.bipush (-3), 2) := by decide +kernel
theorem d_Socks_add_9 : decode b_Socks_add 9 = .ok (.ireturn, 1) := by decide +kernel
theorem d_Socks_add_10 : decode b_Socks_add 10 = .ok (.aload_n 0, 1) := by decide +kernel
theorem d_Socks_add_11 : decode b_Socks_add 11 = .ok (.getfield 11, 3) := by decide +kernel
theorem d_Socks_add_14 : decode b_Socks_add 14 = .ok (.aload_n 0, 1) := by decide +kernel
theorem d_Socks_add_15 : decode b_Socks_add 15 = .ok (.getfield 18, 3) := by decide +kernel
theorem d_Socks_add_18 : decode b_Socks_add 18 = .ok (.iload_n 1, 1) := by decide +kernel
theorem d_Socks_add_19 : decode b_Socks_add 19 = .ok (.iastore, 1) := by decide +kernel
theorem d_Socks_add_20 : decode b_Socks_add 20 = .ok (.aload_n 0, 1) := by decide +kernel
theorem d_Socks_add_21 : decode b_Socks_add 21 = .ok (.dup, 1) := by decide +kernel
theorem d_Socks_add_22 : decode b_Socks_add 22 = .ok (.getfield 18, 3) := by decide +kernel
theorem d_Socks_add_25 : decode b_Socks_add 25 = .ok (.iconst 1, 1) := by decide +kernel
theorem d_Socks_add_26 : decode b_Socks_add 26 = .ok (.iadd, 1) := by decide +kernel
theorem d_Socks_add_27 : decode b_Socks_add 27 = .ok (.putfield 18, 3) := by decide +kernel
theorem d_Socks_add_30 : decode b_Socks_add 30 = .ok (.aload_n 0, 1) := by decide +kernel
theorem d_Socks_add_31 : decode b_Socks_add 31 = .ok (.getfield 18, 3) := by decide +kernel
theorem d_Socks_add_34 : decode b_Socks_add 34 = .ok (.iconst 1, 1) := by decide +kernel
theorem d_Socks_add_35 : decode b_Socks_add 35 = .ok (.isub, 1) := by decide +kernel
theorem d_Socks_add_36 : decode b_Socks_add 36 = .ok (.ireturn, 1) := by decide +kernel
theorem d_Top_body_0 : decode b_Top_body 0 = .ok (.iload_n 1, 1) := by decide +kernel
theorem d_Top_body_1 : decode b_Top_body 1 = .ok (.iconst 0, 1) := by decide +kernel
theorem d_Top_body_2 : decode b_Top_body 2 = .ok (.bipush 7, 2) := by decide +kernel
theorem d_Top_body_4 : decode b_Top_body 4 = .ok (.invokestatic 108, 3) := by decide +kernel
theorem d_Top_body_7 : decode b_Top_body 7 = .ok (.ifCond .ne 5, 3) := by decide +kernel
theorem d_Top_body_10 : decode b_Top_body 10 = .ok (.iconst (-1), 1) := by decide +kernel
theorem d_Top_body_11 : decode b_Top_body 11 = .ok (.ireturn, 1) := by decide +kernel
theorem d_Top_body_12 : decode b_Top_body 12 = .ok (.aload_n 0, 1) := by decide +kernel
theorem d_Top_body_13 : decode b_Top_body 13 = .ok (.getfield 81, 3) := by decide +kernel
theorem d_Top_body_16 : decode b_Top_body 16 = .ok (.invokevirtual 334, 3) := by decide +kernel
theorem d_Top_body_19 : decode b_Top_body 19 = .ok (.ifCond .eq 8, 3) := by decide +kernel
theorem d_Top_body_22 : decode b_Top_body 22 = .ok (.bipush (-3), 2) := by decide +kernel
theorem d_Top_body_24 : decode b_Top_body 24 = .ok (.goto 11, 3) := by decide +kernel
theorem d_Top_body_27 : decode b_Top_body 27 = .ok (.aload_n 0, 1) := by decide +kernel
theorem d_Top_body_28 : decode b_Top_body 28 = .ok (.getfield 81, 3) := by decide +kernel
theorem d_Top_body_31 : decode b_Top_body 31 = .ok (.iload_n 1, 1) := by decide +kernel
theorem d_Top_body_32 : decode b_Top_body 32 = .ok (.invokevirtual 335, 3) := by decide +kernel
theorem d_Top_body_35 : decode b_Top_body 35 = .ok (.ireturn, 1) := by decide +kernel
theorem d_Top_isHeatAndTint_0 : decode b_Top_isHeatAndTint 0 = .ok (.iload_n 0, 1) := by decide +kernel
theorem d_Top_isHeatAndTint_1 : decode b_Top_isHeatAndTint 1 = .ok (.bipush 100, 2) := by decide +kernel
theorem d_Top_isHeatAndTint_3 : decode b_Top_isHeatAndTint 3 = .ok (.idiv, 1) := by decide +kernel
theorem d_Top_isHeatAndTint_4 : decode b_Top_isHeatAndTint 4 = .ok (.invokestatic 154, 3) := by decide +kernel
theorem d_Top_isHeatAndTint_7 : decode b_Top_isHeatAndTint 7 = .ok (.ireturn, 1) := by decide +kernel
theorem d_Top_isSet_0 : decode b_Top_isSet 0 = .ok (.iload_n 1, 1) := by decide +kernel
theorem d_Top_isSet_1 : decode b_Top_isSet 1 = .ok (.aload_n 0, 1) := by decide +kernel
theorem d_Top_isSet_2 : decode b_Top_isSet 2 = .ok (.getfield 10, 3) := by decide +kernel
theorem d_Top_isSet_5 : decode b_Top_isSet 5 = .ok (.getfield 198, 3) := by decide +kernel
theorem d_Top_isSet_8 : decode b_Top_isSet 8 = .ok (.iushr, 1) := by decide +kernel
theorem d_Top_isSet_9 : decode b_Top_isSet 9 = .ok (.ifCond .ne 7, 3) := by decide +kernel
theorem d_Top_isSet_12 : decode b_Top_isSet 12 = .ok (.iconst 1, 1) := by decide +kernel
theorem d_Top_isSet_13 : decode b_Top_isSet 13 = .ok (.goto 4, 3) := by decide +kernel
theorem d_Top_isSet_16 : decode b_Top_isSet 16 = .ok (.iconst 0, 1) := by decide +kernel
theorem d_Top_isSet_17 : decode b_Top_isSet 17 = .ok (.ireturn, 1) := by decide +kernel
theorem d_Basket_toldOfHouse_0 : decode b_Basket_toldOfHouse 0 = .ok (.bipush 80, 2) := by decide +kernel
theorem d_Basket_toldOfHouse_2 : decode b_Basket_toldOfHouse 2 = .ok (.iload_n 1, 1) := by decide +kernel
theorem d_Basket_toldOfHouse_3 : decode b_Basket_toldOfHouse 3 = .ok (.iadd, 1) := by decide +kernel
theorem d_Basket_toldOfHouse_4 : decode b_Basket_toldOfHouse 4 = .ok (.bipush 8, 2) := by decide +kernel
theorem d_Basket_toldOfHouse_6 : decode b_Basket_toldOfHouse 6 = .ok (.isub, 1) := by decide +kernel
theorem d_Basket_toldOfHouse_7 : decode b_Basket_toldOfHouse 7 = .ok (.istore_n 2, 1) := by decide +kernel
theorem d_Basket_toldOfHouse_8 : decode b_Basket_toldOfHouse 8 = .ok (.iload_n 2, 1) := by decide +kernel
theorem d_Basket_toldOfHouse_9 : decode b_Basket_toldOfHouse 9 = .ok (.bipush 80, 2) := by decide +kernel
theorem d_Basket_toldOfHouse_11 : decode b_Basket_toldOfHouse 11 = .ok (.if_icmp .lt 21, 3) := by decide +kernel
theorem d_Basket_toldOfHouse_14 : decode b_Basket_toldOfHouse 14 = .ok (.iload_n 2, 1) := by decide +kernel
theorem d_Basket_toldOfHouse_15 : decode b_Basket_toldOfHouse 15 = .ok (.aload_n 0, 1) := by decide +kernel
theorem d_Basket_toldOfHouse_16 : decode b_Basket_toldOfHouse 16 = .ok (.getfield 11, 3) := by decide +kernel
theorem d_Basket_toldOfHouse_19 : decode b_Basket_toldOfHouse 19 = .ok (.arraylength, 1) := by decide +kernel
theorem d_Basket_toldOfHouse_20 : decode b_Basket_toldOfHouse 20 = .ok (.if_icmp .ge 12, 3) := by decide +kernel
theorem d_Basket_toldOfHouse_23 : decode b_Basket_toldOfHouse 23 = .ok (.aload_n 0, 1) := by decide +kernel
theorem d_Basket_toldOfHouse_24 : decode b_Basket_toldOfHouse 24 = .ok (.getfield 11, 3) := by decide +kernel
theorem d_Basket_toldOfHouse_27 : decode b_Basket_toldOfHouse 27 = .ok (.iload_n 2, 1) := by decide +kernel
theorem d_Basket_toldOfHouse_28 : decode b_Basket_toldOfHouse 28 = .ok (.iaload, 1) := by decide +kernel
theorem d_Basket_toldOfHouse_29 : decode b_Basket_toldOfHouse 29 = .ok (.goto 4, 3) := by decide +kernel
theorem d_Basket_toldOfHouse_32 : decode b_Basket_toldOfHouse 32 = .ok (.iconst 0, 1) := by decide +kernel
theorem d_Basket_toldOfHouse_33 : decode b_Basket_toldOfHouse 33 = .ok (.ireturn, 1) := by decide +kernel
theorem d_Tub_caughtBy_0 : decode b_Tub_caughtBy 0 = .ok (.iload_n 1, 1) := by decide +kernel
theorem d_Tub_caughtBy_1 : decode b_Tub_caughtBy 1 = .ok (.aload_n 0, 1) := by decide +kernel
theorem d_Tub_caughtBy_2 : decode b_Tub_caughtBy 2 = .ok (.getfield 19, 3) := by decide +kernel
theorem d_Tub_caughtBy_5 : decode b_Tub_caughtBy 5 = .ok (.bipush 9, 2) := by decide +kernel
theorem d_Tub_caughtBy_7 : decode b_Tub_caughtBy 7 = .ok (.invokevirtual 78, 3) := by decide +kernel
theorem d_Tub_caughtBy_10 : decode b_Tub_caughtBy 10 = .ok (.imul, 1) := by decide +kernel
theorem d_Tub_caughtBy_11 : decode b_Tub_caughtBy 11 = .ok (.ireturn, 1) := by decide +kernel
theorem d_Top_isOf_0 : decode b_Top_isOf 0 = .ok (.iload_n 1, 1) := by decide +kernel
theorem d_Top_isOf_1 : decode b_Top_isOf 1 = .ok (.iconst 0, 1) := by decide +kernel
theorem d_Top_isOf_2 : decode b_Top_isOf 2 = .ok (.bipush 9, 2) := by decide +kernel
theorem d_Top_isOf_4 : decode b_Top_isOf 4 = .ok (.invokestatic 108, 3) := by decide +kernel
theorem d_Top_isOf_7 : decode b_Top_isOf 7 = .ok (.ifCond .eq 16, 3) := by decide +kernel
theorem d_Top_isOf_10 : decode b_Top_isOf 10 = .ok (.iload_n 0, 1) := by decide +kernel
theorem d_Top_isOf_11 : decode b_Top_isOf 11 = .ok (.iload_n 1, 1) := by decide +kernel
theorem d_Top_isOf_12 : decode b_Top_isOf 12 = .ok (.iushr, 1) := by decide +kernel
theorem d_Top_isOf_13 : decode b_Top_isOf 13 = .ok (.iconst 1, 1) := by decide +kernel
theorem d_Top_isOf_14 : decode b_Top_isOf 14 = .ok (.iand, 1) := by decide +kernel
theorem d_Top_isOf_15 : decode b_Top_isOf 15 = .ok (.iconst 1, 1) := by decide +kernel
theorem d_Top_isOf_16 : decode b_Top_isOf 16 = .ok (.if_icmp .ne 7, 3) := by decide +kernel
theorem d_Top_isOf_19 : decode b_Top_isOf 19 = .ok (.iconst 1, 1) := by decide +kernel
theorem d_Top_isOf_20 : decode b_Top_isOf 20 = .ok (.goto 4, 3) := by decide +kernel
theorem d_Top_isOf_23 : decode b_Top_isOf 23 = .ok (.iconst 0, 1) := by decide +kernel
theorem d_Top_isOf_24 : decode b_Top_isOf 24 = .ok (.ireturn, 1) := by decide +kernel
theorem d_Tub_fill_0 : decode b_Tub_fill 0 = .ok (.aload_n 0, 1) := by decide +kernel
theorem d_Tub_fill_1 : decode b_Tub_fill 1 = .ok (.iload_n 1, 1) := by decide +kernel
theorem d_Tub_fill_2 : decode b_Tub_fill 2 = .ok (.putfield 81, 3) := by decide +kernel
theorem d_Tub_fill_5 : decode b_Tub_fill 5 = .ok (.iconst 0, 1) := by decide +kernel
theorem d_Tub_fill_6 : decode b_Tub_fill 6 = .ok (.istore_n 3, 1) := by decide +kernel
theorem d_Tub_fill_7 : decode b_Tub_fill 7 = .ok (.iconst 0, 1) := by decide +kernel
theorem d_Tub_fill_8 : decode b_Tub_fill 8 = .ok (.istore 4, 2) := by decide +kernel
theorem d_Tub_fill_10 : decode b_Tub_fill 10 = .ok (.iload 4, 2) := by decide +kernel
theorem d_Tub_fill_12 : decode b_Tub_fill 12 = .ok (.aload_n 0, 1) := by decide +kernel
theorem d_Tub_fill_13 : decode b_Tub_fill 13 = .ok (.getfield 19, 3) := by decide +kernel
theorem d_Tub_fill_16 : decode b_Tub_fill 16 = .ok (.getfield 59, 3) := by decide +kernel
theorem d_Tub_fill_19 : decode b_Tub_fill 19 = .ok (.if_icmp .ge 32, 3) := by decide +kernel
theorem d_Tub_fill_22 : decode b_Tub_fill 22 = .ok (.iload_n 3, 1) := by decide +kernel
theorem d_Tub_fill_23 : decode b_Tub_fill 23 = .ok (.iload_n 1, 1) := by decide +kernel
theorem d_Tub_fill_24 : decode b_Tub_fill 24 = .ok (.iload 4, 2) := by decide +kernel
theorem d_Tub_fill_26 : decode b_Tub_fill 26 = .ok (.invokestatic 84, 3) := by decide +kernel
theorem d_Tub_fill_29 : decode b_Tub_fill 29 = .ok (.ifCond .eq 13, 3) := by decide +kernel
theorem d_Tub_fill_32 : decode b_Tub_fill 32 = .ok (.aload_n 0, 1) := by decide +kernel
theorem d_Tub_fill_33 : decode b_Tub_fill 33 = .ok (.getfield 9, 3) := by decide +kernel
theorem d_Tub_fill_36 : decode b_Tub_fill 36 = .ok (.iload 4, 2) := by decide +kernel
theorem d_Tub_fill_38 : decode b_Tub_fill 38 = .ok (.iaload, 1) := by decide +kernel
theorem d_Tub_fill_39 : decode b_Tub_fill 39 = .ok (.goto 4, 3) := by decide +kernel
theorem d_Tub_fill_42 : decode b_Tub_fill 42 = .ok (.iconst 0, 1) := by decide +kernel
theorem d_Tub_fill_43 : decode b_Tub_fill 43 = .ok (.iadd, 1) := by decide +kernel
theorem d_Tub_fill_44 : decode b_Tub_fill 44 = .ok (.istore_n 3, 1) := by decide +kernel
theorem d_Tub_fill_45 : decode b_Tub_fill 45 = .ok (.iinc 4 1, 3) := by decide +kernel
theorem d_Tub_fill_48 : decode b_Tub_fill 48 = .ok (.goto (-38), 3) := by decide +kernel
theorem d_Tub_fill_51 : decode b_Tub_fill 51 = .ok (.aload_n 0, 1) := by decide +kernel
theorem d_Tub_fill_52 : decode b_Tub_fill 52 = .ok (.iconst 0, 1) := by decide +kernel
theorem d_Tub_fill_53 : decode b_Tub_fill 53 = .ok (.iload_n 3, 1) := by decide +kernel
theorem d_Tub_fill_54 : decode b_Tub_fill 54 = .ok (.iload_n 2, 1) := by decide +kernel
theorem d_Tub_fill_55 : decode b_Tub_fill 55 = .ok (.isub, 1) := by decide +kernel
theorem d_Tub_fill_56 : decode b_Tub_fill 56 = .ok (.invokestatic 43, 3) := by decide +kernel
theorem d_Tub_fill_59 : decode b_Tub_fill 59 = .ok (.putfield 88, 3) := by decide +kernel
theorem d_Tub_fill_62 : decode b_Tub_fill 62 = .ok (.return_, 1) := by decide +kernel
theorem d_Tub_mayGo_0 : decode b_Tub_mayGo 0 = .ok (.iconst 0, 1) := by decide +kernel
theorem d_Tub_mayGo_1 : decode b_Tub_mayGo 1 = .ok (.istore_n 2, 1) := by decide +kernel
theorem d_Tub_mayGo_2 : decode b_Tub_mayGo 2 = .ok (.iconst 0, 1) := by decide +kernel
theorem d_Tub_mayGo_3 : decode b_Tub_mayGo 3 = .ok (.istore_n 3, 1) := by decide +kernel
theorem d_Tub_mayGo_4 : decode b_Tub_mayGo 4 = .ok (.iload_n 3, 1) := by decide +kernel
theorem d_Tub_mayGo_5 : decode b_Tub_mayGo 5 = .ok (.aload_n 0, 1) := by decide +kernel
theorem d_Tub_mayGo_6 : decode b_Tub_mayGo 6 = .ok (.getfield 19, 3) := by decide +kernel
theorem d_Tub_mayGo_9 : decode b_Tub_mayGo 9 = .ok (.getfield 59, 3) := by decide +kernel
theorem d_Tub_mayGo_12 : decode b_Tub_mayGo 12 = .ok (.if_icmp .ge 43, 3) := by decide +kernel
theorem d_Tub_mayGo_15 : decode b_Tub_mayGo 15 = .ok (.iload_n 1, 1) := by decide +kernel
theorem d_Tub_mayGo_16 : decode b_Tub_mayGo 16 = .ok (.iload_n 3, 1) := by decide +kernel
theorem d_Tub_mayGo_17 : decode b_Tub_mayGo 17 = .ok (.invokestatic 84, 3) := by decide +kernel
theorem d_Tub_mayGo_20 : decode b_Tub_mayGo 20 = .ok (.ifCond .eq 29, 3) := by decide +kernel
theorem d_Tub_mayGo_23 : decode b_Tub_mayGo 23 = .ok (.aload_n 0, 1) := by decide +kernel
theorem d_Tub_mayGo_24 : decode b_Tub_mayGo 24 = .ok (.getfield 19, 3) := by decide +kernel
theorem d_Tub_mayGo_27 : decode b_Tub_mayGo 27 = .ok (.getfield 97, 3) := by decide +kernel
theorem d_Tub_mayGo_30 : decode b_Tub_mayGo 30 = .ok (.iload_n 3, 1) := by decide +kernel
theorem d_Tub_mayGo_31 : decode b_Tub_mayGo 31 = .ok (.baload, 1) := by decide +kernel
theorem d_Tub_mayGo_32 : decode b_Tub_mayGo 32 = .ok (.ifCond .eq 5, 3) := by decide +kernel
theorem d_Tub_mayGo_35 : decode b_Tub_mayGo 35 = .ok (.iconst 0, 1) := by decide +kernel
theorem d_Tub_mayGo_36 : decode b_Tub_mayGo 36 = .ok (.ireturn, 1) := by decide +kernel
theorem d_Tub_mayGo_37 : decode b_Tub_mayGo 37 = .ok (.iload_n 2, 1) := by decide +kernel
theorem d_Tub_mayGo_38 : decode b_Tub_mayGo 38 = .ok (.aload_n 0, 1) := by decide +kernel
theorem d_Tub_mayGo_39 : decode b_Tub_mayGo 39 = .ok (.getfield 19, 3) := by decide +kernel
theorem d_Tub_mayGo_42 : decode b_Tub_mayGo 42 = .ok (.iload_n 3, 1) := by decide +kernel
theorem d_Tub_mayGo_43 : decode b_Tub_mayGo 43 = .ok (.iconst 4, 1) := by decide +kernel
theorem d_Tub_mayGo_44 : decode b_Tub_mayGo 44 = .ok (.invokevirtual 29, 3) := by decide +kernel
theorem d_Tub_mayGo_47 : decode b_Tub_mayGo 47 = .ok (.iadd, 1) := by decide +kernel
theorem d_Tub_mayGo_48 : decode b_Tub_mayGo 48 = .ok (.istore_n 2, 1) := by decide +kernel
theorem d_Tub_mayGo_49 : decode b_Tub_mayGo 49 = .ok (.iinc 3 1, 3) := by decide +kernel
theorem d_Tub_mayGo_52 : decode b_Tub_mayGo 52 = .ok (.goto (-48), 3) := by decide +kernel
theorem d_Tub_mayGo_55 : decode b_Tub_mayGo 55 = .ok (.iload_n 2, 1) := by decide +kernel
theorem d_Tub_mayGo_56 : decode b_Tub_mayGo 56 = .ok (.aload_n 0, 1) := by decide +kernel
theorem d_Tub_mayGo_57 : decode b_Tub_mayGo 57 = .ok (.getfield 19, 3) := by decide +kernel
theorem d_Tub_mayGo_60 : decode b_Tub_mayGo 60 = .ok (.bipush 8, 2) := by decide +kernel
theorem d_Tub_mayGo_62 : decode b_Tub_mayGo 62 = .ok (.invokevirtual 78, 3) := by decide +kernel
theorem d_Tub_mayGo_65 : decode b_Tub_mayGo 65 = .ok (.if_icmp .gt 7, 3) := by decide +kernel
theorem d_Tub_mayGo_68 : decode b_Tub_mayGo 68 = .ok (.iconst 1, 1) := by decide +kernel
theorem d_Tub_mayGo_69 : decode b_Tub_mayGo 69 = .ok (.goto 4, 3) := by decide +kernel
theorem d_Tub_mayGo_72 : decode b_Tub_mayGo 72 = .ok (.iconst 0, 1) := by decide +kernel
theorem d_Tub_mayGo_73 : decode b_Tub_mayGo 73 = .ok (.ireturn, 1) := by decide +kernel
theorem d_Tub_goes_0 : decode b_Tub_goes 0 = .ok (.aload_n 0, 1) := by decide +kernel
theorem d_Tub_goes_1 : decode b_Tub_goes 1 = .ok (.aload_n 0, 1) := by decide +kernel
theorem d_Tub_goes_2 : decode b_Tub_goes 2 = .ok (.getfield 81, 3) := by decide +kernel
theorem d_Tub_goes_5 : decode b_Tub_goes 5 = .ok (.invokevirtual 94, 3) := by decide +kernel
theorem d_Tub_goes_8 : decode b_Tub_goes 8 = .ok (.ireturn, 1) := by decide +kernel
theorem d_Tub_spoilt_0 : decode b_Tub_spoilt 0 = .ok (.iconst 0, 1) := by decide +kernel
theorem d_Tub_spoilt_1 : decode b_Tub_spoilt 1 = .ok (.istore_n 1, 1) := by decide +kernel
theorem d_Tub_spoilt_2 : decode b_Tub_spoilt 2 = .ok (.iconst 0, 1) := by decide +kernel
theorem d_Tub_spoilt_3 : decode b_Tub_spoilt 3 = .ok (.istore_n 2, 1) := by decide +kernel
theorem d_Tub_spoilt_4 : decode b_Tub_spoilt 4 = .ok (.iload_n 2, 1) := by decide +kernel
theorem d_Tub_spoilt_5 : decode b_Tub_spoilt 5 = .ok (.aload_n 0, 1) := by decide +kernel
theorem d_Tub_spoilt_6 : decode b_Tub_spoilt 6 = .ok (.getfield 19, 3) := by decide +kernel
theorem d_Tub_spoilt_9 : decode b_Tub_spoilt 9 = .ok (.getfield 59, 3) := by decide +kernel
theorem d_Tub_spoilt_12 : decode b_Tub_spoilt 12 = .ok (.if_icmp .ge 42, 3) := by decide +kernel
theorem d_Tub_spoilt_15 : decode b_Tub_spoilt 15 = .ok (.aload_n 0, 1) := by decide +kernel
theorem d_Tub_spoilt_16 : decode b_Tub_spoilt 16 = .ok (.getfield 81, 3) := by decide +kernel
theorem d_Tub_spoilt_19 : decode b_Tub_spoilt 19 = .ok (.iload_n 2, 1) := by decide +kernel
theorem d_Tub_spoilt_20 : decode b_Tub_spoilt 20 = .ok (.invokestatic 84, 3) := by decide +kernel
theorem d_Tub_spoilt_23 : decode b_Tub_spoilt 23 = .ok (.ifCond .eq 25, 3) := by decide +kernel
theorem d_Tub_spoilt_26 : decode b_Tub_spoilt 26 = .ok (.aload_n 0, 1) := by decide +kernel
theorem d_Tub_spoilt_27 : decode b_Tub_spoilt 27 = .ok (.getfield 15, 3) := by decide +kernel
theorem d_Tub_spoilt_30 : decode b_Tub_spoilt 30 = .ok (.aload_n 0, 1) := by decide +kernel
theorem d_Tub_spoilt_31 : decode b_Tub_spoilt 31 = .ok (.getfield 19, 3) := by decide +kernel
theorem d_Tub_spoilt_34 : decode b_Tub_spoilt 34 = .ok (.iload_n 2, 1) := by decide +kernel
theorem d_Tub_spoilt_35 : decode b_Tub_spoilt 35 = .ok (.iconst 3, 1) := by decide +kernel
theorem d_Tub_spoilt_36 : decode b_Tub_spoilt 36 = .ok (.invokevirtual 29, 3) := by decide +kernel
theorem d_Tub_spoilt_39 : decode b_Tub_spoilt 39 = .ok (.if_icmp .le 9, 3) := by decide +kernel
theorem d_Tub_spoilt_42 : decode b_Tub_spoilt 42 = .ok (.iload_n 1, 1) := by decide +kernel
theorem d_Tub_spoilt_43 : decode b_Tub_spoilt 43 = .ok (.iconst 1, 1) := by decide +kernel
theorem d_Tub_spoilt_44 : decode b_Tub_spoilt 44 = .ok (.iload_n 2, 1) := by decide +kernel
theorem d_Tub_spoilt_45 : decode b_Tub_spoilt 45 = .ok (.ishl, 1) := by decide +kernel
theorem d_Tub_spoilt_46 : decode b_Tub_spoilt 46 = .ok (.ior, 1) := by decide +kernel
theorem d_Tub_spoilt_47 : decode b_Tub_spoilt 47 = .ok (.istore_n 1, 1) := by decide +kernel
theorem d_Tub_spoilt_48 : decode b_Tub_spoilt 48 = .ok (.iinc 2 1, 3) := by decide +kernel
theorem d_Tub_spoilt_51 : decode b_Tub_spoilt 51 = .ok (.goto (-47), 3) := by decide +kernel
theorem d_Tub_spoilt_54 : decode b_Tub_spoilt 54 = .ok (.iload_n 1, 1) := by decide +kernel
theorem d_Tub_spoilt_55 : decode b_Tub_spoilt 55 = .ok (.ireturn, 1) := by decide +kernel
theorem d_Tub_tintOf_0 : decode b_Tub_tintOf 0 = .ok (.aload_n 0, 1) := by decide +kernel
theorem d_Tub_tintOf_1 : decode b_Tub_tintOf 1 = .ok (.getfield 19, 3) := by decide +kernel
theorem d_Tub_tintOf_4 : decode b_Tub_tintOf 4 = .ok (.iload_n 1, 1) := by decide +kernel
theorem d_Tub_tintOf_5 : decode b_Tub_tintOf 5 = .ok (.invokevirtual 62, 3) := by decide +kernel
theorem d_Tub_tintOf_8 : decode b_Tub_tintOf 8 = .ok (.ifCond .ne 5, 3) := by decide +kernel
theorem d_Tub_tintOf_11 : decode b_Tub_tintOf 11 = .ok (.iconst 0, 1) := by decide +kernel
theorem d_Tub_tintOf_12 : decode b_Tub_tintOf 12 = .ok (.ireturn, 1) := by decide +kernel
theorem d_Tub_tintOf_13 : decode b_Tub_tintOf 13 = .ok (.iconst 0, 1) := by decide +kernel
theorem d_Tub_tintOf_14 : decode b_Tub_tintOf 14 = .ok (.aload_n 0, 1) := by decide +kernel
theorem d_Tub_tintOf_15 : decode b_Tub_tintOf 15 = .ok (.getfield 88, 3) := by decide +kernel
theorem d_Tub_tintOf_18 : decode b_Tub_tintOf 18 = .ok (.aload_n 0, 1) := by decide +kernel
theorem d_Tub_tintOf_19 : decode b_Tub_tintOf 19 = .ok (.getfield 9, 3) := by decide +kernel
theorem d_Tub_tintOf_22 : decode b_Tub_tintOf 22 = .ok (.iload_n 1, 1) := by decide +kernel
theorem d_Tub_tintOf_23 : decode b_Tub_tintOf 23 = .ok (.iaload, 1) := by decide +kernel
theorem d_Tub_tintOf_24 : decode b_Tub_tintOf 24 = .ok (.isub, 1) := by decide +kernel
theorem d_Tub_tintOf_25 : decode b_Tub_tintOf 25 = .ok (.invokestatic 43, 3) := by decide +kernel
theorem d_Tub_tintOf_28 : decode b_Tub_tintOf 28 = .ok (.istore_n 2, 1) := by decide +kernel
theorem d_Tub_tintOf_29 : decode b_Tub_tintOf 29 = .ok (.aload_n 0, 1) := by decide +kernel
theorem d_Tub_tintOf_30 : decode b_Tub_tintOf 30 = .ok (.getfield 19, 3) := by decide +kernel
theorem d_Tub_tintOf_33 : decode b_Tub_tintOf 33 = .ok (.iload_n 1, 1) := by decide +kernel
theorem d_Tub_tintOf_34 : decode b_Tub_tintOf 34 = .ok (.iconst 0, 1) := by decide +kernel
theorem d_Tub_tintOf_35 : decode b_Tub_tintOf 35 = .ok (.invokevirtual 29, 3) := by decide +kernel
theorem d_Tub_tintOf_38 : decode b_Tub_tintOf 38 = .ok (.tableswitch 37 0 2 #[26, 28, 32], 26) := by decide +kernel
theorem d_Tub_tintOf_64 : decode b_Tub_tintOf 64 = .ok (.iload_n 2, 1) := by decide +kernel
theorem d_Tub_tintOf_65 : decode b_Tub_tintOf 65 = .ok (.ireturn, 1) := by decide +kernel
theorem d_Tub_tintOf_66 : decode b_Tub_tintOf 66 = .ok (.iload_n 2, 1) := by decide +kernel
theorem d_Tub_tintOf_67 : decode b_Tub_tintOf 67 = .ok (.iconst 2, 1) := by decide +kernel
theorem d_Tub_tintOf_68 : decode b_Tub_tintOf 68 = .ok (.idiv, 1) := by decide +kernel
theorem d_Tub_tintOf_69 : decode b_Tub_tintOf 69 = .ok (.ireturn, 1) := by decide +kernel
theorem d_Tub_tintOf_70 : decode b_Tub_tintOf 70 = .ok (.iload_n 2, 1) := by decide +kernel
theorem d_Tub_tintOf_71 : decode b_Tub_tintOf 71 = .ok (.bipush 10, 2) := by decide +kernel
theorem d_Tub_tintOf_73 : decode b_Tub_tintOf 73 = .ok (.idiv, 1) := by decide +kernel
theorem d_Tub_tintOf_74 : decode b_Tub_tintOf 74 = .ok (.ireturn, 1) := by decide +kernel
theorem d_Tub_tintOf_75 : decode b_Tub_tintOf 75 = .ok (.iconst 0, 1) := by decide +kernel
theorem d_Tub_tintOf_76 : decode b_Tub_tintOf 76 = .ok (.ireturn, 1) := by decide +kernel
theorem d_Tub_isSafe_0 : decode b_Tub_isSafe 0 = .ok (.aload_n 0, 1) := by decide +kernel
theorem d_Tub_isSafe_1 : decode b_Tub_isSafe 1 = .ok (.invokevirtual 101, 3) := by decide +kernel
theorem d_Tub_isSafe_4 : decode b_Tub_isSafe 4 = .ok (.ifCond .eq 10, 3) := by decide +kernel
theorem d_Tub_isSafe_7 : decode b_Tub_isSafe 7 = .ok (.aload_n 0, 1) := by decide +kernel
theorem d_Tub_isSafe_8 : decode b_Tub_isSafe 8 = .ok (.invokevirtual 104, 3) := by decide +kernel
theorem d_Tub_isSafe_11 : decode b_Tub_isSafe 11 = .ok (.ifCond .eq 5, 3) := by decide +kernel
theorem d_Tub_isSafe_14 : decode b_Tub_isSafe 14 = .ok (.iconst 0, 1) := by decide +kernel
theorem d_Tub_isSafe_15 : decode b_Tub_isSafe 15 = .ok (.ireturn, 1) := by decide +kernel
theorem d_Tub_isSafe_16 : decode b_Tub_isSafe 16 = .ok (.iconst 0, 1) := by decide +kernel
theorem d_Tub_isSafe_17 : decode b_Tub_isSafe 17 = .ok (.istore_n 2, 1) := by decide +kernel
theorem d_Tub_isSafe_18 : decode b_Tub_isSafe 18 = .ok (.iload_n 2, 1) := by decide +kernel
theorem d_Tub_isSafe_19 : decode b_Tub_isSafe 19 = .ok (.aload_n 0, 1) := by decide +kernel
theorem d_Tub_isSafe_20 : decode b_Tub_isSafe 20 = .ok (.getfield 19, 3) := by decide +kernel
theorem d_Tub_isSafe_23 : decode b_Tub_isSafe 23 = .ok (.getfield 59, 3) := by decide +kernel
theorem d_Tub_isSafe_26 : decode b_Tub_isSafe 26 = .ok (.if_icmp .ge 31, 3) := by decide +kernel
theorem d_Tub_isSafe_29 : decode b_Tub_isSafe 29 = .ok (.aload_n 0, 1) := by decide +kernel
theorem d_Tub_isSafe_30 : decode b_Tub_isSafe 30 = .ok (.getfield 81, 3) := by decide +kernel
theorem d_Tub_isSafe_33 : decode b_Tub_isSafe 33 = .ok (.iload_n 2, 1) := by decide +kernel
theorem d_Tub_isSafe_34 : decode b_Tub_isSafe 34 = .ok (.invokestatic 84, 3) := by decide +kernel
theorem d_Tub_isSafe_37 : decode b_Tub_isSafe 37 = .ok (.ifCond .eq 14, 3) := by decide +kernel
theorem d_Tub_isSafe_40 : decode b_Tub_isSafe 40 = .ok (.aload_n 0, 1) := by decide +kernel
theorem d_Tub_isSafe_41 : decode b_Tub_isSafe 41 = .ok (.iload_n 2, 1) := by decide +kernel
theorem d_Tub_isSafe_42 : decode b_Tub_isSafe 42 = .ok (.invokevirtual 91, 3) := by decide +kernel
theorem d_Tub_isSafe_45 : decode b_Tub_isSafe 45 = .ok (.iload_n 1, 1) := by decide +kernel
theorem d_Tub_isSafe_46 : decode b_Tub_isSafe 46 = .ok (.if_icmp .le 5, 3) := by decide +kernel
theorem d_Tub_isSafe_49 : decode b_Tub_isSafe 49 = .ok (.iconst 0, 1) := by decide +kernel
theorem d_Tub_isSafe_50 : decode b_Tub_isSafe 50 = .ok (.ireturn, 1) := by decide +kernel
theorem d_Tub_isSafe_51 : decode b_Tub_isSafe 51 = .ok (.iinc 2 1, 3) := by decide +kernel
theorem d_Tub_isSafe_54 : decode b_Tub_isSafe 54 = .ok (.goto (-36), 3) := by decide +kernel
theorem d_Tub_isSafe_57 : decode b_Tub_isSafe 57 = .ok (.iconst 1, 1) := by decide +kernel
theorem d_Tub_isSafe_58 : decode b_Tub_isSafe 58 = .ok (.ireturn, 1) := by decide +kernel
theorem d_Tub_warm_0 : decode b_Tub_warm 0 = .ok (.aload_n 0, 1) := by decide +kernel
theorem d_Tub_warm_1 : decode b_Tub_warm 1 = .ok (.iload_n 1, 1) := by decide +kernel
theorem d_Tub_warm_2 : decode b_Tub_warm 2 = .ok (.putfield 15, 3) := by decide +kernel
theorem d_Tub_warm_5 : decode b_Tub_warm 5 = .ok (.iconst 0, 1) := by decide +kernel
theorem d_Tub_warm_6 : decode b_Tub_warm 6 = .ok (.istore_n 2, 1) := by decide +kernel
theorem d_Tub_warm_7 : decode b_Tub_warm 7 = .ok (.iload_n 2, 1) := by decide +kernel
theorem d_Tub_warm_8 : decode b_Tub_warm 8 = .ok (.aload_n 0, 1) := by decide +kernel
theorem d_Tub_warm_9 : decode b_Tub_warm 9 = .ok (.getfield 19, 3) := by decide +kernel
theorem d_Tub_warm_12 : decode b_Tub_warm 12 = .ok (.getfield 59, 3) := by decide +kernel
theorem d_Tub_warm_15 : decode b_Tub_warm 15 = .ok (.if_icmp .ge 39, 3) := by decide +kernel
theorem d_Tub_warm_18 : decode b_Tub_warm 18 = .ok (.aload_n 0, 1) := by decide +kernel
theorem d_Tub_warm_19 : decode b_Tub_warm 19 = .ok (.getfield 9, 3) := by decide +kernel
theorem d_Tub_warm_22 : decode b_Tub_warm 22 = .ok (.iload_n 2, 1) := by decide +kernel
theorem d_Tub_warm_23 : decode b_Tub_warm 23 = .ok (.aload_n 0, 1) := by decide +kernel
theorem d_Tub_warm_24 : decode b_Tub_warm 24 = .ok (.iload_n 2, 1) := by decide +kernel
theorem d_Tub_warm_25 : decode b_Tub_warm 25 = .ok (.aload_n 0, 1) := by decide +kernel
theorem d_Tub_warm_26 : decode b_Tub_warm 26 = .ok (.getfield 19, 3) := by decide +kernel
theorem d_Tub_warm_29 : decode b_Tub_warm 29 = .ok (.iload_n 2, 1) := by decide +kernel
theorem d_Tub_warm_30 : decode b_Tub_warm 30 = .ok (.iconst 1, 1) := by decide +kernel
theorem d_Tub_warm_31 : decode b_Tub_warm 31 = .ok (.invokevirtual 29, 3) := by decide +kernel
theorem d_Tub_warm_34 : decode b_Tub_warm 34 = .ok (.aload_n 0, 1) := by decide +kernel
theorem d_Tub_warm_35 : decode b_Tub_warm 35 = .ok (.getfield 19, 3) := by decide +kernel
theorem d_Tub_warm_38 : decode b_Tub_warm 38 = .ok (.iload_n 2, 1) := by decide +kernel
theorem d_Tub_warm_39 : decode b_Tub_warm 39 = .ok (.iconst 2, 1) := by decide +kernel
theorem d_Tub_warm_40 : decode b_Tub_warm 40 = .ok (.invokevirtual 29, 3) := by decide +kernel
theorem d_Tub_warm_43 : decode b_Tub_warm 43 = .ok (.iload_n 1, 1) := by decide +kernel
theorem d_Tub_warm_44 : decode b_Tub_warm 44 = .ok (.invokevirtual 33, 3) := by decide +kernel
theorem d_Tub_warm_47 : decode b_Tub_warm 47 = .ok (.iastore, 1) := by decide +kernel
theorem d_Tub_warm_48 : decode b_Tub_warm 48 = .ok (.iinc 2 1, 3) := by decide +kernel
theorem d_Tub_warm_51 : decode b_Tub_warm 51 = .ok (.goto (-44), 3) := by decide +kernel
theorem d_Tub_warm_54 : decode b_Tub_warm 54 = .ok (.return_, 1) := by decide +kernel
theorem d_Top_cloths_0 : decode b_Top_cloths 0 = .ok (.aload_n 0, 1) := by decide +kernel
theorem d_Top_cloths_1 : decode b_Top_cloths 1 = .ok (.iload_n 1, 1) := by decide +kernel
theorem d_Top_cloths_2 : decode b_Top_cloths 2 = .ok (.invokevirtual 160, 3) := by decide +kernel
theorem d_Top_cloths_5 : decode b_Top_cloths 5 = .ok (.ifCond .eq 10, 3) := by decide +kernel
theorem d_Top_cloths_8 : decode b_Top_cloths 8 = .ok (.iload_n 2, 1) := by decide +kernel
theorem d_Top_cloths_9 : decode b_Top_cloths 9 = .ok (.invokestatic 191, 3) := by decide +kernel
theorem d_Top_cloths_12 : decode b_Top_cloths 12 = .ok (.ifCond .ne 5, 3) := by decide +kernel
theorem d_Top_cloths_15 : decode b_Top_cloths 15 = .ok (.iconst (-1), 1) := by decide +kernel
theorem d_Top_cloths_16 : decode b_Top_cloths 16 = .ok (.ireturn, 1) := by decide +kernel
theorem d_Top_cloths_17 : decode b_Top_cloths 17 = .ok (.aload_n 0, 1) := by decide +kernel
theorem d_Top_cloths_18 : decode b_Top_cloths 18 = .ok (.getfield 35, 3) := by decide +kernel
theorem d_Top_cloths_21 : decode b_Top_cloths 21 = .ok (.iload_n 2, 1) := by decide +kernel
theorem d_Top_cloths_22 : decode b_Top_cloths 22 = .ok (.bipush 100, 2) := by decide +kernel
theorem d_Top_cloths_24 : decode b_Top_cloths 24 = .ok (.idiv, 1) := by decide +kernel
theorem d_Top_cloths_25 : decode b_Top_cloths 25 = .ok (.invokevirtual 194, 3) := by decide +kernel
theorem d_Top_cloths_28 : decode b_Top_cloths 28 = .ok (.iconst 0, 1) := by decide +kernel
theorem d_Top_cloths_29 : decode b_Top_cloths 29 = .ok (.istore_n 3, 1) := by decide +kernel
theorem d_Top_cloths_30 : decode b_Top_cloths 30 = .ok (.iload_n 3, 1) := by decide +kernel
theorem d_Top_cloths_31 : decode b_Top_cloths 31 = .ok (.bipush 9, 2) := by decide +kernel
theorem d_Top_cloths_33 : decode b_Top_cloths 33 = .ok (.if_icmp .gt 41, 3) := by decide +kernel
theorem d_Top_cloths_36 : decode b_Top_cloths 36 = .ok (.aload_n 0, 1) := by decide +kernel
theorem d_Top_cloths_37 : decode b_Top_cloths 37 = .ok (.getfield 35, 3) := by decide +kernel
theorem d_Top_cloths_40 : decode b_Top_cloths 40 = .ok (.iload_n 1, 1) := by decide +kernel
theorem d_Top_cloths_41 : decode b_Top_cloths 41 = .ok (.aload_n 0, 1) := by decide +kernel
theorem d_Top_cloths_42 : decode b_Top_cloths 42 = .ok (.getfield 35, 3) := by decide +kernel
theorem d_Top_cloths_45 : decode b_Top_cloths 45 = .ok (.iload_n 3, 1) := by decide +kernel
theorem d_Top_cloths_46 : decode b_Top_cloths 46 = .ok (.invokevirtual 204, 3) := by decide +kernel
theorem d_Top_cloths_49 : decode b_Top_cloths 49 = .ok (.invokevirtual 201, 3) := by decide +kernel
theorem d_Top_cloths_52 : decode b_Top_cloths 52 = .ok (.aload_n 0, 1) := by decide +kernel
theorem d_Top_cloths_53 : decode b_Top_cloths 53 = .ok (.getfield 35, 3) := by decide +kernel
theorem d_Top_cloths_56 : decode b_Top_cloths 56 = .ok (.iload_n 2, 1) := by decide +kernel
theorem d_Top_cloths_57 : decode b_Top_cloths 57 = .ok (.bipush 100, 2) := by decide +kernel
theorem d_Top_cloths_59 : decode b_Top_cloths 59 = .ok (.irem, 1) := by decide +kernel
theorem d_Top_cloths_60 : decode b_Top_cloths 60 = .ok (.invokevirtual 188, 3) := by decide +kernel
theorem d_Top_cloths_63 : decode b_Top_cloths 63 = .ok (.ifCond .eq 5, 3) := by decide +kernel
theorem d_Top_cloths_66 : decode b_Top_cloths 66 = .ok (.iload_n 3, 1) := by decide +kernel
theorem d_Top_cloths_67 : decode b_Top_cloths 67 = .ok (.ireturn, 1) := by decide +kernel
theorem d_Top_cloths_68 : decode b_Top_cloths 68 = .ok (.iinc 3 1, 3) := by decide +kernel
theorem d_Top_cloths_71 : decode b_Top_cloths 71 = .ok (.goto (-41), 3) := by decide +kernel
theorem d_Top_cloths_74 : decode b_Top_cloths 74 = .ok (.bipush (-2), 2) := by decide +kernel
theorem d_Top_cloths_76 : decode b_Top_cloths 76 = .ok (.ireturn, 1) := by decide +kernel
theorem d_Heaps_part_0 : decode b_Heaps_part 0 = .ok (.iload_n 3, 1) := by decide +kernel
theorem d_Heaps_part_1 : decode b_Heaps_part 1 = .ok (.aload_n 0, 1) := by decide +kernel
theorem d_Heaps_part_2 : decode b_Heaps_part 2 = .ok (.getfield 83, 3) := by decide +kernel
theorem d_Heaps_part_5 : decode b_Heaps_part 5 = .ok (.if_icmp .lt 4, 3) := by decide +kernel
theorem d_Heaps_part_8 : decode b_Heaps_part 8 = .ok (.return_, 1) := by decide +kernel
theorem d_Heaps_part_9 : decode b_Heaps_part 9 = .ok (.iload_n 1, 1) := by decide +kernel
theorem d_Heaps_part_10 : decode b_Heaps_part 10 = .ok (.aload_n 0, 1) := by decide +kernel
theorem d_Heaps_part_11 : decode b_Heaps_part 11 = .ok (.getfield 37, 3) := by decide +kernel
theorem d_Heaps_part_14 : decode b_Heaps_part 14 = .ok (.if_icmp .lt 24, 3) := by decide +kernel
theorem d_Heaps_part_17 : decode b_Heaps_part 17 = .ok (.aload_n 0, 1) := by decide +kernel
theorem d_Heaps_part_18 : decode b_Heaps_part 18 = .ok (.iload_n 3, 1) := by decide +kernel
theorem d_Heaps_part_19 : decode b_Heaps_part 19 = .ok (.putfield 83, 3) := by decide +kernel
theorem d_Heaps_part_22 : decode b_Heaps_part 22 = .ok (.aload_n 0, 1) := by decide +kernel
theorem d_Heaps_part_23 : decode b_Heaps_part 23 = .ok (.getfield 23, 3) := by decide +kernel
theorem d_Heaps_part_26 : decode b_Heaps_part 26 = .ok (.iconst 0, 1) := by decide +kernel
theorem d_Heaps_part_27 : decode b_Heaps_part 27 = .ok (.aload_n 0, 1) := by decide +kernel
theorem d_Heaps_part_28 : decode b_Heaps_part 28 = .ok (.getfield 26, 3) := by decide +kernel
theorem d_Heaps_part_31 : decode b_Heaps_part 31 = .ok (.iconst 0, 1) := by decide +kernel
theorem d_Heaps_part_32 : decode b_Heaps_part 32 = .ok (.bipush 8, 2) := by decide +kernel
theorem d_Heaps_part_34 : decode b_Heaps_part 34 = .ok (.invokestatic 90, 3) := by decide +kernel
theorem d_Heaps_part_37 : decode b_Heaps_part 37 = .ok (.return_, 1) := by decide +kernel
theorem d_Heaps_part_38 : decode b_Heaps_part 38 = .ok (.iconst 0, 1) := by decide +kernel
theorem d_Heaps_part_39 : decode b_Heaps_part 39 = .ok (.istore 4, 2) := by decide +kernel
theorem d_Heaps_part_41 : decode b_Heaps_part 41 = .ok (.iload 4, 2) := by decide +kernel
theorem d_Heaps_part_43 : decode b_Heaps_part 43 = .ok (.iload_n 2, 1) := by decide +kernel
theorem d_Heaps_part_44 : decode b_Heaps_part 44 = .ok (.if_icmp .gt 123, 3) := by decide +kernel
theorem d_Heaps_part_47 : decode b_Heaps_part 47 = .ok (.iload 4, 2) := by decide +kernel
theorem d_Heaps_part_49 : decode b_Heaps_part 49 = .ok (.aload_n 0, 1) := by decide +kernel
theorem d_Heaps_part_50 : decode b_Heaps_part 50 = .ok (.getfield 79, 3) := by decide +kernel
theorem d_Heaps_part_53 : decode b_Heaps_part 53 = .ok (.if_icmp .ge 114, 3) := by decide +kernel
theorem d_Heaps_part_56 : decode b_Heaps_part 56 = .ok (.aload_n 0, 1) := by decide +kernel
theorem d_Heaps_part_57 : decode b_Heaps_part 57 = .ok (.getfield 20, 3) := by decide +kernel
theorem d_Heaps_part_60 : decode b_Heaps_part 60 = .ok (.iload 4, 2) := by decide +kernel
theorem d_Heaps_part_62 : decode b_Heaps_part 62 = .ok (.iaload, 1) := by decide +kernel
theorem d_Heaps_part_63 : decode b_Heaps_part 63 = .ok (.istore 5, 2) := by decide +kernel
theorem d_Heaps_part_65 : decode b_Heaps_part 65 = .ok (.iload 5, 2) := by decide +kernel
theorem d_Heaps_part_67 : decode b_Heaps_part 67 = .ok (.iconst 1, 1) := by decide +kernel
theorem d_Heaps_part_68 : decode b_Heaps_part 68 = .ok (.iload_n 1, 1) := by decide +kernel
theorem d_Heaps_part_69 : decode b_Heaps_part 69 = .ok (.ishl, 1) := by decide +kernel
theorem d_Heaps_part_70 : decode b_Heaps_part 70 = .ok (.ior, 1) := by decide +kernel
theorem d_Heaps_part_71 : decode b_Heaps_part 71 = .ok (.istore 6, 2) := by decide +kernel
theorem d_Heaps_part_73 : decode b_Heaps_part 73 = .ok (.aload_n 0, 1) := by decide +kernel
theorem d_Heaps_part_74 : decode b_Heaps_part 74 = .ok (.getfield 17, 3) := by decide +kernel
theorem d_Heaps_part_77 : decode b_Heaps_part 77 = .ok (.iload 6, 2) := by decide +kernel
theorem d_Heaps_part_79 : decode b_Heaps_part 79 = .ok (.iaload, 1) := by decide +kernel
theorem d_Heaps_part_80 : decode b_Heaps_part 80 = .ok (.iconst (-1), 1) := by decide +kernel
theorem d_Heaps_part_81 : decode b_Heaps_part 81 = .ok (.if_icmp .eq 80, 3) := by decide +kernel
theorem d_Heaps_part_84 : decode b_Heaps_part 84 = .ok (.aload_n 0, 1) := by decide +kernel
theorem d_Heaps_part_85 : decode b_Heaps_part 85 = .ok (.getfield 20, 3) := by decide +kernel
theorem d_Heaps_part_88 : decode b_Heaps_part 88 = .ok (.iload 4, 2) := by decide +kernel
theorem d_Heaps_part_90 : decode b_Heaps_part 90 = .ok (.iload 6, 2) := by decide +kernel
theorem d_Heaps_part_92 : decode b_Heaps_part 92 = .ok (.iastore, 1) := by decide +kernel
theorem d_Heaps_part_93 : decode b_Heaps_part 93 = .ok (.aload_n 0, 1) := by decide +kernel
theorem d_Heaps_part_94 : decode b_Heaps_part 94 = .ok (.getfield 23, 3) := by decide +kernel
theorem d_Heaps_part_97 : decode b_Heaps_part 97 = .ok (.iload_n 1, 1) := by decide +kernel
theorem d_Heaps_part_98 : decode b_Heaps_part 98 = .ok (.iload 4, 2) := by decide +kernel
theorem d_Heaps_part_100 : decode b_Heaps_part 100 = .ok (.iastore, 1) := by decide +kernel
theorem d_Heaps_part_101 : decode b_Heaps_part 101 = .ok (.iload 5, 2) := by decide +kernel
theorem d_Heaps_part_103 : decode b_Heaps_part 103 = .ok (.ifCond .ne 13, 3) := by decide +kernel
theorem d_Heaps_part_106 : decode b_Heaps_part 106 = .ok (.aload_n 0, 1) := by decide +kernel
theorem d_Heaps_part_107 : decode b_Heaps_part 107 = .ok (.getfield 17, 3) := by decide +kernel
theorem d_Heaps_part_110 : decode b_Heaps_part 110 = .ok (.iload 6, 2) := by decide +kernel
theorem d_Heaps_part_112 : decode b_Heaps_part 112 = .ok (.iaload, 1) := by decide +kernel
theorem d_Heaps_part_113 : decode b_Heaps_part 113 = .ok (.goto 18, 3) := by decide +kernel
theorem d_Heaps_part_116 : decode b_Heaps_part 116 = .ok (.aload_n 0, 1) := by decide +kernel
theorem d_Heaps_part_117 : decode b_Heaps_part 117 = .ok (.getfield 17, 3) := by decide +kernel
theorem d_Heaps_part_120 : decode b_Heaps_part 120 = .ok (.iload 6, 2) := by decide +kernel
theorem d_Heaps_part_122 : decode b_Heaps_part 122 = .ok (.iaload, 1) := by decide +kernel
theorem d_Heaps_part_123 : decode b_Heaps_part 123 = .ok (.aload_n 0, 1) := by decide +kernel
theorem d_Heaps_part_124 : decode b_Heaps_part 124 = .ok (.getfield 17, 3) := by decide +kernel
theorem d_Heaps_part_127 : decode b_Heaps_part 127 = .ok (.iload 5, 2) := by decide +kernel
theorem d_Heaps_part_129 : decode b_Heaps_part 129 = .ok (.iaload, 1) := by decide +kernel
theorem d_Heaps_part_130 : decode b_Heaps_part 130 = .ok (.isub, 1) := by decide +kernel
theorem d_Heaps_part_131 : decode b_Heaps_part 131 = .ok (.istore 7, 2) := by decide +kernel
theorem d_Heaps_part_133 : decode b_Heaps_part 133 = .ok (.aload_n 0, 1) := by decide +kernel
theorem d_Heaps_part_134 : decode b_Heaps_part 134 = .ok (.iload_n 1, 1) := by decide +kernel
theorem d_Heaps_part_135 : decode b_Heaps_part 135 = .ok (.iconst 1, 1) := by decide +kernel
theorem d_Heaps_part_136 : decode b_Heaps_part 136 = .ok (.iadd, 1) := by decide +kernel
theorem d_Heaps_part_137 : decode b_Heaps_part 137 = .ok (.iload_n 2, 1) := by decide +kernel
theorem d_Heaps_part_138 : decode b_Heaps_part 138 = .ok (.iload 4, 2) := by decide +kernel
theorem d_Heaps_part_140 : decode b_Heaps_part 140 = .ok (.iconst 1, 1) := by decide +kernel
theorem d_Heaps_part_141 : decode b_Heaps_part 141 = .ok (.iadd, 1) := by decide +kernel
theorem d_Heaps_part_142 : decode b_Heaps_part 142 = .ok (.invokestatic 96, 3) := by decide +kernel
theorem d_Heaps_part_145 : decode b_Heaps_part 145 = .ok (.iload_n 3, 1) := by decide +kernel
theorem d_Heaps_part_146 : decode b_Heaps_part 146 = .ok (.iload 7, 2) := by decide +kernel
theorem d_Heaps_part_148 : decode b_Heaps_part 148 = .ok (.iadd, 1) := by decide +kernel
theorem d_Heaps_part_149 : decode b_Heaps_part 149 = .ok (.invokevirtual 86, 3) := by decide +kernel
theorem d_Heaps_part_152 : decode b_Heaps_part 152 = .ok (.aload_n 0, 1) := by decide +kernel
theorem d_Heaps_part_153 : decode b_Heaps_part 153 = .ok (.getfield 20, 3) := by decide +kernel
theorem d_Heaps_part_156 : decode b_Heaps_part 156 = .ok (.iload 4, 2) := by decide +kernel
theorem d_Heaps_part_158 : decode b_Heaps_part 158 = .ok (.iload 5, 2) := by decide +kernel
theorem d_Heaps_part_160 : decode b_Heaps_part 160 = .ok (.iastore, 1) := by decide +kernel
theorem d_Heaps_part_161 : decode b_Heaps_part 161 = .ok (.iinc 4 1, 3) := by decide +kernel
theorem d_Heaps_part_164 : decode b_Heaps_part 164 = .ok (.goto (-123), 3) := by decide +kernel
theorem d_Heaps_part_167 : decode b_Heaps_part 167 = .ok (.return_, 1) := by decide +kernel
theorem d_Heaps_findsWay_0 : decode b_Heaps_findsWay 0 = .ok (.aload_n 0, 1) := by decide +kernel
theorem d_Heaps_findsWay_1 : decode b_Heaps_findsWay 1 = .ok (.iload_n 1, 1) := by decide +kernel
theorem d_Heaps_findsWay_2 : decode b_Heaps_findsWay 2 = .ok (.bipush 8, 2) := by decide +kernel
theorem d_Heaps_findsWay_4 : decode b_Heaps_findsWay 4 = .ok (.invokestatic 73, 3) := by decide +kernel
theorem d_Heaps_findsWay_7 : decode b_Heaps_findsWay 7 = .ok (.putfield 79, 3) := by decide +kernel
theorem d_Heaps_findsWay_10 : decode b_Heaps_findsWay 10 = .ok (.aload_n 0, 1) := by decide +kernel
theorem d_Heaps_findsWay_11 : decode b_Heaps_findsWay 11 = .ok (.ldc 82, 2) := by decide +kernel
theorem d_Heaps_findsWay_13 : decode b_Heaps_findsWay 13 = .ok (.putfield 83, 3) := by decide +kernel
theorem d_Heaps_findsWay_16 : decode b_Heaps_findsWay 16 = .ok (.iconst 0, 1) := by decide +kernel
theorem d_Heaps_findsWay_17 : decode b_Heaps_findsWay 17 = .ok (.istore_n 2, 1) := by decide +kernel
theorem d_Heaps_findsWay_18 : decode b_Heaps_findsWay 18 = .ok (.iload_n 2, 1) := by decide +kernel
theorem d_Heaps_findsWay_19 : decode b_Heaps_findsWay 19 = .ok (.bipush 8, 2) := by decide +kernel
theorem d_Heaps_findsWay_21 : decode b_Heaps_findsWay 21 = .ok (.if_icmp .ge 16, 3) := by decide +kernel
theorem d_Heaps_findsWay_24 : decode b_Heaps_findsWay 24 = .ok (.aload_n 0, 1) := by decide +kernel
theorem d_Heaps_findsWay_25 : decode b_Heaps_findsWay 25 = .ok (.getfield 20, 3) := by decide +kernel
theorem d_Heaps_findsWay_28 : decode b_Heaps_findsWay 28 = .ok (.iload_n 2, 1) := by decide +kernel
theorem d_Heaps_findsWay_29 : decode b_Heaps_findsWay 29 = .ok (.iconst 0, 1) := by decide +kernel
theorem d_Heaps_findsWay_30 : decode b_Heaps_findsWay 30 = .ok (.iastore, 1) := by decide +kernel
theorem d_Heaps_findsWay_31 : decode b_Heaps_findsWay 31 = .ok (.iinc 2 1, 3) := by decide +kernel
theorem d_Heaps_findsWay_34 : decode b_Heaps_findsWay 34 = .ok (.goto (-16), 3) := by decide +kernel
theorem d_Heaps_findsWay_37 : decode b_Heaps_findsWay 37 = .ok (.aload_n 0, 1) := by decide +kernel
theorem d_Heaps_findsWay_38 : decode b_Heaps_findsWay 38 = .ok (.iconst 0, 1) := by decide +kernel
theorem d_Heaps_findsWay_39 : decode b_Heaps_findsWay 39 = .ok (.iconst 0, 1) := by decide +kernel
theorem d_Heaps_findsWay_40 : decode b_Heaps_findsWay 40 = .ok (.iconst 0, 1) := by decide +kernel
theorem d_Heaps_findsWay_41 : decode b_Heaps_findsWay 41 = .ok (.invokevirtual 86, 3) := by decide +kernel
theorem d_Heaps_findsWay_44 : decode b_Heaps_findsWay 44 = .ok (.aload_n 0, 1) := by decide +kernel
theorem d_Heaps_findsWay_45 : decode b_Heaps_findsWay 45 = .ok (.getfield 83, 3) := by decide +kernel
theorem d_Heaps_findsWay_48 : decode b_Heaps_findsWay 48 = .ok (.ldc 82, 2) := by decide +kernel
theorem d_Heaps_findsWay_50 : decode b_Heaps_findsWay 50 = .ok (.if_icmp .eq 7, 3) := by decide +kernel
theorem d_Heaps_findsWay_53 : decode b_Heaps_findsWay 53 = .ok (.iconst 1, 1) := by decide +kernel
theorem d_Heaps_findsWay_54 : decode b_Heaps_findsWay 54 = .ok (.goto 4, 3) := by decide +kernel
theorem d_Heaps_findsWay_57 : decode b_Heaps_findsWay 57 = .ok (.iconst 0, 1) := by decide +kernel
theorem d_Heaps_findsWay_58 : decode b_Heaps_findsWay 58 = .ok (.ireturn, 1) := by decide +kernel
theorem d_Heaps_gather_0 : decode b_Heaps_gather 0 = .ok (.aload_n 0, 1) := by decide +kernel
theorem d_Heaps_gather_1 : decode b_Heaps_gather 1 = .ok (.iconst 0, 1) := by decide +kernel
theorem d_Heaps_gather_2 : decode b_Heaps_gather 2 = .ok (.putfield 37, 3) := by decide +kernel
theorem d_Heaps_gather_5 : decode b_Heaps_gather 5 = .ok (.iconst 0, 1) := by decide +kernel
theorem d_Heaps_gather_6 : decode b_Heaps_gather 6 = .ok (.istore_n 2, 1) := by decide +kernel
theorem d_Heaps_gather_7 : decode b_Heaps_gather 7 = .ok (.iload_n 2, 1) := by decide +kernel
theorem d_Heaps_gather_8 : decode b_Heaps_gather 8 = .ok (.bipush 10, 2) := by decide +kernel
theorem d_Heaps_gather_10 : decode b_Heaps_gather 10 = .ok (.if_icmp .ge 46, 3) := by decide +kernel
theorem d_Heaps_gather_13 : decode b_Heaps_gather 13 = .ok (.aload_n 0, 1) := by decide +kernel
theorem d_Heaps_gather_14 : decode b_Heaps_gather 14 = .ok (.getfield 37, 3) := by decide +kernel
theorem d_Heaps_gather_17 : decode b_Heaps_gather 17 = .ok (.bipush 8, 2) := by decide +kernel
theorem d_Heaps_gather_19 : decode b_Heaps_gather 19 = .ok (.if_icmp .ge 37, 3) := by decide +kernel
theorem d_Heaps_gather_22 : decode b_Heaps_gather 22 = .ok (.iload_n 1, 1) := by decide +kernel
theorem d_Heaps_gather_23 : decode b_Heaps_gather 23 = .ok (.iload_n 2, 1) := by decide +kernel
theorem d_Heaps_gather_24 : decode b_Heaps_gather 24 = .ok (.invokestatic 69, 3) := by decide +kernel
theorem d_Heaps_gather_27 : decode b_Heaps_gather 27 = .ok (.ifCond .eq 23, 3) := by decide +kernel
theorem d_Heaps_gather_30 : decode b_Heaps_gather 30 = .ok (.aload_n 0, 1) := by decide +kernel
theorem d_Heaps_gather_31 : decode b_Heaps_gather 31 = .ok (.getfield 11, 3) := by decide +kernel
theorem d_Heaps_gather_34 : decode b_Heaps_gather 34 = .ok (.aload_n 0, 1) := by decide +kernel
theorem d_Heaps_gather_35 : decode b_Heaps_gather 35 = .ok (.getfield 37, 3) := by decide +kernel
theorem d_Heaps_gather_38 : decode b_Heaps_gather 38 = .ok (.iload_n 2, 1) := by decide +kernel
theorem d_Heaps_gather_39 : decode b_Heaps_gather 39 = .ok (.iastore, 1) := by decide +kernel
theorem d_Heaps_gather_40 : decode b_Heaps_gather 40 = .ok (.aload_n 0, 1) := by decide +kernel
theorem d_Heaps_gather_41 : decode b_Heaps_gather 41 = .ok (.dup, 1) := by decide +kernel
theorem d_Heaps_gather_42 : decode b_Heaps_gather 42 = .ok (.getfield 37, 3) := by decide +kernel
theorem d_Heaps_gather_45 : decode b_Heaps_gather 45 = .ok (.iconst 1, 1) := by decide +kernel
theorem d_Heaps_gather_46 : decode b_Heaps_gather 46 = .ok (.iadd, 1) := by decide +kernel
theorem d_Heaps_gather_47 : decode b_Heaps_gather 47 = .ok (.putfield 37, 3) := by decide +kernel
theorem d_Heaps_gather_50 : decode b_Heaps_gather 50 = .ok (.iinc 2 1, 3) := by decide +kernel
theorem d_Heaps_gather_53 : decode b_Heaps_gather 53 = .ok (.goto (-46), 3) := by decide +kernel
theorem d_Heaps_gather_56 : decode b_Heaps_gather 56 = .ok (.return_, 1) := by decide +kernel
theorem d_Heaps_thingsOf_0 : decode b_Heaps_thingsOf 0 = .ok (.iconst 0, 1) := by decide +kernel
theorem d_Heaps_thingsOf_1 : decode b_Heaps_thingsOf 1 = .ok (.istore_n 2, 1) := by decide +kernel
theorem d_Heaps_thingsOf_2 : decode b_Heaps_thingsOf 2 = .ok (.iconst 0, 1) := by decide +kernel
theorem d_Heaps_thingsOf_3 : decode b_Heaps_thingsOf 3 = .ok (.istore_n 3, 1) := by decide +kernel
theorem d_Heaps_thingsOf_4 : decode b_Heaps_thingsOf 4 = .ok (.iload_n 3, 1) := by decide +kernel
theorem d_Heaps_thingsOf_5 : decode b_Heaps_thingsOf 5 = .ok (.aload_n 0, 1) := by decide +kernel
theorem d_Heaps_thingsOf_6 : decode b_Heaps_thingsOf 6 = .ok (.getfield 37, 3) := by decide +kernel
theorem d_Heaps_thingsOf_9 : decode b_Heaps_thingsOf 9 = .ok (.if_icmp .ge 24, 3) := by decide +kernel
theorem d_Heaps_thingsOf_12 : decode b_Heaps_thingsOf 12 = .ok (.iload_n 2, 1) := by decide +kernel
theorem d_Heaps_thingsOf_13 : decode b_Heaps_thingsOf 13 = .ok (.iload_n 1, 1) := by decide +kernel
theorem d_Heaps_thingsOf_14 : decode b_Heaps_thingsOf 14 = .ok (.iload_n 3, 1) := by decide +kernel
theorem d_Heaps_thingsOf_15 : decode b_Heaps_thingsOf 15 = .ok (.iushr, 1) := by decide +kernel
theorem d_Heaps_thingsOf_16 : decode b_Heaps_thingsOf 16 = .ok (.iconst 1, 1) := by decide +kernel
theorem d_Heaps_thingsOf_17 : decode b_Heaps_thingsOf 17 = .ok (.iand, 1) := by decide +kernel
theorem d_Heaps_thingsOf_18 : decode b_Heaps_thingsOf 18 = .ok (.aload_n 0, 1) := by decide +kernel
theorem d_Heaps_thingsOf_19 : decode b_Heaps_thingsOf 19 = .ok (.getfield 11, 3) := by decide +kernel
theorem d_Heaps_thingsOf_22 : decode b_Heaps_thingsOf 22 = .ok (.iload_n 3, 1) := by decide +kernel
theorem d_Heaps_thingsOf_23 : decode b_Heaps_thingsOf 23 = .ok (.iaload, 1) := by decide +kernel
theorem d_Heaps_thingsOf_24 : decode b_Heaps_thingsOf 24 = .ok (.ishl, 1) := by decide +kernel
theorem d_Heaps_thingsOf_25 : decode b_Heaps_thingsOf 25 = .ok (.ior, 1) := by decide +kernel
theorem d_Heaps_thingsOf_26 : decode b_Heaps_thingsOf 26 = .ok (.istore_n 2, 1) := by decide +kernel
theorem d_Heaps_thingsOf_27 : decode b_Heaps_thingsOf 27 = .ok (.iinc 3 1, 3) := by decide +kernel
theorem d_Heaps_thingsOf_30 : decode b_Heaps_thingsOf 30 = .ok (.goto (-26), 3) := by decide +kernel
theorem d_Heaps_thingsOf_33 : decode b_Heaps_thingsOf 33 = .ok (.iload_n 2, 1) := by decide +kernel
theorem d_Heaps_thingsOf_34 : decode b_Heaps_thingsOf 34 = .ok (.ireturn, 1) := by decide +kernel
theorem d_Tub_allTints_0 : decode b_Tub_allTints 0 = .ok (.iconst 0, 1) := by decide +kernel
theorem d_Tub_allTints_1 : decode b_Tub_allTints 1 = .ok (.istore_n 1, 1) := by decide +kernel
theorem d_Tub_allTints_2 : decode b_Tub_allTints 2 = .ok (.iconst 0, 1) := by decide +kernel
theorem d_Tub_allTints_3 : decode b_Tub_allTints 3 = .ok (.istore_n 2, 1) := by decide +kernel
theorem d_Tub_allTints_4 : decode b_Tub_allTints 4 = .ok (.iload_n 2, 1) := by decide +kernel
theorem d_Tub_allTints_5 : decode b_Tub_allTints 5 = .ok (.aload_n 0, 1) := by decide +kernel
theorem d_Tub_allTints_6 : decode b_Tub_allTints 6 = .ok (.getfield 19, 3) := by decide +kernel
theorem d_Tub_allTints_9 : decode b_Tub_allTints 9 = .ok (.getfield 59, 3) := by decide +kernel
theorem d_Tub_allTints_12 : decode b_Tub_allTints 12 = .ok (.if_icmp .ge 32, 3) := by decide +kernel
theorem d_Tub_allTints_15 : decode b_Tub_allTints 15 = .ok (.iload_n 1, 1) := by decide +kernel
theorem d_Tub_allTints_16 : decode b_Tub_allTints 16 = .ok (.aload_n 0, 1) := by decide +kernel
theorem d_Tub_allTints_17 : decode b_Tub_allTints 17 = .ok (.getfield 81, 3) := by decide +kernel
theorem d_Tub_allTints_20 : decode b_Tub_allTints 20 = .ok (.iload_n 2, 1) := by decide +kernel
theorem d_Tub_allTints_21 : decode b_Tub_allTints 21 = .ok (.invokestatic 84, 3) := by decide +kernel
theorem d_Tub_allTints_24 : decode b_Tub_allTints 24 = .ok (.ifCond .eq 11, 3) := by decide +kernel
theorem d_Tub_allTints_27 : decode b_Tub_allTints 27 = .ok (.aload_n 0, 1) := by decide +kernel
theorem d_Tub_allTints_28 : decode b_Tub_allTints 28 = .ok (.iload_n 2, 1) := by decide +kernel
theorem d_Tub_allTints_29 : decode b_Tub_allTints 29 = .ok (.invokevirtual 91, 3) := by decide +kernel
theorem d_Tub_allTints_32 : decode b_Tub_allTints 32 = .ok (.goto 4, 3) := by decide +kernel
theorem d_Tub_allTints_35 : decode b_Tub_allTints 35 = .ok (.iconst 0, 1) := by decide +kernel
theorem d_Tub_allTints_36 : decode b_Tub_allTints 36 = .ok (.iadd, 1) := by decide +kernel
theorem d_Tub_allTints_37 : decode b_Tub_allTints 37 = .ok (.istore_n 1, 1) := by decide +kernel
theorem d_Tub_allTints_38 : decode b_Tub_allTints 38 = .ok (.iinc 2 1, 3) := by decide +kernel
theorem d_Tub_allTints_41 : decode b_Tub_allTints 41 = .ok (.goto (-37), 3) := by decide +kernel
theorem d_Tub_allTints_44 : decode b_Tub_allTints 44 = .ok (.iload_n 1, 1) := by decide +kernel
theorem d_Tub_allTints_45 : decode b_Tub_allTints 45 = .ok (.ireturn, 1) := by decide +kernel
theorem d_Heaps_leastTints_0 : decode b_Heaps_leastTints 0 = .ok (.aload_n 0, 1) := by decide +kernel
theorem d_Heaps_leastTints_1 : decode b_Heaps_leastTints 1 = .ok (.iload_n 1, 1) := by decide +kernel
theorem d_Heaps_leastTints_2 : decode b_Heaps_leastTints 2 = .ok (.invokevirtual 33, 3) := by decide +kernel
theorem d_Heaps_leastTints_5 : decode b_Heaps_leastTints 5 = .ok (.iconst 1, 1) := by decide +kernel
theorem d_Heaps_leastTints_6 : decode b_Heaps_leastTints 6 = .ok (.istore_n 3, 1) := by decide +kernel
theorem d_Heaps_leastTints_7 : decode b_Heaps_leastTints 7 = .ok (.iload_n 3, 1) := by decide +kernel
theorem d_Heaps_leastTints_8 : decode b_Heaps_leastTints 8 = .ok (.iconst 1, 1) := by decide +kernel
theorem d_Heaps_leastTints_9 : decode b_Heaps_leastTints 9 = .ok (.aload_n 0, 1) := by decide +kernel
theorem d_Heaps_leastTints_10 : decode b_Heaps_leastTints 10 = .ok (.getfield 37, 3) := by decide +kernel
theorem d_Heaps_leastTints_13 : decode b_Heaps_leastTints 13 = .ok (.ishl, 1) := by decide +kernel
theorem d_Heaps_leastTints_14 : decode b_Heaps_leastTints 14 = .ok (.if_icmp .ge 59, 3) := by decide +kernel
theorem d_Heaps_leastTints_17 : decode b_Heaps_leastTints 17 = .ok (.aload_n 0, 1) := by decide +kernel
theorem d_Heaps_leastTints_18 : decode b_Heaps_leastTints 18 = .ok (.getfield 29, 3) := by decide +kernel
theorem d_Heaps_leastTints_21 : decode b_Heaps_leastTints 21 = .ok (.aload_n 0, 1) := by decide +kernel
theorem d_Heaps_leastTints_22 : decode b_Heaps_leastTints 22 = .ok (.iload_n 3, 1) := by decide +kernel
theorem d_Heaps_leastTints_23 : decode b_Heaps_leastTints 23 = .ok (.invokevirtual 41, 3) := by decide +kernel
theorem d_Heaps_leastTints_26 : decode b_Heaps_leastTints 26 = .ok (.iconst 0, 1) := by decide +kernel
theorem d_Heaps_leastTints_27 : decode b_Heaps_leastTints 27 = .ok (.invokevirtual 45, 3) := by decide +kernel
theorem d_Heaps_leastTints_30 : decode b_Heaps_leastTints 30 = .ok (.aload_n 0, 1) := by decide +kernel
theorem d_Heaps_leastTints_31 : decode b_Heaps_leastTints 31 = .ok (.getfield 17, 3) := by decide +kernel
theorem d_Heaps_leastTints_34 : decode b_Heaps_leastTints 34 = .ok (.iload_n 3, 1) := by decide +kernel
theorem d_Heaps_leastTints_35 : decode b_Heaps_leastTints 35 = .ok (.aload_n 0, 1) := by decide +kernel
theorem d_Heaps_leastTints_36 : decode b_Heaps_leastTints 36 = .ok (.getfield 29, 3) := by decide +kernel
theorem d_Heaps_leastTints_39 : decode b_Heaps_leastTints 39 = .ok (.invokevirtual 58, 3) := by decide +kernel
theorem d_Heaps_leastTints_42 : decode b_Heaps_leastTints 42 = .ok (.ifCond .eq 23, 3) := by decide +kernel
theorem d_Heaps_leastTints_45 : decode b_Heaps_leastTints 45 = .ok (.aload_n 0, 1) := by decide +kernel
theorem d_Heaps_leastTints_46 : decode b_Heaps_leastTints 46 = .ok (.getfield 29, 3) := by decide +kernel
theorem d_Heaps_leastTints_49 : decode b_Heaps_leastTints 49 = .ok (.invokevirtual 62, 3) := by decide +kernel
theorem d_Heaps_leastTints_52 : decode b_Heaps_leastTints 52 = .ok (.ifCond .ne 13, 3) := by decide +kernel
theorem d_Heaps_leastTints_55 : decode b_Heaps_leastTints 55 = .ok (.aload_n 0, 1) := by decide +kernel
theorem d_Heaps_leastTints_56 : decode b_Heaps_leastTints 56 = .ok (.getfield 29, 3) := by decide +kernel
theorem d_Heaps_leastTints_59 : decode b_Heaps_leastTints 59 = .ok (.invokevirtual 66, 3) := by decide +kernel
theorem d_Heaps_leastTints_62 : decode b_Heaps_leastTints 62 = .ok (.goto 4, 3) := by decide +kernel
theorem d_Heaps_leastTints_65 : decode b_Heaps_leastTints 65 = .ok (.iconst (-1), 1) := by decide +kernel
theorem d_Heaps_leastTints_66 : decode b_Heaps_leastTints 66 = .ok (.iastore, 1) := by decide +kernel
theorem d_Heaps_leastTints_67 : decode b_Heaps_leastTints 67 = .ok (.iinc 3 1, 3) := by decide +kernel
theorem d_Heaps_leastTints_70 : decode b_Heaps_leastTints 70 = .ok (.goto (-63), 3) := by decide +kernel
theorem d_Heaps_leastTints_73 : decode b_Heaps_leastTints 73 = .ok (.aload_n 0, 1) := by decide +kernel
theorem d_Heaps_leastTints_74 : decode b_Heaps_leastTints 74 = .ok (.iload_n 2, 1) := by decide +kernel
theorem d_Heaps_leastTints_75 : decode b_Heaps_leastTints 75 = .ok (.invokevirtual 55, 3) := by decide +kernel
theorem d_Heaps_leastTints_78 : decode b_Heaps_leastTints 78 = .ok (.ireturn, 1) := by decide +kernel
theorem d_JI_bitCount_0 : decode b_JI_bitCount 0 = .ok (.iload_n 0, 1) := by decide +kernel
theorem d_JI_bitCount_1 : decode b_JI_bitCount 1 = .ok (.iload_n 0, 1) := by decide +kernel
theorem d_JI_bitCount_2 : decode b_JI_bitCount 2 = .ok (.iconst 1, 1) := by decide +kernel
theorem d_JI_bitCount_3 : decode b_JI_bitCount 3 = .ok (.iushr, 1) := by decide +kernel
theorem d_JI_bitCount_4 : decode b_JI_bitCount 4 = .ok (.ldc_w 265, 3) := by decide +kernel
theorem d_JI_bitCount_7 : decode b_JI_bitCount 7 = .ok (.iand, 1) := by decide +kernel
theorem d_JI_bitCount_8 : decode b_JI_bitCount 8 = .ok (.isub, 1) := by decide +kernel
theorem d_JI_bitCount_9 : decode b_JI_bitCount 9 = .ok (.istore_n 0, 1) := by decide +kernel
theorem d_JI_bitCount_10 : decode b_JI_bitCount 10 = .ok (.iload_n 0, 1) := by decide +kernel
theorem d_JI_bitCount_11 : decode b_JI_bitCount 11 = .ok (.ldc_w 266, 3) := by decide +kernel
theorem d_JI_bitCount_14 : decode b_JI_bitCount 14 = .ok (.iand, 1) := by decide +kernel
theorem d_JI_bitCount_15 : decode b_JI_bitCount 15 = .ok (.iload_n 0, 1) := by decide +kernel
theorem d_JI_bitCount_16 : decode b_JI_bitCount 16 = .ok (.iconst 2, 1) := by decide +kernel
theorem d_JI_bitCount_17 : decode b_JI_bitCount 17 = .ok (.iushr, 1) := by decide +kernel
theorem d_JI_bitCount_18 : decode b_JI_bitCount 18 = .ok (.ldc_w 266, 3) := by decide +kernel
theorem d_JI_bitCount_21 : decode b_JI_bitCount 21 = .ok (.iand, 1) := by decide +kernel
theorem d_JI_bitCount_22 : decode b_JI_bitCount 22 = .ok (.iadd, 1) := by decide +kernel
theorem d_JI_bitCount_23 : decode b_JI_bitCount 23 = .ok (.istore_n 0, 1) := by decide +kernel
theorem d_JI_bitCount_24 : decode b_JI_bitCount 24 = .ok (.iload_n 0, 1) := by decide +kernel
theorem d_JI_bitCount_25 : decode b_JI_bitCount 25 = .ok (.iload_n 0, 1) := by decide +kernel
theorem d_JI_bitCount_26 : decode b_JI_bitCount 26 = .ok (.iconst 4, 1) := by decide +kernel
theorem d_JI_bitCount_27 : decode b_JI_bitCount 27 = .ok (.iushr, 1) := by decide +kernel
theorem d_JI_bitCount_28 : decode b_JI_bitCount 28 = .ok (.iadd, 1) := by decide +kernel
theorem d_JI_bitCount_29 : decode b_JI_bitCount 29 = .ok (.ldc_w 267, 3) := by decide +kernel
theorem d_JI_bitCount_32 : decode b_JI_bitCount 32 = .ok (.iand, 1) := by decide +kernel
theorem d_JI_bitCount_33 : decode b_JI_bitCount 33 = .ok (.istore_n 0, 1) := by decide +kernel
theorem d_JI_bitCount_34 : decode b_JI_bitCount 34 = .ok (.iload_n 0, 1) := by decide +kernel
theorem d_JI_bitCount_35 : decode b_JI_bitCount 35 = .ok (.iload_n 0, 1) := by decide +kernel
theorem d_JI_bitCount_36 : decode b_JI_bitCount 36 = .ok (.bipush 8, 2) := by decide +kernel
theorem d_JI_bitCount_38 : decode b_JI_bitCount 38 = .ok (.iushr, 1) := by decide +kernel
theorem d_JI_bitCount_39 : decode b_JI_bitCount 39 = .ok (.iadd, 1) := by decide +kernel
theorem d_JI_bitCount_40 : decode b_JI_bitCount 40 = .ok (.istore_n 0, 1) := by decide +kernel
theorem d_JI_bitCount_41 : decode b_JI_bitCount 41 = .ok (.iload_n 0, 1) := by decide +kernel
theorem d_JI_bitCount_42 : decode b_JI_bitCount 42 = .ok (.iload_n 0, 1) := by decide +kernel
theorem d_JI_bitCount_43 : decode b_JI_bitCount 43 = .ok (.bipush 16, 2) := by decide +kernel
theorem d_JI_bitCount_45 : decode b_JI_bitCount 45 = .ok (.iushr, 1) := by decide +kernel
theorem d_JI_bitCount_46 : decode b_JI_bitCount 46 = .ok (.iadd, 1) := by decide +kernel
theorem d_JI_bitCount_47 : decode b_JI_bitCount 47 = .ok (.istore_n 0, 1) := by decide +kernel
theorem d_JI_bitCount_48 : decode b_JI_bitCount 48 = .ok (.iload_n 0, 1) := by decide +kernel
theorem d_JI_bitCount_49 : decode b_JI_bitCount 49 = .ok (.bipush 63, 2) := by decide +kernel
theorem d_JI_bitCount_51 : decode b_JI_bitCount 51 = .ok (.iand, 1) := by decide +kernel
theorem d_JI_bitCount_52 : decode b_JI_bitCount 52 = .ok (.ireturn, 1) := by decide +kernel
theorem d_Top_cost_0 : decode b_Top_cost 0 = .ok (.aload_n 0, 1) := by decide +kernel
theorem d_Top_cost_1 : decode b_Top_cost 1 = .ok (.iload_n 1, 1) := by decide +kernel
theorem d_Top_cost_2 : decode b_Top_cost 2 = .ok (.invokevirtual 160, 3) := by decide +kernel
theorem d_Top_cost_5 : decode b_Top_cost 5 = .ok (.ifCond .eq 36, 3) := by decide +kernel
theorem d_Top_cost_8 : decode b_Top_cost 8 = .ok (.iload_n 3, 1) := by decide +kernel
theorem d_Top_cost_9 : decode b_Top_cost 9 = .ok (.iconst 0, 1) := by decide +kernel
theorem d_Top_cost_10 : decode b_Top_cost 10 = .ok (.bipush 99, 2) := by decide +kernel
theorem d_Top_cost_12 : decode b_Top_cost 12 = .ok (.invokestatic 108, 3) := by decide +kernel
theorem d_Top_cost_15 : decode b_Top_cost 15 = .ok (.ifCond .eq 26, 3) := by decide +kernel
theorem d_Top_cost_18 : decode b_Top_cost 18 = .ok (.iload_n 2, 1) := by decide +kernel
theorem d_Top_cost_19 : decode b_Top_cost 19 = .ok (.bipush 10, 2) := by decide +kernel
theorem d_Top_cost_21 : decode b_Top_cost 21 = .ok (.idiv, 1) := by decide +kernel
theorem d_Top_cost_22 : decode b_Top_cost 22 = .ok (.invokestatic 154, 3) := by decide +kernel
theorem d_Top_cost_25 : decode b_Top_cost 25 = .ok (.ifCond .eq 16, 3) := by decide +kernel
theorem d_Top_cost_28 : decode b_Top_cost 28 = .ok (.iload_n 2, 1) := by decide +kernel
theorem d_Top_cost_29 : decode b_Top_cost 29 = .ok (.bipush 10, 2) := by decide +kernel
theorem d_Top_cost_31 : decode b_Top_cost 31 = .ok (.irem, 1) := by decide +kernel
theorem d_Top_cost_32 : decode b_Top_cost 32 = .ok (.iconst 1, 1) := by decide +kernel
theorem d_Top_cost_33 : decode b_Top_cost 33 = .ok (.bipush 6, 2) := by decide +kernel
theorem d_Top_cost_35 : decode b_Top_cost 35 = .ok (.invokestatic 108, 3) := by decide +kernel
theorem d_Top_cost_38 : decode b_Top_cost 38 = .ok (.ifCond .ne 5, 3) := by decide +kernel
theorem d_Top_cost_41 : decode b_Top_cost 41 = .ok (.iconst (-1), 1) := by decide +kernel
theorem d_Top_cost_42 : decode b_Top_cost 42 = .ok (.ireturn, 1) := by decide +kernel
theorem d_Top_cost_43 : decode b_Top_cost 43 = .ok (.iload_n 1, 1) := by decide +kernel
theorem d_Top_cost_44 : decode b_Top_cost 44 = .ok (.invokestatic 210, 3) := by decide +kernel
theorem d_Top_cost_47 : decode b_Top_cost 47 = .ok (.bipush 7, 2) := by decide +kernel
theorem d_Top_cost_49 : decode b_Top_cost 49 = .ok (.if_icmp .le 6, 3) := by decide +kernel
theorem d_Top_cost_52 : decode b_Top_cost 52 = .ok (.bipush (-5), 2) := by decide +kernel
theorem d_Top_cost_54 : decode b_Top_cost 54 = .ok (.ireturn, 1) := by decide +kernel
theorem d_Top_cost_55 : decode b_Top_cost 55 = .ok (.aload_n 0, 1) := by decide +kernel
theorem d_Top_cost_56 : decode b_Top_cost 56 = .ok (.getfield 35, 3) := by decide +kernel
theorem d_Top_cost_59 : decode b_Top_cost 59 = .ok (.iload_n 2, 1) := by decide +kernel
theorem d_Top_cost_60 : decode b_Top_cost 60 = .ok (.bipush 10, 2) := by decide +kernel
theorem d_Top_cost_62 : decode b_Top_cost 62 = .ok (.idiv, 1) := by decide +kernel
theorem d_Top_cost_63 : decode b_Top_cost 63 = .ok (.invokevirtual 194, 3) := by decide +kernel
theorem d_Top_cost_66 : decode b_Top_cost 66 = .ok (.aload_n 0, 1) := by decide +kernel
theorem d_Top_cost_67 : decode b_Top_cost 67 = .ok (.getfield 44, 3) := by decide +kernel
theorem d_Top_cost_70 : decode b_Top_cost 70 = .ok (.iload_n 1, 1) := by decide +kernel
theorem d_Top_cost_71 : decode b_Top_cost 71 = .ok (.iload_n 2, 1) := by decide +kernel
theorem d_Top_cost_72 : decode b_Top_cost 72 = .ok (.bipush 10, 2) := by decide +kernel
theorem d_Top_cost_74 : decode b_Top_cost 74 = .ok (.irem, 1) := by decide +kernel
theorem d_Top_cost_75 : decode b_Top_cost 75 = .ok (.invokevirtual 224, 3) := by decide +kernel
theorem d_Top_cost_78 : decode b_Top_cost 78 = .ok (.ifCond .eq 15, 3) := by decide +kernel
theorem d_Top_cost_81 : decode b_Top_cost 81 = .ok (.aload_n 0, 1) := by decide +kernel
theorem d_Top_cost_82 : decode b_Top_cost 82 = .ok (.getfield 44, 3) := by decide +kernel
theorem d_Top_cost_85 : decode b_Top_cost 85 = .ok (.getfield 218, 3) := by decide +kernel
theorem d_Top_cost_88 : decode b_Top_cost 88 = .ok (.iload_n 3, 1) := by decide +kernel
theorem d_Top_cost_89 : decode b_Top_cost 89 = .ok (.imul, 1) := by decide +kernel
theorem d_Top_cost_90 : decode b_Top_cost 90 = .ok (.goto 5, 3) := by decide +kernel
theorem d_Top_cost_93 : decode b_Top_cost 93 = .ok (.bipush (-2), 2) := by decide +kernel
theorem d_Top_cost_95 : decode b_Top_cost 95 = .ok (.ireturn, 1) := by decide +kernel
theorem d_Basket_goneOnes_0 : decode b_Basket_goneOnes 0 = .ok (.iconst 0, 1) := by decide +kernel
theorem d_Basket_goneOnes_1 : decode b_Basket_goneOnes 1 = .ok (.istore_n 1, 1) := by decide +kernel
theorem d_Basket_goneOnes_2 : decode b_Basket_goneOnes 2 = .ok (.iconst 0, 1) := by decide +kernel
theorem d_Basket_goneOnes_3 : decode b_Basket_goneOnes 3 = .ok (.istore_n 2, 1) := by decide +kernel
theorem d_Basket_goneOnes_4 : decode b_Basket_goneOnes 4 = .ok (.iload_n 2, 1) := by decide +kernel
theorem d_Basket_goneOnes_5 : decode b_Basket_goneOnes 5 = .ok (.aload_n 0, 1) := by decide +kernel
theorem d_Basket_goneOnes_6 : decode b_Basket_goneOnes 6 = .ok (.getfield 41, 3) := by decide +kernel
theorem d_Basket_goneOnes_9 : decode b_Basket_goneOnes 9 = .ok (.if_icmp .ge 26, 3) := by decide +kernel
theorem d_Basket_goneOnes_12 : decode b_Basket_goneOnes 12 = .ok (.iload_n 1, 1) := by decide +kernel
theorem d_Basket_goneOnes_13 : decode b_Basket_goneOnes 13 = .ok (.aload_n 0, 1) := by decide +kernel
theorem d_Basket_goneOnes_14 : decode b_Basket_goneOnes 14 = .ok (.getfield 18, 3) := by decide +kernel
theorem d_Basket_goneOnes_17 : decode b_Basket_goneOnes 17 = .ok (.iload_n 2, 1) := by decide +kernel
theorem d_Basket_goneOnes_18 : decode b_Basket_goneOnes 18 = .ok (.baload, 1) := by decide +kernel
theorem d_Basket_goneOnes_19 : decode b_Basket_goneOnes 19 = .ok (.ifCond .eq 7, 3) := by decide +kernel
theorem d_Basket_goneOnes_22 : decode b_Basket_goneOnes 22 = .ok (.iconst 1, 1) := by decide +kernel
theorem d_Basket_goneOnes_23 : decode b_Basket_goneOnes 23 = .ok (.goto 4, 3) := by decide +kernel
theorem d_Basket_goneOnes_26 : decode b_Basket_goneOnes 26 = .ok (.iconst 0, 1) := by decide +kernel
theorem d_Basket_goneOnes_27 : decode b_Basket_goneOnes 27 = .ok (.iadd, 1) := by decide +kernel
theorem d_Basket_goneOnes_28 : decode b_Basket_goneOnes 28 = .ok (.istore_n 1, 1) := by decide +kernel
theorem d_Basket_goneOnes_29 : decode b_Basket_goneOnes 29 = .ok (.iinc 2 1, 3) := by decide +kernel
theorem d_Basket_goneOnes_32 : decode b_Basket_goneOnes 32 = .ok (.goto (-28), 3) := by decide +kernel
theorem d_Basket_goneOnes_35 : decode b_Basket_goneOnes 35 = .ok (.iload_n 1, 1) := by decide +kernel
theorem d_Basket_goneOnes_36 : decode b_Basket_goneOnes 36 = .ok (.ireturn, 1) := by decide +kernel
theorem d_Top_count_0 : decode b_Top_count 0 = .ok (.iload_n 1, 1) := by decide +kernel
theorem d_Top_count_1 : decode b_Top_count 1 = .ok (.tableswitch 95 0 5 #[39, 47, 63, 71, 79, 87], 39) := by decide +kernel
theorem d_Top_count_40 : decode b_Top_count 40 = .ok (.aload_n 0, 1) := by decide +kernel
theorem d_Top_count_41 : decode b_Top_count 41 = .ok (.getfield 10, 3) := by decide +kernel
theorem d_Top_count_44 : decode b_Top_count 44 = .ok (.getfield 198, 3) := by decide +kernel
theorem d_Top_count_47 : decode b_Top_count 47 = .ok (.ireturn, 1) := by decide +kernel
theorem d_Top_count_48 : decode b_Top_count 48 = .ok (.aload_n 0, 1) := by decide +kernel
theorem d_Top_count_49 : decode b_Top_count 49 = .ok (.getfield 10, 3) := by decide +kernel
theorem d_Top_count_52 : decode b_Top_count 52 = .ok (.getfield 198, 3) := by decide +kernel
theorem d_Top_count_55 : decode b_Top_count 55 = .ok (.aload_n 0, 1) := by decide +kernel
theorem d_Top_count_56 : decode b_Top_count 56 = .ok (.getfield 10, 3) := by decide +kernel
theorem d_Top_count_59 : decode b_Top_count 59 = .ok (.invokevirtual 307, 3) := by decide +kernel
theorem d_Top_count_62 : decode b_Top_count 62 = .ok (.isub, 1) := by decide +kernel
theorem d_Top_count_63 : decode b_Top_count 63 = .ok (.ireturn, 1) := by decide +kernel
theorem d_Top_count_64 : decode b_Top_count 64 = .ok (.aload_n 0, 1) := by decide +kernel
theorem d_Top_count_65 : decode b_Top_count 65 = .ok (.getfield 19, 3) := by decide +kernel
theorem d_Top_count_68 : decode b_Top_count 68 = .ok (.getfield 392, 3) := by decide +kernel
theorem d_Top_count_71 : decode b_Top_count 71 = .ok (.ireturn, 1) := by decide +kernel
theorem d_Top_count_72 : decode b_Top_count 72 = .ok (.aload_n 0, 1) := by decide +kernel
theorem d_Top_count_73 : decode b_Top_count 73 = .ok (.getfield 74, 3) := by decide +kernel
theorem d_Top_count_76 : decode b_Top_count 76 = .ok (.getfield 322, 3) := by decide +kernel
theorem d_Top_count_79 : decode b_Top_count 79 = .ok (.ireturn, 1) := by decide +kernel
theorem d_Top_count_80 : decode b_Top_count 80 = .ok (.aload_n 0, 1) := by decide +kernel
theorem d_Top_count_81 : decode b_Top_count 81 = .ok (.getfield 81, 3) := by decide +kernel
theorem d_Top_count_84 : decode b_Top_count 84 = .ok (.getfield 395, 3) := by decide +kernel
theorem d_Top_count_87 : decode b_Top_count 87 = .ok (.ireturn, 1) := by decide +kernel
theorem d_Top_count_88 : decode b_Top_count 88 = .ok (.aload_n 0, 1) := by decide +kernel
theorem d_Top_count_89 : decode b_Top_count 89 = .ok (.getfield 81, 3) := by decide +kernel
theorem d_Top_count_92 : decode b_Top_count 92 = .ok (.getfield 398, 3) := by decide +kernel
theorem d_Top_count_95 : decode b_Top_count 95 = .ok (.ireturn, 1) := by decide +kernel
theorem d_Top_count_96 : decode b_Top_count 96 = .ok (.iconst (-1), 1) := by decide +kernel
theorem d_Top_count_97 : decode b_Top_count 97 = .ok (.ireturn, 1) := by decide +kernel
theorem d_Tub_draw_0 : decode b_Tub_draw 0 = .ok (.iload_n 1, 1) := by decide +kernel
theorem d_Tub_draw_1 : decode b_Tub_draw 1 = .ok (.istore_n 2, 1) := by decide +kernel
theorem d_Tub_draw_2 : decode b_Tub_draw 2 = .ok (.iconst 0, 1) := by decide +kernel
theorem d_Tub_draw_3 : decode b_Tub_draw 3 = .ok (.istore_n 3, 1) := by decide +kernel
theorem d_Tub_draw_4 : decode b_Tub_draw 4 = .ok (.iconst 0, 1) := by decide +kernel
theorem d_Tub_draw_5 : decode b_Tub_draw 5 = .ok (.istore 4, 2) := by decide +kernel
theorem d_Tub_draw_7 : decode b_Tub_draw 7 = .ok (.iload 4, 2) := by decide +kernel
theorem d_Tub_draw_9 : decode b_Tub_draw 9 = .ok (.aload_n 0, 1) := by decide +kernel
theorem d_Tub_draw_10 : decode b_Tub_draw 10 = .ok (.getfield 19, 3) := by decide +kernel
theorem d_Tub_draw_13 : decode b_Tub_draw 13 = .ok (.getfield 59, 3) := by decide +kernel
theorem d_Tub_draw_16 : decode b_Tub_draw 16 = .ok (.if_icmp .ge 50, 3) := by decide +kernel
theorem d_Tub_draw_19 : decode b_Tub_draw 19 = .ok (.iload_n 2, 1) := by decide +kernel
theorem d_Tub_draw_20 : decode b_Tub_draw 20 = .ok (.ldc 107, 2) := by decide +kernel
theorem d_Tub_draw_22 : decode b_Tub_draw 22 = .ok (.imul, 1) := by decide +kernel
theorem d_Tub_draw_23 : decode b_Tub_draw 23 = .ok (.sipush 12345, 3) := by decide +kernel
theorem d_Tub_draw_26 : decode b_Tub_draw 26 = .ok (.iadd, 1) := by decide +kernel
theorem d_Tub_draw_27 : decode b_Tub_draw 27 = .ok (.istore_n 2, 1) := by decide +kernel
theorem d_Tub_draw_28 : decode b_Tub_draw 28 = .ok (.iload_n 2, 1) := by decide +kernel
theorem d_Tub_draw_29 : decode b_Tub_draw 29 = .ok (.bipush 8, 2) := by decide +kernel
theorem d_Tub_draw_31 : decode b_Tub_draw 31 = .ok (.iushr, 1) := by decide +kernel
theorem d_Tub_draw_32 : decode b_Tub_draw 32 = .ok (.bipush 12, 2) := by decide +kernel
theorem d_Tub_draw_34 : decode b_Tub_draw 34 = .ok (.irem, 1) := by decide +kernel
theorem d_Tub_draw_35 : decode b_Tub_draw 35 = .ok (.bipush 6, 2) := by decide +kernel
theorem d_Tub_draw_37 : decode b_Tub_draw 37 = .ok (.if_icmp .ge 23, 3) := by decide +kernel
theorem d_Tub_draw_40 : decode b_Tub_draw 40 = .ok (.aload_n 0, 1) := by decide +kernel
theorem d_Tub_draw_41 : decode b_Tub_draw 41 = .ok (.iload_n 3, 1) := by decide +kernel
theorem d_Tub_draw_42 : decode b_Tub_draw 42 = .ok (.iconst 1, 1) := by decide +kernel
theorem d_Tub_draw_43 : decode b_Tub_draw 43 = .ok (.iload 4, 2) := by decide +kernel
theorem d_Tub_draw_45 : decode b_Tub_draw 45 = .ok (.ishl, 1) := by decide +kernel
theorem d_Tub_draw_46 : decode b_Tub_draw 46 = .ok (.ior, 1) := by decide +kernel
theorem d_Tub_draw_47 : decode b_Tub_draw 47 = .ok (.invokevirtual 94, 3) := by decide +kernel
theorem d_Tub_draw_50 : decode b_Tub_draw 50 = .ok (.ifCond .eq 10, 3) := by decide +kernel
theorem d_Tub_draw_53 : decode b_Tub_draw 53 = .ok (.iload_n 3, 1) := by decide +kernel
theorem d_Tub_draw_54 : decode b_Tub_draw 54 = .ok (.iconst 1, 1) := by decide +kernel
theorem d_Tub_draw_55 : decode b_Tub_draw 55 = .ok (.iload 4, 2) := by decide +kernel
theorem d_Tub_draw_57 : decode b_Tub_draw 57 = .ok (.ishl, 1) := by decide +kernel
theorem d_Tub_draw_58 : decode b_Tub_draw 58 = .ok (.ior, 1) := by decide +kernel
theorem d_Tub_draw_59 : decode b_Tub_draw 59 = .ok (.istore_n 3, 1) := by decide +kernel
theorem d_Tub_draw_60 : decode b_Tub_draw 60 = .ok (.iinc 4 1, 3) := by decide +kernel
theorem d_Tub_draw_63 : decode b_Tub_draw 63 = .ok (.goto (-56), 3) := by decide +kernel
theorem d_Tub_draw_66 : decode b_Tub_draw 66 = .ok (.aload_n 0, 1) := by decide +kernel
theorem d_Tub_draw_67 : decode b_Tub_draw 67 = .ok (.iload_n 3, 1) := by decide +kernel
theorem d_Tub_draw_68 : decode b_Tub_draw 68 = .ok (.iconst 0, 1) := by decide +kernel
theorem d_Tub_draw_69 : decode b_Tub_draw 69 = .ok (.invokevirtual 74, 3) := by decide +kernel
theorem d_Tub_draw_72 : decode b_Tub_draw 72 = .ok (.iload_n 2, 1) := by decide +kernel
theorem d_Tub_draw_73 : decode b_Tub_draw 73 = .ok (.ireturn, 1) := by decide +kernel
theorem d_Top_drawn_0 : decode b_Top_drawn 0 = .ok (.iload_n 2, 1) := by decide +kernel
theorem d_Top_drawn_1 : decode b_Top_drawn 1 = .ok (.bipush 10, 2) := by decide +kernel
theorem d_Top_drawn_3 : decode b_Top_drawn 3 = .ok (.idiv, 1) := by decide +kernel
theorem d_Top_drawn_4 : decode b_Top_drawn 4 = .ok (.iconst 1, 1) := by decide +kernel
theorem d_Top_drawn_5 : decode b_Top_drawn 5 = .ok (.bipush 30, 2) := by decide +kernel
theorem d_Top_drawn_7 : decode b_Top_drawn 7 = .ok (.invokestatic 108, 3) := by decide +kernel
theorem d_Top_drawn_10 : decode b_Top_drawn 10 = .ok (.ifCond .eq 22, 3) := by decide +kernel
theorem d_Top_drawn_13 : decode b_Top_drawn 13 = .ok (.iload_n 2, 1) := by decide +kernel
theorem d_Top_drawn_14 : decode b_Top_drawn 14 = .ok (.bipush 10, 2) := by decide +kernel
theorem d_Top_drawn_16 : decode b_Top_drawn 16 = .ok (.irem, 1) := by decide +kernel
theorem d_Top_drawn_17 : decode b_Top_drawn 17 = .ok (.invokestatic 154, 3) := by decide +kernel
theorem d_Top_drawn_20 : decode b_Top_drawn 20 = .ok (.ifCond .eq 12, 3) := by decide +kernel
theorem d_Top_drawn_23 : decode b_Top_drawn 23 = .ok (.iload_n 3, 1) := by decide +kernel
theorem d_Top_drawn_24 : decode b_Top_drawn 24 = .ok (.iconst 0, 1) := by decide +kernel
theorem d_Top_drawn_25 : decode b_Top_drawn 25 = .ok (.iconst 1, 1) := by decide +kernel
theorem d_Top_drawn_26 : decode b_Top_drawn 26 = .ok (.invokestatic 108, 3) := by decide +kernel
theorem d_Top_drawn_29 : decode b_Top_drawn 29 = .ok (.ifCond .ne 5, 3) := by decide +kernel
theorem d_Top_drawn_32 : decode b_Top_drawn 32 = .ok (.iconst (-1), 1) := by decide +kernel
theorem d_Top_drawn_33 : decode b_Top_drawn 33 = .ok (.ireturn, 1) := by decide +kernel
theorem d_Top_drawn_34 : decode b_Top_drawn 34 = .ok (.aload_n 0, 1) := by decide +kernel
theorem d_Top_drawn_35 : decode b_Top_drawn 35 = .ok (.getfield 35, 3) := by decide +kernel
theorem d_Top_drawn_38 : decode b_Top_drawn 38 = .ok (.iload_n 2, 1) := by decide +kernel
theorem d_Top_drawn_39 : decode b_Top_drawn 39 = .ok (.bipush 10, 2) := by decide +kernel
theorem d_Top_drawn_41 : decode b_Top_drawn 41 = .ok (.irem, 1) := by decide +kernel
theorem d_Top_drawn_42 : decode b_Top_drawn 42 = .ok (.invokevirtual 194, 3) := by decide +kernel
theorem d_Top_drawn_45 : decode b_Top_drawn 45 = .ok (.iload_n 1, 1) := by decide +kernel
theorem d_Top_drawn_46 : decode b_Top_drawn 46 = .ok (.istore 4, 2) := by decide +kernel
theorem d_Top_drawn_48 : decode b_Top_drawn 48 = .ok (.iconst 0, 1) := by decide +kernel
theorem d_Top_drawn_49 : decode b_Top_drawn 49 = .ok (.istore 5, 2) := by decide +kernel
theorem d_Top_drawn_51 : decode b_Top_drawn 51 = .ok (.iconst 0, 1) := by decide +kernel
theorem d_Top_drawn_52 : decode b_Top_drawn 52 = .ok (.istore 6, 2) := by decide +kernel
theorem d_Top_drawn_54 : decode b_Top_drawn 54 = .ok (.iconst 0, 1) := by decide +kernel
theorem d_Top_drawn_55 : decode b_Top_drawn 55 = .ok (.istore 7, 2) := by decide +kernel
theorem d_Top_drawn_57 : decode b_Top_drawn 57 = .ok (.iload 7, 2) := by decide +kernel
theorem d_Top_drawn_59 : decode b_Top_drawn 59 = .ok (.iload_n 2, 1) := by decide +kernel
theorem d_Top_drawn_60 : decode b_Top_drawn 60 = .ok (.bipush 10, 2) := by decide +kernel
theorem d_Top_drawn_62 : decode b_Top_drawn 62 = .ok (.idiv, 1) := by decide +kernel
theorem d_Top_drawn_63 : decode b_Top_drawn 63 = .ok (.if_icmp .ge 52, 3) := by decide +kernel
theorem d_Top_drawn_66 : decode b_Top_drawn 66 = .ok (.aload_n 0, 1) := by decide +kernel
theorem d_Top_drawn_67 : decode b_Top_drawn 67 = .ok (.getfield 35, 3) := by decide +kernel
theorem d_Top_drawn_70 : decode b_Top_drawn 70 = .ok (.iload 4, 2) := by decide +kernel
theorem d_Top_drawn_72 : decode b_Top_drawn 72 = .ok (.invokevirtual 293, 3) := by decide +kernel
theorem d_Top_drawn_75 : decode b_Top_drawn 75 = .ok (.istore 4, 2) := by decide +kernel
theorem d_Top_drawn_77 : decode b_Top_drawn 77 = .ok (.iload 5, 2) := by decide +kernel
theorem d_Top_drawn_79 : decode b_Top_drawn 79 = .ok (.aload_n 0, 1) := by decide +kernel
theorem d_Top_drawn_80 : decode b_Top_drawn 80 = .ok (.getfield 35, 3) := by decide +kernel
theorem d_Top_drawn_83 : decode b_Top_drawn 83 = .ok (.invokevirtual 173, 3) := by decide +kernel
theorem d_Top_drawn_86 : decode b_Top_drawn 86 = .ok (.iadd, 1) := by decide +kernel
theorem d_Top_drawn_87 : decode b_Top_drawn 87 = .ok (.istore 5, 2) := by decide +kernel
theorem d_Top_drawn_89 : decode b_Top_drawn 89 = .ok (.iload 6, 2) := by decide +kernel
theorem d_Top_drawn_91 : decode b_Top_drawn 91 = .ok (.aload_n 0, 1) := by decide +kernel
theorem d_Top_drawn_92 : decode b_Top_drawn 92 = .ok (.getfield 35, 3) := by decide +kernel
theorem d_Top_drawn_95 : decode b_Top_drawn 95 = .ok (.invokevirtual 176, 3) := by decide +kernel
theorem d_Top_drawn_98 : decode b_Top_drawn 98 = .ok (.ifCond .ne 7, 3) := by decide +kernel
theorem d_Top_drawn_101 : decode b_Top_drawn 101 = .ok (.iconst 0, 1) := by decide +kernel
theorem d_Top_drawn_102 : decode b_Top_drawn 102 = .ok (.goto 4, 3) := by decide +kernel
theorem d_Top_drawn_105 : decode b_Top_drawn 105 = .ok (.iconst 1, 1) := by decide +kernel
theorem d_Top_drawn_106 : decode b_Top_drawn 106 = .ok (.iadd, 1) := by decide +kernel
theorem d_Top_drawn_107 : decode b_Top_drawn 107 = .ok (.istore 6, 2) := by decide +kernel
theorem d_Top_drawn_109 : decode b_Top_drawn 109 = .ok (.iinc 7 1, 3) := by decide +kernel
theorem d_Top_drawn_112 : decode b_Top_drawn 112 = .ok (.goto (-55), 3) := by decide +kernel
theorem d_Top_drawn_115 : decode b_Top_drawn 115 = .ok (.iload_n 3, 1) := by decide +kernel
theorem d_Top_drawn_116 : decode b_Top_drawn 116 = .ok (.ifCond .ne 8, 3) := by decide +kernel
theorem d_Top_drawn_119 : decode b_Top_drawn 119 = .ok (.iload 5, 2) := by decide +kernel
theorem d_Top_drawn_121 : decode b_Top_drawn 121 = .ok (.goto 5, 3) := by decide +kernel
theorem d_Top_drawn_124 : decode b_Top_drawn 124 = .ok (.iload 6, 2) := by decide +kernel
theorem d_Top_drawn_126 : decode b_Top_drawn 126 = .ok (.ireturn, 1) := by decide +kernel
theorem d_Top_isShelf_0 : decode b_Top_isShelf 0 = .ok (.iload_n 0, 1) := by decide +kernel
theorem d_Top_isShelf_1 : decode b_Top_isShelf 1 = .ok (.iconst 0, 1) := by decide +kernel
theorem d_Top_isShelf_2 : decode b_Top_isShelf 2 = .ok (.iconst 5, 1) := by decide +kernel
theorem d_Top_isShelf_3 : decode b_Top_isShelf 3 = .ok (.invokestatic 108, 3) := by decide +kernel
theorem d_Top_isShelf_6 : decode b_Top_isShelf 6 = .ok (.ireturn, 1) := by decide +kernel
theorem d_Shelf_hasPlace_0 : decode b_Shelf_hasPlace 0 = .ok (.aload_n 0, 1) := by decide +kernel
theorem d_Shelf_hasPlace_1 : decode b_Shelf_hasPlace 1 = .ok (.invokevirtual 22, 3) := by decide +kernel
theorem d_Shelf_hasPlace_4 : decode b_Shelf_hasPlace 4 = .ok (.ifCond .eq 21, 3) := by decide +kernel
theorem d_Shelf_hasPlace_7 : decode b_Shelf_hasPlace 7 = .ok (.iload_n 1, 1) := by decide +kernel
theorem d_Shelf_hasPlace_8 : decode b_Shelf_hasPlace 8 = .ok (.iconst 0, 1) := by decide +kernel
theorem d_Shelf_hasPlace_9 : decode b_Shelf_hasPlace 9 = .ok (.aload_n 0, 1) := by decide +kernel
theorem d_Shelf_hasPlace_10 : decode b_Shelf_hasPlace 10 = .ok (.getfield 26, 3) := by decide +kernel
theorem d_Shelf_hasPlace_13 : decode b_Shelf_hasPlace 13 = .ok (.iconst 1, 1) := by decide +kernel
theorem d_Shelf_hasPlace_14 : decode b_Shelf_hasPlace 14 = .ok (.isub, 1) := by decide +kernel
theorem d_Shelf_hasPlace_15 : decode b_Shelf_hasPlace 15 = .ok (.invokestatic 29, 3) := by decide +kernel
theorem d_Shelf_hasPlace_18 : decode b_Shelf_hasPlace 18 = .ok (.ifCond .eq 7, 3) := by decide +kernel
theorem d_Shelf_hasPlace_21 : decode b_Shelf_hasPlace 21 = .ok (.iconst 1, 1) := by decide +kernel
theorem d_Shelf_hasPlace_22 : decode b_Shelf_hasPlace 22 = .ok (.goto 4, 3) := by decide +kernel
theorem d_Shelf_hasPlace_25 : decode b_Shelf_hasPlace 25 = .ok (.iconst 0, 1) := by decide +kernel
theorem d_Shelf_hasPlace_26 : decode b_Shelf_hasPlace 26 = .ok (.ireturn, 1) := by decide +kernel
theorem d_Top_placeRefusal_0 : decode b_Top_placeRefusal 0 = .ok (.iload_n 1, 1) := by decide +kernel
theorem d_Top_placeRefusal_1 : decode b_Top_placeRefusal 1 = .ok (.invokestatic 104, 3) := by decide +kernel
theorem d_Top_placeRefusal_4 : decode b_Top_placeRefusal 4 = .ok (.ifCond .ne 5, 3) := by decide +kernel
theorem d_Top_placeRefusal_7 : decode b_Top_placeRefusal 7 = .ok (.iconst (-1), 1) := by decide +kernel
theorem d_Top_placeRefusal_8 : decode b_Top_placeRefusal 8 = .ok (.ireturn, 1) := by decide +kernel
theorem d_Top_placeRefusal_9 : decode b_Top_placeRefusal 9 = .ok (.aload_n 0, 1) := by decide +kernel
theorem d_Top_placeRefusal_10 : decode b_Top_placeRefusal 10 = .ok (.getfield 87, 3) := by decide +kernel
theorem d_Top_placeRefusal_13 : decode b_Top_placeRefusal 13 = .ok (.iload_n 1, 1) := by decide +kernel
theorem d_Top_placeRefusal_14 : decode b_Top_placeRefusal 14 = .ok (.aaload, 1) := by decide +kernel
theorem d_Top_placeRefusal_15 : decode b_Top_placeRefusal 15 = .ok (.astore_n 3, 1) := by decide +kernel
theorem d_Top_placeRefusal_16 : decode b_Top_placeRefusal 16 = .ok (.aload_n 3, 1) := by decide +kernel
theorem d_Top_placeRefusal_17 : decode b_Top_placeRefusal 17 = .ok (.getfield 368, 3) := by decide +kernel
theorem d_Top_placeRefusal_20 : decode b_Top_placeRefusal 20 = .ok (.bipush (-2), 2) := by decide +kernel
theorem d_Top_placeRefusal_22 : decode b_Top_placeRefusal 22 = .ok (.if_icmp .ne 6, 3) := by decide +kernel
theorem d_Top_placeRefusal_25 : decode b_Top_placeRefusal 25 = .ok (.bipush (-11), 2) := by decide +kernel
theorem d_Top_placeRefusal_27 : decode b_Top_placeRefusal 27 = .ok (.ireturn, 1) := by decide +kernel
theorem d_Top_placeRefusal_28 : decode b_Top_placeRefusal 28 = .ok (.aload_n 3, 1) := by decide +kernel
theorem d_Top_placeRefusal_29 : decode b_Top_placeRefusal 29 = .ok (.invokevirtual 371, 3) := by decide +kernel
theorem d_Top_placeRefusal_32 : decode b_Top_placeRefusal 32 = .ok (.ifCond .ne 6, 3) := by decide +kernel
theorem d_Top_placeRefusal_35 : decode b_Top_placeRefusal 35 = .ok (.bipush (-12), 2) := by decide +kernel
theorem d_Top_placeRefusal_37 : decode b_Top_placeRefusal 37 = .ok (.ireturn, 1) := by decide +kernel
theorem d_Top_placeRefusal_38 : decode b_Top_placeRefusal 38 = .ok (.aload_n 3, 1) := by decide +kernel
theorem d_Top_placeRefusal_39 : decode b_Top_placeRefusal 39 = .ok (.iload_n 2, 1) := by decide +kernel
theorem d_Top_placeRefusal_40 : decode b_Top_placeRefusal 40 = .ok (.invokevirtual 401, 3) := by decide +kernel
theorem d_Top_placeRefusal_43 : decode b_Top_placeRefusal 43 = .ok (.ifCond .eq 7, 3) := by decide +kernel
theorem d_Top_placeRefusal_46 : decode b_Top_placeRefusal 46 = .ok (.iconst 0, 1) := by decide +kernel
theorem d_Top_placeRefusal_47 : decode b_Top_placeRefusal 47 = .ok (.goto 5, 3) := by decide +kernel
theorem d_Top_placeRefusal_50 : decode b_Top_placeRefusal 50 = .ok (.bipush (-13), 2) := by decide +kernel
theorem d_Top_placeRefusal_52 : decode b_Top_placeRefusal 52 = .ok (.ireturn, 1) := by decide +kernel
theorem d_Top_element_0 : decode b_Top_element 0 = .ok (.aload_n 0, 1) := by decide +kernel
theorem d_Top_element_1 : decode b_Top_element 1 = .ok (.iload_n 1, 1) := by decide +kernel
theorem d_Top_element_2 : decode b_Top_element 2 = .ok (.iload_n 2, 1) := by decide +kernel
theorem d_Top_element_3 : decode b_Top_element 3 = .ok (.invokevirtual 354, 3) := by decide +kernel
theorem d_Top_element_6 : decode b_Top_element 6 = .ok (.ifCond .ne 17, 3) := by decide +kernel
theorem d_Top_element_9 : decode b_Top_element 9 = .ok (.aload_n 0, 1) := by decide +kernel
theorem d_Top_element_10 : decode b_Top_element 10 = .ok (.getfield 87, 3) := by decide +kernel
theorem d_Top_element_13 : decode b_Top_element 13 = .ok (.iload_n 1, 1) := by decide +kernel
theorem d_Top_element_14 : decode b_Top_element 14 = .ok (.aaload, 1) := by decide +kernel
theorem d_Top_element_15 : decode b_Top_element 15 = .ok (.getfield 360, 3) := by decide +kernel
theorem d_Top_element_18 : decode b_Top_element 18 = .ok (.iload_n 2, 1) := by decide +kernel
theorem d_Top_element_19 : decode b_Top_element 19 = .ok (.laload, 1) := by decide +kernel
theorem d_Top_element_20 : decode b_Top_element 20 = .ok (.goto 6, 3) := by decide +kernel
theorem d_Top_element_23 : decode b_Top_element 23 = .ok (.ldc2_w 366, 3) := by decide +kernel
theorem d_Top_element_26 : decode b_Top_element 26 = .ok (.lreturn, 1) := by decide +kernel
theorem d_Tape_isFull_0 : decode b_Tape_isFull 0 = .ok (.aload_n 0, 1) := by decide +kernel
theorem d_Tape_isFull_1 : decode b_Tape_isFull 1 = .ok (.getfield 23, 3) := by decide +kernel
theorem d_Tape_isFull_4 : decode b_Tape_isFull 4 = .ok (.bipush 120, 2) := by decide +kernel
theorem d_Tape_isFull_6 : decode b_Tape_isFull 6 = .ok (.if_icmp .lt 7, 3) := by decide +kernel
theorem d_Tape_isFull_9 : decode b_Tape_isFull 9 = .ok (.iconst 1, 1) := by decide +kernel
theorem d_Tape_isFull_10 : decode b_Tape_isFull 10 = .ok (.goto 4, 3) := by decide +kernel
theorem d_Tape_isFull_13 : decode b_Tape_isFull 13 = .ok (.iconst 0, 1) := by decide +kernel
theorem d_Tape_isFull_14 : decode b_Tape_isFull 14 = .ok (.ireturn, 1) := by decide +kernel
theorem d_Tape_add_0 : decode b_Tape_add 0 = .ok (.aload_n 0, 1) := by decide +kernel
theorem d_Tape_add_1 : decode b_Tape_add 1 = .ok (.invokevirtual 27, 3) := by decide +kernel
theorem d_Tape_add_4 : decode b_Tape_add 4 = .ok (.ifCond .eq 6, 3) := by decide +kernel
theorem d_Tape_add_7 : decode b_Tape_add 7 = .ok (.bipush (-3), 2) := by decide +kernel
theorem d_Tape_add_9 : decode b_Tape_add 9 = .ok (.ireturn, 1) := by decide +kernel
theorem d_Tape_add_10 : decode b_Tape_add 10 = .ok (.aload_n 0, 1) := by decide +kernel
theorem d_Tape_add_11 : decode b_Tape_add 11 = .ok (.getfield 11, 3) := by decide +kernel
theorem d_Tape_add_14 : decode b_Tape_add 14 = .ok (.aload_n 0, 1) := by decide +kernel
theorem d_Tape_add_15 : decode b_Tape_add 15 = .ok (.getfield 23, 3) := by decide +kernel
theorem d_Tape_add_18 : decode b_Tape_add 18 = .ok (.iload_n 1, 1) := by decide +kernel
theorem d_Tape_add_19 : decode b_Tape_add 19 = .ok (.iastore, 1) := by decide +kernel
theorem d_Tape_add_20 : decode b_Tape_add 20 = .ok (.aload_n 0, 1) := by decide +kernel
theorem d_Tape_add_21 : decode b_Tape_add 21 = .ok (.dup, 1) := by decide +kernel
theorem d_Tape_add_22 : decode b_Tape_add 22 = .ok (.getfield 23, 3) := by decide +kernel
theorem d_Tape_add_25 : decode b_Tape_add 25 = .ok (.iconst 1, 1) := by decide +kernel
theorem d_Tape_add_26 : decode b_Tape_add 26 = .ok (.iadd, 1) := by decide +kernel
theorem d_Tape_add_27 : decode b_Tape_add 27 = .ok (.putfield 23, 3) := by decide +kernel
theorem d_Tape_add_30 : decode b_Tape_add 30 = .ok (.aload_n 0, 1) := by decide +kernel
theorem d_Tape_add_31 : decode b_Tape_add 31 = .ok (.getfield 23, 3) := by decide +kernel
theorem d_Tape_add_34 : decode b_Tape_add 34 = .ok (.ireturn, 1) := by decide +kernel
theorem d_Top_feed_0 : decode b_Top_feed 0 = .ok (.iload_n 1, 1) := by decide +kernel
theorem d_Top_feed_1 : decode b_Top_feed 1 = .ok (.iconst 0, 1) := by decide +kernel
theorem d_Top_feed_2 : decode b_Top_feed 2 = .ok (.sipush 255, 3) := by decide +kernel
theorem d_Top_feed_5 : decode b_Top_feed 5 = .ok (.invokestatic 108, 3) := by decide +kernel
theorem d_Top_feed_8 : decode b_Top_feed 8 = .ok (.ifCond .ne 5, 3) := by decide +kernel
theorem d_Top_feed_11 : decode b_Top_feed 11 = .ok (.iconst (-1), 1) := by decide +kernel
theorem d_Top_feed_12 : decode b_Top_feed 12 = .ok (.ireturn, 1) := by decide +kernel
theorem d_Top_feed_13 : decode b_Top_feed 13 = .ok (.aload_n 0, 1) := by decide +kernel
theorem d_Top_feed_14 : decode b_Top_feed 14 = .ok (.getfield 19, 3) := by decide +kernel
theorem d_Top_feed_17 : decode b_Top_feed 17 = .ok (.invokevirtual 140, 3) := by decide +kernel
theorem d_Top_feed_20 : decode b_Top_feed 20 = .ok (.ifCond .eq 8, 3) := by decide +kernel
theorem d_Top_feed_23 : decode b_Top_feed 23 = .ok (.bipush (-3), 2) := by decide +kernel
theorem d_Top_feed_25 : decode b_Top_feed 25 = .ok (.goto 11, 3) := by decide +kernel
theorem d_Top_feed_28 : decode b_Top_feed 28 = .ok (.aload_n 0, 1) := by decide +kernel
theorem d_Top_feed_29 : decode b_Top_feed 29 = .ok (.getfield 19, 3) := by decide +kernel
theorem d_Top_feed_32 : decode b_Top_feed 32 = .ok (.iload_n 1, 1) := by decide +kernel
theorem d_Top_feed_33 : decode b_Top_feed 33 = .ok (.invokevirtual 141, 3) := by decide +kernel
theorem d_Top_feed_36 : decode b_Top_feed 36 = .ok (.ireturn, 1) := by decide +kernel
theorem d_Top_firstUnlike_0 : decode b_Top_firstUnlike 0 = .ok (.iconst 0, 1) := by decide +kernel
theorem d_Top_firstUnlike_1 : decode b_Top_firstUnlike 1 = .ok (.istore_n 3, 1) := by decide +kernel
theorem d_Top_firstUnlike_2 : decode b_Top_firstUnlike 2 = .ok (.iload_n 3, 1) := by decide +kernel
theorem d_Top_firstUnlike_3 : decode b_Top_firstUnlike 3 = .ok (.aload_n 0, 1) := by decide +kernel
theorem d_Top_firstUnlike_4 : decode b_Top_firstUnlike 4 = .ok (.getfield 10, 3) := by decide +kernel
theorem d_Top_firstUnlike_7 : decode b_Top_firstUnlike 7 = .ok (.getfield 198, 3) := by decide +kernel
theorem d_Top_firstUnlike_10 : decode b_Top_firstUnlike 10 = .ok (.if_icmp .ge 46, 3) := by decide +kernel
theorem d_Top_firstUnlike_13 : decode b_Top_firstUnlike 13 = .ok (.aload_n 1, 1) := by decide +kernel
theorem d_Top_firstUnlike_14 : decode b_Top_firstUnlike 14 = .ok (.iload_n 3, 1) := by decide +kernel
theorem d_Top_firstUnlike_15 : decode b_Top_firstUnlike 15 = .ok (.invokevirtual 401, 3) := by decide +kernel
theorem d_Top_firstUnlike_18 : decode b_Top_firstUnlike 18 = .ok (.ifCond .eq 38, 3) := by decide +kernel
theorem d_Top_firstUnlike_21 : decode b_Top_firstUnlike 21 = .ok (.iload_n 2, 1) := by decide +kernel
theorem d_Top_firstUnlike_22 : decode b_Top_firstUnlike 22 = .ok (.iload_n 3, 1) := by decide +kernel
theorem d_Top_firstUnlike_23 : decode b_Top_firstUnlike 23 = .ok (.invokestatic 182, 3) := by decide +kernel
theorem d_Top_firstUnlike_26 : decode b_Top_firstUnlike 26 = .ok (.ifCond .eq 24, 3) := by decide +kernel
theorem d_Top_firstUnlike_29 : decode b_Top_firstUnlike 29 = .ok (.aload_n 0, 1) := by decide +kernel
theorem d_Top_firstUnlike_30 : decode b_Top_firstUnlike 30 = .ok (.getfield 35, 3) := by decide +kernel
theorem d_Top_firstUnlike_33 : decode b_Top_firstUnlike 33 = .ok (.iload_n 3, 1) := by decide +kernel
theorem d_Top_firstUnlike_34 : decode b_Top_firstUnlike 34 = .ok (.invokevirtual 185, 3) := by decide +kernel
theorem d_Top_firstUnlike_37 : decode b_Top_firstUnlike 37 = .ok (.i2l, 1) := by decide +kernel
theorem d_Top_firstUnlike_38 : decode b_Top_firstUnlike 38 = .ok (.aload_n 1, 1) := by decide +kernel
theorem d_Top_firstUnlike_39 : decode b_Top_firstUnlike 39 = .ok (.getfield 360, 3) := by decide +kernel
theorem d_Top_firstUnlike_42 : decode b_Top_firstUnlike 42 = .ok (.iload_n 3, 1) := by decide +kernel
theorem d_Top_firstUnlike_43 : decode b_Top_firstUnlike 43 = .ok (.laload, 1) := by decide +kernel
theorem d_Top_firstUnlike_44 : decode b_Top_firstUnlike 44 = .ok (.lcmp, 1) := by decide +kernel
theorem d_Top_firstUnlike_45 : decode b_Top_firstUnlike 45 = .ok (.ifCond .eq 5, 3) := by decide +kernel
theorem d_Top_firstUnlike_48 : decode b_Top_firstUnlike 48 = .ok (.iload_n 3, 1) := by decide +kernel
theorem d_Top_firstUnlike_49 : decode b_Top_firstUnlike 49 = .ok (.ireturn, 1) := by decide +kernel
theorem d_Top_firstUnlike_50 : decode b_Top_firstUnlike 50 = .ok (.iinc 3 1, 3) := by decide +kernel
theorem d_Top_firstUnlike_53 : decode b_Top_firstUnlike 53 = .ok (.goto (-51), 3) := by decide +kernel
theorem d_Top_firstUnlike_56 : decode b_Top_firstUnlike 56 = .ok (.bipush (-2), 2) := by decide +kernel
theorem d_Top_firstUnlike_58 : decode b_Top_firstUnlike 58 = .ok (.ireturn, 1) := by decide +kernel
theorem d_Tub_dyeOf_0 : decode b_Tub_dyeOf 0 = .ok (.aload_n 0, 1) := by decide +kernel
theorem d_Tub_dyeOf_1 : decode b_Tub_dyeOf 1 = .ok (.iload_n 1, 1) := by decide +kernel
theorem d_Tub_dyeOf_2 : decode b_Tub_dyeOf 2 = .ok (.aload_n 0, 1) := by decide +kernel
theorem d_Tub_dyeOf_3 : decode b_Tub_dyeOf 3 = .ok (.getfield 19, 3) := by decide +kernel
theorem d_Tub_dyeOf_6 : decode b_Tub_dyeOf 6 = .ok (.iload_n 1, 1) := by decide +kernel
theorem d_Tub_dyeOf_7 : decode b_Tub_dyeOf 7 = .ok (.iconst 1, 1) := by decide +kernel
theorem d_Tub_dyeOf_8 : decode b_Tub_dyeOf 8 = .ok (.invokevirtual 29, 3) := by decide +kernel
theorem d_Tub_dyeOf_11 : decode b_Tub_dyeOf 11 = .ok (.aload_n 0, 1) := by decide +kernel
theorem d_Tub_dyeOf_12 : decode b_Tub_dyeOf 12 = .ok (.getfield 19, 3) := by decide +kernel
theorem d_Tub_dyeOf_15 : decode b_Tub_dyeOf 15 = .ok (.iload_n 1, 1) := by decide +kernel
theorem d_Tub_dyeOf_16 : decode b_Tub_dyeOf 16 = .ok (.iconst 2, 1) := by decide +kernel
theorem d_Tub_dyeOf_17 : decode b_Tub_dyeOf 17 = .ok (.invokevirtual 29, 3) := by decide +kernel
theorem d_Tub_dyeOf_20 : decode b_Tub_dyeOf 20 = .ok (.iload_n 2, 1) := by decide +kernel
theorem d_Tub_dyeOf_21 : decode b_Tub_dyeOf 21 = .ok (.invokevirtual 33, 3) := by decide +kernel
theorem d_Tub_dyeOf_24 : decode b_Tub_dyeOf 24 = .ok (.ireturn, 1) := by decide +kernel
theorem d_Top_gives_0 : decode b_Top_gives 0 = .ok (.aload_n 0, 1) := by decide +kernel
theorem d_Top_gives_1 : decode b_Top_gives 1 = .ok (.getfield 10, 3) := by decide +kernel
theorem d_Top_gives_4 : decode b_Top_gives 4 = .ok (.iload_n 1, 1) := by decide +kernel
theorem d_Top_gives_5 : decode b_Top_gives 5 = .ok (.invokevirtual 134, 3) := by decide +kernel
theorem d_Top_gives_8 : decode b_Top_gives 8 = .ok (.ifCond .eq 22, 3) := by decide +kernel
theorem d_Top_gives_11 : decode b_Top_gives 11 = .ok (.iload_n 2, 1) := by decide +kernel
theorem d_Top_gives_12 : decode b_Top_gives 12 = .ok (.invokestatic 154, 3) := by decide +kernel
theorem d_Top_gives_15 : decode b_Top_gives 15 = .ok (.ifCond .eq 15, 3) := by decide +kernel
theorem d_Top_gives_18 : decode b_Top_gives 18 = .ok (.aload_n 0, 1) := by decide +kernel
theorem d_Top_gives_19 : decode b_Top_gives 19 = .ok (.getfield 35, 3) := by decide +kernel
theorem d_Top_gives_22 : decode b_Top_gives 22 = .ok (.iload_n 1, 1) := by decide +kernel
theorem d_Top_gives_23 : decode b_Top_gives 23 = .ok (.iload_n 2, 1) := by decide +kernel
theorem d_Top_gives_24 : decode b_Top_gives 24 = .ok (.invokevirtual 157, 3) := by decide +kernel
theorem d_Top_gives_27 : decode b_Top_gives 27 = .ok (.goto 4, 3) := by decide +kernel
theorem d_Top_gives_30 : decode b_Top_gives 30 = .ok (.iconst (-1), 1) := by decide +kernel
theorem d_Top_gives_31 : decode b_Top_gives 31 = .ok (.ireturn, 1) := by decide +kernel
theorem d_Top_guests_0 : decode b_Top_guests 0 = .ok (.aload_n 0, 1) := by decide +kernel
theorem d_Top_guests_1 : decode b_Top_guests 1 = .ok (.getfield 35, 3) := by decide +kernel
theorem d_Top_guests_4 : decode b_Top_guests 4 = .ok (.iload_n 3, 1) := by decide +kernel
theorem d_Top_guests_5 : decode b_Top_guests 5 = .ok (.bipush 10, 2) := by decide +kernel
theorem d_Top_guests_7 : decode b_Top_guests 7 = .ok (.idiv, 1) := by decide +kernel
theorem d_Top_guests_8 : decode b_Top_guests 8 = .ok (.invokevirtual 194, 3) := by decide +kernel
theorem d_Top_guests_11 : decode b_Top_guests 11 = .ok (.iconst 0, 1) := by decide +kernel
theorem d_Top_guests_12 : decode b_Top_guests 12 = .ok (.istore 4, 2) := by decide +kernel
theorem d_Top_guests_14 : decode b_Top_guests 14 = .ok (.iconst 0, 1) := by decide +kernel
theorem d_Top_guests_15 : decode b_Top_guests 15 = .ok (.istore 5, 2) := by decide +kernel
theorem d_Top_guests_17 : decode b_Top_guests 17 = .ok (.iload 5, 2) := by decide +kernel
theorem d_Top_guests_19 : decode b_Top_guests 19 = .ok (.aload_n 0, 1) := by decide +kernel
theorem d_Top_guests_20 : decode b_Top_guests 20 = .ok (.getfield 10, 3) := by decide +kernel
theorem d_Top_guests_23 : decode b_Top_guests 23 = .ok (.getfield 198, 3) := by decide +kernel
theorem d_Top_guests_26 : decode b_Top_guests 26 = .ok (.if_icmp .ge 66, 3) := by decide +kernel
theorem d_Top_guests_29 : decode b_Top_guests 29 = .ok (.iload_n 2, 1) := by decide +kernel
theorem d_Top_guests_30 : decode b_Top_guests 30 = .ok (.iload 5, 2) := by decide +kernel
theorem d_Top_guests_32 : decode b_Top_guests 32 = .ok (.invokestatic 182, 3) := by decide +kernel
theorem d_Top_guests_35 : decode b_Top_guests 35 = .ok (.ifCond .ne 51, 3) := by decide +kernel
theorem d_Top_guests_38 : decode b_Top_guests 38 = .ok (.aload_n 0, 1) := by decide +kernel
theorem d_Top_guests_39 : decode b_Top_guests 39 = .ok (.getfield 35, 3) := by decide +kernel
theorem d_Top_guests_42 : decode b_Top_guests 42 = .ok (.iload_n 2, 1) := by decide +kernel
theorem d_Top_guests_43 : decode b_Top_guests 43 = .ok (.iconst 1, 1) := by decide +kernel
theorem d_Top_guests_44 : decode b_Top_guests 44 = .ok (.iload 5, 2) := by decide +kernel
theorem d_Top_guests_46 : decode b_Top_guests 46 = .ok (.ishl, 1) := by decide +kernel
theorem d_Top_guests_47 : decode b_Top_guests 47 = .ok (.ior, 1) := by decide +kernel
theorem d_Top_guests_48 : decode b_Top_guests 48 = .ok (.aload_n 0, 1) := by decide +kernel
theorem d_Top_guests_49 : decode b_Top_guests 49 = .ok (.getfield 35, 3) := by decide +kernel
theorem d_Top_guests_52 : decode b_Top_guests 52 = .ok (.iload_n 3, 1) := by decide +kernel
theorem d_Top_guests_53 : decode b_Top_guests 53 = .ok (.bipush 10, 2) := by decide +kernel
theorem d_Top_guests_55 : decode b_Top_guests 55 = .ok (.irem, 1) := by decide +kernel
theorem d_Top_guests_56 : decode b_Top_guests 56 = .ok (.invokevirtual 204, 3) := by decide +kernel
theorem d_Top_guests_59 : decode b_Top_guests 59 = .ok (.invokevirtual 201, 3) := by decide +kernel
theorem d_Top_guests_62 : decode b_Top_guests 62 = .ok (.iload 4, 2) := by decide +kernel
theorem d_Top_guests_64 : decode b_Top_guests 64 = .ok (.aload_n 0, 1) := by decide +kernel
theorem d_Top_guests_65 : decode b_Top_guests 65 = .ok (.aload_n 1, 1) := by decide +kernel
theorem d_Top_guests_66 : decode b_Top_guests 66 = .ok (.iload_n 2, 1) := by decide +kernel
theorem d_Top_guests_67 : decode b_Top_guests 67 = .ok (.invokevirtual 280, 3) := by decide +kernel
theorem d_Top_guests_70 : decode b_Top_guests 70 = .ok (.bipush (-2), 2) := by decide +kernel
theorem d_Top_guests_72 : decode b_Top_guests 72 = .ok (.if_icmp .ne 10, 3) := by decide +kernel
theorem d_Top_guests_75 : decode b_Top_guests 75 = .ok (.iconst 1, 1) := by decide +kernel
theorem d_Top_guests_76 : decode b_Top_guests 76 = .ok (.iload 5, 2) := by decide +kernel
theorem d_Top_guests_78 : decode b_Top_guests 78 = .ok (.ishl, 1) := by decide +kernel
theorem d_Top_guests_79 : decode b_Top_guests 79 = .ok (.goto 4, 3) := by decide +kernel
theorem d_Top_guests_82 : decode b_Top_guests 82 = .ok (.iconst 0, 1) := by decide +kernel
theorem d_Top_guests_83 : decode b_Top_guests 83 = .ok (.ior, 1) := by decide +kernel
theorem d_Top_guests_84 : decode b_Top_guests 84 = .ok (.istore 4, 2) := by decide +kernel
theorem d_Top_guests_86 : decode b_Top_guests 86 = .ok (.iinc 5 1, 3) := by decide +kernel
theorem d_Top_guests_89 : decode b_Top_guests 89 = .ok (.goto (-72), 3) := by decide +kernel
theorem d_Top_guests_92 : decode b_Top_guests 92 = .ok (.iload 4, 2) := by decide +kernel
theorem d_Top_guests_94 : decode b_Top_guests 94 = .ok (.ireturn, 1) := by decide +kernel
theorem d_Top_isThingOrAll_0 : decode b_Top_isThingOrAll 0 = .ok (.iload_n 1, 1) := by decide +kernel
theorem d_Top_isThingOrAll_1 : decode b_Top_isThingOrAll 1 = .ok (.iconst (-1), 1) := by decide +kernel
theorem d_Top_isThingOrAll_2 : decode b_Top_isThingOrAll 2 = .ok (.if_icmp .eq 14, 3) := by decide +kernel
theorem d_Top_isThingOrAll_5 : decode b_Top_isThingOrAll 5 = .ok (.aload_n 0, 1) := by decide +kernel
theorem d_Top_isThingOrAll_6 : decode b_Top_isThingOrAll 6 = .ok (.getfield 10, 3) := by decide +kernel
theorem d_Top_isThingOrAll_9 : decode b_Top_isThingOrAll 9 = .ok (.iload_n 1, 1) := by decide +kernel
theorem d_Top_isThingOrAll_10 : decode b_Top_isThingOrAll 10 = .ok (.invokevirtual 134, 3) := by decide +kernel
theorem d_Top_isThingOrAll_13 : decode b_Top_isThingOrAll 13 = .ok (.ifCond .eq 7, 3) := by decide +kernel
theorem d_Top_isThingOrAll_16 : decode b_Top_isThingOrAll 16 = .ok (.iconst 1, 1) := by decide +kernel
theorem d_Top_isThingOrAll_17 : decode b_Top_isThingOrAll 17 = .ok (.goto 4, 3) := by decide +kernel
theorem d_Top_isThingOrAll_20 : decode b_Top_isThingOrAll 20 = .ok (.iconst 0, 1) := by decide +kernel
theorem d_Top_isThingOrAll_21 : decode b_Top_isThingOrAll 21 = .ok (.ireturn, 1) := by decide +kernel
theorem d_Heaps_fewestRuns_0 : decode b_Heaps_fewestRuns 0 = .ok (.aload_n 0, 1) := by decide +kernel
theorem d_Heaps_fewestRuns_1 : decode b_Heaps_fewestRuns 1 = .ok (.iload_n 1, 1) := by decide +kernel
theorem d_Heaps_fewestRuns_2 : decode b_Heaps_fewestRuns 2 = .ok (.invokevirtual 33, 3) := by decide +kernel
theorem d_Heaps_fewestRuns_5 : decode b_Heaps_fewestRuns 5 = .ok (.iconst 1, 1) := by decide +kernel
theorem d_Heaps_fewestRuns_6 : decode b_Heaps_fewestRuns 6 = .ok (.istore_n 3, 1) := by decide +kernel
theorem d_Heaps_fewestRuns_7 : decode b_Heaps_fewestRuns 7 = .ok (.iload_n 3, 1) := by decide +kernel
theorem d_Heaps_fewestRuns_8 : decode b_Heaps_fewestRuns 8 = .ok (.iconst 1, 1) := by decide +kernel
theorem d_Heaps_fewestRuns_9 : decode b_Heaps_fewestRuns 9 = .ok (.aload_n 0, 1) := by decide +kernel
theorem d_Heaps_fewestRuns_10 : decode b_Heaps_fewestRuns 10 = .ok (.getfield 37, 3) := by decide +kernel
theorem d_Heaps_fewestRuns_13 : decode b_Heaps_fewestRuns 13 = .ok (.ishl, 1) := by decide +kernel
theorem d_Heaps_fewestRuns_14 : decode b_Heaps_fewestRuns 14 = .ok (.if_icmp .ge 44, 3) := by decide +kernel
theorem d_Heaps_fewestRuns_17 : decode b_Heaps_fewestRuns 17 = .ok (.aload_n 0, 1) := by decide +kernel
theorem d_Heaps_fewestRuns_18 : decode b_Heaps_fewestRuns 18 = .ok (.getfield 29, 3) := by decide +kernel
theorem d_Heaps_fewestRuns_21 : decode b_Heaps_fewestRuns 21 = .ok (.aload_n 0, 1) := by decide +kernel
theorem d_Heaps_fewestRuns_22 : decode b_Heaps_fewestRuns 22 = .ok (.iload_n 3, 1) := by decide +kernel
theorem d_Heaps_fewestRuns_23 : decode b_Heaps_fewestRuns 23 = .ok (.invokevirtual 41, 3) := by decide +kernel
theorem d_Heaps_fewestRuns_26 : decode b_Heaps_fewestRuns 26 = .ok (.iconst 0, 1) := by decide +kernel
theorem d_Heaps_fewestRuns_27 : decode b_Heaps_fewestRuns 27 = .ok (.invokevirtual 45, 3) := by decide +kernel
theorem d_Heaps_fewestRuns_30 : decode b_Heaps_fewestRuns 30 = .ok (.aload_n 0, 1) := by decide +kernel
theorem d_Heaps_fewestRuns_31 : decode b_Heaps_fewestRuns 31 = .ok (.getfield 17, 3) := by decide +kernel
theorem d_Heaps_fewestRuns_34 : decode b_Heaps_fewestRuns 34 = .ok (.iload_n 3, 1) := by decide +kernel
theorem d_Heaps_fewestRuns_35 : decode b_Heaps_fewestRuns 35 = .ok (.aload_n 0, 1) := by decide +kernel
theorem d_Heaps_fewestRuns_36 : decode b_Heaps_fewestRuns 36 = .ok (.getfield 29, 3) := by decide +kernel
theorem d_Heaps_fewestRuns_39 : decode b_Heaps_fewestRuns 39 = .ok (.iload_n 2, 1) := by decide +kernel
theorem d_Heaps_fewestRuns_40 : decode b_Heaps_fewestRuns 40 = .ok (.invokevirtual 51, 3) := by decide +kernel
theorem d_Heaps_fewestRuns_43 : decode b_Heaps_fewestRuns 43 = .ok (.ifCond .eq 7, 3) := by decide +kernel
theorem d_Heaps_fewestRuns_46 : decode b_Heaps_fewestRuns 46 = .ok (.iconst 1, 1) := by decide +kernel
theorem d_Heaps_fewestRuns_47 : decode b_Heaps_fewestRuns 47 = .ok (.goto 4, 3) := by decide +kernel
theorem d_Heaps_fewestRuns_50 : decode b_Heaps_fewestRuns 50 = .ok (.iconst (-1), 1) := by decide +kernel
theorem d_Heaps_fewestRuns_51 : decode b_Heaps_fewestRuns 51 = .ok (.iastore, 1) := by decide +kernel
theorem d_Heaps_fewestRuns_52 : decode b_Heaps_fewestRuns 52 = .ok (.iinc 3 1, 3) := by decide +kernel
theorem d_Heaps_fewestRuns_55 : decode b_Heaps_fewestRuns 55 = .ok (.goto (-48), 3) := by decide +kernel
theorem d_Heaps_fewestRuns_58 : decode b_Heaps_fewestRuns 58 = .ok (.aload_n 0, 1) := by decide +kernel
theorem d_Heaps_fewestRuns_59 : decode b_Heaps_fewestRuns 59 = .ok (.bipush 8, 2) := by decide +kernel
theorem d_Heaps_fewestRuns_61 : decode b_Heaps_fewestRuns 61 = .ok (.invokevirtual 55, 3) := by decide +kernel
theorem d_Heaps_fewestRuns_64 : decode b_Heaps_fewestRuns 64 = .ok (.ireturn, 1) := by decide +kernel
theorem d_Heaps_runOf_0 : decode b_Heaps_runOf 0 = .ok (.iconst 0, 1) := by decide +kernel
theorem d_Heaps_runOf_1 : decode b_Heaps_runOf 1 = .ok (.istore_n 2, 1) := by decide +kernel
theorem d_Heaps_runOf_2 : decode b_Heaps_runOf 2 = .ok (.iload_n 2, 1) := by decide +kernel
theorem d_Heaps_runOf_3 : decode b_Heaps_runOf 3 = .ok (.aload_n 0, 1) := by decide +kernel
theorem d_Heaps_runOf_4 : decode b_Heaps_runOf 4 = .ok (.getfield 37, 3) := by decide +kernel
theorem d_Heaps_runOf_7 : decode b_Heaps_runOf 7 = .ok (.if_icmp .ge 26, 3) := by decide +kernel
theorem d_Heaps_runOf_10 : decode b_Heaps_runOf 10 = .ok (.aload_n 0, 1) := by decide +kernel
theorem d_Heaps_runOf_11 : decode b_Heaps_runOf 11 = .ok (.getfield 11, 3) := by decide +kernel
theorem d_Heaps_runOf_14 : decode b_Heaps_runOf 14 = .ok (.iload_n 2, 1) := by decide +kernel
theorem d_Heaps_runOf_15 : decode b_Heaps_runOf 15 = .ok (.iaload, 1) := by decide +kernel
theorem d_Heaps_runOf_16 : decode b_Heaps_runOf 16 = .ok (.iload_n 1, 1) := by decide +kernel
theorem d_Heaps_runOf_17 : decode b_Heaps_runOf 17 = .ok (.if_icmp .ne 10, 3) := by decide +kernel
theorem d_Heaps_runOf_20 : decode b_Heaps_runOf 20 = .ok (.aload_n 0, 1) := by decide +kernel
theorem d_Heaps_runOf_21 : decode b_Heaps_runOf 21 = .ok (.getfield 26, 3) := by decide +kernel
theorem d_Heaps_runOf_24 : decode b_Heaps_runOf 24 = .ok (.iload_n 2, 1) := by decide +kernel
theorem d_Heaps_runOf_25 : decode b_Heaps_runOf 25 = .ok (.iaload, 1) := by decide +kernel
theorem d_Heaps_runOf_26 : decode b_Heaps_runOf 26 = .ok (.ireturn, 1) := by decide +kernel
theorem d_Heaps_runOf_27 : decode b_Heaps_runOf 27 = .ok (.iinc 2 1, 3) := by decide +kernel
theorem d_Heaps_runOf_30 : decode b_Heaps_runOf 30 = .ok (.goto (-28), 3) := by decide +kernel
theorem d_Heaps_runOf_33 : decode b_Heaps_runOf 33 = .ok (.bipush (-2), 2) := by decide +kernel
theorem d_Heaps_runOf_35 : decode b_Heaps_runOf 35 = .ok (.ireturn, 1) := by decide +kernel
theorem d_Top_heaps_0 : decode b_Top_heaps 0 = .ok (.aload_n 0, 1) := by decide +kernel
theorem d_Top_heaps_1 : decode b_Top_heaps 1 = .ok (.iload_n 1, 1) := by decide +kernel
theorem d_Top_heaps_2 : decode b_Top_heaps 2 = .ok (.invokevirtual 160, 3) := by decide +kernel
theorem d_Top_heaps_5 : decode b_Top_heaps 5 = .ok (.ifCond .eq 18, 3) := by decide +kernel
theorem d_Top_heaps_8 : decode b_Top_heaps 8 = .ok (.iload_n 2, 1) := by decide +kernel
theorem d_Top_heaps_9 : decode b_Top_heaps 9 = .ok (.invokestatic 191, 3) := by decide +kernel
theorem d_Top_heaps_12 : decode b_Top_heaps 12 = .ok (.ifCond .eq 11, 3) := by decide +kernel
theorem d_Top_heaps_15 : decode b_Top_heaps 15 = .ok (.aload_n 0, 1) := by decide +kernel
theorem d_Top_heaps_16 : decode b_Top_heaps 16 = .ok (.iload_n 3, 1) := by decide +kernel
theorem d_Top_heaps_17 : decode b_Top_heaps 17 = .ok (.invokevirtual 207, 3) := by decide +kernel
theorem d_Top_heaps_20 : decode b_Top_heaps 20 = .ok (.ifCond .ne 5, 3) := by decide +kernel
theorem d_Top_heaps_23 : decode b_Top_heaps 23 = .ok (.iconst (-1), 1) := by decide +kernel
theorem d_Top_heaps_24 : decode b_Top_heaps 24 = .ok (.ireturn, 1) := by decide +kernel
theorem d_Top_heaps_25 : decode b_Top_heaps 25 = .ok (.iload_n 1, 1) := by decide +kernel
theorem d_Top_heaps_26 : decode b_Top_heaps 26 = .ok (.invokestatic 210, 3) := by decide +kernel
theorem d_Top_heaps_29 : decode b_Top_heaps 29 = .ok (.bipush 8, 2) := by decide +kernel
theorem d_Top_heaps_31 : decode b_Top_heaps 31 = .ok (.if_icmp .le 6, 3) := by decide +kernel
theorem d_Top_heaps_34 : decode b_Top_heaps 34 = .ok (.bipush (-5), 2) := by decide +kernel
theorem d_Top_heaps_36 : decode b_Top_heaps 36 = .ok (.ireturn, 1) := by decide +kernel
theorem d_Top_heaps_37 : decode b_Top_heaps 37 = .ok (.iload_n 3, 1) := by decide +kernel
theorem d_Top_heaps_38 : decode b_Top_heaps 38 = .ok (.iconst (-1), 1) := by decide +kernel
theorem d_Top_heaps_39 : decode b_Top_heaps 39 = .ok (.if_icmp .eq 14, 3) := by decide +kernel
theorem d_Top_heaps_42 : decode b_Top_heaps 42 = .ok (.iload_n 1, 1) := by decide +kernel
theorem d_Top_heaps_43 : decode b_Top_heaps 43 = .ok (.iload_n 3, 1) := by decide +kernel
theorem d_Top_heaps_44 : decode b_Top_heaps 44 = .ok (.invokestatic 182, 3) := by decide +kernel
theorem d_Top_heaps_47 : decode b_Top_heaps 47 = .ok (.ifCond .ne 6, 3) := by decide +kernel
theorem d_Top_heaps_50 : decode b_Top_heaps 50 = .ok (.bipush (-2), 2) := by decide +kernel
theorem d_Top_heaps_52 : decode b_Top_heaps 52 = .ok (.ireturn, 1) := by decide +kernel
theorem d_Top_heaps_53 : decode b_Top_heaps 53 = .ok (.aload_n 0, 1) := by decide +kernel
theorem d_Top_heaps_54 : decode b_Top_heaps 54 = .ok (.getfield 35, 3) := by decide +kernel
theorem d_Top_heaps_57 : decode b_Top_heaps 57 = .ok (.iload_n 2, 1) := by decide +kernel
theorem d_Top_heaps_58 : decode b_Top_heaps 58 = .ok (.bipush 100, 2) := by decide +kernel
theorem d_Top_heaps_60 : decode b_Top_heaps 60 = .ok (.idiv, 1) := by decide +kernel
theorem d_Top_heaps_61 : decode b_Top_heaps 61 = .ok (.invokevirtual 194, 3) := by decide +kernel
theorem d_Top_heaps_64 : decode b_Top_heaps 64 = .ok (.aload_n 0, 1) := by decide +kernel
theorem d_Top_heaps_65 : decode b_Top_heaps 65 = .ok (.getfield 44, 3) := by decide +kernel
theorem d_Top_heaps_68 : decode b_Top_heaps 68 = .ok (.iload_n 1, 1) := by decide +kernel
theorem d_Top_heaps_69 : decode b_Top_heaps 69 = .ok (.iload_n 2, 1) := by decide +kernel
theorem d_Top_heaps_70 : decode b_Top_heaps 70 = .ok (.bipush 100, 2) := by decide +kernel
theorem d_Top_heaps_72 : decode b_Top_heaps 72 = .ok (.irem, 1) := by decide +kernel
theorem d_Top_heaps_73 : decode b_Top_heaps 73 = .ok (.invokevirtual 215, 3) := by decide +kernel
theorem d_Top_heaps_76 : decode b_Top_heaps 76 = .ok (.ifCond .ne 6, 3) := by decide +kernel
theorem d_Top_heaps_79 : decode b_Top_heaps 79 = .ok (.bipush (-2), 2) := by decide +kernel
theorem d_Top_heaps_81 : decode b_Top_heaps 81 = .ok (.ireturn, 1) := by decide +kernel
theorem d_Top_heaps_82 : decode b_Top_heaps 82 = .ok (.iload_n 3, 1) := by decide +kernel
theorem d_Top_heaps_83 : decode b_Top_heaps 83 = .ok (.iconst (-1), 1) := by decide +kernel
theorem d_Top_heaps_84 : decode b_Top_heaps 84 = .ok (.if_icmp .ne 13, 3) := by decide +kernel
theorem d_Top_heaps_87 : decode b_Top_heaps 87 = .ok (.aload_n 0, 1) := by decide +kernel
theorem d_Top_heaps_88 : decode b_Top_heaps 88 = .ok (.getfield 44, 3) := by decide +kernel
theorem d_Top_heaps_91 : decode b_Top_heaps 91 = .ok (.getfield 218, 3) := by decide +kernel
theorem d_Top_heaps_94 : decode b_Top_heaps 94 = .ok (.goto 11, 3) := by decide +kernel
theorem d_Top_heaps_97 : decode b_Top_heaps 97 = .ok (.aload_n 0, 1) := by decide +kernel
theorem d_Top_heaps_98 : decode b_Top_heaps 98 = .ok (.getfield 44, 3) := by decide +kernel
theorem d_Top_heaps_101 : decode b_Top_heaps 101 = .ok (.iload_n 3, 1) := by decide +kernel
theorem d_Top_heaps_102 : decode b_Top_heaps 102 = .ok (.invokevirtual 221, 3) := by decide +kernel
theorem d_Top_heaps_105 : decode b_Top_heaps 105 = .ok (.ireturn, 1) := by decide +kernel
theorem d_Top_heat_0 : decode b_Top_heat 0 = .ok (.aload_n 0, 1) := by decide +kernel
theorem d_Top_heat_1 : decode b_Top_heat 1 = .ok (.iload_n 1, 1) := by decide +kernel
theorem d_Top_heat_2 : decode b_Top_heat 2 = .ok (.invokevirtual 160, 3) := by decide +kernel
theorem d_Top_heat_5 : decode b_Top_heat 5 = .ok (.ifCond .eq 13, 3) := by decide +kernel
theorem d_Top_heat_8 : decode b_Top_heat 8 = .ok (.iload_n 2, 1) := by decide +kernel
theorem d_Top_heat_9 : decode b_Top_heat 9 = .ok (.iconst 0, 1) := by decide +kernel
theorem d_Top_heat_10 : decode b_Top_heat 10 = .ok (.bipush 99, 2) := by decide +kernel
theorem d_Top_heat_12 : decode b_Top_heat 12 = .ok (.invokestatic 108, 3) := by decide +kernel
theorem d_Top_heat_15 : decode b_Top_heat 15 = .ok (.ifCond .ne 5, 3) := by decide +kernel
theorem d_Top_heat_18 : decode b_Top_heat 18 = .ok (.iconst (-1), 1) := by decide +kernel
theorem d_Top_heat_19 : decode b_Top_heat 19 = .ok (.ireturn, 1) := by decide +kernel
theorem d_Top_heat_20 : decode b_Top_heat 20 = .ok (.bipush 9, 2) := by decide +kernel
theorem d_Top_heat_22 : decode b_Top_heat 22 = .ok (.istore_n 3, 1) := by decide +kernel
theorem d_Top_heat_23 : decode b_Top_heat 23 = .ok (.iload_n 3, 1) := by decide +kernel
theorem d_Top_heat_24 : decode b_Top_heat 24 = .ok (.iconst 3, 1) := by decide +kernel
theorem d_Top_heat_25 : decode b_Top_heat 25 = .ok (.if_icmp .lt 39, 3) := by decide +kernel
theorem d_Top_heat_28 : decode b_Top_heat 28 = .ok (.aload_n 0, 1) := by decide +kernel
theorem d_Top_heat_29 : decode b_Top_heat 29 = .ok (.getfield 35, 3) := by decide +kernel
theorem d_Top_heat_32 : decode b_Top_heat 32 = .ok (.iload_n 3, 1) := by decide +kernel
theorem d_Top_heat_33 : decode b_Top_heat 33 = .ok (.invokevirtual 194, 3) := by decide +kernel
theorem d_Top_heat_36 : decode b_Top_heat 36 = .ok (.aload_n 0, 1) := by decide +kernel
theorem d_Top_heat_37 : decode b_Top_heat 37 = .ok (.getfield 35, 3) := by decide +kernel
theorem d_Top_heat_40 : decode b_Top_heat 40 = .ok (.iload_n 1, 1) := by decide +kernel
theorem d_Top_heat_41 : decode b_Top_heat 41 = .ok (.iconst 0, 1) := by decide +kernel
theorem d_Top_heat_42 : decode b_Top_heat 42 = .ok (.invokevirtual 201, 3) := by decide +kernel
theorem d_Top_heat_45 : decode b_Top_heat 45 = .ok (.aload_n 0, 1) := by decide +kernel
theorem d_Top_heat_46 : decode b_Top_heat 46 = .ok (.getfield 35, 3) := by decide +kernel
theorem d_Top_heat_49 : decode b_Top_heat 49 = .ok (.iload_n 2, 1) := by decide +kernel
theorem d_Top_heat_50 : decode b_Top_heat 50 = .ok (.invokevirtual 188, 3) := by decide +kernel
theorem d_Top_heat_53 : decode b_Top_heat 53 = .ok (.ifCond .eq 5, 3) := by decide +kernel
theorem d_Top_heat_56 : decode b_Top_heat 56 = .ok (.iload_n 3, 1) := by decide +kernel
theorem d_Top_heat_57 : decode b_Top_heat 57 = .ok (.ireturn, 1) := by decide +kernel
theorem d_Top_heat_58 : decode b_Top_heat 58 = .ok (.iinc 3 (-1), 3) := by decide +kernel
theorem d_Top_heat_61 : decode b_Top_heat 61 = .ok (.goto (-38), 3) := by decide +kernel
theorem d_Top_heat_64 : decode b_Top_heat 64 = .ok (.bipush (-2), 2) := by decide +kernel
theorem d_Top_heat_66 : decode b_Top_heat 66 = .ok (.ireturn, 1) := by decide +kernel
theorem d_Top_rowRefusal_0 : decode b_Top_rowRefusal 0 = .ok (.iload_n 1, 1) := by decide +kernel
theorem d_Top_rowRefusal_1 : decode b_Top_rowRefusal 1 = .ok (.invokestatic 104, 3) := by decide +kernel
theorem d_Top_rowRefusal_4 : decode b_Top_rowRefusal 4 = .ok (.ifCond .ne 5, 3) := by decide +kernel
theorem d_Top_rowRefusal_7 : decode b_Top_rowRefusal 7 = .ok (.iconst (-1), 1) := by decide +kernel
theorem d_Top_rowRefusal_8 : decode b_Top_rowRefusal 8 = .ok (.ireturn, 1) := by decide +kernel
theorem d_Top_rowRefusal_9 : decode b_Top_rowRefusal 9 = .ok (.aload_n 0, 1) := by decide +kernel
theorem d_Top_rowRefusal_10 : decode b_Top_rowRefusal 10 = .ok (.getfield 87, 3) := by decide +kernel
theorem d_Top_rowRefusal_13 : decode b_Top_rowRefusal 13 = .ok (.iload_n 1, 1) := by decide +kernel
theorem d_Top_rowRefusal_14 : decode b_Top_rowRefusal 14 = .ok (.aaload, 1) := by decide +kernel
theorem d_Top_rowRefusal_15 : decode b_Top_rowRefusal 15 = .ok (.getfield 368, 3) := by decide +kernel
theorem d_Top_rowRefusal_18 : decode b_Top_rowRefusal 18 = .ok (.bipush (-2), 2) := by decide +kernel
theorem d_Top_rowRefusal_20 : decode b_Top_rowRefusal 20 = .ok (.if_icmp .ne 6, 3) := by decide +kernel
theorem d_Top_rowRefusal_23 : decode b_Top_rowRefusal 23 = .ok (.bipush (-11), 2) := by decide +kernel
theorem d_Top_rowRefusal_25 : decode b_Top_rowRefusal 25 = .ok (.ireturn, 1) := by decide +kernel
theorem d_Top_rowRefusal_26 : decode b_Top_rowRefusal 26 = .ok (.aload_n 0, 1) := by decide +kernel
theorem d_Top_rowRefusal_27 : decode b_Top_rowRefusal 27 = .ok (.getfield 87, 3) := by decide +kernel
theorem d_Top_rowRefusal_30 : decode b_Top_rowRefusal 30 = .ok (.iload_n 1, 1) := by decide +kernel
theorem d_Top_rowRefusal_31 : decode b_Top_rowRefusal 31 = .ok (.aaload, 1) := by decide +kernel
theorem d_Top_rowRefusal_32 : decode b_Top_rowRefusal 32 = .ok (.getfield 368, 3) := by decide +kernel
theorem d_Top_rowRefusal_35 : decode b_Top_rowRefusal 35 = .ok (.iload_n 2, 1) := by decide +kernel
theorem d_Top_rowRefusal_36 : decode b_Top_rowRefusal 36 = .ok (.if_icmp .ne 7, 3) := by decide +kernel
theorem d_Top_rowRefusal_39 : decode b_Top_rowRefusal 39 = .ok (.iconst 0, 1) := by decide +kernel
theorem d_Top_rowRefusal_40 : decode b_Top_rowRefusal 40 = .ok (.goto 5, 3) := by decide +kernel
theorem d_Top_rowRefusal_43 : decode b_Top_rowRefusal 43 = .ok (.bipush (-12), 2) := by decide +kernel
theorem d_Top_rowRefusal_45 : decode b_Top_rowRefusal 45 = .ok (.ireturn, 1) := by decide +kernel
theorem d_Top_heatOfIt_0 : decode b_Top_heatOfIt 0 = .ok (.aload_n 0, 1) := by decide +kernel
theorem d_Top_heatOfIt_1 : decode b_Top_heatOfIt 1 = .ok (.iload_n 1, 1) := by decide +kernel
theorem d_Top_heatOfIt_2 : decode b_Top_heatOfIt 2 = .ok (.iconst 1, 1) := by decide +kernel
theorem d_Top_heatOfIt_3 : decode b_Top_heatOfIt 3 = .ok (.invokevirtual 112, 3) := by decide +kernel
theorem d_Top_heatOfIt_6 : decode b_Top_heatOfIt 6 = .ok (.istore_n 3, 1) := by decide +kernel
theorem d_Top_heatOfIt_7 : decode b_Top_heatOfIt 7 = .ok (.iload_n 3, 1) := by decide +kernel
theorem d_Top_heatOfIt_8 : decode b_Top_heatOfIt 8 = .ok (.iconst (-1), 1) := by decide +kernel
theorem d_Top_heatOfIt_9 : decode b_Top_heatOfIt 9 = .ok (.if_icmp .eq 11, 3) := by decide +kernel
theorem d_Top_heatOfIt_12 : decode b_Top_heatOfIt 12 = .ok (.aload_n 0, 1) := by decide +kernel
theorem d_Top_heatOfIt_13 : decode b_Top_heatOfIt 13 = .ok (.iload_n 2, 1) := by decide +kernel
theorem d_Top_heatOfIt_14 : decode b_Top_heatOfIt 14 = .ok (.invokevirtual 160, 3) := by decide +kernel
theorem d_Top_heatOfIt_17 : decode b_Top_heatOfIt 17 = .ok (.ifCond .ne 5, 3) := by decide +kernel
theorem d_Top_heatOfIt_20 : decode b_Top_heatOfIt 20 = .ok (.iconst (-1), 1) := by decide +kernel
theorem d_Top_heatOfIt_21 : decode b_Top_heatOfIt 21 = .ok (.ireturn, 1) := by decide +kernel
theorem d_Top_heatOfIt_22 : decode b_Top_heatOfIt 22 = .ok (.iload_n 3, 1) := by decide +kernel
theorem d_Top_heatOfIt_23 : decode b_Top_heatOfIt 23 = .ok (.ifCond .eq 5, 3) := by decide +kernel
theorem d_Top_heatOfIt_26 : decode b_Top_heatOfIt 26 = .ok (.iload_n 3, 1) := by decide +kernel
theorem d_Top_heatOfIt_27 : decode b_Top_heatOfIt 27 = .ok (.ireturn, 1) := by decide +kernel
theorem d_Top_heatOfIt_28 : decode b_Top_heatOfIt 28 = .ok (.iconst 3, 1) := by decide +kernel
theorem d_Top_heatOfIt_29 : decode b_Top_heatOfIt 29 = .ok (.istore 4, 2) := by decide +kernel
theorem d_Top_heatOfIt_31 : decode b_Top_heatOfIt 31 = .ok (.iload 4, 2) := by decide +kernel
theorem d_Top_heatOfIt_33 : decode b_Top_heatOfIt 33 = .ok (.bipush 9, 2) := by decide +kernel
theorem d_Top_heatOfIt_35 : decode b_Top_heatOfIt 35 = .ok (.if_icmp .gt 46, 3) := by decide +kernel
theorem d_Top_heatOfIt_38 : decode b_Top_heatOfIt 38 = .ok (.aload_n 0, 1) := by decide +kernel
theorem d_Top_heatOfIt_39 : decode b_Top_heatOfIt 39 = .ok (.getfield 35, 3) := by decide +kernel
theorem d_Top_heatOfIt_42 : decode b_Top_heatOfIt 42 = .ok (.iload 4, 2) := by decide +kernel
theorem d_Top_heatOfIt_44 : decode b_Top_heatOfIt 44 = .ok (.invokevirtual 194, 3) := by decide +kernel
theorem d_Top_heatOfIt_47 : decode b_Top_heatOfIt 47 = .ok (.aload_n 0, 1) := by decide +kernel
theorem d_Top_heatOfIt_48 : decode b_Top_heatOfIt 48 = .ok (.getfield 35, 3) := by decide +kernel
theorem d_Top_heatOfIt_51 : decode b_Top_heatOfIt 51 = .ok (.iload_n 2, 1) := by decide +kernel
theorem d_Top_heatOfIt_52 : decode b_Top_heatOfIt 52 = .ok (.iconst 0, 1) := by decide +kernel
theorem d_Top_heatOfIt_53 : decode b_Top_heatOfIt 53 = .ok (.invokevirtual 201, 3) := by decide +kernel
theorem d_Top_heatOfIt_56 : decode b_Top_heatOfIt 56 = .ok (.aload_n 0, 1) := by decide +kernel
theorem d_Top_heatOfIt_57 : decode b_Top_heatOfIt 57 = .ok (.aload_n 0, 1) := by decide +kernel
theorem d_Top_heatOfIt_58 : decode b_Top_heatOfIt 58 = .ok (.getfield 87, 3) := by decide +kernel
theorem d_Top_heatOfIt_61 : decode b_Top_heatOfIt 61 = .ok (.iload_n 1, 1) := by decide +kernel
theorem d_Top_heatOfIt_62 : decode b_Top_heatOfIt 62 = .ok (.aaload, 1) := by decide +kernel
theorem d_Top_heatOfIt_63 : decode b_Top_heatOfIt 63 = .ok (.iload_n 2, 1) := by decide +kernel
theorem d_Top_heatOfIt_64 : decode b_Top_heatOfIt 64 = .ok (.invokevirtual 280, 3) := by decide +kernel
theorem d_Top_heatOfIt_67 : decode b_Top_heatOfIt 67 = .ok (.bipush (-2), 2) := by decide +kernel
theorem d_Top_heatOfIt_69 : decode b_Top_heatOfIt 69 = .ok (.if_icmp .ne 6, 3) := by decide +kernel
theorem d_Top_heatOfIt_72 : decode b_Top_heatOfIt 72 = .ok (.iload 4, 2) := by decide +kernel
theorem d_Top_heatOfIt_74 : decode b_Top_heatOfIt 74 = .ok (.ireturn, 1) := by decide +kernel
theorem d_Top_heatOfIt_75 : decode b_Top_heatOfIt 75 = .ok (.iinc 4 1, 3) := by decide +kernel
theorem d_Top_heatOfIt_78 : decode b_Top_heatOfIt 78 = .ok (.goto (-47), 3) := by decide +kernel
theorem d_Top_heatOfIt_81 : decode b_Top_heatOfIt 81 = .ok (.bipush (-2), 2) := by decide +kernel
theorem d_Top_heatOfIt_83 : decode b_Top_heatOfIt 83 = .ok (.ireturn, 1) := by decide +kernel
theorem d_Deeds_keepImage_0 : decode b_Deeds_keepImage 0 = .ok (.aload_n 0, 1) := by decide +kernel
theorem d_Deeds_keepImage_1 : decode b_Deeds_keepImage 1 = .ok (.aload_n 0, 1) := by decide +kernel
theorem d_Deeds_keepImage_2 : decode b_Deeds_keepImage 2 = .ok (.getfield 32, 3) := by decide +kernel
theorem d_Deeds_keepImage_5 : decode b_Deeds_keepImage 5 = .ok (.getfield 51, 3) := by decide +kernel
theorem d_Deeds_keepImage_8 : decode b_Deeds_keepImage 8 = .ok (.putfield 28, 3) := by decide +kernel
theorem d_Deeds_keepImage_11 : decode b_Deeds_keepImage 11 = .ok (.aload_n 0, 1) := by decide +kernel
theorem d_Deeds_keepImage_12 : decode b_Deeds_keepImage 12 = .ok (.getfield 11, 3) := by decide +kernel
theorem d_Deeds_keepImage_15 : decode b_Deeds_keepImage 15 = .ok (.iconst 0, 1) := by decide +kernel
theorem d_Deeds_keepImage_16 : decode b_Deeds_keepImage 16 = .ok (.aload_n 0, 1) := by decide +kernel
theorem d_Deeds_keepImage_17 : decode b_Deeds_keepImage 17 = .ok (.getfield 15, 3) := by decide +kernel
theorem d_Deeds_keepImage_20 : decode b_Deeds_keepImage 20 = .ok (.iconst 0, 1) := by decide +kernel
theorem d_Deeds_keepImage_21 : decode b_Deeds_keepImage 21 = .ok (.iconst 4, 1) := by decide +kernel
theorem d_Deeds_keepImage_22 : decode b_Deeds_keepImage 22 = .ok (.invokestatic 85, 3) := by decide +kernel
theorem d_Deeds_keepImage_25 : decode b_Deeds_keepImage 25 = .ok (.iconst 0, 1) := by decide +kernel
theorem d_Deeds_keepImage_26 : decode b_Deeds_keepImage 26 = .ok (.istore_n 1, 1) := by decide +kernel
theorem d_Deeds_keepImage_27 : decode b_Deeds_keepImage 27 = .ok (.iload_n 1, 1) := by decide +kernel
theorem d_Deeds_keepImage_28 : decode b_Deeds_keepImage 28 = .ok (.aload_n 0, 1) := by decide +kernel
theorem d_Deeds_keepImage_29 : decode b_Deeds_keepImage 29 = .ok (.getfield 32, 3) := by decide +kernel
theorem d_Deeds_keepImage_32 : decode b_Deeds_keepImage 32 = .ok (.getfield 51, 3) := by decide +kernel
theorem d_Deeds_keepImage_35 : decode b_Deeds_keepImage 35 = .ok (.if_icmp .ge 54, 3) := by decide +kernel
theorem d_Deeds_keepImage_38 : decode b_Deeds_keepImage 38 = .ok (.aload_n 0, 1) := by decide +kernel
theorem d_Deeds_keepImage_39 : decode b_Deeds_keepImage 39 = .ok (.getfield 18, 3) := by decide +kernel
theorem d_Deeds_keepImage_42 : decode b_Deeds_keepImage 42 = .ok (.iload_n 1, 1) := by decide +kernel
theorem d_Deeds_keepImage_43 : decode b_Deeds_keepImage 43 = .ok (.aload_n 0, 1) := by decide +kernel
theorem d_Deeds_keepImage_44 : decode b_Deeds_keepImage 44 = .ok (.getfield 32, 3) := by decide +kernel
theorem d_Deeds_keepImage_47 : decode b_Deeds_keepImage 47 = .ok (.iload_n 1, 1) := by decide +kernel
theorem d_Deeds_keepImage_48 : decode b_Deeds_keepImage 48 = .ok (.iconst 2, 1) := by decide +kernel
theorem d_Deeds_keepImage_49 : decode b_Deeds_keepImage 49 = .ok (.invokevirtual 75, 3) := by decide +kernel
theorem d_Deeds_keepImage_52 : decode b_Deeds_keepImage 52 = .ok (.iastore, 1) := by decide +kernel
theorem d_Deeds_keepImage_53 : decode b_Deeds_keepImage 53 = .ok (.aload_n 0, 1) := by decide +kernel
theorem d_Deeds_keepImage_54 : decode b_Deeds_keepImage 54 = .ok (.getfield 21, 3) := by decide +kernel
theorem d_Deeds_keepImage_57 : decode b_Deeds_keepImage 57 = .ok (.iload_n 1, 1) := by decide +kernel
theorem d_Deeds_keepImage_58 : decode b_Deeds_keepImage 58 = .ok (.aload_n 0, 1) := by decide +kernel
theorem d_Deeds_keepImage_59 : decode b_Deeds_keepImage 59 = .ok (.getfield 32, 3) := by decide +kernel
theorem d_Deeds_keepImage_62 : decode b_Deeds_keepImage 62 = .ok (.getfield 63, 3) := by decide +kernel
theorem d_Deeds_keepImage_65 : decode b_Deeds_keepImage 65 = .ok (.iload_n 1, 1) := by decide +kernel
theorem d_Deeds_keepImage_66 : decode b_Deeds_keepImage 66 = .ok (.iaload, 1) := by decide +kernel
theorem d_Deeds_keepImage_67 : decode b_Deeds_keepImage 67 = .ok (.iastore, 1) := by decide +kernel
theorem d_Deeds_keepImage_68 : decode b_Deeds_keepImage 68 = .ok (.aload_n 0, 1) := by decide +kernel
theorem d_Deeds_keepImage_69 : decode b_Deeds_keepImage 69 = .ok (.getfield 24, 3) := by decide +kernel
theorem d_Deeds_keepImage_72 : decode b_Deeds_keepImage 72 = .ok (.iload_n 1, 1) := by decide +kernel
theorem d_Deeds_keepImage_73 : decode b_Deeds_keepImage 73 = .ok (.aload_n 0, 1) := by decide +kernel
theorem d_Deeds_keepImage_74 : decode b_Deeds_keepImage 74 = .ok (.getfield 32, 3) := by decide +kernel
theorem d_Deeds_keepImage_77 : decode b_Deeds_keepImage 77 = .ok (.getfield 91, 3) := by decide +kernel
theorem d_Deeds_keepImage_80 : decode b_Deeds_keepImage 80 = .ok (.iload_n 1, 1) := by decide +kernel
theorem d_Deeds_keepImage_81 : decode b_Deeds_keepImage 81 = .ok (.baload, 1) := by decide +kernel
theorem d_Deeds_keepImage_82 : decode b_Deeds_keepImage 82 = .ok (.bastore, 1) := by decide +kernel
theorem d_Deeds_keepImage_83 : decode b_Deeds_keepImage 83 = .ok (.iinc 1 1, 3) := by decide +kernel
theorem d_Deeds_keepImage_86 : decode b_Deeds_keepImage 86 = .ok (.goto (-59), 3) := by decide +kernel
theorem d_Deeds_keepImage_89 : decode b_Deeds_keepImage 89 = .ok (.return_, 1) := by decide +kernel
theorem d_Top_image_0 : decode b_Top_image 0 = .ok (.aload_n 0, 1) := by decide +kernel
theorem d_Top_image_1 : decode b_Top_image 1 = .ok (.getfield 67, 3) := by decide +kernel
theorem d_Top_image_4 : decode b_Top_image 4 = .ok (.invokevirtual 313, 3) := by decide +kernel
theorem d_Top_image_7 : decode b_Top_image 7 = .ok (.aload_n 0, 1) := by decide +kernel
theorem d_Top_image_8 : decode b_Top_image 8 = .ok (.getfield 67, 3) := by decide +kernel
theorem d_Top_image_11 : decode b_Top_image 11 = .ok (.getfield 310, 3) := by decide +kernel
theorem d_Top_image_14 : decode b_Top_image 14 = .ok (.iconst 0, 1) := by decide +kernel
theorem d_Top_image_15 : decode b_Top_image 15 = .ok (.iaload, 1) := by decide +kernel
theorem d_Top_image_16 : decode b_Top_image 16 = .ok (.ireturn, 1) := by decide +kernel
theorem d_Top_isHeatAndCloth_0 : decode b_Top_isHeatAndCloth 0 = .ok (.iload_n 0, 1) := by decide +kernel
theorem d_Top_isHeatAndCloth_1 : decode b_Top_isHeatAndCloth 1 = .ok (.bipush 10, 2) := by decide +kernel
theorem d_Top_isHeatAndCloth_3 : decode b_Top_isHeatAndCloth 3 = .ok (.idiv, 1) := by decide +kernel
theorem d_Top_isHeatAndCloth_4 : decode b_Top_isHeatAndCloth 4 = .ok (.invokestatic 154, 3) := by decide +kernel
theorem d_Top_isHeatAndCloth_7 : decode b_Top_isHeatAndCloth 7 = .ok (.ifCond .eq 19, 3) := by decide +kernel
theorem d_Top_isHeatAndCloth_10 : decode b_Top_isHeatAndCloth 10 = .ok (.iload_n 0, 1) := by decide +kernel
theorem d_Top_isHeatAndCloth_11 : decode b_Top_isHeatAndCloth 11 = .ok (.bipush 10, 2) := by decide +kernel
theorem d_Top_isHeatAndCloth_13 : decode b_Top_isHeatAndCloth 13 = .ok (.irem, 1) := by decide +kernel
theorem d_Top_isHeatAndCloth_14 : decode b_Top_isHeatAndCloth 14 = .ok (.iconst 0, 1) := by decide +kernel
theorem d_Top_isHeatAndCloth_15 : decode b_Top_isHeatAndCloth 15 = .ok (.iconst 1, 1) := by decide +kernel
theorem d_Top_isHeatAndCloth_16 : decode b_Top_isHeatAndCloth 16 = .ok (.invokestatic 108, 3) := by decide +kernel
theorem d_Top_isHeatAndCloth_19 : decode b_Top_isHeatAndCloth 19 = .ok (.ifCond .eq 7, 3) := by decide +kernel
theorem d_Top_isHeatAndCloth_22 : decode b_Top_isHeatAndCloth 22 = .ok (.iconst 1, 1) := by decide +kernel
theorem d_Top_isHeatAndCloth_23 : decode b_Top_isHeatAndCloth 23 = .ok (.goto 4, 3) := by decide +kernel
theorem d_Top_isHeatAndCloth_26 : decode b_Top_isHeatAndCloth 26 = .ok (.iconst 0, 1) := by decide +kernel
theorem d_Top_isHeatAndCloth_27 : decode b_Top_isHeatAndCloth 27 = .ok (.ireturn, 1) := by decide +kernel
theorem d_Tub_load_0 : decode b_Tub_load 0 = .ok (.aload_n 0, 1) := by decide +kernel
theorem d_Tub_load_1 : decode b_Tub_load 1 = .ok (.iload_n 2, 1) := by decide +kernel
theorem d_Tub_load_2 : decode b_Tub_load 2 = .ok (.bipush 10, 2) := by decide +kernel
theorem d_Tub_load_4 : decode b_Tub_load 4 = .ok (.idiv, 1) := by decide +kernel
theorem d_Tub_load_5 : decode b_Tub_load 5 = .ok (.invokevirtual 66, 3) := by decide +kernel
theorem d_Tub_load_8 : decode b_Tub_load 8 = .ok (.aload_n 0, 1) := by decide +kernel
theorem d_Tub_load_9 : decode b_Tub_load 9 = .ok (.iload_n 1, 1) := by decide +kernel
theorem d_Tub_load_10 : decode b_Tub_load 10 = .ok (.aload_n 0, 1) := by decide +kernel
theorem d_Tub_load_11 : decode b_Tub_load 11 = .ok (.iload_n 2, 1) := by decide +kernel
theorem d_Tub_load_12 : decode b_Tub_load 12 = .ok (.bipush 10, 2) := by decide +kernel
theorem d_Tub_load_14 : decode b_Tub_load 14 = .ok (.irem, 1) := by decide +kernel
theorem d_Tub_load_15 : decode b_Tub_load 15 = .ok (.invokevirtual 70, 3) := by decide +kernel
theorem d_Tub_load_18 : decode b_Tub_load 18 = .ok (.invokevirtual 74, 3) := by decide +kernel
theorem d_Tub_load_21 : decode b_Tub_load 21 = .ok (.return_, 1) := by decide +kernel
theorem d_Top_judge_0 : decode b_Top_judge 0 = .ok (.aload_n 0, 1) := by decide +kernel
theorem d_Top_judge_1 : decode b_Top_judge 1 = .ok (.iload_n 1, 1) := by decide +kernel
theorem d_Top_judge_2 : decode b_Top_judge 2 = .ok (.iconst 1, 1) := by decide +kernel
theorem d_Top_judge_3 : decode b_Top_judge 3 = .ok (.invokevirtual 112, 3) := by decide +kernel
theorem d_Top_judge_6 : decode b_Top_judge 6 = .ok (.istore 4, 2) := by decide +kernel
theorem d_Top_judge_8 : decode b_Top_judge 8 = .ok (.iload 4, 2) := by decide +kernel
theorem d_Top_judge_10 : decode b_Top_judge 10 = .ok (.iconst (-1), 1) := by decide +kernel
theorem d_Top_judge_11 : decode b_Top_judge 11 = .ok (.if_icmp .eq 18, 3) := by decide +kernel
theorem d_Top_judge_14 : decode b_Top_judge 14 = .ok (.aload_n 0, 1) := by decide +kernel
theorem d_Top_judge_15 : decode b_Top_judge 15 = .ok (.iload_n 2, 1) := by decide +kernel
theorem d_Top_judge_16 : decode b_Top_judge 16 = .ok (.invokevirtual 160, 3) := by decide +kernel
theorem d_Top_judge_19 : decode b_Top_judge 19 = .ok (.ifCond .eq 10, 3) := by decide +kernel
theorem d_Top_judge_22 : decode b_Top_judge 22 = .ok (.iload_n 3, 1) := by decide +kernel
theorem d_Top_judge_23 : decode b_Top_judge 23 = .ok (.invokestatic 163, 3) := by decide +kernel
theorem d_Top_judge_26 : decode b_Top_judge 26 = .ok (.ifCond .ne 5, 3) := by decide +kernel
theorem d_Top_judge_29 : decode b_Top_judge 29 = .ok (.iconst (-1), 1) := by decide +kernel
theorem d_Top_judge_30 : decode b_Top_judge 30 = .ok (.ireturn, 1) := by decide +kernel
theorem d_Top_judge_31 : decode b_Top_judge 31 = .ok (.iload 4, 2) := by decide +kernel
theorem d_Top_judge_33 : decode b_Top_judge 33 = .ok (.ifCond .eq 6, 3) := by decide +kernel
theorem d_Top_judge_36 : decode b_Top_judge 36 = .ok (.iload 4, 2) := by decide +kernel
theorem d_Top_judge_38 : decode b_Top_judge 38 = .ok (.ireturn, 1) := by decide +kernel
theorem d_Top_judge_39 : decode b_Top_judge 39 = .ok (.aload_n 0, 1) := by decide +kernel
theorem d_Top_judge_40 : decode b_Top_judge 40 = .ok (.getfield 35, 3) := by decide +kernel
theorem d_Top_judge_43 : decode b_Top_judge 43 = .ok (.iload_n 2, 1) := by decide +kernel
theorem d_Top_judge_44 : decode b_Top_judge 44 = .ok (.iload_n 3, 1) := by decide +kernel
theorem d_Top_judge_45 : decode b_Top_judge 45 = .ok (.invokevirtual 166, 3) := by decide +kernel
theorem d_Top_judge_48 : decode b_Top_judge 48 = .ok (.aload_n 0, 1) := by decide +kernel
theorem d_Top_judge_49 : decode b_Top_judge 49 = .ok (.aload_n 0, 1) := by decide +kernel
theorem d_Top_judge_50 : decode b_Top_judge 50 = .ok (.getfield 87, 3) := by decide +kernel
theorem d_Top_judge_53 : decode b_Top_judge 53 = .ok (.iload_n 1, 1) := by decide +kernel
theorem d_Top_judge_54 : decode b_Top_judge 54 = .ok (.aaload, 1) := by decide +kernel
theorem d_Top_judge_55 : decode b_Top_judge 55 = .ok (.iload_n 2, 1) := by decide +kernel
theorem d_Top_judge_56 : decode b_Top_judge 56 = .ok (.invokevirtual 280, 3) := by decide +kernel
theorem d_Top_judge_59 : decode b_Top_judge 59 = .ok (.ireturn, 1) := by decide +kernel
theorem d_Shelf_hold_0 : decode b_Shelf_hold 0 = .ok (.aload_n 0, 1) := by decide +kernel
theorem d_Shelf_hold_1 : decode b_Shelf_hold 1 = .ok (.iload_n 1, 1) := by decide +kernel
theorem d_Shelf_hold_2 : decode b_Shelf_hold 2 = .ok (.iconst (-1), 1) := by decide +kernel
theorem d_Shelf_hold_3 : decode b_Shelf_hold 3 = .ok (.if_icmp .ne 8, 3) := by decide +kernel
theorem d_Shelf_hold_6 : decode b_Shelf_hold 6 = .ok (.bipush (-2), 2) := by decide +kernel
theorem d_Shelf_hold_8 : decode b_Shelf_hold 8 = .ok (.goto 4, 3) := by decide +kernel
theorem d_Shelf_hold_11 : decode b_Shelf_hold 11 = .ok (.iconst (-1), 1) := by decide +kernel
theorem d_Shelf_hold_12 : decode b_Shelf_hold 12 = .ok (.putfield 15, 3) := by decide +kernel
theorem d_Shelf_hold_15 : decode b_Shelf_hold 15 = .ok (.aload_n 0, 1) := by decide +kernel
theorem d_Shelf_hold_16 : decode b_Shelf_hold 16 = .ok (.iload_n 1, 1) := by decide +kernel
theorem d_Shelf_hold_17 : decode b_Shelf_hold 17 = .ok (.putfield 19, 3) := by decide +kernel
theorem d_Shelf_hold_20 : decode b_Shelf_hold 20 = .ok (.aload_n 0, 1) := by decide +kernel
theorem d_Shelf_hold_21 : decode b_Shelf_hold 21 = .ok (.iconst 0, 1) := by decide +kernel
theorem d_Shelf_hold_22 : decode b_Shelf_hold 22 = .ok (.putfield 26, 3) := by decide +kernel
theorem d_Shelf_hold_25 : decode b_Shelf_hold 25 = .ok (.return_, 1) := by decide +kernel
theorem d_Top_keep_0 : decode b_Top_keep 0 = .ok (.iload_n 1, 1) := by decide +kernel
theorem d_Top_keep_1 : decode b_Top_keep 1 = .ok (.invokestatic 104, 3) := by decide +kernel
theorem d_Top_keep_4 : decode b_Top_keep 4 = .ok (.ifCond .eq 19, 3) := by decide +kernel
theorem d_Top_keep_7 : decode b_Top_keep 7 = .ok (.iload_n 2, 1) := by decide +kernel
theorem d_Top_keep_8 : decode b_Top_keep 8 = .ok (.iconst (-1), 1) := by decide +kernel
theorem d_Top_keep_9 : decode b_Top_keep 9 = .ok (.if_icmp .eq 16, 3) := by decide +kernel
theorem d_Top_keep_12 : decode b_Top_keep 12 = .ok (.aload_n 0, 1) := by decide +kernel
theorem d_Top_keep_13 : decode b_Top_keep 13 = .ok (.getfield 81, 3) := by decide +kernel
theorem d_Top_keep_16 : decode b_Top_keep 16 = .ok (.iload_n 2, 1) := by decide +kernel
theorem d_Top_keep_17 : decode b_Top_keep 17 = .ok (.invokevirtual 345, 3) := by decide +kernel
theorem d_Top_keep_20 : decode b_Top_keep 20 = .ok (.ifCond .ne 5, 3) := by decide +kernel
theorem d_Top_keep_23 : decode b_Top_keep 23 = .ok (.iconst (-1), 1) := by decide +kernel
theorem d_Top_keep_24 : decode b_Top_keep 24 = .ok (.ireturn, 1) := by decide +kernel
theorem d_Top_keep_25 : decode b_Top_keep 25 = .ok (.aload_n 0, 1) := by decide +kernel
theorem d_Top_keep_26 : decode b_Top_keep 26 = .ok (.getfield 87, 3) := by decide +kernel
theorem d_Top_keep_29 : decode b_Top_keep 29 = .ok (.iload_n 1, 1) := by decide +kernel
theorem d_Top_keep_30 : decode b_Top_keep 30 = .ok (.aaload, 1) := by decide +kernel
theorem d_Top_keep_31 : decode b_Top_keep 31 = .ok (.iload_n 2, 1) := by decide +kernel
theorem d_Top_keep_32 : decode b_Top_keep 32 = .ok (.invokevirtual 348, 3) := by decide +kernel
theorem d_Top_keep_35 : decode b_Top_keep 35 = .ok (.iconst 1, 1) := by decide +kernel
theorem d_Top_keep_36 : decode b_Top_keep 36 = .ok (.ireturn, 1) := by decide +kernel
theorem d_Plan_dayOf_0 : decode b_Plan_dayOf 0 = .ok (.aload_n 0, 1) := by decide +kernel
theorem d_Plan_dayOf_1 : decode b_Plan_dayOf 1 = .ok (.getfield 15, 3) := by decide +kernel
theorem d_Plan_dayOf_4 : decode b_Plan_dayOf 4 = .ok (.bipush 10, 2) := by decide +kernel
theorem d_Plan_dayOf_6 : decode b_Plan_dayOf 6 = .ok (.invokevirtual 59, 3) := by decide +kernel
theorem d_Plan_dayOf_9 : decode b_Plan_dayOf 9 = .ok (.istore_n 2, 1) := by decide +kernel
theorem d_Plan_dayOf_10 : decode b_Plan_dayOf 10 = .ok (.iload_n 2, 1) := by decide +kernel
theorem d_Plan_dayOf_11 : decode b_Plan_dayOf 11 = .ok (.ifCond .le 9, 3) := by decide +kernel
theorem d_Plan_dayOf_14 : decode b_Plan_dayOf 14 = .ok (.iload_n 1, 1) := by decide +kernel
theorem d_Plan_dayOf_15 : decode b_Plan_dayOf 15 = .ok (.iload_n 2, 1) := by decide +kernel
theorem d_Plan_dayOf_16 : decode b_Plan_dayOf 16 = .ok (.idiv, 1) := by decide +kernel
theorem d_Plan_dayOf_17 : decode b_Plan_dayOf 17 = .ok (.goto 4, 3) := by decide +kernel
theorem d_Plan_dayOf_20 : decode b_Plan_dayOf 20 = .ok (.iconst 0, 1) := by decide +kernel
theorem d_Plan_dayOf_21 : decode b_Plan_dayOf 21 = .ok (.ireturn, 1) := by decide +kernel
theorem d_Plan_exchanged_0 : decode b_Plan_exchanged 0 = .ok (.iload_n 0, 1) := by decide +kernel
theorem d_Plan_exchanged_1 : decode b_Plan_exchanged 1 = .ok (.iload_n 1, 1) := by decide +kernel
theorem d_Plan_exchanged_2 : decode b_Plan_exchanged 2 = .ok (.if_icmp .ne 5, 3) := by decide +kernel
theorem d_Plan_exchanged_5 : decode b_Plan_exchanged 5 = .ok (.iload_n 2, 1) := by decide +kernel
theorem d_Plan_exchanged_6 : decode b_Plan_exchanged 6 = .ok (.ireturn, 1) := by decide +kernel
theorem d_Plan_exchanged_7 : decode b_Plan_exchanged 7 = .ok (.iload_n 0, 1) := by decide +kernel
theorem d_Plan_exchanged_8 : decode b_Plan_exchanged 8 = .ok (.iload_n 2, 1) := by decide +kernel
theorem d_Plan_exchanged_9 : decode b_Plan_exchanged 9 = .ok (.if_icmp .ne 7, 3) := by decide +kernel
theorem d_Plan_exchanged_12 : decode b_Plan_exchanged 12 = .ok (.iload_n 1, 1) := by decide +kernel
theorem d_Plan_exchanged_13 : decode b_Plan_exchanged 13 = .ok (.goto 4, 3) := by decide +kernel
theorem d_Plan_exchanged_16 : decode b_Plan_exchanged 16 = .ok (.iload_n 0, 1) := by decide +kernel
theorem d_Plan_exchanged_17 : decode b_Plan_exchanged 17 = .ok (.ireturn, 1) := by decide +kernel
theorem d_Plan_daysLate_0 : decode b_Plan_daysLate 0 = .ok (.iconst 0, 1) := by decide +kernel
theorem d_Plan_daysLate_1 : decode b_Plan_daysLate 1 = .ok (.istore_n 3, 1) := by decide +kernel
theorem d_Plan_daysLate_2 : decode b_Plan_daysLate 2 = .ok (.iconst 0, 1) := by decide +kernel
theorem d_Plan_daysLate_3 : decode b_Plan_daysLate 3 = .ok (.istore 4, 2) := by decide +kernel
theorem d_Plan_daysLate_5 : decode b_Plan_daysLate 5 = .ok (.iload 4, 2) := by decide +kernel
theorem d_Plan_daysLate_7 : decode b_Plan_daysLate 7 = .ok (.aload_n 0, 1) := by decide +kernel
theorem d_Plan_daysLate_8 : decode b_Plan_daysLate 8 = .ok (.getfield 15, 3) := by decide +kernel
theorem d_Plan_daysLate_11 : decode b_Plan_daysLate 11 = .ok (.getfield 19, 3) := by decide +kernel
theorem d_Plan_daysLate_14 : decode b_Plan_daysLate 14 = .ok (.if_icmp .ge 59, 3) := by decide +kernel
theorem d_Plan_daysLate_17 : decode b_Plan_daysLate 17 = .ok (.aload_n 0, 1) := by decide +kernel
theorem d_Plan_daysLate_18 : decode b_Plan_daysLate 18 = .ok (.getfield 9, 3) := by decide +kernel
theorem d_Plan_daysLate_21 : decode b_Plan_daysLate 21 = .ok (.iload 4, 2) := by decide +kernel
theorem d_Plan_daysLate_23 : decode b_Plan_daysLate 23 = .ok (.iaload, 1) := by decide +kernel
theorem d_Plan_daysLate_24 : decode b_Plan_daysLate 24 = .ok (.iconst (-1), 1) := by decide +kernel
theorem d_Plan_daysLate_25 : decode b_Plan_daysLate 25 = .ok (.if_icmp .eq 42, 3) := by decide +kernel
theorem d_Plan_daysLate_28 : decode b_Plan_daysLate 28 = .ok (.aload_n 0, 1) := by decide +kernel
theorem d_Plan_daysLate_29 : decode b_Plan_daysLate 29 = .ok (.aload_n 0, 1) := by decide +kernel
theorem d_Plan_daysLate_30 : decode b_Plan_daysLate 30 = .ok (.getfield 9, 3) := by decide +kernel
theorem d_Plan_daysLate_33 : decode b_Plan_daysLate 33 = .ok (.iload 4, 2) := by decide +kernel
theorem d_Plan_daysLate_35 : decode b_Plan_daysLate 35 = .ok (.iaload, 1) := by decide +kernel
theorem d_Plan_daysLate_36 : decode b_Plan_daysLate 36 = .ok (.iload_n 1, 1) := by decide +kernel
theorem d_Plan_daysLate_37 : decode b_Plan_daysLate 37 = .ok (.iload_n 2, 1) := by decide +kernel
theorem d_Plan_daysLate_38 : decode b_Plan_daysLate 38 = .ok (.invokestatic 47, 3) := by decide +kernel
theorem d_Plan_daysLate_41 : decode b_Plan_daysLate 41 = .ok (.invokevirtual 39, 3) := by decide +kernel
theorem d_Plan_daysLate_44 : decode b_Plan_daysLate 44 = .ok (.istore 5, 2) := by decide +kernel
theorem d_Plan_daysLate_46 : decode b_Plan_daysLate 46 = .ok (.iload_n 3, 1) := by decide +kernel
theorem d_Plan_daysLate_47 : decode b_Plan_daysLate 47 = .ok (.iconst 0, 1) := by decide +kernel
theorem d_Plan_daysLate_48 : decode b_Plan_daysLate 48 = .ok (.iload 5, 2) := by decide +kernel
theorem d_Plan_daysLate_50 : decode b_Plan_daysLate 50 = .ok (.aload_n 0, 1) := by decide +kernel
theorem d_Plan_daysLate_51 : decode b_Plan_daysLate 51 = .ok (.getfield 15, 3) := by decide +kernel
theorem d_Plan_daysLate_54 : decode b_Plan_daysLate 54 = .ok (.iload 4, 2) := by decide +kernel
theorem d_Plan_daysLate_56 : decode b_Plan_daysLate 56 = .ok (.bipush 7, 2) := by decide +kernel
theorem d_Plan_daysLate_58 : decode b_Plan_daysLate 58 = .ok (.invokevirtual 43, 3) := by decide +kernel
theorem d_Plan_daysLate_61 : decode b_Plan_daysLate 61 = .ok (.isub, 1) := by decide +kernel
theorem d_Plan_daysLate_62 : decode b_Plan_daysLate 62 = .ok (.invokestatic 51, 3) := by decide +kernel
theorem d_Plan_daysLate_65 : decode b_Plan_daysLate 65 = .ok (.iadd, 1) := by decide +kernel
theorem d_Plan_daysLate_66 : decode b_Plan_daysLate 66 = .ok (.istore_n 3, 1) := by decide +kernel
theorem d_Plan_daysLate_67 : decode b_Plan_daysLate 67 = .ok (.iinc 4 1, 3) := by decide +kernel
theorem d_Plan_daysLate_70 : decode b_Plan_daysLate 70 = .ok (.goto (-65), 3) := by decide +kernel
theorem d_Plan_daysLate_73 : decode b_Plan_daysLate 73 = .ok (.iload_n 3, 1) := by decide +kernel
theorem d_Plan_daysLate_74 : decode b_Plan_daysLate 74 = .ok (.ireturn, 1) := by decide +kernel
theorem d_Plan_lateThings_0 : decode b_Plan_lateThings 0 = .ok (.iconst 0, 1) := by decide +kernel
theorem d_Plan_lateThings_1 : decode b_Plan_lateThings 1 = .ok (.istore_n 1, 1) := by decide +kernel
theorem d_Plan_lateThings_2 : decode b_Plan_lateThings 2 = .ok (.iconst 0, 1) := by decide +kernel
theorem d_Plan_lateThings_3 : decode b_Plan_lateThings 3 = .ok (.istore_n 2, 1) := by decide +kernel
theorem d_Plan_lateThings_4 : decode b_Plan_lateThings 4 = .ok (.iload_n 2, 1) := by decide +kernel
theorem d_Plan_lateThings_5 : decode b_Plan_lateThings 5 = .ok (.aload_n 0, 1) := by decide +kernel
theorem d_Plan_lateThings_6 : decode b_Plan_lateThings 6 = .ok (.getfield 15, 3) := by decide +kernel
theorem d_Plan_lateThings_9 : decode b_Plan_lateThings 9 = .ok (.getfield 19, 3) := by decide +kernel
theorem d_Plan_lateThings_12 : decode b_Plan_lateThings 12 = .ok (.if_icmp .ge 48, 3) := by decide +kernel
theorem d_Plan_lateThings_15 : decode b_Plan_lateThings 15 = .ok (.aload_n 0, 1) := by decide +kernel
theorem d_Plan_lateThings_16 : decode b_Plan_lateThings 16 = .ok (.getfield 9, 3) := by decide +kernel
theorem d_Plan_lateThings_19 : decode b_Plan_lateThings 19 = .ok (.iload_n 2, 1) := by decide +kernel
theorem d_Plan_lateThings_20 : decode b_Plan_lateThings 20 = .ok (.iaload, 1) := by decide +kernel
theorem d_Plan_lateThings_21 : decode b_Plan_lateThings 21 = .ok (.iconst (-1), 1) := by decide +kernel
theorem d_Plan_lateThings_22 : decode b_Plan_lateThings 22 = .ok (.if_icmp .eq 26, 3) := by decide +kernel
theorem d_Plan_lateThings_25 : decode b_Plan_lateThings 25 = .ok (.aload_n 0, 1) := by decide +kernel
theorem d_Plan_lateThings_26 : decode b_Plan_lateThings 26 = .ok (.aload_n 0, 1) := by decide +kernel
theorem d_Plan_lateThings_27 : decode b_Plan_lateThings 27 = .ok (.getfield 9, 3) := by decide +kernel
theorem d_Plan_lateThings_30 : decode b_Plan_lateThings 30 = .ok (.iload_n 2, 1) := by decide +kernel
theorem d_Plan_lateThings_31 : decode b_Plan_lateThings 31 = .ok (.iaload, 1) := by decide +kernel
theorem d_Plan_lateThings_32 : decode b_Plan_lateThings 32 = .ok (.invokevirtual 39, 3) := by decide +kernel
theorem d_Plan_lateThings_35 : decode b_Plan_lateThings 35 = .ok (.aload_n 0, 1) := by decide +kernel
theorem d_Plan_lateThings_36 : decode b_Plan_lateThings 36 = .ok (.getfield 15, 3) := by decide +kernel
theorem d_Plan_lateThings_39 : decode b_Plan_lateThings 39 = .ok (.iload_n 2, 1) := by decide +kernel
theorem d_Plan_lateThings_40 : decode b_Plan_lateThings 40 = .ok (.bipush 7, 2) := by decide +kernel
theorem d_Plan_lateThings_42 : decode b_Plan_lateThings 42 = .ok (.invokevirtual 43, 3) := by decide +kernel
theorem d_Plan_lateThings_45 : decode b_Plan_lateThings 45 = .ok (.if_icmp .le 9, 3) := by decide +kernel
theorem d_Plan_lateThings_48 : decode b_Plan_lateThings 48 = .ok (.iload_n 1, 1) := by decide +kernel
theorem d_Plan_lateThings_49 : decode b_Plan_lateThings 49 = .ok (.iconst 1, 1) := by decide +kernel
theorem d_Plan_lateThings_50 : decode b_Plan_lateThings 50 = .ok (.iload_n 2, 1) := by decide +kernel
theorem d_Plan_lateThings_51 : decode b_Plan_lateThings 51 = .ok (.ishl, 1) := by decide +kernel
theorem d_Plan_lateThings_52 : decode b_Plan_lateThings 52 = .ok (.ior, 1) := by decide +kernel
theorem d_Plan_lateThings_53 : decode b_Plan_lateThings 53 = .ok (.istore_n 1, 1) := by decide +kernel
theorem d_Plan_lateThings_54 : decode b_Plan_lateThings 54 = .ok (.iinc 2 1, 3) := by decide +kernel
theorem d_Plan_lateThings_57 : decode b_Plan_lateThings 57 = .ok (.goto (-53), 3) := by decide +kernel
theorem d_Plan_lateThings_60 : decode b_Plan_lateThings 60 = .ok (.iload_n 1, 1) := by decide +kernel
theorem d_Plan_lateThings_61 : decode b_Plan_lateThings 61 = .ok (.ireturn, 1) := by decide +kernel
theorem d_Plan_read_0 : decode b_Plan_read 0 = .ok (.iconst 0, 1) := by decide +kernel
theorem d_Plan_read_1 : decode b_Plan_read 1 = .ok (.istore_n 2, 1) := by decide +kernel
theorem d_Plan_read_2 : decode b_Plan_read 2 = .ok (.iload_n 2, 1) := by decide +kernel
theorem d_Plan_read_3 : decode b_Plan_read 3 = .ok (.aload_n 0, 1) := by decide +kernel
theorem d_Plan_read_4 : decode b_Plan_read 4 = .ok (.getfield 15, 3) := by decide +kernel
theorem d_Plan_read_7 : decode b_Plan_read 7 = .ok (.getfield 19, 3) := by decide +kernel
theorem d_Plan_read_10 : decode b_Plan_read 10 = .ok (.if_icmp .ge 56, 3) := by decide +kernel
theorem d_Plan_read_13 : decode b_Plan_read 13 = .ok (.aload_n 1, 1) := by decide +kernel
theorem d_Plan_read_14 : decode b_Plan_read 14 = .ok (.iload_n 2, 1) := by decide +kernel
theorem d_Plan_read_15 : decode b_Plan_read 15 = .ok (.invokevirtual 25, 3) := by decide +kernel
theorem d_Plan_read_18 : decode b_Plan_read 18 = .ok (.ifCond .eq 12, 3) := by decide +kernel
theorem d_Plan_read_21 : decode b_Plan_read 21 = .ok (.aload_n 1, 1) := by decide +kernel
theorem d_Plan_read_22 : decode b_Plan_read 22 = .ok (.getfield 31, 3) := by decide +kernel
theorem d_Plan_read_25 : decode b_Plan_read 25 = .ok (.iload_n 2, 1) := by decide +kernel
theorem d_Plan_read_26 : decode b_Plan_read 26 = .ok (.laload, 1) := by decide +kernel
theorem d_Plan_read_27 : decode b_Plan_read 27 = .ok (.goto 6, 3) := by decide +kernel
theorem d_Plan_read_30 : decode b_Plan_read 30 = .ok (.ldc2_w 35, 3) := by decide +kernel
theorem d_Plan_read_33 : decode b_Plan_read 33 = .ok (.lstore_n 3, 1) := by decide +kernel
theorem d_Plan_read_34 : decode b_Plan_read 34 = .ok (.aload_n 0, 1) := by decide +kernel
theorem d_Plan_read_35 : decode b_Plan_read 35 = .ok (.getfield 9, 3) := by decide +kernel
theorem d_Plan_read_38 : decode b_Plan_read 38 = .ok (.iload_n 2, 1) := by decide +kernel
theorem d_Plan_read_39 : decode b_Plan_read 39 = .ok (.lload_n 3, 1) := by decide +kernel
theorem d_Plan_read_40 : decode b_Plan_read 40 = .ok (.lconst 0, 1) := by decide +kernel
theorem d_Plan_read_41 : decode b_Plan_read 41 = .ok (.lcmp, 1) := by decide +kernel
theorem d_Plan_read_42 : decode b_Plan_read 42 = .ok (.ifCond .lt 16, 3) := by decide +kernel
theorem d_Plan_read_45 : decode b_Plan_read 45 = .ok (.lload_n 3, 1) := by decide +kernel
theorem d_Plan_read_46 : decode b_Plan_read 46 = .ok (.ldc2_w 37, 3) := by decide +kernel
theorem d_Plan_read_49 : decode b_Plan_read 49 = .ok (.lcmp, 1) := by decide +kernel
theorem d_Plan_read_50 : decode b_Plan_read 50 = .ok (.ifCond .ge 8, 3) := by decide +kernel
theorem d_Plan_read_53 : decode b_Plan_read 53 = .ok (.lload_n 3, 1) := by decide +kernel
theorem d_Plan_read_54 : decode b_Plan_read 54 = .ok (.l2i, 1) := by decide +kernel
theorem d_Plan_read_55 : decode b_Plan_read 55 = .ok (.goto 4, 3) := by decide +kernel
theorem d_Plan_read_58 : decode b_Plan_read 58 = .ok (.iconst (-1), 1) := by decide +kernel
theorem d_Plan_read_59 : decode b_Plan_read 59 = .ok (.iastore, 1) := by decide +kernel
theorem d_Plan_read_60 : decode b_Plan_read 60 = .ok (.iinc 2 1, 3) := by decide +kernel
theorem d_Plan_read_63 : decode b_Plan_read 63 = .ok (.goto (-61), 3) := by decide +kernel
theorem d_Plan_read_66 : decode b_Plan_read 66 = .ok (.return_, 1) := by decide +kernel
theorem d_Top_late_0 : decode b_Top_late 0 = .ok (.aload_n 0, 1) := by decide +kernel
theorem d_Top_late_1 : decode b_Top_late 1 = .ok (.iload_n 1, 1) := by decide +kernel
theorem d_Top_late_2 : decode b_Top_late 2 = .ok (.iconst 0, 1) := by decide +kernel
theorem d_Top_late_3 : decode b_Top_late 3 = .ok (.invokevirtual 112, 3) := by decide +kernel
theorem d_Top_late_6 : decode b_Top_late 6 = .ok (.istore_n 3, 1) := by decide +kernel
theorem d_Top_late_7 : decode b_Top_late 7 = .ok (.iload_n 3, 1) := by decide +kernel
theorem d_Top_late_8 : decode b_Top_late 8 = .ok (.iconst (-1), 1) := by decide +kernel
theorem d_Top_late_9 : decode b_Top_late 9 = .ok (.if_icmp .eq 12, 3) := by decide +kernel
theorem d_Top_late_12 : decode b_Top_late 12 = .ok (.iload_n 2, 1) := by decide +kernel
theorem d_Top_late_13 : decode b_Top_late 13 = .ok (.iconst 0, 1) := by decide +kernel
theorem d_Top_late_14 : decode b_Top_late 14 = .ok (.iconst 1, 1) := by decide +kernel
theorem d_Top_late_15 : decode b_Top_late 15 = .ok (.invokestatic 108, 3) := by decide +kernel
theorem d_Top_late_18 : decode b_Top_late 18 = .ok (.ifCond .ne 5, 3) := by decide +kernel
theorem d_Top_late_21 : decode b_Top_late 21 = .ok (.iconst (-1), 1) := by decide +kernel
theorem d_Top_late_22 : decode b_Top_late 22 = .ok (.ireturn, 1) := by decide +kernel
theorem d_Top_late_23 : decode b_Top_late 23 = .ok (.iload_n 3, 1) := by decide +kernel
theorem d_Top_late_24 : decode b_Top_late 24 = .ok (.ifCond .eq 5, 3) := by decide +kernel
theorem d_Top_late_27 : decode b_Top_late 27 = .ok (.iload_n 3, 1) := by decide +kernel
theorem d_Top_late_28 : decode b_Top_late 28 = .ok (.ireturn, 1) := by decide +kernel
theorem d_Top_late_29 : decode b_Top_late 29 = .ok (.aload_n 0, 1) := by decide +kernel
theorem d_Top_late_30 : decode b_Top_late 30 = .ok (.getfield 53, 3) := by decide +kernel
theorem d_Top_late_33 : decode b_Top_late 33 = .ok (.aload_n 0, 1) := by decide +kernel
theorem d_Top_late_34 : decode b_Top_late 34 = .ok (.getfield 87, 3) := by decide +kernel
theorem d_Top_late_37 : decode b_Top_late 37 = .ok (.iload_n 1, 1) := by decide +kernel
theorem d_Top_late_38 : decode b_Top_late 38 = .ok (.aaload, 1) := by decide +kernel
theorem d_Top_late_39 : decode b_Top_late 39 = .ok (.invokevirtual 234, 3) := by decide +kernel
theorem d_Top_late_42 : decode b_Top_late 42 = .ok (.iload_n 2, 1) := by decide +kernel
theorem d_Top_late_43 : decode b_Top_late 43 = .ok (.ifCond .ne 13, 3) := by decide +kernel
theorem d_Top_late_46 : decode b_Top_late 46 = .ok (.aload_n 0, 1) := by decide +kernel
theorem d_Top_late_47 : decode b_Top_late 47 = .ok (.getfield 53, 3) := by decide +kernel
theorem d_Top_late_50 : decode b_Top_late 50 = .ok (.invokevirtual 237, 3) := by decide +kernel
theorem d_Top_late_53 : decode b_Top_late 53 = .ok (.goto 12, 3) := by decide +kernel
theorem d_Top_late_56 : decode b_Top_late 56 = .ok (.aload_n 0, 1) := by decide +kernel
theorem d_Top_late_57 : decode b_Top_late 57 = .ok (.getfield 53, 3) := by decide +kernel
theorem d_Top_late_60 : decode b_Top_late 60 = .ok (.iconst 0, 1) := by decide +kernel
theorem d_Top_late_61 : decode b_Top_late 61 = .ok (.iconst 0, 1) := by decide +kernel
theorem d_Top_late_62 : decode b_Top_late 62 = .ok (.invokevirtual 240, 3) := by decide +kernel
theorem d_Top_late_65 : decode b_Top_late 65 = .ok (.ireturn, 1) := by decide +kernel
theorem d_Law_become_0 : decode b_Law_become 0 = .ok (.aload_n 0, 1) := by decide +kernel
theorem d_Law_become_1 : decode b_Law_become 1 = .ok (.aload_n 1, 1) := by decide +kernel
theorem d_Law_become_2 : decode b_Law_become 2 = .ok (.getfield 21, 3) := by decide +kernel
theorem d_Law_become_5 : decode b_Law_become 5 = .ok (.bipush 121, 2) := by decide +kernel
theorem d_Law_become_7 : decode b_Law_become 7 = .ok (.invokestatic 25, 3) := by decide +kernel
theorem d_Law_become_10 : decode b_Law_become 10 = .ok (.putfield 31, 3) := by decide +kernel
theorem d_Law_become_13 : decode b_Law_become 13 = .ok (.aload_n 1, 1) := by decide +kernel
theorem d_Law_become_14 : decode b_Law_become 14 = .ok (.getfield 34, 3) := by decide +kernel
theorem d_Law_become_17 : decode b_Law_become 17 = .ok (.iconst 0, 1) := by decide +kernel
theorem d_Law_become_18 : decode b_Law_become 18 = .ok (.aload_n 0, 1) := by decide +kernel
theorem d_Law_become_19 : decode b_Law_become 19 = .ok (.getfield 11, 3) := by decide +kernel
theorem d_Law_become_22 : decode b_Law_become 22 = .ok (.iconst 0, 1) := by decide +kernel
theorem d_Law_become_23 : decode b_Law_become 23 = .ok (.aload_n 0, 1) := by decide +kernel
theorem d_Law_become_24 : decode b_Law_become 24 = .ok (.getfield 31, 3) := by decide +kernel
theorem d_Law_become_27 : decode b_Law_become 27 = .ok (.invokestatic 35, 3) := by decide +kernel
theorem d_Law_become_30 : decode b_Law_become 30 = .ok (.return_, 1) := by decide +kernel
theorem d_Tape_clear_0 : decode b_Tape_clear 0 = .ok (.aload_n 0, 1) := by decide +kernel
theorem d_Tape_clear_1 : decode b_Tape_clear 1 = .ok (.iconst 0, 1) := by decide +kernel
theorem d_Tape_clear_2 : decode b_Tape_clear 2 = .ok (.putfield 23, 3) := by decide +kernel
theorem d_Tape_clear_5 : decode b_Tape_clear 5 = .ok (.return_, 1) := by decide +kernel
theorem d_Tape_lastWaiting_0 : decode b_Tape_lastWaiting 0 = .ok (.aload_n 0, 1) := by decide +kernel
theorem d_Tape_lastWaiting_1 : decode b_Tape_lastWaiting 1 = .ok (.getfield 34, 3) := by decide +kernel
theorem d_Tape_lastWaiting_4 : decode b_Tape_lastWaiting 4 = .ok (.ifCond .le 26, 3) := by decide +kernel
theorem d_Tape_lastWaiting_7 : decode b_Tape_lastWaiting 7 = .ok (.aload_n 0, 1) := by decide +kernel
theorem d_Tape_lastWaiting_8 : decode b_Tape_lastWaiting 8 = .ok (.getfield 34, 3) := by decide +kernel
theorem d_Tape_lastWaiting_11 : decode b_Tape_lastWaiting 11 = .ok (.bipush 120, 2) := by decide +kernel
theorem d_Tape_lastWaiting_13 : decode b_Tape_lastWaiting 13 = .ok (.if_icmp .gt 17, 3) := by decide +kernel
theorem d_Tape_lastWaiting_16 : decode b_Tape_lastWaiting 16 = .ok (.aload_n 0, 1) := by decide +kernel
theorem d_Tape_lastWaiting_17 : decode b_Tape_lastWaiting 17 = .ok (.getfield 20, 3) := by decide +kernel
theorem d_Tape_lastWaiting_20 : decode b_Tape_lastWaiting 20 = .ok (.aload_n 0, 1) := by decide +kernel
theorem d_Tape_lastWaiting_21 : decode b_Tape_lastWaiting 21 = .ok (.getfield 34, 3) := by decide +kernel
theorem d_Tape_lastWaiting_24 : decode b_Tape_lastWaiting 24 = .ok (.iconst 1, 1) := by decide +kernel
theorem d_Tape_lastWaiting_25 : decode b_Tape_lastWaiting 25 = .ok (.isub, 1) := by decide +kernel
theorem d_Tape_lastWaiting_26 : decode b_Tape_lastWaiting 26 = .ok (.iaload, 1) := by decide +kernel
theorem d_Tape_lastWaiting_27 : decode b_Tape_lastWaiting 27 = .ok (.goto 4, 3) := by decide +kernel
theorem d_Tape_lastWaiting_30 : decode b_Tape_lastWaiting 30 = .ok (.iconst 0, 1) := by decide +kernel
theorem d_Tape_lastWaiting_31 : decode b_Tape_lastWaiting 31 = .ok (.ireturn, 1) := by decide +kernel
theorem d_Tape_rank_0 : decode b_Tape_rank 0 = .ok (.iload_n 0, 1) := by decide +kernel
theorem d_Tape_rank_1 : decode b_Tape_rank 1 = .ok (.lookupswitch 101 #[(37, 99), (38, 93), (42, 99), (43, 97), (45, 97), (47, 99), (60, 95), (61, 95), (62, 95), (124, 91)], 91) := by decide +kernel
theorem d_Tape_rank_92 : decode b_Tape_rank 92 = .ok (.iconst 1, 1) := by decide +kernel
theorem d_Tape_rank_93 : decode b_Tape_rank 93 = .ok (.ireturn, 1) := by decide +kernel
theorem d_Tape_rank_94 : decode b_Tape_rank 94 = .ok (.iconst 2, 1) := by decide +kernel
theorem d_Tape_rank_95 : decode b_Tape_rank 95 = .ok (.ireturn, 1) := by decide +kernel
theorem d_Tape_rank_96 : decode b_Tape_rank 96 = .ok (.iconst 3, 1) := by decide +kernel
theorem d_Tape_rank_97 : decode b_Tape_rank 97 = .ok (.ireturn, 1) := by decide +kernel
theorem d_Tape_rank_98 : decode b_Tape_rank 98 = .ok (.iconst 4, 1) := by decide +kernel
theorem d_Tape_rank_99 : decode b_Tape_rank 99 = .ok (.ireturn, 1) := by decide +kernel
theorem d_Tape_rank_100 : decode b_Tape_rank 100 = .ok (.iconst 5, 1) := by decide +kernel
theorem d_Tape_rank_101 : decode b_Tape_rank 101 = .ok (.ireturn, 1) := by decide +kernel
theorem d_Tape_rank_102 : decode b_Tape_rank 102 = .ok (.iconst 0, 1) := by decide +kernel
theorem d_Tape_rank_103 : decode b_Tape_rank 103 = .ok (.ireturn, 1) := by decide +kernel
theorem d_Tape_writeStep_0 : decode b_Tape_writeStep 0 = .ok (.aload_n 0, 1) := by decide +kernel
theorem d_Tape_writeStep_1 : decode b_Tape_writeStep 1 = .ok (.getfield 31, 3) := by decide +kernel
theorem d_Tape_writeStep_4 : decode b_Tape_writeStep 4 = .ok (.bipush 121, 2) := by decide +kernel
theorem d_Tape_writeStep_6 : decode b_Tape_writeStep 6 = .ok (.if_icmp .ge 23, 3) := by decide +kernel
theorem d_Tape_writeStep_9 : decode b_Tape_writeStep 9 = .ok (.aload_n 0, 1) := by decide +kernel
theorem d_Tape_writeStep_10 : decode b_Tape_writeStep 10 = .ok (.getfield 17, 3) := by decide +kernel
theorem d_Tape_writeStep_13 : decode b_Tape_writeStep 13 = .ok (.aload_n 0, 1) := by decide +kernel
theorem d_Tape_writeStep_14 : decode b_Tape_writeStep 14 = .ok (.getfield 31, 3) := by decide +kernel
theorem d_Tape_writeStep_17 : decode b_Tape_writeStep 17 = .ok (.iload_n 1, 1) := by decide +kernel
theorem d_Tape_writeStep_18 : decode b_Tape_writeStep 18 = .ok (.iastore, 1) := by decide +kernel
theorem d_Tape_writeStep_19 : decode b_Tape_writeStep 19 = .ok (.aload_n 0, 1) := by decide +kernel
theorem d_Tape_writeStep_20 : decode b_Tape_writeStep 20 = .ok (.dup, 1) := by decide +kernel
theorem d_Tape_writeStep_21 : decode b_Tape_writeStep 21 = .ok (.getfield 31, 3) := by decide +kernel
theorem d_Tape_writeStep_24 : decode b_Tape_writeStep 24 = .ok (.iconst 1, 1) := by decide +kernel
theorem d_Tape_writeStep_25 : decode b_Tape_writeStep 25 = .ok (.iadd, 1) := by decide +kernel
theorem d_Tape_writeStep_26 : decode b_Tape_writeStep 26 = .ok (.putfield 31, 3) := by decide +kernel
theorem d_Tape_writeStep_29 : decode b_Tape_writeStep 29 = .ok (.return_, 1) := by decide +kernel
theorem d_Tape_release_0 : decode b_Tape_release 0 = .ok (.aload_n 0, 1) := by decide +kernel
theorem d_Tape_release_1 : decode b_Tape_release 1 = .ok (.getfield 34, 3) := by decide +kernel
theorem d_Tape_release_4 : decode b_Tape_release 4 = .ok (.ifCond .le 36, 3) := by decide +kernel
theorem d_Tape_release_7 : decode b_Tape_release 7 = .ok (.aload_n 0, 1) := by decide +kernel
theorem d_Tape_release_8 : decode b_Tape_release 8 = .ok (.invokevirtual 103, 3) := by decide +kernel
theorem d_Tape_release_11 : decode b_Tape_release 11 = .ok (.invokestatic 91, 3) := by decide +kernel
theorem d_Tape_release_14 : decode b_Tape_release 14 = .ok (.iload_n 1, 1) := by decide +kernel
theorem d_Tape_release_15 : decode b_Tape_release 15 = .ok (.if_icmp .lt 25, 3) := by decide +kernel
theorem d_Tape_release_18 : decode b_Tape_release 18 = .ok (.aload_n 0, 1) := by decide +kernel
theorem d_Tape_release_19 : decode b_Tape_release 19 = .ok (.aload_n 0, 1) := by decide +kernel
theorem d_Tape_release_20 : decode b_Tape_release 20 = .ok (.invokevirtual 103, 3) := by decide +kernel
theorem d_Tape_release_23 : decode b_Tape_release 23 = .ok (.ineg, 1) := by decide +kernel
theorem d_Tape_release_24 : decode b_Tape_release 24 = .ok (.invokevirtual 73, 3) := by decide +kernel
theorem d_Tape_release_27 : decode b_Tape_release 27 = .ok (.aload_n 0, 1) := by decide +kernel
theorem d_Tape_release_28 : decode b_Tape_release 28 = .ok (.dup, 1) := by decide +kernel
theorem d_Tape_release_29 : decode b_Tape_release 29 = .ok (.getfield 34, 3) := by decide +kernel
theorem d_Tape_release_32 : decode b_Tape_release 32 = .ok (.iconst 1, 1) := by decide +kernel
theorem d_Tape_release_33 : decode b_Tape_release 33 = .ok (.isub, 1) := by decide +kernel
theorem d_Tape_release_34 : decode b_Tape_release 34 = .ok (.putfield 34, 3) := by decide +kernel
theorem d_Tape_release_37 : decode b_Tape_release 37 = .ok (.goto (-37), 3) := by decide +kernel
theorem d_Tape_release_40 : decode b_Tape_release 40 = .ok (.return_, 1) := by decide +kernel
theorem d_Tape_endLine_0 : decode b_Tape_endLine 0 = .ok (.aload_n 0, 1) := by decide +kernel
theorem d_Tape_endLine_1 : decode b_Tape_endLine 1 = .ok (.iconst 1, 1) := by decide +kernel
theorem d_Tape_endLine_2 : decode b_Tape_endLine 2 = .ok (.invokevirtual 100, 3) := by decide +kernel
theorem d_Tape_endLine_5 : decode b_Tape_endLine 5 = .ok (.aload_n 0, 1) := by decide +kernel
theorem d_Tape_endLine_6 : decode b_Tape_endLine 6 = .ok (.aload_n 0, 1) := by decide +kernel
theorem d_Tape_endLine_7 : decode b_Tape_endLine 7 = .ok (.getfield 47, 3) := by decide +kernel
theorem d_Tape_endLine_10 : decode b_Tape_endLine 10 = .ok (.ifCond .eq 8, 3) := by decide +kernel
theorem d_Tape_endLine_13 : decode b_Tape_endLine 13 = .ok (.bipush (-63), 2) := by decide +kernel
theorem d_Tape_endLine_15 : decode b_Tape_endLine 15 = .ok (.goto 5, 3) := by decide +kernel
theorem d_Tape_endLine_18 : decode b_Tape_endLine 18 = .ok (.bipush (-59), 2) := by decide +kernel
theorem d_Tape_endLine_20 : decode b_Tape_endLine 20 = .ok (.invokevirtual 73, 3) := by decide +kernel
theorem d_Tape_endLine_23 : decode b_Tape_endLine 23 = .ok (.aload_n 0, 1) := by decide +kernel
theorem d_Tape_endLine_24 : decode b_Tape_endLine 24 = .ok (.iconst 0, 1) := by decide +kernel
theorem d_Tape_endLine_25 : decode b_Tape_endLine 25 = .ok (.putfield 47, 3) := by decide +kernel
theorem d_Tape_endLine_28 : decode b_Tape_endLine 28 = .ok (.aload_n 0, 1) := by decide +kernel
theorem d_Tape_endLine_29 : decode b_Tape_endLine 29 = .ok (.iconst 1, 1) := by decide +kernel
theorem d_Tape_endLine_30 : decode b_Tape_endLine 30 = .ok (.putfield 43, 3) := by decide +kernel
theorem d_Tape_endLine_33 : decode b_Tape_endLine 33 = .ok (.return_, 1) := by decide +kernel
theorem d_Tape_endOperand_0 : decode b_Tape_endOperand 0 = .ok (.aload_n 0, 1) := by decide +kernel
theorem d_Tape_endOperand_1 : decode b_Tape_endOperand 1 = .ok (.iconst 0, 1) := by decide +kernel
theorem d_Tape_endOperand_2 : decode b_Tape_endOperand 2 = .ok (.putfield 43, 3) := by decide +kernel
theorem d_Tape_endOperand_5 : decode b_Tape_endOperand 5 = .ok (.aload_n 0, 1) := by decide +kernel
theorem d_Tape_endOperand_6 : decode b_Tape_endOperand 6 = .ok (.getfield 34, 3) := by decide +kernel
theorem d_Tape_endOperand_9 : decode b_Tape_endOperand 9 = .ok (.ifCond .le 53, 3) := by decide +kernel
theorem d_Tape_endOperand_12 : decode b_Tape_endOperand 12 = .ok (.aload_n 0, 1) := by decide +kernel
theorem d_Tape_endOperand_13 : decode b_Tape_endOperand 13 = .ok (.invokevirtual 103, 3) := by decide +kernel
theorem d_Tape_endOperand_16 : decode b_Tape_endOperand 16 = .ok (.bipush 33, 2) := by decide +kernel
theorem d_Tape_endOperand_18 : decode b_Tape_endOperand 18 = .ok (.if_icmp .eq 12, 3) := by decide +kernel
theorem d_Tape_endOperand_21 : decode b_Tape_endOperand 21 = .ok (.aload_n 0, 1) := by decide +kernel
theorem d_Tape_endOperand_22 : decode b_Tape_endOperand 22 = .ok (.invokevirtual 103, 3) := by decide +kernel
theorem d_Tape_endOperand_25 : decode b_Tape_endOperand 25 = .ok (.bipush 126, 2) := by decide +kernel
theorem d_Tape_endOperand_27 : decode b_Tape_endOperand 27 = .ok (.if_icmp .ne 35, 3) := by decide +kernel
theorem d_Tape_endOperand_30 : decode b_Tape_endOperand 30 = .ok (.aload_n 0, 1) := by decide +kernel
theorem d_Tape_endOperand_31 : decode b_Tape_endOperand 31 = .ok (.aload_n 0, 1) := by decide +kernel
theorem d_Tape_endOperand_32 : decode b_Tape_endOperand 32 = .ok (.invokevirtual 103, 3) := by decide +kernel
theorem d_Tape_endOperand_35 : decode b_Tape_endOperand 35 = .ok (.ineg, 1) := by decide +kernel
theorem d_Tape_endOperand_36 : decode b_Tape_endOperand 36 = .ok (.invokevirtual 73, 3) := by decide +kernel
theorem d_Tape_endOperand_39 : decode b_Tape_endOperand 39 = .ok (.aload_n 0, 1) := by decide +kernel
theorem d_Tape_endOperand_40 : decode b_Tape_endOperand 40 = .ok (.dup, 1) := by decide +kernel
theorem d_Tape_endOperand_41 : decode b_Tape_endOperand 41 = .ok (.getfield 34, 3) := by decide +kernel
theorem d_Tape_endOperand_44 : decode b_Tape_endOperand 44 = .ok (.iconst 1, 1) := by decide +kernel
theorem d_Tape_endOperand_45 : decode b_Tape_endOperand 45 = .ok (.isub, 1) := by decide +kernel
theorem d_Tape_endOperand_46 : decode b_Tape_endOperand 46 = .ok (.putfield 34, 3) := by decide +kernel
theorem d_Tape_endOperand_49 : decode b_Tape_endOperand 49 = .ok (.aload_n 0, 1) := by decide +kernel
theorem d_Tape_endOperand_50 : decode b_Tape_endOperand 50 = .ok (.dup, 1) := by decide +kernel
theorem d_Tape_endOperand_51 : decode b_Tape_endOperand 51 = .ok (.getfield 37, 3) := by decide +kernel
theorem d_Tape_endOperand_54 : decode b_Tape_endOperand 54 = .ok (.iconst 1, 1) := by decide +kernel
theorem d_Tape_endOperand_55 : decode b_Tape_endOperand 55 = .ok (.isub, 1) := by decide +kernel
theorem d_Tape_endOperand_56 : decode b_Tape_endOperand 56 = .ok (.putfield 37, 3) := by decide +kernel
theorem d_Tape_endOperand_59 : decode b_Tape_endOperand 59 = .ok (.goto (-54), 3) := by decide +kernel
theorem d_Tape_endOperand_62 : decode b_Tape_endOperand 62 = .ok (.return_, 1) := by decide +kernel
theorem d_Tape_takesDigit_0 : decode b_Tape_takesDigit 0 = .ok (.aload_n 0, 1) := by decide +kernel
theorem d_Tape_takesDigit_1 : decode b_Tape_takesDigit 1 = .ok (.getfield 43, 3) := by decide +kernel
theorem d_Tape_takesDigit_4 : decode b_Tape_takesDigit 4 = .ok (.ifCond .eq 27, 3) := by decide +kernel
theorem d_Tape_takesDigit_7 : decode b_Tape_takesDigit 7 = .ok (.aload_n 0, 1) := by decide +kernel
theorem d_Tape_takesDigit_8 : decode b_Tape_takesDigit 8 = .ok (.aload_n 0, 1) := by decide +kernel
theorem d_Tape_takesDigit_9 : decode b_Tape_takesDigit 9 = .ok (.getfield 31, 3) := by decide +kernel
theorem d_Tape_takesDigit_12 : decode b_Tape_takesDigit 12 = .ok (.putfield 70, 3) := by decide +kernel
theorem d_Tape_takesDigit_15 : decode b_Tape_takesDigit 15 = .ok (.aload_n 0, 1) := by decide +kernel
theorem d_Tape_takesDigit_16 : decode b_Tape_takesDigit 16 = .ok (.iconst 1, 1) := by decide +kernel
theorem d_Tape_takesDigit_17 : decode b_Tape_takesDigit 17 = .ok (.putfield 40, 3) := by decide +kernel
theorem d_Tape_takesDigit_20 : decode b_Tape_takesDigit 20 = .ok (.aload_n 0, 1) := by decide +kernel
theorem d_Tape_takesDigit_21 : decode b_Tape_takesDigit 21 = .ok (.iload_n 1, 1) := by decide +kernel
theorem d_Tape_takesDigit_22 : decode b_Tape_takesDigit 22 = .ok (.invokevirtual 73, 3) := by decide +kernel
theorem d_Tape_takesDigit_25 : decode b_Tape_takesDigit 25 = .ok (.aload_n 0, 1) := by decide +kernel
theorem d_Tape_takesDigit_26 : decode b_Tape_takesDigit 26 = .ok (.invokevirtual 77, 3) := by decide +kernel
theorem d_Tape_takesDigit_29 : decode b_Tape_takesDigit 29 = .ok (.iconst 1, 1) := by decide +kernel
theorem d_Tape_takesDigit_30 : decode b_Tape_takesDigit 30 = .ok (.ireturn, 1) := by decide +kernel
theorem d_Tape_takesDigit_31 : decode b_Tape_takesDigit 31 = .ok (.aload_n 0, 1) := by decide +kernel
theorem d_Tape_takesDigit_32 : decode b_Tape_takesDigit 32 = .ok (.getfield 40, 3) := by decide +kernel
theorem d_Tape_takesDigit_35 : decode b_Tape_takesDigit 35 = .ok (.ifCond .eq 28, 3) := by decide +kernel
theorem d_Tape_takesDigit_38 : decode b_Tape_takesDigit 38 = .ok (.aload_n 0, 1) := by decide +kernel
theorem d_Tape_takesDigit_39 : decode b_Tape_takesDigit 39 = .ok (.getfield 40, 3) := by decide +kernel
theorem d_Tape_takesDigit_42 : decode b_Tape_takesDigit 42 = .ok (.iconst 4, 1) := by decide +kernel
theorem d_Tape_takesDigit_43 : decode b_Tape_takesDigit 43 = .ok (.if_icmp .ge 20, 3) := by decide +kernel
theorem d_Tape_takesDigit_46 : decode b_Tape_takesDigit 46 = .ok (.aload_n 0, 1) := by decide +kernel
theorem d_Tape_takesDigit_47 : decode b_Tape_takesDigit 47 = .ok (.getfield 70, 3) := by decide +kernel
theorem d_Tape_takesDigit_50 : decode b_Tape_takesDigit 50 = .ok (.iconst 0, 1) := by decide +kernel
theorem d_Tape_takesDigit_51 : decode b_Tape_takesDigit 51 = .ok (.aload_n 0, 1) := by decide +kernel
theorem d_Tape_takesDigit_52 : decode b_Tape_takesDigit 52 = .ok (.getfield 31, 3) := by decide +kernel
theorem d_Tape_takesDigit_55 : decode b_Tape_takesDigit 55 = .ok (.iconst 1, 1) := by decide +kernel
theorem d_Tape_takesDigit_56 : decode b_Tape_takesDigit 56 = .ok (.isub, 1) := by decide +kernel
theorem d_Tape_takesDigit_57 : decode b_Tape_takesDigit 57 = .ok (.invokestatic 57, 3) := by decide +kernel
theorem d_Tape_takesDigit_60 : decode b_Tape_takesDigit 60 = .ok (.ifCond .ne 5, 3) := by decide +kernel
theorem d_Tape_takesDigit_63 : decode b_Tape_takesDigit 63 = .ok (.iconst 0, 1) := by decide +kernel
theorem d_Tape_takesDigit_64 : decode b_Tape_takesDigit 64 = .ok (.ireturn, 1) := by decide +kernel
theorem d_Tape_takesDigit_65 : decode b_Tape_takesDigit 65 = .ok (.aload_n 0, 1) := by decide +kernel
theorem d_Tape_takesDigit_66 : decode b_Tape_takesDigit 66 = .ok (.getfield 17, 3) := by decide +kernel
theorem d_Tape_takesDigit_69 : decode b_Tape_takesDigit 69 = .ok (.aload_n 0, 1) := by decide +kernel
theorem d_Tape_takesDigit_70 : decode b_Tape_takesDigit 70 = .ok (.getfield 70, 3) := by decide +kernel
theorem d_Tape_takesDigit_73 : decode b_Tape_takesDigit 73 = .ok (.aload_n 0, 1) := by decide +kernel
theorem d_Tape_takesDigit_74 : decode b_Tape_takesDigit 74 = .ok (.getfield 17, 3) := by decide +kernel
theorem d_Tape_takesDigit_77 : decode b_Tape_takesDigit 77 = .ok (.aload_n 0, 1) := by decide +kernel
theorem d_Tape_takesDigit_78 : decode b_Tape_takesDigit 78 = .ok (.getfield 70, 3) := by decide +kernel
theorem d_Tape_takesDigit_81 : decode b_Tape_takesDigit 81 = .ok (.iaload, 1) := by decide +kernel
theorem d_Tape_takesDigit_82 : decode b_Tape_takesDigit 82 = .ok (.bipush 10, 2) := by decide +kernel
theorem d_Tape_takesDigit_84 : decode b_Tape_takesDigit 84 = .ok (.imul, 1) := by decide +kernel
theorem d_Tape_takesDigit_85 : decode b_Tape_takesDigit 85 = .ok (.iload_n 1, 1) := by decide +kernel
theorem d_Tape_takesDigit_86 : decode b_Tape_takesDigit 86 = .ok (.iadd, 1) := by decide +kernel
theorem d_Tape_takesDigit_87 : decode b_Tape_takesDigit 87 = .ok (.iastore, 1) := by decide +kernel
theorem d_Tape_takesDigit_88 : decode b_Tape_takesDigit 88 = .ok (.aload_n 0, 1) := by decide +kernel
theorem d_Tape_takesDigit_89 : decode b_Tape_takesDigit 89 = .ok (.dup, 1) := by decide +kernel
theorem d_Tape_takesDigit_90 : decode b_Tape_takesDigit 90 = .ok (.getfield 40, 3) := by decide +kernel
theorem d_Tape_takesDigit_93 : decode b_Tape_takesDigit 93 = .ok (.iconst 1, 1) := by decide +kernel
theorem d_Tape_takesDigit_94 : decode b_Tape_takesDigit 94 = .ok (.iadd, 1) := by decide +kernel
theorem d_Tape_takesDigit_95 : decode b_Tape_takesDigit 95 = .ok (.putfield 40, 3) := by decide +kernel
theorem d_Tape_takesDigit_98 : decode b_Tape_takesDigit 98 = .ok (.iconst 1, 1) := by decide +kernel
theorem d_Tape_takesDigit_99 : decode b_Tape_takesDigit 99 = .ok (.ireturn, 1) := by decide +kernel
theorem d_Tape_pushWaiting_0 : decode b_Tape_pushWaiting 0 = .ok (.aload_n 0, 1) := by decide +kernel
theorem d_Tape_pushWaiting_1 : decode b_Tape_pushWaiting 1 = .ok (.getfield 34, 3) := by decide +kernel
theorem d_Tape_pushWaiting_4 : decode b_Tape_pushWaiting 4 = .ok (.bipush 120, 2) := by decide +kernel
theorem d_Tape_pushWaiting_6 : decode b_Tape_pushWaiting 6 = .ok (.if_icmp .ge 23, 3) := by decide +kernel
theorem d_Tape_pushWaiting_9 : decode b_Tape_pushWaiting 9 = .ok (.aload_n 0, 1) := by decide +kernel
theorem d_Tape_pushWaiting_10 : decode b_Tape_pushWaiting 10 = .ok (.getfield 20, 3) := by decide +kernel
theorem d_Tape_pushWaiting_13 : decode b_Tape_pushWaiting 13 = .ok (.aload_n 0, 1) := by decide +kernel
theorem d_Tape_pushWaiting_14 : decode b_Tape_pushWaiting 14 = .ok (.getfield 34, 3) := by decide +kernel
theorem d_Tape_pushWaiting_17 : decode b_Tape_pushWaiting 17 = .ok (.iload_n 1, 1) := by decide +kernel
theorem d_Tape_pushWaiting_18 : decode b_Tape_pushWaiting 18 = .ok (.iastore, 1) := by decide +kernel
theorem d_Tape_pushWaiting_19 : decode b_Tape_pushWaiting 19 = .ok (.aload_n 0, 1) := by decide +kernel
theorem d_Tape_pushWaiting_20 : decode b_Tape_pushWaiting 20 = .ok (.dup, 1) := by decide +kernel
theorem d_Tape_pushWaiting_21 : decode b_Tape_pushWaiting 21 = .ok (.getfield 34, 3) := by decide +kernel
theorem d_Tape_pushWaiting_24 : decode b_Tape_pushWaiting 24 = .ok (.iconst 1, 1) := by decide +kernel
theorem d_Tape_pushWaiting_25 : decode b_Tape_pushWaiting 25 = .ok (.iadd, 1) := by decide +kernel
theorem d_Tape_pushWaiting_26 : decode b_Tape_pushWaiting 26 = .ok (.putfield 34, 3) := by decide +kernel
theorem d_Tape_pushWaiting_29 : decode b_Tape_pushWaiting 29 = .ok (.return_, 1) := by decide +kernel
theorem d_Tape_takesOperand_0 : decode b_Tape_takesOperand 0 = .ok (.ldc 80, 2) := by decide +kernel
theorem d_Tape_takesOperand_2 : decode b_Tape_takesOperand 2 = .ok (.iload_n 1, 1) := by decide +kernel
theorem d_Tape_takesOperand_3 : decode b_Tape_takesOperand 3 = .ok (.i2c, 1) := by decide +kernel
theorem d_Tape_takesOperand_4 : decode b_Tape_takesOperand 4 = .ok (.invokevirtual 82, 3) := by decide +kernel
theorem d_Tape_takesOperand_7 : decode b_Tape_takesOperand 7 = .ok (.istore_n 2, 1) := by decide +kernel
theorem d_Tape_takesOperand_8 : decode b_Tape_takesOperand 8 = .ok (.iload_n 2, 1) := by decide +kernel
theorem d_Tape_takesOperand_9 : decode b_Tape_takesOperand 9 = .ok (.ifCond .lt 16, 3) := by decide +kernel
theorem d_Tape_takesOperand_12 : decode b_Tape_takesOperand 12 = .ok (.aload_n 0, 1) := by decide +kernel
theorem d_Tape_takesOperand_13 : decode b_Tape_takesOperand 13 = .ok (.iconst (-1), 1) := by decide +kernel
theorem d_Tape_takesOperand_14 : decode b_Tape_takesOperand 14 = .ok (.iload_n 2, 1) := by decide +kernel
theorem d_Tape_takesOperand_15 : decode b_Tape_takesOperand 15 = .ok (.isub, 1) := by decide +kernel
theorem d_Tape_takesOperand_16 : decode b_Tape_takesOperand 16 = .ok (.invokevirtual 73, 3) := by decide +kernel
theorem d_Tape_takesOperand_19 : decode b_Tape_takesOperand 19 = .ok (.aload_n 0, 1) := by decide +kernel
theorem d_Tape_takesOperand_20 : decode b_Tape_takesOperand 20 = .ok (.invokevirtual 77, 3) := by decide +kernel
theorem d_Tape_takesOperand_23 : decode b_Tape_takesOperand 23 = .ok (.iconst 1, 1) := by decide +kernel
theorem d_Tape_takesOperand_24 : decode b_Tape_takesOperand 24 = .ok (.ireturn, 1) := by decide +kernel
theorem d_Tape_takesOperand_25 : decode b_Tape_takesOperand 25 = .ok (.iload_n 1, 1) := by decide +kernel
theorem d_Tape_takesOperand_26 : decode b_Tape_takesOperand 26 = .ok (.bipush 40, 2) := by decide +kernel
theorem d_Tape_takesOperand_28 : decode b_Tape_takesOperand 28 = .ok (.if_icmp .eq 15, 3) := by decide +kernel
theorem d_Tape_takesOperand_31 : decode b_Tape_takesOperand 31 = .ok (.iload_n 1, 1) := by decide +kernel
theorem d_Tape_takesOperand_32 : decode b_Tape_takesOperand 32 = .ok (.bipush 33, 2) := by decide +kernel
theorem d_Tape_takesOperand_34 : decode b_Tape_takesOperand 34 = .ok (.if_icmp .eq 9, 3) := by decide +kernel
theorem d_Tape_takesOperand_37 : decode b_Tape_takesOperand 37 = .ok (.iload_n 1, 1) := by decide +kernel
theorem d_Tape_takesOperand_38 : decode b_Tape_takesOperand 38 = .ok (.bipush 45, 2) := by decide +kernel
theorem d_Tape_takesOperand_40 : decode b_Tape_takesOperand 40 = .ok (.if_icmp .ne 12, 3) := by decide +kernel
theorem d_Tape_takesOperand_43 : decode b_Tape_takesOperand 43 = .ok (.aload_n 0, 1) := by decide +kernel
theorem d_Tape_takesOperand_44 : decode b_Tape_takesOperand 44 = .ok (.getfield 37, 3) := by decide +kernel
theorem d_Tape_takesOperand_47 : decode b_Tape_takesOperand 47 = .ok (.bipush 6, 2) := by decide +kernel
theorem d_Tape_takesOperand_49 : decode b_Tape_takesOperand 49 = .ok (.if_icmp .lt 5, 3) := by decide +kernel
theorem d_Tape_takesOperand_52 : decode b_Tape_takesOperand 52 = .ok (.iconst 0, 1) := by decide +kernel
theorem d_Tape_takesOperand_53 : decode b_Tape_takesOperand 53 = .ok (.ireturn, 1) := by decide +kernel
theorem d_Tape_takesOperand_54 : decode b_Tape_takesOperand 54 = .ok (.aload_n 0, 1) := by decide +kernel
theorem d_Tape_takesOperand_55 : decode b_Tape_takesOperand 55 = .ok (.dup, 1) := by decide +kernel
theorem d_Tape_takesOperand_56 : decode b_Tape_takesOperand 56 = .ok (.getfield 37, 3) := by decide +kernel
theorem d_Tape_takesOperand_59 : decode b_Tape_takesOperand 59 = .ok (.iconst 1, 1) := by decide +kernel
theorem d_Tape_takesOperand_60 : decode b_Tape_takesOperand 60 = .ok (.iadd, 1) := by decide +kernel
theorem d_Tape_takesOperand_61 : decode b_Tape_takesOperand 61 = .ok (.putfield 37, 3) := by decide +kernel
theorem d_Tape_takesOperand_64 : decode b_Tape_takesOperand 64 = .ok (.aload_n 0, 1) := by decide +kernel
theorem d_Tape_takesOperand_65 : decode b_Tape_takesOperand 65 = .ok (.iload_n 1, 1) := by decide +kernel
theorem d_Tape_takesOperand_66 : decode b_Tape_takesOperand 66 = .ok (.bipush 45, 2) := by decide +kernel
theorem d_Tape_takesOperand_68 : decode b_Tape_takesOperand 68 = .ok (.if_icmp .ne 8, 3) := by decide +kernel
theorem d_Tape_takesOperand_71 : decode b_Tape_takesOperand 71 = .ok (.bipush 126, 2) := by decide +kernel
theorem d_Tape_takesOperand_73 : decode b_Tape_takesOperand 73 = .ok (.goto 4, 3) := by decide +kernel
theorem d_Tape_takesOperand_76 : decode b_Tape_takesOperand 76 = .ok (.iload_n 1, 1) := by decide +kernel
theorem d_Tape_takesOperand_77 : decode b_Tape_takesOperand 77 = .ok (.invokevirtual 88, 3) := by decide +kernel
theorem d_Tape_takesOperand_80 : decode b_Tape_takesOperand 80 = .ok (.iconst 1, 1) := by decide +kernel
theorem d_Tape_takesOperand_81 : decode b_Tape_takesOperand 81 = .ok (.ireturn, 1) := by decide +kernel
theorem d_Tape_takesClose_0 : decode b_Tape_takesClose 0 = .ok (.aload_n 0, 1) := by decide +kernel
theorem d_Tape_takesClose_1 : decode b_Tape_takesClose 1 = .ok (.iconst 1, 1) := by decide +kernel
theorem d_Tape_takesClose_2 : decode b_Tape_takesClose 2 = .ok (.invokevirtual 100, 3) := by decide +kernel
theorem d_Tape_takesClose_5 : decode b_Tape_takesClose 5 = .ok (.aload_n 0, 1) := by decide +kernel
theorem d_Tape_takesClose_6 : decode b_Tape_takesClose 6 = .ok (.invokevirtual 103, 3) := by decide +kernel
theorem d_Tape_takesClose_9 : decode b_Tape_takesClose 9 = .ok (.bipush 40, 2) := by decide +kernel
theorem d_Tape_takesClose_11 : decode b_Tape_takesClose 11 = .ok (.if_icmp .eq 5, 3) := by decide +kernel
theorem d_Tape_takesClose_14 : decode b_Tape_takesClose 14 = .ok (.iconst 0, 1) := by decide +kernel
theorem d_Tape_takesClose_15 : decode b_Tape_takesClose 15 = .ok (.ireturn, 1) := by decide +kernel
theorem d_Tape_takesClose_16 : decode b_Tape_takesClose 16 = .ok (.aload_n 0, 1) := by decide +kernel
theorem d_Tape_takesClose_17 : decode b_Tape_takesClose 17 = .ok (.dup, 1) := by decide +kernel
theorem d_Tape_takesClose_18 : decode b_Tape_takesClose 18 = .ok (.getfield 34, 3) := by decide +kernel
theorem d_Tape_takesClose_21 : decode b_Tape_takesClose 21 = .ok (.iconst 1, 1) := by decide +kernel
theorem d_Tape_takesClose_22 : decode b_Tape_takesClose 22 = .ok (.isub, 1) := by decide +kernel
theorem d_Tape_takesClose_23 : decode b_Tape_takesClose 23 = .ok (.putfield 34, 3) := by decide +kernel
theorem d_Tape_takesClose_26 : decode b_Tape_takesClose 26 = .ok (.aload_n 0, 1) := by decide +kernel
theorem d_Tape_takesClose_27 : decode b_Tape_takesClose 27 = .ok (.dup, 1) := by decide +kernel
theorem d_Tape_takesClose_28 : decode b_Tape_takesClose 28 = .ok (.getfield 37, 3) := by decide +kernel
theorem d_Tape_takesClose_31 : decode b_Tape_takesClose 31 = .ok (.iconst 1, 1) := by decide +kernel
theorem d_Tape_takesClose_32 : decode b_Tape_takesClose 32 = .ok (.isub, 1) := by decide +kernel
theorem d_Tape_takesClose_33 : decode b_Tape_takesClose 33 = .ok (.putfield 37, 3) := by decide +kernel
theorem d_Tape_takesClose_36 : decode b_Tape_takesClose 36 = .ok (.aload_n 0, 1) := by decide +kernel
theorem d_Tape_takesClose_37 : decode b_Tape_takesClose 37 = .ok (.invokevirtual 77, 3) := by decide +kernel
theorem d_Tape_takesClose_40 : decode b_Tape_takesClose 40 = .ok (.iconst 1, 1) := by decide +kernel
theorem d_Tape_takesClose_41 : decode b_Tape_takesClose 41 = .ok (.ireturn, 1) := by decide +kernel
theorem d_Tape_takesJoint_0 : decode b_Tape_takesJoint 0 = .ok (.iload_n 1, 1) := by decide +kernel
theorem d_Tape_takesJoint_1 : decode b_Tape_takesJoint 1 = .ok (.invokestatic 91, 3) := by decide +kernel
theorem d_Tape_takesJoint_4 : decode b_Tape_takesJoint 4 = .ok (.istore_n 2, 1) := by decide +kernel
theorem d_Tape_takesJoint_5 : decode b_Tape_takesJoint 5 = .ok (.iload_n 2, 1) := by decide +kernel
theorem d_Tape_takesJoint_6 : decode b_Tape_takesJoint 6 = .ok (.iconst 3, 1) := by decide +kernel
theorem d_Tape_takesJoint_7 : decode b_Tape_takesJoint 7 = .ok (.if_icmp .ne 21, 3) := by decide +kernel
theorem d_Tape_takesJoint_10 : decode b_Tape_takesJoint 10 = .ok (.aload_n 0, 1) := by decide +kernel
theorem d_Tape_takesJoint_11 : decode b_Tape_takesJoint 11 = .ok (.iconst 4, 1) := by decide +kernel
theorem d_Tape_takesJoint_12 : decode b_Tape_takesJoint 12 = .ok (.invokevirtual 100, 3) := by decide +kernel
theorem d_Tape_takesJoint_15 : decode b_Tape_takesJoint 15 = .ok (.aload_n 0, 1) := by decide +kernel
theorem d_Tape_takesJoint_16 : decode b_Tape_takesJoint 16 = .ok (.invokevirtual 103, 3) := by decide +kernel
theorem d_Tape_takesJoint_19 : decode b_Tape_takesJoint 19 = .ok (.invokestatic 91, 3) := by decide +kernel
theorem d_Tape_takesJoint_22 : decode b_Tape_takesJoint 22 = .ok (.iconst 3, 1) := by decide +kernel
theorem d_Tape_takesJoint_23 : decode b_Tape_takesJoint 23 = .ok (.if_icmp .ne 10, 3) := by decide +kernel
theorem d_Tape_takesJoint_26 : decode b_Tape_takesJoint 26 = .ok (.iconst 0, 1) := by decide +kernel
theorem d_Tape_takesJoint_27 : decode b_Tape_takesJoint 27 = .ok (.ireturn, 1) := by decide +kernel
theorem d_Tape_takesJoint_28 : decode b_Tape_takesJoint 28 = .ok (.aload_n 0, 1) := by decide +kernel
theorem d_Tape_takesJoint_29 : decode b_Tape_takesJoint 29 = .ok (.iload_n 2, 1) := by decide +kernel
theorem d_Tape_takesJoint_30 : decode b_Tape_takesJoint 30 = .ok (.invokevirtual 100, 3) := by decide +kernel
theorem d_Tape_takesJoint_33 : decode b_Tape_takesJoint 33 = .ok (.aload_n 0, 1) := by decide +kernel
theorem d_Tape_takesJoint_34 : decode b_Tape_takesJoint 34 = .ok (.iload_n 1, 1) := by decide +kernel
theorem d_Tape_takesJoint_35 : decode b_Tape_takesJoint 35 = .ok (.invokevirtual 88, 3) := by decide +kernel
theorem d_Tape_takesJoint_38 : decode b_Tape_takesJoint 38 = .ok (.aload_n 0, 1) := by decide +kernel
theorem d_Tape_takesJoint_39 : decode b_Tape_takesJoint 39 = .ok (.iconst 1, 1) := by decide +kernel
theorem d_Tape_takesJoint_40 : decode b_Tape_takesJoint 40 = .ok (.putfield 43, 3) := by decide +kernel
theorem d_Tape_takesJoint_43 : decode b_Tape_takesJoint 43 = .ok (.iconst 1, 1) := by decide +kernel
theorem d_Tape_takesJoint_44 : decode b_Tape_takesJoint 44 = .ok (.ireturn, 1) := by decide +kernel
theorem d_Tape_takesSign_0 : decode b_Tape_takesSign 0 = .ok (.iload_n 1, 1) := by decide +kernel
theorem d_Tape_takesSign_1 : decode b_Tape_takesSign 1 = .ok (.invokestatic 91, 3) := by decide +kernel
theorem d_Tape_takesSign_4 : decode b_Tape_takesSign 4 = .ok (.ifCond .le 9, 3) := by decide +kernel
theorem d_Tape_takesSign_7 : decode b_Tape_takesSign 7 = .ok (.aload_n 0, 1) := by decide +kernel
theorem d_Tape_takesSign_8 : decode b_Tape_takesSign 8 = .ok (.iload_n 1, 1) := by decide +kernel
theorem d_Tape_takesSign_9 : decode b_Tape_takesSign 9 = .ok (.invokevirtual 94, 3) := by decide +kernel
theorem d_Tape_takesSign_12 : decode b_Tape_takesSign 12 = .ok (.ireturn, 1) := by decide +kernel
theorem d_Tape_takesSign_13 : decode b_Tape_takesSign 13 = .ok (.iload_n 1, 1) := by decide +kernel
theorem d_Tape_takesSign_14 : decode b_Tape_takesSign 14 = .ok (.bipush 41, 2) := by decide +kernel
theorem d_Tape_takesSign_16 : decode b_Tape_takesSign 16 = .ok (.if_icmp .ne 8, 3) := by decide +kernel
theorem d_Tape_takesSign_19 : decode b_Tape_takesSign 19 = .ok (.aload_n 0, 1) := by decide +kernel
theorem d_Tape_takesSign_20 : decode b_Tape_takesSign 20 = .ok (.invokevirtual 97, 3) := by decide +kernel
theorem d_Tape_takesSign_23 : decode b_Tape_takesSign 23 = .ok (.ireturn, 1) := by decide +kernel
theorem d_Tape_takesSign_24 : decode b_Tape_takesSign 24 = .ok (.aload_n 0, 1) := by decide +kernel
theorem d_Tape_takesSign_25 : decode b_Tape_takesSign 25 = .ok (.getfield 37, 3) := by decide +kernel
theorem d_Tape_takesSign_28 : decode b_Tape_takesSign 28 = .ok (.ifCond .le 5, 3) := by decide +kernel
theorem d_Tape_takesSign_31 : decode b_Tape_takesSign 31 = .ok (.iconst 0, 1) := by decide +kernel
theorem d_Tape_takesSign_32 : decode b_Tape_takesSign 32 = .ok (.ireturn, 1) := by decide +kernel
theorem d_Tape_takesSign_33 : decode b_Tape_takesSign 33 = .ok (.iload_n 1, 1) := by decide +kernel
theorem d_Tape_takesSign_34 : decode b_Tape_takesSign 34 = .ok (.bipush 59, 2) := by decide +kernel
theorem d_Tape_takesSign_36 : decode b_Tape_takesSign 36 = .ok (.if_icmp .ne 9, 3) := by decide +kernel
theorem d_Tape_takesSign_39 : decode b_Tape_takesSign 39 = .ok (.aload_n 0, 1) := by decide +kernel
theorem d_Tape_takesSign_40 : decode b_Tape_takesSign 40 = .ok (.invokevirtual 54, 3) := by decide +kernel
theorem d_Tape_takesSign_43 : decode b_Tape_takesSign 43 = .ok (.iconst 1, 1) := by decide +kernel
theorem d_Tape_takesSign_44 : decode b_Tape_takesSign 44 = .ok (.ireturn, 1) := by decide +kernel
theorem d_Tape_takesSign_45 : decode b_Tape_takesSign 45 = .ok (.iload_n 1, 1) := by decide +kernel
theorem d_Tape_takesSign_46 : decode b_Tape_takesSign 46 = .ok (.bipush 63, 2) := by decide +kernel
theorem d_Tape_takesSign_48 : decode b_Tape_takesSign 48 = .ok (.if_icmp .ne 10, 3) := by decide +kernel
theorem d_Tape_takesSign_51 : decode b_Tape_takesSign 51 = .ok (.aload_n 0, 1) := by decide +kernel
theorem d_Tape_takesSign_52 : decode b_Tape_takesSign 52 = .ok (.getfield 47, 3) := by decide +kernel
theorem d_Tape_takesSign_55 : decode b_Tape_takesSign 55 = .ok (.ifCond .eq 5, 3) := by decide +kernel
theorem d_Tape_takesSign_58 : decode b_Tape_takesSign 58 = .ok (.iconst 0, 1) := by decide +kernel
theorem d_Tape_takesSign_59 : decode b_Tape_takesSign 59 = .ok (.ireturn, 1) := by decide +kernel
theorem d_Tape_takesSign_60 : decode b_Tape_takesSign 60 = .ok (.aload_n 0, 1) := by decide +kernel
theorem d_Tape_takesSign_61 : decode b_Tape_takesSign 61 = .ok (.iconst 1, 1) := by decide +kernel
theorem d_Tape_takesSign_62 : decode b_Tape_takesSign 62 = .ok (.invokevirtual 100, 3) := by decide +kernel
theorem d_Tape_takesSign_65 : decode b_Tape_takesSign 65 = .ok (.aload_n 0, 1) := by decide +kernel
theorem d_Tape_takesSign_66 : decode b_Tape_takesSign 66 = .ok (.iconst 1, 1) := by decide +kernel
theorem d_Tape_takesSign_67 : decode b_Tape_takesSign 67 = .ok (.putfield 47, 3) := by decide +kernel
theorem d_Tape_takesSign_70 : decode b_Tape_takesSign 70 = .ok (.aload_n 0, 1) := by decide +kernel
theorem d_Tape_takesSign_71 : decode b_Tape_takesSign 71 = .ok (.iconst 1, 1) := by decide +kernel
theorem d_Tape_takesSign_72 : decode b_Tape_takesSign 72 = .ok (.putfield 43, 3) := by decide +kernel
theorem d_Tape_takesSign_75 : decode b_Tape_takesSign 75 = .ok (.iconst 1, 1) := by decide +kernel
theorem d_Tape_takesSign_76 : decode b_Tape_takesSign 76 = .ok (.ireturn, 1) := by decide +kernel
theorem d_Tape_takes_0 : decode b_Tape_takes 0 = .ok (.iload_n 1, 1) := by decide +kernel
theorem d_Tape_takes_1 : decode b_Tape_takes 1 = .ok (.bipush 48, 2) := by decide +kernel
theorem d_Tape_takes_3 : decode b_Tape_takes 3 = .ok (.bipush 57, 2) := by decide +kernel
theorem d_Tape_takes_5 : decode b_Tape_takes 5 = .ok (.invokestatic 57, 3) := by decide +kernel
theorem d_Tape_takes_8 : decode b_Tape_takes 8 = .ok (.ifCond .eq 12, 3) := by decide +kernel
theorem d_Tape_takes_11 : decode b_Tape_takes 11 = .ok (.aload_n 0, 1) := by decide +kernel
theorem d_Tape_takes_12 : decode b_Tape_takes 12 = .ok (.iload_n 1, 1) := by decide +kernel
theorem d_Tape_takes_13 : decode b_Tape_takes 13 = .ok (.bipush 48, 2) := by decide +kernel
theorem d_Tape_takes_15 : decode b_Tape_takes 15 = .ok (.isub, 1) := by decide +kernel
theorem d_Tape_takes_16 : decode b_Tape_takes 16 = .ok (.invokevirtual 61, 3) := by decide +kernel
theorem d_Tape_takes_19 : decode b_Tape_takes 19 = .ok (.ireturn, 1) := by decide +kernel
theorem d_Tape_takes_20 : decode b_Tape_takes 20 = .ok (.aload_n 0, 1) := by decide +kernel
theorem d_Tape_takes_21 : decode b_Tape_takes 21 = .ok (.iconst 0, 1) := by decide +kernel
theorem d_Tape_takes_22 : decode b_Tape_takes 22 = .ok (.putfield 40, 3) := by decide +kernel
theorem d_Tape_takes_25 : decode b_Tape_takes 25 = .ok (.aload_n 0, 1) := by decide +kernel
theorem d_Tape_takes_26 : decode b_Tape_takes 26 = .ok (.getfield 43, 3) := by decide +kernel
theorem d_Tape_takes_29 : decode b_Tape_takes 29 = .ok (.ifCond .eq 11, 3) := by decide +kernel
theorem d_Tape_takes_32 : decode b_Tape_takes 32 = .ok (.aload_n 0, 1) := by decide +kernel
theorem d_Tape_takes_33 : decode b_Tape_takes 33 = .ok (.iload_n 1, 1) := by decide +kernel
theorem d_Tape_takes_34 : decode b_Tape_takes 34 = .ok (.invokevirtual 64, 3) := by decide +kernel
theorem d_Tape_takes_37 : decode b_Tape_takes 37 = .ok (.goto 8, 3) := by decide +kernel
theorem d_Tape_takes_40 : decode b_Tape_takes 40 = .ok (.aload_n 0, 1) := by decide +kernel
theorem d_Tape_takes_41 : decode b_Tape_takes 41 = .ok (.iload_n 1, 1) := by decide +kernel
theorem d_Tape_takes_42 : decode b_Tape_takes 42 = .ok (.invokevirtual 67, 3) := by decide +kernel
theorem d_Tape_takes_45 : decode b_Tape_takes 45 = .ok (.ireturn, 1) := by decide +kernel
