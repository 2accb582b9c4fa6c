theorem dX0_init_0 : decode cX0_init 0 = .ok (.aload_n 0, 1) := by decide +kernel
theorem dX0_init_1 : decode cX0_init 1 = .ok (.invokespecial 1, 3) := by decide +kernel
theorem dX0_init_4 : decode cX0_init 4 = .ok (.return_, 1) := by decide +kernel
theorem dX0_canBear_0 : decode cX0_canBear 0 = .ok (.aload_n 0, 1) := by decide +kernel
theorem dX0_canBear_1 : decode cX0_canBear 1 = .ok (.getfield 7, 3) := by decide +kernel
theorem dX0_canBear_4 : decode cX0_canBear 4 = .ok (.aload_n 0, 1) := by decide +kernel
theorem dX0_canBear_5 : decode cX0_canBear 5 = .ok (.getfield 13, 3) := by decide +kernel
theorem dX0_canBear_8 : decode cX0_canBear 8 = .ok (.invokestatic 16, 3) := by decide +kernel
theorem dX0_canBear_11 : decode cX0_canBear 11 = .ok (.ireturn, 1) := by decide +kernel
theorem dX0_become_0 : decode cX0_become 0 = .ok (.aload_n 0, 1) := by decide +kernel
theorem dX0_become_1 : decode cX0_become 1 = .ok (.aload_n 1, 1) := by decide +kernel
theorem dX0_become_2 : decode cX0_become 2 = .ok (.getfield 7, 3) := by decide +kernel
theorem dX0_become_5 : decode cX0_become 5 = .ok (.putfield 7, 3) := by decide +kernel
theorem dX0_become_8 : decode cX0_become 8 = .ok (.aload_n 0, 1) := by decide +kernel
theorem dX0_become_9 : decode cX0_become 9 = .ok (.aload_n 1, 1) := by decide +kernel
theorem dX0_become_10 : decode cX0_become 10 = .ok (.getfield 22, 3) := by decide +kernel
theorem dX0_become_13 : decode cX0_become 13 = .ok (.putfield 22, 3) := by decide +kernel
theorem dX0_become_16 : decode cX0_become 16 = .ok (.aload_n 0, 1) := by decide +kernel
theorem dX0_become_17 : decode cX0_become 17 = .ok (.aload_n 1, 1) := by decide +kernel
theorem dX0_become_18 : decode cX0_become 18 = .ok (.getfield 13, 3) := by decide +kernel
theorem dX0_become_21 : decode cX0_become 21 = .ok (.putfield 13, 3) := by decide +kernel
theorem dX0_become_24 : decode cX0_become 24 = .ok (.aload_n 0, 1) := by decide +kernel
theorem dX0_become_25 : decode cX0_become 25 = .ok (.aload_n 1, 1) := by decide +kernel
theorem dX0_become_26 : decode cX0_become 26 = .ok (.getfield 25, 3) := by decide +kernel
theorem dX0_become_29 : decode cX0_become 29 = .ok (.putfield 25, 3) := by decide +kernel
theorem dX0_become_32 : decode cX0_become 32 = .ok (.aload_n 0, 1) := by decide +kernel
theorem dX0_become_33 : decode cX0_become 33 = .ok (.aload_n 1, 1) := by decide +kernel
theorem dX0_become_34 : decode cX0_become 34 = .ok (.getfield 28, 3) := by decide +kernel
theorem dX0_become_37 : decode cX0_become 37 = .ok (.putfield 28, 3) := by decide +kernel
theorem dX0_become_40 : decode cX0_become 40 = .ok (.return_, 1) := by decide +kernel
theorem dX1_init_0 : decode cX1_init 0 = .ok (.aload_n 0, 1) := by decide +kernel
theorem dX1_init_1 : decode cX1_init 1 = .ok (.invokespecial 1, 3) := by decide +kernel
theorem dX1_init_4 : decode cX1_init 4 = .ok (.return_, 1) := by decide +kernel
theorem dX1_become_0 : decode cX1_become 0 = .ok (.aload_n 0, 1) := by decide +kernel
theorem dX1_become_1 : decode cX1_become 1 = .ok (.aload_n 1, 1) := by decide +kernel
theorem dX1_become_2 : decode cX1_become 2 = .ok (.getfield 7, 3) := by decide +kernel
theorem dX1_become_5 : decode cX1_become 5 = .ok (.putfield 7, 3) := by decide +kernel
theorem dX1_become_8 : decode cX1_become 8 = .ok (.aload_n 0, 1) := by decide +kernel
theorem dX1_become_9 : decode cX1_become 9 = .ok (.aload_n 1, 1) := by decide +kernel
theorem dX1_become_10 : decode cX1_become 10 = .ok (.getfield 13, 3) := by decide +kernel
theorem dX1_become_13 : decode cX1_become 13 = .ok (.putfield 13, 3) := by decide +kernel
theorem dX1_become_16 : decode cX1_become 16 = .ok (.aload_n 0, 1) := by decide +kernel
theorem dX1_become_17 : decode cX1_become 17 = .ok (.aload_n 1, 1) := by decide +kernel
theorem dX1_become_18 : decode cX1_become 18 = .ok (.getfield 16, 3) := by decide +kernel
theorem dX1_become_21 : decode cX1_become 21 = .ok (.putfield 16, 3) := by decide +kernel
theorem dX1_become_24 : decode cX1_become 24 = .ok (.aload_n 0, 1) := by decide +kernel
theorem dX1_become_25 : decode cX1_become 25 = .ok (.aload_n 1, 1) := by decide +kernel
theorem dX1_become_26 : decode cX1_become 26 = .ok (.getfield 19, 3) := by decide +kernel
theorem dX1_become_29 : decode cX1_become 29 = .ok (.putfield 19, 3) := by decide +kernel
theorem dX1_become_32 : decode cX1_become 32 = .ok (.aload_n 0, 1) := by decide +kernel
theorem dX1_become_33 : decode cX1_become 33 = .ok (.aload_n 1, 1) := by decide +kernel
theorem dX1_become_34 : decode cX1_become 34 = .ok (.getfield 22, 3) := by decide +kernel
theorem dX1_become_37 : decode cX1_become 37 = .ok (.putfield 22, 3) := by decide +kernel
theorem dX1_become_40 : decode cX1_become 40 = .ok (.return_, 1) := by decide +kernel
theorem dX2_init_0 : decode cX2_init 0 = .ok (.aload_n 0, 1) := by decide +kernel
theorem dX2_init_1 : decode cX2_init 1 = .ok (.invokespecial 3, 3) := by decide +kernel
theorem dX2_init_4 : decode cX2_init 4 = .ok (.aload_n 0, 1) := by decide +kernel
theorem dX2_init_5 : decode cX2_init 5 = .ok (.bipush 6, 2) := by decide +kernel
theorem dX2_init_7 : decode cX2_init 7 = .ok (.anewarray 9, 3) := by decide +kernel
theorem dX2_init_10 : decode cX2_init 10 = .ok (.putfield 11, 3) := by decide +kernel
theorem dX2_init_13 : decode cX2_init 13 = .ok (.aload_n 0, 1) := by decide +kernel
theorem dX2_init_14 : decode cX2_init 14 = .ok (.bipush 8, 2) := by decide +kernel
theorem dX2_init_16 : decode cX2_init 16 = .ok (.anewarray 17, 3) := by decide +kernel
theorem dX2_init_19 : decode cX2_init 19 = .ok (.putfield 19, 3) := by decide +kernel
theorem dX2_init_22 : decode cX2_init 22 = .ok (.aload_n 0, 1) := by decide +kernel
theorem dX2_init_23 : decode cX2_init 23 = .ok (.bipush 6, 2) := by decide +kernel
theorem dX2_init_25 : decode cX2_init 25 = .ok (.anewarray 23, 3) := by decide +kernel
theorem dX2_init_28 : decode cX2_init 28 = .ok (.putfield 25, 3) := by decide +kernel
theorem dX2_init_31 : decode cX2_init 31 = .ok (.aload_n 0, 1) := by decide +kernel
theorem dX2_init_32 : decode cX2_init 32 = .ok (.new 29, 3) := by decide +kernel
theorem dX2_init_35 : decode cX2_init 35 = .ok (.dup, 1) := by decide +kernel
theorem dX2_init_36 : decode cX2_init 36 = .ok (.invokespecial 31, 3) := by decide +kernel
theorem dX2_init_39 : decode cX2_init 39 = .ok (.putfield 32, 3) := by decide +kernel
theorem dX2_init_42 : decode cX2_init 42 = .ok (.aload_n 0, 1) := by decide +kernel
theorem dX2_init_43 : decode cX2_init 43 = .ok (.bipush 10, 2) := by decide +kernel
theorem dX2_init_45 : decode cX2_init 45 = .ok (.newarray .int, 2) := by decide +kernel
theorem dX2_init_47 : decode cX2_init 47 = .ok (.putfield 36, 3) := by decide +kernel
theorem dX2_init_50 : decode cX2_init 50 = .ok (.aload_n 0, 1) := by decide +kernel
theorem dX2_init_51 : decode cX2_init 51 = .ok (.iconst 1, 1) := by decide +kernel
theorem dX2_init_52 : decode cX2_init 52 = .ok (.putfield 40, 3) := by decide +kernel
theorem dX2_init_55 : decode cX2_init 55 = .ok (.iconst 0, 1) := by decide +kernel
theorem dX2_init_56 : decode cX2_init 56 = .ok (.istore_n 1, 1) := by decide +kernel
theorem dX2_init_57 : decode cX2_init 57 = .ok (.iload_n 1, 1) := by decide +kernel
theorem dX2_init_58 : decode cX2_init 58 = .ok (.bipush 6, 2) := by decide +kernel
theorem dX2_init_60 : decode cX2_init 60 = .ok (.if_icmp .ge 22, 3) := by decide +kernel
theorem dX2_init_63 : decode cX2_init 63 = .ok (.aload_n 0, 1) := by decide +kernel
theorem dX2_init_64 : decode cX2_init 64 = .ok (.getfield 11, 3) := by decide +kernel
theorem dX2_init_67 : decode cX2_init 67 = .ok (.iload_n 1, 1) := by decide +kernel
theorem dX2_init_68 : decode cX2_init 68 = .ok (.new 9, 3) := by decide +kernel
theorem dX2_init_71 : decode cX2_init 71 = .ok (.dup, 1) := by decide +kernel
theorem dX2_init_72 : decode cX2_init 72 = .ok (.invokespecial 44, 3) := by decide +kernel
theorem dX2_init_75 : decode cX2_init 75 = .ok (.aastore, 1) := by decide +kernel
theorem dX2_init_76 : decode cX2_init 76 = .ok (.iinc 1 1, 3) := by decide +kernel
theorem dX2_init_79 : decode cX2_init 79 = .ok (.goto (-22), 3) := by decide +kernel
theorem dX2_init_82 : decode cX2_init 82 = .ok (.iconst 0, 1) := by decide +kernel
theorem dX2_init_83 : decode cX2_init 83 = .ok (.istore_n 1, 1) := by decide +kernel
theorem dX2_init_84 : decode cX2_init 84 = .ok (.iload_n 1, 1) := by decide +kernel
theorem dX2_init_85 : decode cX2_init 85 = .ok (.bipush 8, 2) := by decide +kernel
theorem dX2_init_87 : decode cX2_init 87 = .ok (.if_icmp .ge 22, 3) := by decide +kernel
theorem dX2_init_90 : decode cX2_init 90 = .ok (.aload_n 0, 1) := by decide +kernel
theorem dX2_init_91 : decode cX2_init 91 = .ok (.getfield 19, 3) := by decide +kernel
theorem dX2_init_94 : decode cX2_init 94 = .ok (.iload_n 1, 1) := by decide +kernel
theorem dX2_init_95 : decode cX2_init 95 = .ok (.new 17, 3) := by decide +kernel
theorem dX2_init_98 : decode cX2_init 98 = .ok (.dup, 1) := by decide +kernel
theorem dX2_init_99 : decode cX2_init 99 = .ok (.invokespecial 45, 3) := by decide +kernel
theorem dX2_init_102 : decode cX2_init 102 = .ok (.aastore, 1) := by decide +kernel
theorem dX2_init_103 : decode cX2_init 103 = .ok (.iinc 1 1, 3) := by decide +kernel
theorem dX2_init_106 : decode cX2_init 106 = .ok (.goto (-22), 3) := by decide +kernel
theorem dX2_init_109 : decode cX2_init 109 = .ok (.iconst 0, 1) := by decide +kernel
theorem dX2_init_110 : decode cX2_init 110 = .ok (.istore_n 1, 1) := by decide +kernel
theorem dX2_init_111 : decode cX2_init 111 = .ok (.iload_n 1, 1) := by decide +kernel
theorem dX2_init_112 : decode cX2_init 112 = .ok (.bipush 6, 2) := by decide +kernel
theorem dX2_init_114 : decode cX2_init 114 = .ok (.if_icmp .ge 22, 3) := by decide +kernel
theorem dX2_init_117 : decode cX2_init 117 = .ok (.aload_n 0, 1) := by decide +kernel
theorem dX2_init_118 : decode cX2_init 118 = .ok (.getfield 25, 3) := by decide +kernel
theorem dX2_init_121 : decode cX2_init 121 = .ok (.iload_n 1, 1) := by decide +kernel
theorem dX2_init_122 : decode cX2_init 122 = .ok (.new 23, 3) := by decide +kernel
theorem dX2_init_125 : decode cX2_init 125 = .ok (.dup, 1) := by decide +kernel
theorem dX2_init_126 : decode cX2_init 126 = .ok (.invokespecial 46, 3) := by decide +kernel
theorem dX2_init_129 : decode cX2_init 129 = .ok (.aastore, 1) := by decide +kernel
theorem dX2_init_130 : decode cX2_init 130 = .ok (.iinc 1 1, 3) := by decide +kernel
theorem dX2_init_133 : decode cX2_init 133 = .ok (.goto (-22), 3) := by decide +kernel
theorem dX2_init_136 : decode cX2_init 136 = .ok (.iconst 0, 1) := by decide +kernel
theorem dX2_init_137 : decode cX2_init 137 = .ok (.istore_n 1, 1) := by decide +kernel
theorem dX2_init_138 : decode cX2_init 138 = .ok (.iload_n 1, 1) := by decide +kernel
theorem dX2_init_139 : decode cX2_init 139 = .ok (.bipush 10, 2) := by decide +kernel
theorem dX2_init_141 : decode cX2_init 141 = .ok (.if_icmp .ge 16, 3) := by decide +kernel
theorem dX2_init_144 : decode cX2_init 144 = .ok (.aload_n 0, 1) := by decide +kernel
theorem dX2_init_145 : decode cX2_init 145 = .ok (.getfield 36, 3) := by decide +kernel
theorem dX2_init_148 : decode cX2_init 148 = .ok (.iload_n 1, 1) := by decide +kernel
theorem dX2_init_149 : decode cX2_init 149 = .ok (.iconst (-1), 1) := by decide +kernel
theorem dX2_init_150 : decode cX2_init 150 = .ok (.iastore, 1) := by decide +kernel
theorem dX2_init_151 : decode cX2_init 151 = .ok (.iinc 1 1, 3) := by decide +kernel
theorem dX2_init_154 : decode cX2_init 154 = .ok (.goto (-16), 3) := by decide +kernel
theorem dX2_init_157 : decode cX2_init 157 = .ok (.return_, 1) := by decide +kernel
theorem dX2_become_0 : decode cX2_become 0 = .ok (.aload_n 0, 1) := by decide +kernel
theorem dX2_become_1 : decode cX2_become 1 = .ok (.aload_n 1, 1) := by decide +kernel
theorem dX2_become_2 : decode cX2_become 2 = .ok (.getfield 47, 3) := by decide +kernel
theorem dX2_become_5 : decode cX2_become 5 = .ok (.putfield 47, 3) := by decide +kernel
theorem dX2_become_8 : decode cX2_become 8 = .ok (.aload_n 0, 1) := by decide +kernel
theorem dX2_become_9 : decode cX2_become 9 = .ok (.aload_n 1, 1) := by decide +kernel
theorem dX2_become_10 : decode cX2_become 10 = .ok (.getfield 50, 3) := by decide +kernel
theorem dX2_become_13 : decode cX2_become 13 = .ok (.putfield 50, 3) := by decide +kernel
theorem dX2_become_16 : decode cX2_become 16 = .ok (.aload_n 0, 1) := by decide +kernel
theorem dX2_become_17 : decode cX2_become 17 = .ok (.aload_n 1, 1) := by decide +kernel
theorem dX2_become_18 : decode cX2_become 18 = .ok (.getfield 53, 3) := by decide +kernel
theorem dX2_become_21 : decode cX2_become 21 = .ok (.putfield 53, 3) := by decide +kernel
theorem dX2_become_24 : decode cX2_become 24 = .ok (.aload_n 0, 1) := by decide +kernel
theorem dX2_become_25 : decode cX2_become 25 = .ok (.aload_n 1, 1) := by decide +kernel
theorem dX2_become_26 : decode cX2_become 26 = .ok (.getfield 40, 3) := by decide +kernel
theorem dX2_become_29 : decode cX2_become 29 = .ok (.putfield 40, 3) := by decide +kernel
theorem dX2_become_32 : decode cX2_become 32 = .ok (.iconst 0, 1) := by decide +kernel
theorem dX2_become_33 : decode cX2_become 33 = .ok (.istore_n 2, 1) := by decide +kernel
theorem dX2_become_34 : decode cX2_become 34 = .ok (.iload_n 2, 1) := by decide +kernel
theorem dX2_become_35 : decode cX2_become 35 = .ok (.aload_n 0, 1) := by decide +kernel
theorem dX2_become_36 : decode cX2_become 36 = .ok (.getfield 47, 3) := by decide +kernel
theorem dX2_become_39 : decode cX2_become 39 = .ok (.if_icmp .ge 24, 3) := by decide +kernel
theorem dX2_become_42 : decode cX2_become 42 = .ok (.aload_n 0, 1) := by decide +kernel
theorem dX2_become_43 : decode cX2_become 43 = .ok (.getfield 11, 3) := by decide +kernel
theorem dX2_become_46 : decode cX2_become 46 = .ok (.iload_n 2, 1) := by decide +kernel
theorem dX2_become_47 : decode cX2_become 47 = .ok (.aaload, 1) := by decide +kernel
theorem dX2_become_48 : decode cX2_become 48 = .ok (.aload_n 1, 1) := by decide +kernel
theorem dX2_become_49 : decode cX2_become 49 = .ok (.getfield 11, 3) := by decide +kernel
theorem dX2_become_52 : decode cX2_become 52 = .ok (.iload_n 2, 1) := by decide +kernel
theorem dX2_become_53 : decode cX2_become 53 = .ok (.aaload, 1) := by decide +kernel
theorem dX2_become_54 : decode cX2_become 54 = .ok (.invokevirtual 56, 3) := by decide +kernel
theorem dX2_become_57 : decode cX2_become 57 = .ok (.iinc 2 1, 3) := by decide +kernel
theorem dX2_become_60 : decode cX2_become 60 = .ok (.goto (-26), 3) := by decide +kernel
theorem dX2_become_63 : decode cX2_become 63 = .ok (.iconst 0, 1) := by decide +kernel
theorem dX2_become_64 : decode cX2_become 64 = .ok (.istore_n 2, 1) := by decide +kernel
theorem dX2_become_65 : decode cX2_become 65 = .ok (.iload_n 2, 1) := by decide +kernel
theorem dX2_become_66 : decode cX2_become 66 = .ok (.aload_n 0, 1) := by decide +kernel
theorem dX2_become_67 : decode cX2_become 67 = .ok (.getfield 50, 3) := by decide +kernel
theorem dX2_become_70 : decode cX2_become 70 = .ok (.if_icmp .ge 24, 3) := by decide +kernel
theorem dX2_become_73 : decode cX2_become 73 = .ok (.aload_n 0, 1) := by decide +kernel
theorem dX2_become_74 : decode cX2_become 74 = .ok (.getfield 19, 3) := by decide +kernel
theorem dX2_become_77 : decode cX2_become 77 = .ok (.iload_n 2, 1) := by decide +kernel
theorem dX2_become_78 : decode cX2_become 78 = .ok (.aaload, 1) := by decide +kernel
theorem dX2_become_79 : decode cX2_become 79 = .ok (.aload_n 1, 1) := by decide +kernel
theorem dX2_become_80 : decode cX2_become 80 = .ok (.getfield 19, 3) := by decide +kernel
theorem dX2_become_83 : decode cX2_become 83 = .ok (.iload_n 2, 1) := by decide +kernel
theorem dX2_become_84 : decode cX2_become 84 = .ok (.aaload, 1) := by decide +kernel
theorem dX2_become_85 : decode cX2_become 85 = .ok (.invokevirtual 60, 3) := by decide +kernel
theorem dX2_become_88 : decode cX2_become 88 = .ok (.iinc 2 1, 3) := by decide +kernel
theorem dX2_become_91 : decode cX2_become 91 = .ok (.goto (-26), 3) := by decide +kernel
theorem dX2_become_94 : decode cX2_become 94 = .ok (.iconst 0, 1) := by decide +kernel
theorem dX2_become_95 : decode cX2_become 95 = .ok (.istore_n 2, 1) := by decide +kernel
theorem dX2_become_96 : decode cX2_become 96 = .ok (.iload_n 2, 1) := by decide +kernel
theorem dX2_become_97 : decode cX2_become 97 = .ok (.aload_n 0, 1) := by decide +kernel
theorem dX2_become_98 : decode cX2_become 98 = .ok (.getfield 53, 3) := by decide +kernel
theorem dX2_become_101 : decode cX2_become 101 = .ok (.if_icmp .ge 45, 3) := by decide +kernel
theorem dX2_become_104 : decode cX2_become 104 = .ok (.aload_n 0, 1) := by decide +kernel
theorem dX2_become_105 : decode cX2_become 105 = .ok (.getfield 25, 3) := by decide +kernel
theorem dX2_become_108 : decode cX2_become 108 = .ok (.iload_n 2, 1) := by decide +kernel
theorem dX2_become_109 : decode cX2_become 109 = .ok (.aaload, 1) := by decide +kernel
theorem dX2_become_110 : decode cX2_become 110 = .ok (.aload_n 1, 1) := by decide +kernel
theorem dX2_become_111 : decode cX2_become 111 = .ok (.getfield 25, 3) := by decide +kernel
theorem dX2_become_114 : decode cX2_become 114 = .ok (.iload_n 2, 1) := by decide +kernel
theorem dX2_become_115 : decode cX2_become 115 = .ok (.aaload, 1) := by decide +kernel
theorem dX2_become_116 : decode cX2_become 116 = .ok (.getfield 63, 3) := by decide +kernel
theorem dX2_become_119 : decode cX2_become 119 = .ok (.putfield 63, 3) := by decide +kernel
theorem dX2_become_122 : decode cX2_become 122 = .ok (.aload_n 0, 1) := by decide +kernel
theorem dX2_become_123 : decode cX2_become 123 = .ok (.getfield 25, 3) := by decide +kernel
theorem dX2_become_126 : decode cX2_become 126 = .ok (.iload_n 2, 1) := by decide +kernel
theorem dX2_become_127 : decode cX2_become 127 = .ok (.aaload, 1) := by decide +kernel
theorem dX2_become_128 : decode cX2_become 128 = .ok (.aload_n 1, 1) := by decide +kernel
theorem dX2_become_129 : decode cX2_become 129 = .ok (.getfield 25, 3) := by decide +kernel
theorem dX2_become_132 : decode cX2_become 132 = .ok (.iload_n 2, 1) := by decide +kernel
theorem dX2_become_133 : decode cX2_become 133 = .ok (.aaload, 1) := by decide +kernel
theorem dX2_become_134 : decode cX2_become 134 = .ok (.getfield 66, 3) := by decide +kernel
theorem dX2_become_137 : decode cX2_become 137 = .ok (.putfield 66, 3) := by decide +kernel
theorem dX2_become_140 : decode cX2_become 140 = .ok (.iinc 2 1, 3) := by decide +kernel
theorem dX2_become_143 : decode cX2_become 143 = .ok (.goto (-47), 3) := by decide +kernel
theorem dX2_become_146 : decode cX2_become 146 = .ok (.aload_n 0, 1) := by decide +kernel
theorem dX2_become_147 : decode cX2_become 147 = .ok (.getfield 32, 3) := by decide +kernel
theorem dX2_become_150 : decode cX2_become 150 = .ok (.aload_n 1, 1) := by decide +kernel
theorem dX2_become_151 : decode cX2_become 151 = .ok (.getfield 32, 3) := by decide +kernel
theorem dX2_become_154 : decode cX2_become 154 = .ok (.invokevirtual 69, 3) := by decide +kernel
theorem dX2_become_157 : decode cX2_become 157 = .ok (.aload_n 1, 1) := by decide +kernel
theorem dX2_become_158 : decode cX2_become 158 = .ok (.getfield 36, 3) := by decide +kernel
theorem dX2_become_161 : decode cX2_become 161 = .ok (.iconst 0, 1) := by decide +kernel
theorem dX2_become_162 : decode cX2_become 162 = .ok (.aload_n 0, 1) := by decide +kernel
theorem dX2_become_163 : decode cX2_become 163 = .ok (.getfield 36, 3) := by decide +kernel
theorem dX2_become_166 : decode cX2_become 166 = .ok (.iconst 0, 1) := by decide +kernel
theorem dX2_become_167 : decode cX2_become 167 = .ok (.bipush 10, 2) := by decide +kernel
theorem dX2_become_169 : decode cX2_become 169 = .ok (.invokestatic 72, 3) := by decide +kernel
theorem dX2_become_172 : decode cX2_become 172 = .ok (.return_, 1) := by decide +kernel
theorem dX2_hasCarrier_0 : decode cX2_hasCarrier 0 = .ok (.iload_n 1, 1) := by decide +kernel
theorem dX2_hasCarrier_1 : decode cX2_hasCarrier 1 = .ok (.iconst 0, 1) := by decide +kernel
theorem dX2_hasCarrier_2 : decode cX2_hasCarrier 2 = .ok (.aload_n 0, 1) := by decide +kernel
theorem dX2_hasCarrier_3 : decode cX2_hasCarrier 3 = .ok (.getfield 47, 3) := by decide +kernel
theorem dX2_hasCarrier_6 : decode cX2_hasCarrier 6 = .ok (.iconst 1, 1) := by decide +kernel
theorem dX2_hasCarrier_7 : decode cX2_hasCarrier 7 = .ok (.isub, 1) := by decide +kernel
theorem dX2_hasCarrier_8 : decode cX2_hasCarrier 8 = .ok (.invokestatic 78, 3) := by decide +kernel
theorem dX2_hasCarrier_11 : decode cX2_hasCarrier 11 = .ok (.ireturn, 1) := by decide +kernel
theorem dX2_hasErrand_0 : decode cX2_hasErrand 0 = .ok (.iload_n 1, 1) := by decide +kernel
theorem dX2_hasErrand_1 : decode cX2_hasErrand 1 = .ok (.iconst 0, 1) := by decide +kernel
theorem dX2_hasErrand_2 : decode cX2_hasErrand 2 = .ok (.aload_n 0, 1) := by decide +kernel
theorem dX2_hasErrand_3 : decode cX2_hasErrand 3 = .ok (.getfield 50, 3) := by decide +kernel
theorem dX2_hasErrand_6 : decode cX2_hasErrand 6 = .ok (.iconst 1, 1) := by decide +kernel
theorem dX2_hasErrand_7 : decode cX2_hasErrand 7 = .ok (.isub, 1) := by decide +kernel
theorem dX2_hasErrand_8 : decode cX2_hasErrand 8 = .ok (.invokestatic 78, 3) := by decide +kernel
theorem dX2_hasErrand_11 : decode cX2_hasErrand 11 = .ok (.ireturn, 1) := by decide +kernel
theorem dX2_hasWare_0 : decode cX2_hasWare 0 = .ok (.iload_n 1, 1) := by decide +kernel
theorem dX2_hasWare_1 : decode cX2_hasWare 1 = .ok (.iconst 0, 1) := by decide +kernel
theorem dX2_hasWare_2 : decode cX2_hasWare 2 = .ok (.aload_n 0, 1) := by decide +kernel
theorem dX2_hasWare_3 : decode cX2_hasWare 3 = .ok (.getfield 53, 3) := by decide +kernel
theorem dX2_hasWare_6 : decode cX2_hasWare 6 = .ok (.iconst 1, 1) := by decide +kernel
theorem dX2_hasWare_7 : decode cX2_hasWare 7 = .ok (.isub, 1) := by decide +kernel
theorem dX2_hasWare_8 : decode cX2_hasWare 8 = .ok (.invokestatic 78, 3) := by decide +kernel
theorem dX2_hasWare_11 : decode cX2_hasWare 11 = .ok (.ireturn, 1) := by decide +kernel
theorem dX2_addCarrier_0 : decode cX2_addCarrier 0 = .ok (.aload_n 0, 1) := by decide +kernel
theorem dX2_addCarrier_1 : decode cX2_addCarrier 1 = .ok (.getfield 11, 3) := by decide +kernel
theorem dX2_addCarrier_4 : decode cX2_addCarrier 4 = .ok (.aload_n 0, 1) := by decide +kernel
theorem dX2_addCarrier_5 : decode cX2_addCarrier 5 = .ok (.getfield 47, 3) := by decide +kernel
theorem dX2_addCarrier_8 : decode cX2_addCarrier 8 = .ok (.aaload, 1) := by decide +kernel
theorem dX2_addCarrier_9 : decode cX2_addCarrier 9 = .ok (.astore 4, 2) := by decide +kernel
theorem dX2_addCarrier_11 : decode cX2_addCarrier 11 = .ok (.aload 4, 2) := by decide +kernel
theorem dX2_addCarrier_13 : decode cX2_addCarrier 13 = .ok (.iload_n 1, 1) := by decide +kernel
theorem dX2_addCarrier_14 : decode cX2_addCarrier 14 = .ok (.putfield 82, 3) := by decide +kernel
theorem dX2_addCarrier_17 : decode cX2_addCarrier 17 = .ok (.aload 4, 2) := by decide +kernel
theorem dX2_addCarrier_19 : decode cX2_addCarrier 19 = .ok (.iload_n 2, 1) := by decide +kernel
theorem dX2_addCarrier_20 : decode cX2_addCarrier 20 = .ok (.putfield 85, 3) := by decide +kernel
theorem dX2_addCarrier_23 : decode cX2_addCarrier 23 = .ok (.aload 4, 2) := by decide +kernel
theorem dX2_addCarrier_25 : decode cX2_addCarrier 25 = .ok (.iload_n 3, 1) := by decide +kernel
theorem dX2_addCarrier_26 : decode cX2_addCarrier 26 = .ok (.putfield 88, 3) := by decide +kernel
theorem dX2_addCarrier_29 : decode cX2_addCarrier 29 = .ok (.aload 4, 2) := by decide +kernel
theorem dX2_addCarrier_31 : decode cX2_addCarrier 31 = .ok (.iconst 0, 1) := by decide +kernel
theorem dX2_addCarrier_32 : decode cX2_addCarrier 32 = .ok (.putfield 91, 3) := by decide +kernel
theorem dX2_addCarrier_35 : decode cX2_addCarrier 35 = .ok (.aload 4, 2) := by decide +kernel
theorem dX2_addCarrier_37 : decode cX2_addCarrier 37 = .ok (.iconst 0, 1) := by decide +kernel
theorem dX2_addCarrier_38 : decode cX2_addCarrier 38 = .ok (.putfield 94, 3) := by decide +kernel
theorem dX2_addCarrier_41 : decode cX2_addCarrier 41 = .ok (.aload_n 0, 1) := by decide +kernel
theorem dX2_addCarrier_42 : decode cX2_addCarrier 42 = .ok (.dup, 1) := by decide +kernel
theorem dX2_addCarrier_43 : decode cX2_addCarrier 43 = .ok (.getfield 47, 3) := by decide +kernel
theorem dX2_addCarrier_46 : decode cX2_addCarrier 46 = .ok (.dup_x1, 1) := by decide +kernel
theorem dX2_addCarrier_47 : decode cX2_addCarrier 47 = .ok (.iconst 1, 1) := by decide +kernel
theorem dX2_addCarrier_48 : decode cX2_addCarrier 48 = .ok (.iadd, 1) := by decide +kernel
theorem dX2_addCarrier_49 : decode cX2_addCarrier 49 = .ok (.putfield 47, 3) := by decide +kernel
theorem dX2_addCarrier_52 : decode cX2_addCarrier 52 = .ok (.ireturn, 1) := by decide +kernel
theorem dX2_addErrand_0 : decode cX2_addErrand 0 = .ok (.aload_n 0, 1) := by decide +kernel
theorem dX2_addErrand_1 : decode cX2_addErrand 1 = .ok (.getfield 19, 3) := by decide +kernel
theorem dX2_addErrand_4 : decode cX2_addErrand 4 = .ok (.aload_n 0, 1) := by decide +kernel
theorem dX2_addErrand_5 : decode cX2_addErrand 5 = .ok (.getfield 50, 3) := by decide +kernel
theorem dX2_addErrand_8 : decode cX2_addErrand 8 = .ok (.aaload, 1) := by decide +kernel
theorem dX2_addErrand_9 : decode cX2_addErrand 9 = .ok (.astore 4, 2) := by decide +kernel
theorem dX2_addErrand_11 : decode cX2_addErrand 11 = .ok (.aload 4, 2) := by decide +kernel
theorem dX2_addErrand_13 : decode cX2_addErrand 13 = .ok (.iload_n 1, 1) := by decide +kernel
theorem dX2_addErrand_14 : decode cX2_addErrand 14 = .ok (.putfield 97, 3) := by decide +kernel
theorem dX2_addErrand_17 : decode cX2_addErrand 17 = .ok (.aload 4, 2) := by decide +kernel
theorem dX2_addErrand_19 : decode cX2_addErrand 19 = .ok (.iload_n 2, 1) := by decide +kernel
theorem dX2_addErrand_20 : decode cX2_addErrand 20 = .ok (.putfield 100, 3) := by decide +kernel
theorem dX2_addErrand_23 : decode cX2_addErrand 23 = .ok (.aload 4, 2) := by decide +kernel
theorem dX2_addErrand_25 : decode cX2_addErrand 25 = .ok (.iload_n 3, 1) := by decide +kernel
theorem dX2_addErrand_26 : decode cX2_addErrand 26 = .ok (.putfield 103, 3) := by decide +kernel
theorem dX2_addErrand_29 : decode cX2_addErrand 29 = .ok (.aload 4, 2) := by decide +kernel
theorem dX2_addErrand_31 : decode cX2_addErrand 31 = .ok (.iconst 0, 1) := by decide +kernel
theorem dX2_addErrand_32 : decode cX2_addErrand 32 = .ok (.putfield 106, 3) := by decide +kernel
theorem dX2_addErrand_35 : decode cX2_addErrand 35 = .ok (.aload 4, 2) := by decide +kernel
theorem dX2_addErrand_37 : decode cX2_addErrand 37 = .ok (.iconst (-1), 1) := by decide +kernel
theorem dX2_addErrand_38 : decode cX2_addErrand 38 = .ok (.putfield 109, 3) := by decide +kernel
theorem dX2_addErrand_41 : decode cX2_addErrand 41 = .ok (.aload_n 0, 1) := by decide +kernel
theorem dX2_addErrand_42 : decode cX2_addErrand 42 = .ok (.dup, 1) := by decide +kernel
theorem dX2_addErrand_43 : decode cX2_addErrand 43 = .ok (.getfield 50, 3) := by decide +kernel
theorem dX2_addErrand_46 : decode cX2_addErrand 46 = .ok (.dup_x1, 1) := by decide +kernel
theorem dX2_addErrand_47 : decode cX2_addErrand 47 = .ok (.iconst 1, 1) := by decide +kernel
theorem dX2_addErrand_48 : decode cX2_addErrand 48 = .ok (.iadd, 1) := by decide +kernel
theorem dX2_addErrand_49 : decode cX2_addErrand 49 = .ok (.putfield 50, 3) := by decide +kernel
theorem dX2_addErrand_52 : decode cX2_addErrand 52 = .ok (.ireturn, 1) := by decide +kernel
theorem dX2_addWare_0 : decode cX2_addWare 0 = .ok (.aload_n 0, 1) := by decide +kernel
theorem dX2_addWare_1 : decode cX2_addWare 1 = .ok (.getfield 25, 3) := by decide +kernel
theorem dX2_addWare_4 : decode cX2_addWare 4 = .ok (.aload_n 0, 1) := by decide +kernel
theorem dX2_addWare_5 : decode cX2_addWare 5 = .ok (.getfield 53, 3) := by decide +kernel
theorem dX2_addWare_8 : decode cX2_addWare 8 = .ok (.aaload, 1) := by decide +kernel
theorem dX2_addWare_9 : decode cX2_addWare 9 = .ok (.iload_n 1, 1) := by decide +kernel
theorem dX2_addWare_10 : decode cX2_addWare 10 = .ok (.putfield 63, 3) := by decide +kernel
theorem dX2_addWare_13 : decode cX2_addWare 13 = .ok (.aload_n 0, 1) := by decide +kernel
theorem dX2_addWare_14 : decode cX2_addWare 14 = .ok (.getfield 25, 3) := by decide +kernel
theorem dX2_addWare_17 : decode cX2_addWare 17 = .ok (.aload_n 0, 1) := by decide +kernel
theorem dX2_addWare_18 : decode cX2_addWare 18 = .ok (.getfield 53, 3) := by decide +kernel
theorem dX2_addWare_21 : decode cX2_addWare 21 = .ok (.aaload, 1) := by decide +kernel
theorem dX2_addWare_22 : decode cX2_addWare 22 = .ok (.iconst (-1), 1) := by decide +kernel
theorem dX2_addWare_23 : decode cX2_addWare 23 = .ok (.putfield 66, 3) := by decide +kernel
theorem dX2_addWare_26 : decode cX2_addWare 26 = .ok (.aload_n 0, 1) := by decide +kernel
theorem dX2_addWare_27 : decode cX2_addWare 27 = .ok (.dup, 1) := by decide +kernel
theorem dX2_addWare_28 : decode cX2_addWare 28 = .ok (.getfield 53, 3) := by decide +kernel
theorem dX2_addWare_31 : decode cX2_addWare 31 = .ok (.dup_x1, 1) := by decide +kernel
theorem dX2_addWare_32 : decode cX2_addWare 32 = .ok (.iconst 1, 1) := by decide +kernel
theorem dX2_addWare_33 : decode cX2_addWare 33 = .ok (.iadd, 1) := by decide +kernel
theorem dX2_addWare_34 : decode cX2_addWare 34 = .ok (.putfield 53, 3) := by decide +kernel
theorem dX2_addWare_37 : decode cX2_addWare 37 = .ok (.ireturn, 1) := by decide +kernel
theorem dX2_errandsThat_0 : decode cX2_errandsThat 0 = .ok (.iconst 0, 1) := by decide +kernel
theorem dX2_errandsThat_1 : decode cX2_errandsThat 1 = .ok (.istore_n 2, 1) := by decide +kernel
theorem dX2_errandsThat_2 : decode cX2_errandsThat 2 = .ok (.iconst 0, 1) := by decide +kernel
theorem dX2_errandsThat_3 : decode cX2_errandsThat 3 = .ok (.istore_n 3, 1) := by decide +kernel
theorem dX2_errandsThat_4 : decode cX2_errandsThat 4 = .ok (.iload_n 3, 1) := by decide +kernel
theorem dX2_errandsThat_5 : decode cX2_errandsThat 5 = .ok (.aload_n 0, 1) := by decide +kernel
theorem dX2_errandsThat_6 : decode cX2_errandsThat 6 = .ok (.getfield 50, 3) := by decide +kernel
theorem dX2_errandsThat_9 : decode cX2_errandsThat 9 = .ok (.if_icmp .ge 28, 3) := by decide +kernel
theorem dX2_errandsThat_12 : decode cX2_errandsThat 12 = .ok (.aload_n 0, 1) := by decide +kernel
theorem dX2_errandsThat_13 : decode cX2_errandsThat 13 = .ok (.getfield 19, 3) := by decide +kernel
theorem dX2_errandsThat_16 : decode cX2_errandsThat 16 = .ok (.iload_n 3, 1) := by decide +kernel
theorem dX2_errandsThat_17 : decode cX2_errandsThat 17 = .ok (.aaload, 1) := by decide +kernel
theorem dX2_errandsThat_18 : decode cX2_errandsThat 18 = .ok (.getfield 106, 3) := by decide +kernel
theorem dX2_errandsThat_21 : decode cX2_errandsThat 21 = .ok (.iload_n 1, 1) := by decide +kernel
theorem dX2_errandsThat_22 : decode cX2_errandsThat 22 = .ok (.if_icmp .ne 9, 3) := by decide +kernel
theorem dX2_errandsThat_25 : decode cX2_errandsThat 25 = .ok (.iload_n 2, 1) := by decide +kernel
theorem dX2_errandsThat_26 : decode cX2_errandsThat 26 = .ok (.iconst 1, 1) := by decide +kernel
theorem dX2_errandsThat_27 : decode cX2_errandsThat 27 = .ok (.iload_n 3, 1) := by decide +kernel
theorem dX2_errandsThat_28 : decode cX2_errandsThat 28 = .ok (.ishl, 1) := by decide +kernel
theorem dX2_errandsThat_29 : decode cX2_errandsThat 29 = .ok (.ior, 1) := by decide +kernel
theorem dX2_errandsThat_30 : decode cX2_errandsThat 30 = .ok (.istore_n 2, 1) := by decide +kernel
theorem dX2_errandsThat_31 : decode cX2_errandsThat 31 = .ok (.iinc 3 1, 3) := by decide +kernel
theorem dX2_errandsThat_34 : decode cX2_errandsThat 34 = .ok (.goto (-30), 3) := by decide +kernel
theorem dX2_errandsThat_37 : decode cX2_errandsThat 37 = .ok (.iload_n 2, 1) := by decide +kernel
theorem dX2_errandsThat_38 : decode cX2_errandsThat 38 = .ok (.ireturn, 1) := by decide +kernel
theorem dX2_allLie_0 : decode cX2_allLie 0 = .ok (.iload_n 1, 1) := by decide +kernel
theorem dX2_allLie_1 : decode cX2_allLie 1 = .ok (.aload_n 0, 1) := by decide +kernel
theorem dX2_allLie_2 : decode cX2_allLie 2 = .ok (.iconst 0, 1) := by decide +kernel
theorem dX2_allLie_3 : decode cX2_allLie 3 = .ok (.invokevirtual 112, 3) := by decide +kernel
theorem dX2_allLie_6 : decode cX2_allLie 6 = .ok (.iconst (-1), 1) := by decide +kernel
theorem dX2_allLie_7 : decode cX2_allLie 7 = .ok (.ixor, 1) := by decide +kernel
theorem dX2_allLie_8 : decode cX2_allLie 8 = .ok (.iand, 1) := by decide +kernel
theorem dX2_allLie_9 : decode cX2_allLie 9 = .ok (.ifCond .ne 7, 3) := by decide +kernel
theorem dX2_allLie_12 : decode cX2_allLie 12 = .ok (.iconst 1, 1) := by decide +kernel
theorem dX2_allLie_13 : decode cX2_allLie 13 = .ok (.goto 4, 3) := by decide +kernel
theorem dX2_allLie_16 : decode cX2_allLie 16 = .ok (.iconst 0, 1) := by decide +kernel
theorem dX2_allLie_17 : decode cX2_allLie 17 = .ok (.ireturn, 1) := by decide +kernel
theorem dX2_carriedBy_0 : decode cX2_carriedBy 0 = .ok (.iconst 0, 1) := by decide +kernel
theorem dX2_carriedBy_1 : decode cX2_carriedBy 1 = .ok (.istore_n 2, 1) := by decide +kernel
theorem dX2_carriedBy_2 : decode cX2_carriedBy 2 = .ok (.iconst 0, 1) := by decide +kernel
theorem dX2_carriedBy_3 : decode cX2_carriedBy 3 = .ok (.istore_n 3, 1) := by decide +kernel
theorem dX2_carriedBy_4 : decode cX2_carriedBy 4 = .ok (.iload_n 3, 1) := by decide +kernel
theorem dX2_carriedBy_5 : decode cX2_carriedBy 5 = .ok (.aload_n 0, 1) := by decide +kernel
theorem dX2_carriedBy_6 : decode cX2_carriedBy 6 = .ok (.getfield 50, 3) := by decide +kernel
theorem dX2_carriedBy_9 : decode cX2_carriedBy 9 = .ok (.if_icmp .ge 41, 3) := by decide +kernel
theorem dX2_carriedBy_12 : decode cX2_carriedBy 12 = .ok (.aload_n 0, 1) := by decide +kernel
theorem dX2_carriedBy_13 : decode cX2_carriedBy 13 = .ok (.getfield 19, 3) := by decide +kernel
theorem dX2_carriedBy_16 : decode cX2_carriedBy 16 = .ok (.iload_n 3, 1) := by decide +kernel
theorem dX2_carriedBy_17 : decode cX2_carriedBy 17 = .ok (.aaload, 1) := by decide +kernel
theorem dX2_carriedBy_18 : decode cX2_carriedBy 18 = .ok (.getfield 106, 3) := by decide +kernel
theorem dX2_carriedBy_21 : decode cX2_carriedBy 21 = .ok (.iconst 1, 1) := by decide +kernel
theorem dX2_carriedBy_22 : decode cX2_carriedBy 22 = .ok (.if_icmp .ne 22, 3) := by decide +kernel
theorem dX2_carriedBy_25 : decode cX2_carriedBy 25 = .ok (.aload_n 0, 1) := by decide +kernel
theorem dX2_carriedBy_26 : decode cX2_carriedBy 26 = .ok (.getfield 19, 3) := by decide +kernel
theorem dX2_carriedBy_29 : decode cX2_carriedBy 29 = .ok (.iload_n 3, 1) := by decide +kernel
theorem dX2_carriedBy_30 : decode cX2_carriedBy 30 = .ok (.aaload, 1) := by decide +kernel
theorem dX2_carriedBy_31 : decode cX2_carriedBy 31 = .ok (.getfield 109, 3) := by decide +kernel
theorem dX2_carriedBy_34 : decode cX2_carriedBy 34 = .ok (.iload_n 1, 1) := by decide +kernel
theorem dX2_carriedBy_35 : decode cX2_carriedBy 35 = .ok (.if_icmp .ne 9, 3) := by decide +kernel
theorem dX2_carriedBy_38 : decode cX2_carriedBy 38 = .ok (.iload_n 2, 1) := by decide +kernel
theorem dX2_carriedBy_39 : decode cX2_carriedBy 39 = .ok (.iconst 1, 1) := by decide +kernel
theorem dX2_carriedBy_40 : decode cX2_carriedBy 40 = .ok (.iload_n 3, 1) := by decide +kernel
theorem dX2_carriedBy_41 : decode cX2_carriedBy 41 = .ok (.ishl, 1) := by decide +kernel
theorem dX2_carriedBy_42 : decode cX2_carriedBy 42 = .ok (.ior, 1) := by decide +kernel
theorem dX2_carriedBy_43 : decode cX2_carriedBy 43 = .ok (.istore_n 2, 1) := by decide +kernel
theorem dX2_carriedBy_44 : decode cX2_carriedBy 44 = .ok (.iinc 3 1, 3) := by decide +kernel
theorem dX2_carriedBy_47 : decode cX2_carriedBy 47 = .ok (.goto (-43), 3) := by decide +kernel
theorem dX2_carriedBy_50 : decode cX2_carriedBy 50 = .ok (.iload_n 2, 1) := by decide +kernel
theorem dX2_carriedBy_51 : decode cX2_carriedBy 51 = .ok (.ireturn, 1) := by decide +kernel
theorem dX2_weightOf_0 : decode cX2_weightOf 0 = .ok (.iconst 0, 1) := by decide +kernel
theorem dX2_weightOf_1 : decode cX2_weightOf 1 = .ok (.istore_n 2, 1) := by decide +kernel
theorem dX2_weightOf_2 : decode cX2_weightOf 2 = .ok (.iconst 0, 1) := by decide +kernel
theorem dX2_weightOf_3 : decode cX2_weightOf 3 = .ok (.istore_n 3, 1) := by decide +kernel
theorem dX2_weightOf_4 : decode cX2_weightOf 4 = .ok (.iload_n 3, 1) := by decide +kernel
theorem dX2_weightOf_5 : decode cX2_weightOf 5 = .ok (.aload_n 0, 1) := by decide +kernel
theorem dX2_weightOf_6 : decode cX2_weightOf 6 = .ok (.getfield 50, 3) := by decide +kernel
theorem dX2_weightOf_9 : decode cX2_weightOf 9 = .ok (.if_icmp .ge 29, 3) := by decide +kernel
theorem dX2_weightOf_12 : decode cX2_weightOf 12 = .ok (.iload_n 1, 1) := by decide +kernel
theorem dX2_weightOf_13 : decode cX2_weightOf 13 = .ok (.iload_n 3, 1) := by decide +kernel
theorem dX2_weightOf_14 : decode cX2_weightOf 14 = .ok (.invokestatic 116, 3) := by decide +kernel
theorem dX2_weightOf_17 : decode cX2_weightOf 17 = .ok (.ifCond .eq 15, 3) := by decide +kernel
theorem dX2_weightOf_20 : decode cX2_weightOf 20 = .ok (.iload_n 2, 1) := by decide +kernel
theorem dX2_weightOf_21 : decode cX2_weightOf 21 = .ok (.aload_n 0, 1) := by decide +kernel
theorem dX2_weightOf_22 : decode cX2_weightOf 22 = .ok (.getfield 19, 3) := by decide +kernel
theorem dX2_weightOf_25 : decode cX2_weightOf 25 = .ok (.iload_n 3, 1) := by decide +kernel
theorem dX2_weightOf_26 : decode cX2_weightOf 26 = .ok (.aaload, 1) := by decide +kernel
theorem dX2_weightOf_27 : decode cX2_weightOf 27 = .ok (.getfield 97, 3) := by decide +kernel
theorem dX2_weightOf_30 : decode cX2_weightOf 30 = .ok (.iadd, 1) := by decide +kernel
theorem dX2_weightOf_31 : decode cX2_weightOf 31 = .ok (.istore_n 2, 1) := by decide +kernel
theorem dX2_weightOf_32 : decode cX2_weightOf 32 = .ok (.iinc 3 1, 3) := by decide +kernel
theorem dX2_weightOf_35 : decode cX2_weightOf 35 = .ok (.goto (-31), 3) := by decide +kernel
theorem dX2_weightOf_38 : decode cX2_weightOf 38 = .ok (.iload_n 2, 1) := by decide +kernel
theorem dX2_weightOf_39 : decode cX2_weightOf 39 = .ok (.ireturn, 1) := by decide +kernel
theorem dX2_heaviestOf_0 : decode cX2_heaviestOf 0 = .ok (.iconst 0, 1) := by decide +kernel
theorem dX2_heaviestOf_1 : decode cX2_heaviestOf 1 = .ok (.istore_n 2, 1) := by decide +kernel
theorem dX2_heaviestOf_2 : decode cX2_heaviestOf 2 = .ok (.iconst 0, 1) := by decide +kernel
theorem dX2_heaviestOf_3 : decode cX2_heaviestOf 3 = .ok (.istore_n 3, 1) := by decide +kernel
theorem dX2_heaviestOf_4 : decode cX2_heaviestOf 4 = .ok (.iload_n 3, 1) := by decide +kernel
theorem dX2_heaviestOf_5 : decode cX2_heaviestOf 5 = .ok (.aload_n 0, 1) := by decide +kernel
theorem dX2_heaviestOf_6 : decode cX2_heaviestOf 6 = .ok (.getfield 50, 3) := by decide +kernel
theorem dX2_heaviestOf_9 : decode cX2_heaviestOf 9 = .ok (.if_icmp .ge 31, 3) := by decide +kernel
theorem dX2_heaviestOf_12 : decode cX2_heaviestOf 12 = .ok (.iload_n 1, 1) := by decide +kernel
theorem dX2_heaviestOf_13 : decode cX2_heaviestOf 13 = .ok (.iload_n 3, 1) := by decide +kernel
theorem dX2_heaviestOf_14 : decode cX2_heaviestOf 14 = .ok (.invokestatic 116, 3) := by decide +kernel
theorem dX2_heaviestOf_17 : decode cX2_heaviestOf 17 = .ok (.ifCond .eq 17, 3) := by decide +kernel
theorem dX2_heaviestOf_20 : decode cX2_heaviestOf 20 = .ok (.iload_n 2, 1) := by decide +kernel
theorem dX2_heaviestOf_21 : decode cX2_heaviestOf 21 = .ok (.aload_n 0, 1) := by decide +kernel
theorem dX2_heaviestOf_22 : decode cX2_heaviestOf 22 = .ok (.getfield 19, 3) := by decide +kernel
theorem dX2_heaviestOf_25 : decode cX2_heaviestOf 25 = .ok (.iload_n 3, 1) := by decide +kernel
theorem dX2_heaviestOf_26 : decode cX2_heaviestOf 26 = .ok (.aaload, 1) := by decide +kernel
theorem dX2_heaviestOf_27 : decode cX2_heaviestOf 27 = .ok (.getfield 97, 3) := by decide +kernel
theorem dX2_heaviestOf_30 : decode cX2_heaviestOf 30 = .ok (.invokestatic 120, 3) := by decide +kernel
theorem dX2_heaviestOf_33 : decode cX2_heaviestOf 33 = .ok (.istore_n 2, 1) := by decide +kernel
theorem dX2_heaviestOf_34 : decode cX2_heaviestOf 34 = .ok (.iinc 3 1, 3) := by decide +kernel
theorem dX2_heaviestOf_37 : decode cX2_heaviestOf 37 = .ok (.goto (-33), 3) := by decide +kernel
theorem dX2_heaviestOf_40 : decode cX2_heaviestOf 40 = .ok (.iload_n 2, 1) := by decide +kernel
theorem dX2_heaviestOf_41 : decode cX2_heaviestOf 41 = .ok (.ireturn, 1) := by decide +kernel
theorem dX2_soldWares_0 : decode cX2_soldWares 0 = .ok (.iconst 0, 1) := by decide +kernel
theorem dX2_soldWares_1 : decode cX2_soldWares 1 = .ok (.istore_n 1, 1) := by decide +kernel
theorem dX2_soldWares_2 : decode cX2_soldWares 2 = .ok (.iconst 0, 1) := by decide +kernel
theorem dX2_soldWares_3 : decode cX2_soldWares 3 = .ok (.istore_n 2, 1) := by decide +kernel
theorem dX2_soldWares_4 : decode cX2_soldWares 4 = .ok (.iload_n 2, 1) := by decide +kernel
theorem dX2_soldWares_5 : decode cX2_soldWares 5 = .ok (.aload_n 0, 1) := by decide +kernel
theorem dX2_soldWares_6 : decode cX2_soldWares 6 = .ok (.getfield 53, 3) := by decide +kernel
theorem dX2_soldWares_9 : decode cX2_soldWares 9 = .ok (.if_icmp .ge 28, 3) := by decide +kernel
theorem dX2_soldWares_12 : decode cX2_soldWares 12 = .ok (.aload_n 0, 1) := by decide +kernel
theorem dX2_soldWares_13 : decode cX2_soldWares 13 = .ok (.getfield 25, 3) := by decide +kernel
theorem dX2_soldWares_16 : decode cX2_soldWares 16 = .ok (.iload_n 2, 1) := by decide +kernel
theorem dX2_soldWares_17 : decode cX2_soldWares 17 = .ok (.aaload, 1) := by decide +kernel
theorem dX2_soldWares_18 : decode cX2_soldWares 18 = .ok (.getfield 66, 3) := by decide +kernel
theorem dX2_soldWares_21 : decode cX2_soldWares 21 = .ok (.iconst (-1), 1) := by decide +kernel
theorem dX2_soldWares_22 : decode cX2_soldWares 22 = .ok (.if_icmp .eq 9, 3) := by decide +kernel
theorem dX2_soldWares_25 : decode cX2_soldWares 25 = .ok (.iload_n 1, 1) := by decide +kernel
theorem dX2_soldWares_26 : decode cX2_soldWares 26 = .ok (.iconst 1, 1) := by decide +kernel
theorem dX2_soldWares_27 : decode cX2_soldWares 27 = .ok (.iload_n 2, 1) := by decide +kernel
theorem dX2_soldWares_28 : decode cX2_soldWares 28 = .ok (.ishl, 1) := by decide +kernel
theorem dX2_soldWares_29 : decode cX2_soldWares 29 = .ok (.ior, 1) := by decide +kernel
theorem dX2_soldWares_30 : decode cX2_soldWares 30 = .ok (.istore_n 1, 1) := by decide +kernel
theorem dX2_soldWares_31 : decode cX2_soldWares 31 = .ok (.iinc 2 1, 3) := by decide +kernel
theorem dX2_soldWares_34 : decode cX2_soldWares 34 = .ok (.goto (-30), 3) := by decide +kernel
theorem dX2_soldWares_37 : decode cX2_soldWares 37 = .ok (.iload_n 1, 1) := by decide +kernel
theorem dX2_soldWares_38 : decode cX2_soldWares 38 = .ok (.ireturn, 1) := by decide +kernel
theorem dX2_earnedByAll_0 : decode cX2_earnedByAll 0 = .ok (.iconst 0, 1) := by decide +kernel
theorem dX2_earnedByAll_1 : decode cX2_earnedByAll 1 = .ok (.istore_n 1, 1) := by decide +kernel
theorem dX2_earnedByAll_2 : decode cX2_earnedByAll 2 = .ok (.iconst 0, 1) := by decide +kernel
theorem dX2_earnedByAll_3 : decode cX2_earnedByAll 3 = .ok (.istore_n 2, 1) := by decide +kernel
theorem dX2_earnedByAll_4 : decode cX2_earnedByAll 4 = .ok (.iload_n 2, 1) := by decide +kernel
theorem dX2_earnedByAll_5 : decode cX2_earnedByAll 5 = .ok (.aload_n 0, 1) := by decide +kernel
theorem dX2_earnedByAll_6 : decode cX2_earnedByAll 6 = .ok (.getfield 47, 3) := by decide +kernel
theorem dX2_earnedByAll_9 : decode cX2_earnedByAll 9 = .ok (.if_icmp .ge 21, 3) := by decide +kernel
theorem dX2_earnedByAll_12 : decode cX2_earnedByAll 12 = .ok (.iload_n 1, 1) := by decide +kernel
theorem dX2_earnedByAll_13 : decode cX2_earnedByAll 13 = .ok (.aload_n 0, 1) := by decide +kernel
theorem dX2_earnedByAll_14 : decode cX2_earnedByAll 14 = .ok (.getfield 11, 3) := by decide +kernel
theorem dX2_earnedByAll_17 : decode cX2_earnedByAll 17 = .ok (.iload_n 2, 1) := by decide +kernel
theorem dX2_earnedByAll_18 : decode cX2_earnedByAll 18 = .ok (.aaload, 1) := by decide +kernel
theorem dX2_earnedByAll_19 : decode cX2_earnedByAll 19 = .ok (.getfield 91, 3) := by decide +kernel
theorem dX2_earnedByAll_22 : decode cX2_earnedByAll 22 = .ok (.iadd, 1) := by decide +kernel
theorem dX2_earnedByAll_23 : decode cX2_earnedByAll 23 = .ok (.istore_n 1, 1) := by decide +kernel
theorem dX2_earnedByAll_24 : decode cX2_earnedByAll 24 = .ok (.iinc 2 1, 3) := by decide +kernel
theorem dX2_earnedByAll_27 : decode cX2_earnedByAll 27 = .ok (.goto (-23), 3) := by decide +kernel
theorem dX2_earnedByAll_30 : decode cX2_earnedByAll 30 = .ok (.iload_n 1, 1) := by decide +kernel
theorem dX2_earnedByAll_31 : decode cX2_earnedByAll 31 = .ok (.ireturn, 1) := by decide +kernel
theorem dX2_walkedByAll_0 : decode cX2_walkedByAll 0 = .ok (.iconst 0, 1) := by decide +kernel
theorem dX2_walkedByAll_1 : decode cX2_walkedByAll 1 = .ok (.istore_n 1, 1) := by decide +kernel
theorem dX2_walkedByAll_2 : decode cX2_walkedByAll 2 = .ok (.iconst 0, 1) := by decide +kernel
theorem dX2_walkedByAll_3 : decode cX2_walkedByAll 3 = .ok (.istore_n 2, 1) := by decide +kernel
theorem dX2_walkedByAll_4 : decode cX2_walkedByAll 4 = .ok (.iload_n 2, 1) := by decide +kernel
theorem dX2_walkedByAll_5 : decode cX2_walkedByAll 5 = .ok (.aload_n 0, 1) := by decide +kernel
theorem dX2_walkedByAll_6 : decode cX2_walkedByAll 6 = .ok (.getfield 47, 3) := by decide +kernel
theorem dX2_walkedByAll_9 : decode cX2_walkedByAll 9 = .ok (.if_icmp .ge 21, 3) := by decide +kernel
theorem dX2_walkedByAll_12 : decode cX2_walkedByAll 12 = .ok (.iload_n 1, 1) := by decide +kernel
theorem dX2_walkedByAll_13 : decode cX2_walkedByAll 13 = .ok (.aload_n 0, 1) := by decide +kernel
theorem dX2_walkedByAll_14 : decode cX2_walkedByAll 14 = .ok (.getfield 11, 3) := by decide +kernel
theorem dX2_walkedByAll_17 : decode cX2_walkedByAll 17 = .ok (.iload_n 2, 1) := by decide +kernel
theorem dX2_walkedByAll_18 : decode cX2_walkedByAll 18 = .ok (.aaload, 1) := by decide +kernel
theorem dX2_walkedByAll_19 : decode cX2_walkedByAll 19 = .ok (.getfield 94, 3) := by decide +kernel
theorem dX2_walkedByAll_22 : decode cX2_walkedByAll 22 = .ok (.iadd, 1) := by decide +kernel
theorem dX2_walkedByAll_23 : decode cX2_walkedByAll 23 = .ok (.istore_n 1, 1) := by decide +kernel
theorem dX2_walkedByAll_24 : decode cX2_walkedByAll 24 = .ok (.iinc 2 1, 3) := by decide +kernel
theorem dX2_walkedByAll_27 : decode cX2_walkedByAll 27 = .ok (.goto (-23), 3) := by decide +kernel
theorem dX2_walkedByAll_30 : decode cX2_walkedByAll 30 = .ok (.iload_n 1, 1) := by decide +kernel
theorem dX2_walkedByAll_31 : decode cX2_walkedByAll 31 = .ok (.ireturn, 1) := by decide +kernel
theorem dX2_heldSpots_0 : decode cX2_heldSpots 0 = .ok (.iconst 0, 1) := by decide +kernel
theorem dX2_heldSpots_1 : decode cX2_heldSpots 1 = .ok (.istore_n 1, 1) := by decide +kernel
theorem dX2_heldSpots_2 : decode cX2_heldSpots 2 = .ok (.iconst 0, 1) := by decide +kernel
theorem dX2_heldSpots_3 : decode cX2_heldSpots 3 = .ok (.istore_n 2, 1) := by decide +kernel
theorem dX2_heldSpots_4 : decode cX2_heldSpots 4 = .ok (.iload_n 2, 1) := by decide +kernel
theorem dX2_heldSpots_5 : decode cX2_heldSpots 5 = .ok (.bipush 10, 2) := by decide +kernel
theorem dX2_heldSpots_7 : decode cX2_heldSpots 7 = .ok (.if_icmp .ge 22, 3) := by decide +kernel
theorem dX2_heldSpots_10 : decode cX2_heldSpots 10 = .ok (.aload_n 0, 1) := by decide +kernel
theorem dX2_heldSpots_11 : decode cX2_heldSpots 11 = .ok (.getfield 36, 3) := by decide +kernel
theorem dX2_heldSpots_14 : decode cX2_heldSpots 14 = .ok (.iload_n 2, 1) := by decide +kernel
theorem dX2_heldSpots_15 : decode cX2_heldSpots 15 = .ok (.iaload, 1) := by decide +kernel
theorem dX2_heldSpots_16 : decode cX2_heldSpots 16 = .ok (.iconst (-1), 1) := by decide +kernel
theorem dX2_heldSpots_17 : decode cX2_heldSpots 17 = .ok (.if_icmp .eq 6, 3) := by decide +kernel
theorem dX2_heldSpots_20 : decode cX2_heldSpots 20 = .ok (.iinc 1 1, 3) := by decide +kernel
theorem dX2_heldSpots_23 : decode cX2_heldSpots 23 = .ok (.iinc 2 1, 3) := by decide +kernel
theorem dX2_heldSpots_26 : decode cX2_heldSpots 26 = .ok (.goto (-22), 3) := by decide +kernel
theorem dX2_heldSpots_29 : decode cX2_heldSpots 29 = .ok (.iload_n 1, 1) := by decide +kernel
theorem dX2_heldSpots_30 : decode cX2_heldSpots 30 = .ok (.ireturn, 1) := by decide +kernel
theorem dX2_worthOf_0 : decode cX2_worthOf 0 = .ok (.aload_n 0, 1) := by decide +kernel
theorem dX2_worthOf_1 : decode cX2_worthOf 1 = .ok (.getfield 19, 3) := by decide +kernel
theorem dX2_worthOf_4 : decode cX2_worthOf 4 = .ok (.iload_n 1, 1) := by decide +kernel
theorem dX2_worthOf_5 : decode cX2_worthOf 5 = .ok (.aaload, 1) := by decide +kernel
theorem dX2_worthOf_6 : decode cX2_worthOf 6 = .ok (.astore_n 2, 1) := by decide +kernel
theorem dX2_worthOf_7 : decode cX2_worthOf 7 = .ok (.aload_n 0, 1) := by decide +kernel
theorem dX2_worthOf_8 : decode cX2_worthOf 8 = .ok (.getfield 32, 3) := by decide +kernel
theorem dX2_worthOf_11 : decode cX2_worthOf 11 = .ok (.iconst 0, 1) := by decide +kernel
theorem dX2_worthOf_12 : decode cX2_worthOf 12 = .ok (.aload_n 2, 1) := by decide +kernel
theorem dX2_worthOf_13 : decode cX2_worthOf 13 = .ok (.getfield 100, 3) := by decide +kernel
theorem dX2_worthOf_16 : decode cX2_worthOf 16 = .ok (.aload_n 2, 1) := by decide +kernel
theorem dX2_worthOf_17 : decode cX2_worthOf 17 = .ok (.getfield 103, 3) := by decide +kernel
theorem dX2_worthOf_20 : decode cX2_worthOf 20 = .ok (.invokevirtual 128, 3) := by decide +kernel
theorem dX2_worthOf_23 : decode cX2_worthOf 23 = .ok (.istore_n 3, 1) := by decide +kernel
theorem dX2_worthOf_24 : decode cX2_worthOf 24 = .ok (.iload_n 3, 1) := by decide +kernel
theorem dX2_worthOf_25 : decode cX2_worthOf 25 = .ok (.ldc 132, 2) := by decide +kernel
theorem dX2_worthOf_27 : decode cX2_worthOf 27 = .ok (.if_icmp .lt 8, 3) := by decide +kernel
theorem dX2_worthOf_30 : decode cX2_worthOf 30 = .ok (.ldc 132, 2) := by decide +kernel
theorem dX2_worthOf_32 : decode cX2_worthOf 32 = .ok (.goto 9, 3) := by decide +kernel
theorem dX2_worthOf_35 : decode cX2_worthOf 35 = .ok (.aload_n 2, 1) := by decide +kernel
theorem dX2_worthOf_36 : decode cX2_worthOf 36 = .ok (.getfield 97, 3) := by decide +kernel
theorem dX2_worthOf_39 : decode cX2_worthOf 39 = .ok (.iload_n 3, 1) := by decide +kernel
theorem dX2_worthOf_40 : decode cX2_worthOf 40 = .ok (.imul, 1) := by decide +kernel
theorem dX2_worthOf_41 : decode cX2_worthOf 41 = .ok (.ireturn, 1) := by decide +kernel
theorem dX2_payFor_0 : decode cX2_payFor 0 = .ok (.aload_n 0, 1) := by decide +kernel
theorem dX2_payFor_1 : decode cX2_payFor 1 = .ok (.iload_n 2, 1) := by decide +kernel
theorem dX2_payFor_2 : decode cX2_payFor 2 = .ok (.invokevirtual 133, 3) := by decide +kernel
theorem dX2_payFor_5 : decode cX2_payFor 5 = .ok (.istore_n 3, 1) := by decide +kernel
theorem dX2_payFor_6 : decode cX2_payFor 6 = .ok (.iload_n 3, 1) := by decide +kernel
theorem dX2_payFor_7 : decode cX2_payFor 7 = .ok (.ldc 132, 2) := by decide +kernel
theorem dX2_payFor_9 : decode cX2_payFor 9 = .ok (.if_icmp .lt 7, 3) := by decide +kernel
theorem dX2_payFor_12 : decode cX2_payFor 12 = .ok (.iconst 0, 1) := by decide +kernel
theorem dX2_payFor_13 : decode cX2_payFor 13 = .ok (.goto 16, 3) := by decide +kernel
theorem dX2_payFor_16 : decode cX2_payFor 16 = .ok (.aload_n 0, 1) := by decide +kernel
theorem dX2_payFor_17 : decode cX2_payFor 17 = .ok (.getfield 11, 3) := by decide +kernel
theorem dX2_payFor_20 : decode cX2_payFor 20 = .ok (.iload_n 1, 1) := by decide +kernel
theorem dX2_payFor_21 : decode cX2_payFor 21 = .ok (.aaload, 1) := by decide +kernel
theorem dX2_payFor_22 : decode cX2_payFor 22 = .ok (.getfield 82, 3) := by decide +kernel
theorem dX2_payFor_25 : decode cX2_payFor 25 = .ok (.iload_n 3, 1) := by decide +kernel
theorem dX2_payFor_26 : decode cX2_payFor 26 = .ok (.invokestatic 136, 3) := by decide +kernel
theorem dX2_payFor_29 : decode cX2_payFor 29 = .ok (.ireturn, 1) := by decide +kernel
theorem dX2_payOf_0 : decode cX2_payOf 0 = .ok (.iconst 0, 1) := by decide +kernel
theorem dX2_payOf_1 : decode cX2_payOf 1 = .ok (.istore_n 3, 1) := by decide +kernel
theorem dX2_payOf_2 : decode cX2_payOf 2 = .ok (.iconst 0, 1) := by decide +kernel
theorem dX2_payOf_3 : decode cX2_payOf 3 = .ok (.istore 4, 2) := by decide +kernel
theorem dX2_payOf_5 : decode cX2_payOf 5 = .ok (.iload 4, 2) := by decide +kernel
theorem dX2_payOf_7 : decode cX2_payOf 7 = .ok (.aload_n 0, 1) := by decide +kernel
theorem dX2_payOf_8 : decode cX2_payOf 8 = .ok (.getfield 50, 3) := by decide +kernel
theorem dX2_payOf_11 : decode cX2_payOf 11 = .ok (.if_icmp .ge 28, 3) := by decide +kernel
theorem dX2_payOf_14 : decode cX2_payOf 14 = .ok (.iload_n 2, 1) := by decide +kernel
theorem dX2_payOf_15 : decode cX2_payOf 15 = .ok (.iload 4, 2) := by decide +kernel
theorem dX2_payOf_17 : decode cX2_payOf 17 = .ok (.invokestatic 116, 3) := by decide +kernel
theorem dX2_payOf_20 : decode cX2_payOf 20 = .ok (.ifCond .eq 13, 3) := by decide +kernel
theorem dX2_payOf_23 : decode cX2_payOf 23 = .ok (.iload_n 3, 1) := by decide +kernel
theorem dX2_payOf_24 : decode cX2_payOf 24 = .ok (.aload_n 0, 1) := by decide +kernel
theorem dX2_payOf_25 : decode cX2_payOf 25 = .ok (.iload_n 1, 1) := by decide +kernel
theorem dX2_payOf_26 : decode cX2_payOf 26 = .ok (.iload 4, 2) := by decide +kernel
theorem dX2_payOf_28 : decode cX2_payOf 28 = .ok (.invokevirtual 139, 3) := by decide +kernel
theorem dX2_payOf_31 : decode cX2_payOf 31 = .ok (.iadd, 1) := by decide +kernel
theorem dX2_payOf_32 : decode cX2_payOf 32 = .ok (.istore_n 3, 1) := by decide +kernel
theorem dX2_payOf_33 : decode cX2_payOf 33 = .ok (.iinc 4 1, 3) := by decide +kernel
theorem dX2_payOf_36 : decode cX2_payOf 36 = .ok (.goto (-31), 3) := by decide +kernel
theorem dX2_payOf_39 : decode cX2_payOf 39 = .ok (.iload_n 3, 1) := by decide +kernel
theorem dX2_payOf_40 : decode cX2_payOf 40 = .ok (.ireturn, 1) := by decide +kernel
theorem dX2_paysJust_0 : decode cX2_paysJust 0 = .ok (.iload_n 3, 1) := by decide +kernel
theorem dX2_paysJust_1 : decode cX2_paysJust 1 = .ok (.ifCond .gt 13, 3) := by decide +kernel
theorem dX2_paysJust_4 : decode cX2_paysJust 4 = .ok (.iload_n 2, 1) := by decide +kernel
theorem dX2_paysJust_5 : decode cX2_paysJust 5 = .ok (.ifCond .ne 7, 3) := by decide +kernel
theorem dX2_paysJust_8 : decode cX2_paysJust 8 = .ok (.iconst 1, 1) := by decide +kernel
theorem dX2_paysJust_9 : decode cX2_paysJust 9 = .ok (.goto 4, 3) := by decide +kernel
theorem dX2_paysJust_12 : decode cX2_paysJust 12 = .ok (.iconst 0, 1) := by decide +kernel
theorem dX2_paysJust_13 : decode cX2_paysJust 13 = .ok (.ireturn, 1) := by decide +kernel
theorem dX2_paysJust_14 : decode cX2_paysJust 14 = .ok (.iconst 0, 1) := by decide +kernel
theorem dX2_paysJust_15 : decode cX2_paysJust 15 = .ok (.istore 4, 2) := by decide +kernel
theorem dX2_paysJust_17 : decode cX2_paysJust 17 = .ok (.ldc 132, 2) := by decide +kernel
theorem dX2_paysJust_19 : decode cX2_paysJust 19 = .ok (.istore 5, 2) := by decide +kernel
theorem dX2_paysJust_21 : decode cX2_paysJust 21 = .ok (.iconst 0, 1) := by decide +kernel
theorem dX2_paysJust_22 : decode cX2_paysJust 22 = .ok (.istore 6, 2) := by decide +kernel
theorem dX2_paysJust_24 : decode cX2_paysJust 24 = .ok (.iload 6, 2) := by decide +kernel
theorem dX2_paysJust_26 : decode cX2_paysJust 26 = .ok (.aload_n 0, 1) := by decide +kernel
theorem dX2_paysJust_27 : decode cX2_paysJust 27 = .ok (.getfield 50, 3) := by decide +kernel
theorem dX2_paysJust_30 : decode cX2_paysJust 30 = .ok (.if_icmp .ge 43, 3) := by decide +kernel
theorem dX2_paysJust_33 : decode cX2_paysJust 33 = .ok (.iload_n 2, 1) := by decide +kernel
theorem dX2_paysJust_34 : decode cX2_paysJust 34 = .ok (.iload 6, 2) := by decide +kernel
theorem dX2_paysJust_36 : decode cX2_paysJust 36 = .ok (.invokestatic 116, 3) := by decide +kernel
theorem dX2_paysJust_39 : decode cX2_paysJust 39 = .ok (.ifCond .eq 28, 3) := by decide +kernel
theorem dX2_paysJust_42 : decode cX2_paysJust 42 = .ok (.aload_n 0, 1) := by decide +kernel
theorem dX2_paysJust_43 : decode cX2_paysJust 43 = .ok (.iload_n 1, 1) := by decide +kernel
theorem dX2_paysJust_44 : decode cX2_paysJust 44 = .ok (.iload 6, 2) := by decide +kernel
theorem dX2_paysJust_46 : decode cX2_paysJust 46 = .ok (.invokevirtual 139, 3) := by decide +kernel
theorem dX2_paysJust_49 : decode cX2_paysJust 49 = .ok (.istore 7, 2) := by decide +kernel
theorem dX2_paysJust_51 : decode cX2_paysJust 51 = .ok (.iload 4, 2) := by decide +kernel
theorem dX2_paysJust_53 : decode cX2_paysJust 53 = .ok (.iload 7, 2) := by decide +kernel
theorem dX2_paysJust_55 : decode cX2_paysJust 55 = .ok (.iadd, 1) := by decide +kernel
theorem dX2_paysJust_56 : decode cX2_paysJust 56 = .ok (.istore 4, 2) := by decide +kernel
theorem dX2_paysJust_58 : decode cX2_paysJust 58 = .ok (.iload 5, 2) := by decide +kernel
theorem dX2_paysJust_60 : decode cX2_paysJust 60 = .ok (.iload 7, 2) := by decide +kernel
theorem dX2_paysJust_62 : decode cX2_paysJust 62 = .ok (.invokestatic 140, 3) := by decide +kernel
theorem dX2_paysJust_65 : decode cX2_paysJust 65 = .ok (.istore 5, 2) := by decide +kernel
theorem dX2_paysJust_67 : decode cX2_paysJust 67 = .ok (.iinc 6 1, 3) := by decide +kernel
theorem dX2_paysJust_70 : decode cX2_paysJust 70 = .ok (.goto (-46), 3) := by decide +kernel
theorem dX2_paysJust_73 : decode cX2_paysJust 73 = .ok (.iload 4, 2) := by decide +kernel
theorem dX2_paysJust_75 : decode cX2_paysJust 75 = .ok (.iload_n 3, 1) := by decide +kernel
theorem dX2_paysJust_76 : decode cX2_paysJust 76 = .ok (.if_icmp .lt 16, 3) := by decide +kernel
theorem dX2_paysJust_79 : decode cX2_paysJust 79 = .ok (.iload 4, 2) := by decide +kernel
theorem dX2_paysJust_81 : decode cX2_paysJust 81 = .ok (.iload 5, 2) := by decide +kernel
theorem dX2_paysJust_83 : decode cX2_paysJust 83 = .ok (.isub, 1) := by decide +kernel
theorem dX2_paysJust_84 : decode cX2_paysJust 84 = .ok (.iload_n 3, 1) := by decide +kernel
theorem dX2_paysJust_85 : decode cX2_paysJust 85 = .ok (.if_icmp .ge 7, 3) := by decide +kernel
theorem dX2_paysJust_88 : decode cX2_paysJust 88 = .ok (.iconst 1, 1) := by decide +kernel
theorem dX2_paysJust_89 : decode cX2_paysJust 89 = .ok (.goto 4, 3) := by decide +kernel
theorem dX2_paysJust_92 : decode cX2_paysJust 92 = .ok (.iconst 0, 1) := by decide +kernel
theorem dX2_paysJust_93 : decode cX2_paysJust 93 = .ok (.ireturn, 1) := by decide +kernel
theorem dX2_yardsTo_0 : decode cX2_yardsTo 0 = .ok (.aload_n 0, 1) := by decide +kernel
theorem dX2_yardsTo_1 : decode cX2_yardsTo 1 = .ok (.getfield 32, 3) := by decide +kernel
theorem dX2_yardsTo_4 : decode cX2_yardsTo 4 = .ok (.aload_n 0, 1) := by decide +kernel
theorem dX2_yardsTo_5 : decode cX2_yardsTo 5 = .ok (.getfield 11, 3) := by decide +kernel
theorem dX2_yardsTo_8 : decode cX2_yardsTo 8 = .ok (.iload_n 1, 1) := by decide +kernel
theorem dX2_yardsTo_9 : decode cX2_yardsTo 9 = .ok (.aaload, 1) := by decide +kernel
theorem dX2_yardsTo_10 : decode cX2_yardsTo 10 = .ok (.getfield 82, 3) := by decide +kernel
theorem dX2_yardsTo_13 : decode cX2_yardsTo 13 = .ok (.aload_n 0, 1) := by decide +kernel
theorem dX2_yardsTo_14 : decode cX2_yardsTo 14 = .ok (.getfield 11, 3) := by decide +kernel
theorem dX2_yardsTo_17 : decode cX2_yardsTo 17 = .ok (.iload_n 1, 1) := by decide +kernel
theorem dX2_yardsTo_18 : decode cX2_yardsTo 18 = .ok (.aaload, 1) := by decide +kernel
theorem dX2_yardsTo_19 : decode cX2_yardsTo 19 = .ok (.getfield 85, 3) := by decide +kernel
theorem dX2_yardsTo_22 : decode cX2_yardsTo 22 = .ok (.iload_n 2, 1) := by decide +kernel
theorem dX2_yardsTo_23 : decode cX2_yardsTo 23 = .ok (.invokevirtual 128, 3) := by decide +kernel
theorem dX2_yardsTo_26 : decode cX2_yardsTo 26 = .ok (.ireturn, 1) := by decide +kernel
theorem dX2_canComeToAll_0 : decode cX2_canComeToAll 0 = .ok (.iconst 0, 1) := by decide +kernel
theorem dX2_canComeToAll_1 : decode cX2_canComeToAll 1 = .ok (.istore_n 3, 1) := by decide +kernel
theorem dX2_canComeToAll_2 : decode cX2_canComeToAll 2 = .ok (.iload_n 3, 1) := by decide +kernel
theorem dX2_canComeToAll_3 : decode cX2_canComeToAll 3 = .ok (.aload_n 0, 1) := by decide +kernel
theorem dX2_canComeToAll_4 : decode cX2_canComeToAll 4 = .ok (.getfield 50, 3) := by decide +kernel
theorem dX2_canComeToAll_7 : decode cX2_canComeToAll 7 = .ok (.if_icmp .ge 28, 3) := by decide +kernel
theorem dX2_canComeToAll_10 : decode cX2_canComeToAll 10 = .ok (.iload_n 2, 1) := by decide +kernel
theorem dX2_canComeToAll_11 : decode cX2_canComeToAll 11 = .ok (.iload_n 3, 1) := by decide +kernel
theorem dX2_canComeToAll_12 : decode cX2_canComeToAll 12 = .ok (.invokestatic 116, 3) := by decide +kernel
theorem dX2_canComeToAll_15 : decode cX2_canComeToAll 15 = .ok (.ifCond .eq 14, 3) := by decide +kernel
theorem dX2_canComeToAll_18 : decode cX2_canComeToAll 18 = .ok (.aload_n 0, 1) := by decide +kernel
theorem dX2_canComeToAll_19 : decode cX2_canComeToAll 19 = .ok (.iload_n 1, 1) := by decide +kernel
theorem dX2_canComeToAll_20 : decode cX2_canComeToAll 20 = .ok (.iload_n 3, 1) := by decide +kernel
theorem dX2_canComeToAll_21 : decode cX2_canComeToAll 21 = .ok (.invokevirtual 143, 3) := by decide +kernel
theorem dX2_canComeToAll_24 : decode cX2_canComeToAll 24 = .ok (.ifCond .ne 5, 3) := by decide +kernel
theorem dX2_canComeToAll_27 : decode cX2_canComeToAll 27 = .ok (.iconst 0, 1) := by decide +kernel
theorem dX2_canComeToAll_28 : decode cX2_canComeToAll 28 = .ok (.ireturn, 1) := by decide +kernel
theorem dX2_canComeToAll_29 : decode cX2_canComeToAll 29 = .ok (.iinc 3 1, 3) := by decide +kernel
theorem dX2_canComeToAll_32 : decode cX2_canComeToAll 32 = .ok (.goto (-30), 3) := by decide +kernel
theorem dX2_canComeToAll_35 : decode cX2_canComeToAll 35 = .ok (.iconst 1, 1) := by decide +kernel
theorem dX2_canComeToAll_36 : decode cX2_canComeToAll 36 = .ok (.ireturn, 1) := by decide +kernel
theorem dX2_canComeToBoth_0 : decode cX2_canComeToBoth 0 = .ok (.aload_n 0, 1) := by decide +kernel
theorem dX2_canComeToBoth_1 : decode cX2_canComeToBoth 1 = .ok (.iload_n 1, 1) := by decide +kernel
theorem dX2_canComeToBoth_2 : decode cX2_canComeToBoth 2 = .ok (.aload_n 0, 1) := by decide +kernel
theorem dX2_canComeToBoth_3 : decode cX2_canComeToBoth 3 = .ok (.getfield 19, 3) := by decide +kernel
theorem dX2_canComeToBoth_6 : decode cX2_canComeToBoth 6 = .ok (.iload_n 2, 1) := by decide +kernel
theorem dX2_canComeToBoth_7 : decode cX2_canComeToBoth 7 = .ok (.aaload, 1) := by decide +kernel
theorem dX2_canComeToBoth_8 : decode cX2_canComeToBoth 8 = .ok (.getfield 100, 3) := by decide +kernel
theorem dX2_canComeToBoth_11 : decode cX2_canComeToBoth 11 = .ok (.invokevirtual 146, 3) := by decide +kernel
theorem dX2_canComeToBoth_14 : decode cX2_canComeToBoth 14 = .ok (.ldc 132, 2) := by decide +kernel
theorem dX2_canComeToBoth_16 : decode cX2_canComeToBoth 16 = .ok (.if_icmp .ge 26, 3) := by decide +kernel
theorem dX2_canComeToBoth_19 : decode cX2_canComeToBoth 19 = .ok (.aload_n 0, 1) := by decide +kernel
theorem dX2_canComeToBoth_20 : decode cX2_canComeToBoth 20 = .ok (.iload_n 1, 1) := by decide +kernel
theorem dX2_canComeToBoth_21 : decode cX2_canComeToBoth 21 = .ok (.aload_n 0, 1) := by decide +kernel
theorem dX2_canComeToBoth_22 : decode cX2_canComeToBoth 22 = .ok (.getfield 19, 3) := by decide +kernel
theorem dX2_canComeToBoth_25 : decode cX2_canComeToBoth 25 = .ok (.iload_n 2, 1) := by decide +kernel
theorem dX2_canComeToBoth_26 : decode cX2_canComeToBoth 26 = .ok (.aaload, 1) := by decide +kernel
theorem dX2_canComeToBoth_27 : decode cX2_canComeToBoth 27 = .ok (.getfield 103, 3) := by decide +kernel
theorem dX2_canComeToBoth_30 : decode cX2_canComeToBoth 30 = .ok (.invokevirtual 146, 3) := by decide +kernel
theorem dX2_canComeToBoth_33 : decode cX2_canComeToBoth 33 = .ok (.ldc 132, 2) := by decide +kernel
theorem dX2_canComeToBoth_35 : decode cX2_canComeToBoth 35 = .ok (.if_icmp .ge 7, 3) := by decide +kernel
theorem dX2_canComeToBoth_38 : decode cX2_canComeToBoth 38 = .ok (.iconst 1, 1) := by decide +kernel
theorem dX2_canComeToBoth_39 : decode cX2_canComeToBoth 39 = .ok (.goto 4, 3) := by decide +kernel
theorem dX2_canComeToBoth_42 : decode cX2_canComeToBoth 42 = .ok (.iconst 0, 1) := by decide +kernel
theorem dX2_canComeToBoth_43 : decode cX2_canComeToBoth 43 = .ok (.ireturn, 1) := by decide +kernel
theorem dX2_ableSet_0 : decode cX2_ableSet 0 = .ok (.iconst 0, 1) := by decide +kernel
theorem dX2_ableSet_1 : decode cX2_ableSet 1 = .ok (.istore_n 2, 1) := by decide +kernel
theorem dX2_ableSet_2 : decode cX2_ableSet 2 = .ok (.iconst 0, 1) := by decide +kernel
theorem dX2_ableSet_3 : decode cX2_ableSet 3 = .ok (.istore_n 3, 1) := by decide +kernel
theorem dX2_ableSet_4 : decode cX2_ableSet 4 = .ok (.iload_n 3, 1) := by decide +kernel
theorem dX2_ableSet_5 : decode cX2_ableSet 5 = .ok (.aload_n 0, 1) := by decide +kernel
theorem dX2_ableSet_6 : decode cX2_ableSet 6 = .ok (.getfield 50, 3) := by decide +kernel
theorem dX2_ableSet_9 : decode cX2_ableSet 9 = .ok (.if_icmp .ge 57, 3) := by decide +kernel
theorem dX2_ableSet_12 : decode cX2_ableSet 12 = .ok (.aload_n 0, 1) := by decide +kernel
theorem dX2_ableSet_13 : decode cX2_ableSet 13 = .ok (.getfield 19, 3) := by decide +kernel
theorem dX2_ableSet_16 : decode cX2_ableSet 16 = .ok (.iload_n 3, 1) := by decide +kernel
theorem dX2_ableSet_17 : decode cX2_ableSet 17 = .ok (.aaload, 1) := by decide +kernel
theorem dX2_ableSet_18 : decode cX2_ableSet 18 = .ok (.astore 4, 2) := by decide +kernel
theorem dX2_ableSet_20 : decode cX2_ableSet 20 = .ok (.aload 4, 2) := by decide +kernel
theorem dX2_ableSet_22 : decode cX2_ableSet 22 = .ok (.getfield 106, 3) := by decide +kernel
theorem dX2_ableSet_25 : decode cX2_ableSet 25 = .ok (.ifCond .ne 35, 3) := by decide +kernel
theorem dX2_ableSet_28 : decode cX2_ableSet 28 = .ok (.aload 4, 2) := by decide +kernel
theorem dX2_ableSet_30 : decode cX2_ableSet 30 = .ok (.getfield 97, 3) := by decide +kernel
theorem dX2_ableSet_33 : decode cX2_ableSet 33 = .ok (.aload_n 0, 1) := by decide +kernel
theorem dX2_ableSet_34 : decode cX2_ableSet 34 = .ok (.getfield 11, 3) := by decide +kernel
theorem dX2_ableSet_37 : decode cX2_ableSet 37 = .ok (.iload_n 1, 1) := by decide +kernel
theorem dX2_ableSet_38 : decode cX2_ableSet 38 = .ok (.aaload, 1) := by decide +kernel
theorem dX2_ableSet_39 : decode cX2_ableSet 39 = .ok (.invokevirtual 149, 3) := by decide +kernel
theorem dX2_ableSet_42 : decode cX2_ableSet 42 = .ok (.if_icmp .gt 18, 3) := by decide +kernel
theorem dX2_ableSet_45 : decode cX2_ableSet 45 = .ok (.aload_n 0, 1) := by decide +kernel
theorem dX2_ableSet_46 : decode cX2_ableSet 46 = .ok (.iload_n 1, 1) := by decide +kernel
theorem dX2_ableSet_47 : decode cX2_ableSet 47 = .ok (.iload_n 3, 1) := by decide +kernel
theorem dX2_ableSet_48 : decode cX2_ableSet 48 = .ok (.invokevirtual 143, 3) := by decide +kernel
theorem dX2_ableSet_51 : decode cX2_ableSet 51 = .ok (.ifCond .eq 9, 3) := by decide +kernel
theorem dX2_ableSet_54 : decode cX2_ableSet 54 = .ok (.iload_n 2, 1) := by decide +kernel
theorem dX2_ableSet_55 : decode cX2_ableSet 55 = .ok (.iconst 1, 1) := by decide +kernel
theorem dX2_ableSet_56 : decode cX2_ableSet 56 = .ok (.iload_n 3, 1) := by decide +kernel
theorem dX2_ableSet_57 : decode cX2_ableSet 57 = .ok (.ishl, 1) := by decide +kernel
theorem dX2_ableSet_58 : decode cX2_ableSet 58 = .ok (.ior, 1) := by decide +kernel
theorem dX2_ableSet_59 : decode cX2_ableSet 59 = .ok (.istore_n 2, 1) := by decide +kernel
theorem dX2_ableSet_60 : decode cX2_ableSet 60 = .ok (.iinc 3 1, 3) := by decide +kernel
theorem dX2_ableSet_63 : decode cX2_ableSet 63 = .ok (.goto (-59), 3) := by decide +kernel
theorem dX2_ableSet_66 : decode cX2_ableSet 66 = .ok (.iload_n 2, 1) := by decide +kernel
theorem dX2_ableSet_67 : decode cX2_ableSet 67 = .ok (.ireturn, 1) := by decide +kernel
theorem dX2_liesBy_0 : decode cX2_liesBy 0 = .ok (.aload_n 0, 1) := by decide +kernel
theorem dX2_liesBy_1 : decode cX2_liesBy 1 = .ok (.getfield 19, 3) := by decide +kernel
theorem dX2_liesBy_4 : decode cX2_liesBy 4 = .ok (.iload_n 1, 1) := by decide +kernel
theorem dX2_liesBy_5 : decode cX2_liesBy 5 = .ok (.aaload, 1) := by decide +kernel
theorem dX2_liesBy_6 : decode cX2_liesBy 6 = .ok (.getfield 106, 3) := by decide +kernel
theorem dX2_liesBy_9 : decode cX2_liesBy 9 = .ok (.ifCond .ne 28, 3) := by decide +kernel
theorem dX2_liesBy_12 : decode cX2_liesBy 12 = .ok (.aload_n 0, 1) := by decide +kernel
theorem dX2_liesBy_13 : decode cX2_liesBy 13 = .ok (.getfield 19, 3) := by decide +kernel
theorem dX2_liesBy_16 : decode cX2_liesBy 16 = .ok (.iload_n 1, 1) := by decide +kernel
theorem dX2_liesBy_17 : decode cX2_liesBy 17 = .ok (.aaload, 1) := by decide +kernel
theorem dX2_liesBy_18 : decode cX2_liesBy 18 = .ok (.getfield 100, 3) := by decide +kernel
theorem dX2_liesBy_21 : decode cX2_liesBy 21 = .ok (.aload_n 0, 1) := by decide +kernel
theorem dX2_liesBy_22 : decode cX2_liesBy 22 = .ok (.getfield 11, 3) := by decide +kernel
theorem dX2_liesBy_25 : decode cX2_liesBy 25 = .ok (.iload_n 2, 1) := by decide +kernel
theorem dX2_liesBy_26 : decode cX2_liesBy 26 = .ok (.aaload, 1) := by decide +kernel
theorem dX2_liesBy_27 : decode cX2_liesBy 27 = .ok (.getfield 85, 3) := by decide +kernel
theorem dX2_liesBy_30 : decode cX2_liesBy 30 = .ok (.if_icmp .ne 7, 3) := by decide +kernel
theorem dX2_liesBy_33 : decode cX2_liesBy 33 = .ok (.iconst 1, 1) := by decide +kernel
theorem dX2_liesBy_34 : decode cX2_liesBy 34 = .ok (.goto 4, 3) := by decide +kernel
theorem dX2_liesBy_37 : decode cX2_liesBy 37 = .ok (.iconst 0, 1) := by decide +kernel
theorem dX2_liesBy_38 : decode cX2_liesBy 38 = .ok (.ireturn, 1) := by decide +kernel
theorem dX2_couldAdd_0 : decode cX2_couldAdd 0 = .ok (.aload_n 0, 1) := by decide +kernel
theorem dX2_couldAdd_1 : decode cX2_couldAdd 1 = .ok (.aload_n 0, 1) := by decide +kernel
theorem dX2_couldAdd_2 : decode cX2_couldAdd 2 = .ok (.iload_n 1, 1) := by decide +kernel
theorem dX2_couldAdd_3 : decode cX2_couldAdd 3 = .ok (.invokevirtual 153, 3) := by decide +kernel
theorem dX2_couldAdd_6 : decode cX2_couldAdd 6 = .ok (.invokevirtual 156, 3) := by decide +kernel
theorem dX2_couldAdd_9 : decode cX2_couldAdd 9 = .ok (.aload_n 0, 1) := by decide +kernel
theorem dX2_couldAdd_10 : decode cX2_couldAdd 10 = .ok (.getfield 19, 3) := by decide +kernel
theorem dX2_couldAdd_13 : decode cX2_couldAdd 13 = .ok (.iload_n 2, 1) := by decide +kernel
theorem dX2_couldAdd_14 : decode cX2_couldAdd 14 = .ok (.aaload, 1) := by decide +kernel
theorem dX2_couldAdd_15 : decode cX2_couldAdd 15 = .ok (.getfield 97, 3) := by decide +kernel
theorem dX2_couldAdd_18 : decode cX2_couldAdd 18 = .ok (.iadd, 1) := by decide +kernel
theorem dX2_couldAdd_19 : decode cX2_couldAdd 19 = .ok (.aload_n 0, 1) := by decide +kernel
theorem dX2_couldAdd_20 : decode cX2_couldAdd 20 = .ok (.getfield 11, 3) := by decide +kernel
theorem dX2_couldAdd_23 : decode cX2_couldAdd 23 = .ok (.iload_n 1, 1) := by decide +kernel
theorem dX2_couldAdd_24 : decode cX2_couldAdd 24 = .ok (.aaload, 1) := by decide +kernel
theorem dX2_couldAdd_25 : decode cX2_couldAdd 25 = .ok (.invokevirtual 149, 3) := by decide +kernel
theorem dX2_couldAdd_28 : decode cX2_couldAdd 28 = .ok (.if_icmp .gt 7, 3) := by decide +kernel
theorem dX2_couldAdd_31 : decode cX2_couldAdd 31 = .ok (.iconst 1, 1) := by decide +kernel
theorem dX2_couldAdd_32 : decode cX2_couldAdd 32 = .ok (.goto 4, 3) := by decide +kernel
theorem dX2_couldAdd_35 : decode cX2_couldAdd 35 = .ok (.iconst 0, 1) := by decide +kernel
theorem dX2_couldAdd_36 : decode cX2_couldAdd 36 = .ok (.ireturn, 1) := by decide +kernel
theorem dX2_pickUp_0 : decode cX2_pickUp 0 = .ok (.aload_n 0, 1) := by decide +kernel
theorem dX2_pickUp_1 : decode cX2_pickUp 1 = .ok (.getfield 19, 3) := by decide +kernel
theorem dX2_pickUp_4 : decode cX2_pickUp 4 = .ok (.iload_n 2, 1) := by decide +kernel
theorem dX2_pickUp_5 : decode cX2_pickUp 5 = .ok (.aaload, 1) := by decide +kernel
theorem dX2_pickUp_6 : decode cX2_pickUp 6 = .ok (.iconst 1, 1) := by decide +kernel
theorem dX2_pickUp_7 : decode cX2_pickUp 7 = .ok (.putfield 106, 3) := by decide +kernel
theorem dX2_pickUp_10 : decode cX2_pickUp 10 = .ok (.aload_n 0, 1) := by decide +kernel
theorem dX2_pickUp_11 : decode cX2_pickUp 11 = .ok (.getfield 19, 3) := by decide +kernel
theorem dX2_pickUp_14 : decode cX2_pickUp 14 = .ok (.iload_n 2, 1) := by decide +kernel
theorem dX2_pickUp_15 : decode cX2_pickUp 15 = .ok (.aaload, 1) := by decide +kernel
theorem dX2_pickUp_16 : decode cX2_pickUp 16 = .ok (.iload_n 1, 1) := by decide +kernel
theorem dX2_pickUp_17 : decode cX2_pickUp 17 = .ok (.putfield 109, 3) := by decide +kernel
theorem dX2_pickUp_20 : decode cX2_pickUp 20 = .ok (.return_, 1) := by decide +kernel
theorem dX2_takeUpAll_0 : decode cX2_takeUpAll 0 = .ok (.iconst 0, 1) := by decide +kernel
theorem dX2_takeUpAll_1 : decode cX2_takeUpAll 1 = .ok (.istore_n 2, 1) := by decide +kernel
theorem dX2_takeUpAll_2 : decode cX2_takeUpAll 2 = .ok (.iload_n 2, 1) := by decide +kernel
theorem dX2_takeUpAll_3 : decode cX2_takeUpAll 3 = .ok (.aload_n 0, 1) := by decide +kernel
theorem dX2_takeUpAll_4 : decode cX2_takeUpAll 4 = .ok (.getfield 50, 3) := by decide +kernel
theorem dX2_takeUpAll_7 : decode cX2_takeUpAll 7 = .ok (.if_icmp .ge 33, 3) := by decide +kernel
theorem dX2_takeUpAll_10 : decode cX2_takeUpAll 10 = .ok (.aload_n 0, 1) := by decide +kernel
theorem dX2_takeUpAll_11 : decode cX2_takeUpAll 11 = .ok (.iload_n 2, 1) := by decide +kernel
theorem dX2_takeUpAll_12 : decode cX2_takeUpAll 12 = .ok (.iload_n 1, 1) := by decide +kernel
theorem dX2_takeUpAll_13 : decode cX2_takeUpAll 13 = .ok (.invokevirtual 159, 3) := by decide +kernel
theorem dX2_takeUpAll_16 : decode cX2_takeUpAll 16 = .ok (.ifCond .eq 18, 3) := by decide +kernel
theorem dX2_takeUpAll_19 : decode cX2_takeUpAll 19 = .ok (.aload_n 0, 1) := by decide +kernel
theorem dX2_takeUpAll_20 : decode cX2_takeUpAll 20 = .ok (.iload_n 1, 1) := by decide +kernel
theorem dX2_takeUpAll_21 : decode cX2_takeUpAll 21 = .ok (.iload_n 2, 1) := by decide +kernel
theorem dX2_takeUpAll_22 : decode cX2_takeUpAll 22 = .ok (.invokevirtual 162, 3) := by decide +kernel
theorem dX2_takeUpAll_25 : decode cX2_takeUpAll 25 = .ok (.ifCond .eq 9, 3) := by decide +kernel
theorem dX2_takeUpAll_28 : decode cX2_takeUpAll 28 = .ok (.aload_n 0, 1) := by decide +kernel
theorem dX2_takeUpAll_29 : decode cX2_takeUpAll 29 = .ok (.iload_n 1, 1) := by decide +kernel
theorem dX2_takeUpAll_30 : decode cX2_takeUpAll 30 = .ok (.iload_n 2, 1) := by decide +kernel
theorem dX2_takeUpAll_31 : decode cX2_takeUpAll 31 = .ok (.invokevirtual 165, 3) := by decide +kernel
theorem dX2_takeUpAll_34 : decode cX2_takeUpAll 34 = .ok (.iinc 2 1, 3) := by decide +kernel
theorem dX2_takeUpAll_37 : decode cX2_takeUpAll 37 = .ok (.goto (-35), 3) := by decide +kernel
theorem dX2_takeUpAll_40 : decode cX2_takeUpAll 40 = .ok (.return_, 1) := by decide +kernel
theorem dX2_go_0 : decode cX2_go 0 = .ok (.aload_n 0, 1) := by decide +kernel
theorem dX2_go_1 : decode cX2_go 1 = .ok (.getfield 11, 3) := by decide +kernel
theorem dX2_go_4 : decode cX2_go 4 = .ok (.iload_n 1, 1) := by decide +kernel
theorem dX2_go_5 : decode cX2_go 5 = .ok (.aaload, 1) := by decide +kernel
theorem dX2_go_6 : decode cX2_go 6 = .ok (.astore_n 3, 1) := by decide +kernel
theorem dX2_go_7 : decode cX2_go 7 = .ok (.aload_n 3, 1) := by decide +kernel
theorem dX2_go_8 : decode cX2_go 8 = .ok (.dup, 1) := by decide +kernel
theorem dX2_go_9 : decode cX2_go 9 = .ok (.getfield 94, 3) := by decide +kernel
theorem dX2_go_12 : decode cX2_go 12 = .ok (.aload_n 0, 1) := by decide +kernel
theorem dX2_go_13 : decode cX2_go 13 = .ok (.iload_n 1, 1) := by decide +kernel
theorem dX2_go_14 : decode cX2_go 14 = .ok (.iload_n 2, 1) := by decide +kernel
theorem dX2_go_15 : decode cX2_go 15 = .ok (.invokevirtual 146, 3) := by decide +kernel
theorem dX2_go_18 : decode cX2_go 18 = .ok (.iadd, 1) := by decide +kernel
theorem dX2_go_19 : decode cX2_go 19 = .ok (.putfield 94, 3) := by decide +kernel
theorem dX2_go_22 : decode cX2_go 22 = .ok (.aload_n 3, 1) := by decide +kernel
theorem dX2_go_23 : decode cX2_go 23 = .ok (.iload_n 2, 1) := by decide +kernel
theorem dX2_go_24 : decode cX2_go 24 = .ok (.putfield 85, 3) := by decide +kernel
theorem dX2_go_27 : decode cX2_go 27 = .ok (.iconst 0, 1) := by decide +kernel
theorem dX2_go_28 : decode cX2_go 28 = .ok (.istore 4, 2) := by decide +kernel
theorem dX2_go_30 : decode cX2_go 30 = .ok (.aload_n 0, 1) := by decide +kernel
theorem dX2_go_31 : decode cX2_go 31 = .ok (.iload_n 1, 1) := by decide +kernel
theorem dX2_go_32 : decode cX2_go 32 = .ok (.invokevirtual 153, 3) := by decide +kernel
theorem dX2_go_35 : decode cX2_go 35 = .ok (.istore 5, 2) := by decide +kernel
theorem dX2_go_37 : decode cX2_go 37 = .ok (.iconst 0, 1) := by decide +kernel
theorem dX2_go_38 : decode cX2_go 38 = .ok (.istore 6, 2) := by decide +kernel
theorem dX2_go_40 : decode cX2_go 40 = .ok (.iload 6, 2) := by decide +kernel
theorem dX2_go_42 : decode cX2_go 42 = .ok (.aload_n 0, 1) := by decide +kernel
theorem dX2_go_43 : decode cX2_go 43 = .ok (.getfield 50, 3) := by decide +kernel
theorem dX2_go_46 : decode cX2_go 46 = .ok (.if_icmp .ge 56, 3) := by decide +kernel
theorem dX2_go_49 : decode cX2_go 49 = .ok (.iload 5, 2) := by decide +kernel
theorem dX2_go_51 : decode cX2_go 51 = .ok (.iload 6, 2) := by decide +kernel
theorem dX2_go_53 : decode cX2_go 53 = .ok (.invokestatic 116, 3) := by decide +kernel
theorem dX2_go_56 : decode cX2_go 56 = .ok (.ifCond .eq 40, 3) := by decide +kernel
theorem dX2_go_59 : decode cX2_go 59 = .ok (.aload_n 0, 1) := by decide +kernel
theorem dX2_go_60 : decode cX2_go 60 = .ok (.getfield 19, 3) := by decide +kernel
theorem dX2_go_63 : decode cX2_go 63 = .ok (.iload 6, 2) := by decide +kernel
theorem dX2_go_65 : decode cX2_go 65 = .ok (.aaload, 1) := by decide +kernel
theorem dX2_go_66 : decode cX2_go 66 = .ok (.getfield 103, 3) := by decide +kernel
theorem dX2_go_69 : decode cX2_go 69 = .ok (.iload_n 2, 1) := by decide +kernel
theorem dX2_go_70 : decode cX2_go 70 = .ok (.if_icmp .ne 26, 3) := by decide +kernel
theorem dX2_go_73 : decode cX2_go 73 = .ok (.aload_n 0, 1) := by decide +kernel
theorem dX2_go_74 : decode cX2_go 74 = .ok (.getfield 19, 3) := by decide +kernel
theorem dX2_go_77 : decode cX2_go 77 = .ok (.iload 6, 2) := by decide +kernel
theorem dX2_go_79 : decode cX2_go 79 = .ok (.aaload, 1) := by decide +kernel
theorem dX2_go_80 : decode cX2_go 80 = .ok (.iconst 2, 1) := by decide +kernel
theorem dX2_go_81 : decode cX2_go 81 = .ok (.putfield 106, 3) := by decide +kernel
theorem dX2_go_84 : decode cX2_go 84 = .ok (.iload 4, 2) := by decide +kernel
theorem dX2_go_86 : decode cX2_go 86 = .ok (.aload_n 0, 1) := by decide +kernel
theorem dX2_go_87 : decode cX2_go 87 = .ok (.iload_n 1, 1) := by decide +kernel
theorem dX2_go_88 : decode cX2_go 88 = .ok (.iload 6, 2) := by decide +kernel
theorem dX2_go_90 : decode cX2_go 90 = .ok (.invokevirtual 139, 3) := by decide +kernel
theorem dX2_go_93 : decode cX2_go 93 = .ok (.iadd, 1) := by decide +kernel
theorem dX2_go_94 : decode cX2_go 94 = .ok (.istore 4, 2) := by decide +kernel
theorem dX2_go_96 : decode cX2_go 96 = .ok (.iinc 6 1, 3) := by decide +kernel
theorem dX2_go_99 : decode cX2_go 99 = .ok (.goto (-59), 3) := by decide +kernel
theorem dX2_go_102 : decode cX2_go 102 = .ok (.aload_n 3, 1) := by decide +kernel
theorem dX2_go_103 : decode cX2_go 103 = .ok (.dup, 1) := by decide +kernel
theorem dX2_go_104 : decode cX2_go 104 = .ok (.getfield 91, 3) := by decide +kernel
theorem dX2_go_107 : decode cX2_go 107 = .ok (.iload 4, 2) := by decide +kernel
theorem dX2_go_109 : decode cX2_go 109 = .ok (.iadd, 1) := by decide +kernel
theorem dX2_go_110 : decode cX2_go 110 = .ok (.putfield 91, 3) := by decide +kernel
theorem dX2_go_113 : decode cX2_go 113 = .ok (.iload 4, 2) := by decide +kernel
theorem dX2_go_115 : decode cX2_go 115 = .ok (.ireturn, 1) := by decide +kernel
theorem dX2_turns_0 : decode cX2_turns 0 = .ok (.aload_n 0, 1) := by decide +kernel
theorem dX2_turns_1 : decode cX2_turns 1 = .ok (.iconst 2, 1) := by decide +kernel
theorem dX2_turns_2 : decode cX2_turns 2 = .ok (.invokevirtual 112, 3) := by decide +kernel
theorem dX2_turns_5 : decode cX2_turns 5 = .ok (.invokestatic 169, 3) := by decide +kernel
theorem dX2_turns_8 : decode cX2_turns 8 = .ok (.istore_n 2, 1) := by decide +kernel
theorem dX2_turns_9 : decode cX2_turns 9 = .ok (.iconst 0, 1) := by decide +kernel
theorem dX2_turns_10 : decode cX2_turns 10 = .ok (.istore_n 3, 1) := by decide +kernel
theorem dX2_turns_11 : decode cX2_turns 11 = .ok (.iload_n 3, 1) := by decide +kernel
theorem dX2_turns_12 : decode cX2_turns 12 = .ok (.iload_n 1, 1) := by decide +kernel
theorem dX2_turns_13 : decode cX2_turns 13 = .ok (.if_icmp .ge 13, 3) := by decide +kernel
theorem dX2_turns_16 : decode cX2_turns 16 = .ok (.aload_n 0, 1) := by decide +kernel
theorem dX2_turns_17 : decode cX2_turns 17 = .ok (.invokevirtual 174, 3) := by decide +kernel
theorem dX2_turns_20 : decode cX2_turns 20 = .ok (.iinc 3 1, 3) := by decide +kernel
theorem dX2_turns_23 : decode cX2_turns 23 = .ok (.goto (-12), 3) := by decide +kernel
theorem dX2_turns_26 : decode cX2_turns 26 = .ok (.aload_n 0, 1) := by decide +kernel
theorem dX2_turns_27 : decode cX2_turns 27 = .ok (.iconst 2, 1) := by decide +kernel
theorem dX2_turns_28 : decode cX2_turns 28 = .ok (.invokevirtual 112, 3) := by decide +kernel
theorem dX2_turns_31 : decode cX2_turns 31 = .ok (.invokestatic 169, 3) := by decide +kernel
theorem dX2_turns_34 : decode cX2_turns 34 = .ok (.iload_n 2, 1) := by decide +kernel
theorem dX2_turns_35 : decode cX2_turns 35 = .ok (.isub, 1) := by decide +kernel
theorem dX2_turns_36 : decode cX2_turns 36 = .ok (.ireturn, 1) := by decide +kernel
theorem dX2_turn_0 : decode cX2_turn 0 = .ok (.aload_n 0, 1) := by decide +kernel
theorem dX2_turn_1 : decode cX2_turn 1 = .ok (.getfield 47, 3) := by decide +kernel
theorem dX2_turn_4 : decode cX2_turn 4 = .ok (.ifCond .ne 4, 3) := by decide +kernel
theorem dX2_turn_7 : decode cX2_turn 7 = .ok (.return_, 1) := by decide +kernel
theorem dX2_turn_8 : decode cX2_turn 8 = .ok (.aload_n 0, 1) := by decide +kernel
theorem dX2_turn_9 : decode cX2_turn 9 = .ok (.invokevirtual 177, 3) := by decide +kernel
theorem dX2_turn_12 : decode cX2_turn 12 = .ok (.aload_n 0, 1) := by decide +kernel
theorem dX2_turn_13 : decode cX2_turn 13 = .ok (.getfield 47, 3) := by decide +kernel
theorem dX2_turn_16 : decode cX2_turn 16 = .ok (.irem, 1) := by decide +kernel
theorem dX2_turn_17 : decode cX2_turn 17 = .ok (.istore_n 1, 1) := by decide +kernel
theorem dX2_turn_18 : decode cX2_turn 18 = .ok (.aload_n 0, 1) := by decide +kernel
theorem dX2_turn_19 : decode cX2_turn 19 = .ok (.iload_n 1, 1) := by decide +kernel
theorem dX2_turn_20 : decode cX2_turn 20 = .ok (.invokevirtual 180, 3) := by decide +kernel
theorem dX2_turn_23 : decode cX2_turn 23 = .ok (.aload_n 0, 1) := by decide +kernel
theorem dX2_turn_24 : decode cX2_turn 24 = .ok (.invokevirtual 177, 3) := by decide +kernel
theorem dX2_turn_27 : decode cX2_turn 27 = .ok (.bipush 7, 2) := by decide +kernel
theorem dX2_turn_29 : decode cX2_turn 29 = .ok (.irem, 1) := by decide +kernel
theorem dX2_turn_30 : decode cX2_turn 30 = .ok (.istore_n 2, 1) := by decide +kernel
theorem dX2_turn_31 : decode cX2_turn 31 = .ok (.aload_n 0, 1) := by decide +kernel
theorem dX2_turn_32 : decode cX2_turn 32 = .ok (.iload_n 1, 1) := by decide +kernel
theorem dX2_turn_33 : decode cX2_turn 33 = .ok (.iload_n 2, 1) := by decide +kernel
theorem dX2_turn_34 : decode cX2_turn 34 = .ok (.invokevirtual 146, 3) := by decide +kernel
theorem dX2_turn_37 : decode cX2_turn 37 = .ok (.ldc 132, 2) := by decide +kernel
theorem dX2_turn_39 : decode cX2_turn 39 = .ok (.if_icmp .ge 10, 3) := by decide +kernel
theorem dX2_turn_42 : decode cX2_turn 42 = .ok (.aload_n 0, 1) := by decide +kernel
theorem dX2_turn_43 : decode cX2_turn 43 = .ok (.iload_n 1, 1) := by decide +kernel
theorem dX2_turn_44 : decode cX2_turn 44 = .ok (.iload_n 2, 1) := by decide +kernel
theorem dX2_turn_45 : decode cX2_turn 45 = .ok (.invokevirtual 184, 3) := by decide +kernel
theorem dX2_turn_48 : decode cX2_turn 48 = .ok (.pop, 1) := by decide +kernel
theorem dX2_turn_49 : decode cX2_turn 49 = .ok (.return_, 1) := by decide +kernel
theorem dX2_draw_0 : decode cX2_draw 0 = .ok (.aload_n 0, 1) := by decide +kernel
theorem dX2_draw_1 : decode cX2_draw 1 = .ok (.aload_n 0, 1) := by decide +kernel
theorem dX2_draw_2 : decode cX2_draw 2 = .ok (.getfield 40, 3) := by decide +kernel
theorem dX2_draw_5 : decode cX2_draw 5 = .ok (.ldc 187, 2) := by decide +kernel
theorem dX2_draw_7 : decode cX2_draw 7 = .ok (.imul, 1) := by decide +kernel
theorem dX2_draw_8 : decode cX2_draw 8 = .ok (.sipush 12345, 3) := by decide +kernel
theorem dX2_draw_11 : decode cX2_draw 11 = .ok (.iadd, 1) := by decide +kernel
theorem dX2_draw_12 : decode cX2_draw 12 = .ok (.putfield 40, 3) := by decide +kernel
theorem dX2_draw_15 : decode cX2_draw 15 = .ok (.aload_n 0, 1) := by decide +kernel
theorem dX2_draw_16 : decode cX2_draw 16 = .ok (.getfield 40, 3) := by decide +kernel
theorem dX2_draw_19 : decode cX2_draw 19 = .ok (.bipush 8, 2) := by decide +kernel
theorem dX2_draw_21 : decode cX2_draw 21 = .ok (.iushr, 1) := by decide +kernel
theorem dX2_draw_22 : decode cX2_draw 22 = .ok (.ireturn, 1) := by decide +kernel
theorem dX3_isUnder_0 : decode cX3_isUnder 0 = .ok (.iload_n 0, 1) := by decide +kernel
theorem dX3_isUnder_1 : decode cX3_isUnder 1 = .ok (.istore_n 2, 1) := by decide +kernel
theorem dX3_isUnder_2 : decode cX3_isUnder 2 = .ok (.iconst 0, 1) := by decide +kernel
theorem dX3_isUnder_3 : decode cX3_isUnder 3 = .ok (.istore_n 3, 1) := by decide +kernel
theorem dX3_isUnder_4 : decode cX3_isUnder 4 = .ok (.iload_n 3, 1) := by decide +kernel
theorem dX3_isUnder_5 : decode cX3_isUnder 5 = .ok (.bipush 6, 2) := by decide +kernel
theorem dX3_isUnder_7 : decode cX3_isUnder 7 = .ok (.if_icmp .gt 32, 3) := by decide +kernel
theorem dX3_isUnder_10 : decode cX3_isUnder 10 = .ok (.iload_n 2, 1) := by decide +kernel
theorem dX3_isUnder_11 : decode cX3_isUnder 11 = .ok (.ifCond .lt 28, 3) := by decide +kernel
theorem dX3_isUnder_14 : decode cX3_isUnder 14 = .ok (.iload_n 2, 1) := by decide +kernel
theorem dX3_isUnder_15 : decode cX3_isUnder 15 = .ok (.bipush 6, 2) := by decide +kernel
theorem dX3_isUnder_17 : decode cX3_isUnder 17 = .ok (.if_icmp .gt 22, 3) := by decide +kernel
theorem dX3_isUnder_20 : decode cX3_isUnder 20 = .ok (.iload_n 2, 1) := by decide +kernel
theorem dX3_isUnder_21 : decode cX3_isUnder 21 = .ok (.iload_n 1, 1) := by decide +kernel
theorem dX3_isUnder_22 : decode cX3_isUnder 22 = .ok (.if_icmp .ne 5, 3) := by decide +kernel
theorem dX3_isUnder_25 : decode cX3_isUnder 25 = .ok (.iconst 1, 1) := by decide +kernel
theorem dX3_isUnder_26 : decode cX3_isUnder 26 = .ok (.ireturn, 1) := by decide +kernel
theorem dX3_isUnder_27 : decode cX3_isUnder 27 = .ok (.getstatic 9, 3) := by decide +kernel
theorem dX3_isUnder_30 : decode cX3_isUnder 30 = .ok (.iload_n 2, 1) := by decide +kernel
theorem dX3_isUnder_31 : decode cX3_isUnder 31 = .ok (.iaload, 1) := by decide +kernel
theorem dX3_isUnder_32 : decode cX3_isUnder 32 = .ok (.istore_n 2, 1) := by decide +kernel
theorem dX3_isUnder_33 : decode cX3_isUnder 33 = .ok (.iinc 3 1, 3) := by decide +kernel
theorem dX3_isUnder_36 : decode cX3_isUnder 36 = .ok (.goto (-32), 3) := by decide +kernel
theorem dX3_isUnder_39 : decode cX3_isUnder 39 = .ok (.iconst 0, 1) := by decide +kernel
theorem dX3_isUnder_40 : decode cX3_isUnder 40 = .ok (.ireturn, 1) := by decide +kernel
theorem dX3_canBear_0 : decode cX3_canBear 0 = .ok (.iload_n 0, 1) := by decide +kernel
theorem dX3_canBear_1 : decode cX3_canBear 1 = .ok (.tableswitch 39 1 4 #[31, 35, 31, 35], 31) := by decide +kernel
theorem dX3_canBear_32 : decode cX3_canBear 32 = .ok (.iload_n 1, 1) := by decide +kernel
theorem dX3_canBear_33 : decode cX3_canBear 33 = .ok (.iconst 2, 1) := by decide +kernel
theorem dX3_canBear_34 : decode cX3_canBear 34 = .ok (.idiv, 1) := by decide +kernel
theorem dX3_canBear_35 : decode cX3_canBear 35 = .ok (.ireturn, 1) := by decide +kernel
theorem dX3_canBear_36 : decode cX3_canBear 36 = .ok (.iconst 2, 1) := by decide +kernel
theorem dX3_canBear_37 : decode cX3_canBear 37 = .ok (.iload_n 1, 1) := by decide +kernel
theorem dX3_canBear_38 : decode cX3_canBear 38 = .ok (.imul, 1) := by decide +kernel
theorem dX3_canBear_39 : decode cX3_canBear 39 = .ok (.ireturn, 1) := by decide +kernel
theorem dX3_canBear_40 : decode cX3_canBear 40 = .ok (.iload_n 1, 1) := by decide +kernel
theorem dX3_canBear_41 : decode cX3_canBear 41 = .ok (.ireturn, 1) := by decide +kernel
theorem dX3_yardsAt_0 : decode cX3_yardsAt 0 = .ok (.iload_n 2, 1) := by decide +kernel
theorem dX3_yardsAt_1 : decode cX3_yardsAt 1 = .ok (.ifCond .eq 8, 3) := by decide +kernel
theorem dX3_yardsAt_4 : decode cX3_yardsAt 4 = .ok (.iload_n 0, 1) := by decide +kernel
theorem dX3_yardsAt_5 : decode cX3_yardsAt 5 = .ok (.iconst 1, 1) := by decide +kernel
theorem dX3_yardsAt_6 : decode cX3_yardsAt 6 = .ok (.if_icmp .ne 5, 3) := by decide +kernel
theorem dX3_yardsAt_9 : decode cX3_yardsAt 9 = .ok (.iload_n 1, 1) := by decide +kernel
theorem dX3_yardsAt_10 : decode cX3_yardsAt 10 = .ok (.ireturn, 1) := by decide +kernel
theorem dX3_yardsAt_11 : decode cX3_yardsAt 11 = .ok (.iload_n 0, 1) := by decide +kernel
theorem dX3_yardsAt_12 : decode cX3_yardsAt 12 = .ok (.iconst 2, 1) := by decide +kernel
theorem dX3_yardsAt_13 : decode cX3_yardsAt 13 = .ok (.if_icmp .ne 13, 3) := by decide +kernel
theorem dX3_yardsAt_16 : decode cX3_yardsAt 16 = .ok (.iconst 1, 1) := by decide +kernel
theorem dX3_yardsAt_17 : decode cX3_yardsAt 17 = .ok (.iload_n 1, 1) := by decide +kernel
theorem dX3_yardsAt_18 : decode cX3_yardsAt 18 = .ok (.iconst 2, 1) := by decide +kernel
theorem dX3_yardsAt_19 : decode cX3_yardsAt 19 = .ok (.idiv, 1) := by decide +kernel
theorem dX3_yardsAt_20 : decode cX3_yardsAt 20 = .ok (.invokestatic 13, 3) := by decide +kernel
theorem dX3_yardsAt_23 : decode cX3_yardsAt 23 = .ok (.goto 6, 3) := by decide +kernel
theorem dX3_yardsAt_26 : decode cX3_yardsAt 26 = .ok (.iconst 2, 1) := by decide +kernel
theorem dX3_yardsAt_27 : decode cX3_yardsAt 27 = .ok (.iload_n 1, 1) := by decide +kernel
theorem dX3_yardsAt_28 : decode cX3_yardsAt 28 = .ok (.imul, 1) := by decide +kernel
theorem dX3_yardsAt_29 : decode cX3_yardsAt 29 = .ok (.ireturn, 1) := by decide +kernel
theorem dX3_payFor_0 : decode cX3_payFor 0 = .ok (.iload_n 0, 1) := by decide +kernel
theorem dX3_payFor_1 : decode cX3_payFor 1 = .ok (.tableswitch 44 2 4 #[27, 37, 31], 27) := by decide +kernel
theorem dX3_payFor_28 : decode cX3_payFor 28 = .ok (.iload_n 1, 1) := by decide +kernel
theorem dX3_payFor_29 : decode cX3_payFor 29 = .ok (.iconst 2, 1) := by decide +kernel
theorem dX3_payFor_30 : decode cX3_payFor 30 = .ok (.idiv, 1) := by decide +kernel
theorem dX3_payFor_31 : decode cX3_payFor 31 = .ok (.ireturn, 1) := by decide +kernel
theorem dX3_payFor_32 : decode cX3_payFor 32 = .ok (.iload_n 1, 1) := by decide +kernel
theorem dX3_payFor_33 : decode cX3_payFor 33 = .ok (.iconst 2, 1) := by decide +kernel
theorem dX3_payFor_34 : decode cX3_payFor 34 = .ok (.idiv, 1) := by decide +kernel
theorem dX3_payFor_35 : decode cX3_payFor 35 = .ok (.iconst 1, 1) := by decide +kernel
theorem dX3_payFor_36 : decode cX3_payFor 36 = .ok (.iadd, 1) := by decide +kernel
theorem dX3_payFor_37 : decode cX3_payFor 37 = .ok (.ireturn, 1) := by decide +kernel
theorem dX3_payFor_38 : decode cX3_payFor 38 = .ok (.iload_n 1, 1) := by decide +kernel
theorem dX3_payFor_39 : decode cX3_payFor 39 = .ok (.iload_n 1, 1) := by decide +kernel
theorem dX3_payFor_40 : decode cX3_payFor 40 = .ok (.bipush 10, 2) := by decide +kernel
theorem dX3_payFor_42 : decode cX3_payFor 42 = .ok (.idiv, 1) := by decide +kernel
theorem dX3_payFor_43 : decode cX3_payFor 43 = .ok (.iadd, 1) := by decide +kernel
theorem dX3_payFor_44 : decode cX3_payFor 44 = .ok (.ireturn, 1) := by decide +kernel
theorem dX3_payFor_45 : decode cX3_payFor 45 = .ok (.iload_n 1, 1) := by decide +kernel
theorem dX3_payFor_46 : decode cX3_payFor 46 = .ok (.ireturn, 1) := by decide +kernel
theorem dX4_init_0 : decode cX4_init 0 = .ok (.aload_n 0, 1) := by decide +kernel
theorem dX4_init_1 : decode cX4_init 1 = .ok (.invokespecial 3, 3) := by decide +kernel
theorem dX4_init_4 : decode cX4_init 4 = .ok (.aload_n 0, 1) := by decide +kernel
theorem dX4_init_5 : decode cX4_init 5 = .ok (.iconst 5, 1) := by decide +kernel
theorem dX4_init_6 : decode cX4_init 6 = .ok (.newarray .int, 2) := by decide +kernel
theorem dX4_init_8 : decode cX4_init 8 = .ok (.putfield 9, 3) := by decide +kernel
theorem dX4_init_11 : decode cX4_init 11 = .ok (.aload_n 0, 1) := by decide +kernel
theorem dX4_init_12 : decode cX4_init 12 = .ok (.iconst 5, 1) := by decide +kernel
theorem dX4_init_13 : decode cX4_init 13 = .ok (.newarray .int, 2) := by decide +kernel
theorem dX4_init_15 : decode cX4_init 15 = .ok (.putfield 15, 3) := by decide +kernel
theorem dX4_init_18 : decode cX4_init 18 = .ok (.aload_n 0, 1) := by decide +kernel
theorem dX4_init_19 : decode cX4_init 19 = .ok (.iconst 5, 1) := by decide +kernel
theorem dX4_init_20 : decode cX4_init 20 = .ok (.newarray .int, 2) := by decide +kernel
theorem dX4_init_22 : decode cX4_init 22 = .ok (.putfield 18, 3) := by decide +kernel
theorem dX4_init_25 : decode cX4_init 25 = .ok (.aload_n 0, 1) := by decide +kernel
theorem dX4_init_26 : decode cX4_init 26 = .ok (.iconst 5, 1) := by decide +kernel
theorem dX4_init_27 : decode cX4_init 27 = .ok (.newarray .int, 2) := by decide +kernel
theorem dX4_init_29 : decode cX4_init 29 = .ok (.putfield 21, 3) := by decide +kernel
theorem dX4_init_32 : decode cX4_init 32 = .ok (.aload_n 0, 1) := by decide +kernel
theorem dX4_init_33 : decode cX4_init 33 = .ok (.sipush 1701, 3) := by decide +kernel
theorem dX4_init_36 : decode cX4_init 36 = .ok (.newarray .int, 2) := by decide +kernel
theorem dX4_init_38 : decode cX4_init 38 = .ok (.putfield 24, 3) := by decide +kernel
theorem dX4_init_41 : decode cX4_init 41 = .ok (.return_, 1) := by decide +kernel
theorem dX4_find_0 : decode cX4_find 0 = .ok (.aload_n 0, 1) := by decide +kernel
theorem dX4_find_1 : decode cX4_find 1 = .ok (.aload_n 1, 1) := by decide +kernel
theorem dX4_find_2 : decode cX4_find 2 = .ok (.iload 4, 2) := by decide +kernel
theorem dX4_find_4 : decode cX4_find 4 = .ok (.invokevirtual 27, 3) := by decide +kernel
theorem dX4_find_7 : decode cX4_find 7 = .ok (.getstatic 31, 3) := by decide +kernel
theorem dX4_find_10 : decode cX4_find 10 = .ok (.aload_n 0, 1) := by decide +kernel
theorem dX4_find_11 : decode cX4_find 11 = .ok (.getfield 34, 3) := by decide +kernel
theorem dX4_find_14 : decode cX4_find 14 = .ok (.iaload, 1) := by decide +kernel
theorem dX4_find_15 : decode cX4_find 15 = .ok (.istore 5, 2) := by decide +kernel
theorem dX4_find_17 : decode cX4_find 17 = .ok (.iconst 0, 1) := by decide +kernel
theorem dX4_find_18 : decode cX4_find 18 = .ok (.istore 6, 2) := by decide +kernel
theorem dX4_find_20 : decode cX4_find 20 = .ok (.iload 6, 2) := by decide +kernel
theorem dX4_find_22 : decode cX4_find 22 = .ok (.iload 5, 2) := by decide +kernel
theorem dX4_find_24 : decode cX4_find 24 = .ok (.bipush 7, 2) := by decide +kernel
theorem dX4_find_26 : decode cX4_find 26 = .ok (.imul, 1) := by decide +kernel
theorem dX4_find_27 : decode cX4_find 27 = .ok (.if_icmp .ge 18, 3) := by decide +kernel
theorem dX4_find_30 : decode cX4_find 30 = .ok (.aload_n 0, 1) := by decide +kernel
theorem dX4_find_31 : decode cX4_find 31 = .ok (.getfield 24, 3) := by decide +kernel
theorem dX4_find_34 : decode cX4_find 34 = .ok (.iload 6, 2) := by decide +kernel
theorem dX4_find_36 : decode cX4_find 36 = .ok (.ldc 38, 2) := by decide +kernel
theorem dX4_find_38 : decode cX4_find 38 = .ok (.iastore, 1) := by decide +kernel
theorem dX4_find_39 : decode cX4_find 39 = .ok (.iinc 6 1, 3) := by decide +kernel
theorem dX4_find_42 : decode cX4_find 42 = .ok (.goto (-22), 3) := by decide +kernel
theorem dX4_find_45 : decode cX4_find 45 = .ok (.aload_n 1, 1) := by decide +kernel
theorem dX4_find_46 : decode cX4_find 46 = .ok (.getfield 39, 3) := by decide +kernel
theorem dX4_find_49 : decode cX4_find 49 = .ok (.iload_n 2, 1) := by decide +kernel
theorem dX4_find_50 : decode cX4_find 50 = .ok (.aaload, 1) := by decide +kernel
theorem dX4_find_51 : decode cX4_find 51 = .ok (.astore 6, 2) := by decide +kernel
theorem dX4_find_53 : decode cX4_find 53 = .ok (.aload_n 0, 1) := by decide +kernel
theorem dX4_find_54 : decode cX4_find 54 = .ok (.getfield 24, 3) := by decide +kernel
theorem dX4_find_57 : decode cX4_find 57 = .ok (.aload 6, 2) := by decide +kernel
theorem dX4_find_59 : decode cX4_find 59 = .ok (.getfield 45, 3) := by decide +kernel
theorem dX4_find_62 : decode cX4_find 62 = .ok (.iconst 0, 1) := by decide +kernel
theorem dX4_find_63 : decode cX4_find 63 = .ok (.iastore, 1) := by decide +kernel
theorem dX4_find_64 : decode cX4_find 64 = .ok (.iload_n 3, 1) := by decide +kernel
theorem dX4_find_65 : decode cX4_find 65 = .ok (.aload 6, 2) := by decide +kernel
theorem dX4_find_67 : decode cX4_find 67 = .ok (.getfield 50, 3) := by decide +kernel
theorem dX4_find_70 : decode cX4_find 70 = .ok (.invokestatic 53, 3) := by decide +kernel
theorem dX4_find_73 : decode cX4_find 73 = .ok (.istore 7, 2) := by decide +kernel
theorem dX4_find_75 : decode cX4_find 75 = .ok (.aload_n 1, 1) := by decide +kernel
theorem dX4_find_76 : decode cX4_find 76 = .ok (.getfield 59, 3) := by decide +kernel
theorem dX4_find_79 : decode cX4_find 79 = .ok (.iload_n 3, 1) := by decide +kernel
theorem dX4_find_80 : decode cX4_find 80 = .ok (.invokevirtual 63, 3) := by decide +kernel
theorem dX4_find_83 : decode cX4_find 83 = .ok (.astore 8, 2) := by decide +kernel
theorem dX4_find_85 : decode cX4_find 85 = .ok (.iconst 0, 1) := by decide +kernel
theorem dX4_find_86 : decode cX4_find 86 = .ok (.istore 9, 2) := by decide +kernel
theorem dX4_find_88 : decode cX4_find 88 = .ok (.iload 9, 2) := by decide +kernel
theorem dX4_find_90 : decode cX4_find 90 = .ok (.iload 5, 2) := by decide +kernel
theorem dX4_find_92 : decode cX4_find 92 = .ok (.if_icmp .ge 19, 3) := by decide +kernel
theorem dX4_find_95 : decode cX4_find 95 = .ok (.aload_n 0, 1) := by decide +kernel
theorem dX4_find_96 : decode cX4_find 96 = .ok (.iload 9, 2) := by decide +kernel
theorem dX4_find_98 : decode cX4_find 98 = .ok (.iload 7, 2) := by decide +kernel
theorem dX4_find_100 : decode cX4_find 100 = .ok (.aload 8, 2) := by decide +kernel
theorem dX4_find_102 : decode cX4_find 102 = .ok (.invokevirtual 69, 3) := by decide +kernel
theorem dX4_find_105 : decode cX4_find 105 = .ok (.iinc 9 1, 3) := by decide +kernel
theorem dX4_find_108 : decode cX4_find 108 = .ok (.goto (-20), 3) := by decide +kernel
theorem dX4_find_111 : decode cX4_find 111 = .ok (.return_, 1) := by decide +kernel
theorem dX4_yardsOfPart_0 : decode cX4_yardsOfPart 0 = .ok (.iconst 0, 1) := by decide +kernel
theorem dX4_yardsOfPart_1 : decode cX4_yardsOfPart 1 = .ok (.istore_n 2, 1) := by decide +kernel
theorem dX4_yardsOfPart_2 : decode cX4_yardsOfPart 2 = .ok (.iconst 0, 1) := by decide +kernel
theorem dX4_yardsOfPart_3 : decode cX4_yardsOfPart 3 = .ok (.istore_n 3, 1) := by decide +kernel
theorem dX4_yardsOfPart_4 : decode cX4_yardsOfPart 4 = .ok (.iload_n 3, 1) := by decide +kernel
theorem dX4_yardsOfPart_5 : decode cX4_yardsOfPart 5 = .ok (.aload_n 0, 1) := by decide +kernel
theorem dX4_yardsOfPart_6 : decode cX4_yardsOfPart 6 = .ok (.getfield 34, 3) := by decide +kernel
theorem dX4_yardsOfPart_9 : decode cX4_yardsOfPart 9 = .ok (.if_icmp .ge 32, 3) := by decide +kernel
theorem dX4_yardsOfPart_12 : decode cX4_yardsOfPart 12 = .ok (.iload_n 1, 1) := by decide +kernel
theorem dX4_yardsOfPart_13 : decode cX4_yardsOfPart 13 = .ok (.aload_n 0, 1) := by decide +kernel
theorem dX4_yardsOfPart_14 : decode cX4_yardsOfPart 14 = .ok (.getfield 9, 3) := by decide +kernel
theorem dX4_yardsOfPart_17 : decode cX4_yardsOfPart 17 = .ok (.iload_n 3, 1) := by decide +kernel
theorem dX4_yardsOfPart_18 : decode cX4_yardsOfPart 18 = .ok (.iaload, 1) := by decide +kernel
theorem dX4_yardsOfPart_19 : decode cX4_yardsOfPart 19 = .ok (.invokestatic 73, 3) := by decide +kernel
theorem dX4_yardsOfPart_22 : decode cX4_yardsOfPart 22 = .ok (.ifCond .eq 13, 3) := by decide +kernel
theorem dX4_yardsOfPart_25 : decode cX4_yardsOfPart 25 = .ok (.iload_n 2, 1) := by decide +kernel
theorem dX4_yardsOfPart_26 : decode cX4_yardsOfPart 26 = .ok (.iconst 2, 1) := by decide +kernel
theorem dX4_yardsOfPart_27 : decode cX4_yardsOfPart 27 = .ok (.getstatic 31, 3) := by decide +kernel
theorem dX4_yardsOfPart_30 : decode cX4_yardsOfPart 30 = .ok (.iload_n 3, 1) := by decide +kernel
theorem dX4_yardsOfPart_31 : decode cX4_yardsOfPart 31 = .ok (.iaload, 1) := by decide +kernel
theorem dX4_yardsOfPart_32 : decode cX4_yardsOfPart 32 = .ok (.imul, 1) := by decide +kernel
theorem dX4_yardsOfPart_33 : decode cX4_yardsOfPart 33 = .ok (.iadd, 1) := by decide +kernel
theorem dX4_yardsOfPart_34 : decode cX4_yardsOfPart 34 = .ok (.istore_n 2, 1) := by decide +kernel
theorem dX4_yardsOfPart_35 : decode cX4_yardsOfPart 35 = .ok (.iinc 3 1, 3) := by decide +kernel
theorem dX4_yardsOfPart_38 : decode cX4_yardsOfPart 38 = .ok (.goto (-34), 3) := by decide +kernel
theorem dX4_yardsOfPart_41 : decode cX4_yardsOfPart 41 = .ok (.ldc 38, 2) := by decide +kernel
theorem dX4_yardsOfPart_43 : decode cX4_yardsOfPart 43 = .ok (.istore_n 3, 1) := by decide +kernel
theorem dX4_yardsOfPart_44 : decode cX4_yardsOfPart 44 = .ok (.iconst 0, 1) := by decide +kernel
theorem dX4_yardsOfPart_45 : decode cX4_yardsOfPart 45 = .ok (.istore 4, 2) := by decide +kernel
theorem dX4_yardsOfPart_47 : decode cX4_yardsOfPart 47 = .ok (.iload 4, 2) := by decide +kernel
theorem dX4_yardsOfPart_49 : decode cX4_yardsOfPart 49 = .ok (.bipush 7, 2) := by decide +kernel
theorem dX4_yardsOfPart_51 : decode cX4_yardsOfPart 51 = .ok (.if_icmp .ge 26, 3) := by decide +kernel
theorem dX4_yardsOfPart_54 : decode cX4_yardsOfPart 54 = .ok (.iload_n 3, 1) := by decide +kernel
theorem dX4_yardsOfPart_55 : decode cX4_yardsOfPart 55 = .ok (.aload_n 0, 1) := by decide +kernel
theorem dX4_yardsOfPart_56 : decode cX4_yardsOfPart 56 = .ok (.getfield 24, 3) := by decide +kernel
theorem dX4_yardsOfPart_59 : decode cX4_yardsOfPart 59 = .ok (.iload_n 2, 1) := by decide +kernel
theorem dX4_yardsOfPart_60 : decode cX4_yardsOfPart 60 = .ok (.bipush 7, 2) := by decide +kernel
theorem dX4_yardsOfPart_62 : decode cX4_yardsOfPart 62 = .ok (.imul, 1) := by decide +kernel
theorem dX4_yardsOfPart_63 : decode cX4_yardsOfPart 63 = .ok (.iload 4, 2) := by decide +kernel
theorem dX4_yardsOfPart_65 : decode cX4_yardsOfPart 65 = .ok (.iadd, 1) := by decide +kernel
theorem dX4_yardsOfPart_66 : decode cX4_yardsOfPart 66 = .ok (.iaload, 1) := by decide +kernel
theorem dX4_yardsOfPart_67 : decode cX4_yardsOfPart 67 = .ok (.invokestatic 77, 3) := by decide +kernel
theorem dX4_yardsOfPart_70 : decode cX4_yardsOfPart 70 = .ok (.istore_n 3, 1) := by decide +kernel
theorem dX4_yardsOfPart_71 : decode cX4_yardsOfPart 71 = .ok (.iinc 4 1, 3) := by decide +kernel
theorem dX4_yardsOfPart_74 : decode cX4_yardsOfPart 74 = .ok (.goto (-27), 3) := by decide +kernel
theorem dX4_yardsOfPart_77 : decode cX4_yardsOfPart 77 = .ok (.iload_n 3, 1) := by decide +kernel
theorem dX4_yardsOfPart_78 : decode cX4_yardsOfPart 78 = .ok (.ireturn, 1) := by decide +kernel
theorem dX4_gather_0 : decode cX4_gather 0 = .ok (.aload_n 0, 1) := by decide +kernel
theorem dX4_gather_1 : decode cX4_gather 1 = .ok (.iconst 0, 1) := by decide +kernel
theorem dX4_gather_2 : decode cX4_gather 2 = .ok (.putfield 34, 3) := by decide +kernel
theorem dX4_gather_5 : decode cX4_gather 5 = .ok (.iconst 0, 1) := by decide +kernel
theorem dX4_gather_6 : decode cX4_gather 6 = .ok (.istore_n 3, 1) := by decide +kernel
theorem dX4_gather_7 : decode cX4_gather 7 = .ok (.iload_n 3, 1) := by decide +kernel
theorem dX4_gather_8 : decode cX4_gather 8 = .ok (.aload_n 1, 1) := by decide +kernel
theorem dX4_gather_9 : decode cX4_gather 9 = .ok (.getfield 82, 3) := by decide +kernel
theorem dX4_gather_12 : decode cX4_gather 12 = .ok (.if_icmp .ge 99, 3) := by decide +kernel
theorem dX4_gather_15 : decode cX4_gather 15 = .ok (.iload_n 2, 1) := by decide +kernel
theorem dX4_gather_16 : decode cX4_gather 16 = .ok (.iload_n 3, 1) := by decide +kernel
theorem dX4_gather_17 : decode cX4_gather 17 = .ok (.invokestatic 73, 3) := by decide +kernel
theorem dX4_gather_20 : decode cX4_gather 20 = .ok (.ifCond .eq 85, 3) := by decide +kernel
theorem dX4_gather_23 : decode cX4_gather 23 = .ok (.aload_n 0, 1) := by decide +kernel
theorem dX4_gather_24 : decode cX4_gather 24 = .ok (.getfield 34, 3) := by decide +kernel
theorem dX4_gather_27 : decode cX4_gather 27 = .ok (.iconst 5, 1) := by decide +kernel
theorem dX4_gather_28 : decode cX4_gather 28 = .ok (.if_icmp .ge 77, 3) := by decide +kernel
theorem dX4_gather_31 : decode cX4_gather 31 = .ok (.aload_n 0, 1) := by decide +kernel
theorem dX4_gather_32 : decode cX4_gather 32 = .ok (.getfield 9, 3) := by decide +kernel
theorem dX4_gather_35 : decode cX4_gather 35 = .ok (.aload_n 0, 1) := by decide +kernel
theorem dX4_gather_36 : decode cX4_gather 36 = .ok (.getfield 34, 3) := by decide +kernel
theorem dX4_gather_39 : decode cX4_gather 39 = .ok (.iload_n 3, 1) := by decide +kernel
theorem dX4_gather_40 : decode cX4_gather 40 = .ok (.iastore, 1) := by decide +kernel
theorem dX4_gather_41 : decode cX4_gather 41 = .ok (.aload_n 0, 1) := by decide +kernel
theorem dX4_gather_42 : decode cX4_gather 42 = .ok (.getfield 15, 3) := by decide +kernel
theorem dX4_gather_45 : decode cX4_gather 45 = .ok (.aload_n 0, 1) := by decide +kernel
theorem dX4_gather_46 : decode cX4_gather 46 = .ok (.getfield 34, 3) := by decide +kernel
theorem dX4_gather_49 : decode cX4_gather 49 = .ok (.aload_n 1, 1) := by decide +kernel
theorem dX4_gather_50 : decode cX4_gather 50 = .ok (.getfield 85, 3) := by decide +kernel
theorem dX4_gather_53 : decode cX4_gather 53 = .ok (.iload_n 3, 1) := by decide +kernel
theorem dX4_gather_54 : decode cX4_gather 54 = .ok (.aaload, 1) := by decide +kernel
theorem dX4_gather_55 : decode cX4_gather 55 = .ok (.getfield 89, 3) := by decide +kernel
theorem dX4_gather_58 : decode cX4_gather 58 = .ok (.iastore, 1) := by decide +kernel
theorem dX4_gather_59 : decode cX4_gather 59 = .ok (.aload_n 0, 1) := by decide +kernel
theorem dX4_gather_60 : decode cX4_gather 60 = .ok (.getfield 18, 3) := by decide +kernel
theorem dX4_gather_63 : decode cX4_gather 63 = .ok (.aload_n 0, 1) := by decide +kernel
theorem dX4_gather_64 : decode cX4_gather 64 = .ok (.getfield 34, 3) := by decide +kernel
theorem dX4_gather_67 : decode cX4_gather 67 = .ok (.aload_n 1, 1) := by decide +kernel
theorem dX4_gather_68 : decode cX4_gather 68 = .ok (.getfield 85, 3) := by decide +kernel
theorem dX4_gather_71 : decode cX4_gather 71 = .ok (.iload_n 3, 1) := by decide +kernel
theorem dX4_gather_72 : decode cX4_gather 72 = .ok (.aaload, 1) := by decide +kernel
theorem dX4_gather_73 : decode cX4_gather 73 = .ok (.getfield 93, 3) := by decide +kernel
theorem dX4_gather_76 : decode cX4_gather 76 = .ok (.iastore, 1) := by decide +kernel
theorem dX4_gather_77 : decode cX4_gather 77 = .ok (.aload_n 0, 1) := by decide +kernel
theorem dX4_gather_78 : decode cX4_gather 78 = .ok (.getfield 21, 3) := by decide +kernel
theorem dX4_gather_81 : decode cX4_gather 81 = .ok (.aload_n 0, 1) := by decide +kernel
theorem dX4_gather_82 : decode cX4_gather 82 = .ok (.getfield 34, 3) := by decide +kernel
theorem dX4_gather_85 : decode cX4_gather 85 = .ok (.aload_n 1, 1) := by decide +kernel
theorem dX4_gather_86 : decode cX4_gather 86 = .ok (.getfield 85, 3) := by decide +kernel
theorem dX4_gather_89 : decode cX4_gather 89 = .ok (.iload_n 3, 1) := by decide +kernel
theorem dX4_gather_90 : decode cX4_gather 90 = .ok (.aaload, 1) := by decide +kernel
theorem dX4_gather_91 : decode cX4_gather 91 = .ok (.getfield 96, 3) := by decide +kernel
theorem dX4_gather_94 : decode cX4_gather 94 = .ok (.iastore, 1) := by decide +kernel
theorem dX4_gather_95 : decode cX4_gather 95 = .ok (.aload_n 0, 1) := by decide +kernel
theorem dX4_gather_96 : decode cX4_gather 96 = .ok (.dup, 1) := by decide +kernel
theorem dX4_gather_97 : decode cX4_gather 97 = .ok (.getfield 34, 3) := by decide +kernel
theorem dX4_gather_100 : decode cX4_gather 100 = .ok (.iconst 1, 1) := by decide +kernel
theorem dX4_gather_101 : decode cX4_gather 101 = .ok (.iadd, 1) := by decide +kernel
theorem dX4_gather_102 : decode cX4_gather 102 = .ok (.putfield 34, 3) := by decide +kernel
theorem dX4_gather_105 : decode cX4_gather 105 = .ok (.iinc 3 1, 3) := by decide +kernel
theorem dX4_gather_108 : decode cX4_gather 108 = .ok (.goto (-101), 3) := by decide +kernel
theorem dX4_gather_111 : decode cX4_gather 111 = .ok (.return_, 1) := by decide +kernel
theorem dX4_howAt_0 : decode cX4_howAt 0 = .ok (.iload_n 1, 1) := by decide +kernel
theorem dX4_howAt_1 : decode cX4_howAt 1 = .ok (.getstatic 31, 3) := by decide +kernel
theorem dX4_howAt_4 : decode cX4_howAt 4 = .ok (.iload_n 2, 1) := by decide +kernel
theorem dX4_howAt_5 : decode cX4_howAt 5 = .ok (.iaload, 1) := by decide +kernel
theorem dX4_howAt_6 : decode cX4_howAt 6 = .ok (.idiv, 1) := by decide +kernel
theorem dX4_howAt_7 : decode cX4_howAt 7 = .ok (.iconst 3, 1) := by decide +kernel
theorem dX4_howAt_8 : decode cX4_howAt 8 = .ok (.irem, 1) := by decide +kernel
theorem dX4_howAt_9 : decode cX4_howAt 9 = .ok (.ireturn, 1) := by decide +kernel
theorem dX4_goOnFrom_0 : decode cX4_goOnFrom 0 = .ok (.iload_n 2, 1) := by decide +kernel
theorem dX4_goOnFrom_1 : decode cX4_goOnFrom 1 = .ok (.istore 4, 2) := by decide +kernel
theorem dX4_goOnFrom_3 : decode cX4_goOnFrom 3 = .ok (.iconst 0, 1) := by decide +kernel
theorem dX4_goOnFrom_4 : decode cX4_goOnFrom 4 = .ok (.istore 5, 2) := by decide +kernel
theorem dX4_goOnFrom_6 : decode cX4_goOnFrom 6 = .ok (.iload 5, 2) := by decide +kernel
theorem dX4_goOnFrom_8 : decode cX4_goOnFrom 8 = .ok (.aload_n 0, 1) := by decide +kernel
theorem dX4_goOnFrom_9 : decode cX4_goOnFrom 9 = .ok (.getfield 34, 3) := by decide +kernel
theorem dX4_goOnFrom_12 : decode cX4_goOnFrom 12 = .ok (.if_icmp .ge 32, 3) := by decide +kernel
theorem dX4_goOnFrom_15 : decode cX4_goOnFrom 15 = .ok (.aload_n 0, 1) := by decide +kernel
theorem dX4_goOnFrom_16 : decode cX4_goOnFrom 16 = .ok (.iload_n 1, 1) := by decide +kernel
theorem dX4_goOnFrom_17 : decode cX4_goOnFrom 17 = .ok (.iload 5, 2) := by decide +kernel
theorem dX4_goOnFrom_19 : decode cX4_goOnFrom 19 = .ok (.invokevirtual 99, 3) := by decide +kernel
theorem dX4_goOnFrom_22 : decode cX4_goOnFrom 22 = .ok (.iconst 1, 1) := by decide +kernel
theorem dX4_goOnFrom_23 : decode cX4_goOnFrom 23 = .ok (.if_icmp .ne 15, 3) := by decide +kernel
theorem dX4_goOnFrom_26 : decode cX4_goOnFrom 26 = .ok (.iload 4, 2) := by decide +kernel
theorem dX4_goOnFrom_28 : decode cX4_goOnFrom 28 = .ok (.aload_n 0, 1) := by decide +kernel
theorem dX4_goOnFrom_29 : decode cX4_goOnFrom 29 = .ok (.getfield 15, 3) := by decide +kernel
theorem dX4_goOnFrom_32 : decode cX4_goOnFrom 32 = .ok (.iload 5, 2) := by decide +kernel
theorem dX4_goOnFrom_34 : decode cX4_goOnFrom 34 = .ok (.iaload, 1) := by decide +kernel
theorem dX4_goOnFrom_35 : decode cX4_goOnFrom 35 = .ok (.isub, 1) := by decide +kernel
theorem dX4_goOnFrom_36 : decode cX4_goOnFrom 36 = .ok (.istore 4, 2) := by decide +kernel
theorem dX4_goOnFrom_38 : decode cX4_goOnFrom 38 = .ok (.iinc 5 1, 3) := by decide +kernel
theorem dX4_goOnFrom_41 : decode cX4_goOnFrom 41 = .ok (.goto (-35), 3) := by decide +kernel
theorem dX4_goOnFrom_44 : decode cX4_goOnFrom 44 = .ok (.iconst 0, 1) := by decide +kernel
theorem dX4_goOnFrom_45 : decode cX4_goOnFrom 45 = .ok (.istore 5, 2) := by decide +kernel
theorem dX4_goOnFrom_47 : decode cX4_goOnFrom 47 = .ok (.iload 5, 2) := by decide +kernel
theorem dX4_goOnFrom_49 : decode cX4_goOnFrom 49 = .ok (.aload_n 0, 1) := by decide +kernel
theorem dX4_goOnFrom_50 : decode cX4_goOnFrom 50 = .ok (.getfield 34, 3) := by decide +kernel
theorem dX4_goOnFrom_53 : decode cX4_goOnFrom 53 = .ok (.if_icmp .ge 86, 3) := by decide +kernel
theorem dX4_goOnFrom_56 : decode cX4_goOnFrom 56 = .ok (.aload_n 0, 1) := by decide +kernel
theorem dX4_goOnFrom_57 : decode cX4_goOnFrom 57 = .ok (.iload_n 1, 1) := by decide +kernel
theorem dX4_goOnFrom_58 : decode cX4_goOnFrom 58 = .ok (.iload 5, 2) := by decide +kernel
theorem dX4_goOnFrom_60 : decode cX4_goOnFrom 60 = .ok (.invokevirtual 99, 3) := by decide +kernel
theorem dX4_goOnFrom_63 : decode cX4_goOnFrom 63 = .ok (.istore 6, 2) := by decide +kernel
theorem dX4_goOnFrom_65 : decode cX4_goOnFrom 65 = .ok (.iload 6, 2) := by decide +kernel
theorem dX4_goOnFrom_67 : decode cX4_goOnFrom 67 = .ok (.ifCond .ne 39, 3) := by decide +kernel
theorem dX4_goOnFrom_70 : decode cX4_goOnFrom 70 = .ok (.aload_n 0, 1) := by decide +kernel
theorem dX4_goOnFrom_71 : decode cX4_goOnFrom 71 = .ok (.getfield 15, 3) := by decide +kernel
theorem dX4_goOnFrom_74 : decode cX4_goOnFrom 74 = .ok (.iload 5, 2) := by decide +kernel
theorem dX4_goOnFrom_76 : decode cX4_goOnFrom 76 = .ok (.iaload, 1) := by decide +kernel
theorem dX4_goOnFrom_77 : decode cX4_goOnFrom 77 = .ok (.iload 4, 2) := by decide +kernel
theorem dX4_goOnFrom_79 : decode cX4_goOnFrom 79 = .ok (.if_icmp .gt 27, 3) := by decide +kernel
theorem dX4_goOnFrom_82 : decode cX4_goOnFrom 82 = .ok (.aload_n 0, 1) := by decide +kernel
theorem dX4_goOnFrom_83 : decode cX4_goOnFrom 83 = .ok (.iload_n 1, 1) := by decide +kernel
theorem dX4_goOnFrom_84 : decode cX4_goOnFrom 84 = .ok (.iload_n 1, 1) := by decide +kernel
theorem dX4_goOnFrom_85 : decode cX4_goOnFrom 85 = .ok (.getstatic 31, 3) := by decide +kernel
theorem dX4_goOnFrom_88 : decode cX4_goOnFrom 88 = .ok (.iload 5, 2) := by decide +kernel
theorem dX4_goOnFrom_90 : decode cX4_goOnFrom 90 = .ok (.iaload, 1) := by decide +kernel
theorem dX4_goOnFrom_91 : decode cX4_goOnFrom 91 = .ok (.iadd, 1) := by decide +kernel
theorem dX4_goOnFrom_92 : decode cX4_goOnFrom 92 = .ok (.aload_n 0, 1) := by decide +kernel
theorem dX4_goOnFrom_93 : decode cX4_goOnFrom 93 = .ok (.getfield 18, 3) := by decide +kernel
theorem dX4_goOnFrom_96 : decode cX4_goOnFrom 96 = .ok (.iload 5, 2) := by decide +kernel
theorem dX4_goOnFrom_98 : decode cX4_goOnFrom 98 = .ok (.iaload, 1) := by decide +kernel
theorem dX4_goOnFrom_99 : decode cX4_goOnFrom 99 = .ok (.aload_n 3, 1) := by decide +kernel
theorem dX4_goOnFrom_100 : decode cX4_goOnFrom 100 = .ok (.invokevirtual 102, 3) := by decide +kernel
theorem dX4_goOnFrom_103 : decode cX4_goOnFrom 103 = .ok (.goto 30, 3) := by decide +kernel
theorem dX4_goOnFrom_106 : decode cX4_goOnFrom 106 = .ok (.iload 6, 2) := by decide +kernel
theorem dX4_goOnFrom_108 : decode cX4_goOnFrom 108 = .ok (.iconst 1, 1) := by decide +kernel
theorem dX4_goOnFrom_109 : decode cX4_goOnFrom 109 = .ok (.if_icmp .ne 24, 3) := by decide +kernel
theorem dX4_goOnFrom_112 : decode cX4_goOnFrom 112 = .ok (.aload_n 0, 1) := by decide +kernel
theorem dX4_goOnFrom_113 : decode cX4_goOnFrom 113 = .ok (.iload_n 1, 1) := by decide +kernel
theorem dX4_goOnFrom_114 : decode cX4_goOnFrom 114 = .ok (.iload_n 1, 1) := by decide +kernel
theorem dX4_goOnFrom_115 : decode cX4_goOnFrom 115 = .ok (.getstatic 31, 3) := by decide +kernel
theorem dX4_goOnFrom_118 : decode cX4_goOnFrom 118 = .ok (.iload 5, 2) := by decide +kernel
theorem dX4_goOnFrom_120 : decode cX4_goOnFrom 120 = .ok (.iaload, 1) := by decide +kernel
theorem dX4_goOnFrom_121 : decode cX4_goOnFrom 121 = .ok (.iadd, 1) := by decide +kernel
theorem dX4_goOnFrom_122 : decode cX4_goOnFrom 122 = .ok (.aload_n 0, 1) := by decide +kernel
theorem dX4_goOnFrom_123 : decode cX4_goOnFrom 123 = .ok (.getfield 21, 3) := by decide +kernel
theorem dX4_goOnFrom_126 : decode cX4_goOnFrom 126 = .ok (.iload 5, 2) := by decide +kernel
theorem dX4_goOnFrom_128 : decode cX4_goOnFrom 128 = .ok (.iaload, 1) := by decide +kernel
theorem dX4_goOnFrom_129 : decode cX4_goOnFrom 129 = .ok (.aload_n 3, 1) := by decide +kernel
theorem dX4_goOnFrom_130 : decode cX4_goOnFrom 130 = .ok (.invokevirtual 102, 3) := by decide +kernel
theorem dX4_goOnFrom_133 : decode cX4_goOnFrom 133 = .ok (.iinc 5 1, 3) := by decide +kernel
theorem dX4_goOnFrom_136 : decode cX4_goOnFrom 136 = .ok (.goto (-89), 3) := by decide +kernel
theorem dX4_goOnFrom_139 : decode cX4_goOnFrom 139 = .ok (.return_, 1) := by decide +kernel
theorem dX4_step_0 : decode cX4_step 0 = .ok (.aload_n 0, 1) := by decide +kernel
theorem dX4_step_1 : decode cX4_step 1 = .ok (.getfield 24, 3) := by decide +kernel
theorem dX4_step_4 : decode cX4_step 4 = .ok (.iload_n 2, 1) := by decide +kernel
theorem dX4_step_5 : decode cX4_step 5 = .ok (.bipush 7, 2) := by decide +kernel
theorem dX4_step_7 : decode cX4_step 7 = .ok (.imul, 1) := by decide +kernel
theorem dX4_step_8 : decode cX4_step 8 = .ok (.iload_n 3, 1) := by decide +kernel
theorem dX4_step_9 : decode cX4_step 9 = .ok (.iadd, 1) := by decide +kernel
theorem dX4_step_10 : decode cX4_step 10 = .ok (.iaload, 1) := by decide +kernel
theorem dX4_step_11 : decode cX4_step 11 = .ok (.istore 5, 2) := by decide +kernel
theorem dX4_step_13 : decode cX4_step 13 = .ok (.iconst 0, 1) := by decide +kernel
theorem dX4_step_14 : decode cX4_step 14 = .ok (.istore 6, 2) := by decide +kernel
theorem dX4_step_16 : decode cX4_step 16 = .ok (.iload 6, 2) := by decide +kernel
theorem dX4_step_18 : decode cX4_step 18 = .ok (.bipush 7, 2) := by decide +kernel
theorem dX4_step_20 : decode cX4_step 20 = .ok (.if_icmp .ge 50, 3) := by decide +kernel
theorem dX4_step_23 : decode cX4_step 23 = .ok (.aload_n 0, 1) := by decide +kernel
theorem dX4_step_24 : decode cX4_step 24 = .ok (.getfield 24, 3) := by decide +kernel
theorem dX4_step_27 : decode cX4_step 27 = .ok (.iload_n 1, 1) := by decide +kernel
theorem dX4_step_28 : decode cX4_step 28 = .ok (.bipush 7, 2) := by decide +kernel
theorem dX4_step_30 : decode cX4_step 30 = .ok (.imul, 1) := by decide +kernel
theorem dX4_step_31 : decode cX4_step 31 = .ok (.iload 6, 2) := by decide +kernel
theorem dX4_step_33 : decode cX4_step 33 = .ok (.iadd, 1) := by decide +kernel
theorem dX4_step_34 : decode cX4_step 34 = .ok (.iaload, 1) := by decide +kernel
theorem dX4_step_35 : decode cX4_step 35 = .ok (.istore 7, 2) := by decide +kernel
theorem dX4_step_37 : decode cX4_step 37 = .ok (.iload 7, 2) := by decide +kernel
theorem dX4_step_39 : decode cX4_step 39 = .ok (.iload 5, 2) := by decide +kernel
theorem dX4_step_41 : decode cX4_step 41 = .ok (.if_icmp .ge 23, 3) := by decide +kernel
theorem dX4_step_44 : decode cX4_step 44 = .ok (.iload 5, 2) := by decide +kernel
theorem dX4_step_46 : decode cX4_step 46 = .ok (.iload 7, 2) := by decide +kernel
theorem dX4_step_48 : decode cX4_step 48 = .ok (.aload 4, 2) := by decide +kernel
theorem dX4_step_50 : decode cX4_step 50 = .ok (.iload 6, 2) := by decide +kernel
theorem dX4_step_52 : decode cX4_step 52 = .ok (.bipush 7, 2) := by decide +kernel
theorem dX4_step_54 : decode cX4_step 54 = .ok (.imul, 1) := by decide +kernel
theorem dX4_step_55 : decode cX4_step 55 = .ok (.iload_n 3, 1) := by decide +kernel
theorem dX4_step_56 : decode cX4_step 56 = .ok (.iadd, 1) := by decide +kernel
theorem dX4_step_57 : decode cX4_step 57 = .ok (.iaload, 1) := by decide +kernel
theorem dX4_step_58 : decode cX4_step 58 = .ok (.iadd, 1) := by decide +kernel
theorem dX4_step_59 : decode cX4_step 59 = .ok (.invokestatic 77, 3) := by decide +kernel
theorem dX4_step_62 : decode cX4_step 62 = .ok (.istore 5, 2) := by decide +kernel
theorem dX4_step_64 : decode cX4_step 64 = .ok (.iinc 6 1, 3) := by decide +kernel
theorem dX4_step_67 : decode cX4_step 67 = .ok (.goto (-51), 3) := by decide +kernel
theorem dX4_step_70 : decode cX4_step 70 = .ok (.aload_n 0, 1) := by decide +kernel
theorem dX4_step_71 : decode cX4_step 71 = .ok (.getfield 24, 3) := by decide +kernel
theorem dX4_step_74 : decode cX4_step 74 = .ok (.iload_n 2, 1) := by decide +kernel
theorem dX4_step_75 : decode cX4_step 75 = .ok (.bipush 7, 2) := by decide +kernel
theorem dX4_step_77 : decode cX4_step 77 = .ok (.imul, 1) := by decide +kernel
theorem dX4_step_78 : decode cX4_step 78 = .ok (.iload_n 3, 1) := by decide +kernel
theorem dX4_step_79 : decode cX4_step 79 = .ok (.iadd, 1) := by decide +kernel
theorem dX4_step_80 : decode cX4_step 80 = .ok (.iload 5, 2) := by decide +kernel
theorem dX4_step_82 : decode cX4_step 82 = .ok (.iastore, 1) := by decide +kernel
theorem dX4_step_83 : decode cX4_step 83 = .ok (.return_, 1) := by decide +kernel
theorem dX5_init_0 : decode cX5_init 0 = .ok (.aload_n 0, 1) := by decide +kernel
theorem dX5_init_1 : decode cX5_init 1 = .ok (.invokespecial 3, 3) := by decide +kernel
theorem dX5_init_4 : decode cX5_init 4 = .ok (.aload_n 0, 1) := by decide +kernel
theorem dX5_init_5 : decode cX5_init 5 = .ok (.bipush 40, 2) := by decide +kernel
theorem dX5_init_7 : decode cX5_init 7 = .ok (.newarray .int, 2) := by decide +kernel
theorem dX5_init_9 : decode cX5_init 9 = .ok (.putfield 9, 3) := by decide +kernel
theorem dX5_init_12 : decode cX5_init 12 = .ok (.return_, 1) := by decide +kernel
theorem dX5_isMissing_0 : decode cX5_isMissing 0 = .ok (.aload_n 0, 1) := by decide +kernel
theorem dX5_isMissing_1 : decode cX5_isMissing 1 = .ok (.getfield 15, 3) := by decide +kernel
theorem dX5_isMissing_4 : decode cX5_isMissing 4 = .ok (.ifCond .ne 7, 3) := by decide +kernel
theorem dX5_isMissing_7 : decode cX5_isMissing 7 = .ok (.iconst 1, 1) := by decide +kernel
theorem dX5_isMissing_8 : decode cX5_isMissing 8 = .ok (.goto 4, 3) := by decide +kernel
theorem dX5_isMissing_11 : decode cX5_isMissing 11 = .ok (.iconst 0, 1) := by decide +kernel
theorem dX5_isMissing_12 : decode cX5_isMissing 12 = .ok (.ireturn, 1) := by decide +kernel
theorem dX5_begin_0 : decode cX5_begin 0 = .ok (.aload_n 0, 1) := by decide +kernel
theorem dX5_begin_1 : decode cX5_begin 1 = .ok (.iload_n 1, 1) := by decide +kernel
theorem dX5_begin_2 : decode cX5_begin 2 = .ok (.putfield 15, 3) := by decide +kernel
theorem dX5_begin_5 : decode cX5_begin 5 = .ok (.aload_n 0, 1) := by decide +kernel
theorem dX5_begin_6 : decode cX5_begin 6 = .ok (.iload_n 1, 1) := by decide +kernel
theorem dX5_begin_7 : decode cX5_begin 7 = .ok (.ifCond .ne 7, 3) := by decide +kernel
theorem dX5_begin_10 : decode cX5_begin 10 = .ok (.iconst 0, 1) := by decide +kernel
theorem dX5_begin_11 : decode cX5_begin 11 = .ok (.goto 4, 3) := by decide +kernel
theorem dX5_begin_14 : decode cX5_begin 14 = .ok (.iload_n 2, 1) := by decide +kernel
theorem dX5_begin_15 : decode cX5_begin 15 = .ok (.putfield 19, 3) := by decide +kernel
theorem dX5_begin_18 : decode cX5_begin 18 = .ok (.iconst 0, 1) := by decide +kernel
theorem dX5_begin_19 : decode cX5_begin 19 = .ok (.istore_n 3, 1) := by decide +kernel
theorem dX5_begin_20 : decode cX5_begin 20 = .ok (.iload_n 3, 1) := by decide +kernel
theorem dX5_begin_21 : decode cX5_begin 21 = .ok (.bipush 40, 2) := by decide +kernel
theorem dX5_begin_23 : decode cX5_begin 23 = .ok (.if_icmp .ge 16, 3) := by decide +kernel
theorem dX5_begin_26 : decode cX5_begin 26 = .ok (.aload_n 0, 1) := by decide +kernel
theorem dX5_begin_27 : decode cX5_begin 27 = .ok (.getfield 9, 3) := by decide +kernel
theorem dX5_begin_30 : decode cX5_begin 30 = .ok (.iload_n 3, 1) := by decide +kernel
theorem dX5_begin_31 : decode cX5_begin 31 = .ok (.iconst 0, 1) := by decide +kernel
theorem dX5_begin_32 : decode cX5_begin 32 = .ok (.iastore, 1) := by decide +kernel
theorem dX5_begin_33 : decode cX5_begin 33 = .ok (.iinc 3 1, 3) := by decide +kernel
theorem dX5_begin_36 : decode cX5_begin 36 = .ok (.goto (-16), 3) := by decide +kernel
theorem dX5_begin_39 : decode cX5_begin 39 = .ok (.return_, 1) := by decide +kernel
theorem dX5_put_0 : decode cX5_put 0 = .ok (.aload_n 0, 1) := by decide +kernel
theorem dX5_put_1 : decode cX5_put 1 = .ok (.getfield 15, 3) := by decide +kernel
theorem dX5_put_4 : decode cX5_put 4 = .ok (.bipush 8, 2) := by decide +kernel
theorem dX5_put_6 : decode cX5_put 6 = .ok (.if_icmp .ne 14, 3) := by decide +kernel
theorem dX5_put_9 : decode cX5_put 9 = .ok (.aload_n 0, 1) := by decide +kernel
theorem dX5_put_10 : decode cX5_put 10 = .ok (.getfield 9, 3) := by decide +kernel
theorem dX5_put_13 : decode cX5_put 13 = .ok (.iload_n 1, 1) := by decide +kernel
theorem dX5_put_14 : decode cX5_put 14 = .ok (.iload_n 2, 1) := by decide +kernel
theorem dX5_put_15 : decode cX5_put 15 = .ok (.i2b, 1) := by decide +kernel
theorem dX5_put_16 : decode cX5_put 16 = .ok (.iastore, 1) := by decide +kernel
theorem dX5_put_17 : decode cX5_put 17 = .ok (.goto 30, 3) := by decide +kernel
theorem dX5_put_20 : decode cX5_put 20 = .ok (.aload_n 0, 1) := by decide +kernel
theorem dX5_put_21 : decode cX5_put 21 = .ok (.getfield 15, 3) := by decide +kernel
theorem dX5_put_24 : decode cX5_put 24 = .ok (.bipush 16, 2) := by decide +kernel
theorem dX5_put_26 : decode cX5_put 26 = .ok (.if_icmp .ne 14, 3) := by decide +kernel
theorem dX5_put_29 : decode cX5_put 29 = .ok (.aload_n 0, 1) := by decide +kernel
theorem dX5_put_30 : decode cX5_put 30 = .ok (.getfield 9, 3) := by decide +kernel
theorem dX5_put_33 : decode cX5_put 33 = .ok (.iload_n 1, 1) := by decide +kernel
theorem dX5_put_34 : decode cX5_put 34 = .ok (.iload_n 2, 1) := by decide +kernel
theorem dX5_put_35 : decode cX5_put 35 = .ok (.i2s, 1) := by decide +kernel
theorem dX5_put_36 : decode cX5_put 36 = .ok (.iastore, 1) := by decide +kernel
theorem dX5_put_37 : decode cX5_put 37 = .ok (.goto 10, 3) := by decide +kernel
theorem dX5_put_40 : decode cX5_put 40 = .ok (.aload_n 0, 1) := by decide +kernel
theorem dX5_put_41 : decode cX5_put 41 = .ok (.getfield 9, 3) := by decide +kernel
theorem dX5_put_44 : decode cX5_put 44 = .ok (.iload_n 1, 1) := by decide +kernel
theorem dX5_put_45 : decode cX5_put 45 = .ok (.iload_n 2, 1) := by decide +kernel
theorem dX5_put_46 : decode cX5_put 46 = .ok (.iastore, 1) := by decide +kernel
theorem dX5_put_47 : decode cX5_put 47 = .ok (.return_, 1) := by decide +kernel
theorem dX5_hasFrom_0 : decode cX5_hasFrom 0 = .ok (.iload_n 2, 1) := by decide +kernel
theorem dX5_hasFrom_1 : decode cX5_hasFrom 1 = .ok (.iconst 0, 1) := by decide +kernel
theorem dX5_hasFrom_2 : decode cX5_hasFrom 2 = .ok (.aload_n 0, 1) := by decide +kernel
theorem dX5_hasFrom_3 : decode cX5_hasFrom 3 = .ok (.getfield 19, 3) := by decide +kernel
theorem dX5_hasFrom_6 : decode cX5_hasFrom 6 = .ok (.invokestatic 22, 3) := by decide +kernel
theorem dX5_hasFrom_9 : decode cX5_hasFrom 9 = .ok (.ifCond .eq 21, 3) := by decide +kernel
theorem dX5_hasFrom_12 : decode cX5_hasFrom 12 = .ok (.iload_n 1, 1) := by decide +kernel
theorem dX5_hasFrom_13 : decode cX5_hasFrom 13 = .ok (.iconst 0, 1) := by decide +kernel
theorem dX5_hasFrom_14 : decode cX5_hasFrom 14 = .ok (.aload_n 0, 1) := by decide +kernel
theorem dX5_hasFrom_15 : decode cX5_hasFrom 15 = .ok (.getfield 19, 3) := by decide +kernel
theorem dX5_hasFrom_18 : decode cX5_hasFrom 18 = .ok (.iload_n 2, 1) := by decide +kernel
theorem dX5_hasFrom_19 : decode cX5_hasFrom 19 = .ok (.isub, 1) := by decide +kernel
theorem dX5_hasFrom_20 : decode cX5_hasFrom 20 = .ok (.invokestatic 22, 3) := by decide +kernel
theorem dX5_hasFrom_23 : decode cX5_hasFrom 23 = .ok (.ifCond .eq 7, 3) := by decide +kernel
theorem dX5_hasFrom_26 : decode cX5_hasFrom 26 = .ok (.iconst 1, 1) := by decide +kernel
theorem dX5_hasFrom_27 : decode cX5_hasFrom 27 = .ok (.goto 4, 3) := by decide +kernel
theorem dX5_hasFrom_30 : decode cX5_hasFrom 30 = .ok (.iconst 0, 1) := by decide +kernel
theorem dX5_hasFrom_31 : decode cX5_hasFrom 31 = .ok (.ireturn, 1) := by decide +kernel
theorem dX6_init_0 : decode cX6_init 0 = .ok (.aload_n 0, 1) := by decide +kernel
theorem dX6_init_1 : decode cX6_init 1 = .ok (.invokespecial 3, 3) := by decide +kernel
theorem dX6_init_4 : decode cX6_init 4 = .ok (.aload_n 0, 1) := by decide +kernel
theorem dX6_init_5 : decode cX6_init 5 = .ok (.bipush 120, 2) := by decide +kernel
theorem dX6_init_7 : decode cX6_init 7 = .ok (.newarray .int, 2) := by decide +kernel
theorem dX6_init_9 : decode cX6_init 9 = .ok (.putfield 9, 3) := by decide +kernel
theorem dX6_init_12 : decode cX6_init 12 = .ok (.return_, 1) := by decide +kernel
theorem dX6_add_0 : decode cX6_add 0 = .ok (.aload_n 0, 1) := by decide +kernel
theorem dX6_add_1 : decode cX6_add 1 = .ok (.getfield 9, 3) := by decide +kernel
theorem dX6_add_4 : decode cX6_add 4 = .ok (.aload_n 0, 1) := by decide +kernel
theorem dX6_add_5 : decode cX6_add 5 = .ok (.getfield 15, 3) := by decide +kernel
theorem dX6_add_8 : decode cX6_add 8 = .ok (.iload_n 1, 1) := by decide +kernel
theorem dX6_add_9 : decode cX6_add 9 = .ok (.iastore, 1) := by decide +kernel
theorem dX6_add_10 : decode cX6_add 10 = .ok (.aload_n 0, 1) := by decide +kernel
theorem dX6_add_11 : decode cX6_add 11 = .ok (.dup, 1) := by decide +kernel
theorem dX6_add_12 : decode cX6_add 12 = .ok (.getfield 15, 3) := by decide +kernel
theorem dX6_add_15 : decode cX6_add 15 = .ok (.iconst 1, 1) := by decide +kernel
theorem dX6_add_16 : decode cX6_add 16 = .ok (.iadd, 1) := by decide +kernel
theorem dX6_add_17 : decode cX6_add 17 = .ok (.putfield 15, 3) := by decide +kernel
theorem dX6_add_20 : decode cX6_add 20 = .ok (.return_, 1) := by decide +kernel
theorem dX6_tellTo_0 : decode cX6_tellTo 0 = .ok (.aload_n 0, 1) := by decide +kernel
theorem dX6_tellTo_1 : decode cX6_tellTo 1 = .ok (.iconst 0, 1) := by decide +kernel
theorem dX6_tellTo_2 : decode cX6_tellTo 2 = .ok (.putfield 19, 3) := by decide +kernel
theorem dX6_tellTo_5 : decode cX6_tellTo 5 = .ok (.aload_n 0, 1) := by decide +kernel
theorem dX6_tellTo_6 : decode cX6_tellTo 6 = .ok (.invokevirtual 22, 3) := by decide +kernel
theorem dX6_tellTo_9 : decode cX6_tellTo 9 = .ok (.iconst 0, 1) := by decide +kernel
theorem dX6_tellTo_10 : decode cX6_tellTo 10 = .ok (.istore_n 2, 1) := by decide +kernel
theorem dX6_tellTo_11 : decode cX6_tellTo 11 = .ok (.iload_n 2, 1) := by decide +kernel
theorem dX6_tellTo_12 : decode cX6_tellTo 12 = .ok (.bipush 120, 2) := by decide +kernel
theorem dX6_tellTo_14 : decode cX6_tellTo 14 = .ok (.if_icmp .gt 52, 3) := by decide +kernel
theorem dX6_tellTo_17 : decode cX6_tellTo 17 = .ok (.aload_n 0, 1) := by decide +kernel
theorem dX6_tellTo_18 : decode cX6_tellTo 18 = .ok (.aload_n 1, 1) := by decide +kernel
theorem dX6_tellTo_19 : decode cX6_tellTo 19 = .ok (.invokevirtual 25, 3) := by decide +kernel
theorem dX6_tellTo_22 : decode cX6_tellTo 22 = .ok (.ifCond .eq 44, 3) := by decide +kernel
theorem dX6_tellTo_25 : decode cX6_tellTo 25 = .ok (.iinc 2 1, 3) := by decide +kernel
theorem dX6_tellTo_28 : decode cX6_tellTo 28 = .ok (.aload_n 0, 1) := by decide +kernel
theorem dX6_tellTo_29 : decode cX6_tellTo 29 = .ok (.getfield 29, 3) := by decide +kernel
theorem dX6_tellTo_32 : decode cX6_tellTo 32 = .ok (.ifCond .ne 12, 3) := by decide +kernel
theorem dX6_tellTo_35 : decode cX6_tellTo 35 = .ok (.aload_n 1, 1) := by decide +kernel
theorem dX6_tellTo_36 : decode cX6_tellTo 36 = .ok (.getfield 32, 3) := by decide +kernel
theorem dX6_tellTo_39 : decode cX6_tellTo 39 = .ok (.invokevirtual 38, 3) := by decide +kernel
theorem dX6_tellTo_42 : decode cX6_tellTo 42 = .ok (.iload_n 2, 1) := by decide +kernel
theorem dX6_tellTo_43 : decode cX6_tellTo 43 = .ok (.ireturn, 1) := by decide +kernel
theorem dX6_tellTo_44 : decode cX6_tellTo 44 = .ok (.aload_n 0, 1) := by decide +kernel
theorem dX6_tellTo_45 : decode cX6_tellTo 45 = .ok (.getfield 29, 3) := by decide +kernel
theorem dX6_tellTo_48 : decode cX6_tellTo 48 = .ok (.iconst 3, 1) := by decide +kernel
theorem dX6_tellTo_49 : decode cX6_tellTo 49 = .ok (.if_icmp .eq 10, 3) := by decide +kernel
theorem dX6_tellTo_52 : decode cX6_tellTo 52 = .ok (.iconst (-1), 1) := by decide +kernel
theorem dX6_tellTo_53 : decode cX6_tellTo 53 = .ok (.aload_n 0, 1) := by decide +kernel
theorem dX6_tellTo_54 : decode cX6_tellTo 54 = .ok (.getfield 43, 3) := by decide +kernel
theorem dX6_tellTo_57 : decode cX6_tellTo 57 = .ok (.isub, 1) := by decide +kernel
theorem dX6_tellTo_58 : decode cX6_tellTo 58 = .ok (.ireturn, 1) := by decide +kernel
theorem dX6_tellTo_59 : decode cX6_tellTo 59 = .ok (.aload_n 0, 1) := by decide +kernel
theorem dX6_tellTo_60 : decode cX6_tellTo 60 = .ok (.invokevirtual 22, 3) := by decide +kernel
theorem dX6_tellTo_63 : decode cX6_tellTo 63 = .ok (.goto (-52), 3) := by decide +kernel
theorem dX6_tellTo_66 : decode cX6_tellTo 66 = .ok (.iconst (-1), 1) := by decide +kernel
theorem dX6_tellTo_67 : decode cX6_tellTo 67 = .ok (.aload_n 0, 1) := by decide +kernel
theorem dX6_tellTo_68 : decode cX6_tellTo 68 = .ok (.getfield 43, 3) := by decide +kernel
theorem dX6_tellTo_71 : decode cX6_tellTo 71 = .ok (.isub, 1) := by decide +kernel
theorem dX6_tellTo_72 : decode cX6_tellTo 72 = .ok (.ireturn, 1) := by decide +kernel
theorem dX6_readItem_0 : decode cX6_readItem 0 = .ok (.aload_n 0, 1) := by decide +kernel
theorem dX6_readItem_1 : decode cX6_readItem 1 = .ok (.invokevirtual 46, 3) := by decide +kernel
theorem dX6_readItem_4 : decode cX6_readItem 4 = .ok (.istore_n 2, 1) := by decide +kernel
theorem dX6_readItem_5 : decode cX6_readItem 5 = .ok (.iload_n 2, 1) := by decide +kernel
theorem dX6_readItem_6 : decode cX6_readItem 6 = .ok (.ifCond .lt 10, 3) := by decide +kernel
theorem dX6_readItem_9 : decode cX6_readItem 9 = .ok (.aload_n 0, 1) := by decide +kernel
theorem dX6_readItem_10 : decode cX6_readItem 10 = .ok (.aload_n 1, 1) := by decide +kernel
theorem dX6_readItem_11 : decode cX6_readItem 11 = .ok (.iload_n 2, 1) := by decide +kernel
theorem dX6_readItem_12 : decode cX6_readItem 12 = .ok (.invokevirtual 50, 3) := by decide +kernel
theorem dX6_readItem_15 : decode cX6_readItem 15 = .ok (.ireturn, 1) := by decide +kernel
theorem dX6_readItem_16 : decode cX6_readItem 16 = .ok (.aload_n 0, 1) := by decide +kernel
theorem dX6_readItem_17 : decode cX6_readItem 17 = .ok (.ldc 54, 2) := by decide +kernel
theorem dX6_readItem_19 : decode cX6_readItem 19 = .ok (.invokevirtual 56, 3) := by decide +kernel
theorem dX6_readItem_22 : decode cX6_readItem 22 = .ok (.ifCond .eq 9, 3) := by decide +kernel
theorem dX6_readItem_25 : decode cX6_readItem 25 = .ok (.aload_n 0, 1) := by decide +kernel
theorem dX6_readItem_26 : decode cX6_readItem 26 = .ok (.aload_n 1, 1) := by decide +kernel
theorem dX6_readItem_27 : decode cX6_readItem 27 = .ok (.invokevirtual 60, 3) := by decide +kernel
theorem dX6_readItem_30 : decode cX6_readItem 30 = .ok (.ireturn, 1) := by decide +kernel
theorem dX6_readItem_31 : decode cX6_readItem 31 = .ok (.aload_n 0, 1) := by decide +kernel
theorem dX6_readItem_32 : decode cX6_readItem 32 = .ok (.ldc 63, 2) := by decide +kernel
theorem dX6_readItem_34 : decode cX6_readItem 34 = .ok (.invokevirtual 56, 3) := by decide +kernel
theorem dX6_readItem_37 : decode cX6_readItem 37 = .ok (.ifCond .eq 9, 3) := by decide +kernel
theorem dX6_readItem_40 : decode cX6_readItem 40 = .ok (.aload_n 0, 1) := by decide +kernel
theorem dX6_readItem_41 : decode cX6_readItem 41 = .ok (.aload_n 1, 1) := by decide +kernel
theorem dX6_readItem_42 : decode cX6_readItem 42 = .ok (.invokevirtual 65, 3) := by decide +kernel
theorem dX6_readItem_45 : decode cX6_readItem 45 = .ok (.ireturn, 1) := by decide +kernel
theorem dX6_readItem_46 : decode cX6_readItem 46 = .ok (.aload_n 0, 1) := by decide +kernel
theorem dX6_readItem_47 : decode cX6_readItem 47 = .ok (.ldc 68, 2) := by decide +kernel
theorem dX6_readItem_49 : decode cX6_readItem 49 = .ok (.invokevirtual 56, 3) := by decide +kernel
theorem dX6_readItem_52 : decode cX6_readItem 52 = .ok (.ifCond .eq 15, 3) := by decide +kernel
theorem dX6_readItem_55 : decode cX6_readItem 55 = .ok (.aload_n 0, 1) := by decide +kernel
theorem dX6_readItem_56 : decode cX6_readItem 56 = .ok (.aload_n 1, 1) := by decide +kernel
theorem dX6_readItem_57 : decode cX6_readItem 57 = .ok (.invokevirtual 70, 3) := by decide +kernel
theorem dX6_readItem_60 : decode cX6_readItem 60 = .ok (.ifCond .eq 7, 3) := by decide +kernel
theorem dX6_readItem_63 : decode cX6_readItem 63 = .ok (.iconst 1, 1) := by decide +kernel
theorem dX6_readItem_64 : decode cX6_readItem 64 = .ok (.goto 4, 3) := by decide +kernel
theorem dX6_readItem_67 : decode cX6_readItem 67 = .ok (.iconst 0, 1) := by decide +kernel
theorem dX6_readItem_68 : decode cX6_readItem 68 = .ok (.ireturn, 1) := by decide +kernel
theorem dX6_readCarrier_0 : decode cX6_readCarrier 0 = .ok (.aload_n 1, 1) := by decide +kernel
theorem dX6_readCarrier_1 : decode cX6_readCarrier 1 = .ok (.getfield 73, 3) := by decide +kernel
theorem dX6_readCarrier_4 : decode cX6_readCarrier 4 = .ok (.bipush 6, 2) := by decide +kernel
theorem dX6_readCarrier_6 : decode cX6_readCarrier 6 = .ok (.if_icmp .lt 5, 3) := by decide +kernel
theorem dX6_readCarrier_9 : decode cX6_readCarrier 9 = .ok (.iconst 0, 1) := by decide +kernel
theorem dX6_readCarrier_10 : decode cX6_readCarrier 10 = .ok (.ireturn, 1) := by decide +kernel
theorem dX6_readCarrier_11 : decode cX6_readCarrier 11 = .ok (.aload_n 0, 1) := by decide +kernel
theorem dX6_readCarrier_12 : decode cX6_readCarrier 12 = .ok (.invokevirtual 22, 3) := by decide +kernel
theorem dX6_readCarrier_15 : decode cX6_readCarrier 15 = .ok (.iconst 0, 1) := by decide +kernel
theorem dX6_readCarrier_16 : decode cX6_readCarrier 16 = .ok (.istore_n 3, 1) := by decide +kernel
theorem dX6_readCarrier_17 : decode cX6_readCarrier 17 = .ok (.aload_n 0, 1) := by decide +kernel
theorem dX6_readCarrier_18 : decode cX6_readCarrier 18 = .ok (.ldc 76, 2) := by decide +kernel
theorem dX6_readCarrier_20 : decode cX6_readCarrier 20 = .ok (.invokevirtual 78, 3) := by decide +kernel
theorem dX6_readCarrier_23 : decode cX6_readCarrier 23 = .ok (.ifCond .eq 11, 3) := by decide +kernel
theorem dX6_readCarrier_26 : decode cX6_readCarrier 26 = .ok (.aload_n 0, 1) := by decide +kernel
theorem dX6_readCarrier_27 : decode cX6_readCarrier 27 = .ok (.iconst 0, 1) := by decide +kernel
theorem dX6_readCarrier_28 : decode cX6_readCarrier 28 = .ok (.bipush 6, 2) := by decide +kernel
theorem dX6_readCarrier_30 : decode cX6_readCarrier 30 = .ok (.invokevirtual 81, 3) := by decide +kernel
theorem dX6_readCarrier_33 : decode cX6_readCarrier 33 = .ok (.istore_n 3, 1) := by decide +kernel
theorem dX6_readCarrier_34 : decode cX6_readCarrier 34 = .ok (.iload_n 3, 1) := by decide +kernel
theorem dX6_readCarrier_35 : decode cX6_readCarrier 35 = .ok (.ifCond .ge 5, 3) := by decide +kernel
theorem dX6_readCarrier_38 : decode cX6_readCarrier 38 = .ok (.iconst 0, 1) := by decide +kernel
theorem dX6_readCarrier_39 : decode cX6_readCarrier 39 = .ok (.ireturn, 1) := by decide +kernel
theorem dX6_readCarrier_40 : decode cX6_readCarrier 40 = .ok (.bipush 20, 2) := by decide +kernel
theorem dX6_readCarrier_42 : decode cX6_readCarrier 42 = .ok (.istore 4, 2) := by decide +kernel
theorem dX6_readCarrier_44 : decode cX6_readCarrier 44 = .ok (.aload_n 0, 1) := by decide +kernel
theorem dX6_readCarrier_45 : decode cX6_readCarrier 45 = .ok (.ldc 85, 2) := by decide +kernel
theorem dX6_readCarrier_47 : decode cX6_readCarrier 47 = .ok (.invokevirtual 78, 3) := by decide +kernel
theorem dX6_readCarrier_50 : decode cX6_readCarrier 50 = .ok (.ifCond .eq 12, 3) := by decide +kernel
theorem dX6_readCarrier_53 : decode cX6_readCarrier 53 = .ok (.aload_n 0, 1) := by decide +kernel
theorem dX6_readCarrier_54 : decode cX6_readCarrier 54 = .ok (.iconst 1, 1) := by decide +kernel
theorem dX6_readCarrier_55 : decode cX6_readCarrier 55 = .ok (.bipush 99, 2) := by decide +kernel
theorem dX6_readCarrier_57 : decode cX6_readCarrier 57 = .ok (.invokevirtual 81, 3) := by decide +kernel
theorem dX6_readCarrier_60 : decode cX6_readCarrier 60 = .ok (.istore 4, 2) := by decide +kernel
theorem dX6_readCarrier_62 : decode cX6_readCarrier 62 = .ok (.iload 4, 2) := by decide +kernel
theorem dX6_readCarrier_64 : decode cX6_readCarrier 64 = .ok (.ifCond .ge 5, 3) := by decide +kernel
theorem dX6_readCarrier_67 : decode cX6_readCarrier 67 = .ok (.iconst 0, 1) := by decide +kernel
theorem dX6_readCarrier_68 : decode cX6_readCarrier 68 = .ok (.ireturn, 1) := by decide +kernel
theorem dX6_readCarrier_69 : decode cX6_readCarrier 69 = .ok (.aload_n 1, 1) := by decide +kernel
theorem dX6_readCarrier_70 : decode cX6_readCarrier 70 = .ok (.iload_n 2, 1) := by decide +kernel
theorem dX6_readCarrier_71 : decode cX6_readCarrier 71 = .ok (.iload_n 3, 1) := by decide +kernel
theorem dX6_readCarrier_72 : decode cX6_readCarrier 72 = .ok (.iload 4, 2) := by decide +kernel
theorem dX6_readCarrier_74 : decode cX6_readCarrier 74 = .ok (.invokevirtual 87, 3) := by decide +kernel
theorem dX6_readCarrier_77 : decode cX6_readCarrier 77 = .ok (.pop, 1) := by decide +kernel
theorem dX6_readCarrier_78 : decode cX6_readCarrier 78 = .ok (.iconst 1, 1) := by decide +kernel
theorem dX6_readCarrier_79 : decode cX6_readCarrier 79 = .ok (.ireturn, 1) := by decide +kernel
theorem dX6_readWay_0 : decode cX6_readWay 0 = .ok (.aload_n 0, 1) := by decide +kernel
theorem dX6_readWay_1 : decode cX6_readWay 1 = .ok (.invokevirtual 22, 3) := by decide +kernel
theorem dX6_readWay_4 : decode cX6_readWay 4 = .ok (.aload_n 0, 1) := by decide +kernel
theorem dX6_readWay_5 : decode cX6_readWay 5 = .ok (.iconst 0, 1) := by decide +kernel
theorem dX6_readWay_6 : decode cX6_readWay 6 = .ok (.bipush 6, 2) := by decide +kernel
theorem dX6_readWay_8 : decode cX6_readWay 8 = .ok (.invokevirtual 81, 3) := by decide +kernel
theorem dX6_readWay_11 : decode cX6_readWay 11 = .ok (.istore_n 2, 1) := by decide +kernel
theorem dX6_readWay_12 : decode cX6_readWay 12 = .ok (.iload_n 2, 1) := by decide +kernel
theorem dX6_readWay_13 : decode cX6_readWay 13 = .ok (.ifCond .ge 5, 3) := by decide +kernel
theorem dX6_readWay_16 : decode cX6_readWay 16 = .ok (.iconst 0, 1) := by decide +kernel
theorem dX6_readWay_17 : decode cX6_readWay 17 = .ok (.ireturn, 1) := by decide +kernel
theorem dX6_readWay_18 : decode cX6_readWay 18 = .ok (.aload_n 0, 1) := by decide +kernel
theorem dX6_readWay_19 : decode cX6_readWay 19 = .ok (.iload_n 2, 1) := by decide +kernel
theorem dX6_readWay_20 : decode cX6_readWay 20 = .ok (.invokevirtual 91, 3) := by decide +kernel
theorem dX6_readWay_23 : decode cX6_readWay 23 = .ok (.istore_n 3, 1) := by decide +kernel
theorem dX6_readWay_24 : decode cX6_readWay 24 = .ok (.iload_n 3, 1) := by decide +kernel
theorem dX6_readWay_25 : decode cX6_readWay 25 = .ok (.ifCond .lt 12, 3) := by decide +kernel
theorem dX6_readWay_28 : decode cX6_readWay 28 = .ok (.aload_n 0, 1) := by decide +kernel
theorem dX6_readWay_29 : decode cX6_readWay 29 = .ok (.ldc 95, 2) := by decide +kernel
theorem dX6_readWay_31 : decode cX6_readWay 31 = .ok (.invokevirtual 78, 3) := by decide +kernel
theorem dX6_readWay_34 : decode cX6_readWay 34 = .ok (.ifCond .ne 5, 3) := by decide +kernel
theorem dX6_readWay_37 : decode cX6_readWay 37 = .ok (.iconst 0, 1) := by decide +kernel
theorem dX6_readWay_38 : decode cX6_readWay 38 = .ok (.ireturn, 1) := by decide +kernel
theorem dX6_readWay_39 : decode cX6_readWay 39 = .ok (.aload_n 0, 1) := by decide +kernel
theorem dX6_readWay_40 : decode cX6_readWay 40 = .ok (.iconst 0, 1) := by decide +kernel
theorem dX6_readWay_41 : decode cX6_readWay 41 = .ok (.bipush 99, 2) := by decide +kernel
theorem dX6_readWay_43 : decode cX6_readWay 43 = .ok (.invokevirtual 81, 3) := by decide +kernel
theorem dX6_readWay_46 : decode cX6_readWay 46 = .ok (.istore 4, 2) := by decide +kernel
theorem dX6_readWay_48 : decode cX6_readWay 48 = .ok (.iload 4, 2) := by decide +kernel
theorem dX6_readWay_50 : decode cX6_readWay 50 = .ok (.ifCond .ge 5, 3) := by decide +kernel
theorem dX6_readWay_53 : decode cX6_readWay 53 = .ok (.iconst 0, 1) := by decide +kernel
theorem dX6_readWay_54 : decode cX6_readWay 54 = .ok (.ireturn, 1) := by decide +kernel
theorem dX6_readWay_55 : decode cX6_readWay 55 = .ok (.aload_n 1, 1) := by decide +kernel
theorem dX6_readWay_56 : decode cX6_readWay 56 = .ok (.getfield 32, 3) := by decide +kernel
theorem dX6_readWay_59 : decode cX6_readWay 59 = .ok (.iload_n 2, 1) := by decide +kernel
theorem dX6_readWay_60 : decode cX6_readWay 60 = .ok (.iload_n 3, 1) := by decide +kernel
theorem dX6_readWay_61 : decode cX6_readWay 61 = .ok (.iload 4, 2) := by decide +kernel
theorem dX6_readWay_63 : decode cX6_readWay 63 = .ok (.aload_n 0, 1) := by decide +kernel
theorem dX6_readWay_64 : decode cX6_readWay 64 = .ok (.ldc 97, 2) := by decide +kernel
theorem dX6_readWay_66 : decode cX6_readWay 66 = .ok (.invokevirtual 78, 3) := by decide +kernel
theorem dX6_readWay_69 : decode cX6_readWay 69 = .ok (.ifCond .eq 7, 3) := by decide +kernel
theorem dX6_readWay_72 : decode cX6_readWay 72 = .ok (.iconst 1, 1) := by decide +kernel
theorem dX6_readWay_73 : decode cX6_readWay 73 = .ok (.goto 4, 3) := by decide +kernel
theorem dX6_readWay_76 : decode cX6_readWay 76 = .ok (.iconst 0, 1) := by decide +kernel
theorem dX6_readWay_77 : decode cX6_readWay 77 = .ok (.invokevirtual 99, 3) := by decide +kernel
theorem dX6_readWay_80 : decode cX6_readWay 80 = .ok (.iconst 1, 1) := by decide +kernel
theorem dX6_readWay_81 : decode cX6_readWay 81 = .ok (.ireturn, 1) := by decide +kernel
theorem dX6_readErrand_0 : decode cX6_readErrand 0 = .ok (.aload_n 1, 1) := by decide +kernel
theorem dX6_readErrand_1 : decode cX6_readErrand 1 = .ok (.getfield 103, 3) := by decide +kernel
theorem dX6_readErrand_4 : decode cX6_readErrand 4 = .ok (.bipush 8, 2) := by decide +kernel
theorem dX6_readErrand_6 : decode cX6_readErrand 6 = .ok (.if_icmp .lt 5, 3) := by decide +kernel
theorem dX6_readErrand_9 : decode cX6_readErrand 9 = .ok (.iconst 0, 1) := by decide +kernel
theorem dX6_readErrand_10 : decode cX6_readErrand 10 = .ok (.ireturn, 1) := by decide +kernel
theorem dX6_readErrand_11 : decode cX6_readErrand 11 = .ok (.aload_n 0, 1) := by decide +kernel
theorem dX6_readErrand_12 : decode cX6_readErrand 12 = .ok (.invokevirtual 22, 3) := by decide +kernel
theorem dX6_readErrand_15 : decode cX6_readErrand 15 = .ok (.aload_n 0, 1) := by decide +kernel
theorem dX6_readErrand_16 : decode cX6_readErrand 16 = .ok (.iconst 1, 1) := by decide +kernel
theorem dX6_readErrand_17 : decode cX6_readErrand 17 = .ok (.bipush 60, 2) := by decide +kernel
theorem dX6_readErrand_19 : decode cX6_readErrand 19 = .ok (.invokevirtual 81, 3) := by decide +kernel
theorem dX6_readErrand_22 : decode cX6_readErrand 22 = .ok (.istore_n 2, 1) := by decide +kernel
theorem dX6_readErrand_23 : decode cX6_readErrand 23 = .ok (.iload_n 2, 1) := by decide +kernel
theorem dX6_readErrand_24 : decode cX6_readErrand 24 = .ok (.ifCond .lt 12, 3) := by decide +kernel
theorem dX6_readErrand_27 : decode cX6_readErrand 27 = .ok (.aload_n 0, 1) := by decide +kernel
theorem dX6_readErrand_28 : decode cX6_readErrand 28 = .ok (.ldc 106, 2) := by decide +kernel
theorem dX6_readErrand_30 : decode cX6_readErrand 30 = .ok (.invokevirtual 78, 3) := by decide +kernel
theorem dX6_readErrand_33 : decode cX6_readErrand 33 = .ok (.ifCond .ne 5, 3) := by decide +kernel
theorem dX6_readErrand_36 : decode cX6_readErrand 36 = .ok (.iconst 0, 1) := by decide +kernel
theorem dX6_readErrand_37 : decode cX6_readErrand 37 = .ok (.ireturn, 1) := by decide +kernel
theorem dX6_readErrand_38 : decode cX6_readErrand 38 = .ok (.aload_n 0, 1) := by decide +kernel
theorem dX6_readErrand_39 : decode cX6_readErrand 39 = .ok (.iconst 0, 1) := by decide +kernel
theorem dX6_readErrand_40 : decode cX6_readErrand 40 = .ok (.bipush 6, 2) := by decide +kernel
theorem dX6_readErrand_42 : decode cX6_readErrand 42 = .ok (.invokevirtual 81, 3) := by decide +kernel
theorem dX6_readErrand_45 : decode cX6_readErrand 45 = .ok (.istore_n 3, 1) := by decide +kernel
theorem dX6_readErrand_46 : decode cX6_readErrand 46 = .ok (.iload_n 3, 1) := by decide +kernel
theorem dX6_readErrand_47 : decode cX6_readErrand 47 = .ok (.ifCond .lt 12, 3) := by decide +kernel
theorem dX6_readErrand_50 : decode cX6_readErrand 50 = .ok (.aload_n 0, 1) := by decide +kernel
theorem dX6_readErrand_51 : decode cX6_readErrand 51 = .ok (.ldc 108, 2) := by decide +kernel
theorem dX6_readErrand_53 : decode cX6_readErrand 53 = .ok (.invokevirtual 78, 3) := by decide +kernel
theorem dX6_readErrand_56 : decode cX6_readErrand 56 = .ok (.ifCond .ne 5, 3) := by decide +kernel
theorem dX6_readErrand_59 : decode cX6_readErrand 59 = .ok (.iconst 0, 1) := by decide +kernel
theorem dX6_readErrand_60 : decode cX6_readErrand 60 = .ok (.ireturn, 1) := by decide +kernel
theorem dX6_readErrand_61 : decode cX6_readErrand 61 = .ok (.aload_n 0, 1) := by decide +kernel
theorem dX6_readErrand_62 : decode cX6_readErrand 62 = .ok (.iload_n 3, 1) := by decide +kernel
theorem dX6_readErrand_63 : decode cX6_readErrand 63 = .ok (.invokevirtual 91, 3) := by decide +kernel
theorem dX6_readErrand_66 : decode cX6_readErrand 66 = .ok (.istore 4, 2) := by decide +kernel
theorem dX6_readErrand_68 : decode cX6_readErrand 68 = .ok (.iload 4, 2) := by decide +kernel
theorem dX6_readErrand_70 : decode cX6_readErrand 70 = .ok (.ifCond .ge 5, 3) := by decide +kernel
theorem dX6_readErrand_73 : decode cX6_readErrand 73 = .ok (.iconst 0, 1) := by decide +kernel
theorem dX6_readErrand_74 : decode cX6_readErrand 74 = .ok (.ireturn, 1) := by decide +kernel
theorem dX6_readErrand_75 : decode cX6_readErrand 75 = .ok (.aload_n 1, 1) := by decide +kernel
theorem dX6_readErrand_76 : decode cX6_readErrand 76 = .ok (.iload_n 2, 1) := by decide +kernel
theorem dX6_readErrand_77 : decode cX6_readErrand 77 = .ok (.iload_n 3, 1) := by decide +kernel
theorem dX6_readErrand_78 : decode cX6_readErrand 78 = .ok (.iload 4, 2) := by decide +kernel
theorem dX6_readErrand_80 : decode cX6_readErrand 80 = .ok (.invokevirtual 110, 3) := by decide +kernel
theorem dX6_readErrand_83 : decode cX6_readErrand 83 = .ok (.pop, 1) := by decide +kernel
theorem dX6_readErrand_84 : decode cX6_readErrand 84 = .ok (.iconst 1, 1) := by decide +kernel
theorem dX6_readErrand_85 : decode cX6_readErrand 85 = .ok (.ireturn, 1) := by decide +kernel
theorem dX6_readWare_0 : decode cX6_readWare 0 = .ok (.aload_n 1, 1) := by decide +kernel
theorem dX6_readWare_1 : decode cX6_readWare 1 = .ok (.getfield 113, 3) := by decide +kernel
theorem dX6_readWare_4 : decode cX6_readWare 4 = .ok (.bipush 6, 2) := by decide +kernel
theorem dX6_readWare_6 : decode cX6_readWare 6 = .ok (.if_icmp .lt 5, 3) := by decide +kernel
theorem dX6_readWare_9 : decode cX6_readWare 9 = .ok (.iconst 0, 1) := by decide +kernel
theorem dX6_readWare_10 : decode cX6_readWare 10 = .ok (.ireturn, 1) := by decide +kernel
theorem dX6_readWare_11 : decode cX6_readWare 11 = .ok (.aload_n 0, 1) := by decide +kernel
theorem dX6_readWare_12 : decode cX6_readWare 12 = .ok (.invokevirtual 22, 3) := by decide +kernel
theorem dX6_readWare_15 : decode cX6_readWare 15 = .ok (.aload_n 0, 1) := by decide +kernel
theorem dX6_readWare_16 : decode cX6_readWare 16 = .ok (.iconst 1, 1) := by decide +kernel
theorem dX6_readWare_17 : decode cX6_readWare 17 = .ok (.sipush 9999, 3) := by decide +kernel
theorem dX6_readWare_20 : decode cX6_readWare 20 = .ok (.invokevirtual 81, 3) := by decide +kernel
theorem dX6_readWare_23 : decode cX6_readWare 23 = .ok (.istore_n 2, 1) := by decide +kernel
theorem dX6_readWare_24 : decode cX6_readWare 24 = .ok (.iload_n 2, 1) := by decide +kernel
theorem dX6_readWare_25 : decode cX6_readWare 25 = .ok (.ifCond .ge 5, 3) := by decide +kernel
theorem dX6_readWare_28 : decode cX6_readWare 28 = .ok (.iconst 0, 1) := by decide +kernel
theorem dX6_readWare_29 : decode cX6_readWare 29 = .ok (.ireturn, 1) := by decide +kernel
theorem dX6_readWare_30 : decode cX6_readWare 30 = .ok (.aload_n 1, 1) := by decide +kernel
theorem dX6_readWare_31 : decode cX6_readWare 31 = .ok (.iload_n 2, 1) := by decide +kernel
theorem dX6_readWare_32 : decode cX6_readWare 32 = .ok (.invokevirtual 116, 3) := by decide +kernel
theorem dX6_readWare_35 : decode cX6_readWare 35 = .ok (.pop, 1) := by decide +kernel
theorem dX6_readWare_36 : decode cX6_readWare 36 = .ok (.iconst 1, 1) := by decide +kernel
theorem dX6_readWare_37 : decode cX6_readWare 37 = .ok (.ireturn, 1) := by decide +kernel
theorem dX6_kindTold_0 : decode cX6_kindTold 0 = .ok (.aload_n 0, 1) := by decide +kernel
theorem dX6_kindTold_1 : decode cX6_kindTold 1 = .ok (.ldc 119, 2) := by decide +kernel
theorem dX6_kindTold_3 : decode cX6_kindTold 3 = .ok (.invokevirtual 56, 3) := by decide +kernel
theorem dX6_kindTold_6 : decode cX6_kindTold 6 = .ok (.ifCond .eq 5, 3) := by decide +kernel
theorem dX6_kindTold_9 : decode cX6_kindTold 9 = .ok (.iconst 0, 1) := by decide +kernel
theorem dX6_kindTold_10 : decode cX6_kindTold 10 = .ok (.ireturn, 1) := by decide +kernel
theorem dX6_kindTold_11 : decode cX6_kindTold 11 = .ok (.aload_n 0, 1) := by decide +kernel
theorem dX6_kindTold_12 : decode cX6_kindTold 12 = .ok (.ldc 123, 2) := by decide +kernel
theorem dX6_kindTold_14 : decode cX6_kindTold 14 = .ok (.invokevirtual 56, 3) := by decide +kernel
theorem dX6_kindTold_17 : decode cX6_kindTold 17 = .ok (.ifCond .eq 5, 3) := by decide +kernel
theorem dX6_kindTold_20 : decode cX6_kindTold 20 = .ok (.iconst 1, 1) := by decide +kernel
theorem dX6_kindTold_21 : decode cX6_kindTold 21 = .ok (.ireturn, 1) := by decide +kernel
theorem dX6_kindTold_22 : decode cX6_kindTold 22 = .ok (.aload_n 0, 1) := by decide +kernel
theorem dX6_kindTold_23 : decode cX6_kindTold 23 = .ok (.ldc 125, 2) := by decide +kernel
theorem dX6_kindTold_25 : decode cX6_kindTold 25 = .ok (.invokevirtual 56, 3) := by decide +kernel
theorem dX6_kindTold_28 : decode cX6_kindTold 28 = .ok (.ifCond .eq 5, 3) := by decide +kernel
theorem dX6_kindTold_31 : decode cX6_kindTold 31 = .ok (.iconst 2, 1) := by decide +kernel
theorem dX6_kindTold_32 : decode cX6_kindTold 32 = .ok (.ireturn, 1) := by decide +kernel
theorem dX6_kindTold_33 : decode cX6_kindTold 33 = .ok (.aload_n 0, 1) := by decide +kernel
theorem dX6_kindTold_34 : decode cX6_kindTold 34 = .ok (.ldc 127, 2) := by decide +kernel
theorem dX6_kindTold_36 : decode cX6_kindTold 36 = .ok (.invokevirtual 56, 3) := by decide +kernel
theorem dX6_kindTold_39 : decode cX6_kindTold 39 = .ok (.ifCond .eq 5, 3) := by decide +kernel
theorem dX6_kindTold_42 : decode cX6_kindTold 42 = .ok (.iconst 3, 1) := by decide +kernel
theorem dX6_kindTold_43 : decode cX6_kindTold 43 = .ok (.ireturn, 1) := by decide +kernel
theorem dX6_kindTold_44 : decode cX6_kindTold 44 = .ok (.aload_n 0, 1) := by decide +kernel
theorem dX6_kindTold_45 : decode cX6_kindTold 45 = .ok (.ldc 129, 2) := by decide +kernel
theorem dX6_kindTold_47 : decode cX6_kindTold 47 = .ok (.invokevirtual 56, 3) := by decide +kernel
theorem dX6_kindTold_50 : decode cX6_kindTold 50 = .ok (.ifCond .eq 5, 3) := by decide +kernel
theorem dX6_kindTold_53 : decode cX6_kindTold 53 = .ok (.iconst 4, 1) := by decide +kernel
theorem dX6_kindTold_54 : decode cX6_kindTold 54 = .ok (.ireturn, 1) := by decide +kernel
theorem dX6_kindTold_55 : decode cX6_kindTold 55 = .ok (.aload_n 0, 1) := by decide +kernel
theorem dX6_kindTold_56 : decode cX6_kindTold 56 = .ok (.ldc 131, 2) := by decide +kernel
theorem dX6_kindTold_58 : decode cX6_kindTold 58 = .ok (.invokevirtual 56, 3) := by decide +kernel
theorem dX6_kindTold_61 : decode cX6_kindTold 61 = .ok (.ifCond .eq 5, 3) := by decide +kernel
theorem dX6_kindTold_64 : decode cX6_kindTold 64 = .ok (.iconst 5, 1) := by decide +kernel
theorem dX6_kindTold_65 : decode cX6_kindTold 65 = .ok (.ireturn, 1) := by decide +kernel
theorem dX6_kindTold_66 : decode cX6_kindTold 66 = .ok (.aload_n 0, 1) := by decide +kernel
theorem dX6_kindTold_67 : decode cX6_kindTold 67 = .ok (.ldc 133, 2) := by decide +kernel
theorem dX6_kindTold_69 : decode cX6_kindTold 69 = .ok (.invokevirtual 56, 3) := by decide +kernel
theorem dX6_kindTold_72 : decode cX6_kindTold 72 = .ok (.ifCond .eq 8, 3) := by decide +kernel
theorem dX6_kindTold_75 : decode cX6_kindTold 75 = .ok (.bipush 6, 2) := by decide +kernel
theorem dX6_kindTold_77 : decode cX6_kindTold 77 = .ok (.goto 4, 3) := by decide +kernel
theorem dX6_kindTold_80 : decode cX6_kindTold 80 = .ok (.iconst (-1), 1) := by decide +kernel
theorem dX6_kindTold_81 : decode cX6_kindTold 81 = .ok (.ireturn, 1) := by decide +kernel
theorem dX6_isWord_0 : decode cX6_isWord 0 = .ok (.aload_n 0, 1) := by decide +kernel
theorem dX6_isWord_1 : decode cX6_isWord 1 = .ok (.getfield 29, 3) := by decide +kernel
theorem dX6_isWord_4 : decode cX6_isWord 4 = .ok (.iconst 1, 1) := by decide +kernel
theorem dX6_isWord_5 : decode cX6_isWord 5 = .ok (.if_icmp .ne 19, 3) := by decide +kernel
theorem dX6_isWord_8 : decode cX6_isWord 8 = .ok (.aload_n 0, 1) := by decide +kernel
theorem dX6_isWord_9 : decode cX6_isWord 9 = .ok (.getfield 19, 3) := by decide +kernel
theorem dX6_isWord_12 : decode cX6_isWord 12 = .ok (.aload_n 0, 1) := by decide +kernel
theorem dX6_isWord_13 : decode cX6_isWord 13 = .ok (.getfield 43, 3) := by decide +kernel
theorem dX6_isWord_16 : decode cX6_isWord 16 = .ok (.isub, 1) := by decide +kernel
theorem dX6_isWord_17 : decode cX6_isWord 17 = .ok (.aload_n 1, 1) := by decide +kernel
theorem dX6_isWord_18 : decode cX6_isWord 18 = .ok (.invokevirtual 135, 3) := by decide +kernel
theorem dX6_isWord_21 : decode cX6_isWord 21 = .ok (.if_icmp .eq 5, 3) := by decide +kernel
theorem dX6_isWord_24 : decode cX6_isWord 24 = .ok (.iconst 0, 1) := by decide +kernel
theorem dX6_isWord_25 : decode cX6_isWord 25 = .ok (.ireturn, 1) := by decide +kernel
theorem dX6_isWord_26 : decode cX6_isWord 26 = .ok (.iconst 0, 1) := by decide +kernel
theorem dX6_isWord_27 : decode cX6_isWord 27 = .ok (.istore_n 2, 1) := by decide +kernel
theorem dX6_isWord_28 : decode cX6_isWord 28 = .ok (.iload_n 2, 1) := by decide +kernel
theorem dX6_isWord_29 : decode cX6_isWord 29 = .ok (.aload_n 1, 1) := by decide +kernel
theorem dX6_isWord_30 : decode cX6_isWord 30 = .ok (.invokevirtual 135, 3) := by decide +kernel
theorem dX6_isWord_33 : decode cX6_isWord 33 = .ok (.if_icmp .ge 30, 3) := by decide +kernel
theorem dX6_isWord_36 : decode cX6_isWord 36 = .ok (.aload_n 0, 1) := by decide +kernel
theorem dX6_isWord_37 : decode cX6_isWord 37 = .ok (.getfield 9, 3) := by decide +kernel
theorem dX6_isWord_40 : decode cX6_isWord 40 = .ok (.aload_n 0, 1) := by decide +kernel
theorem dX6_isWord_41 : decode cX6_isWord 41 = .ok (.getfield 43, 3) := by decide +kernel
theorem dX6_isWord_44 : decode cX6_isWord 44 = .ok (.iload_n 2, 1) := by decide +kernel
theorem dX6_isWord_45 : decode cX6_isWord 45 = .ok (.iadd, 1) := by decide +kernel
theorem dX6_isWord_46 : decode cX6_isWord 46 = .ok (.iaload, 1) := by decide +kernel
theorem dX6_isWord_47 : decode cX6_isWord 47 = .ok (.aload_n 1, 1) := by decide +kernel
theorem dX6_isWord_48 : decode cX6_isWord 48 = .ok (.iload_n 2, 1) := by decide +kernel
theorem dX6_isWord_49 : decode cX6_isWord 49 = .ok (.invokevirtual 139, 3) := by decide +kernel
theorem dX6_isWord_52 : decode cX6_isWord 52 = .ok (.if_icmp .eq 5, 3) := by decide +kernel
theorem dX6_isWord_55 : decode cX6_isWord 55 = .ok (.iconst 0, 1) := by decide +kernel
theorem dX6_isWord_56 : decode cX6_isWord 56 = .ok (.ireturn, 1) := by decide +kernel
theorem dX6_isWord_57 : decode cX6_isWord 57 = .ok (.iinc 2 1, 3) := by decide +kernel
theorem dX6_isWord_60 : decode cX6_isWord 60 = .ok (.goto (-32), 3) := by decide +kernel
theorem dX6_isWord_63 : decode cX6_isWord 63 = .ok (.iconst 1, 1) := by decide +kernel
theorem dX6_isWord_64 : decode cX6_isWord 64 = .ok (.ireturn, 1) := by decide +kernel
theorem dX6_pass_0 : decode cX6_pass 0 = .ok (.aload_n 0, 1) := by decide +kernel
theorem dX6_pass_1 : decode cX6_pass 1 = .ok (.aload_n 1, 1) := by decide +kernel
theorem dX6_pass_2 : decode cX6_pass 2 = .ok (.invokevirtual 56, 3) := by decide +kernel
theorem dX6_pass_5 : decode cX6_pass 5 = .ok (.istore_n 2, 1) := by decide +kernel
theorem dX6_pass_6 : decode cX6_pass 6 = .ok (.iload_n 2, 1) := by decide +kernel
theorem dX6_pass_7 : decode cX6_pass 7 = .ok (.ifCond .eq 7, 3) := by decide +kernel
theorem dX6_pass_10 : decode cX6_pass 10 = .ok (.aload_n 0, 1) := by decide +kernel
theorem dX6_pass_11 : decode cX6_pass 11 = .ok (.invokevirtual 22, 3) := by decide +kernel
theorem dX6_pass_14 : decode cX6_pass 14 = .ok (.iload_n 2, 1) := by decide +kernel
theorem dX6_pass_15 : decode cX6_pass 15 = .ok (.ireturn, 1) := by decide +kernel
theorem dX6_passNumber_0 : decode cX6_passNumber 0 = .ok (.aload_n 0, 1) := by decide +kernel
theorem dX6_passNumber_1 : decode cX6_passNumber 1 = .ok (.getfield 29, 3) := by decide +kernel
theorem dX6_passNumber_4 : decode cX6_passNumber 4 = .ok (.iconst 2, 1) := by decide +kernel
theorem dX6_passNumber_5 : decode cX6_passNumber 5 = .ok (.if_icmp .ne 15, 3) := by decide +kernel
theorem dX6_passNumber_8 : decode cX6_passNumber 8 = .ok (.aload_n 0, 1) := by decide +kernel
theorem dX6_passNumber_9 : decode cX6_passNumber 9 = .ok (.getfield 143, 3) := by decide +kernel
theorem dX6_passNumber_12 : decode cX6_passNumber 12 = .ok (.iload_n 1, 1) := by decide +kernel
theorem dX6_passNumber_13 : decode cX6_passNumber 13 = .ok (.iload_n 2, 1) := by decide +kernel
theorem dX6_passNumber_14 : decode cX6_passNumber 14 = .ok (.invokestatic 146, 3) := by decide +kernel
theorem dX6_passNumber_17 : decode cX6_passNumber 17 = .ok (.ifCond .ne 5, 3) := by decide +kernel
theorem dX6_passNumber_20 : decode cX6_passNumber 20 = .ok (.iconst (-1), 1) := by decide +kernel
theorem dX6_passNumber_21 : decode cX6_passNumber 21 = .ok (.ireturn, 1) := by decide +kernel
theorem dX6_passNumber_22 : decode cX6_passNumber 22 = .ok (.aload_n 0, 1) := by decide +kernel
theorem dX6_passNumber_23 : decode cX6_passNumber 23 = .ok (.getfield 143, 3) := by decide +kernel
theorem dX6_passNumber_26 : decode cX6_passNumber 26 = .ok (.istore_n 3, 1) := by decide +kernel
theorem dX6_passNumber_27 : decode cX6_passNumber 27 = .ok (.aload_n 0, 1) := by decide +kernel
theorem dX6_passNumber_28 : decode cX6_passNumber 28 = .ok (.invokevirtual 22, 3) := by decide +kernel
theorem dX6_passNumber_31 : decode cX6_passNumber 31 = .ok (.iload_n 3, 1) := by decide +kernel
theorem dX6_passNumber_32 : decode cX6_passNumber 32 = .ok (.ireturn, 1) := by decide +kernel
theorem dX6_passOtherPlace_0 : decode cX6_passOtherPlace 0 = .ok (.aload_n 0, 1) := by decide +kernel
theorem dX6_passOtherPlace_1 : decode cX6_passOtherPlace 1 = .ok (.getfield 29, 3) := by decide +kernel
theorem dX6_passOtherPlace_4 : decode cX6_passOtherPlace 4 = .ok (.iconst 2, 1) := by decide +kernel
theorem dX6_passOtherPlace_5 : decode cX6_passOtherPlace 5 = .ok (.if_icmp .ne 20, 3) := by decide +kernel
theorem dX6_passOtherPlace_8 : decode cX6_passOtherPlace 8 = .ok (.aload_n 0, 1) := by decide +kernel
theorem dX6_passOtherPlace_9 : decode cX6_passOtherPlace 9 = .ok (.getfield 143, 3) := by decide +kernel
theorem dX6_passOtherPlace_12 : decode cX6_passOtherPlace 12 = .ok (.iload_n 1, 1) := by decide +kernel
theorem dX6_passOtherPlace_13 : decode cX6_passOtherPlace 13 = .ok (.if_icmp .eq 12, 3) := by decide +kernel
theorem dX6_passOtherPlace_16 : decode cX6_passOtherPlace 16 = .ok (.aload_n 0, 1) := by decide +kernel
theorem dX6_passOtherPlace_17 : decode cX6_passOtherPlace 17 = .ok (.getfield 143, 3) := by decide +kernel
theorem dX6_passOtherPlace_20 : decode cX6_passOtherPlace 20 = .ok (.bipush 7, 2) := by decide +kernel
theorem dX6_passOtherPlace_22 : decode cX6_passOtherPlace 22 = .ok (.if_icmp .lt 5, 3) := by decide +kernel
theorem dX6_passOtherPlace_25 : decode cX6_passOtherPlace 25 = .ok (.iconst (-1), 1) := by decide +kernel
theorem dX6_passOtherPlace_26 : decode cX6_passOtherPlace 26 = .ok (.ireturn, 1) := by decide +kernel
theorem dX6_passOtherPlace_27 : decode cX6_passOtherPlace 27 = .ok (.aload_n 0, 1) := by decide +kernel
theorem dX6_passOtherPlace_28 : decode cX6_passOtherPlace 28 = .ok (.getfield 143, 3) := by decide +kernel
theorem dX6_passOtherPlace_31 : decode cX6_passOtherPlace 31 = .ok (.istore_n 2, 1) := by decide +kernel
theorem dX6_passOtherPlace_32 : decode cX6_passOtherPlace 32 = .ok (.aload_n 0, 1) := by decide +kernel
theorem dX6_passOtherPlace_33 : decode cX6_passOtherPlace 33 = .ok (.invokevirtual 22, 3) := by decide +kernel
theorem dX6_passOtherPlace_36 : decode cX6_passOtherPlace 36 = .ok (.iload_n 2, 1) := by decide +kernel
theorem dX6_passOtherPlace_37 : decode cX6_passOtherPlace 37 = .ok (.ireturn, 1) := by decide +kernel
theorem dX6_goOn_0 : decode cX6_goOn 0 = .ok (.aload_n 0, 1) := by decide +kernel
theorem dX6_goOn_1 : decode cX6_goOn 1 = .ok (.aload_n 0, 1) := by decide +kernel
theorem dX6_goOn_2 : decode cX6_goOn 2 = .ok (.getfield 19, 3) := by decide +kernel
theorem dX6_goOn_5 : decode cX6_goOn 5 = .ok (.putfield 43, 3) := by decide +kernel
theorem dX6_goOn_8 : decode cX6_goOn 8 = .ok (.aload_n 0, 1) := by decide +kernel
theorem dX6_goOn_9 : decode cX6_goOn 9 = .ok (.getfield 43, 3) := by decide +kernel
theorem dX6_goOn_12 : decode cX6_goOn 12 = .ok (.aload_n 0, 1) := by decide +kernel
theorem dX6_goOn_13 : decode cX6_goOn 13 = .ok (.getfield 15, 3) := by decide +kernel
theorem dX6_goOn_16 : decode cX6_goOn 16 = .ok (.if_icmp .ge 30, 3) := by decide +kernel
theorem dX6_goOn_19 : decode cX6_goOn 19 = .ok (.aload_n 0, 1) := by decide +kernel
theorem dX6_goOn_20 : decode cX6_goOn 20 = .ok (.getfield 9, 3) := by decide +kernel
theorem dX6_goOn_23 : decode cX6_goOn 23 = .ok (.aload_n 0, 1) := by decide +kernel
theorem dX6_goOn_24 : decode cX6_goOn 24 = .ok (.getfield 43, 3) := by decide +kernel
theorem dX6_goOn_27 : decode cX6_goOn 27 = .ok (.iaload, 1) := by decide +kernel
theorem dX6_goOn_28 : decode cX6_goOn 28 = .ok (.bipush 32, 2) := by decide +kernel
theorem dX6_goOn_30 : decode cX6_goOn 30 = .ok (.if_icmp .ne 16, 3) := by decide +kernel
theorem dX6_goOn_33 : decode cX6_goOn 33 = .ok (.aload_n 0, 1) := by decide +kernel
theorem dX6_goOn_34 : decode cX6_goOn 34 = .ok (.dup, 1) := by decide +kernel
theorem dX6_goOn_35 : decode cX6_goOn 35 = .ok (.getfield 43, 3) := by decide +kernel
theorem dX6_goOn_38 : decode cX6_goOn 38 = .ok (.iconst 1, 1) := by decide +kernel
theorem dX6_goOn_39 : decode cX6_goOn 39 = .ok (.iadd, 1) := by decide +kernel
theorem dX6_goOn_40 : decode cX6_goOn 40 = .ok (.putfield 43, 3) := by decide +kernel
theorem dX6_goOn_43 : decode cX6_goOn 43 = .ok (.goto (-35), 3) := by decide +kernel
theorem dX6_goOn_46 : decode cX6_goOn 46 = .ok (.aload_n 0, 1) := by decide +kernel
theorem dX6_goOn_47 : decode cX6_goOn 47 = .ok (.aload_n 0, 1) := by decide +kernel
theorem dX6_goOn_48 : decode cX6_goOn 48 = .ok (.getfield 43, 3) := by decide +kernel
theorem dX6_goOn_51 : decode cX6_goOn 51 = .ok (.putfield 19, 3) := by decide +kernel
theorem dX6_goOn_54 : decode cX6_goOn 54 = .ok (.aload_n 0, 1) := by decide +kernel
theorem dX6_goOn_55 : decode cX6_goOn 55 = .ok (.iconst 0, 1) := by decide +kernel
theorem dX6_goOn_56 : decode cX6_goOn 56 = .ok (.putfield 143, 3) := by decide +kernel
theorem dX6_goOn_59 : decode cX6_goOn 59 = .ok (.aload_n 0, 1) := by decide +kernel
theorem dX6_goOn_60 : decode cX6_goOn 60 = .ok (.aload_n 0, 1) := by decide +kernel
theorem dX6_goOn_61 : decode cX6_goOn 61 = .ok (.getfield 43, 3) := by decide +kernel
theorem dX6_goOn_64 : decode cX6_goOn 64 = .ok (.aload_n 0, 1) := by decide +kernel
theorem dX6_goOn_65 : decode cX6_goOn 65 = .ok (.getfield 15, 3) := by decide +kernel
theorem dX6_goOn_68 : decode cX6_goOn 68 = .ok (.if_icmp .ge 18, 3) := by decide +kernel
theorem dX6_goOn_71 : decode cX6_goOn 71 = .ok (.aload_n 0, 1) := by decide +kernel
theorem dX6_goOn_72 : decode cX6_goOn 72 = .ok (.getfield 9, 3) := by decide +kernel
theorem dX6_goOn_75 : decode cX6_goOn 75 = .ok (.aload_n 0, 1) := by decide +kernel
theorem dX6_goOn_76 : decode cX6_goOn 76 = .ok (.getfield 43, 3) := by decide +kernel
theorem dX6_goOn_79 : decode cX6_goOn 79 = .ok (.iaload, 1) := by decide +kernel
theorem dX6_goOn_80 : decode cX6_goOn 80 = .ok (.invokestatic 150, 3) := by decide +kernel
theorem dX6_goOn_83 : decode cX6_goOn 83 = .ok (.goto 4, 3) := by decide +kernel
theorem dX6_goOn_86 : decode cX6_goOn 86 = .ok (.iconst 0, 1) := by decide +kernel
theorem dX6_goOn_87 : decode cX6_goOn 87 = .ok (.putfield 29, 3) := by decide +kernel
theorem dX6_goOn_90 : decode cX6_goOn 90 = .ok (.aload_n 0, 1) := by decide +kernel
theorem dX6_goOn_91 : decode cX6_goOn 91 = .ok (.getfield 19, 3) := by decide +kernel
theorem dX6_goOn_94 : decode cX6_goOn 94 = .ok (.aload_n 0, 1) := by decide +kernel
theorem dX6_goOn_95 : decode cX6_goOn 95 = .ok (.getfield 15, 3) := by decide +kernel
theorem dX6_goOn_98 : decode cX6_goOn 98 = .ok (.if_icmp .ge 79, 3) := by decide +kernel
theorem dX6_goOn_101 : decode cX6_goOn 101 = .ok (.aload_n 0, 1) := by decide +kernel
theorem dX6_goOn_102 : decode cX6_goOn 102 = .ok (.getfield 9, 3) := by decide +kernel
theorem dX6_goOn_105 : decode cX6_goOn 105 = .ok (.aload_n 0, 1) := by decide +kernel
theorem dX6_goOn_106 : decode cX6_goOn 106 = .ok (.getfield 19, 3) := by decide +kernel
theorem dX6_goOn_109 : decode cX6_goOn 109 = .ok (.iaload, 1) := by decide +kernel
theorem dX6_goOn_110 : decode cX6_goOn 110 = .ok (.invokestatic 150, 3) := by decide +kernel
theorem dX6_goOn_113 : decode cX6_goOn 113 = .ok (.aload_n 0, 1) := by decide +kernel
theorem dX6_goOn_114 : decode cX6_goOn 114 = .ok (.getfield 29, 3) := by decide +kernel
theorem dX6_goOn_117 : decode cX6_goOn 117 = .ok (.if_icmp .ne 60, 3) := by decide +kernel
theorem dX6_goOn_120 : decode cX6_goOn 120 = .ok (.aload_n 0, 1) := by decide +kernel
theorem dX6_goOn_121 : decode cX6_goOn 121 = .ok (.aload_n 0, 1) := by decide +kernel
theorem dX6_goOn_122 : decode cX6_goOn 122 = .ok (.getfield 143, 3) := by decide +kernel
theorem dX6_goOn_125 : decode cX6_goOn 125 = .ok (.bipush 10, 2) := by decide +kernel
theorem dX6_goOn_127 : decode cX6_goOn 127 = .ok (.imul, 1) := by decide +kernel
theorem dX6_goOn_128 : decode cX6_goOn 128 = .ok (.aload_n 0, 1) := by decide +kernel
theorem dX6_goOn_129 : decode cX6_goOn 129 = .ok (.getfield 9, 3) := by decide +kernel
theorem dX6_goOn_132 : decode cX6_goOn 132 = .ok (.aload_n 0, 1) := by decide +kernel
theorem dX6_goOn_133 : decode cX6_goOn 133 = .ok (.getfield 19, 3) := by decide +kernel
theorem dX6_goOn_136 : decode cX6_goOn 136 = .ok (.iaload, 1) := by decide +kernel
theorem dX6_goOn_137 : decode cX6_goOn 137 = .ok (.iadd, 1) := by decide +kernel
theorem dX6_goOn_138 : decode cX6_goOn 138 = .ok (.bipush 48, 2) := by decide +kernel
theorem dX6_goOn_140 : decode cX6_goOn 140 = .ok (.isub, 1) := by decide +kernel
theorem dX6_goOn_141 : decode cX6_goOn 141 = .ok (.sipush 10000, 3) := by decide +kernel
theorem dX6_goOn_144 : decode cX6_goOn 144 = .ok (.invokestatic 153, 3) := by decide +kernel
theorem dX6_goOn_147 : decode cX6_goOn 147 = .ok (.putfield 143, 3) := by decide +kernel
theorem dX6_goOn_150 : decode cX6_goOn 150 = .ok (.aload_n 0, 1) := by decide +kernel
theorem dX6_goOn_151 : decode cX6_goOn 151 = .ok (.dup, 1) := by decide +kernel
theorem dX6_goOn_152 : decode cX6_goOn 152 = .ok (.getfield 19, 3) := by decide +kernel
theorem dX6_goOn_155 : decode cX6_goOn 155 = .ok (.iconst 1, 1) := by decide +kernel
theorem dX6_goOn_156 : decode cX6_goOn 156 = .ok (.iadd, 1) := by decide +kernel
theorem dX6_goOn_157 : decode cX6_goOn 157 = .ok (.putfield 19, 3) := by decide +kernel
theorem dX6_goOn_160 : decode cX6_goOn 160 = .ok (.aload_n 0, 1) := by decide +kernel
theorem dX6_goOn_161 : decode cX6_goOn 161 = .ok (.getfield 29, 3) := by decide +kernel
theorem dX6_goOn_164 : decode cX6_goOn 164 = .ok (.iconst 3, 1) := by decide +kernel
theorem dX6_goOn_165 : decode cX6_goOn 165 = .ok (.if_icmp .eq 11, 3) := by decide +kernel
theorem dX6_goOn_168 : decode cX6_goOn 168 = .ok (.aload_n 0, 1) := by decide +kernel
theorem dX6_goOn_169 : decode cX6_goOn 169 = .ok (.getfield 29, 3) := by decide +kernel
theorem dX6_goOn_172 : decode cX6_goOn 172 = .ok (.iconst 4, 1) := by decide +kernel
theorem dX6_goOn_173 : decode cX6_goOn 173 = .ok (.if_icmp .ne (-83), 3) := by decide +kernel
theorem dX6_goOn_176 : decode cX6_goOn 176 = .ok (.return_, 1) := by decide +kernel
theorem dX6_goOn_177 : decode cX6_goOn 177 = .ok (.return_, 1) := by decide +kernel
theorem dX6_sortOf_0 : decode cX6_sortOf 0 = .ok (.iload_n 0, 1) := by decide +kernel
theorem dX6_sortOf_1 : decode cX6_sortOf 1 = .ok (.bipush 97, 2) := by decide +kernel
theorem dX6_sortOf_3 : decode cX6_sortOf 3 = .ok (.if_icmp .lt 11, 3) := by decide +kernel
theorem dX6_sortOf_6 : decode cX6_sortOf 6 = .ok (.iload_n 0, 1) := by decide +kernel
theorem dX6_sortOf_7 : decode cX6_sortOf 7 = .ok (.bipush 122, 2) := by decide +kernel
theorem dX6_sortOf_9 : decode cX6_sortOf 9 = .ok (.if_icmp .gt 5, 3) := by decide +kernel
theorem dX6_sortOf_12 : decode cX6_sortOf 12 = .ok (.iconst 1, 1) := by decide +kernel
theorem dX6_sortOf_13 : decode cX6_sortOf 13 = .ok (.ireturn, 1) := by decide +kernel
theorem dX6_sortOf_14 : decode cX6_sortOf 14 = .ok (.iload_n 0, 1) := by decide +kernel
theorem dX6_sortOf_15 : decode cX6_sortOf 15 = .ok (.bipush 48, 2) := by decide +kernel
theorem dX6_sortOf_17 : decode cX6_sortOf 17 = .ok (.if_icmp .lt 11, 3) := by decide +kernel
theorem dX6_sortOf_20 : decode cX6_sortOf 20 = .ok (.iload_n 0, 1) := by decide +kernel
theorem dX6_sortOf_21 : decode cX6_sortOf 21 = .ok (.bipush 57, 2) := by decide +kernel
theorem dX6_sortOf_23 : decode cX6_sortOf 23 = .ok (.if_icmp .gt 5, 3) := by decide +kernel
theorem dX6_sortOf_26 : decode cX6_sortOf 26 = .ok (.iconst 2, 1) := by decide +kernel
theorem dX6_sortOf_27 : decode cX6_sortOf 27 = .ok (.ireturn, 1) := by decide +kernel
theorem dX6_sortOf_28 : decode cX6_sortOf 28 = .ok (.iload_n 0, 1) := by decide +kernel
theorem dX6_sortOf_29 : decode cX6_sortOf 29 = .ok (.bipush 59, 2) := by decide +kernel
theorem dX6_sortOf_31 : decode cX6_sortOf 31 = .ok (.if_icmp .ne 7, 3) := by decide +kernel
theorem dX6_sortOf_34 : decode cX6_sortOf 34 = .ok (.iconst 3, 1) := by decide +kernel
theorem dX6_sortOf_35 : decode cX6_sortOf 35 = .ok (.goto 4, 3) := by decide +kernel
theorem dX6_sortOf_38 : decode cX6_sortOf 38 = .ok (.iconst 4, 1) := by decide +kernel
theorem dX6_sortOf_39 : decode cX6_sortOf 39 = .ok (.ireturn, 1) := by decide +kernel
theorem dX7_init_0 : decode cX7_init 0 = .ok (.aload_n 0, 1) := by decide +kernel
theorem dX7_init_1 : decode cX7_init 1 = .ok (.invokespecial 1, 3) := by decide +kernel
theorem dX7_init_4 : decode cX7_init 4 = .ok (.return_, 1) := by decide +kernel
theorem dX8_init_0 : decode cX8_init 0 = .ok (.aload_n 0, 1) := by decide +kernel
theorem dX8_init_1 : decode cX8_init 1 = .ok (.invokespecial 3, 3) := by decide +kernel
theorem dX8_init_4 : decode cX8_init 4 = .ok (.aload_n 0, 1) := by decide +kernel
theorem dX8_init_5 : decode cX8_init 5 = .ok (.bipush 49, 2) := by decide +kernel
theorem dX8_init_7 : decode cX8_init 7 = .ok (.newarray .int, 2) := by decide +kernel
theorem dX8_init_9 : decode cX8_init 9 = .ok (.putfield 9, 3) := by decide +kernel
theorem dX8_init_12 : decode cX8_init 12 = .ok (.aload_n 0, 1) := by decide +kernel
theorem dX8_init_13 : decode cX8_init 13 = .ok (.bipush 49, 2) := by decide +kernel
theorem dX8_init_15 : decode cX8_init 15 = .ok (.newarray .int, 2) := by decide +kernel
theorem dX8_init_17 : decode cX8_init 17 = .ok (.putfield 15, 3) := by decide +kernel
theorem dX8_init_20 : decode cX8_init 20 = .ok (.aload_n 0, 1) := by decide +kernel
theorem dX8_init_21 : decode cX8_init 21 = .ok (.iconst 3, 1) := by decide +kernel
theorem dX8_init_22 : decode cX8_init 22 = .ok (.bipush 49, 2) := by decide +kernel
theorem dX8_init_24 : decode cX8_init 24 = .ok (.multianewarray 20 2, 4) := by decide +kernel
theorem dX8_init_28 : decode cX8_init 28 = .ok (.putfield 22, 3) := by decide +kernel
theorem dX8_init_31 : decode cX8_init 31 = .ok (.aload_n 0, 1) := by decide +kernel
theorem dX8_init_32 : decode cX8_init 32 = .ok (.invokevirtual 25, 3) := by decide +kernel
theorem dX8_init_35 : decode cX8_init 35 = .ok (.return_, 1) := by decide +kernel
theorem dX8_yardsOf_0 : decode cX8_yardsOf 0 = .ok (.aload_n 0, 1) := by decide +kernel
theorem dX8_yardsOf_1 : decode cX8_yardsOf 1 = .ok (.getfield 9, 3) := by decide +kernel
theorem dX8_yardsOf_4 : decode cX8_yardsOf 4 = .ok (.iload_n 1, 1) := by decide +kernel
theorem dX8_yardsOf_5 : decode cX8_yardsOf 5 = .ok (.bipush 7, 2) := by decide +kernel
theorem dX8_yardsOf_7 : decode cX8_yardsOf 7 = .ok (.imul, 1) := by decide +kernel
theorem dX8_yardsOf_8 : decode cX8_yardsOf 8 = .ok (.iload_n 2, 1) := by decide +kernel
theorem dX8_yardsOf_9 : decode cX8_yardsOf 9 = .ok (.iadd, 1) := by decide +kernel
theorem dX8_yardsOf_10 : decode cX8_yardsOf 10 = .ok (.iaload, 1) := by decide +kernel
theorem dX8_yardsOf_11 : decode cX8_yardsOf 11 = .ok (.ireturn, 1) := by decide +kernel
theorem dX8_riverOf_0 : decode cX8_riverOf 0 = .ok (.aload_n 0, 1) := by decide +kernel
theorem dX8_riverOf_1 : decode cX8_riverOf 1 = .ok (.getfield 15, 3) := by decide +kernel
theorem dX8_riverOf_4 : decode cX8_riverOf 4 = .ok (.iload_n 1, 1) := by decide +kernel
theorem dX8_riverOf_5 : decode cX8_riverOf 5 = .ok (.bipush 7, 2) := by decide +kernel
theorem dX8_riverOf_7 : decode cX8_riverOf 7 = .ok (.imul, 1) := by decide +kernel
theorem dX8_riverOf_8 : decode cX8_riverOf 8 = .ok (.iload_n 2, 1) := by decide +kernel
theorem dX8_riverOf_9 : decode cX8_riverOf 9 = .ok (.iadd, 1) := by decide +kernel
theorem dX8_riverOf_10 : decode cX8_riverOf 10 = .ok (.iaload, 1) := by decide +kernel
theorem dX8_riverOf_11 : decode cX8_riverOf 11 = .ok (.ireturn, 1) := by decide +kernel
theorem dX8_lay_0 : decode cX8_lay 0 = .ok (.aload_n 0, 1) := by decide +kernel
theorem dX8_lay_1 : decode cX8_lay 1 = .ok (.getfield 9, 3) := by decide +kernel
theorem dX8_lay_4 : decode cX8_lay 4 = .ok (.iload_n 1, 1) := by decide +kernel
theorem dX8_lay_5 : decode cX8_lay 5 = .ok (.bipush 7, 2) := by decide +kernel
theorem dX8_lay_7 : decode cX8_lay 7 = .ok (.imul, 1) := by decide +kernel
theorem dX8_lay_8 : decode cX8_lay 8 = .ok (.iload_n 2, 1) := by decide +kernel
theorem dX8_lay_9 : decode cX8_lay 9 = .ok (.iadd, 1) := by decide +kernel
theorem dX8_lay_10 : decode cX8_lay 10 = .ok (.iload_n 3, 1) := by decide +kernel
theorem dX8_lay_11 : decode cX8_lay 11 = .ok (.iastore, 1) := by decide +kernel
theorem dX8_lay_12 : decode cX8_lay 12 = .ok (.aload_n 0, 1) := by decide +kernel
theorem dX8_lay_13 : decode cX8_lay 13 = .ok (.getfield 9, 3) := by decide +kernel
theorem dX8_lay_16 : decode cX8_lay 16 = .ok (.iload_n 2, 1) := by decide +kernel
theorem dX8_lay_17 : decode cX8_lay 17 = .ok (.bipush 7, 2) := by decide +kernel
theorem dX8_lay_19 : decode cX8_lay 19 = .ok (.imul, 1) := by decide +kernel
theorem dX8_lay_20 : decode cX8_lay 20 = .ok (.iload_n 1, 1) := by decide +kernel
theorem dX8_lay_21 : decode cX8_lay 21 = .ok (.iadd, 1) := by decide +kernel
theorem dX8_lay_22 : decode cX8_lay 22 = .ok (.iload_n 3, 1) := by decide +kernel
theorem dX8_lay_23 : decode cX8_lay 23 = .ok (.iastore, 1) := by decide +kernel
theorem dX8_lay_24 : decode cX8_lay 24 = .ok (.aload_n 0, 1) := by decide +kernel
theorem dX8_lay_25 : decode cX8_lay 25 = .ok (.getfield 15, 3) := by decide +kernel
theorem dX8_lay_28 : decode cX8_lay 28 = .ok (.iload_n 1, 1) := by decide +kernel
theorem dX8_lay_29 : decode cX8_lay 29 = .ok (.bipush 7, 2) := by decide +kernel
theorem dX8_lay_31 : decode cX8_lay 31 = .ok (.imul, 1) := by decide +kernel
theorem dX8_lay_32 : decode cX8_lay 32 = .ok (.iload_n 2, 1) := by decide +kernel
theorem dX8_lay_33 : decode cX8_lay 33 = .ok (.iadd, 1) := by decide +kernel
theorem dX8_lay_34 : decode cX8_lay 34 = .ok (.iload 4, 2) := by decide +kernel
theorem dX8_lay_36 : decode cX8_lay 36 = .ok (.iastore, 1) := by decide +kernel
theorem dX8_lay_37 : decode cX8_lay 37 = .ok (.aload_n 0, 1) := by decide +kernel
theorem dX8_lay_38 : decode cX8_lay 38 = .ok (.getfield 15, 3) := by decide +kernel
theorem dX8_lay_41 : decode cX8_lay 41 = .ok (.iload_n 2, 1) := by decide +kernel
theorem dX8_lay_42 : decode cX8_lay 42 = .ok (.bipush 7, 2) := by decide +kernel
theorem dX8_lay_44 : decode cX8_lay 44 = .ok (.imul, 1) := by decide +kernel
theorem dX8_lay_45 : decode cX8_lay 45 = .ok (.iload_n 1, 1) := by decide +kernel
theorem dX8_lay_46 : decode cX8_lay 46 = .ok (.iadd, 1) := by decide +kernel
theorem dX8_lay_47 : decode cX8_lay 47 = .ok (.iload 4, 2) := by decide +kernel
theorem dX8_lay_49 : decode cX8_lay 49 = .ok (.iastore, 1) := by decide +kernel
theorem dX8_lay_50 : decode cX8_lay 50 = .ok (.return_, 1) := by decide +kernel
theorem dX8_measure_0 : decode cX8_measure 0 = .ok (.iconst 0, 1) := by decide +kernel
theorem dX8_measure_1 : decode cX8_measure 1 = .ok (.istore_n 1, 1) := by decide +kernel
theorem dX8_measure_2 : decode cX8_measure 2 = .ok (.iload_n 1, 1) := by decide +kernel
theorem dX8_measure_3 : decode cX8_measure 3 = .ok (.iconst 3, 1) := by decide +kernel
theorem dX8_measure_4 : decode cX8_measure 4 = .ok (.if_icmp .ge 14, 3) := by decide +kernel
theorem dX8_measure_7 : decode cX8_measure 7 = .ok (.aload_n 0, 1) := by decide +kernel
theorem dX8_measure_8 : decode cX8_measure 8 = .ok (.iload_n 1, 1) := by decide +kernel
theorem dX8_measure_9 : decode cX8_measure 9 = .ok (.invokevirtual 28, 3) := by decide +kernel
theorem dX8_measure_12 : decode cX8_measure 12 = .ok (.iinc 1 1, 3) := by decide +kernel
theorem dX8_measure_15 : decode cX8_measure 15 = .ok (.goto (-13), 3) := by decide +kernel
theorem dX8_measure_18 : decode cX8_measure 18 = .ok (.return_, 1) := by decide +kernel
theorem dX8_become_0 : decode cX8_become 0 = .ok (.aload_n 1, 1) := by decide +kernel
theorem dX8_become_1 : decode cX8_become 1 = .ok (.getfield 9, 3) := by decide +kernel
theorem dX8_become_4 : decode cX8_become 4 = .ok (.iconst 0, 1) := by decide +kernel
theorem dX8_become_5 : decode cX8_become 5 = .ok (.aload_n 0, 1) := by decide +kernel
theorem dX8_become_6 : decode cX8_become 6 = .ok (.getfield 9, 3) := by decide +kernel
theorem dX8_become_9 : decode cX8_become 9 = .ok (.iconst 0, 1) := by decide +kernel
theorem dX8_become_10 : decode cX8_become 10 = .ok (.bipush 49, 2) := by decide +kernel
theorem dX8_become_12 : decode cX8_become 12 = .ok (.invokestatic 32, 3) := by decide +kernel
theorem dX8_become_15 : decode cX8_become 15 = .ok (.aload_n 1, 1) := by decide +kernel
theorem dX8_become_16 : decode cX8_become 16 = .ok (.getfield 15, 3) := by decide +kernel
theorem dX8_become_19 : decode cX8_become 19 = .ok (.iconst 0, 1) := by decide +kernel
theorem dX8_become_20 : decode cX8_become 20 = .ok (.aload_n 0, 1) := by decide +kernel
theorem dX8_become_21 : decode cX8_become 21 = .ok (.getfield 15, 3) := by decide +kernel
theorem dX8_become_24 : decode cX8_become 24 = .ok (.iconst 0, 1) := by decide +kernel
theorem dX8_become_25 : decode cX8_become 25 = .ok (.bipush 49, 2) := by decide +kernel
theorem dX8_become_27 : decode cX8_become 27 = .ok (.invokestatic 32, 3) := by decide +kernel
theorem dX8_become_30 : decode cX8_become 30 = .ok (.iconst 0, 1) := by decide +kernel
theorem dX8_become_31 : decode cX8_become 31 = .ok (.istore_n 2, 1) := by decide +kernel
theorem dX8_become_32 : decode cX8_become 32 = .ok (.iload_n 2, 1) := by decide +kernel
theorem dX8_become_33 : decode cX8_become 33 = .ok (.iconst 3, 1) := by decide +kernel
theorem dX8_become_34 : decode cX8_become 34 = .ok (.if_icmp .ge 28, 3) := by decide +kernel
theorem dX8_become_37 : decode cX8_become 37 = .ok (.aload_n 1, 1) := by decide +kernel
theorem dX8_become_38 : decode cX8_become 38 = .ok (.getfield 22, 3) := by decide +kernel
theorem dX8_become_41 : decode cX8_become 41 = .ok (.iload_n 2, 1) := by decide +kernel
theorem dX8_become_42 : decode cX8_become 42 = .ok (.aaload, 1) := by decide +kernel
theorem dX8_become_43 : decode cX8_become 43 = .ok (.iconst 0, 1) := by decide +kernel
theorem dX8_become_44 : decode cX8_become 44 = .ok (.aload_n 0, 1) := by decide +kernel
theorem dX8_become_45 : decode cX8_become 45 = .ok (.getfield 22, 3) := by decide +kernel
theorem dX8_become_48 : decode cX8_become 48 = .ok (.iload_n 2, 1) := by decide +kernel
theorem dX8_become_49 : decode cX8_become 49 = .ok (.aaload, 1) := by decide +kernel
theorem dX8_become_50 : decode cX8_become 50 = .ok (.iconst 0, 1) := by decide +kernel
theorem dX8_become_51 : decode cX8_become 51 = .ok (.bipush 49, 2) := by decide +kernel
theorem dX8_become_53 : decode cX8_become 53 = .ok (.invokestatic 32, 3) := by decide +kernel
theorem dX8_become_56 : decode cX8_become 56 = .ok (.iinc 2 1, 3) := by decide +kernel
theorem dX8_become_59 : decode cX8_become 59 = .ok (.goto (-27), 3) := by decide +kernel
theorem dX8_become_62 : decode cX8_become 62 = .ok (.return_, 1) := by decide +kernel
theorem dX8_hasAny_0 : decode cX8_hasAny 0 = .ok (.iconst 0, 1) := by decide +kernel
theorem dX8_hasAny_1 : decode cX8_hasAny 1 = .ok (.istore_n 2, 1) := by decide +kernel
theorem dX8_hasAny_2 : decode cX8_hasAny 2 = .ok (.iload_n 2, 1) := by decide +kernel
theorem dX8_hasAny_3 : decode cX8_hasAny 3 = .ok (.bipush 7, 2) := by decide +kernel
theorem dX8_hasAny_5 : decode cX8_hasAny 5 = .ok (.if_icmp .ge 20, 3) := by decide +kernel
theorem dX8_hasAny_8 : decode cX8_hasAny 8 = .ok (.aload_n 0, 1) := by decide +kernel
theorem dX8_hasAny_9 : decode cX8_hasAny 9 = .ok (.iload_n 1, 1) := by decide +kernel
theorem dX8_hasAny_10 : decode cX8_hasAny 10 = .ok (.iload_n 2, 1) := by decide +kernel
theorem dX8_hasAny_11 : decode cX8_hasAny 11 = .ok (.invokevirtual 38, 3) := by decide +kernel
theorem dX8_hasAny_14 : decode cX8_hasAny 14 = .ok (.ifCond .le 5, 3) := by decide +kernel
theorem dX8_hasAny_17 : decode cX8_hasAny 17 = .ok (.iconst 1, 1) := by decide +kernel
theorem dX8_hasAny_18 : decode cX8_hasAny 18 = .ok (.ireturn, 1) := by decide +kernel
theorem dX8_hasAny_19 : decode cX8_hasAny 19 = .ok (.iinc 2 1, 3) := by decide +kernel
theorem dX8_hasAny_22 : decode cX8_hasAny 22 = .ok (.goto (-20), 3) := by decide +kernel
theorem dX8_hasAny_25 : decode cX8_hasAny 25 = .ok (.iconst 0, 1) := by decide +kernel
theorem dX8_hasAny_26 : decode cX8_hasAny 26 = .ok (.ireturn, 1) := by decide +kernel
theorem dX8_yardsFor_0 : decode cX8_yardsFor 0 = .ok (.aload_n 0, 1) := by decide +kernel
theorem dX8_yardsFor_1 : decode cX8_yardsFor 1 = .ok (.getfield 22, 3) := by decide +kernel
theorem dX8_yardsFor_4 : decode cX8_yardsFor 4 = .ok (.getstatic 42, 3) := by decide +kernel
theorem dX8_yardsFor_7 : decode cX8_yardsFor 7 = .ok (.iload_n 1, 1) := by decide +kernel
theorem dX8_yardsFor_8 : decode cX8_yardsFor 8 = .ok (.iaload, 1) := by decide +kernel
theorem dX8_yardsFor_9 : decode cX8_yardsFor 9 = .ok (.aaload, 1) := by decide +kernel
theorem dX8_yardsFor_10 : decode cX8_yardsFor 10 = .ok (.iload_n 2, 1) := by decide +kernel
theorem dX8_yardsFor_11 : decode cX8_yardsFor 11 = .ok (.bipush 7, 2) := by decide +kernel
theorem dX8_yardsFor_13 : decode cX8_yardsFor 13 = .ok (.imul, 1) := by decide +kernel
theorem dX8_yardsFor_14 : decode cX8_yardsFor 14 = .ok (.iload_n 3, 1) := by decide +kernel
theorem dX8_yardsFor_15 : decode cX8_yardsFor 15 = .ok (.iadd, 1) := by decide +kernel
theorem dX8_yardsFor_16 : decode cX8_yardsFor 16 = .ok (.iaload, 1) := by decide +kernel
theorem dX8_yardsFor_17 : decode cX8_yardsFor 17 = .ok (.ireturn, 1) := by decide +kernel
theorem dX8_farthest_0 : decode cX8_farthest 0 = .ok (.iconst 0, 1) := by decide +kernel
theorem dX8_farthest_1 : decode cX8_farthest 1 = .ok (.istore_n 3, 1) := by decide +kernel
theorem dX8_farthest_2 : decode cX8_farthest 2 = .ok (.iconst 0, 1) := by decide +kernel
theorem dX8_farthest_3 : decode cX8_farthest 3 = .ok (.istore 4, 2) := by decide +kernel
theorem dX8_farthest_5 : decode cX8_farthest 5 = .ok (.iload 4, 2) := by decide +kernel
theorem dX8_farthest_7 : decode cX8_farthest 7 = .ok (.bipush 7, 2) := by decide +kernel
theorem dX8_farthest_9 : decode cX8_farthest 9 = .ok (.if_icmp .ge 31, 3) := by decide +kernel
theorem dX8_farthest_12 : decode cX8_farthest 12 = .ok (.aload_n 0, 1) := by decide +kernel
theorem dX8_farthest_13 : decode cX8_farthest 13 = .ok (.iload 4, 2) := by decide +kernel
theorem dX8_farthest_15 : decode cX8_farthest 15 = .ok (.invokevirtual 45, 3) := by decide +kernel
theorem dX8_farthest_18 : decode cX8_farthest 18 = .ok (.ifCond .eq 16, 3) := by decide +kernel
theorem dX8_farthest_21 : decode cX8_farthest 21 = .ok (.iload_n 3, 1) := by decide +kernel
theorem dX8_farthest_22 : decode cX8_farthest 22 = .ok (.aload_n 0, 1) := by decide +kernel
theorem dX8_farthest_23 : decode cX8_farthest 23 = .ok (.iload_n 1, 1) := by decide +kernel
theorem dX8_farthest_24 : decode cX8_farthest 24 = .ok (.iload_n 2, 1) := by decide +kernel
theorem dX8_farthest_25 : decode cX8_farthest 25 = .ok (.iload 4, 2) := by decide +kernel
theorem dX8_farthest_27 : decode cX8_farthest 27 = .ok (.invokevirtual 49, 3) := by decide +kernel
theorem dX8_farthest_30 : decode cX8_farthest 30 = .ok (.invokestatic 53, 3) := by decide +kernel
theorem dX8_farthest_33 : decode cX8_farthest 33 = .ok (.istore_n 3, 1) := by decide +kernel
theorem dX8_farthest_34 : decode cX8_farthest 34 = .ok (.iinc 4 1, 3) := by decide +kernel
theorem dX8_farthest_37 : decode cX8_farthest 37 = .ok (.goto (-32), 3) := by decide +kernel
theorem dX8_farthest_40 : decode cX8_farthest 40 = .ok (.iload_n 3, 1) := by decide +kernel
theorem dX8_farthest_41 : decode cX8_farthest 41 = .ok (.ireturn, 1) := by decide +kernel
theorem dX8_nextPlace_0 : decode cX8_nextPlace 0 = .ok (.aload_n 0, 1) := by decide +kernel
theorem dX8_nextPlace_1 : decode cX8_nextPlace 1 = .ok (.iload_n 1, 1) := by decide +kernel
theorem dX8_nextPlace_2 : decode cX8_nextPlace 2 = .ok (.iload_n 2, 1) := by decide +kernel
theorem dX8_nextPlace_3 : decode cX8_nextPlace 3 = .ok (.iload_n 3, 1) := by decide +kernel
theorem dX8_nextPlace_4 : decode cX8_nextPlace 4 = .ok (.invokevirtual 49, 3) := by decide +kernel
theorem dX8_nextPlace_7 : decode cX8_nextPlace 7 = .ok (.istore 4, 2) := by decide +kernel
theorem dX8_nextPlace_9 : decode cX8_nextPlace 9 = .ok (.iconst 0, 1) := by decide +kernel
theorem dX8_nextPlace_10 : decode cX8_nextPlace 10 = .ok (.istore 5, 2) := by decide +kernel
theorem dX8_nextPlace_12 : decode cX8_nextPlace 12 = .ok (.iload 5, 2) := by decide +kernel
theorem dX8_nextPlace_14 : decode cX8_nextPlace 14 = .ok (.bipush 7, 2) := by decide +kernel
theorem dX8_nextPlace_16 : decode cX8_nextPlace 16 = .ok (.if_icmp .ge 58, 3) := by decide +kernel
theorem dX8_nextPlace_19 : decode cX8_nextPlace 19 = .ok (.iload_n 2, 1) := by decide +kernel
theorem dX8_nextPlace_20 : decode cX8_nextPlace 20 = .ok (.iload_n 3, 1) := by decide +kernel
theorem dX8_nextPlace_21 : decode cX8_nextPlace 21 = .ok (.if_icmp .eq 53, 3) := by decide +kernel
theorem dX8_nextPlace_24 : decode cX8_nextPlace 24 = .ok (.aload_n 0, 1) := by decide +kernel
theorem dX8_nextPlace_25 : decode cX8_nextPlace 25 = .ok (.getstatic 42, 3) := by decide +kernel
theorem dX8_nextPlace_28 : decode cX8_nextPlace 28 = .ok (.iload_n 1, 1) := by decide +kernel
theorem dX8_nextPlace_29 : decode cX8_nextPlace 29 = .ok (.iaload, 1) := by decide +kernel
theorem dX8_nextPlace_30 : decode cX8_nextPlace 30 = .ok (.iload_n 2, 1) := by decide +kernel
theorem dX8_nextPlace_31 : decode cX8_nextPlace 31 = .ok (.bipush 7, 2) := by decide +kernel
theorem dX8_nextPlace_33 : decode cX8_nextPlace 33 = .ok (.imul, 1) := by decide +kernel
theorem dX8_nextPlace_34 : decode cX8_nextPlace 34 = .ok (.iload 5, 2) := by decide +kernel
theorem dX8_nextPlace_36 : decode cX8_nextPlace 36 = .ok (.iadd, 1) := by decide +kernel
theorem dX8_nextPlace_37 : decode cX8_nextPlace 37 = .ok (.invokevirtual 58, 3) := by decide +kernel
theorem dX8_nextPlace_40 : decode cX8_nextPlace 40 = .ok (.istore 6, 2) := by decide +kernel
theorem dX8_nextPlace_42 : decode cX8_nextPlace 42 = .ok (.iload 6, 2) := by decide +kernel
theorem dX8_nextPlace_44 : decode cX8_nextPlace 44 = .ok (.ldc 61, 2) := by decide +kernel
theorem dX8_nextPlace_46 : decode cX8_nextPlace 46 = .ok (.if_icmp .ge 22, 3) := by decide +kernel
theorem dX8_nextPlace_49 : decode cX8_nextPlace 49 = .ok (.iload 6, 2) := by decide +kernel
theorem dX8_nextPlace_51 : decode cX8_nextPlace 51 = .ok (.aload_n 0, 1) := by decide +kernel
theorem dX8_nextPlace_52 : decode cX8_nextPlace 52 = .ok (.iload_n 1, 1) := by decide +kernel
theorem dX8_nextPlace_53 : decode cX8_nextPlace 53 = .ok (.iload 5, 2) := by decide +kernel
theorem dX8_nextPlace_55 : decode cX8_nextPlace 55 = .ok (.iload_n 3, 1) := by decide +kernel
theorem dX8_nextPlace_56 : decode cX8_nextPlace 56 = .ok (.invokevirtual 49, 3) := by decide +kernel
theorem dX8_nextPlace_59 : decode cX8_nextPlace 59 = .ok (.iadd, 1) := by decide +kernel
theorem dX8_nextPlace_60 : decode cX8_nextPlace 60 = .ok (.iload 4, 2) := by decide +kernel
theorem dX8_nextPlace_62 : decode cX8_nextPlace 62 = .ok (.if_icmp .ne 6, 3) := by decide +kernel
theorem dX8_nextPlace_65 : decode cX8_nextPlace 65 = .ok (.iload 5, 2) := by decide +kernel
theorem dX8_nextPlace_67 : decode cX8_nextPlace 67 = .ok (.ireturn, 1) := by decide +kernel
theorem dX8_nextPlace_68 : decode cX8_nextPlace 68 = .ok (.iinc 5 1, 3) := by decide +kernel
theorem dX8_nextPlace_71 : decode cX8_nextPlace 71 = .ok (.goto (-59), 3) := by decide +kernel
theorem dX8_nextPlace_74 : decode cX8_nextPlace 74 = .ok (.iload_n 2, 1) := by decide +kernel
theorem dX8_nextPlace_75 : decode cX8_nextPlace 75 = .ok (.ireturn, 1) := by decide +kernel
theorem dX8_tableFor_0 : decode cX8_tableFor 0 = .ok (.aload_n 0, 1) := by decide +kernel
theorem dX8_tableFor_1 : decode cX8_tableFor 1 = .ok (.getfield 22, 3) := by decide +kernel
theorem dX8_tableFor_4 : decode cX8_tableFor 4 = .ok (.getstatic 42, 3) := by decide +kernel
theorem dX8_tableFor_7 : decode cX8_tableFor 7 = .ok (.iload_n 1, 1) := by decide +kernel
theorem dX8_tableFor_8 : decode cX8_tableFor 8 = .ok (.iaload, 1) := by decide +kernel
theorem dX8_tableFor_9 : decode cX8_tableFor 9 = .ok (.aaload, 1) := by decide +kernel
theorem dX8_tableFor_10 : decode cX8_tableFor 10 = .ok (.areturn, 1) := by decide +kernel
theorem dX8_stepAt_0 : decode cX8_stepAt 0 = .ok (.aload_n 0, 1) := by decide +kernel
theorem dX8_stepAt_1 : decode cX8_stepAt 1 = .ok (.getfield 9, 3) := by decide +kernel
theorem dX8_stepAt_4 : decode cX8_stepAt 4 = .ok (.iload_n 2, 1) := by decide +kernel
theorem dX8_stepAt_5 : decode cX8_stepAt 5 = .ok (.iaload, 1) := by decide +kernel
theorem dX8_stepAt_6 : decode cX8_stepAt 6 = .ok (.ifCond .ne 8, 3) := by decide +kernel
theorem dX8_stepAt_9 : decode cX8_stepAt 9 = .ok (.ldc 61, 2) := by decide +kernel
theorem dX8_stepAt_11 : decode cX8_stepAt 11 = .ok (.goto 19, 3) := by decide +kernel
theorem dX8_stepAt_14 : decode cX8_stepAt 14 = .ok (.iload_n 1, 1) := by decide +kernel
theorem dX8_stepAt_15 : decode cX8_stepAt 15 = .ok (.aload_n 0, 1) := by decide +kernel
theorem dX8_stepAt_16 : decode cX8_stepAt 16 = .ok (.getfield 9, 3) := by decide +kernel
theorem dX8_stepAt_19 : decode cX8_stepAt 19 = .ok (.iload_n 2, 1) := by decide +kernel
theorem dX8_stepAt_20 : decode cX8_stepAt 20 = .ok (.iaload, 1) := by decide +kernel
theorem dX8_stepAt_21 : decode cX8_stepAt 21 = .ok (.aload_n 0, 1) := by decide +kernel
theorem dX8_stepAt_22 : decode cX8_stepAt 22 = .ok (.getfield 15, 3) := by decide +kernel
theorem dX8_stepAt_25 : decode cX8_stepAt 25 = .ok (.iload_n 2, 1) := by decide +kernel
theorem dX8_stepAt_26 : decode cX8_stepAt 26 = .ok (.iaload, 1) := by decide +kernel
theorem dX8_stepAt_27 : decode cX8_stepAt 27 = .ok (.invokestatic 62, 3) := by decide +kernel
theorem dX8_stepAt_30 : decode cX8_stepAt 30 = .ok (.ireturn, 1) := by decide +kernel
theorem dX8_measureFor_0 : decode cX8_measureFor 0 = .ok (.aload_n 0, 1) := by decide +kernel
theorem dX8_measureFor_1 : decode cX8_measureFor 1 = .ok (.getfield 22, 3) := by decide +kernel
theorem dX8_measureFor_4 : decode cX8_measureFor 4 = .ok (.iload_n 1, 1) := by decide +kernel
theorem dX8_measureFor_5 : decode cX8_measureFor 5 = .ok (.aaload, 1) := by decide +kernel
theorem dX8_measureFor_6 : decode cX8_measureFor 6 = .ok (.astore_n 2, 1) := by decide +kernel
theorem dX8_measureFor_7 : decode cX8_measureFor 7 = .ok (.iconst 0, 1) := by decide +kernel
theorem dX8_measureFor_8 : decode cX8_measureFor 8 = .ok (.istore_n 3, 1) := by decide +kernel
theorem dX8_measureFor_9 : decode cX8_measureFor 9 = .ok (.iload_n 3, 1) := by decide +kernel
theorem dX8_measureFor_10 : decode cX8_measureFor 10 = .ok (.bipush 49, 2) := by decide +kernel
theorem dX8_measureFor_12 : decode cX8_measureFor 12 = .ok (.if_icmp .ge 33, 3) := by decide +kernel
theorem dX8_measureFor_15 : decode cX8_measureFor 15 = .ok (.aload_n 2, 1) := by decide +kernel
theorem dX8_measureFor_16 : decode cX8_measureFor 16 = .ok (.iload_n 3, 1) := by decide +kernel
theorem dX8_measureFor_17 : decode cX8_measureFor 17 = .ok (.iload_n 3, 1) := by decide +kernel
theorem dX8_measureFor_18 : decode cX8_measureFor 18 = .ok (.bipush 7, 2) := by decide +kernel
theorem dX8_measureFor_20 : decode cX8_measureFor 20 = .ok (.idiv, 1) := by decide +kernel
theorem dX8_measureFor_21 : decode cX8_measureFor 21 = .ok (.iload_n 3, 1) := by decide +kernel
theorem dX8_measureFor_22 : decode cX8_measureFor 22 = .ok (.bipush 7, 2) := by decide +kernel
theorem dX8_measureFor_24 : decode cX8_measureFor 24 = .ok (.irem, 1) := by decide +kernel
theorem dX8_measureFor_25 : decode cX8_measureFor 25 = .ok (.if_icmp .ne 7, 3) := by decide +kernel
theorem dX8_measureFor_28 : decode cX8_measureFor 28 = .ok (.iconst 0, 1) := by decide +kernel
theorem dX8_measureFor_29 : decode cX8_measureFor 29 = .ok (.goto 9, 3) := by decide +kernel
theorem dX8_measureFor_32 : decode cX8_measureFor 32 = .ok (.aload_n 0, 1) := by decide +kernel
theorem dX8_measureFor_33 : decode cX8_measureFor 33 = .ok (.iload_n 1, 1) := by decide +kernel
theorem dX8_measureFor_34 : decode cX8_measureFor 34 = .ok (.iload_n 3, 1) := by decide +kernel
theorem dX8_measureFor_35 : decode cX8_measureFor 35 = .ok (.invokevirtual 58, 3) := by decide +kernel
theorem dX8_measureFor_38 : decode cX8_measureFor 38 = .ok (.iastore, 1) := by decide +kernel
theorem dX8_measureFor_39 : decode cX8_measureFor 39 = .ok (.iinc 3 1, 3) := by decide +kernel
theorem dX8_measureFor_42 : decode cX8_measureFor 42 = .ok (.goto (-33), 3) := by decide +kernel
theorem dX8_measureFor_45 : decode cX8_measureFor 45 = .ok (.iconst 0, 1) := by decide +kernel
theorem dX8_measureFor_46 : decode cX8_measureFor 46 = .ok (.istore_n 3, 1) := by decide +kernel
theorem dX8_measureFor_47 : decode cX8_measureFor 47 = .ok (.iload_n 3, 1) := by decide +kernel
theorem dX8_measureFor_48 : decode cX8_measureFor 48 = .ok (.bipush 7, 2) := by decide +kernel
theorem dX8_measureFor_50 : decode cX8_measureFor 50 = .ok (.if_icmp .ge 100, 3) := by decide +kernel
theorem dX8_measureFor_53 : decode cX8_measureFor 53 = .ok (.iconst 0, 1) := by decide +kernel
theorem dX8_measureFor_54 : decode cX8_measureFor 54 = .ok (.istore 4, 2) := by decide +kernel
theorem dX8_measureFor_56 : decode cX8_measureFor 56 = .ok (.iload 4, 2) := by decide +kernel
theorem dX8_measureFor_58 : decode cX8_measureFor 58 = .ok (.bipush 7, 2) := by decide +kernel
theorem dX8_measureFor_60 : decode cX8_measureFor 60 = .ok (.if_icmp .ge 84, 3) := by decide +kernel
theorem dX8_measureFor_63 : decode cX8_measureFor 63 = .ok (.aload_n 2, 1) := by decide +kernel
theorem dX8_measureFor_64 : decode cX8_measureFor 64 = .ok (.iload 4, 2) := by decide +kernel
theorem dX8_measureFor_66 : decode cX8_measureFor 66 = .ok (.bipush 7, 2) := by decide +kernel
theorem dX8_measureFor_68 : decode cX8_measureFor 68 = .ok (.imul, 1) := by decide +kernel
theorem dX8_measureFor_69 : decode cX8_measureFor 69 = .ok (.iload_n 3, 1) := by decide +kernel
theorem dX8_measureFor_70 : decode cX8_measureFor 70 = .ok (.iadd, 1) := by decide +kernel
theorem dX8_measureFor_71 : decode cX8_measureFor 71 = .ok (.iaload, 1) := by decide +kernel
theorem dX8_measureFor_72 : decode cX8_measureFor 72 = .ok (.istore 5, 2) := by decide +kernel
theorem dX8_measureFor_74 : decode cX8_measureFor 74 = .ok (.iconst 0, 1) := by decide +kernel
theorem dX8_measureFor_75 : decode cX8_measureFor 75 = .ok (.istore 6, 2) := by decide +kernel
theorem dX8_measureFor_77 : decode cX8_measureFor 77 = .ok (.iload 6, 2) := by decide +kernel
theorem dX8_measureFor_79 : decode cX8_measureFor 79 = .ok (.bipush 7, 2) := by decide +kernel
theorem dX8_measureFor_81 : decode cX8_measureFor 81 = .ok (.if_icmp .ge 57, 3) := by decide +kernel
theorem dX8_measureFor_84 : decode cX8_measureFor 84 = .ok (.iload 5, 2) := by decide +kernel
theorem dX8_measureFor_86 : decode cX8_measureFor 86 = .ok (.ldc 61, 2) := by decide +kernel
theorem dX8_measureFor_88 : decode cX8_measureFor 88 = .ok (.if_icmp .ge 50, 3) := by decide +kernel
theorem dX8_measureFor_91 : decode cX8_measureFor 91 = .ok (.iload 5, 2) := by decide +kernel
theorem dX8_measureFor_93 : decode cX8_measureFor 93 = .ok (.aload_n 2, 1) := by decide +kernel
theorem dX8_measureFor_94 : decode cX8_measureFor 94 = .ok (.iload_n 3, 1) := by decide +kernel
theorem dX8_measureFor_95 : decode cX8_measureFor 95 = .ok (.bipush 7, 2) := by decide +kernel
theorem dX8_measureFor_97 : decode cX8_measureFor 97 = .ok (.imul, 1) := by decide +kernel
theorem dX8_measureFor_98 : decode cX8_measureFor 98 = .ok (.iload 6, 2) := by decide +kernel
theorem dX8_measureFor_100 : decode cX8_measureFor 100 = .ok (.iadd, 1) := by decide +kernel
theorem dX8_measureFor_101 : decode cX8_measureFor 101 = .ok (.iaload, 1) := by decide +kernel
theorem dX8_measureFor_102 : decode cX8_measureFor 102 = .ok (.iadd, 1) := by decide +kernel
theorem dX8_measureFor_103 : decode cX8_measureFor 103 = .ok (.istore 7, 2) := by decide +kernel
theorem dX8_measureFor_105 : decode cX8_measureFor 105 = .ok (.iload 7, 2) := by decide +kernel
theorem dX8_measureFor_107 : decode cX8_measureFor 107 = .ok (.aload_n 2, 1) := by decide +kernel
theorem dX8_measureFor_108 : decode cX8_measureFor 108 = .ok (.iload 4, 2) := by decide +kernel
theorem dX8_measureFor_110 : decode cX8_measureFor 110 = .ok (.bipush 7, 2) := by decide +kernel
theorem dX8_measureFor_112 : decode cX8_measureFor 112 = .ok (.imul, 1) := by decide +kernel
theorem dX8_measureFor_113 : decode cX8_measureFor 113 = .ok (.iload 6, 2) := by decide +kernel
theorem dX8_measureFor_115 : decode cX8_measureFor 115 = .ok (.iadd, 1) := by decide +kernel
theorem dX8_measureFor_116 : decode cX8_measureFor 116 = .ok (.iaload, 1) := by decide +kernel
theorem dX8_measureFor_117 : decode cX8_measureFor 117 = .ok (.if_icmp .ge 15, 3) := by decide +kernel
theorem dX8_measureFor_120 : decode cX8_measureFor 120 = .ok (.aload_n 2, 1) := by decide +kernel
theorem dX8_measureFor_121 : decode cX8_measureFor 121 = .ok (.iload 4, 2) := by decide +kernel
theorem dX8_measureFor_123 : decode cX8_measureFor 123 = .ok (.bipush 7, 2) := by decide +kernel
theorem dX8_measureFor_125 : decode cX8_measureFor 125 = .ok (.imul, 1) := by decide +kernel
theorem dX8_measureFor_126 : decode cX8_measureFor 126 = .ok (.iload 6, 2) := by decide +kernel
theorem dX8_measureFor_128 : decode cX8_measureFor 128 = .ok (.iadd, 1) := by decide +kernel
theorem dX8_measureFor_129 : decode cX8_measureFor 129 = .ok (.iload 7, 2) := by decide +kernel
theorem dX8_measureFor_131 : decode cX8_measureFor 131 = .ok (.iastore, 1) := by decide +kernel
theorem dX8_measureFor_132 : decode cX8_measureFor 132 = .ok (.iinc 6 1, 3) := by decide +kernel
theorem dX8_measureFor_135 : decode cX8_measureFor 135 = .ok (.goto (-58), 3) := by decide +kernel
theorem dX8_measureFor_138 : decode cX8_measureFor 138 = .ok (.iinc 4 1, 3) := by decide +kernel
theorem dX8_measureFor_141 : decode cX8_measureFor 141 = .ok (.goto (-85), 3) := by decide +kernel
theorem dX8_measureFor_144 : decode cX8_measureFor 144 = .ok (.iinc 3 1, 3) := by decide +kernel
theorem dX8_measureFor_147 : decode cX8_measureFor 147 = .ok (.goto (-100), 3) := by decide +kernel
theorem dX8_measureFor_150 : decode cX8_measureFor 150 = .ok (.return_, 1) := by decide +kernel
theorem dX9_init_0 : decode cX9_init 0 = .ok (.aload_n 0, 1) := by decide +kernel
theorem dX9_init_1 : decode cX9_init 1 = .ok (.invokespecial 3, 3) := by decide +kernel
theorem dX9_init_4 : decode cX9_init 4 = .ok (.aload_n 0, 1) := by decide +kernel
theorem dX9_init_5 : decode cX9_init 5 = .ok (.new 9, 3) := by decide +kernel
theorem dX9_init_8 : decode cX9_init 8 = .ok (.dup, 1) := by decide +kernel
theorem dX9_init_9 : decode cX9_init 9 = .ok (.invokespecial 11, 3) := by decide +kernel
theorem dX9_init_12 : decode cX9_init 12 = .ok (.putfield 12, 3) := by decide +kernel
theorem dX9_init_15 : decode cX9_init 15 = .ok (.aload_n 0, 1) := by decide +kernel
theorem dX9_init_16 : decode cX9_init 16 = .ok (.new 9, 3) := by decide +kernel
theorem dX9_init_19 : decode cX9_init 19 = .ok (.dup, 1) := by decide +kernel
theorem dX9_init_20 : decode cX9_init 20 = .ok (.invokespecial 11, 3) := by decide +kernel
theorem dX9_init_23 : decode cX9_init 23 = .ok (.putfield 16, 3) := by decide +kernel
theorem dX9_init_26 : decode cX9_init 26 = .ok (.aload_n 0, 1) := by decide +kernel
theorem dX9_init_27 : decode cX9_init 27 = .ok (.new 9, 3) := by decide +kernel
theorem dX9_init_30 : decode cX9_init 30 = .ok (.dup, 1) := by decide +kernel
theorem dX9_init_31 : decode cX9_init 31 = .ok (.invokespecial 11, 3) := by decide +kernel
theorem dX9_init_34 : decode cX9_init 34 = .ok (.putfield 19, 3) := by decide +kernel
theorem dX9_init_37 : decode cX9_init 37 = .ok (.aload_n 0, 1) := by decide +kernel
theorem dX9_init_38 : decode cX9_init 38 = .ok (.new 22, 3) := by decide +kernel
theorem dX9_init_41 : decode cX9_init 41 = .ok (.dup, 1) := by decide +kernel
theorem dX9_init_42 : decode cX9_init 42 = .ok (.invokespecial 24, 3) := by decide +kernel
theorem dX9_init_45 : decode cX9_init 45 = .ok (.putfield 25, 3) := by decide +kernel
theorem dX9_init_48 : decode cX9_init 48 = .ok (.aload_n 0, 1) := by decide +kernel
theorem dX9_init_49 : decode cX9_init 49 = .ok (.sipush 256, 3) := by decide +kernel
theorem dX9_init_52 : decode cX9_init 52 = .ok (.newarray .int, 2) := by decide +kernel
theorem dX9_init_54 : decode cX9_init 54 = .ok (.putfield 29, 3) := by decide +kernel
theorem dX9_init_57 : decode cX9_init 57 = .ok (.aload_n 0, 1) := by decide +kernel
theorem dX9_init_58 : decode cX9_init 58 = .ok (.new 33, 3) := by decide +kernel
theorem dX9_init_61 : decode cX9_init 61 = .ok (.dup, 1) := by decide +kernel
theorem dX9_init_62 : decode cX9_init 62 = .ok (.invokespecial 35, 3) := by decide +kernel
theorem dX9_init_65 : decode cX9_init 65 = .ok (.putfield 36, 3) := by decide +kernel
theorem dX9_init_68 : decode cX9_init 68 = .ok (.aload_n 0, 1) := by decide +kernel
theorem dX9_init_69 : decode cX9_init 69 = .ok (.iconst 4, 1) := by decide +kernel
theorem dX9_init_70 : decode cX9_init 70 = .ok (.anewarray 40, 3) := by decide +kernel
theorem dX9_init_73 : decode cX9_init 73 = .ok (.putfield 42, 3) := by decide +kernel
theorem dX9_init_76 : decode cX9_init 76 = .ok (.aload_n 0, 1) := by decide +kernel
theorem dX9_init_77 : decode cX9_init 77 = .ok (.bipush 7, 2) := by decide +kernel
theorem dX9_init_79 : decode cX9_init 79 = .ok (.newarray .int, 2) := by decide +kernel
theorem dX9_init_81 : decode cX9_init 81 = .ok (.putfield 46, 3) := by decide +kernel
theorem dX9_init_84 : decode cX9_init 84 = .ok (.iconst 0, 1) := by decide +kernel
theorem dX9_init_85 : decode cX9_init 85 = .ok (.istore_n 1, 1) := by decide +kernel
theorem dX9_init_86 : decode cX9_init 86 = .ok (.iload_n 1, 1) := by decide +kernel
theorem dX9_init_87 : decode cX9_init 87 = .ok (.iconst 4, 1) := by decide +kernel
theorem dX9_init_88 : decode cX9_init 88 = .ok (.if_icmp .ge 22, 3) := by decide +kernel
theorem dX9_init_91 : decode cX9_init 91 = .ok (.aload_n 0, 1) := by decide +kernel
theorem dX9_init_92 : decode cX9_init 92 = .ok (.getfield 42, 3) := by decide +kernel
theorem dX9_init_95 : decode cX9_init 95 = .ok (.iload_n 1, 1) := by decide +kernel
theorem dX9_init_96 : decode cX9_init 96 = .ok (.new 40, 3) := by decide +kernel
theorem dX9_init_99 : decode cX9_init 99 = .ok (.dup, 1) := by decide +kernel
theorem dX9_init_100 : decode cX9_init 100 = .ok (.invokespecial 49, 3) := by decide +kernel
theorem dX9_init_103 : decode cX9_init 103 = .ok (.aastore, 1) := by decide +kernel
theorem dX9_init_104 : decode cX9_init 104 = .ok (.iinc 1 1, 3) := by decide +kernel
theorem dX9_init_107 : decode cX9_init 107 = .ok (.goto (-21), 3) := by decide +kernel
theorem dX9_init_110 : decode cX9_init 110 = .ok (.return_, 1) := by decide +kernel
theorem dX9_carrier_0 : decode cX9_carrier 0 = .ok (.iload_n 1, 1) := by decide +kernel
theorem dX9_carrier_1 : decode cX9_carrier 1 = .ok (.iconst 0, 1) := by decide +kernel
theorem dX9_carrier_2 : decode cX9_carrier 2 = .ok (.bipush 6, 2) := by decide +kernel
theorem dX9_carrier_4 : decode cX9_carrier 4 = .ok (.invokestatic 52, 3) := by decide +kernel
theorem dX9_carrier_7 : decode cX9_carrier 7 = .ok (.ifCond .ne 10, 3) := by decide +kernel
theorem dX9_carrier_10 : decode cX9_carrier 10 = .ok (.aload_n 0, 1) := by decide +kernel
theorem dX9_carrier_11 : decode cX9_carrier 11 = .ok (.ldc 56, 2) := by decide +kernel
theorem dX9_carrier_13 : decode cX9_carrier 13 = .ok (.invokevirtual 57, 3) := by decide +kernel
theorem dX9_carrier_16 : decode cX9_carrier 16 = .ok (.ireturn, 1) := by decide +kernel
theorem dX9_carrier_17 : decode cX9_carrier 17 = .ok (.aload_n 0, 1) := by decide +kernel
theorem dX9_carrier_18 : decode cX9_carrier 18 = .ok (.getfield 12, 3) := by decide +kernel
theorem dX9_carrier_21 : decode cX9_carrier 21 = .ok (.getfield 61, 3) := by decide +kernel
theorem dX9_carrier_24 : decode cX9_carrier 24 = .ok (.bipush 6, 2) := by decide +kernel
theorem dX9_carrier_26 : decode cX9_carrier 26 = .ok (.if_icmp .lt 10, 3) := by decide +kernel
theorem dX9_carrier_29 : decode cX9_carrier 29 = .ok (.aload_n 0, 1) := by decide +kernel
theorem dX9_carrier_30 : decode cX9_carrier 30 = .ok (.ldc 65, 2) := by decide +kernel
theorem dX9_carrier_32 : decode cX9_carrier 32 = .ok (.invokevirtual 57, 3) := by decide +kernel
theorem dX9_carrier_35 : decode cX9_carrier 35 = .ok (.ireturn, 1) := by decide +kernel
theorem dX9_carrier_36 : decode cX9_carrier 36 = .ok (.aload_n 0, 1) := by decide +kernel
theorem dX9_carrier_37 : decode cX9_carrier 37 = .ok (.getfield 12, 3) := by decide +kernel
theorem dX9_carrier_40 : decode cX9_carrier 40 = .ok (.iload_n 1, 1) := by decide +kernel
theorem dX9_carrier_41 : decode cX9_carrier 41 = .ok (.iconst 0, 1) := by decide +kernel
theorem dX9_carrier_42 : decode cX9_carrier 42 = .ok (.bipush 20, 2) := by decide +kernel
theorem dX9_carrier_44 : decode cX9_carrier 44 = .ok (.invokevirtual 66, 3) := by decide +kernel
theorem dX9_carrier_47 : decode cX9_carrier 47 = .ok (.ireturn, 1) := by decide +kernel
theorem dX9_of_0 : decode cX9_of 0 = .ok (.aload_n 0, 1) := by decide +kernel
theorem dX9_of_1 : decode cX9_of 1 = .ok (.getfield 12, 3) := by decide +kernel
theorem dX9_of_4 : decode cX9_of 4 = .ok (.iload_n 1, 1) := by decide +kernel
theorem dX9_of_5 : decode cX9_of 5 = .ok (.invokevirtual 70, 3) := by decide +kernel
theorem dX9_of_8 : decode cX9_of 8 = .ok (.ifCond .ne 10, 3) := by decide +kernel
theorem dX9_of_11 : decode cX9_of 11 = .ok (.aload_n 0, 1) := by decide +kernel
theorem dX9_of_12 : decode cX9_of 12 = .ok (.ldc 56, 2) := by decide +kernel
theorem dX9_of_14 : decode cX9_of 14 = .ok (.invokevirtual 57, 3) := by decide +kernel
theorem dX9_of_17 : decode cX9_of 17 = .ok (.ireturn, 1) := by decide +kernel
theorem dX9_of_18 : decode cX9_of 18 = .ok (.aload_n 0, 1) := by decide +kernel
theorem dX9_of_19 : decode cX9_of 19 = .ok (.getfield 12, 3) := by decide +kernel
theorem dX9_of_22 : decode cX9_of 22 = .ok (.getfield 74, 3) := by decide +kernel
theorem dX9_of_25 : decode cX9_of 25 = .ok (.iload_n 1, 1) := by decide +kernel
theorem dX9_of_26 : decode cX9_of 26 = .ok (.aaload, 1) := by decide +kernel
theorem dX9_of_27 : decode cX9_of 27 = .ok (.astore_n 3, 1) := by decide +kernel
theorem dX9_of_28 : decode cX9_of 28 = .ok (.iload_n 2, 1) := by decide +kernel
theorem dX9_of_29 : decode cX9_of 29 = .ok (.tableswitch 102 0 7 #[47, 52, 57, 62, 67, 72, 77, 86], 47) := by decide +kernel
theorem dX9_of_76 : decode cX9_of 76 = .ok (.aload_n 3, 1) := by decide +kernel
theorem dX9_of_77 : decode cX9_of 77 = .ok (.getfield 78, 3) := by decide +kernel
theorem dX9_of_80 : decode cX9_of 80 = .ok (.ireturn, 1) := by decide +kernel
theorem dX9_of_81 : decode cX9_of 81 = .ok (.aload_n 3, 1) := by decide +kernel
theorem dX9_of_82 : decode cX9_of 82 = .ok (.getfield 83, 3) := by decide +kernel
theorem dX9_of_85 : decode cX9_of 85 = .ok (.ireturn, 1) := by decide +kernel
theorem dX9_of_86 : decode cX9_of 86 = .ok (.aload_n 3, 1) := by decide +kernel
theorem dX9_of_87 : decode cX9_of 87 = .ok (.getfield 86, 3) := by decide +kernel
theorem dX9_of_90 : decode cX9_of 90 = .ok (.ireturn, 1) := by decide +kernel
theorem dX9_of_91 : decode cX9_of 91 = .ok (.aload_n 3, 1) := by decide +kernel
theorem dX9_of_92 : decode cX9_of 92 = .ok (.getfield 89, 3) := by decide +kernel
theorem dX9_of_95 : decode cX9_of 95 = .ok (.ireturn, 1) := by decide +kernel
theorem dX9_of_96 : decode cX9_of 96 = .ok (.aload_n 3, 1) := by decide +kernel
theorem dX9_of_97 : decode cX9_of 97 = .ok (.getfield 92, 3) := by decide +kernel
theorem dX9_of_100 : decode cX9_of 100 = .ok (.ireturn, 1) := by decide +kernel
theorem dX9_of_101 : decode cX9_of 101 = .ok (.aload_n 3, 1) := by decide +kernel
theorem dX9_of_102 : decode cX9_of 102 = .ok (.invokevirtual 95, 3) := by decide +kernel
theorem dX9_of_105 : decode cX9_of 105 = .ok (.ireturn, 1) := by decide +kernel
theorem dX9_of_106 : decode cX9_of 106 = .ok (.aload_n 0, 1) := by decide +kernel
theorem dX9_of_107 : decode cX9_of 107 = .ok (.getfield 12, 3) := by decide +kernel
theorem dX9_of_110 : decode cX9_of 110 = .ok (.iload_n 1, 1) := by decide +kernel
theorem dX9_of_111 : decode cX9_of 111 = .ok (.invokevirtual 99, 3) := by decide +kernel
theorem dX9_of_114 : decode cX9_of 114 = .ok (.ireturn, 1) := by decide +kernel
theorem dX9_of_115 : decode cX9_of 115 = .ok (.aload_n 0, 1) := by decide +kernel
theorem dX9_of_116 : decode cX9_of 116 = .ok (.getfield 12, 3) := by decide +kernel
theorem dX9_of_119 : decode cX9_of 119 = .ok (.aload_n 0, 1) := by decide +kernel
theorem dX9_of_120 : decode cX9_of 120 = .ok (.getfield 12, 3) := by decide +kernel
theorem dX9_of_123 : decode cX9_of 123 = .ok (.iload_n 1, 1) := by decide +kernel
theorem dX9_of_124 : decode cX9_of 124 = .ok (.invokevirtual 99, 3) := by decide +kernel
theorem dX9_of_127 : decode cX9_of 127 = .ok (.invokevirtual 102, 3) := by decide +kernel
theorem dX9_of_130 : decode cX9_of 130 = .ok (.ireturn, 1) := by decide +kernel
theorem dX9_of_131 : decode cX9_of 131 = .ok (.aload_n 0, 1) := by decide +kernel
theorem dX9_of_132 : decode cX9_of 132 = .ok (.ldc 56, 2) := by decide +kernel
theorem dX9_of_134 : decode cX9_of 134 = .ok (.invokevirtual 57, 3) := by decide +kernel
theorem dX9_of_137 : decode cX9_of 137 = .ok (.ireturn, 1) := by decide +kernel
theorem dX9_change_0 : decode cX9_change 0 = .ok (.aload_n 0, 1) := by decide +kernel
theorem dX9_change_1 : decode cX9_change 1 = .ok (.getfield 12, 3) := by decide +kernel
theorem dX9_change_4 : decode cX9_change 4 = .ok (.iload_n 1, 1) := by decide +kernel
theorem dX9_change_5 : decode cX9_change 5 = .ok (.invokevirtual 70, 3) := by decide +kernel
theorem dX9_change_8 : decode cX9_change 8 = .ok (.ifCond .eq 11, 3) := by decide +kernel
theorem dX9_change_11 : decode cX9_change 11 = .ok (.iload_n 2, 1) := by decide +kernel
theorem dX9_change_12 : decode cX9_change 12 = .ok (.iload_n 3, 1) := by decide +kernel
theorem dX9_change_13 : decode cX9_change 13 = .ok (.invokestatic 105, 3) := by decide +kernel
theorem dX9_change_16 : decode cX9_change 16 = .ok (.ifCond .ne 10, 3) := by decide +kernel
theorem dX9_change_19 : decode cX9_change 19 = .ok (.aload_n 0, 1) := by decide +kernel
theorem dX9_change_20 : decode cX9_change 20 = .ok (.ldc 56, 2) := by decide +kernel
theorem dX9_change_22 : decode cX9_change 22 = .ok (.invokevirtual 57, 3) := by decide +kernel
theorem dX9_change_25 : decode cX9_change 25 = .ok (.ireturn, 1) := by decide +kernel
theorem dX9_change_26 : decode cX9_change 26 = .ok (.aload_n 0, 1) := by decide +kernel
theorem dX9_change_27 : decode cX9_change 27 = .ok (.getfield 12, 3) := by decide +kernel
theorem dX9_change_30 : decode cX9_change 30 = .ok (.getfield 74, 3) := by decide +kernel
theorem dX9_change_33 : decode cX9_change 33 = .ok (.iload_n 1, 1) := by decide +kernel
theorem dX9_change_34 : decode cX9_change 34 = .ok (.aaload, 1) := by decide +kernel
theorem dX9_change_35 : decode cX9_change 35 = .ok (.astore 4, 2) := by decide +kernel
theorem dX9_change_37 : decode cX9_change 37 = .ok (.iload_n 2, 1) := by decide +kernel
theorem dX9_change_38 : decode cX9_change 38 = .ok (.ifCond .ne 19, 3) := by decide +kernel
theorem dX9_change_41 : decode cX9_change 41 = .ok (.aload 4, 2) := by decide +kernel
theorem dX9_change_43 : decode cX9_change 43 = .ok (.getfield 78, 3) := by decide +kernel
theorem dX9_change_46 : decode cX9_change 46 = .ok (.istore 5, 2) := by decide +kernel
theorem dX9_change_48 : decode cX9_change 48 = .ok (.aload 4, 2) := by decide +kernel
theorem dX9_change_50 : decode cX9_change 50 = .ok (.iload_n 3, 1) := by decide +kernel
theorem dX9_change_51 : decode cX9_change 51 = .ok (.putfield 78, 3) := by decide +kernel
theorem dX9_change_54 : decode cX9_change 54 = .ok (.goto 58, 3) := by decide +kernel
theorem dX9_change_57 : decode cX9_change 57 = .ok (.iload_n 2, 1) := by decide +kernel
theorem dX9_change_58 : decode cX9_change 58 = .ok (.iconst 1, 1) := by decide +kernel
theorem dX9_change_59 : decode cX9_change 59 = .ok (.if_icmp .ne 19, 3) := by decide +kernel
theorem dX9_change_62 : decode cX9_change 62 = .ok (.aload 4, 2) := by decide +kernel
theorem dX9_change_64 : decode cX9_change 64 = .ok (.getfield 83, 3) := by decide +kernel
theorem dX9_change_67 : decode cX9_change 67 = .ok (.istore 5, 2) := by decide +kernel
theorem dX9_change_69 : decode cX9_change 69 = .ok (.aload 4, 2) := by decide +kernel
theorem dX9_change_71 : decode cX9_change 71 = .ok (.iload_n 3, 1) := by decide +kernel
theorem dX9_change_72 : decode cX9_change 72 = .ok (.putfield 83, 3) := by decide +kernel
theorem dX9_change_75 : decode cX9_change 75 = .ok (.goto 37, 3) := by decide +kernel
theorem dX9_change_78 : decode cX9_change 78 = .ok (.iload_n 2, 1) := by decide +kernel
theorem dX9_change_79 : decode cX9_change 79 = .ok (.iconst 2, 1) := by decide +kernel
theorem dX9_change_80 : decode cX9_change 80 = .ok (.if_icmp .ne 19, 3) := by decide +kernel
theorem dX9_change_83 : decode cX9_change 83 = .ok (.aload 4, 2) := by decide +kernel
theorem dX9_change_85 : decode cX9_change 85 = .ok (.getfield 86, 3) := by decide +kernel
theorem dX9_change_88 : decode cX9_change 88 = .ok (.istore 5, 2) := by decide +kernel
theorem dX9_change_90 : decode cX9_change 90 = .ok (.aload 4, 2) := by decide +kernel
theorem dX9_change_92 : decode cX9_change 92 = .ok (.iload_n 3, 1) := by decide +kernel
theorem dX9_change_93 : decode cX9_change 93 = .ok (.putfield 86, 3) := by decide +kernel
theorem dX9_change_96 : decode cX9_change 96 = .ok (.goto 16, 3) := by decide +kernel
theorem dX9_change_99 : decode cX9_change 99 = .ok (.aload 4, 2) := by decide +kernel
theorem dX9_change_101 : decode cX9_change 101 = .ok (.getfield 89, 3) := by decide +kernel
theorem dX9_change_104 : decode cX9_change 104 = .ok (.istore 5, 2) := by decide +kernel
theorem dX9_change_106 : decode cX9_change 106 = .ok (.aload 4, 2) := by decide +kernel
theorem dX9_change_108 : decode cX9_change 108 = .ok (.iload_n 3, 1) := by decide +kernel
theorem dX9_change_109 : decode cX9_change 109 = .ok (.putfield 89, 3) := by decide +kernel
theorem dX9_change_112 : decode cX9_change 112 = .ok (.iload 5, 2) := by decide +kernel
theorem dX9_change_114 : decode cX9_change 114 = .ok (.ireturn, 1) := by decide +kernel
theorem dX9_way_0 : decode cX9_way 0 = .ok (.iload_n 1, 1) := by decide +kernel
theorem dX9_way_1 : decode cX9_way 1 = .ok (.iload_n 2, 1) := by decide +kernel
theorem dX9_way_2 : decode cX9_way 2 = .ok (.invokestatic 109, 3) := by decide +kernel
theorem dX9_way_5 : decode cX9_way 5 = .ok (.ifCond .eq 23, 3) := by decide +kernel
theorem dX9_way_8 : decode cX9_way 8 = .ok (.iload_n 3, 1) := by decide +kernel
theorem dX9_way_9 : decode cX9_way 9 = .ok (.iconst 0, 1) := by decide +kernel
theorem dX9_way_10 : decode cX9_way 10 = .ok (.bipush 99, 2) := by decide +kernel
theorem dX9_way_12 : decode cX9_way 12 = .ok (.invokestatic 52, 3) := by decide +kernel
theorem dX9_way_15 : decode cX9_way 15 = .ok (.ifCond .eq 13, 3) := by decide +kernel
theorem dX9_way_18 : decode cX9_way 18 = .ok (.iload 4, 2) := by decide +kernel
theorem dX9_way_20 : decode cX9_way 20 = .ok (.iconst 0, 1) := by decide +kernel
theorem dX9_way_21 : decode cX9_way 21 = .ok (.iconst 1, 1) := by decide +kernel
theorem dX9_way_22 : decode cX9_way 22 = .ok (.invokestatic 52, 3) := by decide +kernel
theorem dX9_way_25 : decode cX9_way 25 = .ok (.ifCond .ne 10, 3) := by decide +kernel
theorem dX9_way_28 : decode cX9_way 28 = .ok (.aload_n 0, 1) := by decide +kernel
theorem dX9_way_29 : decode cX9_way 29 = .ok (.ldc 56, 2) := by decide +kernel
theorem dX9_way_31 : decode cX9_way 31 = .ok (.invokevirtual 57, 3) := by decide +kernel
theorem dX9_way_34 : decode cX9_way 34 = .ok (.ireturn, 1) := by decide +kernel
theorem dX9_way_35 : decode cX9_way 35 = .ok (.aload_n 0, 1) := by decide +kernel
theorem dX9_way_36 : decode cX9_way 36 = .ok (.getfield 12, 3) := by decide +kernel
theorem dX9_way_39 : decode cX9_way 39 = .ok (.getfield 112, 3) := by decide +kernel
theorem dX9_way_42 : decode cX9_way 42 = .ok (.iload_n 1, 1) := by decide +kernel
theorem dX9_way_43 : decode cX9_way 43 = .ok (.iload_n 2, 1) := by decide +kernel
theorem dX9_way_44 : decode cX9_way 44 = .ok (.invokevirtual 116, 3) := by decide +kernel
theorem dX9_way_47 : decode cX9_way 47 = .ok (.istore 5, 2) := by decide +kernel
theorem dX9_way_49 : decode cX9_way 49 = .ok (.aload_n 0, 1) := by decide +kernel
theorem dX9_way_50 : decode cX9_way 50 = .ok (.getfield 12, 3) := by decide +kernel
theorem dX9_way_53 : decode cX9_way 53 = .ok (.getfield 112, 3) := by decide +kernel
theorem dX9_way_56 : decode cX9_way 56 = .ok (.iload_n 1, 1) := by decide +kernel
theorem dX9_way_57 : decode cX9_way 57 = .ok (.iload_n 2, 1) := by decide +kernel
theorem dX9_way_58 : decode cX9_way 58 = .ok (.iload_n 3, 1) := by decide +kernel
theorem dX9_way_59 : decode cX9_way 59 = .ok (.iload 4, 2) := by decide +kernel
theorem dX9_way_61 : decode cX9_way 61 = .ok (.invokevirtual 122, 3) := by decide +kernel
theorem dX9_way_64 : decode cX9_way 64 = .ok (.aload_n 0, 1) := by decide +kernel
theorem dX9_way_65 : decode cX9_way 65 = .ok (.getfield 12, 3) := by decide +kernel
theorem dX9_way_68 : decode cX9_way 68 = .ok (.getfield 112, 3) := by decide +kernel
theorem dX9_way_71 : decode cX9_way 71 = .ok (.invokevirtual 126, 3) := by decide +kernel
theorem dX9_way_74 : decode cX9_way 74 = .ok (.iload 5, 2) := by decide +kernel
theorem dX9_way_76 : decode cX9_way 76 = .ok (.ireturn, 1) := by decide +kernel
theorem dX9_wayOf_0 : decode cX9_wayOf 0 = .ok (.iload_n 1, 1) := by decide +kernel
theorem dX9_wayOf_1 : decode cX9_wayOf 1 = .ok (.iload_n 2, 1) := by decide +kernel
theorem dX9_wayOf_2 : decode cX9_wayOf 2 = .ok (.invokestatic 109, 3) := by decide +kernel
theorem dX9_wayOf_5 : decode cX9_wayOf 5 = .ok (.ifCond .eq 12, 3) := by decide +kernel
theorem dX9_wayOf_8 : decode cX9_wayOf 8 = .ok (.iload_n 3, 1) := by decide +kernel
theorem dX9_wayOf_9 : decode cX9_wayOf 9 = .ok (.iconst 0, 1) := by decide +kernel
theorem dX9_wayOf_10 : decode cX9_wayOf 10 = .ok (.iconst 1, 1) := by decide +kernel
theorem dX9_wayOf_11 : decode cX9_wayOf 11 = .ok (.invokestatic 52, 3) := by decide +kernel
theorem dX9_wayOf_14 : decode cX9_wayOf 14 = .ok (.ifCond .ne 10, 3) := by decide +kernel
theorem dX9_wayOf_17 : decode cX9_wayOf 17 = .ok (.aload_n 0, 1) := by decide +kernel
theorem dX9_wayOf_18 : decode cX9_wayOf 18 = .ok (.ldc 56, 2) := by decide +kernel
theorem dX9_wayOf_20 : decode cX9_wayOf 20 = .ok (.invokevirtual 57, 3) := by decide +kernel
theorem dX9_wayOf_23 : decode cX9_wayOf 23 = .ok (.ireturn, 1) := by decide +kernel
theorem dX9_wayOf_24 : decode cX9_wayOf 24 = .ok (.iload_n 3, 1) := by decide +kernel
theorem dX9_wayOf_25 : decode cX9_wayOf 25 = .ok (.ifCond .ne 18, 3) := by decide +kernel
theorem dX9_wayOf_28 : decode cX9_wayOf 28 = .ok (.aload_n 0, 1) := by decide +kernel
theorem dX9_wayOf_29 : decode cX9_wayOf 29 = .ok (.getfield 12, 3) := by decide +kernel
theorem dX9_wayOf_32 : decode cX9_wayOf 32 = .ok (.getfield 112, 3) := by decide +kernel
theorem dX9_wayOf_35 : decode cX9_wayOf 35 = .ok (.iload_n 1, 1) := by decide +kernel
theorem dX9_wayOf_36 : decode cX9_wayOf 36 = .ok (.iload_n 2, 1) := by decide +kernel
theorem dX9_wayOf_37 : decode cX9_wayOf 37 = .ok (.invokevirtual 116, 3) := by decide +kernel
theorem dX9_wayOf_40 : decode cX9_wayOf 40 = .ok (.goto 15, 3) := by decide +kernel
theorem dX9_wayOf_43 : decode cX9_wayOf 43 = .ok (.aload_n 0, 1) := by decide +kernel
theorem dX9_wayOf_44 : decode cX9_wayOf 44 = .ok (.getfield 12, 3) := by decide +kernel
theorem dX9_wayOf_47 : decode cX9_wayOf 47 = .ok (.getfield 112, 3) := by decide +kernel
theorem dX9_wayOf_50 : decode cX9_wayOf 50 = .ok (.iload_n 1, 1) := by decide +kernel
theorem dX9_wayOf_51 : decode cX9_wayOf 51 = .ok (.iload_n 2, 1) := by decide +kernel
theorem dX9_wayOf_52 : decode cX9_wayOf 52 = .ok (.invokevirtual 129, 3) := by decide +kernel
theorem dX9_wayOf_55 : decode cX9_wayOf 55 = .ok (.ireturn, 1) := by decide +kernel
theorem dX9_errand_0 : decode cX9_errand 0 = .ok (.iload_n 1, 1) := by decide +kernel
theorem dX9_errand_1 : decode cX9_errand 1 = .ok (.iconst 1, 1) := by decide +kernel
theorem dX9_errand_2 : decode cX9_errand 2 = .ok (.bipush 60, 2) := by decide +kernel
theorem dX9_errand_4 : decode cX9_errand 4 = .ok (.invokestatic 52, 3) := by decide +kernel
theorem dX9_errand_7 : decode cX9_errand 7 = .ok (.ifCond .eq 11, 3) := by decide +kernel
theorem dX9_errand_10 : decode cX9_errand 10 = .ok (.iload_n 2, 1) := by decide +kernel
theorem dX9_errand_11 : decode cX9_errand 11 = .ok (.iload_n 3, 1) := by decide +kernel
theorem dX9_errand_12 : decode cX9_errand 12 = .ok (.invokestatic 109, 3) := by decide +kernel
theorem dX9_errand_15 : decode cX9_errand 15 = .ok (.ifCond .ne 10, 3) := by decide +kernel
theorem dX9_errand_18 : decode cX9_errand 18 = .ok (.aload_n 0, 1) := by decide +kernel
theorem dX9_errand_19 : decode cX9_errand 19 = .ok (.ldc 56, 2) := by decide +kernel
theorem dX9_errand_21 : decode cX9_errand 21 = .ok (.invokevirtual 57, 3) := by decide +kernel
theorem dX9_errand_24 : decode cX9_errand 24 = .ok (.ireturn, 1) := by decide +kernel
theorem dX9_errand_25 : decode cX9_errand 25 = .ok (.aload_n 0, 1) := by decide +kernel
theorem dX9_errand_26 : decode cX9_errand 26 = .ok (.getfield 12, 3) := by decide +kernel
theorem dX9_errand_29 : decode cX9_errand 29 = .ok (.getfield 132, 3) := by decide +kernel
theorem dX9_errand_32 : decode cX9_errand 32 = .ok (.bipush 8, 2) := by decide +kernel
theorem dX9_errand_34 : decode cX9_errand 34 = .ok (.if_icmp .lt 10, 3) := by decide +kernel
theorem dX9_errand_37 : decode cX9_errand 37 = .ok (.aload_n 0, 1) := by decide +kernel
theorem dX9_errand_38 : decode cX9_errand 38 = .ok (.ldc 65, 2) := by decide +kernel
theorem dX9_errand_40 : decode cX9_errand 40 = .ok (.invokevirtual 57, 3) := by decide +kernel
theorem dX9_errand_43 : decode cX9_errand 43 = .ok (.ireturn, 1) := by decide +kernel
theorem dX9_errand_44 : decode cX9_errand 44 = .ok (.aload_n 0, 1) := by decide +kernel
theorem dX9_errand_45 : decode cX9_errand 45 = .ok (.getfield 12, 3) := by decide +kernel
theorem dX9_errand_48 : decode cX9_errand 48 = .ok (.iload_n 1, 1) := by decide +kernel
theorem dX9_errand_49 : decode cX9_errand 49 = .ok (.iload_n 2, 1) := by decide +kernel
theorem dX9_errand_50 : decode cX9_errand 50 = .ok (.iload_n 3, 1) := by decide +kernel
theorem dX9_errand_51 : decode cX9_errand 51 = .ok (.invokevirtual 135, 3) := by decide +kernel
theorem dX9_errand_54 : decode cX9_errand 54 = .ok (.ireturn, 1) := by decide +kernel
theorem dX9_errandOf_0 : decode cX9_errandOf 0 = .ok (.aload_n 0, 1) := by decide +kernel
theorem dX9_errandOf_1 : decode cX9_errandOf 1 = .ok (.getfield 12, 3) := by decide +kernel
theorem dX9_errandOf_4 : decode cX9_errandOf 4 = .ok (.iload_n 1, 1) := by decide +kernel
theorem dX9_errandOf_5 : decode cX9_errandOf 5 = .ok (.invokevirtual 138, 3) := by decide +kernel
theorem dX9_errandOf_8 : decode cX9_errandOf 8 = .ok (.ifCond .ne 10, 3) := by decide +kernel
theorem dX9_errandOf_11 : decode cX9_errandOf 11 = .ok (.aload_n 0, 1) := by decide +kernel
theorem dX9_errandOf_12 : decode cX9_errandOf 12 = .ok (.ldc 56, 2) := by decide +kernel
theorem dX9_errandOf_14 : decode cX9_errandOf 14 = .ok (.invokevirtual 57, 3) := by decide +kernel
theorem dX9_errandOf_17 : decode cX9_errandOf 17 = .ok (.ireturn, 1) := by decide +kernel
theorem dX9_errandOf_18 : decode cX9_errandOf 18 = .ok (.aload_n 0, 1) := by decide +kernel
theorem dX9_errandOf_19 : decode cX9_errandOf 19 = .ok (.getfield 12, 3) := by decide +kernel
theorem dX9_errandOf_22 : decode cX9_errandOf 22 = .ok (.getfield 141, 3) := by decide +kernel
theorem dX9_errandOf_25 : decode cX9_errandOf 25 = .ok (.iload_n 1, 1) := by decide +kernel
theorem dX9_errandOf_26 : decode cX9_errandOf 26 = .ok (.aaload, 1) := by decide +kernel
theorem dX9_errandOf_27 : decode cX9_errandOf 27 = .ok (.astore_n 3, 1) := by decide +kernel
theorem dX9_errandOf_28 : decode cX9_errandOf 28 = .ok (.iload_n 2, 1) := by decide +kernel
theorem dX9_errandOf_29 : decode cX9_errandOf 29 = .ok (.tableswitch 77 0 5 #[39, 44, 49, 54, 59, 64], 39) := by decide +kernel
theorem dX9_errandOf_68 : decode cX9_errandOf 68 = .ok (.aload_n 3, 1) := by decide +kernel
theorem dX9_errandOf_69 : decode cX9_errandOf 69 = .ok (.getfield 145, 3) := by decide +kernel
theorem dX9_errandOf_72 : decode cX9_errandOf 72 = .ok (.ireturn, 1) := by decide +kernel
theorem dX9_errandOf_73 : decode cX9_errandOf 73 = .ok (.aload_n 3, 1) := by decide +kernel
theorem dX9_errandOf_74 : decode cX9_errandOf 74 = .ok (.getfield 150, 3) := by decide +kernel
theorem dX9_errandOf_77 : decode cX9_errandOf 77 = .ok (.ireturn, 1) := by decide +kernel
theorem dX9_errandOf_78 : decode cX9_errandOf 78 = .ok (.aload_n 3, 1) := by decide +kernel
theorem dX9_errandOf_79 : decode cX9_errandOf 79 = .ok (.getfield 153, 3) := by decide +kernel
theorem dX9_errandOf_82 : decode cX9_errandOf 82 = .ok (.ireturn, 1) := by decide +kernel
theorem dX9_errandOf_83 : decode cX9_errandOf 83 = .ok (.aload_n 3, 1) := by decide +kernel
theorem dX9_errandOf_84 : decode cX9_errandOf 84 = .ok (.getfield 156, 3) := by decide +kernel
theorem dX9_errandOf_87 : decode cX9_errandOf 87 = .ok (.ireturn, 1) := by decide +kernel
theorem dX9_errandOf_88 : decode cX9_errandOf 88 = .ok (.aload_n 3, 1) := by decide +kernel
theorem dX9_errandOf_89 : decode cX9_errandOf 89 = .ok (.getfield 159, 3) := by decide +kernel
theorem dX9_errandOf_92 : decode cX9_errandOf 92 = .ok (.ireturn, 1) := by decide +kernel
theorem dX9_errandOf_93 : decode cX9_errandOf 93 = .ok (.aload_n 0, 1) := by decide +kernel
theorem dX9_errandOf_94 : decode cX9_errandOf 94 = .ok (.aload_n 0, 1) := by decide +kernel
theorem dX9_errandOf_95 : decode cX9_errandOf 95 = .ok (.getfield 12, 3) := by decide +kernel
theorem dX9_errandOf_98 : decode cX9_errandOf 98 = .ok (.iload_n 1, 1) := by decide +kernel
theorem dX9_errandOf_99 : decode cX9_errandOf 99 = .ok (.invokevirtual 162, 3) := by decide +kernel
theorem dX9_errandOf_102 : decode cX9_errandOf 102 = .ok (.invokevirtual 165, 3) := by decide +kernel
theorem dX9_errandOf_105 : decode cX9_errandOf 105 = .ok (.ireturn, 1) := by decide +kernel
theorem dX9_errandOf_106 : decode cX9_errandOf 106 = .ok (.aload_n 0, 1) := by decide +kernel
theorem dX9_errandOf_107 : decode cX9_errandOf 107 = .ok (.ldc 56, 2) := by decide +kernel
theorem dX9_errandOf_109 : decode cX9_errandOf 109 = .ok (.invokevirtual 57, 3) := by decide +kernel
theorem dX9_errandOf_112 : decode cX9_errandOf 112 = .ok (.ireturn, 1) := by decide +kernel
theorem dX9_ware_0 : decode cX9_ware 0 = .ok (.iload_n 1, 1) := by decide +kernel
theorem dX9_ware_1 : decode cX9_ware 1 = .ok (.iconst 1, 1) := by decide +kernel
theorem dX9_ware_2 : decode cX9_ware 2 = .ok (.sipush 9999, 3) := by decide +kernel
