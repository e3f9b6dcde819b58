theorem dX0_init_0 : decode cX0_init 0 = .ok (.aload_n 0, 1) := by decide +kernel
theorem dX0_init_1 : decode cX0_init 1 = .ok (.invokespecial 3, 3) := by decide +kernel
theorem dX0_init_4 : decode cX0_init 4 = .ok (.aload_n 0, 1) := by decide +kernel
theorem dX0_init_5 : decode cX0_init 5 = .ok (.iconst 4, 1) := by decide +kernel
theorem dX0_init_6 : decode cX0_init 6 = .ok (.newarray .int, 2) := by decide +kernel
theorem dX0_init_8 : decode cX0_init 8 = .ok (.putfield 9, 3) := by decide +kernel
theorem dX0_init_11 : decode cX0_init 11 = .ok (.aload_n 0, 1) := by decide +kernel
theorem dX0_init_12 : decode cX0_init 12 = .ok (.bipush 32, 2) := by decide +kernel
theorem dX0_init_14 : decode cX0_init 14 = .ok (.newarray .int, 2) := by decide +kernel
theorem dX0_init_16 : decode cX0_init 16 = .ok (.putfield 15, 3) := by decide +kernel
theorem dX0_init_19 : decode cX0_init 19 = .ok (.aload_n 0, 1) := by decide +kernel
theorem dX0_init_20 : decode cX0_init 20 = .ok (.iconst 0, 1) := by decide +kernel
theorem dX0_init_21 : decode cX0_init 21 = .ok (.putfield 18, 3) := by decide +kernel
theorem dX0_init_24 : decode cX0_init 24 = .ok (.aload_n 0, 1) := by decide +kernel
theorem dX0_init_25 : decode cX0_init 25 = .ok (.aconst_null, 1) := by decide +kernel
theorem dX0_init_26 : decode cX0_init 26 = .ok (.putfield 22, 3) := by decide +kernel
theorem dX0_init_29 : decode cX0_init 29 = .ok (.return_, 1) := by decide +kernel
theorem dX5_init_0 : decode cX5_init 0 = .ok (.aload_n 0, 1) := by decide +kernel
theorem dX5_init_1 : decode cX5_init 1 = .ok (.invokespecial 3, 3) := by decide +kernel
theorem dX5_init_4 : decode cX5_init 4 = .ok (.aload_n 0, 1) := by decide +kernel
theorem dX5_init_5 : decode cX5_init 5 = .ok (.bipush 40, 2) := by decide +kernel
theorem dX5_init_7 : decode cX5_init 7 = .ok (.anewarray 9, 3) := by decide +kernel
theorem dX5_init_10 : decode cX5_init 10 = .ok (.putfield 11, 3) := by decide +kernel
theorem dX5_init_13 : decode cX5_init 13 = .ok (.iconst 0, 1) := by decide +kernel
theorem dX5_init_14 : decode cX5_init 14 = .ok (.istore_n 1, 1) := by decide +kernel
theorem dX5_init_15 : decode cX5_init 15 = .ok (.iload_n 1, 1) := by decide +kernel
theorem dX5_init_16 : decode cX5_init 16 = .ok (.bipush 40, 2) := by decide +kernel
theorem dX5_init_18 : decode cX5_init 18 = .ok (.if_icmp .ge 22, 3) := by decide +kernel
theorem dX5_init_21 : decode cX5_init 21 = .ok (.aload_n 0, 1) := by decide +kernel
theorem dX5_init_22 : decode cX5_init 22 = .ok (.getfield 11, 3) := by decide +kernel
theorem dX5_init_25 : decode cX5_init 25 = .ok (.iload_n 1, 1) := by decide +kernel
theorem dX5_init_26 : decode cX5_init 26 = .ok (.new 9, 3) := by decide +kernel
theorem dX5_init_29 : decode cX5_init 29 = .ok (.dup, 1) := by decide +kernel
theorem dX5_init_30 : decode cX5_init 30 = .ok (.invokespecial 17, 3) := by decide +kernel
theorem dX5_init_33 : decode cX5_init 33 = .ok (.aastore, 1) := by decide +kernel
theorem dX5_init_34 : decode cX5_init 34 = .ok (.iinc 1 1, 3) := by decide +kernel
theorem dX5_init_37 : decode cX5_init 37 = .ok (.goto (-22), 3) := by decide +kernel
theorem dX5_init_40 : decode cX5_init 40 = .ok (.return_, 1) := by decide +kernel
theorem dJxa1e45_init_da8c8_0 : decode cJxa1e45_init_da8c8 0 = .ok (.aload_n 0, 1) := by decide +kernel
theorem dJxa1e45_init_da8c8_1 : decode cJxa1e45_init_da8c8 1 = .ok (.invokespecial 1, 3) := by decide +kernel
theorem dJxa1e45_init_da8c8_4 : decode cJxa1e45_init_da8c8 4 = .ok (.return_, 1) := by decide +kernel
theorem dJxc12de_init_da8c8_0 : decode cJxc12de_init_da8c8 0 = .ok (.aload_n 0, 1) := by decide +kernel
theorem dJxc12de_init_da8c8_1 : decode cJxc12de_init_da8c8 1 = .ok (.invokespecial 1, 3) := by decide +kernel
theorem dJxc12de_init_da8c8_4 : decode cJxc12de_init_da8c8 4 = .ok (.aload_n 0, 1) := by decide +kernel
theorem dJxc12de_init_da8c8_5 : decode cJxc12de_init_da8c8 5 = .ok (.iconst 0, 1) := by decide +kernel
theorem dJxc12de_init_da8c8_6 : decode cJxc12de_init_da8c8 6 = .ok (.putfield 7, 3) := by decide +kernel
theorem dJxc12de_init_da8c8_9 : decode cJxc12de_init_da8c8 9 = .ok (.return_, 1) := by decide +kernel
theorem dJx4a65c_init_da8c8_0 : decode cJx4a65c_init_da8c8 0 = .ok (.aload_n 0, 1) := by decide +kernel
theorem dJx4a65c_init_da8c8_1 : decode cJx4a65c_init_da8c8 1 = .ok (.invokespecial 1, 3) := by decide +kernel
theorem dJx4a65c_init_da8c8_4 : decode cJx4a65c_init_da8c8 4 = .ok (.aload_n 0, 1) := by decide +kernel
theorem dJx4a65c_init_da8c8_5 : decode cJx4a65c_init_da8c8 5 = .ok (.getstatic 39, 3) := by decide +kernel
theorem dJx4a65c_init_da8c8_8 : decode cJx4a65c_init_da8c8 8 = .ok (.putfield 9, 3) := by decide +kernel
theorem dJx4a65c_init_da8c8_11 : decode cJx4a65c_init_da8c8 11 = .ok (.return_, 1) := by decide +kernel
theorem dX1_init_0 : decode cX1_init 0 = .ok (.aload_n 0, 1) := by decide +kernel
theorem dX1_init_1 : decode cX1_init 1 = .ok (.invokespecial 3, 3) := by decide +kernel
theorem dX1_init_4 : decode cX1_init 4 = .ok (.aload_n 0, 1) := by decide +kernel
theorem dX1_init_5 : decode cX1_init 5 = .ok (.iconst 3, 1) := by decide +kernel
theorem dX1_init_6 : decode cX1_init 6 = .ok (.anewarray 9, 3) := by decide +kernel
theorem dX1_init_9 : decode cX1_init 9 = .ok (.putfield 11, 3) := by decide +kernel
theorem dX1_init_12 : decode cX1_init 12 = .ok (.aload_n 0, 1) := by decide +kernel
theorem dX1_init_13 : decode cX1_init 13 = .ok (.iconst 0, 1) := by decide +kernel
theorem dX1_init_14 : decode cX1_init 14 = .ok (.putfield 17, 3) := by decide +kernel
theorem dX1_init_17 : decode cX1_init 17 = .ok (.return_, 1) := by decide +kernel
theorem dX4_init_0 : decode cX4_init 0 = .ok (.aload_n 0, 1) := by decide +kernel
theorem dX4_init_1 : decode cX4_init 1 = .ok (.invokespecial 3, 3) := by decide +kernel
theorem dX4_init_4 : decode cX4_init 4 = .ok (.aload_n 0, 1) := by decide +kernel
theorem dX4_init_5 : decode cX4_init 5 = .ok (.aconst_null, 1) := by decide +kernel
theorem dX4_init_6 : decode cX4_init 6 = .ok (.putfield 9, 3) := by decide +kernel
theorem dX4_init_9 : decode cX4_init 9 = .ok (.aload_n 0, 1) := by decide +kernel
theorem dX4_init_10 : decode cX4_init 10 = .ok (.aconst_null, 1) := by decide +kernel
theorem dX4_init_11 : decode cX4_init 11 = .ok (.putfield 15, 3) := by decide +kernel
theorem dX4_init_14 : decode cX4_init 14 = .ok (.aload_n 0, 1) := by decide +kernel
theorem dX4_init_15 : decode cX4_init 15 = .ok (.iconst 0, 1) := by decide +kernel
theorem dX4_init_16 : decode cX4_init 16 = .ok (.putfield 18, 3) := by decide +kernel
theorem dX4_init_19 : decode cX4_init 19 = .ok (.aload_n 0, 1) := by decide +kernel
theorem dX4_init_20 : decode cX4_init 20 = .ok (.iconst 0, 1) := by decide +kernel
theorem dX4_init_21 : decode cX4_init 21 = .ok (.putfield 22, 3) := by decide +kernel
theorem dX4_init_24 : decode cX4_init 24 = .ok (.aload_n 0, 1) := by decide +kernel
theorem dX4_init_25 : decode cX4_init 25 = .ok (.iconst 0, 1) := by decide +kernel
theorem dX4_init_26 : decode cX4_init 26 = .ok (.putfield 25, 3) := by decide +kernel
theorem dX4_init_29 : decode cX4_init 29 = .ok (.return_, 1) := by decide +kernel
theorem dX2_init_0 : decode cX2_init 0 = .ok (.aload_n 0, 1) := by decide +kernel
theorem dX2_init_1 : decode cX2_init 1 = .ok (.invokespecial 3, 3) := by decide +kernel
theorem dX2_init_4 : decode cX2_init 4 = .ok (.aload_n 0, 1) := by decide +kernel
theorem dX2_init_5 : decode cX2_init 5 = .ok (.bipush 8, 2) := by decide +kernel
theorem dX2_init_7 : decode cX2_init 7 = .ok (.newarray .int, 2) := by decide +kernel
theorem dX2_init_9 : decode cX2_init 9 = .ok (.putfield 9, 3) := by decide +kernel
theorem dX2_init_12 : decode cX2_init 12 = .ok (.aload_n 0, 1) := by decide +kernel
theorem dX2_init_13 : decode cX2_init 13 = .ok (.iconst 0, 1) := by decide +kernel
theorem dX2_init_14 : decode cX2_init 14 = .ok (.putfield 15, 3) := by decide +kernel
theorem dX2_init_17 : decode cX2_init 17 = .ok (.aload_n 0, 1) := by decide +kernel
theorem dX2_init_18 : decode cX2_init 18 = .ok (.iconst 0, 1) := by decide +kernel
theorem dX2_init_19 : decode cX2_init 19 = .ok (.putfield 19, 3) := by decide +kernel
theorem dX2_init_22 : decode cX2_init 22 = .ok (.aload_n 0, 1) := by decide +kernel
theorem dX2_init_23 : decode cX2_init 23 = .ok (.iconst 0, 1) := by decide +kernel
theorem dX2_init_24 : decode cX2_init 24 = .ok (.putfield 23, 3) := by decide +kernel
theorem dX2_init_27 : decode cX2_init 27 = .ok (.aload_n 0, 1) := by decide +kernel
theorem dX2_init_28 : decode cX2_init 28 = .ok (.iconst 0, 1) := by decide +kernel
theorem dX2_init_29 : decode cX2_init 29 = .ok (.putfield 26, 3) := by decide +kernel
theorem dX2_init_32 : decode cX2_init 32 = .ok (.aload_n 0, 1) := by decide +kernel
theorem dX2_init_33 : decode cX2_init 33 = .ok (.iconst 0, 1) := by decide +kernel
theorem dX2_init_34 : decode cX2_init 34 = .ok (.putfield 29, 3) := by decide +kernel
theorem dX2_init_37 : decode cX2_init 37 = .ok (.aload_n 0, 1) := by decide +kernel
theorem dX2_init_38 : decode cX2_init 38 = .ok (.new 32, 3) := by decide +kernel
theorem dX2_init_41 : decode cX2_init 41 = .ok (.dup, 1) := by decide +kernel
theorem dX2_init_42 : decode cX2_init 42 = .ok (.invokespecial 34, 3) := by decide +kernel
theorem dX2_init_45 : decode cX2_init 45 = .ok (.putfield 35, 3) := by decide +kernel
theorem dX2_init_48 : decode cX2_init 48 = .ok (.aload_n 0, 1) := by decide +kernel
theorem dX2_init_49 : decode cX2_init 49 = .ok (.iconst 0, 1) := by decide +kernel
theorem dX2_init_50 : decode cX2_init 50 = .ok (.putfield 39, 3) := by decide +kernel
theorem dX2_init_53 : decode cX2_init 53 = .ok (.aload_n 0, 1) := by decide +kernel
theorem dX2_init_54 : decode cX2_init 54 = .ok (.iconst 0, 1) := by decide +kernel
theorem dX2_init_55 : decode cX2_init 55 = .ok (.putfield 42, 3) := by decide +kernel
theorem dX2_init_58 : decode cX2_init 58 = .ok (.aload_n 0, 1) := by decide +kernel
theorem dX2_init_59 : decode cX2_init 59 = .ok (.iconst 0, 1) := by decide +kernel
theorem dX2_init_60 : decode cX2_init 60 = .ok (.putfield 45, 3) := by decide +kernel
theorem dX2_init_63 : decode cX2_init 63 = .ok (.return_, 1) := by decide +kernel
theorem dX6_init_0 : decode cX6_init 0 = .ok (.aload_n 0, 1) := by decide +kernel
theorem dX6_init_1 : decode cX6_init 1 = .ok (.invokespecial 1, 3) := by decide +kernel
theorem dX6_init_4 : decode cX6_init 4 = .ok (.aload_n 0, 1) := by decide +kernel
theorem dX6_init_5 : decode cX6_init 5 = .ok (.bipush 49, 2) := by decide +kernel
theorem dX6_init_7 : decode cX6_init 7 = .ok (.newarray .int, 2) := by decide +kernel
theorem dX6_init_9 : decode cX6_init 9 = .ok (.putfield 9, 3) := by decide +kernel
theorem dX6_init_12 : decode cX6_init 12 = .ok (.aload_n 0, 1) := by decide +kernel
theorem dX6_init_13 : decode cX6_init 13 = .ok (.new 13, 3) := by decide +kernel
theorem dX6_init_16 : decode cX6_init 16 = .ok (.dup, 1) := by decide +kernel
theorem dX6_init_17 : decode cX6_init 17 = .ok (.invokespecial 15, 3) := by decide +kernel
theorem dX6_init_20 : decode cX6_init 20 = .ok (.putfield 16, 3) := by decide +kernel
theorem dX6_init_23 : decode cX6_init 23 = .ok (.aload_n 0, 1) := by decide +kernel
theorem dX6_init_24 : decode cX6_init 24 = .ok (.iconst 4, 1) := by decide +kernel
theorem dX6_init_25 : decode cX6_init 25 = .ok (.anewarray 20, 3) := by decide +kernel
theorem dX6_init_28 : decode cX6_init 28 = .ok (.putfield 22, 3) := by decide +kernel
theorem dX6_init_31 : decode cX6_init 31 = .ok (.aload_n 0, 1) := by decide +kernel
theorem dX6_init_32 : decode cX6_init 32 = .ok (.iconst 3, 1) := by decide +kernel
theorem dX6_init_33 : decode cX6_init 33 = .ok (.anewarray 26, 3) := by decide +kernel
theorem dX6_init_36 : decode cX6_init 36 = .ok (.putfield 28, 3) := by decide +kernel
theorem dX6_init_39 : decode cX6_init 39 = .ok (.aload_n 0, 1) := by decide +kernel
theorem dX6_init_40 : decode cX6_init 40 = .ok (.new 32, 3) := by decide +kernel
theorem dX6_init_43 : decode cX6_init 43 = .ok (.dup, 1) := by decide +kernel
theorem dX6_init_44 : decode cX6_init 44 = .ok (.invokespecial 34, 3) := by decide +kernel
theorem dX6_init_47 : decode cX6_init 47 = .ok (.putfield 35, 3) := by decide +kernel
theorem dX6_init_50 : decode cX6_init 50 = .ok (.aload_n 0, 1) := by decide +kernel
theorem dX6_init_51 : decode cX6_init 51 = .ok (.iconst 0, 1) := by decide +kernel
theorem dX6_init_52 : decode cX6_init 52 = .ok (.putfield 39, 3) := by decide +kernel
theorem dX6_init_55 : decode cX6_init 55 = .ok (.aload_n 0, 1) := by decide +kernel
theorem dX6_init_56 : decode cX6_init 56 = .ok (.iconst 0, 1) := by decide +kernel
theorem dX6_init_57 : decode cX6_init 57 = .ok (.putfield 43, 3) := by decide +kernel
theorem dX6_init_60 : decode cX6_init 60 = .ok (.aload_n 0, 1) := by decide +kernel
theorem dX6_init_61 : decode cX6_init 61 = .ok (.iconst 0, 1) := by decide +kernel
theorem dX6_init_62 : decode cX6_init 62 = .ok (.putfield 46, 3) := by decide +kernel
theorem dX6_init_65 : decode cX6_init 65 = .ok (.aload_n 0, 1) := by decide +kernel
theorem dX6_init_66 : decode cX6_init 66 = .ok (.getfield 9, 3) := by decide +kernel
theorem dX6_init_69 : decode cX6_init 69 = .ok (.iconst 0, 1) := by decide +kernel
theorem dX6_init_70 : decode cX6_init 70 = .ok (.bipush 16, 2) := by decide +kernel
theorem dX6_init_72 : decode cX6_init 72 = .ok (.iastore, 1) := by decide +kernel
theorem dX6_init_73 : decode cX6_init 73 = .ok (.iconst 1, 1) := by decide +kernel
theorem dX6_init_74 : decode cX6_init 74 = .ok (.istore_n 1, 1) := by decide +kernel
theorem dX6_init_75 : decode cX6_init 75 = .ok (.iload_n 1, 1) := by decide +kernel
theorem dX6_init_76 : decode cX6_init 76 = .ok (.bipush 49, 2) := by decide +kernel
theorem dX6_init_78 : decode cX6_init 78 = .ok (.if_icmp .ge 37, 3) := by decide +kernel
theorem dX6_init_81 : decode cX6_init 81 = .ok (.aload_n 0, 1) := by decide +kernel
theorem dX6_init_82 : decode cX6_init 82 = .ok (.getfield 9, 3) := by decide +kernel
theorem dX6_init_85 : decode cX6_init 85 = .ok (.iload_n 1, 1) := by decide +kernel
theorem dX6_init_86 : decode cX6_init 86 = .ok (.aload_n 0, 1) := by decide +kernel
theorem dX6_init_87 : decode cX6_init 87 = .ok (.getfield 9, 3) := by decide +kernel
theorem dX6_init_90 : decode cX6_init 90 = .ok (.iload_n 1, 1) := by decide +kernel
theorem dX6_init_91 : decode cX6_init 91 = .ok (.iconst 1, 1) := by decide +kernel
theorem dX6_init_92 : decode cX6_init 92 = .ok (.isub, 1) := by decide +kernel
theorem dX6_init_93 : decode cX6_init 93 = .ok (.iaload, 1) := by decide +kernel
theorem dX6_init_94 : decode cX6_init 94 = .ok (.aload_n 0, 1) := by decide +kernel
theorem dX6_init_95 : decode cX6_init 95 = .ok (.getfield 9, 3) := by decide +kernel
theorem dX6_init_98 : decode cX6_init 98 = .ok (.iload_n 1, 1) := by decide +kernel
theorem dX6_init_99 : decode cX6_init 99 = .ok (.iconst 1, 1) := by decide +kernel
theorem dX6_init_100 : decode cX6_init 100 = .ok (.isub, 1) := by decide +kernel
theorem dX6_init_101 : decode cX6_init 101 = .ok (.iaload, 1) := by decide +kernel
theorem dX6_init_102 : decode cX6_init 102 = .ok (.bipush 10, 2) := by decide +kernel
theorem dX6_init_104 : decode cX6_init 104 = .ok (.idiv, 1) := by decide +kernel
theorem dX6_init_105 : decode cX6_init 105 = .ok (.iadd, 1) := by decide +kernel
theorem dX6_init_106 : decode cX6_init 106 = .ok (.iconst 1, 1) := by decide +kernel
theorem dX6_init_107 : decode cX6_init 107 = .ok (.iadd, 1) := by decide +kernel
theorem dX6_init_108 : decode cX6_init 108 = .ok (.iastore, 1) := by decide +kernel
theorem dX6_init_109 : decode cX6_init 109 = .ok (.iinc 1 1, 3) := by decide +kernel
theorem dX6_init_112 : decode cX6_init 112 = .ok (.goto (-37), 3) := by decide +kernel
theorem dX6_init_115 : decode cX6_init 115 = .ok (.iconst 0, 1) := by decide +kernel
theorem dX6_init_116 : decode cX6_init 116 = .ok (.istore_n 1, 1) := by decide +kernel
theorem dX6_init_117 : decode cX6_init 117 = .ok (.iload_n 1, 1) := by decide +kernel
theorem dX6_init_118 : decode cX6_init 118 = .ok (.iconst 4, 1) := by decide +kernel
theorem dX6_init_119 : decode cX6_init 119 = .ok (.if_icmp .ge 22, 3) := by decide +kernel
theorem dX6_init_122 : decode cX6_init 122 = .ok (.aload_n 0, 1) := by decide +kernel
theorem dX6_init_123 : decode cX6_init 123 = .ok (.getfield 22, 3) := by decide +kernel
theorem dX6_init_126 : decode cX6_init 126 = .ok (.iload_n 1, 1) := by decide +kernel
theorem dX6_init_127 : decode cX6_init 127 = .ok (.new 20, 3) := by decide +kernel
theorem dX6_init_130 : decode cX6_init 130 = .ok (.dup, 1) := by decide +kernel
theorem dX6_init_131 : decode cX6_init 131 = .ok (.invokespecial 49, 3) := by decide +kernel
theorem dX6_init_134 : decode cX6_init 134 = .ok (.aastore, 1) := by decide +kernel
theorem dX6_init_135 : decode cX6_init 135 = .ok (.iinc 1 1, 3) := by decide +kernel
theorem dX6_init_138 : decode cX6_init 138 = .ok (.goto (-21), 3) := by decide +kernel
theorem dX6_init_141 : decode cX6_init 141 = .ok (.iconst 0, 1) := by decide +kernel
theorem dX6_init_142 : decode cX6_init 142 = .ok (.istore_n 1, 1) := by decide +kernel
theorem dX6_init_143 : decode cX6_init 143 = .ok (.iload_n 1, 1) := by decide +kernel
theorem dX6_init_144 : decode cX6_init 144 = .ok (.iconst 3, 1) := by decide +kernel
theorem dX6_init_145 : decode cX6_init 145 = .ok (.if_icmp .ge 22, 3) := by decide +kernel
theorem dX6_init_148 : decode cX6_init 148 = .ok (.aload_n 0, 1) := by decide +kernel
theorem dX6_init_149 : decode cX6_init 149 = .ok (.getfield 28, 3) := by decide +kernel
theorem dX6_init_152 : decode cX6_init 152 = .ok (.iload_n 1, 1) := by decide +kernel
theorem dX6_init_153 : decode cX6_init 153 = .ok (.new 26, 3) := by decide +kernel
theorem dX6_init_156 : decode cX6_init 156 = .ok (.dup, 1) := by decide +kernel
theorem dX6_init_157 : decode cX6_init 157 = .ok (.invokespecial 50, 3) := by decide +kernel
theorem dX6_init_160 : decode cX6_init 160 = .ok (.aastore, 1) := by decide +kernel
theorem dX6_init_161 : decode cX6_init 161 = .ok (.iinc 1 1, 3) := by decide +kernel
theorem dX6_init_164 : decode cX6_init 164 = .ok (.goto (-21), 3) := by decide +kernel
theorem dX6_init_167 : decode cX6_init 167 = .ok (.return_, 1) := by decide +kernel
theorem dX3_init_0 : decode cX3_init 0 = .ok (.aload_n 0, 1) := by decide +kernel
theorem dX3_init_1 : decode cX3_init 1 = .ok (.invokespecial 1, 3) := by decide +kernel
theorem dX3_init_4 : decode cX3_init 4 = .ok (.aload_n 0, 1) := by decide +kernel
theorem dX3_init_5 : decode cX3_init 5 = .ok (.iconst 0, 1) := by decide +kernel
theorem dX3_init_6 : decode cX3_init 6 = .ok (.putfield 7, 3) := by decide +kernel
theorem dX3_init_9 : decode cX3_init 9 = .ok (.aload_n 0, 1) := by decide +kernel
theorem dX3_init_10 : decode cX3_init 10 = .ok (.iload_n 1, 1) := by decide +kernel
theorem dX3_init_11 : decode cX3_init 11 = .ok (.putfield 13, 3) := by decide +kernel
theorem dX3_init_14 : decode cX3_init 14 = .ok (.aload_n 0, 1) := by decide +kernel
theorem dX3_init_15 : decode cX3_init 15 = .ok (.iload_n 2, 1) := by decide +kernel
theorem dX3_init_16 : decode cX3_init 16 = .ok (.putfield 16, 3) := by decide +kernel
theorem dX3_init_19 : decode cX3_init 19 = .ok (.aload_n 0, 1) := by decide +kernel
theorem dX3_init_20 : decode cX3_init 20 = .ok (.aload_n 3, 1) := by decide +kernel
theorem dX3_init_21 : decode cX3_init 21 = .ok (.putfield 19, 3) := by decide +kernel
theorem dX3_init_24 : decode cX3_init 24 = .ok (.aload_n 0, 1) := by decide +kernel
theorem dX3_init_25 : decode cX3_init 25 = .ok (.aload 4, 2) := by decide +kernel
theorem dX3_init_27 : decode cX3_init 27 = .ok (.putfield 23, 3) := by decide +kernel
theorem dX3_init_30 : decode cX3_init 30 = .ok (.return_, 1) := by decide +kernel
theorem dJ8_newLength_cabcc_0 : decode cJ8_newLength_cabcc 0 = .ok (.iload_n 0, 1) := by decide +kernel
theorem dJ8_newLength_cabcc_1 : decode cJ8_newLength_cabcc 1 = .ok (.iload_n 1, 1) := by decide +kernel
theorem dJ8_newLength_cabcc_2 : decode cJ8_newLength_cabcc 2 = .ok (.iload_n 2, 1) := by decide +kernel
theorem dJ8_newLength_cabcc_3 : decode cJ8_newLength_cabcc 3 = .ok (.invokestatic 194, 3) := by decide +kernel
theorem dJ8_newLength_cabcc_6 : decode cJ8_newLength_cabcc 6 = .ok (.iadd, 1) := by decide +kernel
theorem dJ8_newLength_cabcc_7 : decode cJ8_newLength_cabcc 7 = .ok (.istore_n 3, 1) := by decide +kernel
theorem dJ8_newLength_cabcc_8 : decode cJ8_newLength_cabcc 8 = .ok (.iconst 0, 1) := by decide +kernel
theorem dJ8_newLength_cabcc_9 : decode cJ8_newLength_cabcc 9 = .ok (.iload_n 3, 1) := by decide +kernel
theorem dJ8_newLength_cabcc_10 : decode cJ8_newLength_cabcc 10 = .ok (.if_icmp .ge 11, 3) := by decide +kernel
theorem dJ8_newLength_cabcc_13 : decode cJ8_newLength_cabcc 13 = .ok (.iload_n 3, 1) := by decide +kernel
theorem dJ8_newLength_cabcc_14 : decode cJ8_newLength_cabcc 14 = .ok (.ldc 200, 2) := by decide +kernel
theorem dJ8_newLength_cabcc_16 : decode cJ8_newLength_cabcc 16 = .ok (.if_icmp .gt 5, 3) := by decide +kernel
theorem dJ8_newLength_cabcc_19 : decode cJ8_newLength_cabcc 19 = .ok (.iload_n 3, 1) := by decide +kernel
theorem dJ8_newLength_cabcc_20 : decode cJ8_newLength_cabcc 20 = .ok (.ireturn, 1) := by decide +kernel
theorem dJ7_copyOf_6403c_0 : decode cJ7_copyOf_6403c 0 = .ok (.aload_n 2, 1) := by decide +kernel
theorem dJ7_copyOf_6403c_1 : decode cJ7_copyOf_6403c 1 = .ok (.ldc 110, 2) := by decide +kernel
theorem dJ7_copyOf_6403c_3 : decode cJ7_copyOf_6403c 3 = .ok (.if_acmp .ne 10, 3) := by decide +kernel
theorem dJ7_copyOf_6403c_6 : decode cJ7_copyOf_6403c 6 = .ok (.iload_n 1, 1) := by decide +kernel
theorem dJ7_copyOf_6403c_7 : decode cJ7_copyOf_6403c 7 = .ok (.anewarray 2, 3) := by decide +kernel
theorem dJ7_copyOf_6403c_10 : decode cJ7_copyOf_6403c 10 = .ok (.goto 14, 3) := by decide +kernel
theorem dJ7_copyOf_6403c_24 : decode cJ7_copyOf_6403c 24 = .ok (.astore_n 3, 1) := by decide +kernel
theorem dJ7_copyOf_6403c_25 : decode cJ7_copyOf_6403c 25 = .ok (.aload_n 0, 1) := by decide +kernel
theorem dJ7_copyOf_6403c_26 : decode cJ7_copyOf_6403c 26 = .ok (.iconst 0, 1) := by decide +kernel
theorem dJ7_copyOf_6403c_27 : decode cJ7_copyOf_6403c 27 = .ok (.aload_n 3, 1) := by decide +kernel
theorem dJ7_copyOf_6403c_28 : decode cJ7_copyOf_6403c 28 = .ok (.iconst 0, 1) := by decide +kernel
theorem dJ7_copyOf_6403c_29 : decode cJ7_copyOf_6403c 29 = .ok (.aload_n 0, 1) := by decide +kernel
theorem dJ7_copyOf_6403c_30 : decode cJ7_copyOf_6403c 30 = .ok (.arraylength, 1) := by decide +kernel
theorem dJ7_copyOf_6403c_31 : decode cJ7_copyOf_6403c 31 = .ok (.iload_n 1, 1) := by decide +kernel
theorem dJ7_copyOf_6403c_32 : decode cJ7_copyOf_6403c 32 = .ok (.invokestatic 304, 3) := by decide +kernel
theorem dJ7_copyOf_6403c_35 : decode cJ7_copyOf_6403c 35 = .ok (.invokestatic 150, 3) := by decide +kernel
theorem dJ7_copyOf_6403c_38 : decode cJ7_copyOf_6403c 38 = .ok (.aload_n 3, 1) := by decide +kernel
theorem dJ7_copyOf_6403c_39 : decode cJ7_copyOf_6403c 39 = .ok (.areturn, 1) := by decide +kernel
theorem dJ7_copyOf_1904c_0 : decode cJ7_copyOf_1904c 0 = .ok (.aload_n 0, 1) := by decide +kernel
theorem dJ7_copyOf_1904c_1 : decode cJ7_copyOf_1904c 1 = .ok (.iload_n 1, 1) := by decide +kernel
theorem dJ7_copyOf_1904c_2 : decode cJ7_copyOf_1904c 2 = .ok (.aload_n 0, 1) := by decide +kernel
theorem dJ7_copyOf_1904c_3 : decode cJ7_copyOf_1904c 3 = .ok (.invokevirtual 86, 3) := by decide +kernel
theorem dJ7_copyOf_1904c_6 : decode cJ7_copyOf_1904c 6 = .ok (.invokestatic 300, 3) := by decide +kernel
theorem dJ7_copyOf_1904c_9 : decode cJ7_copyOf_1904c 9 = .ok (.areturn, 1) := by decide +kernel
theorem dJx4a65c_grow_92f84_0 : decode cJx4a65c_grow_92f84 0 = .ok (.aload_n 0, 1) := by decide +kernel
theorem dJx4a65c_grow_92f84_1 : decode cJx4a65c_grow_92f84 1 = .ok (.getfield 9, 3) := by decide +kernel
theorem dJx4a65c_grow_92f84_4 : decode cJx4a65c_grow_92f84 4 = .ok (.arraylength, 1) := by decide +kernel
theorem dJx4a65c_grow_92f84_5 : decode cJx4a65c_grow_92f84 5 = .ok (.istore_n 2, 1) := by decide +kernel
theorem dJx4a65c_grow_92f84_6 : decode cJx4a65c_grow_92f84 6 = .ok (.iload_n 2, 1) := by decide +kernel
theorem dJx4a65c_grow_92f84_7 : decode cJx4a65c_grow_92f84 7 = .ok (.ifCond .gt 13, 3) := by decide +kernel
theorem dJx4a65c_grow_92f84_10 : decode cJx4a65c_grow_92f84 10 = .ok (.aload_n 0, 1) := by decide +kernel
theorem dJx4a65c_grow_92f84_11 : decode cJx4a65c_grow_92f84 11 = .ok (.getfield 9, 3) := by decide +kernel
theorem dJx4a65c_grow_92f84_14 : decode cJx4a65c_grow_92f84 14 = .ok (.getstatic 39, 3) := by decide +kernel
theorem dJx4a65c_grow_92f84_17 : decode cJx4a65c_grow_92f84 17 = .ok (.if_acmp .eq 28, 3) := by decide +kernel
theorem dJx4a65c_grow_92f84_20 : decode cJx4a65c_grow_92f84 20 = .ok (.iload_n 2, 1) := by decide +kernel
theorem dJx4a65c_grow_92f84_21 : decode cJx4a65c_grow_92f84 21 = .ok (.iload_n 1, 1) := by decide +kernel
theorem dJx4a65c_grow_92f84_22 : decode cJx4a65c_grow_92f84 22 = .ok (.iload_n 2, 1) := by decide +kernel
theorem dJx4a65c_grow_92f84_23 : decode cJx4a65c_grow_92f84 23 = .ok (.isub, 1) := by decide +kernel
theorem dJx4a65c_grow_92f84_24 : decode cJx4a65c_grow_92f84 24 = .ok (.iload_n 2, 1) := by decide +kernel
theorem dJx4a65c_grow_92f84_25 : decode cJx4a65c_grow_92f84 25 = .ok (.iconst 1, 1) := by decide +kernel
theorem dJx4a65c_grow_92f84_26 : decode cJx4a65c_grow_92f84 26 = .ok (.ishr, 1) := by decide +kernel
theorem dJx4a65c_grow_92f84_27 : decode cJx4a65c_grow_92f84 27 = .ok (.invokestatic 73, 3) := by decide +kernel
theorem dJx4a65c_grow_92f84_30 : decode cJx4a65c_grow_92f84 30 = .ok (.istore_n 3, 1) := by decide +kernel
theorem dJx4a65c_grow_92f84_31 : decode cJx4a65c_grow_92f84 31 = .ok (.aload_n 0, 1) := by decide +kernel
theorem dJx4a65c_grow_92f84_32 : decode cJx4a65c_grow_92f84 32 = .ok (.aload_n 0, 1) := by decide +kernel
theorem dJx4a65c_grow_92f84_33 : decode cJx4a65c_grow_92f84 33 = .ok (.getfield 9, 3) := by decide +kernel
theorem dJx4a65c_grow_92f84_36 : decode cJx4a65c_grow_92f84 36 = .ok (.iload_n 3, 1) := by decide +kernel
theorem dJx4a65c_grow_92f84_37 : decode cJx4a65c_grow_92f84 37 = .ok (.invokestatic 66, 3) := by decide +kernel
theorem dJx4a65c_grow_92f84_40 : decode cJx4a65c_grow_92f84 40 = .ok (.dup_x1, 1) := by decide +kernel
theorem dJx4a65c_grow_92f84_41 : decode cJx4a65c_grow_92f84 41 = .ok (.putfield 9, 3) := by decide +kernel
theorem dJx4a65c_grow_92f84_44 : decode cJx4a65c_grow_92f84 44 = .ok (.areturn, 1) := by decide +kernel
theorem dJx4a65c_grow_92f84_45 : decode cJx4a65c_grow_92f84 45 = .ok (.aload_n 0, 1) := by decide +kernel
theorem dJx4a65c_grow_92f84_46 : decode cJx4a65c_grow_92f84 46 = .ok (.bipush 10, 2) := by decide +kernel
theorem dJx4a65c_grow_92f84_48 : decode cJx4a65c_grow_92f84 48 = .ok (.iload_n 1, 1) := by decide +kernel
theorem dJx4a65c_grow_92f84_49 : decode cJx4a65c_grow_92f84 49 = .ok (.invokestatic 79, 3) := by decide +kernel
theorem dJx4a65c_grow_92f84_52 : decode cJx4a65c_grow_92f84 52 = .ok (.anewarray 7, 3) := by decide +kernel
theorem dJx4a65c_grow_92f84_55 : decode cJx4a65c_grow_92f84 55 = .ok (.dup_x1, 1) := by decide +kernel
theorem dJx4a65c_grow_92f84_56 : decode cJx4a65c_grow_92f84 56 = .ok (.putfield 9, 3) := by decide +kernel
theorem dJx4a65c_grow_92f84_59 : decode cJx4a65c_grow_92f84 59 = .ok (.areturn, 1) := by decide +kernel
theorem dJx4a65c_grow_d5877_0 : decode cJx4a65c_grow_d5877 0 = .ok (.aload_n 0, 1) := by decide +kernel
theorem dJx4a65c_grow_d5877_1 : decode cJx4a65c_grow_d5877 1 = .ok (.aload_n 0, 1) := by decide +kernel
theorem dJx4a65c_grow_d5877_2 : decode cJx4a65c_grow_d5877 2 = .ok (.getfield 48, 3) := by decide +kernel
theorem dJx4a65c_grow_d5877_5 : decode cJx4a65c_grow_d5877 5 = .ok (.iconst 1, 1) := by decide +kernel
theorem dJx4a65c_grow_d5877_6 : decode cJx4a65c_grow_d5877 6 = .ok (.iadd, 1) := by decide +kernel
theorem dJx4a65c_grow_d5877_7 : decode cJx4a65c_grow_d5877 7 = .ok (.invokevirtual 69, 3) := by decide +kernel
theorem dJx4a65c_grow_d5877_10 : decode cJx4a65c_grow_d5877 10 = .ok (.areturn, 1) := by decide +kernel
theorem dJx4a65c_add_72be8_0 : decode cJx4a65c_add_72be8 0 = .ok (.iload_n 3, 1) := by decide +kernel
theorem dJx4a65c_add_72be8_1 : decode cJx4a65c_add_72be8 1 = .ok (.aload_n 2, 1) := by decide +kernel
theorem dJx4a65c_add_72be8_2 : decode cJx4a65c_add_72be8 2 = .ok (.arraylength, 1) := by decide +kernel
theorem dJx4a65c_add_72be8_3 : decode cJx4a65c_add_72be8 3 = .ok (.if_icmp .ne 8, 3) := by decide +kernel
theorem dJx4a65c_add_72be8_6 : decode cJx4a65c_add_72be8 6 = .ok (.aload_n 0, 1) := by decide +kernel
theorem dJx4a65c_add_72be8_7 : decode cJx4a65c_add_72be8 7 = .ok (.invokevirtual 129, 3) := by decide +kernel
theorem dJx4a65c_add_72be8_10 : decode cJx4a65c_add_72be8 10 = .ok (.astore_n 2, 1) := by decide +kernel
theorem dJx4a65c_add_72be8_11 : decode cJx4a65c_add_72be8 11 = .ok (.aload_n 2, 1) := by decide +kernel
theorem dJx4a65c_add_72be8_12 : decode cJx4a65c_add_72be8 12 = .ok (.iload_n 3, 1) := by decide +kernel
theorem dJx4a65c_add_72be8_13 : decode cJx4a65c_add_72be8 13 = .ok (.aload_n 1, 1) := by decide +kernel
theorem dJx4a65c_add_72be8_14 : decode cJx4a65c_add_72be8 14 = .ok (.aastore, 1) := by decide +kernel
theorem dJx4a65c_add_72be8_15 : decode cJx4a65c_add_72be8 15 = .ok (.aload_n 0, 1) := by decide +kernel
theorem dJx4a65c_add_72be8_16 : decode cJx4a65c_add_72be8 16 = .ok (.iload_n 3, 1) := by decide +kernel
theorem dJx4a65c_add_72be8_17 : decode cJx4a65c_add_72be8 17 = .ok (.iconst 1, 1) := by decide +kernel
theorem dJx4a65c_add_72be8_18 : decode cJx4a65c_add_72be8 18 = .ok (.iadd, 1) := by decide +kernel
theorem dJx4a65c_add_72be8_19 : decode cJx4a65c_add_72be8 19 = .ok (.putfield 48, 3) := by decide +kernel
theorem dJx4a65c_add_72be8_22 : decode cJx4a65c_add_72be8 22 = .ok (.return_, 1) := by decide +kernel
theorem dJx4a65c_add_9ea2d_0 : decode cJx4a65c_add_9ea2d 0 = .ok (.aload_n 0, 1) := by decide +kernel
theorem dJx4a65c_add_9ea2d_1 : decode cJx4a65c_add_9ea2d 1 = .ok (.dup, 1) := by decide +kernel
theorem dJx4a65c_add_9ea2d_2 : decode cJx4a65c_add_9ea2d 2 = .ok (.getfield 63, 3) := by decide +kernel
theorem dJx4a65c_add_9ea2d_5 : decode cJx4a65c_add_9ea2d 5 = .ok (.iconst 1, 1) := by decide +kernel
theorem dJx4a65c_add_9ea2d_6 : decode cJx4a65c_add_9ea2d 6 = .ok (.iadd, 1) := by decide +kernel
theorem dJx4a65c_add_9ea2d_7 : decode cJx4a65c_add_9ea2d 7 = .ok (.putfield 63, 3) := by decide +kernel
theorem dJx4a65c_add_9ea2d_10 : decode cJx4a65c_add_9ea2d 10 = .ok (.aload_n 0, 1) := by decide +kernel
theorem dJx4a65c_add_9ea2d_11 : decode cJx4a65c_add_9ea2d 11 = .ok (.aload_n 1, 1) := by decide +kernel
theorem dJx4a65c_add_9ea2d_12 : decode cJx4a65c_add_9ea2d 12 = .ok (.aload_n 0, 1) := by decide +kernel
theorem dJx4a65c_add_9ea2d_13 : decode cJx4a65c_add_9ea2d 13 = .ok (.getfield 9, 3) := by decide +kernel
theorem dJx4a65c_add_9ea2d_16 : decode cJx4a65c_add_9ea2d 16 = .ok (.aload_n 0, 1) := by decide +kernel
theorem dJx4a65c_add_9ea2d_17 : decode cJx4a65c_add_9ea2d 17 = .ok (.getfield 48, 3) := by decide +kernel
theorem dJx4a65c_add_9ea2d_20 : decode cJx4a65c_add_9ea2d 20 = .ok (.invokevirtual 131, 3) := by decide +kernel
theorem dJx4a65c_add_9ea2d_23 : decode cJx4a65c_add_9ea2d 23 = .ok (.iconst 1, 1) := by decide +kernel
theorem dJx4a65c_add_9ea2d_24 : decode cJx4a65c_add_9ea2d 24 = .ok (.ireturn, 1) := by decide +kernel
theorem dX6_hold_0 : decode cX6_hold 0 = .ok (.aload_n 1, 1) := by decide +kernel
theorem dX6_hold_1 : decode cX6_hold 1 = .ok (.ifnonnull 4, 3) := by decide +kernel
theorem dX6_hold_4 : decode cX6_hold 4 = .ok (.return_, 1) := by decide +kernel
theorem dX6_hold_5 : decode cX6_hold 5 = .ok (.aload_n 1, 1) := by decide +kernel
theorem dX6_hold_6 : decode cX6_hold 6 = .ok (.getfield 267, 3) := by decide +kernel
theorem dX6_hold_9 : decode cX6_hold 9 = .ok (.ifCond .ne 13, 3) := by decide +kernel
theorem dX6_hold_12 : decode cX6_hold 12 = .ok (.aload_n 0, 1) := by decide +kernel
theorem dX6_hold_13 : decode cX6_hold 13 = .ok (.dup, 1) := by decide +kernel
theorem dX6_hold_14 : decode cX6_hold 14 = .ok (.getfield 46, 3) := by decide +kernel
theorem dX6_hold_17 : decode cX6_hold 17 = .ok (.iconst 1, 1) := by decide +kernel
theorem dX6_hold_18 : decode cX6_hold 18 = .ok (.iadd, 1) := by decide +kernel
theorem dX6_hold_19 : decode cX6_hold 19 = .ok (.putfield 46, 3) := by decide +kernel
theorem dX6_hold_22 : decode cX6_hold 22 = .ok (.aload_n 1, 1) := by decide +kernel
theorem dX6_hold_23 : decode cX6_hold 23 = .ok (.dup, 1) := by decide +kernel
theorem dX6_hold_24 : decode cX6_hold 24 = .ok (.getfield 267, 3) := by decide +kernel
theorem dX6_hold_27 : decode cX6_hold 27 = .ok (.iconst 1, 1) := by decide +kernel
theorem dX6_hold_28 : decode cX6_hold 28 = .ok (.iadd, 1) := by decide +kernel
theorem dX6_hold_29 : decode cX6_hold 29 = .ok (.putfield 267, 3) := by decide +kernel
theorem dX6_hold_32 : decode cX6_hold 32 = .ok (.return_, 1) := by decide +kernel
theorem dX6_addMessage_0 : decode cX6_addMessage 0 = .ok (.new 157, 3) := by decide +kernel
theorem dX6_addMessage_3 : decode cX6_addMessage 3 = .ok (.dup, 1) := by decide +kernel
theorem dX6_addMessage_4 : decode cX6_addMessage 4 = .ok (.aload_n 0, 1) := by decide +kernel
theorem dX6_addMessage_5 : decode cX6_addMessage 5 = .ok (.getfield 43, 3) := by decide +kernel
theorem dX6_addMessage_8 : decode cX6_addMessage 8 = .ok (.iload_n 1, 1) := by decide +kernel
theorem dX6_addMessage_9 : decode cX6_addMessage 9 = .ok (.aload_n 2, 1) := by decide +kernel
theorem dX6_addMessage_10 : decode cX6_addMessage 10 = .ok (.aload_n 3, 1) := by decide +kernel
theorem dX6_addMessage_11 : decode cX6_addMessage 11 = .ok (.invokespecial 256, 3) := by decide +kernel
theorem dX6_addMessage_14 : decode cX6_addMessage 14 = .ok (.astore 4, 2) := by decide +kernel
theorem dX6_addMessage_16 : decode cX6_addMessage 16 = .ok (.aload_n 0, 1) := by decide +kernel
theorem dX6_addMessage_17 : decode cX6_addMessage 17 = .ok (.dup, 1) := by decide +kernel
theorem dX6_addMessage_18 : decode cX6_addMessage 18 = .ok (.getfield 43, 3) := by decide +kernel
theorem dX6_addMessage_21 : decode cX6_addMessage 21 = .ok (.iconst 1, 1) := by decide +kernel
theorem dX6_addMessage_22 : decode cX6_addMessage 22 = .ok (.iadd, 1) := by decide +kernel
theorem dX6_addMessage_23 : decode cX6_addMessage 23 = .ok (.putfield 43, 3) := by decide +kernel
theorem dX6_addMessage_26 : decode cX6_addMessage 26 = .ok (.aload_n 0, 1) := by decide +kernel
theorem dX6_addMessage_27 : decode cX6_addMessage 27 = .ok (.getfield 35, 3) := by decide +kernel
theorem dX6_addMessage_30 : decode cX6_addMessage 30 = .ok (.aload 4, 2) := by decide +kernel
theorem dX6_addMessage_32 : decode cX6_addMessage 32 = .ok (.invokevirtual 259, 3) := by decide +kernel
theorem dX6_addMessage_35 : decode cX6_addMessage 35 = .ok (.pop, 1) := by decide +kernel
theorem dX6_addMessage_36 : decode cX6_addMessage 36 = .ok (.aload_n 0, 1) := by decide +kernel
theorem dX6_addMessage_37 : decode cX6_addMessage 37 = .ok (.aload_n 2, 1) := by decide +kernel
theorem dX6_addMessage_38 : decode cX6_addMessage 38 = .ok (.invokevirtual 263, 3) := by decide +kernel
theorem dX6_addMessage_41 : decode cX6_addMessage 41 = .ok (.aload_n 0, 1) := by decide +kernel
theorem dX6_addMessage_42 : decode cX6_addMessage 42 = .ok (.aload_n 3, 1) := by decide +kernel
theorem dX6_addMessage_43 : decode cX6_addMessage 43 = .ok (.invokevirtual 263, 3) := by decide +kernel
theorem dX6_addMessage_46 : decode cX6_addMessage 46 = .ok (.aload 4, 2) := by decide +kernel
theorem dX6_addMessage_48 : decode cX6_addMessage 48 = .ok (.getfield 248, 3) := by decide +kernel
theorem dX6_addMessage_51 : decode cX6_addMessage 51 = .ok (.ireturn, 1) := by decide +kernel
theorem dX6_between_0 : decode cX6_between 0 = .ok (.iload_n 1, 1) := by decide +kernel
theorem dX6_between_1 : decode cX6_between 1 = .ok (.iload_n 2, 1) := by decide +kernel
theorem dX6_between_2 : decode cX6_between 2 = .ok (.iload_n 0, 1) := by decide +kernel
theorem dX6_between_3 : decode cX6_between 3 = .ok (.invokestatic 319, 3) := by decide +kernel
theorem dX6_between_6 : decode cX6_between 6 = .ok (.invokestatic 325, 3) := by decide +kernel
theorem dX6_between_9 : decode cX6_between 9 = .ok (.ireturn, 1) := by decide +kernel
theorem dX6_block_0 : decode cX6_block 0 = .ok (.iload_n 1, 1) := by decide +kernel
theorem dX6_block_1 : decode cX6_block 1 = .ok (.ifCond .lt 9, 3) := by decide +kernel
theorem dX6_block_4 : decode cX6_block 4 = .ok (.iload_n 1, 1) := by decide +kernel
theorem dX6_block_5 : decode cX6_block 5 = .ok (.bipush 40, 2) := by decide +kernel
theorem dX6_block_7 : decode cX6_block 7 = .ok (.if_icmp .lt 13, 3) := by decide +kernel
theorem dX6_block_10 : decode cX6_block 10 = .ok (.new 144, 3) := by decide +kernel
theorem dX6_block_13 : decode cX6_block 13 = .ok (.dup, 1) := by decide +kernel
theorem dX6_block_14 : decode cX6_block 14 = .ok (.ldc 209, 2) := by decide +kernel
theorem dX6_block_16 : decode cX6_block 16 = .ok (.invokespecial 148, 3) := by decide +kernel
theorem dX6_block_19 : decode cX6_block 19 = .ok (.athrow, 1) := by decide +kernel
theorem dX6_block_20 : decode cX6_block 20 = .ok (.aload_n 0, 1) := by decide +kernel
theorem dX6_block_21 : decode cX6_block 21 = .ok (.getfield 16, 3) := by decide +kernel
theorem dX6_block_24 : decode cX6_block 24 = .ok (.getfield 211, 3) := by decide +kernel
theorem dX6_block_27 : decode cX6_block 27 = .ok (.iload_n 1, 1) := by decide +kernel
theorem dX6_block_28 : decode cX6_block 28 = .ok (.aaload, 1) := by decide +kernel
theorem dX6_block_29 : decode cX6_block 29 = .ok (.getfield 215, 3) := by decide +kernel
theorem dX6_block_32 : decode cX6_block 32 = .ok (.ireturn, 1) := by decide +kernel
theorem dX6_box_0 : decode cX6_box 0 = .ok (.iload_n 1, 1) := by decide +kernel
theorem dX6_box_1 : decode cX6_box 1 = .ok (.ifCond .lt 10, 3) := by decide +kernel
theorem dX6_box_4 : decode cX6_box 4 = .ok (.iload_n 1, 1) := by decide +kernel
theorem dX6_box_5 : decode cX6_box 5 = .ok (.sipush 500, 3) := by decide +kernel
theorem dX6_box_8 : decode cX6_box 8 = .ok (.if_icmp .le 13, 3) := by decide +kernel
theorem dX6_box_11 : decode cX6_box 11 = .ok (.new 51, 3) := by decide +kernel
theorem dX6_box_14 : decode cX6_box 14 = .ok (.dup, 1) := by decide +kernel
theorem dX6_box_15 : decode cX6_box 15 = .ok (.ldc 53, 2) := by decide +kernel
theorem dX6_box_17 : decode cX6_box 17 = .ok (.invokespecial 55, 3) := by decide +kernel
theorem dX6_box_20 : decode cX6_box 20 = .ok (.athrow, 1) := by decide +kernel
theorem dX6_box_21 : decode cX6_box 21 = .ok (.aload_n 0, 1) := by decide +kernel
theorem dX6_box_22 : decode cX6_box 22 = .ok (.getfield 39, 3) := by decide +kernel
theorem dX6_box_25 : decode cX6_box 25 = .ok (.iconst 4, 1) := by decide +kernel
theorem dX6_box_26 : decode cX6_box 26 = .ok (.if_icmp .lt 13, 3) := by decide +kernel
theorem dX6_box_29 : decode cX6_box 29 = .ok (.new 58, 3) := by decide +kernel
theorem dX6_box_32 : decode cX6_box 32 = .ok (.dup, 1) := by decide +kernel
theorem dX6_box_33 : decode cX6_box 33 = .ok (.ldc 60, 2) := by decide +kernel
theorem dX6_box_35 : decode cX6_box 35 = .ok (.invokespecial 62, 3) := by decide +kernel
theorem dX6_box_38 : decode cX6_box 38 = .ok (.athrow, 1) := by decide +kernel
theorem dX6_box_39 : decode cX6_box 39 = .ok (.aload_n 0, 1) := by decide +kernel
theorem dX6_box_40 : decode cX6_box 40 = .ok (.getfield 22, 3) := by decide +kernel
theorem dX6_box_43 : decode cX6_box 43 = .ok (.aload_n 0, 1) := by decide +kernel
theorem dX6_box_44 : decode cX6_box 44 = .ok (.getfield 39, 3) := by decide +kernel
theorem dX6_box_47 : decode cX6_box 47 = .ok (.aaload, 1) := by decide +kernel
theorem dX6_box_48 : decode cX6_box 48 = .ok (.iload_n 1, 1) := by decide +kernel
theorem dX6_box_49 : decode cX6_box 49 = .ok (.putfield 63, 3) := by decide +kernel
theorem dX6_box_52 : decode cX6_box 52 = .ok (.aload_n 0, 1) := by decide +kernel
theorem dX6_box_53 : decode cX6_box 53 = .ok (.dup, 1) := by decide +kernel
theorem dX6_box_54 : decode cX6_box 54 = .ok (.getfield 39, 3) := by decide +kernel
theorem dX6_box_57 : decode cX6_box 57 = .ok (.iconst 1, 1) := by decide +kernel
theorem dX6_box_58 : decode cX6_box 58 = .ok (.iadd, 1) := by decide +kernel
theorem dX6_box_59 : decode cX6_box 59 = .ok (.putfield 39, 3) := by decide +kernel
theorem dX6_box_62 : decode cX6_box 62 = .ok (.aload_n 0, 1) := by decide +kernel
theorem dX6_box_63 : decode cX6_box 63 = .ok (.getfield 39, 3) := by decide +kernel
theorem dX6_box_66 : decode cX6_box 66 = .ok (.iconst 1, 1) := by decide +kernel
theorem dX6_box_67 : decode cX6_box 67 = .ok (.isub, 1) := by decide +kernel
theorem dX6_box_68 : decode cX6_box 68 = .ok (.ireturn, 1) := by decide +kernel
theorem dX6_busyBits_0 : decode cX6_busyBits 0 = .ok (.iconst 0, 1) := by decide +kernel
theorem dX6_busyBits_1 : decode cX6_busyBits 1 = .ok (.istore_n 1, 1) := by decide +kernel
theorem dX6_busyBits_2 : decode cX6_busyBits 2 = .ok (.iconst 0, 1) := by decide +kernel
theorem dX6_busyBits_3 : decode cX6_busyBits 3 = .ok (.istore_n 2, 1) := by decide +kernel
theorem dX6_busyBits_4 : decode cX6_busyBits 4 = .ok (.iload_n 2, 1) := by decide +kernel
theorem dX6_busyBits_5 : decode cX6_busyBits 5 = .ok (.iconst 3, 1) := by decide +kernel
theorem dX6_busyBits_6 : decode cX6_busyBits 6 = .ok (.if_icmp .ge 27, 3) := by decide +kernel
theorem dX6_busyBits_9 : decode cX6_busyBits 9 = .ok (.aload_n 0, 1) := by decide +kernel
theorem dX6_busyBits_10 : decode cX6_busyBits 10 = .ok (.getfield 28, 3) := by decide +kernel
theorem dX6_busyBits_13 : decode cX6_busyBits 13 = .ok (.iload_n 2, 1) := by decide +kernel
theorem dX6_busyBits_14 : decode cX6_busyBits 14 = .ok (.aaload, 1) := by decide +kernel
theorem dX6_busyBits_15 : decode cX6_busyBits 15 = .ok (.getfield 75, 3) := by decide +kernel
theorem dX6_busyBits_18 : decode cX6_busyBits 18 = .ok (.ifCond .eq 9, 3) := by decide +kernel
theorem dX6_busyBits_21 : decode cX6_busyBits 21 = .ok (.iload_n 1, 1) := by decide +kernel
theorem dX6_busyBits_22 : decode cX6_busyBits 22 = .ok (.iconst 1, 1) := by decide +kernel
theorem dX6_busyBits_23 : decode cX6_busyBits 23 = .ok (.iload_n 2, 1) := by decide +kernel
theorem dX6_busyBits_24 : decode cX6_busyBits 24 = .ok (.ishl, 1) := by decide +kernel
theorem dX6_busyBits_25 : decode cX6_busyBits 25 = .ok (.ior, 1) := by decide +kernel
theorem dX6_busyBits_26 : decode cX6_busyBits 26 = .ok (.istore_n 1, 1) := by decide +kernel
theorem dX6_busyBits_27 : decode cX6_busyBits 27 = .ok (.iinc 2 1, 3) := by decide +kernel
theorem dX6_busyBits_30 : decode cX6_busyBits 30 = .ok (.goto (-26), 3) := by decide +kernel
theorem dX6_busyBits_33 : decode cX6_busyBits 33 = .ok (.iload_n 1, 1) := by decide +kernel
theorem dX6_busyBits_34 : decode cX6_busyBits 34 = .ok (.ireturn, 1) := by decide +kernel
theorem dX6_requireLine_0 : decode cX6_requireLine 0 = .ok (.iload_n 1, 1) := by decide +kernel
theorem dX6_requireLine_1 : decode cX6_requireLine 1 = .ok (.ifCond .lt 8, 3) := by decide +kernel
theorem dX6_requireLine_4 : decode cX6_requireLine 4 = .ok (.iload_n 1, 1) := by decide +kernel
theorem dX6_requireLine_5 : decode cX6_requireLine 5 = .ok (.iconst 3, 1) := by decide +kernel
theorem dX6_requireLine_6 : decode cX6_requireLine 6 = .ok (.if_icmp .lt 13, 3) := by decide +kernel
theorem dX6_requireLine_9 : decode cX6_requireLine 9 = .ok (.new 51, 3) := by decide +kernel
theorem dX6_requireLine_12 : decode cX6_requireLine 12 = .ok (.dup, 1) := by decide +kernel
theorem dX6_requireLine_13 : decode cX6_requireLine 13 = .ok (.ldc 240, 2) := by decide +kernel
theorem dX6_requireLine_15 : decode cX6_requireLine 15 = .ok (.invokespecial 55, 3) := by decide +kernel
theorem dX6_requireLine_18 : decode cX6_requireLine 18 = .ok (.athrow, 1) := by decide +kernel
theorem dX6_requireLine_19 : decode cX6_requireLine 19 = .ok (.return_, 1) := by decide +kernel
theorem dX6_busyLine_0 : decode cX6_busyLine 0 = .ok (.aload_n 0, 1) := by decide +kernel
theorem dX6_busyLine_1 : decode cX6_busyLine 1 = .ok (.iload_n 1, 1) := by decide +kernel
theorem dX6_busyLine_2 : decode cX6_busyLine 2 = .ok (.invokevirtual 70, 3) := by decide +kernel
theorem dX6_busyLine_5 : decode cX6_busyLine 5 = .ok (.aload_n 0, 1) := by decide +kernel
theorem dX6_busyLine_6 : decode cX6_busyLine 6 = .ok (.getfield 28, 3) := by decide +kernel
theorem dX6_busyLine_9 : decode cX6_busyLine 9 = .ok (.iload_n 1, 1) := by decide +kernel
theorem dX6_busyLine_10 : decode cX6_busyLine 10 = .ok (.aaload, 1) := by decide +kernel
theorem dX6_busyLine_11 : decode cX6_busyLine 11 = .ok (.getfield 75, 3) := by decide +kernel
theorem dX6_busyLine_14 : decode cX6_busyLine 14 = .ok (.ifCond .ne 13, 3) := by decide +kernel
theorem dX6_busyLine_17 : decode cX6_busyLine 17 = .ok (.new 58, 3) := by decide +kernel
theorem dX6_busyLine_20 : decode cX6_busyLine 20 = .ok (.dup, 1) := by decide +kernel
theorem dX6_busyLine_21 : decode cX6_busyLine 21 = .ok (.ldc 246, 2) := by decide +kernel
theorem dX6_busyLine_23 : decode cX6_busyLine 23 = .ok (.invokespecial 62, 3) := by decide +kernel
theorem dX6_busyLine_26 : decode cX6_busyLine 26 = .ok (.athrow, 1) := by decide +kernel
theorem dX6_busyLine_27 : decode cX6_busyLine 27 = .ok (.aload_n 0, 1) := by decide +kernel
theorem dX6_busyLine_28 : decode cX6_busyLine 28 = .ok (.getfield 28, 3) := by decide +kernel
theorem dX6_busyLine_31 : decode cX6_busyLine 31 = .ok (.iload_n 1, 1) := by decide +kernel
theorem dX6_busyLine_32 : decode cX6_busyLine 32 = .ok (.aaload, 1) := by decide +kernel
theorem dX6_busyLine_33 : decode cX6_busyLine 33 = .ok (.areturn, 1) := by decide +kernel
theorem dX6_requireBox_0 : decode cX6_requireBox 0 = .ok (.iload_n 1, 1) := by decide +kernel
theorem dX6_requireBox_1 : decode cX6_requireBox 1 = .ok (.ifCond .lt 11, 3) := by decide +kernel
theorem dX6_requireBox_4 : decode cX6_requireBox 4 = .ok (.iload_n 1, 1) := by decide +kernel
theorem dX6_requireBox_5 : decode cX6_requireBox 5 = .ok (.aload_n 0, 1) := by decide +kernel
theorem dX6_requireBox_6 : decode cX6_requireBox 6 = .ok (.getfield 39, 3) := by decide +kernel
theorem dX6_requireBox_9 : decode cX6_requireBox 9 = .ok (.if_icmp .lt 13, 3) := by decide +kernel
theorem dX6_requireBox_12 : decode cX6_requireBox 12 = .ok (.new 235, 3) := by decide +kernel
theorem dX6_requireBox_15 : decode cX6_requireBox 15 = .ok (.dup, 1) := by decide +kernel
theorem dX6_requireBox_16 : decode cX6_requireBox 16 = .ok (.ldc 237, 2) := by decide +kernel
theorem dX6_requireBox_18 : decode cX6_requireBox 18 = .ok (.invokespecial 239, 3) := by decide +kernel
theorem dX6_requireBox_21 : decode cX6_requireBox 21 = .ok (.athrow, 1) := by decide +kernel
theorem dX6_requireBox_22 : decode cX6_requireBox 22 = .ok (.return_, 1) := by decide +kernel
theorem dJx4a65c_size_8abf5_0 : decode cJx4a65c_size_8abf5 0 = .ok (.aload_n 0, 1) := by decide +kernel
theorem dJx4a65c_size_8abf5_1 : decode cJx4a65c_size_8abf5 1 = .ok (.getfield 48, 3) := by decide +kernel
theorem dJx4a65c_size_8abf5_4 : decode cJx4a65c_size_8abf5 4 = .ok (.ireturn, 1) := by decide +kernel
theorem dX2_speaksMessage_0 : decode cX2_speaksMessage 0 = .ok (.aload_n 0, 1) := by decide +kernel
theorem dX2_speaksMessage_1 : decode cX2_speaksMessage 1 = .ok (.getfield 19, 3) := by decide +kernel
theorem dX2_speaksMessage_4 : decode cX2_speaksMessage 4 = .ok (.ifCond .eq 14, 3) := by decide +kernel
theorem dX2_speaksMessage_7 : decode cX2_speaksMessage 7 = .ok (.aload_n 0, 1) := by decide +kernel
theorem dX2_speaksMessage_8 : decode cX2_speaksMessage 8 = .ok (.getfield 29, 3) := by decide +kernel
theorem dX2_speaksMessage_11 : decode cX2_speaksMessage 11 = .ok (.ifCond .ne 7, 3) := by decide +kernel
theorem dX2_speaksMessage_14 : decode cX2_speaksMessage 14 = .ok (.iconst 1, 1) := by decide +kernel
theorem dX2_speaksMessage_15 : decode cX2_speaksMessage 15 = .ok (.goto 4, 3) := by decide +kernel
theorem dX2_speaksMessage_18 : decode cX2_speaksMessage 18 = .ok (.iconst 0, 1) := by decide +kernel
theorem dX2_speaksMessage_19 : decode cX2_speaksMessage 19 = .ok (.ireturn, 1) := by decide +kernel
theorem dX6_hasRoomForMessage_0 : decode cX6_hasRoomForMessage 0 = .ok (.aload_n 0, 1) := by decide +kernel
theorem dX6_hasRoomForMessage_1 : decode cX6_hasRoomForMessage 1 = .ok (.getfield 35, 3) := by decide +kernel
theorem dX6_hasRoomForMessage_4 : decode cX6_hasRoomForMessage 4 = .ok (.invokevirtual 222, 3) := by decide +kernel
theorem dX6_hasRoomForMessage_7 : decode cX6_hasRoomForMessage 7 = .ok (.istore_n 1, 1) := by decide +kernel
theorem dX6_hasRoomForMessage_8 : decode cX6_hasRoomForMessage 8 = .ok (.iconst 0, 1) := by decide +kernel
theorem dX6_hasRoomForMessage_9 : decode cX6_hasRoomForMessage 9 = .ok (.istore_n 2, 1) := by decide +kernel
theorem dX6_hasRoomForMessage_10 : decode cX6_hasRoomForMessage 10 = .ok (.iload_n 2, 1) := by decide +kernel
theorem dX6_hasRoomForMessage_11 : decode cX6_hasRoomForMessage 11 = .ok (.iconst 3, 1) := by decide +kernel
theorem dX6_hasRoomForMessage_12 : decode cX6_hasRoomForMessage 12 = .ok (.if_icmp .ge 24, 3) := by decide +kernel
theorem dX6_hasRoomForMessage_15 : decode cX6_hasRoomForMessage 15 = .ok (.aload_n 0, 1) := by decide +kernel
theorem dX6_hasRoomForMessage_16 : decode cX6_hasRoomForMessage 16 = .ok (.getfield 28, 3) := by decide +kernel
theorem dX6_hasRoomForMessage_19 : decode cX6_hasRoomForMessage 19 = .ok (.iload_n 2, 1) := by decide +kernel
theorem dX6_hasRoomForMessage_20 : decode cX6_hasRoomForMessage 20 = .ok (.aaload, 1) := by decide +kernel
theorem dX6_hasRoomForMessage_21 : decode cX6_hasRoomForMessage 21 = .ok (.invokevirtual 253, 3) := by decide +kernel
theorem dX6_hasRoomForMessage_24 : decode cX6_hasRoomForMessage 24 = .ok (.ifCond .eq 6, 3) := by decide +kernel
theorem dX6_hasRoomForMessage_27 : decode cX6_hasRoomForMessage 27 = .ok (.iinc 1 1, 3) := by decide +kernel
theorem dX6_hasRoomForMessage_30 : decode cX6_hasRoomForMessage 30 = .ok (.iinc 2 1, 3) := by decide +kernel
theorem dX6_hasRoomForMessage_33 : decode cX6_hasRoomForMessage 33 = .ok (.goto (-23), 3) := by decide +kernel
theorem dX6_hasRoomForMessage_36 : decode cX6_hasRoomForMessage 36 = .ok (.iload_n 1, 1) := by decide +kernel
theorem dX6_hasRoomForMessage_37 : decode cX6_hasRoomForMessage 37 = .ok (.bipush 16, 2) := by decide +kernel
theorem dX6_hasRoomForMessage_39 : decode cX6_hasRoomForMessage 39 = .ok (.if_icmp .ge 7, 3) := by decide +kernel
theorem dX6_hasRoomForMessage_42 : decode cX6_hasRoomForMessage 42 = .ok (.iconst 1, 1) := by decide +kernel
theorem dX6_hasRoomForMessage_43 : decode cX6_hasRoomForMessage 43 = .ok (.goto 4, 3) := by decide +kernel
theorem dX6_hasRoomForMessage_46 : decode cX6_hasRoomForMessage 46 = .ok (.iconst 0, 1) := by decide +kernel
theorem dX6_hasRoomForMessage_47 : decode cX6_hasRoomForMessage 47 = .ok (.ireturn, 1) := by decide +kernel
theorem dX2_forgetGuess_0 : decode cX2_forgetGuess 0 = .ok (.aload_n 0, 1) := by decide +kernel
theorem dX2_forgetGuess_1 : decode cX2_forgetGuess 1 = .ok (.iconst 0, 1) := by decide +kernel
theorem dX2_forgetGuess_2 : decode cX2_forgetGuess 2 = .ok (.putfield 42, 3) := by decide +kernel
theorem dX2_forgetGuess_5 : decode cX2_forgetGuess 5 = .ok (.aload_n 0, 1) := by decide +kernel
theorem dX2_forgetGuess_6 : decode cX2_forgetGuess 6 = .ok (.iconst 0, 1) := by decide +kernel
theorem dX2_forgetGuess_7 : decode cX2_forgetGuess 7 = .ok (.putfield 45, 3) := by decide +kernel
theorem dX2_forgetGuess_10 : decode cX2_forgetGuess 10 = .ok (.return_, 1) := by decide +kernel
theorem dX2_begin_0 : decode cX2_begin 0 = .ok (.aload_n 0, 1) := by decide +kernel
theorem dX2_begin_1 : decode cX2_begin 1 = .ok (.iconst 1, 1) := by decide +kernel
theorem dX2_begin_2 : decode cX2_begin 2 = .ok (.putfield 19, 3) := by decide +kernel
theorem dX2_begin_5 : decode cX2_begin 5 = .ok (.aload_n 0, 1) := by decide +kernel
theorem dX2_begin_6 : decode cX2_begin 6 = .ok (.iconst 0, 1) := by decide +kernel
theorem dX2_begin_7 : decode cX2_begin 7 = .ok (.putfield 23, 3) := by decide +kernel
theorem dX2_begin_10 : decode cX2_begin 10 = .ok (.aload_n 0, 1) := by decide +kernel
theorem dX2_begin_11 : decode cX2_begin 11 = .ok (.iload_n 1, 1) := by decide +kernel
theorem dX2_begin_12 : decode cX2_begin 12 = .ok (.putfield 26, 3) := by decide +kernel
theorem dX2_begin_15 : decode cX2_begin 15 = .ok (.aload_n 0, 1) := by decide +kernel
theorem dX2_begin_16 : decode cX2_begin 16 = .ok (.iload_n 2, 1) := by decide +kernel
theorem dX2_begin_17 : decode cX2_begin 17 = .ok (.putfield 29, 3) := by decide +kernel
theorem dX2_begin_20 : decode cX2_begin 20 = .ok (.aload_n 0, 1) := by decide +kernel
theorem dX2_begin_21 : decode cX2_begin 21 = .ok (.new 32, 3) := by decide +kernel
theorem dX2_begin_24 : decode cX2_begin 24 = .ok (.dup, 1) := by decide +kernel
theorem dX2_begin_25 : decode cX2_begin 25 = .ok (.invokespecial 34, 3) := by decide +kernel
theorem dX2_begin_28 : decode cX2_begin 28 = .ok (.putfield 35, 3) := by decide +kernel
theorem dX2_begin_31 : decode cX2_begin 31 = .ok (.aload_n 0, 1) := by decide +kernel
theorem dX2_begin_32 : decode cX2_begin 32 = .ok (.iconst 0, 1) := by decide +kernel
theorem dX2_begin_33 : decode cX2_begin 33 = .ok (.putfield 15, 3) := by decide +kernel
theorem dX2_begin_36 : decode cX2_begin 36 = .ok (.aload_n 0, 1) := by decide +kernel
theorem dX2_begin_37 : decode cX2_begin 37 = .ok (.iconst 0, 1) := by decide +kernel
theorem dX2_begin_38 : decode cX2_begin 38 = .ok (.putfield 39, 3) := by decide +kernel
theorem dX2_begin_41 : decode cX2_begin 41 = .ok (.aload_n 0, 1) := by decide +kernel
theorem dX2_begin_42 : decode cX2_begin 42 = .ok (.invokevirtual 48, 3) := by decide +kernel
theorem dX2_begin_45 : decode cX2_begin 45 = .ok (.return_, 1) := by decide +kernel
theorem dX6_call_0 : decode cX6_call 0 = .ok (.aload_n 0, 1) := by decide +kernel
theorem dX6_call_1 : decode cX6_call 1 = .ok (.iload_n 2, 1) := by decide +kernel
theorem dX6_call_2 : decode cX6_call 2 = .ok (.invokevirtual 66, 3) := by decide +kernel
theorem dX6_call_5 : decode cX6_call 5 = .ok (.aload_n 0, 1) := by decide +kernel
theorem dX6_call_6 : decode cX6_call 6 = .ok (.iload_n 1, 1) := by decide +kernel
theorem dX6_call_7 : decode cX6_call 7 = .ok (.invokevirtual 70, 3) := by decide +kernel
theorem dX6_call_10 : decode cX6_call 10 = .ok (.iload_n 3, 1) := by decide +kernel
theorem dX6_call_11 : decode cX6_call 11 = .ok (.ifCond .lt 8, 3) := by decide +kernel
theorem dX6_call_14 : decode cX6_call 14 = .ok (.iload_n 3, 1) := by decide +kernel
theorem dX6_call_15 : decode cX6_call 15 = .ok (.iconst 4, 1) := by decide +kernel
theorem dX6_call_16 : decode cX6_call 16 = .ok (.if_icmp .lt 13, 3) := by decide +kernel
theorem dX6_call_19 : decode cX6_call 19 = .ok (.new 51, 3) := by decide +kernel
theorem dX6_call_22 : decode cX6_call 22 = .ok (.dup, 1) := by decide +kernel
theorem dX6_call_23 : decode cX6_call 23 = .ok (.ldc 73, 2) := by decide +kernel
theorem dX6_call_25 : decode cX6_call 25 = .ok (.invokespecial 55, 3) := by decide +kernel
theorem dX6_call_28 : decode cX6_call 28 = .ok (.athrow, 1) := by decide +kernel
theorem dX6_call_29 : decode cX6_call 29 = .ok (.aload_n 0, 1) := by decide +kernel
theorem dX6_call_30 : decode cX6_call 30 = .ok (.getfield 28, 3) := by decide +kernel
theorem dX6_call_33 : decode cX6_call 33 = .ok (.iload_n 1, 1) := by decide +kernel
theorem dX6_call_34 : decode cX6_call 34 = .ok (.aaload, 1) := by decide +kernel
theorem dX6_call_35 : decode cX6_call 35 = .ok (.getfield 75, 3) := by decide +kernel
theorem dX6_call_38 : decode cX6_call 38 = .ok (.ifCond .eq 13, 3) := by decide +kernel
theorem dX6_call_41 : decode cX6_call 41 = .ok (.new 58, 3) := by decide +kernel
theorem dX6_call_44 : decode cX6_call 44 = .ok (.dup, 1) := by decide +kernel
theorem dX6_call_45 : decode cX6_call 45 = .ok (.ldc 79, 2) := by decide +kernel
theorem dX6_call_47 : decode cX6_call 47 = .ok (.invokespecial 62, 3) := by decide +kernel
theorem dX6_call_50 : decode cX6_call 50 = .ok (.athrow, 1) := by decide +kernel
theorem dX6_call_51 : decode cX6_call 51 = .ok (.iload_n 3, 1) := by decide +kernel
theorem dX6_call_52 : decode cX6_call 52 = .ok (.ifCond .ne 20, 3) := by decide +kernel
theorem dX6_call_55 : decode cX6_call 55 = .ok (.aload_n 0, 1) := by decide +kernel
theorem dX6_call_56 : decode cX6_call 56 = .ok (.invokevirtual 81, 3) := by decide +kernel
theorem dX6_call_59 : decode cX6_call 59 = .ok (.ifCond .ne 13, 3) := by decide +kernel
theorem dX6_call_62 : decode cX6_call 62 = .ok (.new 58, 3) := by decide +kernel
theorem dX6_call_65 : decode cX6_call 65 = .ok (.dup, 1) := by decide +kernel
theorem dX6_call_66 : decode cX6_call 66 = .ok (.ldc 85, 2) := by decide +kernel
theorem dX6_call_68 : decode cX6_call 68 = .ok (.invokespecial 62, 3) := by decide +kernel
theorem dX6_call_71 : decode cX6_call 71 = .ok (.athrow, 1) := by decide +kernel
theorem dX6_call_72 : decode cX6_call 72 = .ok (.aload_n 0, 1) := by decide +kernel
theorem dX6_call_73 : decode cX6_call 73 = .ok (.getfield 28, 3) := by decide +kernel
theorem dX6_call_76 : decode cX6_call 76 = .ok (.iload_n 1, 1) := by decide +kernel
theorem dX6_call_77 : decode cX6_call 77 = .ok (.aaload, 1) := by decide +kernel
theorem dX6_call_78 : decode cX6_call 78 = .ok (.iload_n 2, 1) := by decide +kernel
theorem dX6_call_79 : decode cX6_call 79 = .ok (.iload_n 3, 1) := by decide +kernel
theorem dX6_call_80 : decode cX6_call 80 = .ok (.invokevirtual 87, 3) := by decide +kernel
theorem dX6_call_83 : decode cX6_call 83 = .ok (.return_, 1) := by decide +kernel
theorem dX4_needsBlock_0 : decode cX4_needsBlock 0 = .ok (.aload_n 0, 1) := by decide +kernel
theorem dX4_needsBlock_1 : decode cX4_needsBlock 1 = .ok (.getfield 15, 3) := by decide +kernel
theorem dX4_needsBlock_4 : decode cX4_needsBlock 4 = .ok (.ifnull 14, 3) := by decide +kernel
theorem dX4_needsBlock_7 : decode cX4_needsBlock 7 = .ok (.aload_n 0, 1) := by decide +kernel
theorem dX4_needsBlock_8 : decode cX4_needsBlock 8 = .ok (.getfield 15, 3) := by decide +kernel
theorem dX4_needsBlock_11 : decode cX4_needsBlock 11 = .ok (.getfield 28, 3) := by decide +kernel
theorem dX4_needsBlock_14 : decode cX4_needsBlock 14 = .ok (.iconst 4, 1) := by decide +kernel
theorem dX4_needsBlock_15 : decode cX4_needsBlock 15 = .ok (.if_icmp .lt 7, 3) := by decide +kernel
theorem dX4_needsBlock_18 : decode cX4_needsBlock 18 = .ok (.iconst 1, 1) := by decide +kernel
theorem dX4_needsBlock_19 : decode cX4_needsBlock 19 = .ok (.goto 4, 3) := by decide +kernel
theorem dX4_needsBlock_22 : decode cX4_needsBlock 22 = .ok (.iconst 0, 1) := by decide +kernel
theorem dX4_needsBlock_23 : decode cX4_needsBlock 23 = .ok (.ireturn, 1) := by decide +kernel
theorem dX5_leastFree_0 : decode cX5_leastFree 0 = .ok (.iconst 0, 1) := by decide +kernel
theorem dX5_leastFree_1 : decode cX5_leastFree 1 = .ok (.istore_n 1, 1) := by decide +kernel
theorem dX5_leastFree_2 : decode cX5_leastFree 2 = .ok (.iload_n 1, 1) := by decide +kernel
theorem dX5_leastFree_3 : decode cX5_leastFree 3 = .ok (.bipush 40, 2) := by decide +kernel
theorem dX5_leastFree_5 : decode cX5_leastFree 5 = .ok (.if_icmp .ge 23, 3) := by decide +kernel
theorem dX5_leastFree_8 : decode cX5_leastFree 8 = .ok (.aload_n 0, 1) := by decide +kernel
theorem dX5_leastFree_9 : decode cX5_leastFree 9 = .ok (.getfield 11, 3) := by decide +kernel
theorem dX5_leastFree_12 : decode cX5_leastFree 12 = .ok (.iload_n 1, 1) := by decide +kernel
theorem dX5_leastFree_13 : decode cX5_leastFree 13 = .ok (.aaload, 1) := by decide +kernel
theorem dX5_leastFree_14 : decode cX5_leastFree 14 = .ok (.getfield 18, 3) := by decide +kernel
theorem dX5_leastFree_17 : decode cX5_leastFree 17 = .ok (.ifCond .ne 5, 3) := by decide +kernel
theorem dX5_leastFree_20 : decode cX5_leastFree 20 = .ok (.iload_n 1, 1) := by decide +kernel
theorem dX5_leastFree_21 : decode cX5_leastFree 21 = .ok (.ireturn, 1) := by decide +kernel
theorem dX5_leastFree_22 : decode cX5_leastFree 22 = .ok (.iinc 1 1, 3) := by decide +kernel
theorem dX5_leastFree_25 : decode cX5_leastFree 25 = .ok (.goto (-23), 3) := by decide +kernel
theorem dX5_leastFree_28 : decode cX5_leastFree 28 = .ok (.iconst (-1), 1) := by decide +kernel
theorem dX5_leastFree_29 : decode cX5_leastFree 29 = .ok (.ireturn, 1) := by decide +kernel
theorem dX4_addBlock_0 : decode cX4_addBlock 0 = .ok (.aload_n 0, 1) := by decide +kernel
theorem dX4_addBlock_1 : decode cX4_addBlock 1 = .ok (.getfield 15, 3) := by decide +kernel
theorem dX4_addBlock_4 : decode cX4_addBlock 4 = .ok (.ifnonnull 11, 3) := by decide +kernel
theorem dX4_addBlock_7 : decode cX4_addBlock 7 = .ok (.aload_n 0, 1) := by decide +kernel
theorem dX4_addBlock_8 : decode cX4_addBlock 8 = .ok (.aload_n 1, 1) := by decide +kernel
theorem dX4_addBlock_9 : decode cX4_addBlock 9 = .ok (.putfield 9, 3) := by decide +kernel
theorem dX4_addBlock_12 : decode cX4_addBlock 12 = .ok (.goto 11, 3) := by decide +kernel
theorem dX4_addBlock_15 : decode cX4_addBlock 15 = .ok (.aload_n 0, 1) := by decide +kernel
theorem dX4_addBlock_16 : decode cX4_addBlock 16 = .ok (.getfield 15, 3) := by decide +kernel
theorem dX4_addBlock_19 : decode cX4_addBlock 19 = .ok (.aload_n 1, 1) := by decide +kernel
theorem dX4_addBlock_20 : decode cX4_addBlock 20 = .ok (.putfield 33, 3) := by decide +kernel
theorem dX4_addBlock_23 : decode cX4_addBlock 23 = .ok (.aload_n 0, 1) := by decide +kernel
theorem dX4_addBlock_24 : decode cX4_addBlock 24 = .ok (.aload_n 1, 1) := by decide +kernel
theorem dX4_addBlock_25 : decode cX4_addBlock 25 = .ok (.putfield 15, 3) := by decide +kernel
theorem dX4_addBlock_28 : decode cX4_addBlock 28 = .ok (.return_, 1) := by decide +kernel
theorem dX2_tell_0 : decode cX2_tell 0 = .ok (.iload_n 1, 1) := by decide +kernel
theorem dX2_tell_1 : decode cX2_tell 1 = .ok (.aload_n 0, 1) := by decide +kernel
theorem dX2_tell_2 : decode cX2_tell 2 = .ok (.getfield 42, 3) := by decide +kernel
theorem dX2_tell_5 : decode cX2_tell 5 = .ok (.if_icmp .ge 7, 3) := by decide +kernel
theorem dX2_tell_8 : decode cX2_tell 8 = .ok (.iconst 1, 1) := by decide +kernel
theorem dX2_tell_9 : decode cX2_tell 9 = .ok (.goto 4, 3) := by decide +kernel
theorem dX2_tell_12 : decode cX2_tell 12 = .ok (.iconst 0, 1) := by decide +kernel
theorem dX2_tell_13 : decode cX2_tell 13 = .ok (.istore_n 3, 1) := by decide +kernel
theorem dX2_tell_14 : decode cX2_tell 14 = .ok (.iload_n 3, 1) := by decide +kernel
theorem dX2_tell_15 : decode cX2_tell 15 = .ok (.ifCond .eq 12, 3) := by decide +kernel
theorem dX2_tell_18 : decode cX2_tell 18 = .ok (.aload_n 0, 1) := by decide +kernel
theorem dX2_tell_19 : decode cX2_tell 19 = .ok (.getfield 42, 3) := by decide +kernel
theorem dX2_tell_22 : decode cX2_tell 22 = .ok (.iload_n 1, 1) := by decide +kernel
theorem dX2_tell_23 : decode cX2_tell 23 = .ok (.isub, 1) := by decide +kernel
theorem dX2_tell_24 : decode cX2_tell 24 = .ok (.goto 9, 3) := by decide +kernel
theorem dX2_tell_27 : decode cX2_tell 27 = .ok (.iload_n 1, 1) := by decide +kernel
theorem dX2_tell_28 : decode cX2_tell 28 = .ok (.aload_n 0, 1) := by decide +kernel
theorem dX2_tell_29 : decode cX2_tell 29 = .ok (.getfield 42, 3) := by decide +kernel
theorem dX2_tell_32 : decode cX2_tell 32 = .ok (.isub, 1) := by decide +kernel
theorem dX2_tell_33 : decode cX2_tell 33 = .ok (.istore 4, 2) := by decide +kernel
theorem dX2_tell_35 : decode cX2_tell 35 = .ok (.iload_n 2, 1) := by decide +kernel
theorem dX2_tell_36 : decode cX2_tell 36 = .ok (.bipush 8, 2) := by decide +kernel
theorem dX2_tell_38 : decode cX2_tell 38 = .ok (.idiv, 1) := by decide +kernel
theorem dX2_tell_39 : decode cX2_tell 39 = .ok (.istore 5, 2) := by decide +kernel
theorem dX2_tell_41 : decode cX2_tell 41 = .ok (.iconst 0, 1) := by decide +kernel
theorem dX2_tell_42 : decode cX2_tell 42 = .ok (.istore 6, 2) := by decide +kernel
theorem dX2_tell_44 : decode cX2_tell 44 = .ok (.iload_n 2, 1) := by decide +kernel
theorem dX2_tell_45 : decode cX2_tell 45 = .ok (.istore 7, 2) := by decide +kernel
theorem dX2_tell_47 : decode cX2_tell 47 = .ok (.iconst 4, 1) := by decide +kernel
theorem dX2_tell_48 : decode cX2_tell 48 = .ok (.istore 8, 2) := by decide +kernel
theorem dX2_tell_50 : decode cX2_tell 50 = .ok (.iload 8, 2) := by decide +kernel
theorem dX2_tell_52 : decode cX2_tell 52 = .ok (.ifCond .le 46, 3) := by decide +kernel
theorem dX2_tell_55 : decode cX2_tell 55 = .ok (.iload 4, 2) := by decide +kernel
theorem dX2_tell_57 : decode cX2_tell 57 = .ok (.iload 7, 2) := by decide +kernel
theorem dX2_tell_59 : decode cX2_tell 59 = .ok (.if_icmp .lt 24, 3) := by decide +kernel
theorem dX2_tell_62 : decode cX2_tell 62 = .ok (.iload 6, 2) := by decide +kernel
theorem dX2_tell_64 : decode cX2_tell 64 = .ok (.iload 8, 2) := by decide +kernel
theorem dX2_tell_66 : decode cX2_tell 66 = .ok (.iadd, 1) := by decide +kernel
theorem dX2_tell_67 : decode cX2_tell 67 = .ok (.istore 6, 2) := by decide +kernel
theorem dX2_tell_69 : decode cX2_tell 69 = .ok (.iload 4, 2) := by decide +kernel
theorem dX2_tell_71 : decode cX2_tell 71 = .ok (.iload 7, 2) := by decide +kernel
theorem dX2_tell_73 : decode cX2_tell 73 = .ok (.isub, 1) := by decide +kernel
theorem dX2_tell_74 : decode cX2_tell 74 = .ok (.istore 4, 2) := by decide +kernel
theorem dX2_tell_76 : decode cX2_tell 76 = .ok (.iload 5, 2) := by decide +kernel
theorem dX2_tell_78 : decode cX2_tell 78 = .ok (.iload 7, 2) := by decide +kernel
theorem dX2_tell_80 : decode cX2_tell 80 = .ok (.iadd, 1) := by decide +kernel
theorem dX2_tell_81 : decode cX2_tell 81 = .ok (.istore 5, 2) := by decide +kernel
theorem dX2_tell_83 : decode cX2_tell 83 = .ok (.iload 7, 2) := by decide +kernel
theorem dX2_tell_85 : decode cX2_tell 85 = .ok (.iconst 2, 1) := by decide +kernel
theorem dX2_tell_86 : decode cX2_tell 86 = .ok (.idiv, 1) := by decide +kernel
theorem dX2_tell_87 : decode cX2_tell 87 = .ok (.istore 7, 2) := by decide +kernel
theorem dX2_tell_89 : decode cX2_tell 89 = .ok (.iload 8, 2) := by decide +kernel
theorem dX2_tell_91 : decode cX2_tell 91 = .ok (.iconst 2, 1) := by decide +kernel
theorem dX2_tell_92 : decode cX2_tell 92 = .ok (.idiv, 1) := by decide +kernel
theorem dX2_tell_93 : decode cX2_tell 93 = .ok (.istore 8, 2) := by decide +kernel
theorem dX2_tell_95 : decode cX2_tell 95 = .ok (.goto (-45), 3) := by decide +kernel
theorem dX2_tell_98 : decode cX2_tell 98 = .ok (.aload_n 0, 1) := by decide +kernel
theorem dX2_tell_99 : decode cX2_tell 99 = .ok (.iload_n 3, 1) := by decide +kernel
theorem dX2_tell_100 : decode cX2_tell 100 = .ok (.ifCond .eq 13, 3) := by decide +kernel
theorem dX2_tell_103 : decode cX2_tell 103 = .ok (.aload_n 0, 1) := by decide +kernel
theorem dX2_tell_104 : decode cX2_tell 104 = .ok (.getfield 42, 3) := by decide +kernel
theorem dX2_tell_107 : decode cX2_tell 107 = .ok (.iload 5, 2) := by decide +kernel
theorem dX2_tell_109 : decode cX2_tell 109 = .ok (.isub, 1) := by decide +kernel
theorem dX2_tell_110 : decode cX2_tell 110 = .ok (.goto 10, 3) := by decide +kernel
theorem dX2_tell_113 : decode cX2_tell 113 = .ok (.aload_n 0, 1) := by decide +kernel
theorem dX2_tell_114 : decode cX2_tell 114 = .ok (.getfield 42, 3) := by decide +kernel
theorem dX2_tell_117 : decode cX2_tell 117 = .ok (.iload 5, 2) := by decide +kernel
theorem dX2_tell_119 : decode cX2_tell 119 = .ok (.iadd, 1) := by decide +kernel
theorem dX2_tell_120 : decode cX2_tell 120 = .ok (.sipush (-32768), 3) := by decide +kernel
theorem dX2_tell_123 : decode cX2_tell 123 = .ok (.sipush 32767, 3) := by decide +kernel
theorem dX2_tell_126 : decode cX2_tell 126 = .ok (.invokestatic 75, 3) := by decide +kernel
theorem dX2_tell_129 : decode cX2_tell 129 = .ok (.putfield 42, 3) := by decide +kernel
theorem dX2_tell_132 : decode cX2_tell 132 = .ok (.aload_n 0, 1) := by decide +kernel
theorem dX2_tell_133 : decode cX2_tell 133 = .ok (.aload_n 0, 1) := by decide +kernel
theorem dX2_tell_134 : decode cX2_tell 134 = .ok (.getfield 45, 3) := by decide +kernel
theorem dX2_tell_137 : decode cX2_tell 137 = .ok (.getstatic 79, 3) := by decide +kernel
theorem dX2_tell_140 : decode cX2_tell 140 = .ok (.iload 6, 2) := by decide +kernel
theorem dX2_tell_142 : decode cX2_tell 142 = .ok (.iaload, 1) := by decide +kernel
theorem dX2_tell_143 : decode cX2_tell 143 = .ok (.iadd, 1) := by decide +kernel
theorem dX2_tell_144 : decode cX2_tell 144 = .ok (.iconst 0, 1) := by decide +kernel
theorem dX2_tell_145 : decode cX2_tell 145 = .ok (.bipush 48, 2) := by decide +kernel
theorem dX2_tell_147 : decode cX2_tell 147 = .ok (.invokestatic 75, 3) := by decide +kernel
theorem dX2_tell_150 : decode cX2_tell 150 = .ok (.putfield 45, 3) := by decide +kernel
theorem dX2_tell_153 : decode cX2_tell 153 = .ok (.return_, 1) := by decide +kernel
theorem dX2_codeInto_0 : decode cX2_codeInto 0 = .ok (.aload_n 1, 1) := by decide +kernel
theorem dX2_codeInto_1 : decode cX2_codeInto 1 = .ok (.ifnull 11, 3) := by decide +kernel
theorem dX2_codeInto_4 : decode cX2_codeInto 4 = .ok (.aload_n 1, 1) := by decide +kernel
theorem dX2_codeInto_5 : decode cX2_codeInto 5 = .ok (.getfield 60, 3) := by decide +kernel
theorem dX2_codeInto_8 : decode cX2_codeInto 8 = .ok (.iconst 4, 1) := by decide +kernel
theorem dX2_codeInto_9 : decode cX2_codeInto 9 = .ok (.if_icmp .lt 4, 3) := by decide +kernel
theorem dX2_codeInto_12 : decode cX2_codeInto 12 = .ok (.return_, 1) := by decide +kernel
theorem dX2_codeInto_13 : decode cX2_codeInto 13 = .ok (.aload_n 1, 1) := by decide +kernel
theorem dX2_codeInto_14 : decode cX2_codeInto 14 = .ok (.getfield 60, 3) := by decide +kernel
theorem dX2_codeInto_17 : decode cX2_codeInto 17 = .ok (.istore_n 3, 1) := by decide +kernel
theorem dX2_codeInto_18 : decode cX2_codeInto 18 = .ok (.aload_n 1, 1) := by decide +kernel
theorem dX2_codeInto_19 : decode cX2_codeInto 19 = .ok (.getfield 65, 3) := by decide +kernel
theorem dX2_codeInto_22 : decode cX2_codeInto 22 = .ok (.iload_n 3, 1) := by decide +kernel
theorem dX2_codeInto_23 : decode cX2_codeInto 23 = .ok (.iconst 0, 1) := by decide +kernel
theorem dX2_codeInto_24 : decode cX2_codeInto 24 = .ok (.iastore, 1) := by decide +kernel
theorem dX2_codeInto_25 : decode cX2_codeInto 25 = .ok (.iconst 0, 1) := by decide +kernel
theorem dX2_codeInto_26 : decode cX2_codeInto 26 = .ok (.istore 4, 2) := by decide +kernel
theorem dX2_codeInto_28 : decode cX2_codeInto 28 = .ok (.iload 4, 2) := by decide +kernel
theorem dX2_codeInto_30 : decode cX2_codeInto 30 = .ok (.bipush 8, 2) := by decide +kernel
theorem dX2_codeInto_32 : decode cX2_codeInto 32 = .ok (.if_icmp .ge 42, 3) := by decide +kernel
theorem dX2_codeInto_35 : decode cX2_codeInto 35 = .ok (.aload_n 0, 1) := by decide +kernel
theorem dX2_codeInto_36 : decode cX2_codeInto 36 = .ok (.aload_n 0, 1) := by decide +kernel
theorem dX2_codeInto_37 : decode cX2_codeInto 37 = .ok (.getfield 9, 3) := by decide +kernel
theorem dX2_codeInto_40 : decode cX2_codeInto 40 = .ok (.iload 4, 2) := by decide +kernel
theorem dX2_codeInto_42 : decode cX2_codeInto 42 = .ok (.iaload, 1) := by decide +kernel
theorem dX2_codeInto_43 : decode cX2_codeInto 43 = .ok (.aload_n 2, 1) := by decide +kernel
theorem dX2_codeInto_44 : decode cX2_codeInto 44 = .ok (.aload_n 0, 1) := by decide +kernel
theorem dX2_codeInto_45 : decode cX2_codeInto 45 = .ok (.getfield 45, 3) := by decide +kernel
theorem dX2_codeInto_48 : decode cX2_codeInto 48 = .ok (.iaload, 1) := by decide +kernel
theorem dX2_codeInto_49 : decode cX2_codeInto 49 = .ok (.invokevirtual 68, 3) := by decide +kernel
theorem dX2_codeInto_52 : decode cX2_codeInto 52 = .ok (.aload_n 1, 1) := by decide +kernel
theorem dX2_codeInto_53 : decode cX2_codeInto 53 = .ok (.getfield 72, 3) := by decide +kernel
theorem dX2_codeInto_56 : decode cX2_codeInto 56 = .ok (.iload_n 3, 1) := by decide +kernel
theorem dX2_codeInto_57 : decode cX2_codeInto 57 = .ok (.bipush 8, 2) := by decide +kernel
theorem dX2_codeInto_59 : decode cX2_codeInto 59 = .ok (.imul, 1) := by decide +kernel
theorem dX2_codeInto_60 : decode cX2_codeInto 60 = .ok (.iload 4, 2) := by decide +kernel
theorem dX2_codeInto_62 : decode cX2_codeInto 62 = .ok (.iadd, 1) := by decide +kernel
theorem dX2_codeInto_63 : decode cX2_codeInto 63 = .ok (.aload_n 0, 1) := by decide +kernel
theorem dX2_codeInto_64 : decode cX2_codeInto 64 = .ok (.getfield 42, 3) := by decide +kernel
theorem dX2_codeInto_67 : decode cX2_codeInto 67 = .ok (.iastore, 1) := by decide +kernel
theorem dX2_codeInto_68 : decode cX2_codeInto 68 = .ok (.iinc 4 1, 3) := by decide +kernel
theorem dX2_codeInto_71 : decode cX2_codeInto 71 = .ok (.goto (-43), 3) := by decide +kernel
theorem dX2_codeInto_74 : decode cX2_codeInto 74 = .ok (.aload_n 1, 1) := by decide +kernel
theorem dX2_codeInto_75 : decode cX2_codeInto 75 = .ok (.dup, 1) := by decide +kernel
theorem dX2_codeInto_76 : decode cX2_codeInto 76 = .ok (.getfield 60, 3) := by decide +kernel
theorem dX2_codeInto_79 : decode cX2_codeInto 79 = .ok (.iconst 1, 1) := by decide +kernel
theorem dX2_codeInto_80 : decode cX2_codeInto 80 = .ok (.iadd, 1) := by decide +kernel
theorem dX2_codeInto_81 : decode cX2_codeInto 81 = .ok (.putfield 60, 3) := by decide +kernel
theorem dX2_codeInto_84 : decode cX2_codeInto 84 = .ok (.return_, 1) := by decide +kernel
theorem dX6_codeFrame_0 : decode cX6_codeFrame 0 = .ok (.aload_n 1, 1) := by decide +kernel
theorem dX6_codeFrame_1 : decode cX6_codeFrame 1 = .ok (.getfield 115, 3) := by decide +kernel
theorem dX6_codeFrame_4 : decode cX6_codeFrame 4 = .ok (.astore_n 2, 1) := by decide +kernel
theorem dX6_codeFrame_5 : decode cX6_codeFrame 5 = .ok (.aload_n 2, 1) := by decide +kernel
theorem dX6_codeFrame_6 : decode cX6_codeFrame 6 = .ok (.invokevirtual 298, 3) := by decide +kernel
theorem dX6_codeFrame_9 : decode cX6_codeFrame 9 = .ok (.ifCond .eq 30, 3) := by decide +kernel
theorem dX6_codeFrame_12 : decode cX6_codeFrame 12 = .ok (.aload_n 0, 1) := by decide +kernel
theorem dX6_codeFrame_13 : decode cX6_codeFrame 13 = .ok (.getfield 16, 3) := by decide +kernel
theorem dX6_codeFrame_16 : decode cX6_codeFrame 16 = .ok (.invokevirtual 301, 3) := by decide +kernel
theorem dX6_codeFrame_19 : decode cX6_codeFrame 19 = .ok (.istore_n 3, 1) := by decide +kernel
theorem dX6_codeFrame_20 : decode cX6_codeFrame 20 = .ok (.iload_n 3, 1) := by decide +kernel
theorem dX6_codeFrame_21 : decode cX6_codeFrame 21 = .ok (.iconst (-1), 1) := by decide +kernel
theorem dX6_codeFrame_22 : decode cX6_codeFrame 22 = .ok (.if_icmp .ne 4, 3) := by decide +kernel
theorem dX6_codeFrame_25 : decode cX6_codeFrame 25 = .ok (.return_, 1) := by decide +kernel
theorem dX6_codeFrame_26 : decode cX6_codeFrame 26 = .ok (.aload_n 2, 1) := by decide +kernel
theorem dX6_codeFrame_27 : decode cX6_codeFrame 27 = .ok (.aload_n 0, 1) := by decide +kernel
theorem dX6_codeFrame_28 : decode cX6_codeFrame 28 = .ok (.getfield 16, 3) := by decide +kernel
theorem dX6_codeFrame_31 : decode cX6_codeFrame 31 = .ok (.getfield 211, 3) := by decide +kernel
theorem dX6_codeFrame_34 : decode cX6_codeFrame 34 = .ok (.iload_n 3, 1) := by decide +kernel
theorem dX6_codeFrame_35 : decode cX6_codeFrame 35 = .ok (.aaload, 1) := by decide +kernel
theorem dX6_codeFrame_36 : decode cX6_codeFrame 36 = .ok (.invokevirtual 304, 3) := by decide +kernel
theorem dX6_codeFrame_39 : decode cX6_codeFrame 39 = .ok (.aload_n 1, 1) := by decide +kernel
theorem dX6_codeFrame_40 : decode cX6_codeFrame 40 = .ok (.aload_n 2, 1) := by decide +kernel
theorem dX6_codeFrame_41 : decode cX6_codeFrame 41 = .ok (.getfield 308, 3) := by decide +kernel
theorem dX6_codeFrame_44 : decode cX6_codeFrame 44 = .ok (.aload_n 0, 1) := by decide +kernel
theorem dX6_codeFrame_45 : decode cX6_codeFrame 45 = .ok (.getfield 9, 3) := by decide +kernel
theorem dX6_codeFrame_48 : decode cX6_codeFrame 48 = .ok (.invokevirtual 312, 3) := by decide +kernel
theorem dX6_codeFrame_51 : decode cX6_codeFrame 51 = .ok (.return_, 1) := by decide +kernel
theorem dX6_costOf_0 : decode cX6_costOf 0 = .ok (.aload_n 0, 1) := by decide +kernel
theorem dX6_costOf_1 : decode cX6_costOf 1 = .ok (.ifnonnull 7, 3) := by decide +kernel
theorem dX6_costOf_4 : decode cX6_costOf 4 = .ok (.iconst 0, 1) := by decide +kernel
theorem dX6_costOf_5 : decode cX6_costOf 5 = .ok (.goto 7, 3) := by decide +kernel
theorem dX6_costOf_8 : decode cX6_costOf 8 = .ok (.aload_n 0, 1) := by decide +kernel
theorem dX6_costOf_9 : decode cX6_costOf 9 = .ok (.getfield 292, 3) := by decide +kernel
theorem dX6_costOf_12 : decode cX6_costOf 12 = .ok (.ireturn, 1) := by decide +kernel
theorem dJ3_checkIndex_8e157_0 : decode cJ3_checkIndex_8e157 0 = .ok (.iload_n 0, 1) := by decide +kernel
theorem dJ3_checkIndex_8e157_1 : decode cJ3_checkIndex_8e157 1 = .ok (.ifCond .lt 8, 3) := by decide +kernel
theorem dJ3_checkIndex_8e157_4 : decode cJ3_checkIndex_8e157 4 = .ok (.iload_n 0, 1) := by decide +kernel
theorem dJ3_checkIndex_8e157_5 : decode cJ3_checkIndex_8e157 5 = .ok (.iload_n 1, 1) := by decide +kernel
theorem dJ3_checkIndex_8e157_6 : decode cJ3_checkIndex_8e157 6 = .ok (.if_icmp .lt 10, 3) := by decide +kernel
theorem dJ3_checkIndex_8e157_16 : decode cJ3_checkIndex_8e157 16 = .ok (.iload_n 0, 1) := by decide +kernel
theorem dJ3_checkIndex_8e157_17 : decode cJ3_checkIndex_8e157 17 = .ok (.ireturn, 1) := by decide +kernel
theorem dJ15_checkIndex_7cf53_0 : decode cJ15_checkIndex_7cf53 0 = .ok (.iload_n 0, 1) := by decide +kernel
theorem dJ15_checkIndex_7cf53_1 : decode cJ15_checkIndex_7cf53 1 = .ok (.iload_n 1, 1) := by decide +kernel
theorem dJ15_checkIndex_7cf53_2 : decode cJ15_checkIndex_7cf53 2 = .ok (.aconst_null, 1) := by decide +kernel
theorem dJ15_checkIndex_7cf53_3 : decode cJ15_checkIndex_7cf53 3 = .ok (.invokestatic 105, 3) := by decide +kernel
theorem dJ15_checkIndex_7cf53_6 : decode cJ15_checkIndex_7cf53 6 = .ok (.ireturn, 1) := by decide +kernel
theorem dJx4a65c_elementData_915e3_0 : decode cJx4a65c_elementData_915e3 0 = .ok (.aload_n 0, 1) := by decide +kernel
theorem dJx4a65c_elementData_915e3_1 : decode cJx4a65c_elementData_915e3 1 = .ok (.getfield 9, 3) := by decide +kernel
theorem dJx4a65c_elementData_915e3_4 : decode cJx4a65c_elementData_915e3 4 = .ok (.iload_n 1, 1) := by decide +kernel
theorem dJx4a65c_elementData_915e3_5 : decode cJx4a65c_elementData_915e3 5 = .ok (.aaload, 1) := by decide +kernel
theorem dJx4a65c_elementData_915e3_6 : decode cJx4a65c_elementData_915e3 6 = .ok (.areturn, 1) := by decide +kernel
theorem dJx4a65c_get_915e3_0 : decode cJx4a65c_get_915e3 0 = .ok (.iload_n 1, 1) := by decide +kernel
theorem dJx4a65c_get_915e3_1 : decode cJx4a65c_get_915e3 1 = .ok (.aload_n 0, 1) := by decide +kernel
theorem dJx4a65c_get_915e3_2 : decode cJx4a65c_get_915e3 2 = .ok (.getfield 48, 3) := by decide +kernel
theorem dJx4a65c_get_915e3_5 : decode cJx4a65c_get_915e3 5 = .ok (.invokestatic 118, 3) := by decide +kernel
theorem dJx4a65c_get_915e3_8 : decode cJx4a65c_get_915e3 8 = .ok (.pop, 1) := by decide +kernel
theorem dJx4a65c_get_915e3_9 : decode cJx4a65c_get_915e3 9 = .ok (.aload_n 0, 1) := by decide +kernel
theorem dJx4a65c_get_915e3_10 : decode cJx4a65c_get_915e3 10 = .ok (.iload_n 1, 1) := by decide +kernel
theorem dJx4a65c_get_915e3_11 : decode cJx4a65c_get_915e3 11 = .ok (.invokevirtual 123, 3) := by decide +kernel
theorem dJx4a65c_get_915e3_14 : decode cJx4a65c_get_915e3 14 = .ok (.areturn, 1) := by decide +kernel
theorem dX6_placeOf_0 : decode cX6_placeOf 0 = .ok (.iconst 0, 1) := by decide +kernel
theorem dX6_placeOf_1 : decode cX6_placeOf 1 = .ok (.istore_n 2, 1) := by decide +kernel
theorem dX6_placeOf_2 : decode cX6_placeOf 2 = .ok (.iload_n 2, 1) := by decide +kernel
theorem dX6_placeOf_3 : decode cX6_placeOf 3 = .ok (.aload_n 0, 1) := by decide +kernel
theorem dX6_placeOf_4 : decode cX6_placeOf 4 = .ok (.getfield 35, 3) := by decide +kernel
theorem dX6_placeOf_7 : decode cX6_placeOf 7 = .ok (.invokevirtual 222, 3) := by decide +kernel
theorem dX6_placeOf_10 : decode cX6_placeOf 10 = .ok (.if_icmp .ge 29, 3) := by decide +kernel
theorem dX6_placeOf_13 : decode cX6_placeOf 13 = .ok (.aload_n 0, 1) := by decide +kernel
theorem dX6_placeOf_14 : decode cX6_placeOf 14 = .ok (.getfield 35, 3) := by decide +kernel
theorem dX6_placeOf_17 : decode cX6_placeOf 17 = .ok (.iload_n 2, 1) := by decide +kernel
theorem dX6_placeOf_18 : decode cX6_placeOf 18 = .ok (.invokevirtual 153, 3) := by decide +kernel
theorem dX6_placeOf_21 : decode cX6_placeOf 21 = .ok (.checkcast 157, 3) := by decide +kernel
theorem dX6_placeOf_24 : decode cX6_placeOf 24 = .ok (.getfield 248, 3) := by decide +kernel
theorem dX6_placeOf_27 : decode cX6_placeOf 27 = .ok (.iload_n 1, 1) := by decide +kernel
theorem dX6_placeOf_28 : decode cX6_placeOf 28 = .ok (.if_icmp .ne 5, 3) := by decide +kernel
theorem dX6_placeOf_31 : decode cX6_placeOf 31 = .ok (.iload_n 2, 1) := by decide +kernel
theorem dX6_placeOf_32 : decode cX6_placeOf 32 = .ok (.ireturn, 1) := by decide +kernel
theorem dX6_placeOf_33 : decode cX6_placeOf 33 = .ok (.iinc 2 1, 3) := by decide +kernel
theorem dX6_placeOf_36 : decode cX6_placeOf 36 = .ok (.goto (-34), 3) := by decide +kernel
theorem dX6_placeOf_39 : decode cX6_placeOf 39 = .ok (.new 235, 3) := by decide +kernel
theorem dX6_placeOf_42 : decode cX6_placeOf 42 = .ok (.dup, 1) := by decide +kernel
theorem dX6_placeOf_43 : decode cX6_placeOf 43 = .ok (.ldc 251, 2) := by decide +kernel
theorem dX6_placeOf_45 : decode cX6_placeOf 45 = .ok (.invokespecial 239, 3) := by decide +kernel
theorem dX6_placeOf_48 : decode cX6_placeOf 48 = .ok (.athrow, 1) := by decide +kernel
theorem dX6_samplesOf_0 : decode cX6_samplesOf 0 = .ok (.aload_n 0, 1) := by decide +kernel
theorem dX6_samplesOf_1 : decode cX6_samplesOf 1 = .ok (.ifnonnull 7, 3) := by decide +kernel
theorem dX6_samplesOf_4 : decode cX6_samplesOf 4 = .ok (.iconst 0, 1) := by decide +kernel
theorem dX6_samplesOf_5 : decode cX6_samplesOf 5 = .ok (.goto 7, 3) := by decide +kernel
theorem dX6_samplesOf_8 : decode cX6_samplesOf 8 = .ok (.aload_n 0, 1) := by decide +kernel
theorem dX6_samplesOf_9 : decode cX6_samplesOf 9 = .ok (.getfield 295, 3) := by decide +kernel
theorem dX6_samplesOf_12 : decode cX6_samplesOf 12 = .ok (.ireturn, 1) := by decide +kernel
theorem dX6_duration_0 : decode cX6_duration 0 = .ok (.aload_n 0, 1) := by decide +kernel
theorem dX6_duration_1 : decode cX6_duration 1 = .ok (.getfield 35, 3) := by decide +kernel
theorem dX6_duration_4 : decode cX6_duration 4 = .ok (.aload_n 0, 1) := by decide +kernel
theorem dX6_duration_5 : decode cX6_duration 5 = .ok (.iload_n 1, 1) := by decide +kernel
theorem dX6_duration_6 : decode cX6_duration 6 = .ok (.invokevirtual 149, 3) := by decide +kernel
theorem dX6_duration_9 : decode cX6_duration 9 = .ok (.invokevirtual 153, 3) := by decide +kernel
theorem dX6_duration_12 : decode cX6_duration 12 = .ok (.checkcast 157, 3) := by decide +kernel
theorem dX6_duration_15 : decode cX6_duration 15 = .ok (.astore_n 2, 1) := by decide +kernel
theorem dX6_duration_16 : decode cX6_duration 16 = .ok (.aload_n 2, 1) := by decide +kernel
theorem dX6_duration_17 : decode cX6_duration 17 = .ok (.getfield 170, 3) := by decide +kernel
theorem dX6_duration_20 : decode cX6_duration 20 = .ok (.invokestatic 187, 3) := by decide +kernel
theorem dX6_duration_23 : decode cX6_duration 23 = .ok (.aload_n 2, 1) := by decide +kernel
theorem dX6_duration_24 : decode cX6_duration 24 = .ok (.getfield 165, 3) := by decide +kernel
theorem dX6_duration_27 : decode cX6_duration 27 = .ok (.invokestatic 187, 3) := by decide +kernel
theorem dX6_duration_30 : decode cX6_duration 30 = .ok (.iadd, 1) := by decide +kernel
theorem dX6_duration_31 : decode cX6_duration 31 = .ok (.ireturn, 1) := by decide +kernel
theorem dJx4a65c_fastRemove_b59b0_0 : decode cJx4a65c_fastRemove_b59b0 0 = .ok (.aload_n 0, 1) := by decide +kernel
theorem dJx4a65c_fastRemove_b59b0_1 : decode cJx4a65c_fastRemove_b59b0 1 = .ok (.dup, 1) := by decide +kernel
theorem dJx4a65c_fastRemove_b59b0_2 : decode cJx4a65c_fastRemove_b59b0 2 = .ok (.getfield 63, 3) := by decide +kernel
theorem dJx4a65c_fastRemove_b59b0_5 : decode cJx4a65c_fastRemove_b59b0 5 = .ok (.iconst 1, 1) := by decide +kernel
theorem dJx4a65c_fastRemove_b59b0_6 : decode cJx4a65c_fastRemove_b59b0 6 = .ok (.iadd, 1) := by decide +kernel
theorem dJx4a65c_fastRemove_b59b0_7 : decode cJx4a65c_fastRemove_b59b0 7 = .ok (.putfield 63, 3) := by decide +kernel
theorem dJx4a65c_fastRemove_b59b0_10 : decode cJx4a65c_fastRemove_b59b0 10 = .ok (.aload_n 0, 1) := by decide +kernel
theorem dJx4a65c_fastRemove_b59b0_11 : decode cJx4a65c_fastRemove_b59b0 11 = .ok (.getfield 48, 3) := by decide +kernel
theorem dJx4a65c_fastRemove_b59b0_14 : decode cJx4a65c_fastRemove_b59b0 14 = .ok (.iconst 1, 1) := by decide +kernel
theorem dJx4a65c_fastRemove_b59b0_15 : decode cJx4a65c_fastRemove_b59b0 15 = .ok (.isub, 1) := by decide +kernel
theorem dJx4a65c_fastRemove_b59b0_16 : decode cJx4a65c_fastRemove_b59b0 16 = .ok (.dup, 1) := by decide +kernel
theorem dJx4a65c_fastRemove_b59b0_17 : decode cJx4a65c_fastRemove_b59b0 17 = .ok (.istore_n 3, 1) := by decide +kernel
theorem dJx4a65c_fastRemove_b59b0_18 : decode cJx4a65c_fastRemove_b59b0 18 = .ok (.iload_n 2, 1) := by decide +kernel
theorem dJx4a65c_fastRemove_b59b0_19 : decode cJx4a65c_fastRemove_b59b0 19 = .ok (.if_icmp .le 15, 3) := by decide +kernel
theorem dJx4a65c_fastRemove_b59b0_22 : decode cJx4a65c_fastRemove_b59b0 22 = .ok (.aload_n 1, 1) := by decide +kernel
theorem dJx4a65c_fastRemove_b59b0_23 : decode cJx4a65c_fastRemove_b59b0 23 = .ok (.iload_n 2, 1) := by decide +kernel
theorem dJx4a65c_fastRemove_b59b0_24 : decode cJx4a65c_fastRemove_b59b0 24 = .ok (.iconst 1, 1) := by decide +kernel
theorem dJx4a65c_fastRemove_b59b0_25 : decode cJx4a65c_fastRemove_b59b0 25 = .ok (.iadd, 1) := by decide +kernel
theorem dJx4a65c_fastRemove_b59b0_26 : decode cJx4a65c_fastRemove_b59b0 26 = .ok (.aload_n 1, 1) := by decide +kernel
theorem dJx4a65c_fastRemove_b59b0_27 : decode cJx4a65c_fastRemove_b59b0 27 = .ok (.iload_n 2, 1) := by decide +kernel
theorem dJx4a65c_fastRemove_b59b0_28 : decode cJx4a65c_fastRemove_b59b0 28 = .ok (.iload_n 3, 1) := by decide +kernel
theorem dJx4a65c_fastRemove_b59b0_29 : decode cJx4a65c_fastRemove_b59b0 29 = .ok (.iload_n 2, 1) := by decide +kernel
theorem dJx4a65c_fastRemove_b59b0_30 : decode cJx4a65c_fastRemove_b59b0 30 = .ok (.isub, 1) := by decide +kernel
theorem dJx4a65c_fastRemove_b59b0_31 : decode cJx4a65c_fastRemove_b59b0 31 = .ok (.invokestatic 112, 3) := by decide +kernel
theorem dJx4a65c_fastRemove_b59b0_34 : decode cJx4a65c_fastRemove_b59b0 34 = .ok (.aload_n 1, 1) := by decide +kernel
theorem dJx4a65c_fastRemove_b59b0_35 : decode cJx4a65c_fastRemove_b59b0 35 = .ok (.aload_n 0, 1) := by decide +kernel
theorem dJx4a65c_fastRemove_b59b0_36 : decode cJx4a65c_fastRemove_b59b0 36 = .ok (.iload_n 3, 1) := by decide +kernel
theorem dJx4a65c_fastRemove_b59b0_37 : decode cJx4a65c_fastRemove_b59b0 37 = .ok (.dup_x1, 1) := by decide +kernel
theorem dJx4a65c_fastRemove_b59b0_38 : decode cJx4a65c_fastRemove_b59b0 38 = .ok (.putfield 48, 3) := by decide +kernel
theorem dJx4a65c_fastRemove_b59b0_41 : decode cJx4a65c_fastRemove_b59b0 41 = .ok (.aconst_null, 1) := by decide +kernel
theorem dJx4a65c_fastRemove_b59b0_42 : decode cJx4a65c_fastRemove_b59b0 42 = .ok (.aastore, 1) := by decide +kernel
theorem dJx4a65c_fastRemove_b59b0_43 : decode cJx4a65c_fastRemove_b59b0 43 = .ok (.return_, 1) := by decide +kernel
theorem dJx4a65c_remove_915e3_0 : decode cJx4a65c_remove_915e3 0 = .ok (.iload_n 1, 1) := by decide +kernel
theorem dJx4a65c_remove_915e3_1 : decode cJx4a65c_remove_915e3 1 = .ok (.aload_n 0, 1) := by decide +kernel
theorem dJx4a65c_remove_915e3_2 : decode cJx4a65c_remove_915e3 2 = .ok (.getfield 48, 3) := by decide +kernel
theorem dJx4a65c_remove_915e3_5 : decode cJx4a65c_remove_915e3 5 = .ok (.invokestatic 118, 3) := by decide +kernel
theorem dJx4a65c_remove_915e3_8 : decode cJx4a65c_remove_915e3 8 = .ok (.pop, 1) := by decide +kernel
theorem dJx4a65c_remove_915e3_9 : decode cJx4a65c_remove_915e3 9 = .ok (.aload_n 0, 1) := by decide +kernel
theorem dJx4a65c_remove_915e3_10 : decode cJx4a65c_remove_915e3 10 = .ok (.getfield 9, 3) := by decide +kernel
theorem dJx4a65c_remove_915e3_13 : decode cJx4a65c_remove_915e3 13 = .ok (.astore_n 2, 1) := by decide +kernel
theorem dJx4a65c_remove_915e3_14 : decode cJx4a65c_remove_915e3 14 = .ok (.aload_n 2, 1) := by decide +kernel
theorem dJx4a65c_remove_915e3_15 : decode cJx4a65c_remove_915e3 15 = .ok (.iload_n 1, 1) := by decide +kernel
theorem dJx4a65c_remove_915e3_16 : decode cJx4a65c_remove_915e3 16 = .ok (.aaload, 1) := by decide +kernel
theorem dJx4a65c_remove_915e3_17 : decode cJx4a65c_remove_915e3 17 = .ok (.astore_n 3, 1) := by decide +kernel
theorem dJx4a65c_remove_915e3_18 : decode cJx4a65c_remove_915e3 18 = .ok (.aload_n 0, 1) := by decide +kernel
theorem dJx4a65c_remove_915e3_19 : decode cJx4a65c_remove_915e3 19 = .ok (.aload_n 2, 1) := by decide +kernel
theorem dJx4a65c_remove_915e3_20 : decode cJx4a65c_remove_915e3 20 = .ok (.iload_n 1, 1) := by decide +kernel
theorem dJx4a65c_remove_915e3_21 : decode cJx4a65c_remove_915e3 21 = .ok (.invokevirtual 144, 3) := by decide +kernel
theorem dJx4a65c_remove_915e3_24 : decode cJx4a65c_remove_915e3 24 = .ok (.aload_n 3, 1) := by decide +kernel
theorem dJx4a65c_remove_915e3_25 : decode cJx4a65c_remove_915e3 25 = .ok (.areturn, 1) := by decide +kernel
theorem dX4_freeBlocks_0 : decode cX4_freeBlocks 0 = .ok (.iconst 0, 1) := by decide +kernel
theorem dX4_freeBlocks_1 : decode cX4_freeBlocks 1 = .ok (.istore_n 1, 1) := by decide +kernel
theorem dX4_freeBlocks_2 : decode cX4_freeBlocks 2 = .ok (.aload_n 0, 1) := by decide +kernel
theorem dX4_freeBlocks_3 : decode cX4_freeBlocks 3 = .ok (.getfield 9, 3) := by decide +kernel
theorem dX4_freeBlocks_6 : decode cX4_freeBlocks 6 = .ok (.astore_n 2, 1) := by decide +kernel
theorem dX4_freeBlocks_7 : decode cX4_freeBlocks 7 = .ok (.aload_n 2, 1) := by decide +kernel
theorem dX4_freeBlocks_8 : decode cX4_freeBlocks 8 = .ok (.ifnull 26, 3) := by decide +kernel
theorem dX4_freeBlocks_11 : decode cX4_freeBlocks 11 = .ok (.aload_n 2, 1) := by decide +kernel
theorem dX4_freeBlocks_12 : decode cX4_freeBlocks 12 = .ok (.getfield 33, 3) := by decide +kernel
theorem dX4_freeBlocks_15 : decode cX4_freeBlocks 15 = .ok (.astore_n 3, 1) := by decide +kernel
theorem dX4_freeBlocks_16 : decode cX4_freeBlocks 16 = .ok (.aload_n 2, 1) := by decide +kernel
theorem dX4_freeBlocks_17 : decode cX4_freeBlocks 17 = .ok (.iconst 0, 1) := by decide +kernel
theorem dX4_freeBlocks_18 : decode cX4_freeBlocks 18 = .ok (.putfield 28, 3) := by decide +kernel
theorem dX4_freeBlocks_21 : decode cX4_freeBlocks 21 = .ok (.aload_n 2, 1) := by decide +kernel
theorem dX4_freeBlocks_22 : decode cX4_freeBlocks 22 = .ok (.aconst_null, 1) := by decide +kernel
theorem dX4_freeBlocks_23 : decode cX4_freeBlocks 23 = .ok (.putfield 33, 3) := by decide +kernel
theorem dX4_freeBlocks_26 : decode cX4_freeBlocks 26 = .ok (.iinc 1 1, 3) := by decide +kernel
theorem dX4_freeBlocks_29 : decode cX4_freeBlocks 29 = .ok (.aload_n 3, 1) := by decide +kernel
theorem dX4_freeBlocks_30 : decode cX4_freeBlocks 30 = .ok (.astore_n 2, 1) := by decide +kernel
theorem dX4_freeBlocks_31 : decode cX4_freeBlocks 31 = .ok (.goto (-24), 3) := by decide +kernel
theorem dX4_freeBlocks_34 : decode cX4_freeBlocks 34 = .ok (.aload_n 0, 1) := by decide +kernel
theorem dX4_freeBlocks_35 : decode cX4_freeBlocks 35 = .ok (.aconst_null, 1) := by decide +kernel
theorem dX4_freeBlocks_36 : decode cX4_freeBlocks 36 = .ok (.putfield 9, 3) := by decide +kernel
theorem dX4_freeBlocks_39 : decode cX4_freeBlocks 39 = .ok (.aload_n 0, 1) := by decide +kernel
theorem dX4_freeBlocks_40 : decode cX4_freeBlocks 40 = .ok (.aconst_null, 1) := by decide +kernel
theorem dX4_freeBlocks_41 : decode cX4_freeBlocks 41 = .ok (.putfield 15, 3) := by decide +kernel
theorem dX4_freeBlocks_44 : decode cX4_freeBlocks 44 = .ok (.iload_n 1, 1) := by decide +kernel
theorem dX4_freeBlocks_45 : decode cX4_freeBlocks 45 = .ok (.ireturn, 1) := by decide +kernel
theorem dX6_release_0 : decode cX6_release 0 = .ok (.aload_n 1, 1) := by decide +kernel
theorem dX6_release_1 : decode cX6_release 1 = .ok (.ifnonnull 5, 3) := by decide +kernel
theorem dX6_release_4 : decode cX6_release 4 = .ok (.iconst 0, 1) := by decide +kernel
theorem dX6_release_5 : decode cX6_release 5 = .ok (.ireturn, 1) := by decide +kernel
theorem dX6_release_6 : decode cX6_release 6 = .ok (.aload_n 1, 1) := by decide +kernel
theorem dX6_release_7 : decode cX6_release 7 = .ok (.dup, 1) := by decide +kernel
theorem dX6_release_8 : decode cX6_release 8 = .ok (.getfield 267, 3) := by decide +kernel
theorem dX6_release_11 : decode cX6_release 11 = .ok (.iconst 1, 1) := by decide +kernel
theorem dX6_release_12 : decode cX6_release 12 = .ok (.isub, 1) := by decide +kernel
theorem dX6_release_13 : decode cX6_release 13 = .ok (.putfield 267, 3) := by decide +kernel
theorem dX6_release_16 : decode cX6_release 16 = .ok (.aload_n 1, 1) := by decide +kernel
theorem dX6_release_17 : decode cX6_release 17 = .ok (.getfield 267, 3) := by decide +kernel
theorem dX6_release_20 : decode cX6_release 20 = .ok (.ifCond .le 5, 3) := by decide +kernel
theorem dX6_release_23 : decode cX6_release 23 = .ok (.iconst 0, 1) := by decide +kernel
theorem dX6_release_24 : decode cX6_release 24 = .ok (.ireturn, 1) := by decide +kernel
theorem dX6_release_25 : decode cX6_release 25 = .ok (.aload_n 0, 1) := by decide +kernel
theorem dX6_release_26 : decode cX6_release 26 = .ok (.dup, 1) := by decide +kernel
theorem dX6_release_27 : decode cX6_release 27 = .ok (.getfield 46, 3) := by decide +kernel
theorem dX6_release_30 : decode cX6_release 30 = .ok (.iconst 1, 1) := by decide +kernel
theorem dX6_release_31 : decode cX6_release 31 = .ok (.isub, 1) := by decide +kernel
theorem dX6_release_32 : decode cX6_release 32 = .ok (.putfield 46, 3) := by decide +kernel
theorem dX6_release_35 : decode cX6_release 35 = .ok (.aload_n 1, 1) := by decide +kernel
theorem dX6_release_36 : decode cX6_release 36 = .ok (.invokevirtual 270, 3) := by decide +kernel
theorem dX6_release_39 : decode cX6_release 39 = .ok (.ireturn, 1) := by decide +kernel
theorem dX6_erase_0 : decode cX6_erase 0 = .ok (.aload_n 0, 1) := by decide +kernel
theorem dX6_erase_1 : decode cX6_erase 1 = .ok (.iload_n 1, 1) := by decide +kernel
theorem dX6_erase_2 : decode cX6_erase 2 = .ok (.invokevirtual 149, 3) := by decide +kernel
theorem dX6_erase_5 : decode cX6_erase 5 = .ok (.istore_n 2, 1) := by decide +kernel
theorem dX6_erase_6 : decode cX6_erase 6 = .ok (.aload_n 0, 1) := by decide +kernel
theorem dX6_erase_7 : decode cX6_erase 7 = .ok (.getfield 35, 3) := by decide +kernel
theorem dX6_erase_10 : decode cX6_erase 10 = .ok (.iload_n 2, 1) := by decide +kernel
theorem dX6_erase_11 : decode cX6_erase 11 = .ok (.invokevirtual 153, 3) := by decide +kernel
theorem dX6_erase_14 : decode cX6_erase 14 = .ok (.checkcast 157, 3) := by decide +kernel
theorem dX6_erase_17 : decode cX6_erase 17 = .ok (.astore_n 3, 1) := by decide +kernel
theorem dX6_erase_18 : decode cX6_erase 18 = .ok (.aload_n 0, 1) := by decide +kernel
theorem dX6_erase_19 : decode cX6_erase 19 = .ok (.getfield 35, 3) := by decide +kernel
theorem dX6_erase_22 : decode cX6_erase 22 = .ok (.iload_n 2, 1) := by decide +kernel
theorem dX6_erase_23 : decode cX6_erase 23 = .ok (.invokevirtual 162, 3) := by decide +kernel
theorem dX6_erase_26 : decode cX6_erase 26 = .ok (.pop, 1) := by decide +kernel
theorem dX6_erase_27 : decode cX6_erase 27 = .ok (.aload_n 0, 1) := by decide +kernel
theorem dX6_erase_28 : decode cX6_erase 28 = .ok (.aload_n 3, 1) := by decide +kernel
theorem dX6_erase_29 : decode cX6_erase 29 = .ok (.getfield 165, 3) := by decide +kernel
theorem dX6_erase_32 : decode cX6_erase 32 = .ok (.invokevirtual 166, 3) := by decide +kernel
theorem dX6_erase_35 : decode cX6_erase 35 = .ok (.aload_n 0, 1) := by decide +kernel
theorem dX6_erase_36 : decode cX6_erase 36 = .ok (.aload_n 3, 1) := by decide +kernel
theorem dX6_erase_37 : decode cX6_erase 37 = .ok (.getfield 170, 3) := by decide +kernel
theorem dX6_erase_40 : decode cX6_erase 40 = .ok (.invokevirtual 166, 3) := by decide +kernel
theorem dX6_erase_43 : decode cX6_erase 43 = .ok (.iadd, 1) := by decide +kernel
theorem dX6_erase_44 : decode cX6_erase 44 = .ok (.ireturn, 1) := by decide +kernel
theorem dX6_usedBy_0 : decode cX6_usedBy 0 = .ok (.iconst 0, 1) := by decide +kernel
theorem dX6_usedBy_1 : decode cX6_usedBy 1 = .ok (.istore_n 2, 1) := by decide +kernel
theorem dX6_usedBy_2 : decode cX6_usedBy 2 = .ok (.iconst 0, 1) := by decide +kernel
theorem dX6_usedBy_3 : decode cX6_usedBy 3 = .ok (.istore_n 3, 1) := by decide +kernel
theorem dX6_usedBy_4 : decode cX6_usedBy 4 = .ok (.iload_n 3, 1) := by decide +kernel
theorem dX6_usedBy_5 : decode cX6_usedBy 5 = .ok (.aload_n 0, 1) := by decide +kernel
theorem dX6_usedBy_6 : decode cX6_usedBy 6 = .ok (.getfield 35, 3) := by decide +kernel
theorem dX6_usedBy_9 : decode cX6_usedBy 9 = .ok (.invokevirtual 222, 3) := by decide +kernel
theorem dX6_usedBy_12 : decode cX6_usedBy 12 = .ok (.if_icmp .ge 51, 3) := by decide +kernel
theorem dX6_usedBy_15 : decode cX6_usedBy 15 = .ok (.aload_n 0, 1) := by decide +kernel
theorem dX6_usedBy_16 : decode cX6_usedBy 16 = .ok (.getfield 35, 3) := by decide +kernel
theorem dX6_usedBy_19 : decode cX6_usedBy 19 = .ok (.iload_n 3, 1) := by decide +kernel
theorem dX6_usedBy_20 : decode cX6_usedBy 20 = .ok (.invokevirtual 153, 3) := by decide +kernel
theorem dX6_usedBy_23 : decode cX6_usedBy 23 = .ok (.checkcast 157, 3) := by decide +kernel
theorem dX6_usedBy_26 : decode cX6_usedBy 26 = .ok (.astore 4, 2) := by decide +kernel
theorem dX6_usedBy_28 : decode cX6_usedBy 28 = .ok (.aload 4, 2) := by decide +kernel
theorem dX6_usedBy_30 : decode cX6_usedBy 30 = .ok (.getfield 173, 3) := by decide +kernel
theorem dX6_usedBy_33 : decode cX6_usedBy 33 = .ok (.iload_n 1, 1) := by decide +kernel
theorem dX6_usedBy_34 : decode cX6_usedBy 34 = .ok (.if_icmp .ne 23, 3) := by decide +kernel
theorem dX6_usedBy_37 : decode cX6_usedBy 37 = .ok (.iload_n 2, 1) := by decide +kernel
theorem dX6_usedBy_38 : decode cX6_usedBy 38 = .ok (.aload 4, 2) := by decide +kernel
theorem dX6_usedBy_40 : decode cX6_usedBy 40 = .ok (.getfield 165, 3) := by decide +kernel
theorem dX6_usedBy_43 : decode cX6_usedBy 43 = .ok (.invokestatic 178, 3) := by decide +kernel
theorem dX6_usedBy_46 : decode cX6_usedBy 46 = .ok (.aload 4, 2) := by decide +kernel
theorem dX6_usedBy_48 : decode cX6_usedBy 48 = .ok (.getfield 170, 3) := by decide +kernel
theorem dX6_usedBy_51 : decode cX6_usedBy 51 = .ok (.invokestatic 178, 3) := by decide +kernel
theorem dX6_usedBy_54 : decode cX6_usedBy 54 = .ok (.iadd, 1) := by decide +kernel
theorem dX6_usedBy_55 : decode cX6_usedBy 55 = .ok (.iadd, 1) := by decide +kernel
theorem dX6_usedBy_56 : decode cX6_usedBy 56 = .ok (.istore_n 2, 1) := by decide +kernel
theorem dX6_usedBy_57 : decode cX6_usedBy 57 = .ok (.iinc 3 1, 3) := by decide +kernel
theorem dX6_usedBy_60 : decode cX6_usedBy 60 = .ok (.goto (-56), 3) := by decide +kernel
theorem dX6_usedBy_63 : decode cX6_usedBy 63 = .ok (.iconst 0, 1) := by decide +kernel
theorem dX6_usedBy_64 : decode cX6_usedBy 64 = .ok (.istore_n 3, 1) := by decide +kernel
theorem dX6_usedBy_65 : decode cX6_usedBy 65 = .ok (.iload_n 3, 1) := by decide +kernel
theorem dX6_usedBy_66 : decode cX6_usedBy 66 = .ok (.iconst 3, 1) := by decide +kernel
theorem dX6_usedBy_67 : decode cX6_usedBy 67 = .ok (.if_icmp .ge 49, 3) := by decide +kernel
theorem dX6_usedBy_70 : decode cX6_usedBy 70 = .ok (.aload_n 0, 1) := by decide +kernel
theorem dX6_usedBy_71 : decode cX6_usedBy 71 = .ok (.getfield 28, 3) := by decide +kernel
theorem dX6_usedBy_74 : decode cX6_usedBy 74 = .ok (.iload_n 3, 1) := by decide +kernel
theorem dX6_usedBy_75 : decode cX6_usedBy 75 = .ok (.aaload, 1) := by decide +kernel
theorem dX6_usedBy_76 : decode cX6_usedBy 76 = .ok (.invokevirtual 253, 3) := by decide +kernel
theorem dX6_usedBy_79 : decode cX6_usedBy 79 = .ok (.ifCond .eq 31, 3) := by decide +kernel
theorem dX6_usedBy_82 : decode cX6_usedBy 82 = .ok (.aload_n 0, 1) := by decide +kernel
theorem dX6_usedBy_83 : decode cX6_usedBy 83 = .ok (.getfield 28, 3) := by decide +kernel
theorem dX6_usedBy_86 : decode cX6_usedBy 86 = .ok (.iload_n 3, 1) := by decide +kernel
theorem dX6_usedBy_87 : decode cX6_usedBy 87 = .ok (.aaload, 1) := by decide +kernel
theorem dX6_usedBy_88 : decode cX6_usedBy 88 = .ok (.getfield 127, 3) := by decide +kernel
theorem dX6_usedBy_91 : decode cX6_usedBy 91 = .ok (.iload_n 1, 1) := by decide +kernel
theorem dX6_usedBy_92 : decode cX6_usedBy 92 = .ok (.if_icmp .ne 18, 3) := by decide +kernel
theorem dX6_usedBy_95 : decode cX6_usedBy 95 = .ok (.iload_n 2, 1) := by decide +kernel
theorem dX6_usedBy_96 : decode cX6_usedBy 96 = .ok (.aload_n 0, 1) := by decide +kernel
theorem dX6_usedBy_97 : decode cX6_usedBy 97 = .ok (.getfield 28, 3) := by decide +kernel
theorem dX6_usedBy_100 : decode cX6_usedBy 100 = .ok (.iload_n 3, 1) := by decide +kernel
theorem dX6_usedBy_101 : decode cX6_usedBy 101 = .ok (.aaload, 1) := by decide +kernel
theorem dX6_usedBy_102 : decode cX6_usedBy 102 = .ok (.getfield 115, 3) := by decide +kernel
theorem dX6_usedBy_105 : decode cX6_usedBy 105 = .ok (.invokestatic 178, 3) := by decide +kernel
theorem dX6_usedBy_108 : decode cX6_usedBy 108 = .ok (.iadd, 1) := by decide +kernel
theorem dX6_usedBy_109 : decode cX6_usedBy 109 = .ok (.istore_n 2, 1) := by decide +kernel
theorem dX6_usedBy_110 : decode cX6_usedBy 110 = .ok (.iinc 3 1, 3) := by decide +kernel
theorem dX6_usedBy_113 : decode cX6_usedBy 113 = .ok (.goto (-48), 3) := by decide +kernel
theorem dX6_usedBy_116 : decode cX6_usedBy 116 = .ok (.iload_n 2, 1) := by decide +kernel
theorem dX6_usedBy_117 : decode cX6_usedBy 117 = .ok (.ireturn, 1) := by decide +kernel
theorem dX6_isWithinQuota_0 : decode cX6_isWithinQuota 0 = .ok (.aload_n 0, 1) := by decide +kernel
theorem dX6_isWithinQuota_1 : decode cX6_isWithinQuota 1 = .ok (.iload_n 1, 1) := by decide +kernel
theorem dX6_isWithinQuota_2 : decode cX6_isWithinQuota 2 = .ok (.invokevirtual 201, 3) := by decide +kernel
theorem dX6_isWithinQuota_5 : decode cX6_isWithinQuota 5 = .ok (.iload_n 2, 1) := by decide +kernel
theorem dX6_isWithinQuota_6 : decode cX6_isWithinQuota 6 = .ok (.iadd, 1) := by decide +kernel
theorem dX6_isWithinQuota_7 : decode cX6_isWithinQuota 7 = .ok (.aload_n 0, 1) := by decide +kernel
theorem dX6_isWithinQuota_8 : decode cX6_isWithinQuota 8 = .ok (.getfield 22, 3) := by decide +kernel
theorem dX6_isWithinQuota_11 : decode cX6_isWithinQuota 11 = .ok (.iload_n 1, 1) := by decide +kernel
theorem dX6_isWithinQuota_12 : decode cX6_isWithinQuota 12 = .ok (.aaload, 1) := by decide +kernel
theorem dX6_isWithinQuota_13 : decode cX6_isWithinQuota 13 = .ok (.getfield 63, 3) := by decide +kernel
theorem dX6_isWithinQuota_16 : decode cX6_isWithinQuota 16 = .ok (.if_icmp .gt 7, 3) := by decide +kernel
theorem dX6_isWithinQuota_19 : decode cX6_isWithinQuota 19 = .ok (.iconst 1, 1) := by decide +kernel
theorem dX6_isWithinQuota_20 : decode cX6_isWithinQuota 20 = .ok (.goto 4, 3) := by decide +kernel
theorem dX6_isWithinQuota_23 : decode cX6_isWithinQuota 23 = .ok (.iconst 0, 1) := by decide +kernel
theorem dX6_isWithinQuota_24 : decode cX6_isWithinQuota 24 = .ok (.ireturn, 1) := by decide +kernel
theorem dX6_fits_0 : decode cX6_fits 0 = .ok (.iload_n 2, 1) := by decide +kernel
theorem dX6_fits_1 : decode cX6_fits 1 = .ok (.ifCond .ne 26, 3) := by decide +kernel
theorem dX6_fits_4 : decode cX6_fits 4 = .ok (.aload_n 1, 1) := by decide +kernel
theorem dX6_fits_5 : decode cX6_fits 5 = .ok (.getfield 115, 3) := by decide +kernel
theorem dX6_fits_8 : decode cX6_fits 8 = .ok (.invokevirtual 298, 3) := by decide +kernel
theorem dX6_fits_11 : decode cX6_fits 11 = .ok (.ifCond .eq 16, 3) := by decide +kernel
theorem dX6_fits_14 : decode cX6_fits 14 = .ok (.aload_n 0, 1) := by decide +kernel
theorem dX6_fits_15 : decode cX6_fits 15 = .ok (.getfield 16, 3) := by decide +kernel
theorem dX6_fits_18 : decode cX6_fits 18 = .ok (.invokevirtual 301, 3) := by decide +kernel
theorem dX6_fits_21 : decode cX6_fits 21 = .ok (.iconst (-1), 1) := by decide +kernel
theorem dX6_fits_22 : decode cX6_fits 22 = .ok (.if_icmp .ne 5, 3) := by decide +kernel
theorem dX6_fits_25 : decode cX6_fits 25 = .ok (.iconst 0, 1) := by decide +kernel
theorem dX6_fits_26 : decode cX6_fits 26 = .ok (.ireturn, 1) := by decide +kernel
theorem dX6_fits_27 : decode cX6_fits 27 = .ok (.aload_n 1, 1) := by decide +kernel
theorem dX6_fits_28 : decode cX6_fits 28 = .ok (.getfield 124, 3) := by decide +kernel
theorem dX6_fits_31 : decode cX6_fits 31 = .ok (.ifCond .ne 15, 3) := by decide +kernel
theorem dX6_fits_34 : decode cX6_fits 34 = .ok (.aload_n 0, 1) := by decide +kernel
theorem dX6_fits_35 : decode cX6_fits 35 = .ok (.aload_n 1, 1) := by decide +kernel
theorem dX6_fits_36 : decode cX6_fits 36 = .ok (.getfield 127, 3) := by decide +kernel
theorem dX6_fits_39 : decode cX6_fits 39 = .ok (.iload_n 3, 1) := by decide +kernel
theorem dX6_fits_40 : decode cX6_fits 40 = .ok (.invokevirtual 181, 3) := by decide +kernel
theorem dX6_fits_43 : decode cX6_fits 43 = .ok (.ifCond .eq 7, 3) := by decide +kernel
theorem dX6_fits_46 : decode cX6_fits 46 = .ok (.iconst 1, 1) := by decide +kernel
theorem dX6_fits_47 : decode cX6_fits 47 = .ok (.goto 4, 3) := by decide +kernel
theorem dX6_fits_50 : decode cX6_fits 50 = .ok (.iconst 0, 1) := by decide +kernel
theorem dX6_fits_51 : decode cX6_fits 51 = .ok (.ireturn, 1) := by decide +kernel
theorem dX6_forward_0 : decode cX6_forward 0 = .ok (.aload_n 0, 1) := by decide +kernel
theorem dX6_forward_1 : decode cX6_forward 1 = .ok (.getfield 35, 3) := by decide +kernel
theorem dX6_forward_4 : decode cX6_forward 4 = .ok (.aload_n 0, 1) := by decide +kernel
theorem dX6_forward_5 : decode cX6_forward 5 = .ok (.iload_n 1, 1) := by decide +kernel
theorem dX6_forward_6 : decode cX6_forward 6 = .ok (.invokevirtual 149, 3) := by decide +kernel
theorem dX6_forward_9 : decode cX6_forward 9 = .ok (.invokevirtual 153, 3) := by decide +kernel
theorem dX6_forward_12 : decode cX6_forward 12 = .ok (.checkcast 157, 3) := by decide +kernel
theorem dX6_forward_15 : decode cX6_forward 15 = .ok (.astore_n 3, 1) := by decide +kernel
theorem dX6_forward_16 : decode cX6_forward 16 = .ok (.aload_n 0, 1) := by decide +kernel
theorem dX6_forward_17 : decode cX6_forward 17 = .ok (.iload_n 2, 1) := by decide +kernel
theorem dX6_forward_18 : decode cX6_forward 18 = .ok (.invokevirtual 66, 3) := by decide +kernel
theorem dX6_forward_21 : decode cX6_forward 21 = .ok (.aload_n 0, 1) := by decide +kernel
theorem dX6_forward_22 : decode cX6_forward 22 = .ok (.getfield 22, 3) := by decide +kernel
theorem dX6_forward_25 : decode cX6_forward 25 = .ok (.aload_n 3, 1) := by decide +kernel
theorem dX6_forward_26 : decode cX6_forward 26 = .ok (.getfield 173, 3) := by decide +kernel
theorem dX6_forward_29 : decode cX6_forward 29 = .ok (.aaload, 1) := by decide +kernel
theorem dX6_forward_30 : decode cX6_forward 30 = .ok (.getfield 174, 3) := by decide +kernel
theorem dX6_forward_33 : decode cX6_forward 33 = .ok (.iconst 2, 1) := by decide +kernel
theorem dX6_forward_34 : decode cX6_forward 34 = .ok (.aaload, 1) := by decide +kernel
theorem dX6_forward_35 : decode cX6_forward 35 = .ok (.astore 4, 2) := by decide +kernel
theorem dX6_forward_37 : decode cX6_forward 37 = .ok (.aload_n 3, 1) := by decide +kernel
theorem dX6_forward_38 : decode cX6_forward 38 = .ok (.getfield 165, 3) := by decide +kernel
theorem dX6_forward_41 : decode cX6_forward 41 = .ok (.invokestatic 178, 3) := by decide +kernel
theorem dX6_forward_44 : decode cX6_forward 44 = .ok (.aload 4, 2) := by decide +kernel
theorem dX6_forward_46 : decode cX6_forward 46 = .ok (.invokestatic 178, 3) := by decide +kernel
theorem dX6_forward_49 : decode cX6_forward 49 = .ok (.iadd, 1) := by decide +kernel
theorem dX6_forward_50 : decode cX6_forward 50 = .ok (.istore 5, 2) := by decide +kernel
theorem dX6_forward_52 : decode cX6_forward 52 = .ok (.aload_n 0, 1) := by decide +kernel
theorem dX6_forward_53 : decode cX6_forward 53 = .ok (.invokevirtual 81, 3) := by decide +kernel
theorem dX6_forward_56 : decode cX6_forward 56 = .ok (.ifCond .eq 13, 3) := by decide +kernel
theorem dX6_forward_59 : decode cX6_forward 59 = .ok (.aload_n 0, 1) := by decide +kernel
theorem dX6_forward_60 : decode cX6_forward 60 = .ok (.iload_n 2, 1) := by decide +kernel
theorem dX6_forward_61 : decode cX6_forward 61 = .ok (.iload 5, 2) := by decide +kernel
theorem dX6_forward_63 : decode cX6_forward 63 = .ok (.invokevirtual 181, 3) := by decide +kernel
theorem dX6_forward_66 : decode cX6_forward 66 = .ok (.ifCond .ne 13, 3) := by decide +kernel
theorem dX6_forward_69 : decode cX6_forward 69 = .ok (.new 58, 3) := by decide +kernel
theorem dX6_forward_72 : decode cX6_forward 72 = .ok (.dup, 1) := by decide +kernel
theorem dX6_forward_73 : decode cX6_forward 73 = .ok (.ldc 185, 2) := by decide +kernel
theorem dX6_forward_75 : decode cX6_forward 75 = .ok (.invokespecial 62, 3) := by decide +kernel
theorem dX6_forward_78 : decode cX6_forward 78 = .ok (.athrow, 1) := by decide +kernel
theorem dX6_forward_79 : decode cX6_forward 79 = .ok (.aload_n 0, 1) := by decide +kernel
theorem dX6_forward_80 : decode cX6_forward 80 = .ok (.iload_n 2, 1) := by decide +kernel
theorem dX6_forward_81 : decode cX6_forward 81 = .ok (.aload_n 3, 1) := by decide +kernel
theorem dX6_forward_82 : decode cX6_forward 82 = .ok (.getfield 165, 3) := by decide +kernel
theorem dX6_forward_85 : decode cX6_forward 85 = .ok (.aload 4, 2) := by decide +kernel
theorem dX6_forward_87 : decode cX6_forward 87 = .ok (.invokevirtual 130, 3) := by decide +kernel
theorem dX6_forward_90 : decode cX6_forward 90 = .ok (.ireturn, 1) := by decide +kernel
theorem dX6_gapPrice_0 : decode cX6_gapPrice 0 = .ok (.iload_n 1, 1) := by decide +kernel
theorem dX6_gapPrice_1 : decode cX6_gapPrice 1 = .ok (.iconst 2, 1) := by decide +kernel
theorem dX6_gapPrice_2 : decode cX6_gapPrice 2 = .ok (.if_icmp .ne 5, 3) := by decide +kernel
theorem dX6_gapPrice_5 : decode cX6_gapPrice 5 = .ok (.iconst (-1), 1) := by decide +kernel
theorem dX6_gapPrice_6 : decode cX6_gapPrice 6 = .ok (.ireturn, 1) := by decide +kernel
theorem dX6_gapPrice_7 : decode cX6_gapPrice 7 = .ok (.iload_n 1, 1) := by decide +kernel
theorem dX6_gapPrice_8 : decode cX6_gapPrice 8 = .ok (.iconst 4, 1) := by decide +kernel
theorem dX6_gapPrice_9 : decode cX6_gapPrice 9 = .ok (.irem, 1) := by decide +kernel
theorem dX6_gapPrice_10 : decode cX6_gapPrice 10 = .ok (.ifCond .ne 7, 3) := by decide +kernel
theorem dX6_gapPrice_13 : decode cX6_gapPrice 13 = .ok (.iconst 1, 1) := by decide +kernel
theorem dX6_gapPrice_14 : decode cX6_gapPrice 14 = .ok (.goto 4, 3) := by decide +kernel
theorem dX6_gapPrice_17 : decode cX6_gapPrice 17 = .ok (.iconst 0, 1) := by decide +kernel
theorem dX6_gapPrice_18 : decode cX6_gapPrice 18 = .ok (.ireturn, 1) := by decide +kernel
theorem dX6_requireOwn_0 : decode cX6_requireOwn 0 = .ok (.iload_n 1, 1) := by decide +kernel
theorem dX6_requireOwn_1 : decode cX6_requireOwn 1 = .ok (.ifCond .lt 8, 3) := by decide +kernel
theorem dX6_requireOwn_4 : decode cX6_requireOwn 4 = .ok (.iload_n 1, 1) := by decide +kernel
theorem dX6_requireOwn_5 : decode cX6_requireOwn 5 = .ok (.iconst 3, 1) := by decide +kernel
theorem dX6_requireOwn_6 : decode cX6_requireOwn 6 = .ok (.if_icmp .lt 13, 3) := by decide +kernel
theorem dX6_requireOwn_9 : decode cX6_requireOwn 9 = .ok (.new 51, 3) := by decide +kernel
theorem dX6_requireOwn_12 : decode cX6_requireOwn 12 = .ok (.dup, 1) := by decide +kernel
theorem dX6_requireOwn_13 : decode cX6_requireOwn 13 = .ok (.ldc 244, 2) := by decide +kernel
theorem dX6_requireOwn_15 : decode cX6_requireOwn 15 = .ok (.invokespecial 55, 3) := by decide +kernel
theorem dX6_requireOwn_18 : decode cX6_requireOwn 18 = .ok (.athrow, 1) := by decide +kernel
theorem dX6_requireOwn_19 : decode cX6_requireOwn 19 = .ok (.return_, 1) := by decide +kernel
theorem dX0_samplesAt_0 : decode cX0_samplesAt 0 = .ok (.aload_n 0, 1) := by decide +kernel
theorem dX0_samplesAt_1 : decode cX0_samplesAt 1 = .ok (.getfield 9, 3) := by decide +kernel
theorem dX0_samplesAt_4 : decode cX0_samplesAt 4 = .ok (.iload_n 1, 1) := by decide +kernel
theorem dX0_samplesAt_5 : decode cX0_samplesAt 5 = .ok (.iaload, 1) := by decide +kernel
theorem dX0_samplesAt_6 : decode cX0_samplesAt 6 = .ok (.ifCond .le 15, 3) := by decide +kernel
theorem dX0_samplesAt_9 : decode cX0_samplesAt 9 = .ok (.aload_n 0, 1) := by decide +kernel
theorem dX0_samplesAt_10 : decode cX0_samplesAt 10 = .ok (.getfield 9, 3) := by decide +kernel
theorem dX0_samplesAt_13 : decode cX0_samplesAt 13 = .ok (.iload_n 1, 1) := by decide +kernel
theorem dX0_samplesAt_14 : decode cX0_samplesAt 14 = .ok (.iaload, 1) := by decide +kernel
theorem dX0_samplesAt_15 : decode cX0_samplesAt 15 = .ok (.bipush 8, 2) := by decide +kernel
theorem dX0_samplesAt_17 : decode cX0_samplesAt 17 = .ok (.imul, 1) := by decide +kernel
theorem dX0_samplesAt_18 : decode cX0_samplesAt 18 = .ok (.goto 5, 3) := by decide +kernel
theorem dX0_samplesAt_21 : decode cX0_samplesAt 21 = .ok (.bipush 8, 2) := by decide +kernel
theorem dX0_samplesAt_23 : decode cX0_samplesAt 23 = .ok (.ireturn, 1) := by decide +kernel
theorem dX0_soundAt_0 : decode cX0_soundAt 0 = .ok (.aload_n 0, 1) := by decide +kernel
theorem dX0_soundAt_1 : decode cX0_soundAt 1 = .ok (.getfield 9, 3) := by decide +kernel
theorem dX0_soundAt_4 : decode cX0_soundAt 4 = .ok (.iload_n 1, 1) := by decide +kernel
theorem dX0_soundAt_5 : decode cX0_soundAt 5 = .ok (.iaload, 1) := by decide +kernel
theorem dX0_soundAt_6 : decode cX0_soundAt 6 = .ok (.ifCond .le 7, 3) := by decide +kernel
theorem dX0_soundAt_9 : decode cX0_soundAt 9 = .ok (.iconst 0, 1) := by decide +kernel
theorem dX0_soundAt_10 : decode cX0_soundAt 10 = .ok (.goto 14, 3) := by decide +kernel
theorem dX0_soundAt_13 : decode cX0_soundAt 13 = .ok (.aload_n 0, 1) := by decide +kernel
theorem dX0_soundAt_14 : decode cX0_soundAt 14 = .ok (.getfield 15, 3) := by decide +kernel
theorem dX0_soundAt_17 : decode cX0_soundAt 17 = .ok (.iload_n 1, 1) := by decide +kernel
theorem dX0_soundAt_18 : decode cX0_soundAt 18 = .ok (.bipush 8, 2) := by decide +kernel
theorem dX0_soundAt_20 : decode cX0_soundAt 20 = .ok (.imul, 1) := by decide +kernel
theorem dX0_soundAt_21 : decode cX0_soundAt 21 = .ok (.iload_n 2, 1) := by decide +kernel
theorem dX0_soundAt_22 : decode cX0_soundAt 22 = .ok (.iadd, 1) := by decide +kernel
theorem dX0_soundAt_23 : decode cX0_soundAt 23 = .ok (.iaload, 1) := by decide +kernel
theorem dX0_soundAt_24 : decode cX0_soundAt 24 = .ok (.ireturn, 1) := by decide +kernel
theorem dX4_soundAt_0 : decode cX4_soundAt 0 = .ok (.iload_n 1, 1) := by decide +kernel
theorem dX4_soundAt_1 : decode cX4_soundAt 1 = .ok (.istore_n 2, 1) := by decide +kernel
theorem dX4_soundAt_2 : decode cX4_soundAt 2 = .ok (.aload_n 0, 1) := by decide +kernel
theorem dX4_soundAt_3 : decode cX4_soundAt 3 = .ok (.getfield 9, 3) := by decide +kernel
theorem dX4_soundAt_6 : decode cX4_soundAt 6 = .ok (.astore_n 3, 1) := by decide +kernel
theorem dX4_soundAt_7 : decode cX4_soundAt 7 = .ok (.aload_n 3, 1) := by decide +kernel
theorem dX4_soundAt_8 : decode cX4_soundAt 8 = .ok (.ifnull 56, 3) := by decide +kernel
theorem dX4_soundAt_11 : decode cX4_soundAt 11 = .ok (.iconst 0, 1) := by decide +kernel
theorem dX4_soundAt_12 : decode cX4_soundAt 12 = .ok (.istore 4, 2) := by decide +kernel
theorem dX4_soundAt_14 : decode cX4_soundAt 14 = .ok (.iload 4, 2) := by decide +kernel
theorem dX4_soundAt_16 : decode cX4_soundAt 16 = .ok (.aload_n 3, 1) := by decide +kernel
theorem dX4_soundAt_17 : decode cX4_soundAt 17 = .ok (.getfield 28, 3) := by decide +kernel
theorem dX4_soundAt_20 : decode cX4_soundAt 20 = .ok (.if_icmp .ge 36, 3) := by decide +kernel
theorem dX4_soundAt_23 : decode cX4_soundAt 23 = .ok (.aload_n 3, 1) := by decide +kernel
theorem dX4_soundAt_24 : decode cX4_soundAt 24 = .ok (.iload 4, 2) := by decide +kernel
theorem dX4_soundAt_26 : decode cX4_soundAt 26 = .ok (.invokevirtual 43, 3) := by decide +kernel
theorem dX4_soundAt_29 : decode cX4_soundAt 29 = .ok (.istore 5, 2) := by decide +kernel
theorem dX4_soundAt_31 : decode cX4_soundAt 31 = .ok (.iload_n 2, 1) := by decide +kernel
theorem dX4_soundAt_32 : decode cX4_soundAt 32 = .ok (.iload 5, 2) := by decide +kernel
theorem dX4_soundAt_34 : decode cX4_soundAt 34 = .ok (.if_icmp .ge 11, 3) := by decide +kernel
theorem dX4_soundAt_37 : decode cX4_soundAt 37 = .ok (.aload_n 3, 1) := by decide +kernel
theorem dX4_soundAt_38 : decode cX4_soundAt 38 = .ok (.iload 4, 2) := by decide +kernel
theorem dX4_soundAt_40 : decode cX4_soundAt 40 = .ok (.iload_n 2, 1) := by decide +kernel
theorem dX4_soundAt_41 : decode cX4_soundAt 41 = .ok (.invokevirtual 47, 3) := by decide +kernel
theorem dX4_soundAt_44 : decode cX4_soundAt 44 = .ok (.ireturn, 1) := by decide +kernel
theorem dX4_soundAt_45 : decode cX4_soundAt 45 = .ok (.iload_n 2, 1) := by decide +kernel
theorem dX4_soundAt_46 : decode cX4_soundAt 46 = .ok (.iload 5, 2) := by decide +kernel
theorem dX4_soundAt_48 : decode cX4_soundAt 48 = .ok (.isub, 1) := by decide +kernel
theorem dX4_soundAt_49 : decode cX4_soundAt 49 = .ok (.istore_n 2, 1) := by decide +kernel
theorem dX4_soundAt_50 : decode cX4_soundAt 50 = .ok (.iinc 4 1, 3) := by decide +kernel
theorem dX4_soundAt_53 : decode cX4_soundAt 53 = .ok (.goto (-39), 3) := by decide +kernel
theorem dX4_soundAt_56 : decode cX4_soundAt 56 = .ok (.aload_n 3, 1) := by decide +kernel
theorem dX4_soundAt_57 : decode cX4_soundAt 57 = .ok (.getfield 33, 3) := by decide +kernel
theorem dX4_soundAt_60 : decode cX4_soundAt 60 = .ok (.astore_n 3, 1) := by decide +kernel
theorem dX4_soundAt_61 : decode cX4_soundAt 61 = .ok (.goto (-54), 3) := by decide +kernel
theorem dX4_soundAt_64 : decode cX4_soundAt 64 = .ok (.iconst 0, 1) := by decide +kernel
theorem dX4_soundAt_65 : decode cX4_soundAt 65 = .ok (.ireturn, 1) := by decide +kernel
theorem dX6_soundOf_0 : decode cX6_soundOf 0 = .ok (.aload_n 0, 1) := by decide +kernel
theorem dX6_soundOf_1 : decode cX6_soundOf 1 = .ok (.ifnonnull 7, 3) := by decide +kernel
theorem dX6_soundOf_4 : decode cX6_soundOf 4 = .ok (.iconst 0, 1) := by decide +kernel
theorem dX6_soundOf_5 : decode cX6_soundOf 5 = .ok (.goto 8, 3) := by decide +kernel
theorem dX6_soundOf_8 : decode cX6_soundOf 8 = .ok (.aload_n 0, 1) := by decide +kernel
theorem dX6_soundOf_9 : decode cX6_soundOf 9 = .ok (.iload_n 1, 1) := by decide +kernel
theorem dX6_soundOf_10 : decode cX6_soundOf 10 = .ok (.invokevirtual 316, 3) := by decide +kernel
theorem dX6_soundOf_13 : decode cX6_soundOf 13 = .ok (.ireturn, 1) := by decide +kernel
theorem dX6_greeting_0 : decode cX6_greeting 0 = .ok (.aload_n 0, 1) := by decide +kernel
theorem dX6_greeting_1 : decode cX6_greeting 1 = .ok (.iload_n 1, 1) := by decide +kernel
theorem dX6_greeting_2 : decode cX6_greeting 2 = .ok (.invokevirtual 66, 3) := by decide +kernel
theorem dX6_greeting_5 : decode cX6_greeting 5 = .ok (.aload_n 0, 1) := by decide +kernel
theorem dX6_greeting_6 : decode cX6_greeting 6 = .ok (.iload_n 2, 1) := by decide +kernel
theorem dX6_greeting_7 : decode cX6_greeting 7 = .ok (.invokevirtual 196, 3) := by decide +kernel
theorem dX6_greeting_10 : decode cX6_greeting 10 = .ok (.aload_n 0, 1) := by decide +kernel
theorem dX6_greeting_11 : decode cX6_greeting 11 = .ok (.getfield 22, 3) := by decide +kernel
theorem dX6_greeting_14 : decode cX6_greeting 14 = .ok (.iload_n 1, 1) := by decide +kernel
theorem dX6_greeting_15 : decode cX6_greeting 15 = .ok (.aaload, 1) := by decide +kernel
theorem dX6_greeting_16 : decode cX6_greeting 16 = .ok (.getfield 174, 3) := by decide +kernel
theorem dX6_greeting_19 : decode cX6_greeting 19 = .ok (.iload_n 2, 1) := by decide +kernel
theorem dX6_greeting_20 : decode cX6_greeting 20 = .ok (.aaload, 1) := by decide +kernel
theorem dX6_greeting_21 : decode cX6_greeting 21 = .ok (.astore 4, 2) := by decide +kernel
theorem dX6_greeting_23 : decode cX6_greeting 23 = .ok (.iload_n 3, 1) := by decide +kernel
theorem dX6_greeting_24 : decode cX6_greeting 24 = .ok (.ifCond .lt 12, 3) := by decide +kernel
theorem dX6_greeting_27 : decode cX6_greeting 27 = .ok (.iload_n 3, 1) := by decide +kernel
theorem dX6_greeting_28 : decode cX6_greeting 28 = .ok (.aload 4, 2) := by decide +kernel
theorem dX6_greeting_30 : decode cX6_greeting 30 = .ok (.invokestatic 187, 3) := by decide +kernel
theorem dX6_greeting_33 : decode cX6_greeting 33 = .ok (.if_icmp .lt 13, 3) := by decide +kernel
theorem dX6_greeting_36 : decode cX6_greeting 36 = .ok (.new 144, 3) := by decide +kernel
theorem dX6_greeting_39 : decode cX6_greeting 39 = .ok (.dup, 1) := by decide +kernel
theorem dX6_greeting_40 : decode cX6_greeting 40 = .ok (.ldc 199, 2) := by decide +kernel
theorem dX6_greeting_42 : decode cX6_greeting 42 = .ok (.invokespecial 148, 3) := by decide +kernel
theorem dX6_greeting_45 : decode cX6_greeting 45 = .ok (.athrow, 1) := by decide +kernel
theorem dX6_greeting_46 : decode cX6_greeting 46 = .ok (.aload 4, 2) := by decide +kernel
theorem dX6_greeting_48 : decode cX6_greeting 48 = .ok (.iload_n 3, 1) := by decide +kernel
theorem dX6_greeting_49 : decode cX6_greeting 49 = .ok (.invokestatic 192, 3) := by decide +kernel
theorem dX6_greeting_52 : decode cX6_greeting 52 = .ok (.ireturn, 1) := by decide +kernel
theorem dX2_fillFrame_0 : decode cX2_fillFrame 0 = .ok (.aload_n 0, 1) := by decide +kernel
theorem dX2_fillFrame_1 : decode cX2_fillFrame 1 = .ok (.getfield 15, 3) := by decide +kernel
theorem dX2_fillFrame_4 : decode cX2_fillFrame 4 = .ok (.bipush 8, 2) := by decide +kernel
theorem dX2_fillFrame_6 : decode cX2_fillFrame 6 = .ok (.if_icmp .ge 26, 3) := by decide +kernel
theorem dX2_fillFrame_9 : decode cX2_fillFrame 9 = .ok (.aload_n 0, 1) := by decide +kernel
theorem dX2_fillFrame_10 : decode cX2_fillFrame 10 = .ok (.getfield 9, 3) := by decide +kernel
theorem dX2_fillFrame_13 : decode cX2_fillFrame 13 = .ok (.aload_n 0, 1) := by decide +kernel
theorem dX2_fillFrame_14 : decode cX2_fillFrame 14 = .ok (.getfield 15, 3) := by decide +kernel
theorem dX2_fillFrame_17 : decode cX2_fillFrame 17 = .ok (.iconst 0, 1) := by decide +kernel
theorem dX2_fillFrame_18 : decode cX2_fillFrame 18 = .ok (.iastore, 1) := by decide +kernel
theorem dX2_fillFrame_19 : decode cX2_fillFrame 19 = .ok (.aload_n 0, 1) := by decide +kernel
theorem dX2_fillFrame_20 : decode cX2_fillFrame 20 = .ok (.dup, 1) := by decide +kernel
theorem dX2_fillFrame_21 : decode cX2_fillFrame 21 = .ok (.getfield 15, 3) := by decide +kernel
theorem dX2_fillFrame_24 : decode cX2_fillFrame 24 = .ok (.iconst 1, 1) := by decide +kernel
theorem dX2_fillFrame_25 : decode cX2_fillFrame 25 = .ok (.iadd, 1) := by decide +kernel
theorem dX2_fillFrame_26 : decode cX2_fillFrame 26 = .ok (.putfield 15, 3) := by decide +kernel
theorem dX2_fillFrame_29 : decode cX2_fillFrame 29 = .ok (.goto (-29), 3) := by decide +kernel
theorem dX2_fillFrame_32 : decode cX2_fillFrame 32 = .ok (.return_, 1) := by decide +kernel
theorem dX2_isFrameQuiet_0 : decode cX2_isFrameQuiet 0 = .ok (.iconst 0, 1) := by decide +kernel
theorem dX2_isFrameQuiet_1 : decode cX2_isFrameQuiet 1 = .ok (.istore_n 1, 1) := by decide +kernel
theorem dX2_isFrameQuiet_2 : decode cX2_isFrameQuiet 2 = .ok (.iload_n 1, 1) := by decide +kernel
theorem dX2_isFrameQuiet_3 : decode cX2_isFrameQuiet 3 = .ok (.bipush 8, 2) := by decide +kernel
theorem dX2_isFrameQuiet_5 : decode cX2_isFrameQuiet 5 = .ok (.if_icmp .ge 33, 3) := by decide +kernel
theorem dX2_isFrameQuiet_8 : decode cX2_isFrameQuiet 8 = .ok (.aload_n 0, 1) := by decide +kernel
theorem dX2_isFrameQuiet_9 : decode cX2_isFrameQuiet 9 = .ok (.getfield 9, 3) := by decide +kernel
theorem dX2_isFrameQuiet_12 : decode cX2_isFrameQuiet 12 = .ok (.iload_n 1, 1) := by decide +kernel
theorem dX2_isFrameQuiet_13 : decode cX2_isFrameQuiet 13 = .ok (.iaload, 1) := by decide +kernel
theorem dX2_isFrameQuiet_14 : decode cX2_isFrameQuiet 14 = .ok (.bipush (-48), 2) := by decide +kernel
theorem dX2_isFrameQuiet_16 : decode cX2_isFrameQuiet 16 = .ok (.if_icmp .lt 14, 3) := by decide +kernel
theorem dX2_isFrameQuiet_19 : decode cX2_isFrameQuiet 19 = .ok (.aload_n 0, 1) := by decide +kernel
theorem dX2_isFrameQuiet_20 : decode cX2_isFrameQuiet 20 = .ok (.getfield 9, 3) := by decide +kernel
theorem dX2_isFrameQuiet_23 : decode cX2_isFrameQuiet 23 = .ok (.iload_n 1, 1) := by decide +kernel
theorem dX2_isFrameQuiet_24 : decode cX2_isFrameQuiet 24 = .ok (.iaload, 1) := by decide +kernel
theorem dX2_isFrameQuiet_25 : decode cX2_isFrameQuiet 25 = .ok (.bipush 48, 2) := by decide +kernel
theorem dX2_isFrameQuiet_27 : decode cX2_isFrameQuiet 27 = .ok (.if_icmp .le 5, 3) := by decide +kernel
theorem dX2_isFrameQuiet_30 : decode cX2_isFrameQuiet 30 = .ok (.iconst 0, 1) := by decide +kernel
theorem dX2_isFrameQuiet_31 : decode cX2_isFrameQuiet 31 = .ok (.ireturn, 1) := by decide +kernel
theorem dX2_isFrameQuiet_32 : decode cX2_isFrameQuiet 32 = .ok (.iinc 1 1, 3) := by decide +kernel
theorem dX2_isFrameQuiet_35 : decode cX2_isFrameQuiet 35 = .ok (.goto (-33), 3) := by decide +kernel
theorem dX2_isFrameQuiet_38 : decode cX2_isFrameQuiet 38 = .ok (.iconst 1, 1) := by decide +kernel
theorem dX2_isFrameQuiet_39 : decode cX2_isFrameQuiet 39 = .ok (.ireturn, 1) := by decide +kernel
theorem dX4_dropLastBlock_0 : decode cX4_dropLastBlock 0 = .ok (.aconst_null, 1) := by decide +kernel
theorem dX4_dropLastBlock_1 : decode cX4_dropLastBlock 1 = .ok (.astore_n 1, 1) := by decide +kernel
theorem dX4_dropLastBlock_2 : decode cX4_dropLastBlock 2 = .ok (.aload_n 0, 1) := by decide +kernel
theorem dX4_dropLastBlock_3 : decode cX4_dropLastBlock 3 = .ok (.getfield 9, 3) := by decide +kernel
theorem dX4_dropLastBlock_6 : decode cX4_dropLastBlock 6 = .ok (.astore_n 2, 1) := by decide +kernel
theorem dX4_dropLastBlock_7 : decode cX4_dropLastBlock 7 = .ok (.aload_n 2, 1) := by decide +kernel
theorem dX4_dropLastBlock_8 : decode cX4_dropLastBlock 8 = .ok (.ifnull 21, 3) := by decide +kernel
theorem dX4_dropLastBlock_11 : decode cX4_dropLastBlock 11 = .ok (.aload_n 2, 1) := by decide +kernel
theorem dX4_dropLastBlock_12 : decode cX4_dropLastBlock 12 = .ok (.aload_n 0, 1) := by decide +kernel
theorem dX4_dropLastBlock_13 : decode cX4_dropLastBlock 13 = .ok (.getfield 15, 3) := by decide +kernel
theorem dX4_dropLastBlock_16 : decode cX4_dropLastBlock 16 = .ok (.if_acmp .eq 13, 3) := by decide +kernel
theorem dX4_dropLastBlock_19 : decode cX4_dropLastBlock 19 = .ok (.aload_n 2, 1) := by decide +kernel
theorem dX4_dropLastBlock_20 : decode cX4_dropLastBlock 20 = .ok (.astore_n 1, 1) := by decide +kernel
theorem dX4_dropLastBlock_21 : decode cX4_dropLastBlock 21 = .ok (.aload_n 2, 1) := by decide +kernel
theorem dX4_dropLastBlock_22 : decode cX4_dropLastBlock 22 = .ok (.getfield 33, 3) := by decide +kernel
theorem dX4_dropLastBlock_25 : decode cX4_dropLastBlock 25 = .ok (.astore_n 2, 1) := by decide +kernel
theorem dX4_dropLastBlock_26 : decode cX4_dropLastBlock 26 = .ok (.goto (-19), 3) := by decide +kernel
theorem dX4_dropLastBlock_29 : decode cX4_dropLastBlock 29 = .ok (.aload_n 0, 1) := by decide +kernel
theorem dX4_dropLastBlock_30 : decode cX4_dropLastBlock 30 = .ok (.aload_n 1, 1) := by decide +kernel
theorem dX4_dropLastBlock_31 : decode cX4_dropLastBlock 31 = .ok (.putfield 15, 3) := by decide +kernel
theorem dX4_dropLastBlock_34 : decode cX4_dropLastBlock 34 = .ok (.aload_n 1, 1) := by decide +kernel
theorem dX4_dropLastBlock_35 : decode cX4_dropLastBlock 35 = .ok (.ifnonnull 11, 3) := by decide +kernel
theorem dX4_dropLastBlock_38 : decode cX4_dropLastBlock 38 = .ok (.aload_n 0, 1) := by decide +kernel
theorem dX4_dropLastBlock_39 : decode cX4_dropLastBlock 39 = .ok (.aconst_null, 1) := by decide +kernel
theorem dX4_dropLastBlock_40 : decode cX4_dropLastBlock 40 = .ok (.putfield 9, 3) := by decide +kernel
theorem dX4_dropLastBlock_43 : decode cX4_dropLastBlock 43 = .ok (.goto 8, 3) := by decide +kernel
theorem dX4_dropLastBlock_46 : decode cX4_dropLastBlock 46 = .ok (.aload_n 1, 1) := by decide +kernel
theorem dX4_dropLastBlock_47 : decode cX4_dropLastBlock 47 = .ok (.aconst_null, 1) := by decide +kernel
theorem dX4_dropLastBlock_48 : decode cX4_dropLastBlock 48 = .ok (.putfield 33, 3) := by decide +kernel
theorem dX4_dropLastBlock_51 : decode cX4_dropLastBlock 51 = .ok (.return_, 1) := by decide +kernel
theorem dX4_dropLastEntry_0 : decode cX4_dropLastEntry 0 = .ok (.aload_n 0, 1) := by decide +kernel
theorem dX4_dropLastEntry_1 : decode cX4_dropLastEntry 1 = .ok (.getfield 15, 3) := by decide +kernel
theorem dX4_dropLastEntry_4 : decode cX4_dropLastEntry 4 = .ok (.ifnonnull 4, 3) := by decide +kernel
theorem dX4_dropLastEntry_7 : decode cX4_dropLastEntry 7 = .ok (.return_, 1) := by decide +kernel
theorem dX4_dropLastEntry_8 : decode cX4_dropLastEntry 8 = .ok (.aload_n 0, 1) := by decide +kernel
theorem dX4_dropLastEntry_9 : decode cX4_dropLastEntry 9 = .ok (.getfield 15, 3) := by decide +kernel
theorem dX4_dropLastEntry_12 : decode cX4_dropLastEntry 12 = .ok (.dup, 1) := by decide +kernel
theorem dX4_dropLastEntry_13 : decode cX4_dropLastEntry 13 = .ok (.getfield 28, 3) := by decide +kernel
theorem dX4_dropLastEntry_16 : decode cX4_dropLastEntry 16 = .ok (.iconst 1, 1) := by decide +kernel
theorem dX4_dropLastEntry_17 : decode cX4_dropLastEntry 17 = .ok (.isub, 1) := by decide +kernel
theorem dX4_dropLastEntry_18 : decode cX4_dropLastEntry 18 = .ok (.putfield 28, 3) := by decide +kernel
theorem dX4_dropLastEntry_21 : decode cX4_dropLastEntry 21 = .ok (.aload_n 0, 1) := by decide +kernel
theorem dX4_dropLastEntry_22 : decode cX4_dropLastEntry 22 = .ok (.getfield 15, 3) := by decide +kernel
theorem dX4_dropLastEntry_25 : decode cX4_dropLastEntry 25 = .ok (.getfield 28, 3) := by decide +kernel
theorem dX4_dropLastEntry_28 : decode cX4_dropLastEntry 28 = .ok (.ifCond .ne 7, 3) := by decide +kernel
theorem dX4_dropLastEntry_31 : decode cX4_dropLastEntry 31 = .ok (.aload_n 0, 1) := by decide +kernel
theorem dX4_dropLastEntry_32 : decode cX4_dropLastEntry 32 = .ok (.invokevirtual 36, 3) := by decide +kernel
theorem dX4_dropLastEntry_35 : decode cX4_dropLastEntry 35 = .ok (.return_, 1) := by decide +kernel
theorem dX4_makeLastEntryGap_0 : decode cX4_makeLastEntryGap 0 = .ok (.aload_n 0, 1) := by decide +kernel
theorem dX4_makeLastEntryGap_1 : decode cX4_makeLastEntryGap 1 = .ok (.getfield 15, 3) := by decide +kernel
theorem dX4_makeLastEntryGap_4 : decode cX4_makeLastEntryGap 4 = .ok (.ifnull 31, 3) := by decide +kernel
theorem dX4_makeLastEntryGap_7 : decode cX4_makeLastEntryGap 7 = .ok (.aload_n 0, 1) := by decide +kernel
theorem dX4_makeLastEntryGap_8 : decode cX4_makeLastEntryGap 8 = .ok (.getfield 15, 3) := by decide +kernel
theorem dX4_makeLastEntryGap_11 : decode cX4_makeLastEntryGap 11 = .ok (.getfield 28, 3) := by decide +kernel
theorem dX4_makeLastEntryGap_14 : decode cX4_makeLastEntryGap 14 = .ok (.ifCond .le 21, 3) := by decide +kernel
theorem dX4_makeLastEntryGap_17 : decode cX4_makeLastEntryGap 17 = .ok (.aload_n 0, 1) := by decide +kernel
theorem dX4_makeLastEntryGap_18 : decode cX4_makeLastEntryGap 18 = .ok (.getfield 15, 3) := by decide +kernel
theorem dX4_makeLastEntryGap_21 : decode cX4_makeLastEntryGap 21 = .ok (.getfield 39, 3) := by decide +kernel
theorem dX4_makeLastEntryGap_24 : decode cX4_makeLastEntryGap 24 = .ok (.aload_n 0, 1) := by decide +kernel
theorem dX4_makeLastEntryGap_25 : decode cX4_makeLastEntryGap 25 = .ok (.getfield 15, 3) := by decide +kernel
theorem dX4_makeLastEntryGap_28 : decode cX4_makeLastEntryGap 28 = .ok (.getfield 28, 3) := by decide +kernel
theorem dX4_makeLastEntryGap_31 : decode cX4_makeLastEntryGap 31 = .ok (.iconst 1, 1) := by decide +kernel
theorem dX4_makeLastEntryGap_32 : decode cX4_makeLastEntryGap 32 = .ok (.isub, 1) := by decide +kernel
theorem dX4_makeLastEntryGap_33 : decode cX4_makeLastEntryGap 33 = .ok (.iconst 3, 1) := by decide +kernel
theorem dX4_makeLastEntryGap_34 : decode cX4_makeLastEntryGap 34 = .ok (.iastore, 1) := by decide +kernel
theorem dX4_makeLastEntryGap_35 : decode cX4_makeLastEntryGap 35 = .ok (.return_, 1) := by decide +kernel
theorem dX4_lengthenLastEntry_0 : decode cX4_lengthenLastEntry 0 = .ok (.aload_n 0, 1) := by decide +kernel
theorem dX4_lengthenLastEntry_1 : decode cX4_lengthenLastEntry 1 = .ok (.getfield 15, 3) := by decide +kernel
theorem dX4_lengthenLastEntry_4 : decode cX4_lengthenLastEntry 4 = .ok (.ifnull 34, 3) := by decide +kernel
theorem dX4_lengthenLastEntry_7 : decode cX4_lengthenLastEntry 7 = .ok (.aload_n 0, 1) := by decide +kernel
theorem dX4_lengthenLastEntry_8 : decode cX4_lengthenLastEntry 8 = .ok (.getfield 15, 3) := by decide +kernel
theorem dX4_lengthenLastEntry_11 : decode cX4_lengthenLastEntry 11 = .ok (.getfield 28, 3) := by decide +kernel
theorem dX4_lengthenLastEntry_14 : decode cX4_lengthenLastEntry 14 = .ok (.ifCond .le 24, 3) := by decide +kernel
theorem dX4_lengthenLastEntry_17 : decode cX4_lengthenLastEntry 17 = .ok (.aload_n 0, 1) := by decide +kernel
theorem dX4_lengthenLastEntry_18 : decode cX4_lengthenLastEntry 18 = .ok (.getfield 15, 3) := by decide +kernel
theorem dX4_lengthenLastEntry_21 : decode cX4_lengthenLastEntry 21 = .ok (.getfield 39, 3) := by decide +kernel
theorem dX4_lengthenLastEntry_24 : decode cX4_lengthenLastEntry 24 = .ok (.aload_n 0, 1) := by decide +kernel
theorem dX4_lengthenLastEntry_25 : decode cX4_lengthenLastEntry 25 = .ok (.getfield 15, 3) := by decide +kernel
theorem dX4_lengthenLastEntry_28 : decode cX4_lengthenLastEntry 28 = .ok (.getfield 28, 3) := by decide +kernel
theorem dX4_lengthenLastEntry_31 : decode cX4_lengthenLastEntry 31 = .ok (.iconst 1, 1) := by decide +kernel
theorem dX4_lengthenLastEntry_32 : decode cX4_lengthenLastEntry 32 = .ok (.isub, 1) := by decide +kernel
theorem dX4_lengthenLastEntry_33 : decode cX4_lengthenLastEntry 33 = .ok (.dup2, 1) := by decide +kernel
theorem dX4_lengthenLastEntry_34 : decode cX4_lengthenLastEntry 34 = .ok (.iaload, 1) := by decide +kernel
theorem dX4_lengthenLastEntry_35 : decode cX4_lengthenLastEntry 35 = .ok (.iconst 1, 1) := by decide +kernel
theorem dX4_lengthenLastEntry_36 : decode cX4_lengthenLastEntry 36 = .ok (.iadd, 1) := by decide +kernel
theorem dX4_lengthenLastEntry_37 : decode cX4_lengthenLastEntry 37 = .ok (.iastore, 1) := by decide +kernel
theorem dX4_lengthenLastEntry_38 : decode cX4_lengthenLastEntry 38 = .ok (.return_, 1) := by decide +kernel
theorem dX2_lengthenGap_0 : decode cX2_lengthenGap 0 = .ok (.aload_n 0, 1) := by decide +kernel
theorem dX2_lengthenGap_1 : decode cX2_lengthenGap 1 = .ok (.getfield 39, 3) := by decide +kernel
theorem dX2_lengthenGap_4 : decode cX2_lengthenGap 4 = .ok (.iconst 2, 1) := by decide +kernel
theorem dX2_lengthenGap_5 : decode cX2_lengthenGap 5 = .ok (.if_icmp .ne 20, 3) := by decide +kernel
theorem dX2_lengthenGap_8 : decode cX2_lengthenGap 8 = .ok (.aload_n 0, 1) := by decide +kernel
theorem dX2_lengthenGap_9 : decode cX2_lengthenGap 9 = .ok (.getfield 35, 3) := by decide +kernel
theorem dX2_lengthenGap_12 : decode cX2_lengthenGap 12 = .ok (.invokevirtual 51, 3) := by decide +kernel
theorem dX2_lengthenGap_15 : decode cX2_lengthenGap 15 = .ok (.aload_n 0, 1) := by decide +kernel
theorem dX2_lengthenGap_16 : decode cX2_lengthenGap 16 = .ok (.getfield 35, 3) := by decide +kernel
theorem dX2_lengthenGap_19 : decode cX2_lengthenGap 19 = .ok (.invokevirtual 54, 3) := by decide +kernel
theorem dX2_lengthenGap_22 : decode cX2_lengthenGap 22 = .ok (.goto 10, 3) := by decide +kernel
theorem dX2_lengthenGap_25 : decode cX2_lengthenGap 25 = .ok (.aload_n 0, 1) := by decide +kernel
theorem dX2_lengthenGap_26 : decode cX2_lengthenGap 26 = .ok (.getfield 35, 3) := by decide +kernel
theorem dX2_lengthenGap_29 : decode cX2_lengthenGap 29 = .ok (.invokevirtual 57, 3) := by decide +kernel
theorem dX2_lengthenGap_32 : decode cX2_lengthenGap 32 = .ok (.aload_n 0, 1) := by decide +kernel
theorem dX2_lengthenGap_33 : decode cX2_lengthenGap 33 = .ok (.invokevirtual 48, 3) := by decide +kernel
theorem dX2_lengthenGap_36 : decode cX2_lengthenGap 36 = .ok (.return_, 1) := by decide +kernel
theorem dX6_takeFrame_0 : decode cX6_takeFrame 0 = .ok (.aload_n 1, 1) := by decide +kernel
theorem dX6_takeFrame_1 : decode cX6_takeFrame 1 = .ok (.invokevirtual 273, 3) := by decide +kernel
theorem dX6_takeFrame_4 : decode cX6_takeFrame 4 = .ok (.istore_n 2, 1) := by decide +kernel
theorem dX6_takeFrame_5 : decode cX6_takeFrame 5 = .ok (.iload_n 2, 1) := by decide +kernel
theorem dX6_takeFrame_6 : decode cX6_takeFrame 6 = .ok (.ifCond .eq 15, 3) := by decide +kernel
theorem dX6_takeFrame_9 : decode cX6_takeFrame 9 = .ok (.aload_n 1, 1) := by decide +kernel
theorem dX6_takeFrame_10 : decode cX6_takeFrame 10 = .ok (.getfield 276, 3) := by decide +kernel
theorem dX6_takeFrame_13 : decode cX6_takeFrame 13 = .ok (.iconst 2, 1) := by decide +kernel
theorem dX6_takeFrame_14 : decode cX6_takeFrame 14 = .ok (.if_icmp .lt 7, 3) := by decide +kernel
theorem dX6_takeFrame_17 : decode cX6_takeFrame 17 = .ok (.iconst 1, 1) := by decide +kernel
theorem dX6_takeFrame_18 : decode cX6_takeFrame 18 = .ok (.goto 4, 3) := by decide +kernel
theorem dX6_takeFrame_21 : decode cX6_takeFrame 21 = .ok (.iconst 0, 1) := by decide +kernel
theorem dX6_takeFrame_22 : decode cX6_takeFrame 22 = .ok (.istore_n 3, 1) := by decide +kernel
theorem dX6_takeFrame_23 : decode cX6_takeFrame 23 = .ok (.iload_n 3, 1) := by decide +kernel
theorem dX6_takeFrame_24 : decode cX6_takeFrame 24 = .ok (.ifCond .eq 14, 3) := by decide +kernel
theorem dX6_takeFrame_27 : decode cX6_takeFrame 27 = .ok (.aload_n 0, 1) := by decide +kernel
theorem dX6_takeFrame_28 : decode cX6_takeFrame 28 = .ok (.aload_n 1, 1) := by decide +kernel
theorem dX6_takeFrame_29 : decode cX6_takeFrame 29 = .ok (.getfield 276, 3) := by decide +kernel
theorem dX6_takeFrame_32 : decode cX6_takeFrame 32 = .ok (.invokevirtual 279, 3) := by decide +kernel
theorem dX6_takeFrame_35 : decode cX6_takeFrame 35 = .ok (.goto 4, 3) := by decide +kernel
theorem dX6_takeFrame_38 : decode cX6_takeFrame 38 = .ok (.iconst 1, 1) := by decide +kernel
theorem dX6_takeFrame_39 : decode cX6_takeFrame 39 = .ok (.istore 4, 2) := by decide +kernel
theorem dX6_takeFrame_41 : decode cX6_takeFrame 41 = .ok (.aload_n 1, 1) := by decide +kernel
theorem dX6_takeFrame_42 : decode cX6_takeFrame 42 = .ok (.iconst 0, 1) := by decide +kernel
theorem dX6_takeFrame_43 : decode cX6_takeFrame 43 = .ok (.putfield 105, 3) := by decide +kernel
theorem dX6_takeFrame_46 : decode cX6_takeFrame 46 = .ok (.aload_n 0, 1) := by decide +kernel
theorem dX6_takeFrame_47 : decode cX6_takeFrame 47 = .ok (.aload_n 1, 1) := by decide +kernel
theorem dX6_takeFrame_48 : decode cX6_takeFrame 48 = .ok (.iload_n 3, 1) := by decide +kernel
theorem dX6_takeFrame_49 : decode cX6_takeFrame 49 = .ok (.iload 4, 2) := by decide +kernel
theorem dX6_takeFrame_51 : decode cX6_takeFrame 51 = .ok (.invokevirtual 282, 3) := by decide +kernel
theorem dX6_takeFrame_54 : decode cX6_takeFrame 54 = .ok (.ifCond .ne 9, 3) := by decide +kernel
theorem dX6_takeFrame_57 : decode cX6_takeFrame 57 = .ok (.aload_n 1, 1) := by decide +kernel
theorem dX6_takeFrame_58 : decode cX6_takeFrame 58 = .ok (.iconst 1, 1) := by decide +kernel
theorem dX6_takeFrame_59 : decode cX6_takeFrame 59 = .ok (.putfield 95, 3) := by decide +kernel
theorem dX6_takeFrame_62 : decode cX6_takeFrame 62 = .ok (.return_, 1) := by decide +kernel
theorem dX6_takeFrame_63 : decode cX6_takeFrame 63 = .ok (.iload_n 3, 1) := by decide +kernel
theorem dX6_takeFrame_64 : decode cX6_takeFrame 64 = .ok (.ifCond .eq 10, 3) := by decide +kernel
theorem dX6_takeFrame_67 : decode cX6_takeFrame 67 = .ok (.aload_n 1, 1) := by decide +kernel
theorem dX6_takeFrame_68 : decode cX6_takeFrame 68 = .ok (.invokevirtual 286, 3) := by decide +kernel
theorem dX6_takeFrame_71 : decode cX6_takeFrame 71 = .ok (.goto 8, 3) := by decide +kernel
theorem dX6_takeFrame_74 : decode cX6_takeFrame 74 = .ok (.aload_n 0, 1) := by decide +kernel
theorem dX6_takeFrame_75 : decode cX6_takeFrame 75 = .ok (.aload_n 1, 1) := by decide +kernel
theorem dX6_takeFrame_76 : decode cX6_takeFrame 76 = .ok (.invokevirtual 289, 3) := by decide +kernel
theorem dX6_takeFrame_79 : decode cX6_takeFrame 79 = .ok (.aload_n 1, 1) := by decide +kernel
theorem dX6_takeFrame_80 : decode cX6_takeFrame 80 = .ok (.iload_n 2, 1) := by decide +kernel
theorem dX6_takeFrame_81 : decode cX6_takeFrame 81 = .ok (.ifCond .eq 12, 3) := by decide +kernel
theorem dX6_takeFrame_84 : decode cX6_takeFrame 84 = .ok (.aload_n 1, 1) := by decide +kernel
theorem dX6_takeFrame_85 : decode cX6_takeFrame 85 = .ok (.getfield 276, 3) := by decide +kernel
theorem dX6_takeFrame_88 : decode cX6_takeFrame 88 = .ok (.iconst 1, 1) := by decide +kernel
theorem dX6_takeFrame_89 : decode cX6_takeFrame 89 = .ok (.iadd, 1) := by decide +kernel
theorem dX6_takeFrame_90 : decode cX6_takeFrame 90 = .ok (.goto 4, 3) := by decide +kernel
theorem dX6_takeFrame_93 : decode cX6_takeFrame 93 = .ok (.iconst 0, 1) := by decide +kernel
theorem dX6_takeFrame_94 : decode cX6_takeFrame 94 = .ok (.putfield 276, 3) := by decide +kernel
theorem dX6_takeFrame_97 : decode cX6_takeFrame 97 = .ok (.aload_n 1, 1) := by decide +kernel
theorem dX6_takeFrame_98 : decode cX6_takeFrame 98 = .ok (.getfield 115, 3) := by decide +kernel
theorem dX6_takeFrame_101 : decode cX6_takeFrame 101 = .ok (.dup, 1) := by decide +kernel
theorem dX6_takeFrame_102 : decode cX6_takeFrame 102 = .ok (.getfield 292, 3) := by decide +kernel
theorem dX6_takeFrame_105 : decode cX6_takeFrame 105 = .ok (.iload 4, 2) := by decide +kernel
theorem dX6_takeFrame_107 : decode cX6_takeFrame 107 = .ok (.iadd, 1) := by decide +kernel
theorem dX6_takeFrame_108 : decode cX6_takeFrame 108 = .ok (.putfield 292, 3) := by decide +kernel
theorem dX6_takeFrame_111 : decode cX6_takeFrame 111 = .ok (.aload_n 1, 1) := by decide +kernel
theorem dX6_takeFrame_112 : decode cX6_takeFrame 112 = .ok (.getfield 115, 3) := by decide +kernel
theorem dX6_takeFrame_115 : decode cX6_takeFrame 115 = .ok (.dup, 1) := by decide +kernel
theorem dX6_takeFrame_116 : decode cX6_takeFrame 116 = .ok (.getfield 295, 3) := by decide +kernel
theorem dX6_takeFrame_119 : decode cX6_takeFrame 119 = .ok (.bipush 8, 2) := by decide +kernel
theorem dX6_takeFrame_121 : decode cX6_takeFrame 121 = .ok (.iadd, 1) := by decide +kernel
theorem dX6_takeFrame_122 : decode cX6_takeFrame 122 = .ok (.putfield 295, 3) := by decide +kernel
theorem dX6_takeFrame_125 : decode cX6_takeFrame 125 = .ok (.return_, 1) := by decide +kernel
theorem dX4_isBlank_0 : decode cX4_isBlank 0 = .ok (.aload_n 0, 1) := by decide +kernel
theorem dX4_isBlank_1 : decode cX4_isBlank 1 = .ok (.getfield 9, 3) := by decide +kernel
theorem dX4_isBlank_4 : decode cX4_isBlank 4 = .ok (.ifnonnull 7, 3) := by decide +kernel
theorem dX4_isBlank_7 : decode cX4_isBlank 7 = .ok (.iconst 1, 1) := by decide +kernel
theorem dX4_isBlank_8 : decode cX4_isBlank 8 = .ok (.goto 4, 3) := by decide +kernel
theorem dX4_isBlank_11 : decode cX4_isBlank 11 = .ok (.iconst 0, 1) := by decide +kernel
theorem dX4_isBlank_12 : decode cX4_isBlank 12 = .ok (.ireturn, 1) := by decide +kernel
theorem dX6_replaceOwn_0 : decode cX6_replaceOwn 0 = .ok (.aload_n 1, 1) := by decide +kernel
theorem dX6_replaceOwn_1 : decode cX6_replaceOwn 1 = .ok (.getfield 174, 3) := by decide +kernel
theorem dX6_replaceOwn_4 : decode cX6_replaceOwn 4 = .ok (.iload_n 2, 1) := by decide +kernel
theorem dX6_replaceOwn_5 : decode cX6_replaceOwn 5 = .ok (.aaload, 1) := by decide +kernel
theorem dX6_replaceOwn_6 : decode cX6_replaceOwn 6 = .ok (.astore 4, 2) := by decide +kernel
theorem dX6_replaceOwn_8 : decode cX6_replaceOwn 8 = .ok (.aload_n 1, 1) := by decide +kernel
theorem dX6_replaceOwn_9 : decode cX6_replaceOwn 9 = .ok (.getfield 174, 3) := by decide +kernel
theorem dX6_replaceOwn_12 : decode cX6_replaceOwn 12 = .ok (.iload_n 2, 1) := by decide +kernel
theorem dX6_replaceOwn_13 : decode cX6_replaceOwn 13 = .ok (.aload_n 3, 1) := by decide +kernel
theorem dX6_replaceOwn_14 : decode cX6_replaceOwn 14 = .ok (.aastore, 1) := by decide +kernel
theorem dX6_replaceOwn_15 : decode cX6_replaceOwn 15 = .ok (.aload_n 0, 1) := by decide +kernel
theorem dX6_replaceOwn_16 : decode cX6_replaceOwn 16 = .ok (.aload_n 3, 1) := by decide +kernel
theorem dX6_replaceOwn_17 : decode cX6_replaceOwn 17 = .ok (.invokevirtual 263, 3) := by decide +kernel
theorem dX6_replaceOwn_20 : decode cX6_replaceOwn 20 = .ok (.aload_n 0, 1) := by decide +kernel
theorem dX6_replaceOwn_21 : decode cX6_replaceOwn 21 = .ok (.aload 4, 2) := by decide +kernel
theorem dX6_replaceOwn_23 : decode cX6_replaceOwn 23 = .ok (.invokevirtual 166, 3) := by decide +kernel
theorem dX6_replaceOwn_26 : decode cX6_replaceOwn 26 = .ok (.pop, 1) := by decide +kernel
theorem dX6_replaceOwn_27 : decode cX6_replaceOwn 27 = .ok (.return_, 1) := by decide +kernel
theorem dX6_hang_0 : decode cX6_hang 0 = .ok (.aload_n 0, 1) := by decide +kernel
theorem dX6_hang_1 : decode cX6_hang 1 = .ok (.iload_n 1, 1) := by decide +kernel
theorem dX6_hang_2 : decode cX6_hang 2 = .ok (.invokevirtual 91, 3) := by decide +kernel
theorem dX6_hang_5 : decode cX6_hang 5 = .ok (.astore_n 2, 1) := by decide +kernel
theorem dX6_hang_6 : decode cX6_hang 6 = .ok (.aload_n 2, 1) := by decide +kernel
theorem dX6_hang_7 : decode cX6_hang 7 = .ok (.getfield 105, 3) := by decide +kernel
theorem dX6_hang_10 : decode cX6_hang 10 = .ok (.ifCond .le 12, 3) := by decide +kernel
theorem dX6_hang_13 : decode cX6_hang 13 = .ok (.aload_n 2, 1) := by decide +kernel
theorem dX6_hang_14 : decode cX6_hang 14 = .ok (.invokevirtual 112, 3) := by decide +kernel
theorem dX6_hang_17 : decode cX6_hang 17 = .ok (.aload_n 0, 1) := by decide +kernel
theorem dX6_hang_18 : decode cX6_hang 18 = .ok (.aload_n 2, 1) := by decide +kernel
theorem dX6_hang_19 : decode cX6_hang 19 = .ok (.invokevirtual 108, 3) := by decide +kernel
theorem dX6_hang_22 : decode cX6_hang 22 = .ok (.aload_n 2, 1) := by decide +kernel
theorem dX6_hang_23 : decode cX6_hang 23 = .ok (.iconst 0, 1) := by decide +kernel
theorem dX6_hang_24 : decode cX6_hang 24 = .ok (.putfield 75, 3) := by decide +kernel
theorem dX6_hang_27 : decode cX6_hang 27 = .ok (.aload_n 2, 1) := by decide +kernel
theorem dX6_hang_28 : decode cX6_hang 28 = .ok (.getfield 115, 3) := by decide +kernel
theorem dX6_hang_31 : decode cX6_hang 31 = .ok (.astore_n 3, 1) := by decide +kernel
theorem dX6_hang_32 : decode cX6_hang 32 = .ok (.aload_n 3, 1) := by decide +kernel
theorem dX6_hang_33 : decode cX6_hang 33 = .ok (.invokevirtual 119, 3) := by decide +kernel
theorem dX6_hang_36 : decode cX6_hang 36 = .ok (.ifCond .eq 5, 3) := by decide +kernel
theorem dX6_hang_39 : decode cX6_hang 39 = .ok (.iconst (-1), 1) := by decide +kernel
theorem dX6_hang_40 : decode cX6_hang 40 = .ok (.ireturn, 1) := by decide +kernel
theorem dX6_hang_41 : decode cX6_hang 41 = .ok (.aload_n 2, 1) := by decide +kernel
theorem dX6_hang_42 : decode cX6_hang 42 = .ok (.getfield 124, 3) := by decide +kernel
theorem dX6_hang_45 : decode cX6_hang 45 = .ok (.ifCond .ne 14, 3) := by decide +kernel
theorem dX6_hang_48 : decode cX6_hang 48 = .ok (.aload_n 0, 1) := by decide +kernel
theorem dX6_hang_49 : decode cX6_hang 49 = .ok (.aload_n 2, 1) := by decide +kernel
theorem dX6_hang_50 : decode cX6_hang 50 = .ok (.getfield 127, 3) := by decide +kernel
theorem dX6_hang_53 : decode cX6_hang 53 = .ok (.aload_n 3, 1) := by decide +kernel
theorem dX6_hang_54 : decode cX6_hang 54 = .ok (.aconst_null, 1) := by decide +kernel
theorem dX6_hang_55 : decode cX6_hang 55 = .ok (.invokevirtual 130, 3) := by decide +kernel
theorem dX6_hang_58 : decode cX6_hang 58 = .ok (.ireturn, 1) := by decide +kernel
theorem dX6_hang_59 : decode cX6_hang 59 = .ok (.aload_n 0, 1) := by decide +kernel
theorem dX6_hang_60 : decode cX6_hang 60 = .ok (.aload_n 0, 1) := by decide +kernel
theorem dX6_hang_61 : decode cX6_hang 61 = .ok (.getfield 22, 3) := by decide +kernel
theorem dX6_hang_64 : decode cX6_hang 64 = .ok (.aload_n 2, 1) := by decide +kernel
theorem dX6_hang_65 : decode cX6_hang 65 = .ok (.getfield 127, 3) := by decide +kernel
theorem dX6_hang_68 : decode cX6_hang 68 = .ok (.aaload, 1) := by decide +kernel
theorem dX6_hang_69 : decode cX6_hang 69 = .ok (.aload_n 2, 1) := by decide +kernel
theorem dX6_hang_70 : decode cX6_hang 70 = .ok (.getfield 124, 3) := by decide +kernel
theorem dX6_hang_73 : decode cX6_hang 73 = .ok (.iconst 1, 1) := by decide +kernel
theorem dX6_hang_74 : decode cX6_hang 74 = .ok (.isub, 1) := by decide +kernel
theorem dX6_hang_75 : decode cX6_hang 75 = .ok (.aload_n 3, 1) := by decide +kernel
theorem dX6_hang_76 : decode cX6_hang 76 = .ok (.invokevirtual 134, 3) := by decide +kernel
theorem dX6_hang_79 : decode cX6_hang 79 = .ok (.iconst 0, 1) := by decide +kernel
theorem dX6_hang_80 : decode cX6_hang 80 = .ok (.ireturn, 1) := by decide +kernel
theorem dX6_length_0 : decode cX6_length 0 = .ok (.aload_n 0, 1) := by decide +kernel
theorem dX6_length_1 : decode cX6_length 1 = .ok (.iload_n 1, 1) := by decide +kernel
theorem dX6_length_2 : decode cX6_length 2 = .ok (.invokevirtual 66, 3) := by decide +kernel
theorem dX6_length_5 : decode cX6_length 5 = .ok (.aload_n 0, 1) := by decide +kernel
theorem dX6_length_6 : decode cX6_length 6 = .ok (.iload_n 2, 1) := by decide +kernel
theorem dX6_length_7 : decode cX6_length 7 = .ok (.invokevirtual 196, 3) := by decide +kernel
theorem dX6_length_10 : decode cX6_length 10 = .ok (.aload_n 0, 1) := by decide +kernel
theorem dX6_length_11 : decode cX6_length 11 = .ok (.getfield 22, 3) := by decide +kernel
theorem dX6_length_14 : decode cX6_length 14 = .ok (.iload_n 1, 1) := by decide +kernel
theorem dX6_length_15 : decode cX6_length 15 = .ok (.aaload, 1) := by decide +kernel
theorem dX6_length_16 : decode cX6_length 16 = .ok (.getfield 174, 3) := by decide +kernel
theorem dX6_length_19 : decode cX6_length 19 = .ok (.iload_n 2, 1) := by decide +kernel
theorem dX6_length_20 : decode cX6_length 20 = .ok (.aaload, 1) := by decide +kernel
theorem dX6_length_21 : decode cX6_length 21 = .ok (.invokestatic 187, 3) := by decide +kernel
theorem dX6_length_24 : decode cX6_length 24 = .ok (.ireturn, 1) := by decide +kernel
theorem dX6_requireList_0 : decode cX6_requireList 0 = .ok (.iload_n 1, 1) := by decide +kernel
theorem dX6_requireList_1 : decode cX6_requireList 1 = .ok (.ifCond .lt 8, 3) := by decide +kernel
theorem dX6_requireList_4 : decode cX6_requireList 4 = .ok (.iload_n 1, 1) := by decide +kernel
theorem dX6_requireList_5 : decode cX6_requireList 5 = .ok (.iconst 3, 1) := by decide +kernel
theorem dX6_requireList_6 : decode cX6_requireList 6 = .ok (.if_icmp .lt 13, 3) := by decide +kernel
theorem dX6_requireList_9 : decode cX6_requireList 9 = .ok (.new 51, 3) := by decide +kernel
theorem dX6_requireList_12 : decode cX6_requireList 12 = .ok (.dup, 1) := by decide +kernel
theorem dX6_requireList_13 : decode cX6_requireList 13 = .ok (.ldc 242, 2) := by decide +kernel
theorem dX6_requireList_15 : decode cX6_requireList 15 = .ok (.invokespecial 55, 3) := by decide +kernel
theorem dX6_requireList_18 : decode cX6_requireList 18 = .ok (.athrow, 1) := by decide +kernel
theorem dX6_requireList_19 : decode cX6_requireList 19 = .ok (.return_, 1) := by decide +kernel
theorem dX6_mark_0 : decode cX6_mark 0 = .ok (.aload_n 0, 1) := by decide +kernel
theorem dX6_mark_1 : decode cX6_mark 1 = .ok (.getfield 35, 3) := by decide +kernel
theorem dX6_mark_4 : decode cX6_mark 4 = .ok (.aload_n 0, 1) := by decide +kernel
theorem dX6_mark_5 : decode cX6_mark 5 = .ok (.iload_n 1, 1) := by decide +kernel
theorem dX6_mark_6 : decode cX6_mark 6 = .ok (.invokevirtual 149, 3) := by decide +kernel
theorem dX6_mark_9 : decode cX6_mark 9 = .ok (.invokevirtual 153, 3) := by decide +kernel
theorem dX6_mark_12 : decode cX6_mark 12 = .ok (.checkcast 157, 3) := by decide +kernel
theorem dX6_mark_15 : decode cX6_mark 15 = .ok (.astore_n 3, 1) := by decide +kernel
theorem dX6_mark_16 : decode cX6_mark 16 = .ok (.aload_n 0, 1) := by decide +kernel
theorem dX6_mark_17 : decode cX6_mark 17 = .ok (.iload_n 2, 1) := by decide +kernel
theorem dX6_mark_18 : decode cX6_mark 18 = .ok (.invokevirtual 138, 3) := by decide +kernel
theorem dX6_mark_21 : decode cX6_mark 21 = .ok (.aload_n 3, 1) := by decide +kernel
theorem dX6_mark_22 : decode cX6_mark 22 = .ok (.getfield 159, 3) := by decide +kernel
theorem dX6_mark_25 : decode cX6_mark 25 = .ok (.istore 4, 2) := by decide +kernel
theorem dX6_mark_27 : decode cX6_mark 27 = .ok (.aload_n 3, 1) := by decide +kernel
theorem dX6_mark_28 : decode cX6_mark 28 = .ok (.iload_n 2, 1) := by decide +kernel
theorem dX6_mark_29 : decode cX6_mark 29 = .ok (.putfield 159, 3) := by decide +kernel
theorem dX6_mark_32 : decode cX6_mark 32 = .ok (.iload 4, 2) := by decide +kernel
theorem dX6_mark_34 : decode cX6_mark 34 = .ok (.ireturn, 1) := by decide +kernel
theorem dX6_numberInList_0 : decode cX6_numberInList 0 = .ok (.iconst 0, 1) := by decide +kernel
theorem dX6_numberInList_1 : decode cX6_numberInList 1 = .ok (.istore 4, 2) := by decide +kernel
theorem dX6_numberInList_3 : decode cX6_numberInList 3 = .ok (.iconst 0, 1) := by decide +kernel
theorem dX6_numberInList_4 : decode cX6_numberInList 4 = .ok (.istore 5, 2) := by decide +kernel
theorem dX6_numberInList_6 : decode cX6_numberInList 6 = .ok (.iload 5, 2) := by decide +kernel
theorem dX6_numberInList_8 : decode cX6_numberInList 8 = .ok (.aload_n 0, 1) := by decide +kernel
theorem dX6_numberInList_9 : decode cX6_numberInList 9 = .ok (.getfield 35, 3) := by decide +kernel
theorem dX6_numberInList_12 : decode cX6_numberInList 12 = .ok (.invokevirtual 222, 3) := by decide +kernel
theorem dX6_numberInList_15 : decode cX6_numberInList 15 = .ok (.if_icmp .ge 56, 3) := by decide +kernel
theorem dX6_numberInList_18 : decode cX6_numberInList 18 = .ok (.aload_n 0, 1) := by decide +kernel
theorem dX6_numberInList_19 : decode cX6_numberInList 19 = .ok (.getfield 35, 3) := by decide +kernel
theorem dX6_numberInList_22 : decode cX6_numberInList 22 = .ok (.iload 5, 2) := by decide +kernel
theorem dX6_numberInList_24 : decode cX6_numberInList 24 = .ok (.invokevirtual 153, 3) := by decide +kernel
theorem dX6_numberInList_27 : decode cX6_numberInList 27 = .ok (.checkcast 157, 3) := by decide +kernel
theorem dX6_numberInList_30 : decode cX6_numberInList 30 = .ok (.astore 6, 2) := by decide +kernel
theorem dX6_numberInList_32 : decode cX6_numberInList 32 = .ok (.aload 6, 2) := by decide +kernel
theorem dX6_numberInList_34 : decode cX6_numberInList 34 = .ok (.getfield 173, 3) := by decide +kernel
theorem dX6_numberInList_37 : decode cX6_numberInList 37 = .ok (.iload_n 1, 1) := by decide +kernel
theorem dX6_numberInList_38 : decode cX6_numberInList 38 = .ok (.if_icmp .ne 27, 3) := by decide +kernel
theorem dX6_numberInList_41 : decode cX6_numberInList 41 = .ok (.aload 6, 2) := by decide +kernel
theorem dX6_numberInList_43 : decode cX6_numberInList 43 = .ok (.getfield 159, 3) := by decide +kernel
theorem dX6_numberInList_46 : decode cX6_numberInList 46 = .ok (.iload_n 2, 1) := by decide +kernel
theorem dX6_numberInList_47 : decode cX6_numberInList 47 = .ok (.if_icmp .ne 18, 3) := by decide +kernel
theorem dX6_numberInList_50 : decode cX6_numberInList 50 = .ok (.iload 4, 2) := by decide +kernel
theorem dX6_numberInList_52 : decode cX6_numberInList 52 = .ok (.iload_n 3, 1) := by decide +kernel
theorem dX6_numberInList_53 : decode cX6_numberInList 53 = .ok (.if_icmp .ne 9, 3) := by decide +kernel
theorem dX6_numberInList_56 : decode cX6_numberInList 56 = .ok (.aload 6, 2) := by decide +kernel
theorem dX6_numberInList_58 : decode cX6_numberInList 58 = .ok (.getfield 248, 3) := by decide +kernel
theorem dX6_numberInList_61 : decode cX6_numberInList 61 = .ok (.ireturn, 1) := by decide +kernel
theorem dX6_numberInList_62 : decode cX6_numberInList 62 = .ok (.iinc 4 1, 3) := by decide +kernel
theorem dX6_numberInList_65 : decode cX6_numberInList 65 = .ok (.iinc 5 1, 3) := by decide +kernel
theorem dX6_numberInList_68 : decode cX6_numberInList 68 = .ok (.goto (-62), 3) := by decide +kernel
theorem dX6_numberInList_71 : decode cX6_numberInList 71 = .ok (.iconst (-1), 1) := by decide +kernel
theorem dX6_numberInList_72 : decode cX6_numberInList 72 = .ok (.ireturn, 1) := by decide +kernel
theorem dX6_next_0 : decode cX6_next 0 = .ok (.aload_n 0, 1) := by decide +kernel
theorem dX6_next_1 : decode cX6_next 1 = .ok (.iload_n 1, 1) := by decide +kernel
theorem dX6_next_2 : decode cX6_next 2 = .ok (.invokevirtual 66, 3) := by decide +kernel
theorem dX6_next_5 : decode cX6_next 5 = .ok (.aload_n 0, 1) := by decide +kernel
theorem dX6_next_6 : decode cX6_next 6 = .ok (.iload_n 2, 1) := by decide +kernel
theorem dX6_next_7 : decode cX6_next 7 = .ok (.invokevirtual 138, 3) := by decide +kernel
theorem dX6_next_10 : decode cX6_next 10 = .ok (.aload_n 0, 1) := by decide +kernel
theorem dX6_next_11 : decode cX6_next 11 = .ok (.iload_n 1, 1) := by decide +kernel
theorem dX6_next_12 : decode cX6_next 12 = .ok (.iload_n 2, 1) := by decide +kernel
theorem dX6_next_13 : decode cX6_next 13 = .ok (.iload_n 3, 1) := by decide +kernel
theorem dX6_next_14 : decode cX6_next 14 = .ok (.invokevirtual 141, 3) := by decide +kernel
theorem dX6_next_17 : decode cX6_next 17 = .ok (.istore 4, 2) := by decide +kernel
theorem dX6_next_19 : decode cX6_next 19 = .ok (.iload 4, 2) := by decide +kernel
theorem dX6_next_21 : decode cX6_next 21 = .ok (.iconst (-1), 1) := by decide +kernel
theorem dX6_next_22 : decode cX6_next 22 = .ok (.if_icmp .ne 13, 3) := by decide +kernel
theorem dX6_next_25 : decode cX6_next 25 = .ok (.new 144, 3) := by decide +kernel
theorem dX6_next_28 : decode cX6_next 28 = .ok (.dup, 1) := by decide +kernel
theorem dX6_next_29 : decode cX6_next 29 = .ok (.ldc 146, 2) := by decide +kernel
theorem dX6_next_31 : decode cX6_next 31 = .ok (.invokespecial 148, 3) := by decide +kernel
theorem dX6_next_34 : decode cX6_next 34 = .ok (.athrow, 1) := by decide +kernel
theorem dX6_next_35 : decode cX6_next 35 = .ok (.iload 4, 2) := by decide +kernel
theorem dX6_next_37 : decode cX6_next 37 = .ok (.ireturn, 1) := by decide +kernel
theorem dX5_greatestUsed_0 : decode cX5_greatestUsed 0 = .ok (.bipush 39, 2) := by decide +kernel
theorem dX5_greatestUsed_2 : decode cX5_greatestUsed 2 = .ok (.istore_n 1, 1) := by decide +kernel
theorem dX5_greatestUsed_3 : decode cX5_greatestUsed 3 = .ok (.iload_n 1, 1) := by decide +kernel
theorem dX5_greatestUsed_4 : decode cX5_greatestUsed 4 = .ok (.ifCond .lt 23, 3) := by decide +kernel
theorem dX5_greatestUsed_7 : decode cX5_greatestUsed 7 = .ok (.aload_n 0, 1) := by decide +kernel
theorem dX5_greatestUsed_8 : decode cX5_greatestUsed 8 = .ok (.getfield 11, 3) := by decide +kernel
theorem dX5_greatestUsed_11 : decode cX5_greatestUsed 11 = .ok (.iload_n 1, 1) := by decide +kernel
theorem dX5_greatestUsed_12 : decode cX5_greatestUsed 12 = .ok (.aaload, 1) := by decide +kernel
theorem dX5_greatestUsed_13 : decode cX5_greatestUsed 13 = .ok (.getfield 18, 3) := by decide +kernel
theorem dX5_greatestUsed_16 : decode cX5_greatestUsed 16 = .ok (.ifCond .le 5, 3) := by decide +kernel
theorem dX5_greatestUsed_19 : decode cX5_greatestUsed 19 = .ok (.iload_n 1, 1) := by decide +kernel
theorem dX5_greatestUsed_20 : decode cX5_greatestUsed 20 = .ok (.ireturn, 1) := by decide +kernel
theorem dX5_greatestUsed_21 : decode cX5_greatestUsed 21 = .ok (.iinc 1 (-1), 3) := by decide +kernel
theorem dX5_greatestUsed_24 : decode cX5_greatestUsed 24 = .ok (.goto (-21), 3) := by decide +kernel
theorem dX5_greatestUsed_27 : decode cX5_greatestUsed 27 = .ok (.iconst (-1), 1) := by decide +kernel
theorem dX5_greatestUsed_28 : decode cX5_greatestUsed 28 = .ok (.ireturn, 1) := by decide +kernel
theorem dX5_moveGreatest_0 : decode cX5_moveGreatest 0 = .ok (.aload_n 0, 1) := by decide +kernel
theorem dX5_moveGreatest_1 : decode cX5_moveGreatest 1 = .ok (.invokevirtual 22, 3) := by decide +kernel
theorem dX5_moveGreatest_4 : decode cX5_moveGreatest 4 = .ok (.istore_n 1, 1) := by decide +kernel
theorem dX5_moveGreatest_5 : decode cX5_moveGreatest 5 = .ok (.aload_n 0, 1) := by decide +kernel
theorem dX5_moveGreatest_6 : decode cX5_moveGreatest 6 = .ok (.invokevirtual 26, 3) := by decide +kernel
theorem dX5_moveGreatest_9 : decode cX5_moveGreatest 9 = .ok (.istore_n 2, 1) := by decide +kernel
theorem dX5_moveGreatest_10 : decode cX5_moveGreatest 10 = .ok (.iload_n 2, 1) := by decide +kernel
theorem dX5_moveGreatest_11 : decode cX5_moveGreatest 11 = .ok (.iconst (-1), 1) := by decide +kernel
theorem dX5_moveGreatest_12 : decode cX5_moveGreatest 12 = .ok (.if_icmp .eq 8, 3) := by decide +kernel
theorem dX5_moveGreatest_15 : decode cX5_moveGreatest 15 = .ok (.iload_n 2, 1) := by decide +kernel
theorem dX5_moveGreatest_16 : decode cX5_moveGreatest 16 = .ok (.iload_n 1, 1) := by decide +kernel
theorem dX5_moveGreatest_17 : decode cX5_moveGreatest 17 = .ok (.if_icmp .le 5, 3) := by decide +kernel
theorem dX5_moveGreatest_20 : decode cX5_moveGreatest 20 = .ok (.iconst 0, 1) := by decide +kernel
theorem dX5_moveGreatest_21 : decode cX5_moveGreatest 21 = .ok (.ireturn, 1) := by decide +kernel
theorem dX5_moveGreatest_22 : decode cX5_moveGreatest 22 = .ok (.aload_n 0, 1) := by decide +kernel
theorem dX5_moveGreatest_23 : decode cX5_moveGreatest 23 = .ok (.getfield 11, 3) := by decide +kernel
theorem dX5_moveGreatest_26 : decode cX5_moveGreatest 26 = .ok (.iload_n 1, 1) := by decide +kernel
theorem dX5_moveGreatest_27 : decode cX5_moveGreatest 27 = .ok (.aaload, 1) := by decide +kernel
theorem dX5_moveGreatest_28 : decode cX5_moveGreatest 28 = .ok (.astore_n 3, 1) := by decide +kernel
theorem dX5_moveGreatest_29 : decode cX5_moveGreatest 29 = .ok (.aload_n 0, 1) := by decide +kernel
theorem dX5_moveGreatest_30 : decode cX5_moveGreatest 30 = .ok (.getfield 11, 3) := by decide +kernel
theorem dX5_moveGreatest_33 : decode cX5_moveGreatest 33 = .ok (.iload_n 1, 1) := by decide +kernel
theorem dX5_moveGreatest_34 : decode cX5_moveGreatest 34 = .ok (.aload_n 0, 1) := by decide +kernel
theorem dX5_moveGreatest_35 : decode cX5_moveGreatest 35 = .ok (.getfield 11, 3) := by decide +kernel
theorem dX5_moveGreatest_38 : decode cX5_moveGreatest 38 = .ok (.iload_n 2, 1) := by decide +kernel
theorem dX5_moveGreatest_39 : decode cX5_moveGreatest 39 = .ok (.aaload, 1) := by decide +kernel
theorem dX5_moveGreatest_40 : decode cX5_moveGreatest 40 = .ok (.aastore, 1) := by decide +kernel
theorem dX5_moveGreatest_41 : decode cX5_moveGreatest 41 = .ok (.aload_n 0, 1) := by decide +kernel
theorem dX5_moveGreatest_42 : decode cX5_moveGreatest 42 = .ok (.getfield 11, 3) := by decide +kernel
theorem dX5_moveGreatest_45 : decode cX5_moveGreatest 45 = .ok (.iload_n 2, 1) := by decide +kernel
theorem dX5_moveGreatest_46 : decode cX5_moveGreatest 46 = .ok (.aload_n 3, 1) := by decide +kernel
theorem dX5_moveGreatest_47 : decode cX5_moveGreatest 47 = .ok (.aastore, 1) := by decide +kernel
theorem dX5_moveGreatest_48 : decode cX5_moveGreatest 48 = .ok (.iconst 1, 1) := by decide +kernel
theorem dX5_moveGreatest_49 : decode cX5_moveGreatest 49 = .ok (.ireturn, 1) := by decide +kernel
theorem dX6_pack_0 : decode cX6_pack 0 = .ok (.iload_n 1, 1) := by decide +kernel
theorem dX6_pack_1 : decode cX6_pack 1 = .ok (.ifCond .lt 9, 3) := by decide +kernel
theorem dX6_pack_4 : decode cX6_pack 4 = .ok (.iload_n 1, 1) := by decide +kernel
theorem dX6_pack_5 : decode cX6_pack 5 = .ok (.bipush 100, 2) := by decide +kernel
theorem dX6_pack_7 : decode cX6_pack 7 = .ok (.if_icmp .le 13, 3) := by decide +kernel
theorem dX6_pack_10 : decode cX6_pack 10 = .ok (.new 51, 3) := by decide +kernel
theorem dX6_pack_13 : decode cX6_pack 13 = .ok (.dup, 1) := by decide +kernel
theorem dX6_pack_14 : decode cX6_pack 14 = .ok (.ldc 204, 2) := by decide +kernel
theorem dX6_pack_16 : decode cX6_pack 16 = .ok (.invokespecial 55, 3) := by decide +kernel
theorem dX6_pack_19 : decode cX6_pack 19 = .ok (.athrow, 1) := by decide +kernel
theorem dX6_pack_20 : decode cX6_pack 20 = .ok (.iconst 0, 1) := by decide +kernel
theorem dX6_pack_21 : decode cX6_pack 21 = .ok (.istore_n 2, 1) := by decide +kernel
theorem dX6_pack_22 : decode cX6_pack 22 = .ok (.iload_n 2, 1) := by decide +kernel
theorem dX6_pack_23 : decode cX6_pack 23 = .ok (.iload_n 1, 1) := by decide +kernel
theorem dX6_pack_24 : decode cX6_pack 24 = .ok (.if_icmp .ge 19, 3) := by decide +kernel
theorem dX6_pack_27 : decode cX6_pack 27 = .ok (.aload_n 0, 1) := by decide +kernel
theorem dX6_pack_28 : decode cX6_pack 28 = .ok (.getfield 16, 3) := by decide +kernel
theorem dX6_pack_31 : decode cX6_pack 31 = .ok (.invokevirtual 206, 3) := by decide +kernel
theorem dX6_pack_34 : decode cX6_pack 34 = .ok (.ifCond .eq 9, 3) := by decide +kernel
theorem dX6_pack_37 : decode cX6_pack 37 = .ok (.iinc 2 1, 3) := by decide +kernel
theorem dX6_pack_40 : decode cX6_pack 40 = .ok (.goto (-18), 3) := by decide +kernel
theorem dX6_pack_43 : decode cX6_pack 43 = .ok (.iload_n 2, 1) := by decide +kernel
theorem dX6_pack_44 : decode cX6_pack 44 = .ok (.ireturn, 1) := by decide +kernel
theorem dX6_play_0 : decode cX6_play 0 = .ok (.aload_n 0, 1) := by decide +kernel
theorem dX6_play_1 : decode cX6_play 1 = .ok (.getfield 35, 3) := by decide +kernel
theorem dX6_play_4 : decode cX6_play 4 = .ok (.aload_n 0, 1) := by decide +kernel
theorem dX6_play_5 : decode cX6_play 5 = .ok (.iload_n 1, 1) := by decide +kernel
theorem dX6_play_6 : decode cX6_play 6 = .ok (.invokevirtual 149, 3) := by decide +kernel
theorem dX6_play_9 : decode cX6_play 9 = .ok (.invokevirtual 153, 3) := by decide +kernel
theorem dX6_play_12 : decode cX6_play 12 = .ok (.checkcast 157, 3) := by decide +kernel
theorem dX6_play_15 : decode cX6_play 15 = .ok (.astore_n 3, 1) := by decide +kernel
theorem dX6_play_16 : decode cX6_play 16 = .ok (.aload_n 3, 1) := by decide +kernel
theorem dX6_play_17 : decode cX6_play 17 = .ok (.getfield 170, 3) := by decide +kernel
theorem dX6_play_20 : decode cX6_play 20 = .ok (.invokestatic 187, 3) := by decide +kernel
theorem dX6_play_23 : decode cX6_play 23 = .ok (.istore 4, 2) := by decide +kernel
theorem dX6_play_25 : decode cX6_play 25 = .ok (.iload_n 2, 1) := by decide +kernel
theorem dX6_play_26 : decode cX6_play 26 = .ok (.ifCond .lt 17, 3) := by decide +kernel
theorem dX6_play_29 : decode cX6_play 29 = .ok (.iload_n 2, 1) := by decide +kernel
theorem dX6_play_30 : decode cX6_play 30 = .ok (.iload 4, 2) := by decide +kernel
theorem dX6_play_32 : decode cX6_play 32 = .ok (.aload_n 3, 1) := by decide +kernel
theorem dX6_play_33 : decode cX6_play 33 = .ok (.getfield 165, 3) := by decide +kernel
theorem dX6_play_36 : decode cX6_play 36 = .ok (.invokestatic 187, 3) := by decide +kernel
theorem dX6_play_39 : decode cX6_play 39 = .ok (.iadd, 1) := by decide +kernel
theorem dX6_play_40 : decode cX6_play 40 = .ok (.if_icmp .lt 13, 3) := by decide +kernel
theorem dX6_play_43 : decode cX6_play 43 = .ok (.new 144, 3) := by decide +kernel
theorem dX6_play_46 : decode cX6_play 46 = .ok (.dup, 1) := by decide +kernel
theorem dX6_play_47 : decode cX6_play 47 = .ok (.ldc 190, 2) := by decide +kernel
theorem dX6_play_49 : decode cX6_play 49 = .ok (.invokespecial 148, 3) := by decide +kernel
theorem dX6_play_52 : decode cX6_play 52 = .ok (.athrow, 1) := by decide +kernel
theorem dX6_play_53 : decode cX6_play 53 = .ok (.iload_n 2, 1) := by decide +kernel
theorem dX6_play_54 : decode cX6_play 54 = .ok (.iload 4, 2) := by decide +kernel
theorem dX6_play_56 : decode cX6_play 56 = .ok (.if_icmp .ge 14, 3) := by decide +kernel
theorem dX6_play_59 : decode cX6_play 59 = .ok (.aload_n 3, 1) := by decide +kernel
theorem dX6_play_60 : decode cX6_play 60 = .ok (.getfield 170, 3) := by decide +kernel
theorem dX6_play_63 : decode cX6_play 63 = .ok (.iload_n 2, 1) := by decide +kernel
theorem dX6_play_64 : decode cX6_play 64 = .ok (.invokestatic 192, 3) := by decide +kernel
theorem dX6_play_67 : decode cX6_play 67 = .ok (.goto 14, 3) := by decide +kernel
theorem dX6_play_70 : decode cX6_play 70 = .ok (.aload_n 3, 1) := by decide +kernel
theorem dX6_play_71 : decode cX6_play 71 = .ok (.getfield 165, 3) := by decide +kernel
theorem dX6_play_74 : decode cX6_play 74 = .ok (.iload_n 2, 1) := by decide +kernel
theorem dX6_play_75 : decode cX6_play 75 = .ok (.iload 4, 2) := by decide +kernel
theorem dX6_play_77 : decode cX6_play 77 = .ok (.isub, 1) := by decide +kernel
theorem dX6_play_78 : decode cX6_play 78 = .ok (.invokestatic 192, 3) := by decide +kernel
theorem dX6_play_81 : decode cX6_play 81 = .ok (.ireturn, 1) := by decide +kernel
theorem dX6_quota_0 : decode cX6_quota 0 = .ok (.aload_n 0, 1) := by decide +kernel
theorem dX6_quota_1 : decode cX6_quota 1 = .ok (.iload_n 1, 1) := by decide +kernel
theorem dX6_quota_2 : decode cX6_quota 2 = .ok (.invokevirtual 66, 3) := by decide +kernel
theorem dX6_quota_5 : decode cX6_quota 5 = .ok (.aload_n 0, 1) := by decide +kernel
theorem dX6_quota_6 : decode cX6_quota 6 = .ok (.getfield 22, 3) := by decide +kernel
theorem dX6_quota_9 : decode cX6_quota 9 = .ok (.iload_n 1, 1) := by decide +kernel
theorem dX6_quota_10 : decode cX6_quota 10 = .ok (.aaload, 1) := by decide +kernel
theorem dX6_quota_11 : decode cX6_quota 11 = .ok (.getfield 63, 3) := by decide +kernel
theorem dX6_quota_14 : decode cX6_quota 14 = .ok (.ireturn, 1) := by decide +kernel
theorem dX2_addToFrame_0 : decode cX2_addToFrame 0 = .ok (.aload_n 0, 1) := by decide +kernel
theorem dX2_addToFrame_1 : decode cX2_addToFrame 1 = .ok (.getfield 15, 3) := by decide +kernel
theorem dX2_addToFrame_4 : decode cX2_addToFrame 4 = .ok (.bipush 8, 2) := by decide +kernel
theorem dX2_addToFrame_6 : decode cX2_addToFrame 6 = .ok (.if_icmp .ge 23, 3) := by decide +kernel
theorem dX2_addToFrame_9 : decode cX2_addToFrame 9 = .ok (.aload_n 0, 1) := by decide +kernel
theorem dX2_addToFrame_10 : decode cX2_addToFrame 10 = .ok (.getfield 9, 3) := by decide +kernel
theorem dX2_addToFrame_13 : decode cX2_addToFrame 13 = .ok (.aload_n 0, 1) := by decide +kernel
theorem dX2_addToFrame_14 : decode cX2_addToFrame 14 = .ok (.getfield 15, 3) := by decide +kernel
theorem dX2_addToFrame_17 : decode cX2_addToFrame 17 = .ok (.iload_n 1, 1) := by decide +kernel
theorem dX2_addToFrame_18 : decode cX2_addToFrame 18 = .ok (.iastore, 1) := by decide +kernel
theorem dX2_addToFrame_19 : decode cX2_addToFrame 19 = .ok (.aload_n 0, 1) := by decide +kernel
theorem dX2_addToFrame_20 : decode cX2_addToFrame 20 = .ok (.dup, 1) := by decide +kernel
theorem dX2_addToFrame_21 : decode cX2_addToFrame 21 = .ok (.getfield 15, 3) := by decide +kernel
theorem dX2_addToFrame_24 : decode cX2_addToFrame 24 = .ok (.iconst 1, 1) := by decide +kernel
theorem dX2_addToFrame_25 : decode cX2_addToFrame 25 = .ok (.iadd, 1) := by decide +kernel
theorem dX2_addToFrame_26 : decode cX2_addToFrame 26 = .ok (.putfield 15, 3) := by decide +kernel
theorem dX2_addToFrame_29 : decode cX2_addToFrame 29 = .ok (.return_, 1) := by decide +kernel
theorem dX6_sample_0 : decode cX6_sample 0 = .ok (.aload_n 0, 1) := by decide +kernel
theorem dX6_sample_1 : decode cX6_sample 1 = .ok (.iload_n 1, 1) := by decide +kernel
theorem dX6_sample_2 : decode cX6_sample 2 = .ok (.invokevirtual 91, 3) := by decide +kernel
theorem dX6_sample_5 : decode cX6_sample 5 = .ok (.astore_n 3, 1) := by decide +kernel
theorem dX6_sample_6 : decode cX6_sample 6 = .ok (.aload_n 3, 1) := by decide +kernel
theorem dX6_sample_7 : decode cX6_sample 7 = .ok (.getfield 95, 3) := by decide +kernel
theorem dX6_sample_10 : decode cX6_sample 10 = .ok (.ifCond .ne 31, 3) := by decide +kernel
theorem dX6_sample_13 : decode cX6_sample 13 = .ok (.aload_n 3, 1) := by decide +kernel
theorem dX6_sample_14 : decode cX6_sample 14 = .ok (.iload_n 2, 1) := by decide +kernel
theorem dX6_sample_15 : decode cX6_sample 15 = .ok (.sipush (-32768), 3) := by decide +kernel
theorem dX6_sample_18 : decode cX6_sample 18 = .ok (.sipush 32767, 3) := by decide +kernel
theorem dX6_sample_21 : decode cX6_sample 21 = .ok (.invokestatic 98, 3) := by decide +kernel
theorem dX6_sample_24 : decode cX6_sample 24 = .ok (.invokevirtual 102, 3) := by decide +kernel
theorem dX6_sample_27 : decode cX6_sample 27 = .ok (.aload_n 3, 1) := by decide +kernel
theorem dX6_sample_28 : decode cX6_sample 28 = .ok (.getfield 105, 3) := by decide +kernel
theorem dX6_sample_31 : decode cX6_sample 31 = .ok (.bipush 8, 2) := by decide +kernel
theorem dX6_sample_33 : decode cX6_sample 33 = .ok (.if_icmp .lt 8, 3) := by decide +kernel
theorem dX6_sample_36 : decode cX6_sample 36 = .ok (.aload_n 0, 1) := by decide +kernel
theorem dX6_sample_37 : decode cX6_sample 37 = .ok (.aload_n 3, 1) := by decide +kernel
theorem dX6_sample_38 : decode cX6_sample 38 = .ok (.invokevirtual 108, 3) := by decide +kernel
theorem dX6_sample_41 : decode cX6_sample 41 = .ok (.aload_n 3, 1) := by decide +kernel
theorem dX6_sample_42 : decode cX6_sample 42 = .ok (.getfield 95, 3) := by decide +kernel
theorem dX6_sample_45 : decode cX6_sample 45 = .ok (.ireturn, 1) := by decide +kernel
theorem dX6_step_0 : decode cX6_step 0 = .ok (.iload_n 1, 1) := by decide +kernel
theorem dX6_step_1 : decode cX6_step 1 = .ok (.ifCond .lt 9, 3) := by decide +kernel
theorem dX6_step_4 : decode cX6_step 4 = .ok (.iload_n 1, 1) := by decide +kernel
theorem dX6_step_5 : decode cX6_step 5 = .ok (.bipush 49, 2) := by decide +kernel
theorem dX6_step_7 : decode cX6_step 7 = .ok (.if_icmp .lt 13, 3) := by decide +kernel
theorem dX6_step_10 : decode cX6_step 10 = .ok (.new 144, 3) := by decide +kernel
theorem dX6_step_13 : decode cX6_step 13 = .ok (.dup, 1) := by decide +kernel
theorem dX6_step_14 : decode cX6_step 14 = .ok (.ldc 220, 2) := by decide +kernel
theorem dX6_step_16 : decode cX6_step 16 = .ok (.invokespecial 148, 3) := by decide +kernel
theorem dX6_step_19 : decode cX6_step 19 = .ok (.athrow, 1) := by decide +kernel
theorem dX6_step_20 : decode cX6_step 20 = .ok (.aload_n 0, 1) := by decide +kernel
theorem dX6_step_21 : decode cX6_step 21 = .ok (.getfield 9, 3) := by decide +kernel
theorem dX6_step_24 : decode cX6_step 24 = .ok (.iload_n 1, 1) := by decide +kernel
theorem dX6_step_25 : decode cX6_step 25 = .ok (.iaload, 1) := by decide +kernel
theorem dX6_step_26 : decode cX6_step 26 = .ok (.ireturn, 1) := by decide +kernel
theorem dX5_countFree_0 : decode cX5_countFree 0 = .ok (.iconst 0, 1) := by decide +kernel
theorem dX5_countFree_1 : decode cX5_countFree 1 = .ok (.istore_n 1, 1) := by decide +kernel
theorem dX5_countFree_2 : decode cX5_countFree 2 = .ok (.iconst 0, 1) := by decide +kernel
theorem dX5_countFree_3 : decode cX5_countFree 3 = .ok (.istore_n 2, 1) := by decide +kernel
theorem dX5_countFree_4 : decode cX5_countFree 4 = .ok (.iload_n 2, 1) := by decide +kernel
theorem dX5_countFree_5 : decode cX5_countFree 5 = .ok (.bipush 40, 2) := by decide +kernel
theorem dX5_countFree_7 : decode cX5_countFree 7 = .ok (.if_icmp .ge 24, 3) := by decide +kernel
theorem dX5_countFree_10 : decode cX5_countFree 10 = .ok (.aload_n 0, 1) := by decide +kernel
theorem dX5_countFree_11 : decode cX5_countFree 11 = .ok (.getfield 11, 3) := by decide +kernel
theorem dX5_countFree_14 : decode cX5_countFree 14 = .ok (.iload_n 2, 1) := by decide +kernel
theorem dX5_countFree_15 : decode cX5_countFree 15 = .ok (.aaload, 1) := by decide +kernel
theorem dX5_countFree_16 : decode cX5_countFree 16 = .ok (.getfield 18, 3) := by decide +kernel
theorem dX5_countFree_19 : decode cX5_countFree 19 = .ok (.ifCond .ne 6, 3) := by decide +kernel
theorem dX5_countFree_22 : decode cX5_countFree 22 = .ok (.iinc 1 1, 3) := by decide +kernel
theorem dX5_countFree_25 : decode cX5_countFree 25 = .ok (.iinc 2 1, 3) := by decide +kernel
theorem dX5_countFree_28 : decode cX5_countFree 28 = .ok (.goto (-24), 3) := by decide +kernel
theorem dX5_countFree_31 : decode cX5_countFree 31 = .ok (.iload_n 1, 1) := by decide +kernel
theorem dX5_countFree_32 : decode cX5_countFree 32 = .ok (.ireturn, 1) := by decide +kernel
theorem dX6_total_0 : decode cX6_total 0 = .ok (.iload_n 1, 1) := by decide +kernel
theorem dX6_total_1 : decode cX6_total 1 = .ok (.tableswitch 78 0 5 #[39, 44, 52, 57, 65, 73], 39) := by decide +kernel
theorem dX6_total_40 : decode cX6_total 40 = .ok (.aload_n 0, 1) := by decide +kernel
theorem dX6_total_41 : decode cX6_total 41 = .ok (.getfield 39, 3) := by decide +kernel
theorem dX6_total_44 : decode cX6_total 44 = .ok (.ireturn, 1) := by decide +kernel
theorem dX6_total_45 : decode cX6_total 45 = .ok (.aload_n 0, 1) := by decide +kernel
theorem dX6_total_46 : decode cX6_total 46 = .ok (.getfield 35, 3) := by decide +kernel
theorem dX6_total_49 : decode cX6_total 49 = .ok (.invokevirtual 222, 3) := by decide +kernel
theorem dX6_total_52 : decode cX6_total 52 = .ok (.ireturn, 1) := by decide +kernel
theorem dX6_total_53 : decode cX6_total 53 = .ok (.aload_n 0, 1) := by decide +kernel
theorem dX6_total_54 : decode cX6_total 54 = .ok (.getfield 46, 3) := by decide +kernel
theorem dX6_total_57 : decode cX6_total 57 = .ok (.ireturn, 1) := by decide +kernel
theorem dX6_total_58 : decode cX6_total 58 = .ok (.aload_n 0, 1) := by decide +kernel
theorem dX6_total_59 : decode cX6_total 59 = .ok (.getfield 16, 3) := by decide +kernel
theorem dX6_total_62 : decode cX6_total 62 = .ok (.invokevirtual 226, 3) := by decide +kernel
theorem dX6_total_65 : decode cX6_total 65 = .ok (.ireturn, 1) := by decide +kernel
theorem dX6_total_66 : decode cX6_total 66 = .ok (.aload_n 0, 1) := by decide +kernel
theorem dX6_total_67 : decode cX6_total 67 = .ok (.getfield 16, 3) := by decide +kernel
theorem dX6_total_70 : decode cX6_total 70 = .ok (.invokevirtual 229, 3) := by decide +kernel
theorem dX6_total_73 : decode cX6_total 73 = .ok (.ireturn, 1) := by decide +kernel
theorem dX6_total_74 : decode cX6_total 74 = .ok (.aload_n 0, 1) := by decide +kernel
theorem dX6_total_75 : decode cX6_total 75 = .ok (.invokevirtual 232, 3) := by decide +kernel
theorem dX6_total_78 : decode cX6_total 78 = .ok (.ireturn, 1) := by decide +kernel
theorem dX6_total_79 : decode cX6_total 79 = .ok (.iconst (-1), 1) := by decide +kernel
theorem dX6_total_80 : decode cX6_total 80 = .ok (.ireturn, 1) := by decide +kernel
theorem dX6_used_0 : decode cX6_used 0 = .ok (.aload_n 0, 1) := by decide +kernel
theorem dX6_used_1 : decode cX6_used 1 = .ok (.iload_n 1, 1) := by decide +kernel
theorem dX6_used_2 : decode cX6_used 2 = .ok (.invokevirtual 66, 3) := by decide +kernel
theorem dX6_used_5 : decode cX6_used 5 = .ok (.aload_n 0, 1) := by decide +kernel
theorem dX6_used_6 : decode cX6_used 6 = .ok (.iload_n 1, 1) := by decide +kernel
theorem dX6_used_7 : decode cX6_used 7 = .ok (.invokevirtual 201, 3) := by decide +kernel
theorem dX6_used_10 : decode cX6_used 10 = .ok (.ireturn, 1) := by decide +kernel
