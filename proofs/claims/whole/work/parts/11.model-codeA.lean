theorem dX7_add_0 : decode cX7_add 0 = .ok (.aload_n 0, 1) := by decide +kernel
theorem dX7_add_1 : decode cX7_add 1 = .ok (.getfield 44, 3) := by decide +kernel
theorem dX7_add_4 : decode cX7_add 4 = .ok (.aload_n 0, 1) := by decide +kernel
theorem dX7_add_5 : decode cX7_add 5 = .ok (.getfield 121, 3) := by decide +kernel
theorem dX7_add_8 : decode cX7_add 8 = .ok (.aload_n 0, 1) := by decide +kernel
theorem dX7_add_9 : decode cX7_add 9 = .ok (.getfield 171, 3) := by decide +kernel
theorem dX7_add_12 : decode cX7_add 12 = .ok (.iastore, 1) := by decide +kernel
theorem dX7_add_13 : decode cX7_add 13 = .ok (.aload_n 0, 1) := by decide +kernel
theorem dX7_add_14 : decode cX7_add 14 = .ok (.getfield 47, 3) := by decide +kernel
theorem dX7_add_17 : decode cX7_add 17 = .ok (.aload_n 0, 1) := by decide +kernel
theorem dX7_add_18 : decode cX7_add 18 = .ok (.getfield 121, 3) := by decide +kernel
theorem dX7_add_21 : decode cX7_add 21 = .ok (.iload_n 1, 1) := by decide +kernel
theorem dX7_add_22 : decode cX7_add 22 = .ok (.iastore, 1) := by decide +kernel
theorem dX7_add_23 : decode cX7_add 23 = .ok (.aload_n 0, 1) := by decide +kernel
theorem dX7_add_24 : decode cX7_add 24 = .ok (.getfield 50, 3) := by decide +kernel
theorem dX7_add_27 : decode cX7_add 27 = .ok (.aload_n 0, 1) := by decide +kernel
theorem dX7_add_28 : decode cX7_add 28 = .ok (.getfield 121, 3) := by decide +kernel
theorem dX7_add_31 : decode cX7_add 31 = .ok (.iconst 0, 1) := by decide +kernel
theorem dX7_add_32 : decode cX7_add 32 = .ok (.iastore, 1) := by decide +kernel
theorem dX7_add_33 : decode cX7_add 33 = .ok (.aload_n 0, 1) := by decide +kernel
theorem dX7_add_34 : decode cX7_add 34 = .ok (.getfield 53, 3) := by decide +kernel
theorem dX7_add_37 : decode cX7_add 37 = .ok (.aload_n 0, 1) := by decide +kernel
theorem dX7_add_38 : decode cX7_add 38 = .ok (.getfield 121, 3) := by decide +kernel
theorem dX7_add_41 : decode cX7_add 41 = .ok (.iload_n 2, 1) := by decide +kernel
theorem dX7_add_42 : decode cX7_add 42 = .ok (.iastore, 1) := by decide +kernel
theorem dX7_add_43 : decode cX7_add 43 = .ok (.aload_n 0, 1) := by decide +kernel
theorem dX7_add_44 : decode cX7_add 44 = .ok (.getfield 56, 3) := by decide +kernel
theorem dX7_add_47 : decode cX7_add 47 = .ok (.aload_n 0, 1) := by decide +kernel
theorem dX7_add_48 : decode cX7_add 48 = .ok (.getfield 121, 3) := by decide +kernel
theorem dX7_add_51 : decode cX7_add 51 = .ok (.iload_n 3, 1) := by decide +kernel
theorem dX7_add_52 : decode cX7_add 52 = .ok (.iastore, 1) := by decide +kernel
theorem dX7_add_53 : decode cX7_add 53 = .ok (.aload_n 0, 1) := by decide +kernel
theorem dX7_add_54 : decode cX7_add 54 = .ok (.dup, 1) := by decide +kernel
theorem dX7_add_55 : decode cX7_add 55 = .ok (.getfield 121, 3) := by decide +kernel
theorem dX7_add_58 : decode cX7_add 58 = .ok (.iconst 1, 1) := by decide +kernel
theorem dX7_add_59 : decode cX7_add 59 = .ok (.iadd, 1) := by decide +kernel
theorem dX7_add_60 : decode cX7_add 60 = .ok (.putfield 121, 3) := by decide +kernel
theorem dX7_add_63 : decode cX7_add 63 = .ok (.aload_n 0, 1) := by decide +kernel
theorem dX7_add_64 : decode cX7_add 64 = .ok (.dup, 1) := by decide +kernel
theorem dX7_add_65 : decode cX7_add 65 = .ok (.getfield 171, 3) := by decide +kernel
theorem dX7_add_68 : decode cX7_add 68 = .ok (.iconst 1, 1) := by decide +kernel
theorem dX7_add_69 : decode cX7_add 69 = .ok (.iadd, 1) := by decide +kernel
theorem dX7_add_70 : decode cX7_add 70 = .ok (.putfield 171, 3) := by decide +kernel
theorem dX7_add_73 : decode cX7_add 73 = .ok (.aload_n 0, 1) := by decide +kernel
theorem dX7_add_74 : decode cX7_add 74 = .ok (.getfield 171, 3) := by decide +kernel
theorem dX7_add_77 : decode cX7_add 77 = .ok (.iconst 1, 1) := by decide +kernel
theorem dX7_add_78 : decode cX7_add 78 = .ok (.isub, 1) := by decide +kernel
theorem dX7_add_79 : decode cX7_add 79 = .ok (.ireturn, 1) := by decide +kernel
theorem dX7_append_0 : decode cX7_append 0 = .ok (.aload_n 0, 1) := by decide +kernel
theorem dX7_append_1 : decode cX7_append 1 = .ok (.getfield 35, 3) := by decide +kernel
theorem dX7_append_4 : decode cX7_append 4 = .ok (.iload_n 1, 1) := by decide +kernel
theorem dX7_append_5 : decode cX7_append 5 = .ok (.iaload, 1) := by decide +kernel
theorem dX7_append_6 : decode cX7_append 6 = .ok (.istore_n 3, 1) := by decide +kernel
theorem dX7_append_7 : decode cX7_append 7 = .ok (.iload_n 3, 1) := by decide +kernel
theorem dX7_append_8 : decode cX7_append 8 = .ok (.iconst 4, 1) := by decide +kernel
theorem dX7_append_9 : decode cX7_append 9 = .ok (.irem, 1) := by decide +kernel
theorem dX7_append_10 : decode cX7_append 10 = .ok (.ifCond .ne 60, 3) := by decide +kernel
theorem dX7_append_13 : decode cX7_append 13 = .ok (.aload_n 0, 1) := by decide +kernel
theorem dX7_append_14 : decode cX7_append 14 = .ok (.invokevirtual 103, 3) := by decide +kernel
theorem dX7_append_17 : decode cX7_append 17 = .ok (.istore 4, 2) := by decide +kernel
theorem dX7_append_19 : decode cX7_append 19 = .ok (.aload_n 0, 1) := by decide +kernel
theorem dX7_append_20 : decode cX7_append 20 = .ok (.getfield 16, 3) := by decide +kernel
theorem dX7_append_23 : decode cX7_append 23 = .ok (.iload 4, 2) := by decide +kernel
theorem dX7_append_25 : decode cX7_append 25 = .ok (.iconst (-1), 1) := by decide +kernel
theorem dX7_append_26 : decode cX7_append 26 = .ok (.iastore, 1) := by decide +kernel
theorem dX7_append_27 : decode cX7_append 27 = .ok (.iload_n 3, 1) := by decide +kernel
theorem dX7_append_28 : decode cX7_append 28 = .ok (.ifCond .ne 14, 3) := by decide +kernel
theorem dX7_append_31 : decode cX7_append 31 = .ok (.aload_n 0, 1) := by decide +kernel
theorem dX7_append_32 : decode cX7_append 32 = .ok (.getfield 32, 3) := by decide +kernel
theorem dX7_append_35 : decode cX7_append 35 = .ok (.iload_n 1, 1) := by decide +kernel
theorem dX7_append_36 : decode cX7_append 36 = .ok (.iload 4, 2) := by decide +kernel
theorem dX7_append_38 : decode cX7_append 38 = .ok (.iastore, 1) := by decide +kernel
theorem dX7_append_39 : decode cX7_append 39 = .ok (.goto 20, 3) := by decide +kernel
theorem dX7_append_42 : decode cX7_append 42 = .ok (.aload_n 0, 1) := by decide +kernel
theorem dX7_append_43 : decode cX7_append 43 = .ok (.getfield 16, 3) := by decide +kernel
theorem dX7_append_46 : decode cX7_append 46 = .ok (.aload_n 0, 1) := by decide +kernel
theorem dX7_append_47 : decode cX7_append 47 = .ok (.iload_n 1, 1) := by decide +kernel
theorem dX7_append_48 : decode cX7_append 48 = .ok (.iload_n 3, 1) := by decide +kernel
theorem dX7_append_49 : decode cX7_append 49 = .ok (.iconst 1, 1) := by decide +kernel
theorem dX7_append_50 : decode cX7_append 50 = .ok (.isub, 1) := by decide +kernel
theorem dX7_append_51 : decode cX7_append 51 = .ok (.invokevirtual 107, 3) := by decide +kernel
theorem dX7_append_54 : decode cX7_append 54 = .ok (.iconst 4, 1) := by decide +kernel
theorem dX7_append_55 : decode cX7_append 55 = .ok (.idiv, 1) := by decide +kernel
theorem dX7_append_56 : decode cX7_append 56 = .ok (.iload 4, 2) := by decide +kernel
theorem dX7_append_58 : decode cX7_append 58 = .ok (.iastore, 1) := by decide +kernel
theorem dX7_append_59 : decode cX7_append 59 = .ok (.aload_n 0, 1) := by decide +kernel
theorem dX7_append_60 : decode cX7_append 60 = .ok (.getfield 13, 3) := by decide +kernel
theorem dX7_append_63 : decode cX7_append 63 = .ok (.iload 4, 2) := by decide +kernel
theorem dX7_append_65 : decode cX7_append 65 = .ok (.iconst 1, 1) := by decide +kernel
theorem dX7_append_66 : decode cX7_append 66 = .ok (.iastore, 1) := by decide +kernel
theorem dX7_append_67 : decode cX7_append 67 = .ok (.goto 22, 3) := by decide +kernel
theorem dX7_append_70 : decode cX7_append 70 = .ok (.aload_n 0, 1) := by decide +kernel
theorem dX7_append_71 : decode cX7_append 71 = .ok (.getfield 13, 3) := by decide +kernel
theorem dX7_append_74 : decode cX7_append 74 = .ok (.aload_n 0, 1) := by decide +kernel
theorem dX7_append_75 : decode cX7_append 75 = .ok (.iload_n 1, 1) := by decide +kernel
theorem dX7_append_76 : decode cX7_append 76 = .ok (.iload_n 3, 1) := by decide +kernel
theorem dX7_append_77 : decode cX7_append 77 = .ok (.iconst 1, 1) := by decide +kernel
theorem dX7_append_78 : decode cX7_append 78 = .ok (.isub, 1) := by decide +kernel
theorem dX7_append_79 : decode cX7_append 79 = .ok (.invokevirtual 107, 3) := by decide +kernel
theorem dX7_append_82 : decode cX7_append 82 = .ok (.iconst 4, 1) := by decide +kernel
theorem dX7_append_83 : decode cX7_append 83 = .ok (.idiv, 1) := by decide +kernel
theorem dX7_append_84 : decode cX7_append 84 = .ok (.dup2, 1) := by decide +kernel
theorem dX7_append_85 : decode cX7_append 85 = .ok (.iaload, 1) := by decide +kernel
theorem dX7_append_86 : decode cX7_append 86 = .ok (.iconst 1, 1) := by decide +kernel
theorem dX7_append_87 : decode cX7_append 87 = .ok (.iadd, 1) := by decide +kernel
theorem dX7_append_88 : decode cX7_append 88 = .ok (.iastore, 1) := by decide +kernel
theorem dX7_append_89 : decode cX7_append 89 = .ok (.aload_n 0, 1) := by decide +kernel
theorem dX7_append_90 : decode cX7_append 90 = .ok (.getfield 35, 3) := by decide +kernel
theorem dX7_append_93 : decode cX7_append 93 = .ok (.iload_n 1, 1) := by decide +kernel
theorem dX7_append_94 : decode cX7_append 94 = .ok (.dup2, 1) := by decide +kernel
theorem dX7_append_95 : decode cX7_append 95 = .ok (.iaload, 1) := by decide +kernel
theorem dX7_append_96 : decode cX7_append 96 = .ok (.iconst 1, 1) := by decide +kernel
theorem dX7_append_97 : decode cX7_append 97 = .ok (.iadd, 1) := by decide +kernel
theorem dX7_append_98 : decode cX7_append 98 = .ok (.iastore, 1) := by decide +kernel
theorem dX7_append_99 : decode cX7_append 99 = .ok (.aload_n 0, 1) := by decide +kernel
theorem dX7_append_100 : decode cX7_append 100 = .ok (.iload_n 1, 1) := by decide +kernel
theorem dX7_append_101 : decode cX7_append 101 = .ok (.iload_n 3, 1) := by decide +kernel
theorem dX7_append_102 : decode cX7_append 102 = .ok (.invokevirtual 107, 3) := by decide +kernel
theorem dX7_append_105 : decode cX7_append 105 = .ok (.istore 4, 2) := by decide +kernel
theorem dX7_append_107 : decode cX7_append 107 = .ok (.aload_n 0, 1) := by decide +kernel
theorem dX7_append_108 : decode cX7_append 108 = .ok (.getfield 19, 3) := by decide +kernel
theorem dX7_append_111 : decode cX7_append 111 = .ok (.iload 4, 2) := by decide +kernel
theorem dX7_append_113 : decode cX7_append 113 = .ok (.iconst 0, 1) := by decide +kernel
theorem dX7_append_114 : decode cX7_append 114 = .ok (.iastore, 1) := by decide +kernel
theorem dX7_append_115 : decode cX7_append 115 = .ok (.aload_n 0, 1) := by decide +kernel
theorem dX7_append_116 : decode cX7_append 116 = .ok (.getfield 22, 3) := by decide +kernel
theorem dX7_append_119 : decode cX7_append 119 = .ok (.iload 4, 2) := by decide +kernel
theorem dX7_append_121 : decode cX7_append 121 = .ok (.iload_n 2, 1) := by decide +kernel
theorem dX7_append_122 : decode cX7_append 122 = .ok (.iastore, 1) := by decide +kernel
theorem dX7_append_123 : decode cX7_append 123 = .ok (.return_, 1) := by decide +kernel
theorem dX7_block_0 : decode cX7_block 0 = .ok (.aload_n 0, 1) := by decide +kernel
theorem dX7_block_1 : decode cX7_block 1 = .ok (.iload_n 1, 1) := by decide +kernel
theorem dX7_block_2 : decode cX7_block 2 = .ok (.ifCond .lt 13, 3) := by decide +kernel
theorem dX7_block_5 : decode cX7_block 5 = .ok (.iload_n 1, 1) := by decide +kernel
theorem dX7_block_6 : decode cX7_block 6 = .ok (.bipush 40, 2) := by decide +kernel
theorem dX7_block_8 : decode cX7_block 8 = .ok (.if_icmp .ge 7, 3) := by decide +kernel
theorem dX7_block_11 : decode cX7_block 11 = .ok (.iconst 0, 1) := by decide +kernel
theorem dX7_block_12 : decode cX7_block 12 = .ok (.goto 4, 3) := by decide +kernel
theorem dX7_block_15 : decode cX7_block 15 = .ok (.iconst 1, 1) := by decide +kernel
theorem dX7_block_16 : decode cX7_block 16 = .ok (.putfield 89, 3) := by decide +kernel
theorem dX7_block_19 : decode cX7_block 19 = .ok (.aload_n 0, 1) := by decide +kernel
theorem dX7_block_20 : decode cX7_block 20 = .ok (.getfield 89, 3) := by decide +kernel
theorem dX7_block_23 : decode cX7_block 23 = .ok (.ifCond .le 7, 3) := by decide +kernel
theorem dX7_block_26 : decode cX7_block 26 = .ok (.iconst 0, 1) := by decide +kernel
theorem dX7_block_27 : decode cX7_block 27 = .ok (.goto 9, 3) := by decide +kernel
theorem dX7_block_30 : decode cX7_block 30 = .ok (.aload_n 0, 1) := by decide +kernel
theorem dX7_block_31 : decode cX7_block 31 = .ok (.getfield 13, 3) := by decide +kernel
theorem dX7_block_34 : decode cX7_block 34 = .ok (.iload_n 1, 1) := by decide +kernel
theorem dX7_block_35 : decode cX7_block 35 = .ok (.iaload, 1) := by decide +kernel
theorem dX7_block_36 : decode cX7_block 36 = .ok (.ireturn, 1) := by decide +kernel
theorem dX7_box_0 : decode cX7_box 0 = .ok (.aload_n 0, 1) := by decide +kernel
theorem dX7_box_1 : decode cX7_box 1 = .ok (.iload_n 1, 1) := by decide +kernel
theorem dX7_box_2 : decode cX7_box 2 = .ok (.ifCond .lt 10, 3) := by decide +kernel
theorem dX7_box_5 : decode cX7_box 5 = .ok (.iload_n 1, 1) := by decide +kernel
theorem dX7_box_6 : decode cX7_box 6 = .ok (.sipush 500, 3) := by decide +kernel
theorem dX7_box_9 : decode cX7_box 9 = .ok (.if_icmp .le 7, 3) := by decide +kernel
theorem dX7_box_12 : decode cX7_box 12 = .ok (.iconst 1, 1) := by decide +kernel
theorem dX7_box_13 : decode cX7_box 13 = .ok (.goto 16, 3) := by decide +kernel
theorem dX7_box_16 : decode cX7_box 16 = .ok (.aload_n 0, 1) := by decide +kernel
theorem dX7_box_17 : decode cX7_box 17 = .ok (.getfield 118, 3) := by decide +kernel
theorem dX7_box_20 : decode cX7_box 20 = .ok (.iconst 4, 1) := by decide +kernel
theorem dX7_box_21 : decode cX7_box 21 = .ok (.if_icmp .ne 7, 3) := by decide +kernel
theorem dX7_box_24 : decode cX7_box 24 = .ok (.iconst 2, 1) := by decide +kernel
theorem dX7_box_25 : decode cX7_box 25 = .ok (.goto 4, 3) := by decide +kernel
theorem dX7_box_28 : decode cX7_box 28 = .ok (.iconst 0, 1) := by decide +kernel
theorem dX7_box_29 : decode cX7_box 29 = .ok (.putfield 89, 3) := by decide +kernel
theorem dX7_box_32 : decode cX7_box 32 = .ok (.aload_n 0, 1) := by decide +kernel
theorem dX7_box_33 : decode cX7_box 33 = .ok (.getfield 89, 3) := by decide +kernel
theorem dX7_box_36 : decode cX7_box 36 = .ok (.ifCond .le 5, 3) := by decide +kernel
theorem dX7_box_39 : decode cX7_box 39 = .ok (.iconst 0, 1) := by decide +kernel
theorem dX7_box_40 : decode cX7_box 40 = .ok (.ireturn, 1) := by decide +kernel
theorem dX7_box_41 : decode cX7_box 41 = .ok (.aload_n 0, 1) := by decide +kernel
theorem dX7_box_42 : decode cX7_box 42 = .ok (.getfield 38, 3) := by decide +kernel
theorem dX7_box_45 : decode cX7_box 45 = .ok (.aload_n 0, 1) := by decide +kernel
theorem dX7_box_46 : decode cX7_box 46 = .ok (.getfield 118, 3) := by decide +kernel
theorem dX7_box_49 : decode cX7_box 49 = .ok (.iload_n 1, 1) := by decide +kernel
theorem dX7_box_50 : decode cX7_box 50 = .ok (.iastore, 1) := by decide +kernel
theorem dX7_box_51 : decode cX7_box 51 = .ok (.aload_n 0, 1) := by decide +kernel
theorem dX7_box_52 : decode cX7_box 52 = .ok (.dup, 1) := by decide +kernel
theorem dX7_box_53 : decode cX7_box 53 = .ok (.getfield 118, 3) := by decide +kernel
theorem dX7_box_56 : decode cX7_box 56 = .ok (.iconst 1, 1) := by decide +kernel
theorem dX7_box_57 : decode cX7_box 57 = .ok (.iadd, 1) := by decide +kernel
theorem dX7_box_58 : decode cX7_box 58 = .ok (.putfield 118, 3) := by decide +kernel
theorem dX7_box_61 : decode cX7_box 61 = .ok (.aload_n 0, 1) := by decide +kernel
theorem dX7_box_62 : decode cX7_box 62 = .ok (.getfield 118, 3) := by decide +kernel
theorem dX7_box_65 : decode cX7_box 65 = .ok (.iconst 1, 1) := by decide +kernel
theorem dX7_box_66 : decode cX7_box 66 = .ok (.isub, 1) := by decide +kernel
theorem dX7_box_67 : decode cX7_box 67 = .ok (.ireturn, 1) := by decide +kernel
theorem dX7_call_0 : decode cX7_call 0 = .ok (.iload_n 1, 1) := by decide +kernel
theorem dX7_call_1 : decode cX7_call 1 = .ok (.invokestatic 127, 3) := by decide +kernel
theorem dX7_call_4 : decode cX7_call 4 = .ok (.ifCond .eq 16, 3) := by decide +kernel
theorem dX7_call_7 : decode cX7_call 7 = .ok (.iload_n 3, 1) := by decide +kernel
theorem dX7_call_8 : decode cX7_call 8 = .ok (.ifCond .lt 12, 3) := by decide +kernel
theorem dX7_call_11 : decode cX7_call 11 = .ok (.iload_n 3, 1) := by decide +kernel
theorem dX7_call_12 : decode cX7_call 12 = .ok (.iconst 3, 1) := by decide +kernel
theorem dX7_call_13 : decode cX7_call 13 = .ok (.if_icmp .gt 7, 3) := by decide +kernel
theorem dX7_call_16 : decode cX7_call 16 = .ok (.iconst 1, 1) := by decide +kernel
theorem dX7_call_17 : decode cX7_call 17 = .ok (.goto 4, 3) := by decide +kernel
theorem dX7_call_20 : decode cX7_call 20 = .ok (.iconst 0, 1) := by decide +kernel
theorem dX7_call_21 : decode cX7_call 21 = .ok (.istore 4, 2) := by decide +kernel
theorem dX7_call_23 : decode cX7_call 23 = .ok (.aload_n 0, 1) := by decide +kernel
theorem dX7_call_24 : decode cX7_call 24 = .ok (.aload_n 0, 1) := by decide +kernel
theorem dX7_call_25 : decode cX7_call 25 = .ok (.iload_n 2, 1) := by decide +kernel
theorem dX7_call_26 : decode cX7_call 26 = .ok (.invokevirtual 131, 3) := by decide +kernel
theorem dX7_call_29 : decode cX7_call 29 = .ok (.ifCond .ne 7, 3) := by decide +kernel
theorem dX7_call_32 : decode cX7_call 32 = .ok (.iconst 1, 1) := by decide +kernel
theorem dX7_call_33 : decode cX7_call 33 = .ok (.goto 37, 3) := by decide +kernel
theorem dX7_call_36 : decode cX7_call 36 = .ok (.iload 4, 2) := by decide +kernel
theorem dX7_call_38 : decode cX7_call 38 = .ok (.ifCond .ne 7, 3) := by decide +kernel
theorem dX7_call_41 : decode cX7_call 41 = .ok (.iconst 2, 1) := by decide +kernel
theorem dX7_call_42 : decode cX7_call 42 = .ok (.goto 28, 3) := by decide +kernel
theorem dX7_call_45 : decode cX7_call 45 = .ok (.aload_n 0, 1) := by decide +kernel
theorem dX7_call_46 : decode cX7_call 46 = .ok (.getfield 59, 3) := by decide +kernel
theorem dX7_call_49 : decode cX7_call 49 = .ok (.iload_n 1, 1) := by decide +kernel
theorem dX7_call_50 : decode cX7_call 50 = .ok (.baload, 1) := by decide +kernel
theorem dX7_call_51 : decode cX7_call 51 = .ok (.ifCond .ne 14, 3) := by decide +kernel
theorem dX7_call_54 : decode cX7_call 54 = .ok (.iload_n 3, 1) := by decide +kernel
theorem dX7_call_55 : decode cX7_call 55 = .ok (.ifCond .ne 14, 3) := by decide +kernel
theorem dX7_call_58 : decode cX7_call 58 = .ok (.aload_n 0, 1) := by decide +kernel
theorem dX7_call_59 : decode cX7_call 59 = .ok (.invokevirtual 134, 3) := by decide +kernel
theorem dX7_call_62 : decode cX7_call 62 = .ok (.ifCond .eq 7, 3) := by decide +kernel
theorem dX7_call_65 : decode cX7_call 65 = .ok (.iconst 3, 1) := by decide +kernel
theorem dX7_call_66 : decode cX7_call 66 = .ok (.goto 4, 3) := by decide +kernel
theorem dX7_call_69 : decode cX7_call 69 = .ok (.iconst 0, 1) := by decide +kernel
theorem dX7_call_70 : decode cX7_call 70 = .ok (.putfield 89, 3) := by decide +kernel
theorem dX7_call_73 : decode cX7_call 73 = .ok (.aload_n 0, 1) := by decide +kernel
theorem dX7_call_74 : decode cX7_call 74 = .ok (.getfield 89, 3) := by decide +kernel
theorem dX7_call_77 : decode cX7_call 77 = .ok (.ifCond .le 4, 3) := by decide +kernel
theorem dX7_call_80 : decode cX7_call 80 = .ok (.return_, 1) := by decide +kernel
theorem dX7_call_81 : decode cX7_call 81 = .ok (.iconst 0, 1) := by decide +kernel
theorem dX7_call_82 : decode cX7_call 82 = .ok (.istore 5, 2) := by decide +kernel
theorem dX7_call_84 : decode cX7_call 84 = .ok (.aload_n 0, 1) := by decide +kernel
theorem dX7_call_85 : decode cX7_call 85 = .ok (.getfield 25, 3) := by decide +kernel
theorem dX7_call_88 : decode cX7_call 88 = .ok (.iload 5, 2) := by decide +kernel
theorem dX7_call_90 : decode cX7_call 90 = .ok (.iaload, 1) := by decide +kernel
theorem dX7_call_91 : decode cX7_call 91 = .ok (.ifCond .gt 13, 3) := by decide +kernel
theorem dX7_call_94 : decode cX7_call 94 = .ok (.aload_n 0, 1) := by decide +kernel
theorem dX7_call_95 : decode cX7_call 95 = .ok (.getfield 28, 3) := by decide +kernel
theorem dX7_call_98 : decode cX7_call 98 = .ok (.iload 5, 2) := by decide +kernel
theorem dX7_call_100 : decode cX7_call 100 = .ok (.baload, 1) := by decide +kernel
theorem dX7_call_101 : decode cX7_call 101 = .ok (.ifCond .eq 9, 3) := by decide +kernel
theorem dX7_call_104 : decode cX7_call 104 = .ok (.iinc 5 1, 3) := by decide +kernel
theorem dX7_call_107 : decode cX7_call 107 = .ok (.goto (-23), 3) := by decide +kernel
theorem dX7_call_110 : decode cX7_call 110 = .ok (.aload_n 0, 1) := by decide +kernel
theorem dX7_call_111 : decode cX7_call 111 = .ok (.getfield 28, 3) := by decide +kernel
theorem dX7_call_114 : decode cX7_call 114 = .ok (.iload 5, 2) := by decide +kernel
theorem dX7_call_116 : decode cX7_call 116 = .ok (.iconst 1, 1) := by decide +kernel
theorem dX7_call_117 : decode cX7_call 117 = .ok (.bastore, 1) := by decide +kernel
theorem dX7_call_118 : decode cX7_call 118 = .ok (.aload_n 0, 1) := by decide +kernel
theorem dX7_call_119 : decode cX7_call 119 = .ok (.getfield 35, 3) := by decide +kernel
theorem dX7_call_122 : decode cX7_call 122 = .ok (.iload 5, 2) := by decide +kernel
theorem dX7_call_124 : decode cX7_call 124 = .ok (.iconst 0, 1) := by decide +kernel
theorem dX7_call_125 : decode cX7_call 125 = .ok (.iastore, 1) := by decide +kernel
theorem dX7_call_126 : decode cX7_call 126 = .ok (.aload_n 0, 1) := by decide +kernel
theorem dX7_call_127 : decode cX7_call 127 = .ok (.getfield 59, 3) := by decide +kernel
theorem dX7_call_130 : decode cX7_call 130 = .ok (.iload_n 1, 1) := by decide +kernel
theorem dX7_call_131 : decode cX7_call 131 = .ok (.iconst 1, 1) := by decide +kernel
theorem dX7_call_132 : decode cX7_call 132 = .ok (.bastore, 1) := by decide +kernel
theorem dX7_call_133 : decode cX7_call 133 = .ok (.aload_n 0, 1) := by decide +kernel
theorem dX7_call_134 : decode cX7_call 134 = .ok (.getfield 62, 3) := by decide +kernel
theorem dX7_call_137 : decode cX7_call 137 = .ok (.iload_n 1, 1) := by decide +kernel
theorem dX7_call_138 : decode cX7_call 138 = .ok (.iload_n 2, 1) := by decide +kernel
theorem dX7_call_139 : decode cX7_call 139 = .ok (.iastore, 1) := by decide +kernel
theorem dX7_call_140 : decode cX7_call 140 = .ok (.aload_n 0, 1) := by decide +kernel
theorem dX7_call_141 : decode cX7_call 141 = .ok (.getfield 65, 3) := by decide +kernel
theorem dX7_call_144 : decode cX7_call 144 = .ok (.iload_n 1, 1) := by decide +kernel
theorem dX7_call_145 : decode cX7_call 145 = .ok (.iload_n 3, 1) := by decide +kernel
theorem dX7_call_146 : decode cX7_call 146 = .ok (.iastore, 1) := by decide +kernel
theorem dX7_call_147 : decode cX7_call 147 = .ok (.aload_n 0, 1) := by decide +kernel
theorem dX7_call_148 : decode cX7_call 148 = .ok (.getfield 68, 3) := by decide +kernel
theorem dX7_call_151 : decode cX7_call 151 = .ok (.iload_n 1, 1) := by decide +kernel
theorem dX7_call_152 : decode cX7_call 152 = .ok (.iload 5, 2) := by decide +kernel
theorem dX7_call_154 : decode cX7_call 154 = .ok (.iastore, 1) := by decide +kernel
theorem dX7_call_155 : decode cX7_call 155 = .ok (.aload_n 0, 1) := by decide +kernel
theorem dX7_call_156 : decode cX7_call 156 = .ok (.getfield 71, 3) := by decide +kernel
theorem dX7_call_159 : decode cX7_call 159 = .ok (.iload_n 1, 1) := by decide +kernel
theorem dX7_call_160 : decode cX7_call 160 = .ok (.iconst 0, 1) := by decide +kernel
theorem dX7_call_161 : decode cX7_call 161 = .ok (.bastore, 1) := by decide +kernel
theorem dX7_call_162 : decode cX7_call 162 = .ok (.aload_n 0, 1) := by decide +kernel
theorem dX7_call_163 : decode cX7_call 163 = .ok (.getfield 74, 3) := by decide +kernel
theorem dX7_call_166 : decode cX7_call 166 = .ok (.iload_n 1, 1) := by decide +kernel
theorem dX7_call_167 : decode cX7_call 167 = .ok (.iconst 0, 1) := by decide +kernel
theorem dX7_call_168 : decode cX7_call 168 = .ok (.iastore, 1) := by decide +kernel
theorem dX7_call_169 : decode cX7_call 169 = .ok (.aload_n 0, 1) := by decide +kernel
theorem dX7_call_170 : decode cX7_call 170 = .ok (.getfield 80, 3) := by decide +kernel
theorem dX7_call_173 : decode cX7_call 173 = .ok (.iload_n 1, 1) := by decide +kernel
theorem dX7_call_174 : decode cX7_call 174 = .ok (.iconst 0, 1) := by decide +kernel
theorem dX7_call_175 : decode cX7_call 175 = .ok (.iastore, 1) := by decide +kernel
theorem dX7_call_176 : decode cX7_call 176 = .ok (.aload_n 0, 1) := by decide +kernel
theorem dX7_call_177 : decode cX7_call 177 = .ok (.getfield 83, 3) := by decide +kernel
theorem dX7_call_180 : decode cX7_call 180 = .ok (.iload_n 1, 1) := by decide +kernel
theorem dX7_call_181 : decode cX7_call 181 = .ok (.iconst 0, 1) := by decide +kernel
theorem dX7_call_182 : decode cX7_call 182 = .ok (.iastore, 1) := by decide +kernel
theorem dX7_call_183 : decode cX7_call 183 = .ok (.aload_n 0, 1) := by decide +kernel
theorem dX7_call_184 : decode cX7_call 184 = .ok (.getfield 86, 3) := by decide +kernel
theorem dX7_call_187 : decode cX7_call 187 = .ok (.iload_n 1, 1) := by decide +kernel
theorem dX7_call_188 : decode cX7_call 188 = .ok (.iconst 0, 1) := by decide +kernel
theorem dX7_call_189 : decode cX7_call 189 = .ok (.iastore, 1) := by decide +kernel
theorem dX7_call_190 : decode cX7_call 190 = .ok (.return_, 1) := by decide +kernel
theorem dX7_code_0 : decode cX7_code 0 = .ok (.aload_n 0, 1) := by decide +kernel
theorem dX7_code_1 : decode cX7_code 1 = .ok (.getfield 7, 3) := by decide +kernel
theorem dX7_code_4 : decode cX7_code 4 = .ok (.aload_n 0, 1) := by decide +kernel
theorem dX7_code_5 : decode cX7_code 5 = .ok (.getfield 93, 3) := by decide +kernel
theorem dX7_code_8 : decode cX7_code 8 = .ok (.iaload, 1) := by decide +kernel
theorem dX7_code_9 : decode cX7_code 9 = .ok (.istore_n 2, 1) := by decide +kernel
theorem dX7_code_10 : decode cX7_code 10 = .ok (.iload_n 1, 1) := by decide +kernel
theorem dX7_code_11 : decode cX7_code 11 = .ok (.aload_n 0, 1) := by decide +kernel
theorem dX7_code_12 : decode cX7_code 12 = .ok (.getfield 96, 3) := by decide +kernel
theorem dX7_code_15 : decode cX7_code 15 = .ok (.isub, 1) := by decide +kernel
theorem dX7_code_16 : decode cX7_code 16 = .ok (.istore_n 3, 1) := by decide +kernel
theorem dX7_code_17 : decode cX7_code 17 = .ok (.iload_n 3, 1) := by decide +kernel
theorem dX7_code_18 : decode cX7_code 18 = .ok (.ifCond .ge 8, 3) := by decide +kernel
theorem dX7_code_21 : decode cX7_code 21 = .ok (.bipush 8, 2) := by decide +kernel
theorem dX7_code_23 : decode cX7_code 23 = .ok (.goto 4, 3) := by decide +kernel
theorem dX7_code_26 : decode cX7_code 26 = .ok (.iconst 0, 1) := by decide +kernel
theorem dX7_code_27 : decode cX7_code 27 = .ok (.istore 4, 2) := by decide +kernel
theorem dX7_code_29 : decode cX7_code 29 = .ok (.iload_n 3, 1) := by decide +kernel
theorem dX7_code_30 : decode cX7_code 30 = .ok (.ifCond .ge 8, 3) := by decide +kernel
theorem dX7_code_33 : decode cX7_code 33 = .ok (.iload_n 3, 1) := by decide +kernel
theorem dX7_code_34 : decode cX7_code 34 = .ok (.ineg, 1) := by decide +kernel
theorem dX7_code_35 : decode cX7_code 35 = .ok (.goto 4, 3) := by decide +kernel
theorem dX7_code_38 : decode cX7_code 38 = .ok (.iload_n 3, 1) := by decide +kernel
theorem dX7_code_39 : decode cX7_code 39 = .ok (.istore_n 3, 1) := by decide +kernel
theorem dX7_code_40 : decode cX7_code 40 = .ok (.iconst 0, 1) := by decide +kernel
theorem dX7_code_41 : decode cX7_code 41 = .ok (.istore 5, 2) := by decide +kernel
theorem dX7_code_43 : decode cX7_code 43 = .ok (.iload 5, 2) := by decide +kernel
theorem dX7_code_45 : decode cX7_code 45 = .ok (.iconst 3, 1) := by decide +kernel
theorem dX7_code_46 : decode cX7_code 46 = .ok (.if_icmp .ge 35, 3) := by decide +kernel
theorem dX7_code_49 : decode cX7_code 49 = .ok (.iload_n 2, 1) := by decide +kernel
theorem dX7_code_50 : decode cX7_code 50 = .ok (.iload 5, 2) := by decide +kernel
theorem dX7_code_52 : decode cX7_code 52 = .ok (.ishr, 1) := by decide +kernel
theorem dX7_code_53 : decode cX7_code 53 = .ok (.istore 6, 2) := by decide +kernel
theorem dX7_code_55 : decode cX7_code 55 = .ok (.iload_n 3, 1) := by decide +kernel
theorem dX7_code_56 : decode cX7_code 56 = .ok (.iload 6, 2) := by decide +kernel
theorem dX7_code_58 : decode cX7_code 58 = .ok (.if_icmp .lt 17, 3) := by decide +kernel
theorem dX7_code_61 : decode cX7_code 61 = .ok (.iload 4, 2) := by decide +kernel
theorem dX7_code_63 : decode cX7_code 63 = .ok (.iconst 4, 1) := by decide +kernel
theorem dX7_code_64 : decode cX7_code 64 = .ok (.iload 5, 2) := by decide +kernel
theorem dX7_code_66 : decode cX7_code 66 = .ok (.ishr, 1) := by decide +kernel
theorem dX7_code_67 : decode cX7_code 67 = .ok (.ior, 1) := by decide +kernel
theorem dX7_code_68 : decode cX7_code 68 = .ok (.istore 4, 2) := by decide +kernel
theorem dX7_code_70 : decode cX7_code 70 = .ok (.iload_n 3, 1) := by decide +kernel
theorem dX7_code_71 : decode cX7_code 71 = .ok (.iload 6, 2) := by decide +kernel
theorem dX7_code_73 : decode cX7_code 73 = .ok (.isub, 1) := by decide +kernel
theorem dX7_code_74 : decode cX7_code 74 = .ok (.istore_n 3, 1) := by decide +kernel
theorem dX7_code_75 : decode cX7_code 75 = .ok (.iinc 5 1, 3) := by decide +kernel
theorem dX7_code_78 : decode cX7_code 78 = .ok (.goto (-35), 3) := by decide +kernel
theorem dX7_code_81 : decode cX7_code 81 = .ok (.aload_n 0, 1) := by decide +kernel
theorem dX7_code_82 : decode cX7_code 82 = .ok (.iload 4, 2) := by decide +kernel
theorem dX7_code_84 : decode cX7_code 84 = .ok (.invokevirtual 99, 3) := by decide +kernel
theorem dX7_code_87 : decode cX7_code 87 = .ok (.iload 4, 2) := by decide +kernel
theorem dX7_code_89 : decode cX7_code 89 = .ok (.ireturn, 1) := by decide +kernel
theorem dX7_codeFrame_0 : decode cX7_codeFrame 0 = .ok (.aload_n 0, 1) := by decide +kernel
theorem dX7_codeFrame_1 : decode cX7_codeFrame 1 = .ok (.getfield 68, 3) := by decide +kernel
theorem dX7_codeFrame_4 : decode cX7_codeFrame 4 = .ok (.iload_n 1, 1) := by decide +kernel
theorem dX7_codeFrame_5 : decode cX7_codeFrame 5 = .ok (.iaload, 1) := by decide +kernel
theorem dX7_codeFrame_6 : decode cX7_codeFrame 6 = .ok (.istore_n 2, 1) := by decide +kernel
theorem dX7_codeFrame_7 : decode cX7_codeFrame 7 = .ok (.aload_n 0, 1) := by decide +kernel
theorem dX7_codeFrame_8 : decode cX7_codeFrame 8 = .ok (.getfield 35, 3) := by decide +kernel
theorem dX7_codeFrame_11 : decode cX7_codeFrame 11 = .ok (.iload_n 2, 1) := by decide +kernel
theorem dX7_codeFrame_12 : decode cX7_codeFrame 12 = .ok (.iaload, 1) := by decide +kernel
theorem dX7_codeFrame_13 : decode cX7_codeFrame 13 = .ok (.iconst 4, 1) := by decide +kernel
theorem dX7_codeFrame_14 : decode cX7_codeFrame 14 = .ok (.irem, 1) := by decide +kernel
theorem dX7_codeFrame_15 : decode cX7_codeFrame 15 = .ok (.ifCond .ne 10, 3) := by decide +kernel
theorem dX7_codeFrame_18 : decode cX7_codeFrame 18 = .ok (.aload_n 0, 1) := by decide +kernel
theorem dX7_codeFrame_19 : decode cX7_codeFrame 19 = .ok (.invokevirtual 103, 3) := by decide +kernel
theorem dX7_codeFrame_22 : decode cX7_codeFrame 22 = .ok (.ifCond .lt 12, 3) := by decide +kernel
theorem dX7_codeFrame_25 : decode cX7_codeFrame 25 = .ok (.aload_n 0, 1) := by decide +kernel
theorem dX7_codeFrame_26 : decode cX7_codeFrame 26 = .ok (.iload_n 1, 1) := by decide +kernel
theorem dX7_codeFrame_27 : decode cX7_codeFrame 27 = .ok (.iconst 1, 1) := by decide +kernel
theorem dX7_codeFrame_28 : decode cX7_codeFrame 28 = .ok (.invokevirtual 141, 3) := by decide +kernel
theorem dX7_codeFrame_31 : decode cX7_codeFrame 31 = .ok (.ifCond .ne 11, 3) := by decide +kernel
theorem dX7_codeFrame_34 : decode cX7_codeFrame 34 = .ok (.aload_n 0, 1) := by decide +kernel
theorem dX7_codeFrame_35 : decode cX7_codeFrame 35 = .ok (.getfield 71, 3) := by decide +kernel
theorem dX7_codeFrame_38 : decode cX7_codeFrame 38 = .ok (.iload_n 1, 1) := by decide +kernel
theorem dX7_codeFrame_39 : decode cX7_codeFrame 39 = .ok (.iconst 1, 1) := by decide +kernel
theorem dX7_codeFrame_40 : decode cX7_codeFrame 40 = .ok (.bastore, 1) := by decide +kernel
theorem dX7_codeFrame_41 : decode cX7_codeFrame 41 = .ok (.return_, 1) := by decide +kernel
theorem dX7_codeFrame_42 : decode cX7_codeFrame 42 = .ok (.aload_n 0, 1) := by decide +kernel
theorem dX7_codeFrame_43 : decode cX7_codeFrame 43 = .ok (.aload_n 0, 1) := by decide +kernel
theorem dX7_codeFrame_44 : decode cX7_codeFrame 44 = .ok (.getfield 83, 3) := by decide +kernel
theorem dX7_codeFrame_47 : decode cX7_codeFrame 47 = .ok (.iload_n 1, 1) := by decide +kernel
theorem dX7_codeFrame_48 : decode cX7_codeFrame 48 = .ok (.iaload, 1) := by decide +kernel
theorem dX7_codeFrame_49 : decode cX7_codeFrame 49 = .ok (.putfield 96, 3) := by decide +kernel
theorem dX7_codeFrame_52 : decode cX7_codeFrame 52 = .ok (.aload_n 0, 1) := by decide +kernel
theorem dX7_codeFrame_53 : decode cX7_codeFrame 53 = .ok (.aload_n 0, 1) := by decide +kernel
theorem dX7_codeFrame_54 : decode cX7_codeFrame 54 = .ok (.getfield 86, 3) := by decide +kernel
theorem dX7_codeFrame_57 : decode cX7_codeFrame 57 = .ok (.iload_n 1, 1) := by decide +kernel
theorem dX7_codeFrame_58 : decode cX7_codeFrame 58 = .ok (.iaload, 1) := by decide +kernel
theorem dX7_codeFrame_59 : decode cX7_codeFrame 59 = .ok (.putfield 93, 3) := by decide +kernel
theorem dX7_codeFrame_62 : decode cX7_codeFrame 62 = .ok (.iconst 0, 1) := by decide +kernel
theorem dX7_codeFrame_63 : decode cX7_codeFrame 63 = .ok (.istore_n 3, 1) := by decide +kernel
theorem dX7_codeFrame_64 : decode cX7_codeFrame 64 = .ok (.iconst 0, 1) := by decide +kernel
theorem dX7_codeFrame_65 : decode cX7_codeFrame 65 = .ok (.istore 4, 2) := by decide +kernel
theorem dX7_codeFrame_67 : decode cX7_codeFrame 67 = .ok (.iload 4, 2) := by decide +kernel
theorem dX7_codeFrame_69 : decode cX7_codeFrame 69 = .ok (.bipush 8, 2) := by decide +kernel
theorem dX7_codeFrame_71 : decode cX7_codeFrame 71 = .ok (.if_icmp .ge 33, 3) := by decide +kernel
theorem dX7_codeFrame_74 : decode cX7_codeFrame 74 = .ok (.iload_n 3, 1) := by decide +kernel
theorem dX7_codeFrame_75 : decode cX7_codeFrame 75 = .ok (.aload_n 0, 1) := by decide +kernel
theorem dX7_codeFrame_76 : decode cX7_codeFrame 76 = .ok (.aload_n 0, 1) := by decide +kernel
theorem dX7_codeFrame_77 : decode cX7_codeFrame 77 = .ok (.getfield 77, 3) := by decide +kernel
theorem dX7_codeFrame_80 : decode cX7_codeFrame 80 = .ok (.bipush 8, 2) := by decide +kernel
theorem dX7_codeFrame_82 : decode cX7_codeFrame 82 = .ok (.iload_n 1, 1) := by decide +kernel
theorem dX7_codeFrame_83 : decode cX7_codeFrame 83 = .ok (.imul, 1) := by decide +kernel
theorem dX7_codeFrame_84 : decode cX7_codeFrame 84 = .ok (.iload 4, 2) := by decide +kernel
theorem dX7_codeFrame_86 : decode cX7_codeFrame 86 = .ok (.iadd, 1) := by decide +kernel
theorem dX7_codeFrame_87 : decode cX7_codeFrame 87 = .ok (.iaload, 1) := by decide +kernel
theorem dX7_codeFrame_88 : decode cX7_codeFrame 88 = .ok (.invokevirtual 145, 3) := by decide +kernel
theorem dX7_codeFrame_91 : decode cX7_codeFrame 91 = .ok (.iconst 4, 1) := by decide +kernel
theorem dX7_codeFrame_92 : decode cX7_codeFrame 92 = .ok (.iload 4, 2) := by decide +kernel
theorem dX7_codeFrame_94 : decode cX7_codeFrame 94 = .ok (.imul, 1) := by decide +kernel
theorem dX7_codeFrame_95 : decode cX7_codeFrame 95 = .ok (.ishl, 1) := by decide +kernel
theorem dX7_codeFrame_96 : decode cX7_codeFrame 96 = .ok (.ior, 1) := by decide +kernel
theorem dX7_codeFrame_97 : decode cX7_codeFrame 97 = .ok (.istore_n 3, 1) := by decide +kernel
theorem dX7_codeFrame_98 : decode cX7_codeFrame 98 = .ok (.iinc 4 1, 3) := by decide +kernel
theorem dX7_codeFrame_101 : decode cX7_codeFrame 101 = .ok (.goto (-34), 3) := by decide +kernel
theorem dX7_codeFrame_104 : decode cX7_codeFrame 104 = .ok (.aload_n 0, 1) := by decide +kernel
theorem dX7_codeFrame_105 : decode cX7_codeFrame 105 = .ok (.iload_n 2, 1) := by decide +kernel
theorem dX7_codeFrame_106 : decode cX7_codeFrame 106 = .ok (.iload_n 3, 1) := by decide +kernel
theorem dX7_codeFrame_107 : decode cX7_codeFrame 107 = .ok (.invokevirtual 148, 3) := by decide +kernel
theorem dX7_codeFrame_110 : decode cX7_codeFrame 110 = .ok (.aload_n 0, 1) := by decide +kernel
theorem dX7_codeFrame_111 : decode cX7_codeFrame 111 = .ok (.getfield 83, 3) := by decide +kernel
theorem dX7_codeFrame_114 : decode cX7_codeFrame 114 = .ok (.iload_n 1, 1) := by decide +kernel
theorem dX7_codeFrame_115 : decode cX7_codeFrame 115 = .ok (.aload_n 0, 1) := by decide +kernel
theorem dX7_codeFrame_116 : decode cX7_codeFrame 116 = .ok (.getfield 96, 3) := by decide +kernel
theorem dX7_codeFrame_119 : decode cX7_codeFrame 119 = .ok (.iastore, 1) := by decide +kernel
theorem dX7_codeFrame_120 : decode cX7_codeFrame 120 = .ok (.aload_n 0, 1) := by decide +kernel
theorem dX7_codeFrame_121 : decode cX7_codeFrame 121 = .ok (.getfield 86, 3) := by decide +kernel
theorem dX7_codeFrame_124 : decode cX7_codeFrame 124 = .ok (.iload_n 1, 1) := by decide +kernel
theorem dX7_codeFrame_125 : decode cX7_codeFrame 125 = .ok (.aload_n 0, 1) := by decide +kernel
theorem dX7_codeFrame_126 : decode cX7_codeFrame 126 = .ok (.getfield 93, 3) := by decide +kernel
theorem dX7_codeFrame_129 : decode cX7_codeFrame 129 = .ok (.iastore, 1) := by decide +kernel
theorem dX7_codeFrame_130 : decode cX7_codeFrame 130 = .ok (.return_, 1) := by decide +kernel
theorem dX7_cost_0 : decode cX7_cost 0 = .ok (.iconst 0, 1) := by decide +kernel
theorem dX7_cost_1 : decode cX7_cost 1 = .ok (.istore_n 2, 1) := by decide +kernel
theorem dX7_cost_2 : decode cX7_cost 2 = .ok (.iconst 0, 1) := by decide +kernel
theorem dX7_cost_3 : decode cX7_cost 3 = .ok (.istore_n 3, 1) := by decide +kernel
theorem dX7_cost_4 : decode cX7_cost 4 = .ok (.iload_n 1, 1) := by decide +kernel
theorem dX7_cost_5 : decode cX7_cost 5 = .ok (.ifCond .lt 49, 3) := by decide +kernel
theorem dX7_cost_8 : decode cX7_cost 8 = .ok (.iload_n 3, 1) := by decide +kernel
theorem dX7_cost_9 : decode cX7_cost 9 = .ok (.aload_n 0, 1) := by decide +kernel
theorem dX7_cost_10 : decode cX7_cost 10 = .ok (.getfield 35, 3) := by decide +kernel
theorem dX7_cost_13 : decode cX7_cost 13 = .ok (.iload_n 1, 1) := by decide +kernel
theorem dX7_cost_14 : decode cX7_cost 14 = .ok (.iaload, 1) := by decide +kernel
theorem dX7_cost_15 : decode cX7_cost 15 = .ok (.if_icmp .ge 39, 3) := by decide +kernel
theorem dX7_cost_18 : decode cX7_cost 18 = .ok (.aload_n 0, 1) := by decide +kernel
theorem dX7_cost_19 : decode cX7_cost 19 = .ok (.getfield 19, 3) := by decide +kernel
theorem dX7_cost_22 : decode cX7_cost 22 = .ok (.aload_n 0, 1) := by decide +kernel
theorem dX7_cost_23 : decode cX7_cost 23 = .ok (.iload_n 1, 1) := by decide +kernel
theorem dX7_cost_24 : decode cX7_cost 24 = .ok (.iload_n 3, 1) := by decide +kernel
theorem dX7_cost_25 : decode cX7_cost 25 = .ok (.invokevirtual 107, 3) := by decide +kernel
theorem dX7_cost_28 : decode cX7_cost 28 = .ok (.iaload, 1) := by decide +kernel
theorem dX7_cost_29 : decode cX7_cost 29 = .ok (.istore 4, 2) := by decide +kernel
theorem dX7_cost_31 : decode cX7_cost 31 = .ok (.iload_n 2, 1) := by decide +kernel
theorem dX7_cost_32 : decode cX7_cost 32 = .ok (.iload 4, 2) := by decide +kernel
theorem dX7_cost_34 : decode cX7_cost 34 = .ok (.ifCond .ne 7, 3) := by decide +kernel
theorem dX7_cost_37 : decode cX7_cost 37 = .ok (.iconst 1, 1) := by decide +kernel
theorem dX7_cost_38 : decode cX7_cost 38 = .ok (.goto 8, 3) := by decide +kernel
theorem dX7_cost_41 : decode cX7_cost 41 = .ok (.iload 4, 2) := by decide +kernel
theorem dX7_cost_43 : decode cX7_cost 43 = .ok (.invokestatic 115, 3) := by decide +kernel
theorem dX7_cost_46 : decode cX7_cost 46 = .ok (.iadd, 1) := by decide +kernel
theorem dX7_cost_47 : decode cX7_cost 47 = .ok (.istore_n 2, 1) := by decide +kernel
theorem dX7_cost_48 : decode cX7_cost 48 = .ok (.iinc 3 1, 3) := by decide +kernel
theorem dX7_cost_51 : decode cX7_cost 51 = .ok (.goto (-47), 3) := by decide +kernel
theorem dX7_cost_54 : decode cX7_cost 54 = .ok (.iload_n 2, 1) := by decide +kernel
theorem dX7_cost_55 : decode cX7_cost 55 = .ok (.ireturn, 1) := by decide +kernel
theorem dX7_costOfGap_0 : decode cX7_costOfGap 0 = .ok (.iload_n 0, 1) := by decide +kernel
theorem dX7_costOfGap_1 : decode cX7_costOfGap 1 = .ok (.iconst 3, 1) := by decide +kernel
theorem dX7_costOfGap_2 : decode cX7_costOfGap 2 = .ok (.iadd, 1) := by decide +kernel
theorem dX7_costOfGap_3 : decode cX7_costOfGap 3 = .ok (.iconst 4, 1) := by decide +kernel
theorem dX7_costOfGap_4 : decode cX7_costOfGap 4 = .ok (.idiv, 1) := by decide +kernel
theorem dX7_costOfGap_5 : decode cX7_costOfGap 5 = .ok (.ireturn, 1) := by decide +kernel
theorem dX7_dropLast_0 : decode cX7_dropLast 0 = .ok (.aload_n 0, 1) := by decide +kernel
theorem dX7_dropLast_1 : decode cX7_dropLast 1 = .ok (.iload_n 1, 1) := by decide +kernel
theorem dX7_dropLast_2 : decode cX7_dropLast 2 = .ok (.aload_n 0, 1) := by decide +kernel
theorem dX7_dropLast_3 : decode cX7_dropLast 3 = .ok (.getfield 35, 3) := by decide +kernel
theorem dX7_dropLast_6 : decode cX7_dropLast 6 = .ok (.iload_n 1, 1) := by decide +kernel
theorem dX7_dropLast_7 : decode cX7_dropLast 7 = .ok (.iaload, 1) := by decide +kernel
theorem dX7_dropLast_8 : decode cX7_dropLast 8 = .ok (.iconst 1, 1) := by decide +kernel
theorem dX7_dropLast_9 : decode cX7_dropLast 9 = .ok (.isub, 1) := by decide +kernel
theorem dX7_dropLast_10 : decode cX7_dropLast 10 = .ok (.invokevirtual 107, 3) := by decide +kernel
theorem dX7_dropLast_13 : decode cX7_dropLast 13 = .ok (.iconst 4, 1) := by decide +kernel
theorem dX7_dropLast_14 : decode cX7_dropLast 14 = .ok (.idiv, 1) := by decide +kernel
theorem dX7_dropLast_15 : decode cX7_dropLast 15 = .ok (.istore_n 2, 1) := by decide +kernel
theorem dX7_dropLast_16 : decode cX7_dropLast 16 = .ok (.aload_n 0, 1) := by decide +kernel
theorem dX7_dropLast_17 : decode cX7_dropLast 17 = .ok (.getfield 35, 3) := by decide +kernel
theorem dX7_dropLast_20 : decode cX7_dropLast 20 = .ok (.iload_n 1, 1) := by decide +kernel
theorem dX7_dropLast_21 : decode cX7_dropLast 21 = .ok (.dup2, 1) := by decide +kernel
theorem dX7_dropLast_22 : decode cX7_dropLast 22 = .ok (.iaload, 1) := by decide +kernel
theorem dX7_dropLast_23 : decode cX7_dropLast 23 = .ok (.iconst 1, 1) := by decide +kernel
theorem dX7_dropLast_24 : decode cX7_dropLast 24 = .ok (.isub, 1) := by decide +kernel
theorem dX7_dropLast_25 : decode cX7_dropLast 25 = .ok (.iastore, 1) := by decide +kernel
theorem dX7_dropLast_26 : decode cX7_dropLast 26 = .ok (.aload_n 0, 1) := by decide +kernel
theorem dX7_dropLast_27 : decode cX7_dropLast 27 = .ok (.getfield 13, 3) := by decide +kernel
theorem dX7_dropLast_30 : decode cX7_dropLast 30 = .ok (.iload_n 2, 1) := by decide +kernel
theorem dX7_dropLast_31 : decode cX7_dropLast 31 = .ok (.dup2, 1) := by decide +kernel
theorem dX7_dropLast_32 : decode cX7_dropLast 32 = .ok (.iaload, 1) := by decide +kernel
theorem dX7_dropLast_33 : decode cX7_dropLast 33 = .ok (.iconst 1, 1) := by decide +kernel
theorem dX7_dropLast_34 : decode cX7_dropLast 34 = .ok (.isub, 1) := by decide +kernel
theorem dX7_dropLast_35 : decode cX7_dropLast 35 = .ok (.iastore, 1) := by decide +kernel
theorem dX7_dropLast_36 : decode cX7_dropLast 36 = .ok (.aload_n 0, 1) := by decide +kernel
theorem dX7_dropLast_37 : decode cX7_dropLast 37 = .ok (.getfield 13, 3) := by decide +kernel
theorem dX7_dropLast_40 : decode cX7_dropLast 40 = .ok (.iload_n 2, 1) := by decide +kernel
theorem dX7_dropLast_41 : decode cX7_dropLast 41 = .ok (.iaload, 1) := by decide +kernel
theorem dX7_dropLast_42 : decode cX7_dropLast 42 = .ok (.ifCond .ne 33, 3) := by decide +kernel
theorem dX7_dropLast_45 : decode cX7_dropLast 45 = .ok (.aload_n 0, 1) := by decide +kernel
theorem dX7_dropLast_46 : decode cX7_dropLast 46 = .ok (.getfield 35, 3) := by decide +kernel
theorem dX7_dropLast_49 : decode cX7_dropLast 49 = .ok (.iload_n 1, 1) := by decide +kernel
theorem dX7_dropLast_50 : decode cX7_dropLast 50 = .ok (.iaload, 1) := by decide +kernel
theorem dX7_dropLast_51 : decode cX7_dropLast 51 = .ok (.ifCond .le 24, 3) := by decide +kernel
theorem dX7_dropLast_54 : decode cX7_dropLast 54 = .ok (.aload_n 0, 1) := by decide +kernel
theorem dX7_dropLast_55 : decode cX7_dropLast 55 = .ok (.getfield 16, 3) := by decide +kernel
theorem dX7_dropLast_58 : decode cX7_dropLast 58 = .ok (.aload_n 0, 1) := by decide +kernel
theorem dX7_dropLast_59 : decode cX7_dropLast 59 = .ok (.iload_n 1, 1) := by decide +kernel
theorem dX7_dropLast_60 : decode cX7_dropLast 60 = .ok (.aload_n 0, 1) := by decide +kernel
theorem dX7_dropLast_61 : decode cX7_dropLast 61 = .ok (.getfield 35, 3) := by decide +kernel
theorem dX7_dropLast_64 : decode cX7_dropLast 64 = .ok (.iload_n 1, 1) := by decide +kernel
theorem dX7_dropLast_65 : decode cX7_dropLast 65 = .ok (.iaload, 1) := by decide +kernel
theorem dX7_dropLast_66 : decode cX7_dropLast 66 = .ok (.iconst 1, 1) := by decide +kernel
theorem dX7_dropLast_67 : decode cX7_dropLast 67 = .ok (.isub, 1) := by decide +kernel
theorem dX7_dropLast_68 : decode cX7_dropLast 68 = .ok (.invokevirtual 107, 3) := by decide +kernel
theorem dX7_dropLast_71 : decode cX7_dropLast 71 = .ok (.iconst 4, 1) := by decide +kernel
theorem dX7_dropLast_72 : decode cX7_dropLast 72 = .ok (.idiv, 1) := by decide +kernel
theorem dX7_dropLast_73 : decode cX7_dropLast 73 = .ok (.iconst (-1), 1) := by decide +kernel
theorem dX7_dropLast_74 : decode cX7_dropLast 74 = .ok (.iastore, 1) := by decide +kernel
theorem dX7_dropLast_75 : decode cX7_dropLast 75 = .ok (.return_, 1) := by decide +kernel
theorem dX7_duration_0 : decode cX7_duration 0 = .ok (.aload_n 0, 1) := by decide +kernel
theorem dX7_duration_1 : decode cX7_duration 1 = .ok (.iload_n 1, 1) := by decide +kernel
theorem dX7_duration_2 : decode cX7_duration 2 = .ok (.invokevirtual 174, 3) := by decide +kernel
theorem dX7_duration_5 : decode cX7_duration 5 = .ok (.istore_n 2, 1) := by decide +kernel
theorem dX7_duration_6 : decode cX7_duration 6 = .ok (.aload_n 0, 1) := by decide +kernel
theorem dX7_duration_7 : decode cX7_duration 7 = .ok (.iload_n 2, 1) := by decide +kernel
theorem dX7_duration_8 : decode cX7_duration 8 = .ok (.ifCond .ge 7, 3) := by decide +kernel
theorem dX7_duration_11 : decode cX7_duration 11 = .ok (.iconst 1, 1) := by decide +kernel
theorem dX7_duration_12 : decode cX7_duration 12 = .ok (.goto 4, 3) := by decide +kernel
theorem dX7_duration_15 : decode cX7_duration 15 = .ok (.iconst 0, 1) := by decide +kernel
theorem dX7_duration_16 : decode cX7_duration 16 = .ok (.putfield 89, 3) := by decide +kernel
theorem dX7_duration_19 : decode cX7_duration 19 = .ok (.iload_n 2, 1) := by decide +kernel
theorem dX7_duration_20 : decode cX7_duration 20 = .ok (.ifCond .ge 7, 3) := by decide +kernel
theorem dX7_duration_23 : decode cX7_duration 23 = .ok (.iconst 0, 1) := by decide +kernel
theorem dX7_duration_24 : decode cX7_duration 24 = .ok (.goto 27, 3) := by decide +kernel
theorem dX7_duration_27 : decode cX7_duration 27 = .ok (.bipush 8, 2) := by decide +kernel
theorem dX7_duration_29 : decode cX7_duration 29 = .ok (.aload_n 0, 1) := by decide +kernel
theorem dX7_duration_30 : decode cX7_duration 30 = .ok (.aload_n 0, 1) := by decide +kernel
theorem dX7_duration_31 : decode cX7_duration 31 = .ok (.getfield 53, 3) := by decide +kernel
theorem dX7_duration_34 : decode cX7_duration 34 = .ok (.iload_n 2, 1) := by decide +kernel
theorem dX7_duration_35 : decode cX7_duration 35 = .ok (.iaload, 1) := by decide +kernel
theorem dX7_duration_36 : decode cX7_duration 36 = .ok (.invokevirtual 177, 3) := by decide +kernel
theorem dX7_duration_39 : decode cX7_duration 39 = .ok (.aload_n 0, 1) := by decide +kernel
theorem dX7_duration_40 : decode cX7_duration 40 = .ok (.aload_n 0, 1) := by decide +kernel
theorem dX7_duration_41 : decode cX7_duration 41 = .ok (.getfield 56, 3) := by decide +kernel
theorem dX7_duration_44 : decode cX7_duration 44 = .ok (.iload_n 2, 1) := by decide +kernel
theorem dX7_duration_45 : decode cX7_duration 45 = .ok (.iaload, 1) := by decide +kernel
theorem dX7_duration_46 : decode cX7_duration 46 = .ok (.invokevirtual 177, 3) := by decide +kernel
theorem dX7_duration_49 : decode cX7_duration 49 = .ok (.iadd, 1) := by decide +kernel
theorem dX7_duration_50 : decode cX7_duration 50 = .ok (.imul, 1) := by decide +kernel
theorem dX7_duration_51 : decode cX7_duration 51 = .ok (.ireturn, 1) := by decide +kernel
theorem dX7_entryAt_0 : decode cX7_entryAt 0 = .ok (.aload_n 0, 1) := by decide +kernel
theorem dX7_entryAt_1 : decode cX7_entryAt 1 = .ok (.getfield 32, 3) := by decide +kernel
theorem dX7_entryAt_4 : decode cX7_entryAt 4 = .ok (.iload_n 1, 1) := by decide +kernel
theorem dX7_entryAt_5 : decode cX7_entryAt 5 = .ok (.iaload, 1) := by decide +kernel
theorem dX7_entryAt_6 : decode cX7_entryAt 6 = .ok (.istore_n 3, 1) := by decide +kernel
theorem dX7_entryAt_7 : decode cX7_entryAt 7 = .ok (.iconst 0, 1) := by decide +kernel
theorem dX7_entryAt_8 : decode cX7_entryAt 8 = .ok (.istore 4, 2) := by decide +kernel
theorem dX7_entryAt_10 : decode cX7_entryAt 10 = .ok (.iload 4, 2) := by decide +kernel
theorem dX7_entryAt_12 : decode cX7_entryAt 12 = .ok (.iload_n 2, 1) := by decide +kernel
theorem dX7_entryAt_13 : decode cX7_entryAt 13 = .ok (.iconst 4, 1) := by decide +kernel
theorem dX7_entryAt_14 : decode cX7_entryAt 14 = .ok (.idiv, 1) := by decide +kernel
theorem dX7_entryAt_15 : decode cX7_entryAt 15 = .ok (.if_icmp .ge 16, 3) := by decide +kernel
theorem dX7_entryAt_18 : decode cX7_entryAt 18 = .ok (.aload_n 0, 1) := by decide +kernel
theorem dX7_entryAt_19 : decode cX7_entryAt 19 = .ok (.getfield 16, 3) := by decide +kernel
theorem dX7_entryAt_22 : decode cX7_entryAt 22 = .ok (.iload_n 3, 1) := by decide +kernel
theorem dX7_entryAt_23 : decode cX7_entryAt 23 = .ok (.iaload, 1) := by decide +kernel
theorem dX7_entryAt_24 : decode cX7_entryAt 24 = .ok (.istore_n 3, 1) := by decide +kernel
theorem dX7_entryAt_25 : decode cX7_entryAt 25 = .ok (.iinc 4 1, 3) := by decide +kernel
theorem dX7_entryAt_28 : decode cX7_entryAt 28 = .ok (.goto (-18), 3) := by decide +kernel
theorem dX7_entryAt_31 : decode cX7_entryAt 31 = .ok (.iconst 4, 1) := by decide +kernel
theorem dX7_entryAt_32 : decode cX7_entryAt 32 = .ok (.iload_n 3, 1) := by decide +kernel
theorem dX7_entryAt_33 : decode cX7_entryAt 33 = .ok (.imul, 1) := by decide +kernel
theorem dX7_entryAt_34 : decode cX7_entryAt 34 = .ok (.iload_n 2, 1) := by decide +kernel
theorem dX7_entryAt_35 : decode cX7_entryAt 35 = .ok (.iconst 4, 1) := by decide +kernel
theorem dX7_entryAt_36 : decode cX7_entryAt 36 = .ok (.irem, 1) := by decide +kernel
theorem dX7_entryAt_37 : decode cX7_entryAt 37 = .ok (.iadd, 1) := by decide +kernel
theorem dX7_entryAt_38 : decode cX7_entryAt 38 = .ok (.ireturn, 1) := by decide +kernel
theorem dX7_erase_0 : decode cX7_erase 0 = .ok (.aload_n 0, 1) := by decide +kernel
theorem dX7_erase_1 : decode cX7_erase 1 = .ok (.iload_n 1, 1) := by decide +kernel
theorem dX7_erase_2 : decode cX7_erase 2 = .ok (.invokevirtual 174, 3) := by decide +kernel
theorem dX7_erase_5 : decode cX7_erase 5 = .ok (.istore_n 2, 1) := by decide +kernel
theorem dX7_erase_6 : decode cX7_erase 6 = .ok (.aload_n 0, 1) := by decide +kernel
theorem dX7_erase_7 : decode cX7_erase 7 = .ok (.iload_n 2, 1) := by decide +kernel
theorem dX7_erase_8 : decode cX7_erase 8 = .ok (.ifCond .ge 7, 3) := by decide +kernel
theorem dX7_erase_11 : decode cX7_erase 11 = .ok (.iconst 1, 1) := by decide +kernel
theorem dX7_erase_12 : decode cX7_erase 12 = .ok (.goto 4, 3) := by decide +kernel
theorem dX7_erase_15 : decode cX7_erase 15 = .ok (.iconst 0, 1) := by decide +kernel
theorem dX7_erase_16 : decode cX7_erase 16 = .ok (.putfield 89, 3) := by decide +kernel
theorem dX7_erase_19 : decode cX7_erase 19 = .ok (.aload_n 0, 1) := by decide +kernel
theorem dX7_erase_20 : decode cX7_erase 20 = .ok (.getfield 89, 3) := by decide +kernel
theorem dX7_erase_23 : decode cX7_erase 23 = .ok (.ifCond .le 5, 3) := by decide +kernel
theorem dX7_erase_26 : decode cX7_erase 26 = .ok (.iconst 0, 1) := by decide +kernel
theorem dX7_erase_27 : decode cX7_erase 27 = .ok (.ireturn, 1) := by decide +kernel
theorem dX7_erase_28 : decode cX7_erase 28 = .ok (.aload_n 0, 1) := by decide +kernel
theorem dX7_erase_29 : decode cX7_erase 29 = .ok (.aload_n 0, 1) := by decide +kernel
theorem dX7_erase_30 : decode cX7_erase 30 = .ok (.getfield 53, 3) := by decide +kernel
theorem dX7_erase_33 : decode cX7_erase 33 = .ok (.iload_n 2, 1) := by decide +kernel
theorem dX7_erase_34 : decode cX7_erase 34 = .ok (.iaload, 1) := by decide +kernel
theorem dX7_erase_35 : decode cX7_erase 35 = .ok (.invokevirtual 168, 3) := by decide +kernel
theorem dX7_erase_38 : decode cX7_erase 38 = .ok (.aload_n 0, 1) := by decide +kernel
theorem dX7_erase_39 : decode cX7_erase 39 = .ok (.aload_n 0, 1) := by decide +kernel
theorem dX7_erase_40 : decode cX7_erase 40 = .ok (.getfield 56, 3) := by decide +kernel
theorem dX7_erase_43 : decode cX7_erase 43 = .ok (.iload_n 2, 1) := by decide +kernel
theorem dX7_erase_44 : decode cX7_erase 44 = .ok (.iaload, 1) := by decide +kernel
theorem dX7_erase_45 : decode cX7_erase 45 = .ok (.invokevirtual 168, 3) := by decide +kernel
theorem dX7_erase_48 : decode cX7_erase 48 = .ok (.iadd, 1) := by decide +kernel
theorem dX7_erase_49 : decode cX7_erase 49 = .ok (.istore_n 3, 1) := by decide +kernel
theorem dX7_erase_50 : decode cX7_erase 50 = .ok (.aload_n 0, 1) := by decide +kernel
theorem dX7_erase_51 : decode cX7_erase 51 = .ok (.dup, 1) := by decide +kernel
theorem dX7_erase_52 : decode cX7_erase 52 = .ok (.getfield 121, 3) := by decide +kernel
theorem dX7_erase_55 : decode cX7_erase 55 = .ok (.iconst 1, 1) := by decide +kernel
theorem dX7_erase_56 : decode cX7_erase 56 = .ok (.isub, 1) := by decide +kernel
theorem dX7_erase_57 : decode cX7_erase 57 = .ok (.putfield 121, 3) := by decide +kernel
theorem dX7_erase_60 : decode cX7_erase 60 = .ok (.iload_n 2, 1) := by decide +kernel
theorem dX7_erase_61 : decode cX7_erase 61 = .ok (.istore 4, 2) := by decide +kernel
theorem dX7_erase_63 : decode cX7_erase 63 = .ok (.iload 4, 2) := by decide +kernel
theorem dX7_erase_65 : decode cX7_erase 65 = .ok (.aload_n 0, 1) := by decide +kernel
theorem dX7_erase_66 : decode cX7_erase 66 = .ok (.getfield 121, 3) := by decide +kernel
theorem dX7_erase_69 : decode cX7_erase 69 = .ok (.if_icmp .ge 89, 3) := by decide +kernel
theorem dX7_erase_72 : decode cX7_erase 72 = .ok (.aload_n 0, 1) := by decide +kernel
theorem dX7_erase_73 : decode cX7_erase 73 = .ok (.getfield 44, 3) := by decide +kernel
theorem dX7_erase_76 : decode cX7_erase 76 = .ok (.iload 4, 2) := by decide +kernel
theorem dX7_erase_78 : decode cX7_erase 78 = .ok (.aload_n 0, 1) := by decide +kernel
theorem dX7_erase_79 : decode cX7_erase 79 = .ok (.getfield 44, 3) := by decide +kernel
theorem dX7_erase_82 : decode cX7_erase 82 = .ok (.iload 4, 2) := by decide +kernel
theorem dX7_erase_84 : decode cX7_erase 84 = .ok (.iconst 1, 1) := by decide +kernel
theorem dX7_erase_85 : decode cX7_erase 85 = .ok (.iadd, 1) := by decide +kernel
theorem dX7_erase_86 : decode cX7_erase 86 = .ok (.iaload, 1) := by decide +kernel
theorem dX7_erase_87 : decode cX7_erase 87 = .ok (.iastore, 1) := by decide +kernel
theorem dX7_erase_88 : decode cX7_erase 88 = .ok (.aload_n 0, 1) := by decide +kernel
theorem dX7_erase_89 : decode cX7_erase 89 = .ok (.getfield 47, 3) := by decide +kernel
theorem dX7_erase_92 : decode cX7_erase 92 = .ok (.iload 4, 2) := by decide +kernel
theorem dX7_erase_94 : decode cX7_erase 94 = .ok (.aload_n 0, 1) := by decide +kernel
theorem dX7_erase_95 : decode cX7_erase 95 = .ok (.getfield 47, 3) := by decide +kernel
theorem dX7_erase_98 : decode cX7_erase 98 = .ok (.iload 4, 2) := by decide +kernel
theorem dX7_erase_100 : decode cX7_erase 100 = .ok (.iconst 1, 1) := by decide +kernel
theorem dX7_erase_101 : decode cX7_erase 101 = .ok (.iadd, 1) := by decide +kernel
theorem dX7_erase_102 : decode cX7_erase 102 = .ok (.iaload, 1) := by decide +kernel
theorem dX7_erase_103 : decode cX7_erase 103 = .ok (.iastore, 1) := by decide +kernel
theorem dX7_erase_104 : decode cX7_erase 104 = .ok (.aload_n 0, 1) := by decide +kernel
theorem dX7_erase_105 : decode cX7_erase 105 = .ok (.getfield 50, 3) := by decide +kernel
theorem dX7_erase_108 : decode cX7_erase 108 = .ok (.iload 4, 2) := by decide +kernel
theorem dX7_erase_110 : decode cX7_erase 110 = .ok (.aload_n 0, 1) := by decide +kernel
theorem dX7_erase_111 : decode cX7_erase 111 = .ok (.getfield 50, 3) := by decide +kernel
theorem dX7_erase_114 : decode cX7_erase 114 = .ok (.iload 4, 2) := by decide +kernel
theorem dX7_erase_116 : decode cX7_erase 116 = .ok (.iconst 1, 1) := by decide +kernel
theorem dX7_erase_117 : decode cX7_erase 117 = .ok (.iadd, 1) := by decide +kernel
theorem dX7_erase_118 : decode cX7_erase 118 = .ok (.iaload, 1) := by decide +kernel
theorem dX7_erase_119 : decode cX7_erase 119 = .ok (.iastore, 1) := by decide +kernel
theorem dX7_erase_120 : decode cX7_erase 120 = .ok (.aload_n 0, 1) := by decide +kernel
theorem dX7_erase_121 : decode cX7_erase 121 = .ok (.getfield 53, 3) := by decide +kernel
theorem dX7_erase_124 : decode cX7_erase 124 = .ok (.iload 4, 2) := by decide +kernel
theorem dX7_erase_126 : decode cX7_erase 126 = .ok (.aload_n 0, 1) := by decide +kernel
theorem dX7_erase_127 : decode cX7_erase 127 = .ok (.getfield 53, 3) := by decide +kernel
theorem dX7_erase_130 : decode cX7_erase 130 = .ok (.iload 4, 2) := by decide +kernel
theorem dX7_erase_132 : decode cX7_erase 132 = .ok (.iconst 1, 1) := by decide +kernel
theorem dX7_erase_133 : decode cX7_erase 133 = .ok (.iadd, 1) := by decide +kernel
theorem dX7_erase_134 : decode cX7_erase 134 = .ok (.iaload, 1) := by decide +kernel
theorem dX7_erase_135 : decode cX7_erase 135 = .ok (.iastore, 1) := by decide +kernel
theorem dX7_erase_136 : decode cX7_erase 136 = .ok (.aload_n 0, 1) := by decide +kernel
theorem dX7_erase_137 : decode cX7_erase 137 = .ok (.getfield 56, 3) := by decide +kernel
theorem dX7_erase_140 : decode cX7_erase 140 = .ok (.iload 4, 2) := by decide +kernel
theorem dX7_erase_142 : decode cX7_erase 142 = .ok (.aload_n 0, 1) := by decide +kernel
theorem dX7_erase_143 : decode cX7_erase 143 = .ok (.getfield 56, 3) := by decide +kernel
theorem dX7_erase_146 : decode cX7_erase 146 = .ok (.iload 4, 2) := by decide +kernel
theorem dX7_erase_148 : decode cX7_erase 148 = .ok (.iconst 1, 1) := by decide +kernel
theorem dX7_erase_149 : decode cX7_erase 149 = .ok (.iadd, 1) := by decide +kernel
theorem dX7_erase_150 : decode cX7_erase 150 = .ok (.iaload, 1) := by decide +kernel
theorem dX7_erase_151 : decode cX7_erase 151 = .ok (.iastore, 1) := by decide +kernel
theorem dX7_erase_152 : decode cX7_erase 152 = .ok (.iinc 4 1, 3) := by decide +kernel
theorem dX7_erase_155 : decode cX7_erase 155 = .ok (.goto (-92), 3) := by decide +kernel
theorem dX7_erase_158 : decode cX7_erase 158 = .ok (.iload_n 3, 1) := by decide +kernel
theorem dX7_erase_159 : decode cX7_erase 159 = .ok (.ireturn, 1) := by decide +kernel
theorem dX7_find_0 : decode cX7_find 0 = .ok (.iconst (-1), 1) := by decide +kernel
theorem dX7_find_1 : decode cX7_find 1 = .ok (.istore_n 2, 1) := by decide +kernel
theorem dX7_find_2 : decode cX7_find 2 = .ok (.iconst 0, 1) := by decide +kernel
theorem dX7_find_3 : decode cX7_find 3 = .ok (.istore_n 3, 1) := by decide +kernel
theorem dX7_find_4 : decode cX7_find 4 = .ok (.iload_n 3, 1) := by decide +kernel
theorem dX7_find_5 : decode cX7_find 5 = .ok (.aload_n 0, 1) := by decide +kernel
theorem dX7_find_6 : decode cX7_find 6 = .ok (.getfield 121, 3) := by decide +kernel
theorem dX7_find_9 : decode cX7_find 9 = .ok (.if_icmp .ge 25, 3) := by decide +kernel
theorem dX7_find_12 : decode cX7_find 12 = .ok (.aload_n 0, 1) := by decide +kernel
theorem dX7_find_13 : decode cX7_find 13 = .ok (.getfield 44, 3) := by decide +kernel
theorem dX7_find_16 : decode cX7_find 16 = .ok (.iload_n 3, 1) := by decide +kernel
theorem dX7_find_17 : decode cX7_find 17 = .ok (.iaload, 1) := by decide +kernel
theorem dX7_find_18 : decode cX7_find 18 = .ok (.iload_n 1, 1) := by decide +kernel
theorem dX7_find_19 : decode cX7_find 19 = .ok (.if_icmp .ne 7, 3) := by decide +kernel
theorem dX7_find_22 : decode cX7_find 22 = .ok (.iload_n 3, 1) := by decide +kernel
theorem dX7_find_23 : decode cX7_find 23 = .ok (.goto 4, 3) := by decide +kernel
theorem dX7_find_26 : decode cX7_find 26 = .ok (.iload_n 2, 1) := by decide +kernel
theorem dX7_find_27 : decode cX7_find 27 = .ok (.istore_n 2, 1) := by decide +kernel
theorem dX7_find_28 : decode cX7_find 28 = .ok (.iinc 3 1, 3) := by decide +kernel
theorem dX7_find_31 : decode cX7_find 31 = .ok (.goto (-27), 3) := by decide +kernel
theorem dX7_find_34 : decode cX7_find 34 = .ok (.iload_n 2, 1) := by decide +kernel
theorem dX7_find_35 : decode cX7_find 35 = .ok (.ireturn, 1) := by decide +kernel
theorem dX7_forward_0 : decode cX7_forward 0 = .ok (.aload_n 0, 1) := by decide +kernel
theorem dX7_forward_1 : decode cX7_forward 1 = .ok (.iload_n 1, 1) := by decide +kernel
theorem dX7_forward_2 : decode cX7_forward 2 = .ok (.invokevirtual 174, 3) := by decide +kernel
theorem dX7_forward_5 : decode cX7_forward 5 = .ok (.istore_n 3, 1) := by decide +kernel
theorem dX7_forward_6 : decode cX7_forward 6 = .ok (.aload_n 0, 1) := by decide +kernel
theorem dX7_forward_7 : decode cX7_forward 7 = .ok (.iload_n 3, 1) := by decide +kernel
theorem dX7_forward_8 : decode cX7_forward 8 = .ok (.ifCond .lt 11, 3) := by decide +kernel
theorem dX7_forward_11 : decode cX7_forward 11 = .ok (.aload_n 0, 1) := by decide +kernel
theorem dX7_forward_12 : decode cX7_forward 12 = .ok (.iload_n 2, 1) := by decide +kernel
theorem dX7_forward_13 : decode cX7_forward 13 = .ok (.invokevirtual 131, 3) := by decide +kernel
theorem dX7_forward_16 : decode cX7_forward 16 = .ok (.ifCond .ne 7, 3) := by decide +kernel
theorem dX7_forward_19 : decode cX7_forward 19 = .ok (.iconst 1, 1) := by decide +kernel
theorem dX7_forward_20 : decode cX7_forward 20 = .ok (.goto 4, 3) := by decide +kernel
theorem dX7_forward_23 : decode cX7_forward 23 = .ok (.iconst 0, 1) := by decide +kernel
theorem dX7_forward_24 : decode cX7_forward 24 = .ok (.putfield 89, 3) := by decide +kernel
theorem dX7_forward_27 : decode cX7_forward 27 = .ok (.aload_n 0, 1) := by decide +kernel
theorem dX7_forward_28 : decode cX7_forward 28 = .ok (.getfield 89, 3) := by decide +kernel
theorem dX7_forward_31 : decode cX7_forward 31 = .ok (.ifCond .le 5, 3) := by decide +kernel
theorem dX7_forward_34 : decode cX7_forward 34 = .ok (.iconst 0, 1) := by decide +kernel
theorem dX7_forward_35 : decode cX7_forward 35 = .ok (.ireturn, 1) := by decide +kernel
theorem dX7_forward_36 : decode cX7_forward 36 = .ok (.aload_n 0, 1) := by decide +kernel
theorem dX7_forward_37 : decode cX7_forward 37 = .ok (.getfield 41, 3) := by decide +kernel
theorem dX7_forward_40 : decode cX7_forward 40 = .ok (.iconst 3, 1) := by decide +kernel
theorem dX7_forward_41 : decode cX7_forward 41 = .ok (.aload_n 0, 1) := by decide +kernel
theorem dX7_forward_42 : decode cX7_forward 42 = .ok (.getfield 47, 3) := by decide +kernel
theorem dX7_forward_45 : decode cX7_forward 45 = .ok (.iload_n 3, 1) := by decide +kernel
theorem dX7_forward_46 : decode cX7_forward 46 = .ok (.iaload, 1) := by decide +kernel
theorem dX7_forward_47 : decode cX7_forward 47 = .ok (.imul, 1) := by decide +kernel
theorem dX7_forward_48 : decode cX7_forward 48 = .ok (.iconst 2, 1) := by decide +kernel
theorem dX7_forward_49 : decode cX7_forward 49 = .ok (.iadd, 1) := by decide +kernel
theorem dX7_forward_50 : decode cX7_forward 50 = .ok (.iaload, 1) := by decide +kernel
theorem dX7_forward_51 : decode cX7_forward 51 = .ok (.istore 4, 2) := by decide +kernel
theorem dX7_forward_53 : decode cX7_forward 53 = .ok (.aload_n 0, 1) := by decide +kernel
theorem dX7_forward_54 : decode cX7_forward 54 = .ok (.aload_n 0, 1) := by decide +kernel
theorem dX7_forward_55 : decode cX7_forward 55 = .ok (.getfield 53, 3) := by decide +kernel
theorem dX7_forward_58 : decode cX7_forward 58 = .ok (.iload_n 3, 1) := by decide +kernel
theorem dX7_forward_59 : decode cX7_forward 59 = .ok (.iaload, 1) := by decide +kernel
theorem dX7_forward_60 : decode cX7_forward 60 = .ok (.invokevirtual 124, 3) := by decide +kernel
theorem dX7_forward_63 : decode cX7_forward 63 = .ok (.aload_n 0, 1) := by decide +kernel
theorem dX7_forward_64 : decode cX7_forward 64 = .ok (.iload 4, 2) := by decide +kernel
theorem dX7_forward_66 : decode cX7_forward 66 = .ok (.invokevirtual 124, 3) := by decide +kernel
theorem dX7_forward_69 : decode cX7_forward 69 = .ok (.iadd, 1) := by decide +kernel
theorem dX7_forward_70 : decode cX7_forward 70 = .ok (.istore 5, 2) := by decide +kernel
theorem dX7_forward_72 : decode cX7_forward 72 = .ok (.aload_n 0, 1) := by decide +kernel
theorem dX7_forward_73 : decode cX7_forward 73 = .ok (.invokevirtual 134, 3) := by decide +kernel
theorem dX7_forward_76 : decode cX7_forward 76 = .ok (.ifCond .ne 20, 3) := by decide +kernel
theorem dX7_forward_79 : decode cX7_forward 79 = .ok (.aload_n 0, 1) := by decide +kernel
theorem dX7_forward_80 : decode cX7_forward 80 = .ok (.iload_n 2, 1) := by decide +kernel
theorem dX7_forward_81 : decode cX7_forward 81 = .ok (.invokevirtual 138, 3) := by decide +kernel
theorem dX7_forward_84 : decode cX7_forward 84 = .ok (.iload 5, 2) := by decide +kernel
theorem dX7_forward_86 : decode cX7_forward 86 = .ok (.iadd, 1) := by decide +kernel
theorem dX7_forward_87 : decode cX7_forward 87 = .ok (.aload_n 0, 1) := by decide +kernel
theorem dX7_forward_88 : decode cX7_forward 88 = .ok (.getfield 38, 3) := by decide +kernel
theorem dX7_forward_91 : decode cX7_forward 91 = .ok (.iload_n 2, 1) := by decide +kernel
theorem dX7_forward_92 : decode cX7_forward 92 = .ok (.iaload, 1) := by decide +kernel
theorem dX7_forward_93 : decode cX7_forward 93 = .ok (.if_icmp .le 10, 3) := by decide +kernel
theorem dX7_forward_96 : decode cX7_forward 96 = .ok (.aload_n 0, 1) := by decide +kernel
theorem dX7_forward_97 : decode cX7_forward 97 = .ok (.iconst 2, 1) := by decide +kernel
theorem dX7_forward_98 : decode cX7_forward 98 = .ok (.putfield 89, 3) := by decide +kernel
theorem dX7_forward_101 : decode cX7_forward 101 = .ok (.iconst 0, 1) := by decide +kernel
theorem dX7_forward_102 : decode cX7_forward 102 = .ok (.ireturn, 1) := by decide +kernel
theorem dX7_forward_103 : decode cX7_forward 103 = .ok (.aload_n 0, 1) := by decide +kernel
theorem dX7_forward_104 : decode cX7_forward 104 = .ok (.getfield 25, 3) := by decide +kernel
theorem dX7_forward_107 : decode cX7_forward 107 = .ok (.aload_n 0, 1) := by decide +kernel
theorem dX7_forward_108 : decode cX7_forward 108 = .ok (.getfield 53, 3) := by decide +kernel
theorem dX7_forward_111 : decode cX7_forward 111 = .ok (.iload_n 3, 1) := by decide +kernel
theorem dX7_forward_112 : decode cX7_forward 112 = .ok (.iaload, 1) := by decide +kernel
theorem dX7_forward_113 : decode cX7_forward 113 = .ok (.dup2, 1) := by decide +kernel
theorem dX7_forward_114 : decode cX7_forward 114 = .ok (.iaload, 1) := by decide +kernel
theorem dX7_forward_115 : decode cX7_forward 115 = .ok (.iconst 1, 1) := by decide +kernel
theorem dX7_forward_116 : decode cX7_forward 116 = .ok (.iadd, 1) := by decide +kernel
theorem dX7_forward_117 : decode cX7_forward 117 = .ok (.iastore, 1) := by decide +kernel
theorem dX7_forward_118 : decode cX7_forward 118 = .ok (.iload 4, 2) := by decide +kernel
theorem dX7_forward_120 : decode cX7_forward 120 = .ok (.ifCond .lt 14, 3) := by decide +kernel
theorem dX7_forward_123 : decode cX7_forward 123 = .ok (.aload_n 0, 1) := by decide +kernel
theorem dX7_forward_124 : decode cX7_forward 124 = .ok (.getfield 25, 3) := by decide +kernel
theorem dX7_forward_127 : decode cX7_forward 127 = .ok (.iload 4, 2) := by decide +kernel
theorem dX7_forward_129 : decode cX7_forward 129 = .ok (.dup2, 1) := by decide +kernel
theorem dX7_forward_130 : decode cX7_forward 130 = .ok (.iaload, 1) := by decide +kernel
theorem dX7_forward_131 : decode cX7_forward 131 = .ok (.iconst 1, 1) := by decide +kernel
theorem dX7_forward_132 : decode cX7_forward 132 = .ok (.iadd, 1) := by decide +kernel
theorem dX7_forward_133 : decode cX7_forward 133 = .ok (.iastore, 1) := by decide +kernel
theorem dX7_forward_134 : decode cX7_forward 134 = .ok (.aload_n 0, 1) := by decide +kernel
theorem dX7_forward_135 : decode cX7_forward 135 = .ok (.iload_n 2, 1) := by decide +kernel
theorem dX7_forward_136 : decode cX7_forward 136 = .ok (.aload_n 0, 1) := by decide +kernel
theorem dX7_forward_137 : decode cX7_forward 137 = .ok (.getfield 53, 3) := by decide +kernel
theorem dX7_forward_140 : decode cX7_forward 140 = .ok (.iload_n 3, 1) := by decide +kernel
theorem dX7_forward_141 : decode cX7_forward 141 = .ok (.iaload, 1) := by decide +kernel
theorem dX7_forward_142 : decode cX7_forward 142 = .ok (.iload 4, 2) := by decide +kernel
theorem dX7_forward_144 : decode cX7_forward 144 = .ok (.invokevirtual 164, 3) := by decide +kernel
theorem dX7_forward_147 : decode cX7_forward 147 = .ok (.ireturn, 1) := by decide +kernel
theorem dX7_frame_0 : decode cX7_frame 0 = .ok (.iconst 1, 1) := by decide +kernel
theorem dX7_frame_1 : decode cX7_frame 1 = .ok (.istore_n 2, 1) := by decide +kernel
theorem dX7_frame_2 : decode cX7_frame 2 = .ok (.iconst 0, 1) := by decide +kernel
theorem dX7_frame_3 : decode cX7_frame 3 = .ok (.istore_n 3, 1) := by decide +kernel
theorem dX7_frame_4 : decode cX7_frame 4 = .ok (.iload_n 3, 1) := by decide +kernel
theorem dX7_frame_5 : decode cX7_frame 5 = .ok (.bipush 8, 2) := by decide +kernel
theorem dX7_frame_7 : decode cX7_frame 7 = .ok (.if_icmp .ge 46, 3) := by decide +kernel
theorem dX7_frame_10 : decode cX7_frame 10 = .ok (.aload_n 0, 1) := by decide +kernel
theorem dX7_frame_11 : decode cX7_frame 11 = .ok (.getfield 77, 3) := by decide +kernel
theorem dX7_frame_14 : decode cX7_frame 14 = .ok (.bipush 8, 2) := by decide +kernel
theorem dX7_frame_16 : decode cX7_frame 16 = .ok (.iload_n 1, 1) := by decide +kernel
theorem dX7_frame_17 : decode cX7_frame 17 = .ok (.imul, 1) := by decide +kernel
theorem dX7_frame_18 : decode cX7_frame 18 = .ok (.iload_n 3, 1) := by decide +kernel
theorem dX7_frame_19 : decode cX7_frame 19 = .ok (.iadd, 1) := by decide +kernel
theorem dX7_frame_20 : decode cX7_frame 20 = .ok (.iaload, 1) := by decide +kernel
theorem dX7_frame_21 : decode cX7_frame 21 = .ok (.istore 4, 2) := by decide +kernel
theorem dX7_frame_23 : decode cX7_frame 23 = .ok (.iload_n 2, 1) := by decide +kernel
theorem dX7_frame_24 : decode cX7_frame 24 = .ok (.ifCond .eq 21, 3) := by decide +kernel
theorem dX7_frame_27 : decode cX7_frame 27 = .ok (.iload 4, 2) := by decide +kernel
theorem dX7_frame_29 : decode cX7_frame 29 = .ok (.bipush (-48), 2) := by decide +kernel
theorem dX7_frame_31 : decode cX7_frame 31 = .ok (.if_icmp .lt 14, 3) := by decide +kernel
theorem dX7_frame_34 : decode cX7_frame 34 = .ok (.iload 4, 2) := by decide +kernel
theorem dX7_frame_36 : decode cX7_frame 36 = .ok (.bipush 48, 2) := by decide +kernel
theorem dX7_frame_38 : decode cX7_frame 38 = .ok (.if_icmp .gt 7, 3) := by decide +kernel
theorem dX7_frame_41 : decode cX7_frame 41 = .ok (.iconst 1, 1) := by decide +kernel
theorem dX7_frame_42 : decode cX7_frame 42 = .ok (.goto 4, 3) := by decide +kernel
theorem dX7_frame_45 : decode cX7_frame 45 = .ok (.iconst 0, 1) := by decide +kernel
theorem dX7_frame_46 : decode cX7_frame 46 = .ok (.istore_n 2, 1) := by decide +kernel
theorem dX7_frame_47 : decode cX7_frame 47 = .ok (.iinc 3 1, 3) := by decide +kernel
theorem dX7_frame_50 : decode cX7_frame 50 = .ok (.goto (-46), 3) := by decide +kernel
theorem dX7_frame_53 : decode cX7_frame 53 = .ok (.iload_n 2, 1) := by decide +kernel
theorem dX7_frame_54 : decode cX7_frame 54 = .ok (.ifCond .eq 21, 3) := by decide +kernel
theorem dX7_frame_57 : decode cX7_frame 57 = .ok (.aload_n 0, 1) := by decide +kernel
theorem dX7_frame_58 : decode cX7_frame 58 = .ok (.getfield 80, 3) := by decide +kernel
theorem dX7_frame_61 : decode cX7_frame 61 = .ok (.iload_n 1, 1) := by decide +kernel
theorem dX7_frame_62 : decode cX7_frame 62 = .ok (.iaload, 1) := by decide +kernel
theorem dX7_frame_63 : decode cX7_frame 63 = .ok (.iconst 2, 1) := by decide +kernel
theorem dX7_frame_64 : decode cX7_frame 64 = .ok (.if_icmp .lt 11, 3) := by decide +kernel
theorem dX7_frame_67 : decode cX7_frame 67 = .ok (.aload_n 0, 1) := by decide +kernel
theorem dX7_frame_68 : decode cX7_frame 68 = .ok (.iload_n 1, 1) := by decide +kernel
theorem dX7_frame_69 : decode cX7_frame 69 = .ok (.invokevirtual 155, 3) := by decide +kernel
theorem dX7_frame_72 : decode cX7_frame 72 = .ok (.goto 8, 3) := by decide +kernel
theorem dX7_frame_75 : decode cX7_frame 75 = .ok (.aload_n 0, 1) := by decide +kernel
theorem dX7_frame_76 : decode cX7_frame 76 = .ok (.iload_n 1, 1) := by decide +kernel
theorem dX7_frame_77 : decode cX7_frame 77 = .ok (.invokevirtual 158, 3) := by decide +kernel
theorem dX7_frame_80 : decode cX7_frame 80 = .ok (.aload_n 0, 1) := by decide +kernel
theorem dX7_frame_81 : decode cX7_frame 81 = .ok (.getfield 80, 3) := by decide +kernel
theorem dX7_frame_84 : decode cX7_frame 84 = .ok (.iload_n 1, 1) := by decide +kernel
theorem dX7_frame_85 : decode cX7_frame 85 = .ok (.iaload, 1) := by decide +kernel
theorem dX7_frame_86 : decode cX7_frame 86 = .ok (.iconst 3, 1) := by decide +kernel
theorem dX7_frame_87 : decode cX7_frame 87 = .ok (.if_icmp .ge 14, 3) := by decide +kernel
theorem dX7_frame_90 : decode cX7_frame 90 = .ok (.aload_n 0, 1) := by decide +kernel
theorem dX7_frame_91 : decode cX7_frame 91 = .ok (.getfield 80, 3) := by decide +kernel
theorem dX7_frame_94 : decode cX7_frame 94 = .ok (.iload_n 1, 1) := by decide +kernel
theorem dX7_frame_95 : decode cX7_frame 95 = .ok (.iaload, 1) := by decide +kernel
theorem dX7_frame_96 : decode cX7_frame 96 = .ok (.iconst 1, 1) := by decide +kernel
theorem dX7_frame_97 : decode cX7_frame 97 = .ok (.iadd, 1) := by decide +kernel
theorem dX7_frame_98 : decode cX7_frame 98 = .ok (.goto 4, 3) := by decide +kernel
theorem dX7_frame_101 : decode cX7_frame 101 = .ok (.iconst 3, 1) := by decide +kernel
theorem dX7_frame_102 : decode cX7_frame 102 = .ok (.istore_n 3, 1) := by decide +kernel
theorem dX7_frame_103 : decode cX7_frame 103 = .ok (.aload_n 0, 1) := by decide +kernel
theorem dX7_frame_104 : decode cX7_frame 104 = .ok (.getfield 80, 3) := by decide +kernel
theorem dX7_frame_107 : decode cX7_frame 107 = .ok (.iload_n 1, 1) := by decide +kernel
theorem dX7_frame_108 : decode cX7_frame 108 = .ok (.iload_n 2, 1) := by decide +kernel
theorem dX7_frame_109 : decode cX7_frame 109 = .ok (.ifCond .eq 7, 3) := by decide +kernel
theorem dX7_frame_112 : decode cX7_frame 112 = .ok (.iload_n 3, 1) := by decide +kernel
theorem dX7_frame_113 : decode cX7_frame 113 = .ok (.goto 4, 3) := by decide +kernel
theorem dX7_frame_116 : decode cX7_frame 116 = .ok (.iconst 0, 1) := by decide +kernel
theorem dX7_frame_117 : decode cX7_frame 117 = .ok (.iastore, 1) := by decide +kernel
theorem dX7_frame_118 : decode cX7_frame 118 = .ok (.aload_n 0, 1) := by decide +kernel
theorem dX7_frame_119 : decode cX7_frame 119 = .ok (.getfield 74, 3) := by decide +kernel
theorem dX7_frame_122 : decode cX7_frame 122 = .ok (.iload_n 1, 1) := by decide +kernel
theorem dX7_frame_123 : decode cX7_frame 123 = .ok (.iconst 0, 1) := by decide +kernel
theorem dX7_frame_124 : decode cX7_frame 124 = .ok (.iastore, 1) := by decide +kernel
theorem dX7_frame_125 : decode cX7_frame 125 = .ok (.return_, 1) := by decide +kernel
theorem dX7_frames_0 : decode cX7_frames 0 = .ok (.iconst 0, 1) := by decide +kernel
theorem dX7_frames_1 : decode cX7_frames 1 = .ok (.istore_n 2, 1) := by decide +kernel
theorem dX7_frames_2 : decode cX7_frames 2 = .ok (.iconst 0, 1) := by decide +kernel
theorem dX7_frames_3 : decode cX7_frames 3 = .ok (.istore_n 3, 1) := by decide +kernel
theorem dX7_frames_4 : decode cX7_frames 4 = .ok (.iload_n 1, 1) := by decide +kernel
theorem dX7_frames_5 : decode cX7_frames 5 = .ok (.ifCond .lt 46, 3) := by decide +kernel
theorem dX7_frames_8 : decode cX7_frames 8 = .ok (.iload_n 3, 1) := by decide +kernel
theorem dX7_frames_9 : decode cX7_frames 9 = .ok (.aload_n 0, 1) := by decide +kernel
theorem dX7_frames_10 : decode cX7_frames 10 = .ok (.getfield 35, 3) := by decide +kernel
theorem dX7_frames_13 : decode cX7_frames 13 = .ok (.iload_n 1, 1) := by decide +kernel
theorem dX7_frames_14 : decode cX7_frames 14 = .ok (.iaload, 1) := by decide +kernel
theorem dX7_frames_15 : decode cX7_frames 15 = .ok (.if_icmp .ge 36, 3) := by decide +kernel
theorem dX7_frames_18 : decode cX7_frames 18 = .ok (.aload_n 0, 1) := by decide +kernel
theorem dX7_frames_19 : decode cX7_frames 19 = .ok (.getfield 19, 3) := by decide +kernel
theorem dX7_frames_22 : decode cX7_frames 22 = .ok (.aload_n 0, 1) := by decide +kernel
theorem dX7_frames_23 : decode cX7_frames 23 = .ok (.iload_n 1, 1) := by decide +kernel
theorem dX7_frames_24 : decode cX7_frames 24 = .ok (.iload_n 3, 1) := by decide +kernel
theorem dX7_frames_25 : decode cX7_frames 25 = .ok (.invokevirtual 107, 3) := by decide +kernel
theorem dX7_frames_28 : decode cX7_frames 28 = .ok (.iaload, 1) := by decide +kernel
theorem dX7_frames_29 : decode cX7_frames 29 = .ok (.istore 4, 2) := by decide +kernel
theorem dX7_frames_31 : decode cX7_frames 31 = .ok (.iload_n 2, 1) := by decide +kernel
theorem dX7_frames_32 : decode cX7_frames 32 = .ok (.iload 4, 2) := by decide +kernel
theorem dX7_frames_34 : decode cX7_frames 34 = .ok (.ifCond .ne 7, 3) := by decide +kernel
theorem dX7_frames_37 : decode cX7_frames 37 = .ok (.iconst 1, 1) := by decide +kernel
theorem dX7_frames_38 : decode cX7_frames 38 = .ok (.goto 5, 3) := by decide +kernel
theorem dX7_frames_41 : decode cX7_frames 41 = .ok (.iload 4, 2) := by decide +kernel
theorem dX7_frames_43 : decode cX7_frames 43 = .ok (.iadd, 1) := by decide +kernel
theorem dX7_frames_44 : decode cX7_frames 44 = .ok (.istore_n 2, 1) := by decide +kernel
theorem dX7_frames_45 : decode cX7_frames 45 = .ok (.iinc 3 1, 3) := by decide +kernel
theorem dX7_frames_48 : decode cX7_frames 48 = .ok (.goto (-44), 3) := by decide +kernel
theorem dX7_frames_51 : decode cX7_frames 51 = .ok (.iload_n 2, 1) := by decide +kernel
theorem dX7_frames_52 : decode cX7_frames 52 = .ok (.ireturn, 1) := by decide +kernel
theorem dX7_freeBlock_0 : decode cX7_freeBlock 0 = .ok (.iconst (-1), 1) := by decide +kernel
theorem dX7_freeBlock_1 : decode cX7_freeBlock 1 = .ok (.istore_n 1, 1) := by decide +kernel
theorem dX7_freeBlock_2 : decode cX7_freeBlock 2 = .ok (.bipush 39, 2) := by decide +kernel
theorem dX7_freeBlock_4 : decode cX7_freeBlock 4 = .ok (.istore_n 2, 1) := by decide +kernel
theorem dX7_freeBlock_5 : decode cX7_freeBlock 5 = .ok (.iload_n 2, 1) := by decide +kernel
theorem dX7_freeBlock_6 : decode cX7_freeBlock 6 = .ok (.ifCond .lt 24, 3) := by decide +kernel
theorem dX7_freeBlock_9 : decode cX7_freeBlock 9 = .ok (.aload_n 0, 1) := by decide +kernel
theorem dX7_freeBlock_10 : decode cX7_freeBlock 10 = .ok (.getfield 13, 3) := by decide +kernel
theorem dX7_freeBlock_13 : decode cX7_freeBlock 13 = .ok (.iload_n 2, 1) := by decide +kernel
theorem dX7_freeBlock_14 : decode cX7_freeBlock 14 = .ok (.iaload, 1) := by decide +kernel
theorem dX7_freeBlock_15 : decode cX7_freeBlock 15 = .ok (.ifCond .ne 7, 3) := by decide +kernel
theorem dX7_freeBlock_18 : decode cX7_freeBlock 18 = .ok (.iload_n 2, 1) := by decide +kernel
theorem dX7_freeBlock_19 : decode cX7_freeBlock 19 = .ok (.goto 4, 3) := by decide +kernel
theorem dX7_freeBlock_22 : decode cX7_freeBlock 22 = .ok (.iload_n 1, 1) := by decide +kernel
theorem dX7_freeBlock_23 : decode cX7_freeBlock 23 = .ok (.istore_n 1, 1) := by decide +kernel
theorem dX7_freeBlock_24 : decode cX7_freeBlock 24 = .ok (.iinc 2 (-1), 3) := by decide +kernel
theorem dX7_freeBlock_27 : decode cX7_freeBlock 27 = .ok (.goto (-22), 3) := by decide +kernel
theorem dX7_freeBlock_30 : decode cX7_freeBlock 30 = .ok (.iload_n 1, 1) := by decide +kernel
theorem dX7_freeBlock_31 : decode cX7_freeBlock 31 = .ok (.ireturn, 1) := by decide +kernel
theorem dX7_greeting_0 : decode cX7_greeting 0 = .ok (.aload_n 0, 1) := by decide +kernel
theorem dX7_greeting_1 : decode cX7_greeting 1 = .ok (.aload_n 0, 1) := by decide +kernel
theorem dX7_greeting_2 : decode cX7_greeting 2 = .ok (.iload_n 1, 1) := by decide +kernel
theorem dX7_greeting_3 : decode cX7_greeting 3 = .ok (.invokevirtual 131, 3) := by decide +kernel
theorem dX7_greeting_6 : decode cX7_greeting 6 = .ok (.ifCond .ne 7, 3) := by decide +kernel
theorem dX7_greeting_9 : decode cX7_greeting 9 = .ok (.iconst 1, 1) := by decide +kernel
theorem dX7_greeting_10 : decode cX7_greeting 10 = .ok (.goto 17, 3) := by decide +kernel
theorem dX7_greeting_13 : decode cX7_greeting 13 = .ok (.iload_n 2, 1) := by decide +kernel
theorem dX7_greeting_14 : decode cX7_greeting 14 = .ok (.ifCond .lt 8, 3) := by decide +kernel
theorem dX7_greeting_17 : decode cX7_greeting 17 = .ok (.iload_n 2, 1) := by decide +kernel
theorem dX7_greeting_18 : decode cX7_greeting 18 = .ok (.iconst 2, 1) := by decide +kernel
theorem dX7_greeting_19 : decode cX7_greeting 19 = .ok (.if_icmp .le 7, 3) := by decide +kernel
theorem dX7_greeting_22 : decode cX7_greeting 22 = .ok (.iconst 2, 1) := by decide +kernel
theorem dX7_greeting_23 : decode cX7_greeting 23 = .ok (.goto 4, 3) := by decide +kernel
theorem dX7_greeting_26 : decode cX7_greeting 26 = .ok (.iconst 0, 1) := by decide +kernel
theorem dX7_greeting_27 : decode cX7_greeting 27 = .ok (.putfield 89, 3) := by decide +kernel
theorem dX7_greeting_30 : decode cX7_greeting 30 = .ok (.aload_n 0, 1) := by decide +kernel
theorem dX7_greeting_31 : decode cX7_greeting 31 = .ok (.getfield 89, 3) := by decide +kernel
theorem dX7_greeting_34 : decode cX7_greeting 34 = .ok (.ifCond .le 5, 3) := by decide +kernel
theorem dX7_greeting_37 : decode cX7_greeting 37 = .ok (.iconst 0, 1) := by decide +kernel
theorem dX7_greeting_38 : decode cX7_greeting 38 = .ok (.ireturn, 1) := by decide +kernel
theorem dX7_greeting_39 : decode cX7_greeting 39 = .ok (.aload_n 0, 1) := by decide +kernel
theorem dX7_greeting_40 : decode cX7_greeting 40 = .ok (.getfield 41, 3) := by decide +kernel
theorem dX7_greeting_43 : decode cX7_greeting 43 = .ok (.iconst 3, 1) := by decide +kernel
theorem dX7_greeting_44 : decode cX7_greeting 44 = .ok (.iload_n 1, 1) := by decide +kernel
theorem dX7_greeting_45 : decode cX7_greeting 45 = .ok (.imul, 1) := by decide +kernel
theorem dX7_greeting_46 : decode cX7_greeting 46 = .ok (.iload_n 2, 1) := by decide +kernel
theorem dX7_greeting_47 : decode cX7_greeting 47 = .ok (.iadd, 1) := by decide +kernel
theorem dX7_greeting_48 : decode cX7_greeting 48 = .ok (.iaload, 1) := by decide +kernel
theorem dX7_greeting_49 : decode cX7_greeting 49 = .ok (.istore 4, 2) := by decide +kernel
theorem dX7_greeting_51 : decode cX7_greeting 51 = .ok (.aload_n 0, 1) := by decide +kernel
theorem dX7_greeting_52 : decode cX7_greeting 52 = .ok (.iload_n 3, 1) := by decide +kernel
theorem dX7_greeting_53 : decode cX7_greeting 53 = .ok (.ifCond .lt 16, 3) := by decide +kernel
theorem dX7_greeting_56 : decode cX7_greeting 56 = .ok (.iload_n 3, 1) := by decide +kernel
theorem dX7_greeting_57 : decode cX7_greeting 57 = .ok (.bipush 8, 2) := by decide +kernel
theorem dX7_greeting_59 : decode cX7_greeting 59 = .ok (.aload_n 0, 1) := by decide +kernel
theorem dX7_greeting_60 : decode cX7_greeting 60 = .ok (.iload 4, 2) := by decide +kernel
theorem dX7_greeting_62 : decode cX7_greeting 62 = .ok (.invokevirtual 177, 3) := by decide +kernel
theorem dX7_greeting_65 : decode cX7_greeting 65 = .ok (.imul, 1) := by decide +kernel
theorem dX7_greeting_66 : decode cX7_greeting 66 = .ok (.if_icmp .lt 7, 3) := by decide +kernel
theorem dX7_greeting_69 : decode cX7_greeting 69 = .ok (.iconst 3, 1) := by decide +kernel
theorem dX7_greeting_70 : decode cX7_greeting 70 = .ok (.goto 4, 3) := by decide +kernel
theorem dX7_greeting_73 : decode cX7_greeting 73 = .ok (.iconst 0, 1) := by decide +kernel
theorem dX7_greeting_74 : decode cX7_greeting 74 = .ok (.putfield 89, 3) := by decide +kernel
theorem dX7_greeting_77 : decode cX7_greeting 77 = .ok (.aload_n 0, 1) := by decide +kernel
theorem dX7_greeting_78 : decode cX7_greeting 78 = .ok (.getfield 89, 3) := by decide +kernel
theorem dX7_greeting_81 : decode cX7_greeting 81 = .ok (.ifCond .le 7, 3) := by decide +kernel
theorem dX7_greeting_84 : decode cX7_greeting 84 = .ok (.iconst 0, 1) := by decide +kernel
theorem dX7_greeting_85 : decode cX7_greeting 85 = .ok (.goto 10, 3) := by decide +kernel
theorem dX7_greeting_88 : decode cX7_greeting 88 = .ok (.aload_n 0, 1) := by decide +kernel
theorem dX7_greeting_89 : decode cX7_greeting 89 = .ok (.iload 4, 2) := by decide +kernel
theorem dX7_greeting_91 : decode cX7_greeting 91 = .ok (.iload_n 3, 1) := by decide +kernel
theorem dX7_greeting_92 : decode cX7_greeting 92 = .ok (.invokevirtual 180, 3) := by decide +kernel
theorem dX7_greeting_95 : decode cX7_greeting 95 = .ok (.ireturn, 1) := by decide +kernel
theorem dX7_growGap_0 : decode cX7_growGap 0 = .ok (.aload_n 0, 1) := by decide +kernel
theorem dX7_growGap_1 : decode cX7_growGap 1 = .ok (.getfield 68, 3) := by decide +kernel
theorem dX7_growGap_4 : decode cX7_growGap 4 = .ok (.iload_n 1, 1) := by decide +kernel
theorem dX7_growGap_5 : decode cX7_growGap 5 = .ok (.iaload, 1) := by decide +kernel
theorem dX7_growGap_6 : decode cX7_growGap 6 = .ok (.istore_n 2, 1) := by decide +kernel
theorem dX7_growGap_7 : decode cX7_growGap 7 = .ok (.aload_n 0, 1) := by decide +kernel
theorem dX7_growGap_8 : decode cX7_growGap 8 = .ok (.getfield 80, 3) := by decide +kernel
theorem dX7_growGap_11 : decode cX7_growGap 11 = .ok (.iload_n 1, 1) := by decide +kernel
theorem dX7_growGap_12 : decode cX7_growGap 12 = .ok (.iaload, 1) := by decide +kernel
theorem dX7_growGap_13 : decode cX7_growGap 13 = .ok (.iconst 2, 1) := by decide +kernel
theorem dX7_growGap_14 : decode cX7_growGap 14 = .ok (.if_icmp .ne 7, 3) := by decide +kernel
theorem dX7_growGap_17 : decode cX7_growGap 17 = .ok (.iconst 1, 1) := by decide +kernel
theorem dX7_growGap_18 : decode cX7_growGap 18 = .ok (.goto 4, 3) := by decide +kernel
theorem dX7_growGap_21 : decode cX7_growGap 21 = .ok (.iconst 0, 1) := by decide +kernel
theorem dX7_growGap_22 : decode cX7_growGap 22 = .ok (.istore_n 3, 1) := by decide +kernel
theorem dX7_growGap_23 : decode cX7_growGap 23 = .ok (.aload_n 0, 1) := by decide +kernel
theorem dX7_growGap_24 : decode cX7_growGap 24 = .ok (.iload_n 2, 1) := by decide +kernel
theorem dX7_growGap_25 : decode cX7_growGap 25 = .ok (.aload_n 0, 1) := by decide +kernel
theorem dX7_growGap_26 : decode cX7_growGap 26 = .ok (.getfield 35, 3) := by decide +kernel
theorem dX7_growGap_29 : decode cX7_growGap 29 = .ok (.iload_n 2, 1) := by decide +kernel
theorem dX7_growGap_30 : decode cX7_growGap 30 = .ok (.iaload, 1) := by decide +kernel
theorem dX7_growGap_31 : decode cX7_growGap 31 = .ok (.iload_n 3, 1) := by decide +kernel
theorem dX7_growGap_32 : decode cX7_growGap 32 = .ok (.ifCond .eq 7, 3) := by decide +kernel
theorem dX7_growGap_35 : decode cX7_growGap 35 = .ok (.iconst 2, 1) := by decide +kernel
theorem dX7_growGap_36 : decode cX7_growGap 36 = .ok (.goto 4, 3) := by decide +kernel
theorem dX7_growGap_39 : decode cX7_growGap 39 = .ok (.iconst 1, 1) := by decide +kernel
theorem dX7_growGap_40 : decode cX7_growGap 40 = .ok (.isub, 1) := by decide +kernel
theorem dX7_growGap_41 : decode cX7_growGap 41 = .ok (.invokevirtual 107, 3) := by decide +kernel
theorem dX7_growGap_44 : decode cX7_growGap 44 = .ok (.istore 4, 2) := by decide +kernel
theorem dX7_growGap_46 : decode cX7_growGap 46 = .ok (.iload_n 3, 1) := by decide +kernel
theorem dX7_growGap_47 : decode cX7_growGap 47 = .ok (.ifCond .eq 7, 3) := by decide +kernel
theorem dX7_growGap_50 : decode cX7_growGap 50 = .ok (.iconst 3, 1) := by decide +kernel
theorem dX7_growGap_51 : decode cX7_growGap 51 = .ok (.goto 12, 3) := by decide +kernel
theorem dX7_growGap_54 : decode cX7_growGap 54 = .ok (.aload_n 0, 1) := by decide +kernel
theorem dX7_growGap_55 : decode cX7_growGap 55 = .ok (.getfield 19, 3) := by decide +kernel
theorem dX7_growGap_58 : decode cX7_growGap 58 = .ok (.iload 4, 2) := by decide +kernel
theorem dX7_growGap_60 : decode cX7_growGap 60 = .ok (.iaload, 1) := by decide +kernel
theorem dX7_growGap_61 : decode cX7_growGap 61 = .ok (.iconst 1, 1) := by decide +kernel
theorem dX7_growGap_62 : decode cX7_growGap 62 = .ok (.iadd, 1) := by decide +kernel
theorem dX7_growGap_63 : decode cX7_growGap 63 = .ok (.istore 5, 2) := by decide +kernel
theorem dX7_growGap_65 : decode cX7_growGap 65 = .ok (.aload_n 0, 1) := by decide +kernel
theorem dX7_growGap_66 : decode cX7_growGap 66 = .ok (.iload_n 1, 1) := by decide +kernel
theorem dX7_growGap_67 : decode cX7_growGap 67 = .ok (.iload_n 3, 1) := by decide +kernel
theorem dX7_growGap_68 : decode cX7_growGap 68 = .ok (.ifCond .eq 7, 3) := by decide +kernel
theorem dX7_growGap_71 : decode cX7_growGap 71 = .ok (.iconst (-1), 1) := by decide +kernel
theorem dX7_growGap_72 : decode cX7_growGap 72 = .ok (.goto 19, 3) := by decide +kernel
theorem dX7_growGap_75 : decode cX7_growGap 75 = .ok (.iload 5, 2) := by decide +kernel
theorem dX7_growGap_77 : decode cX7_growGap 77 = .ok (.invokestatic 115, 3) := by decide +kernel
theorem dX7_growGap_80 : decode cX7_growGap 80 = .ok (.aload_n 0, 1) := by decide +kernel
theorem dX7_growGap_81 : decode cX7_growGap 81 = .ok (.getfield 19, 3) := by decide +kernel
theorem dX7_growGap_84 : decode cX7_growGap 84 = .ok (.iload 4, 2) := by decide +kernel
theorem dX7_growGap_86 : decode cX7_growGap 86 = .ok (.iaload, 1) := by decide +kernel
theorem dX7_growGap_87 : decode cX7_growGap 87 = .ok (.invokestatic 115, 3) := by decide +kernel
theorem dX7_growGap_90 : decode cX7_growGap 90 = .ok (.isub, 1) := by decide +kernel
theorem dX7_growGap_91 : decode cX7_growGap 91 = .ok (.invokevirtual 141, 3) := by decide +kernel
theorem dX7_growGap_94 : decode cX7_growGap 94 = .ok (.ifCond .ne 11, 3) := by decide +kernel
theorem dX7_growGap_97 : decode cX7_growGap 97 = .ok (.aload_n 0, 1) := by decide +kernel
theorem dX7_growGap_98 : decode cX7_growGap 98 = .ok (.getfield 71, 3) := by decide +kernel
theorem dX7_growGap_101 : decode cX7_growGap 101 = .ok (.iload_n 1, 1) := by decide +kernel
theorem dX7_growGap_102 : decode cX7_growGap 102 = .ok (.iconst 1, 1) := by decide +kernel
theorem dX7_growGap_103 : decode cX7_growGap 103 = .ok (.bastore, 1) := by decide +kernel
theorem dX7_growGap_104 : decode cX7_growGap 104 = .ok (.return_, 1) := by decide +kernel
theorem dX7_growGap_105 : decode cX7_growGap 105 = .ok (.aload_n 0, 1) := by decide +kernel
theorem dX7_growGap_106 : decode cX7_growGap 106 = .ok (.getfield 19, 3) := by decide +kernel
theorem dX7_growGap_109 : decode cX7_growGap 109 = .ok (.iload 4, 2) := by decide +kernel
theorem dX7_growGap_111 : decode cX7_growGap 111 = .ok (.iload 5, 2) := by decide +kernel
theorem dX7_growGap_113 : decode cX7_growGap 113 = .ok (.iastore, 1) := by decide +kernel
theorem dX7_growGap_114 : decode cX7_growGap 114 = .ok (.iload_n 3, 1) := by decide +kernel
theorem dX7_growGap_115 : decode cX7_growGap 115 = .ok (.ifCond .eq 8, 3) := by decide +kernel
theorem dX7_growGap_118 : decode cX7_growGap 118 = .ok (.aload_n 0, 1) := by decide +kernel
theorem dX7_growGap_119 : decode cX7_growGap 119 = .ok (.iload_n 2, 1) := by decide +kernel
theorem dX7_growGap_120 : decode cX7_growGap 120 = .ok (.invokevirtual 152, 3) := by decide +kernel
theorem dX7_growGap_123 : decode cX7_growGap 123 = .ok (.aload_n 0, 1) := by decide +kernel
theorem dX7_growGap_124 : decode cX7_growGap 124 = .ok (.getfield 83, 3) := by decide +kernel
theorem dX7_growGap_127 : decode cX7_growGap 127 = .ok (.iload_n 1, 1) := by decide +kernel
theorem dX7_growGap_128 : decode cX7_growGap 128 = .ok (.iconst 0, 1) := by decide +kernel
theorem dX7_growGap_129 : decode cX7_growGap 129 = .ok (.iastore, 1) := by decide +kernel
theorem dX7_growGap_130 : decode cX7_growGap 130 = .ok (.aload_n 0, 1) := by decide +kernel
theorem dX7_growGap_131 : decode cX7_growGap 131 = .ok (.getfield 86, 3) := by decide +kernel
theorem dX7_growGap_134 : decode cX7_growGap 134 = .ok (.iload_n 1, 1) := by decide +kernel
theorem dX7_growGap_135 : decode cX7_growGap 135 = .ok (.iconst 0, 1) := by decide +kernel
theorem dX7_growGap_136 : decode cX7_growGap 136 = .ok (.iastore, 1) := by decide +kernel
theorem dX7_growGap_137 : decode cX7_growGap 137 = .ok (.return_, 1) := by decide +kernel
theorem dX7_hang_0 : decode cX7_hang 0 = .ok (.aload_n 0, 1) := by decide +kernel
theorem dX7_hang_1 : decode cX7_hang 1 = .ok (.iload_n 1, 1) := by decide +kernel
theorem dX7_hang_2 : decode cX7_hang 2 = .ok (.invokestatic 127, 3) := by decide +kernel
theorem dX7_hang_5 : decode cX7_hang 5 = .ok (.ifCond .ne 7, 3) := by decide +kernel
theorem dX7_hang_8 : decode cX7_hang 8 = .ok (.iconst 1, 1) := by decide +kernel
theorem dX7_hang_9 : decode cX7_hang 9 = .ok (.goto 17, 3) := by decide +kernel
theorem dX7_hang_12 : decode cX7_hang 12 = .ok (.aload_n 0, 1) := by decide +kernel
theorem dX7_hang_13 : decode cX7_hang 13 = .ok (.getfield 59, 3) := by decide +kernel
theorem dX7_hang_16 : decode cX7_hang 16 = .ok (.iload_n 1, 1) := by decide +kernel
theorem dX7_hang_17 : decode cX7_hang 17 = .ok (.baload, 1) := by decide +kernel
theorem dX7_hang_18 : decode cX7_hang 18 = .ok (.ifCond .ne 7, 3) := by decide +kernel
theorem dX7_hang_21 : decode cX7_hang 21 = .ok (.iconst 2, 1) := by decide +kernel
theorem dX7_hang_22 : decode cX7_hang 22 = .ok (.goto 4, 3) := by decide +kernel
theorem dX7_hang_25 : decode cX7_hang 25 = .ok (.iconst 0, 1) := by decide +kernel
theorem dX7_hang_26 : decode cX7_hang 26 = .ok (.putfield 89, 3) := by decide +kernel
theorem dX7_hang_29 : decode cX7_hang 29 = .ok (.aload_n 0, 1) := by decide +kernel
theorem dX7_hang_30 : decode cX7_hang 30 = .ok (.getfield 89, 3) := by decide +kernel
theorem dX7_hang_33 : decode cX7_hang 33 = .ok (.ifCond .le 5, 3) := by decide +kernel
theorem dX7_hang_36 : decode cX7_hang 36 = .ok (.iconst 0, 1) := by decide +kernel
theorem dX7_hang_37 : decode cX7_hang 37 = .ok (.ireturn, 1) := by decide +kernel
theorem dX7_hang_38 : decode cX7_hang 38 = .ok (.aload_n 0, 1) := by decide +kernel
theorem dX7_hang_39 : decode cX7_hang 39 = .ok (.getfield 74, 3) := by decide +kernel
theorem dX7_hang_42 : decode cX7_hang 42 = .ok (.iload_n 1, 1) := by decide +kernel
theorem dX7_hang_43 : decode cX7_hang 43 = .ok (.iaload, 1) := by decide +kernel
theorem dX7_hang_44 : decode cX7_hang 44 = .ok (.ifCond .le 39, 3) := by decide +kernel
theorem dX7_hang_47 : decode cX7_hang 47 = .ok (.aload_n 0, 1) := by decide +kernel
theorem dX7_hang_48 : decode cX7_hang 48 = .ok (.getfield 74, 3) := by decide +kernel
theorem dX7_hang_51 : decode cX7_hang 51 = .ok (.iload_n 1, 1) := by decide +kernel
theorem dX7_hang_52 : decode cX7_hang 52 = .ok (.iaload, 1) := by decide +kernel
theorem dX7_hang_53 : decode cX7_hang 53 = .ok (.istore_n 2, 1) := by decide +kernel
theorem dX7_hang_54 : decode cX7_hang 54 = .ok (.iload_n 2, 1) := by decide +kernel
theorem dX7_hang_55 : decode cX7_hang 55 = .ok (.bipush 8, 2) := by decide +kernel
theorem dX7_hang_57 : decode cX7_hang 57 = .ok (.if_icmp .ge 21, 3) := by decide +kernel
theorem dX7_hang_60 : decode cX7_hang 60 = .ok (.aload_n 0, 1) := by decide +kernel
theorem dX7_hang_61 : decode cX7_hang 61 = .ok (.getfield 77, 3) := by decide +kernel
theorem dX7_hang_64 : decode cX7_hang 64 = .ok (.bipush 8, 2) := by decide +kernel
theorem dX7_hang_66 : decode cX7_hang 66 = .ok (.iload_n 1, 1) := by decide +kernel
theorem dX7_hang_67 : decode cX7_hang 67 = .ok (.imul, 1) := by decide +kernel
theorem dX7_hang_68 : decode cX7_hang 68 = .ok (.iload_n 2, 1) := by decide +kernel
theorem dX7_hang_69 : decode cX7_hang 69 = .ok (.iadd, 1) := by decide +kernel
theorem dX7_hang_70 : decode cX7_hang 70 = .ok (.iconst 0, 1) := by decide +kernel
theorem dX7_hang_71 : decode cX7_hang 71 = .ok (.iastore, 1) := by decide +kernel
theorem dX7_hang_72 : decode cX7_hang 72 = .ok (.iinc 2 1, 3) := by decide +kernel
theorem dX7_hang_75 : decode cX7_hang 75 = .ok (.goto (-21), 3) := by decide +kernel
theorem dX7_hang_78 : decode cX7_hang 78 = .ok (.aload_n 0, 1) := by decide +kernel
theorem dX7_hang_79 : decode cX7_hang 79 = .ok (.iload_n 1, 1) := by decide +kernel
theorem dX7_hang_80 : decode cX7_hang 80 = .ok (.invokevirtual 161, 3) := by decide +kernel
theorem dX7_hang_83 : decode cX7_hang 83 = .ok (.aload_n 0, 1) := by decide +kernel
theorem dX7_hang_84 : decode cX7_hang 84 = .ok (.getfield 68, 3) := by decide +kernel
theorem dX7_hang_87 : decode cX7_hang 87 = .ok (.iload_n 1, 1) := by decide +kernel
theorem dX7_hang_88 : decode cX7_hang 88 = .ok (.iaload, 1) := by decide +kernel
theorem dX7_hang_89 : decode cX7_hang 89 = .ok (.istore_n 2, 1) := by decide +kernel
theorem dX7_hang_90 : decode cX7_hang 90 = .ok (.aload_n 0, 1) := by decide +kernel
theorem dX7_hang_91 : decode cX7_hang 91 = .ok (.getfield 59, 3) := by decide +kernel
theorem dX7_hang_94 : decode cX7_hang 94 = .ok (.iload_n 1, 1) := by decide +kernel
theorem dX7_hang_95 : decode cX7_hang 95 = .ok (.iconst 0, 1) := by decide +kernel
theorem dX7_hang_96 : decode cX7_hang 96 = .ok (.bastore, 1) := by decide +kernel
theorem dX7_hang_97 : decode cX7_hang 97 = .ok (.aload_n 0, 1) := by decide +kernel
theorem dX7_hang_98 : decode cX7_hang 98 = .ok (.getfield 28, 3) := by decide +kernel
theorem dX7_hang_101 : decode cX7_hang 101 = .ok (.iload_n 2, 1) := by decide +kernel
theorem dX7_hang_102 : decode cX7_hang 102 = .ok (.iconst 0, 1) := by decide +kernel
theorem dX7_hang_103 : decode cX7_hang 103 = .ok (.bastore, 1) := by decide +kernel
theorem dX7_hang_104 : decode cX7_hang 104 = .ok (.aload_n 0, 1) := by decide +kernel
theorem dX7_hang_105 : decode cX7_hang 105 = .ok (.getfield 35, 3) := by decide +kernel
theorem dX7_hang_108 : decode cX7_hang 108 = .ok (.iload_n 2, 1) := by decide +kernel
theorem dX7_hang_109 : decode cX7_hang 109 = .ok (.iaload, 1) := by decide +kernel
theorem dX7_hang_110 : decode cX7_hang 110 = .ok (.ifCond .ne 5, 3) := by decide +kernel
theorem dX7_hang_113 : decode cX7_hang 113 = .ok (.iconst (-1), 1) := by decide +kernel
theorem dX7_hang_114 : decode cX7_hang 114 = .ok (.ireturn, 1) := by decide +kernel
theorem dX7_hang_115 : decode cX7_hang 115 = .ok (.aload_n 0, 1) := by decide +kernel
theorem dX7_hang_116 : decode cX7_hang 116 = .ok (.getfield 25, 3) := by decide +kernel
theorem dX7_hang_119 : decode cX7_hang 119 = .ok (.iload_n 2, 1) := by decide +kernel
theorem dX7_hang_120 : decode cX7_hang 120 = .ok (.iconst 1, 1) := by decide +kernel
theorem dX7_hang_121 : decode cX7_hang 121 = .ok (.iastore, 1) := by decide +kernel
theorem dX7_hang_122 : decode cX7_hang 122 = .ok (.aload_n 0, 1) := by decide +kernel
theorem dX7_hang_123 : decode cX7_hang 123 = .ok (.getfield 65, 3) := by decide +kernel
theorem dX7_hang_126 : decode cX7_hang 126 = .ok (.iload_n 1, 1) := by decide +kernel
theorem dX7_hang_127 : decode cX7_hang 127 = .ok (.iaload, 1) := by decide +kernel
theorem dX7_hang_128 : decode cX7_hang 128 = .ok (.ifCond .ne 16, 3) := by decide +kernel
theorem dX7_hang_131 : decode cX7_hang 131 = .ok (.aload_n 0, 1) := by decide +kernel
theorem dX7_hang_132 : decode cX7_hang 132 = .ok (.aload_n 0, 1) := by decide +kernel
theorem dX7_hang_133 : decode cX7_hang 133 = .ok (.getfield 62, 3) := by decide +kernel
theorem dX7_hang_136 : decode cX7_hang 136 = .ok (.iload_n 1, 1) := by decide +kernel
theorem dX7_hang_137 : decode cX7_hang 137 = .ok (.iaload, 1) := by decide +kernel
theorem dX7_hang_138 : decode cX7_hang 138 = .ok (.iload_n 2, 1) := by decide +kernel
theorem dX7_hang_139 : decode cX7_hang 139 = .ok (.iconst (-1), 1) := by decide +kernel
theorem dX7_hang_140 : decode cX7_hang 140 = .ok (.invokevirtual 164, 3) := by decide +kernel
theorem dX7_hang_143 : decode cX7_hang 143 = .ok (.ireturn, 1) := by decide +kernel
theorem dX7_hang_144 : decode cX7_hang 144 = .ok (.iconst 3, 1) := by decide +kernel
theorem dX7_hang_145 : decode cX7_hang 145 = .ok (.aload_n 0, 1) := by decide +kernel
theorem dX7_hang_146 : decode cX7_hang 146 = .ok (.getfield 62, 3) := by decide +kernel
theorem dX7_hang_149 : decode cX7_hang 149 = .ok (.iload_n 1, 1) := by decide +kernel
theorem dX7_hang_150 : decode cX7_hang 150 = .ok (.iaload, 1) := by decide +kernel
theorem dX7_hang_151 : decode cX7_hang 151 = .ok (.imul, 1) := by decide +kernel
theorem dX7_hang_152 : decode cX7_hang 152 = .ok (.aload_n 0, 1) := by decide +kernel
theorem dX7_hang_153 : decode cX7_hang 153 = .ok (.getfield 65, 3) := by decide +kernel
theorem dX7_hang_156 : decode cX7_hang 156 = .ok (.iload_n 1, 1) := by decide +kernel
theorem dX7_hang_157 : decode cX7_hang 157 = .ok (.iaload, 1) := by decide +kernel
theorem dX7_hang_158 : decode cX7_hang 158 = .ok (.iadd, 1) := by decide +kernel
theorem dX7_hang_159 : decode cX7_hang 159 = .ok (.iconst 1, 1) := by decide +kernel
theorem dX7_hang_160 : decode cX7_hang 160 = .ok (.isub, 1) := by decide +kernel
theorem dX7_hang_161 : decode cX7_hang 161 = .ok (.istore_n 3, 1) := by decide +kernel
theorem dX7_hang_162 : decode cX7_hang 162 = .ok (.aload_n 0, 1) := by decide +kernel
theorem dX7_hang_163 : decode cX7_hang 163 = .ok (.aload_n 0, 1) := by decide +kernel
theorem dX7_hang_164 : decode cX7_hang 164 = .ok (.getfield 41, 3) := by decide +kernel
theorem dX7_hang_167 : decode cX7_hang 167 = .ok (.iload_n 3, 1) := by decide +kernel
theorem dX7_hang_168 : decode cX7_hang 168 = .ok (.iaload, 1) := by decide +kernel
theorem dX7_hang_169 : decode cX7_hang 169 = .ok (.invokevirtual 168, 3) := by decide +kernel
theorem dX7_hang_172 : decode cX7_hang 172 = .ok (.istore 4, 2) := by decide +kernel
theorem dX7_hang_174 : decode cX7_hang 174 = .ok (.aload_n 0, 1) := by decide +kernel
theorem dX7_hang_175 : decode cX7_hang 175 = .ok (.getfield 41, 3) := by decide +kernel
theorem dX7_hang_178 : decode cX7_hang 178 = .ok (.iload_n 3, 1) := by decide +kernel
theorem dX7_hang_179 : decode cX7_hang 179 = .ok (.iload_n 2, 1) := by decide +kernel
theorem dX7_hang_180 : decode cX7_hang 180 = .ok (.iastore, 1) := by decide +kernel
theorem dX7_hang_181 : decode cX7_hang 181 = .ok (.iconst 0, 1) := by decide +kernel
theorem dX7_hang_182 : decode cX7_hang 182 = .ok (.ireturn, 1) := by decide +kernel
theorem dX7_hear_0 : decode cX7_hear 0 = .ok (.aload_n 0, 1) := by decide +kernel
theorem dX7_hear_1 : decode cX7_hear 1 = .ok (.getfield 7, 3) := by decide +kernel
theorem dX7_hear_4 : decode cX7_hear 4 = .ok (.aload_n 0, 1) := by decide +kernel
theorem dX7_hear_5 : decode cX7_hear 5 = .ok (.getfield 93, 3) := by decide +kernel
theorem dX7_hear_8 : decode cX7_hear 8 = .ok (.iaload, 1) := by decide +kernel
theorem dX7_hear_9 : decode cX7_hear 9 = .ok (.istore_n 2, 1) := by decide +kernel
theorem dX7_hear_10 : decode cX7_hear 10 = .ok (.iload_n 2, 1) := by decide +kernel
theorem dX7_hear_11 : decode cX7_hear 11 = .ok (.bipush 8, 2) := by decide +kernel
theorem dX7_hear_13 : decode cX7_hear 13 = .ok (.idiv, 1) := by decide +kernel
theorem dX7_hear_14 : decode cX7_hear 14 = .ok (.istore_n 3, 1) := by decide +kernel
theorem dX7_hear_15 : decode cX7_hear 15 = .ok (.iload_n 3, 1) := by decide +kernel
theorem dX7_hear_16 : decode cX7_hear 16 = .ok (.iload_n 1, 1) := by decide +kernel
theorem dX7_hear_17 : decode cX7_hear 17 = .ok (.iconst 4, 1) := by decide +kernel
theorem dX7_hear_18 : decode cX7_hear 18 = .ok (.iand, 1) := by decide +kernel
theorem dX7_hear_19 : decode cX7_hear 19 = .ok (.ifCond .le 7, 3) := by decide +kernel
theorem dX7_hear_22 : decode cX7_hear 22 = .ok (.iload_n 2, 1) := by decide +kernel
theorem dX7_hear_23 : decode cX7_hear 23 = .ok (.goto 4, 3) := by decide +kernel
theorem dX7_hear_26 : decode cX7_hear 26 = .ok (.iconst 0, 1) := by decide +kernel
theorem dX7_hear_27 : decode cX7_hear 27 = .ok (.iadd, 1) := by decide +kernel
theorem dX7_hear_28 : decode cX7_hear 28 = .ok (.istore_n 3, 1) := by decide +kernel
theorem dX7_hear_29 : decode cX7_hear 29 = .ok (.iload_n 3, 1) := by decide +kernel
theorem dX7_hear_30 : decode cX7_hear 30 = .ok (.iload_n 1, 1) := by decide +kernel
theorem dX7_hear_31 : decode cX7_hear 31 = .ok (.iconst 2, 1) := by decide +kernel
theorem dX7_hear_32 : decode cX7_hear 32 = .ok (.iand, 1) := by decide +kernel
theorem dX7_hear_33 : decode cX7_hear 33 = .ok (.ifCond .le 9, 3) := by decide +kernel
theorem dX7_hear_36 : decode cX7_hear 36 = .ok (.iload_n 2, 1) := by decide +kernel
theorem dX7_hear_37 : decode cX7_hear 37 = .ok (.iconst 2, 1) := by decide +kernel
theorem dX7_hear_38 : decode cX7_hear 38 = .ok (.idiv, 1) := by decide +kernel
theorem dX7_hear_39 : decode cX7_hear 39 = .ok (.goto 4, 3) := by decide +kernel
theorem dX7_hear_42 : decode cX7_hear 42 = .ok (.iconst 0, 1) := by decide +kernel
theorem dX7_hear_43 : decode cX7_hear 43 = .ok (.iadd, 1) := by decide +kernel
theorem dX7_hear_44 : decode cX7_hear 44 = .ok (.istore_n 3, 1) := by decide +kernel
theorem dX7_hear_45 : decode cX7_hear 45 = .ok (.iload_n 3, 1) := by decide +kernel
theorem dX7_hear_46 : decode cX7_hear 46 = .ok (.iload_n 1, 1) := by decide +kernel
theorem dX7_hear_47 : decode cX7_hear 47 = .ok (.iconst 1, 1) := by decide +kernel
theorem dX7_hear_48 : decode cX7_hear 48 = .ok (.iand, 1) := by decide +kernel
theorem dX7_hear_49 : decode cX7_hear 49 = .ok (.ifCond .le 9, 3) := by decide +kernel
theorem dX7_hear_52 : decode cX7_hear 52 = .ok (.iload_n 2, 1) := by decide +kernel
theorem dX7_hear_53 : decode cX7_hear 53 = .ok (.iconst 4, 1) := by decide +kernel
theorem dX7_hear_54 : decode cX7_hear 54 = .ok (.idiv, 1) := by decide +kernel
theorem dX7_hear_55 : decode cX7_hear 55 = .ok (.goto 4, 3) := by decide +kernel
theorem dX7_hear_58 : decode cX7_hear 58 = .ok (.iconst 0, 1) := by decide +kernel
theorem dX7_hear_59 : decode cX7_hear 59 = .ok (.iadd, 1) := by decide +kernel
theorem dX7_hear_60 : decode cX7_hear 60 = .ok (.istore_n 3, 1) := by decide +kernel
theorem dX7_hear_61 : decode cX7_hear 61 = .ok (.iload_n 1, 1) := by decide +kernel
theorem dX7_hear_62 : decode cX7_hear 62 = .ok (.bipush 8, 2) := by decide +kernel
theorem dX7_hear_64 : decode cX7_hear 64 = .ok (.iand, 1) := by decide +kernel
theorem dX7_hear_65 : decode cX7_hear 65 = .ok (.ifCond .le 12, 3) := by decide +kernel
theorem dX7_hear_68 : decode cX7_hear 68 = .ok (.aload_n 0, 1) := by decide +kernel
theorem dX7_hear_69 : decode cX7_hear 69 = .ok (.getfield 96, 3) := by decide +kernel
theorem dX7_hear_72 : decode cX7_hear 72 = .ok (.iload_n 3, 1) := by decide +kernel
theorem dX7_hear_73 : decode cX7_hear 73 = .ok (.isub, 1) := by decide +kernel
theorem dX7_hear_74 : decode cX7_hear 74 = .ok (.goto 9, 3) := by decide +kernel
theorem dX7_hear_77 : decode cX7_hear 77 = .ok (.aload_n 0, 1) := by decide +kernel
theorem dX7_hear_78 : decode cX7_hear 78 = .ok (.getfield 96, 3) := by decide +kernel
theorem dX7_hear_81 : decode cX7_hear 81 = .ok (.iload_n 3, 1) := by decide +kernel
theorem dX7_hear_82 : decode cX7_hear 82 = .ok (.iadd, 1) := by decide +kernel
theorem dX7_hear_83 : decode cX7_hear 83 = .ok (.istore 4, 2) := by decide +kernel
theorem dX7_hear_85 : decode cX7_hear 85 = .ok (.aload_n 0, 1) := by decide +kernel
theorem dX7_hear_86 : decode cX7_hear 86 = .ok (.iload 4, 2) := by decide +kernel
theorem dX7_hear_88 : decode cX7_hear 88 = .ok (.sipush (-32768), 3) := by decide +kernel
theorem dX7_hear_91 : decode cX7_hear 91 = .ok (.if_icmp .ge 9, 3) := by decide +kernel
theorem dX7_hear_94 : decode cX7_hear 94 = .ok (.sipush (-32768), 3) := by decide +kernel
theorem dX7_hear_97 : decode cX7_hear 97 = .ok (.goto 19, 3) := by decide +kernel
theorem dX7_hear_100 : decode cX7_hear 100 = .ok (.iload 4, 2) := by decide +kernel
theorem dX7_hear_102 : decode cX7_hear 102 = .ok (.sipush 32767, 3) := by decide +kernel
theorem dX7_hear_105 : decode cX7_hear 105 = .ok (.if_icmp .le 9, 3) := by decide +kernel
theorem dX7_hear_108 : decode cX7_hear 108 = .ok (.sipush 32767, 3) := by decide +kernel
theorem dX7_hear_111 : decode cX7_hear 111 = .ok (.goto 5, 3) := by decide +kernel
theorem dX7_hear_114 : decode cX7_hear 114 = .ok (.iload 4, 2) := by decide +kernel
theorem dX7_hear_116 : decode cX7_hear 116 = .ok (.putfield 96, 3) := by decide +kernel
theorem dX7_hear_119 : decode cX7_hear 119 = .ok (.iload_n 1, 1) := by decide +kernel
theorem dX7_hear_120 : decode cX7_hear 120 = .ok (.bipush 7, 2) := by decide +kernel
theorem dX7_hear_122 : decode cX7_hear 122 = .ok (.iand, 1) := by decide +kernel
theorem dX7_hear_123 : decode cX7_hear 123 = .ok (.istore 5, 2) := by decide +kernel
theorem dX7_hear_125 : decode cX7_hear 125 = .ok (.iload 5, 2) := by decide +kernel
theorem dX7_hear_127 : decode cX7_hear 127 = .ok (.iconst 4, 1) := by decide +kernel
theorem dX7_hear_128 : decode cX7_hear 128 = .ok (.if_icmp .ge 12, 3) := by decide +kernel
theorem dX7_hear_131 : decode cX7_hear 131 = .ok (.aload_n 0, 1) := by decide +kernel
theorem dX7_hear_132 : decode cX7_hear 132 = .ok (.getfield 93, 3) := by decide +kernel
theorem dX7_hear_135 : decode cX7_hear 135 = .ok (.iconst 1, 1) := by decide +kernel
theorem dX7_hear_136 : decode cX7_hear 136 = .ok (.isub, 1) := by decide +kernel
theorem dX7_hear_137 : decode cX7_hear 137 = .ok (.goto 14, 3) := by decide +kernel
theorem dX7_hear_140 : decode cX7_hear 140 = .ok (.aload_n 0, 1) := by decide +kernel
theorem dX7_hear_141 : decode cX7_hear 141 = .ok (.getfield 93, 3) := by decide +kernel
theorem dX7_hear_144 : decode cX7_hear 144 = .ok (.iconst 2, 1) := by decide +kernel
theorem dX7_hear_145 : decode cX7_hear 145 = .ok (.iload 5, 2) := by decide +kernel
theorem dX7_hear_147 : decode cX7_hear 147 = .ok (.iconst 3, 1) := by decide +kernel
theorem dX7_hear_148 : decode cX7_hear 148 = .ok (.isub, 1) := by decide +kernel
theorem dX7_hear_149 : decode cX7_hear 149 = .ok (.imul, 1) := by decide +kernel
theorem dX7_hear_150 : decode cX7_hear 150 = .ok (.iadd, 1) := by decide +kernel
theorem dX7_hear_151 : decode cX7_hear 151 = .ok (.istore 6, 2) := by decide +kernel
theorem dX7_hear_153 : decode cX7_hear 153 = .ok (.aload_n 0, 1) := by decide +kernel
theorem dX7_hear_154 : decode cX7_hear 154 = .ok (.iload 6, 2) := by decide +kernel
theorem dX7_hear_156 : decode cX7_hear 156 = .ok (.ifCond .ge 7, 3) := by decide +kernel
theorem dX7_hear_159 : decode cX7_hear 159 = .ok (.iconst 0, 1) := by decide +kernel
theorem dX7_hear_160 : decode cX7_hear 160 = .ok (.goto 17, 3) := by decide +kernel
theorem dX7_hear_163 : decode cX7_hear 163 = .ok (.iload 6, 2) := by decide +kernel
theorem dX7_hear_165 : decode cX7_hear 165 = .ok (.bipush 48, 2) := by decide +kernel
theorem dX7_hear_167 : decode cX7_hear 167 = .ok (.if_icmp .le 8, 3) := by decide +kernel
theorem dX7_hear_170 : decode cX7_hear 170 = .ok (.bipush 48, 2) := by decide +kernel
theorem dX7_hear_172 : decode cX7_hear 172 = .ok (.goto 5, 3) := by decide +kernel
theorem dX7_hear_175 : decode cX7_hear 175 = .ok (.iload 6, 2) := by decide +kernel
theorem dX7_hear_177 : decode cX7_hear 177 = .ok (.putfield 93, 3) := by decide +kernel
theorem dX7_hear_180 : decode cX7_hear 180 = .ok (.return_, 1) := by decide +kernel
theorem dX7_isBox_0 : decode cX7_isBox 0 = .ok (.iload_n 1, 1) := by decide +kernel
theorem dX7_isBox_1 : decode cX7_isBox 1 = .ok (.ifCond .lt 15, 3) := by decide +kernel
theorem dX7_isBox_4 : decode cX7_isBox 4 = .ok (.iload_n 1, 1) := by decide +kernel
theorem dX7_isBox_5 : decode cX7_isBox 5 = .ok (.aload_n 0, 1) := by decide +kernel
theorem dX7_isBox_6 : decode cX7_isBox 6 = .ok (.getfield 118, 3) := by decide +kernel
theorem dX7_isBox_9 : decode cX7_isBox 9 = .ok (.if_icmp .ge 7, 3) := by decide +kernel
theorem dX7_isBox_12 : decode cX7_isBox 12 = .ok (.iconst 1, 1) := by decide +kernel
theorem dX7_isBox_13 : decode cX7_isBox 13 = .ok (.goto 4, 3) := by decide +kernel
theorem dX7_isBox_16 : decode cX7_isBox 16 = .ok (.iconst 0, 1) := by decide +kernel
theorem dX7_isBox_17 : decode cX7_isBox 17 = .ok (.ireturn, 1) := by decide +kernel
theorem dX7_isFull_0 : decode cX7_isFull 0 = .ok (.aload_n 0, 1) := by decide +kernel
theorem dX7_isFull_1 : decode cX7_isFull 1 = .ok (.getfield 121, 3) := by decide +kernel
theorem dX7_isFull_4 : decode cX7_isFull 4 = .ok (.istore_n 1, 1) := by decide +kernel
theorem dX7_isFull_5 : decode cX7_isFull 5 = .ok (.iconst 0, 1) := by decide +kernel
theorem dX7_isFull_6 : decode cX7_isFull 6 = .ok (.istore_n 2, 1) := by decide +kernel
theorem dX7_isFull_7 : decode cX7_isFull 7 = .ok (.iload_n 2, 1) := by decide +kernel
theorem dX7_isFull_8 : decode cX7_isFull 8 = .ok (.iconst 3, 1) := by decide +kernel
theorem dX7_isFull_9 : decode cX7_isFull 9 = .ok (.if_icmp .ge 35, 3) := by decide +kernel
theorem dX7_isFull_12 : decode cX7_isFull 12 = .ok (.aload_n 0, 1) := by decide +kernel
theorem dX7_isFull_13 : decode cX7_isFull 13 = .ok (.getfield 59, 3) := by decide +kernel
theorem dX7_isFull_16 : decode cX7_isFull 16 = .ok (.iload_n 2, 1) := by decide +kernel
theorem dX7_isFull_17 : decode cX7_isFull 17 = .ok (.baload, 1) := by decide +kernel
theorem dX7_isFull_18 : decode cX7_isFull 18 = .ok (.ifCond .eq 18, 3) := by decide +kernel
theorem dX7_isFull_21 : decode cX7_isFull 21 = .ok (.aload_n 0, 1) := by decide +kernel
theorem dX7_isFull_22 : decode cX7_isFull 22 = .ok (.getfield 65, 3) := by decide +kernel
theorem dX7_isFull_25 : decode cX7_isFull 25 = .ok (.iload_n 2, 1) := by decide +kernel
theorem dX7_isFull_26 : decode cX7_isFull 26 = .ok (.iaload, 1) := by decide +kernel
theorem dX7_isFull_27 : decode cX7_isFull 27 = .ok (.ifCond .ne 9, 3) := by decide +kernel
theorem dX7_isFull_30 : decode cX7_isFull 30 = .ok (.iload_n 1, 1) := by decide +kernel
theorem dX7_isFull_31 : decode cX7_isFull 31 = .ok (.iconst 1, 1) := by decide +kernel
theorem dX7_isFull_32 : decode cX7_isFull 32 = .ok (.iadd, 1) := by decide +kernel
theorem dX7_isFull_33 : decode cX7_isFull 33 = .ok (.goto 4, 3) := by decide +kernel
theorem dX7_isFull_36 : decode cX7_isFull 36 = .ok (.iload_n 1, 1) := by decide +kernel
theorem dX7_isFull_37 : decode cX7_isFull 37 = .ok (.istore_n 1, 1) := by decide +kernel
theorem dX7_isFull_38 : decode cX7_isFull 38 = .ok (.iinc 2 1, 3) := by decide +kernel
theorem dX7_isFull_41 : decode cX7_isFull 41 = .ok (.goto (-34), 3) := by decide +kernel
theorem dX7_isFull_44 : decode cX7_isFull 44 = .ok (.iload_n 1, 1) := by decide +kernel
theorem dX7_isFull_45 : decode cX7_isFull 45 = .ok (.bipush 16, 2) := by decide +kernel
theorem dX7_isFull_47 : decode cX7_isFull 47 = .ok (.if_icmp .lt 7, 3) := by decide +kernel
theorem dX7_isFull_50 : decode cX7_isFull 50 = .ok (.iconst 1, 1) := by decide +kernel
theorem dX7_isFull_51 : decode cX7_isFull 51 = .ok (.goto 4, 3) := by decide +kernel
theorem dX7_isFull_54 : decode cX7_isFull 54 = .ok (.iconst 0, 1) := by decide +kernel
theorem dX7_isFull_55 : decode cX7_isFull 55 = .ok (.ireturn, 1) := by decide +kernel
theorem dX7_isLine_0 : decode cX7_isLine 0 = .ok (.iload_n 0, 1) := by decide +kernel
theorem dX7_isLine_1 : decode cX7_isLine 1 = .ok (.ifCond .lt 12, 3) := by decide +kernel
theorem dX7_isLine_4 : decode cX7_isLine 4 = .ok (.iload_n 0, 1) := by decide +kernel
theorem dX7_isLine_5 : decode cX7_isLine 5 = .ok (.iconst 3, 1) := by decide +kernel
theorem dX7_isLine_6 : decode cX7_isLine 6 = .ok (.if_icmp .ge 7, 3) := by decide +kernel
theorem dX7_isLine_9 : decode cX7_isLine 9 = .ok (.iconst 1, 1) := by decide +kernel
theorem dX7_isLine_10 : decode cX7_isLine 10 = .ok (.goto 4, 3) := by decide +kernel
theorem dX7_isLine_13 : decode cX7_isLine 13 = .ok (.iconst 0, 1) := by decide +kernel
theorem dX7_isLine_14 : decode cX7_isLine 14 = .ok (.ireturn, 1) := by decide +kernel
theorem dX7_isPaid_0 : decode cX7_isPaid 0 = .ok (.aload_n 0, 1) := by decide +kernel
theorem dX7_isPaid_1 : decode cX7_isPaid 1 = .ok (.getfield 65, 3) := by decide +kernel
theorem dX7_isPaid_4 : decode cX7_isPaid 4 = .ok (.iload_n 1, 1) := by decide +kernel
theorem dX7_isPaid_5 : decode cX7_isPaid 5 = .ok (.iaload, 1) := by decide +kernel
theorem dX7_isPaid_6 : decode cX7_isPaid 6 = .ok (.ifCond .gt 29, 3) := by decide +kernel
theorem dX7_isPaid_9 : decode cX7_isPaid 9 = .ok (.aload_n 0, 1) := by decide +kernel
theorem dX7_isPaid_10 : decode cX7_isPaid 10 = .ok (.aload_n 0, 1) := by decide +kernel
theorem dX7_isPaid_11 : decode cX7_isPaid 11 = .ok (.getfield 62, 3) := by decide +kernel
theorem dX7_isPaid_14 : decode cX7_isPaid 14 = .ok (.iload_n 1, 1) := by decide +kernel
theorem dX7_isPaid_15 : decode cX7_isPaid 15 = .ok (.iaload, 1) := by decide +kernel
theorem dX7_isPaid_16 : decode cX7_isPaid 16 = .ok (.invokevirtual 138, 3) := by decide +kernel
theorem dX7_isPaid_19 : decode cX7_isPaid 19 = .ok (.iload_n 2, 1) := by decide +kernel
theorem dX7_isPaid_20 : decode cX7_isPaid 20 = .ok (.iadd, 1) := by decide +kernel
theorem dX7_isPaid_21 : decode cX7_isPaid 21 = .ok (.aload_n 0, 1) := by decide +kernel
theorem dX7_isPaid_22 : decode cX7_isPaid 22 = .ok (.getfield 38, 3) := by decide +kernel
theorem dX7_isPaid_25 : decode cX7_isPaid 25 = .ok (.aload_n 0, 1) := by decide +kernel
theorem dX7_isPaid_26 : decode cX7_isPaid 26 = .ok (.getfield 62, 3) := by decide +kernel
theorem dX7_isPaid_29 : decode cX7_isPaid 29 = .ok (.iload_n 1, 1) := by decide +kernel
theorem dX7_isPaid_30 : decode cX7_isPaid 30 = .ok (.iaload, 1) := by decide +kernel
theorem dX7_isPaid_31 : decode cX7_isPaid 31 = .ok (.iaload, 1) := by decide +kernel
theorem dX7_isPaid_32 : decode cX7_isPaid 32 = .ok (.if_icmp .gt 7, 3) := by decide +kernel
theorem dX7_isPaid_35 : decode cX7_isPaid 35 = .ok (.iconst 1, 1) := by decide +kernel
theorem dX7_isPaid_36 : decode cX7_isPaid 36 = .ok (.goto 4, 3) := by decide +kernel
theorem dX7_isPaid_39 : decode cX7_isPaid 39 = .ok (.iconst 0, 1) := by decide +kernel
theorem dX7_isPaid_40 : decode cX7_isPaid 40 = .ok (.ireturn, 1) := by decide +kernel
theorem dX7_lastBlock_0 : decode cX7_lastBlock 0 = .ok (.iconst (-1), 1) := by decide +kernel
theorem dX7_lastBlock_1 : decode cX7_lastBlock 1 = .ok (.istore_n 1, 1) := by decide +kernel
theorem dX7_lastBlock_2 : decode cX7_lastBlock 2 = .ok (.iconst 0, 1) := by decide +kernel
theorem dX7_lastBlock_3 : decode cX7_lastBlock 3 = .ok (.istore_n 2, 1) := by decide +kernel
theorem dX7_lastBlock_4 : decode cX7_lastBlock 4 = .ok (.iload_n 2, 1) := by decide +kernel
theorem dX7_lastBlock_5 : decode cX7_lastBlock 5 = .ok (.bipush 40, 2) := by decide +kernel
theorem dX7_lastBlock_7 : decode cX7_lastBlock 7 = .ok (.if_icmp .ge 24, 3) := by decide +kernel
theorem dX7_lastBlock_10 : decode cX7_lastBlock 10 = .ok (.aload_n 0, 1) := by decide +kernel
theorem dX7_lastBlock_11 : decode cX7_lastBlock 11 = .ok (.getfield 13, 3) := by decide +kernel
theorem dX7_lastBlock_14 : decode cX7_lastBlock 14 = .ok (.iload_n 2, 1) := by decide +kernel
theorem dX7_lastBlock_15 : decode cX7_lastBlock 15 = .ok (.iaload, 1) := by decide +kernel
theorem dX7_lastBlock_16 : decode cX7_lastBlock 16 = .ok (.ifCond .le 7, 3) := by decide +kernel
theorem dX7_lastBlock_19 : decode cX7_lastBlock 19 = .ok (.iload_n 2, 1) := by decide +kernel
theorem dX7_lastBlock_20 : decode cX7_lastBlock 20 = .ok (.goto 4, 3) := by decide +kernel
theorem dX7_lastBlock_23 : decode cX7_lastBlock 23 = .ok (.iload_n 1, 1) := by decide +kernel
theorem dX7_lastBlock_24 : decode cX7_lastBlock 24 = .ok (.istore_n 1, 1) := by decide +kernel
theorem dX7_lastBlock_25 : decode cX7_lastBlock 25 = .ok (.iinc 2 1, 3) := by decide +kernel
theorem dX7_lastBlock_28 : decode cX7_lastBlock 28 = .ok (.goto (-24), 3) := by decide +kernel
theorem dX7_lastBlock_31 : decode cX7_lastBlock 31 = .ok (.iload_n 1, 1) := by decide +kernel
theorem dX7_lastBlock_32 : decode cX7_lastBlock 32 = .ok (.ireturn, 1) := by decide +kernel
theorem dX7_length_0 : decode cX7_length 0 = .ok (.aload_n 0, 1) := by decide +kernel
theorem dX7_length_1 : decode cX7_length 1 = .ok (.aload_n 0, 1) := by decide +kernel
theorem dX7_length_2 : decode cX7_length 2 = .ok (.iload_n 1, 1) := by decide +kernel
theorem dX7_length_3 : decode cX7_length 3 = .ok (.invokevirtual 131, 3) := by decide +kernel
theorem dX7_length_6 : decode cX7_length 6 = .ok (.ifCond .ne 7, 3) := by decide +kernel
theorem dX7_length_9 : decode cX7_length 9 = .ok (.iconst 1, 1) := by decide +kernel
theorem dX7_length_10 : decode cX7_length 10 = .ok (.goto 17, 3) := by decide +kernel
theorem dX7_length_13 : decode cX7_length 13 = .ok (.iload_n 2, 1) := by decide +kernel
theorem dX7_length_14 : decode cX7_length 14 = .ok (.ifCond .lt 8, 3) := by decide +kernel
theorem dX7_length_17 : decode cX7_length 17 = .ok (.iload_n 2, 1) := by decide +kernel
theorem dX7_length_18 : decode cX7_length 18 = .ok (.iconst 2, 1) := by decide +kernel
theorem dX7_length_19 : decode cX7_length 19 = .ok (.if_icmp .le 7, 3) := by decide +kernel
theorem dX7_length_22 : decode cX7_length 22 = .ok (.iconst 2, 1) := by decide +kernel
theorem dX7_length_23 : decode cX7_length 23 = .ok (.goto 4, 3) := by decide +kernel
theorem dX7_length_26 : decode cX7_length 26 = .ok (.iconst 0, 1) := by decide +kernel
theorem dX7_length_27 : decode cX7_length 27 = .ok (.putfield 89, 3) := by decide +kernel
theorem dX7_length_30 : decode cX7_length 30 = .ok (.aload_n 0, 1) := by decide +kernel
theorem dX7_length_31 : decode cX7_length 31 = .ok (.getfield 89, 3) := by decide +kernel
theorem dX7_length_34 : decode cX7_length 34 = .ok (.ifCond .le 7, 3) := by decide +kernel
theorem dX7_length_37 : decode cX7_length 37 = .ok (.iconst 0, 1) := by decide +kernel
theorem dX7_length_38 : decode cX7_length 38 = .ok (.goto 20, 3) := by decide +kernel
theorem dX7_length_41 : decode cX7_length 41 = .ok (.bipush 8, 2) := by decide +kernel
theorem dX7_length_43 : decode cX7_length 43 = .ok (.aload_n 0, 1) := by decide +kernel
theorem dX7_length_44 : decode cX7_length 44 = .ok (.aload_n 0, 1) := by decide +kernel
theorem dX7_length_45 : decode cX7_length 45 = .ok (.getfield 41, 3) := by decide +kernel
theorem dX7_length_48 : decode cX7_length 48 = .ok (.iconst 3, 1) := by decide +kernel
theorem dX7_length_49 : decode cX7_length 49 = .ok (.iload_n 1, 1) := by decide +kernel
theorem dX7_length_50 : decode cX7_length 50 = .ok (.imul, 1) := by decide +kernel
theorem dX7_length_51 : decode cX7_length 51 = .ok (.iload_n 2, 1) := by decide +kernel
theorem dX7_length_52 : decode cX7_length 52 = .ok (.iadd, 1) := by decide +kernel
theorem dX7_length_53 : decode cX7_length 53 = .ok (.iaload, 1) := by decide +kernel
theorem dX7_length_54 : decode cX7_length 54 = .ok (.invokevirtual 177, 3) := by decide +kernel
theorem dX7_length_57 : decode cX7_length 57 = .ok (.imul, 1) := by decide +kernel
theorem dX7_length_58 : decode cX7_length 58 = .ok (.ireturn, 1) := by decide +kernel
theorem dX7_letGo_0 : decode cX7_letGo 0 = .ok (.iload_n 1, 1) := by decide +kernel
theorem dX7_letGo_1 : decode cX7_letGo 1 = .ok (.ifCond .ge 5, 3) := by decide +kernel
theorem dX7_letGo_4 : decode cX7_letGo 4 = .ok (.iconst 0, 1) := by decide +kernel
theorem dX7_letGo_5 : decode cX7_letGo 5 = .ok (.ireturn, 1) := by decide +kernel
theorem dX7_letGo_6 : decode cX7_letGo 6 = .ok (.aload_n 0, 1) := by decide +kernel
theorem dX7_letGo_7 : decode cX7_letGo 7 = .ok (.getfield 25, 3) := by decide +kernel
theorem dX7_letGo_10 : decode cX7_letGo 10 = .ok (.iload_n 1, 1) := by decide +kernel
theorem dX7_letGo_11 : decode cX7_letGo 11 = .ok (.dup2, 1) := by decide +kernel
theorem dX7_letGo_12 : decode cX7_letGo 12 = .ok (.iaload, 1) := by decide +kernel
theorem dX7_letGo_13 : decode cX7_letGo 13 = .ok (.iconst 1, 1) := by decide +kernel
theorem dX7_letGo_14 : decode cX7_letGo 14 = .ok (.isub, 1) := by decide +kernel
theorem dX7_letGo_15 : decode cX7_letGo 15 = .ok (.iastore, 1) := by decide +kernel
theorem dX7_letGo_16 : decode cX7_letGo 16 = .ok (.aload_n 0, 1) := by decide +kernel
theorem dX7_letGo_17 : decode cX7_letGo 17 = .ok (.getfield 25, 3) := by decide +kernel
theorem dX7_letGo_20 : decode cX7_letGo 20 = .ok (.iload_n 1, 1) := by decide +kernel
theorem dX7_letGo_21 : decode cX7_letGo 21 = .ok (.iaload, 1) := by decide +kernel
theorem dX7_letGo_22 : decode cX7_letGo 22 = .ok (.ifCond .ne 11, 3) := by decide +kernel
theorem dX7_letGo_25 : decode cX7_letGo 25 = .ok (.aload_n 0, 1) := by decide +kernel
theorem dX7_letGo_26 : decode cX7_letGo 26 = .ok (.iload_n 1, 1) := by decide +kernel
theorem dX7_letGo_27 : decode cX7_letGo 27 = .ok (.invokevirtual 111, 3) := by decide +kernel
theorem dX7_letGo_30 : decode cX7_letGo 30 = .ok (.goto 4, 3) := by decide +kernel
theorem dX7_letGo_33 : decode cX7_letGo 33 = .ok (.iconst 0, 1) := by decide +kernel
theorem dX7_letGo_34 : decode cX7_letGo 34 = .ok (.ireturn, 1) := by decide +kernel
theorem dX7_mark_0 : decode cX7_mark 0 = .ok (.aload_n 0, 1) := by decide +kernel
theorem dX7_mark_1 : decode cX7_mark 1 = .ok (.iload_n 1, 1) := by decide +kernel
theorem dX7_mark_2 : decode cX7_mark 2 = .ok (.invokevirtual 174, 3) := by decide +kernel
theorem dX7_mark_5 : decode cX7_mark 5 = .ok (.istore_n 3, 1) := by decide +kernel
theorem dX7_mark_6 : decode cX7_mark 6 = .ok (.aload_n 0, 1) := by decide +kernel
theorem dX7_mark_7 : decode cX7_mark 7 = .ok (.iload_n 3, 1) := by decide +kernel
theorem dX7_mark_8 : decode cX7_mark 8 = .ok (.ifCond .ge 7, 3) := by decide +kernel
theorem dX7_mark_11 : decode cX7_mark 11 = .ok (.iconst 1, 1) := by decide +kernel
theorem dX7_mark_12 : decode cX7_mark 12 = .ok (.goto 17, 3) := by decide +kernel
theorem dX7_mark_15 : decode cX7_mark 15 = .ok (.iload_n 2, 1) := by decide +kernel
theorem dX7_mark_16 : decode cX7_mark 16 = .ok (.ifCond .lt 8, 3) := by decide +kernel
theorem dX7_mark_19 : decode cX7_mark 19 = .ok (.iload_n 2, 1) := by decide +kernel
theorem dX7_mark_20 : decode cX7_mark 20 = .ok (.iconst 2, 1) := by decide +kernel
theorem dX7_mark_21 : decode cX7_mark 21 = .ok (.if_icmp .le 7, 3) := by decide +kernel
theorem dX7_mark_24 : decode cX7_mark 24 = .ok (.iconst 2, 1) := by decide +kernel
theorem dX7_mark_25 : decode cX7_mark 25 = .ok (.goto 4, 3) := by decide +kernel
theorem dX7_mark_28 : decode cX7_mark 28 = .ok (.iconst 0, 1) := by decide +kernel
theorem dX7_mark_29 : decode cX7_mark 29 = .ok (.putfield 89, 3) := by decide +kernel
theorem dX7_mark_32 : decode cX7_mark 32 = .ok (.aload_n 0, 1) := by decide +kernel
theorem dX7_mark_33 : decode cX7_mark 33 = .ok (.getfield 89, 3) := by decide +kernel
theorem dX7_mark_36 : decode cX7_mark 36 = .ok (.ifCond .le 5, 3) := by decide +kernel
theorem dX7_mark_39 : decode cX7_mark 39 = .ok (.iconst 0, 1) := by decide +kernel
theorem dX7_mark_40 : decode cX7_mark 40 = .ok (.ireturn, 1) := by decide +kernel
theorem dX7_mark_41 : decode cX7_mark 41 = .ok (.aload_n 0, 1) := by decide +kernel
theorem dX7_mark_42 : decode cX7_mark 42 = .ok (.getfield 50, 3) := by decide +kernel
theorem dX7_mark_45 : decode cX7_mark 45 = .ok (.iload_n 3, 1) := by decide +kernel
theorem dX7_mark_46 : decode cX7_mark 46 = .ok (.iaload, 1) := by decide +kernel
theorem dX7_mark_47 : decode cX7_mark 47 = .ok (.istore 4, 2) := by decide +kernel
theorem dX7_mark_49 : decode cX7_mark 49 = .ok (.aload_n 0, 1) := by decide +kernel
theorem dX7_mark_50 : decode cX7_mark 50 = .ok (.getfield 50, 3) := by decide +kernel
theorem dX7_mark_53 : decode cX7_mark 53 = .ok (.iload_n 3, 1) := by decide +kernel
theorem dX7_mark_54 : decode cX7_mark 54 = .ok (.iload_n 2, 1) := by decide +kernel
theorem dX7_mark_55 : decode cX7_mark 55 = .ok (.iastore, 1) := by decide +kernel
theorem dX7_mark_56 : decode cX7_mark 56 = .ok (.iload 4, 2) := by decide +kernel
theorem dX7_mark_58 : decode cX7_mark 58 = .ok (.ireturn, 1) := by decide +kernel
theorem dX7_moveBlock_0 : decode cX7_moveBlock 0 = .ok (.aload_n 0, 1) := by decide +kernel
theorem dX7_moveBlock_1 : decode cX7_moveBlock 1 = .ok (.getfield 13, 3) := by decide +kernel
theorem dX7_moveBlock_4 : decode cX7_moveBlock 4 = .ok (.iload_n 2, 1) := by decide +kernel
theorem dX7_moveBlock_5 : decode cX7_moveBlock 5 = .ok (.aload_n 0, 1) := by decide +kernel
theorem dX7_moveBlock_6 : decode cX7_moveBlock 6 = .ok (.getfield 13, 3) := by decide +kernel
theorem dX7_moveBlock_9 : decode cX7_moveBlock 9 = .ok (.iload_n 1, 1) := by decide +kernel
theorem dX7_moveBlock_10 : decode cX7_moveBlock 10 = .ok (.iaload, 1) := by decide +kernel
theorem dX7_moveBlock_11 : decode cX7_moveBlock 11 = .ok (.iastore, 1) := by decide +kernel
theorem dX7_moveBlock_12 : decode cX7_moveBlock 12 = .ok (.aload_n 0, 1) := by decide +kernel
theorem dX7_moveBlock_13 : decode cX7_moveBlock 13 = .ok (.getfield 16, 3) := by decide +kernel
theorem dX7_moveBlock_16 : decode cX7_moveBlock 16 = .ok (.iload_n 2, 1) := by decide +kernel
theorem dX7_moveBlock_17 : decode cX7_moveBlock 17 = .ok (.aload_n 0, 1) := by decide +kernel
theorem dX7_moveBlock_18 : decode cX7_moveBlock 18 = .ok (.getfield 16, 3) := by decide +kernel
theorem dX7_moveBlock_21 : decode cX7_moveBlock 21 = .ok (.iload_n 1, 1) := by decide +kernel
theorem dX7_moveBlock_22 : decode cX7_moveBlock 22 = .ok (.iaload, 1) := by decide +kernel
theorem dX7_moveBlock_23 : decode cX7_moveBlock 23 = .ok (.iastore, 1) := by decide +kernel
theorem dX7_moveBlock_24 : decode cX7_moveBlock 24 = .ok (.aload_n 0, 1) := by decide +kernel
theorem dX7_moveBlock_25 : decode cX7_moveBlock 25 = .ok (.getfield 13, 3) := by decide +kernel
theorem dX7_moveBlock_28 : decode cX7_moveBlock 28 = .ok (.iload_n 1, 1) := by decide +kernel
theorem dX7_moveBlock_29 : decode cX7_moveBlock 29 = .ok (.iconst 0, 1) := by decide +kernel
theorem dX7_moveBlock_30 : decode cX7_moveBlock 30 = .ok (.iastore, 1) := by decide +kernel
theorem dX7_moveBlock_31 : decode cX7_moveBlock 31 = .ok (.iconst 0, 1) := by decide +kernel
theorem dX7_moveBlock_32 : decode cX7_moveBlock 32 = .ok (.istore_n 3, 1) := by decide +kernel
theorem dX7_moveBlock_33 : decode cX7_moveBlock 33 = .ok (.iload_n 3, 1) := by decide +kernel
theorem dX7_moveBlock_34 : decode cX7_moveBlock 34 = .ok (.iconst 4, 1) := by decide +kernel
theorem dX7_moveBlock_35 : decode cX7_moveBlock 35 = .ok (.if_icmp .ge 49, 3) := by decide +kernel
theorem dX7_moveBlock_38 : decode cX7_moveBlock 38 = .ok (.aload_n 0, 1) := by decide +kernel
theorem dX7_moveBlock_39 : decode cX7_moveBlock 39 = .ok (.getfield 19, 3) := by decide +kernel
theorem dX7_moveBlock_42 : decode cX7_moveBlock 42 = .ok (.iconst 4, 1) := by decide +kernel
theorem dX7_moveBlock_43 : decode cX7_moveBlock 43 = .ok (.iload_n 2, 1) := by decide +kernel
theorem dX7_moveBlock_44 : decode cX7_moveBlock 44 = .ok (.imul, 1) := by decide +kernel
theorem dX7_moveBlock_45 : decode cX7_moveBlock 45 = .ok (.iload_n 3, 1) := by decide +kernel
theorem dX7_moveBlock_46 : decode cX7_moveBlock 46 = .ok (.iadd, 1) := by decide +kernel
theorem dX7_moveBlock_47 : decode cX7_moveBlock 47 = .ok (.aload_n 0, 1) := by decide +kernel
theorem dX7_moveBlock_48 : decode cX7_moveBlock 48 = .ok (.getfield 19, 3) := by decide +kernel
theorem dX7_moveBlock_51 : decode cX7_moveBlock 51 = .ok (.iconst 4, 1) := by decide +kernel
theorem dX7_moveBlock_52 : decode cX7_moveBlock 52 = .ok (.iload_n 1, 1) := by decide +kernel
theorem dX7_moveBlock_53 : decode cX7_moveBlock 53 = .ok (.imul, 1) := by decide +kernel
theorem dX7_moveBlock_54 : decode cX7_moveBlock 54 = .ok (.iload_n 3, 1) := by decide +kernel
theorem dX7_moveBlock_55 : decode cX7_moveBlock 55 = .ok (.iadd, 1) := by decide +kernel
theorem dX7_moveBlock_56 : decode cX7_moveBlock 56 = .ok (.iaload, 1) := by decide +kernel
theorem dX7_moveBlock_57 : decode cX7_moveBlock 57 = .ok (.iastore, 1) := by decide +kernel
theorem dX7_moveBlock_58 : decode cX7_moveBlock 58 = .ok (.aload_n 0, 1) := by decide +kernel
theorem dX7_moveBlock_59 : decode cX7_moveBlock 59 = .ok (.getfield 22, 3) := by decide +kernel
theorem dX7_moveBlock_62 : decode cX7_moveBlock 62 = .ok (.iconst 4, 1) := by decide +kernel
theorem dX7_moveBlock_63 : decode cX7_moveBlock 63 = .ok (.iload_n 2, 1) := by decide +kernel
theorem dX7_moveBlock_64 : decode cX7_moveBlock 64 = .ok (.imul, 1) := by decide +kernel
theorem dX7_moveBlock_65 : decode cX7_moveBlock 65 = .ok (.iload_n 3, 1) := by decide +kernel
theorem dX7_moveBlock_66 : decode cX7_moveBlock 66 = .ok (.iadd, 1) := by decide +kernel
theorem dX7_moveBlock_67 : decode cX7_moveBlock 67 = .ok (.aload_n 0, 1) := by decide +kernel
theorem dX7_moveBlock_68 : decode cX7_moveBlock 68 = .ok (.getfield 22, 3) := by decide +kernel
theorem dX7_moveBlock_71 : decode cX7_moveBlock 71 = .ok (.iconst 4, 1) := by decide +kernel
theorem dX7_moveBlock_72 : decode cX7_moveBlock 72 = .ok (.iload_n 1, 1) := by decide +kernel
theorem dX7_moveBlock_73 : decode cX7_moveBlock 73 = .ok (.imul, 1) := by decide +kernel
theorem dX7_moveBlock_74 : decode cX7_moveBlock 74 = .ok (.iload_n 3, 1) := by decide +kernel
theorem dX7_moveBlock_75 : decode cX7_moveBlock 75 = .ok (.iadd, 1) := by decide +kernel
theorem dX7_moveBlock_76 : decode cX7_moveBlock 76 = .ok (.iaload, 1) := by decide +kernel
theorem dX7_moveBlock_77 : decode cX7_moveBlock 77 = .ok (.iastore, 1) := by decide +kernel
theorem dX7_moveBlock_78 : decode cX7_moveBlock 78 = .ok (.iinc 3 1, 3) := by decide +kernel
theorem dX7_moveBlock_81 : decode cX7_moveBlock 81 = .ok (.goto (-48), 3) := by decide +kernel
theorem dX7_moveBlock_84 : decode cX7_moveBlock 84 = .ok (.iconst 0, 1) := by decide +kernel
theorem dX7_moveBlock_85 : decode cX7_moveBlock 85 = .ok (.istore_n 3, 1) := by decide +kernel
theorem dX7_moveBlock_86 : decode cX7_moveBlock 86 = .ok (.iload_n 3, 1) := by decide +kernel
theorem dX7_moveBlock_87 : decode cX7_moveBlock 87 = .ok (.bipush 40, 2) := by decide +kernel
theorem dX7_moveBlock_89 : decode cX7_moveBlock 89 = .ok (.if_icmp .ge 44, 3) := by decide +kernel
theorem dX7_moveBlock_92 : decode cX7_moveBlock 92 = .ok (.aload_n 0, 1) := by decide +kernel
theorem dX7_moveBlock_93 : decode cX7_moveBlock 93 = .ok (.getfield 16, 3) := by decide +kernel
theorem dX7_moveBlock_96 : decode cX7_moveBlock 96 = .ok (.iload_n 3, 1) := by decide +kernel
theorem dX7_moveBlock_97 : decode cX7_moveBlock 97 = .ok (.aload_n 0, 1) := by decide +kernel
theorem dX7_moveBlock_98 : decode cX7_moveBlock 98 = .ok (.getfield 13, 3) := by decide +kernel
theorem dX7_moveBlock_101 : decode cX7_moveBlock 101 = .ok (.iload_n 3, 1) := by decide +kernel
theorem dX7_moveBlock_102 : decode cX7_moveBlock 102 = .ok (.iaload, 1) := by decide +kernel
theorem dX7_moveBlock_103 : decode cX7_moveBlock 103 = .ok (.ifCond .le 17, 3) := by decide +kernel
theorem dX7_moveBlock_106 : decode cX7_moveBlock 106 = .ok (.aload_n 0, 1) := by decide +kernel
theorem dX7_moveBlock_107 : decode cX7_moveBlock 107 = .ok (.getfield 16, 3) := by decide +kernel
theorem dX7_moveBlock_110 : decode cX7_moveBlock 110 = .ok (.iload_n 3, 1) := by decide +kernel
theorem dX7_moveBlock_111 : decode cX7_moveBlock 111 = .ok (.iaload, 1) := by decide +kernel
theorem dX7_moveBlock_112 : decode cX7_moveBlock 112 = .ok (.iload_n 1, 1) := by decide +kernel
theorem dX7_moveBlock_113 : decode cX7_moveBlock 113 = .ok (.if_icmp .ne 7, 3) := by decide +kernel
theorem dX7_moveBlock_116 : decode cX7_moveBlock 116 = .ok (.iload_n 2, 1) := by decide +kernel
theorem dX7_moveBlock_117 : decode cX7_moveBlock 117 = .ok (.goto 9, 3) := by decide +kernel
theorem dX7_moveBlock_120 : decode cX7_moveBlock 120 = .ok (.aload_n 0, 1) := by decide +kernel
theorem dX7_moveBlock_121 : decode cX7_moveBlock 121 = .ok (.getfield 16, 3) := by decide +kernel
theorem dX7_moveBlock_124 : decode cX7_moveBlock 124 = .ok (.iload_n 3, 1) := by decide +kernel
theorem dX7_moveBlock_125 : decode cX7_moveBlock 125 = .ok (.iaload, 1) := by decide +kernel
theorem dX7_moveBlock_126 : decode cX7_moveBlock 126 = .ok (.iastore, 1) := by decide +kernel
theorem dX7_moveBlock_127 : decode cX7_moveBlock 127 = .ok (.iinc 3 1, 3) := by decide +kernel
theorem dX7_moveBlock_130 : decode cX7_moveBlock 130 = .ok (.goto (-44), 3) := by decide +kernel
theorem dX7_moveBlock_133 : decode cX7_moveBlock 133 = .ok (.iconst 0, 1) := by decide +kernel
theorem dX7_moveBlock_134 : decode cX7_moveBlock 134 = .ok (.istore_n 3, 1) := by decide +kernel
theorem dX7_moveBlock_135 : decode cX7_moveBlock 135 = .ok (.iload_n 3, 1) := by decide +kernel
theorem dX7_moveBlock_136 : decode cX7_moveBlock 136 = .ok (.bipush 48, 2) := by decide +kernel
theorem dX7_moveBlock_138 : decode cX7_moveBlock 138 = .ok (.if_icmp .ge 44, 3) := by decide +kernel
theorem dX7_moveBlock_141 : decode cX7_moveBlock 141 = .ok (.aload_n 0, 1) := by decide +kernel
theorem dX7_moveBlock_142 : decode cX7_moveBlock 142 = .ok (.getfield 32, 3) := by decide +kernel
theorem dX7_moveBlock_145 : decode cX7_moveBlock 145 = .ok (.iload_n 3, 1) := by decide +kernel
theorem dX7_moveBlock_146 : decode cX7_moveBlock 146 = .ok (.aload_n 0, 1) := by decide +kernel
theorem dX7_moveBlock_147 : decode cX7_moveBlock 147 = .ok (.getfield 35, 3) := by decide +kernel
theorem dX7_moveBlock_150 : decode cX7_moveBlock 150 = .ok (.iload_n 3, 1) := by decide +kernel
theorem dX7_moveBlock_151 : decode cX7_moveBlock 151 = .ok (.iaload, 1) := by decide +kernel
theorem dX7_moveBlock_152 : decode cX7_moveBlock 152 = .ok (.ifCond .le 17, 3) := by decide +kernel
theorem dX7_moveBlock_155 : decode cX7_moveBlock 155 = .ok (.aload_n 0, 1) := by decide +kernel
theorem dX7_moveBlock_156 : decode cX7_moveBlock 156 = .ok (.getfield 32, 3) := by decide +kernel
theorem dX7_moveBlock_159 : decode cX7_moveBlock 159 = .ok (.iload_n 3, 1) := by decide +kernel
theorem dX7_moveBlock_160 : decode cX7_moveBlock 160 = .ok (.iaload, 1) := by decide +kernel
theorem dX7_moveBlock_161 : decode cX7_moveBlock 161 = .ok (.iload_n 1, 1) := by decide +kernel
theorem dX7_moveBlock_162 : decode cX7_moveBlock 162 = .ok (.if_icmp .ne 7, 3) := by decide +kernel
theorem dX7_moveBlock_165 : decode cX7_moveBlock 165 = .ok (.iload_n 2, 1) := by decide +kernel
theorem dX7_moveBlock_166 : decode cX7_moveBlock 166 = .ok (.goto 9, 3) := by decide +kernel
theorem dX7_moveBlock_169 : decode cX7_moveBlock 169 = .ok (.aload_n 0, 1) := by decide +kernel
theorem dX7_moveBlock_170 : decode cX7_moveBlock 170 = .ok (.getfield 32, 3) := by decide +kernel
theorem dX7_moveBlock_173 : decode cX7_moveBlock 173 = .ok (.iload_n 3, 1) := by decide +kernel
theorem dX7_moveBlock_174 : decode cX7_moveBlock 174 = .ok (.iaload, 1) := by decide +kernel
theorem dX7_moveBlock_175 : decode cX7_moveBlock 175 = .ok (.iastore, 1) := by decide +kernel
theorem dX7_moveBlock_176 : decode cX7_moveBlock 176 = .ok (.iinc 3 1, 3) := by decide +kernel
theorem dX7_moveBlock_179 : decode cX7_moveBlock 179 = .ok (.goto (-44), 3) := by decide +kernel
theorem dX7_moveBlock_182 : decode cX7_moveBlock 182 = .ok (.return_, 1) := by decide +kernel
theorem dX7_next_0 : decode cX7_next 0 = .ok (.aload_n 0, 1) := by decide +kernel
theorem dX7_next_1 : decode cX7_next 1 = .ok (.aload_n 0, 1) := by decide +kernel
theorem dX7_next_2 : decode cX7_next 2 = .ok (.iload_n 1, 1) := by decide +kernel
theorem dX7_next_3 : decode cX7_next 3 = .ok (.invokevirtual 131, 3) := by decide +kernel
theorem dX7_next_6 : decode cX7_next 6 = .ok (.ifCond .ne 7, 3) := by decide +kernel
theorem dX7_next_9 : decode cX7_next 9 = .ok (.iconst 1, 1) := by decide +kernel
theorem dX7_next_10 : decode cX7_next 10 = .ok (.goto 17, 3) := by decide +kernel
theorem dX7_next_13 : decode cX7_next 13 = .ok (.iload_n 2, 1) := by decide +kernel
theorem dX7_next_14 : decode cX7_next 14 = .ok (.ifCond .lt 8, 3) := by decide +kernel
theorem dX7_next_17 : decode cX7_next 17 = .ok (.iload_n 2, 1) := by decide +kernel
theorem dX7_next_18 : decode cX7_next 18 = .ok (.iconst 2, 1) := by decide +kernel
theorem dX7_next_19 : decode cX7_next 19 = .ok (.if_icmp .le 7, 3) := by decide +kernel
theorem dX7_next_22 : decode cX7_next 22 = .ok (.iconst 2, 1) := by decide +kernel
theorem dX7_next_23 : decode cX7_next 23 = .ok (.goto 4, 3) := by decide +kernel
theorem dX7_next_26 : decode cX7_next 26 = .ok (.iconst 0, 1) := by decide +kernel
theorem dX7_next_27 : decode cX7_next 27 = .ok (.putfield 89, 3) := by decide +kernel
theorem dX7_next_30 : decode cX7_next 30 = .ok (.aload_n 0, 1) := by decide +kernel
theorem dX7_next_31 : decode cX7_next 31 = .ok (.getfield 89, 3) := by decide +kernel
theorem dX7_next_34 : decode cX7_next 34 = .ok (.ifCond .le 5, 3) := by decide +kernel
theorem dX7_next_37 : decode cX7_next 37 = .ok (.iconst 0, 1) := by decide +kernel
theorem dX7_next_38 : decode cX7_next 38 = .ok (.ireturn, 1) := by decide +kernel
theorem dX7_next_39 : decode cX7_next 39 = .ok (.iconst 0, 1) := by decide +kernel
theorem dX7_next_40 : decode cX7_next 40 = .ok (.istore 4, 2) := by decide +kernel
theorem dX7_next_42 : decode cX7_next 42 = .ok (.iconst 0, 1) := by decide +kernel
theorem dX7_next_43 : decode cX7_next 43 = .ok (.istore 5, 2) := by decide +kernel
theorem dX7_next_45 : decode cX7_next 45 = .ok (.iload 5, 2) := by decide +kernel
theorem dX7_next_47 : decode cX7_next 47 = .ok (.aload_n 0, 1) := by decide +kernel
theorem dX7_next_48 : decode cX7_next 48 = .ok (.getfield 121, 3) := by decide +kernel
theorem dX7_next_51 : decode cX7_next 51 = .ok (.if_icmp .ge 48, 3) := by decide +kernel
theorem dX7_next_54 : decode cX7_next 54 = .ok (.aload_n 0, 1) := by decide +kernel
theorem dX7_next_55 : decode cX7_next 55 = .ok (.getfield 47, 3) := by decide +kernel
theorem dX7_next_58 : decode cX7_next 58 = .ok (.iload 5, 2) := by decide +kernel
theorem dX7_next_60 : decode cX7_next 60 = .ok (.iaload, 1) := by decide +kernel
theorem dX7_next_61 : decode cX7_next 61 = .ok (.iload_n 1, 1) := by decide +kernel
theorem dX7_next_62 : decode cX7_next 62 = .ok (.if_icmp .ne 31, 3) := by decide +kernel
theorem dX7_next_65 : decode cX7_next 65 = .ok (.aload_n 0, 1) := by decide +kernel
theorem dX7_next_66 : decode cX7_next 66 = .ok (.getfield 50, 3) := by decide +kernel
theorem dX7_next_69 : decode cX7_next 69 = .ok (.iload 5, 2) := by decide +kernel
theorem dX7_next_71 : decode cX7_next 71 = .ok (.iaload, 1) := by decide +kernel
theorem dX7_next_72 : decode cX7_next 72 = .ok (.iload_n 2, 1) := by decide +kernel
theorem dX7_next_73 : decode cX7_next 73 = .ok (.if_icmp .ne 20, 3) := by decide +kernel
theorem dX7_next_76 : decode cX7_next 76 = .ok (.iload 4, 2) := by decide +kernel
theorem dX7_next_78 : decode cX7_next 78 = .ok (.iload_n 3, 1) := by decide +kernel
theorem dX7_next_79 : decode cX7_next 79 = .ok (.if_icmp .ne 11, 3) := by decide +kernel
theorem dX7_next_82 : decode cX7_next 82 = .ok (.aload_n 0, 1) := by decide +kernel
theorem dX7_next_83 : decode cX7_next 83 = .ok (.getfield 44, 3) := by decide +kernel
theorem dX7_next_86 : decode cX7_next 86 = .ok (.iload 5, 2) := by decide +kernel
theorem dX7_next_88 : decode cX7_next 88 = .ok (.iaload, 1) := by decide +kernel
theorem dX7_next_89 : decode cX7_next 89 = .ok (.ireturn, 1) := by decide +kernel
theorem dX7_next_90 : decode cX7_next 90 = .ok (.iinc 4 1, 3) := by decide +kernel
theorem dX7_next_93 : decode cX7_next 93 = .ok (.iinc 5 1, 3) := by decide +kernel
theorem dX7_next_96 : decode cX7_next 96 = .ok (.goto (-51), 3) := by decide +kernel
theorem dX7_next_99 : decode cX7_next 99 = .ok (.aload_n 0, 1) := by decide +kernel
theorem dX7_next_100 : decode cX7_next 100 = .ok (.iconst 3, 1) := by decide +kernel
theorem dX7_next_101 : decode cX7_next 101 = .ok (.putfield 89, 3) := by decide +kernel
theorem dX7_next_104 : decode cX7_next 104 = .ok (.iconst 0, 1) := by decide +kernel
theorem dX7_next_105 : decode cX7_next 105 = .ok (.ireturn, 1) := by decide +kernel
theorem dX7_pack_0 : decode cX7_pack 0 = .ok (.aload_n 0, 1) := by decide +kernel
theorem dX7_pack_1 : decode cX7_pack 1 = .ok (.iload_n 1, 1) := by decide +kernel
theorem dX7_pack_2 : decode cX7_pack 2 = .ok (.ifCond .lt 9, 3) := by decide +kernel
theorem dX7_pack_5 : decode cX7_pack 5 = .ok (.iload_n 1, 1) := by decide +kernel
theorem dX7_pack_6 : decode cX7_pack 6 = .ok (.bipush 100, 2) := by decide +kernel
theorem dX7_pack_8 : decode cX7_pack 8 = .ok (.if_icmp .le 7, 3) := by decide +kernel
theorem dX7_pack_11 : decode cX7_pack 11 = .ok (.iconst 1, 1) := by decide +kernel
theorem dX7_pack_12 : decode cX7_pack 12 = .ok (.goto 4, 3) := by decide +kernel
theorem dX7_pack_15 : decode cX7_pack 15 = .ok (.iconst 0, 1) := by decide +kernel
theorem dX7_pack_16 : decode cX7_pack 16 = .ok (.putfield 89, 3) := by decide +kernel
theorem dX7_pack_19 : decode cX7_pack 19 = .ok (.iconst 0, 1) := by decide +kernel
theorem dX7_pack_20 : decode cX7_pack 20 = .ok (.istore_n 2, 1) := by decide +kernel
theorem dX7_pack_21 : decode cX7_pack 21 = .ok (.aload_n 0, 1) := by decide +kernel
theorem dX7_pack_22 : decode cX7_pack 22 = .ok (.getfield 89, 3) := by decide +kernel
theorem dX7_pack_25 : decode cX7_pack 25 = .ok (.ifCond .ne 44, 3) := by decide +kernel
theorem dX7_pack_28 : decode cX7_pack 28 = .ok (.iload_n 2, 1) := by decide +kernel
theorem dX7_pack_29 : decode cX7_pack 29 = .ok (.iload_n 1, 1) := by decide +kernel
theorem dX7_pack_30 : decode cX7_pack 30 = .ok (.if_icmp .ge 39, 3) := by decide +kernel
theorem dX7_pack_33 : decode cX7_pack 33 = .ok (.aload_n 0, 1) := by decide +kernel
theorem dX7_pack_34 : decode cX7_pack 34 = .ok (.invokevirtual 103, 3) := by decide +kernel
theorem dX7_pack_37 : decode cX7_pack 37 = .ok (.ifCond .lt 32, 3) := by decide +kernel
theorem dX7_pack_40 : decode cX7_pack 40 = .ok (.aload_n 0, 1) := by decide +kernel
theorem dX7_pack_41 : decode cX7_pack 41 = .ok (.invokevirtual 103, 3) := by decide +kernel
theorem dX7_pack_44 : decode cX7_pack 44 = .ok (.aload_n 0, 1) := by decide +kernel
theorem dX7_pack_45 : decode cX7_pack 45 = .ok (.invokevirtual 183, 3) := by decide +kernel
theorem dX7_pack_48 : decode cX7_pack 48 = .ok (.if_icmp .ge 21, 3) := by decide +kernel
theorem dX7_pack_51 : decode cX7_pack 51 = .ok (.aload_n 0, 1) := by decide +kernel
theorem dX7_pack_52 : decode cX7_pack 52 = .ok (.aload_n 0, 1) := by decide +kernel
theorem dX7_pack_53 : decode cX7_pack 53 = .ok (.invokevirtual 183, 3) := by decide +kernel
theorem dX7_pack_56 : decode cX7_pack 56 = .ok (.aload_n 0, 1) := by decide +kernel
theorem dX7_pack_57 : decode cX7_pack 57 = .ok (.invokevirtual 103, 3) := by decide +kernel
theorem dX7_pack_60 : decode cX7_pack 60 = .ok (.invokevirtual 186, 3) := by decide +kernel
theorem dX7_pack_63 : decode cX7_pack 63 = .ok (.iinc 2 1, 3) := by decide +kernel
theorem dX7_pack_66 : decode cX7_pack 66 = .ok (.goto (-45), 3) := by decide +kernel
theorem dX7_pack_69 : decode cX7_pack 69 = .ok (.iload_n 2, 1) := by decide +kernel
theorem dX7_pack_70 : decode cX7_pack 70 = .ok (.ireturn, 1) := by decide +kernel
theorem dX7_play_0 : decode cX7_play 0 = .ok (.aload_n 0, 1) := by decide +kernel
theorem dX7_play_1 : decode cX7_play 1 = .ok (.iload_n 1, 1) := by decide +kernel
theorem dX7_play_2 : decode cX7_play 2 = .ok (.invokevirtual 174, 3) := by decide +kernel
theorem dX7_play_5 : decode cX7_play 5 = .ok (.istore_n 3, 1) := by decide +kernel
theorem dX7_play_6 : decode cX7_play 6 = .ok (.iload_n 3, 1) := by decide +kernel
theorem dX7_play_7 : decode cX7_play 7 = .ok (.ifCond .ge 7, 3) := by decide +kernel
theorem dX7_play_10 : decode cX7_play 10 = .ok (.iconst 0, 1) := by decide +kernel
theorem dX7_play_11 : decode cX7_play 11 = .ok (.goto 16, 3) := by decide +kernel
theorem dX7_play_14 : decode cX7_play 14 = .ok (.bipush 8, 2) := by decide +kernel
theorem dX7_play_16 : decode cX7_play 16 = .ok (.aload_n 0, 1) := by decide +kernel
theorem dX7_play_17 : decode cX7_play 17 = .ok (.aload_n 0, 1) := by decide +kernel
theorem dX7_play_18 : decode cX7_play 18 = .ok (.getfield 56, 3) := by decide +kernel
theorem dX7_play_21 : decode cX7_play 21 = .ok (.iload_n 3, 1) := by decide +kernel
theorem dX7_play_22 : decode cX7_play 22 = .ok (.iaload, 1) := by decide +kernel
theorem dX7_play_23 : decode cX7_play 23 = .ok (.invokevirtual 177, 3) := by decide +kernel
theorem dX7_play_26 : decode cX7_play 26 = .ok (.imul, 1) := by decide +kernel
theorem dX7_play_27 : decode cX7_play 27 = .ok (.istore 4, 2) := by decide +kernel
theorem dX7_play_29 : decode cX7_play 29 = .ok (.iload_n 3, 1) := by decide +kernel
theorem dX7_play_30 : decode cX7_play 30 = .ok (.ifCond .ge 7, 3) := by decide +kernel
theorem dX7_play_33 : decode cX7_play 33 = .ok (.iconst 0, 1) := by decide +kernel
theorem dX7_play_34 : decode cX7_play 34 = .ok (.goto 19, 3) := by decide +kernel
theorem dX7_play_37 : decode cX7_play 37 = .ok (.iload 4, 2) := by decide +kernel
theorem dX7_play_39 : decode cX7_play 39 = .ok (.bipush 8, 2) := by decide +kernel
theorem dX7_play_41 : decode cX7_play 41 = .ok (.aload_n 0, 1) := by decide +kernel
theorem dX7_play_42 : decode cX7_play 42 = .ok (.aload_n 0, 1) := by decide +kernel
theorem dX7_play_43 : decode cX7_play 43 = .ok (.getfield 53, 3) := by decide +kernel
theorem dX7_play_46 : decode cX7_play 46 = .ok (.iload_n 3, 1) := by decide +kernel
theorem dX7_play_47 : decode cX7_play 47 = .ok (.iaload, 1) := by decide +kernel
theorem dX7_play_48 : decode cX7_play 48 = .ok (.invokevirtual 177, 3) := by decide +kernel
theorem dX7_play_51 : decode cX7_play 51 = .ok (.imul, 1) := by decide +kernel
theorem dX7_play_52 : decode cX7_play 52 = .ok (.iadd, 1) := by decide +kernel
theorem dX7_play_53 : decode cX7_play 53 = .ok (.istore 5, 2) := by decide +kernel
theorem dX7_play_55 : decode cX7_play 55 = .ok (.aload_n 0, 1) := by decide +kernel
theorem dX7_play_56 : decode cX7_play 56 = .ok (.iload_n 3, 1) := by decide +kernel
theorem dX7_play_57 : decode cX7_play 57 = .ok (.ifCond .ge 7, 3) := by decide +kernel
theorem dX7_play_60 : decode cX7_play 60 = .ok (.iconst 1, 1) := by decide +kernel
theorem dX7_play_61 : decode cX7_play 61 = .ok (.goto 18, 3) := by decide +kernel
theorem dX7_play_64 : decode cX7_play 64 = .ok (.iload_n 2, 1) := by decide +kernel
theorem dX7_play_65 : decode cX7_play 65 = .ok (.ifCond .lt 9, 3) := by decide +kernel
theorem dX7_play_68 : decode cX7_play 68 = .ok (.iload_n 2, 1) := by decide +kernel
theorem dX7_play_69 : decode cX7_play 69 = .ok (.iload 5, 2) := by decide +kernel
theorem dX7_play_71 : decode cX7_play 71 = .ok (.if_icmp .lt 7, 3) := by decide +kernel
theorem dX7_play_74 : decode cX7_play 74 = .ok (.iconst 2, 1) := by decide +kernel
theorem dX7_play_75 : decode cX7_play 75 = .ok (.goto 4, 3) := by decide +kernel
theorem dX7_play_78 : decode cX7_play 78 = .ok (.iconst 0, 1) := by decide +kernel
theorem dX7_play_79 : decode cX7_play 79 = .ok (.putfield 89, 3) := by decide +kernel
theorem dX7_play_82 : decode cX7_play 82 = .ok (.aload_n 0, 1) := by decide +kernel
theorem dX7_play_83 : decode cX7_play 83 = .ok (.getfield 89, 3) := by decide +kernel
theorem dX7_play_86 : decode cX7_play 86 = .ok (.ifCond .le 5, 3) := by decide +kernel
theorem dX7_play_89 : decode cX7_play 89 = .ok (.iconst 0, 1) := by decide +kernel
theorem dX7_play_90 : decode cX7_play 90 = .ok (.ireturn, 1) := by decide +kernel
theorem dX7_play_91 : decode cX7_play 91 = .ok (.iload_n 2, 1) := by decide +kernel
theorem dX7_play_92 : decode cX7_play 92 = .ok (.iload 4, 2) := by decide +kernel
theorem dX7_play_94 : decode cX7_play 94 = .ok (.if_icmp .ge 17, 3) := by decide +kernel
theorem dX7_play_97 : decode cX7_play 97 = .ok (.aload_n 0, 1) := by decide +kernel
theorem dX7_play_98 : decode cX7_play 98 = .ok (.aload_n 0, 1) := by decide +kernel
theorem dX7_play_99 : decode cX7_play 99 = .ok (.getfield 56, 3) := by decide +kernel
theorem dX7_play_102 : decode cX7_play 102 = .ok (.iload_n 3, 1) := by decide +kernel
theorem dX7_play_103 : decode cX7_play 103 = .ok (.iaload, 1) := by decide +kernel
theorem dX7_play_104 : decode cX7_play 104 = .ok (.iload_n 2, 1) := by decide +kernel
theorem dX7_play_105 : decode cX7_play 105 = .ok (.invokevirtual 180, 3) := by decide +kernel
theorem dX7_play_108 : decode cX7_play 108 = .ok (.goto 17, 3) := by decide +kernel
theorem dX7_play_111 : decode cX7_play 111 = .ok (.aload_n 0, 1) := by decide +kernel
theorem dX7_play_112 : decode cX7_play 112 = .ok (.aload_n 0, 1) := by decide +kernel
theorem dX7_play_113 : decode cX7_play 113 = .ok (.getfield 53, 3) := by decide +kernel
theorem dX7_play_116 : decode cX7_play 116 = .ok (.iload_n 3, 1) := by decide +kernel
theorem dX7_play_117 : decode cX7_play 117 = .ok (.iaload, 1) := by decide +kernel
theorem dX7_play_118 : decode cX7_play 118 = .ok (.iload_n 2, 1) := by decide +kernel
theorem dX7_play_119 : decode cX7_play 119 = .ok (.iload 4, 2) := by decide +kernel
theorem dX7_play_121 : decode cX7_play 121 = .ok (.isub, 1) := by decide +kernel
theorem dX7_play_122 : decode cX7_play 122 = .ok (.invokevirtual 180, 3) := by decide +kernel
theorem dX7_play_125 : decode cX7_play 125 = .ok (.ireturn, 1) := by decide +kernel
theorem dX7_quota_0 : decode cX7_quota 0 = .ok (.aload_n 0, 1) := by decide +kernel
theorem dX7_quota_1 : decode cX7_quota 1 = .ok (.aload_n 0, 1) := by decide +kernel
theorem dX7_quota_2 : decode cX7_quota 2 = .ok (.iload_n 1, 1) := by decide +kernel
theorem dX7_quota_3 : decode cX7_quota 3 = .ok (.invokevirtual 131, 3) := by decide +kernel
theorem dX7_quota_6 : decode cX7_quota 6 = .ok (.ifCond .eq 7, 3) := by decide +kernel
theorem dX7_quota_9 : decode cX7_quota 9 = .ok (.iconst 0, 1) := by decide +kernel
theorem dX7_quota_10 : decode cX7_quota 10 = .ok (.goto 4, 3) := by decide +kernel
theorem dX7_quota_13 : decode cX7_quota 13 = .ok (.iconst 1, 1) := by decide +kernel
theorem dX7_quota_14 : decode cX7_quota 14 = .ok (.putfield 89, 3) := by decide +kernel
theorem dX7_quota_17 : decode cX7_quota 17 = .ok (.aload_n 0, 1) := by decide +kernel
theorem dX7_quota_18 : decode cX7_quota 18 = .ok (.getfield 89, 3) := by decide +kernel
theorem dX7_quota_21 : decode cX7_quota 21 = .ok (.ifCond .le 7, 3) := by decide +kernel
theorem dX7_quota_24 : decode cX7_quota 24 = .ok (.iconst 0, 1) := by decide +kernel
theorem dX7_quota_25 : decode cX7_quota 25 = .ok (.goto 9, 3) := by decide +kernel
theorem dX7_quota_28 : decode cX7_quota 28 = .ok (.aload_n 0, 1) := by decide +kernel
theorem dX7_quota_29 : decode cX7_quota 29 = .ok (.getfield 38, 3) := by decide +kernel
theorem dX7_quota_32 : decode cX7_quota 32 = .ok (.iload_n 1, 1) := by decide +kernel
theorem dX7_quota_33 : decode cX7_quota 33 = .ok (.iaload, 1) := by decide +kernel
theorem dX7_quota_34 : decode cX7_quota 34 = .ok (.ireturn, 1) := by decide +kernel
theorem dX7_release_0 : decode cX7_release 0 = .ok (.iconst 0, 1) := by decide +kernel
theorem dX7_release_1 : decode cX7_release 1 = .ok (.istore_n 2, 1) := by decide +kernel
theorem dX7_release_2 : decode cX7_release 2 = .ok (.aload_n 0, 1) := by decide +kernel
theorem dX7_release_3 : decode cX7_release 3 = .ok (.getfield 32, 3) := by decide +kernel
theorem dX7_release_6 : decode cX7_release 6 = .ok (.iload_n 1, 1) := by decide +kernel
theorem dX7_release_7 : decode cX7_release 7 = .ok (.iaload, 1) := by decide +kernel
theorem dX7_release_8 : decode cX7_release 8 = .ok (.istore_n 3, 1) := by decide +kernel
theorem dX7_release_9 : decode cX7_release 9 = .ok (.iconst 0, 1) := by decide +kernel
theorem dX7_release_10 : decode cX7_release 10 = .ok (.istore 4, 2) := by decide +kernel
theorem dX7_release_12 : decode cX7_release 12 = .ok (.iload 4, 2) := by decide +kernel
theorem dX7_release_14 : decode cX7_release 14 = .ok (.aload_n 0, 1) := by decide +kernel
theorem dX7_release_15 : decode cX7_release 15 = .ok (.getfield 35, 3) := by decide +kernel
theorem dX7_release_18 : decode cX7_release 18 = .ok (.iload_n 1, 1) := by decide +kernel
theorem dX7_release_19 : decode cX7_release 19 = .ok (.iaload, 1) := by decide +kernel
theorem dX7_release_20 : decode cX7_release 20 = .ok (.if_icmp .ge 26, 3) := by decide +kernel
theorem dX7_release_23 : decode cX7_release 23 = .ok (.aload_n 0, 1) := by decide +kernel
theorem dX7_release_24 : decode cX7_release 24 = .ok (.getfield 13, 3) := by decide +kernel
theorem dX7_release_27 : decode cX7_release 27 = .ok (.iload_n 3, 1) := by decide +kernel
theorem dX7_release_28 : decode cX7_release 28 = .ok (.iconst 0, 1) := by decide +kernel
theorem dX7_release_29 : decode cX7_release 29 = .ok (.iastore, 1) := by decide +kernel
theorem dX7_release_30 : decode cX7_release 30 = .ok (.aload_n 0, 1) := by decide +kernel
theorem dX7_release_31 : decode cX7_release 31 = .ok (.getfield 16, 3) := by decide +kernel
theorem dX7_release_34 : decode cX7_release 34 = .ok (.iload_n 3, 1) := by decide +kernel
theorem dX7_release_35 : decode cX7_release 35 = .ok (.iaload, 1) := by decide +kernel
theorem dX7_release_36 : decode cX7_release 36 = .ok (.istore_n 3, 1) := by decide +kernel
theorem dX7_release_37 : decode cX7_release 37 = .ok (.iinc 2 1, 3) := by decide +kernel
theorem dX7_release_40 : decode cX7_release 40 = .ok (.iinc 4 4, 3) := by decide +kernel
theorem dX7_release_43 : decode cX7_release 43 = .ok (.goto (-31), 3) := by decide +kernel
theorem dX7_release_46 : decode cX7_release 46 = .ok (.aload_n 0, 1) := by decide +kernel
theorem dX7_release_47 : decode cX7_release 47 = .ok (.getfield 35, 3) := by decide +kernel
theorem dX7_release_50 : decode cX7_release 50 = .ok (.iload_n 1, 1) := by decide +kernel
theorem dX7_release_51 : decode cX7_release 51 = .ok (.iconst 0, 1) := by decide +kernel
theorem dX7_release_52 : decode cX7_release 52 = .ok (.iastore, 1) := by decide +kernel
theorem dX7_release_53 : decode cX7_release 53 = .ok (.iload_n 2, 1) := by decide +kernel
theorem dX7_release_54 : decode cX7_release 54 = .ok (.ireturn, 1) := by decide +kernel
theorem dX7_sample_0 : decode cX7_sample 0 = .ok (.aload_n 0, 1) := by decide +kernel
theorem dX7_sample_1 : decode cX7_sample 1 = .ok (.iload_n 1, 1) := by decide +kernel
theorem dX7_sample_2 : decode cX7_sample 2 = .ok (.invokestatic 127, 3) := by decide +kernel
theorem dX7_sample_5 : decode cX7_sample 5 = .ok (.ifCond .ne 7, 3) := by decide +kernel
theorem dX7_sample_8 : decode cX7_sample 8 = .ok (.iconst 1, 1) := by decide +kernel
theorem dX7_sample_9 : decode cX7_sample 9 = .ok (.goto 17, 3) := by decide +kernel
theorem dX7_sample_12 : decode cX7_sample 12 = .ok (.aload_n 0, 1) := by decide +kernel
theorem dX7_sample_13 : decode cX7_sample 13 = .ok (.getfield 59, 3) := by decide +kernel
theorem dX7_sample_16 : decode cX7_sample 16 = .ok (.iload_n 1, 1) := by decide +kernel
theorem dX7_sample_17 : decode cX7_sample 17 = .ok (.baload, 1) := by decide +kernel
theorem dX7_sample_18 : decode cX7_sample 18 = .ok (.ifCond .ne 7, 3) := by decide +kernel
theorem dX7_sample_21 : decode cX7_sample 21 = .ok (.iconst 2, 1) := by decide +kernel
theorem dX7_sample_22 : decode cX7_sample 22 = .ok (.goto 4, 3) := by decide +kernel
theorem dX7_sample_25 : decode cX7_sample 25 = .ok (.iconst 0, 1) := by decide +kernel
theorem dX7_sample_26 : decode cX7_sample 26 = .ok (.putfield 89, 3) := by decide +kernel
theorem dX7_sample_29 : decode cX7_sample 29 = .ok (.aload_n 0, 1) := by decide +kernel
theorem dX7_sample_30 : decode cX7_sample 30 = .ok (.getfield 89, 3) := by decide +kernel
theorem dX7_sample_33 : decode cX7_sample 33 = .ok (.ifCond .le 5, 3) := by decide +kernel
theorem dX7_sample_36 : decode cX7_sample 36 = .ok (.iconst 0, 1) := by decide +kernel
theorem dX7_sample_37 : decode cX7_sample 37 = .ok (.ireturn, 1) := by decide +kernel
theorem dX7_sample_38 : decode cX7_sample 38 = .ok (.aload_n 0, 1) := by decide +kernel
theorem dX7_sample_39 : decode cX7_sample 39 = .ok (.getfield 71, 3) := by decide +kernel
theorem dX7_sample_42 : decode cX7_sample 42 = .ok (.iload_n 1, 1) := by decide +kernel
theorem dX7_sample_43 : decode cX7_sample 43 = .ok (.baload, 1) := by decide +kernel
theorem dX7_sample_44 : decode cX7_sample 44 = .ok (.ifCond .eq 5, 3) := by decide +kernel
theorem dX7_sample_47 : decode cX7_sample 47 = .ok (.iconst 1, 1) := by decide +kernel
theorem dX7_sample_48 : decode cX7_sample 48 = .ok (.ireturn, 1) := by decide +kernel
theorem dX7_sample_49 : decode cX7_sample 49 = .ok (.aload_n 0, 1) := by decide +kernel
theorem dX7_sample_50 : decode cX7_sample 50 = .ok (.getfield 77, 3) := by decide +kernel
theorem dX7_sample_53 : decode cX7_sample 53 = .ok (.bipush 8, 2) := by decide +kernel
theorem dX7_sample_55 : decode cX7_sample 55 = .ok (.iload_n 1, 1) := by decide +kernel
theorem dX7_sample_56 : decode cX7_sample 56 = .ok (.imul, 1) := by decide +kernel
theorem dX7_sample_57 : decode cX7_sample 57 = .ok (.aload_n 0, 1) := by decide +kernel
theorem dX7_sample_58 : decode cX7_sample 58 = .ok (.getfield 74, 3) := by decide +kernel
theorem dX7_sample_61 : decode cX7_sample 61 = .ok (.iload_n 1, 1) := by decide +kernel
theorem dX7_sample_62 : decode cX7_sample 62 = .ok (.iaload, 1) := by decide +kernel
theorem dX7_sample_63 : decode cX7_sample 63 = .ok (.iadd, 1) := by decide +kernel
theorem dX7_sample_64 : decode cX7_sample 64 = .ok (.iload_n 2, 1) := by decide +kernel
theorem dX7_sample_65 : decode cX7_sample 65 = .ok (.sipush (-32768), 3) := by decide +kernel
theorem dX7_sample_68 : decode cX7_sample 68 = .ok (.if_icmp .ge 9, 3) := by decide +kernel
theorem dX7_sample_71 : decode cX7_sample 71 = .ok (.sipush (-32768), 3) := by decide +kernel
theorem dX7_sample_74 : decode cX7_sample 74 = .ok (.goto 17, 3) := by decide +kernel
theorem dX7_sample_77 : decode cX7_sample 77 = .ok (.iload_n 2, 1) := by decide +kernel
theorem dX7_sample_78 : decode cX7_sample 78 = .ok (.sipush 32767, 3) := by decide +kernel
theorem dX7_sample_81 : decode cX7_sample 81 = .ok (.if_icmp .le 9, 3) := by decide +kernel
theorem dX7_sample_84 : decode cX7_sample 84 = .ok (.sipush 32767, 3) := by decide +kernel
theorem dX7_sample_87 : decode cX7_sample 87 = .ok (.goto 4, 3) := by decide +kernel
theorem dX7_sample_90 : decode cX7_sample 90 = .ok (.iload_n 2, 1) := by decide +kernel
theorem dX7_sample_91 : decode cX7_sample 91 = .ok (.iastore, 1) := by decide +kernel
theorem dX7_sample_92 : decode cX7_sample 92 = .ok (.aload_n 0, 1) := by decide +kernel
theorem dX7_sample_93 : decode cX7_sample 93 = .ok (.getfield 74, 3) := by decide +kernel
theorem dX7_sample_96 : decode cX7_sample 96 = .ok (.iload_n 1, 1) := by decide +kernel
theorem dX7_sample_97 : decode cX7_sample 97 = .ok (.dup2, 1) := by decide +kernel
theorem dX7_sample_98 : decode cX7_sample 98 = .ok (.iaload, 1) := by decide +kernel
theorem dX7_sample_99 : decode cX7_sample 99 = .ok (.iconst 1, 1) := by decide +kernel
theorem dX7_sample_100 : decode cX7_sample 100 = .ok (.iadd, 1) := by decide +kernel
theorem dX7_sample_101 : decode cX7_sample 101 = .ok (.iastore, 1) := by decide +kernel
theorem dX7_sample_102 : decode cX7_sample 102 = .ok (.aload_n 0, 1) := by decide +kernel
theorem dX7_sample_103 : decode cX7_sample 103 = .ok (.getfield 74, 3) := by decide +kernel
theorem dX7_sample_106 : decode cX7_sample 106 = .ok (.iload_n 1, 1) := by decide +kernel
theorem dX7_sample_107 : decode cX7_sample 107 = .ok (.iaload, 1) := by decide +kernel
theorem dX7_sample_108 : decode cX7_sample 108 = .ok (.bipush 8, 2) := by decide +kernel
theorem dX7_sample_110 : decode cX7_sample 110 = .ok (.if_icmp .ne 8, 3) := by decide +kernel
theorem dX7_sample_113 : decode cX7_sample 113 = .ok (.aload_n 0, 1) := by decide +kernel
theorem dX7_sample_114 : decode cX7_sample 114 = .ok (.iload_n 1, 1) := by decide +kernel
theorem dX7_sample_115 : decode cX7_sample 115 = .ok (.invokevirtual 161, 3) := by decide +kernel
theorem dX7_sample_118 : decode cX7_sample 118 = .ok (.aload_n 0, 1) := by decide +kernel
theorem dX7_sample_119 : decode cX7_sample 119 = .ok (.getfield 71, 3) := by decide +kernel
theorem dX7_sample_122 : decode cX7_sample 122 = .ok (.iload_n 1, 1) := by decide +kernel
theorem dX7_sample_123 : decode cX7_sample 123 = .ok (.baload, 1) := by decide +kernel
theorem dX7_sample_124 : decode cX7_sample 124 = .ok (.ireturn, 1) := by decide +kernel
theorem dX7_sound_0 : decode cX7_sound 0 = .ok (.aload_n 0, 1) := by decide +kernel
theorem dX7_sound_1 : decode cX7_sound 1 = .ok (.iconst 0, 1) := by decide +kernel
theorem dX7_sound_2 : decode cX7_sound 2 = .ok (.putfield 96, 3) := by decide +kernel
theorem dX7_sound_5 : decode cX7_sound 5 = .ok (.aload_n 0, 1) := by decide +kernel
theorem dX7_sound_6 : decode cX7_sound 6 = .ok (.iconst 0, 1) := by decide +kernel
theorem dX7_sound_7 : decode cX7_sound 7 = .ok (.putfield 93, 3) := by decide +kernel
theorem dX7_sound_10 : decode cX7_sound 10 = .ok (.iload_n 2, 1) := by decide +kernel
theorem dX7_sound_11 : decode cX7_sound 11 = .ok (.istore_n 3, 1) := by decide +kernel
theorem dX7_sound_12 : decode cX7_sound 12 = .ok (.iconst 0, 1) := by decide +kernel
theorem dX7_sound_13 : decode cX7_sound 13 = .ok (.istore 4, 2) := by decide +kernel
theorem dX7_sound_15 : decode cX7_sound 15 = .ok (.iload 4, 2) := by decide +kernel
theorem dX7_sound_17 : decode cX7_sound 17 = .ok (.aload_n 0, 1) := by decide +kernel
theorem dX7_sound_18 : decode cX7_sound 18 = .ok (.getfield 35, 3) := by decide +kernel
theorem dX7_sound_21 : decode cX7_sound 21 = .ok (.iload_n 1, 1) := by decide +kernel
theorem dX7_sound_22 : decode cX7_sound 22 = .ok (.iaload, 1) := by decide +kernel
theorem dX7_sound_23 : decode cX7_sound 23 = .ok (.if_icmp .ge 117, 3) := by decide +kernel
theorem dX7_sound_26 : decode cX7_sound 26 = .ok (.aload_n 0, 1) := by decide +kernel
theorem dX7_sound_27 : decode cX7_sound 27 = .ok (.iload_n 1, 1) := by decide +kernel
theorem dX7_sound_28 : decode cX7_sound 28 = .ok (.iload 4, 2) := by decide +kernel
theorem dX7_sound_30 : decode cX7_sound 30 = .ok (.invokevirtual 107, 3) := by decide +kernel
theorem dX7_sound_33 : decode cX7_sound 33 = .ok (.istore 5, 2) := by decide +kernel
theorem dX7_sound_35 : decode cX7_sound 35 = .ok (.aload_n 0, 1) := by decide +kernel
theorem dX7_sound_36 : decode cX7_sound 36 = .ok (.getfield 19, 3) := by decide +kernel
theorem dX7_sound_39 : decode cX7_sound 39 = .ok (.iload 5, 2) := by decide +kernel
theorem dX7_sound_41 : decode cX7_sound 41 = .ok (.iaload, 1) := by decide +kernel
theorem dX7_sound_42 : decode cX7_sound 42 = .ok (.ifCond .le 45, 3) := by decide +kernel
theorem dX7_sound_45 : decode cX7_sound 45 = .ok (.iload_n 3, 1) := by decide +kernel
theorem dX7_sound_46 : decode cX7_sound 46 = .ok (.bipush 8, 2) := by decide +kernel
theorem dX7_sound_48 : decode cX7_sound 48 = .ok (.aload_n 0, 1) := by decide +kernel
theorem dX7_sound_49 : decode cX7_sound 49 = .ok (.getfield 19, 3) := by decide +kernel
theorem dX7_sound_52 : decode cX7_sound 52 = .ok (.iload 5, 2) := by decide +kernel
theorem dX7_sound_54 : decode cX7_sound 54 = .ok (.iaload, 1) := by decide +kernel
theorem dX7_sound_55 : decode cX7_sound 55 = .ok (.imul, 1) := by decide +kernel
theorem dX7_sound_56 : decode cX7_sound 56 = .ok (.if_icmp .ge 5, 3) := by decide +kernel
theorem dX7_sound_59 : decode cX7_sound 59 = .ok (.iconst 0, 1) := by decide +kernel
theorem dX7_sound_60 : decode cX7_sound 60 = .ok (.ireturn, 1) := by decide +kernel
theorem dX7_sound_61 : decode cX7_sound 61 = .ok (.iload_n 3, 1) := by decide +kernel
theorem dX7_sound_62 : decode cX7_sound 62 = .ok (.bipush 8, 2) := by decide +kernel
theorem dX7_sound_64 : decode cX7_sound 64 = .ok (.aload_n 0, 1) := by decide +kernel
theorem dX7_sound_65 : decode cX7_sound 65 = .ok (.getfield 19, 3) := by decide +kernel
theorem dX7_sound_68 : decode cX7_sound 68 = .ok (.iload 5, 2) := by decide +kernel
theorem dX7_sound_70 : decode cX7_sound 70 = .ok (.iaload, 1) := by decide +kernel
theorem dX7_sound_71 : decode cX7_sound 71 = .ok (.imul, 1) := by decide +kernel
theorem dX7_sound_72 : decode cX7_sound 72 = .ok (.isub, 1) := by decide +kernel
theorem dX7_sound_73 : decode cX7_sound 73 = .ok (.istore_n 3, 1) := by decide +kernel
theorem dX7_sound_74 : decode cX7_sound 74 = .ok (.aload_n 0, 1) := by decide +kernel
theorem dX7_sound_75 : decode cX7_sound 75 = .ok (.iconst 0, 1) := by decide +kernel
theorem dX7_sound_76 : decode cX7_sound 76 = .ok (.putfield 96, 3) := by decide +kernel
theorem dX7_sound_79 : decode cX7_sound 79 = .ok (.aload_n 0, 1) := by decide +kernel
theorem dX7_sound_80 : decode cX7_sound 80 = .ok (.iconst 0, 1) := by decide +kernel
theorem dX7_sound_81 : decode cX7_sound 81 = .ok (.putfield 93, 3) := by decide +kernel
theorem dX7_sound_84 : decode cX7_sound 84 = .ok (.goto 50, 3) := by decide +kernel
theorem dX7_sound_87 : decode cX7_sound 87 = .ok (.iconst 0, 1) := by decide +kernel
theorem dX7_sound_88 : decode cX7_sound 88 = .ok (.istore 6, 2) := by decide +kernel
theorem dX7_sound_90 : decode cX7_sound 90 = .ok (.iload 6, 2) := by decide +kernel
theorem dX7_sound_92 : decode cX7_sound 92 = .ok (.bipush 8, 2) := by decide +kernel
theorem dX7_sound_94 : decode cX7_sound 94 = .ok (.if_icmp .ge 40, 3) := by decide +kernel
theorem dX7_sound_97 : decode cX7_sound 97 = .ok (.aload_n 0, 1) := by decide +kernel
theorem dX7_sound_98 : decode cX7_sound 98 = .ok (.aload_n 0, 1) := by decide +kernel
theorem dX7_sound_99 : decode cX7_sound 99 = .ok (.getfield 22, 3) := by decide +kernel
theorem dX7_sound_102 : decode cX7_sound 102 = .ok (.iload 5, 2) := by decide +kernel
theorem dX7_sound_104 : decode cX7_sound 104 = .ok (.iaload, 1) := by decide +kernel
theorem dX7_sound_105 : decode cX7_sound 105 = .ok (.iconst 4, 1) := by decide +kernel
theorem dX7_sound_106 : decode cX7_sound 106 = .ok (.iload 6, 2) := by decide +kernel
theorem dX7_sound_108 : decode cX7_sound 108 = .ok (.imul, 1) := by decide +kernel
theorem dX7_sound_109 : decode cX7_sound 109 = .ok (.ishr, 1) := by decide +kernel
theorem dX7_sound_110 : decode cX7_sound 110 = .ok (.bipush 15, 2) := by decide +kernel
theorem dX7_sound_112 : decode cX7_sound 112 = .ok (.iand, 1) := by decide +kernel
theorem dX7_sound_113 : decode cX7_sound 113 = .ok (.invokevirtual 99, 3) := by decide +kernel
theorem dX7_sound_116 : decode cX7_sound 116 = .ok (.iload_n 3, 1) := by decide +kernel
theorem dX7_sound_117 : decode cX7_sound 117 = .ok (.ifCond .ne 8, 3) := by decide +kernel
theorem dX7_sound_120 : decode cX7_sound 120 = .ok (.aload_n 0, 1) := by decide +kernel
theorem dX7_sound_121 : decode cX7_sound 121 = .ok (.getfield 96, 3) := by decide +kernel
theorem dX7_sound_124 : decode cX7_sound 124 = .ok (.ireturn, 1) := by decide +kernel
theorem dX7_sound_125 : decode cX7_sound 125 = .ok (.iinc 3 (-1), 3) := by decide +kernel
theorem dX7_sound_128 : decode cX7_sound 128 = .ok (.iinc 6 1, 3) := by decide +kernel
theorem dX7_sound_131 : decode cX7_sound 131 = .ok (.goto (-41), 3) := by decide +kernel
theorem dX7_sound_134 : decode cX7_sound 134 = .ok (.iinc 4 1, 3) := by decide +kernel
theorem dX7_sound_137 : decode cX7_sound 137 = .ok (.goto (-122), 3) := by decide +kernel
theorem dX7_sound_140 : decode cX7_sound 140 = .ok (.iconst 0, 1) := by decide +kernel
theorem dX7_sound_141 : decode cX7_sound 141 = .ok (.ireturn, 1) := by decide +kernel
theorem dX7_step_0 : decode cX7_step 0 = .ok (.aload_n 0, 1) := by decide +kernel
theorem dX7_step_1 : decode cX7_step 1 = .ok (.iload_n 1, 1) := by decide +kernel
theorem dX7_step_2 : decode cX7_step 2 = .ok (.ifCond .lt 13, 3) := by decide +kernel
theorem dX7_step_5 : decode cX7_step 5 = .ok (.iload_n 1, 1) := by decide +kernel
theorem dX7_step_6 : decode cX7_step 6 = .ok (.bipush 49, 2) := by decide +kernel
theorem dX7_step_8 : decode cX7_step 8 = .ok (.if_icmp .ge 7, 3) := by decide +kernel
theorem dX7_step_11 : decode cX7_step 11 = .ok (.iconst 0, 1) := by decide +kernel
theorem dX7_step_12 : decode cX7_step 12 = .ok (.goto 4, 3) := by decide +kernel
theorem dX7_step_15 : decode cX7_step 15 = .ok (.iconst 1, 1) := by decide +kernel
theorem dX7_step_16 : decode cX7_step 16 = .ok (.putfield 89, 3) := by decide +kernel
theorem dX7_step_19 : decode cX7_step 19 = .ok (.aload_n 0, 1) := by decide +kernel
theorem dX7_step_20 : decode cX7_step 20 = .ok (.getfield 89, 3) := by decide +kernel
theorem dX7_step_23 : decode cX7_step 23 = .ok (.ifCond .le 7, 3) := by decide +kernel
theorem dX7_step_26 : decode cX7_step 26 = .ok (.iconst 0, 1) := by decide +kernel
theorem dX7_step_27 : decode cX7_step 27 = .ok (.goto 9, 3) := by decide +kernel
theorem dX7_step_30 : decode cX7_step 30 = .ok (.aload_n 0, 1) := by decide +kernel
theorem dX7_step_31 : decode cX7_step 31 = .ok (.getfield 7, 3) := by decide +kernel
theorem dX7_step_34 : decode cX7_step 34 = .ok (.iload_n 1, 1) := by decide +kernel
theorem dX7_step_35 : decode cX7_step 35 = .ok (.iaload, 1) := by decide +kernel
theorem dX7_step_36 : decode cX7_step 36 = .ok (.ireturn, 1) := by decide +kernel
theorem dX7_thrown_0 : decode cX7_thrown 0 = .ok (.aload_n 0, 1) := by decide +kernel
theorem dX7_thrown_1 : decode cX7_thrown 1 = .ok (.getfield 89, 3) := by decide +kernel
theorem dX7_thrown_4 : decode cX7_thrown 4 = .ok (.ireturn, 1) := by decide +kernel
theorem dX7_total_0 : decode cX7_total 0 = .ok (.aload_n 0, 1) := by decide +kernel
theorem dX7_total_1 : decode cX7_total 1 = .ok (.iconst 0, 1) := by decide +kernel
theorem dX7_total_2 : decode cX7_total 2 = .ok (.putfield 89, 3) := by decide +kernel
theorem dX7_total_5 : decode cX7_total 5 = .ok (.iconst 0, 1) := by decide +kernel
theorem dX7_total_6 : decode cX7_total 6 = .ok (.istore_n 2, 1) := by decide +kernel
theorem dX7_total_7 : decode cX7_total 7 = .ok (.iconst 0, 1) := by decide +kernel
theorem dX7_total_8 : decode cX7_total 8 = .ok (.istore_n 3, 1) := by decide +kernel
theorem dX7_total_9 : decode cX7_total 9 = .ok (.iload_n 3, 1) := by decide +kernel
theorem dX7_total_10 : decode cX7_total 10 = .ok (.bipush 48, 2) := by decide +kernel
theorem dX7_total_12 : decode cX7_total 12 = .ok (.if_icmp .ge 26, 3) := by decide +kernel
theorem dX7_total_15 : decode cX7_total 15 = .ok (.aload_n 0, 1) := by decide +kernel
theorem dX7_total_16 : decode cX7_total 16 = .ok (.getfield 25, 3) := by decide +kernel
theorem dX7_total_19 : decode cX7_total 19 = .ok (.iload_n 3, 1) := by decide +kernel
theorem dX7_total_20 : decode cX7_total 20 = .ok (.iaload, 1) := by decide +kernel
theorem dX7_total_21 : decode cX7_total 21 = .ok (.ifCond .le 9, 3) := by decide +kernel
theorem dX7_total_24 : decode cX7_total 24 = .ok (.iload_n 2, 1) := by decide +kernel
theorem dX7_total_25 : decode cX7_total 25 = .ok (.iconst 1, 1) := by decide +kernel
theorem dX7_total_26 : decode cX7_total 26 = .ok (.iadd, 1) := by decide +kernel
theorem dX7_total_27 : decode cX7_total 27 = .ok (.goto 4, 3) := by decide +kernel
theorem dX7_total_30 : decode cX7_total 30 = .ok (.iload_n 2, 1) := by decide +kernel
theorem dX7_total_31 : decode cX7_total 31 = .ok (.istore_n 2, 1) := by decide +kernel
theorem dX7_total_32 : decode cX7_total 32 = .ok (.iinc 3 1, 3) := by decide +kernel
theorem dX7_total_35 : decode cX7_total 35 = .ok (.goto (-26), 3) := by decide +kernel
theorem dX7_total_38 : decode cX7_total 38 = .ok (.iconst 0, 1) := by decide +kernel
theorem dX7_total_39 : decode cX7_total 39 = .ok (.istore_n 3, 1) := by decide +kernel
theorem dX7_total_40 : decode cX7_total 40 = .ok (.iconst 0, 1) := by decide +kernel
theorem dX7_total_41 : decode cX7_total 41 = .ok (.istore 4, 2) := by decide +kernel
theorem dX7_total_43 : decode cX7_total 43 = .ok (.iload 4, 2) := by decide +kernel
theorem dX7_total_45 : decode cX7_total 45 = .ok (.bipush 40, 2) := by decide +kernel
theorem dX7_total_47 : decode cX7_total 47 = .ok (.if_icmp .ge 27, 3) := by decide +kernel
theorem dX7_total_50 : decode cX7_total 50 = .ok (.aload_n 0, 1) := by decide +kernel
theorem dX7_total_51 : decode cX7_total 51 = .ok (.getfield 13, 3) := by decide +kernel
theorem dX7_total_54 : decode cX7_total 54 = .ok (.iload 4, 2) := by decide +kernel
theorem dX7_total_56 : decode cX7_total 56 = .ok (.iaload, 1) := by decide +kernel
theorem dX7_total_57 : decode cX7_total 57 = .ok (.ifCond .ne 9, 3) := by decide +kernel
theorem dX7_total_60 : decode cX7_total 60 = .ok (.iload_n 3, 1) := by decide +kernel
theorem dX7_total_61 : decode cX7_total 61 = .ok (.iconst 1, 1) := by decide +kernel
theorem dX7_total_62 : decode cX7_total 62 = .ok (.iadd, 1) := by decide +kernel
theorem dX7_total_63 : decode cX7_total 63 = .ok (.goto 4, 3) := by decide +kernel
theorem dX7_total_66 : decode cX7_total 66 = .ok (.iload_n 3, 1) := by decide +kernel
theorem dX7_total_67 : decode cX7_total 67 = .ok (.istore_n 3, 1) := by decide +kernel
theorem dX7_total_68 : decode cX7_total 68 = .ok (.iinc 4 1, 3) := by decide +kernel
theorem dX7_total_71 : decode cX7_total 71 = .ok (.goto (-28), 3) := by decide +kernel
theorem dX7_total_74 : decode cX7_total 74 = .ok (.aload_n 0, 1) := by decide +kernel
theorem dX7_total_75 : decode cX7_total 75 = .ok (.getfield 59, 3) := by decide +kernel
theorem dX7_total_78 : decode cX7_total 78 = .ok (.iconst 0, 1) := by decide +kernel
theorem dX7_total_79 : decode cX7_total 79 = .ok (.baload, 1) := by decide +kernel
theorem dX7_total_80 : decode cX7_total 80 = .ok (.ifCond .eq 7, 3) := by decide +kernel
theorem dX7_total_83 : decode cX7_total 83 = .ok (.iconst 1, 1) := by decide +kernel
theorem dX7_total_84 : decode cX7_total 84 = .ok (.goto 4, 3) := by decide +kernel
theorem dX7_total_87 : decode cX7_total 87 = .ok (.iconst 0, 1) := by decide +kernel
theorem dX7_total_88 : decode cX7_total 88 = .ok (.aload_n 0, 1) := by decide +kernel
theorem dX7_total_89 : decode cX7_total 89 = .ok (.getfield 59, 3) := by decide +kernel
theorem dX7_total_92 : decode cX7_total 92 = .ok (.iconst 1, 1) := by decide +kernel
theorem dX7_total_93 : decode cX7_total 93 = .ok (.baload, 1) := by decide +kernel
theorem dX7_total_94 : decode cX7_total 94 = .ok (.ifCond .eq 7, 3) := by decide +kernel
theorem dX7_total_97 : decode cX7_total 97 = .ok (.iconst 2, 1) := by decide +kernel
theorem dX7_total_98 : decode cX7_total 98 = .ok (.goto 4, 3) := by decide +kernel
theorem dX7_total_101 : decode cX7_total 101 = .ok (.iconst 0, 1) := by decide +kernel
theorem dX7_total_102 : decode cX7_total 102 = .ok (.iadd, 1) := by decide +kernel
theorem dX7_total_103 : decode cX7_total 103 = .ok (.aload_n 0, 1) := by decide +kernel
theorem dX7_total_104 : decode cX7_total 104 = .ok (.getfield 59, 3) := by decide +kernel
theorem dX7_total_107 : decode cX7_total 107 = .ok (.iconst 2, 1) := by decide +kernel
theorem dX7_total_108 : decode cX7_total 108 = .ok (.baload, 1) := by decide +kernel
theorem dX7_total_109 : decode cX7_total 109 = .ok (.ifCond .eq 7, 3) := by decide +kernel
theorem dX7_total_112 : decode cX7_total 112 = .ok (.iconst 4, 1) := by decide +kernel
theorem dX7_total_113 : decode cX7_total 113 = .ok (.goto 4, 3) := by decide +kernel
theorem dX7_total_116 : decode cX7_total 116 = .ok (.iconst 0, 1) := by decide +kernel
theorem dX7_total_117 : decode cX7_total 117 = .ok (.iadd, 1) := by decide +kernel
theorem dX7_total_118 : decode cX7_total 118 = .ok (.istore 4, 2) := by decide +kernel
theorem dX7_total_120 : decode cX7_total 120 = .ok (.iload_n 1, 1) := by decide +kernel
theorem dX7_total_121 : decode cX7_total 121 = .ok (.ifCond .ne 10, 3) := by decide +kernel
theorem dX7_total_124 : decode cX7_total 124 = .ok (.aload_n 0, 1) := by decide +kernel
theorem dX7_total_125 : decode cX7_total 125 = .ok (.getfield 118, 3) := by decide +kernel
theorem dX7_total_128 : decode cX7_total 128 = .ok (.goto 56, 3) := by decide +kernel
theorem dX7_total_131 : decode cX7_total 131 = .ok (.iload_n 1, 1) := by decide +kernel
theorem dX7_total_132 : decode cX7_total 132 = .ok (.iconst 1, 1) := by decide +kernel
theorem dX7_total_133 : decode cX7_total 133 = .ok (.if_icmp .ne 10, 3) := by decide +kernel
theorem dX7_total_136 : decode cX7_total 136 = .ok (.aload_n 0, 1) := by decide +kernel
theorem dX7_total_137 : decode cX7_total 137 = .ok (.getfield 121, 3) := by decide +kernel
theorem dX7_total_140 : decode cX7_total 140 = .ok (.goto 44, 3) := by decide +kernel
theorem dX7_total_143 : decode cX7_total 143 = .ok (.iload_n 1, 1) := by decide +kernel
theorem dX7_total_144 : decode cX7_total 144 = .ok (.iconst 2, 1) := by decide +kernel
theorem dX7_total_145 : decode cX7_total 145 = .ok (.if_icmp .ne 7, 3) := by decide +kernel
theorem dX7_total_148 : decode cX7_total 148 = .ok (.iload_n 2, 1) := by decide +kernel
theorem dX7_total_149 : decode cX7_total 149 = .ok (.goto 35, 3) := by decide +kernel
theorem dX7_total_152 : decode cX7_total 152 = .ok (.iload_n 1, 1) := by decide +kernel
theorem dX7_total_153 : decode cX7_total 153 = .ok (.iconst 3, 1) := by decide +kernel
theorem dX7_total_154 : decode cX7_total 154 = .ok (.if_icmp .ne 7, 3) := by decide +kernel
theorem dX7_total_157 : decode cX7_total 157 = .ok (.iload_n 3, 1) := by decide +kernel
theorem dX7_total_158 : decode cX7_total 158 = .ok (.goto 26, 3) := by decide +kernel
theorem dX7_total_161 : decode cX7_total 161 = .ok (.iload_n 1, 1) := by decide +kernel
theorem dX7_total_162 : decode cX7_total 162 = .ok (.iconst 4, 1) := by decide +kernel
theorem dX7_total_163 : decode cX7_total 163 = .ok (.if_icmp .ne 10, 3) := by decide +kernel
theorem dX7_total_166 : decode cX7_total 166 = .ok (.aload_n 0, 1) := by decide +kernel
theorem dX7_total_167 : decode cX7_total 167 = .ok (.invokevirtual 183, 3) := by decide +kernel
theorem dX7_total_170 : decode cX7_total 170 = .ok (.goto 14, 3) := by decide +kernel
theorem dX7_total_173 : decode cX7_total 173 = .ok (.iload_n 1, 1) := by decide +kernel
theorem dX7_total_174 : decode cX7_total 174 = .ok (.iconst 5, 1) := by decide +kernel
theorem dX7_total_175 : decode cX7_total 175 = .ok (.if_icmp .ne 8, 3) := by decide +kernel
theorem dX7_total_178 : decode cX7_total 178 = .ok (.iload 4, 2) := by decide +kernel
theorem dX7_total_180 : decode cX7_total 180 = .ok (.goto 4, 3) := by decide +kernel
theorem dX7_total_183 : decode cX7_total 183 = .ok (.iconst (-1), 1) := by decide +kernel
theorem dX7_total_184 : decode cX7_total 184 = .ok (.ireturn, 1) := by decide +kernel
theorem dX7_used_0 : decode cX7_used 0 = .ok (.aload_n 0, 1) := by decide +kernel
theorem dX7_used_1 : decode cX7_used 1 = .ok (.aload_n 0, 1) := by decide +kernel
theorem dX7_used_2 : decode cX7_used 2 = .ok (.iload_n 1, 1) := by decide +kernel
theorem dX7_used_3 : decode cX7_used 3 = .ok (.invokevirtual 131, 3) := by decide +kernel
theorem dX7_used_6 : decode cX7_used 6 = .ok (.ifCond .eq 7, 3) := by decide +kernel
theorem dX7_used_9 : decode cX7_used 9 = .ok (.iconst 0, 1) := by decide +kernel
theorem dX7_used_10 : decode cX7_used 10 = .ok (.goto 4, 3) := by decide +kernel
theorem dX7_used_13 : decode cX7_used 13 = .ok (.iconst 1, 1) := by decide +kernel
theorem dX7_used_14 : decode cX7_used 14 = .ok (.putfield 89, 3) := by decide +kernel
theorem dX7_used_17 : decode cX7_used 17 = .ok (.aload_n 0, 1) := by decide +kernel
theorem dX7_used_18 : decode cX7_used 18 = .ok (.getfield 89, 3) := by decide +kernel
theorem dX7_used_21 : decode cX7_used 21 = .ok (.ifCond .le 7, 3) := by decide +kernel
theorem dX7_used_24 : decode cX7_used 24 = .ok (.iconst 0, 1) := by decide +kernel
theorem dX7_used_25 : decode cX7_used 25 = .ok (.goto 8, 3) := by decide +kernel
theorem dX7_used_28 : decode cX7_used 28 = .ok (.aload_n 0, 1) := by decide +kernel
theorem dX7_used_29 : decode cX7_used 29 = .ok (.iload_n 1, 1) := by decide +kernel
theorem dX7_used_30 : decode cX7_used 30 = .ok (.invokevirtual 138, 3) := by decide +kernel
theorem dX7_used_33 : decode cX7_used 33 = .ok (.ireturn, 1) := by decide +kernel
theorem dX7_usedBy_0 : decode cX7_usedBy 0 = .ok (.iconst 0, 1) := by decide +kernel
theorem dX7_usedBy_1 : decode cX7_usedBy 1 = .ok (.istore_n 2, 1) := by decide +kernel
theorem dX7_usedBy_2 : decode cX7_usedBy 2 = .ok (.iconst 0, 1) := by decide +kernel
theorem dX7_usedBy_3 : decode cX7_usedBy 3 = .ok (.istore_n 3, 1) := by decide +kernel
theorem dX7_usedBy_4 : decode cX7_usedBy 4 = .ok (.iload_n 3, 1) := by decide +kernel
theorem dX7_usedBy_5 : decode cX7_usedBy 5 = .ok (.aload_n 0, 1) := by decide +kernel
theorem dX7_usedBy_6 : decode cX7_usedBy 6 = .ok (.getfield 121, 3) := by decide +kernel
theorem dX7_usedBy_9 : decode cX7_usedBy 9 = .ok (.if_icmp .ge 47, 3) := by decide +kernel
theorem dX7_usedBy_12 : decode cX7_usedBy 12 = .ok (.iload_n 2, 1) := by decide +kernel
theorem dX7_usedBy_13 : decode cX7_usedBy 13 = .ok (.aload_n 0, 1) := by decide +kernel
theorem dX7_usedBy_14 : decode cX7_usedBy 14 = .ok (.getfield 47, 3) := by decide +kernel
theorem dX7_usedBy_17 : decode cX7_usedBy 17 = .ok (.iload_n 3, 1) := by decide +kernel
theorem dX7_usedBy_18 : decode cX7_usedBy 18 = .ok (.iaload, 1) := by decide +kernel
theorem dX7_usedBy_19 : decode cX7_usedBy 19 = .ok (.iload_n 1, 1) := by decide +kernel
theorem dX7_usedBy_20 : decode cX7_usedBy 20 = .ok (.if_icmp .ne 27, 3) := by decide +kernel
theorem dX7_usedBy_23 : decode cX7_usedBy 23 = .ok (.aload_n 0, 1) := by decide +kernel
theorem dX7_usedBy_24 : decode cX7_usedBy 24 = .ok (.aload_n 0, 1) := by decide +kernel
theorem dX7_usedBy_25 : decode cX7_usedBy 25 = .ok (.getfield 53, 3) := by decide +kernel
theorem dX7_usedBy_28 : decode cX7_usedBy 28 = .ok (.iload_n 3, 1) := by decide +kernel
theorem dX7_usedBy_29 : decode cX7_usedBy 29 = .ok (.iaload, 1) := by decide +kernel
theorem dX7_usedBy_30 : decode cX7_usedBy 30 = .ok (.invokevirtual 124, 3) := by decide +kernel
theorem dX7_usedBy_33 : decode cX7_usedBy 33 = .ok (.aload_n 0, 1) := by decide +kernel
theorem dX7_usedBy_34 : decode cX7_usedBy 34 = .ok (.aload_n 0, 1) := by decide +kernel
theorem dX7_usedBy_35 : decode cX7_usedBy 35 = .ok (.getfield 56, 3) := by decide +kernel
theorem dX7_usedBy_38 : decode cX7_usedBy 38 = .ok (.iload_n 3, 1) := by decide +kernel
theorem dX7_usedBy_39 : decode cX7_usedBy 39 = .ok (.iaload, 1) := by decide +kernel
theorem dX7_usedBy_40 : decode cX7_usedBy 40 = .ok (.invokevirtual 124, 3) := by decide +kernel
theorem dX7_usedBy_43 : decode cX7_usedBy 43 = .ok (.iadd, 1) := by decide +kernel
theorem dX7_usedBy_44 : decode cX7_usedBy 44 = .ok (.goto 4, 3) := by decide +kernel
theorem dX7_usedBy_47 : decode cX7_usedBy 47 = .ok (.iconst 0, 1) := by decide +kernel
theorem dX7_usedBy_48 : decode cX7_usedBy 48 = .ok (.iadd, 1) := by decide +kernel
theorem dX7_usedBy_49 : decode cX7_usedBy 49 = .ok (.istore_n 2, 1) := by decide +kernel
theorem dX7_usedBy_50 : decode cX7_usedBy 50 = .ok (.iinc 3 1, 3) := by decide +kernel
theorem dX7_usedBy_53 : decode cX7_usedBy 53 = .ok (.goto (-49), 3) := by decide +kernel
theorem dX7_usedBy_56 : decode cX7_usedBy 56 = .ok (.iconst 0, 1) := by decide +kernel
theorem dX7_usedBy_57 : decode cX7_usedBy 57 = .ok (.istore_n 3, 1) := by decide +kernel
theorem dX7_usedBy_58 : decode cX7_usedBy 58 = .ok (.iload_n 3, 1) := by decide +kernel
theorem dX7_usedBy_59 : decode cX7_usedBy 59 = .ok (.iconst 3, 1) := by decide +kernel
theorem dX7_usedBy_60 : decode cX7_usedBy 60 = .ok (.if_icmp .ge 54, 3) := by decide +kernel
theorem dX7_usedBy_63 : decode cX7_usedBy 63 = .ok (.iload_n 2, 1) := by decide +kernel
theorem dX7_usedBy_64 : decode cX7_usedBy 64 = .ok (.aload_n 0, 1) := by decide +kernel
theorem dX7_usedBy_65 : decode cX7_usedBy 65 = .ok (.getfield 59, 3) := by decide +kernel
theorem dX7_usedBy_68 : decode cX7_usedBy 68 = .ok (.iload_n 3, 1) := by decide +kernel
theorem dX7_usedBy_69 : decode cX7_usedBy 69 = .ok (.baload, 1) := by decide +kernel
theorem dX7_usedBy_70 : decode cX7_usedBy 70 = .ok (.ifCond .eq 35, 3) := by decide +kernel
theorem dX7_usedBy_73 : decode cX7_usedBy 73 = .ok (.aload_n 0, 1) := by decide +kernel
theorem dX7_usedBy_74 : decode cX7_usedBy 74 = .ok (.getfield 65, 3) := by decide +kernel
theorem dX7_usedBy_77 : decode cX7_usedBy 77 = .ok (.iload_n 3, 1) := by decide +kernel
theorem dX7_usedBy_78 : decode cX7_usedBy 78 = .ok (.iaload, 1) := by decide +kernel
theorem dX7_usedBy_79 : decode cX7_usedBy 79 = .ok (.ifCond .ne 26, 3) := by decide +kernel
theorem dX7_usedBy_82 : decode cX7_usedBy 82 = .ok (.aload_n 0, 1) := by decide +kernel
theorem dX7_usedBy_83 : decode cX7_usedBy 83 = .ok (.getfield 62, 3) := by decide +kernel
theorem dX7_usedBy_86 : decode cX7_usedBy 86 = .ok (.iload_n 3, 1) := by decide +kernel
theorem dX7_usedBy_87 : decode cX7_usedBy 87 = .ok (.iaload, 1) := by decide +kernel
theorem dX7_usedBy_88 : decode cX7_usedBy 88 = .ok (.iload_n 1, 1) := by decide +kernel
theorem dX7_usedBy_89 : decode cX7_usedBy 89 = .ok (.if_icmp .ne 16, 3) := by decide +kernel
theorem dX7_usedBy_92 : decode cX7_usedBy 92 = .ok (.aload_n 0, 1) := by decide +kernel
theorem dX7_usedBy_93 : decode cX7_usedBy 93 = .ok (.aload_n 0, 1) := by decide +kernel
theorem dX7_usedBy_94 : decode cX7_usedBy 94 = .ok (.getfield 68, 3) := by decide +kernel
theorem dX7_usedBy_97 : decode cX7_usedBy 97 = .ok (.iload_n 3, 1) := by decide +kernel
theorem dX7_usedBy_98 : decode cX7_usedBy 98 = .ok (.iaload, 1) := by decide +kernel
theorem dX7_usedBy_99 : decode cX7_usedBy 99 = .ok (.invokevirtual 124, 3) := by decide +kernel
theorem dX7_usedBy_102 : decode cX7_usedBy 102 = .ok (.goto 4, 3) := by decide +kernel
theorem dX7_usedBy_105 : decode cX7_usedBy 105 = .ok (.iconst 0, 1) := by decide +kernel
theorem dX7_usedBy_106 : decode cX7_usedBy 106 = .ok (.iadd, 1) := by decide +kernel
theorem dX7_usedBy_107 : decode cX7_usedBy 107 = .ok (.istore_n 2, 1) := by decide +kernel
theorem dX7_usedBy_108 : decode cX7_usedBy 108 = .ok (.iinc 3 1, 3) := by decide +kernel
theorem dX7_usedBy_111 : decode cX7_usedBy 111 = .ok (.goto (-53), 3) := by decide +kernel
theorem dX7_usedBy_114 : decode cX7_usedBy 114 = .ok (.iload_n 2, 1) := by decide +kernel
theorem dX7_usedBy_115 : decode cX7_usedBy 115 = .ok (.ireturn, 1) := by decide +kernel
