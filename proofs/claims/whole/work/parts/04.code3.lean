theorem dX9_at_21 : decode cX9_at 21 = .ok (.iadd, 1) := by decide +kernel
theorem dX9_at_22 : decode cX9_at 22 = .ok (.iaload, 1) := by decide +kernel
theorem dX9_at_23 : decode cX9_at 23 = .ok (.ireturn, 1) := by decide +kernel
theorem dX9_at_24 : decode cX9_at 24 = .ok (.aload_n 0, 1) := by decide +kernel
theorem dX9_at_25 : decode cX9_at 25 = .ok (.getfield 13, 3) := by decide +kernel
theorem dX9_at_28 : decode cX9_at 28 = .ok (.sipush 404, 3) := by decide +kernel
theorem dX9_at_31 : decode cX9_at 31 = .ok (.aload_n 0, 1) := by decide +kernel
theorem dX9_at_32 : decode cX9_at 32 = .ok (.getfield 13, 3) := by decide +kernel
theorem dX9_at_35 : decode cX9_at 35 = .ok (.sipush 404, 3) := by decide +kernel
theorem dX9_at_38 : decode cX9_at 38 = .ok (.iload_n 1, 1) := by decide +kernel
theorem dX9_at_39 : decode cX9_at 39 = .ok (.imul, 1) := by decide +kernel
theorem dX9_at_40 : decode cX9_at 40 = .ok (.iconst 1, 1) := by decide +kernel
theorem dX9_at_41 : decode cX9_at 41 = .ok (.iadd, 1) := by decide +kernel
theorem dX9_at_42 : decode cX9_at 42 = .ok (.iaload, 1) := by decide +kernel
theorem dX9_at_43 : decode cX9_at 43 = .ok (.imul, 1) := by decide +kernel
theorem dX9_at_44 : decode cX9_at 44 = .ok (.iconst 4, 1) := by decide +kernel
theorem dX9_at_45 : decode cX9_at 45 = .ok (.iadd, 1) := by decide +kernel
theorem dX9_at_46 : decode cX9_at 46 = .ok (.iload_n 2, 1) := by decide +kernel
theorem dX9_at_47 : decode cX9_at 47 = .ok (.iadd, 1) := by decide +kernel
theorem dX9_at_48 : decode cX9_at 48 = .ok (.iaload, 1) := by decide +kernel
theorem dX9_at_49 : decode cX9_at 49 = .ok (.istore_n 3, 1) := by decide +kernel
theorem dX9_at_50 : decode cX9_at 50 = .ok (.aload_n 0, 1) := by decide +kernel
theorem dX9_at_51 : decode cX9_at 51 = .ok (.getfield 13, 3) := by decide +kernel
theorem dX9_at_54 : decode cX9_at 54 = .ok (.sipush 404, 3) := by decide +kernel
theorem dX9_at_57 : decode cX9_at 57 = .ok (.aload_n 0, 1) := by decide +kernel
theorem dX9_at_58 : decode cX9_at 58 = .ok (.getfield 13, 3) := by decide +kernel
theorem dX9_at_61 : decode cX9_at 61 = .ok (.sipush 404, 3) := by decide +kernel
theorem dX9_at_64 : decode cX9_at 64 = .ok (.iload_n 1, 1) := by decide +kernel
theorem dX9_at_65 : decode cX9_at 65 = .ok (.imul, 1) := by decide +kernel
theorem dX9_at_66 : decode cX9_at 66 = .ok (.iconst 2, 1) := by decide +kernel
theorem dX9_at_67 : decode cX9_at 67 = .ok (.iadd, 1) := by decide +kernel
theorem dX9_at_68 : decode cX9_at 68 = .ok (.iaload, 1) := by decide +kernel
theorem dX9_at_69 : decode cX9_at 69 = .ok (.imul, 1) := by decide +kernel
theorem dX9_at_70 : decode cX9_at 70 = .ok (.iconst 4, 1) := by decide +kernel
theorem dX9_at_71 : decode cX9_at 71 = .ok (.iadd, 1) := by decide +kernel
theorem dX9_at_72 : decode cX9_at 72 = .ok (.iload_n 2, 1) := by decide +kernel
theorem dX9_at_73 : decode cX9_at 73 = .ok (.iadd, 1) := by decide +kernel
theorem dX9_at_74 : decode cX9_at 74 = .ok (.iaload, 1) := by decide +kernel
theorem dX9_at_75 : decode cX9_at 75 = .ok (.istore 4, 2) := by decide +kernel
theorem dX9_at_77 : decode cX9_at 77 = .ok (.iload_n 3, 1) := by decide +kernel
theorem dX9_at_78 : decode cX9_at 78 = .ok (.ldc 86, 2) := by decide +kernel
theorem dX9_at_80 : decode cX9_at 80 = .ok (.if_icmp .ge 38, 3) := by decide +kernel
theorem dX9_at_83 : decode cX9_at 83 = .ok (.iload 4, 2) := by decide +kernel
theorem dX9_at_85 : decode cX9_at 85 = .ok (.ldc 86, 2) := by decide +kernel
theorem dX9_at_87 : decode cX9_at 87 = .ok (.if_icmp .ge 31, 3) := by decide +kernel
theorem dX9_at_90 : decode cX9_at 90 = .ok (.iload_n 3, 1) := by decide +kernel
theorem dX9_at_91 : decode cX9_at 91 = .ok (.iload 4, 2) := by decide +kernel
theorem dX9_at_93 : decode cX9_at 93 = .ok (.iadd, 1) := by decide +kernel
theorem dX9_at_94 : decode cX9_at 94 = .ok (.ldc 87, 2) := by decide +kernel
theorem dX9_at_96 : decode cX9_at 96 = .ok (.if_icmp .gt 12, 3) := by decide +kernel
theorem dX9_at_99 : decode cX9_at 99 = .ok (.iload_n 3, 1) := by decide +kernel
theorem dX9_at_100 : decode cX9_at 100 = .ok (.iload 4, 2) := by decide +kernel
theorem dX9_at_102 : decode cX9_at 102 = .ok (.iadd, 1) := by decide +kernel
theorem dX9_at_103 : decode cX9_at 103 = .ok (.ldc 88, 2) := by decide +kernel
theorem dX9_at_105 : decode cX9_at 105 = .ok (.if_icmp .ge 8, 3) := by decide +kernel
theorem dX9_at_108 : decode cX9_at 108 = .ok (.ldc 86, 2) := by decide +kernel
theorem dX9_at_110 : decode cX9_at 110 = .ok (.goto 7, 3) := by decide +kernel
theorem dX9_at_113 : decode cX9_at 113 = .ok (.iload_n 3, 1) := by decide +kernel
theorem dX9_at_114 : decode cX9_at 114 = .ok (.iload 4, 2) := by decide +kernel
theorem dX9_at_116 : decode cX9_at 116 = .ok (.iadd, 1) := by decide +kernel
theorem dX9_at_117 : decode cX9_at 117 = .ok (.ireturn, 1) := by decide +kernel
theorem dX9_at_118 : decode cX9_at 118 = .ok (.iload_n 3, 1) := by decide +kernel
theorem dX9_at_119 : decode cX9_at 119 = .ok (.ldc 86, 2) := by decide +kernel
theorem dX9_at_121 : decode cX9_at 121 = .ok (.if_icmp .eq 10, 3) := by decide +kernel
theorem dX9_at_124 : decode cX9_at 124 = .ok (.iload 4, 2) := by decide +kernel
theorem dX9_at_126 : decode cX9_at 126 = .ok (.ldc 86, 2) := by decide +kernel
theorem dX9_at_128 : decode cX9_at 128 = .ok (.if_icmp .ne 8, 3) := by decide +kernel
theorem dX9_at_131 : decode cX9_at 131 = .ok (.ldc 86, 2) := by decide +kernel
theorem dX9_at_133 : decode cX9_at 133 = .ok (.goto 5, 3) := by decide +kernel
theorem dX9_at_136 : decode cX9_at 136 = .ok (.ldc 89, 2) := by decide +kernel
theorem dX9_at_138 : decode cX9_at 138 = .ok (.ireturn, 1) := by decide +kernel
theorem dX9_bits_0 : decode cX9_bits 0 = .ok (.lconst 0, 1) := by decide +kernel
theorem dX9_bits_1 : decode cX9_bits 1 = .ok (.lstore_n 3, 1) := by decide +kernel
theorem dX9_bits_2 : decode cX9_bits 2 = .ok (.iconst 0, 1) := by decide +kernel
theorem dX9_bits_3 : decode cX9_bits 3 = .ok (.istore 5, 2) := by decide +kernel
theorem dX9_bits_5 : decode cX9_bits 5 = .ok (.iload 5, 2) := by decide +kernel
theorem dX9_bits_7 : decode cX9_bits 7 = .ok (.iload_n 2, 1) := by decide +kernel
theorem dX9_bits_8 : decode cX9_bits 8 = .ok (.if_icmp .ge 29, 3) := by decide +kernel
theorem dX9_bits_11 : decode cX9_bits 11 = .ok (.lload_n 3, 1) := by decide +kernel
theorem dX9_bits_12 : decode cX9_bits 12 = .ok (.bipush 8, 2) := by decide +kernel
theorem dX9_bits_14 : decode cX9_bits 14 = .ok (.lshl, 1) := by decide +kernel
theorem dX9_bits_15 : decode cX9_bits 15 = .ok (.aload_n 0, 1) := by decide +kernel
theorem dX9_bits_16 : decode cX9_bits 16 = .ok (.getfield 23, 3) := by decide +kernel
theorem dX9_bits_19 : decode cX9_bits 19 = .ok (.iload_n 1, 1) := by decide +kernel
theorem dX9_bits_20 : decode cX9_bits 20 = .ok (.iload 5, 2) := by decide +kernel
theorem dX9_bits_22 : decode cX9_bits 22 = .ok (.iadd, 1) := by decide +kernel
theorem dX9_bits_23 : decode cX9_bits 23 = .ok (.baload, 1) := by decide +kernel
theorem dX9_bits_24 : decode cX9_bits 24 = .ok (.sipush 255, 3) := by decide +kernel
theorem dX9_bits_27 : decode cX9_bits 27 = .ok (.iand, 1) := by decide +kernel
theorem dX9_bits_28 : decode cX9_bits 28 = .ok (.i2l, 1) := by decide +kernel
theorem dX9_bits_29 : decode cX9_bits 29 = .ok (.lor, 1) := by decide +kernel
theorem dX9_bits_30 : decode cX9_bits 30 = .ok (.lstore_n 3, 1) := by decide +kernel
theorem dX9_bits_31 : decode cX9_bits 31 = .ok (.iinc 5 1, 3) := by decide +kernel
theorem dX9_bits_34 : decode cX9_bits 34 = .ok (.goto (-29), 3) := by decide +kernel
theorem dX9_bits_37 : decode cX9_bits 37 = .ok (.lload_n 3, 1) := by decide +kernel
theorem dX9_bits_38 : decode cX9_bits 38 = .ok (.lreturn, 1) := by decide +kernel
theorem dX9_reading_0 : decode cX9_reading 0 = .ok (.lload_n 0, 1) := by decide +kernel
theorem dX9_reading_1 : decode cX9_reading 1 = .ok (.ldc2_w 90, 3) := by decide +kernel
theorem dX9_reading_4 : decode cX9_reading 4 = .ok (.lcmp, 1) := by decide +kernel
theorem dX9_reading_5 : decode cX9_reading 5 = .ok (.ifCond .gt 11, 3) := by decide +kernel
theorem dX9_reading_8 : decode cX9_reading 8 = .ok (.lload_n 0, 1) := by decide +kernel
theorem dX9_reading_9 : decode cX9_reading 9 = .ok (.ldc2_w 92, 3) := by decide +kernel
theorem dX9_reading_12 : decode cX9_reading 12 = .ok (.lcmp, 1) := by decide +kernel
theorem dX9_reading_13 : decode cX9_reading 13 = .ok (.ifCond .ge 8, 3) := by decide +kernel
theorem dX9_reading_16 : decode cX9_reading 16 = .ok (.ldc 86, 2) := by decide +kernel
theorem dX9_reading_18 : decode cX9_reading 18 = .ok (.goto 5, 3) := by decide +kernel
theorem dX9_reading_21 : decode cX9_reading 21 = .ok (.lload_n 0, 1) := by decide +kernel
theorem dX9_reading_22 : decode cX9_reading 22 = .ok (.l2i, 1) := by decide +kernel
theorem dX9_reading_23 : decode cX9_reading 23 = .ok (.ireturn, 1) := by decide +kernel
theorem dX9_cut_0 : decode cX9_cut 0 = .ok (.iload_n 1, 1) := by decide +kernel
theorem dX9_cut_1 : decode cX9_cut 1 = .ok (.ifCond .ge 5, 3) := by decide +kernel
theorem dX9_cut_4 : decode cX9_cut 4 = .ok (.iconst 0, 1) := by decide +kernel
theorem dX9_cut_5 : decode cX9_cut 5 = .ok (.ireturn, 1) := by decide +kernel
theorem dX9_cut_6 : decode cX9_cut 6 = .ok (.iload_n 1, 1) := by decide +kernel
theorem dX9_cut_7 : decode cX9_cut 7 = .ok (.bipush 19, 2) := by decide +kernel
theorem dX9_cut_9 : decode cX9_cut 9 = .ok (.if_icmp .le 6, 3) := by decide +kernel
theorem dX9_cut_12 : decode cX9_cut 12 = .ok (.ldc 86, 2) := by decide +kernel
theorem dX9_cut_14 : decode cX9_cut 14 = .ok (.ireturn, 1) := by decide +kernel
theorem dX9_cut_15 : decode cX9_cut 15 = .ok (.lconst 1, 1) := by decide +kernel
theorem dX9_cut_16 : decode cX9_cut 16 = .ok (.iload 4, 2) := by decide +kernel
theorem dX9_cut_18 : decode cX9_cut 18 = .ok (.lshl, 1) := by decide +kernel
theorem dX9_cut_19 : decode cX9_cut 19 = .ok (.lload_n 2, 1) := by decide +kernel
theorem dX9_cut_20 : decode cX9_cut 20 = .ok (.lor, 1) := by decide +kernel
theorem dX9_cut_21 : decode cX9_cut 21 = .ok (.iload 4, 2) := by decide +kernel
theorem dX9_cut_23 : decode cX9_cut 23 = .ok (.iload_n 1, 1) := by decide +kernel
theorem dX9_cut_24 : decode cX9_cut 24 = .ok (.isub, 1) := by decide +kernel
theorem dX9_cut_25 : decode cX9_cut 25 = .ok (.lshr, 1) := by decide +kernel
theorem dX9_cut_26 : decode cX9_cut 26 = .ok (.lstore 5, 2) := by decide +kernel
theorem dX9_cut_28 : decode cX9_cut 28 = .ok (.iload_n 0, 1) := by decide +kernel
theorem dX9_cut_29 : decode cX9_cut 29 = .ok (.ifCond .eq 9, 3) := by decide +kernel
theorem dX9_cut_32 : decode cX9_cut 32 = .ok (.lload 5, 2) := by decide +kernel
theorem dX9_cut_34 : decode cX9_cut 34 = .ok (.lneg, 1) := by decide +kernel
theorem dX9_cut_35 : decode cX9_cut 35 = .ok (.goto 5, 3) := by decide +kernel
theorem dX9_cut_38 : decode cX9_cut 38 = .ok (.lload 5, 2) := by decide +kernel
theorem dX9_cut_40 : decode cX9_cut 40 = .ok (.invokestatic 94, 3) := by decide +kernel
theorem dX9_cut_43 : decode cX9_cut 43 = .ok (.ireturn, 1) := by decide +kernel
theorem dX9_number_0 : decode cX9_number 0 = .ok (.iload_n 2, 1) := by decide +kernel
theorem dX9_number_1 : decode cX9_number 1 = .ok (.invokestatic 98, 3) := by decide +kernel
theorem dX9_number_4 : decode cX9_number 4 = .ok (.istore_n 3, 1) := by decide +kernel
theorem dX9_number_5 : decode cX9_number 5 = .ok (.aload_n 0, 1) := by decide +kernel
theorem dX9_number_6 : decode cX9_number 6 = .ok (.iload_n 1, 1) := by decide +kernel
theorem dX9_number_7 : decode cX9_number 7 = .ok (.iload_n 3, 1) := by decide +kernel
theorem dX9_number_8 : decode cX9_number 8 = .ok (.invokevirtual 101, 3) := by decide +kernel
theorem dX9_number_11 : decode cX9_number 11 = .ok (.lstore 4, 2) := by decide +kernel
theorem dX9_number_13 : decode cX9_number 13 = .ok (.iload_n 2, 1) := by decide +kernel
theorem dX9_number_14 : decode cX9_number 14 = .ok (.tableswitch 100 0 4 #[34, 39, 44, 52, 58], 34) := by decide +kernel
theorem dX9_number_48 : decode cX9_number 48 = .ok (.lload 4, 2) := by decide +kernel
theorem dX9_number_50 : decode cX9_number 50 = .ok (.l2i, 1) := by decide +kernel
theorem dX9_number_51 : decode cX9_number 51 = .ok (.i2b, 1) := by decide +kernel
theorem dX9_number_52 : decode cX9_number 52 = .ok (.ireturn, 1) := by decide +kernel
theorem dX9_number_53 : decode cX9_number 53 = .ok (.lload 4, 2) := by decide +kernel
theorem dX9_number_55 : decode cX9_number 55 = .ok (.l2i, 1) := by decide +kernel
theorem dX9_number_56 : decode cX9_number 56 = .ok (.i2s, 1) := by decide +kernel
theorem dX9_number_57 : decode cX9_number 57 = .ok (.ireturn, 1) := by decide +kernel
theorem dX9_number_58 : decode cX9_number 58 = .ok (.lload 4, 2) := by decide +kernel
theorem dX9_number_60 : decode cX9_number 60 = .ok (.l2i, 1) := by decide +kernel
theorem dX9_number_61 : decode cX9_number 61 = .ok (.i2l, 1) := by decide +kernel
theorem dX9_number_62 : decode cX9_number 62 = .ok (.invokestatic 94, 3) := by decide +kernel
theorem dX9_number_65 : decode cX9_number 65 = .ok (.ireturn, 1) := by decide +kernel
theorem dX9_number_66 : decode cX9_number 66 = .ok (.lload 4, 2) := by decide +kernel
theorem dX9_number_68 : decode cX9_number 68 = .ok (.invokestatic 94, 3) := by decide +kernel
theorem dX9_number_71 : decode cX9_number 71 = .ok (.ireturn, 1) := by decide +kernel
theorem dX9_number_72 : decode cX9_number 72 = .ok (.lload 4, 2) := by decide +kernel
theorem dX9_number_74 : decode cX9_number 74 = .ok (.bipush 31, 2) := by decide +kernel
theorem dX9_number_76 : decode cX9_number 76 = .ok (.lshr, 1) := by decide +kernel
theorem dX9_number_77 : decode cX9_number 77 = .ok (.lconst 1, 1) := by decide +kernel
theorem dX9_number_78 : decode cX9_number 78 = .ok (.land, 1) := by decide +kernel
theorem dX9_number_79 : decode cX9_number 79 = .ok (.lconst 1, 1) := by decide +kernel
theorem dX9_number_80 : decode cX9_number 80 = .ok (.lcmp, 1) := by decide +kernel
theorem dX9_number_81 : decode cX9_number 81 = .ok (.ifCond .ne 7, 3) := by decide +kernel
theorem dX9_number_84 : decode cX9_number 84 = .ok (.iconst 1, 1) := by decide +kernel
theorem dX9_number_85 : decode cX9_number 85 = .ok (.goto 4, 3) := by decide +kernel
theorem dX9_number_88 : decode cX9_number 88 = .ok (.iconst 0, 1) := by decide +kernel
theorem dX9_number_89 : decode cX9_number 89 = .ok (.lload 4, 2) := by decide +kernel
theorem dX9_number_91 : decode cX9_number 91 = .ok (.bipush 23, 2) := by decide +kernel
theorem dX9_number_93 : decode cX9_number 93 = .ok (.lshr, 1) := by decide +kernel
theorem dX9_number_94 : decode cX9_number 94 = .ok (.ldc2_w 105, 3) := by decide +kernel
theorem dX9_number_97 : decode cX9_number 97 = .ok (.land, 1) := by decide +kernel
theorem dX9_number_98 : decode cX9_number 98 = .ok (.l2i, 1) := by decide +kernel
theorem dX9_number_99 : decode cX9_number 99 = .ok (.bipush 127, 2) := by decide +kernel
theorem dX9_number_101 : decode cX9_number 101 = .ok (.isub, 1) := by decide +kernel
theorem dX9_number_102 : decode cX9_number 102 = .ok (.lload 4, 2) := by decide +kernel
theorem dX9_number_104 : decode cX9_number 104 = .ok (.ldc2_w 107, 3) := by decide +kernel
theorem dX9_number_107 : decode cX9_number 107 = .ok (.land, 1) := by decide +kernel
theorem dX9_number_108 : decode cX9_number 108 = .ok (.bipush 23, 2) := by decide +kernel
theorem dX9_number_110 : decode cX9_number 110 = .ok (.invokestatic 109, 3) := by decide +kernel
theorem dX9_number_113 : decode cX9_number 113 = .ok (.ireturn, 1) := by decide +kernel
theorem dX9_number_114 : decode cX9_number 114 = .ok (.lload 4, 2) := by decide +kernel
theorem dX9_number_116 : decode cX9_number 116 = .ok (.lconst 0, 1) := by decide +kernel
theorem dX9_number_117 : decode cX9_number 117 = .ok (.lcmp, 1) := by decide +kernel
theorem dX9_number_118 : decode cX9_number 118 = .ok (.ifCond .ge 7, 3) := by decide +kernel
theorem dX9_number_121 : decode cX9_number 121 = .ok (.iconst 1, 1) := by decide +kernel
theorem dX9_number_122 : decode cX9_number 122 = .ok (.goto 4, 3) := by decide +kernel
theorem dX9_number_125 : decode cX9_number 125 = .ok (.iconst 0, 1) := by decide +kernel
theorem dX9_number_126 : decode cX9_number 126 = .ok (.lload 4, 2) := by decide +kernel
theorem dX9_number_128 : decode cX9_number 128 = .ok (.bipush 52, 2) := by decide +kernel
theorem dX9_number_130 : decode cX9_number 130 = .ok (.lshr, 1) := by decide +kernel
theorem dX9_number_131 : decode cX9_number 131 = .ok (.ldc2_w 113, 3) := by decide +kernel
theorem dX9_number_134 : decode cX9_number 134 = .ok (.land, 1) := by decide +kernel
theorem dX9_number_135 : decode cX9_number 135 = .ok (.l2i, 1) := by decide +kernel
theorem dX9_number_136 : decode cX9_number 136 = .ok (.sipush 1023, 3) := by decide +kernel
theorem dX9_number_139 : decode cX9_number 139 = .ok (.isub, 1) := by decide +kernel
theorem dX9_number_140 : decode cX9_number 140 = .ok (.lload 4, 2) := by decide +kernel
theorem dX9_number_142 : decode cX9_number 142 = .ok (.ldc2_w 115, 3) := by decide +kernel
theorem dX9_number_145 : decode cX9_number 145 = .ok (.land, 1) := by decide +kernel
theorem dX9_number_146 : decode cX9_number 146 = .ok (.bipush 52, 2) := by decide +kernel
theorem dX9_number_148 : decode cX9_number 148 = .ok (.invokestatic 109, 3) := by decide +kernel
theorem dX9_number_151 : decode cX9_number 151 = .ok (.ireturn, 1) := by decide +kernel
theorem dX9_sizeOf_0 : decode cX9_sizeOf 0 = .ok (.iload_n 0, 1) := by decide +kernel
theorem dX9_sizeOf_1 : decode cX9_sizeOf 1 = .ok (.ifCond .ne 7, 3) := by decide +kernel
theorem dX9_sizeOf_4 : decode cX9_sizeOf 4 = .ok (.iconst 1, 1) := by decide +kernel
theorem dX9_sizeOf_5 : decode cX9_sizeOf 5 = .ok (.goto 28, 3) := by decide +kernel
theorem dX9_sizeOf_8 : decode cX9_sizeOf 8 = .ok (.iload_n 0, 1) := by decide +kernel
theorem dX9_sizeOf_9 : decode cX9_sizeOf 9 = .ok (.iconst 1, 1) := by decide +kernel
theorem dX9_sizeOf_10 : decode cX9_sizeOf 10 = .ok (.if_icmp .ne 7, 3) := by decide +kernel
theorem dX9_sizeOf_13 : decode cX9_sizeOf 13 = .ok (.iconst 2, 1) := by decide +kernel
theorem dX9_sizeOf_14 : decode cX9_sizeOf 14 = .ok (.goto 19, 3) := by decide +kernel
theorem dX9_sizeOf_17 : decode cX9_sizeOf 17 = .ok (.iload_n 0, 1) := by decide +kernel
theorem dX9_sizeOf_18 : decode cX9_sizeOf 18 = .ok (.iconst 2, 1) := by decide +kernel
theorem dX9_sizeOf_19 : decode cX9_sizeOf 19 = .ok (.if_icmp .eq 8, 3) := by decide +kernel
theorem dX9_sizeOf_22 : decode cX9_sizeOf 22 = .ok (.iload_n 0, 1) := by decide +kernel
theorem dX9_sizeOf_23 : decode cX9_sizeOf 23 = .ok (.iconst 4, 1) := by decide +kernel
theorem dX9_sizeOf_24 : decode cX9_sizeOf 24 = .ok (.if_icmp .ne 7, 3) := by decide +kernel
theorem dX9_sizeOf_27 : decode cX9_sizeOf 27 = .ok (.iconst 4, 1) := by decide +kernel
theorem dX9_sizeOf_28 : decode cX9_sizeOf 28 = .ok (.goto 5, 3) := by decide +kernel
theorem dX9_sizeOf_31 : decode cX9_sizeOf 31 = .ok (.bipush 8, 2) := by decide +kernel
theorem dX9_sizeOf_33 : decode cX9_sizeOf 33 = .ok (.ireturn, 1) := by decide +kernel
theorem dX9_read_0 : decode cX9_read 0 = .ok (.aload_n 0, 1) := by decide +kernel
theorem dX9_read_1 : decode cX9_read 1 = .ok (.iconst 0, 1) := by decide +kernel
theorem dX9_read_2 : decode cX9_read 2 = .ok (.putfield 1, 3) := by decide +kernel
theorem dX9_read_5 : decode cX9_read 5 = .ok (.aload_n 0, 1) := by decide +kernel
theorem dX9_read_6 : decode cX9_read 6 = .ok (.getfield 64, 3) := by decide +kernel
theorem dX9_read_9 : decode cX9_read 9 = .ok (.istore_n 3, 1) := by decide +kernel
theorem dX9_read_10 : decode cX9_read 10 = .ok (.aload_n 0, 1) := by decide +kernel
theorem dX9_read_11 : decode cX9_read 11 = .ok (.iconst 0, 1) := by decide +kernel
theorem dX9_read_12 : decode cX9_read 12 = .ok (.putfield 64, 3) := by decide +kernel
theorem dX9_read_15 : decode cX9_read 15 = .ok (.aload_n 0, 1) := by decide +kernel
theorem dX9_read_16 : decode cX9_read 16 = .ok (.iload_n 1, 1) := by decide +kernel
theorem dX9_read_17 : decode cX9_read 17 = .ok (.invokevirtual 83, 3) := by decide +kernel
theorem dX9_read_20 : decode cX9_read 20 = .ok (.ifCond .ne 5, 3) := by decide +kernel
theorem dX9_read_23 : decode cX9_read 23 = .ok (.iconst (-1), 1) := by decide +kernel
theorem dX9_read_24 : decode cX9_read 24 = .ok (.ireturn, 1) := by decide +kernel
theorem dX9_read_25 : decode cX9_read 25 = .ok (.iload_n 2, 1) := by decide +kernel
theorem dX9_read_26 : decode cX9_read 26 = .ok (.ifCond .lt 8, 3) := by decide +kernel
theorem dX9_read_29 : decode cX9_read 29 = .ok (.iload_n 2, 1) := by decide +kernel
theorem dX9_read_30 : decode cX9_read 30 = .ok (.iconst 5, 1) := by decide +kernel
theorem dX9_read_31 : decode cX9_read 31 = .ok (.if_icmp .le 6, 3) := by decide +kernel
theorem dX9_read_34 : decode cX9_read 34 = .ok (.bipush (-2), 2) := by decide +kernel
theorem dX9_read_36 : decode cX9_read 36 = .ok (.ireturn, 1) := by decide +kernel
theorem dX9_read_37 : decode cX9_read 37 = .ok (.iload_n 2, 1) := by decide +kernel
theorem dX9_read_38 : decode cX9_read 38 = .ok (.invokestatic 98, 3) := by decide +kernel
theorem dX9_read_41 : decode cX9_read 41 = .ok (.istore 4, 2) := by decide +kernel
theorem dX9_read_43 : decode cX9_read 43 = .ok (.iload_n 3, 1) := by decide +kernel
theorem dX9_read_44 : decode cX9_read 44 = .ok (.iload 4, 2) := by decide +kernel
theorem dX9_read_46 : decode cX9_read 46 = .ok (.iadd, 1) := by decide +kernel
theorem dX9_read_47 : decode cX9_read 47 = .ok (.iconst 1, 1) := by decide +kernel
theorem dX9_read_48 : decode cX9_read 48 = .ok (.isub, 1) := by decide +kernel
theorem dX9_read_49 : decode cX9_read 49 = .ok (.iload 4, 2) := by decide +kernel
theorem dX9_read_51 : decode cX9_read 51 = .ok (.idiv, 1) := by decide +kernel
theorem dX9_read_52 : decode cX9_read 52 = .ok (.istore 5, 2) := by decide +kernel
theorem dX9_read_54 : decode cX9_read 54 = .ok (.aload_n 0, 1) := by decide +kernel
theorem dX9_read_55 : decode cX9_read 55 = .ok (.getfield 13, 3) := by decide +kernel
theorem dX9_read_58 : decode cX9_read 58 = .ok (.sipush 404, 3) := by decide +kernel
theorem dX9_read_61 : decode cX9_read 61 = .ok (.iload_n 1, 1) := by decide +kernel
theorem dX9_read_62 : decode cX9_read 62 = .ok (.imul, 1) := by decide +kernel
theorem dX9_read_63 : decode cX9_read 63 = .ok (.iconst 3, 1) := by decide +kernel
theorem dX9_read_64 : decode cX9_read 64 = .ok (.iadd, 1) := by decide +kernel
theorem dX9_read_65 : decode cX9_read 65 = .ok (.iaload, 1) := by decide +kernel
theorem dX9_read_66 : decode cX9_read 66 = .ok (.istore 6, 2) := by decide +kernel
theorem dX9_read_68 : decode cX9_read 68 = .ok (.iload 6, 2) := by decide +kernel
theorem dX9_read_70 : decode cX9_read 70 = .ok (.iload 5, 2) := by decide +kernel
theorem dX9_read_72 : decode cX9_read 72 = .ok (.iadd, 1) := by decide +kernel
theorem dX9_read_73 : decode cX9_read 73 = .ok (.sipush 400, 3) := by decide +kernel
theorem dX9_read_76 : decode cX9_read 76 = .ok (.if_icmp .le 6, 3) := by decide +kernel
theorem dX9_read_79 : decode cX9_read 79 = .ok (.bipush (-3), 2) := by decide +kernel
theorem dX9_read_81 : decode cX9_read 81 = .ok (.ireturn, 1) := by decide +kernel
theorem dX9_read_82 : decode cX9_read 82 = .ok (.aload_n 0, 1) := by decide +kernel
theorem dX9_read_83 : decode cX9_read 83 = .ok (.invokevirtual 76, 3) := by decide +kernel
theorem dX9_read_86 : decode cX9_read 86 = .ok (.iconst 0, 1) := by decide +kernel
theorem dX9_read_87 : decode cX9_read 87 = .ok (.istore 7, 2) := by decide +kernel
theorem dX9_read_89 : decode cX9_read 89 = .ok (.iload 7, 2) := by decide +kernel
theorem dX9_read_91 : decode cX9_read 91 = .ok (.iload 5, 2) := by decide +kernel
theorem dX9_read_93 : decode cX9_read 93 = .ok (.if_icmp .ge 122, 3) := by decide +kernel
theorem dX9_read_96 : decode cX9_read 96 = .ok (.iload 6, 2) := by decide +kernel
theorem dX9_read_98 : decode cX9_read 98 = .ok (.iload 7, 2) := by decide +kernel
theorem dX9_read_100 : decode cX9_read 100 = .ok (.iadd, 1) := by decide +kernel
theorem dX9_read_101 : decode cX9_read 101 = .ok (.istore 8, 2) := by decide +kernel
theorem dX9_read_103 : decode cX9_read 103 = .ok (.aload_n 0, 1) := by decide +kernel
theorem dX9_read_104 : decode cX9_read 104 = .ok (.getfield 13, 3) := by decide +kernel
theorem dX9_read_107 : decode cX9_read 107 = .ok (.sipush 404, 3) := by decide +kernel
theorem dX9_read_110 : decode cX9_read 110 = .ok (.iload_n 1, 1) := by decide +kernel
theorem dX9_read_111 : decode cX9_read 111 = .ok (.imul, 1) := by decide +kernel
theorem dX9_read_112 : decode cX9_read 112 = .ok (.iaload, 1) := by decide +kernel
theorem dX9_read_113 : decode cX9_read 113 = .ok (.iconst 3, 1) := by decide +kernel
theorem dX9_read_114 : decode cX9_read 114 = .ok (.if_icmp .ne 41, 3) := by decide +kernel
theorem dX9_read_117 : decode cX9_read 117 = .ok (.iload 8, 2) := by decide +kernel
theorem dX9_read_119 : decode cX9_read 119 = .ok (.aload_n 0, 1) := by decide +kernel
theorem dX9_read_120 : decode cX9_read 120 = .ok (.getfield 13, 3) := by decide +kernel
theorem dX9_read_123 : decode cX9_read 123 = .ok (.sipush 404, 3) := by decide +kernel
theorem dX9_read_126 : decode cX9_read 126 = .ok (.iload_n 1, 1) := by decide +kernel
theorem dX9_read_127 : decode cX9_read 127 = .ok (.imul, 1) := by decide +kernel
theorem dX9_read_128 : decode cX9_read 128 = .ok (.iconst 1, 1) := by decide +kernel
theorem dX9_read_129 : decode cX9_read 129 = .ok (.iadd, 1) := by decide +kernel
theorem dX9_read_130 : decode cX9_read 130 = .ok (.iaload, 1) := by decide +kernel
theorem dX9_read_131 : decode cX9_read 131 = .ok (.if_icmp .lt 24, 3) := by decide +kernel
theorem dX9_read_134 : decode cX9_read 134 = .ok (.iload 8, 2) := by decide +kernel
theorem dX9_read_136 : decode cX9_read 136 = .ok (.aload_n 0, 1) := by decide +kernel
theorem dX9_read_137 : decode cX9_read 137 = .ok (.getfield 13, 3) := by decide +kernel
theorem dX9_read_140 : decode cX9_read 140 = .ok (.sipush 404, 3) := by decide +kernel
theorem dX9_read_143 : decode cX9_read 143 = .ok (.iload_n 1, 1) := by decide +kernel
theorem dX9_read_144 : decode cX9_read 144 = .ok (.imul, 1) := by decide +kernel
theorem dX9_read_145 : decode cX9_read 145 = .ok (.iconst 2, 1) := by decide +kernel
theorem dX9_read_146 : decode cX9_read 146 = .ok (.iadd, 1) := by decide +kernel
theorem dX9_read_147 : decode cX9_read 147 = .ok (.iaload, 1) := by decide +kernel
theorem dX9_read_148 : decode cX9_read 148 = .ok (.if_icmp .gt 7, 3) := by decide +kernel
theorem dX9_read_151 : decode cX9_read 151 = .ok (.iconst 1, 1) := by decide +kernel
theorem dX9_read_152 : decode cX9_read 152 = .ok (.goto 4, 3) := by decide +kernel
theorem dX9_read_155 : decode cX9_read 155 = .ok (.iconst 0, 1) := by decide +kernel
theorem dX9_read_156 : decode cX9_read 156 = .ok (.istore 9, 2) := by decide +kernel
theorem dX9_read_158 : decode cX9_read 158 = .ok (.aload_n 0, 1) := by decide +kernel
theorem dX9_read_159 : decode cX9_read 159 = .ok (.getfield 13, 3) := by decide +kernel
theorem dX9_read_162 : decode cX9_read 162 = .ok (.sipush 404, 3) := by decide +kernel
theorem dX9_read_165 : decode cX9_read 165 = .ok (.iload_n 1, 1) := by decide +kernel
theorem dX9_read_166 : decode cX9_read 166 = .ok (.imul, 1) := by decide +kernel
theorem dX9_read_167 : decode cX9_read 167 = .ok (.iconst 4, 1) := by decide +kernel
theorem dX9_read_168 : decode cX9_read 168 = .ok (.iadd, 1) := by decide +kernel
theorem dX9_read_169 : decode cX9_read 169 = .ok (.iload 8, 2) := by decide +kernel
theorem dX9_read_171 : decode cX9_read 171 = .ok (.iadd, 1) := by decide +kernel
theorem dX9_read_172 : decode cX9_read 172 = .ok (.iload 9, 2) := by decide +kernel
theorem dX9_read_174 : decode cX9_read 174 = .ok (.ifCond .eq 8, 3) := by decide +kernel
theorem dX9_read_177 : decode cX9_read 177 = .ok (.ldc 89, 2) := by decide +kernel
theorem dX9_read_179 : decode cX9_read 179 = .ok (.goto 29, 3) := by decide +kernel
theorem dX9_read_182 : decode cX9_read 182 = .ok (.iload 4, 2) := by decide +kernel
theorem dX9_read_184 : decode cX9_read 184 = .ok (.iload 7, 2) := by decide +kernel
theorem dX9_read_186 : decode cX9_read 186 = .ok (.iconst 1, 1) := by decide +kernel
theorem dX9_read_187 : decode cX9_read 187 = .ok (.iadd, 1) := by decide +kernel
theorem dX9_read_188 : decode cX9_read 188 = .ok (.imul, 1) := by decide +kernel
theorem dX9_read_189 : decode cX9_read 189 = .ok (.iload_n 3, 1) := by decide +kernel
theorem dX9_read_190 : decode cX9_read 190 = .ok (.if_icmp .le 8, 3) := by decide +kernel
theorem dX9_read_193 : decode cX9_read 193 = .ok (.ldc 86, 2) := by decide +kernel
theorem dX9_read_195 : decode cX9_read 195 = .ok (.goto 13, 3) := by decide +kernel
theorem dX9_read_198 : decode cX9_read 198 = .ok (.aload_n 0, 1) := by decide +kernel
theorem dX9_read_199 : decode cX9_read 199 = .ok (.iload 4, 2) := by decide +kernel
theorem dX9_read_201 : decode cX9_read 201 = .ok (.iload 7, 2) := by decide +kernel
theorem dX9_read_203 : decode cX9_read 203 = .ok (.imul, 1) := by decide +kernel
theorem dX9_read_204 : decode cX9_read 204 = .ok (.iload_n 2, 1) := by decide +kernel
theorem dX9_read_205 : decode cX9_read 205 = .ok (.invokevirtual 117, 3) := by decide +kernel
theorem dX9_read_208 : decode cX9_read 208 = .ok (.iastore, 1) := by decide +kernel
theorem dX9_read_209 : decode cX9_read 209 = .ok (.iinc 7 1, 3) := by decide +kernel
theorem dX9_read_212 : decode cX9_read 212 = .ok (.goto (-123), 3) := by decide +kernel
theorem dX9_read_215 : decode cX9_read 215 = .ok (.aload_n 0, 1) := by decide +kernel
theorem dX9_read_216 : decode cX9_read 216 = .ok (.getfield 13, 3) := by decide +kernel
theorem dX9_read_219 : decode cX9_read 219 = .ok (.sipush 404, 3) := by decide +kernel
theorem dX9_read_222 : decode cX9_read 222 = .ok (.iload_n 1, 1) := by decide +kernel
theorem dX9_read_223 : decode cX9_read 223 = .ok (.imul, 1) := by decide +kernel
theorem dX9_read_224 : decode cX9_read 224 = .ok (.iconst 3, 1) := by decide +kernel
theorem dX9_read_225 : decode cX9_read 225 = .ok (.iadd, 1) := by decide +kernel
theorem dX9_read_226 : decode cX9_read 226 = .ok (.iload 6, 2) := by decide +kernel
theorem dX9_read_228 : decode cX9_read 228 = .ok (.iload 5, 2) := by decide +kernel
theorem dX9_read_230 : decode cX9_read 230 = .ok (.iadd, 1) := by decide +kernel
theorem dX9_read_231 : decode cX9_read 231 = .ok (.iastore, 1) := by decide +kernel
theorem dX9_read_232 : decode cX9_read 232 = .ok (.iload 6, 2) := by decide +kernel
theorem dX9_read_234 : decode cX9_read 234 = .ok (.iload 5, 2) := by decide +kernel
theorem dX9_read_236 : decode cX9_read 236 = .ok (.iadd, 1) := by decide +kernel
theorem dX9_read_237 : decode cX9_read 237 = .ok (.ireturn, 1) := by decide +kernel
theorem dX9_tear_0 : decode cX9_tear 0 = .ok (.aload_n 0, 1) := by decide +kernel
theorem dX9_tear_1 : decode cX9_tear 1 = .ok (.iconst 0, 1) := by decide +kernel
theorem dX9_tear_2 : decode cX9_tear 2 = .ok (.putfield 1, 3) := by decide +kernel
theorem dX9_tear_5 : decode cX9_tear 5 = .ok (.aload_n 0, 1) := by decide +kernel
theorem dX9_tear_6 : decode cX9_tear 6 = .ok (.iload_n 1, 1) := by decide +kernel
theorem dX9_tear_7 : decode cX9_tear 7 = .ok (.invokevirtual 83, 3) := by decide +kernel
theorem dX9_tear_10 : decode cX9_tear 10 = .ok (.ifCond .eq 21, 3) := by decide +kernel
theorem dX9_tear_13 : decode cX9_tear 13 = .ok (.iload_n 2, 1) := by decide +kernel
theorem dX9_tear_14 : decode cX9_tear 14 = .ok (.ifCond .lt 17, 3) := by decide +kernel
theorem dX9_tear_17 : decode cX9_tear 17 = .ok (.iload_n 2, 1) := by decide +kernel
theorem dX9_tear_18 : decode cX9_tear 18 = .ok (.iload_n 3, 1) := by decide +kernel
theorem dX9_tear_19 : decode cX9_tear 19 = .ok (.if_icmp .gt 12, 3) := by decide +kernel
theorem dX9_tear_22 : decode cX9_tear 22 = .ok (.iload_n 3, 1) := by decide +kernel
theorem dX9_tear_23 : decode cX9_tear 23 = .ok (.aload_n 0, 1) := by decide +kernel
theorem dX9_tear_24 : decode cX9_tear 24 = .ok (.iload_n 1, 1) := by decide +kernel
theorem dX9_tear_25 : decode cX9_tear 25 = .ok (.invokevirtual 121, 3) := by decide +kernel
theorem dX9_tear_28 : decode cX9_tear 28 = .ok (.if_icmp .lt 5, 3) := by decide +kernel
theorem dX9_tear_31 : decode cX9_tear 31 = .ok (.iconst (-1), 1) := by decide +kernel
theorem dX9_tear_32 : decode cX9_tear 32 = .ok (.ireturn, 1) := by decide +kernel
theorem dX9_tear_33 : decode cX9_tear 33 = .ok (.aload_n 0, 1) := by decide +kernel
theorem dX9_tear_34 : decode cX9_tear 34 = .ok (.invokevirtual 76, 3) := by decide +kernel
theorem dX9_tear_37 : decode cX9_tear 37 = .ok (.iconst 0, 1) := by decide +kernel
theorem dX9_tear_38 : decode cX9_tear 38 = .ok (.istore 4, 2) := by decide +kernel
theorem dX9_tear_40 : decode cX9_tear 40 = .ok (.iload_n 2, 1) := by decide +kernel
theorem dX9_tear_41 : decode cX9_tear 41 = .ok (.istore 5, 2) := by decide +kernel
theorem dX9_tear_43 : decode cX9_tear 43 = .ok (.iload 5, 2) := by decide +kernel
theorem dX9_tear_45 : decode cX9_tear 45 = .ok (.iload_n 3, 1) := by decide +kernel
theorem dX9_tear_46 : decode cX9_tear 46 = .ok (.if_icmp .gt 67, 3) := by decide +kernel
theorem dX9_tear_49 : decode cX9_tear 49 = .ok (.aload_n 0, 1) := by decide +kernel
theorem dX9_tear_50 : decode cX9_tear 50 = .ok (.getfield 13, 3) := by decide +kernel
theorem dX9_tear_53 : decode cX9_tear 53 = .ok (.sipush 404, 3) := by decide +kernel
theorem dX9_tear_56 : decode cX9_tear 56 = .ok (.iload_n 1, 1) := by decide +kernel
theorem dX9_tear_57 : decode cX9_tear 57 = .ok (.imul, 1) := by decide +kernel
theorem dX9_tear_58 : decode cX9_tear 58 = .ok (.iconst 4, 1) := by decide +kernel
theorem dX9_tear_59 : decode cX9_tear 59 = .ok (.iadd, 1) := by decide +kernel
theorem dX9_tear_60 : decode cX9_tear 60 = .ok (.iload 5, 2) := by decide +kernel
theorem dX9_tear_62 : decode cX9_tear 62 = .ok (.iadd, 1) := by decide +kernel
theorem dX9_tear_63 : decode cX9_tear 63 = .ok (.iaload, 1) := by decide +kernel
theorem dX9_tear_64 : decode cX9_tear 64 = .ok (.istore 6, 2) := by decide +kernel
theorem dX9_tear_66 : decode cX9_tear 66 = .ok (.iload 4, 2) := by decide +kernel
theorem dX9_tear_68 : decode cX9_tear 68 = .ok (.iload 6, 2) := by decide +kernel
theorem dX9_tear_70 : decode cX9_tear 70 = .ok (.ldc 86, 2) := by decide +kernel
theorem dX9_tear_72 : decode cX9_tear 72 = .ok (.if_icmp .ge 7, 3) := by decide +kernel
theorem dX9_tear_75 : decode cX9_tear 75 = .ok (.iconst 1, 1) := by decide +kernel
theorem dX9_tear_76 : decode cX9_tear 76 = .ok (.goto 4, 3) := by decide +kernel
theorem dX9_tear_79 : decode cX9_tear 79 = .ok (.iconst 0, 1) := by decide +kernel
theorem dX9_tear_80 : decode cX9_tear 80 = .ok (.iadd, 1) := by decide +kernel
theorem dX9_tear_81 : decode cX9_tear 81 = .ok (.istore 4, 2) := by decide +kernel
theorem dX9_tear_83 : decode cX9_tear 83 = .ok (.iload 6, 2) := by decide +kernel
theorem dX9_tear_85 : decode cX9_tear 85 = .ok (.ldc 89, 2) := by decide +kernel
theorem dX9_tear_87 : decode cX9_tear 87 = .ok (.if_icmp .eq 20, 3) := by decide +kernel
theorem dX9_tear_90 : decode cX9_tear 90 = .ok (.aload_n 0, 1) := by decide +kernel
theorem dX9_tear_91 : decode cX9_tear 91 = .ok (.getfield 13, 3) := by decide +kernel
theorem dX9_tear_94 : decode cX9_tear 94 = .ok (.sipush 404, 3) := by decide +kernel
theorem dX9_tear_97 : decode cX9_tear 97 = .ok (.iload_n 1, 1) := by decide +kernel
theorem dX9_tear_98 : decode cX9_tear 98 = .ok (.imul, 1) := by decide +kernel
theorem dX9_tear_99 : decode cX9_tear 99 = .ok (.iconst 4, 1) := by decide +kernel
theorem dX9_tear_100 : decode cX9_tear 100 = .ok (.iadd, 1) := by decide +kernel
theorem dX9_tear_101 : decode cX9_tear 101 = .ok (.iload 5, 2) := by decide +kernel
theorem dX9_tear_103 : decode cX9_tear 103 = .ok (.iadd, 1) := by decide +kernel
theorem dX9_tear_104 : decode cX9_tear 104 = .ok (.ldc 86, 2) := by decide +kernel
theorem dX9_tear_106 : decode cX9_tear 106 = .ok (.iastore, 1) := by decide +kernel
theorem dX9_tear_107 : decode cX9_tear 107 = .ok (.iinc 5 1, 3) := by decide +kernel
theorem dX9_tear_110 : decode cX9_tear 110 = .ok (.goto (-67), 3) := by decide +kernel
theorem dX9_tear_113 : decode cX9_tear 113 = .ok (.iload 4, 2) := by decide +kernel
theorem dX9_tear_115 : decode cX9_tear 115 = .ok (.ireturn, 1) := by decide +kernel
theorem dX9_fill_0 : decode cX9_fill 0 = .ok (.aload_n 0, 1) := by decide +kernel
theorem dX9_fill_1 : decode cX9_fill 1 = .ok (.iconst 0, 1) := by decide +kernel
theorem dX9_fill_2 : decode cX9_fill 2 = .ok (.putfield 1, 3) := by decide +kernel
theorem dX9_fill_5 : decode cX9_fill 5 = .ok (.aload_n 0, 1) := by decide +kernel
theorem dX9_fill_6 : decode cX9_fill 6 = .ok (.iload_n 1, 1) := by decide +kernel
theorem dX9_fill_7 : decode cX9_fill 7 = .ok (.invokevirtual 83, 3) := by decide +kernel
theorem dX9_fill_10 : decode cX9_fill 10 = .ok (.ifCond .eq 47, 3) := by decide +kernel
theorem dX9_fill_13 : decode cX9_fill 13 = .ok (.iload_n 2, 1) := by decide +kernel
theorem dX9_fill_14 : decode cX9_fill 14 = .ok (.ifCond .lt 43, 3) := by decide +kernel
theorem dX9_fill_17 : decode cX9_fill 17 = .ok (.iload_n 2, 1) := by decide +kernel
theorem dX9_fill_18 : decode cX9_fill 18 = .ok (.aload_n 0, 1) := by decide +kernel
theorem dX9_fill_19 : decode cX9_fill 19 = .ok (.iload_n 1, 1) := by decide +kernel
theorem dX9_fill_20 : decode cX9_fill 20 = .ok (.invokevirtual 121, 3) := by decide +kernel
theorem dX9_fill_23 : decode cX9_fill 23 = .ok (.if_icmp .ge 34, 3) := by decide +kernel
theorem dX9_fill_26 : decode cX9_fill 26 = .ok (.aload_n 0, 1) := by decide +kernel
theorem dX9_fill_27 : decode cX9_fill 27 = .ok (.getfield 13, 3) := by decide +kernel
theorem dX9_fill_30 : decode cX9_fill 30 = .ok (.sipush 404, 3) := by decide +kernel
theorem dX9_fill_33 : decode cX9_fill 33 = .ok (.iload_n 1, 1) := by decide +kernel
theorem dX9_fill_34 : decode cX9_fill 34 = .ok (.imul, 1) := by decide +kernel
theorem dX9_fill_35 : decode cX9_fill 35 = .ok (.iconst 4, 1) := by decide +kernel
theorem dX9_fill_36 : decode cX9_fill 36 = .ok (.iadd, 1) := by decide +kernel
theorem dX9_fill_37 : decode cX9_fill 37 = .ok (.iload_n 2, 1) := by decide +kernel
theorem dX9_fill_38 : decode cX9_fill 38 = .ok (.iadd, 1) := by decide +kernel
theorem dX9_fill_39 : decode cX9_fill 39 = .ok (.iaload, 1) := by decide +kernel
theorem dX9_fill_40 : decode cX9_fill 40 = .ok (.ldc 86, 2) := by decide +kernel
theorem dX9_fill_42 : decode cX9_fill 42 = .ok (.if_icmp .ne 15, 3) := by decide +kernel
theorem dX9_fill_45 : decode cX9_fill 45 = .ok (.iload_n 3, 1) := by decide +kernel
theorem dX9_fill_46 : decode cX9_fill 46 = .ok (.ldc 88, 2) := by decide +kernel
theorem dX9_fill_48 : decode cX9_fill 48 = .ok (.if_icmp .lt 9, 3) := by decide +kernel
theorem dX9_fill_51 : decode cX9_fill 51 = .ok (.iload_n 3, 1) := by decide +kernel
theorem dX9_fill_52 : decode cX9_fill 52 = .ok (.ldc 87, 2) := by decide +kernel
theorem dX9_fill_54 : decode cX9_fill 54 = .ok (.if_icmp .le 5, 3) := by decide +kernel
theorem dX9_fill_57 : decode cX9_fill 57 = .ok (.iconst 0, 1) := by decide +kernel
theorem dX9_fill_58 : decode cX9_fill 58 = .ok (.ireturn, 1) := by decide +kernel
theorem dX9_fill_59 : decode cX9_fill 59 = .ok (.aload_n 0, 1) := by decide +kernel
theorem dX9_fill_60 : decode cX9_fill 60 = .ok (.invokevirtual 76, 3) := by decide +kernel
theorem dX9_fill_63 : decode cX9_fill 63 = .ok (.aload_n 0, 1) := by decide +kernel
theorem dX9_fill_64 : decode cX9_fill 64 = .ok (.getfield 13, 3) := by decide +kernel
theorem dX9_fill_67 : decode cX9_fill 67 = .ok (.sipush 404, 3) := by decide +kernel
theorem dX9_fill_70 : decode cX9_fill 70 = .ok (.iload_n 1, 1) := by decide +kernel
theorem dX9_fill_71 : decode cX9_fill 71 = .ok (.imul, 1) := by decide +kernel
theorem dX9_fill_72 : decode cX9_fill 72 = .ok (.iconst 4, 1) := by decide +kernel
theorem dX9_fill_73 : decode cX9_fill 73 = .ok (.iadd, 1) := by decide +kernel
theorem dX9_fill_74 : decode cX9_fill 74 = .ok (.iload_n 2, 1) := by decide +kernel
theorem dX9_fill_75 : decode cX9_fill 75 = .ok (.iadd, 1) := by decide +kernel
theorem dX9_fill_76 : decode cX9_fill 76 = .ok (.iload_n 3, 1) := by decide +kernel
theorem dX9_fill_77 : decode cX9_fill 77 = .ok (.iastore, 1) := by decide +kernel
theorem dX9_fill_78 : decode cX9_fill 78 = .ok (.iconst 1, 1) := by decide +kernel
theorem dX9_fill_79 : decode cX9_fill 79 = .ok (.ireturn, 1) := by decide +kernel
theorem dX9_turnsOf_0 : decode cX9_turnsOf 0 = .ok (.iconst 0, 1) := by decide +kernel
theorem dX9_turnsOf_1 : decode cX9_turnsOf 1 = .ok (.istore 4, 2) := by decide +kernel
theorem dX9_turnsOf_3 : decode cX9_turnsOf 3 = .ok (.iconst 0, 1) := by decide +kernel
theorem dX9_turnsOf_4 : decode cX9_turnsOf 4 = .ok (.istore 5, 2) := by decide +kernel
theorem dX9_turnsOf_6 : decode cX9_turnsOf 6 = .ok (.iload 5, 2) := by decide +kernel
theorem dX9_turnsOf_8 : decode cX9_turnsOf 8 = .ok (.iload_n 2, 1) := by decide +kernel
theorem dX9_turnsOf_9 : decode cX9_turnsOf 9 = .ok (.if_icmp .ge 176, 3) := by decide +kernel
theorem dX9_turnsOf_12 : decode cX9_turnsOf 12 = .ok (.iload 5, 2) := by decide +kernel
theorem dX9_turnsOf_14 : decode cX9_turnsOf 14 = .ok (.ifCond .le 19, 3) := by decide +kernel
theorem dX9_turnsOf_17 : decode cX9_turnsOf 17 = .ok (.aload_n 1, 1) := by decide +kernel
theorem dX9_turnsOf_18 : decode cX9_turnsOf 18 = .ok (.iload 5, 2) := by decide +kernel
theorem dX9_turnsOf_20 : decode cX9_turnsOf 20 = .ok (.iaload, 1) := by decide +kernel
theorem dX9_turnsOf_21 : decode cX9_turnsOf 21 = .ok (.aload_n 1, 1) := by decide +kernel
theorem dX9_turnsOf_22 : decode cX9_turnsOf 22 = .ok (.iload 5, 2) := by decide +kernel
theorem dX9_turnsOf_24 : decode cX9_turnsOf 24 = .ok (.iconst 1, 1) := by decide +kernel
theorem dX9_turnsOf_25 : decode cX9_turnsOf 25 = .ok (.isub, 1) := by decide +kernel
theorem dX9_turnsOf_26 : decode cX9_turnsOf 26 = .ok (.iaload, 1) := by decide +kernel
theorem dX9_turnsOf_27 : decode cX9_turnsOf 27 = .ok (.if_icmp .ne 6, 3) := by decide +kernel
theorem dX9_turnsOf_30 : decode cX9_turnsOf 30 = .ok (.goto 149, 3) := by decide +kernel
theorem dX9_turnsOf_33 : decode cX9_turnsOf 33 = .ok (.iload 5, 2) := by decide +kernel
theorem dX9_turnsOf_35 : decode cX9_turnsOf 35 = .ok (.istore 6, 2) := by decide +kernel
theorem dX9_turnsOf_37 : decode cX9_turnsOf 37 = .ok (.iload 6, 2) := by decide +kernel
theorem dX9_turnsOf_39 : decode cX9_turnsOf 39 = .ok (.iload_n 2, 1) := by decide +kernel
theorem dX9_turnsOf_40 : decode cX9_turnsOf 40 = .ok (.if_icmp .ge 20, 3) := by decide +kernel
theorem dX9_turnsOf_43 : decode cX9_turnsOf 43 = .ok (.aload_n 1, 1) := by decide +kernel
theorem dX9_turnsOf_44 : decode cX9_turnsOf 44 = .ok (.iload 6, 2) := by decide +kernel
theorem dX9_turnsOf_46 : decode cX9_turnsOf 46 = .ok (.iaload, 1) := by decide +kernel
theorem dX9_turnsOf_47 : decode cX9_turnsOf 47 = .ok (.aload_n 1, 1) := by decide +kernel
theorem dX9_turnsOf_48 : decode cX9_turnsOf 48 = .ok (.iload 5, 2) := by decide +kernel
theorem dX9_turnsOf_50 : decode cX9_turnsOf 50 = .ok (.iaload, 1) := by decide +kernel
theorem dX9_turnsOf_51 : decode cX9_turnsOf 51 = .ok (.if_icmp .ne 9, 3) := by decide +kernel
theorem dX9_turnsOf_54 : decode cX9_turnsOf 54 = .ok (.iinc 6 1, 3) := by decide +kernel
theorem dX9_turnsOf_57 : decode cX9_turnsOf 57 = .ok (.goto (-20), 3) := by decide +kernel
theorem dX9_turnsOf_60 : decode cX9_turnsOf 60 = .ok (.iload 4, 2) := by decide +kernel
theorem dX9_turnsOf_62 : decode cX9_turnsOf 62 = .ok (.ifCond .eq 9, 3) := by decide +kernel
theorem dX9_turnsOf_65 : decode cX9_turnsOf 65 = .ok (.iload 6, 2) := by decide +kernel
theorem dX9_turnsOf_67 : decode cX9_turnsOf 67 = .ok (.iload_n 2, 1) := by decide +kernel
theorem dX9_turnsOf_68 : decode cX9_turnsOf 68 = .ok (.if_icmp .ne 7, 3) := by decide +kernel
theorem dX9_turnsOf_71 : decode cX9_turnsOf 71 = .ok (.iconst 1, 1) := by decide +kernel
theorem dX9_turnsOf_72 : decode cX9_turnsOf 72 = .ok (.goto 4, 3) := by decide +kernel
theorem dX9_turnsOf_75 : decode cX9_turnsOf 75 = .ok (.iconst 0, 1) := by decide +kernel
theorem dX9_turnsOf_76 : decode cX9_turnsOf 76 = .ok (.istore 7, 2) := by decide +kernel
theorem dX9_turnsOf_78 : decode cX9_turnsOf 78 = .ok (.iload 7, 2) := by decide +kernel
theorem dX9_turnsOf_80 : decode cX9_turnsOf 80 = .ok (.ifCond .ne 31, 3) := by decide +kernel
theorem dX9_turnsOf_83 : decode cX9_turnsOf 83 = .ok (.aload_n 1, 1) := by decide +kernel
theorem dX9_turnsOf_84 : decode cX9_turnsOf 84 = .ok (.iload 5, 2) := by decide +kernel
theorem dX9_turnsOf_86 : decode cX9_turnsOf 86 = .ok (.iaload, 1) := by decide +kernel
theorem dX9_turnsOf_87 : decode cX9_turnsOf 87 = .ok (.aload_n 1, 1) := by decide +kernel
theorem dX9_turnsOf_88 : decode cX9_turnsOf 88 = .ok (.iload 5, 2) := by decide +kernel
theorem dX9_turnsOf_90 : decode cX9_turnsOf 90 = .ok (.iconst 1, 1) := by decide +kernel
theorem dX9_turnsOf_91 : decode cX9_turnsOf 91 = .ok (.isub, 1) := by decide +kernel
theorem dX9_turnsOf_92 : decode cX9_turnsOf 92 = .ok (.iaload, 1) := by decide +kernel
theorem dX9_turnsOf_93 : decode cX9_turnsOf 93 = .ok (.if_icmp .le 18, 3) := by decide +kernel
theorem dX9_turnsOf_96 : decode cX9_turnsOf 96 = .ok (.aload_n 1, 1) := by decide +kernel
theorem dX9_turnsOf_97 : decode cX9_turnsOf 97 = .ok (.iload 5, 2) := by decide +kernel
theorem dX9_turnsOf_99 : decode cX9_turnsOf 99 = .ok (.iaload, 1) := by decide +kernel
theorem dX9_turnsOf_100 : decode cX9_turnsOf 100 = .ok (.aload_n 1, 1) := by decide +kernel
theorem dX9_turnsOf_101 : decode cX9_turnsOf 101 = .ok (.iload 6, 2) := by decide +kernel
theorem dX9_turnsOf_103 : decode cX9_turnsOf 103 = .ok (.iaload, 1) := by decide +kernel
theorem dX9_turnsOf_104 : decode cX9_turnsOf 104 = .ok (.if_icmp .le 7, 3) := by decide +kernel
theorem dX9_turnsOf_107 : decode cX9_turnsOf 107 = .ok (.iconst 1, 1) := by decide +kernel
theorem dX9_turnsOf_108 : decode cX9_turnsOf 108 = .ok (.goto 4, 3) := by decide +kernel
theorem dX9_turnsOf_111 : decode cX9_turnsOf 111 = .ok (.iconst 0, 1) := by decide +kernel
theorem dX9_turnsOf_112 : decode cX9_turnsOf 112 = .ok (.istore 8, 2) := by decide +kernel
theorem dX9_turnsOf_114 : decode cX9_turnsOf 114 = .ok (.iload 7, 2) := by decide +kernel
theorem dX9_turnsOf_116 : decode cX9_turnsOf 116 = .ok (.ifCond .ne 31, 3) := by decide +kernel
theorem dX9_turnsOf_119 : decode cX9_turnsOf 119 = .ok (.aload_n 1, 1) := by decide +kernel
theorem dX9_turnsOf_120 : decode cX9_turnsOf 120 = .ok (.iload 5, 2) := by decide +kernel
theorem dX9_turnsOf_122 : decode cX9_turnsOf 122 = .ok (.iaload, 1) := by decide +kernel
theorem dX9_turnsOf_123 : decode cX9_turnsOf 123 = .ok (.aload_n 1, 1) := by decide +kernel
theorem dX9_turnsOf_124 : decode cX9_turnsOf 124 = .ok (.iload 5, 2) := by decide +kernel
theorem dX9_turnsOf_126 : decode cX9_turnsOf 126 = .ok (.iconst 1, 1) := by decide +kernel
theorem dX9_turnsOf_127 : decode cX9_turnsOf 127 = .ok (.isub, 1) := by decide +kernel
theorem dX9_turnsOf_128 : decode cX9_turnsOf 128 = .ok (.iaload, 1) := by decide +kernel
theorem dX9_turnsOf_129 : decode cX9_turnsOf 129 = .ok (.if_icmp .ge 18, 3) := by decide +kernel
theorem dX9_turnsOf_132 : decode cX9_turnsOf 132 = .ok (.aload_n 1, 1) := by decide +kernel
theorem dX9_turnsOf_133 : decode cX9_turnsOf 133 = .ok (.iload 5, 2) := by decide +kernel
theorem dX9_turnsOf_135 : decode cX9_turnsOf 135 = .ok (.iaload, 1) := by decide +kernel
theorem dX9_turnsOf_136 : decode cX9_turnsOf 136 = .ok (.aload_n 1, 1) := by decide +kernel
theorem dX9_turnsOf_137 : decode cX9_turnsOf 137 = .ok (.iload 6, 2) := by decide +kernel
theorem dX9_turnsOf_139 : decode cX9_turnsOf 139 = .ok (.iaload, 1) := by decide +kernel
theorem dX9_turnsOf_140 : decode cX9_turnsOf 140 = .ok (.if_icmp .ge 7, 3) := by decide +kernel
theorem dX9_turnsOf_143 : decode cX9_turnsOf 143 = .ok (.iconst 1, 1) := by decide +kernel
theorem dX9_turnsOf_144 : decode cX9_turnsOf 144 = .ok (.goto 4, 3) := by decide +kernel
theorem dX9_turnsOf_147 : decode cX9_turnsOf 147 = .ok (.iconst 0, 1) := by decide +kernel
theorem dX9_turnsOf_148 : decode cX9_turnsOf 148 = .ok (.istore 9, 2) := by decide +kernel
theorem dX9_turnsOf_150 : decode cX9_turnsOf 150 = .ok (.iload 7, 2) := by decide +kernel
theorem dX9_turnsOf_152 : decode cX9_turnsOf 152 = .ok (.ifCond .ne 16, 3) := by decide +kernel
theorem dX9_turnsOf_155 : decode cX9_turnsOf 155 = .ok (.iload 8, 2) := by decide +kernel
theorem dX9_turnsOf_157 : decode cX9_turnsOf 157 = .ok (.ifCond .ne 11, 3) := by decide +kernel
theorem dX9_turnsOf_160 : decode cX9_turnsOf 160 = .ok (.iload 9, 2) := by decide +kernel
theorem dX9_turnsOf_162 : decode cX9_turnsOf 162 = .ok (.ifCond .ne 6, 3) := by decide +kernel
theorem dX9_turnsOf_165 : decode cX9_turnsOf 165 = .ok (.goto 14, 3) := by decide +kernel
theorem dX9_turnsOf_168 : decode cX9_turnsOf 168 = .ok (.aload_n 3, 1) := by decide +kernel
theorem dX9_turnsOf_169 : decode cX9_turnsOf 169 = .ok (.iload 4, 2) := by decide +kernel
theorem dX9_turnsOf_171 : decode cX9_turnsOf 171 = .ok (.aload_n 1, 1) := by decide +kernel
theorem dX9_turnsOf_172 : decode cX9_turnsOf 172 = .ok (.iload 5, 2) := by decide +kernel
theorem dX9_turnsOf_174 : decode cX9_turnsOf 174 = .ok (.iaload, 1) := by decide +kernel
theorem dX9_turnsOf_175 : decode cX9_turnsOf 175 = .ok (.iastore, 1) := by decide +kernel
theorem dX9_turnsOf_176 : decode cX9_turnsOf 176 = .ok (.iinc 4 1, 3) := by decide +kernel
theorem dX9_turnsOf_179 : decode cX9_turnsOf 179 = .ok (.iinc 5 1, 3) := by decide +kernel
theorem dX9_turnsOf_182 : decode cX9_turnsOf 182 = .ok (.goto (-176), 3) := by decide +kernel
theorem dX9_turnsOf_185 : decode cX9_turnsOf 185 = .ok (.iload 4, 2) := by decide +kernel
theorem dX9_turnsOf_187 : decode cX9_turnsOf 187 = .ok (.ireturn, 1) := by decide +kernel
theorem dX9_readRow_0 : decode cX9_readRow 0 = .ok (.aload_n 0, 1) := by decide +kernel
theorem dX9_readRow_1 : decode cX9_readRow 1 = .ok (.iconst 0, 1) := by decide +kernel
theorem dX9_readRow_2 : decode cX9_readRow 2 = .ok (.putfield 124, 3) := by decide +kernel
theorem dX9_readRow_5 : decode cX9_readRow 5 = .ok (.aload_n 0, 1) := by decide +kernel
theorem dX9_readRow_6 : decode cX9_readRow 6 = .ok (.iload_n 1, 1) := by decide +kernel
theorem dX9_readRow_7 : decode cX9_readRow 7 = .ok (.invokevirtual 79, 3) := by decide +kernel
theorem dX9_readRow_10 : decode cX9_readRow 10 = .ok (.iconst 1, 1) := by decide +kernel
theorem dX9_readRow_11 : decode cX9_readRow 11 = .ok (.if_icmp .ne 7, 3) := by decide +kernel
theorem dX9_readRow_14 : decode cX9_readRow 14 = .ok (.iconst 1, 1) := by decide +kernel
theorem dX9_readRow_15 : decode cX9_readRow 15 = .ok (.goto 4, 3) := by decide +kernel
theorem dX9_readRow_18 : decode cX9_readRow 18 = .ok (.iconst 0, 1) := by decide +kernel
theorem dX9_readRow_19 : decode cX9_readRow 19 = .ok (.istore_n 3, 1) := by decide +kernel
theorem dX9_readRow_20 : decode cX9_readRow 20 = .ok (.aload_n 0, 1) := by decide +kernel
theorem dX9_readRow_21 : decode cX9_readRow 21 = .ok (.iload_n 1, 1) := by decide +kernel
theorem dX9_readRow_22 : decode cX9_readRow 22 = .ok (.invokevirtual 121, 3) := by decide +kernel
theorem dX9_readRow_25 : decode cX9_readRow 25 = .ok (.istore 4, 2) := by decide +kernel
theorem dX9_readRow_27 : decode cX9_readRow 27 = .ok (.iload_n 2, 1) := by decide +kernel
theorem dX9_readRow_28 : decode cX9_readRow 28 = .ok (.istore 5, 2) := by decide +kernel
theorem dX9_readRow_30 : decode cX9_readRow 30 = .ok (.iload 5, 2) := by decide +kernel
theorem dX9_readRow_32 : decode cX9_readRow 32 = .ok (.iload 4, 2) := by decide +kernel
theorem dX9_readRow_34 : decode cX9_readRow 34 = .ok (.if_icmp .ge 126, 3) := by decide +kernel
theorem dX9_readRow_37 : decode cX9_readRow 37 = .ok (.aload_n 0, 1) := by decide +kernel
theorem dX9_readRow_38 : decode cX9_readRow 38 = .ok (.iload_n 1, 1) := by decide +kernel
theorem dX9_readRow_39 : decode cX9_readRow 39 = .ok (.iload 5, 2) := by decide +kernel
theorem dX9_readRow_41 : decode cX9_readRow 41 = .ok (.invokevirtual 127, 3) := by decide +kernel
theorem dX9_readRow_44 : decode cX9_readRow 44 = .ok (.istore 6, 2) := by decide +kernel
theorem dX9_readRow_46 : decode cX9_readRow 46 = .ok (.iload 6, 2) := by decide +kernel
theorem dX9_readRow_48 : decode cX9_readRow 48 = .ok (.ldc 86, 2) := by decide +kernel
theorem dX9_readRow_50 : decode cX9_readRow 50 = .ok (.if_icmp .lt 6, 3) := by decide +kernel
theorem dX9_readRow_53 : decode cX9_readRow 53 = .ok (.goto 101, 3) := by decide +kernel
theorem dX9_readRow_56 : decode cX9_readRow 56 = .ok (.aload_n 0, 1) := by decide +kernel
theorem dX9_readRow_57 : decode cX9_readRow 57 = .ok (.getfield 124, 3) := by decide +kernel
theorem dX9_readRow_60 : decode cX9_readRow 60 = .ok (.ifCond .ne 7, 3) := by decide +kernel
theorem dX9_readRow_63 : decode cX9_readRow 63 = .ok (.iconst 0, 1) := by decide +kernel
theorem dX9_readRow_64 : decode cX9_readRow 64 = .ok (.goto 14, 3) := by decide +kernel
theorem dX9_readRow_67 : decode cX9_readRow 67 = .ok (.aload_n 0, 1) := by decide +kernel
theorem dX9_readRow_68 : decode cX9_readRow 68 = .ok (.getfield 27, 3) := by decide +kernel
theorem dX9_readRow_71 : decode cX9_readRow 71 = .ok (.aload_n 0, 1) := by decide +kernel
theorem dX9_readRow_72 : decode cX9_readRow 72 = .ok (.getfield 124, 3) := by decide +kernel
theorem dX9_readRow_75 : decode cX9_readRow 75 = .ok (.iconst 1, 1) := by decide +kernel
theorem dX9_readRow_76 : decode cX9_readRow 76 = .ok (.isub, 1) := by decide +kernel
theorem dX9_readRow_77 : decode cX9_readRow 77 = .ok (.iaload, 1) := by decide +kernel
theorem dX9_readRow_78 : decode cX9_readRow 78 = .ok (.istore 7, 2) := by decide +kernel
theorem dX9_readRow_80 : decode cX9_readRow 80 = .ok (.iload 6, 2) := by decide +kernel
theorem dX9_readRow_82 : decode cX9_readRow 82 = .ok (.iload 7, 2) := by decide +kernel
theorem dX9_readRow_84 : decode cX9_readRow 84 = .ok (.if_icmp .le 11, 3) := by decide +kernel
theorem dX9_readRow_87 : decode cX9_readRow 87 = .ok (.iload 6, 2) := by decide +kernel
theorem dX9_readRow_89 : decode cX9_readRow 89 = .ok (.iload 7, 2) := by decide +kernel
theorem dX9_readRow_91 : decode cX9_readRow 91 = .ok (.isub, 1) := by decide +kernel
theorem dX9_readRow_92 : decode cX9_readRow 92 = .ok (.goto 8, 3) := by decide +kernel
theorem dX9_readRow_95 : decode cX9_readRow 95 = .ok (.iload 7, 2) := by decide +kernel
theorem dX9_readRow_97 : decode cX9_readRow 97 = .ok (.iload 6, 2) := by decide +kernel
theorem dX9_readRow_99 : decode cX9_readRow 99 = .ok (.isub, 1) := by decide +kernel
theorem dX9_readRow_100 : decode cX9_readRow 100 = .ok (.istore 8, 2) := by decide +kernel
theorem dX9_readRow_102 : decode cX9_readRow 102 = .ok (.iload_n 3, 1) := by decide +kernel
theorem dX9_readRow_103 : decode cX9_readRow 103 = .ok (.ifCond .eq 30, 3) := by decide +kernel
theorem dX9_readRow_106 : decode cX9_readRow 106 = .ok (.aload_n 0, 1) := by decide +kernel
theorem dX9_readRow_107 : decode cX9_readRow 107 = .ok (.getfield 124, 3) := by decide +kernel
theorem dX9_readRow_110 : decode cX9_readRow 110 = .ok (.ifCond .le 23, 3) := by decide +kernel
theorem dX9_readRow_113 : decode cX9_readRow 113 = .ok (.iload 8, 2) := by decide +kernel
theorem dX9_readRow_115 : decode cX9_readRow 115 = .ok (.aload_n 0, 1) := by decide +kernel
theorem dX9_readRow_116 : decode cX9_readRow 116 = .ok (.getfield 13, 3) := by decide +kernel
theorem dX9_readRow_119 : decode cX9_readRow 119 = .ok (.sipush 404, 3) := by decide +kernel
theorem dX9_readRow_122 : decode cX9_readRow 122 = .ok (.iload_n 1, 1) := by decide +kernel
theorem dX9_readRow_123 : decode cX9_readRow 123 = .ok (.imul, 1) := by decide +kernel
theorem dX9_readRow_124 : decode cX9_readRow 124 = .ok (.iconst 1, 1) := by decide +kernel
theorem dX9_readRow_125 : decode cX9_readRow 125 = .ok (.iadd, 1) := by decide +kernel
theorem dX9_readRow_126 : decode cX9_readRow 126 = .ok (.iaload, 1) := by decide +kernel
theorem dX9_readRow_127 : decode cX9_readRow 127 = .ok (.if_icmp .ge 6, 3) := by decide +kernel
theorem dX9_readRow_130 : decode cX9_readRow 130 = .ok (.goto 24, 3) := by decide +kernel
theorem dX9_readRow_133 : decode cX9_readRow 133 = .ok (.aload_n 0, 1) := by decide +kernel
theorem dX9_readRow_134 : decode cX9_readRow 134 = .ok (.getfield 27, 3) := by decide +kernel
theorem dX9_readRow_137 : decode cX9_readRow 137 = .ok (.aload_n 0, 1) := by decide +kernel
theorem dX9_readRow_138 : decode cX9_readRow 138 = .ok (.getfield 124, 3) := by decide +kernel
theorem dX9_readRow_141 : decode cX9_readRow 141 = .ok (.iload 6, 2) := by decide +kernel
theorem dX9_readRow_143 : decode cX9_readRow 143 = .ok (.iastore, 1) := by decide +kernel
theorem dX9_readRow_144 : decode cX9_readRow 144 = .ok (.aload_n 0, 1) := by decide +kernel
theorem dX9_readRow_145 : decode cX9_readRow 145 = .ok (.dup, 1) := by decide +kernel
theorem dX9_readRow_146 : decode cX9_readRow 146 = .ok (.getfield 124, 3) := by decide +kernel
theorem dX9_readRow_149 : decode cX9_readRow 149 = .ok (.iconst 1, 1) := by decide +kernel
theorem dX9_readRow_150 : decode cX9_readRow 150 = .ok (.iadd, 1) := by decide +kernel
theorem dX9_readRow_151 : decode cX9_readRow 151 = .ok (.putfield 124, 3) := by decide +kernel
theorem dX9_readRow_154 : decode cX9_readRow 154 = .ok (.iinc 5 1, 3) := by decide +kernel
theorem dX9_readRow_157 : decode cX9_readRow 157 = .ok (.goto (-127), 3) := by decide +kernel
theorem dX9_readRow_160 : decode cX9_readRow 160 = .ok (.aload_n 0, 1) := by decide +kernel
theorem dX9_readRow_161 : decode cX9_readRow 161 = .ok (.iload_n 1, 1) := by decide +kernel
theorem dX9_readRow_162 : decode cX9_readRow 162 = .ok (.invokevirtual 79, 3) := by decide +kernel
theorem dX9_readRow_165 : decode cX9_readRow 165 = .ok (.iconst 2, 1) := by decide +kernel
theorem dX9_readRow_166 : decode cX9_readRow 166 = .ok (.if_icmp .eq 4, 3) := by decide +kernel
theorem dX9_readRow_169 : decode cX9_readRow 169 = .ok (.return_, 1) := by decide +kernel
theorem dX9_readRow_170 : decode cX9_readRow 170 = .ok (.aload_n 0, 1) := by decide +kernel
theorem dX9_readRow_171 : decode cX9_readRow 171 = .ok (.aload_n 0, 1) := by decide +kernel
theorem dX9_readRow_172 : decode cX9_readRow 172 = .ok (.getfield 27, 3) := by decide +kernel
theorem dX9_readRow_175 : decode cX9_readRow 175 = .ok (.aload_n 0, 1) := by decide +kernel
theorem dX9_readRow_176 : decode cX9_readRow 176 = .ok (.getfield 124, 3) := by decide +kernel
theorem dX9_readRow_179 : decode cX9_readRow 179 = .ok (.aload_n 0, 1) := by decide +kernel
theorem dX9_readRow_180 : decode cX9_readRow 180 = .ok (.getfield 33, 3) := by decide +kernel
theorem dX9_readRow_183 : decode cX9_readRow 183 = .ok (.invokevirtual 130, 3) := by decide +kernel
theorem dX9_readRow_186 : decode cX9_readRow 186 = .ok (.istore 5, 2) := by decide +kernel
theorem dX9_readRow_188 : decode cX9_readRow 188 = .ok (.iconst 0, 1) := by decide +kernel
theorem dX9_readRow_189 : decode cX9_readRow 189 = .ok (.istore 6, 2) := by decide +kernel
theorem dX9_readRow_191 : decode cX9_readRow 191 = .ok (.iload 6, 2) := by decide +kernel
theorem dX9_readRow_193 : decode cX9_readRow 193 = .ok (.iload 5, 2) := by decide +kernel
theorem dX9_readRow_195 : decode cX9_readRow 195 = .ok (.if_icmp .ge 23, 3) := by decide +kernel
theorem dX9_readRow_198 : decode cX9_readRow 198 = .ok (.aload_n 0, 1) := by decide +kernel
theorem dX9_readRow_199 : decode cX9_readRow 199 = .ok (.getfield 27, 3) := by decide +kernel
theorem dX9_readRow_202 : decode cX9_readRow 202 = .ok (.iload 6, 2) := by decide +kernel
theorem dX9_readRow_204 : decode cX9_readRow 204 = .ok (.aload_n 0, 1) := by decide +kernel
theorem dX9_readRow_205 : decode cX9_readRow 205 = .ok (.getfield 33, 3) := by decide +kernel
theorem dX9_readRow_208 : decode cX9_readRow 208 = .ok (.iload 6, 2) := by decide +kernel
theorem dX9_readRow_210 : decode cX9_readRow 210 = .ok (.iaload, 1) := by decide +kernel
theorem dX9_readRow_211 : decode cX9_readRow 211 = .ok (.iastore, 1) := by decide +kernel
theorem dX9_readRow_212 : decode cX9_readRow 212 = .ok (.iinc 6 1, 3) := by decide +kernel
theorem dX9_readRow_215 : decode cX9_readRow 215 = .ok (.goto (-24), 3) := by decide +kernel
theorem dX9_readRow_218 : decode cX9_readRow 218 = .ok (.aload_n 0, 1) := by decide +kernel
theorem dX9_readRow_219 : decode cX9_readRow 219 = .ok (.iload 5, 2) := by decide +kernel
theorem dX9_readRow_221 : decode cX9_readRow 221 = .ok (.putfield 124, 3) := by decide +kernel
theorem dX9_readRow_224 : decode cX9_readRow 224 = .ok (.return_, 1) := by decide +kernel
theorem dX9_ahead_0 : decode cX9_ahead 0 = .ok (.iload_n 1, 1) := by decide +kernel
theorem dX9_ahead_1 : decode cX9_ahead 1 = .ok (.iconst 1, 1) := by decide +kernel
theorem dX9_ahead_2 : decode cX9_ahead 2 = .ok (.isub, 1) := by decide +kernel
theorem dX9_ahead_3 : decode cX9_ahead 3 = .ok (.istore_n 2, 1) := by decide +kernel
theorem dX9_ahead_4 : decode cX9_ahead 4 = .ok (.iload_n 2, 1) := by decide +kernel
theorem dX9_ahead_5 : decode cX9_ahead 5 = .ok (.ifCond .lt 18, 3) := by decide +kernel
theorem dX9_ahead_8 : decode cX9_ahead 8 = .ok (.aload_n 0, 1) := by decide +kernel
theorem dX9_ahead_9 : decode cX9_ahead 9 = .ok (.getfield 45, 3) := by decide +kernel
theorem dX9_ahead_12 : decode cX9_ahead 12 = .ok (.iload_n 2, 1) := by decide +kernel
theorem dX9_ahead_13 : decode cX9_ahead 13 = .ok (.baload, 1) := by decide +kernel
theorem dX9_ahead_14 : decode cX9_ahead 14 = .ok (.ifCond .eq 9, 3) := by decide +kernel
theorem dX9_ahead_17 : decode cX9_ahead 17 = .ok (.iinc 2 (-1), 3) := by decide +kernel
theorem dX9_ahead_20 : decode cX9_ahead 20 = .ok (.goto (-16), 3) := by decide +kernel
theorem dX9_ahead_23 : decode cX9_ahead 23 = .ok (.iload_n 2, 1) := by decide +kernel
theorem dX9_ahead_24 : decode cX9_ahead 24 = .ok (.ireturn, 1) := by decide +kernel
theorem dX9_between_0 : decode cX9_between 0 = .ok (.iload_n 1, 1) := by decide +kernel
theorem dX9_between_1 : decode cX9_between 1 = .ok (.iload_n 2, 1) := by decide +kernel
theorem dX9_between_2 : decode cX9_between 2 = .ok (.if_icmp .ge 21, 3) := by decide +kernel
theorem dX9_between_5 : decode cX9_between 5 = .ok (.iload_n 0, 1) := by decide +kernel
theorem dX9_between_6 : decode cX9_between 6 = .ok (.iload_n 1, 1) := by decide +kernel
theorem dX9_between_7 : decode cX9_between 7 = .ok (.if_icmp .lt 12, 3) := by decide +kernel
theorem dX9_between_10 : decode cX9_between 10 = .ok (.iload_n 0, 1) := by decide +kernel
theorem dX9_between_11 : decode cX9_between 11 = .ok (.iload_n 2, 1) := by decide +kernel
theorem dX9_between_12 : decode cX9_between 12 = .ok (.if_icmp .gt 7, 3) := by decide +kernel
theorem dX9_between_15 : decode cX9_between 15 = .ok (.iconst 1, 1) := by decide +kernel
theorem dX9_between_16 : decode cX9_between 16 = .ok (.goto 22, 3) := by decide +kernel
theorem dX9_between_19 : decode cX9_between 19 = .ok (.iconst 0, 1) := by decide +kernel
theorem dX9_between_20 : decode cX9_between 20 = .ok (.goto 18, 3) := by decide +kernel
theorem dX9_between_23 : decode cX9_between 23 = .ok (.iload_n 0, 1) := by decide +kernel
theorem dX9_between_24 : decode cX9_between 24 = .ok (.iload_n 2, 1) := by decide +kernel
theorem dX9_between_25 : decode cX9_between 25 = .ok (.if_icmp .lt 12, 3) := by decide +kernel
theorem dX9_between_28 : decode cX9_between 28 = .ok (.iload_n 0, 1) := by decide +kernel
theorem dX9_between_29 : decode cX9_between 29 = .ok (.iload_n 1, 1) := by decide +kernel
theorem dX9_between_30 : decode cX9_between 30 = .ok (.if_icmp .gt 7, 3) := by decide +kernel
theorem dX9_between_33 : decode cX9_between 33 = .ok (.iconst 1, 1) := by decide +kernel
theorem dX9_between_34 : decode cX9_between 34 = .ok (.goto 4, 3) := by decide +kernel
theorem dX9_between_37 : decode cX9_between 37 = .ok (.iconst 0, 1) := by decide +kernel
theorem dX9_between_38 : decode cX9_between 38 = .ok (.ireturn, 1) := by decide +kernel
theorem dX9_look_0 : decode cX9_look 0 = .ok (.aload_n 0, 1) := by decide +kernel
theorem dX9_look_1 : decode cX9_look 1 = .ok (.iload_n 1, 1) := by decide +kernel
theorem dX9_look_2 : decode cX9_look 2 = .ok (.iload_n 2, 1) := by decide +kernel
theorem dX9_look_3 : decode cX9_look 3 = .ok (.invokevirtual 134, 3) := by decide +kernel
theorem dX9_look_6 : decode cX9_look 6 = .ok (.aload_n 0, 1) := by decide +kernel
theorem dX9_look_7 : decode cX9_look 7 = .ok (.aload_n 0, 1) := by decide +kernel
theorem dX9_look_8 : decode cX9_look 8 = .ok (.aload_n 0, 1) := by decide +kernel
theorem dX9_look_9 : decode cX9_look 9 = .ok (.getfield 27, 3) := by decide +kernel
theorem dX9_look_12 : decode cX9_look 12 = .ok (.aload_n 0, 1) := by decide +kernel
theorem dX9_look_13 : decode cX9_look 13 = .ok (.getfield 124, 3) := by decide +kernel
theorem dX9_look_16 : decode cX9_look 16 = .ok (.aload_n 0, 1) := by decide +kernel
theorem dX9_look_17 : decode cX9_look 17 = .ok (.getfield 30, 3) := by decide +kernel
theorem dX9_look_20 : decode cX9_look 20 = .ok (.invokevirtual 130, 3) := by decide +kernel
theorem dX9_look_23 : decode cX9_look 23 = .ok (.putfield 138, 3) := by decide +kernel
theorem dX9_look_26 : decode cX9_look 26 = .ok (.aload_n 0, 1) := by decide +kernel
theorem dX9_look_27 : decode cX9_look 27 = .ok (.iconst 0, 1) := by decide +kernel
theorem dX9_look_28 : decode cX9_look 28 = .ok (.putfield 141, 3) := by decide +kernel
theorem dX9_look_31 : decode cX9_look 31 = .ok (.iconst 0, 1) := by decide +kernel
theorem dX9_look_32 : decode cX9_look 32 = .ok (.istore_n 3, 1) := by decide +kernel
theorem dX9_look_33 : decode cX9_look 33 = .ok (.iload_n 3, 1) := by decide +kernel
theorem dX9_look_34 : decode cX9_look 34 = .ok (.aload_n 0, 1) := by decide +kernel
theorem dX9_look_35 : decode cX9_look 35 = .ok (.getfield 138, 3) := by decide +kernel
theorem dX9_look_38 : decode cX9_look 38 = .ok (.if_icmp .ge 190, 3) := by decide +kernel
theorem dX9_look_41 : decode cX9_look 41 = .ok (.aload_n 0, 1) := by decide +kernel
theorem dX9_look_42 : decode cX9_look 42 = .ok (.getfield 45, 3) := by decide +kernel
theorem dX9_look_45 : decode cX9_look 45 = .ok (.iload_n 3, 1) := by decide +kernel
theorem dX9_look_46 : decode cX9_look 46 = .ok (.iconst 0, 1) := by decide +kernel
theorem dX9_look_47 : decode cX9_look 47 = .ok (.bastore, 1) := by decide +kernel
theorem dX9_look_48 : decode cX9_look 48 = .ok (.iconst 1, 1) := by decide +kernel
theorem dX9_look_49 : decode cX9_look 49 = .ok (.istore 4, 2) := by decide +kernel
theorem dX9_look_51 : decode cX9_look 51 = .ok (.iload 4, 2) := by decide +kernel
theorem dX9_look_53 : decode cX9_look 53 = .ok (.ifCond .eq 169, 3) := by decide +kernel
theorem dX9_look_56 : decode cX9_look 56 = .ok (.aload_n 0, 1) := by decide +kernel
theorem dX9_look_57 : decode cX9_look 57 = .ok (.iload_n 3, 1) := by decide +kernel
theorem dX9_look_58 : decode cX9_look 58 = .ok (.invokevirtual 144, 3) := by decide +kernel
theorem dX9_look_61 : decode cX9_look 61 = .ok (.istore 5, 2) := by decide +kernel
theorem dX9_look_63 : decode cX9_look 63 = .ok (.aload_n 0, 1) := by decide +kernel
theorem dX9_look_64 : decode cX9_look 64 = .ok (.iload 5, 2) := by decide +kernel
theorem dX9_look_66 : decode cX9_look 66 = .ok (.invokevirtual 144, 3) := by decide +kernel
theorem dX9_look_69 : decode cX9_look 69 = .ok (.istore 6, 2) := by decide +kernel
theorem dX9_look_71 : decode cX9_look 71 = .ok (.aload_n 0, 1) := by decide +kernel
theorem dX9_look_72 : decode cX9_look 72 = .ok (.iload 6, 2) := by decide +kernel
theorem dX9_look_74 : decode cX9_look 74 = .ok (.invokevirtual 144, 3) := by decide +kernel
theorem dX9_look_77 : decode cX9_look 77 = .ok (.istore 7, 2) := by decide +kernel
theorem dX9_look_79 : decode cX9_look 79 = .ok (.iload 5, 2) := by decide +kernel
theorem dX9_look_81 : decode cX9_look 81 = .ok (.ifCond .lt 69, 3) := by decide +kernel
theorem dX9_look_84 : decode cX9_look 84 = .ok (.iload 6, 2) := by decide +kernel
theorem dX9_look_86 : decode cX9_look 86 = .ok (.ifCond .lt 64, 3) := by decide +kernel
theorem dX9_look_89 : decode cX9_look 89 = .ok (.iload 7, 2) := by decide +kernel
theorem dX9_look_91 : decode cX9_look 91 = .ok (.ifCond .lt 59, 3) := by decide +kernel
theorem dX9_look_94 : decode cX9_look 94 = .ok (.aload_n 0, 1) := by decide +kernel
theorem dX9_look_95 : decode cX9_look 95 = .ok (.getfield 30, 3) := by decide +kernel
theorem dX9_look_98 : decode cX9_look 98 = .ok (.iload 6, 2) := by decide +kernel
theorem dX9_look_100 : decode cX9_look 100 = .ok (.iaload, 1) := by decide +kernel
theorem dX9_look_101 : decode cX9_look 101 = .ok (.aload_n 0, 1) := by decide +kernel
theorem dX9_look_102 : decode cX9_look 102 = .ok (.getfield 30, 3) := by decide +kernel
theorem dX9_look_105 : decode cX9_look 105 = .ok (.iload 7, 2) := by decide +kernel
theorem dX9_look_107 : decode cX9_look 107 = .ok (.iaload, 1) := by decide +kernel
theorem dX9_look_108 : decode cX9_look 108 = .ok (.aload_n 0, 1) := by decide +kernel
theorem dX9_look_109 : decode cX9_look 109 = .ok (.getfield 30, 3) := by decide +kernel
theorem dX9_look_112 : decode cX9_look 112 = .ok (.iload_n 3, 1) := by decide +kernel
theorem dX9_look_113 : decode cX9_look 113 = .ok (.iaload, 1) := by decide +kernel
theorem dX9_look_114 : decode cX9_look 114 = .ok (.invokestatic 147, 3) := by decide +kernel
theorem dX9_look_117 : decode cX9_look 117 = .ok (.ifCond .eq 33, 3) := by decide +kernel
theorem dX9_look_120 : decode cX9_look 120 = .ok (.aload_n 0, 1) := by decide +kernel
theorem dX9_look_121 : decode cX9_look 121 = .ok (.getfield 30, 3) := by decide +kernel
theorem dX9_look_124 : decode cX9_look 124 = .ok (.iload 5, 2) := by decide +kernel
theorem dX9_look_126 : decode cX9_look 126 = .ok (.iaload, 1) := by decide +kernel
theorem dX9_look_127 : decode cX9_look 127 = .ok (.aload_n 0, 1) := by decide +kernel
theorem dX9_look_128 : decode cX9_look 128 = .ok (.getfield 30, 3) := by decide +kernel
theorem dX9_look_131 : decode cX9_look 131 = .ok (.iload 7, 2) := by decide +kernel
theorem dX9_look_133 : decode cX9_look 133 = .ok (.iaload, 1) := by decide +kernel
theorem dX9_look_134 : decode cX9_look 134 = .ok (.aload_n 0, 1) := by decide +kernel
theorem dX9_look_135 : decode cX9_look 135 = .ok (.getfield 30, 3) := by decide +kernel
theorem dX9_look_138 : decode cX9_look 138 = .ok (.iload_n 3, 1) := by decide +kernel
theorem dX9_look_139 : decode cX9_look 139 = .ok (.iaload, 1) := by decide +kernel
theorem dX9_look_140 : decode cX9_look 140 = .ok (.invokestatic 147, 3) := by decide +kernel
theorem dX9_look_143 : decode cX9_look 143 = .ok (.ifCond .eq 7, 3) := by decide +kernel
theorem dX9_look_146 : decode cX9_look 146 = .ok (.iconst 1, 1) := by decide +kernel
theorem dX9_look_147 : decode cX9_look 147 = .ok (.goto 4, 3) := by decide +kernel
theorem dX9_look_150 : decode cX9_look 150 = .ok (.iconst 0, 1) := by decide +kernel
theorem dX9_look_151 : decode cX9_look 151 = .ok (.istore 4, 2) := by decide +kernel
theorem dX9_look_153 : decode cX9_look 153 = .ok (.iload 4, 2) := by decide +kernel
theorem dX9_look_155 : decode cX9_look 155 = .ok (.ifCond .ne 6, 3) := by decide +kernel
theorem dX9_look_158 : decode cX9_look 158 = .ok (.goto (-107), 3) := by decide +kernel
theorem dX9_look_161 : decode cX9_look 161 = .ok (.aload_n 0, 1) := by decide +kernel
theorem dX9_look_162 : decode cX9_look 162 = .ok (.getfield 45, 3) := by decide +kernel
theorem dX9_look_165 : decode cX9_look 165 = .ok (.iload 6, 2) := by decide +kernel
theorem dX9_look_167 : decode cX9_look 167 = .ok (.iconst 1, 1) := by decide +kernel
theorem dX9_look_168 : decode cX9_look 168 = .ok (.bastore, 1) := by decide +kernel
theorem dX9_look_169 : decode cX9_look 169 = .ok (.aload_n 0, 1) := by decide +kernel
theorem dX9_look_170 : decode cX9_look 170 = .ok (.getfield 45, 3) := by decide +kernel
theorem dX9_look_173 : decode cX9_look 173 = .ok (.iload 5, 2) := by decide +kernel
theorem dX9_look_175 : decode cX9_look 175 = .ok (.iconst 1, 1) := by decide +kernel
theorem dX9_look_176 : decode cX9_look 176 = .ok (.bastore, 1) := by decide +kernel
theorem dX9_look_177 : decode cX9_look 177 = .ok (.aload_n 0, 1) := by decide +kernel
theorem dX9_look_178 : decode cX9_look 178 = .ok (.getfield 36, 3) := by decide +kernel
theorem dX9_look_181 : decode cX9_look 181 = .ok (.aload_n 0, 1) := by decide +kernel
theorem dX9_look_182 : decode cX9_look 182 = .ok (.getfield 141, 3) := by decide +kernel
theorem dX9_look_185 : decode cX9_look 185 = .ok (.iload 6, 2) := by decide +kernel
theorem dX9_look_187 : decode cX9_look 187 = .ok (.iastore, 1) := by decide +kernel
theorem dX9_look_188 : decode cX9_look 188 = .ok (.aload_n 0, 1) := by decide +kernel
theorem dX9_look_189 : decode cX9_look 189 = .ok (.getfield 39, 3) := by decide +kernel
theorem dX9_look_192 : decode cX9_look 192 = .ok (.aload_n 0, 1) := by decide +kernel
theorem dX9_look_193 : decode cX9_look 193 = .ok (.getfield 141, 3) := by decide +kernel
theorem dX9_look_196 : decode cX9_look 196 = .ok (.iload 5, 2) := by decide +kernel
theorem dX9_look_198 : decode cX9_look 198 = .ok (.iastore, 1) := by decide +kernel
theorem dX9_look_199 : decode cX9_look 199 = .ok (.aload_n 0, 1) := by decide +kernel
theorem dX9_look_200 : decode cX9_look 200 = .ok (.getfield 42, 3) := by decide +kernel
theorem dX9_look_203 : decode cX9_look 203 = .ok (.aload_n 0, 1) := by decide +kernel
theorem dX9_look_204 : decode cX9_look 204 = .ok (.getfield 141, 3) := by decide +kernel
theorem dX9_look_207 : decode cX9_look 207 = .ok (.iload_n 3, 1) := by decide +kernel
theorem dX9_look_208 : decode cX9_look 208 = .ok (.iastore, 1) := by decide +kernel
theorem dX9_look_209 : decode cX9_look 209 = .ok (.aload_n 0, 1) := by decide +kernel
theorem dX9_look_210 : decode cX9_look 210 = .ok (.dup, 1) := by decide +kernel
theorem dX9_look_211 : decode cX9_look 211 = .ok (.getfield 141, 3) := by decide +kernel
theorem dX9_look_214 : decode cX9_look 214 = .ok (.iconst 1, 1) := by decide +kernel
theorem dX9_look_215 : decode cX9_look 215 = .ok (.iadd, 1) := by decide +kernel
theorem dX9_look_216 : decode cX9_look 216 = .ok (.putfield 141, 3) := by decide +kernel
theorem dX9_look_219 : decode cX9_look 219 = .ok (.goto (-168), 3) := by decide +kernel
theorem dX9_look_222 : decode cX9_look 222 = .ok (.iinc 3 1, 3) := by decide +kernel
theorem dX9_look_225 : decode cX9_look 225 = .ok (.goto (-192), 3) := by decide +kernel
theorem dX9_look_228 : decode cX9_look 228 = .ok (.aload_n 0, 1) := by decide +kernel
theorem dX9_look_229 : decode cX9_look 229 = .ok (.iconst 0, 1) := by decide +kernel
theorem dX9_look_230 : decode cX9_look 230 = .ok (.putfield 151, 3) := by decide +kernel
theorem dX9_look_233 : decode cX9_look 233 = .ok (.iconst 0, 1) := by decide +kernel
theorem dX9_look_234 : decode cX9_look 234 = .ok (.istore_n 3, 1) := by decide +kernel
theorem dX9_look_235 : decode cX9_look 235 = .ok (.iload_n 3, 1) := by decide +kernel
theorem dX9_look_236 : decode cX9_look 236 = .ok (.aload_n 0, 1) := by decide +kernel
theorem dX9_look_237 : decode cX9_look 237 = .ok (.getfield 138, 3) := by decide +kernel
theorem dX9_look_240 : decode cX9_look 240 = .ok (.if_icmp .ge 46, 3) := by decide +kernel
theorem dX9_look_243 : decode cX9_look 243 = .ok (.aload_n 0, 1) := by decide +kernel
theorem dX9_look_244 : decode cX9_look 244 = .ok (.getfield 45, 3) := by decide +kernel
theorem dX9_look_247 : decode cX9_look 247 = .ok (.iload_n 3, 1) := by decide +kernel
theorem dX9_look_248 : decode cX9_look 248 = .ok (.baload, 1) := by decide +kernel
theorem dX9_look_249 : decode cX9_look 249 = .ok (.ifCond .eq 6, 3) := by decide +kernel
theorem dX9_look_252 : decode cX9_look 252 = .ok (.goto 28, 3) := by decide +kernel
theorem dX9_look_255 : decode cX9_look 255 = .ok (.aload_n 0, 1) := by decide +kernel
theorem dX9_look_256 : decode cX9_look 256 = .ok (.getfield 49, 3) := by decide +kernel
theorem dX9_look_259 : decode cX9_look 259 = .ok (.aload_n 0, 1) := by decide +kernel
theorem dX9_look_260 : decode cX9_look 260 = .ok (.getfield 151, 3) := by decide +kernel
theorem dX9_look_263 : decode cX9_look 263 = .ok (.aload_n 0, 1) := by decide +kernel
theorem dX9_look_264 : decode cX9_look 264 = .ok (.getfield 30, 3) := by decide +kernel
theorem dX9_look_267 : decode cX9_look 267 = .ok (.iload_n 3, 1) := by decide +kernel
theorem dX9_look_268 : decode cX9_look 268 = .ok (.iaload, 1) := by decide +kernel
theorem dX9_look_269 : decode cX9_look 269 = .ok (.iastore, 1) := by decide +kernel
theorem dX9_look_270 : decode cX9_look 270 = .ok (.aload_n 0, 1) := by decide +kernel
theorem dX9_look_271 : decode cX9_look 271 = .ok (.dup, 1) := by decide +kernel
theorem dX9_look_272 : decode cX9_look 272 = .ok (.getfield 151, 3) := by decide +kernel
theorem dX9_look_275 : decode cX9_look 275 = .ok (.iconst 1, 1) := by decide +kernel
theorem dX9_look_276 : decode cX9_look 276 = .ok (.iadd, 1) := by decide +kernel
theorem dX9_look_277 : decode cX9_look 277 = .ok (.putfield 151, 3) := by decide +kernel
theorem dX9_look_280 : decode cX9_look 280 = .ok (.iinc 3 1, 3) := by decide +kernel
theorem dX9_look_283 : decode cX9_look 283 = .ok (.goto (-48), 3) := by decide +kernel
theorem dX9_look_286 : decode cX9_look 286 = .ok (.return_, 1) := by decide +kernel
theorem dX9_row_0 : decode cX9_row 0 = .ok (.aload_n 0, 1) := by decide +kernel
theorem dX9_row_1 : decode cX9_row 1 = .ok (.iconst 0, 1) := by decide +kernel
theorem dX9_row_2 : decode cX9_row 2 = .ok (.putfield 1, 3) := by decide +kernel
theorem dX9_row_5 : decode cX9_row 5 = .ok (.aload_n 0, 1) := by decide +kernel
theorem dX9_row_6 : decode cX9_row 6 = .ok (.iload_n 1, 1) := by decide +kernel
theorem dX9_row_7 : decode cX9_row 7 = .ok (.invokevirtual 154, 3) := by decide +kernel
theorem dX9_row_10 : decode cX9_row 10 = .ok (.ifCond .eq 13, 3) := by decide +kernel
theorem dX9_row_13 : decode cX9_row 13 = .ok (.iload_n 2, 1) := by decide +kernel
theorem dX9_row_14 : decode cX9_row 14 = .ok (.ifCond .lt 9, 3) := by decide +kernel
theorem dX9_row_17 : decode cX9_row 17 = .ok (.iload_n 2, 1) := by decide +kernel
theorem dX9_row_18 : decode cX9_row 18 = .ok (.bipush 6, 2) := by decide +kernel
theorem dX9_row_20 : decode cX9_row 20 = .ok (.if_icmp .le 5, 3) := by decide +kernel
theorem dX9_row_23 : decode cX9_row 23 = .ok (.iconst (-1), 1) := by decide +kernel
theorem dX9_row_24 : decode cX9_row 24 = .ok (.ireturn, 1) := by decide +kernel
theorem dX9_row_25 : decode cX9_row 25 = .ok (.aload_n 0, 1) := by decide +kernel
theorem dX9_row_26 : decode cX9_row 26 = .ok (.iload_n 1, 1) := by decide +kernel
theorem dX9_row_27 : decode cX9_row 27 = .ok (.invokevirtual 121, 3) := by decide +kernel
theorem dX9_row_30 : decode cX9_row 30 = .ok (.istore_n 3, 1) := by decide +kernel
theorem dX9_row_31 : decode cX9_row 31 = .ok (.iload_n 2, 1) := by decide +kernel
theorem dX9_row_32 : decode cX9_row 32 = .ok (.ifCond .ne 5, 3) := by decide +kernel
theorem dX9_row_35 : decode cX9_row 35 = .ok (.iload_n 3, 1) := by decide +kernel
theorem dX9_row_36 : decode cX9_row 36 = .ok (.ireturn, 1) := by decide +kernel
theorem dX9_row_37 : decode cX9_row 37 = .ok (.iload_n 2, 1) := by decide +kernel
theorem dX9_row_38 : decode cX9_row 38 = .ok (.iconst 3, 1) := by decide +kernel
theorem dX9_row_39 : decode cX9_row 39 = .ok (.if_icmp .ge 71, 3) := by decide +kernel
theorem dX9_row_42 : decode cX9_row 42 = .ok (.iconst 0, 1) := by decide +kernel
theorem dX9_row_43 : decode cX9_row 43 = .ok (.istore 4, 2) := by decide +kernel
theorem dX9_row_45 : decode cX9_row 45 = .ok (.iconst 0, 1) := by decide +kernel
theorem dX9_row_46 : decode cX9_row 46 = .ok (.istore 5, 2) := by decide +kernel
theorem dX9_row_48 : decode cX9_row 48 = .ok (.iload 5, 2) := by decide +kernel
theorem dX9_row_50 : decode cX9_row 50 = .ok (.iload_n 3, 1) := by decide +kernel
theorem dX9_row_51 : decode cX9_row 51 = .ok (.if_icmp .ge 56, 3) := by decide +kernel
theorem dX9_row_54 : decode cX9_row 54 = .ok (.iload 4, 2) := by decide +kernel
theorem dX9_row_56 : decode cX9_row 56 = .ok (.iload_n 2, 1) := by decide +kernel
theorem dX9_row_57 : decode cX9_row 57 = .ok (.iconst 1, 1) := by decide +kernel
theorem dX9_row_58 : decode cX9_row 58 = .ok (.if_icmp .ne 23, 3) := by decide +kernel
theorem dX9_row_61 : decode cX9_row 61 = .ok (.aload_n 0, 1) := by decide +kernel
theorem dX9_row_62 : decode cX9_row 62 = .ok (.iload_n 1, 1) := by decide +kernel
theorem dX9_row_63 : decode cX9_row 63 = .ok (.iload 5, 2) := by decide +kernel
theorem dX9_row_65 : decode cX9_row 65 = .ok (.invokevirtual 127, 3) := by decide +kernel
theorem dX9_row_68 : decode cX9_row 68 = .ok (.ldc 86, 2) := by decide +kernel
theorem dX9_row_70 : decode cX9_row 70 = .ok (.if_icmp .ne 7, 3) := by decide +kernel
theorem dX9_row_73 : decode cX9_row 73 = .ok (.iconst 1, 1) := by decide +kernel
theorem dX9_row_74 : decode cX9_row 74 = .ok (.goto 24, 3) := by decide +kernel
theorem dX9_row_77 : decode cX9_row 77 = .ok (.iconst 0, 1) := by decide +kernel
theorem dX9_row_78 : decode cX9_row 78 = .ok (.goto 20, 3) := by decide +kernel
theorem dX9_row_81 : decode cX9_row 81 = .ok (.aload_n 0, 1) := by decide +kernel
theorem dX9_row_82 : decode cX9_row 82 = .ok (.iload_n 1, 1) := by decide +kernel
theorem dX9_row_83 : decode cX9_row 83 = .ok (.iload 5, 2) := by decide +kernel
theorem dX9_row_85 : decode cX9_row 85 = .ok (.invokevirtual 127, 3) := by decide +kernel
theorem dX9_row_88 : decode cX9_row 88 = .ok (.ldc 86, 2) := by decide +kernel
theorem dX9_row_90 : decode cX9_row 90 = .ok (.if_icmp .ge 7, 3) := by decide +kernel
theorem dX9_row_93 : decode cX9_row 93 = .ok (.iconst 1, 1) := by decide +kernel
theorem dX9_row_94 : decode cX9_row 94 = .ok (.goto 4, 3) := by decide +kernel
theorem dX9_row_97 : decode cX9_row 97 = .ok (.iconst 0, 1) := by decide +kernel
theorem dX9_row_98 : decode cX9_row 98 = .ok (.iadd, 1) := by decide +kernel
theorem dX9_row_99 : decode cX9_row 99 = .ok (.istore 4, 2) := by decide +kernel
theorem dX9_row_101 : decode cX9_row 101 = .ok (.iinc 5 1, 3) := by decide +kernel
theorem dX9_row_104 : decode cX9_row 104 = .ok (.goto (-56), 3) := by decide +kernel
theorem dX9_row_107 : decode cX9_row 107 = .ok (.iload 4, 2) := by decide +kernel
theorem dX9_row_109 : decode cX9_row 109 = .ok (.ireturn, 1) := by decide +kernel
theorem dX9_row_110 : decode cX9_row 110 = .ok (.aload_n 0, 1) := by decide +kernel
theorem dX9_row_111 : decode cX9_row 111 = .ok (.iload_n 1, 1) := by decide +kernel
theorem dX9_row_112 : decode cX9_row 112 = .ok (.iconst 0, 1) := by decide +kernel
theorem dX9_row_113 : decode cX9_row 113 = .ok (.invokevirtual 157, 3) := by decide +kernel
theorem dX9_row_116 : decode cX9_row 116 = .ok (.iload_n 2, 1) := by decide +kernel
theorem dX9_row_117 : decode cX9_row 117 = .ok (.iconst 3, 1) := by decide +kernel
theorem dX9_row_118 : decode cX9_row 118 = .ok (.if_icmp .ne 10, 3) := by decide +kernel
theorem dX9_row_121 : decode cX9_row 121 = .ok (.aload_n 0, 1) := by decide +kernel
theorem dX9_row_122 : decode cX9_row 122 = .ok (.getfield 124, 3) := by decide +kernel
theorem dX9_row_125 : decode cX9_row 125 = .ok (.goto 31, 3) := by decide +kernel
theorem dX9_row_128 : decode cX9_row 128 = .ok (.iload_n 2, 1) := by decide +kernel
theorem dX9_row_129 : decode cX9_row 129 = .ok (.iconst 4, 1) := by decide +kernel
theorem dX9_row_130 : decode cX9_row 130 = .ok (.if_icmp .ne 10, 3) := by decide +kernel
theorem dX9_row_133 : decode cX9_row 133 = .ok (.aload_n 0, 1) := by decide +kernel
theorem dX9_row_134 : decode cX9_row 134 = .ok (.getfield 138, 3) := by decide +kernel
theorem dX9_row_137 : decode cX9_row 137 = .ok (.goto 19, 3) := by decide +kernel
theorem dX9_row_140 : decode cX9_row 140 = .ok (.iload_n 2, 1) := by decide +kernel
theorem dX9_row_141 : decode cX9_row 141 = .ok (.iconst 5, 1) := by decide +kernel
theorem dX9_row_142 : decode cX9_row 142 = .ok (.if_icmp .ne 10, 3) := by decide +kernel
theorem dX9_row_145 : decode cX9_row 145 = .ok (.aload_n 0, 1) := by decide +kernel
theorem dX9_row_146 : decode cX9_row 146 = .ok (.getfield 141, 3) := by decide +kernel
theorem dX9_row_149 : decode cX9_row 149 = .ok (.goto 7, 3) := by decide +kernel
theorem dX9_row_152 : decode cX9_row 152 = .ok (.aload_n 0, 1) := by decide +kernel
theorem dX9_row_153 : decode cX9_row 153 = .ok (.getfield 151, 3) := by decide +kernel
theorem dX9_row_156 : decode cX9_row 156 = .ok (.ireturn, 1) := by decide +kernel
theorem dX9_span_0 : decode cX9_span 0 = .ok (.aload_n 0, 1) := by decide +kernel
theorem dX9_span_1 : decode cX9_span 1 = .ok (.aload_n 0, 1) := by decide +kernel
theorem dX9_span_2 : decode cX9_span 2 = .ok (.iload_n 1, 1) := by decide +kernel
theorem dX9_span_3 : decode cX9_span 3 = .ok (.invokevirtual 154, 3) := by decide +kernel
theorem dX9_span_6 : decode cX9_span 6 = .ok (.ifCond .eq 16, 3) := by decide +kernel
theorem dX9_span_9 : decode cX9_span 9 = .ok (.iload_n 2, 1) := by decide +kernel
theorem dX9_span_10 : decode cX9_span 10 = .ok (.ifCond .lt 12, 3) := by decide +kernel
theorem dX9_span_13 : decode cX9_span 13 = .ok (.iload_n 2, 1) := by decide +kernel
theorem dX9_span_14 : decode cX9_span 14 = .ok (.aload_n 0, 1) := by decide +kernel
theorem dX9_span_15 : decode cX9_span 15 = .ok (.iload_n 1, 1) := by decide +kernel
theorem dX9_span_16 : decode cX9_span 16 = .ok (.invokevirtual 121, 3) := by decide +kernel
theorem dX9_span_19 : decode cX9_span 19 = .ok (.if_icmp .lt 7, 3) := by decide +kernel
theorem dX9_span_22 : decode cX9_span 22 = .ok (.iconst 1, 1) := by decide +kernel
theorem dX9_span_23 : decode cX9_span 23 = .ok (.goto 4, 3) := by decide +kernel
theorem dX9_span_26 : decode cX9_span 26 = .ok (.iconst 0, 1) := by decide +kernel
theorem dX9_span_27 : decode cX9_span 27 = .ok (.invokevirtual 160, 3) := by decide +kernel
theorem dX9_span_30 : decode cX9_span 30 = .ok (.ifCond .eq 7, 3) := by decide +kernel
theorem dX9_span_33 : decode cX9_span 33 = .ok (.iconst 0, 1) := by decide +kernel
theorem dX9_span_34 : decode cX9_span 34 = .ok (.goto 9, 3) := by decide +kernel
theorem dX9_span_37 : decode cX9_span 37 = .ok (.aload_n 0, 1) := by decide +kernel
theorem dX9_span_38 : decode cX9_span 38 = .ok (.iload_n 1, 1) := by decide +kernel
theorem dX9_span_39 : decode cX9_span 39 = .ok (.iload_n 2, 1) := by decide +kernel
theorem dX9_span_40 : decode cX9_span 40 = .ok (.invokevirtual 127, 3) := by decide +kernel
theorem dX9_span_43 : decode cX9_span 43 = .ok (.ireturn, 1) := by decide +kernel
theorem dX9_turn_0 : decode cX9_turn 0 = .ok (.aload_n 0, 1) := by decide +kernel
theorem dX9_turn_1 : decode cX9_turn 1 = .ok (.aload_n 0, 1) := by decide +kernel
theorem dX9_turn_2 : decode cX9_turn 2 = .ok (.iload_n 1, 1) := by decide +kernel
theorem dX9_turn_3 : decode cX9_turn 3 = .ok (.invokevirtual 154, 3) := by decide +kernel
theorem dX9_turn_6 : decode cX9_turn 6 = .ok (.ifCond .eq 16, 3) := by decide +kernel
theorem dX9_turn_9 : decode cX9_turn 9 = .ok (.iload_n 2, 1) := by decide +kernel
theorem dX9_turn_10 : decode cX9_turn 10 = .ok (.ifCond .lt 12, 3) := by decide +kernel
theorem dX9_turn_13 : decode cX9_turn 13 = .ok (.iload_n 2, 1) := by decide +kernel
theorem dX9_turn_14 : decode cX9_turn 14 = .ok (.iconst 1, 1) := by decide +kernel
theorem dX9_turn_15 : decode cX9_turn 15 = .ok (.if_icmp .gt 7, 3) := by decide +kernel
theorem dX9_turn_18 : decode cX9_turn 18 = .ok (.iload_n 3, 1) := by decide +kernel
theorem dX9_turn_19 : decode cX9_turn 19 = .ok (.ifCond .ge 7, 3) := by decide +kernel
theorem dX9_turn_22 : decode cX9_turn 22 = .ok (.iconst 1, 1) := by decide +kernel
theorem dX9_turn_23 : decode cX9_turn 23 = .ok (.goto 4, 3) := by decide +kernel
theorem dX9_turn_26 : decode cX9_turn 26 = .ok (.iconst 0, 1) := by decide +kernel
theorem dX9_turn_27 : decode cX9_turn 27 = .ok (.invokevirtual 160, 3) := by decide +kernel
theorem dX9_turn_30 : decode cX9_turn 30 = .ok (.ifCond .eq 5, 3) := by decide +kernel
theorem dX9_turn_33 : decode cX9_turn 33 = .ok (.iconst 0, 1) := by decide +kernel
theorem dX9_turn_34 : decode cX9_turn 34 = .ok (.ireturn, 1) := by decide +kernel
theorem dX9_turn_35 : decode cX9_turn 35 = .ok (.aload_n 0, 1) := by decide +kernel
theorem dX9_turn_36 : decode cX9_turn 36 = .ok (.iload_n 1, 1) := by decide +kernel
theorem dX9_turn_37 : decode cX9_turn 37 = .ok (.iconst 0, 1) := by decide +kernel
theorem dX9_turn_38 : decode cX9_turn 38 = .ok (.invokevirtual 157, 3) := by decide +kernel
theorem dX9_turn_41 : decode cX9_turn 41 = .ok (.aload_n 0, 1) := by decide +kernel
theorem dX9_turn_42 : decode cX9_turn 42 = .ok (.iload_n 3, 1) := by decide +kernel
theorem dX9_turn_43 : decode cX9_turn 43 = .ok (.iload_n 2, 1) := by decide +kernel
theorem dX9_turn_44 : decode cX9_turn 44 = .ok (.ifCond .ne 10, 3) := by decide +kernel
theorem dX9_turn_47 : decode cX9_turn 47 = .ok (.aload_n 0, 1) := by decide +kernel
theorem dX9_turn_48 : decode cX9_turn 48 = .ok (.getfield 138, 3) := by decide +kernel
theorem dX9_turn_51 : decode cX9_turn 51 = .ok (.goto 7, 3) := by decide +kernel
theorem dX9_turn_54 : decode cX9_turn 54 = .ok (.aload_n 0, 1) := by decide +kernel
theorem dX9_turn_55 : decode cX9_turn 55 = .ok (.getfield 151, 3) := by decide +kernel
theorem dX9_turn_58 : decode cX9_turn 58 = .ok (.if_icmp .lt 7, 3) := by decide +kernel
theorem dX9_turn_61 : decode cX9_turn 61 = .ok (.iconst 1, 1) := by decide +kernel
theorem dX9_turn_62 : decode cX9_turn 62 = .ok (.goto 4, 3) := by decide +kernel
theorem dX9_turn_65 : decode cX9_turn 65 = .ok (.iconst 0, 1) := by decide +kernel
theorem dX9_turn_66 : decode cX9_turn 66 = .ok (.invokevirtual 160, 3) := by decide +kernel
theorem dX9_turn_69 : decode cX9_turn 69 = .ok (.ifCond .eq 5, 3) := by decide +kernel
theorem dX9_turn_72 : decode cX9_turn 72 = .ok (.iconst 0, 1) := by decide +kernel
theorem dX9_turn_73 : decode cX9_turn 73 = .ok (.ireturn, 1) := by decide +kernel
theorem dX9_turn_74 : decode cX9_turn 74 = .ok (.iload_n 2, 1) := by decide +kernel
theorem dX9_turn_75 : decode cX9_turn 75 = .ok (.ifCond .ne 12, 3) := by decide +kernel
theorem dX9_turn_78 : decode cX9_turn 78 = .ok (.aload_n 0, 1) := by decide +kernel
theorem dX9_turn_79 : decode cX9_turn 79 = .ok (.getfield 30, 3) := by decide +kernel
theorem dX9_turn_82 : decode cX9_turn 82 = .ok (.iload_n 3, 1) := by decide +kernel
theorem dX9_turn_83 : decode cX9_turn 83 = .ok (.iaload, 1) := by decide +kernel
theorem dX9_turn_84 : decode cX9_turn 84 = .ok (.goto 9, 3) := by decide +kernel
theorem dX9_turn_87 : decode cX9_turn 87 = .ok (.aload_n 0, 1) := by decide +kernel
theorem dX9_turn_88 : decode cX9_turn 88 = .ok (.getfield 49, 3) := by decide +kernel
theorem dX9_turn_91 : decode cX9_turn 91 = .ok (.iload_n 3, 1) := by decide +kernel
theorem dX9_turn_92 : decode cX9_turn 92 = .ok (.iaload, 1) := by decide +kernel
theorem dX9_turn_93 : decode cX9_turn 93 = .ok (.ireturn, 1) := by decide +kernel
theorem dX9_rangeOf_0 : decode cX9_rangeOf 0 = .ok (.aload_n 0, 1) := by decide +kernel
theorem dX9_rangeOf_1 : decode cX9_rangeOf 1 = .ok (.getfield 30, 3) := by decide +kernel
theorem dX9_rangeOf_4 : decode cX9_rangeOf 4 = .ok (.aload_n 0, 1) := by decide +kernel
theorem dX9_rangeOf_5 : decode cX9_rangeOf 5 = .ok (.getfield 36, 3) := by decide +kernel
theorem dX9_rangeOf_8 : decode cX9_rangeOf 8 = .ok (.iload_n 1, 1) := by decide +kernel
theorem dX9_rangeOf_9 : decode cX9_rangeOf 9 = .ok (.iaload, 1) := by decide +kernel
theorem dX9_rangeOf_10 : decode cX9_rangeOf 10 = .ok (.iaload, 1) := by decide +kernel
theorem dX9_rangeOf_11 : decode cX9_rangeOf 11 = .ok (.istore_n 2, 1) := by decide +kernel
theorem dX9_rangeOf_12 : decode cX9_rangeOf 12 = .ok (.aload_n 0, 1) := by decide +kernel
theorem dX9_rangeOf_13 : decode cX9_rangeOf 13 = .ok (.getfield 30, 3) := by decide +kernel
theorem dX9_rangeOf_16 : decode cX9_rangeOf 16 = .ok (.aload_n 0, 1) := by decide +kernel
theorem dX9_rangeOf_17 : decode cX9_rangeOf 17 = .ok (.getfield 39, 3) := by decide +kernel
theorem dX9_rangeOf_20 : decode cX9_rangeOf 20 = .ok (.iload_n 1, 1) := by decide +kernel
theorem dX9_rangeOf_21 : decode cX9_rangeOf 21 = .ok (.iaload, 1) := by decide +kernel
theorem dX9_rangeOf_22 : decode cX9_rangeOf 22 = .ok (.iaload, 1) := by decide +kernel
theorem dX9_rangeOf_23 : decode cX9_rangeOf 23 = .ok (.istore_n 3, 1) := by decide +kernel
theorem dX9_rangeOf_24 : decode cX9_rangeOf 24 = .ok (.iload_n 2, 1) := by decide +kernel
theorem dX9_rangeOf_25 : decode cX9_rangeOf 25 = .ok (.iload_n 3, 1) := by decide +kernel
theorem dX9_rangeOf_26 : decode cX9_rangeOf 26 = .ok (.if_icmp .le 9, 3) := by decide +kernel
theorem dX9_rangeOf_29 : decode cX9_rangeOf 29 = .ok (.iload_n 2, 1) := by decide +kernel
theorem dX9_rangeOf_30 : decode cX9_rangeOf 30 = .ok (.iload_n 3, 1) := by decide +kernel
theorem dX9_rangeOf_31 : decode cX9_rangeOf 31 = .ok (.isub, 1) := by decide +kernel
theorem dX9_rangeOf_32 : decode cX9_rangeOf 32 = .ok (.goto 6, 3) := by decide +kernel
theorem dX9_rangeOf_35 : decode cX9_rangeOf 35 = .ok (.iload_n 3, 1) := by decide +kernel
theorem dX9_rangeOf_36 : decode cX9_rangeOf 36 = .ok (.iload_n 2, 1) := by decide +kernel
theorem dX9_rangeOf_37 : decode cX9_rangeOf 37 = .ok (.isub, 1) := by decide +kernel
theorem dX9_rangeOf_38 : decode cX9_rangeOf 38 = .ok (.ireturn, 1) := by decide +kernel
theorem dX9_meanOf_0 : decode cX9_meanOf 0 = .ok (.aload_n 0, 1) := by decide +kernel
theorem dX9_meanOf_1 : decode cX9_meanOf 1 = .ok (.getfield 30, 3) := by decide +kernel
theorem dX9_meanOf_4 : decode cX9_meanOf 4 = .ok (.aload_n 0, 1) := by decide +kernel
theorem dX9_meanOf_5 : decode cX9_meanOf 5 = .ok (.getfield 36, 3) := by decide +kernel
theorem dX9_meanOf_8 : decode cX9_meanOf 8 = .ok (.iload_n 1, 1) := by decide +kernel
theorem dX9_meanOf_9 : decode cX9_meanOf 9 = .ok (.iaload, 1) := by decide +kernel
theorem dX9_meanOf_10 : decode cX9_meanOf 10 = .ok (.iaload, 1) := by decide +kernel
theorem dX9_meanOf_11 : decode cX9_meanOf 11 = .ok (.aload_n 0, 1) := by decide +kernel
theorem dX9_meanOf_12 : decode cX9_meanOf 12 = .ok (.getfield 30, 3) := by decide +kernel
theorem dX9_meanOf_15 : decode cX9_meanOf 15 = .ok (.aload_n 0, 1) := by decide +kernel
theorem dX9_meanOf_16 : decode cX9_meanOf 16 = .ok (.getfield 39, 3) := by decide +kernel
theorem dX9_meanOf_19 : decode cX9_meanOf 19 = .ok (.iload_n 1, 1) := by decide +kernel
theorem dX9_meanOf_20 : decode cX9_meanOf 20 = .ok (.iaload, 1) := by decide +kernel
theorem dX9_meanOf_21 : decode cX9_meanOf 21 = .ok (.iaload, 1) := by decide +kernel
theorem dX9_meanOf_22 : decode cX9_meanOf 22 = .ok (.iadd, 1) := by decide +kernel
theorem dX9_meanOf_23 : decode cX9_meanOf 23 = .ok (.ireturn, 1) := by decide +kernel
theorem dX9_cycle_0 : decode cX9_cycle 0 = .ok (.aload_n 0, 1) := by decide +kernel
theorem dX9_cycle_1 : decode cX9_cycle 1 = .ok (.aload_n 0, 1) := by decide +kernel
theorem dX9_cycle_2 : decode cX9_cycle 2 = .ok (.iload_n 1, 1) := by decide +kernel
theorem dX9_cycle_3 : decode cX9_cycle 3 = .ok (.invokevirtual 154, 3) := by decide +kernel
theorem dX9_cycle_6 : decode cX9_cycle 6 = .ok (.ifCond .eq 17, 3) := by decide +kernel
theorem dX9_cycle_9 : decode cX9_cycle 9 = .ok (.iload_n 2, 1) := by decide +kernel
theorem dX9_cycle_10 : decode cX9_cycle 10 = .ok (.ifCond .lt 13, 3) := by decide +kernel
theorem dX9_cycle_13 : decode cX9_cycle 13 = .ok (.iload_n 3, 1) := by decide +kernel
theorem dX9_cycle_14 : decode cX9_cycle 14 = .ok (.ifCond .lt 9, 3) := by decide +kernel
theorem dX9_cycle_17 : decode cX9_cycle 17 = .ok (.iload_n 3, 1) := by decide +kernel
theorem dX9_cycle_18 : decode cX9_cycle 18 = .ok (.bipush 6, 2) := by decide +kernel
theorem dX9_cycle_20 : decode cX9_cycle 20 = .ok (.if_icmp .le 7, 3) := by decide +kernel
theorem dX9_cycle_23 : decode cX9_cycle 23 = .ok (.iconst 1, 1) := by decide +kernel
theorem dX9_cycle_24 : decode cX9_cycle 24 = .ok (.goto 4, 3) := by decide +kernel
theorem dX9_cycle_27 : decode cX9_cycle 27 = .ok (.iconst 0, 1) := by decide +kernel
theorem dX9_cycle_28 : decode cX9_cycle 28 = .ok (.invokevirtual 160, 3) := by decide +kernel
theorem dX9_cycle_31 : decode cX9_cycle 31 = .ok (.ifCond .eq 5, 3) := by decide +kernel
theorem dX9_cycle_34 : decode cX9_cycle 34 = .ok (.iconst 0, 1) := by decide +kernel
theorem dX9_cycle_35 : decode cX9_cycle 35 = .ok (.ireturn, 1) := by decide +kernel
theorem dX9_cycle_36 : decode cX9_cycle 36 = .ok (.aload_n 0, 1) := by decide +kernel
theorem dX9_cycle_37 : decode cX9_cycle 37 = .ok (.iload_n 1, 1) := by decide +kernel
theorem dX9_cycle_38 : decode cX9_cycle 38 = .ok (.iconst 0, 1) := by decide +kernel
theorem dX9_cycle_39 : decode cX9_cycle 39 = .ok (.invokevirtual 157, 3) := by decide +kernel
theorem dX9_cycle_42 : decode cX9_cycle 42 = .ok (.aload_n 0, 1) := by decide +kernel
theorem dX9_cycle_43 : decode cX9_cycle 43 = .ok (.iload_n 2, 1) := by decide +kernel
theorem dX9_cycle_44 : decode cX9_cycle 44 = .ok (.aload_n 0, 1) := by decide +kernel
theorem dX9_cycle_45 : decode cX9_cycle 45 = .ok (.getfield 141, 3) := by decide +kernel
theorem dX9_cycle_48 : decode cX9_cycle 48 = .ok (.if_icmp .lt 7, 3) := by decide +kernel
theorem dX9_cycle_51 : decode cX9_cycle 51 = .ok (.iconst 1, 1) := by decide +kernel
theorem dX9_cycle_52 : decode cX9_cycle 52 = .ok (.goto 4, 3) := by decide +kernel
theorem dX9_cycle_55 : decode cX9_cycle 55 = .ok (.iconst 0, 1) := by decide +kernel
theorem dX9_cycle_56 : decode cX9_cycle 56 = .ok (.invokevirtual 160, 3) := by decide +kernel
theorem dX9_cycle_59 : decode cX9_cycle 59 = .ok (.ifCond .eq 5, 3) := by decide +kernel
theorem dX9_cycle_62 : decode cX9_cycle 62 = .ok (.iconst 0, 1) := by decide +kernel
theorem dX9_cycle_63 : decode cX9_cycle 63 = .ok (.ireturn, 1) := by decide +kernel
theorem dX9_cycle_64 : decode cX9_cycle 64 = .ok (.iload_n 3, 1) := by decide +kernel
theorem dX9_cycle_65 : decode cX9_cycle 65 = .ok (.tableswitch 90 0 5 #[39, 51, 63, 70, 77, 84], 39) := by decide +kernel
theorem dX9_cycle_104 : decode cX9_cycle 104 = .ok (.aload_n 0, 1) := by decide +kernel
theorem dX9_cycle_105 : decode cX9_cycle 105 = .ok (.getfield 30, 3) := by decide +kernel
theorem dX9_cycle_108 : decode cX9_cycle 108 = .ok (.aload_n 0, 1) := by decide +kernel
theorem dX9_cycle_109 : decode cX9_cycle 109 = .ok (.getfield 36, 3) := by decide +kernel
theorem dX9_cycle_112 : decode cX9_cycle 112 = .ok (.iload_n 2, 1) := by decide +kernel
theorem dX9_cycle_113 : decode cX9_cycle 113 = .ok (.iaload, 1) := by decide +kernel
theorem dX9_cycle_114 : decode cX9_cycle 114 = .ok (.iaload, 1) := by decide +kernel
theorem dX9_cycle_115 : decode cX9_cycle 115 = .ok (.ireturn, 1) := by decide +kernel
theorem dX9_cycle_116 : decode cX9_cycle 116 = .ok (.aload_n 0, 1) := by decide +kernel
theorem dX9_cycle_117 : decode cX9_cycle 117 = .ok (.getfield 30, 3) := by decide +kernel
theorem dX9_cycle_120 : decode cX9_cycle 120 = .ok (.aload_n 0, 1) := by decide +kernel
theorem dX9_cycle_121 : decode cX9_cycle 121 = .ok (.getfield 39, 3) := by decide +kernel
theorem dX9_cycle_124 : decode cX9_cycle 124 = .ok (.iload_n 2, 1) := by decide +kernel
theorem dX9_cycle_125 : decode cX9_cycle 125 = .ok (.iaload, 1) := by decide +kernel
theorem dX9_cycle_126 : decode cX9_cycle 126 = .ok (.iaload, 1) := by decide +kernel
theorem dX9_cycle_127 : decode cX9_cycle 127 = .ok (.ireturn, 1) := by decide +kernel
theorem dX9_cycle_128 : decode cX9_cycle 128 = .ok (.aload_n 0, 1) := by decide +kernel
theorem dX9_cycle_129 : decode cX9_cycle 129 = .ok (.getfield 36, 3) := by decide +kernel
theorem dX9_cycle_132 : decode cX9_cycle 132 = .ok (.iload_n 2, 1) := by decide +kernel
theorem dX9_cycle_133 : decode cX9_cycle 133 = .ok (.iaload, 1) := by decide +kernel
theorem dX9_cycle_134 : decode cX9_cycle 134 = .ok (.ireturn, 1) := by decide +kernel
theorem dX9_cycle_135 : decode cX9_cycle 135 = .ok (.aload_n 0, 1) := by decide +kernel
theorem dX9_cycle_136 : decode cX9_cycle 136 = .ok (.getfield 39, 3) := by decide +kernel
theorem dX9_cycle_139 : decode cX9_cycle 139 = .ok (.iload_n 2, 1) := by decide +kernel
theorem dX9_cycle_140 : decode cX9_cycle 140 = .ok (.iaload, 1) := by decide +kernel
theorem dX9_cycle_141 : decode cX9_cycle 141 = .ok (.ireturn, 1) := by decide +kernel
theorem dX9_cycle_142 : decode cX9_cycle 142 = .ok (.aload_n 0, 1) := by decide +kernel
theorem dX9_cycle_143 : decode cX9_cycle 143 = .ok (.getfield 42, 3) := by decide +kernel
theorem dX9_cycle_146 : decode cX9_cycle 146 = .ok (.iload_n 2, 1) := by decide +kernel
theorem dX9_cycle_147 : decode cX9_cycle 147 = .ok (.iaload, 1) := by decide +kernel
theorem dX9_cycle_148 : decode cX9_cycle 148 = .ok (.ireturn, 1) := by decide +kernel
theorem dX9_cycle_149 : decode cX9_cycle 149 = .ok (.aload_n 0, 1) := by decide +kernel
theorem dX9_cycle_150 : decode cX9_cycle 150 = .ok (.iload_n 2, 1) := by decide +kernel
theorem dX9_cycle_151 : decode cX9_cycle 151 = .ok (.invokevirtual 164, 3) := by decide +kernel
theorem dX9_cycle_154 : decode cX9_cycle 154 = .ok (.ireturn, 1) := by decide +kernel
theorem dX9_cycle_155 : decode cX9_cycle 155 = .ok (.aload_n 0, 1) := by decide +kernel
theorem dX9_cycle_156 : decode cX9_cycle 156 = .ok (.iload_n 2, 1) := by decide +kernel
theorem dX9_cycle_157 : decode cX9_cycle 157 = .ok (.invokevirtual 167, 3) := by decide +kernel
theorem dX9_cycle_160 : decode cX9_cycle 160 = .ok (.ireturn, 1) := by decide +kernel
theorem dX9_check_0 : decode cX9_check 0 = .ok (.aload_n 0, 1) := by decide +kernel
theorem dX9_check_1 : decode cX9_check 1 = .ok (.iconst 0, 1) := by decide +kernel
theorem dX9_check_2 : decode cX9_check 2 = .ok (.putfield 1, 3) := by decide +kernel
theorem dX9_check_5 : decode cX9_check 5 = .ok (.aload_n 0, 1) := by decide +kernel
theorem dX9_check_6 : decode cX9_check 6 = .ok (.getfield 64, 3) := by decide +kernel
theorem dX9_check_9 : decode cX9_check 9 = .ok (.istore_n 2, 1) := by decide +kernel
theorem dX9_check_10 : decode cX9_check 10 = .ok (.aload_n 0, 1) := by decide +kernel
theorem dX9_check_11 : decode cX9_check 11 = .ok (.iconst 0, 1) := by decide +kernel
theorem dX9_check_12 : decode cX9_check 12 = .ok (.putfield 64, 3) := by decide +kernel
theorem dX9_check_15 : decode cX9_check 15 = .ok (.aload_n 0, 1) := by decide +kernel
theorem dX9_check_16 : decode cX9_check 16 = .ok (.iload_n 1, 1) := by decide +kernel
theorem dX9_check_17 : decode cX9_check 17 = .ok (.invokevirtual 154, 3) := by decide +kernel
theorem dX9_check_20 : decode cX9_check 20 = .ok (.ifCond .ne 5, 3) := by decide +kernel
theorem dX9_check_23 : decode cX9_check 23 = .ok (.iconst (-1), 1) := by decide +kernel
theorem dX9_check_24 : decode cX9_check 24 = .ok (.ireturn, 1) := by decide +kernel
theorem dX9_check_25 : decode cX9_check 25 = .ok (.aload_n 0, 1) := by decide +kernel
theorem dX9_check_26 : decode cX9_check 26 = .ok (.iload_n 1, 1) := by decide +kernel
theorem dX9_check_27 : decode cX9_check 27 = .ok (.iconst 0, 1) := by decide +kernel
theorem dX9_check_28 : decode cX9_check 28 = .ok (.invokevirtual 157, 3) := by decide +kernel
theorem dX9_check_31 : decode cX9_check 31 = .ok (.iload_n 2, 1) := by decide +kernel
theorem dX9_check_32 : decode cX9_check 32 = .ok (.iconst 2, 1) := by decide +kernel
theorem dX9_check_33 : decode cX9_check 33 = .ok (.irem, 1) := by decide +kernel
theorem dX9_check_34 : decode cX9_check 34 = .ok (.iconst 1, 1) := by decide +kernel
theorem dX9_check_35 : decode cX9_check 35 = .ok (.if_icmp .eq 13, 3) := by decide +kernel
theorem dX9_check_38 : decode cX9_check 38 = .ok (.aload_n 0, 1) := by decide +kernel
theorem dX9_check_39 : decode cX9_check 39 = .ok (.getfield 138, 3) := by decide +kernel
theorem dX9_check_42 : decode cX9_check 42 = .ok (.sipush 256, 3) := by decide +kernel
theorem dX9_check_45 : decode cX9_check 45 = .ok (.if_icmp .le 6, 3) := by decide +kernel
theorem dX9_check_48 : decode cX9_check 48 = .ok (.bipush (-2), 2) := by decide +kernel
theorem dX9_check_50 : decode cX9_check 50 = .ok (.ireturn, 1) := by decide +kernel
theorem dX9_check_51 : decode cX9_check 51 = .ok (.iconst 0, 1) := by decide +kernel
theorem dX9_check_52 : decode cX9_check 52 = .ok (.istore_n 3, 1) := by decide +kernel
theorem dX9_check_53 : decode cX9_check 53 = .ok (.iload_n 3, 1) := by decide +kernel
theorem dX9_check_54 : decode cX9_check 54 = .ok (.iload_n 2, 1) := by decide +kernel
theorem dX9_check_55 : decode cX9_check 55 = .ok (.if_icmp .ge 29, 3) := by decide +kernel
theorem dX9_check_58 : decode cX9_check 58 = .ok (.aload_n 0, 1) := by decide +kernel
theorem dX9_check_59 : decode cX9_check 59 = .ok (.getfield 23, 3) := by decide +kernel
theorem dX9_check_62 : decode cX9_check 62 = .ok (.iload_n 3, 1) := by decide +kernel
theorem dX9_check_63 : decode cX9_check 63 = .ok (.baload, 1) := by decide +kernel
theorem dX9_check_64 : decode cX9_check 64 = .ok (.sipush 255, 3) := by decide +kernel
theorem dX9_check_67 : decode cX9_check 67 = .ok (.iand, 1) := by decide +kernel
theorem dX9_check_68 : decode cX9_check 68 = .ok (.aload_n 0, 1) := by decide +kernel
theorem dX9_check_69 : decode cX9_check 69 = .ok (.getfield 138, 3) := by decide +kernel
theorem dX9_check_72 : decode cX9_check 72 = .ok (.if_icmp .lt 6, 3) := by decide +kernel
theorem dX9_check_75 : decode cX9_check 75 = .ok (.bipush (-2), 2) := by decide +kernel
theorem dX9_check_77 : decode cX9_check 77 = .ok (.ireturn, 1) := by decide +kernel
theorem dX9_check_78 : decode cX9_check 78 = .ok (.iinc 3 1, 3) := by decide +kernel
theorem dX9_check_81 : decode cX9_check 81 = .ok (.goto (-28), 3) := by decide +kernel
theorem dX9_check_84 : decode cX9_check 84 = .ok (.iconst 0, 1) := by decide +kernel
theorem dX9_check_85 : decode cX9_check 85 = .ok (.istore_n 3, 1) := by decide +kernel
theorem dX9_check_86 : decode cX9_check 86 = .ok (.iload_n 3, 1) := by decide +kernel
theorem dX9_check_87 : decode cX9_check 87 = .ok (.aload_n 0, 1) := by decide +kernel
theorem dX9_check_88 : decode cX9_check 88 = .ok (.getfield 138, 3) := by decide +kernel
theorem dX9_check_91 : decode cX9_check 91 = .ok (.if_icmp .ge 186, 3) := by decide +kernel
theorem dX9_check_94 : decode cX9_check 94 = .ok (.iconst (-1), 1) := by decide +kernel
theorem dX9_check_95 : decode cX9_check 95 = .ok (.istore 4, 2) := by decide +kernel
theorem dX9_check_97 : decode cX9_check 97 = .ok (.iconst 0, 1) := by decide +kernel
theorem dX9_check_98 : decode cX9_check 98 = .ok (.istore 5, 2) := by decide +kernel
theorem dX9_check_100 : decode cX9_check 100 = .ok (.iload 5, 2) := by decide +kernel
theorem dX9_check_102 : decode cX9_check 102 = .ok (.aload_n 0, 1) := by decide +kernel
theorem dX9_check_103 : decode cX9_check 103 = .ok (.getfield 141, 3) := by decide +kernel
theorem dX9_check_106 : decode cX9_check 106 = .ok (.if_icmp .ge 55, 3) := by decide +kernel
theorem dX9_check_109 : decode cX9_check 109 = .ok (.aload_n 0, 1) := by decide +kernel
theorem dX9_check_110 : decode cX9_check 110 = .ok (.getfield 36, 3) := by decide +kernel
theorem dX9_check_113 : decode cX9_check 113 = .ok (.iload 5, 2) := by decide +kernel
theorem dX9_check_115 : decode cX9_check 115 = .ok (.iaload, 1) := by decide +kernel
theorem dX9_check_116 : decode cX9_check 116 = .ok (.iload_n 3, 1) := by decide +kernel
theorem dX9_check_117 : decode cX9_check 117 = .ok (.if_icmp .ne 13, 3) := by decide +kernel
theorem dX9_check_120 : decode cX9_check 120 = .ok (.aload_n 0, 1) := by decide +kernel
theorem dX9_check_121 : decode cX9_check 121 = .ok (.getfield 39, 3) := by decide +kernel
theorem dX9_check_124 : decode cX9_check 124 = .ok (.iload 5, 2) := by decide +kernel
theorem dX9_check_126 : decode cX9_check 126 = .ok (.iaload, 1) := by decide +kernel
theorem dX9_check_127 : decode cX9_check 127 = .ok (.goto 26, 3) := by decide +kernel
theorem dX9_check_130 : decode cX9_check 130 = .ok (.aload_n 0, 1) := by decide +kernel
theorem dX9_check_131 : decode cX9_check 131 = .ok (.getfield 39, 3) := by decide +kernel
theorem dX9_check_134 : decode cX9_check 134 = .ok (.iload 5, 2) := by decide +kernel
theorem dX9_check_136 : decode cX9_check 136 = .ok (.iaload, 1) := by decide +kernel
theorem dX9_check_137 : decode cX9_check 137 = .ok (.iload_n 3, 1) := by decide +kernel
theorem dX9_check_138 : decode cX9_check 138 = .ok (.if_icmp .ne 13, 3) := by decide +kernel
theorem dX9_check_141 : decode cX9_check 141 = .ok (.aload_n 0, 1) := by decide +kernel
theorem dX9_check_142 : decode cX9_check 142 = .ok (.getfield 36, 3) := by decide +kernel
theorem dX9_check_145 : decode cX9_check 145 = .ok (.iload 5, 2) := by decide +kernel
theorem dX9_check_147 : decode cX9_check 147 = .ok (.iaload, 1) := by decide +kernel
theorem dX9_check_148 : decode cX9_check 148 = .ok (.goto 5, 3) := by decide +kernel
theorem dX9_check_151 : decode cX9_check 151 = .ok (.iload 4, 2) := by decide +kernel
theorem dX9_check_153 : decode cX9_check 153 = .ok (.istore 4, 2) := by decide +kernel
theorem dX9_check_155 : decode cX9_check 155 = .ok (.iinc 5 1, 3) := by decide +kernel
theorem dX9_check_158 : decode cX9_check 158 = .ok (.goto (-58), 3) := by decide +kernel
theorem dX9_check_161 : decode cX9_check 161 = .ok (.iconst 0, 1) := by decide +kernel
theorem dX9_check_162 : decode cX9_check 162 = .ok (.istore 5, 2) := by decide +kernel
theorem dX9_check_164 : decode cX9_check 164 = .ok (.iconst 1, 1) := by decide +kernel
theorem dX9_check_165 : decode cX9_check 165 = .ok (.istore 6, 2) := by decide +kernel
theorem dX9_check_167 : decode cX9_check 167 = .ok (.iconst 0, 1) := by decide +kernel
theorem dX9_check_168 : decode cX9_check 168 = .ok (.istore 7, 2) := by decide +kernel
theorem dX9_check_170 : decode cX9_check 170 = .ok (.iload 7, 2) := by decide +kernel
theorem dX9_check_172 : decode cX9_check 172 = .ok (.iload_n 2, 1) := by decide +kernel
theorem dX9_check_173 : decode cX9_check 173 = .ok (.if_icmp .ge 74, 3) := by decide +kernel
theorem dX9_check_176 : decode cX9_check 176 = .ok (.aload_n 0, 1) := by decide +kernel
theorem dX9_check_177 : decode cX9_check 177 = .ok (.getfield 23, 3) := by decide +kernel
theorem dX9_check_180 : decode cX9_check 180 = .ok (.iload 7, 2) := by decide +kernel
theorem dX9_check_182 : decode cX9_check 182 = .ok (.baload, 1) := by decide +kernel
theorem dX9_check_183 : decode cX9_check 183 = .ok (.sipush 255, 3) := by decide +kernel
theorem dX9_check_186 : decode cX9_check 186 = .ok (.iand, 1) := by decide +kernel
theorem dX9_check_187 : decode cX9_check 187 = .ok (.iload_n 3, 1) := by decide +kernel
theorem dX9_check_188 : decode cX9_check 188 = .ok (.if_icmp .eq 6, 3) := by decide +kernel
theorem dX9_check_191 : decode cX9_check 191 = .ok (.goto 50, 3) := by decide +kernel
theorem dX9_check_194 : decode cX9_check 194 = .ok (.iinc 5 1, 3) := by decide +kernel
theorem dX9_check_197 : decode cX9_check 197 = .ok (.iload 6, 2) := by decide +kernel
theorem dX9_check_199 : decode cX9_check 199 = .ok (.ifCond .eq 39, 3) := by decide +kernel
theorem dX9_check_202 : decode cX9_check 202 = .ok (.aload_n 0, 1) := by decide +kernel
theorem dX9_check_203 : decode cX9_check 203 = .ok (.getfield 23, 3) := by decide +kernel
theorem dX9_check_206 : decode cX9_check 206 = .ok (.iload 7, 2) := by decide +kernel
theorem dX9_check_208 : decode cX9_check 208 = .ok (.iconst 2, 1) := by decide +kernel
theorem dX9_check_209 : decode cX9_check 209 = .ok (.irem, 1) := by decide +kernel
theorem dX9_check_210 : decode cX9_check 210 = .ok (.ifCond .ne 10, 3) := by decide +kernel
theorem dX9_check_213 : decode cX9_check 213 = .ok (.iload 7, 2) := by decide +kernel
theorem dX9_check_215 : decode cX9_check 215 = .ok (.iconst 1, 1) := by decide +kernel
theorem dX9_check_216 : decode cX9_check 216 = .ok (.iadd, 1) := by decide +kernel
theorem dX9_check_217 : decode cX9_check 217 = .ok (.goto 7, 3) := by decide +kernel
theorem dX9_check_220 : decode cX9_check 220 = .ok (.iload 7, 2) := by decide +kernel
theorem dX9_check_222 : decode cX9_check 222 = .ok (.iconst 1, 1) := by decide +kernel
theorem dX9_check_223 : decode cX9_check 223 = .ok (.isub, 1) := by decide +kernel
theorem dX9_check_224 : decode cX9_check 224 = .ok (.baload, 1) := by decide +kernel
theorem dX9_check_225 : decode cX9_check 225 = .ok (.sipush 255, 3) := by decide +kernel
