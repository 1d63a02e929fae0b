theorem dX8_damage_8 : decode cX8_damage 8 = .ok (.astore 4, 2) := by decide +kernel
theorem dX8_damage_10 : decode cX8_damage 10 = .ok (.aload 4, 2) := by decide +kernel
theorem dX8_damage_12 : decode cX8_damage 12 = .ok (.ifnull 21, 3) := by decide +kernel
theorem dX8_damage_15 : decode cX8_damage 15 = .ok (.iload_n 2, 1) := by decide +kernel
theorem dX8_damage_16 : decode cX8_damage 16 = .ok (.ifCond .lt 17, 3) := by decide +kernel
theorem dX8_damage_19 : decode cX8_damage 19 = .ok (.iload_n 2, 1) := by decide +kernel
theorem dX8_damage_20 : decode cX8_damage 20 = .ok (.iconst 1, 1) := by decide +kernel
theorem dX8_damage_21 : decode cX8_damage 21 = .ok (.if_icmp .gt 12, 3) := by decide +kernel
theorem dX8_damage_24 : decode cX8_damage 24 = .ok (.iload_n 3, 1) := by decide +kernel
theorem dX8_damage_25 : decode cX8_damage 25 = .ok (.ifCond .lt 8, 3) := by decide +kernel
theorem dX8_damage_28 : decode cX8_damage 28 = .ok (.iload_n 3, 1) := by decide +kernel
theorem dX8_damage_29 : decode cX8_damage 29 = .ok (.iconst 2, 1) := by decide +kernel
theorem dX8_damage_30 : decode cX8_damage 30 = .ok (.if_icmp .le 13, 3) := by decide +kernel
theorem dX8_damage_33 : decode cX8_damage 33 = .ok (.new 150, 3) := by decide +kernel
theorem dX8_damage_36 : decode cX8_damage 36 = .ok (.dup, 1) := by decide +kernel
theorem dX8_damage_37 : decode cX8_damage 37 = .ok (.ldc 226, 2) := by decide +kernel
theorem dX8_damage_39 : decode cX8_damage 39 = .ok (.invokespecial 154, 3) := by decide +kernel
theorem dX8_damage_42 : decode cX8_damage 42 = .ok (.athrow, 1) := by decide +kernel
theorem dX8_damage_43 : decode cX8_damage 43 = .ok (.aload_n 0, 1) := by decide +kernel
theorem dX8_damage_44 : decode cX8_damage 44 = .ok (.aload 4, 2) := by decide +kernel
theorem dX8_damage_46 : decode cX8_damage 46 = .ok (.invokevirtual 228, 3) := by decide +kernel
theorem dX8_damage_49 : decode cX8_damage 49 = .ok (.iload_n 2, 1) := by decide +kernel
theorem dX8_damage_50 : decode cX8_damage 50 = .ok (.ifCond .ne 13, 3) := by decide +kernel
theorem dX8_damage_53 : decode cX8_damage 53 = .ok (.aload_n 0, 1) := by decide +kernel
theorem dX8_damage_54 : decode cX8_damage 54 = .ok (.getfield 33, 3) := by decide +kernel
theorem dX8_damage_57 : decode cX8_damage 57 = .ok (.getfield 232, 3) := by decide +kernel
theorem dX8_damage_60 : decode cX8_damage 60 = .ok (.goto 10, 3) := by decide +kernel
theorem dX8_damage_63 : decode cX8_damage 63 = .ok (.aload_n 0, 1) := by decide +kernel
theorem dX8_damage_64 : decode cX8_damage 64 = .ok (.getfield 33, 3) := by decide +kernel
theorem dX8_damage_67 : decode cX8_damage 67 = .ok (.getfield 236, 3) := by decide +kernel
theorem dX8_damage_70 : decode cX8_damage 70 = .ok (.lstore 5, 2) := by decide +kernel
theorem dX8_damage_72 : decode cX8_damage 72 = .ok (.iload_n 3, 1) := by decide +kernel
theorem dX8_damage_73 : decode cX8_damage 73 = .ok (.iconst 2, 1) := by decide +kernel
theorem dX8_damage_74 : decode cX8_damage 74 = .ok (.if_icmp .ne 18, 3) := by decide +kernel
theorem dX8_damage_77 : decode cX8_damage 77 = .ok (.lload 5, 2) := by decide +kernel
theorem dX8_damage_79 : decode cX8_damage 79 = .ok (.ldc2_w 239, 3) := by decide +kernel
theorem dX8_damage_82 : decode cX8_damage 82 = .ok (.lcmp, 1) := by decide +kernel
theorem dX8_damage_83 : decode cX8_damage 83 = .ok (.ifCond .lt 7, 3) := by decide +kernel
theorem dX8_damage_86 : decode cX8_damage 86 = .ok (.lconst 1, 1) := by decide +kernel
theorem dX8_damage_87 : decode cX8_damage 87 = .ok (.goto 4, 3) := by decide +kernel
theorem dX8_damage_90 : decode cX8_damage 90 = .ok (.lconst 0, 1) := by decide +kernel
theorem dX8_damage_91 : decode cX8_damage 91 = .ok (.lreturn, 1) := by decide +kernel
theorem dX8_damage_92 : decode cX8_damage 92 = .ok (.lload 5, 2) := by decide +kernel
theorem dX8_damage_94 : decode cX8_damage 94 = .ok (.ldc2_w 239, 3) := by decide +kernel
theorem dX8_damage_97 : decode cX8_damage 97 = .ok (.invokestatic 241, 3) := by decide +kernel
theorem dX8_damage_100 : decode cX8_damage 100 = .ok (.lstore 7, 2) := by decide +kernel
theorem dX8_damage_102 : decode cX8_damage 102 = .ok (.lload 7, 2) := by decide +kernel
theorem dX8_damage_104 : decode cX8_damage 104 = .ok (.lconst 1, 1) := by decide +kernel
theorem dX8_damage_105 : decode cX8_damage 105 = .ok (.lcmp, 1) := by decide +kernel
theorem dX8_damage_106 : decode cX8_damage 106 = .ok (.ifCond .ge 5, 3) := by decide +kernel
theorem dX8_damage_109 : decode cX8_damage 109 = .ok (.lconst 0, 1) := by decide +kernel
theorem dX8_damage_110 : decode cX8_damage 110 = .ok (.lreturn, 1) := by decide +kernel
theorem dX8_damage_111 : decode cX8_damage 111 = .ok (.iload_n 3, 1) := by decide +kernel
theorem dX8_damage_112 : decode cX8_damage 112 = .ok (.ifCond .ne 11, 3) := by decide +kernel
theorem dX8_damage_115 : decode cX8_damage 115 = .ok (.lload 5, 2) := by decide +kernel
theorem dX8_damage_117 : decode cX8_damage 117 = .ok (.lload 7, 2) := by decide +kernel
theorem dX8_damage_119 : decode cX8_damage 119 = .ok (.ldiv, 1) := by decide +kernel
theorem dX8_damage_120 : decode cX8_damage 120 = .ok (.goto 9, 3) := by decide +kernel
theorem dX8_damage_123 : decode cX8_damage 123 = .ok (.ldc2_w 239, 3) := by decide +kernel
theorem dX8_damage_126 : decode cX8_damage 126 = .ok (.lload 7, 2) := by decide +kernel
theorem dX8_damage_128 : decode cX8_damage 128 = .ok (.ldiv, 1) := by decide +kernel
theorem dX8_damage_129 : decode cX8_damage 129 = .ok (.lreturn, 1) := by decide +kernel
theorem dX8_part_0 : decode cX8_part 0 = .ok (.aload_n 0, 1) := by decide +kernel
theorem dX8_part_1 : decode cX8_part 1 = .ok (.getfield 19, 3) := by decide +kernel
theorem dX8_part_4 : decode cX8_part 4 = .ok (.iload_n 1, 1) := by decide +kernel
theorem dX8_part_5 : decode cX8_part 5 = .ok (.invokevirtual 178, 3) := by decide +kernel
theorem dX8_part_8 : decode cX8_part 8 = .ok (.astore_n 3, 1) := by decide +kernel
theorem dX8_part_9 : decode cX8_part 9 = .ok (.aload_n 3, 1) := by decide +kernel
theorem dX8_part_10 : decode cX8_part 10 = .ok (.ifnull 24, 3) := by decide +kernel
theorem dX8_part_13 : decode cX8_part 13 = .ok (.iload_n 2, 1) := by decide +kernel
theorem dX8_part_14 : decode cX8_part 14 = .ok (.ifCond .lt 20, 3) := by decide +kernel
theorem dX8_part_17 : decode cX8_part 17 = .ok (.iload_n 2, 1) := by decide +kernel
theorem dX8_part_18 : decode cX8_part 18 = .ok (.bipush 6, 2) := by decide +kernel
theorem dX8_part_20 : decode cX8_part 20 = .ok (.if_icmp .eq 24, 3) := by decide +kernel
theorem dX8_part_23 : decode cX8_part 23 = .ok (.iload_n 2, 1) := by decide +kernel
theorem dX8_part_24 : decode cX8_part 24 = .ok (.aload_n 3, 1) := by decide +kernel
theorem dX8_part_25 : decode cX8_part 25 = .ok (.getfield 192, 3) := by decide +kernel
theorem dX8_part_28 : decode cX8_part 28 = .ok (.getfield 245, 3) := by decide +kernel
theorem dX8_part_31 : decode cX8_part 31 = .ok (.if_icmp .lt 13, 3) := by decide +kernel
theorem dX8_part_34 : decode cX8_part 34 = .ok (.new 150, 3) := by decide +kernel
theorem dX8_part_37 : decode cX8_part 37 = .ok (.dup, 1) := by decide +kernel
theorem dX8_part_38 : decode cX8_part 38 = .ok (.ldc 248, 2) := by decide +kernel
theorem dX8_part_40 : decode cX8_part 40 = .ok (.invokespecial 154, 3) := by decide +kernel
theorem dX8_part_43 : decode cX8_part 43 = .ok (.athrow, 1) := by decide +kernel
theorem dX8_part_44 : decode cX8_part 44 = .ok (.aload_n 0, 1) := by decide +kernel
theorem dX8_part_45 : decode cX8_part 45 = .ok (.aload_n 3, 1) := by decide +kernel
theorem dX8_part_46 : decode cX8_part 46 = .ok (.invokevirtual 228, 3) := by decide +kernel
theorem dX8_part_49 : decode cX8_part 49 = .ok (.aload_n 0, 1) := by decide +kernel
theorem dX8_part_50 : decode cX8_part 50 = .ok (.getfield 33, 3) := by decide +kernel
theorem dX8_part_53 : decode cX8_part 53 = .ok (.iload_n 2, 1) := by decide +kernel
theorem dX8_part_54 : decode cX8_part 54 = .ok (.invokevirtual 250, 3) := by decide +kernel
theorem dX8_part_57 : decode cX8_part 57 = .ok (.lreturn, 1) := by decide +kernel
theorem dX8_parts_0 : decode cX8_parts 0 = .ok (.aload_n 0, 1) := by decide +kernel
theorem dX8_parts_1 : decode cX8_parts 1 = .ok (.getfield 19, 3) := by decide +kernel
theorem dX8_parts_4 : decode cX8_parts 4 = .ok (.iload_n 1, 1) := by decide +kernel
theorem dX8_parts_5 : decode cX8_parts 5 = .ok (.invokevirtual 178, 3) := by decide +kernel
theorem dX8_parts_8 : decode cX8_parts 8 = .ok (.astore_n 3, 1) := by decide +kernel
theorem dX8_parts_9 : decode cX8_parts 9 = .ok (.aload_n 3, 1) := by decide +kernel
theorem dX8_parts_10 : decode cX8_parts 10 = .ok (.ifnonnull 13, 3) := by decide +kernel
theorem dX8_parts_13 : decode cX8_parts 13 = .ok (.new 150, 3) := by decide +kernel
theorem dX8_parts_16 : decode cX8_parts 16 = .ok (.dup, 1) := by decide +kernel
theorem dX8_parts_17 : decode cX8_parts 17 = .ok (.ldc 254, 2) := by decide +kernel
theorem dX8_parts_19 : decode cX8_parts 19 = .ok (.invokespecial 154, 3) := by decide +kernel
theorem dX8_parts_22 : decode cX8_parts 22 = .ok (.athrow, 1) := by decide +kernel
theorem dX8_parts_23 : decode cX8_parts 23 = .ok (.aload_n 0, 1) := by decide +kernel
theorem dX8_parts_24 : decode cX8_parts 24 = .ok (.aload_n 3, 1) := by decide +kernel
theorem dX8_parts_25 : decode cX8_parts 25 = .ok (.invokevirtual 228, 3) := by decide +kernel
theorem dX8_parts_28 : decode cX8_parts 28 = .ok (.iconst 0, 1) := by decide +kernel
theorem dX8_parts_29 : decode cX8_parts 29 = .ok (.istore 4, 2) := by decide +kernel
theorem dX8_parts_31 : decode cX8_parts 31 = .ok (.iload 4, 2) := by decide +kernel
theorem dX8_parts_33 : decode cX8_parts 33 = .ok (.bipush 6, 2) := by decide +kernel
theorem dX8_parts_35 : decode cX8_parts 35 = .ok (.if_icmp .gt 39, 3) := by decide +kernel
theorem dX8_parts_38 : decode cX8_parts 38 = .ok (.aload_n 0, 1) := by decide +kernel
theorem dX8_parts_39 : decode cX8_parts 39 = .ok (.getfield 33, 3) := by decide +kernel
theorem dX8_parts_42 : decode cX8_parts 42 = .ok (.iload 4, 2) := by decide +kernel
theorem dX8_parts_44 : decode cX8_parts 44 = .ok (.invokevirtual 250, 3) := by decide +kernel
theorem dX8_parts_47 : decode cX8_parts 47 = .ok (.lconst 0, 1) := by decide +kernel
theorem dX8_parts_48 : decode cX8_parts 48 = .ok (.lcmp, 1) := by decide +kernel
theorem dX8_parts_49 : decode cX8_parts 49 = .ok (.ifCond .le 19, 3) := by decide +kernel
theorem dX8_parts_52 : decode cX8_parts 52 = .ok (.aload_n 0, 1) := by decide +kernel
theorem dX8_parts_53 : decode cX8_parts 53 = .ok (.getfield 33, 3) := by decide +kernel
theorem dX8_parts_56 : decode cX8_parts 56 = .ok (.iload 4, 2) := by decide +kernel
theorem dX8_parts_58 : decode cX8_parts 58 = .ok (.invokevirtual 256, 3) := by decide +kernel
theorem dX8_parts_61 : decode cX8_parts 61 = .ok (.iload_n 2, 1) := by decide +kernel
theorem dX8_parts_62 : decode cX8_parts 62 = .ok (.if_icmp .ne 6, 3) := by decide +kernel
theorem dX8_parts_65 : decode cX8_parts 65 = .ok (.iload 4, 2) := by decide +kernel
theorem dX8_parts_67 : decode cX8_parts 67 = .ok (.ireturn, 1) := by decide +kernel
theorem dX8_parts_68 : decode cX8_parts 68 = .ok (.iinc 4 1, 3) := by decide +kernel
theorem dX8_parts_71 : decode cX8_parts 71 = .ok (.goto (-40), 3) := by decide +kernel
theorem dX8_parts_74 : decode cX8_parts 74 = .ok (.iconst (-1), 1) := by decide +kernel
theorem dX8_parts_75 : decode cX8_parts 75 = .ok (.ireturn, 1) := by decide +kernel
theorem dX8_left_0 : decode cX8_left 0 = .ok (.aload_n 0, 1) := by decide +kernel
theorem dX8_left_1 : decode cX8_left 1 = .ok (.getfield 19, 3) := by decide +kernel
theorem dX8_left_4 : decode cX8_left 4 = .ok (.iload_n 1, 1) := by decide +kernel
theorem dX8_left_5 : decode cX8_left 5 = .ok (.invokevirtual 178, 3) := by decide +kernel
theorem dX8_left_8 : decode cX8_left 8 = .ok (.astore_n 3, 1) := by decide +kernel
theorem dX8_left_9 : decode cX8_left 9 = .ok (.aload_n 3, 1) := by decide +kernel
theorem dX8_left_10 : decode cX8_left 10 = .ok (.ifnull 15, 3) := by decide +kernel
theorem dX8_left_13 : decode cX8_left 13 = .ok (.iload_n 2, 1) := by decide +kernel
theorem dX8_left_14 : decode cX8_left 14 = .ok (.i2l, 1) := by decide +kernel
theorem dX8_left_15 : decode cX8_left 15 = .ok (.iconst 1, 1) := by decide +kernel
theorem dX8_left_16 : decode cX8_left 16 = .ok (.ldc_w 259, 3) := by decide +kernel
theorem dX8_left_19 : decode cX8_left 19 = .ok (.invokestatic 110, 3) := by decide +kernel
theorem dX8_left_22 : decode cX8_left 22 = .ok (.ifCond .ne 5, 3) := by decide +kernel
theorem dX8_left_25 : decode cX8_left 25 = .ok (.iconst (-1), 1) := by decide +kernel
theorem dX8_left_26 : decode cX8_left 26 = .ok (.ireturn, 1) := by decide +kernel
theorem dX8_left_27 : decode cX8_left 27 = .ok (.aload_n 0, 1) := by decide +kernel
theorem dX8_left_28 : decode cX8_left 28 = .ok (.aload_n 3, 1) := by decide +kernel
theorem dX8_left_29 : decode cX8_left 29 = .ok (.invokevirtual 228, 3) := by decide +kernel
theorem dX8_left_32 : decode cX8_left 32 = .ok (.aload_n 0, 1) := by decide +kernel
theorem dX8_left_33 : decode cX8_left 33 = .ok (.getfield 33, 3) := by decide +kernel
theorem dX8_left_36 : decode cX8_left 36 = .ok (.getfield 232, 3) := by decide +kernel
theorem dX8_left_39 : decode cX8_left 39 = .ok (.lstore 4, 2) := by decide +kernel
theorem dX8_left_41 : decode cX8_left 41 = .ok (.lload 4, 2) := by decide +kernel
theorem dX8_left_43 : decode cX8_left 43 = .ok (.lconst 1, 1) := by decide +kernel
theorem dX8_left_44 : decode cX8_left 44 = .ok (.lcmp, 1) := by decide +kernel
theorem dX8_left_45 : decode cX8_left 45 = .ok (.ifCond .ge 5, 3) := by decide +kernel
theorem dX8_left_48 : decode cX8_left 48 = .ok (.iconst (-1), 1) := by decide +kernel
theorem dX8_left_49 : decode cX8_left 49 = .ok (.ireturn, 1) := by decide +kernel
theorem dX8_left_50 : decode cX8_left 50 = .ok (.lload 4, 2) := by decide +kernel
theorem dX8_left_52 : decode cX8_left 52 = .ok (.ldc2_w 239, 3) := by decide +kernel
theorem dX8_left_55 : decode cX8_left 55 = .ok (.lcmp, 1) := by decide +kernel
theorem dX8_left_56 : decode cX8_left 56 = .ok (.ifCond .lt 5, 3) := by decide +kernel
theorem dX8_left_59 : decode cX8_left 59 = .ok (.iconst 0, 1) := by decide +kernel
theorem dX8_left_60 : decode cX8_left 60 = .ok (.ireturn, 1) := by decide +kernel
theorem dX8_left_61 : decode cX8_left 61 = .ok (.ldc2_w 239, 3) := by decide +kernel
theorem dX8_left_64 : decode cX8_left 64 = .ok (.lload 4, 2) := by decide +kernel
theorem dX8_left_66 : decode cX8_left 66 = .ok (.lsub, 1) := by decide +kernel
theorem dX8_left_67 : decode cX8_left 67 = .ok (.iload_n 2, 1) := by decide +kernel
theorem dX8_left_68 : decode cX8_left 68 = .ok (.i2l, 1) := by decide +kernel
theorem dX8_left_69 : decode cX8_left 69 = .ok (.lmul, 1) := by decide +kernel
theorem dX8_left_70 : decode cX8_left 70 = .ok (.lload 4, 2) := by decide +kernel
theorem dX8_left_72 : decode cX8_left 72 = .ok (.ladd, 1) := by decide +kernel
theorem dX8_left_73 : decode cX8_left 73 = .ok (.lconst 1, 1) := by decide +kernel
theorem dX8_left_74 : decode cX8_left 74 = .ok (.lsub, 1) := by decide +kernel
theorem dX8_left_75 : decode cX8_left 75 = .ok (.lload 4, 2) := by decide +kernel
theorem dX8_left_77 : decode cX8_left 77 = .ok (.ldiv, 1) := by decide +kernel
theorem dX8_left_78 : decode cX8_left 78 = .ok (.lstore 6, 2) := by decide +kernel
theorem dX8_left_80 : decode cX8_left 80 = .ok (.lload 6, 2) := by decide +kernel
theorem dX8_left_82 : decode cX8_left 82 = .ok (.ldc2_w 260, 3) := by decide +kernel
theorem dX8_left_85 : decode cX8_left 85 = .ok (.invokestatic 262, 3) := by decide +kernel
theorem dX8_left_88 : decode cX8_left 88 = .ok (.l2i, 1) := by decide +kernel
theorem dX8_left_89 : decode cX8_left 89 = .ok (.ireturn, 1) := by decide +kernel
theorem dX8_length_0 : decode cX8_length 0 = .ok (.aload_n 0, 1) := by decide +kernel
theorem dX8_length_1 : decode cX8_length 1 = .ok (.getfield 19, 3) := by decide +kernel
theorem dX8_length_4 : decode cX8_length 4 = .ok (.iload_n 1, 1) := by decide +kernel
theorem dX8_length_5 : decode cX8_length 5 = .ok (.invokevirtual 178, 3) := by decide +kernel
theorem dX8_length_8 : decode cX8_length 8 = .ok (.astore_n 2, 1) := by decide +kernel
theorem dX8_length_9 : decode cX8_length 9 = .ok (.aload_n 2, 1) := by decide +kernel
theorem dX8_length_10 : decode cX8_length 10 = .ok (.ifnull 11, 3) := by decide +kernel
theorem dX8_length_13 : decode cX8_length 13 = .ok (.aload_n 2, 1) := by decide +kernel
theorem dX8_length_14 : decode cX8_length 14 = .ok (.getfield 214, 3) := by decide +kernel
theorem dX8_length_17 : decode cX8_length 17 = .ok (.iconst (-1), 1) := by decide +kernel
theorem dX8_length_18 : decode cX8_length 18 = .ok (.if_icmp .ne 7, 3) := by decide +kernel
theorem dX8_length_21 : decode cX8_length 21 = .ok (.iconst (-1), 1) := by decide +kernel
theorem dX8_length_22 : decode cX8_length 22 = .ok (.goto 8, 3) := by decide +kernel
theorem dX8_length_25 : decode cX8_length 25 = .ok (.aload_n 0, 1) := by decide +kernel
theorem dX8_length_26 : decode cX8_length 26 = .ok (.aload_n 2, 1) := by decide +kernel
theorem dX8_length_27 : decode cX8_length 27 = .ok (.invokevirtual 267, 3) := by decide +kernel
theorem dX8_length_30 : decode cX8_length 30 = .ok (.ireturn, 1) := by decide +kernel
theorem dX8_due_0 : decode cX8_due 0 = .ok (.aload_n 0, 1) := by decide +kernel
theorem dX8_due_1 : decode cX8_due 1 = .ok (.getfield 19, 3) := by decide +kernel
theorem dX8_due_4 : decode cX8_due 4 = .ok (.iload_n 1, 1) := by decide +kernel
theorem dX8_due_5 : decode cX8_due 5 = .ok (.invokevirtual 178, 3) := by decide +kernel
theorem dX8_due_8 : decode cX8_due 8 = .ok (.astore 6, 2) := by decide +kernel
theorem dX8_due_10 : decode cX8_due 10 = .ok (.aload 6, 2) := by decide +kernel
theorem dX8_due_12 : decode cX8_due 12 = .ok (.ifnull 47, 3) := by decide +kernel
theorem dX8_due_15 : decode cX8_due 15 = .ok (.aload 6, 2) := by decide +kernel
theorem dX8_due_17 : decode cX8_due 17 = .ok (.getfield 214, 3) := by decide +kernel
theorem dX8_due_20 : decode cX8_due 20 = .ok (.iconst (-1), 1) := by decide +kernel
theorem dX8_due_21 : decode cX8_due 21 = .ok (.if_icmp .eq 38, 3) := by decide +kernel
theorem dX8_due_24 : decode cX8_due 24 = .ok (.iload_n 3, 1) := by decide +kernel
theorem dX8_due_25 : decode cX8_due 25 = .ok (.ifCond .lt 34, 3) := by decide +kernel
theorem dX8_due_28 : decode cX8_due 28 = .ok (.iload_n 3, 1) := by decide +kernel
theorem dX8_due_29 : decode cX8_due 29 = .ok (.iload 4, 2) := by decide +kernel
theorem dX8_due_31 : decode cX8_due 31 = .ok (.if_icmp .gt 28, 3) := by decide +kernel
theorem dX8_due_34 : decode cX8_due 34 = .ok (.iload_n 2, 1) := by decide +kernel
theorem dX8_due_35 : decode cX8_due 35 = .ok (.i2l, 1) := by decide +kernel
theorem dX8_due_36 : decode cX8_due 36 = .ok (.iconst 1, 1) := by decide +kernel
theorem dX8_due_37 : decode cX8_due 37 = .ok (.sipush 1000, 3) := by decide +kernel
theorem dX8_due_40 : decode cX8_due 40 = .ok (.invokestatic 110, 3) := by decide +kernel
theorem dX8_due_43 : decode cX8_due 43 = .ok (.ifCond .eq 16, 3) := by decide +kernel
theorem dX8_due_46 : decode cX8_due 46 = .ok (.iload 5, 2) := by decide +kernel
theorem dX8_due_48 : decode cX8_due 48 = .ok (.i2l, 1) := by decide +kernel
theorem dX8_due_49 : decode cX8_due 49 = .ok (.iconst 1, 1) := by decide +kernel
theorem dX8_due_50 : decode cX8_due 50 = .ok (.sipush 10000, 3) := by decide +kernel
theorem dX8_due_53 : decode cX8_due 53 = .ok (.invokestatic 110, 3) := by decide +kernel
theorem dX8_due_56 : decode cX8_due 56 = .ok (.ifCond .ne 5, 3) := by decide +kernel
theorem dX8_due_59 : decode cX8_due 59 = .ok (.iconst (-1), 1) := by decide +kernel
theorem dX8_due_60 : decode cX8_due 60 = .ok (.ireturn, 1) := by decide +kernel
theorem dX8_due_61 : decode cX8_due 61 = .ok (.aload_n 0, 1) := by decide +kernel
theorem dX8_due_62 : decode cX8_due 62 = .ok (.aload 6, 2) := by decide +kernel
theorem dX8_due_64 : decode cX8_due 64 = .ok (.invokevirtual 267, 3) := by decide +kernel
theorem dX8_due_67 : decode cX8_due 67 = .ok (.istore 7, 2) := by decide +kernel
theorem dX8_due_69 : decode cX8_due 69 = .ok (.aload 6, 2) := by decide +kernel
theorem dX8_due_71 : decode cX8_due 71 = .ok (.iload 7, 2) := by decide +kernel
theorem dX8_due_73 : decode cX8_due 73 = .ok (.iload_n 3, 1) := by decide +kernel
theorem dX8_due_74 : decode cX8_due 74 = .ok (.invokevirtual 271, 3) := by decide +kernel
theorem dX8_due_77 : decode cX8_due 77 = .ok (.lstore 8, 2) := by decide +kernel
theorem dX8_due_79 : decode cX8_due 79 = .ok (.aload 6, 2) := by decide +kernel
theorem dX8_due_81 : decode cX8_due 81 = .ok (.iload 7, 2) := by decide +kernel
theorem dX8_due_83 : decode cX8_due 83 = .ok (.iload 4, 2) := by decide +kernel
theorem dX8_due_85 : decode cX8_due 85 = .ok (.invokevirtual 271, 3) := by decide +kernel
theorem dX8_due_88 : decode cX8_due 88 = .ok (.lstore 10, 2) := by decide +kernel
theorem dX8_due_90 : decode cX8_due 90 = .ok (.lload 8, 2) := by decide +kernel
theorem dX8_due_92 : decode cX8_due 92 = .ok (.lconst 0, 1) := by decide +kernel
theorem dX8_due_93 : decode cX8_due 93 = .ok (.lcmp, 1) := by decide +kernel
theorem dX8_due_94 : decode cX8_due 94 = .ok (.ifCond .lt 19, 3) := by decide +kernel
theorem dX8_due_97 : decode cX8_due 97 = .ok (.lload 10, 2) := by decide +kernel
theorem dX8_due_99 : decode cX8_due 99 = .ok (.lconst 0, 1) := by decide +kernel
theorem dX8_due_100 : decode cX8_due 100 = .ok (.lcmp, 1) := by decide +kernel
theorem dX8_due_101 : decode cX8_due 101 = .ok (.ifCond .lt 12, 3) := by decide +kernel
theorem dX8_due_104 : decode cX8_due 104 = .ok (.lload 10, 2) := by decide +kernel
theorem dX8_due_106 : decode cX8_due 106 = .ok (.ldc2_w 275, 3) := by decide +kernel
theorem dX8_due_109 : decode cX8_due 109 = .ok (.lcmp, 1) := by decide +kernel
theorem dX8_due_110 : decode cX8_due 110 = .ok (.ifCond .le 5, 3) := by decide +kernel
theorem dX8_due_113 : decode cX8_due 113 = .ok (.iconst (-1), 1) := by decide +kernel
theorem dX8_due_114 : decode cX8_due 114 = .ok (.ireturn, 1) := by decide +kernel
theorem dX8_due_115 : decode cX8_due 115 = .ok (.lload 10, 2) := by decide +kernel
theorem dX8_due_117 : decode cX8_due 117 = .ok (.iload_n 2, 1) := by decide +kernel
theorem dX8_due_118 : decode cX8_due 118 = .ok (.invokestatic 277, 3) := by decide +kernel
theorem dX8_due_121 : decode cX8_due 121 = .ok (.iload 5, 2) := by decide +kernel
theorem dX8_due_123 : decode cX8_due 123 = .ok (.i2l, 1) := by decide +kernel
theorem dX8_due_124 : decode cX8_due 124 = .ok (.lsub, 1) := by decide +kernel
theorem dX8_due_125 : decode cX8_due 125 = .ok (.lconst 1, 1) := by decide +kernel
theorem dX8_due_126 : decode cX8_due 126 = .ok (.lsub, 1) := by decide +kernel
theorem dX8_due_127 : decode cX8_due 127 = .ok (.lstore 12, 2) := by decide +kernel
theorem dX8_due_129 : decode cX8_due 129 = .ok (.lload 12, 2) := by decide +kernel
theorem dX8_due_131 : decode cX8_due 131 = .ok (.lload 8, 2) := by decide +kernel
theorem dX8_due_133 : decode cX8_due 133 = .ok (.iload_n 2, 1) := by decide +kernel
theorem dX8_due_134 : decode cX8_due 134 = .ok (.invokestatic 277, 3) := by decide +kernel
theorem dX8_due_137 : decode cX8_due 137 = .ok (.lcmp, 1) := by decide +kernel
theorem dX8_due_138 : decode cX8_due 138 = .ok (.ifCond .lt 9, 3) := by decide +kernel
theorem dX8_due_141 : decode cX8_due 141 = .ok (.lload 12, 2) := by decide +kernel
theorem dX8_due_143 : decode cX8_due 143 = .ok (.l2i, 1) := by decide +kernel
theorem dX8_due_144 : decode cX8_due 144 = .ok (.goto 4, 3) := by decide +kernel
theorem dX8_due_147 : decode cX8_due 147 = .ok (.iconst (-1), 1) := by decide +kernel
theorem dX8_due_148 : decode cX8_due 148 = .ok (.ireturn, 1) := by decide +kernel
theorem dX8_undo_0 : decode cX8_undo 0 = .ok (.aload_n 0, 1) := by decide +kernel
theorem dX8_undo_1 : decode cX8_undo 1 = .ok (.getfield 19, 3) := by decide +kernel
theorem dX8_undo_4 : decode cX8_undo 4 = .ok (.aload_n 0, 1) := by decide +kernel
theorem dX8_undo_5 : decode cX8_undo 5 = .ok (.getfield 58, 3) := by decide +kernel
theorem dX8_undo_8 : decode cX8_undo 8 = .ok (.invokevirtual 76, 3) := by decide +kernel
theorem dX8_undo_11 : decode cX8_undo 11 = .ok (.astore_n 1, 1) := by decide +kernel
theorem dX8_undo_12 : decode cX8_undo 12 = .ok (.aload_n 0, 1) := by decide +kernel
theorem dX8_undo_13 : decode cX8_undo 13 = .ok (.getfield 19, 3) := by decide +kernel
theorem dX8_undo_16 : decode cX8_undo 16 = .ok (.aload_n 0, 1) := by decide +kernel
theorem dX8_undo_17 : decode cX8_undo 17 = .ok (.getfield 62, 3) := by decide +kernel
theorem dX8_undo_20 : decode cX8_undo 20 = .ok (.invokevirtual 178, 3) := by decide +kernel
theorem dX8_undo_23 : decode cX8_undo 23 = .ok (.astore_n 2, 1) := by decide +kernel
theorem dX8_undo_24 : decode cX8_undo 24 = .ok (.aload_n 1, 1) := by decide +kernel
theorem dX8_undo_25 : decode cX8_undo 25 = .ok (.ifnonnull 7, 3) := by decide +kernel
theorem dX8_undo_28 : decode cX8_undo 28 = .ok (.aload_n 2, 1) := by decide +kernel
theorem dX8_undo_29 : decode cX8_undo 29 = .ok (.ifnull 7, 3) := by decide +kernel
theorem dX8_undo_32 : decode cX8_undo 32 = .ok (.iconst 1, 1) := by decide +kernel
theorem dX8_undo_33 : decode cX8_undo 33 = .ok (.goto 4, 3) := by decide +kernel
theorem dX8_undo_36 : decode cX8_undo 36 = .ok (.iconst 0, 1) := by decide +kernel
theorem dX8_undo_37 : decode cX8_undo 37 = .ok (.istore_n 3, 1) := by decide +kernel
theorem dX8_undo_38 : decode cX8_undo 38 = .ok (.aload_n 1, 1) := by decide +kernel
theorem dX8_undo_39 : decode cX8_undo 39 = .ok (.ifnull 11, 3) := by decide +kernel
theorem dX8_undo_42 : decode cX8_undo 42 = .ok (.aload_n 1, 1) := by decide +kernel
theorem dX8_undo_43 : decode cX8_undo 43 = .ok (.aload_n 0, 1) := by decide +kernel
theorem dX8_undo_44 : decode cX8_undo 44 = .ok (.getfield 47, 3) := by decide +kernel
theorem dX8_undo_47 : decode cX8_undo 47 = .ok (.invokevirtual 281, 3) := by decide +kernel
theorem dX8_undo_50 : decode cX8_undo 50 = .ok (.aload_n 2, 1) := by decide +kernel
theorem dX8_undo_51 : decode cX8_undo 51 = .ok (.ifnull 11, 3) := by decide +kernel
theorem dX8_undo_54 : decode cX8_undo 54 = .ok (.aload_n 2, 1) := by decide +kernel
theorem dX8_undo_55 : decode cX8_undo 55 = .ok (.aload_n 0, 1) := by decide +kernel
theorem dX8_undo_56 : decode cX8_undo 56 = .ok (.getfield 54, 3) := by decide +kernel
theorem dX8_undo_59 : decode cX8_undo 59 = .ok (.invokevirtual 285, 3) := by decide +kernel
theorem dX8_undo_62 : decode cX8_undo 62 = .ok (.aload_n 0, 1) := by decide +kernel
theorem dX8_undo_63 : decode cX8_undo 63 = .ok (.invokevirtual 287, 3) := by decide +kernel
theorem dX8_undo_66 : decode cX8_undo 66 = .ok (.iload_n 3, 1) := by decide +kernel
theorem dX8_undo_67 : decode cX8_undo 67 = .ok (.ireturn, 1) := by decide +kernel
theorem dX8_image_0 : decode cX8_image 0 = .ok (.aload_n 0, 1) := by decide +kernel
theorem dX8_image_1 : decode cX8_image 1 = .ok (.getfield 290, 3) := by decide +kernel
theorem dX8_image_4 : decode cX8_image 4 = .ok (.ifnull 7, 3) := by decide +kernel
theorem dX8_image_7 : decode cX8_image 7 = .ok (.iconst 1, 1) := by decide +kernel
theorem dX8_image_8 : decode cX8_image 8 = .ok (.goto 4, 3) := by decide +kernel
theorem dX8_image_11 : decode cX8_image 11 = .ok (.iconst 0, 1) := by decide +kernel
theorem dX8_image_12 : decode cX8_image 12 = .ok (.istore_n 1, 1) := by decide +kernel
theorem dX8_image_13 : decode cX8_image 13 = .ok (.aload_n 0, 1) := by decide +kernel
theorem dX8_image_14 : decode cX8_image 14 = .ok (.getfield 290, 3) := by decide +kernel
theorem dX8_image_17 : decode cX8_image 17 = .ok (.ifnonnull 14, 3) := by decide +kernel
theorem dX8_image_20 : decode cX8_image 20 = .ok (.aload_n 0, 1) := by decide +kernel
theorem dX8_image_21 : decode cX8_image 21 = .ok (.new 16, 3) := by decide +kernel
theorem dX8_image_24 : decode cX8_image 24 = .ok (.dup, 1) := by decide +kernel
theorem dX8_image_25 : decode cX8_image 25 = .ok (.invokespecial 18, 3) := by decide +kernel
theorem dX8_image_28 : decode cX8_image 28 = .ok (.putfield 290, 3) := by decide +kernel
theorem dX8_image_31 : decode cX8_image 31 = .ok (.aload_n 0, 1) := by decide +kernel
theorem dX8_image_32 : decode cX8_image 32 = .ok (.getfield 290, 3) := by decide +kernel
theorem dX8_image_35 : decode cX8_image 35 = .ok (.aload_n 0, 1) := by decide +kernel
theorem dX8_image_36 : decode cX8_image 36 = .ok (.getfield 19, 3) := by decide +kernel
theorem dX8_image_39 : decode cX8_image 39 = .ok (.invokevirtual 293, 3) := by decide +kernel
theorem dX8_image_42 : decode cX8_image 42 = .ok (.iload_n 1, 1) := by decide +kernel
theorem dX8_image_43 : decode cX8_image 43 = .ok (.ireturn, 1) := by decide +kernel
theorem dX8_again_0 : decode cX8_again 0 = .ok (.aload_n 0, 1) := by decide +kernel
theorem dX8_again_1 : decode cX8_again 1 = .ok (.getfield 290, 3) := by decide +kernel
theorem dX8_again_4 : decode cX8_again 4 = .ok (.ifnonnull 5, 3) := by decide +kernel
theorem dX8_again_7 : decode cX8_again 7 = .ok (.iconst 0, 1) := by decide +kernel
theorem dX8_again_8 : decode cX8_again 8 = .ok (.ireturn, 1) := by decide +kernel
theorem dX8_again_9 : decode cX8_again 9 = .ok (.aload_n 0, 1) := by decide +kernel
theorem dX8_again_10 : decode cX8_again 10 = .ok (.getfield 19, 3) := by decide +kernel
theorem dX8_again_13 : decode cX8_again 13 = .ok (.aload_n 0, 1) := by decide +kernel
theorem dX8_again_14 : decode cX8_again 14 = .ok (.getfield 290, 3) := by decide +kernel
theorem dX8_again_17 : decode cX8_again 17 = .ok (.invokevirtual 293, 3) := by decide +kernel
theorem dX8_again_20 : decode cX8_again 20 = .ok (.aload_n 0, 1) := by decide +kernel
theorem dX8_again_21 : decode cX8_again 21 = .ok (.invokevirtual 287, 3) := by decide +kernel
theorem dX8_again_24 : decode cX8_again 24 = .ok (.iconst 1, 1) := by decide +kernel
theorem dX8_again_25 : decode cX8_again 25 = .ok (.ireturn, 1) := by decide +kernel
theorem dX8_count_0 : decode cX8_count 0 = .ok (.iload_n 1, 1) := by decide +kernel
theorem dX8_count_1 : decode cX8_count 1 = .ok (.tableswitch 94 0 4 #[35, 43, 51, 59, 81], 35) := by decide +kernel
theorem dX8_count_36 : decode cX8_count 36 = .ok (.aload_n 0, 1) := by decide +kernel
theorem dX8_count_37 : decode cX8_count 37 = .ok (.getfield 12, 3) := by decide +kernel
theorem dX8_count_40 : decode cX8_count 40 = .ok (.getfield 73, 3) := by decide +kernel
theorem dX8_count_43 : decode cX8_count 43 = .ok (.ireturn, 1) := by decide +kernel
theorem dX8_count_44 : decode cX8_count 44 = .ok (.aload_n 0, 1) := by decide +kernel
theorem dX8_count_45 : decode cX8_count 45 = .ok (.getfield 19, 3) := by decide +kernel
theorem dX8_count_48 : decode cX8_count 48 = .ok (.invokevirtual 296, 3) := by decide +kernel
theorem dX8_count_51 : decode cX8_count 51 = .ok (.ireturn, 1) := by decide +kernel
theorem dX8_count_52 : decode cX8_count 52 = .ok (.aload_n 0, 1) := by decide +kernel
theorem dX8_count_53 : decode cX8_count 53 = .ok (.getfield 19, 3) := by decide +kernel
theorem dX8_count_56 : decode cX8_count 56 = .ok (.invokevirtual 300, 3) := by decide +kernel
theorem dX8_count_59 : decode cX8_count 59 = .ok (.ireturn, 1) := by decide +kernel
theorem dX8_count_60 : decode cX8_count 60 = .ok (.aload_n 0, 1) := by decide +kernel
theorem dX8_count_61 : decode cX8_count 61 = .ok (.getfield 58, 3) := by decide +kernel
theorem dX8_count_64 : decode cX8_count 64 = .ok (.iconst (-1), 1) := by decide +kernel
theorem dX8_count_65 : decode cX8_count 65 = .ok (.if_icmp .ne 11, 3) := by decide +kernel
theorem dX8_count_68 : decode cX8_count 68 = .ok (.aload_n 0, 1) := by decide +kernel
theorem dX8_count_69 : decode cX8_count 69 = .ok (.getfield 62, 3) := by decide +kernel
theorem dX8_count_72 : decode cX8_count 72 = .ok (.iconst (-1), 1) := by decide +kernel
theorem dX8_count_73 : decode cX8_count 73 = .ok (.if_icmp .eq 7, 3) := by decide +kernel
theorem dX8_count_76 : decode cX8_count 76 = .ok (.iconst 1, 1) := by decide +kernel
theorem dX8_count_77 : decode cX8_count 77 = .ok (.goto 4, 3) := by decide +kernel
theorem dX8_count_80 : decode cX8_count 80 = .ok (.iconst 0, 1) := by decide +kernel
theorem dX8_count_81 : decode cX8_count 81 = .ok (.ireturn, 1) := by decide +kernel
theorem dX8_count_82 : decode cX8_count 82 = .ok (.aload_n 0, 1) := by decide +kernel
theorem dX8_count_83 : decode cX8_count 83 = .ok (.getfield 290, 3) := by decide +kernel
theorem dX8_count_86 : decode cX8_count 86 = .ok (.ifnull 7, 3) := by decide +kernel
theorem dX8_count_89 : decode cX8_count 89 = .ok (.iconst 1, 1) := by decide +kernel
theorem dX8_count_90 : decode cX8_count 90 = .ok (.goto 4, 3) := by decide +kernel
theorem dX8_count_93 : decode cX8_count 93 = .ok (.iconst 0, 1) := by decide +kernel
theorem dX8_count_94 : decode cX8_count 94 = .ok (.ireturn, 1) := by decide +kernel
theorem dX8_count_95 : decode cX8_count 95 = .ok (.iconst (-1), 1) := by decide +kernel
theorem dX8_count_96 : decode cX8_count 96 = .ok (.ireturn, 1) := by decide +kernel
theorem dX8_isWithin_0 : decode cX8_isWithin 0 = .ok (.lload_n 0, 1) := by decide +kernel
theorem dX8_isWithin_1 : decode cX8_isWithin 1 = .ok (.iload_n 2, 1) := by decide +kernel
theorem dX8_isWithin_2 : decode cX8_isWithin 2 = .ok (.i2l, 1) := by decide +kernel
theorem dX8_isWithin_3 : decode cX8_isWithin 3 = .ok (.lcmp, 1) := by decide +kernel
theorem dX8_isWithin_4 : decode cX8_isWithin 4 = .ok (.ifCond .lt 14, 3) := by decide +kernel
theorem dX8_isWithin_7 : decode cX8_isWithin 7 = .ok (.lload_n 0, 1) := by decide +kernel
theorem dX8_isWithin_8 : decode cX8_isWithin 8 = .ok (.iload_n 3, 1) := by decide +kernel
theorem dX8_isWithin_9 : decode cX8_isWithin 9 = .ok (.i2l, 1) := by decide +kernel
theorem dX8_isWithin_10 : decode cX8_isWithin 10 = .ok (.lcmp, 1) := by decide +kernel
theorem dX8_isWithin_11 : decode cX8_isWithin 11 = .ok (.ifCond .gt 7, 3) := by decide +kernel
theorem dX8_isWithin_14 : decode cX8_isWithin 14 = .ok (.iconst 1, 1) := by decide +kernel
theorem dX8_isWithin_15 : decode cX8_isWithin 15 = .ok (.goto 4, 3) := by decide +kernel
theorem dX8_isWithin_18 : decode cX8_isWithin 18 = .ok (.iconst 0, 1) := by decide +kernel
theorem dX8_isWithin_19 : decode cX8_isWithin 19 = .ok (.ireturn, 1) := by decide +kernel
theorem dX8_isGaugeAsTold_0 : decode cX8_isGaugeAsTold 0 = .ok (.iload_n 0, 1) := by decide +kernel
theorem dX8_isGaugeAsTold_1 : decode cX8_isGaugeAsTold 1 = .ok (.tableswitch 91 1 4 #[31, 91, 41, 63], 31) := by decide +kernel
theorem dX8_isGaugeAsTold_32 : decode cX8_isGaugeAsTold 32 = .ok (.iload_n 1, 1) := by decide +kernel
theorem dX8_isGaugeAsTold_33 : decode cX8_isGaugeAsTold 33 = .ok (.i2l, 1) := by decide +kernel
theorem dX8_isGaugeAsTold_34 : decode cX8_isGaugeAsTold 34 = .ok (.iconst 1, 1) := by decide +kernel
theorem dX8_isGaugeAsTold_35 : decode cX8_isGaugeAsTold 35 = .ok (.ldc_w 259, 3) := by decide +kernel
theorem dX8_isGaugeAsTold_38 : decode cX8_isGaugeAsTold 38 = .ok (.invokestatic 110, 3) := by decide +kernel
theorem dX8_isGaugeAsTold_41 : decode cX8_isGaugeAsTold 41 = .ok (.ireturn, 1) := by decide +kernel
theorem dX8_isGaugeAsTold_42 : decode cX8_isGaugeAsTold 42 = .ok (.iload_n 1, 1) := by decide +kernel
theorem dX8_isGaugeAsTold_43 : decode cX8_isGaugeAsTold 43 = .ok (.ifCond .lt 19, 3) := by decide +kernel
theorem dX8_isGaugeAsTold_46 : decode cX8_isGaugeAsTold 46 = .ok (.iload_n 1, 1) := by decide +kernel
theorem dX8_isGaugeAsTold_47 : decode cX8_isGaugeAsTold 47 = .ok (.iload_n 2, 1) := by decide +kernel
theorem dX8_isGaugeAsTold_48 : decode cX8_isGaugeAsTold 48 = .ok (.if_icmp .gt 14, 3) := by decide +kernel
theorem dX8_isGaugeAsTold_51 : decode cX8_isGaugeAsTold 51 = .ok (.iload_n 2, 1) := by decide +kernel
theorem dX8_isGaugeAsTold_52 : decode cX8_isGaugeAsTold 52 = .ok (.sipush 400, 3) := by decide +kernel
theorem dX8_isGaugeAsTold_55 : decode cX8_isGaugeAsTold 55 = .ok (.if_icmp .ge 7, 3) := by decide +kernel
theorem dX8_isGaugeAsTold_58 : decode cX8_isGaugeAsTold 58 = .ok (.iconst 1, 1) := by decide +kernel
theorem dX8_isGaugeAsTold_59 : decode cX8_isGaugeAsTold 59 = .ok (.goto 4, 3) := by decide +kernel
theorem dX8_isGaugeAsTold_62 : decode cX8_isGaugeAsTold 62 = .ok (.iconst 0, 1) := by decide +kernel
theorem dX8_isGaugeAsTold_63 : decode cX8_isGaugeAsTold 63 = .ok (.ireturn, 1) := by decide +kernel
theorem dX8_isGaugeAsTold_64 : decode cX8_isGaugeAsTold 64 = .ok (.iload_n 1, 1) := by decide +kernel
theorem dX8_isGaugeAsTold_65 : decode cX8_isGaugeAsTold 65 = .ok (.i2l, 1) := by decide +kernel
theorem dX8_isGaugeAsTold_66 : decode cX8_isGaugeAsTold 66 = .ok (.iconst 0, 1) := by decide +kernel
theorem dX8_isGaugeAsTold_67 : decode cX8_isGaugeAsTold 67 = .ok (.bipush 11, 2) := by decide +kernel
theorem dX8_isGaugeAsTold_69 : decode cX8_isGaugeAsTold 69 = .ok (.invokestatic 110, 3) := by decide +kernel
theorem dX8_isGaugeAsTold_72 : decode cX8_isGaugeAsTold 72 = .ok (.ifCond .eq 18, 3) := by decide +kernel
theorem dX8_isGaugeAsTold_75 : decode cX8_isGaugeAsTold 75 = .ok (.iload_n 2, 1) := by decide +kernel
theorem dX8_isGaugeAsTold_76 : decode cX8_isGaugeAsTold 76 = .ok (.i2l, 1) := by decide +kernel
theorem dX8_isGaugeAsTold_77 : decode cX8_isGaugeAsTold 77 = .ok (.iconst 0, 1) := by decide +kernel
theorem dX8_isGaugeAsTold_78 : decode cX8_isGaugeAsTold 78 = .ok (.bipush 11, 2) := by decide +kernel
theorem dX8_isGaugeAsTold_80 : decode cX8_isGaugeAsTold 80 = .ok (.invokestatic 110, 3) := by decide +kernel
theorem dX8_isGaugeAsTold_83 : decode cX8_isGaugeAsTold 83 = .ok (.ifCond .eq 7, 3) := by decide +kernel
theorem dX8_isGaugeAsTold_86 : decode cX8_isGaugeAsTold 86 = .ok (.iconst 1, 1) := by decide +kernel
theorem dX8_isGaugeAsTold_87 : decode cX8_isGaugeAsTold 87 = .ok (.goto 4, 3) := by decide +kernel
theorem dX8_isGaugeAsTold_90 : decode cX8_isGaugeAsTold 90 = .ok (.iconst 0, 1) := by decide +kernel
theorem dX8_isGaugeAsTold_91 : decode cX8_isGaugeAsTold 91 = .ok (.ireturn, 1) := by decide +kernel
theorem dX8_isGaugeAsTold_92 : decode cX8_isGaugeAsTold 92 = .ok (.iload_n 0, 1) := by decide +kernel
theorem dX8_isGaugeAsTold_93 : decode cX8_isGaugeAsTold 93 = .ok (.ifCond .lt 12, 3) := by decide +kernel
theorem dX8_isGaugeAsTold_96 : decode cX8_isGaugeAsTold 96 = .ok (.iload_n 0, 1) := by decide +kernel
theorem dX8_isGaugeAsTold_97 : decode cX8_isGaugeAsTold 97 = .ok (.iconst 4, 1) := by decide +kernel
theorem dX8_isGaugeAsTold_98 : decode cX8_isGaugeAsTold 98 = .ok (.if_icmp .gt 7, 3) := by decide +kernel
theorem dX8_isGaugeAsTold_101 : decode cX8_isGaugeAsTold 101 = .ok (.iconst 1, 1) := by decide +kernel
theorem dX8_isGaugeAsTold_102 : decode cX8_isGaugeAsTold 102 = .ok (.goto 4, 3) := by decide +kernel
theorem dX8_isGaugeAsTold_105 : decode cX8_isGaugeAsTold 105 = .ok (.iconst 0, 1) := by decide +kernel
theorem dX8_isGaugeAsTold_106 : decode cX8_isGaugeAsTold 106 = .ok (.ireturn, 1) := by decide +kernel
theorem dX8_isBearsAsTold_0 : decode cX8_isBearsAsTold 0 = .ok (.iload_n 0, 1) := by decide +kernel
theorem dX8_isBearsAsTold_1 : decode cX8_isBearsAsTold 1 = .ok (.iconst 1, 1) := by decide +kernel
theorem dX8_isBearsAsTold_2 : decode cX8_isBearsAsTold 2 = .ok (.if_icmp .lt 25, 3) := by decide +kernel
theorem dX8_isBearsAsTold_5 : decode cX8_isBearsAsTold 5 = .ok (.iload_n 0, 1) := by decide +kernel
theorem dX8_isBearsAsTold_6 : decode cX8_isBearsAsTold 6 = .ok (.ldc_w 303, 3) := by decide +kernel
theorem dX8_isBearsAsTold_9 : decode cX8_isBearsAsTold 9 = .ok (.if_icmp .gt 18, 3) := by decide +kernel
theorem dX8_isBearsAsTold_12 : decode cX8_isBearsAsTold 12 = .ok (.ldc2_w 304, 3) := by decide +kernel
theorem dX8_isBearsAsTold_15 : decode cX8_isBearsAsTold 15 = .ok (.iload_n 0, 1) := by decide +kernel
theorem dX8_isBearsAsTold_16 : decode cX8_isBearsAsTold 16 = .ok (.i2l, 1) := by decide +kernel
theorem dX8_isBearsAsTold_17 : decode cX8_isBearsAsTold 17 = .ok (.lrem, 1) := by decide +kernel
theorem dX8_isBearsAsTold_18 : decode cX8_isBearsAsTold 18 = .ok (.lconst 0, 1) := by decide +kernel
theorem dX8_isBearsAsTold_19 : decode cX8_isBearsAsTold 19 = .ok (.lcmp, 1) := by decide +kernel
theorem dX8_isBearsAsTold_20 : decode cX8_isBearsAsTold 20 = .ok (.ifCond .ne 7, 3) := by decide +kernel
theorem dX8_isBearsAsTold_23 : decode cX8_isBearsAsTold 23 = .ok (.iconst 1, 1) := by decide +kernel
theorem dX8_isBearsAsTold_24 : decode cX8_isBearsAsTold 24 = .ok (.goto 4, 3) := by decide +kernel
theorem dX8_isBearsAsTold_27 : decode cX8_isBearsAsTold 27 = .ok (.iconst 0, 1) := by decide +kernel
theorem dX8_isBearsAsTold_28 : decode cX8_isBearsAsTold 28 = .ok (.ireturn, 1) := by decide +kernel
theorem dX8_greatestCommonDivisor_0 : decode cX8_greatestCommonDivisor 0 = .ok (.lload_n 0, 1) := by decide +kernel
theorem dX8_greatestCommonDivisor_1 : decode cX8_greatestCommonDivisor 1 = .ok (.lstore 4, 2) := by decide +kernel
theorem dX8_greatestCommonDivisor_3 : decode cX8_greatestCommonDivisor 3 = .ok (.lload_n 2, 1) := by decide +kernel
theorem dX8_greatestCommonDivisor_4 : decode cX8_greatestCommonDivisor 4 = .ok (.lstore 6, 2) := by decide +kernel
theorem dX8_greatestCommonDivisor_6 : decode cX8_greatestCommonDivisor 6 = .ok (.iconst 0, 1) := by decide +kernel
theorem dX8_greatestCommonDivisor_7 : decode cX8_greatestCommonDivisor 7 = .ok (.istore 8, 2) := by decide +kernel
theorem dX8_greatestCommonDivisor_9 : decode cX8_greatestCommonDivisor 9 = .ok (.iload 8, 2) := by decide +kernel
theorem dX8_greatestCommonDivisor_11 : decode cX8_greatestCommonDivisor 11 = .ok (.sipush 200, 3) := by decide +kernel
theorem dX8_greatestCommonDivisor_14 : decode cX8_greatestCommonDivisor 14 = .ok (.if_icmp .ge 31, 3) := by decide +kernel
theorem dX8_greatestCommonDivisor_17 : decode cX8_greatestCommonDivisor 17 = .ok (.lload 6, 2) := by decide +kernel
theorem dX8_greatestCommonDivisor_19 : decode cX8_greatestCommonDivisor 19 = .ok (.lconst 0, 1) := by decide +kernel
theorem dX8_greatestCommonDivisor_20 : decode cX8_greatestCommonDivisor 20 = .ok (.lcmp, 1) := by decide +kernel
theorem dX8_greatestCommonDivisor_21 : decode cX8_greatestCommonDivisor 21 = .ok (.ifCond .eq 24, 3) := by decide +kernel
theorem dX8_greatestCommonDivisor_24 : decode cX8_greatestCommonDivisor 24 = .ok (.lload 4, 2) := by decide +kernel
theorem dX8_greatestCommonDivisor_26 : decode cX8_greatestCommonDivisor 26 = .ok (.lload 6, 2) := by decide +kernel
theorem dX8_greatestCommonDivisor_28 : decode cX8_greatestCommonDivisor 28 = .ok (.lrem, 1) := by decide +kernel
theorem dX8_greatestCommonDivisor_29 : decode cX8_greatestCommonDivisor 29 = .ok (.lstore 9, 2) := by decide +kernel
theorem dX8_greatestCommonDivisor_31 : decode cX8_greatestCommonDivisor 31 = .ok (.lload 6, 2) := by decide +kernel
theorem dX8_greatestCommonDivisor_33 : decode cX8_greatestCommonDivisor 33 = .ok (.lstore 4, 2) := by decide +kernel
theorem dX8_greatestCommonDivisor_35 : decode cX8_greatestCommonDivisor 35 = .ok (.lload 9, 2) := by decide +kernel
theorem dX8_greatestCommonDivisor_37 : decode cX8_greatestCommonDivisor 37 = .ok (.lstore 6, 2) := by decide +kernel
theorem dX8_greatestCommonDivisor_39 : decode cX8_greatestCommonDivisor 39 = .ok (.iinc 8 1, 3) := by decide +kernel
theorem dX8_greatestCommonDivisor_42 : decode cX8_greatestCommonDivisor 42 = .ok (.goto (-33), 3) := by decide +kernel
theorem dX8_greatestCommonDivisor_45 : decode cX8_greatestCommonDivisor 45 = .ok (.lload 4, 2) := by decide +kernel
theorem dX8_greatestCommonDivisor_47 : decode cX8_greatestCommonDivisor 47 = .ok (.lreturn, 1) := by decide +kernel
theorem dX8_firstDayWith_0 : decode cX8_firstDayWith 0 = .ok (.iload_n 2, 1) := by decide +kernel
theorem dX8_firstDayWith_1 : decode cX8_firstDayWith 1 = .ok (.iconst 1, 1) := by decide +kernel
theorem dX8_firstDayWith_2 : decode cX8_firstDayWith 2 = .ok (.if_icmp .ge 7, 3) := by decide +kernel
theorem dX8_firstDayWith_5 : decode cX8_firstDayWith 5 = .ok (.lconst 0, 1) := by decide +kernel
theorem dX8_firstDayWith_6 : decode cX8_firstDayWith 6 = .ok (.goto 12, 3) := by decide +kernel
theorem dX8_firstDayWith_9 : decode cX8_firstDayWith 9 = .ok (.lload_n 0, 1) := by decide +kernel
theorem dX8_firstDayWith_10 : decode cX8_firstDayWith 10 = .ok (.iload_n 2, 1) := by decide +kernel
theorem dX8_firstDayWith_11 : decode cX8_firstDayWith 11 = .ok (.i2l, 1) := by decide +kernel
theorem dX8_firstDayWith_12 : decode cX8_firstDayWith 12 = .ok (.ladd, 1) := by decide +kernel
theorem dX8_firstDayWith_13 : decode cX8_firstDayWith 13 = .ok (.lconst 1, 1) := by decide +kernel
theorem dX8_firstDayWith_14 : decode cX8_firstDayWith 14 = .ok (.lsub, 1) := by decide +kernel
theorem dX8_firstDayWith_15 : decode cX8_firstDayWith 15 = .ok (.iload_n 2, 1) := by decide +kernel
theorem dX8_firstDayWith_16 : decode cX8_firstDayWith 16 = .ok (.i2l, 1) := by decide +kernel
theorem dX8_firstDayWith_17 : decode cX8_firstDayWith 17 = .ok (.ldiv, 1) := by decide +kernel
theorem dX8_firstDayWith_18 : decode cX8_firstDayWith 18 = .ok (.lreturn, 1) := by decide +kernel
theorem dX8_keepPlace_0 : decode cX8_keepPlace 0 = .ok (.aload_n 0, 1) := by decide +kernel
theorem dX8_keepPlace_1 : decode cX8_keepPlace 1 = .ok (.getfield 47, 3) := by decide +kernel
theorem dX8_keepPlace_4 : decode cX8_keepPlace 4 = .ok (.aload_n 2, 1) := by decide +kernel
theorem dX8_keepPlace_5 : decode cX8_keepPlace 5 = .ok (.invokevirtual 281, 3) := by decide +kernel
theorem dX8_keepPlace_8 : decode cX8_keepPlace 8 = .ok (.aload_n 0, 1) := by decide +kernel
theorem dX8_keepPlace_9 : decode cX8_keepPlace 9 = .ok (.iload_n 1, 1) := by decide +kernel
theorem dX8_keepPlace_10 : decode cX8_keepPlace 10 = .ok (.putfield 58, 3) := by decide +kernel
theorem dX8_keepPlace_13 : decode cX8_keepPlace 13 = .ok (.aload_n 0, 1) := by decide +kernel
theorem dX8_keepPlace_14 : decode cX8_keepPlace 14 = .ok (.iconst (-1), 1) := by decide +kernel
theorem dX8_keepPlace_15 : decode cX8_keepPlace 15 = .ok (.putfield 62, 3) := by decide +kernel
theorem dX8_keepPlace_18 : decode cX8_keepPlace 18 = .ok (.return_, 1) := by decide +kernel
theorem dX8_keepDetail_0 : decode cX8_keepDetail 0 = .ok (.aload_n 0, 1) := by decide +kernel
theorem dX8_keepDetail_1 : decode cX8_keepDetail 1 = .ok (.getfield 54, 3) := by decide +kernel
theorem dX8_keepDetail_4 : decode cX8_keepDetail 4 = .ok (.aload_n 2, 1) := by decide +kernel
theorem dX8_keepDetail_5 : decode cX8_keepDetail 5 = .ok (.invokevirtual 285, 3) := by decide +kernel
theorem dX8_keepDetail_8 : decode cX8_keepDetail 8 = .ok (.aload_n 0, 1) := by decide +kernel
theorem dX8_keepDetail_9 : decode cX8_keepDetail 9 = .ok (.iload_n 1, 1) := by decide +kernel
theorem dX8_keepDetail_10 : decode cX8_keepDetail 10 = .ok (.putfield 62, 3) := by decide +kernel
theorem dX8_keepDetail_13 : decode cX8_keepDetail 13 = .ok (.aload_n 0, 1) := by decide +kernel
theorem dX8_keepDetail_14 : decode cX8_keepDetail 14 = .ok (.iconst (-1), 1) := by decide +kernel
theorem dX8_keepDetail_15 : decode cX8_keepDetail 15 = .ok (.putfield 58, 3) := by decide +kernel
theorem dX8_keepDetail_18 : decode cX8_keepDetail 18 = .ok (.return_, 1) := by decide +kernel
theorem dX8_forgetUndo_0 : decode cX8_forgetUndo 0 = .ok (.aload_n 0, 1) := by decide +kernel
theorem dX8_forgetUndo_1 : decode cX8_forgetUndo 1 = .ok (.iconst (-1), 1) := by decide +kernel
theorem dX8_forgetUndo_2 : decode cX8_forgetUndo 2 = .ok (.putfield 58, 3) := by decide +kernel
theorem dX8_forgetUndo_5 : decode cX8_forgetUndo 5 = .ok (.aload_n 0, 1) := by decide +kernel
theorem dX8_forgetUndo_6 : decode cX8_forgetUndo 6 = .ok (.iconst (-1), 1) := by decide +kernel
theorem dX8_forgetUndo_7 : decode cX8_forgetUndo 7 = .ok (.putfield 62, 3) := by decide +kernel
theorem dX8_forgetUndo_10 : decode cX8_forgetUndo 10 = .ok (.return_, 1) := by decide +kernel
theorem dX8_readTape_0 : decode cX8_readTape 0 = .ok (.aload_n 0, 1) := by decide +kernel
theorem dX8_readTape_1 : decode cX8_readTape 1 = .ok (.getfield 19, 3) := by decide +kernel
theorem dX8_readTape_4 : decode cX8_readTape 4 = .ok (.iload_n 1, 1) := by decide +kernel
theorem dX8_readTape_5 : decode cX8_readTape 5 = .ok (.invokevirtual 99, 3) := by decide +kernel
theorem dX8_readTape_8 : decode cX8_readTape 8 = .ok (.astore_n 3, 1) := by decide +kernel
theorem dX8_readTape_9 : decode cX8_readTape 9 = .ok (.aload_n 3, 1) := by decide +kernel
theorem dX8_readTape_10 : decode cX8_readTape 10 = .ok (.ifnonnull 5, 3) := by decide +kernel
theorem dX8_readTape_13 : decode cX8_readTape 13 = .ok (.iconst (-1), 1) := by decide +kernel
theorem dX8_readTape_14 : decode cX8_readTape 14 = .ok (.ireturn, 1) := by decide +kernel
theorem dX8_readTape_15 : decode cX8_readTape 15 = .ok (.iload_n 2, 1) := by decide +kernel
theorem dX8_readTape_16 : decode cX8_readTape 16 = .ok (.ifCond .lt 11, 3) := by decide +kernel
theorem dX8_readTape_19 : decode cX8_readTape 19 = .ok (.iload_n 2, 1) := by decide +kernel
theorem dX8_readTape_20 : decode cX8_readTape 20 = .ok (.getstatic 306, 3) := by decide +kernel
theorem dX8_readTape_23 : decode cX8_readTape 23 = .ok (.arraylength, 1) := by decide +kernel
theorem dX8_readTape_24 : decode cX8_readTape 24 = .ok (.if_icmp .lt 6, 3) := by decide +kernel
theorem dX8_readTape_27 : decode cX8_readTape 27 = .ok (.bipush (-2), 2) := by decide +kernel
theorem dX8_readTape_29 : decode cX8_readTape 29 = .ok (.ireturn, 1) := by decide +kernel
theorem dX8_readTape_30 : decode cX8_readTape 30 = .ok (.getstatic 306, 3) := by decide +kernel
theorem dX8_readTape_33 : decode cX8_readTape 33 = .ok (.iload_n 2, 1) := by decide +kernel
theorem dX8_readTape_34 : decode cX8_readTape 34 = .ok (.iaload, 1) := by decide +kernel
theorem dX8_readTape_35 : decode cX8_readTape 35 = .ok (.istore 4, 2) := by decide +kernel
theorem dX8_readTape_37 : decode cX8_readTape 37 = .ok (.iload 4, 2) := by decide +kernel
theorem dX8_readTape_39 : decode cX8_readTape 39 = .ok (.iconst 1, 1) := by decide +kernel
theorem dX8_readTape_40 : decode cX8_readTape 40 = .ok (.if_icmp .ge 6, 3) := by decide +kernel
theorem dX8_readTape_43 : decode cX8_readTape 43 = .ok (.bipush (-2), 2) := by decide +kernel
theorem dX8_readTape_45 : decode cX8_readTape 45 = .ok (.ireturn, 1) := by decide +kernel
theorem dX8_readTape_46 : decode cX8_readTape 46 = .ok (.aload_n 0, 1) := by decide +kernel
theorem dX8_readTape_47 : decode cX8_readTape 47 = .ok (.getfield 12, 3) := by decide +kernel
theorem dX8_readTape_50 : decode cX8_readTape 50 = .ok (.getfield 73, 3) := by decide +kernel
theorem dX8_readTape_53 : decode cX8_readTape 53 = .ok (.iload 4, 2) := by decide +kernel
theorem dX8_readTape_55 : decode cX8_readTape 55 = .ok (.iadd, 1) := by decide +kernel
theorem dX8_readTape_56 : decode cX8_readTape 56 = .ok (.iconst 1, 1) := by decide +kernel
theorem dX8_readTape_57 : decode cX8_readTape 57 = .ok (.isub, 1) := by decide +kernel
theorem dX8_readTape_58 : decode cX8_readTape 58 = .ok (.iload 4, 2) := by decide +kernel
theorem dX8_readTape_60 : decode cX8_readTape 60 = .ok (.idiv, 1) := by decide +kernel
theorem dX8_readTape_61 : decode cX8_readTape 61 = .ok (.istore 5, 2) := by decide +kernel
theorem dX8_readTape_63 : decode cX8_readTape 63 = .ok (.aload_n 3, 1) := by decide +kernel
theorem dX8_readTape_64 : decode cX8_readTape 64 = .ok (.getfield 102, 3) := by decide +kernel
theorem dX8_readTape_67 : decode cX8_readTape 67 = .ok (.iload 5, 2) := by decide +kernel
theorem dX8_readTape_69 : decode cX8_readTape 69 = .ok (.iadd, 1) := by decide +kernel
theorem dX8_readTape_70 : decode cX8_readTape 70 = .ok (.sipush 400, 3) := by decide +kernel
theorem dX8_readTape_73 : decode cX8_readTape 73 = .ok (.if_icmp .le 6, 3) := by decide +kernel
theorem dX8_readTape_76 : decode cX8_readTape 76 = .ok (.bipush (-3), 2) := by decide +kernel
theorem dX8_readTape_78 : decode cX8_readTape 78 = .ok (.ireturn, 1) := by decide +kernel
theorem dX8_readTape_79 : decode cX8_readTape 79 = .ok (.aload_n 0, 1) := by decide +kernel
theorem dX8_readTape_80 : decode cX8_readTape 80 = .ok (.iload_n 1, 1) := by decide +kernel
theorem dX8_readTape_81 : decode cX8_readTape 81 = .ok (.aload_n 3, 1) := by decide +kernel
theorem dX8_readTape_82 : decode cX8_readTape 82 = .ok (.invokevirtual 84, 3) := by decide +kernel
theorem dX8_readTape_85 : decode cX8_readTape 85 = .ok (.iconst 0, 1) := by decide +kernel
theorem dX8_readTape_86 : decode cX8_readTape 86 = .ok (.istore 6, 2) := by decide +kernel
theorem dX8_readTape_88 : decode cX8_readTape 88 = .ok (.iload 6, 2) := by decide +kernel
theorem dX8_readTape_90 : decode cX8_readTape 90 = .ok (.iload 5, 2) := by decide +kernel
theorem dX8_readTape_92 : decode cX8_readTape 92 = .ok (.if_icmp .ge 28, 3) := by decide +kernel
theorem dX8_readTape_95 : decode cX8_readTape 95 = .ok (.aload_n 3, 1) := by decide +kernel
theorem dX8_readTape_96 : decode cX8_readTape 96 = .ok (.aload_n 0, 1) := by decide +kernel
theorem dX8_readTape_97 : decode cX8_readTape 97 = .ok (.getfield 12, 3) := by decide +kernel
theorem dX8_readTape_100 : decode cX8_readTape 100 = .ok (.iload 6, 2) := by decide +kernel
theorem dX8_readTape_102 : decode cX8_readTape 102 = .ok (.iload 4, 2) := by decide +kernel
theorem dX8_readTape_104 : decode cX8_readTape 104 = .ok (.imul, 1) := by decide +kernel
theorem dX8_readTape_105 : decode cX8_readTape 105 = .ok (.iload 4, 2) := by decide +kernel
theorem dX8_readTape_107 : decode cX8_readTape 107 = .ok (.iload_n 2, 1) := by decide +kernel
theorem dX8_readTape_108 : decode cX8_readTape 108 = .ok (.invokevirtual 310, 3) := by decide +kernel
theorem dX8_readTape_111 : decode cX8_readTape 111 = .ok (.invokevirtual 314, 3) := by decide +kernel
theorem dX8_readTape_114 : decode cX8_readTape 114 = .ok (.iinc 6 1, 3) := by decide +kernel
theorem dX8_readTape_117 : decode cX8_readTape 117 = .ok (.goto (-29), 3) := by decide +kernel
theorem dX8_readTape_120 : decode cX8_readTape 120 = .ok (.aload_n 3, 1) := by decide +kernel
theorem dX8_readTape_121 : decode cX8_readTape 121 = .ok (.getfield 102, 3) := by decide +kernel
theorem dX8_readTape_124 : decode cX8_readTape 124 = .ok (.ireturn, 1) := by decide +kernel
theorem dX8_ofCycle_0 : decode cX8_ofCycle 0 = .ok (.aload_n 0, 1) := by decide +kernel
theorem dX8_ofCycle_1 : decode cX8_ofCycle 1 = .ok (.getfield 26, 3) := by decide +kernel
theorem dX8_ofCycle_4 : decode cX8_ofCycle 4 = .ok (.iload_n 1, 1) := by decide +kernel
theorem dX8_ofCycle_5 : decode cX8_ofCycle 5 = .ok (.invokevirtual 316, 3) := by decide +kernel
theorem dX8_ofCycle_8 : decode cX8_ofCycle 8 = .ok (.istore_n 3, 1) := by decide +kernel
theorem dX8_ofCycle_9 : decode cX8_ofCycle 9 = .ok (.aload_n 0, 1) := by decide +kernel
theorem dX8_ofCycle_10 : decode cX8_ofCycle 10 = .ok (.getfield 26, 3) := by decide +kernel
theorem dX8_ofCycle_13 : decode cX8_ofCycle 13 = .ok (.iload_n 1, 1) := by decide +kernel
theorem dX8_ofCycle_14 : decode cX8_ofCycle 14 = .ok (.invokevirtual 319, 3) := by decide +kernel
theorem dX8_ofCycle_17 : decode cX8_ofCycle 17 = .ok (.istore 4, 2) := by decide +kernel
theorem dX8_ofCycle_19 : decode cX8_ofCycle 19 = .ok (.iload_n 2, 1) := by decide +kernel
theorem dX8_ofCycle_20 : decode cX8_ofCycle 20 = .ok (.tableswitch 84 0 5 #[40, 49, 59, 61, 64, 73], 40) := by decide +kernel
theorem dX8_ofCycle_60 : decode cX8_ofCycle 60 = .ok (.aload_n 0, 1) := by decide +kernel
theorem dX8_ofCycle_61 : decode cX8_ofCycle 61 = .ok (.getfield 26, 3) := by decide +kernel
theorem dX8_ofCycle_64 : decode cX8_ofCycle 64 = .ok (.iload_n 3, 1) := by decide +kernel
theorem dX8_ofCycle_65 : decode cX8_ofCycle 65 = .ok (.invokevirtual 167, 3) := by decide +kernel
theorem dX8_ofCycle_68 : decode cX8_ofCycle 68 = .ok (.ireturn, 1) := by decide +kernel
theorem dX8_ofCycle_69 : decode cX8_ofCycle 69 = .ok (.aload_n 0, 1) := by decide +kernel
theorem dX8_ofCycle_70 : decode cX8_ofCycle 70 = .ok (.getfield 26, 3) := by decide +kernel
theorem dX8_ofCycle_73 : decode cX8_ofCycle 73 = .ok (.iload 4, 2) := by decide +kernel
theorem dX8_ofCycle_75 : decode cX8_ofCycle 75 = .ok (.invokevirtual 167, 3) := by decide +kernel
theorem dX8_ofCycle_78 : decode cX8_ofCycle 78 = .ok (.ireturn, 1) := by decide +kernel
theorem dX8_ofCycle_79 : decode cX8_ofCycle 79 = .ok (.iload_n 3, 1) := by decide +kernel
theorem dX8_ofCycle_80 : decode cX8_ofCycle 80 = .ok (.ireturn, 1) := by decide +kernel
theorem dX8_ofCycle_81 : decode cX8_ofCycle 81 = .ok (.iload 4, 2) := by decide +kernel
theorem dX8_ofCycle_83 : decode cX8_ofCycle 83 = .ok (.ireturn, 1) := by decide +kernel
theorem dX8_ofCycle_84 : decode cX8_ofCycle 84 = .ok (.aload_n 0, 1) := by decide +kernel
theorem dX8_ofCycle_85 : decode cX8_ofCycle 85 = .ok (.getfield 26, 3) := by decide +kernel
theorem dX8_ofCycle_88 : decode cX8_ofCycle 88 = .ok (.iload_n 1, 1) := by decide +kernel
theorem dX8_ofCycle_89 : decode cX8_ofCycle 89 = .ok (.invokevirtual 322, 3) := by decide +kernel
theorem dX8_ofCycle_92 : decode cX8_ofCycle 92 = .ok (.ireturn, 1) := by decide +kernel
theorem dX8_ofCycle_93 : decode cX8_ofCycle 93 = .ok (.aload_n 0, 1) := by decide +kernel
theorem dX8_ofCycle_94 : decode cX8_ofCycle 94 = .ok (.getfield 26, 3) := by decide +kernel
theorem dX8_ofCycle_97 : decode cX8_ofCycle 97 = .ok (.iload_n 3, 1) := by decide +kernel
theorem dX8_ofCycle_98 : decode cX8_ofCycle 98 = .ok (.iload 4, 2) := by decide +kernel
theorem dX8_ofCycle_100 : decode cX8_ofCycle 100 = .ok (.invokevirtual 325, 3) := by decide +kernel
theorem dX8_ofCycle_103 : decode cX8_ofCycle 103 = .ok (.ireturn, 1) := by decide +kernel
theorem dX8_ofCycle_104 : decode cX8_ofCycle 104 = .ok (.aload_n 0, 1) := by decide +kernel
theorem dX8_ofCycle_105 : decode cX8_ofCycle 105 = .ok (.getfield 26, 3) := by decide +kernel
theorem dX8_ofCycle_108 : decode cX8_ofCycle 108 = .ok (.iload_n 3, 1) := by decide +kernel
theorem dX8_ofCycle_109 : decode cX8_ofCycle 109 = .ok (.iload 4, 2) := by decide +kernel
theorem dX8_ofCycle_111 : decode cX8_ofCycle 111 = .ok (.invokevirtual 328, 3) := by decide +kernel
theorem dX8_ofCycle_114 : decode cX8_ofCycle 114 = .ok (.ireturn, 1) := by decide +kernel
theorem dX8_checkTape_0 : decode cX8_checkTape 0 = .ok (.aload_n 0, 1) := by decide +kernel
theorem dX8_checkTape_1 : decode cX8_checkTape 1 = .ok (.getfield 19, 3) := by decide +kernel
theorem dX8_checkTape_4 : decode cX8_checkTape 4 = .ok (.iload_n 1, 1) := by decide +kernel
theorem dX8_checkTape_5 : decode cX8_checkTape 5 = .ok (.invokevirtual 121, 3) := by decide +kernel
theorem dX8_checkTape_8 : decode cX8_checkTape 8 = .ok (.astore_n 2, 1) := by decide +kernel
theorem dX8_checkTape_9 : decode cX8_checkTape 9 = .ok (.aload_n 2, 1) := by decide +kernel
theorem dX8_checkTape_10 : decode cX8_checkTape 10 = .ok (.ifnonnull 5, 3) := by decide +kernel
theorem dX8_checkTape_13 : decode cX8_checkTape 13 = .ok (.iconst (-1), 1) := by decide +kernel
theorem dX8_checkTape_14 : decode cX8_checkTape 14 = .ok (.ireturn, 1) := by decide +kernel
theorem dX8_checkTape_15 : decode cX8_checkTape 15 = .ok (.aload_n 0, 1) := by decide +kernel
theorem dX8_checkTape_16 : decode cX8_checkTape 16 = .ok (.getfield 26, 3) := by decide +kernel
theorem dX8_checkTape_19 : decode cX8_checkTape 19 = .ok (.aload_n 0, 1) := by decide +kernel
theorem dX8_checkTape_20 : decode cX8_checkTape 20 = .ok (.getfield 19, 3) := by decide +kernel
theorem dX8_checkTape_23 : decode cX8_checkTape 23 = .ok (.aload_n 2, 1) := by decide +kernel
theorem dX8_checkTape_24 : decode cX8_checkTape 24 = .ok (.iconst 0, 1) := by decide +kernel
theorem dX8_checkTape_25 : decode cX8_checkTape 25 = .ok (.invokevirtual 124, 3) := by decide +kernel
theorem dX8_checkTape_28 : decode cX8_checkTape 28 = .ok (.aload_n 0, 1) := by decide +kernel
theorem dX8_checkTape_29 : decode cX8_checkTape 29 = .ok (.getfield 26, 3) := by decide +kernel
theorem dX8_checkTape_32 : decode cX8_checkTape 32 = .ok (.getfield 141, 3) := by decide +kernel
theorem dX8_checkTape_35 : decode cX8_checkTape 35 = .ok (.sipush 256, 3) := by decide +kernel
theorem dX8_checkTape_38 : decode cX8_checkTape 38 = .ok (.if_icmp .gt 15, 3) := by decide +kernel
theorem dX8_checkTape_41 : decode cX8_checkTape 41 = .ok (.aload_n 0, 1) := by decide +kernel
theorem dX8_checkTape_42 : decode cX8_checkTape 42 = .ok (.getfield 12, 3) := by decide +kernel
theorem dX8_checkTape_45 : decode cX8_checkTape 45 = .ok (.getfield 73, 3) := by decide +kernel
theorem dX8_checkTape_48 : decode cX8_checkTape 48 = .ok (.iconst 2, 1) := by decide +kernel
theorem dX8_checkTape_49 : decode cX8_checkTape 49 = .ok (.irem, 1) := by decide +kernel
theorem dX8_checkTape_50 : decode cX8_checkTape 50 = .ok (.ifCond .eq 6, 3) := by decide +kernel
theorem dX8_checkTape_53 : decode cX8_checkTape 53 = .ok (.bipush (-2), 2) := by decide +kernel
theorem dX8_checkTape_55 : decode cX8_checkTape 55 = .ok (.ireturn, 1) := by decide +kernel
theorem dX8_checkTape_56 : decode cX8_checkTape 56 = .ok (.iconst 0, 1) := by decide +kernel
theorem dX8_checkTape_57 : decode cX8_checkTape 57 = .ok (.istore_n 3, 1) := by decide +kernel
theorem dX8_checkTape_58 : decode cX8_checkTape 58 = .ok (.iload_n 3, 1) := by decide +kernel
theorem dX8_checkTape_59 : decode cX8_checkTape 59 = .ok (.aload_n 0, 1) := by decide +kernel
theorem dX8_checkTape_60 : decode cX8_checkTape 60 = .ok (.getfield 12, 3) := by decide +kernel
theorem dX8_checkTape_63 : decode cX8_checkTape 63 = .ok (.getfield 73, 3) := by decide +kernel
theorem dX8_checkTape_66 : decode cX8_checkTape 66 = .ok (.if_icmp .ge 30, 3) := by decide +kernel
theorem dX8_checkTape_69 : decode cX8_checkTape 69 = .ok (.aload_n 0, 1) := by decide +kernel
theorem dX8_checkTape_70 : decode cX8_checkTape 70 = .ok (.getfield 12, 3) := by decide +kernel
theorem dX8_checkTape_73 : decode cX8_checkTape 73 = .ok (.iload_n 3, 1) := by decide +kernel
theorem dX8_checkTape_74 : decode cX8_checkTape 74 = .ok (.invokevirtual 331, 3) := by decide +kernel
theorem dX8_checkTape_77 : decode cX8_checkTape 77 = .ok (.aload_n 0, 1) := by decide +kernel
theorem dX8_checkTape_78 : decode cX8_checkTape 78 = .ok (.getfield 26, 3) := by decide +kernel
theorem dX8_checkTape_81 : decode cX8_checkTape 81 = .ok (.getfield 141, 3) := by decide +kernel
theorem dX8_checkTape_84 : decode cX8_checkTape 84 = .ok (.if_icmp .lt 6, 3) := by decide +kernel
theorem dX8_checkTape_87 : decode cX8_checkTape 87 = .ok (.bipush (-2), 2) := by decide +kernel
theorem dX8_checkTape_89 : decode cX8_checkTape 89 = .ok (.ireturn, 1) := by decide +kernel
theorem dX8_checkTape_90 : decode cX8_checkTape 90 = .ok (.iinc 3 1, 3) := by decide +kernel
theorem dX8_checkTape_93 : decode cX8_checkTape 93 = .ok (.goto (-35), 3) := by decide +kernel
theorem dX8_checkTape_96 : decode cX8_checkTape 96 = .ok (.aload_n 0, 1) := by decide +kernel
theorem dX8_checkTape_97 : decode cX8_checkTape 97 = .ok (.getfield 40, 3) := by decide +kernel
theorem dX8_checkTape_100 : decode cX8_checkTape 100 = .ok (.invokevirtual 334, 3) := by decide +kernel
theorem dX8_checkTape_103 : decode cX8_checkTape 103 = .ok (.iconst 0, 1) := by decide +kernel
theorem dX8_checkTape_104 : decode cX8_checkTape 104 = .ok (.istore_n 3, 1) := by decide +kernel
theorem dX8_checkTape_105 : decode cX8_checkTape 105 = .ok (.iload_n 3, 1) := by decide +kernel
theorem dX8_checkTape_106 : decode cX8_checkTape 106 = .ok (.aload_n 0, 1) := by decide +kernel
theorem dX8_checkTape_107 : decode cX8_checkTape 107 = .ok (.getfield 26, 3) := by decide +kernel
theorem dX8_checkTape_110 : decode cX8_checkTape 110 = .ok (.getfield 144, 3) := by decide +kernel
theorem dX8_checkTape_113 : decode cX8_checkTape 113 = .ok (.if_icmp .ge 32, 3) := by decide +kernel
theorem dX8_checkTape_116 : decode cX8_checkTape 116 = .ok (.aload_n 0, 1) := by decide +kernel
theorem dX8_checkTape_117 : decode cX8_checkTape 117 = .ok (.getfield 40, 3) := by decide +kernel
theorem dX8_checkTape_120 : decode cX8_checkTape 120 = .ok (.aload_n 0, 1) := by decide +kernel
theorem dX8_checkTape_121 : decode cX8_checkTape 121 = .ok (.getfield 26, 3) := by decide +kernel
theorem dX8_checkTape_124 : decode cX8_checkTape 124 = .ok (.iload_n 3, 1) := by decide +kernel
theorem dX8_checkTape_125 : decode cX8_checkTape 125 = .ok (.invokevirtual 316, 3) := by decide +kernel
theorem dX8_checkTape_128 : decode cX8_checkTape 128 = .ok (.aload_n 0, 1) := by decide +kernel
theorem dX8_checkTape_129 : decode cX8_checkTape 129 = .ok (.getfield 26, 3) := by decide +kernel
theorem dX8_checkTape_132 : decode cX8_checkTape 132 = .ok (.iload_n 3, 1) := by decide +kernel
theorem dX8_checkTape_133 : decode cX8_checkTape 133 = .ok (.invokevirtual 319, 3) := by decide +kernel
theorem dX8_checkTape_136 : decode cX8_checkTape 136 = .ok (.invokevirtual 337, 3) := by decide +kernel
theorem dX8_checkTape_139 : decode cX8_checkTape 139 = .ok (.iinc 3 1, 3) := by decide +kernel
theorem dX8_checkTape_142 : decode cX8_checkTape 142 = .ok (.goto (-37), 3) := by decide +kernel
theorem dX8_checkTape_145 : decode cX8_checkTape 145 = .ok (.iconst 0, 1) := by decide +kernel
theorem dX8_checkTape_146 : decode cX8_checkTape 146 = .ok (.istore_n 3, 1) := by decide +kernel
theorem dX8_checkTape_147 : decode cX8_checkTape 147 = .ok (.iload_n 3, 1) := by decide +kernel
theorem dX8_checkTape_148 : decode cX8_checkTape 148 = .ok (.iconst 1, 1) := by decide +kernel
theorem dX8_checkTape_149 : decode cX8_checkTape 149 = .ok (.iadd, 1) := by decide +kernel
theorem dX8_checkTape_150 : decode cX8_checkTape 150 = .ok (.aload_n 0, 1) := by decide +kernel
theorem dX8_checkTape_151 : decode cX8_checkTape 151 = .ok (.getfield 12, 3) := by decide +kernel
theorem dX8_checkTape_154 : decode cX8_checkTape 154 = .ok (.getfield 73, 3) := by decide +kernel
theorem dX8_checkTape_157 : decode cX8_checkTape 157 = .ok (.if_icmp .ge 34, 3) := by decide +kernel
theorem dX8_checkTape_160 : decode cX8_checkTape 160 = .ok (.aload_n 0, 1) := by decide +kernel
theorem dX8_checkTape_161 : decode cX8_checkTape 161 = .ok (.getfield 40, 3) := by decide +kernel
theorem dX8_checkTape_164 : decode cX8_checkTape 164 = .ok (.aload_n 0, 1) := by decide +kernel
theorem dX8_checkTape_165 : decode cX8_checkTape 165 = .ok (.getfield 12, 3) := by decide +kernel
theorem dX8_checkTape_168 : decode cX8_checkTape 168 = .ok (.iload_n 3, 1) := by decide +kernel
theorem dX8_checkTape_169 : decode cX8_checkTape 169 = .ok (.invokevirtual 331, 3) := by decide +kernel
theorem dX8_checkTape_172 : decode cX8_checkTape 172 = .ok (.aload_n 0, 1) := by decide +kernel
theorem dX8_checkTape_173 : decode cX8_checkTape 173 = .ok (.getfield 12, 3) := by decide +kernel
theorem dX8_checkTape_176 : decode cX8_checkTape 176 = .ok (.iload_n 3, 1) := by decide +kernel
theorem dX8_checkTape_177 : decode cX8_checkTape 177 = .ok (.iconst 1, 1) := by decide +kernel
theorem dX8_checkTape_178 : decode cX8_checkTape 178 = .ok (.iadd, 1) := by decide +kernel
theorem dX8_checkTape_179 : decode cX8_checkTape 179 = .ok (.invokevirtual 331, 3) := by decide +kernel
theorem dX8_checkTape_182 : decode cX8_checkTape 182 = .ok (.invokevirtual 340, 3) := by decide +kernel
theorem dX8_checkTape_185 : decode cX8_checkTape 185 = .ok (.iinc 3 2, 3) := by decide +kernel
theorem dX8_checkTape_188 : decode cX8_checkTape 188 = .ok (.goto (-41), 3) := by decide +kernel
theorem dX8_checkTape_191 : decode cX8_checkTape 191 = .ok (.iconst 1, 1) := by decide +kernel
theorem dX8_checkTape_192 : decode cX8_checkTape 192 = .ok (.aload_n 0, 1) := by decide +kernel
theorem dX8_checkTape_193 : decode cX8_checkTape 193 = .ok (.getfield 40, 3) := by decide +kernel
theorem dX8_checkTape_196 : decode cX8_checkTape 196 = .ok (.aload_n 0, 1) := by decide +kernel
theorem dX8_checkTape_197 : decode cX8_checkTape 197 = .ok (.getfield 26, 3) := by decide +kernel
theorem dX8_checkTape_200 : decode cX8_checkTape 200 = .ok (.getfield 141, 3) := by decide +kernel
theorem dX8_checkTape_203 : decode cX8_checkTape 203 = .ok (.invokevirtual 343, 3) := by decide +kernel
theorem dX8_checkTape_206 : decode cX8_checkTape 206 = .ok (.iadd, 1) := by decide +kernel
theorem dX8_checkTape_207 : decode cX8_checkTape 207 = .ok (.ireturn, 1) := by decide +kernel
theorem dX8_reckonWear_0 : decode cX8_reckonWear 0 = .ok (.aload_n 0, 1) := by decide +kernel
theorem dX8_reckonWear_1 : decode cX8_reckonWear 1 = .ok (.getfield 33, 3) := by decide +kernel
theorem dX8_reckonWear_4 : decode cX8_reckonWear 4 = .ok (.invokevirtual 346, 3) := by decide +kernel
theorem dX8_reckonWear_7 : decode cX8_reckonWear 7 = .ok (.aload_n 0, 1) := by decide +kernel
theorem dX8_reckonWear_8 : decode cX8_reckonWear 8 = .ok (.getfield 19, 3) := by decide +kernel
theorem dX8_reckonWear_11 : decode cX8_reckonWear 11 = .ok (.aload_n 1, 1) := by decide +kernel
theorem dX8_reckonWear_12 : decode cX8_reckonWear 12 = .ok (.getfield 186, 3) := by decide +kernel
theorem dX8_reckonWear_15 : decode cX8_reckonWear 15 = .ok (.invokevirtual 121, 3) := by decide +kernel
theorem dX8_reckonWear_18 : decode cX8_reckonWear 18 = .ok (.astore_n 2, 1) := by decide +kernel
theorem dX8_reckonWear_19 : decode cX8_reckonWear 19 = .ok (.aload_n 2, 1) := by decide +kernel
theorem dX8_reckonWear_20 : decode cX8_reckonWear 20 = .ok (.ifnull 31, 3) := by decide +kernel
theorem dX8_reckonWear_23 : decode cX8_reckonWear 23 = .ok (.aload_n 0, 1) := by decide +kernel
theorem dX8_reckonWear_24 : decode cX8_reckonWear 24 = .ok (.getfield 26, 3) := by decide +kernel
theorem dX8_reckonWear_27 : decode cX8_reckonWear 27 = .ok (.aload_n 0, 1) := by decide +kernel
theorem dX8_reckonWear_28 : decode cX8_reckonWear 28 = .ok (.getfield 19, 3) := by decide +kernel
theorem dX8_reckonWear_31 : decode cX8_reckonWear 31 = .ok (.aload_n 2, 1) := by decide +kernel
theorem dX8_reckonWear_32 : decode cX8_reckonWear 32 = .ok (.aload_n 1, 1) := by decide +kernel
theorem dX8_reckonWear_33 : decode cX8_reckonWear 33 = .ok (.getfield 223, 3) := by decide +kernel
theorem dX8_reckonWear_36 : decode cX8_reckonWear 36 = .ok (.invokevirtual 124, 3) := by decide +kernel
theorem dX8_reckonWear_39 : decode cX8_reckonWear 39 = .ok (.aload_n 0, 1) := by decide +kernel
theorem dX8_reckonWear_40 : decode cX8_reckonWear 40 = .ok (.getfield 33, 3) := by decide +kernel
theorem dX8_reckonWear_43 : decode cX8_reckonWear 43 = .ok (.aload_n 1, 1) := by decide +kernel
theorem dX8_reckonWear_44 : decode cX8_reckonWear 44 = .ok (.aload_n 0, 1) := by decide +kernel
theorem dX8_reckonWear_45 : decode cX8_reckonWear 45 = .ok (.getfield 26, 3) := by decide +kernel
theorem dX8_reckonWear_48 : decode cX8_reckonWear 48 = .ok (.invokevirtual 347, 3) := by decide +kernel
theorem dX8_reckonWear_51 : decode cX8_reckonWear 51 = .ok (.return_, 1) := by decide +kernel
theorem dX8_crackLength_0 : decode cX8_crackLength 0 = .ok (.aload_n 1, 1) := by decide +kernel
theorem dX8_crackLength_1 : decode cX8_crackLength 1 = .ok (.getfield 214, 3) := by decide +kernel
theorem dX8_crackLength_4 : decode cX8_crackLength 4 = .ok (.istore_n 2, 1) := by decide +kernel
theorem dX8_crackLength_5 : decode cX8_crackLength 5 = .ok (.aload_n 0, 1) := by decide +kernel
theorem dX8_crackLength_6 : decode cX8_crackLength 6 = .ok (.getfield 19, 3) := by decide +kernel
theorem dX8_crackLength_9 : decode cX8_crackLength 9 = .ok (.aload_n 1, 1) := by decide +kernel
theorem dX8_crackLength_10 : decode cX8_crackLength 10 = .ok (.getfield 186, 3) := by decide +kernel
theorem dX8_crackLength_13 : decode cX8_crackLength 13 = .ok (.invokevirtual 121, 3) := by decide +kernel
theorem dX8_crackLength_16 : decode cX8_crackLength 16 = .ok (.astore_n 3, 1) := by decide +kernel
theorem dX8_crackLength_17 : decode cX8_crackLength 17 = .ok (.aload_n 3, 1) := by decide +kernel
theorem dX8_crackLength_18 : decode cX8_crackLength 18 = .ok (.ifnonnull 5, 3) := by decide +kernel
theorem dX8_crackLength_21 : decode cX8_crackLength 21 = .ok (.iload_n 2, 1) := by decide +kernel
theorem dX8_crackLength_22 : decode cX8_crackLength 22 = .ok (.ireturn, 1) := by decide +kernel
theorem dX8_crackLength_23 : decode cX8_crackLength 23 = .ok (.aload_n 0, 1) := by decide +kernel
theorem dX8_crackLength_24 : decode cX8_crackLength 24 = .ok (.getfield 26, 3) := by decide +kernel
theorem dX8_crackLength_27 : decode cX8_crackLength 27 = .ok (.aload_n 0, 1) := by decide +kernel
theorem dX8_crackLength_28 : decode cX8_crackLength 28 = .ok (.getfield 19, 3) := by decide +kernel
theorem dX8_crackLength_31 : decode cX8_crackLength 31 = .ok (.aload_n 3, 1) := by decide +kernel
theorem dX8_crackLength_32 : decode cX8_crackLength 32 = .ok (.aload_n 1, 1) := by decide +kernel
theorem dX8_crackLength_33 : decode cX8_crackLength 33 = .ok (.getfield 223, 3) := by decide +kernel
theorem dX8_crackLength_36 : decode cX8_crackLength 36 = .ok (.invokevirtual 124, 3) := by decide +kernel
theorem dX8_crackLength_39 : decode cX8_crackLength 39 = .ok (.iconst 0, 1) := by decide +kernel
theorem dX8_crackLength_40 : decode cX8_crackLength 40 = .ok (.istore 4, 2) := by decide +kernel
theorem dX8_crackLength_42 : decode cX8_crackLength 42 = .ok (.iload 4, 2) := by decide +kernel
theorem dX8_crackLength_44 : decode cX8_crackLength 44 = .ok (.aload_n 0, 1) := by decide +kernel
theorem dX8_crackLength_45 : decode cX8_crackLength 45 = .ok (.getfield 26, 3) := by decide +kernel
theorem dX8_crackLength_48 : decode cX8_crackLength 48 = .ok (.getfield 144, 3) := by decide +kernel
theorem dX8_crackLength_51 : decode cX8_crackLength 51 = .ok (.if_icmp .ge 56, 3) := by decide +kernel
theorem dX8_crackLength_54 : decode cX8_crackLength 54 = .ok (.aload_n 1, 1) := by decide +kernel
theorem dX8_crackLength_55 : decode cX8_crackLength 55 = .ok (.aload_n 0, 1) := by decide +kernel
theorem dX8_crackLength_56 : decode cX8_crackLength 56 = .ok (.getfield 26, 3) := by decide +kernel
theorem dX8_crackLength_59 : decode cX8_crackLength 59 = .ok (.aload_n 0, 1) := by decide +kernel
theorem dX8_crackLength_60 : decode cX8_crackLength 60 = .ok (.getfield 26, 3) := by decide +kernel
theorem dX8_crackLength_63 : decode cX8_crackLength 63 = .ok (.iload 4, 2) := by decide +kernel
theorem dX8_crackLength_65 : decode cX8_crackLength 65 = .ok (.invokevirtual 316, 3) := by decide +kernel
theorem dX8_crackLength_68 : decode cX8_crackLength 68 = .ok (.aload_n 0, 1) := by decide +kernel
theorem dX8_crackLength_69 : decode cX8_crackLength 69 = .ok (.getfield 26, 3) := by decide +kernel
theorem dX8_crackLength_72 : decode cX8_crackLength 72 = .ok (.iload 4, 2) := by decide +kernel
theorem dX8_crackLength_74 : decode cX8_crackLength 74 = .ok (.invokevirtual 319, 3) := by decide +kernel
theorem dX8_crackLength_77 : decode cX8_crackLength 77 = .ok (.invokevirtual 350, 3) := by decide +kernel
theorem dX8_crackLength_80 : decode cX8_crackLength 80 = .ok (.aload_n 1, 1) := by decide +kernel
theorem dX8_crackLength_81 : decode cX8_crackLength 81 = .ok (.getfield 217, 3) := by decide +kernel
theorem dX8_crackLength_84 : decode cX8_crackLength 84 = .ok (.if_icmp .le 17, 3) := by decide +kernel
theorem dX8_crackLength_87 : decode cX8_crackLength 87 = .ok (.iload_n 2, 1) := by decide +kernel
theorem dX8_crackLength_88 : decode cX8_crackLength 88 = .ok (.aload_n 1, 1) := by decide +kernel
theorem dX8_crackLength_89 : decode cX8_crackLength 89 = .ok (.iload_n 2, 1) := by decide +kernel
theorem dX8_crackLength_90 : decode cX8_crackLength 90 = .ok (.invokevirtual 354, 3) := by decide +kernel
theorem dX8_crackLength_93 : decode cX8_crackLength 93 = .ok (.iadd, 1) := by decide +kernel
theorem dX8_crackLength_94 : decode cX8_crackLength 94 = .ok (.ldc_w 357, 3) := by decide +kernel
theorem dX8_crackLength_97 : decode cX8_crackLength 97 = .ok (.invokestatic 358, 3) := by decide +kernel
theorem dX8_crackLength_100 : decode cX8_crackLength 100 = .ok (.istore_n 2, 1) := by decide +kernel
theorem dX8_crackLength_101 : decode cX8_crackLength 101 = .ok (.iinc 4 1, 3) := by decide +kernel
theorem dX8_crackLength_104 : decode cX8_crackLength 104 = .ok (.goto (-62), 3) := by decide +kernel
theorem dX8_crackLength_107 : decode cX8_crackLength 107 = .ok (.iload_n 2, 1) := by decide +kernel
theorem dX8_crackLength_108 : decode cX8_crackLength 108 = .ok (.ireturn, 1) := by decide +kernel
theorem dX9_thrown_0 : decode cX9_thrown 0 = .ok (.aload_n 0, 1) := by decide +kernel
theorem dX9_thrown_1 : decode cX9_thrown 1 = .ok (.getfield 1, 3) := by decide +kernel
theorem dX9_thrown_4 : decode cX9_thrown 4 = .ok (.ireturn, 1) := by decide +kernel
theorem dX9_throwsIf_0 : decode cX9_throwsIf 0 = .ok (.aload_n 0, 1) := by decide +kernel
theorem dX9_throwsIf_1 : decode cX9_throwsIf 1 = .ok (.iload_n 1, 1) := by decide +kernel
theorem dX9_throwsIf_2 : decode cX9_throwsIf 2 = .ok (.ifCond .eq 7, 3) := by decide +kernel
theorem dX9_throwsIf_5 : decode cX9_throwsIf 5 = .ok (.iconst 1, 1) := by decide +kernel
theorem dX9_throwsIf_6 : decode cX9_throwsIf 6 = .ok (.goto 4, 3) := by decide +kernel
theorem dX9_throwsIf_9 : decode cX9_throwsIf 9 = .ok (.iconst 0, 1) := by decide +kernel
theorem dX9_throwsIf_10 : decode cX9_throwsIf 10 = .ok (.putfield 1, 3) := by decide +kernel
theorem dX9_throwsIf_13 : decode cX9_throwsIf 13 = .ok (.iload_n 1, 1) := by decide +kernel
theorem dX9_throwsIf_14 : decode cX9_throwsIf 14 = .ok (.ireturn, 1) := by decide +kernel
theorem dX9_init_0 : decode cX9_init 0 = .ok (.aload_n 0, 1) := by decide +kernel
theorem dX9_init_1 : decode cX9_init 1 = .ok (.invokespecial 7, 3) := by decide +kernel
theorem dX9_init_4 : decode cX9_init 4 = .ok (.aload_n 0, 1) := by decide +kernel
theorem dX9_init_5 : decode cX9_init 5 = .ok (.sipush 5328, 3) := by decide +kernel
theorem dX9_init_8 : decode cX9_init 8 = .ok (.newarray .int, 2) := by decide +kernel
theorem dX9_init_10 : decode cX9_init 10 = .ok (.putfield 13, 3) := by decide +kernel
theorem dX9_init_13 : decode cX9_init 13 = .ok (.aload_n 0, 1) := by decide +kernel
theorem dX9_init_14 : decode cX9_init 14 = .ok (.sipush 5328, 3) := by decide +kernel
theorem dX9_init_17 : decode cX9_init 17 = .ok (.newarray .int, 2) := by decide +kernel
theorem dX9_init_19 : decode cX9_init 19 = .ok (.putfield 17, 3) := by decide +kernel
theorem dX9_init_22 : decode cX9_init 22 = .ok (.aload_n 0, 1) := by decide +kernel
theorem dX9_init_23 : decode cX9_init 23 = .ok (.sipush 5328, 3) := by decide +kernel
theorem dX9_init_26 : decode cX9_init 26 = .ok (.newarray .int, 2) := by decide +kernel
theorem dX9_init_28 : decode cX9_init 28 = .ok (.putfield 20, 3) := by decide +kernel
theorem dX9_init_31 : decode cX9_init 31 = .ok (.aload_n 0, 1) := by decide +kernel
theorem dX9_init_32 : decode cX9_init 32 = .ok (.sipush 400, 3) := by decide +kernel
theorem dX9_init_35 : decode cX9_init 35 = .ok (.newarray .byte, 2) := by decide +kernel
theorem dX9_init_37 : decode cX9_init 37 = .ok (.putfield 23, 3) := by decide +kernel
theorem dX9_init_40 : decode cX9_init 40 = .ok (.aload_n 0, 1) := by decide +kernel
theorem dX9_init_41 : decode cX9_init 41 = .ok (.sipush 400, 3) := by decide +kernel
theorem dX9_init_44 : decode cX9_init 44 = .ok (.newarray .int, 2) := by decide +kernel
theorem dX9_init_46 : decode cX9_init 46 = .ok (.putfield 27, 3) := by decide +kernel
theorem dX9_init_49 : decode cX9_init 49 = .ok (.aload_n 0, 1) := by decide +kernel
theorem dX9_init_50 : decode cX9_init 50 = .ok (.sipush 400, 3) := by decide +kernel
theorem dX9_init_53 : decode cX9_init 53 = .ok (.newarray .int, 2) := by decide +kernel
theorem dX9_init_55 : decode cX9_init 55 = .ok (.putfield 30, 3) := by decide +kernel
theorem dX9_init_58 : decode cX9_init 58 = .ok (.aload_n 0, 1) := by decide +kernel
theorem dX9_init_59 : decode cX9_init 59 = .ok (.sipush 400, 3) := by decide +kernel
theorem dX9_init_62 : decode cX9_init 62 = .ok (.newarray .int, 2) := by decide +kernel
theorem dX9_init_64 : decode cX9_init 64 = .ok (.putfield 33, 3) := by decide +kernel
theorem dX9_init_67 : decode cX9_init 67 = .ok (.aload_n 0, 1) := by decide +kernel
theorem dX9_init_68 : decode cX9_init 68 = .ok (.sipush 200, 3) := by decide +kernel
theorem dX9_init_71 : decode cX9_init 71 = .ok (.newarray .int, 2) := by decide +kernel
theorem dX9_init_73 : decode cX9_init 73 = .ok (.putfield 36, 3) := by decide +kernel
theorem dX9_init_76 : decode cX9_init 76 = .ok (.aload_n 0, 1) := by decide +kernel
theorem dX9_init_77 : decode cX9_init 77 = .ok (.sipush 200, 3) := by decide +kernel
theorem dX9_init_80 : decode cX9_init 80 = .ok (.newarray .int, 2) := by decide +kernel
theorem dX9_init_82 : decode cX9_init 82 = .ok (.putfield 39, 3) := by decide +kernel
theorem dX9_init_85 : decode cX9_init 85 = .ok (.aload_n 0, 1) := by decide +kernel
theorem dX9_init_86 : decode cX9_init 86 = .ok (.sipush 200, 3) := by decide +kernel
theorem dX9_init_89 : decode cX9_init 89 = .ok (.newarray .int, 2) := by decide +kernel
theorem dX9_init_91 : decode cX9_init 91 = .ok (.putfield 42, 3) := by decide +kernel
theorem dX9_init_94 : decode cX9_init 94 = .ok (.aload_n 0, 1) := by decide +kernel
theorem dX9_init_95 : decode cX9_init 95 = .ok (.sipush 400, 3) := by decide +kernel
theorem dX9_init_98 : decode cX9_init 98 = .ok (.newarray .boolean, 2) := by decide +kernel
theorem dX9_init_100 : decode cX9_init 100 = .ok (.putfield 45, 3) := by decide +kernel
theorem dX9_init_103 : decode cX9_init 103 = .ok (.aload_n 0, 1) := by decide +kernel
theorem dX9_init_104 : decode cX9_init 104 = .ok (.sipush 400, 3) := by decide +kernel
theorem dX9_init_107 : decode cX9_init 107 = .ok (.newarray .int, 2) := by decide +kernel
theorem dX9_init_109 : decode cX9_init 109 = .ok (.putfield 49, 3) := by decide +kernel
theorem dX9_init_112 : decode cX9_init 112 = .ok (.aload_n 0, 1) := by decide +kernel
theorem dX9_init_113 : decode cX9_init 113 = .ok (.bipush 7, 2) := by decide +kernel
theorem dX9_init_115 : decode cX9_init 115 = .ok (.newarray .long, 2) := by decide +kernel
theorem dX9_init_117 : decode cX9_init 117 = .ok (.putfield 52, 3) := by decide +kernel
theorem dX9_init_120 : decode cX9_init 120 = .ok (.iconst 0, 1) := by decide +kernel
theorem dX9_init_121 : decode cX9_init 121 = .ok (.istore_n 1, 1) := by decide +kernel
theorem dX9_init_122 : decode cX9_init 122 = .ok (.iload_n 1, 1) := by decide +kernel
theorem dX9_init_123 : decode cX9_init 123 = .ok (.bipush 12, 2) := by decide +kernel
theorem dX9_init_125 : decode cX9_init 125 = .ok (.if_icmp .ge 53, 3) := by decide +kernel
theorem dX9_init_128 : decode cX9_init 128 = .ok (.aload_n 0, 1) := by decide +kernel
theorem dX9_init_129 : decode cX9_init 129 = .ok (.getfield 13, 3) := by decide +kernel
theorem dX9_init_132 : decode cX9_init 132 = .ok (.sipush 404, 3) := by decide +kernel
theorem dX9_init_135 : decode cX9_init 135 = .ok (.iload_n 1, 1) := by decide +kernel
theorem dX9_init_136 : decode cX9_init 136 = .ok (.imul, 1) := by decide +kernel
theorem dX9_init_137 : decode cX9_init 137 = .ok (.iconst (-1), 1) := by decide +kernel
theorem dX9_init_138 : decode cX9_init 138 = .ok (.iastore, 1) := by decide +kernel
theorem dX9_init_139 : decode cX9_init 139 = .ok (.aload_n 0, 1) := by decide +kernel
theorem dX9_init_140 : decode cX9_init 140 = .ok (.getfield 13, 3) := by decide +kernel
theorem dX9_init_143 : decode cX9_init 143 = .ok (.sipush 4848, 3) := by decide +kernel
theorem dX9_init_146 : decode cX9_init 146 = .ok (.bipush 40, 2) := by decide +kernel
theorem dX9_init_148 : decode cX9_init 148 = .ok (.iload_n 1, 1) := by decide +kernel
theorem dX9_init_149 : decode cX9_init 149 = .ok (.imul, 1) := by decide +kernel
theorem dX9_init_150 : decode cX9_init 150 = .ok (.iadd, 1) := by decide +kernel
theorem dX9_init_151 : decode cX9_init 151 = .ok (.iconst 0, 1) := by decide +kernel
theorem dX9_init_152 : decode cX9_init 152 = .ok (.iadd, 1) := by decide +kernel
theorem dX9_init_153 : decode cX9_init 153 = .ok (.iconst (-1), 1) := by decide +kernel
theorem dX9_init_154 : decode cX9_init 154 = .ok (.iastore, 1) := by decide +kernel
theorem dX9_init_155 : decode cX9_init 155 = .ok (.aload_n 0, 1) := by decide +kernel
theorem dX9_init_156 : decode cX9_init 156 = .ok (.getfield 13, 3) := by decide +kernel
theorem dX9_init_159 : decode cX9_init 159 = .ok (.sipush 4848, 3) := by decide +kernel
theorem dX9_init_162 : decode cX9_init 162 = .ok (.bipush 40, 2) := by decide +kernel
theorem dX9_init_164 : decode cX9_init 164 = .ok (.iload_n 1, 1) := by decide +kernel
theorem dX9_init_165 : decode cX9_init 165 = .ok (.imul, 1) := by decide +kernel
theorem dX9_init_166 : decode cX9_init 166 = .ok (.iadd, 1) := by decide +kernel
theorem dX9_init_167 : decode cX9_init 167 = .ok (.bipush 26, 2) := by decide +kernel
theorem dX9_init_169 : decode cX9_init 169 = .ok (.iadd, 1) := by decide +kernel
theorem dX9_init_170 : decode cX9_init 170 = .ok (.iconst (-1), 1) := by decide +kernel
theorem dX9_init_171 : decode cX9_init 171 = .ok (.iastore, 1) := by decide +kernel
theorem dX9_init_172 : decode cX9_init 172 = .ok (.iinc 1 1, 3) := by decide +kernel
theorem dX9_init_175 : decode cX9_init 175 = .ok (.goto (-53), 3) := by decide +kernel
theorem dX9_init_178 : decode cX9_init 178 = .ok (.return_, 1) := by decide +kernel
theorem dX9_copy_0 : decode cX9_copy 0 = .ok (.iconst 0, 1) := by decide +kernel
theorem dX9_copy_1 : decode cX9_copy 1 = .ok (.istore_n 3, 1) := by decide +kernel
theorem dX9_copy_2 : decode cX9_copy 2 = .ok (.iload_n 3, 1) := by decide +kernel
theorem dX9_copy_3 : decode cX9_copy 3 = .ok (.sipush 5328, 3) := by decide +kernel
theorem dX9_copy_6 : decode cX9_copy 6 = .ok (.if_icmp .ge 15, 3) := by decide +kernel
theorem dX9_copy_9 : decode cX9_copy 9 = .ok (.aload_n 2, 1) := by decide +kernel
theorem dX9_copy_10 : decode cX9_copy 10 = .ok (.iload_n 3, 1) := by decide +kernel
theorem dX9_copy_11 : decode cX9_copy 11 = .ok (.aload_n 1, 1) := by decide +kernel
theorem dX9_copy_12 : decode cX9_copy 12 = .ok (.iload_n 3, 1) := by decide +kernel
theorem dX9_copy_13 : decode cX9_copy 13 = .ok (.iaload, 1) := by decide +kernel
theorem dX9_copy_14 : decode cX9_copy 14 = .ok (.iastore, 1) := by decide +kernel
theorem dX9_copy_15 : decode cX9_copy 15 = .ok (.iinc 3 1, 3) := by decide +kernel
theorem dX9_copy_18 : decode cX9_copy 18 = .ok (.goto (-16), 3) := by decide +kernel
theorem dX9_copy_21 : decode cX9_copy 21 = .ok (.return_, 1) := by decide +kernel
theorem dX9_act_0 : decode cX9_act 0 = .ok (.aload_n 0, 1) := by decide +kernel
theorem dX9_act_1 : decode cX9_act 1 = .ok (.aload_n 0, 1) := by decide +kernel
theorem dX9_act_2 : decode cX9_act 2 = .ok (.getfield 13, 3) := by decide +kernel
theorem dX9_act_5 : decode cX9_act 5 = .ok (.aload_n 0, 1) := by decide +kernel
theorem dX9_act_6 : decode cX9_act 6 = .ok (.getfield 17, 3) := by decide +kernel
theorem dX9_act_9 : decode cX9_act 9 = .ok (.invokevirtual 56, 3) := by decide +kernel
theorem dX9_act_12 : decode cX9_act 12 = .ok (.aload_n 0, 1) := by decide +kernel
theorem dX9_act_13 : decode cX9_act 13 = .ok (.iconst 1, 1) := by decide +kernel
theorem dX9_act_14 : decode cX9_act 14 = .ok (.putfield 60, 3) := by decide +kernel
theorem dX9_act_17 : decode cX9_act 17 = .ok (.return_, 1) := by decide +kernel
theorem dX9_no_0 : decode cX9_no 0 = .ok (.iload_n 0, 1) := by decide +kernel
theorem dX9_no_1 : decode cX9_no 1 = .ok (.ifCond .lt 9, 3) := by decide +kernel
theorem dX9_no_4 : decode cX9_no 4 = .ok (.iload_n 0, 1) := by decide +kernel
theorem dX9_no_5 : decode cX9_no 5 = .ok (.bipush 12, 2) := by decide +kernel
theorem dX9_no_7 : decode cX9_no 7 = .ok (.if_icmp .lt 7, 3) := by decide +kernel
theorem dX9_no_10 : decode cX9_no 10 = .ok (.iconst 1, 1) := by decide +kernel
theorem dX9_no_11 : decode cX9_no 11 = .ok (.goto 4, 3) := by decide +kernel
theorem dX9_no_14 : decode cX9_no 14 = .ok (.iconst 0, 1) := by decide +kernel
theorem dX9_no_15 : decode cX9_no 15 = .ok (.ireturn, 1) := by decide +kernel
theorem dX9_feed_0 : decode cX9_feed 0 = .ok (.aload_n 0, 1) := by decide +kernel
theorem dX9_feed_1 : decode cX9_feed 1 = .ok (.iconst 0, 1) := by decide +kernel
theorem dX9_feed_2 : decode cX9_feed 2 = .ok (.putfield 1, 3) := by decide +kernel
theorem dX9_feed_5 : decode cX9_feed 5 = .ok (.aload_n 0, 1) := by decide +kernel
theorem dX9_feed_6 : decode cX9_feed 6 = .ok (.getfield 64, 3) := by decide +kernel
theorem dX9_feed_9 : decode cX9_feed 9 = .ok (.bipush 20, 2) := by decide +kernel
theorem dX9_feed_11 : decode cX9_feed 11 = .ok (.iadd, 1) := by decide +kernel
theorem dX9_feed_12 : decode cX9_feed 12 = .ok (.sipush 400, 3) := by decide +kernel
theorem dX9_feed_15 : decode cX9_feed 15 = .ok (.if_icmp .le 5, 3) := by decide +kernel
theorem dX9_feed_18 : decode cX9_feed 18 = .ok (.iconst (-1), 1) := by decide +kernel
theorem dX9_feed_19 : decode cX9_feed 19 = .ok (.ireturn, 1) := by decide +kernel
theorem dX9_feed_20 : decode cX9_feed 20 = .ok (.aload_n 0, 1) := by decide +kernel
theorem dX9_feed_21 : decode cX9_feed 21 = .ok (.iload_n 1, 1) := by decide +kernel
theorem dX9_feed_22 : decode cX9_feed 22 = .ok (.invokevirtual 67, 3) := by decide +kernel
theorem dX9_feed_25 : decode cX9_feed 25 = .ok (.aload_n 0, 1) := by decide +kernel
theorem dX9_feed_26 : decode cX9_feed 26 = .ok (.iload_n 2, 1) := by decide +kernel
theorem dX9_feed_27 : decode cX9_feed 27 = .ok (.invokevirtual 67, 3) := by decide +kernel
theorem dX9_feed_30 : decode cX9_feed 30 = .ok (.aload_n 0, 1) := by decide +kernel
theorem dX9_feed_31 : decode cX9_feed 31 = .ok (.iload_n 3, 1) := by decide +kernel
theorem dX9_feed_32 : decode cX9_feed 32 = .ok (.invokevirtual 67, 3) := by decide +kernel
theorem dX9_feed_35 : decode cX9_feed 35 = .ok (.aload_n 0, 1) := by decide +kernel
theorem dX9_feed_36 : decode cX9_feed 36 = .ok (.iload 4, 2) := by decide +kernel
theorem dX9_feed_38 : decode cX9_feed 38 = .ok (.invokevirtual 67, 3) := by decide +kernel
theorem dX9_feed_41 : decode cX9_feed 41 = .ok (.aload_n 0, 1) := by decide +kernel
theorem dX9_feed_42 : decode cX9_feed 42 = .ok (.iload 5, 2) := by decide +kernel
theorem dX9_feed_44 : decode cX9_feed 44 = .ok (.invokevirtual 67, 3) := by decide +kernel
theorem dX9_feed_47 : decode cX9_feed 47 = .ok (.aload_n 0, 1) := by decide +kernel
theorem dX9_feed_48 : decode cX9_feed 48 = .ok (.getfield 64, 3) := by decide +kernel
theorem dX9_feed_51 : decode cX9_feed 51 = .ok (.ireturn, 1) := by decide +kernel
theorem dX9_four_0 : decode cX9_four 0 = .ok (.bipush 24, 2) := by decide +kernel
theorem dX9_four_2 : decode cX9_four 2 = .ok (.istore_n 2, 1) := by decide +kernel
theorem dX9_four_3 : decode cX9_four 3 = .ok (.iload_n 2, 1) := by decide +kernel
theorem dX9_four_4 : decode cX9_four 4 = .ok (.ifCond .lt 32, 3) := by decide +kernel
theorem dX9_four_7 : decode cX9_four 7 = .ok (.aload_n 0, 1) := by decide +kernel
theorem dX9_four_8 : decode cX9_four 8 = .ok (.getfield 23, 3) := by decide +kernel
theorem dX9_four_11 : decode cX9_four 11 = .ok (.aload_n 0, 1) := by decide +kernel
theorem dX9_four_12 : decode cX9_four 12 = .ok (.getfield 64, 3) := by decide +kernel
theorem dX9_four_15 : decode cX9_four 15 = .ok (.iload_n 1, 1) := by decide +kernel
theorem dX9_four_16 : decode cX9_four 16 = .ok (.iload_n 2, 1) := by decide +kernel
theorem dX9_four_17 : decode cX9_four 17 = .ok (.ishr, 1) := by decide +kernel
theorem dX9_four_18 : decode cX9_four 18 = .ok (.i2b, 1) := by decide +kernel
theorem dX9_four_19 : decode cX9_four 19 = .ok (.bastore, 1) := by decide +kernel
theorem dX9_four_20 : decode cX9_four 20 = .ok (.aload_n 0, 1) := by decide +kernel
theorem dX9_four_21 : decode cX9_four 21 = .ok (.dup, 1) := by decide +kernel
theorem dX9_four_22 : decode cX9_four 22 = .ok (.getfield 64, 3) := by decide +kernel
theorem dX9_four_25 : decode cX9_four 25 = .ok (.iconst 1, 1) := by decide +kernel
theorem dX9_four_26 : decode cX9_four 26 = .ok (.iadd, 1) := by decide +kernel
theorem dX9_four_27 : decode cX9_four 27 = .ok (.putfield 64, 3) := by decide +kernel
theorem dX9_four_30 : decode cX9_four 30 = .ok (.iinc 2 (-8), 3) := by decide +kernel
theorem dX9_four_33 : decode cX9_four 33 = .ok (.goto (-30), 3) := by decide +kernel
theorem dX9_four_36 : decode cX9_four 36 = .ok (.return_, 1) := by decide +kernel
theorem dX9_end_0 : decode cX9_end 0 = .ok (.aload_n 0, 1) := by decide +kernel
theorem dX9_end_1 : decode cX9_end 1 = .ok (.iconst 0, 1) := by decide +kernel
theorem dX9_end_2 : decode cX9_end 2 = .ok (.putfield 1, 3) := by decide +kernel
theorem dX9_end_5 : decode cX9_end 5 = .ok (.iload_n 1, 1) := by decide +kernel
theorem dX9_end_6 : decode cX9_end 6 = .ok (.ifCond .lt 11, 3) := by decide +kernel
theorem dX9_end_9 : decode cX9_end 9 = .ok (.iload_n 1, 1) := by decide +kernel
theorem dX9_end_10 : decode cX9_end 10 = .ok (.aload_n 0, 1) := by decide +kernel
theorem dX9_end_11 : decode cX9_end 11 = .ok (.getfield 64, 3) := by decide +kernel
theorem dX9_end_14 : decode cX9_end 14 = .ok (.if_icmp .le 5, 3) := by decide +kernel
theorem dX9_end_17 : decode cX9_end 17 = .ok (.iconst 0, 1) := by decide +kernel
theorem dX9_end_18 : decode cX9_end 18 = .ok (.ireturn, 1) := by decide +kernel
theorem dX9_end_19 : decode cX9_end 19 = .ok (.aload_n 0, 1) := by decide +kernel
theorem dX9_end_20 : decode cX9_end 20 = .ok (.iload_n 1, 1) := by decide +kernel
theorem dX9_end_21 : decode cX9_end 21 = .ok (.putfield 64, 3) := by decide +kernel
theorem dX9_end_24 : decode cX9_end 24 = .ok (.iconst 1, 1) := by decide +kernel
theorem dX9_end_25 : decode cX9_end 25 = .ok (.ireturn, 1) := by decide +kernel
theorem dX9_put_0 : decode cX9_put 0 = .ok (.aload_n 0, 1) := by decide +kernel
theorem dX9_put_1 : decode cX9_put 1 = .ok (.iconst 0, 1) := by decide +kernel
theorem dX9_put_2 : decode cX9_put 2 = .ok (.putfield 1, 3) := by decide +kernel
theorem dX9_put_5 : decode cX9_put 5 = .ok (.iload_n 1, 1) := by decide +kernel
theorem dX9_put_6 : decode cX9_put 6 = .ok (.invokestatic 71, 3) := by decide +kernel
theorem dX9_put_9 : decode cX9_put 9 = .ok (.ifCond .ne 12, 3) := by decide +kernel
theorem dX9_put_12 : decode cX9_put 12 = .ok (.iload_n 2, 1) := by decide +kernel
theorem dX9_put_13 : decode cX9_put 13 = .ok (.ifCond .lt 8, 3) := by decide +kernel
theorem dX9_put_16 : decode cX9_put 16 = .ok (.iload_n 2, 1) := by decide +kernel
theorem dX9_put_17 : decode cX9_put 17 = .ok (.iconst 4, 1) := by decide +kernel
theorem dX9_put_18 : decode cX9_put 18 = .ok (.if_icmp .le 5, 3) := by decide +kernel
theorem dX9_put_21 : decode cX9_put 21 = .ok (.iconst 0, 1) := by decide +kernel
theorem dX9_put_22 : decode cX9_put 22 = .ok (.ireturn, 1) := by decide +kernel
theorem dX9_put_23 : decode cX9_put 23 = .ok (.iload_n 2, 1) := by decide +kernel
theorem dX9_put_24 : decode cX9_put 24 = .ok (.iconst 1, 1) := by decide +kernel
theorem dX9_put_25 : decode cX9_put 25 = .ok (.if_icmp .ne 14, 3) := by decide +kernel
theorem dX9_put_28 : decode cX9_put 28 = .ok (.iload_n 3, 1) := by decide +kernel
theorem dX9_put_29 : decode cX9_put 29 = .ok (.iconst 1, 1) := by decide +kernel
theorem dX9_put_30 : decode cX9_put 30 = .ok (.if_icmp .lt 52, 3) := by decide +kernel
theorem dX9_put_33 : decode cX9_put 33 = .ok (.iload_n 3, 1) := by decide +kernel
theorem dX9_put_34 : decode cX9_put 34 = .ok (.ldc 75, 2) := by decide +kernel
theorem dX9_put_36 : decode cX9_put 36 = .ok (.if_icmp .gt 46, 3) := by decide +kernel
theorem dX9_put_39 : decode cX9_put 39 = .ok (.iload_n 2, 1) := by decide +kernel
theorem dX9_put_40 : decode cX9_put 40 = .ok (.iconst 3, 1) := by decide +kernel
theorem dX9_put_41 : decode cX9_put 41 = .ok (.if_icmp .ne 21, 3) := by decide +kernel
theorem dX9_put_44 : decode cX9_put 44 = .ok (.iload_n 3, 1) := by decide +kernel
theorem dX9_put_45 : decode cX9_put 45 = .ok (.ifCond .lt 37, 3) := by decide +kernel
theorem dX9_put_48 : decode cX9_put 48 = .ok (.iload 4, 2) := by decide +kernel
theorem dX9_put_50 : decode cX9_put 50 = .ok (.iload_n 3, 1) := by decide +kernel
theorem dX9_put_51 : decode cX9_put 51 = .ok (.if_icmp .lt 31, 3) := by decide +kernel
theorem dX9_put_54 : decode cX9_put 54 = .ok (.iload 4, 2) := by decide +kernel
theorem dX9_put_56 : decode cX9_put 56 = .ok (.sipush 399, 3) := by decide +kernel
theorem dX9_put_59 : decode cX9_put 59 = .ok (.if_icmp .gt 23, 3) := by decide +kernel
theorem dX9_put_62 : decode cX9_put 62 = .ok (.iload_n 2, 1) := by decide +kernel
theorem dX9_put_63 : decode cX9_put 63 = .ok (.iconst 4, 1) := by decide +kernel
theorem dX9_put_64 : decode cX9_put 64 = .ok (.if_icmp .ne 20, 3) := by decide +kernel
theorem dX9_put_67 : decode cX9_put 67 = .ok (.iload_n 3, 1) := by decide +kernel
theorem dX9_put_68 : decode cX9_put 68 = .ok (.invokestatic 71, 3) := by decide +kernel
theorem dX9_put_71 : decode cX9_put 71 = .ok (.ifCond .ne 11, 3) := by decide +kernel
theorem dX9_put_74 : decode cX9_put 74 = .ok (.iload 4, 2) := by decide +kernel
theorem dX9_put_76 : decode cX9_put 76 = .ok (.invokestatic 71, 3) := by decide +kernel
theorem dX9_put_79 : decode cX9_put 79 = .ok (.ifCond .eq 5, 3) := by decide +kernel
theorem dX9_put_82 : decode cX9_put 82 = .ok (.iconst 0, 1) := by decide +kernel
theorem dX9_put_83 : decode cX9_put 83 = .ok (.ireturn, 1) := by decide +kernel
theorem dX9_put_84 : decode cX9_put 84 = .ok (.aload_n 0, 1) := by decide +kernel
theorem dX9_put_85 : decode cX9_put 85 = .ok (.invokevirtual 76, 3) := by decide +kernel
theorem dX9_put_88 : decode cX9_put 88 = .ok (.aload_n 0, 1) := by decide +kernel
theorem dX9_put_89 : decode cX9_put 89 = .ok (.getfield 13, 3) := by decide +kernel
theorem dX9_put_92 : decode cX9_put 92 = .ok (.sipush 404, 3) := by decide +kernel
theorem dX9_put_95 : decode cX9_put 95 = .ok (.iload_n 1, 1) := by decide +kernel
theorem dX9_put_96 : decode cX9_put 96 = .ok (.imul, 1) := by decide +kernel
theorem dX9_put_97 : decode cX9_put 97 = .ok (.iload_n 2, 1) := by decide +kernel
theorem dX9_put_98 : decode cX9_put 98 = .ok (.iastore, 1) := by decide +kernel
theorem dX9_put_99 : decode cX9_put 99 = .ok (.aload_n 0, 1) := by decide +kernel
theorem dX9_put_100 : decode cX9_put 100 = .ok (.getfield 13, 3) := by decide +kernel
theorem dX9_put_103 : decode cX9_put 103 = .ok (.sipush 404, 3) := by decide +kernel
theorem dX9_put_106 : decode cX9_put 106 = .ok (.iload_n 1, 1) := by decide +kernel
theorem dX9_put_107 : decode cX9_put 107 = .ok (.imul, 1) := by decide +kernel
theorem dX9_put_108 : decode cX9_put 108 = .ok (.iconst 1, 1) := by decide +kernel
theorem dX9_put_109 : decode cX9_put 109 = .ok (.iadd, 1) := by decide +kernel
theorem dX9_put_110 : decode cX9_put 110 = .ok (.iload_n 3, 1) := by decide +kernel
theorem dX9_put_111 : decode cX9_put 111 = .ok (.iastore, 1) := by decide +kernel
theorem dX9_put_112 : decode cX9_put 112 = .ok (.aload_n 0, 1) := by decide +kernel
theorem dX9_put_113 : decode cX9_put 113 = .ok (.getfield 13, 3) := by decide +kernel
theorem dX9_put_116 : decode cX9_put 116 = .ok (.sipush 404, 3) := by decide +kernel
theorem dX9_put_119 : decode cX9_put 119 = .ok (.iload_n 1, 1) := by decide +kernel
theorem dX9_put_120 : decode cX9_put 120 = .ok (.imul, 1) := by decide +kernel
theorem dX9_put_121 : decode cX9_put 121 = .ok (.iconst 2, 1) := by decide +kernel
theorem dX9_put_122 : decode cX9_put 122 = .ok (.iadd, 1) := by decide +kernel
theorem dX9_put_123 : decode cX9_put 123 = .ok (.iload 4, 2) := by decide +kernel
theorem dX9_put_125 : decode cX9_put 125 = .ok (.iastore, 1) := by decide +kernel
theorem dX9_put_126 : decode cX9_put 126 = .ok (.aload_n 0, 1) := by decide +kernel
theorem dX9_put_127 : decode cX9_put 127 = .ok (.getfield 13, 3) := by decide +kernel
theorem dX9_put_130 : decode cX9_put 130 = .ok (.sipush 404, 3) := by decide +kernel
theorem dX9_put_133 : decode cX9_put 133 = .ok (.iload_n 1, 1) := by decide +kernel
theorem dX9_put_134 : decode cX9_put 134 = .ok (.imul, 1) := by decide +kernel
theorem dX9_put_135 : decode cX9_put 135 = .ok (.iconst 3, 1) := by decide +kernel
theorem dX9_put_136 : decode cX9_put 136 = .ok (.iadd, 1) := by decide +kernel
theorem dX9_put_137 : decode cX9_put 137 = .ok (.iconst 0, 1) := by decide +kernel
theorem dX9_put_138 : decode cX9_put 138 = .ok (.iastore, 1) := by decide +kernel
theorem dX9_put_139 : decode cX9_put 139 = .ok (.iconst 1, 1) := by decide +kernel
theorem dX9_put_140 : decode cX9_put 140 = .ok (.ireturn, 1) := by decide +kernel
theorem dX9_plug_0 : decode cX9_plug 0 = .ok (.aload_n 0, 1) := by decide +kernel
theorem dX9_plug_1 : decode cX9_plug 1 = .ok (.iconst 0, 1) := by decide +kernel
theorem dX9_plug_2 : decode cX9_plug 2 = .ok (.putfield 1, 3) := by decide +kernel
theorem dX9_plug_5 : decode cX9_plug 5 = .ok (.iload_n 1, 1) := by decide +kernel
theorem dX9_plug_6 : decode cX9_plug 6 = .ok (.invokestatic 71, 3) := by decide +kernel
theorem dX9_plug_9 : decode cX9_plug 9 = .ok (.ifCond .eq 5, 3) := by decide +kernel
theorem dX9_plug_12 : decode cX9_plug 12 = .ok (.iconst 0, 1) := by decide +kernel
theorem dX9_plug_13 : decode cX9_plug 13 = .ok (.ireturn, 1) := by decide +kernel
theorem dX9_plug_14 : decode cX9_plug 14 = .ok (.aload_n 0, 1) := by decide +kernel
theorem dX9_plug_15 : decode cX9_plug 15 = .ok (.invokevirtual 76, 3) := by decide +kernel
theorem dX9_plug_18 : decode cX9_plug 18 = .ok (.aload_n 0, 1) := by decide +kernel
theorem dX9_plug_19 : decode cX9_plug 19 = .ok (.getfield 13, 3) := by decide +kernel
theorem dX9_plug_22 : decode cX9_plug 22 = .ok (.sipush 404, 3) := by decide +kernel
theorem dX9_plug_25 : decode cX9_plug 25 = .ok (.iload_n 1, 1) := by decide +kernel
theorem dX9_plug_26 : decode cX9_plug 26 = .ok (.imul, 1) := by decide +kernel
theorem dX9_plug_27 : decode cX9_plug 27 = .ok (.iconst 5, 1) := by decide +kernel
theorem dX9_plug_28 : decode cX9_plug 28 = .ok (.iastore, 1) := by decide +kernel
theorem dX9_plug_29 : decode cX9_plug 29 = .ok (.aload_n 0, 1) := by decide +kernel
theorem dX9_plug_30 : decode cX9_plug 30 = .ok (.getfield 13, 3) := by decide +kernel
theorem dX9_plug_33 : decode cX9_plug 33 = .ok (.sipush 404, 3) := by decide +kernel
theorem dX9_plug_36 : decode cX9_plug 36 = .ok (.iload_n 1, 1) := by decide +kernel
theorem dX9_plug_37 : decode cX9_plug 37 = .ok (.imul, 1) := by decide +kernel
theorem dX9_plug_38 : decode cX9_plug 38 = .ok (.iconst 3, 1) := by decide +kernel
theorem dX9_plug_39 : decode cX9_plug 39 = .ok (.iadd, 1) := by decide +kernel
theorem dX9_plug_40 : decode cX9_plug 40 = .ok (.iconst 0, 1) := by decide +kernel
theorem dX9_plug_41 : decode cX9_plug 41 = .ok (.iastore, 1) := by decide +kernel
theorem dX9_plug_42 : decode cX9_plug 42 = .ok (.iconst 1, 1) := by decide +kernel
theorem dX9_plug_43 : decode cX9_plug 43 = .ok (.ireturn, 1) := by decide +kernel
theorem dX9_take_0 : decode cX9_take 0 = .ok (.aload_n 0, 1) := by decide +kernel
theorem dX9_take_1 : decode cX9_take 1 = .ok (.iconst 0, 1) := by decide +kernel
theorem dX9_take_2 : decode cX9_take 2 = .ok (.putfield 1, 3) := by decide +kernel
theorem dX9_take_5 : decode cX9_take 5 = .ok (.iload_n 1, 1) := by decide +kernel
theorem dX9_take_6 : decode cX9_take 6 = .ok (.invokestatic 71, 3) := by decide +kernel
theorem dX9_take_9 : decode cX9_take 9 = .ok (.ifCond .ne 17, 3) := by decide +kernel
theorem dX9_take_12 : decode cX9_take 12 = .ok (.aload_n 0, 1) := by decide +kernel
theorem dX9_take_13 : decode cX9_take 13 = .ok (.getfield 13, 3) := by decide +kernel
theorem dX9_take_16 : decode cX9_take 16 = .ok (.sipush 404, 3) := by decide +kernel
theorem dX9_take_19 : decode cX9_take 19 = .ok (.iload_n 1, 1) := by decide +kernel
theorem dX9_take_20 : decode cX9_take 20 = .ok (.imul, 1) := by decide +kernel
theorem dX9_take_21 : decode cX9_take 21 = .ok (.iaload, 1) := by decide +kernel
theorem dX9_take_22 : decode cX9_take 22 = .ok (.iconst (-1), 1) := by decide +kernel
theorem dX9_take_23 : decode cX9_take 23 = .ok (.if_icmp .ne 5, 3) := by decide +kernel
theorem dX9_take_26 : decode cX9_take 26 = .ok (.iconst 0, 1) := by decide +kernel
theorem dX9_take_27 : decode cX9_take 27 = .ok (.ireturn, 1) := by decide +kernel
theorem dX9_take_28 : decode cX9_take 28 = .ok (.aload_n 0, 1) := by decide +kernel
theorem dX9_take_29 : decode cX9_take 29 = .ok (.invokevirtual 76, 3) := by decide +kernel
theorem dX9_take_32 : decode cX9_take 32 = .ok (.aload_n 0, 1) := by decide +kernel
theorem dX9_take_33 : decode cX9_take 33 = .ok (.getfield 13, 3) := by decide +kernel
theorem dX9_take_36 : decode cX9_take 36 = .ok (.sipush 404, 3) := by decide +kernel
theorem dX9_take_39 : decode cX9_take 39 = .ok (.iload_n 1, 1) := by decide +kernel
theorem dX9_take_40 : decode cX9_take 40 = .ok (.imul, 1) := by decide +kernel
theorem dX9_take_41 : decode cX9_take 41 = .ok (.iconst (-1), 1) := by decide +kernel
theorem dX9_take_42 : decode cX9_take 42 = .ok (.iastore, 1) := by decide +kernel
theorem dX9_take_43 : decode cX9_take 43 = .ok (.aload_n 0, 1) := by decide +kernel
theorem dX9_take_44 : decode cX9_take 44 = .ok (.getfield 13, 3) := by decide +kernel
theorem dX9_take_47 : decode cX9_take 47 = .ok (.sipush 404, 3) := by decide +kernel
theorem dX9_take_50 : decode cX9_take 50 = .ok (.iload_n 1, 1) := by decide +kernel
theorem dX9_take_51 : decode cX9_take 51 = .ok (.imul, 1) := by decide +kernel
theorem dX9_take_52 : decode cX9_take 52 = .ok (.iconst 3, 1) := by decide +kernel
theorem dX9_take_53 : decode cX9_take 53 = .ok (.iadd, 1) := by decide +kernel
theorem dX9_take_54 : decode cX9_take 54 = .ok (.iconst 0, 1) := by decide +kernel
theorem dX9_take_55 : decode cX9_take 55 = .ok (.iastore, 1) := by decide +kernel
theorem dX9_take_56 : decode cX9_take 56 = .ok (.iconst 1, 1) := by decide +kernel
theorem dX9_take_57 : decode cX9_take 57 = .ok (.ireturn, 1) := by decide +kernel
theorem dX9_kindOf_0 : decode cX9_kindOf 0 = .ok (.iload_n 1, 1) := by decide +kernel
theorem dX9_kindOf_1 : decode cX9_kindOf 1 = .ok (.invokestatic 71, 3) := by decide +kernel
theorem dX9_kindOf_4 : decode cX9_kindOf 4 = .ok (.ifCond .eq 8, 3) := by decide +kernel
theorem dX9_kindOf_7 : decode cX9_kindOf 7 = .ok (.bipush (-2), 2) := by decide +kernel
theorem dX9_kindOf_9 : decode cX9_kindOf 9 = .ok (.goto 13, 3) := by decide +kernel
theorem dX9_kindOf_12 : decode cX9_kindOf 12 = .ok (.aload_n 0, 1) := by decide +kernel
theorem dX9_kindOf_13 : decode cX9_kindOf 13 = .ok (.getfield 13, 3) := by decide +kernel
theorem dX9_kindOf_16 : decode cX9_kindOf 16 = .ok (.sipush 404, 3) := by decide +kernel
theorem dX9_kindOf_19 : decode cX9_kindOf 19 = .ok (.iload_n 1, 1) := by decide +kernel
theorem dX9_kindOf_20 : decode cX9_kindOf 20 = .ok (.imul, 1) := by decide +kernel
theorem dX9_kindOf_21 : decode cX9_kindOf 21 = .ok (.iaload, 1) := by decide +kernel
theorem dX9_kindOf_22 : decode cX9_kindOf 22 = .ok (.ireturn, 1) := by decide +kernel
theorem dX9_kind_0 : decode cX9_kind 0 = .ok (.aload_n 0, 1) := by decide +kernel
theorem dX9_kind_1 : decode cX9_kind 1 = .ok (.iconst 0, 1) := by decide +kernel
theorem dX9_kind_2 : decode cX9_kind 2 = .ok (.putfield 1, 3) := by decide +kernel
theorem dX9_kind_5 : decode cX9_kind 5 = .ok (.aload_n 0, 1) := by decide +kernel
theorem dX9_kind_6 : decode cX9_kind 6 = .ok (.iload_n 1, 1) := by decide +kernel
theorem dX9_kind_7 : decode cX9_kind 7 = .ok (.invokevirtual 79, 3) := by decide +kernel
theorem dX9_kind_10 : decode cX9_kind 10 = .ok (.ireturn, 1) := by decide +kernel
theorem dX9_isGauge_0 : decode cX9_isGauge 0 = .ok (.aload_n 0, 1) := by decide +kernel
theorem dX9_isGauge_1 : decode cX9_isGauge 1 = .ok (.iload_n 1, 1) := by decide +kernel
theorem dX9_isGauge_2 : decode cX9_isGauge 2 = .ok (.invokevirtual 79, 3) := by decide +kernel
theorem dX9_isGauge_5 : decode cX9_isGauge 5 = .ok (.ifCond .lt 16, 3) := by decide +kernel
theorem dX9_isGauge_8 : decode cX9_isGauge 8 = .ok (.aload_n 0, 1) := by decide +kernel
theorem dX9_isGauge_9 : decode cX9_isGauge 9 = .ok (.iload_n 1, 1) := by decide +kernel
theorem dX9_isGauge_10 : decode cX9_isGauge 10 = .ok (.invokevirtual 79, 3) := by decide +kernel
theorem dX9_isGauge_13 : decode cX9_isGauge 13 = .ok (.iconst 4, 1) := by decide +kernel
theorem dX9_isGauge_14 : decode cX9_isGauge 14 = .ok (.if_icmp .gt 7, 3) := by decide +kernel
theorem dX9_isGauge_17 : decode cX9_isGauge 17 = .ok (.iconst 1, 1) := by decide +kernel
theorem dX9_isGauge_18 : decode cX9_isGauge 18 = .ok (.goto 4, 3) := by decide +kernel
theorem dX9_isGauge_21 : decode cX9_isGauge 21 = .ok (.iconst 0, 1) := by decide +kernel
theorem dX9_isGauge_22 : decode cX9_isGauge 22 = .ok (.ireturn, 1) := by decide +kernel
theorem dX9_isOwn_0 : decode cX9_isOwn 0 = .ok (.aload_n 0, 1) := by decide +kernel
theorem dX9_isOwn_1 : decode cX9_isOwn 1 = .ok (.iload_n 1, 1) := by decide +kernel
theorem dX9_isOwn_2 : decode cX9_isOwn 2 = .ok (.invokevirtual 79, 3) := by decide +kernel
theorem dX9_isOwn_5 : decode cX9_isOwn 5 = .ok (.ifCond .lt 16, 3) := by decide +kernel
theorem dX9_isOwn_8 : decode cX9_isOwn 8 = .ok (.aload_n 0, 1) := by decide +kernel
theorem dX9_isOwn_9 : decode cX9_isOwn 9 = .ok (.iload_n 1, 1) := by decide +kernel
theorem dX9_isOwn_10 : decode cX9_isOwn 10 = .ok (.invokevirtual 79, 3) := by decide +kernel
theorem dX9_isOwn_13 : decode cX9_isOwn 13 = .ok (.iconst 4, 1) := by decide +kernel
theorem dX9_isOwn_14 : decode cX9_isOwn 14 = .ok (.if_icmp .ge 7, 3) := by decide +kernel
theorem dX9_isOwn_17 : decode cX9_isOwn 17 = .ok (.iconst 1, 1) := by decide +kernel
theorem dX9_isOwn_18 : decode cX9_isOwn 18 = .ok (.goto 4, 3) := by decide +kernel
theorem dX9_isOwn_21 : decode cX9_isOwn 21 = .ok (.iconst 0, 1) := by decide +kernel
theorem dX9_isOwn_22 : decode cX9_isOwn 22 = .ok (.ireturn, 1) := by decide +kernel
theorem dX9_spans_0 : decode cX9_spans 0 = .ok (.aload_n 0, 1) := by decide +kernel
theorem dX9_spans_1 : decode cX9_spans 1 = .ok (.iload_n 1, 1) := by decide +kernel
theorem dX9_spans_2 : decode cX9_spans 2 = .ok (.invokevirtual 79, 3) := by decide +kernel
theorem dX9_spans_5 : decode cX9_spans 5 = .ok (.iconst 4, 1) := by decide +kernel
theorem dX9_spans_6 : decode cX9_spans 6 = .ok (.if_icmp .eq 16, 3) := by decide +kernel
theorem dX9_spans_9 : decode cX9_spans 9 = .ok (.aload_n 0, 1) := by decide +kernel
theorem dX9_spans_10 : decode cX9_spans 10 = .ok (.getfield 13, 3) := by decide +kernel
theorem dX9_spans_13 : decode cX9_spans 13 = .ok (.sipush 404, 3) := by decide +kernel
theorem dX9_spans_16 : decode cX9_spans 16 = .ok (.iload_n 1, 1) := by decide +kernel
theorem dX9_spans_17 : decode cX9_spans 17 = .ok (.imul, 1) := by decide +kernel
theorem dX9_spans_18 : decode cX9_spans 18 = .ok (.iconst 3, 1) := by decide +kernel
theorem dX9_spans_19 : decode cX9_spans 19 = .ok (.iadd, 1) := by decide +kernel
theorem dX9_spans_20 : decode cX9_spans 20 = .ok (.iaload, 1) := by decide +kernel
theorem dX9_spans_21 : decode cX9_spans 21 = .ok (.ireturn, 1) := by decide +kernel
theorem dX9_spans_22 : decode cX9_spans 22 = .ok (.aload_n 0, 1) := by decide +kernel
theorem dX9_spans_23 : decode cX9_spans 23 = .ok (.getfield 13, 3) := by decide +kernel
theorem dX9_spans_26 : decode cX9_spans 26 = .ok (.sipush 404, 3) := by decide +kernel
theorem dX9_spans_29 : decode cX9_spans 29 = .ok (.iload_n 1, 1) := by decide +kernel
theorem dX9_spans_30 : decode cX9_spans 30 = .ok (.imul, 1) := by decide +kernel
theorem dX9_spans_31 : decode cX9_spans 31 = .ok (.iconst 1, 1) := by decide +kernel
theorem dX9_spans_32 : decode cX9_spans 32 = .ok (.iadd, 1) := by decide +kernel
theorem dX9_spans_33 : decode cX9_spans 33 = .ok (.iaload, 1) := by decide +kernel
theorem dX9_spans_34 : decode cX9_spans 34 = .ok (.istore_n 2, 1) := by decide +kernel
theorem dX9_spans_35 : decode cX9_spans 35 = .ok (.aload_n 0, 1) := by decide +kernel
theorem dX9_spans_36 : decode cX9_spans 36 = .ok (.getfield 13, 3) := by decide +kernel
theorem dX9_spans_39 : decode cX9_spans 39 = .ok (.sipush 404, 3) := by decide +kernel
theorem dX9_spans_42 : decode cX9_spans 42 = .ok (.iload_n 1, 1) := by decide +kernel
theorem dX9_spans_43 : decode cX9_spans 43 = .ok (.imul, 1) := by decide +kernel
theorem dX9_spans_44 : decode cX9_spans 44 = .ok (.iconst 2, 1) := by decide +kernel
theorem dX9_spans_45 : decode cX9_spans 45 = .ok (.iadd, 1) := by decide +kernel
theorem dX9_spans_46 : decode cX9_spans 46 = .ok (.iaload, 1) := by decide +kernel
theorem dX9_spans_47 : decode cX9_spans 47 = .ok (.istore_n 3, 1) := by decide +kernel
theorem dX9_spans_48 : decode cX9_spans 48 = .ok (.aload_n 0, 1) := by decide +kernel
theorem dX9_spans_49 : decode cX9_spans 49 = .ok (.iload_n 2, 1) := by decide +kernel
theorem dX9_spans_50 : decode cX9_spans 50 = .ok (.invokevirtual 83, 3) := by decide +kernel
theorem dX9_spans_53 : decode cX9_spans 53 = .ok (.ifCond .eq 11, 3) := by decide +kernel
theorem dX9_spans_56 : decode cX9_spans 56 = .ok (.aload_n 0, 1) := by decide +kernel
theorem dX9_spans_57 : decode cX9_spans 57 = .ok (.iload_n 3, 1) := by decide +kernel
theorem dX9_spans_58 : decode cX9_spans 58 = .ok (.invokevirtual 83, 3) := by decide +kernel
theorem dX9_spans_61 : decode cX9_spans 61 = .ok (.ifCond .ne 5, 3) := by decide +kernel
theorem dX9_spans_64 : decode cX9_spans 64 = .ok (.iconst 0, 1) := by decide +kernel
theorem dX9_spans_65 : decode cX9_spans 65 = .ok (.ireturn, 1) := by decide +kernel
theorem dX9_spans_66 : decode cX9_spans 66 = .ok (.aload_n 0, 1) := by decide +kernel
theorem dX9_spans_67 : decode cX9_spans 67 = .ok (.getfield 13, 3) := by decide +kernel
theorem dX9_spans_70 : decode cX9_spans 70 = .ok (.sipush 404, 3) := by decide +kernel
theorem dX9_spans_73 : decode cX9_spans 73 = .ok (.iload_n 2, 1) := by decide +kernel
theorem dX9_spans_74 : decode cX9_spans 74 = .ok (.imul, 1) := by decide +kernel
theorem dX9_spans_75 : decode cX9_spans 75 = .ok (.iconst 3, 1) := by decide +kernel
theorem dX9_spans_76 : decode cX9_spans 76 = .ok (.iadd, 1) := by decide +kernel
theorem dX9_spans_77 : decode cX9_spans 77 = .ok (.iaload, 1) := by decide +kernel
theorem dX9_spans_78 : decode cX9_spans 78 = .ok (.istore 4, 2) := by decide +kernel
theorem dX9_spans_80 : decode cX9_spans 80 = .ok (.aload_n 0, 1) := by decide +kernel
theorem dX9_spans_81 : decode cX9_spans 81 = .ok (.getfield 13, 3) := by decide +kernel
theorem dX9_spans_84 : decode cX9_spans 84 = .ok (.sipush 404, 3) := by decide +kernel
theorem dX9_spans_87 : decode cX9_spans 87 = .ok (.iload_n 3, 1) := by decide +kernel
theorem dX9_spans_88 : decode cX9_spans 88 = .ok (.imul, 1) := by decide +kernel
theorem dX9_spans_89 : decode cX9_spans 89 = .ok (.iconst 3, 1) := by decide +kernel
theorem dX9_spans_90 : decode cX9_spans 90 = .ok (.iadd, 1) := by decide +kernel
theorem dX9_spans_91 : decode cX9_spans 91 = .ok (.iaload, 1) := by decide +kernel
theorem dX9_spans_92 : decode cX9_spans 92 = .ok (.istore 5, 2) := by decide +kernel
theorem dX9_spans_94 : decode cX9_spans 94 = .ok (.iload 4, 2) := by decide +kernel
theorem dX9_spans_96 : decode cX9_spans 96 = .ok (.iload 5, 2) := by decide +kernel
theorem dX9_spans_98 : decode cX9_spans 98 = .ok (.if_icmp .ge 8, 3) := by decide +kernel
theorem dX9_spans_101 : decode cX9_spans 101 = .ok (.iload 4, 2) := by decide +kernel
theorem dX9_spans_103 : decode cX9_spans 103 = .ok (.goto 5, 3) := by decide +kernel
theorem dX9_spans_106 : decode cX9_spans 106 = .ok (.iload 5, 2) := by decide +kernel
theorem dX9_spans_108 : decode cX9_spans 108 = .ok (.ireturn, 1) := by decide +kernel
theorem dX9_at_0 : decode cX9_at 0 = .ok (.aload_n 0, 1) := by decide +kernel
theorem dX9_at_1 : decode cX9_at 1 = .ok (.iload_n 1, 1) := by decide +kernel
theorem dX9_at_2 : decode cX9_at 2 = .ok (.invokevirtual 79, 3) := by decide +kernel
theorem dX9_at_5 : decode cX9_at 5 = .ok (.iconst 4, 1) := by decide +kernel
theorem dX9_at_6 : decode cX9_at 6 = .ok (.if_icmp .eq 18, 3) := by decide +kernel
theorem dX9_at_9 : decode cX9_at 9 = .ok (.aload_n 0, 1) := by decide +kernel
theorem dX9_at_10 : decode cX9_at 10 = .ok (.getfield 13, 3) := by decide +kernel
theorem dX9_at_13 : decode cX9_at 13 = .ok (.sipush 404, 3) := by decide +kernel
theorem dX9_at_16 : decode cX9_at 16 = .ok (.iload_n 1, 1) := by decide +kernel
theorem dX9_at_17 : decode cX9_at 17 = .ok (.imul, 1) := by decide +kernel
theorem dX9_at_18 : decode cX9_at 18 = .ok (.iconst 4, 1) := by decide +kernel
theorem dX9_at_19 : decode cX9_at 19 = .ok (.iadd, 1) := by decide +kernel
theorem dX9_at_20 : decode cX9_at 20 = .ok (.iload_n 2, 1) := by decide +kernel
