theorem dX5_closesCycle_9 : decode cX5_closesCycle 9 = .ok (.ireturn, 1) := by decide +kernel
theorem dX5_closesCycle_10 : decode cX5_closesCycle 10 = .ok (.aload_n 0, 1) := by decide +kernel
theorem dX5_closesCycle_11 : decode cX5_closesCycle 11 = .ok (.aload_n 0, 1) := by decide +kernel
theorem dX5_closesCycle_12 : decode cX5_closesCycle 12 = .ok (.aload_n 0, 1) := by decide +kernel
theorem dX5_closesCycle_13 : decode cX5_closesCycle 13 = .ok (.getfield 84, 3) := by decide +kernel
theorem dX5_closesCycle_16 : decode cX5_closesCycle 16 = .ok (.iconst 4, 1) := by decide +kernel
theorem dX5_closesCycle_17 : decode cX5_closesCycle 17 = .ok (.isub, 1) := by decide +kernel
theorem dX5_closesCycle_18 : decode cX5_closesCycle 18 = .ok (.invokevirtual 97, 3) := by decide +kernel
theorem dX5_closesCycle_21 : decode cX5_closesCycle 21 = .ok (.invokevirtual 100, 3) := by decide +kernel
theorem dX5_closesCycle_24 : decode cX5_closesCycle 24 = .ok (.istore_n 1, 1) := by decide +kernel
theorem dX5_closesCycle_25 : decode cX5_closesCycle 25 = .ok (.aload_n 0, 1) := by decide +kernel
theorem dX5_closesCycle_26 : decode cX5_closesCycle 26 = .ok (.aload_n 0, 1) := by decide +kernel
theorem dX5_closesCycle_27 : decode cX5_closesCycle 27 = .ok (.aload_n 0, 1) := by decide +kernel
theorem dX5_closesCycle_28 : decode cX5_closesCycle 28 = .ok (.getfield 84, 3) := by decide +kernel
theorem dX5_closesCycle_31 : decode cX5_closesCycle 31 = .ok (.iconst 3, 1) := by decide +kernel
theorem dX5_closesCycle_32 : decode cX5_closesCycle 32 = .ok (.isub, 1) := by decide +kernel
theorem dX5_closesCycle_33 : decode cX5_closesCycle 33 = .ok (.invokevirtual 97, 3) := by decide +kernel
theorem dX5_closesCycle_36 : decode cX5_closesCycle 36 = .ok (.invokevirtual 100, 3) := by decide +kernel
theorem dX5_closesCycle_39 : decode cX5_closesCycle 39 = .ok (.istore_n 2, 1) := by decide +kernel
theorem dX5_closesCycle_40 : decode cX5_closesCycle 40 = .ok (.aload_n 0, 1) := by decide +kernel
theorem dX5_closesCycle_41 : decode cX5_closesCycle 41 = .ok (.aload_n 0, 1) := by decide +kernel
theorem dX5_closesCycle_42 : decode cX5_closesCycle 42 = .ok (.aload_n 0, 1) := by decide +kernel
theorem dX5_closesCycle_43 : decode cX5_closesCycle 43 = .ok (.getfield 84, 3) := by decide +kernel
theorem dX5_closesCycle_46 : decode cX5_closesCycle 46 = .ok (.iconst 2, 1) := by decide +kernel
theorem dX5_closesCycle_47 : decode cX5_closesCycle 47 = .ok (.isub, 1) := by decide +kernel
theorem dX5_closesCycle_48 : decode cX5_closesCycle 48 = .ok (.invokevirtual 97, 3) := by decide +kernel
theorem dX5_closesCycle_51 : decode cX5_closesCycle 51 = .ok (.invokevirtual 100, 3) := by decide +kernel
theorem dX5_closesCycle_54 : decode cX5_closesCycle 54 = .ok (.istore_n 3, 1) := by decide +kernel
theorem dX5_closesCycle_55 : decode cX5_closesCycle 55 = .ok (.aload_n 0, 1) := by decide +kernel
theorem dX5_closesCycle_56 : decode cX5_closesCycle 56 = .ok (.aload_n 0, 1) := by decide +kernel
theorem dX5_closesCycle_57 : decode cX5_closesCycle 57 = .ok (.aload_n 0, 1) := by decide +kernel
theorem dX5_closesCycle_58 : decode cX5_closesCycle 58 = .ok (.getfield 84, 3) := by decide +kernel
theorem dX5_closesCycle_61 : decode cX5_closesCycle 61 = .ok (.iconst 1, 1) := by decide +kernel
theorem dX5_closesCycle_62 : decode cX5_closesCycle 62 = .ok (.isub, 1) := by decide +kernel
theorem dX5_closesCycle_63 : decode cX5_closesCycle 63 = .ok (.invokevirtual 97, 3) := by decide +kernel
theorem dX5_closesCycle_66 : decode cX5_closesCycle 66 = .ok (.invokevirtual 100, 3) := by decide +kernel
theorem dX5_closesCycle_69 : decode cX5_closesCycle 69 = .ok (.istore 4, 2) := by decide +kernel
theorem dX5_closesCycle_71 : decode cX5_closesCycle 71 = .ok (.iload_n 1, 1) := by decide +kernel
theorem dX5_closesCycle_72 : decode cX5_closesCycle 72 = .ok (.iload 4, 2) := by decide +kernel
theorem dX5_closesCycle_74 : decode cX5_closesCycle 74 = .ok (.invokestatic 103, 3) := by decide +kernel
theorem dX5_closesCycle_77 : decode cX5_closesCycle 77 = .ok (.istore 5, 2) := by decide +kernel
theorem dX5_closesCycle_79 : decode cX5_closesCycle 79 = .ok (.iload_n 1, 1) := by decide +kernel
theorem dX5_closesCycle_80 : decode cX5_closesCycle 80 = .ok (.iload 4, 2) := by decide +kernel
theorem dX5_closesCycle_82 : decode cX5_closesCycle 82 = .ok (.invokestatic 107, 3) := by decide +kernel
theorem dX5_closesCycle_85 : decode cX5_closesCycle 85 = .ok (.istore 6, 2) := by decide +kernel
theorem dX5_closesCycle_87 : decode cX5_closesCycle 87 = .ok (.iload_n 2, 1) := by decide +kernel
theorem dX5_closesCycle_88 : decode cX5_closesCycle 88 = .ok (.i2l, 1) := by decide +kernel
theorem dX5_closesCycle_89 : decode cX5_closesCycle 89 = .ok (.iload 5, 2) := by decide +kernel
theorem dX5_closesCycle_91 : decode cX5_closesCycle 91 = .ok (.iload 6, 2) := by decide +kernel
theorem dX5_closesCycle_93 : decode cX5_closesCycle 93 = .ok (.invokestatic 110, 3) := by decide +kernel
theorem dX5_closesCycle_96 : decode cX5_closesCycle 96 = .ok (.ifCond .eq 19, 3) := by decide +kernel
theorem dX5_closesCycle_99 : decode cX5_closesCycle 99 = .ok (.iload_n 3, 1) := by decide +kernel
theorem dX5_closesCycle_100 : decode cX5_closesCycle 100 = .ok (.i2l, 1) := by decide +kernel
theorem dX5_closesCycle_101 : decode cX5_closesCycle 101 = .ok (.iload 5, 2) := by decide +kernel
theorem dX5_closesCycle_103 : decode cX5_closesCycle 103 = .ok (.iload 6, 2) := by decide +kernel
theorem dX5_closesCycle_105 : decode cX5_closesCycle 105 = .ok (.invokestatic 110, 3) := by decide +kernel
theorem dX5_closesCycle_108 : decode cX5_closesCycle 108 = .ok (.ifCond .eq 7, 3) := by decide +kernel
theorem dX5_closesCycle_111 : decode cX5_closesCycle 111 = .ok (.iconst 1, 1) := by decide +kernel
theorem dX5_closesCycle_112 : decode cX5_closesCycle 112 = .ok (.goto 4, 3) := by decide +kernel
theorem dX5_closesCycle_115 : decode cX5_closesCycle 115 = .ok (.iconst 0, 1) := by decide +kernel
theorem dX5_closesCycle_116 : decode cX5_closesCycle 116 = .ok (.ireturn, 1) := by decide +kernel
theorem dX5_takeCycle_0 : decode cX5_takeCycle 0 = .ok (.aload_n 0, 1) := by decide +kernel
theorem dX5_takeCycle_1 : decode cX5_takeCycle 1 = .ok (.getfield 84, 3) := by decide +kernel
theorem dX5_takeCycle_4 : decode cX5_takeCycle 4 = .ok (.iconst 1, 1) := by decide +kernel
theorem dX5_takeCycle_5 : decode cX5_takeCycle 5 = .ok (.isub, 1) := by decide +kernel
theorem dX5_takeCycle_6 : decode cX5_takeCycle 6 = .ok (.istore_n 1, 1) := by decide +kernel
theorem dX5_takeCycle_7 : decode cX5_takeCycle 7 = .ok (.iload_n 1, 1) := by decide +kernel
theorem dX5_takeCycle_8 : decode cX5_takeCycle 8 = .ok (.iconst 3, 1) := by decide +kernel
theorem dX5_takeCycle_9 : decode cX5_takeCycle 9 = .ok (.if_icmp .lt 55, 3) := by decide +kernel
theorem dX5_takeCycle_12 : decode cX5_takeCycle 12 = .ok (.iload_n 1, 1) := by decide +kernel
theorem dX5_takeCycle_13 : decode cX5_takeCycle 13 = .ok (.aload_n 0, 1) := by decide +kernel
theorem dX5_takeCycle_14 : decode cX5_takeCycle 14 = .ok (.getfield 18, 3) := by decide +kernel
theorem dX5_takeCycle_17 : decode cX5_takeCycle 17 = .ok (.arraylength, 1) := by decide +kernel
theorem dX5_takeCycle_18 : decode cX5_takeCycle 18 = .ok (.if_icmp .ge 46, 3) := by decide +kernel
theorem dX5_takeCycle_21 : decode cX5_takeCycle 21 = .ok (.aload_n 0, 1) := by decide +kernel
theorem dX5_takeCycle_22 : decode cX5_takeCycle 22 = .ok (.getfield 87, 3) := by decide +kernel
theorem dX5_takeCycle_25 : decode cX5_takeCycle 25 = .ok (.ifCond .lt 39, 3) := by decide +kernel
theorem dX5_takeCycle_28 : decode cX5_takeCycle 28 = .ok (.aload_n 0, 1) := by decide +kernel
theorem dX5_takeCycle_29 : decode cX5_takeCycle 29 = .ok (.getfield 87, 3) := by decide +kernel
theorem dX5_takeCycle_32 : decode cX5_takeCycle 32 = .ok (.aload_n 0, 1) := by decide +kernel
theorem dX5_takeCycle_33 : decode cX5_takeCycle 33 = .ok (.getfield 21, 3) := by decide +kernel
theorem dX5_takeCycle_36 : decode cX5_takeCycle 36 = .ok (.arraylength, 1) := by decide +kernel
theorem dX5_takeCycle_37 : decode cX5_takeCycle 37 = .ok (.if_icmp .ge 27, 3) := by decide +kernel
theorem dX5_takeCycle_40 : decode cX5_takeCycle 40 = .ok (.aload_n 0, 1) := by decide +kernel
theorem dX5_takeCycle_41 : decode cX5_takeCycle 41 = .ok (.getfield 87, 3) := by decide +kernel
theorem dX5_takeCycle_44 : decode cX5_takeCycle 44 = .ok (.aload_n 0, 1) := by decide +kernel
theorem dX5_takeCycle_45 : decode cX5_takeCycle 45 = .ok (.getfield 24, 3) := by decide +kernel
theorem dX5_takeCycle_48 : decode cX5_takeCycle 48 = .ok (.arraylength, 1) := by decide +kernel
theorem dX5_takeCycle_49 : decode cX5_takeCycle 49 = .ok (.if_icmp .ge 15, 3) := by decide +kernel
theorem dX5_takeCycle_52 : decode cX5_takeCycle 52 = .ok (.aload_n 0, 1) := by decide +kernel
theorem dX5_takeCycle_53 : decode cX5_takeCycle 53 = .ok (.getfield 87, 3) := by decide +kernel
theorem dX5_takeCycle_56 : decode cX5_takeCycle 56 = .ok (.aload_n 0, 1) := by decide +kernel
theorem dX5_takeCycle_57 : decode cX5_takeCycle 57 = .ok (.getfield 27, 3) := by decide +kernel
theorem dX5_takeCycle_60 : decode cX5_takeCycle 60 = .ok (.arraylength, 1) := by decide +kernel
theorem dX5_takeCycle_61 : decode cX5_takeCycle 61 = .ok (.if_icmp .lt 4, 3) := by decide +kernel
theorem dX5_takeCycle_64 : decode cX5_takeCycle 64 = .ok (.return_, 1) := by decide +kernel
theorem dX5_takeCycle_65 : decode cX5_takeCycle 65 = .ok (.aload_n 0, 1) := by decide +kernel
theorem dX5_takeCycle_66 : decode cX5_takeCycle 66 = .ok (.getfield 21, 3) := by decide +kernel
theorem dX5_takeCycle_69 : decode cX5_takeCycle 69 = .ok (.aload_n 0, 1) := by decide +kernel
theorem dX5_takeCycle_70 : decode cX5_takeCycle 70 = .ok (.getfield 87, 3) := by decide +kernel
theorem dX5_takeCycle_73 : decode cX5_takeCycle 73 = .ok (.aload_n 0, 1) := by decide +kernel
theorem dX5_takeCycle_74 : decode cX5_takeCycle 74 = .ok (.getfield 18, 3) := by decide +kernel
theorem dX5_takeCycle_77 : decode cX5_takeCycle 77 = .ok (.iload_n 1, 1) := by decide +kernel
theorem dX5_takeCycle_78 : decode cX5_takeCycle 78 = .ok (.iconst 2, 1) := by decide +kernel
theorem dX5_takeCycle_79 : decode cX5_takeCycle 79 = .ok (.isub, 1) := by decide +kernel
theorem dX5_takeCycle_80 : decode cX5_takeCycle 80 = .ok (.iaload, 1) := by decide +kernel
theorem dX5_takeCycle_81 : decode cX5_takeCycle 81 = .ok (.iastore, 1) := by decide +kernel
theorem dX5_takeCycle_82 : decode cX5_takeCycle 82 = .ok (.aload_n 0, 1) := by decide +kernel
theorem dX5_takeCycle_83 : decode cX5_takeCycle 83 = .ok (.getfield 24, 3) := by decide +kernel
theorem dX5_takeCycle_86 : decode cX5_takeCycle 86 = .ok (.aload_n 0, 1) := by decide +kernel
theorem dX5_takeCycle_87 : decode cX5_takeCycle 87 = .ok (.getfield 87, 3) := by decide +kernel
theorem dX5_takeCycle_90 : decode cX5_takeCycle 90 = .ok (.aload_n 0, 1) := by decide +kernel
theorem dX5_takeCycle_91 : decode cX5_takeCycle 91 = .ok (.getfield 18, 3) := by decide +kernel
theorem dX5_takeCycle_94 : decode cX5_takeCycle 94 = .ok (.iload_n 1, 1) := by decide +kernel
theorem dX5_takeCycle_95 : decode cX5_takeCycle 95 = .ok (.iconst 1, 1) := by decide +kernel
theorem dX5_takeCycle_96 : decode cX5_takeCycle 96 = .ok (.isub, 1) := by decide +kernel
theorem dX5_takeCycle_97 : decode cX5_takeCycle 97 = .ok (.iaload, 1) := by decide +kernel
theorem dX5_takeCycle_98 : decode cX5_takeCycle 98 = .ok (.iastore, 1) := by decide +kernel
theorem dX5_takeCycle_99 : decode cX5_takeCycle 99 = .ok (.aload_n 0, 1) := by decide +kernel
theorem dX5_takeCycle_100 : decode cX5_takeCycle 100 = .ok (.getfield 27, 3) := by decide +kernel
theorem dX5_takeCycle_103 : decode cX5_takeCycle 103 = .ok (.aload_n 0, 1) := by decide +kernel
theorem dX5_takeCycle_104 : decode cX5_takeCycle 104 = .ok (.getfield 87, 3) := by decide +kernel
theorem dX5_takeCycle_107 : decode cX5_takeCycle 107 = .ok (.aload_n 0, 1) := by decide +kernel
theorem dX5_takeCycle_108 : decode cX5_takeCycle 108 = .ok (.getfield 18, 3) := by decide +kernel
theorem dX5_takeCycle_111 : decode cX5_takeCycle 111 = .ok (.iload_n 1, 1) := by decide +kernel
theorem dX5_takeCycle_112 : decode cX5_takeCycle 112 = .ok (.iaload, 1) := by decide +kernel
theorem dX5_takeCycle_113 : decode cX5_takeCycle 113 = .ok (.iastore, 1) := by decide +kernel
theorem dX5_takeCycle_114 : decode cX5_takeCycle 114 = .ok (.aload_n 0, 1) := by decide +kernel
theorem dX5_takeCycle_115 : decode cX5_takeCycle 115 = .ok (.dup, 1) := by decide +kernel
theorem dX5_takeCycle_116 : decode cX5_takeCycle 116 = .ok (.getfield 87, 3) := by decide +kernel
theorem dX5_takeCycle_119 : decode cX5_takeCycle 119 = .ok (.iconst 1, 1) := by decide +kernel
theorem dX5_takeCycle_120 : decode cX5_takeCycle 120 = .ok (.iadd, 1) := by decide +kernel
theorem dX5_takeCycle_121 : decode cX5_takeCycle 121 = .ok (.putfield 87, 3) := by decide +kernel
theorem dX5_takeCycle_124 : decode cX5_takeCycle 124 = .ok (.aload_n 0, 1) := by decide +kernel
theorem dX5_takeCycle_125 : decode cX5_takeCycle 125 = .ok (.getfield 18, 3) := by decide +kernel
theorem dX5_takeCycle_128 : decode cX5_takeCycle 128 = .ok (.iload_n 1, 1) := by decide +kernel
theorem dX5_takeCycle_129 : decode cX5_takeCycle 129 = .ok (.iconst 2, 1) := by decide +kernel
theorem dX5_takeCycle_130 : decode cX5_takeCycle 130 = .ok (.isub, 1) := by decide +kernel
theorem dX5_takeCycle_131 : decode cX5_takeCycle 131 = .ok (.aload_n 0, 1) := by decide +kernel
theorem dX5_takeCycle_132 : decode cX5_takeCycle 132 = .ok (.getfield 18, 3) := by decide +kernel
theorem dX5_takeCycle_135 : decode cX5_takeCycle 135 = .ok (.iload_n 1, 1) := by decide +kernel
theorem dX5_takeCycle_136 : decode cX5_takeCycle 136 = .ok (.iaload, 1) := by decide +kernel
theorem dX5_takeCycle_137 : decode cX5_takeCycle 137 = .ok (.iastore, 1) := by decide +kernel
theorem dX5_takeCycle_138 : decode cX5_takeCycle 138 = .ok (.aload_n 0, 1) := by decide +kernel
theorem dX5_takeCycle_139 : decode cX5_takeCycle 139 = .ok (.dup, 1) := by decide +kernel
theorem dX5_takeCycle_140 : decode cX5_takeCycle 140 = .ok (.getfield 84, 3) := by decide +kernel
theorem dX5_takeCycle_143 : decode cX5_takeCycle 143 = .ok (.iconst 2, 1) := by decide +kernel
theorem dX5_takeCycle_144 : decode cX5_takeCycle 144 = .ok (.isub, 1) := by decide +kernel
theorem dX5_takeCycle_145 : decode cX5_takeCycle 145 = .ok (.putfield 84, 3) := by decide +kernel
theorem dX5_takeCycle_148 : decode cX5_takeCycle 148 = .ok (.return_, 1) := by decide +kernel
theorem dX5_turnAt_0 : decode cX5_turnAt 0 = .ok (.iload_n 1, 1) := by decide +kernel
theorem dX5_turnAt_1 : decode cX5_turnAt 1 = .ok (.ifCond .lt 21, 3) := by decide +kernel
theorem dX5_turnAt_4 : decode cX5_turnAt 4 = .ok (.iload_n 1, 1) := by decide +kernel
theorem dX5_turnAt_5 : decode cX5_turnAt 5 = .ok (.aload_n 0, 1) := by decide +kernel
theorem dX5_turnAt_6 : decode cX5_turnAt 6 = .ok (.getfield 15, 3) := by decide +kernel
theorem dX5_turnAt_9 : decode cX5_turnAt 9 = .ok (.arraylength, 1) := by decide +kernel
theorem dX5_turnAt_10 : decode cX5_turnAt 10 = .ok (.if_icmp .ge 12, 3) := by decide +kernel
theorem dX5_turnAt_13 : decode cX5_turnAt 13 = .ok (.aload_n 0, 1) := by decide +kernel
theorem dX5_turnAt_14 : decode cX5_turnAt 14 = .ok (.getfield 15, 3) := by decide +kernel
theorem dX5_turnAt_17 : decode cX5_turnAt 17 = .ok (.iload_n 1, 1) := by decide +kernel
theorem dX5_turnAt_18 : decode cX5_turnAt 18 = .ok (.iaload, 1) := by decide +kernel
theorem dX5_turnAt_19 : decode cX5_turnAt 19 = .ok (.goto 4, 3) := by decide +kernel
theorem dX5_turnAt_22 : decode cX5_turnAt 22 = .ok (.iconst 0, 1) := by decide +kernel
theorem dX5_turnAt_23 : decode cX5_turnAt 23 = .ok (.ireturn, 1) := by decide +kernel
theorem dX5_restAt_0 : decode cX5_restAt 0 = .ok (.iload_n 1, 1) := by decide +kernel
theorem dX5_restAt_1 : decode cX5_restAt 1 = .ok (.ifCond .lt 21, 3) := by decide +kernel
theorem dX5_restAt_4 : decode cX5_restAt 4 = .ok (.iload_n 1, 1) := by decide +kernel
theorem dX5_restAt_5 : decode cX5_restAt 5 = .ok (.aload_n 0, 1) := by decide +kernel
theorem dX5_restAt_6 : decode cX5_restAt 6 = .ok (.getfield 18, 3) := by decide +kernel
theorem dX5_restAt_9 : decode cX5_restAt 9 = .ok (.arraylength, 1) := by decide +kernel
theorem dX5_restAt_10 : decode cX5_restAt 10 = .ok (.if_icmp .ge 12, 3) := by decide +kernel
theorem dX5_restAt_13 : decode cX5_restAt 13 = .ok (.aload_n 0, 1) := by decide +kernel
theorem dX5_restAt_14 : decode cX5_restAt 14 = .ok (.getfield 18, 3) := by decide +kernel
theorem dX5_restAt_17 : decode cX5_restAt 17 = .ok (.iload_n 1, 1) := by decide +kernel
theorem dX5_restAt_18 : decode cX5_restAt 18 = .ok (.iaload, 1) := by decide +kernel
theorem dX5_restAt_19 : decode cX5_restAt 19 = .ok (.goto 4, 3) := by decide +kernel
theorem dX5_restAt_22 : decode cX5_restAt 22 = .ok (.iconst 0, 1) := by decide +kernel
theorem dX5_restAt_23 : decode cX5_restAt 23 = .ok (.ireturn, 1) := by decide +kernel
theorem dX5_firstOf_0 : decode cX5_firstOf 0 = .ok (.iload_n 1, 1) := by decide +kernel
theorem dX5_firstOf_1 : decode cX5_firstOf 1 = .ok (.ifCond .lt 21, 3) := by decide +kernel
theorem dX5_firstOf_4 : decode cX5_firstOf 4 = .ok (.iload_n 1, 1) := by decide +kernel
theorem dX5_firstOf_5 : decode cX5_firstOf 5 = .ok (.aload_n 0, 1) := by decide +kernel
theorem dX5_firstOf_6 : decode cX5_firstOf 6 = .ok (.getfield 21, 3) := by decide +kernel
theorem dX5_firstOf_9 : decode cX5_firstOf 9 = .ok (.arraylength, 1) := by decide +kernel
theorem dX5_firstOf_10 : decode cX5_firstOf 10 = .ok (.if_icmp .ge 12, 3) := by decide +kernel
theorem dX5_firstOf_13 : decode cX5_firstOf 13 = .ok (.aload_n 0, 1) := by decide +kernel
theorem dX5_firstOf_14 : decode cX5_firstOf 14 = .ok (.getfield 21, 3) := by decide +kernel
theorem dX5_firstOf_17 : decode cX5_firstOf 17 = .ok (.iload_n 1, 1) := by decide +kernel
theorem dX5_firstOf_18 : decode cX5_firstOf 18 = .ok (.iaload, 1) := by decide +kernel
theorem dX5_firstOf_19 : decode cX5_firstOf 19 = .ok (.goto 4, 3) := by decide +kernel
theorem dX5_firstOf_22 : decode cX5_firstOf 22 = .ok (.iconst 0, 1) := by decide +kernel
theorem dX5_firstOf_23 : decode cX5_firstOf 23 = .ok (.ireturn, 1) := by decide +kernel
theorem dX5_secondOf_0 : decode cX5_secondOf 0 = .ok (.iload_n 1, 1) := by decide +kernel
theorem dX5_secondOf_1 : decode cX5_secondOf 1 = .ok (.ifCond .lt 21, 3) := by decide +kernel
theorem dX5_secondOf_4 : decode cX5_secondOf 4 = .ok (.iload_n 1, 1) := by decide +kernel
theorem dX5_secondOf_5 : decode cX5_secondOf 5 = .ok (.aload_n 0, 1) := by decide +kernel
theorem dX5_secondOf_6 : decode cX5_secondOf 6 = .ok (.getfield 24, 3) := by decide +kernel
theorem dX5_secondOf_9 : decode cX5_secondOf 9 = .ok (.arraylength, 1) := by decide +kernel
theorem dX5_secondOf_10 : decode cX5_secondOf 10 = .ok (.if_icmp .ge 12, 3) := by decide +kernel
theorem dX5_secondOf_13 : decode cX5_secondOf 13 = .ok (.aload_n 0, 1) := by decide +kernel
theorem dX5_secondOf_14 : decode cX5_secondOf 14 = .ok (.getfield 24, 3) := by decide +kernel
theorem dX5_secondOf_17 : decode cX5_secondOf 17 = .ok (.iload_n 1, 1) := by decide +kernel
theorem dX5_secondOf_18 : decode cX5_secondOf 18 = .ok (.iaload, 1) := by decide +kernel
theorem dX5_secondOf_19 : decode cX5_secondOf 19 = .ok (.goto 4, 3) := by decide +kernel
theorem dX5_secondOf_22 : decode cX5_secondOf 22 = .ok (.iconst 0, 1) := by decide +kernel
theorem dX5_secondOf_23 : decode cX5_secondOf 23 = .ok (.ireturn, 1) := by decide +kernel
theorem dX5_closerOf_0 : decode cX5_closerOf 0 = .ok (.iload_n 1, 1) := by decide +kernel
theorem dX5_closerOf_1 : decode cX5_closerOf 1 = .ok (.ifCond .lt 21, 3) := by decide +kernel
theorem dX5_closerOf_4 : decode cX5_closerOf 4 = .ok (.iload_n 1, 1) := by decide +kernel
theorem dX5_closerOf_5 : decode cX5_closerOf 5 = .ok (.aload_n 0, 1) := by decide +kernel
theorem dX5_closerOf_6 : decode cX5_closerOf 6 = .ok (.getfield 27, 3) := by decide +kernel
theorem dX5_closerOf_9 : decode cX5_closerOf 9 = .ok (.arraylength, 1) := by decide +kernel
theorem dX5_closerOf_10 : decode cX5_closerOf 10 = .ok (.if_icmp .ge 12, 3) := by decide +kernel
theorem dX5_closerOf_13 : decode cX5_closerOf 13 = .ok (.aload_n 0, 1) := by decide +kernel
theorem dX5_closerOf_14 : decode cX5_closerOf 14 = .ok (.getfield 27, 3) := by decide +kernel
theorem dX5_closerOf_17 : decode cX5_closerOf 17 = .ok (.iload_n 1, 1) := by decide +kernel
theorem dX5_closerOf_18 : decode cX5_closerOf 18 = .ok (.iaload, 1) := by decide +kernel
theorem dX5_closerOf_19 : decode cX5_closerOf 19 = .ok (.goto 4, 3) := by decide +kernel
theorem dX5_closerOf_22 : decode cX5_closerOf 22 = .ok (.iconst 0, 1) := by decide +kernel
theorem dX5_closerOf_23 : decode cX5_closerOf 23 = .ok (.ireturn, 1) := by decide +kernel
theorem dX5_rangeOf_0 : decode cX5_rangeOf 0 = .ok (.aload_n 0, 1) := by decide +kernel
theorem dX5_rangeOf_1 : decode cX5_rangeOf 1 = .ok (.iload_n 1, 1) := by decide +kernel
theorem dX5_rangeOf_2 : decode cX5_rangeOf 2 = .ok (.invokevirtual 100, 3) := by decide +kernel
theorem dX5_rangeOf_5 : decode cX5_rangeOf 5 = .ok (.aload_n 0, 1) := by decide +kernel
theorem dX5_rangeOf_6 : decode cX5_rangeOf 6 = .ok (.iload_n 2, 1) := by decide +kernel
theorem dX5_rangeOf_7 : decode cX5_rangeOf 7 = .ok (.invokevirtual 100, 3) := by decide +kernel
theorem dX5_rangeOf_10 : decode cX5_rangeOf 10 = .ok (.isub, 1) := by decide +kernel
theorem dX5_rangeOf_11 : decode cX5_rangeOf 11 = .ok (.invokestatic 71, 3) := by decide +kernel
theorem dX5_rangeOf_14 : decode cX5_rangeOf 14 = .ok (.ireturn, 1) := by decide +kernel
theorem dX5_meanOf_0 : decode cX5_meanOf 0 = .ok (.aload_n 0, 1) := by decide +kernel
theorem dX5_meanOf_1 : decode cX5_meanOf 1 = .ok (.iload_n 1, 1) := by decide +kernel
theorem dX5_meanOf_2 : decode cX5_meanOf 2 = .ok (.invokevirtual 100, 3) := by decide +kernel
theorem dX5_meanOf_5 : decode cX5_meanOf 5 = .ok (.aload_n 0, 1) := by decide +kernel
theorem dX5_meanOf_6 : decode cX5_meanOf 6 = .ok (.iload_n 2, 1) := by decide +kernel
theorem dX5_meanOf_7 : decode cX5_meanOf 7 = .ok (.invokevirtual 100, 3) := by decide +kernel
theorem dX5_meanOf_10 : decode cX5_meanOf 10 = .ok (.iadd, 1) := by decide +kernel
theorem dX5_meanOf_11 : decode cX5_meanOf 11 = .ok (.ireturn, 1) := by decide +kernel
theorem dX6_init_0 : decode cX6_init 0 = .ok (.aload_n 0, 1) := by decide +kernel
theorem dX6_init_1 : decode cX6_init 1 = .ok (.invokespecial 3, 3) := by decide +kernel
theorem dX6_init_4 : decode cX6_init 4 = .ok (.aload_n 0, 1) := by decide +kernel
theorem dX6_init_5 : decode cX6_init 5 = .ok (.sipush 400, 3) := by decide +kernel
theorem dX6_init_8 : decode cX6_init 8 = .ok (.newarray .byte, 2) := by decide +kernel
theorem dX6_init_10 : decode cX6_init 10 = .ok (.putfield 9, 3) := by decide +kernel
theorem dX6_init_13 : decode cX6_init 13 = .ok (.return_, 1) := by decide +kernel
theorem dX6_hasRoom_0 : decode cX6_hasRoom 0 = .ok (.iload_n 1, 1) := by decide +kernel
theorem dX6_hasRoom_1 : decode cX6_hasRoom 1 = .ok (.aload_n 0, 1) := by decide +kernel
theorem dX6_hasRoom_2 : decode cX6_hasRoom 2 = .ok (.getfield 9, 3) := by decide +kernel
theorem dX6_hasRoom_5 : decode cX6_hasRoom 5 = .ok (.arraylength, 1) := by decide +kernel
theorem dX6_hasRoom_6 : decode cX6_hasRoom 6 = .ok (.aload_n 0, 1) := by decide +kernel
theorem dX6_hasRoom_7 : decode cX6_hasRoom 7 = .ok (.getfield 15, 3) := by decide +kernel
theorem dX6_hasRoom_10 : decode cX6_hasRoom 10 = .ok (.isub, 1) := by decide +kernel
theorem dX6_hasRoom_11 : decode cX6_hasRoom 11 = .ok (.if_icmp .gt 7, 3) := by decide +kernel
theorem dX6_hasRoom_14 : decode cX6_hasRoom 14 = .ok (.iconst 1, 1) := by decide +kernel
theorem dX6_hasRoom_15 : decode cX6_hasRoom 15 = .ok (.goto 4, 3) := by decide +kernel
theorem dX6_hasRoom_18 : decode cX6_hasRoom 18 = .ok (.iconst 0, 1) := by decide +kernel
theorem dX6_hasRoom_19 : decode cX6_hasRoom 19 = .ok (.ireturn, 1) := by decide +kernel
theorem dX6_append_0 : decode cX6_append 0 = .ok (.bipush 24, 2) := by decide +kernel
theorem dX6_append_2 : decode cX6_append 2 = .ok (.istore_n 2, 1) := by decide +kernel
theorem dX6_append_3 : decode cX6_append 3 = .ok (.iload_n 2, 1) := by decide +kernel
theorem dX6_append_4 : decode cX6_append 4 = .ok (.ifCond .lt 51, 3) := by decide +kernel
theorem dX6_append_7 : decode cX6_append 7 = .ok (.aload_n 0, 1) := by decide +kernel
theorem dX6_append_8 : decode cX6_append 8 = .ok (.getfield 15, 3) := by decide +kernel
theorem dX6_append_11 : decode cX6_append 11 = .ok (.ifCond .lt 38, 3) := by decide +kernel
theorem dX6_append_14 : decode cX6_append 14 = .ok (.aload_n 0, 1) := by decide +kernel
theorem dX6_append_15 : decode cX6_append 15 = .ok (.getfield 15, 3) := by decide +kernel
theorem dX6_append_18 : decode cX6_append 18 = .ok (.aload_n 0, 1) := by decide +kernel
theorem dX6_append_19 : decode cX6_append 19 = .ok (.getfield 9, 3) := by decide +kernel
theorem dX6_append_22 : decode cX6_append 22 = .ok (.arraylength, 1) := by decide +kernel
theorem dX6_append_23 : decode cX6_append 23 = .ok (.if_icmp .ge 26, 3) := by decide +kernel
theorem dX6_append_26 : decode cX6_append 26 = .ok (.aload_n 0, 1) := by decide +kernel
theorem dX6_append_27 : decode cX6_append 27 = .ok (.getfield 9, 3) := by decide +kernel
theorem dX6_append_30 : decode cX6_append 30 = .ok (.aload_n 0, 1) := by decide +kernel
theorem dX6_append_31 : decode cX6_append 31 = .ok (.getfield 15, 3) := by decide +kernel
theorem dX6_append_34 : decode cX6_append 34 = .ok (.iload_n 1, 1) := by decide +kernel
theorem dX6_append_35 : decode cX6_append 35 = .ok (.iload_n 2, 1) := by decide +kernel
theorem dX6_append_36 : decode cX6_append 36 = .ok (.ishr, 1) := by decide +kernel
theorem dX6_append_37 : decode cX6_append 37 = .ok (.i2b, 1) := by decide +kernel
theorem dX6_append_38 : decode cX6_append 38 = .ok (.bastore, 1) := by decide +kernel
theorem dX6_append_39 : decode cX6_append 39 = .ok (.aload_n 0, 1) := by decide +kernel
theorem dX6_append_40 : decode cX6_append 40 = .ok (.dup, 1) := by decide +kernel
theorem dX6_append_41 : decode cX6_append 41 = .ok (.getfield 15, 3) := by decide +kernel
theorem dX6_append_44 : decode cX6_append 44 = .ok (.iconst 1, 1) := by decide +kernel
theorem dX6_append_45 : decode cX6_append 45 = .ok (.iadd, 1) := by decide +kernel
theorem dX6_append_46 : decode cX6_append 46 = .ok (.putfield 15, 3) := by decide +kernel
theorem dX6_append_49 : decode cX6_append 49 = .ok (.iinc 2 (-8), 3) := by decide +kernel
theorem dX6_append_52 : decode cX6_append 52 = .ok (.goto (-49), 3) := by decide +kernel
theorem dX6_append_55 : decode cX6_append 55 = .ok (.return_, 1) := by decide +kernel
theorem dX6_byteAt_0 : decode cX6_byteAt 0 = .ok (.iload_n 1, 1) := by decide +kernel
theorem dX6_byteAt_1 : decode cX6_byteAt 1 = .ok (.ifCond .lt 33, 3) := by decide +kernel
theorem dX6_byteAt_4 : decode cX6_byteAt 4 = .ok (.iload_n 1, 1) := by decide +kernel
theorem dX6_byteAt_5 : decode cX6_byteAt 5 = .ok (.aload_n 0, 1) := by decide +kernel
theorem dX6_byteAt_6 : decode cX6_byteAt 6 = .ok (.getfield 15, 3) := by decide +kernel
theorem dX6_byteAt_9 : decode cX6_byteAt 9 = .ok (.if_icmp .ge 25, 3) := by decide +kernel
theorem dX6_byteAt_12 : decode cX6_byteAt 12 = .ok (.iload_n 1, 1) := by decide +kernel
theorem dX6_byteAt_13 : decode cX6_byteAt 13 = .ok (.aload_n 0, 1) := by decide +kernel
theorem dX6_byteAt_14 : decode cX6_byteAt 14 = .ok (.getfield 9, 3) := by decide +kernel
theorem dX6_byteAt_17 : decode cX6_byteAt 17 = .ok (.arraylength, 1) := by decide +kernel
theorem dX6_byteAt_18 : decode cX6_byteAt 18 = .ok (.if_icmp .ge 16, 3) := by decide +kernel
theorem dX6_byteAt_21 : decode cX6_byteAt 21 = .ok (.aload_n 0, 1) := by decide +kernel
theorem dX6_byteAt_22 : decode cX6_byteAt 22 = .ok (.getfield 9, 3) := by decide +kernel
theorem dX6_byteAt_25 : decode cX6_byteAt 25 = .ok (.iload_n 1, 1) := by decide +kernel
theorem dX6_byteAt_26 : decode cX6_byteAt 26 = .ok (.baload, 1) := by decide +kernel
theorem dX6_byteAt_27 : decode cX6_byteAt 27 = .ok (.sipush 255, 3) := by decide +kernel
theorem dX6_byteAt_30 : decode cX6_byteAt 30 = .ok (.iand, 1) := by decide +kernel
theorem dX6_byteAt_31 : decode cX6_byteAt 31 = .ok (.goto 4, 3) := by decide +kernel
theorem dX6_byteAt_34 : decode cX6_byteAt 34 = .ok (.iconst 0, 1) := by decide +kernel
theorem dX6_byteAt_35 : decode cX6_byteAt 35 = .ok (.ireturn, 1) := by decide +kernel
theorem dX6_readingAt_0 : decode cX6_readingAt 0 = .ok (.iload_n 1, 1) := by decide +kernel
theorem dX6_readingAt_1 : decode cX6_readingAt 1 = .ok (.iload_n 2, 1) := by decide +kernel
theorem dX6_readingAt_2 : decode cX6_readingAt 2 = .ok (.iadd, 1) := by decide +kernel
theorem dX6_readingAt_3 : decode cX6_readingAt 3 = .ok (.aload_n 0, 1) := by decide +kernel
theorem dX6_readingAt_4 : decode cX6_readingAt 4 = .ok (.getfield 15, 3) := by decide +kernel
theorem dX6_readingAt_7 : decode cX6_readingAt 7 = .ok (.if_icmp .le 6, 3) := by decide +kernel
theorem dX6_readingAt_10 : decode cX6_readingAt 10 = .ok (.ldc 19, 2) := by decide +kernel
theorem dX6_readingAt_12 : decode cX6_readingAt 12 = .ok (.ireturn, 1) := by decide +kernel
theorem dX6_readingAt_13 : decode cX6_readingAt 13 = .ok (.aload_n 0, 1) := by decide +kernel
theorem dX6_readingAt_14 : decode cX6_readingAt 14 = .ok (.iload_n 1, 1) := by decide +kernel
theorem dX6_readingAt_15 : decode cX6_readingAt 15 = .ok (.iload_n 2, 1) := by decide +kernel
theorem dX6_readingAt_16 : decode cX6_readingAt 16 = .ok (.invokevirtual 20, 3) := by decide +kernel
theorem dX6_readingAt_19 : decode cX6_readingAt 19 = .ok (.lstore 4, 2) := by decide +kernel
theorem dX6_readingAt_21 : decode cX6_readingAt 21 = .ok (.iload_n 3, 1) := by decide +kernel
theorem dX6_readingAt_22 : decode cX6_readingAt 22 = .ok (.lookupswitch 46 #[(4, 26), (5, 36)], 26) := by decide +kernel
theorem dX6_readingAt_48 : decode cX6_readingAt 48 = .ok (.lload 4, 2) := by decide +kernel
theorem dX6_readingAt_50 : decode cX6_readingAt 50 = .ok (.bipush 8, 2) := by decide +kernel
theorem dX6_readingAt_52 : decode cX6_readingAt 52 = .ok (.bipush 23, 2) := by decide +kernel
theorem dX6_readingAt_54 : decode cX6_readingAt 54 = .ok (.invokestatic 24, 3) := by decide +kernel
theorem dX6_readingAt_57 : decode cX6_readingAt 57 = .ok (.ireturn, 1) := by decide +kernel
theorem dX6_readingAt_58 : decode cX6_readingAt 58 = .ok (.lload 4, 2) := by decide +kernel
theorem dX6_readingAt_60 : decode cX6_readingAt 60 = .ok (.bipush 11, 2) := by decide +kernel
theorem dX6_readingAt_62 : decode cX6_readingAt 62 = .ok (.bipush 52, 2) := by decide +kernel
theorem dX6_readingAt_64 : decode cX6_readingAt 64 = .ok (.invokestatic 24, 3) := by decide +kernel
theorem dX6_readingAt_67 : decode cX6_readingAt 67 = .ok (.ireturn, 1) := by decide +kernel
theorem dX6_readingAt_68 : decode cX6_readingAt 68 = .ok (.lload 4, 2) := by decide +kernel
theorem dX6_readingAt_70 : decode cX6_readingAt 70 = .ok (.invokestatic 28, 3) := by decide +kernel
theorem dX6_readingAt_73 : decode cX6_readingAt 73 = .ok (.ireturn, 1) := by decide +kernel
theorem dX6_bitsAt_0 : decode cX6_bitsAt 0 = .ok (.lconst 0, 1) := by decide +kernel
theorem dX6_bitsAt_1 : decode cX6_bitsAt 1 = .ok (.lstore_n 3, 1) := by decide +kernel
theorem dX6_bitsAt_2 : decode cX6_bitsAt 2 = .ok (.iconst 0, 1) := by decide +kernel
theorem dX6_bitsAt_3 : decode cX6_bitsAt 3 = .ok (.istore 5, 2) := by decide +kernel
theorem dX6_bitsAt_5 : decode cX6_bitsAt 5 = .ok (.iload 5, 2) := by decide +kernel
theorem dX6_bitsAt_7 : decode cX6_bitsAt 7 = .ok (.iload_n 2, 1) := by decide +kernel
theorem dX6_bitsAt_8 : decode cX6_bitsAt 8 = .ok (.if_icmp .ge 24, 3) := by decide +kernel
theorem dX6_bitsAt_11 : decode cX6_bitsAt 11 = .ok (.lload_n 3, 1) := by decide +kernel
theorem dX6_bitsAt_12 : decode cX6_bitsAt 12 = .ok (.bipush 8, 2) := by decide +kernel
theorem dX6_bitsAt_14 : decode cX6_bitsAt 14 = .ok (.lshl, 1) := by decide +kernel
theorem dX6_bitsAt_15 : decode cX6_bitsAt 15 = .ok (.aload_n 0, 1) := by decide +kernel
theorem dX6_bitsAt_16 : decode cX6_bitsAt 16 = .ok (.iload_n 1, 1) := by decide +kernel
theorem dX6_bitsAt_17 : decode cX6_bitsAt 17 = .ok (.iload 5, 2) := by decide +kernel
theorem dX6_bitsAt_19 : decode cX6_bitsAt 19 = .ok (.iadd, 1) := by decide +kernel
theorem dX6_bitsAt_20 : decode cX6_bitsAt 20 = .ok (.invokevirtual 32, 3) := by decide +kernel
theorem dX6_bitsAt_23 : decode cX6_bitsAt 23 = .ok (.i2l, 1) := by decide +kernel
theorem dX6_bitsAt_24 : decode cX6_bitsAt 24 = .ok (.lor, 1) := by decide +kernel
theorem dX6_bitsAt_25 : decode cX6_bitsAt 25 = .ok (.lstore_n 3, 1) := by decide +kernel
theorem dX6_bitsAt_26 : decode cX6_bitsAt 26 = .ok (.iinc 5 1, 3) := by decide +kernel
theorem dX6_bitsAt_29 : decode cX6_bitsAt 29 = .ok (.goto (-24), 3) := by decide +kernel
theorem dX6_bitsAt_32 : decode cX6_bitsAt 32 = .ok (.bipush 64, 2) := by decide +kernel
theorem dX6_bitsAt_34 : decode cX6_bitsAt 34 = .ok (.bipush 8, 2) := by decide +kernel
theorem dX6_bitsAt_36 : decode cX6_bitsAt 36 = .ok (.iload_n 2, 1) := by decide +kernel
theorem dX6_bitsAt_37 : decode cX6_bitsAt 37 = .ok (.imul, 1) := by decide +kernel
theorem dX6_bitsAt_38 : decode cX6_bitsAt 38 = .ok (.isub, 1) := by decide +kernel
theorem dX6_bitsAt_39 : decode cX6_bitsAt 39 = .ok (.istore 5, 2) := by decide +kernel
theorem dX6_bitsAt_41 : decode cX6_bitsAt 41 = .ok (.lload_n 3, 1) := by decide +kernel
theorem dX6_bitsAt_42 : decode cX6_bitsAt 42 = .ok (.iload 5, 2) := by decide +kernel
theorem dX6_bitsAt_44 : decode cX6_bitsAt 44 = .ok (.lshl, 1) := by decide +kernel
theorem dX6_bitsAt_45 : decode cX6_bitsAt 45 = .ok (.iload 5, 2) := by decide +kernel
theorem dX6_bitsAt_47 : decode cX6_bitsAt 47 = .ok (.lshr, 1) := by decide +kernel
theorem dX6_bitsAt_48 : decode cX6_bitsAt 48 = .ok (.lreturn, 1) := by decide +kernel
theorem dX6_cutFloating_0 : decode cX6_cutFloating 0 = .ok (.iconst 1, 1) := by decide +kernel
theorem dX6_cutFloating_1 : decode cX6_cutFloating 1 = .ok (.iload_n 2, 1) := by decide +kernel
theorem dX6_cutFloating_2 : decode cX6_cutFloating 2 = .ok (.iconst 1, 1) := by decide +kernel
theorem dX6_cutFloating_3 : decode cX6_cutFloating 3 = .ok (.isub, 1) := by decide +kernel
theorem dX6_cutFloating_4 : decode cX6_cutFloating 4 = .ok (.ishl, 1) := by decide +kernel
theorem dX6_cutFloating_5 : decode cX6_cutFloating 5 = .ok (.iconst 1, 1) := by decide +kernel
theorem dX6_cutFloating_6 : decode cX6_cutFloating 6 = .ok (.isub, 1) := by decide +kernel
theorem dX6_cutFloating_7 : decode cX6_cutFloating 7 = .ok (.istore 4, 2) := by decide +kernel
theorem dX6_cutFloating_9 : decode cX6_cutFloating 9 = .ok (.lload_n 0, 1) := by decide +kernel
theorem dX6_cutFloating_10 : decode cX6_cutFloating 10 = .ok (.iload_n 3, 1) := by decide +kernel
theorem dX6_cutFloating_11 : decode cX6_cutFloating 11 = .ok (.lushr, 1) := by decide +kernel
theorem dX6_cutFloating_12 : decode cX6_cutFloating 12 = .ok (.l2i, 1) := by decide +kernel
theorem dX6_cutFloating_13 : decode cX6_cutFloating 13 = .ok (.iconst 1, 1) := by decide +kernel
theorem dX6_cutFloating_14 : decode cX6_cutFloating 14 = .ok (.iload_n 2, 1) := by decide +kernel
theorem dX6_cutFloating_15 : decode cX6_cutFloating 15 = .ok (.ishl, 1) := by decide +kernel
theorem dX6_cutFloating_16 : decode cX6_cutFloating 16 = .ok (.iconst 1, 1) := by decide +kernel
theorem dX6_cutFloating_17 : decode cX6_cutFloating 17 = .ok (.isub, 1) := by decide +kernel
theorem dX6_cutFloating_18 : decode cX6_cutFloating 18 = .ok (.iand, 1) := by decide +kernel
theorem dX6_cutFloating_19 : decode cX6_cutFloating 19 = .ok (.istore 5, 2) := by decide +kernel
theorem dX6_cutFloating_21 : decode cX6_cutFloating 21 = .ok (.iload 5, 2) := by decide +kernel
theorem dX6_cutFloating_23 : decode cX6_cutFloating 23 = .ok (.iload 4, 2) := by decide +kernel
theorem dX6_cutFloating_25 : decode cX6_cutFloating 25 = .ok (.isub, 1) := by decide +kernel
theorem dX6_cutFloating_26 : decode cX6_cutFloating 26 = .ok (.istore 6, 2) := by decide +kernel
theorem dX6_cutFloating_28 : decode cX6_cutFloating 28 = .ok (.iload 6, 2) := by decide +kernel
theorem dX6_cutFloating_30 : decode cX6_cutFloating 30 = .ok (.ifCond .ge 5, 3) := by decide +kernel
theorem dX6_cutFloating_33 : decode cX6_cutFloating 33 = .ok (.iconst 0, 1) := by decide +kernel
theorem dX6_cutFloating_34 : decode cX6_cutFloating 34 = .ok (.ireturn, 1) := by decide +kernel
theorem dX6_cutFloating_35 : decode cX6_cutFloating 35 = .ok (.iload 6, 2) := by decide +kernel
theorem dX6_cutFloating_37 : decode cX6_cutFloating 37 = .ok (.bipush 20, 2) := by decide +kernel
theorem dX6_cutFloating_39 : decode cX6_cutFloating 39 = .ok (.if_icmp .lt 6, 3) := by decide +kernel
theorem dX6_cutFloating_42 : decode cX6_cutFloating 42 = .ok (.ldc 19, 2) := by decide +kernel
theorem dX6_cutFloating_44 : decode cX6_cutFloating 44 = .ok (.ireturn, 1) := by decide +kernel
theorem dX6_cutFloating_45 : decode cX6_cutFloating 45 = .ok (.lload_n 0, 1) := by decide +kernel
theorem dX6_cutFloating_46 : decode cX6_cutFloating 46 = .ok (.lconst 1, 1) := by decide +kernel
theorem dX6_cutFloating_47 : decode cX6_cutFloating 47 = .ok (.iload_n 3, 1) := by decide +kernel
theorem dX6_cutFloating_48 : decode cX6_cutFloating 48 = .ok (.lshl, 1) := by decide +kernel
theorem dX6_cutFloating_49 : decode cX6_cutFloating 49 = .ok (.lconst 1, 1) := by decide +kernel
theorem dX6_cutFloating_50 : decode cX6_cutFloating 50 = .ok (.lsub, 1) := by decide +kernel
theorem dX6_cutFloating_51 : decode cX6_cutFloating 51 = .ok (.land, 1) := by decide +kernel
theorem dX6_cutFloating_52 : decode cX6_cutFloating 52 = .ok (.lstore 7, 2) := by decide +kernel
theorem dX6_cutFloating_54 : decode cX6_cutFloating 54 = .ok (.lload 7, 2) := by decide +kernel
theorem dX6_cutFloating_56 : decode cX6_cutFloating 56 = .ok (.lconst 1, 1) := by decide +kernel
theorem dX6_cutFloating_57 : decode cX6_cutFloating 57 = .ok (.iload_n 3, 1) := by decide +kernel
theorem dX6_cutFloating_58 : decode cX6_cutFloating 58 = .ok (.lshl, 1) := by decide +kernel
theorem dX6_cutFloating_59 : decode cX6_cutFloating 59 = .ok (.lor, 1) := by decide +kernel
theorem dX6_cutFloating_60 : decode cX6_cutFloating 60 = .ok (.iload_n 3, 1) := by decide +kernel
theorem dX6_cutFloating_61 : decode cX6_cutFloating 61 = .ok (.iload 6, 2) := by decide +kernel
theorem dX6_cutFloating_63 : decode cX6_cutFloating 63 = .ok (.isub, 1) := by decide +kernel
theorem dX6_cutFloating_64 : decode cX6_cutFloating 64 = .ok (.lshr, 1) := by decide +kernel
theorem dX6_cutFloating_65 : decode cX6_cutFloating 65 = .ok (.lstore 9, 2) := by decide +kernel
theorem dX6_cutFloating_67 : decode cX6_cutFloating 67 = .ok (.lload_n 0, 1) := by decide +kernel
theorem dX6_cutFloating_68 : decode cX6_cutFloating 68 = .ok (.iload_n 3, 1) := by decide +kernel
theorem dX6_cutFloating_69 : decode cX6_cutFloating 69 = .ok (.iload_n 2, 1) := by decide +kernel
theorem dX6_cutFloating_70 : decode cX6_cutFloating 70 = .ok (.iadd, 1) := by decide +kernel
theorem dX6_cutFloating_71 : decode cX6_cutFloating 71 = .ok (.lushr, 1) := by decide +kernel
theorem dX6_cutFloating_72 : decode cX6_cutFloating 72 = .ok (.lconst 1, 1) := by decide +kernel
theorem dX6_cutFloating_73 : decode cX6_cutFloating 73 = .ok (.land, 1) := by decide +kernel
theorem dX6_cutFloating_74 : decode cX6_cutFloating 74 = .ok (.lconst 0, 1) := by decide +kernel
theorem dX6_cutFloating_75 : decode cX6_cutFloating 75 = .ok (.lcmp, 1) := by decide +kernel
theorem dX6_cutFloating_76 : decode cX6_cutFloating 76 = .ok (.ifCond .eq 7, 3) := by decide +kernel
theorem dX6_cutFloating_79 : decode cX6_cutFloating 79 = .ok (.iconst 1, 1) := by decide +kernel
theorem dX6_cutFloating_80 : decode cX6_cutFloating 80 = .ok (.goto 4, 3) := by decide +kernel
theorem dX6_cutFloating_83 : decode cX6_cutFloating 83 = .ok (.iconst 0, 1) := by decide +kernel
theorem dX6_cutFloating_84 : decode cX6_cutFloating 84 = .ok (.istore 11, 2) := by decide +kernel
theorem dX6_cutFloating_86 : decode cX6_cutFloating 86 = .ok (.iload 11, 2) := by decide +kernel
theorem dX6_cutFloating_88 : decode cX6_cutFloating 88 = .ok (.ifCond .eq 9, 3) := by decide +kernel
theorem dX6_cutFloating_91 : decode cX6_cutFloating 91 = .ok (.lload 9, 2) := by decide +kernel
theorem dX6_cutFloating_93 : decode cX6_cutFloating 93 = .ok (.lneg, 1) := by decide +kernel
theorem dX6_cutFloating_94 : decode cX6_cutFloating 94 = .ok (.goto 5, 3) := by decide +kernel
theorem dX6_cutFloating_97 : decode cX6_cutFloating 97 = .ok (.lload 9, 2) := by decide +kernel
theorem dX6_cutFloating_99 : decode cX6_cutFloating 99 = .ok (.invokestatic 28, 3) := by decide +kernel
theorem dX6_cutFloating_102 : decode cX6_cutFloating 102 = .ok (.ireturn, 1) := by decide +kernel
theorem dX6_readingOrGap_0 : decode cX6_readingOrGap 0 = .ok (.lload_n 0, 1) := by decide +kernel
theorem dX6_readingOrGap_1 : decode cX6_readingOrGap 1 = .ok (.ldc 36, 2) := by decide +kernel
theorem dX6_readingOrGap_3 : decode cX6_readingOrGap 3 = .ok (.ldc 37, 2) := by decide +kernel
theorem dX6_readingOrGap_5 : decode cX6_readingOrGap 5 = .ok (.invokestatic 38, 3) := by decide +kernel
theorem dX6_readingOrGap_8 : decode cX6_readingOrGap 8 = .ok (.ifCond .eq 8, 3) := by decide +kernel
theorem dX6_readingOrGap_11 : decode cX6_readingOrGap 11 = .ok (.lload_n 0, 1) := by decide +kernel
theorem dX6_readingOrGap_12 : decode cX6_readingOrGap 12 = .ok (.l2i, 1) := by decide +kernel
theorem dX6_readingOrGap_13 : decode cX6_readingOrGap 13 = .ok (.goto 5, 3) := by decide +kernel
theorem dX6_readingOrGap_16 : decode cX6_readingOrGap 16 = .ok (.ldc 19, 2) := by decide +kernel
theorem dX6_readingOrGap_18 : decode cX6_readingOrGap 18 = .ok (.ireturn, 1) := by decide +kernel
theorem dX7_init_0 : decode cX7_init 0 = .ok (.aload_n 0, 1) := by decide +kernel
theorem dX7_init_1 : decode cX7_init 1 = .ok (.invokespecial 3, 3) := by decide +kernel
theorem dX7_init_4 : decode cX7_init 4 = .ok (.aload_n 0, 1) := by decide +kernel
theorem dX7_init_5 : decode cX7_init 5 = .ok (.bipush 7, 2) := by decide +kernel
theorem dX7_init_7 : decode cX7_init 7 = .ok (.newarray .long, 2) := by decide +kernel
theorem dX7_init_9 : decode cX7_init 9 = .ok (.putfield 9, 3) := by decide +kernel
theorem dX7_init_12 : decode cX7_init 12 = .ok (.return_, 1) := by decide +kernel
theorem dX7_begin_0 : decode cX7_begin 0 = .ok (.iconst 0, 1) := by decide +kernel
theorem dX7_begin_1 : decode cX7_begin 1 = .ok (.istore_n 1, 1) := by decide +kernel
theorem dX7_begin_2 : decode cX7_begin 2 = .ok (.iload_n 1, 1) := by decide +kernel
theorem dX7_begin_3 : decode cX7_begin 3 = .ok (.aload_n 0, 1) := by decide +kernel
theorem dX7_begin_4 : decode cX7_begin 4 = .ok (.getfield 9, 3) := by decide +kernel
theorem dX7_begin_7 : decode cX7_begin 7 = .ok (.arraylength, 1) := by decide +kernel
theorem dX7_begin_8 : decode cX7_begin 8 = .ok (.if_icmp .ge 16, 3) := by decide +kernel
theorem dX7_begin_11 : decode cX7_begin 11 = .ok (.aload_n 0, 1) := by decide +kernel
theorem dX7_begin_12 : decode cX7_begin 12 = .ok (.getfield 9, 3) := by decide +kernel
theorem dX7_begin_15 : decode cX7_begin 15 = .ok (.iload_n 1, 1) := by decide +kernel
theorem dX7_begin_16 : decode cX7_begin 16 = .ok (.lconst 0, 1) := by decide +kernel
theorem dX7_begin_17 : decode cX7_begin 17 = .ok (.lastore, 1) := by decide +kernel
theorem dX7_begin_18 : decode cX7_begin 18 = .ok (.iinc 1 1, 3) := by decide +kernel
theorem dX7_begin_21 : decode cX7_begin 21 = .ok (.goto (-19), 3) := by decide +kernel
theorem dX7_begin_24 : decode cX7_begin 24 = .ok (.aload_n 0, 1) := by decide +kernel
theorem dX7_begin_25 : decode cX7_begin 25 = .ok (.lconst 0, 1) := by decide +kernel
theorem dX7_begin_26 : decode cX7_begin 26 = .ok (.putfield 15, 3) := by decide +kernel
theorem dX7_begin_29 : decode cX7_begin 29 = .ok (.aload_n 0, 1) := by decide +kernel
theorem dX7_begin_30 : decode cX7_begin 30 = .ok (.lconst 0, 1) := by decide +kernel
theorem dX7_begin_31 : decode cX7_begin 31 = .ok (.putfield 19, 3) := by decide +kernel
theorem dX7_begin_34 : decode cX7_begin 34 = .ok (.aload_n 0, 1) := by decide +kernel
theorem dX7_begin_35 : decode cX7_begin 35 = .ok (.iconst 0, 1) := by decide +kernel
theorem dX7_begin_36 : decode cX7_begin 36 = .ok (.putfield 22, 3) := by decide +kernel
theorem dX7_begin_39 : decode cX7_begin 39 = .ok (.return_, 1) := by decide +kernel
theorem dX7_reckon_0 : decode cX7_reckon 0 = .ok (.iconst 0, 1) := by decide +kernel
theorem dX7_reckon_1 : decode cX7_reckon 1 = .ok (.istore_n 3, 1) := by decide +kernel
theorem dX7_reckon_2 : decode cX7_reckon 2 = .ok (.iload_n 3, 1) := by decide +kernel
theorem dX7_reckon_3 : decode cX7_reckon 3 = .ok (.aload_n 2, 1) := by decide +kernel
theorem dX7_reckon_4 : decode cX7_reckon 4 = .ok (.getfield 26, 3) := by decide +kernel
theorem dX7_reckon_7 : decode cX7_reckon 7 = .ok (.if_icmp .ge 30, 3) := by decide +kernel
theorem dX7_reckon_10 : decode cX7_reckon 10 = .ok (.aload_n 0, 1) := by decide +kernel
theorem dX7_reckon_11 : decode cX7_reckon 11 = .ok (.aload_n 1, 1) := by decide +kernel
theorem dX7_reckon_12 : decode cX7_reckon 12 = .ok (.aload_n 1, 1) := by decide +kernel
theorem dX7_reckon_13 : decode cX7_reckon 13 = .ok (.aload_n 2, 1) := by decide +kernel
theorem dX7_reckon_14 : decode cX7_reckon 14 = .ok (.aload_n 2, 1) := by decide +kernel
theorem dX7_reckon_15 : decode cX7_reckon 15 = .ok (.iload_n 3, 1) := by decide +kernel
theorem dX7_reckon_16 : decode cX7_reckon 16 = .ok (.invokevirtual 32, 3) := by decide +kernel
theorem dX7_reckon_19 : decode cX7_reckon 19 = .ok (.aload_n 2, 1) := by decide +kernel
theorem dX7_reckon_20 : decode cX7_reckon 20 = .ok (.iload_n 3, 1) := by decide +kernel
theorem dX7_reckon_21 : decode cX7_reckon 21 = .ok (.invokevirtual 36, 3) := by decide +kernel
theorem dX7_reckon_24 : decode cX7_reckon 24 = .ok (.invokevirtual 39, 3) := by decide +kernel
theorem dX7_reckon_27 : decode cX7_reckon 27 = .ok (.iconst 1, 1) := by decide +kernel
theorem dX7_reckon_28 : decode cX7_reckon 28 = .ok (.invokevirtual 45, 3) := by decide +kernel
theorem dX7_reckon_31 : decode cX7_reckon 31 = .ok (.iinc 3 1, 3) := by decide +kernel
theorem dX7_reckon_34 : decode cX7_reckon 34 = .ok (.goto (-32), 3) := by decide +kernel
theorem dX7_reckon_37 : decode cX7_reckon 37 = .ok (.iconst 0, 1) := by decide +kernel
theorem dX7_reckon_38 : decode cX7_reckon 38 = .ok (.istore_n 3, 1) := by decide +kernel
theorem dX7_reckon_39 : decode cX7_reckon 39 = .ok (.iload_n 3, 1) := by decide +kernel
theorem dX7_reckon_40 : decode cX7_reckon 40 = .ok (.iconst 1, 1) := by decide +kernel
theorem dX7_reckon_41 : decode cX7_reckon 41 = .ok (.iadd, 1) := by decide +kernel
theorem dX7_reckon_42 : decode cX7_reckon 42 = .ok (.aload_n 2, 1) := by decide +kernel
theorem dX7_reckon_43 : decode cX7_reckon 43 = .ok (.getfield 49, 3) := by decide +kernel
theorem dX7_reckon_46 : decode cX7_reckon 46 = .ok (.if_icmp .ge 32, 3) := by decide +kernel
theorem dX7_reckon_49 : decode cX7_reckon 49 = .ok (.aload_n 0, 1) := by decide +kernel
theorem dX7_reckon_50 : decode cX7_reckon 50 = .ok (.aload_n 1, 1) := by decide +kernel
theorem dX7_reckon_51 : decode cX7_reckon 51 = .ok (.aload_n 1, 1) := by decide +kernel
theorem dX7_reckon_52 : decode cX7_reckon 52 = .ok (.aload_n 2, 1) := by decide +kernel
theorem dX7_reckon_53 : decode cX7_reckon 53 = .ok (.aload_n 2, 1) := by decide +kernel
theorem dX7_reckon_54 : decode cX7_reckon 54 = .ok (.iload_n 3, 1) := by decide +kernel
theorem dX7_reckon_55 : decode cX7_reckon 55 = .ok (.invokevirtual 52, 3) := by decide +kernel
theorem dX7_reckon_58 : decode cX7_reckon 58 = .ok (.aload_n 2, 1) := by decide +kernel
theorem dX7_reckon_59 : decode cX7_reckon 59 = .ok (.iload_n 3, 1) := by decide +kernel
theorem dX7_reckon_60 : decode cX7_reckon 60 = .ok (.iconst 1, 1) := by decide +kernel
theorem dX7_reckon_61 : decode cX7_reckon 61 = .ok (.iadd, 1) := by decide +kernel
theorem dX7_reckon_62 : decode cX7_reckon 62 = .ok (.invokevirtual 52, 3) := by decide +kernel
theorem dX7_reckon_65 : decode cX7_reckon 65 = .ok (.invokevirtual 39, 3) := by decide +kernel
theorem dX7_reckon_68 : decode cX7_reckon 68 = .ok (.iconst 2, 1) := by decide +kernel
theorem dX7_reckon_69 : decode cX7_reckon 69 = .ok (.invokevirtual 45, 3) := by decide +kernel
theorem dX7_reckon_72 : decode cX7_reckon 72 = .ok (.iinc 3 1, 3) := by decide +kernel
theorem dX7_reckon_75 : decode cX7_reckon 75 = .ok (.goto (-36), 3) := by decide +kernel
theorem dX7_reckon_78 : decode cX7_reckon 78 = .ok (.aload_n 0, 1) := by decide +kernel
theorem dX7_reckon_79 : decode cX7_reckon 79 = .ok (.aload_n 0, 1) := by decide +kernel
theorem dX7_reckon_80 : decode cX7_reckon 80 = .ok (.getfield 15, 3) := by decide +kernel
theorem dX7_reckon_83 : decode cX7_reckon 83 = .ok (.aload_n 2, 1) := by decide +kernel
theorem dX7_reckon_84 : decode cX7_reckon 84 = .ok (.getfield 55, 3) := by decide +kernel
theorem dX7_reckon_87 : decode cX7_reckon 87 = .ok (.i2l, 1) := by decide +kernel
theorem dX7_reckon_88 : decode cX7_reckon 88 = .ok (.aload_n 1, 1) := by decide +kernel
theorem dX7_reckon_89 : decode cX7_reckon 89 = .ok (.aload_n 1, 1) := by decide +kernel
theorem dX7_reckon_90 : decode cX7_reckon 90 = .ok (.aload_n 1, 1) := by decide +kernel
theorem dX7_reckon_91 : decode cX7_reckon 91 = .ok (.getfield 58, 3) := by decide +kernel
theorem dX7_reckon_94 : decode cX7_reckon 94 = .ok (.invokevirtual 61, 3) := by decide +kernel
theorem dX7_reckon_97 : decode cX7_reckon 97 = .ok (.invokevirtual 64, 3) := by decide +kernel
theorem dX7_reckon_100 : decode cX7_reckon 100 = .ok (.lmul, 1) := by decide +kernel
theorem dX7_reckon_101 : decode cX7_reckon 101 = .ok (.ladd, 1) := by decide +kernel
theorem dX7_reckon_102 : decode cX7_reckon 102 = .ok (.putfield 19, 3) := by decide +kernel
theorem dX7_reckon_105 : decode cX7_reckon 105 = .ok (.return_, 1) := by decide +kernel
theorem dX7_use_0 : decode cX7_use 0 = .ok (.aload_n 0, 1) := by decide +kernel
theorem dX7_use_1 : decode cX7_use 1 = .ok (.aload_n 0, 1) := by decide +kernel
theorem dX7_use_2 : decode cX7_use 2 = .ok (.getfield 22, 3) := by decide +kernel
theorem dX7_use_5 : decode cX7_use 5 = .ok (.ifCond .ne 11, 3) := by decide +kernel
theorem dX7_use_8 : decode cX7_use 8 = .ok (.iload_n 2, 1) := by decide +kernel
theorem dX7_use_9 : decode cX7_use 9 = .ok (.aload_n 1, 1) := by decide +kernel
theorem dX7_use_10 : decode cX7_use 10 = .ok (.getfield 68, 3) := by decide +kernel
theorem dX7_use_13 : decode cX7_use 13 = .ok (.if_icmp .lt 7, 3) := by decide +kernel
theorem dX7_use_16 : decode cX7_use 16 = .ok (.iconst 1, 1) := by decide +kernel
theorem dX7_use_17 : decode cX7_use 17 = .ok (.goto 4, 3) := by decide +kernel
theorem dX7_use_20 : decode cX7_use 20 = .ok (.iconst 0, 1) := by decide +kernel
theorem dX7_use_21 : decode cX7_use 21 = .ok (.putfield 22, 3) := by decide +kernel
theorem dX7_use_24 : decode cX7_use 24 = .ok (.aload_n 0, 1) := by decide +kernel
theorem dX7_use_25 : decode cX7_use 25 = .ok (.getfield 22, 3) := by decide +kernel
theorem dX7_use_28 : decode cX7_use 28 = .ok (.ifCond .eq 8, 3) := by decide +kernel
theorem dX7_use_31 : decode cX7_use 31 = .ok (.iload_n 3, 1) := by decide +kernel
theorem dX7_use_32 : decode cX7_use 32 = .ok (.iconst 1, 1) := by decide +kernel
theorem dX7_use_33 : decode cX7_use 33 = .ok (.if_icmp .ge 4, 3) := by decide +kernel
theorem dX7_use_36 : decode cX7_use 36 = .ok (.return_, 1) := by decide +kernel
theorem dX7_use_37 : decode cX7_use 37 = .ok (.aload_n 1, 1) := by decide +kernel
theorem dX7_use_38 : decode cX7_use 38 = .ok (.iload_n 2, 1) := by decide +kernel
theorem dX7_use_39 : decode cX7_use 39 = .ok (.invokevirtual 61, 3) := by decide +kernel
theorem dX7_use_42 : decode cX7_use 42 = .ok (.istore 4, 2) := by decide +kernel
theorem dX7_use_44 : decode cX7_use 44 = .ok (.aload_n 1, 1) := by decide +kernel
theorem dX7_use_45 : decode cX7_use 45 = .ok (.iload 4, 2) := by decide +kernel
theorem dX7_use_47 : decode cX7_use 47 = .ok (.invokevirtual 64, 3) := by decide +kernel
theorem dX7_use_50 : decode cX7_use 50 = .ok (.iload_n 3, 1) := by decide +kernel
theorem dX7_use_51 : decode cX7_use 51 = .ok (.i2l, 1) := by decide +kernel
theorem dX7_use_52 : decode cX7_use 52 = .ok (.ldiv, 1) := by decide +kernel
theorem dX7_use_53 : decode cX7_use 53 = .ok (.lstore 5, 2) := by decide +kernel
theorem dX7_use_55 : decode cX7_use 55 = .ok (.aload_n 0, 1) := by decide +kernel
theorem dX7_use_56 : decode cX7_use 56 = .ok (.dup, 1) := by decide +kernel
theorem dX7_use_57 : decode cX7_use 57 = .ok (.getfield 15, 3) := by decide +kernel
theorem dX7_use_60 : decode cX7_use 60 = .ok (.lload 5, 2) := by decide +kernel
theorem dX7_use_62 : decode cX7_use 62 = .ok (.ladd, 1) := by decide +kernel
theorem dX7_use_63 : decode cX7_use 63 = .ok (.putfield 15, 3) := by decide +kernel
theorem dX7_use_66 : decode cX7_use 66 = .ok (.iload 4, 2) := by decide +kernel
theorem dX7_use_68 : decode cX7_use 68 = .ok (.ifCond .lt 25, 3) := by decide +kernel
theorem dX7_use_71 : decode cX7_use 71 = .ok (.iload 4, 2) := by decide +kernel
theorem dX7_use_73 : decode cX7_use 73 = .ok (.aload_n 0, 1) := by decide +kernel
theorem dX7_use_74 : decode cX7_use 74 = .ok (.getfield 9, 3) := by decide +kernel
theorem dX7_use_77 : decode cX7_use 77 = .ok (.arraylength, 1) := by decide +kernel
theorem dX7_use_78 : decode cX7_use 78 = .ok (.if_icmp .ge 15, 3) := by decide +kernel
theorem dX7_use_81 : decode cX7_use 81 = .ok (.aload_n 0, 1) := by decide +kernel
theorem dX7_use_82 : decode cX7_use 82 = .ok (.getfield 9, 3) := by decide +kernel
theorem dX7_use_85 : decode cX7_use 85 = .ok (.iload 4, 2) := by decide +kernel
theorem dX7_use_87 : decode cX7_use 87 = .ok (.dup2, 1) := by decide +kernel
theorem dX7_use_88 : decode cX7_use 88 = .ok (.laload, 1) := by decide +kernel
theorem dX7_use_89 : decode cX7_use 89 = .ok (.lload 5, 2) := by decide +kernel
theorem dX7_use_91 : decode cX7_use 91 = .ok (.ladd, 1) := by decide +kernel
theorem dX7_use_92 : decode cX7_use 92 = .ok (.lastore, 1) := by decide +kernel
theorem dX7_use_93 : decode cX7_use 93 = .ok (.return_, 1) := by decide +kernel
theorem dX7_partOf_0 : decode cX7_partOf 0 = .ok (.iload_n 1, 1) := by decide +kernel
theorem dX7_partOf_1 : decode cX7_partOf 1 = .ok (.ifCond .lt 21, 3) := by decide +kernel
theorem dX7_partOf_4 : decode cX7_partOf 4 = .ok (.iload_n 1, 1) := by decide +kernel
theorem dX7_partOf_5 : decode cX7_partOf 5 = .ok (.aload_n 0, 1) := by decide +kernel
theorem dX7_partOf_6 : decode cX7_partOf 6 = .ok (.getfield 9, 3) := by decide +kernel
theorem dX7_partOf_9 : decode cX7_partOf 9 = .ok (.arraylength, 1) := by decide +kernel
theorem dX7_partOf_10 : decode cX7_partOf 10 = .ok (.if_icmp .ge 12, 3) := by decide +kernel
theorem dX7_partOf_13 : decode cX7_partOf 13 = .ok (.aload_n 0, 1) := by decide +kernel
theorem dX7_partOf_14 : decode cX7_partOf 14 = .ok (.getfield 9, 3) := by decide +kernel
theorem dX7_partOf_17 : decode cX7_partOf 17 = .ok (.iload_n 1, 1) := by decide +kernel
theorem dX7_partOf_18 : decode cX7_partOf 18 = .ok (.laload, 1) := by decide +kernel
theorem dX7_partOf_19 : decode cX7_partOf 19 = .ok (.goto 4, 3) := by decide +kernel
theorem dX7_partOf_22 : decode cX7_partOf 22 = .ok (.lconst 0, 1) := by decide +kernel
theorem dX7_partOf_23 : decode cX7_partOf 23 = .ok (.lreturn, 1) := by decide +kernel
theorem dX7_partsAheadOf_0 : decode cX7_partsAheadOf 0 = .ok (.aload_n 0, 1) := by decide +kernel
theorem dX7_partsAheadOf_1 : decode cX7_partsAheadOf 1 = .ok (.iload_n 1, 1) := by decide +kernel
theorem dX7_partsAheadOf_2 : decode cX7_partsAheadOf 2 = .ok (.invokevirtual 71, 3) := by decide +kernel
theorem dX7_partsAheadOf_5 : decode cX7_partsAheadOf 5 = .ok (.lstore_n 2, 1) := by decide +kernel
theorem dX7_partsAheadOf_6 : decode cX7_partsAheadOf 6 = .ok (.iconst 0, 1) := by decide +kernel
theorem dX7_partsAheadOf_7 : decode cX7_partsAheadOf 7 = .ok (.istore 4, 2) := by decide +kernel
theorem dX7_partsAheadOf_9 : decode cX7_partsAheadOf 9 = .ok (.iconst 0, 1) := by decide +kernel
theorem dX7_partsAheadOf_10 : decode cX7_partsAheadOf 10 = .ok (.istore 5, 2) := by decide +kernel
theorem dX7_partsAheadOf_12 : decode cX7_partsAheadOf 12 = .ok (.iload 5, 2) := by decide +kernel
theorem dX7_partsAheadOf_14 : decode cX7_partsAheadOf 14 = .ok (.aload_n 0, 1) := by decide +kernel
theorem dX7_partsAheadOf_15 : decode cX7_partsAheadOf 15 = .ok (.getfield 9, 3) := by decide +kernel
theorem dX7_partsAheadOf_18 : decode cX7_partsAheadOf 18 = .ok (.arraylength, 1) := by decide +kernel
theorem dX7_partsAheadOf_19 : decode cX7_partsAheadOf 19 = .ok (.if_icmp .ge 42, 3) := by decide +kernel
theorem dX7_partsAheadOf_22 : decode cX7_partsAheadOf 22 = .ok (.aload_n 0, 1) := by decide +kernel
theorem dX7_partsAheadOf_23 : decode cX7_partsAheadOf 23 = .ok (.getfield 9, 3) := by decide +kernel
theorem dX7_partsAheadOf_26 : decode cX7_partsAheadOf 26 = .ok (.iload 5, 2) := by decide +kernel
theorem dX7_partsAheadOf_28 : decode cX7_partsAheadOf 28 = .ok (.laload, 1) := by decide +kernel
theorem dX7_partsAheadOf_29 : decode cX7_partsAheadOf 29 = .ok (.lload_n 2, 1) := by decide +kernel
theorem dX7_partsAheadOf_30 : decode cX7_partsAheadOf 30 = .ok (.lcmp, 1) := by decide +kernel
theorem dX7_partsAheadOf_31 : decode cX7_partsAheadOf 31 = .ok (.ifCond .gt 21, 3) := by decide +kernel
theorem dX7_partsAheadOf_34 : decode cX7_partsAheadOf 34 = .ok (.aload_n 0, 1) := by decide +kernel
theorem dX7_partsAheadOf_35 : decode cX7_partsAheadOf 35 = .ok (.getfield 9, 3) := by decide +kernel
theorem dX7_partsAheadOf_38 : decode cX7_partsAheadOf 38 = .ok (.iload 5, 2) := by decide +kernel
theorem dX7_partsAheadOf_40 : decode cX7_partsAheadOf 40 = .ok (.laload, 1) := by decide +kernel
theorem dX7_partsAheadOf_41 : decode cX7_partsAheadOf 41 = .ok (.lload_n 2, 1) := by decide +kernel
theorem dX7_partsAheadOf_42 : decode cX7_partsAheadOf 42 = .ok (.lcmp, 1) := by decide +kernel
theorem dX7_partsAheadOf_43 : decode cX7_partsAheadOf 43 = .ok (.ifCond .ne 12, 3) := by decide +kernel
theorem dX7_partsAheadOf_46 : decode cX7_partsAheadOf 46 = .ok (.iload 5, 2) := by decide +kernel
theorem dX7_partsAheadOf_48 : decode cX7_partsAheadOf 48 = .ok (.iload_n 1, 1) := by decide +kernel
theorem dX7_partsAheadOf_49 : decode cX7_partsAheadOf 49 = .ok (.if_icmp .ge 6, 3) := by decide +kernel
theorem dX7_partsAheadOf_52 : decode cX7_partsAheadOf 52 = .ok (.iinc 4 1, 3) := by decide +kernel
theorem dX7_partsAheadOf_55 : decode cX7_partsAheadOf 55 = .ok (.iinc 5 1, 3) := by decide +kernel
theorem dX7_partsAheadOf_58 : decode cX7_partsAheadOf 58 = .ok (.goto (-46), 3) := by decide +kernel
theorem dX7_partsAheadOf_61 : decode cX7_partsAheadOf 61 = .ok (.iload 4, 2) := by decide +kernel
theorem dX7_partsAheadOf_63 : decode cX7_partsAheadOf 63 = .ok (.ireturn, 1) := by decide +kernel
theorem dX8_init_0 : decode cX8_init 0 = .ok (.aload_n 0, 1) := by decide +kernel
theorem dX8_init_1 : decode cX8_init 1 = .ok (.invokespecial 3, 3) := by decide +kernel
theorem dX8_init_4 : decode cX8_init 4 = .ok (.aload_n 0, 1) := by decide +kernel
theorem dX8_init_5 : decode cX8_init 5 = .ok (.new 9, 3) := by decide +kernel
theorem dX8_init_8 : decode cX8_init 8 = .ok (.dup, 1) := by decide +kernel
theorem dX8_init_9 : decode cX8_init 9 = .ok (.invokespecial 11, 3) := by decide +kernel
theorem dX8_init_12 : decode cX8_init 12 = .ok (.putfield 12, 3) := by decide +kernel
theorem dX8_init_15 : decode cX8_init 15 = .ok (.aload_n 0, 1) := by decide +kernel
theorem dX8_init_16 : decode cX8_init 16 = .ok (.new 16, 3) := by decide +kernel
theorem dX8_init_19 : decode cX8_init 19 = .ok (.dup, 1) := by decide +kernel
theorem dX8_init_20 : decode cX8_init 20 = .ok (.invokespecial 18, 3) := by decide +kernel
theorem dX8_init_23 : decode cX8_init 23 = .ok (.putfield 19, 3) := by decide +kernel
theorem dX8_init_26 : decode cX8_init 26 = .ok (.aload_n 0, 1) := by decide +kernel
theorem dX8_init_27 : decode cX8_init 27 = .ok (.new 23, 3) := by decide +kernel
theorem dX8_init_30 : decode cX8_init 30 = .ok (.dup, 1) := by decide +kernel
theorem dX8_init_31 : decode cX8_init 31 = .ok (.invokespecial 25, 3) := by decide +kernel
theorem dX8_init_34 : decode cX8_init 34 = .ok (.putfield 26, 3) := by decide +kernel
theorem dX8_init_37 : decode cX8_init 37 = .ok (.aload_n 0, 1) := by decide +kernel
theorem dX8_init_38 : decode cX8_init 38 = .ok (.new 30, 3) := by decide +kernel
theorem dX8_init_41 : decode cX8_init 41 = .ok (.dup, 1) := by decide +kernel
theorem dX8_init_42 : decode cX8_init 42 = .ok (.invokespecial 32, 3) := by decide +kernel
theorem dX8_init_45 : decode cX8_init 45 = .ok (.putfield 33, 3) := by decide +kernel
theorem dX8_init_48 : decode cX8_init 48 = .ok (.aload_n 0, 1) := by decide +kernel
theorem dX8_init_49 : decode cX8_init 49 = .ok (.new 37, 3) := by decide +kernel
theorem dX8_init_52 : decode cX8_init 52 = .ok (.dup, 1) := by decide +kernel
theorem dX8_init_53 : decode cX8_init 53 = .ok (.invokespecial 39, 3) := by decide +kernel
theorem dX8_init_56 : decode cX8_init 56 = .ok (.putfield 40, 3) := by decide +kernel
theorem dX8_init_59 : decode cX8_init 59 = .ok (.aload_n 0, 1) := by decide +kernel
theorem dX8_init_60 : decode cX8_init 60 = .ok (.new 44, 3) := by decide +kernel
theorem dX8_init_63 : decode cX8_init 63 = .ok (.dup, 1) := by decide +kernel
theorem dX8_init_64 : decode cX8_init 64 = .ok (.invokespecial 46, 3) := by decide +kernel
theorem dX8_init_67 : decode cX8_init 67 = .ok (.putfield 47, 3) := by decide +kernel
theorem dX8_init_70 : decode cX8_init 70 = .ok (.aload_n 0, 1) := by decide +kernel
theorem dX8_init_71 : decode cX8_init 71 = .ok (.new 51, 3) := by decide +kernel
theorem dX8_init_74 : decode cX8_init 74 = .ok (.dup, 1) := by decide +kernel
theorem dX8_init_75 : decode cX8_init 75 = .ok (.invokespecial 53, 3) := by decide +kernel
theorem dX8_init_78 : decode cX8_init 78 = .ok (.putfield 54, 3) := by decide +kernel
theorem dX8_init_81 : decode cX8_init 81 = .ok (.aload_n 0, 1) := by decide +kernel
theorem dX8_init_82 : decode cX8_init 82 = .ok (.iconst (-1), 1) := by decide +kernel
theorem dX8_init_83 : decode cX8_init 83 = .ok (.putfield 58, 3) := by decide +kernel
theorem dX8_init_86 : decode cX8_init 86 = .ok (.aload_n 0, 1) := by decide +kernel
theorem dX8_init_87 : decode cX8_init 87 = .ok (.iconst (-1), 1) := by decide +kernel
theorem dX8_init_88 : decode cX8_init 88 = .ok (.putfield 62, 3) := by decide +kernel
theorem dX8_init_91 : decode cX8_init 91 = .ok (.return_, 1) := by decide +kernel
theorem dX8_feed_0 : decode cX8_feed 0 = .ok (.aload_n 0, 1) := by decide +kernel
theorem dX8_feed_1 : decode cX8_feed 1 = .ok (.getfield 12, 3) := by decide +kernel
theorem dX8_feed_4 : decode cX8_feed 4 = .ok (.bipush 20, 2) := by decide +kernel
theorem dX8_feed_6 : decode cX8_feed 6 = .ok (.invokevirtual 65, 3) := by decide +kernel
theorem dX8_feed_9 : decode cX8_feed 9 = .ok (.ifCond .ne 5, 3) := by decide +kernel
theorem dX8_feed_12 : decode cX8_feed 12 = .ok (.iconst (-1), 1) := by decide +kernel
theorem dX8_feed_13 : decode cX8_feed 13 = .ok (.ireturn, 1) := by decide +kernel
theorem dX8_feed_14 : decode cX8_feed 14 = .ok (.aload_n 0, 1) := by decide +kernel
theorem dX8_feed_15 : decode cX8_feed 15 = .ok (.getfield 12, 3) := by decide +kernel
theorem dX8_feed_18 : decode cX8_feed 18 = .ok (.iload_n 1, 1) := by decide +kernel
theorem dX8_feed_19 : decode cX8_feed 19 = .ok (.invokevirtual 69, 3) := by decide +kernel
theorem dX8_feed_22 : decode cX8_feed 22 = .ok (.aload_n 0, 1) := by decide +kernel
theorem dX8_feed_23 : decode cX8_feed 23 = .ok (.getfield 12, 3) := by decide +kernel
theorem dX8_feed_26 : decode cX8_feed 26 = .ok (.iload_n 2, 1) := by decide +kernel
theorem dX8_feed_27 : decode cX8_feed 27 = .ok (.invokevirtual 69, 3) := by decide +kernel
theorem dX8_feed_30 : decode cX8_feed 30 = .ok (.aload_n 0, 1) := by decide +kernel
theorem dX8_feed_31 : decode cX8_feed 31 = .ok (.getfield 12, 3) := by decide +kernel
theorem dX8_feed_34 : decode cX8_feed 34 = .ok (.iload_n 3, 1) := by decide +kernel
theorem dX8_feed_35 : decode cX8_feed 35 = .ok (.invokevirtual 69, 3) := by decide +kernel
theorem dX8_feed_38 : decode cX8_feed 38 = .ok (.aload_n 0, 1) := by decide +kernel
theorem dX8_feed_39 : decode cX8_feed 39 = .ok (.getfield 12, 3) := by decide +kernel
theorem dX8_feed_42 : decode cX8_feed 42 = .ok (.iload 4, 2) := by decide +kernel
theorem dX8_feed_44 : decode cX8_feed 44 = .ok (.invokevirtual 69, 3) := by decide +kernel
theorem dX8_feed_47 : decode cX8_feed 47 = .ok (.aload_n 0, 1) := by decide +kernel
theorem dX8_feed_48 : decode cX8_feed 48 = .ok (.getfield 12, 3) := by decide +kernel
theorem dX8_feed_51 : decode cX8_feed 51 = .ok (.iload 5, 2) := by decide +kernel
theorem dX8_feed_53 : decode cX8_feed 53 = .ok (.invokevirtual 69, 3) := by decide +kernel
theorem dX8_feed_56 : decode cX8_feed 56 = .ok (.aload_n 0, 1) := by decide +kernel
theorem dX8_feed_57 : decode cX8_feed 57 = .ok (.getfield 12, 3) := by decide +kernel
theorem dX8_feed_60 : decode cX8_feed 60 = .ok (.getfield 73, 3) := by decide +kernel
theorem dX8_feed_63 : decode cX8_feed 63 = .ok (.ireturn, 1) := by decide +kernel
theorem dX8_end_0 : decode cX8_end 0 = .ok (.iload_n 1, 1) := by decide +kernel
theorem dX8_end_1 : decode cX8_end 1 = .ok (.ifCond .lt 14, 3) := by decide +kernel
theorem dX8_end_4 : decode cX8_end 4 = .ok (.iload_n 1, 1) := by decide +kernel
theorem dX8_end_5 : decode cX8_end 5 = .ok (.aload_n 0, 1) := by decide +kernel
theorem dX8_end_6 : decode cX8_end 6 = .ok (.getfield 12, 3) := by decide +kernel
theorem dX8_end_9 : decode cX8_end 9 = .ok (.getfield 73, 3) := by decide +kernel
theorem dX8_end_12 : decode cX8_end 12 = .ok (.if_icmp .le 5, 3) := by decide +kernel
theorem dX8_end_15 : decode cX8_end 15 = .ok (.iconst 0, 1) := by decide +kernel
theorem dX8_end_16 : decode cX8_end 16 = .ok (.ireturn, 1) := by decide +kernel
theorem dX8_end_17 : decode cX8_end 17 = .ok (.aload_n 0, 1) := by decide +kernel
theorem dX8_end_18 : decode cX8_end 18 = .ok (.getfield 12, 3) := by decide +kernel
theorem dX8_end_21 : decode cX8_end 21 = .ok (.iload_n 1, 1) := by decide +kernel
theorem dX8_end_22 : decode cX8_end 22 = .ok (.putfield 73, 3) := by decide +kernel
theorem dX8_end_25 : decode cX8_end 25 = .ok (.iconst 1, 1) := by decide +kernel
theorem dX8_end_26 : decode cX8_end 26 = .ok (.ireturn, 1) := by decide +kernel
theorem dX8_put_0 : decode cX8_put 0 = .ok (.aload_n 0, 1) := by decide +kernel
theorem dX8_put_1 : decode cX8_put 1 = .ok (.getfield 19, 3) := by decide +kernel
theorem dX8_put_4 : decode cX8_put 4 = .ok (.iload_n 1, 1) := by decide +kernel
theorem dX8_put_5 : decode cX8_put 5 = .ok (.invokevirtual 76, 3) := by decide +kernel
theorem dX8_put_8 : decode cX8_put 8 = .ok (.astore 5, 2) := by decide +kernel
theorem dX8_put_10 : decode cX8_put 10 = .ok (.aload 5, 2) := by decide +kernel
theorem dX8_put_12 : decode cX8_put 12 = .ok (.ifnull 13, 3) := by decide +kernel
theorem dX8_put_15 : decode cX8_put 15 = .ok (.iload_n 2, 1) := by decide +kernel
theorem dX8_put_16 : decode cX8_put 16 = .ok (.iload_n 3, 1) := by decide +kernel
theorem dX8_put_17 : decode cX8_put 17 = .ok (.iload 4, 2) := by decide +kernel
theorem dX8_put_19 : decode cX8_put 19 = .ok (.invokestatic 80, 3) := by decide +kernel
theorem dX8_put_22 : decode cX8_put 22 = .ok (.ifCond .ne 5, 3) := by decide +kernel
theorem dX8_put_25 : decode cX8_put 25 = .ok (.iconst 0, 1) := by decide +kernel
theorem dX8_put_26 : decode cX8_put 26 = .ok (.ireturn, 1) := by decide +kernel
theorem dX8_put_27 : decode cX8_put 27 = .ok (.aload_n 0, 1) := by decide +kernel
theorem dX8_put_28 : decode cX8_put 28 = .ok (.iload_n 1, 1) := by decide +kernel
theorem dX8_put_29 : decode cX8_put 29 = .ok (.aload 5, 2) := by decide +kernel
theorem dX8_put_31 : decode cX8_put 31 = .ok (.invokevirtual 84, 3) := by decide +kernel
theorem dX8_put_34 : decode cX8_put 34 = .ok (.aload 5, 2) := by decide +kernel
theorem dX8_put_36 : decode cX8_put 36 = .ok (.iload_n 2, 1) := by decide +kernel
theorem dX8_put_37 : decode cX8_put 37 = .ok (.iload_n 3, 1) := by decide +kernel
theorem dX8_put_38 : decode cX8_put 38 = .ok (.iload 4, 2) := by decide +kernel
theorem dX8_put_40 : decode cX8_put 40 = .ok (.invokevirtual 88, 3) := by decide +kernel
theorem dX8_put_43 : decode cX8_put 43 = .ok (.iconst 1, 1) := by decide +kernel
theorem dX8_put_44 : decode cX8_put 44 = .ok (.ireturn, 1) := by decide +kernel
theorem dX8_plug_0 : decode cX8_plug 0 = .ok (.aload_n 0, 1) := by decide +kernel
theorem dX8_plug_1 : decode cX8_plug 1 = .ok (.getfield 19, 3) := by decide +kernel
theorem dX8_plug_4 : decode cX8_plug 4 = .ok (.iload_n 1, 1) := by decide +kernel
theorem dX8_plug_5 : decode cX8_plug 5 = .ok (.invokevirtual 76, 3) := by decide +kernel
theorem dX8_plug_8 : decode cX8_plug 8 = .ok (.astore_n 2, 1) := by decide +kernel
theorem dX8_plug_9 : decode cX8_plug 9 = .ok (.aload_n 2, 1) := by decide +kernel
theorem dX8_plug_10 : decode cX8_plug 10 = .ok (.ifnonnull 5, 3) := by decide +kernel
theorem dX8_plug_13 : decode cX8_plug 13 = .ok (.iconst 0, 1) := by decide +kernel
theorem dX8_plug_14 : decode cX8_plug 14 = .ok (.ireturn, 1) := by decide +kernel
theorem dX8_plug_15 : decode cX8_plug 15 = .ok (.aload_n 0, 1) := by decide +kernel
theorem dX8_plug_16 : decode cX8_plug 16 = .ok (.iload_n 1, 1) := by decide +kernel
theorem dX8_plug_17 : decode cX8_plug 17 = .ok (.aload_n 2, 1) := by decide +kernel
theorem dX8_plug_18 : decode cX8_plug 18 = .ok (.invokevirtual 84, 3) := by decide +kernel
theorem dX8_plug_21 : decode cX8_plug 21 = .ok (.aload_n 2, 1) := by decide +kernel
theorem dX8_plug_22 : decode cX8_plug 22 = .ok (.iconst 5, 1) := by decide +kernel
theorem dX8_plug_23 : decode cX8_plug 23 = .ok (.iconst 0, 1) := by decide +kernel
theorem dX8_plug_24 : decode cX8_plug 24 = .ok (.iconst 0, 1) := by decide +kernel
theorem dX8_plug_25 : decode cX8_plug 25 = .ok (.invokevirtual 88, 3) := by decide +kernel
theorem dX8_plug_28 : decode cX8_plug 28 = .ok (.iconst 1, 1) := by decide +kernel
theorem dX8_plug_29 : decode cX8_plug 29 = .ok (.ireturn, 1) := by decide +kernel
theorem dX8_take_0 : decode cX8_take 0 = .ok (.aload_n 0, 1) := by decide +kernel
theorem dX8_take_1 : decode cX8_take 1 = .ok (.getfield 19, 3) := by decide +kernel
theorem dX8_take_4 : decode cX8_take 4 = .ok (.iload_n 1, 1) := by decide +kernel
theorem dX8_take_5 : decode cX8_take 5 = .ok (.invokevirtual 76, 3) := by decide +kernel
theorem dX8_take_8 : decode cX8_take 8 = .ok (.astore_n 2, 1) := by decide +kernel
theorem dX8_take_9 : decode cX8_take 9 = .ok (.aload_n 2, 1) := by decide +kernel
theorem dX8_take_10 : decode cX8_take 10 = .ok (.ifnull 11, 3) := by decide +kernel
theorem dX8_take_13 : decode cX8_take 13 = .ok (.aload_n 2, 1) := by decide +kernel
theorem dX8_take_14 : decode cX8_take 14 = .ok (.getfield 92, 3) := by decide +kernel
theorem dX8_take_17 : decode cX8_take 17 = .ok (.iconst (-1), 1) := by decide +kernel
theorem dX8_take_18 : decode cX8_take 18 = .ok (.if_icmp .ne 5, 3) := by decide +kernel
theorem dX8_take_21 : decode cX8_take 21 = .ok (.iconst 0, 1) := by decide +kernel
theorem dX8_take_22 : decode cX8_take 22 = .ok (.ireturn, 1) := by decide +kernel
theorem dX8_take_23 : decode cX8_take 23 = .ok (.aload_n 0, 1) := by decide +kernel
theorem dX8_take_24 : decode cX8_take 24 = .ok (.iload_n 1, 1) := by decide +kernel
theorem dX8_take_25 : decode cX8_take 25 = .ok (.aload_n 2, 1) := by decide +kernel
theorem dX8_take_26 : decode cX8_take 26 = .ok (.invokevirtual 84, 3) := by decide +kernel
theorem dX8_take_29 : decode cX8_take 29 = .ok (.aload_n 2, 1) := by decide +kernel
theorem dX8_take_30 : decode cX8_take 30 = .ok (.iconst (-1), 1) := by decide +kernel
theorem dX8_take_31 : decode cX8_take 31 = .ok (.iconst 0, 1) := by decide +kernel
theorem dX8_take_32 : decode cX8_take 32 = .ok (.iconst 0, 1) := by decide +kernel
theorem dX8_take_33 : decode cX8_take 33 = .ok (.invokevirtual 88, 3) := by decide +kernel
theorem dX8_take_36 : decode cX8_take 36 = .ok (.iconst 1, 1) := by decide +kernel
theorem dX8_take_37 : decode cX8_take 37 = .ok (.ireturn, 1) := by decide +kernel
theorem dX8_kind_0 : decode cX8_kind 0 = .ok (.aload_n 0, 1) := by decide +kernel
theorem dX8_kind_1 : decode cX8_kind 1 = .ok (.getfield 19, 3) := by decide +kernel
theorem dX8_kind_4 : decode cX8_kind 4 = .ok (.iload_n 1, 1) := by decide +kernel
theorem dX8_kind_5 : decode cX8_kind 5 = .ok (.invokevirtual 76, 3) := by decide +kernel
theorem dX8_kind_8 : decode cX8_kind 8 = .ok (.astore_n 2, 1) := by decide +kernel
theorem dX8_kind_9 : decode cX8_kind 9 = .ok (.aload_n 2, 1) := by decide +kernel
theorem dX8_kind_10 : decode cX8_kind 10 = .ok (.ifnonnull 8, 3) := by decide +kernel
theorem dX8_kind_13 : decode cX8_kind 13 = .ok (.bipush (-2), 2) := by decide +kernel
theorem dX8_kind_15 : decode cX8_kind 15 = .ok (.goto 7, 3) := by decide +kernel
theorem dX8_kind_18 : decode cX8_kind 18 = .ok (.aload_n 2, 1) := by decide +kernel
theorem dX8_kind_19 : decode cX8_kind 19 = .ok (.getfield 92, 3) := by decide +kernel
theorem dX8_kind_22 : decode cX8_kind 22 = .ok (.ireturn, 1) := by decide +kernel
theorem dX8_read_0 : decode cX8_read 0 = .ok (.aload_n 0, 1) := by decide +kernel
theorem dX8_read_1 : decode cX8_read 1 = .ok (.iload_n 1, 1) := by decide +kernel
theorem dX8_read_2 : decode cX8_read 2 = .ok (.iload_n 2, 1) := by decide +kernel
theorem dX8_read_3 : decode cX8_read 3 = .ok (.invokevirtual 95, 3) := by decide +kernel
theorem dX8_read_6 : decode cX8_read 6 = .ok (.istore_n 3, 1) := by decide +kernel
theorem dX8_read_7 : decode cX8_read 7 = .ok (.aload_n 0, 1) := by decide +kernel
theorem dX8_read_8 : decode cX8_read 8 = .ok (.getfield 12, 3) := by decide +kernel
theorem dX8_read_11 : decode cX8_read 11 = .ok (.iconst 0, 1) := by decide +kernel
theorem dX8_read_12 : decode cX8_read 12 = .ok (.putfield 73, 3) := by decide +kernel
theorem dX8_read_15 : decode cX8_read 15 = .ok (.iload_n 3, 1) := by decide +kernel
theorem dX8_read_16 : decode cX8_read 16 = .ok (.ireturn, 1) := by decide +kernel
theorem dX8_tear_0 : decode cX8_tear 0 = .ok (.aload_n 0, 1) := by decide +kernel
theorem dX8_tear_1 : decode cX8_tear 1 = .ok (.getfield 19, 3) := by decide +kernel
theorem dX8_tear_4 : decode cX8_tear 4 = .ok (.iload_n 1, 1) := by decide +kernel
theorem dX8_tear_5 : decode cX8_tear 5 = .ok (.invokevirtual 99, 3) := by decide +kernel
theorem dX8_tear_8 : decode cX8_tear 8 = .ok (.astore 4, 2) := by decide +kernel
theorem dX8_tear_10 : decode cX8_tear 10 = .ok (.aload 4, 2) := by decide +kernel
theorem dX8_tear_12 : decode cX8_tear 12 = .ok (.ifnull 21, 3) := by decide +kernel
theorem dX8_tear_15 : decode cX8_tear 15 = .ok (.iload_n 2, 1) := by decide +kernel
theorem dX8_tear_16 : decode cX8_tear 16 = .ok (.ifCond .lt 17, 3) := by decide +kernel
theorem dX8_tear_19 : decode cX8_tear 19 = .ok (.iload_n 2, 1) := by decide +kernel
theorem dX8_tear_20 : decode cX8_tear 20 = .ok (.iload_n 3, 1) := by decide +kernel
theorem dX8_tear_21 : decode cX8_tear 21 = .ok (.if_icmp .gt 12, 3) := by decide +kernel
theorem dX8_tear_24 : decode cX8_tear 24 = .ok (.iload_n 3, 1) := by decide +kernel
theorem dX8_tear_25 : decode cX8_tear 25 = .ok (.aload 4, 2) := by decide +kernel
theorem dX8_tear_27 : decode cX8_tear 27 = .ok (.getfield 102, 3) := by decide +kernel
theorem dX8_tear_30 : decode cX8_tear 30 = .ok (.if_icmp .lt 5, 3) := by decide +kernel
theorem dX8_tear_33 : decode cX8_tear 33 = .ok (.iconst (-1), 1) := by decide +kernel
theorem dX8_tear_34 : decode cX8_tear 34 = .ok (.ireturn, 1) := by decide +kernel
theorem dX8_tear_35 : decode cX8_tear 35 = .ok (.aload_n 0, 1) := by decide +kernel
theorem dX8_tear_36 : decode cX8_tear 36 = .ok (.iload_n 1, 1) := by decide +kernel
theorem dX8_tear_37 : decode cX8_tear 37 = .ok (.aload 4, 2) := by decide +kernel
theorem dX8_tear_39 : decode cX8_tear 39 = .ok (.invokevirtual 84, 3) := by decide +kernel
theorem dX8_tear_42 : decode cX8_tear 42 = .ok (.aload 4, 2) := by decide +kernel
theorem dX8_tear_44 : decode cX8_tear 44 = .ok (.iload_n 2, 1) := by decide +kernel
theorem dX8_tear_45 : decode cX8_tear 45 = .ok (.iload_n 3, 1) := by decide +kernel
theorem dX8_tear_46 : decode cX8_tear 46 = .ok (.invokevirtual 105, 3) := by decide +kernel
theorem dX8_tear_49 : decode cX8_tear 49 = .ok (.ireturn, 1) := by decide +kernel
theorem dX8_fill_0 : decode cX8_fill 0 = .ok (.aload_n 0, 1) := by decide +kernel
theorem dX8_fill_1 : decode cX8_fill 1 = .ok (.getfield 19, 3) := by decide +kernel
theorem dX8_fill_4 : decode cX8_fill 4 = .ok (.iload_n 1, 1) := by decide +kernel
theorem dX8_fill_5 : decode cX8_fill 5 = .ok (.invokevirtual 99, 3) := by decide +kernel
theorem dX8_fill_8 : decode cX8_fill 8 = .ok (.astore 4, 2) := by decide +kernel
theorem dX8_fill_10 : decode cX8_fill 10 = .ok (.aload 4, 2) := by decide +kernel
theorem dX8_fill_12 : decode cX8_fill 12 = .ok (.ifnull 24, 3) := by decide +kernel
theorem dX8_fill_15 : decode cX8_fill 15 = .ok (.iload_n 3, 1) := by decide +kernel
theorem dX8_fill_16 : decode cX8_fill 16 = .ok (.i2l, 1) := by decide +kernel
theorem dX8_fill_17 : decode cX8_fill 17 = .ok (.ldc 108, 2) := by decide +kernel
theorem dX8_fill_19 : decode cX8_fill 19 = .ok (.ldc 109, 2) := by decide +kernel
theorem dX8_fill_21 : decode cX8_fill 21 = .ok (.invokestatic 110, 3) := by decide +kernel
theorem dX8_fill_24 : decode cX8_fill 24 = .ok (.ifCond .eq 12, 3) := by decide +kernel
theorem dX8_fill_27 : decode cX8_fill 27 = .ok (.aload 4, 2) := by decide +kernel
theorem dX8_fill_29 : decode cX8_fill 29 = .ok (.iload_n 2, 1) := by decide +kernel
theorem dX8_fill_30 : decode cX8_fill 30 = .ok (.invokevirtual 114, 3) := by decide +kernel
theorem dX8_fill_33 : decode cX8_fill 33 = .ok (.ifCond .ne 5, 3) := by decide +kernel
theorem dX8_fill_36 : decode cX8_fill 36 = .ok (.iconst 0, 1) := by decide +kernel
theorem dX8_fill_37 : decode cX8_fill 37 = .ok (.ireturn, 1) := by decide +kernel
theorem dX8_fill_38 : decode cX8_fill 38 = .ok (.aload_n 0, 1) := by decide +kernel
theorem dX8_fill_39 : decode cX8_fill 39 = .ok (.iload_n 1, 1) := by decide +kernel
theorem dX8_fill_40 : decode cX8_fill 40 = .ok (.aload 4, 2) := by decide +kernel
theorem dX8_fill_42 : decode cX8_fill 42 = .ok (.invokevirtual 84, 3) := by decide +kernel
theorem dX8_fill_45 : decode cX8_fill 45 = .ok (.aload 4, 2) := by decide +kernel
theorem dX8_fill_47 : decode cX8_fill 47 = .ok (.iload_n 2, 1) := by decide +kernel
theorem dX8_fill_48 : decode cX8_fill 48 = .ok (.iload_n 3, 1) := by decide +kernel
theorem dX8_fill_49 : decode cX8_fill 49 = .ok (.invokevirtual 117, 3) := by decide +kernel
theorem dX8_fill_52 : decode cX8_fill 52 = .ok (.iconst 1, 1) := by decide +kernel
theorem dX8_fill_53 : decode cX8_fill 53 = .ok (.ireturn, 1) := by decide +kernel
theorem dX8_row_0 : decode cX8_row 0 = .ok (.aload_n 0, 1) := by decide +kernel
theorem dX8_row_1 : decode cX8_row 1 = .ok (.getfield 19, 3) := by decide +kernel
theorem dX8_row_4 : decode cX8_row 4 = .ok (.iload_n 1, 1) := by decide +kernel
theorem dX8_row_5 : decode cX8_row 5 = .ok (.invokevirtual 121, 3) := by decide +kernel
theorem dX8_row_8 : decode cX8_row 8 = .ok (.astore_n 3, 1) := by decide +kernel
theorem dX8_row_9 : decode cX8_row 9 = .ok (.aload_n 3, 1) := by decide +kernel
theorem dX8_row_10 : decode cX8_row 10 = .ok (.ifnonnull 5, 3) := by decide +kernel
theorem dX8_row_13 : decode cX8_row 13 = .ok (.iconst (-1), 1) := by decide +kernel
theorem dX8_row_14 : decode cX8_row 14 = .ok (.ireturn, 1) := by decide +kernel
theorem dX8_row_15 : decode cX8_row 15 = .ok (.aload_n 0, 1) := by decide +kernel
theorem dX8_row_16 : decode cX8_row 16 = .ok (.getfield 26, 3) := by decide +kernel
theorem dX8_row_19 : decode cX8_row 19 = .ok (.aload_n 0, 1) := by decide +kernel
theorem dX8_row_20 : decode cX8_row 20 = .ok (.getfield 19, 3) := by decide +kernel
theorem dX8_row_23 : decode cX8_row 23 = .ok (.aload_n 3, 1) := by decide +kernel
theorem dX8_row_24 : decode cX8_row 24 = .ok (.iconst 0, 1) := by decide +kernel
theorem dX8_row_25 : decode cX8_row 25 = .ok (.invokevirtual 124, 3) := by decide +kernel
theorem dX8_row_28 : decode cX8_row 28 = .ok (.iload_n 2, 1) := by decide +kernel
theorem dX8_row_29 : decode cX8_row 29 = .ok (.tableswitch 100 0 6 #[43, 52, 60, 68, 76, 84, 92], 43) := by decide +kernel
theorem dX8_row_72 : decode cX8_row 72 = .ok (.aload_n 0, 1) := by decide +kernel
theorem dX8_row_73 : decode cX8_row 73 = .ok (.getfield 19, 3) := by decide +kernel
theorem dX8_row_76 : decode cX8_row 76 = .ok (.aload_n 3, 1) := by decide +kernel
theorem dX8_row_77 : decode cX8_row 77 = .ok (.invokevirtual 128, 3) := by decide +kernel
theorem dX8_row_80 : decode cX8_row 80 = .ok (.ireturn, 1) := by decide +kernel
theorem dX8_row_81 : decode cX8_row 81 = .ok (.aload_n 0, 1) := by decide +kernel
theorem dX8_row_82 : decode cX8_row 82 = .ok (.getfield 26, 3) := by decide +kernel
theorem dX8_row_85 : decode cX8_row 85 = .ok (.getfield 132, 3) := by decide +kernel
theorem dX8_row_88 : decode cX8_row 88 = .ok (.ireturn, 1) := by decide +kernel
theorem dX8_row_89 : decode cX8_row 89 = .ok (.aload_n 0, 1) := by decide +kernel
theorem dX8_row_90 : decode cX8_row 90 = .ok (.getfield 26, 3) := by decide +kernel
theorem dX8_row_93 : decode cX8_row 93 = .ok (.getfield 135, 3) := by decide +kernel
theorem dX8_row_96 : decode cX8_row 96 = .ok (.ireturn, 1) := by decide +kernel
theorem dX8_row_97 : decode cX8_row 97 = .ok (.aload_n 0, 1) := by decide +kernel
theorem dX8_row_98 : decode cX8_row 98 = .ok (.getfield 26, 3) := by decide +kernel
theorem dX8_row_101 : decode cX8_row 101 = .ok (.getfield 138, 3) := by decide +kernel
theorem dX8_row_104 : decode cX8_row 104 = .ok (.ireturn, 1) := by decide +kernel
theorem dX8_row_105 : decode cX8_row 105 = .ok (.aload_n 0, 1) := by decide +kernel
theorem dX8_row_106 : decode cX8_row 106 = .ok (.getfield 26, 3) := by decide +kernel
theorem dX8_row_109 : decode cX8_row 109 = .ok (.getfield 141, 3) := by decide +kernel
theorem dX8_row_112 : decode cX8_row 112 = .ok (.ireturn, 1) := by decide +kernel
theorem dX8_row_113 : decode cX8_row 113 = .ok (.aload_n 0, 1) := by decide +kernel
theorem dX8_row_114 : decode cX8_row 114 = .ok (.getfield 26, 3) := by decide +kernel
theorem dX8_row_117 : decode cX8_row 117 = .ok (.getfield 144, 3) := by decide +kernel
theorem dX8_row_120 : decode cX8_row 120 = .ok (.ireturn, 1) := by decide +kernel
theorem dX8_row_121 : decode cX8_row 121 = .ok (.aload_n 0, 1) := by decide +kernel
theorem dX8_row_122 : decode cX8_row 122 = .ok (.getfield 26, 3) := by decide +kernel
theorem dX8_row_125 : decode cX8_row 125 = .ok (.getfield 147, 3) := by decide +kernel
theorem dX8_row_128 : decode cX8_row 128 = .ok (.ireturn, 1) := by decide +kernel
theorem dX8_row_129 : decode cX8_row 129 = .ok (.iconst (-1), 1) := by decide +kernel
theorem dX8_row_130 : decode cX8_row 130 = .ok (.ireturn, 1) := by decide +kernel
theorem dX8_span_0 : decode cX8_span 0 = .ok (.aload_n 0, 1) := by decide +kernel
theorem dX8_span_1 : decode cX8_span 1 = .ok (.getfield 19, 3) := by decide +kernel
theorem dX8_span_4 : decode cX8_span 4 = .ok (.iload_n 1, 1) := by decide +kernel
theorem dX8_span_5 : decode cX8_span 5 = .ok (.invokevirtual 121, 3) := by decide +kernel
theorem dX8_span_8 : decode cX8_span 8 = .ok (.astore_n 3, 1) := by decide +kernel
theorem dX8_span_9 : decode cX8_span 9 = .ok (.aload_n 3, 1) := by decide +kernel
theorem dX8_span_10 : decode cX8_span 10 = .ok (.ifnull 19, 3) := by decide +kernel
theorem dX8_span_13 : decode cX8_span 13 = .ok (.iload_n 2, 1) := by decide +kernel
theorem dX8_span_14 : decode cX8_span 14 = .ok (.ifCond .lt 15, 3) := by decide +kernel
theorem dX8_span_17 : decode cX8_span 17 = .ok (.iload_n 2, 1) := by decide +kernel
theorem dX8_span_18 : decode cX8_span 18 = .ok (.aload_n 0, 1) := by decide +kernel
theorem dX8_span_19 : decode cX8_span 19 = .ok (.getfield 19, 3) := by decide +kernel
theorem dX8_span_22 : decode cX8_span 22 = .ok (.aload_n 3, 1) := by decide +kernel
theorem dX8_span_23 : decode cX8_span 23 = .ok (.invokevirtual 128, 3) := by decide +kernel
theorem dX8_span_26 : decode cX8_span 26 = .ok (.if_icmp .lt 13, 3) := by decide +kernel
theorem dX8_span_29 : decode cX8_span 29 = .ok (.new 150, 3) := by decide +kernel
theorem dX8_span_32 : decode cX8_span 32 = .ok (.dup, 1) := by decide +kernel
theorem dX8_span_33 : decode cX8_span 33 = .ok (.ldc 152, 2) := by decide +kernel
theorem dX8_span_35 : decode cX8_span 35 = .ok (.invokespecial 154, 3) := by decide +kernel
theorem dX8_span_38 : decode cX8_span 38 = .ok (.athrow, 1) := by decide +kernel
theorem dX8_span_39 : decode cX8_span 39 = .ok (.aload_n 0, 1) := by decide +kernel
theorem dX8_span_40 : decode cX8_span 40 = .ok (.getfield 19, 3) := by decide +kernel
theorem dX8_span_43 : decode cX8_span 43 = .ok (.aload_n 3, 1) := by decide +kernel
theorem dX8_span_44 : decode cX8_span 44 = .ok (.iload_n 2, 1) := by decide +kernel
theorem dX8_span_45 : decode cX8_span 45 = .ok (.invokevirtual 157, 3) := by decide +kernel
theorem dX8_span_48 : decode cX8_span 48 = .ok (.ireturn, 1) := by decide +kernel
theorem dX8_turn_0 : decode cX8_turn 0 = .ok (.aload_n 0, 1) := by decide +kernel
theorem dX8_turn_1 : decode cX8_turn 1 = .ok (.getfield 19, 3) := by decide +kernel
theorem dX8_turn_4 : decode cX8_turn 4 = .ok (.iload_n 1, 1) := by decide +kernel
theorem dX8_turn_5 : decode cX8_turn 5 = .ok (.invokevirtual 121, 3) := by decide +kernel
theorem dX8_turn_8 : decode cX8_turn 8 = .ok (.astore 4, 2) := by decide +kernel
theorem dX8_turn_10 : decode cX8_turn 10 = .ok (.aload 4, 2) := by decide +kernel
theorem dX8_turn_12 : decode cX8_turn 12 = .ok (.ifnull 12, 3) := by decide +kernel
theorem dX8_turn_15 : decode cX8_turn 15 = .ok (.iload_n 2, 1) := by decide +kernel
theorem dX8_turn_16 : decode cX8_turn 16 = .ok (.ifCond .lt 8, 3) := by decide +kernel
theorem dX8_turn_19 : decode cX8_turn 19 = .ok (.iload_n 2, 1) := by decide +kernel
theorem dX8_turn_20 : decode cX8_turn 20 = .ok (.iconst 1, 1) := by decide +kernel
theorem dX8_turn_21 : decode cX8_turn 21 = .ok (.if_icmp .le 13, 3) := by decide +kernel
theorem dX8_turn_24 : decode cX8_turn 24 = .ok (.new 150, 3) := by decide +kernel
theorem dX8_turn_27 : decode cX8_turn 27 = .ok (.dup, 1) := by decide +kernel
theorem dX8_turn_28 : decode cX8_turn 28 = .ok (.ldc 161, 2) := by decide +kernel
theorem dX8_turn_30 : decode cX8_turn 30 = .ok (.invokespecial 154, 3) := by decide +kernel
theorem dX8_turn_33 : decode cX8_turn 33 = .ok (.athrow, 1) := by decide +kernel
theorem dX8_turn_34 : decode cX8_turn 34 = .ok (.aload_n 0, 1) := by decide +kernel
theorem dX8_turn_35 : decode cX8_turn 35 = .ok (.getfield 26, 3) := by decide +kernel
theorem dX8_turn_38 : decode cX8_turn 38 = .ok (.aload_n 0, 1) := by decide +kernel
theorem dX8_turn_39 : decode cX8_turn 39 = .ok (.getfield 19, 3) := by decide +kernel
theorem dX8_turn_42 : decode cX8_turn 42 = .ok (.aload 4, 2) := by decide +kernel
theorem dX8_turn_44 : decode cX8_turn 44 = .ok (.iconst 0, 1) := by decide +kernel
theorem dX8_turn_45 : decode cX8_turn 45 = .ok (.invokevirtual 124, 3) := by decide +kernel
theorem dX8_turn_48 : decode cX8_turn 48 = .ok (.iload_n 2, 1) := by decide +kernel
theorem dX8_turn_49 : decode cX8_turn 49 = .ok (.ifCond .ne 13, 3) := by decide +kernel
theorem dX8_turn_52 : decode cX8_turn 52 = .ok (.aload_n 0, 1) := by decide +kernel
theorem dX8_turn_53 : decode cX8_turn 53 = .ok (.getfield 26, 3) := by decide +kernel
theorem dX8_turn_56 : decode cX8_turn 56 = .ok (.getfield 141, 3) := by decide +kernel
theorem dX8_turn_59 : decode cX8_turn 59 = .ok (.goto 10, 3) := by decide +kernel
theorem dX8_turn_62 : decode cX8_turn 62 = .ok (.aload_n 0, 1) := by decide +kernel
theorem dX8_turn_63 : decode cX8_turn 63 = .ok (.getfield 26, 3) := by decide +kernel
theorem dX8_turn_66 : decode cX8_turn 66 = .ok (.getfield 147, 3) := by decide +kernel
theorem dX8_turn_69 : decode cX8_turn 69 = .ok (.istore 5, 2) := by decide +kernel
theorem dX8_turn_71 : decode cX8_turn 71 = .ok (.iload_n 3, 1) := by decide +kernel
theorem dX8_turn_72 : decode cX8_turn 72 = .ok (.ifCond .lt 9, 3) := by decide +kernel
theorem dX8_turn_75 : decode cX8_turn 75 = .ok (.iload_n 3, 1) := by decide +kernel
theorem dX8_turn_76 : decode cX8_turn 76 = .ok (.iload 5, 2) := by decide +kernel
theorem dX8_turn_78 : decode cX8_turn 78 = .ok (.if_icmp .lt 13, 3) := by decide +kernel
theorem dX8_turn_81 : decode cX8_turn 81 = .ok (.new 150, 3) := by decide +kernel
theorem dX8_turn_84 : decode cX8_turn 84 = .ok (.dup, 1) := by decide +kernel
theorem dX8_turn_85 : decode cX8_turn 85 = .ok (.ldc 161, 2) := by decide +kernel
theorem dX8_turn_87 : decode cX8_turn 87 = .ok (.invokespecial 154, 3) := by decide +kernel
theorem dX8_turn_90 : decode cX8_turn 90 = .ok (.athrow, 1) := by decide +kernel
theorem dX8_turn_91 : decode cX8_turn 91 = .ok (.aload_n 0, 1) := by decide +kernel
theorem dX8_turn_92 : decode cX8_turn 92 = .ok (.getfield 26, 3) := by decide +kernel
theorem dX8_turn_95 : decode cX8_turn 95 = .ok (.iload_n 2, 1) := by decide +kernel
theorem dX8_turn_96 : decode cX8_turn 96 = .ok (.ifCond .ne 7, 3) := by decide +kernel
theorem dX8_turn_99 : decode cX8_turn 99 = .ok (.iload_n 3, 1) := by decide +kernel
theorem dX8_turn_100 : decode cX8_turn 100 = .ok (.goto 11, 3) := by decide +kernel
theorem dX8_turn_103 : decode cX8_turn 103 = .ok (.aload_n 0, 1) := by decide +kernel
theorem dX8_turn_104 : decode cX8_turn 104 = .ok (.getfield 26, 3) := by decide +kernel
theorem dX8_turn_107 : decode cX8_turn 107 = .ok (.iload_n 3, 1) := by decide +kernel
theorem dX8_turn_108 : decode cX8_turn 108 = .ok (.invokevirtual 163, 3) := by decide +kernel
theorem dX8_turn_111 : decode cX8_turn 111 = .ok (.invokevirtual 167, 3) := by decide +kernel
theorem dX8_turn_114 : decode cX8_turn 114 = .ok (.ireturn, 1) := by decide +kernel
theorem dX8_cycle_0 : decode cX8_cycle 0 = .ok (.aload_n 0, 1) := by decide +kernel
theorem dX8_cycle_1 : decode cX8_cycle 1 = .ok (.getfield 19, 3) := by decide +kernel
theorem dX8_cycle_4 : decode cX8_cycle 4 = .ok (.iload_n 1, 1) := by decide +kernel
theorem dX8_cycle_5 : decode cX8_cycle 5 = .ok (.invokevirtual 121, 3) := by decide +kernel
theorem dX8_cycle_8 : decode cX8_cycle 8 = .ok (.astore 4, 2) := by decide +kernel
theorem dX8_cycle_10 : decode cX8_cycle 10 = .ok (.aload 4, 2) := by decide +kernel
theorem dX8_cycle_12 : decode cX8_cycle 12 = .ok (.ifnull 13, 3) := by decide +kernel
theorem dX8_cycle_15 : decode cX8_cycle 15 = .ok (.iload_n 3, 1) := by decide +kernel
theorem dX8_cycle_16 : decode cX8_cycle 16 = .ok (.ifCond .lt 9, 3) := by decide +kernel
theorem dX8_cycle_19 : decode cX8_cycle 19 = .ok (.iload_n 3, 1) := by decide +kernel
theorem dX8_cycle_20 : decode cX8_cycle 20 = .ok (.bipush 6, 2) := by decide +kernel
theorem dX8_cycle_22 : decode cX8_cycle 22 = .ok (.if_icmp .le 13, 3) := by decide +kernel
theorem dX8_cycle_25 : decode cX8_cycle 25 = .ok (.new 150, 3) := by decide +kernel
theorem dX8_cycle_28 : decode cX8_cycle 28 = .ok (.dup, 1) := by decide +kernel
theorem dX8_cycle_29 : decode cX8_cycle 29 = .ok (.ldc 170, 2) := by decide +kernel
theorem dX8_cycle_31 : decode cX8_cycle 31 = .ok (.invokespecial 154, 3) := by decide +kernel
theorem dX8_cycle_34 : decode cX8_cycle 34 = .ok (.athrow, 1) := by decide +kernel
theorem dX8_cycle_35 : decode cX8_cycle 35 = .ok (.aload_n 0, 1) := by decide +kernel
theorem dX8_cycle_36 : decode cX8_cycle 36 = .ok (.getfield 26, 3) := by decide +kernel
theorem dX8_cycle_39 : decode cX8_cycle 39 = .ok (.aload_n 0, 1) := by decide +kernel
theorem dX8_cycle_40 : decode cX8_cycle 40 = .ok (.getfield 19, 3) := by decide +kernel
theorem dX8_cycle_43 : decode cX8_cycle 43 = .ok (.aload 4, 2) := by decide +kernel
theorem dX8_cycle_45 : decode cX8_cycle 45 = .ok (.iconst 0, 1) := by decide +kernel
theorem dX8_cycle_46 : decode cX8_cycle 46 = .ok (.invokevirtual 124, 3) := by decide +kernel
theorem dX8_cycle_49 : decode cX8_cycle 49 = .ok (.iload_n 2, 1) := by decide +kernel
theorem dX8_cycle_50 : decode cX8_cycle 50 = .ok (.ifCond .lt 14, 3) := by decide +kernel
theorem dX8_cycle_53 : decode cX8_cycle 53 = .ok (.iload_n 2, 1) := by decide +kernel
theorem dX8_cycle_54 : decode cX8_cycle 54 = .ok (.aload_n 0, 1) := by decide +kernel
theorem dX8_cycle_55 : decode cX8_cycle 55 = .ok (.getfield 26, 3) := by decide +kernel
theorem dX8_cycle_58 : decode cX8_cycle 58 = .ok (.getfield 144, 3) := by decide +kernel
theorem dX8_cycle_61 : decode cX8_cycle 61 = .ok (.if_icmp .lt 13, 3) := by decide +kernel
theorem dX8_cycle_64 : decode cX8_cycle 64 = .ok (.new 150, 3) := by decide +kernel
theorem dX8_cycle_67 : decode cX8_cycle 67 = .ok (.dup, 1) := by decide +kernel
theorem dX8_cycle_68 : decode cX8_cycle 68 = .ok (.ldc 170, 2) := by decide +kernel
theorem dX8_cycle_70 : decode cX8_cycle 70 = .ok (.invokespecial 154, 3) := by decide +kernel
theorem dX8_cycle_73 : decode cX8_cycle 73 = .ok (.athrow, 1) := by decide +kernel
theorem dX8_cycle_74 : decode cX8_cycle 74 = .ok (.aload_n 0, 1) := by decide +kernel
theorem dX8_cycle_75 : decode cX8_cycle 75 = .ok (.iload_n 2, 1) := by decide +kernel
theorem dX8_cycle_76 : decode cX8_cycle 76 = .ok (.iload_n 3, 1) := by decide +kernel
theorem dX8_cycle_77 : decode cX8_cycle 77 = .ok (.invokevirtual 172, 3) := by decide +kernel
theorem dX8_cycle_80 : decode cX8_cycle 80 = .ok (.ireturn, 1) := by decide +kernel
theorem dX8_check_0 : decode cX8_check 0 = .ok (.aload_n 0, 1) := by decide +kernel
theorem dX8_check_1 : decode cX8_check 1 = .ok (.iload_n 1, 1) := by decide +kernel
theorem dX8_check_2 : decode cX8_check 2 = .ok (.invokevirtual 175, 3) := by decide +kernel
theorem dX8_check_5 : decode cX8_check 5 = .ok (.istore_n 2, 1) := by decide +kernel
theorem dX8_check_6 : decode cX8_check 6 = .ok (.aload_n 0, 1) := by decide +kernel
theorem dX8_check_7 : decode cX8_check 7 = .ok (.getfield 12, 3) := by decide +kernel
theorem dX8_check_10 : decode cX8_check 10 = .ok (.iconst 0, 1) := by decide +kernel
theorem dX8_check_11 : decode cX8_check 11 = .ok (.putfield 73, 3) := by decide +kernel
theorem dX8_check_14 : decode cX8_check 14 = .ok (.iload_n 2, 1) := by decide +kernel
theorem dX8_check_15 : decode cX8_check 15 = .ok (.ireturn, 1) := by decide +kernel
theorem dX8_detail_0 : decode cX8_detail 0 = .ok (.aload_n 0, 1) := by decide +kernel
theorem dX8_detail_1 : decode cX8_detail 1 = .ok (.getfield 19, 3) := by decide +kernel
theorem dX8_detail_4 : decode cX8_detail 4 = .ok (.iload_n 1, 1) := by decide +kernel
theorem dX8_detail_5 : decode cX8_detail 5 = .ok (.invokevirtual 178, 3) := by decide +kernel
theorem dX8_detail_8 : decode cX8_detail 8 = .ok (.astore_n 3, 1) := by decide +kernel
theorem dX8_detail_9 : decode cX8_detail 9 = .ok (.aload_n 3, 1) := by decide +kernel
theorem dX8_detail_10 : decode cX8_detail 10 = .ok (.ifnull 19, 3) := by decide +kernel
theorem dX8_detail_13 : decode cX8_detail 13 = .ok (.iload_n 2, 1) := by decide +kernel
theorem dX8_detail_14 : decode cX8_detail 14 = .ok (.iconst (-1), 1) := by decide +kernel
theorem dX8_detail_15 : decode cX8_detail 15 = .ok (.if_icmp .eq 16, 3) := by decide +kernel
theorem dX8_detail_18 : decode cX8_detail 18 = .ok (.aload_n 0, 1) := by decide +kernel
theorem dX8_detail_19 : decode cX8_detail 19 = .ok (.getfield 19, 3) := by decide +kernel
theorem dX8_detail_22 : decode cX8_detail 22 = .ok (.iload_n 2, 1) := by decide +kernel
theorem dX8_detail_23 : decode cX8_detail 23 = .ok (.invokevirtual 76, 3) := by decide +kernel
theorem dX8_detail_26 : decode cX8_detail 26 = .ok (.ifnonnull 5, 3) := by decide +kernel
theorem dX8_detail_29 : decode cX8_detail 29 = .ok (.iconst 0, 1) := by decide +kernel
theorem dX8_detail_30 : decode cX8_detail 30 = .ok (.ireturn, 1) := by decide +kernel
theorem dX8_detail_31 : decode cX8_detail 31 = .ok (.aload_n 0, 1) := by decide +kernel
theorem dX8_detail_32 : decode cX8_detail 32 = .ok (.iload_n 1, 1) := by decide +kernel
theorem dX8_detail_33 : decode cX8_detail 33 = .ok (.aload_n 3, 1) := by decide +kernel
theorem dX8_detail_34 : decode cX8_detail 34 = .ok (.invokevirtual 182, 3) := by decide +kernel
theorem dX8_detail_37 : decode cX8_detail 37 = .ok (.aload_n 3, 1) := by decide +kernel
theorem dX8_detail_38 : decode cX8_detail 38 = .ok (.iload_n 2, 1) := by decide +kernel
theorem dX8_detail_39 : decode cX8_detail 39 = .ok (.putfield 186, 3) := by decide +kernel
theorem dX8_detail_42 : decode cX8_detail 42 = .ok (.iconst 1, 1) := by decide +kernel
theorem dX8_detail_43 : decode cX8_detail 43 = .ok (.ireturn, 1) := by decide +kernel
theorem dX8_bound_0 : decode cX8_bound 0 = .ok (.aload_n 0, 1) := by decide +kernel
theorem dX8_bound_1 : decode cX8_bound 1 = .ok (.getfield 19, 3) := by decide +kernel
theorem dX8_bound_4 : decode cX8_bound 4 = .ok (.iload_n 1, 1) := by decide +kernel
theorem dX8_bound_5 : decode cX8_bound 5 = .ok (.invokevirtual 178, 3) := by decide +kernel
theorem dX8_bound_8 : decode cX8_bound 8 = .ok (.astore 4, 2) := by decide +kernel
theorem dX8_bound_10 : decode cX8_bound 10 = .ok (.aload 4, 2) := by decide +kernel
theorem dX8_bound_12 : decode cX8_bound 12 = .ok (.ifnull 26, 3) := by decide +kernel
theorem dX8_bound_15 : decode cX8_bound 15 = .ok (.iload_n 2, 1) := by decide +kernel
theorem dX8_bound_16 : decode cX8_bound 16 = .ok (.ifCond .le 22, 3) := by decide +kernel
theorem dX8_bound_19 : decode cX8_bound 19 = .ok (.iload_n 3, 1) := by decide +kernel
theorem dX8_bound_20 : decode cX8_bound 20 = .ok (.invokestatic 189, 3) := by decide +kernel
theorem dX8_bound_23 : decode cX8_bound 23 = .ok (.ifCond .eq 15, 3) := by decide +kernel
theorem dX8_bound_26 : decode cX8_bound 26 = .ok (.aload 4, 2) := by decide +kernel
theorem dX8_bound_28 : decode cX8_bound 28 = .ok (.getfield 192, 3) := by decide +kernel
theorem dX8_bound_31 : decode cX8_bound 31 = .ok (.iload_n 2, 1) := by decide +kernel
theorem dX8_bound_32 : decode cX8_bound 32 = .ok (.invokevirtual 196, 3) := by decide +kernel
theorem dX8_bound_35 : decode cX8_bound 35 = .ok (.ifCond .ne 5, 3) := by decide +kernel
theorem dX8_bound_38 : decode cX8_bound 38 = .ok (.iconst (-1), 1) := by decide +kernel
theorem dX8_bound_39 : decode cX8_bound 39 = .ok (.ireturn, 1) := by decide +kernel
theorem dX8_bound_40 : decode cX8_bound 40 = .ok (.aload_n 0, 1) := by decide +kernel
theorem dX8_bound_41 : decode cX8_bound 41 = .ok (.iload_n 1, 1) := by decide +kernel
theorem dX8_bound_42 : decode cX8_bound 42 = .ok (.aload 4, 2) := by decide +kernel
theorem dX8_bound_44 : decode cX8_bound 44 = .ok (.invokevirtual 182, 3) := by decide +kernel
theorem dX8_bound_47 : decode cX8_bound 47 = .ok (.aload 4, 2) := by decide +kernel
theorem dX8_bound_49 : decode cX8_bound 49 = .ok (.getfield 192, 3) := by decide +kernel
theorem dX8_bound_52 : decode cX8_bound 52 = .ok (.iload_n 2, 1) := by decide +kernel
theorem dX8_bound_53 : decode cX8_bound 53 = .ok (.iload_n 3, 1) := by decide +kernel
theorem dX8_bound_54 : decode cX8_bound 54 = .ok (.invokevirtual 201, 3) := by decide +kernel
theorem dX8_bound_57 : decode cX8_bound 57 = .ok (.ireturn, 1) := by decide +kernel
theorem dX8_mean_0 : decode cX8_mean 0 = .ok (.aload_n 0, 1) := by decide +kernel
theorem dX8_mean_1 : decode cX8_mean 1 = .ok (.getfield 19, 3) := by decide +kernel
theorem dX8_mean_4 : decode cX8_mean 4 = .ok (.iload_n 1, 1) := by decide +kernel
theorem dX8_mean_5 : decode cX8_mean 5 = .ok (.invokevirtual 178, 3) := by decide +kernel
theorem dX8_mean_8 : decode cX8_mean 8 = .ok (.astore 4, 2) := by decide +kernel
theorem dX8_mean_10 : decode cX8_mean 10 = .ok (.aload 4, 2) := by decide +kernel
theorem dX8_mean_12 : decode cX8_mean 12 = .ok (.ifnull 28, 3) := by decide +kernel
theorem dX8_mean_15 : decode cX8_mean 15 = .ok (.iload_n 3, 1) := by decide +kernel
theorem dX8_mean_16 : decode cX8_mean 16 = .ok (.i2l, 1) := by decide +kernel
theorem dX8_mean_17 : decode cX8_mean 17 = .ok (.bipush 10, 2) := by decide +kernel
theorem dX8_mean_19 : decode cX8_mean 19 = .ok (.sipush 400, 3) := by decide +kernel
theorem dX8_mean_22 : decode cX8_mean 22 = .ok (.invokestatic 110, 3) := by decide +kernel
theorem dX8_mean_25 : decode cX8_mean 25 = .ok (.ifCond .eq 15, 3) := by decide +kernel
theorem dX8_mean_28 : decode cX8_mean 28 = .ok (.aload 4, 2) := by decide +kernel
theorem dX8_mean_30 : decode cX8_mean 30 = .ok (.getfield 204, 3) := by decide +kernel
theorem dX8_mean_33 : decode cX8_mean 33 = .ok (.iload_n 2, 1) := by decide +kernel
theorem dX8_mean_34 : decode cX8_mean 34 = .ok (.invokevirtual 196, 3) := by decide +kernel
theorem dX8_mean_37 : decode cX8_mean 37 = .ok (.ifCond .ne 5, 3) := by decide +kernel
theorem dX8_mean_40 : decode cX8_mean 40 = .ok (.iconst (-1), 1) := by decide +kernel
theorem dX8_mean_41 : decode cX8_mean 41 = .ok (.ireturn, 1) := by decide +kernel
theorem dX8_mean_42 : decode cX8_mean 42 = .ok (.aload_n 0, 1) := by decide +kernel
theorem dX8_mean_43 : decode cX8_mean 43 = .ok (.iload_n 1, 1) := by decide +kernel
theorem dX8_mean_44 : decode cX8_mean 44 = .ok (.aload 4, 2) := by decide +kernel
theorem dX8_mean_46 : decode cX8_mean 46 = .ok (.invokevirtual 182, 3) := by decide +kernel
theorem dX8_mean_49 : decode cX8_mean 49 = .ok (.aload 4, 2) := by decide +kernel
theorem dX8_mean_51 : decode cX8_mean 51 = .ok (.getfield 204, 3) := by decide +kernel
theorem dX8_mean_54 : decode cX8_mean 54 = .ok (.iload_n 2, 1) := by decide +kernel
theorem dX8_mean_55 : decode cX8_mean 55 = .ok (.iload_n 3, 1) := by decide +kernel
theorem dX8_mean_56 : decode cX8_mean 56 = .ok (.invokevirtual 201, 3) := by decide +kernel
theorem dX8_mean_59 : decode cX8_mean 59 = .ok (.ireturn, 1) := by decide +kernel
theorem dX8_limit_0 : decode cX8_limit 0 = .ok (.aload_n 0, 1) := by decide +kernel
theorem dX8_limit_1 : decode cX8_limit 1 = .ok (.getfield 19, 3) := by decide +kernel
theorem dX8_limit_4 : decode cX8_limit 4 = .ok (.iload_n 1, 1) := by decide +kernel
theorem dX8_limit_5 : decode cX8_limit 5 = .ok (.invokevirtual 178, 3) := by decide +kernel
theorem dX8_limit_8 : decode cX8_limit 8 = .ok (.astore_n 3, 1) := by decide +kernel
theorem dX8_limit_9 : decode cX8_limit 9 = .ok (.aload_n 3, 1) := by decide +kernel
theorem dX8_limit_10 : decode cX8_limit 10 = .ok (.ifnull 14, 3) := by decide +kernel
theorem dX8_limit_13 : decode cX8_limit 13 = .ok (.iload_n 2, 1) := by decide +kernel
theorem dX8_limit_14 : decode cX8_limit 14 = .ok (.i2l, 1) := by decide +kernel
theorem dX8_limit_15 : decode cX8_limit 15 = .ok (.iconst 0, 1) := by decide +kernel
theorem dX8_limit_16 : decode cX8_limit 16 = .ok (.ldc 207, 2) := by decide +kernel
theorem dX8_limit_18 : decode cX8_limit 18 = .ok (.invokestatic 110, 3) := by decide +kernel
theorem dX8_limit_21 : decode cX8_limit 21 = .ok (.ifCond .ne 5, 3) := by decide +kernel
theorem dX8_limit_24 : decode cX8_limit 24 = .ok (.iconst 0, 1) := by decide +kernel
theorem dX8_limit_25 : decode cX8_limit 25 = .ok (.ireturn, 1) := by decide +kernel
theorem dX8_limit_26 : decode cX8_limit 26 = .ok (.aload_n 0, 1) := by decide +kernel
theorem dX8_limit_27 : decode cX8_limit 27 = .ok (.iload_n 1, 1) := by decide +kernel
theorem dX8_limit_28 : decode cX8_limit 28 = .ok (.aload_n 3, 1) := by decide +kernel
theorem dX8_limit_29 : decode cX8_limit 29 = .ok (.invokevirtual 182, 3) := by decide +kernel
theorem dX8_limit_32 : decode cX8_limit 32 = .ok (.aload_n 3, 1) := by decide +kernel
theorem dX8_limit_33 : decode cX8_limit 33 = .ok (.iload_n 2, 1) := by decide +kernel
theorem dX8_limit_34 : decode cX8_limit 34 = .ok (.putfield 208, 3) := by decide +kernel
theorem dX8_limit_37 : decode cX8_limit 37 = .ok (.iconst 1, 1) := by decide +kernel
theorem dX8_limit_38 : decode cX8_limit 38 = .ok (.ireturn, 1) := by decide +kernel
theorem dX8_worst_0 : decode cX8_worst 0 = .ok (.aload_n 0, 1) := by decide +kernel
theorem dX8_worst_1 : decode cX8_worst 1 = .ok (.getfield 19, 3) := by decide +kernel
theorem dX8_worst_4 : decode cX8_worst 4 = .ok (.iload_n 1, 1) := by decide +kernel
theorem dX8_worst_5 : decode cX8_worst 5 = .ok (.invokevirtual 178, 3) := by decide +kernel
theorem dX8_worst_8 : decode cX8_worst 8 = .ok (.astore_n 3, 1) := by decide +kernel
theorem dX8_worst_9 : decode cX8_worst 9 = .ok (.aload_n 3, 1) := by decide +kernel
theorem dX8_worst_10 : decode cX8_worst 10 = .ok (.ifnull 14, 3) := by decide +kernel
theorem dX8_worst_13 : decode cX8_worst 13 = .ok (.iload_n 2, 1) := by decide +kernel
theorem dX8_worst_14 : decode cX8_worst 14 = .ok (.i2l, 1) := by decide +kernel
theorem dX8_worst_15 : decode cX8_worst 15 = .ok (.iconst 0, 1) := by decide +kernel
theorem dX8_worst_16 : decode cX8_worst 16 = .ok (.ldc 207, 2) := by decide +kernel
theorem dX8_worst_18 : decode cX8_worst 18 = .ok (.invokestatic 110, 3) := by decide +kernel
theorem dX8_worst_21 : decode cX8_worst 21 = .ok (.ifCond .ne 5, 3) := by decide +kernel
theorem dX8_worst_24 : decode cX8_worst 24 = .ok (.iconst 0, 1) := by decide +kernel
theorem dX8_worst_25 : decode cX8_worst 25 = .ok (.ireturn, 1) := by decide +kernel
theorem dX8_worst_26 : decode cX8_worst 26 = .ok (.aload_n 0, 1) := by decide +kernel
theorem dX8_worst_27 : decode cX8_worst 27 = .ok (.iload_n 1, 1) := by decide +kernel
theorem dX8_worst_28 : decode cX8_worst 28 = .ok (.aload_n 3, 1) := by decide +kernel
theorem dX8_worst_29 : decode cX8_worst 29 = .ok (.invokevirtual 182, 3) := by decide +kernel
theorem dX8_worst_32 : decode cX8_worst 32 = .ok (.aload_n 3, 1) := by decide +kernel
theorem dX8_worst_33 : decode cX8_worst 33 = .ok (.iload_n 2, 1) := by decide +kernel
theorem dX8_worst_34 : decode cX8_worst 34 = .ok (.putfield 211, 3) := by decide +kernel
theorem dX8_worst_37 : decode cX8_worst 37 = .ok (.iconst 1, 1) := by decide +kernel
theorem dX8_worst_38 : decode cX8_worst 38 = .ok (.ireturn, 1) := by decide +kernel
theorem dX8_crack_0 : decode cX8_crack 0 = .ok (.aload_n 0, 1) := by decide +kernel
theorem dX8_crack_1 : decode cX8_crack 1 = .ok (.getfield 19, 3) := by decide +kernel
theorem dX8_crack_4 : decode cX8_crack 4 = .ok (.iload_n 1, 1) := by decide +kernel
theorem dX8_crack_5 : decode cX8_crack 5 = .ok (.invokevirtual 178, 3) := by decide +kernel
theorem dX8_crack_8 : decode cX8_crack 8 = .ok (.astore 4, 2) := by decide +kernel
theorem dX8_crack_10 : decode cX8_crack 10 = .ok (.aload 4, 2) := by decide +kernel
theorem dX8_crack_12 : decode cX8_crack 12 = .ok (.ifnull 25, 3) := by decide +kernel
theorem dX8_crack_15 : decode cX8_crack 15 = .ok (.iload_n 2, 1) := by decide +kernel
theorem dX8_crack_16 : decode cX8_crack 16 = .ok (.i2l, 1) := by decide +kernel
theorem dX8_crack_17 : decode cX8_crack 17 = .ok (.iconst 0, 1) := by decide +kernel
theorem dX8_crack_18 : decode cX8_crack 18 = .ok (.ldc 109, 2) := by decide +kernel
theorem dX8_crack_20 : decode cX8_crack 20 = .ok (.invokestatic 110, 3) := by decide +kernel
theorem dX8_crack_23 : decode cX8_crack 23 = .ok (.ifCond .eq 14, 3) := by decide +kernel
theorem dX8_crack_26 : decode cX8_crack 26 = .ok (.iload_n 3, 1) := by decide +kernel
theorem dX8_crack_27 : decode cX8_crack 27 = .ok (.i2l, 1) := by decide +kernel
theorem dX8_crack_28 : decode cX8_crack 28 = .ok (.iconst 0, 1) := by decide +kernel
theorem dX8_crack_29 : decode cX8_crack 29 = .ok (.ldc 207, 2) := by decide +kernel
theorem dX8_crack_31 : decode cX8_crack 31 = .ok (.invokestatic 110, 3) := by decide +kernel
theorem dX8_crack_34 : decode cX8_crack 34 = .ok (.ifCond .ne 5, 3) := by decide +kernel
theorem dX8_crack_37 : decode cX8_crack 37 = .ok (.iconst 0, 1) := by decide +kernel
theorem dX8_crack_38 : decode cX8_crack 38 = .ok (.ireturn, 1) := by decide +kernel
theorem dX8_crack_39 : decode cX8_crack 39 = .ok (.aload_n 0, 1) := by decide +kernel
theorem dX8_crack_40 : decode cX8_crack 40 = .ok (.iload_n 1, 1) := by decide +kernel
theorem dX8_crack_41 : decode cX8_crack 41 = .ok (.aload 4, 2) := by decide +kernel
theorem dX8_crack_43 : decode cX8_crack 43 = .ok (.invokevirtual 182, 3) := by decide +kernel
theorem dX8_crack_46 : decode cX8_crack 46 = .ok (.aload 4, 2) := by decide +kernel
theorem dX8_crack_48 : decode cX8_crack 48 = .ok (.iload_n 2, 1) := by decide +kernel
theorem dX8_crack_49 : decode cX8_crack 49 = .ok (.putfield 214, 3) := by decide +kernel
theorem dX8_crack_52 : decode cX8_crack 52 = .ok (.aload 4, 2) := by decide +kernel
theorem dX8_crack_54 : decode cX8_crack 54 = .ok (.iload_n 3, 1) := by decide +kernel
theorem dX8_crack_55 : decode cX8_crack 55 = .ok (.putfield 217, 3) := by decide +kernel
theorem dX8_crack_58 : decode cX8_crack 58 = .ok (.iconst 1, 1) := by decide +kernel
theorem dX8_crack_59 : decode cX8_crack 59 = .ok (.ireturn, 1) := by decide +kernel
theorem dX8_step_0 : decode cX8_step 0 = .ok (.aload_n 0, 1) := by decide +kernel
theorem dX8_step_1 : decode cX8_step 1 = .ok (.getfield 19, 3) := by decide +kernel
theorem dX8_step_4 : decode cX8_step 4 = .ok (.iload_n 1, 1) := by decide +kernel
theorem dX8_step_5 : decode cX8_step 5 = .ok (.invokevirtual 178, 3) := by decide +kernel
theorem dX8_step_8 : decode cX8_step 8 = .ok (.astore 4, 2) := by decide +kernel
theorem dX8_step_10 : decode cX8_step 10 = .ok (.aload 4, 2) := by decide +kernel
theorem dX8_step_12 : decode cX8_step 12 = .ok (.ifnull 30, 3) := by decide +kernel
theorem dX8_step_15 : decode cX8_step 15 = .ok (.iload_n 2, 1) := by decide +kernel
theorem dX8_step_16 : decode cX8_step 16 = .ok (.ifCond .lt 26, 3) := by decide +kernel
theorem dX8_step_19 : decode cX8_step 19 = .ok (.iload_n 3, 1) := by decide +kernel
theorem dX8_step_20 : decode cX8_step 20 = .ok (.i2l, 1) := by decide +kernel
theorem dX8_step_21 : decode cX8_step 21 = .ok (.iconst 0, 1) := by decide +kernel
theorem dX8_step_22 : decode cX8_step 22 = .ok (.ldc 109, 2) := by decide +kernel
theorem dX8_step_24 : decode cX8_step 24 = .ok (.invokestatic 110, 3) := by decide +kernel
theorem dX8_step_27 : decode cX8_step 27 = .ok (.ifCond .eq 15, 3) := by decide +kernel
theorem dX8_step_30 : decode cX8_step 30 = .ok (.aload 4, 2) := by decide +kernel
theorem dX8_step_32 : decode cX8_step 32 = .ok (.getfield 220, 3) := by decide +kernel
theorem dX8_step_35 : decode cX8_step 35 = .ok (.iload_n 2, 1) := by decide +kernel
theorem dX8_step_36 : decode cX8_step 36 = .ok (.invokevirtual 196, 3) := by decide +kernel
theorem dX8_step_39 : decode cX8_step 39 = .ok (.ifCond .ne 5, 3) := by decide +kernel
theorem dX8_step_42 : decode cX8_step 42 = .ok (.iconst (-1), 1) := by decide +kernel
theorem dX8_step_43 : decode cX8_step 43 = .ok (.ireturn, 1) := by decide +kernel
theorem dX8_step_44 : decode cX8_step 44 = .ok (.aload_n 0, 1) := by decide +kernel
theorem dX8_step_45 : decode cX8_step 45 = .ok (.iload_n 1, 1) := by decide +kernel
theorem dX8_step_46 : decode cX8_step 46 = .ok (.aload 4, 2) := by decide +kernel
theorem dX8_step_48 : decode cX8_step 48 = .ok (.invokevirtual 182, 3) := by decide +kernel
theorem dX8_step_51 : decode cX8_step 51 = .ok (.aload 4, 2) := by decide +kernel
theorem dX8_step_53 : decode cX8_step 53 = .ok (.getfield 220, 3) := by decide +kernel
theorem dX8_step_56 : decode cX8_step 56 = .ok (.iload_n 2, 1) := by decide +kernel
theorem dX8_step_57 : decode cX8_step 57 = .ok (.iload_n 3, 1) := by decide +kernel
theorem dX8_step_58 : decode cX8_step 58 = .ok (.invokevirtual 201, 3) := by decide +kernel
theorem dX8_step_61 : decode cX8_step 61 = .ok (.ireturn, 1) := by decide +kernel
theorem dX8_mend_0 : decode cX8_mend 0 = .ok (.aload_n 0, 1) := by decide +kernel
theorem dX8_mend_1 : decode cX8_mend 1 = .ok (.getfield 19, 3) := by decide +kernel
theorem dX8_mend_4 : decode cX8_mend 4 = .ok (.iload_n 1, 1) := by decide +kernel
theorem dX8_mend_5 : decode cX8_mend 5 = .ok (.invokevirtual 178, 3) := by decide +kernel
theorem dX8_mend_8 : decode cX8_mend 8 = .ok (.astore_n 2, 1) := by decide +kernel
theorem dX8_mend_9 : decode cX8_mend 9 = .ok (.aload_n 2, 1) := by decide +kernel
theorem dX8_mend_10 : decode cX8_mend 10 = .ok (.ifnonnull 5, 3) := by decide +kernel
theorem dX8_mend_13 : decode cX8_mend 13 = .ok (.iconst (-1), 1) := by decide +kernel
theorem dX8_mend_14 : decode cX8_mend 14 = .ok (.ireturn, 1) := by decide +kernel
theorem dX8_mend_15 : decode cX8_mend 15 = .ok (.aload_n 0, 1) := by decide +kernel
theorem dX8_mend_16 : decode cX8_mend 16 = .ok (.iload_n 1, 1) := by decide +kernel
theorem dX8_mend_17 : decode cX8_mend 17 = .ok (.aload_n 2, 1) := by decide +kernel
theorem dX8_mend_18 : decode cX8_mend 18 = .ok (.invokevirtual 182, 3) := by decide +kernel
theorem dX8_mend_21 : decode cX8_mend 21 = .ok (.aload_n 0, 1) := by decide +kernel
theorem dX8_mend_22 : decode cX8_mend 22 = .ok (.getfield 19, 3) := by decide +kernel
theorem dX8_mend_25 : decode cX8_mend 25 = .ok (.aload_n 2, 1) := by decide +kernel
theorem dX8_mend_26 : decode cX8_mend 26 = .ok (.getfield 186, 3) := by decide +kernel
theorem dX8_mend_29 : decode cX8_mend 29 = .ok (.invokevirtual 121, 3) := by decide +kernel
theorem dX8_mend_32 : decode cX8_mend 32 = .ok (.astore_n 3, 1) := by decide +kernel
theorem dX8_mend_33 : decode cX8_mend 33 = .ok (.aload_n 2, 1) := by decide +kernel
theorem dX8_mend_34 : decode cX8_mend 34 = .ok (.aload_n 3, 1) := by decide +kernel
theorem dX8_mend_35 : decode cX8_mend 35 = .ok (.ifnonnull 7, 3) := by decide +kernel
theorem dX8_mend_38 : decode cX8_mend 38 = .ok (.iconst 0, 1) := by decide +kernel
theorem dX8_mend_39 : decode cX8_mend 39 = .ok (.goto 11, 3) := by decide +kernel
theorem dX8_mend_42 : decode cX8_mend 42 = .ok (.aload_n 0, 1) := by decide +kernel
theorem dX8_mend_43 : decode cX8_mend 43 = .ok (.getfield 19, 3) := by decide +kernel
theorem dX8_mend_46 : decode cX8_mend 46 = .ok (.aload_n 3, 1) := by decide +kernel
theorem dX8_mend_47 : decode cX8_mend 47 = .ok (.invokevirtual 128, 3) := by decide +kernel
theorem dX8_mend_50 : decode cX8_mend 50 = .ok (.putfield 223, 3) := by decide +kernel
theorem dX8_mend_53 : decode cX8_mend 53 = .ok (.aload_n 2, 1) := by decide +kernel
theorem dX8_mend_54 : decode cX8_mend 54 = .ok (.iconst (-1), 1) := by decide +kernel
theorem dX8_mend_55 : decode cX8_mend 55 = .ok (.putfield 214, 3) := by decide +kernel
theorem dX8_mend_58 : decode cX8_mend 58 = .ok (.aload_n 2, 1) := by decide +kernel
theorem dX8_mend_59 : decode cX8_mend 59 = .ok (.getfield 223, 3) := by decide +kernel
theorem dX8_mend_62 : decode cX8_mend 62 = .ok (.ireturn, 1) := by decide +kernel
theorem dX8_damage_0 : decode cX8_damage 0 = .ok (.aload_n 0, 1) := by decide +kernel
theorem dX8_damage_1 : decode cX8_damage 1 = .ok (.getfield 19, 3) := by decide +kernel
theorem dX8_damage_4 : decode cX8_damage 4 = .ok (.iload_n 1, 1) := by decide +kernel
theorem dX8_damage_5 : decode cX8_damage 5 = .ok (.invokevirtual 178, 3) := by decide +kernel
