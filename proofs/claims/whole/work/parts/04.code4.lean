theorem dX9_check_228 : decode cX9_check 228 = .ok (.iand, 1) := by decide +kernel
theorem dX9_check_229 : decode cX9_check 229 = .ok (.iload 4, 2) := by decide +kernel
theorem dX9_check_231 : decode cX9_check 231 = .ok (.if_icmp .ne 7, 3) := by decide +kernel
theorem dX9_check_234 : decode cX9_check 234 = .ok (.iconst 1, 1) := by decide +kernel
theorem dX9_check_235 : decode cX9_check 235 = .ok (.goto 4, 3) := by decide +kernel
theorem dX9_check_238 : decode cX9_check 238 = .ok (.iconst 0, 1) := by decide +kernel
theorem dX9_check_239 : decode cX9_check 239 = .ok (.istore 6, 2) := by decide +kernel
theorem dX9_check_241 : decode cX9_check 241 = .ok (.iinc 7 1, 3) := by decide +kernel
theorem dX9_check_244 : decode cX9_check 244 = .ok (.goto (-74), 3) := by decide +kernel
theorem dX9_check_247 : decode cX9_check 247 = .ok (.iload 6, 2) := by decide +kernel
theorem dX9_check_249 : decode cX9_check 249 = .ok (.ifCond .eq 18, 3) := by decide +kernel
theorem dX9_check_252 : decode cX9_check 252 = .ok (.iload 5, 2) := by decide +kernel
theorem dX9_check_254 : decode cX9_check 254 = .ok (.iload 4, 2) := by decide +kernel
theorem dX9_check_256 : decode cX9_check 256 = .ok (.ifCond .ge 7, 3) := by decide +kernel
theorem dX9_check_259 : decode cX9_check 259 = .ok (.iconst 0, 1) := by decide +kernel
theorem dX9_check_260 : decode cX9_check 260 = .ok (.goto 4, 3) := by decide +kernel
theorem dX9_check_263 : decode cX9_check 263 = .ok (.iconst 1, 1) := by decide +kernel
theorem dX9_check_264 : decode cX9_check 264 = .ok (.if_icmp .eq 7, 3) := by decide +kernel
theorem dX9_check_267 : decode cX9_check 267 = .ok (.iconst 1, 1) := by decide +kernel
theorem dX9_check_268 : decode cX9_check 268 = .ok (.iload_n 3, 1) := by decide +kernel
theorem dX9_check_269 : decode cX9_check 269 = .ok (.iadd, 1) := by decide +kernel
theorem dX9_check_270 : decode cX9_check 270 = .ok (.ireturn, 1) := by decide +kernel
theorem dX9_check_271 : decode cX9_check 271 = .ok (.iinc 3 1, 3) := by decide +kernel
theorem dX9_check_274 : decode cX9_check 274 = .ok (.goto (-188), 3) := by decide +kernel
theorem dX9_check_277 : decode cX9_check 277 = .ok (.iconst 0, 1) := by decide +kernel
theorem dX9_check_278 : decode cX9_check 278 = .ok (.ireturn, 1) := by decide +kernel
theorem dX9_base_0 : decode cX9_base 0 = .ok (.sipush 4848, 3) := by decide +kernel
theorem dX9_base_3 : decode cX9_base 3 = .ok (.bipush 40, 2) := by decide +kernel
theorem dX9_base_5 : decode cX9_base 5 = .ok (.iload_n 1, 1) := by decide +kernel
theorem dX9_base_6 : decode cX9_base 6 = .ok (.imul, 1) := by decide +kernel
theorem dX9_base_7 : decode cX9_base 7 = .ok (.iadd, 1) := by decide +kernel
theorem dX9_base_8 : decode cX9_base 8 = .ok (.ireturn, 1) := by decide +kernel
theorem dX9_detail_0 : decode cX9_detail 0 = .ok (.aload_n 0, 1) := by decide +kernel
theorem dX9_detail_1 : decode cX9_detail 1 = .ok (.iconst 0, 1) := by decide +kernel
theorem dX9_detail_2 : decode cX9_detail 2 = .ok (.putfield 1, 3) := by decide +kernel
theorem dX9_detail_5 : decode cX9_detail 5 = .ok (.iload_n 1, 1) := by decide +kernel
theorem dX9_detail_6 : decode cX9_detail 6 = .ok (.invokestatic 71, 3) := by decide +kernel
theorem dX9_detail_9 : decode cX9_detail 9 = .ok (.ifCond .ne 15, 3) := by decide +kernel
theorem dX9_detail_12 : decode cX9_detail 12 = .ok (.iload_n 2, 1) := by decide +kernel
theorem dX9_detail_13 : decode cX9_detail 13 = .ok (.iconst (-1), 1) := by decide +kernel
theorem dX9_detail_14 : decode cX9_detail 14 = .ok (.if_icmp .eq 12, 3) := by decide +kernel
theorem dX9_detail_17 : decode cX9_detail 17 = .ok (.iload_n 2, 1) := by decide +kernel
theorem dX9_detail_18 : decode cX9_detail 18 = .ok (.invokestatic 71, 3) := by decide +kernel
theorem dX9_detail_21 : decode cX9_detail 21 = .ok (.ifCond .eq 5, 3) := by decide +kernel
theorem dX9_detail_24 : decode cX9_detail 24 = .ok (.iconst 0, 1) := by decide +kernel
theorem dX9_detail_25 : decode cX9_detail 25 = .ok (.ireturn, 1) := by decide +kernel
theorem dX9_detail_26 : decode cX9_detail 26 = .ok (.aload_n 0, 1) := by decide +kernel
theorem dX9_detail_27 : decode cX9_detail 27 = .ok (.invokevirtual 76, 3) := by decide +kernel
theorem dX9_detail_30 : decode cX9_detail 30 = .ok (.aload_n 0, 1) := by decide +kernel
theorem dX9_detail_31 : decode cX9_detail 31 = .ok (.getfield 13, 3) := by decide +kernel
theorem dX9_detail_34 : decode cX9_detail 34 = .ok (.aload_n 0, 1) := by decide +kernel
theorem dX9_detail_35 : decode cX9_detail 35 = .ok (.iload_n 1, 1) := by decide +kernel
theorem dX9_detail_36 : decode cX9_detail 36 = .ok (.invokevirtual 170, 3) := by decide +kernel
theorem dX9_detail_39 : decode cX9_detail 39 = .ok (.iconst 0, 1) := by decide +kernel
theorem dX9_detail_40 : decode cX9_detail 40 = .ok (.iadd, 1) := by decide +kernel
theorem dX9_detail_41 : decode cX9_detail 41 = .ok (.iload_n 2, 1) := by decide +kernel
theorem dX9_detail_42 : decode cX9_detail 42 = .ok (.iastore, 1) := by decide +kernel
theorem dX9_detail_43 : decode cX9_detail 43 = .ok (.iconst 1, 1) := by decide +kernel
theorem dX9_detail_44 : decode cX9_detail 44 = .ok (.ireturn, 1) := by decide +kernel
theorem dX9_more_0 : decode cX9_more 0 = .ok (.aload_n 0, 1) := by decide +kernel
theorem dX9_more_1 : decode cX9_more 1 = .ok (.iconst 0, 1) := by decide +kernel
theorem dX9_more_2 : decode cX9_more 2 = .ok (.putfield 1, 3) := by decide +kernel
theorem dX9_more_5 : decode cX9_more 5 = .ok (.iload_n 1, 1) := by decide +kernel
theorem dX9_more_6 : decode cX9_more 6 = .ok (.invokestatic 71, 3) := by decide +kernel
theorem dX9_more_9 : decode cX9_more 9 = .ok (.ifCond .ne 8, 3) := by decide +kernel
theorem dX9_more_12 : decode cX9_more 12 = .ok (.iload 7, 2) := by decide +kernel
theorem dX9_more_14 : decode cX9_more 14 = .ok (.ifCond .ne 5, 3) := by decide +kernel
theorem dX9_more_17 : decode cX9_more 17 = .ok (.iconst (-1), 1) := by decide +kernel
theorem dX9_more_18 : decode cX9_more 18 = .ok (.ireturn, 1) := by decide +kernel
theorem dX9_more_19 : decode cX9_more 19 = .ok (.aload_n 0, 1) := by decide +kernel
theorem dX9_more_20 : decode cX9_more 20 = .ok (.iload_n 1, 1) := by decide +kernel
theorem dX9_more_21 : decode cX9_more 21 = .ok (.invokevirtual 170, 3) := by decide +kernel
theorem dX9_more_24 : decode cX9_more 24 = .ok (.iload_n 2, 1) := by decide +kernel
theorem dX9_more_25 : decode cX9_more 25 = .ok (.iadd, 1) := by decide +kernel
theorem dX9_more_26 : decode cX9_more 26 = .ok (.istore 8, 2) := by decide +kernel
theorem dX9_more_28 : decode cX9_more 28 = .ok (.aload_n 0, 1) := by decide +kernel
theorem dX9_more_29 : decode cX9_more 29 = .ok (.getfield 13, 3) := by decide +kernel
theorem dX9_more_32 : decode cX9_more 32 = .ok (.iload 8, 2) := by decide +kernel
theorem dX9_more_34 : decode cX9_more 34 = .ok (.iaload, 1) := by decide +kernel
theorem dX9_more_35 : decode cX9_more 35 = .ok (.istore 9, 2) := by decide +kernel
theorem dX9_more_37 : decode cX9_more 37 = .ok (.iload 9, 2) := by decide +kernel
theorem dX9_more_39 : decode cX9_more 39 = .ok (.iload_n 3, 1) := by decide +kernel
theorem dX9_more_40 : decode cX9_more 40 = .ok (.if_icmp .eq 37, 3) := by decide +kernel
theorem dX9_more_43 : decode cX9_more 43 = .ok (.iload 9, 2) := by decide +kernel
theorem dX9_more_45 : decode cX9_more 45 = .ok (.ifCond .ne 13, 3) := by decide +kernel
theorem dX9_more_48 : decode cX9_more 48 = .ok (.iload 5, 2) := by decide +kernel
theorem dX9_more_50 : decode cX9_more 50 = .ok (.iload 4, 2) := by decide +kernel
theorem dX9_more_52 : decode cX9_more 52 = .ok (.if_icmp .ge 27, 3) := by decide +kernel
theorem dX9_more_55 : decode cX9_more 55 = .ok (.goto 22, 3) := by decide +kernel
theorem dX9_more_58 : decode cX9_more 58 = .ok (.iload 5, 2) := by decide +kernel
theorem dX9_more_60 : decode cX9_more 60 = .ok (.aload_n 0, 1) := by decide +kernel
theorem dX9_more_61 : decode cX9_more 61 = .ok (.getfield 13, 3) := by decide +kernel
theorem dX9_more_64 : decode cX9_more 64 = .ok (.iload 8, 2) := by decide +kernel
theorem dX9_more_66 : decode cX9_more 66 = .ok (.iconst 2, 1) := by decide +kernel
theorem dX9_more_67 : decode cX9_more 67 = .ok (.iload 9, 2) := by decide +kernel
theorem dX9_more_69 : decode cX9_more 69 = .ok (.imul, 1) := by decide +kernel
theorem dX9_more_70 : decode cX9_more 70 = .ok (.iadd, 1) := by decide +kernel
theorem dX9_more_71 : decode cX9_more 71 = .ok (.iconst 1, 1) := by decide +kernel
theorem dX9_more_72 : decode cX9_more 72 = .ok (.isub, 1) := by decide +kernel
theorem dX9_more_73 : decode cX9_more 73 = .ok (.iaload, 1) := by decide +kernel
theorem dX9_more_74 : decode cX9_more 74 = .ok (.if_icmp .gt 5, 3) := by decide +kernel
theorem dX9_more_77 : decode cX9_more 77 = .ok (.iconst (-1), 1) := by decide +kernel
theorem dX9_more_78 : decode cX9_more 78 = .ok (.ireturn, 1) := by decide +kernel
theorem dX9_more_79 : decode cX9_more 79 = .ok (.aload_n 0, 1) := by decide +kernel
theorem dX9_more_80 : decode cX9_more 80 = .ok (.invokevirtual 76, 3) := by decide +kernel
theorem dX9_more_83 : decode cX9_more 83 = .ok (.aload_n 0, 1) := by decide +kernel
theorem dX9_more_84 : decode cX9_more 84 = .ok (.getfield 13, 3) := by decide +kernel
theorem dX9_more_87 : decode cX9_more 87 = .ok (.iload 8, 2) := by decide +kernel
theorem dX9_more_89 : decode cX9_more 89 = .ok (.iconst 1, 1) := by decide +kernel
theorem dX9_more_90 : decode cX9_more 90 = .ok (.iadd, 1) := by decide +kernel
theorem dX9_more_91 : decode cX9_more 91 = .ok (.iconst 2, 1) := by decide +kernel
theorem dX9_more_92 : decode cX9_more 92 = .ok (.iload 9, 2) := by decide +kernel
theorem dX9_more_94 : decode cX9_more 94 = .ok (.imul, 1) := by decide +kernel
theorem dX9_more_95 : decode cX9_more 95 = .ok (.iadd, 1) := by decide +kernel
theorem dX9_more_96 : decode cX9_more 96 = .ok (.iload 5, 2) := by decide +kernel
theorem dX9_more_98 : decode cX9_more 98 = .ok (.iastore, 1) := by decide +kernel
theorem dX9_more_99 : decode cX9_more 99 = .ok (.aload_n 0, 1) := by decide +kernel
theorem dX9_more_100 : decode cX9_more 100 = .ok (.getfield 13, 3) := by decide +kernel
theorem dX9_more_103 : decode cX9_more 103 = .ok (.iload 8, 2) := by decide +kernel
theorem dX9_more_105 : decode cX9_more 105 = .ok (.iconst 2, 1) := by decide +kernel
theorem dX9_more_106 : decode cX9_more 106 = .ok (.iadd, 1) := by decide +kernel
theorem dX9_more_107 : decode cX9_more 107 = .ok (.iconst 2, 1) := by decide +kernel
theorem dX9_more_108 : decode cX9_more 108 = .ok (.iload 9, 2) := by decide +kernel
theorem dX9_more_110 : decode cX9_more 110 = .ok (.imul, 1) := by decide +kernel
theorem dX9_more_111 : decode cX9_more 111 = .ok (.iadd, 1) := by decide +kernel
theorem dX9_more_112 : decode cX9_more 112 = .ok (.iload 6, 2) := by decide +kernel
theorem dX9_more_114 : decode cX9_more 114 = .ok (.iastore, 1) := by decide +kernel
theorem dX9_more_115 : decode cX9_more 115 = .ok (.aload_n 0, 1) := by decide +kernel
theorem dX9_more_116 : decode cX9_more 116 = .ok (.getfield 13, 3) := by decide +kernel
theorem dX9_more_119 : decode cX9_more 119 = .ok (.iload 8, 2) := by decide +kernel
theorem dX9_more_121 : decode cX9_more 121 = .ok (.iload 9, 2) := by decide +kernel
theorem dX9_more_123 : decode cX9_more 123 = .ok (.iconst 1, 1) := by decide +kernel
theorem dX9_more_124 : decode cX9_more 124 = .ok (.iadd, 1) := by decide +kernel
theorem dX9_more_125 : decode cX9_more 125 = .ok (.iastore, 1) := by decide +kernel
theorem dX9_more_126 : decode cX9_more 126 = .ok (.iload 9, 2) := by decide +kernel
theorem dX9_more_128 : decode cX9_more 128 = .ok (.iconst 1, 1) := by decide +kernel
theorem dX9_more_129 : decode cX9_more 129 = .ok (.iadd, 1) := by decide +kernel
theorem dX9_more_130 : decode cX9_more 130 = .ok (.ireturn, 1) := by decide +kernel
theorem dX9_bound_0 : decode cX9_bound 0 = .ok (.aload_n 0, 1) := by decide +kernel
theorem dX9_bound_1 : decode cX9_bound 1 = .ok (.iload_n 1, 1) := by decide +kernel
theorem dX9_bound_2 : decode cX9_bound 2 = .ok (.iconst 2, 1) := by decide +kernel
theorem dX9_bound_3 : decode cX9_bound 3 = .ok (.bipush 6, 2) := by decide +kernel
theorem dX9_bound_5 : decode cX9_bound 5 = .ok (.iconst 1, 1) := by decide +kernel
theorem dX9_bound_6 : decode cX9_bound 6 = .ok (.iload_n 2, 1) := by decide +kernel
theorem dX9_bound_7 : decode cX9_bound 7 = .ok (.iload_n 3, 1) := by decide +kernel
theorem dX9_bound_8 : decode cX9_bound 8 = .ok (.iload_n 3, 1) := by decide +kernel
theorem dX9_bound_9 : decode cX9_bound 9 = .ok (.iconst 1, 1) := by decide +kernel
theorem dX9_bound_10 : decode cX9_bound 10 = .ok (.if_icmp .lt 24, 3) := by decide +kernel
theorem dX9_bound_13 : decode cX9_bound 13 = .ok (.iload_n 3, 1) := by decide +kernel
theorem dX9_bound_14 : decode cX9_bound 14 = .ok (.ldc 173, 2) := by decide +kernel
theorem dX9_bound_16 : decode cX9_bound 16 = .ok (.if_icmp .gt 18, 3) := by decide +kernel
theorem dX9_bound_19 : decode cX9_bound 19 = .ok (.ldc2_w 174, 3) := by decide +kernel
theorem dX9_bound_22 : decode cX9_bound 22 = .ok (.iload_n 3, 1) := by decide +kernel
theorem dX9_bound_23 : decode cX9_bound 23 = .ok (.i2l, 1) := by decide +kernel
theorem dX9_bound_24 : decode cX9_bound 24 = .ok (.lrem, 1) := by decide +kernel
theorem dX9_bound_25 : decode cX9_bound 25 = .ok (.lconst 0, 1) := by decide +kernel
theorem dX9_bound_26 : decode cX9_bound 26 = .ok (.lcmp, 1) := by decide +kernel
theorem dX9_bound_27 : decode cX9_bound 27 = .ok (.ifCond .ne 7, 3) := by decide +kernel
theorem dX9_bound_30 : decode cX9_bound 30 = .ok (.iconst 1, 1) := by decide +kernel
theorem dX9_bound_31 : decode cX9_bound 31 = .ok (.goto 4, 3) := by decide +kernel
theorem dX9_bound_34 : decode cX9_bound 34 = .ok (.iconst 0, 1) := by decide +kernel
theorem dX9_bound_35 : decode cX9_bound 35 = .ok (.invokevirtual 176, 3) := by decide +kernel
theorem dX9_bound_38 : decode cX9_bound 38 = .ok (.ireturn, 1) := by decide +kernel
theorem dX9_mean_0 : decode cX9_mean 0 = .ok (.aload_n 0, 1) := by decide +kernel
theorem dX9_mean_1 : decode cX9_mean 1 = .ok (.iload_n 1, 1) := by decide +kernel
theorem dX9_mean_2 : decode cX9_mean 2 = .ok (.bipush 15, 2) := by decide +kernel
theorem dX9_mean_4 : decode cX9_mean 4 = .ok (.iconst 4, 1) := by decide +kernel
theorem dX9_mean_5 : decode cX9_mean 5 = .ok (.ldc 180, 2) := by decide +kernel
theorem dX9_mean_7 : decode cX9_mean 7 = .ok (.iload_n 2, 1) := by decide +kernel
theorem dX9_mean_8 : decode cX9_mean 8 = .ok (.iload_n 3, 1) := by decide +kernel
theorem dX9_mean_9 : decode cX9_mean 9 = .ok (.iload_n 3, 1) := by decide +kernel
theorem dX9_mean_10 : decode cX9_mean 10 = .ok (.bipush 10, 2) := by decide +kernel
theorem dX9_mean_12 : decode cX9_mean 12 = .ok (.if_icmp .lt 14, 3) := by decide +kernel
theorem dX9_mean_15 : decode cX9_mean 15 = .ok (.iload_n 3, 1) := by decide +kernel
theorem dX9_mean_16 : decode cX9_mean 16 = .ok (.sipush 400, 3) := by decide +kernel
theorem dX9_mean_19 : decode cX9_mean 19 = .ok (.if_icmp .gt 7, 3) := by decide +kernel
theorem dX9_mean_22 : decode cX9_mean 22 = .ok (.iconst 1, 1) := by decide +kernel
theorem dX9_mean_23 : decode cX9_mean 23 = .ok (.goto 4, 3) := by decide +kernel
theorem dX9_mean_26 : decode cX9_mean 26 = .ok (.iconst 0, 1) := by decide +kernel
theorem dX9_mean_27 : decode cX9_mean 27 = .ok (.invokevirtual 176, 3) := by decide +kernel
theorem dX9_mean_30 : decode cX9_mean 30 = .ok (.ireturn, 1) := by decide +kernel
theorem dX9_step_0 : decode cX9_step 0 = .ok (.aload_n 0, 1) := by decide +kernel
theorem dX9_step_1 : decode cX9_step 1 = .ok (.iload_n 1, 1) := by decide +kernel
theorem dX9_step_2 : decode cX9_step 2 = .ok (.bipush 28, 2) := by decide +kernel
theorem dX9_step_4 : decode cX9_step 4 = .ok (.iconst 4, 1) := by decide +kernel
theorem dX9_step_5 : decode cX9_step 5 = .ok (.iconst 0, 1) := by decide +kernel
theorem dX9_step_6 : decode cX9_step 6 = .ok (.iload_n 2, 1) := by decide +kernel
theorem dX9_step_7 : decode cX9_step 7 = .ok (.iload_n 3, 1) := by decide +kernel
theorem dX9_step_8 : decode cX9_step 8 = .ok (.iload_n 3, 1) := by decide +kernel
theorem dX9_step_9 : decode cX9_step 9 = .ok (.ifCond .lt 13, 3) := by decide +kernel
theorem dX9_step_12 : decode cX9_step 12 = .ok (.iload_n 3, 1) := by decide +kernel
theorem dX9_step_13 : decode cX9_step 13 = .ok (.ldc 87, 2) := by decide +kernel
theorem dX9_step_15 : decode cX9_step 15 = .ok (.if_icmp .gt 7, 3) := by decide +kernel
theorem dX9_step_18 : decode cX9_step 18 = .ok (.iconst 1, 1) := by decide +kernel
theorem dX9_step_19 : decode cX9_step 19 = .ok (.goto 4, 3) := by decide +kernel
theorem dX9_step_22 : decode cX9_step 22 = .ok (.iconst 0, 1) := by decide +kernel
theorem dX9_step_23 : decode cX9_step 23 = .ok (.invokevirtual 176, 3) := by decide +kernel
theorem dX9_step_26 : decode cX9_step 26 = .ok (.ireturn, 1) := by decide +kernel
theorem dX9_set_0 : decode cX9_set 0 = .ok (.aload_n 0, 1) := by decide +kernel
theorem dX9_set_1 : decode cX9_set 1 = .ok (.iconst 0, 1) := by decide +kernel
theorem dX9_set_2 : decode cX9_set 2 = .ok (.putfield 1, 3) := by decide +kernel
theorem dX9_set_5 : decode cX9_set 5 = .ok (.iload_n 1, 1) := by decide +kernel
theorem dX9_set_6 : decode cX9_set 6 = .ok (.invokestatic 71, 3) := by decide +kernel
theorem dX9_set_9 : decode cX9_set 9 = .ok (.ifCond .ne 13, 3) := by decide +kernel
theorem dX9_set_12 : decode cX9_set 12 = .ok (.iload_n 3, 1) := by decide +kernel
theorem dX9_set_13 : decode cX9_set 13 = .ok (.ifCond .lt 9, 3) := by decide +kernel
theorem dX9_set_16 : decode cX9_set 16 = .ok (.iload_n 3, 1) := by decide +kernel
theorem dX9_set_17 : decode cX9_set 17 = .ok (.iload 4, 2) := by decide +kernel
theorem dX9_set_19 : decode cX9_set 19 = .ok (.if_icmp .le 5, 3) := by decide +kernel
theorem dX9_set_22 : decode cX9_set 22 = .ok (.iconst 0, 1) := by decide +kernel
theorem dX9_set_23 : decode cX9_set 23 = .ok (.ireturn, 1) := by decide +kernel
theorem dX9_set_24 : decode cX9_set 24 = .ok (.aload_n 0, 1) := by decide +kernel
theorem dX9_set_25 : decode cX9_set 25 = .ok (.invokevirtual 76, 3) := by decide +kernel
theorem dX9_set_28 : decode cX9_set 28 = .ok (.aload_n 0, 1) := by decide +kernel
theorem dX9_set_29 : decode cX9_set 29 = .ok (.getfield 13, 3) := by decide +kernel
theorem dX9_set_32 : decode cX9_set 32 = .ok (.aload_n 0, 1) := by decide +kernel
theorem dX9_set_33 : decode cX9_set 33 = .ok (.iload_n 1, 1) := by decide +kernel
theorem dX9_set_34 : decode cX9_set 34 = .ok (.invokevirtual 170, 3) := by decide +kernel
theorem dX9_set_37 : decode cX9_set 37 = .ok (.iload_n 2, 1) := by decide +kernel
theorem dX9_set_38 : decode cX9_set 38 = .ok (.iadd, 1) := by decide +kernel
theorem dX9_set_39 : decode cX9_set 39 = .ok (.iload_n 3, 1) := by decide +kernel
theorem dX9_set_40 : decode cX9_set 40 = .ok (.iastore, 1) := by decide +kernel
theorem dX9_set_41 : decode cX9_set 41 = .ok (.iconst 1, 1) := by decide +kernel
theorem dX9_set_42 : decode cX9_set 42 = .ok (.ireturn, 1) := by decide +kernel
theorem dX9_limit_0 : decode cX9_limit 0 = .ok (.aload_n 0, 1) := by decide +kernel
theorem dX9_limit_1 : decode cX9_limit 1 = .ok (.iload_n 1, 1) := by decide +kernel
theorem dX9_limit_2 : decode cX9_limit 2 = .ok (.bipush 24, 2) := by decide +kernel
theorem dX9_limit_4 : decode cX9_limit 4 = .ok (.iload_n 2, 1) := by decide +kernel
theorem dX9_limit_5 : decode cX9_limit 5 = .ok (.ldc 181, 2) := by decide +kernel
theorem dX9_limit_7 : decode cX9_limit 7 = .ok (.invokevirtual 182, 3) := by decide +kernel
theorem dX9_limit_10 : decode cX9_limit 10 = .ok (.ireturn, 1) := by decide +kernel
theorem dX9_worst_0 : decode cX9_worst 0 = .ok (.aload_n 0, 1) := by decide +kernel
theorem dX9_worst_1 : decode cX9_worst 1 = .ok (.iload_n 1, 1) := by decide +kernel
theorem dX9_worst_2 : decode cX9_worst 2 = .ok (.bipush 25, 2) := by decide +kernel
theorem dX9_worst_4 : decode cX9_worst 4 = .ok (.iload_n 2, 1) := by decide +kernel
theorem dX9_worst_5 : decode cX9_worst 5 = .ok (.ldc 181, 2) := by decide +kernel
theorem dX9_worst_7 : decode cX9_worst 7 = .ok (.invokevirtual 182, 3) := by decide +kernel
theorem dX9_worst_10 : decode cX9_worst 10 = .ok (.ireturn, 1) := by decide +kernel
theorem dX9_crack_0 : decode cX9_crack 0 = .ok (.aload_n 0, 1) := by decide +kernel
theorem dX9_crack_1 : decode cX9_crack 1 = .ok (.iconst 0, 1) := by decide +kernel
theorem dX9_crack_2 : decode cX9_crack 2 = .ok (.putfield 1, 3) := by decide +kernel
theorem dX9_crack_5 : decode cX9_crack 5 = .ok (.iload_n 3, 1) := by decide +kernel
theorem dX9_crack_6 : decode cX9_crack 6 = .ok (.ifCond .lt 22, 3) := by decide +kernel
theorem dX9_crack_9 : decode cX9_crack 9 = .ok (.iload_n 3, 1) := by decide +kernel
theorem dX9_crack_10 : decode cX9_crack 10 = .ok (.ldc 181, 2) := by decide +kernel
theorem dX9_crack_12 : decode cX9_crack 12 = .ok (.if_icmp .gt 16, 3) := by decide +kernel
theorem dX9_crack_15 : decode cX9_crack 15 = .ok (.aload_n 0, 1) := by decide +kernel
theorem dX9_crack_16 : decode cX9_crack 16 = .ok (.iload_n 1, 1) := by decide +kernel
theorem dX9_crack_17 : decode cX9_crack 17 = .ok (.bipush 26, 2) := by decide +kernel
theorem dX9_crack_19 : decode cX9_crack 19 = .ok (.iload_n 2, 1) := by decide +kernel
theorem dX9_crack_20 : decode cX9_crack 20 = .ok (.ldc 87, 2) := by decide +kernel
theorem dX9_crack_22 : decode cX9_crack 22 = .ok (.invokevirtual 182, 3) := by decide +kernel
theorem dX9_crack_25 : decode cX9_crack 25 = .ok (.ifCond .ne 5, 3) := by decide +kernel
theorem dX9_crack_28 : decode cX9_crack 28 = .ok (.iconst 0, 1) := by decide +kernel
theorem dX9_crack_29 : decode cX9_crack 29 = .ok (.ireturn, 1) := by decide +kernel
theorem dX9_crack_30 : decode cX9_crack 30 = .ok (.aload_n 0, 1) := by decide +kernel
theorem dX9_crack_31 : decode cX9_crack 31 = .ok (.getfield 13, 3) := by decide +kernel
theorem dX9_crack_34 : decode cX9_crack 34 = .ok (.aload_n 0, 1) := by decide +kernel
theorem dX9_crack_35 : decode cX9_crack 35 = .ok (.iload_n 1, 1) := by decide +kernel
theorem dX9_crack_36 : decode cX9_crack 36 = .ok (.invokevirtual 170, 3) := by decide +kernel
theorem dX9_crack_39 : decode cX9_crack 39 = .ok (.bipush 27, 2) := by decide +kernel
theorem dX9_crack_41 : decode cX9_crack 41 = .ok (.iadd, 1) := by decide +kernel
theorem dX9_crack_42 : decode cX9_crack 42 = .ok (.iload_n 3, 1) := by decide +kernel
theorem dX9_crack_43 : decode cX9_crack 43 = .ok (.iastore, 1) := by decide +kernel
theorem dX9_crack_44 : decode cX9_crack 44 = .ok (.iconst 1, 1) := by decide +kernel
theorem dX9_crack_45 : decode cX9_crack 45 = .ok (.ireturn, 1) := by decide +kernel
theorem dX9_mend_0 : decode cX9_mend 0 = .ok (.aload_n 0, 1) := by decide +kernel
theorem dX9_mend_1 : decode cX9_mend 1 = .ok (.iconst 0, 1) := by decide +kernel
theorem dX9_mend_2 : decode cX9_mend 2 = .ok (.putfield 1, 3) := by decide +kernel
theorem dX9_mend_5 : decode cX9_mend 5 = .ok (.iload_n 1, 1) := by decide +kernel
theorem dX9_mend_6 : decode cX9_mend 6 = .ok (.invokestatic 71, 3) := by decide +kernel
theorem dX9_mend_9 : decode cX9_mend 9 = .ok (.ifCond .eq 5, 3) := by decide +kernel
theorem dX9_mend_12 : decode cX9_mend 12 = .ok (.iconst (-1), 1) := by decide +kernel
theorem dX9_mend_13 : decode cX9_mend 13 = .ok (.ireturn, 1) := by decide +kernel
theorem dX9_mend_14 : decode cX9_mend 14 = .ok (.aload_n 0, 1) := by decide +kernel
theorem dX9_mend_15 : decode cX9_mend 15 = .ok (.invokevirtual 76, 3) := by decide +kernel
theorem dX9_mend_18 : decode cX9_mend 18 = .ok (.aload_n 0, 1) := by decide +kernel
theorem dX9_mend_19 : decode cX9_mend 19 = .ok (.getfield 13, 3) := by decide +kernel
theorem dX9_mend_22 : decode cX9_mend 22 = .ok (.aload_n 0, 1) := by decide +kernel
theorem dX9_mend_23 : decode cX9_mend 23 = .ok (.iload_n 1, 1) := by decide +kernel
theorem dX9_mend_24 : decode cX9_mend 24 = .ok (.invokevirtual 170, 3) := by decide +kernel
theorem dX9_mend_27 : decode cX9_mend 27 = .ok (.iconst 0, 1) := by decide +kernel
theorem dX9_mend_28 : decode cX9_mend 28 = .ok (.iadd, 1) := by decide +kernel
theorem dX9_mend_29 : decode cX9_mend 29 = .ok (.iaload, 1) := by decide +kernel
theorem dX9_mend_30 : decode cX9_mend 30 = .ok (.istore_n 2, 1) := by decide +kernel
theorem dX9_mend_31 : decode cX9_mend 31 = .ok (.aload_n 0, 1) := by decide +kernel
theorem dX9_mend_32 : decode cX9_mend 32 = .ok (.getfield 13, 3) := by decide +kernel
theorem dX9_mend_35 : decode cX9_mend 35 = .ok (.aload_n 0, 1) := by decide +kernel
theorem dX9_mend_36 : decode cX9_mend 36 = .ok (.iload_n 1, 1) := by decide +kernel
theorem dX9_mend_37 : decode cX9_mend 37 = .ok (.invokevirtual 170, 3) := by decide +kernel
theorem dX9_mend_40 : decode cX9_mend 40 = .ok (.iconst 1, 1) := by decide +kernel
theorem dX9_mend_41 : decode cX9_mend 41 = .ok (.iadd, 1) := by decide +kernel
theorem dX9_mend_42 : decode cX9_mend 42 = .ok (.aload_n 0, 1) := by decide +kernel
theorem dX9_mend_43 : decode cX9_mend 43 = .ok (.iload_n 2, 1) := by decide +kernel
theorem dX9_mend_44 : decode cX9_mend 44 = .ok (.invokevirtual 154, 3) := by decide +kernel
theorem dX9_mend_47 : decode cX9_mend 47 = .ok (.ifCond .eq 11, 3) := by decide +kernel
theorem dX9_mend_50 : decode cX9_mend 50 = .ok (.aload_n 0, 1) := by decide +kernel
theorem dX9_mend_51 : decode cX9_mend 51 = .ok (.iload_n 2, 1) := by decide +kernel
theorem dX9_mend_52 : decode cX9_mend 52 = .ok (.invokevirtual 121, 3) := by decide +kernel
theorem dX9_mend_55 : decode cX9_mend 55 = .ok (.goto 4, 3) := by decide +kernel
theorem dX9_mend_58 : decode cX9_mend 58 = .ok (.iconst 0, 1) := by decide +kernel
theorem dX9_mend_59 : decode cX9_mend 59 = .ok (.iastore, 1) := by decide +kernel
theorem dX9_mend_60 : decode cX9_mend 60 = .ok (.aload_n 0, 1) := by decide +kernel
theorem dX9_mend_61 : decode cX9_mend 61 = .ok (.getfield 13, 3) := by decide +kernel
theorem dX9_mend_64 : decode cX9_mend 64 = .ok (.aload_n 0, 1) := by decide +kernel
theorem dX9_mend_65 : decode cX9_mend 65 = .ok (.iload_n 1, 1) := by decide +kernel
theorem dX9_mend_66 : decode cX9_mend 66 = .ok (.invokevirtual 170, 3) := by decide +kernel
theorem dX9_mend_69 : decode cX9_mend 69 = .ok (.bipush 26, 2) := by decide +kernel
theorem dX9_mend_71 : decode cX9_mend 71 = .ok (.iadd, 1) := by decide +kernel
theorem dX9_mend_72 : decode cX9_mend 72 = .ok (.iconst (-1), 1) := by decide +kernel
theorem dX9_mend_73 : decode cX9_mend 73 = .ok (.iastore, 1) := by decide +kernel
theorem dX9_mend_74 : decode cX9_mend 74 = .ok (.aload_n 0, 1) := by decide +kernel
theorem dX9_mend_75 : decode cX9_mend 75 = .ok (.getfield 13, 3) := by decide +kernel
theorem dX9_mend_78 : decode cX9_mend 78 = .ok (.aload_n 0, 1) := by decide +kernel
theorem dX9_mend_79 : decode cX9_mend 79 = .ok (.iload_n 1, 1) := by decide +kernel
theorem dX9_mend_80 : decode cX9_mend 80 = .ok (.invokevirtual 170, 3) := by decide +kernel
theorem dX9_mend_83 : decode cX9_mend 83 = .ok (.iconst 1, 1) := by decide +kernel
theorem dX9_mend_84 : decode cX9_mend 84 = .ok (.iadd, 1) := by decide +kernel
theorem dX9_mend_85 : decode cX9_mend 85 = .ok (.iaload, 1) := by decide +kernel
theorem dX9_mend_86 : decode cX9_mend 86 = .ok (.ireturn, 1) := by decide +kernel
theorem dX9_effect_0 : decode cX9_effect 0 = .ok (.aload_n 0, 1) := by decide +kernel
theorem dX9_effect_1 : decode cX9_effect 1 = .ok (.iload_n 1, 1) := by decide +kernel
theorem dX9_effect_2 : decode cX9_effect 2 = .ok (.invokevirtual 170, 3) := by decide +kernel
theorem dX9_effect_5 : decode cX9_effect 5 = .ok (.bipush 15, 2) := by decide +kernel
theorem dX9_effect_7 : decode cX9_effect 7 = .ok (.iadd, 1) := by decide +kernel
theorem dX9_effect_8 : decode cX9_effect 8 = .ok (.istore 4, 2) := by decide +kernel
theorem dX9_effect_10 : decode cX9_effect 10 = .ok (.ldc2_w 186, 3) := by decide +kernel
theorem dX9_effect_13 : decode cX9_effect 13 = .ok (.lstore 5, 2) := by decide +kernel
theorem dX9_effect_15 : decode cX9_effect 15 = .ok (.aload_n 0, 1) := by decide +kernel
theorem dX9_effect_16 : decode cX9_effect 16 = .ok (.getfield 13, 3) := by decide +kernel
theorem dX9_effect_19 : decode cX9_effect 19 = .ok (.iload 4, 2) := by decide +kernel
theorem dX9_effect_21 : decode cX9_effect 21 = .ok (.iaload, 1) := by decide +kernel
theorem dX9_effect_22 : decode cX9_effect 22 = .ok (.iconst 1, 1) := by decide +kernel
theorem dX9_effect_23 : decode cX9_effect 23 = .ok (.isub, 1) := by decide +kernel
theorem dX9_effect_24 : decode cX9_effect 24 = .ok (.istore 7, 2) := by decide +kernel
theorem dX9_effect_26 : decode cX9_effect 26 = .ok (.iload 7, 2) := by decide +kernel
theorem dX9_effect_28 : decode cX9_effect 28 = .ok (.ifCond .lt 44, 3) := by decide +kernel
theorem dX9_effect_31 : decode cX9_effect 31 = .ok (.aload_n 0, 1) := by decide +kernel
theorem dX9_effect_32 : decode cX9_effect 32 = .ok (.getfield 13, 3) := by decide +kernel
theorem dX9_effect_35 : decode cX9_effect 35 = .ok (.iload 4, 2) := by decide +kernel
theorem dX9_effect_37 : decode cX9_effect 37 = .ok (.iconst 1, 1) := by decide +kernel
theorem dX9_effect_38 : decode cX9_effect 38 = .ok (.iadd, 1) := by decide +kernel
theorem dX9_effect_39 : decode cX9_effect 39 = .ok (.iconst 2, 1) := by decide +kernel
theorem dX9_effect_40 : decode cX9_effect 40 = .ok (.iload 7, 2) := by decide +kernel
theorem dX9_effect_42 : decode cX9_effect 42 = .ok (.imul, 1) := by decide +kernel
theorem dX9_effect_43 : decode cX9_effect 43 = .ok (.iadd, 1) := by decide +kernel
theorem dX9_effect_44 : decode cX9_effect 44 = .ok (.iaload, 1) := by decide +kernel
theorem dX9_effect_45 : decode cX9_effect 45 = .ok (.iload_n 3, 1) := by decide +kernel
theorem dX9_effect_46 : decode cX9_effect 46 = .ok (.if_icmp .lt 20, 3) := by decide +kernel
theorem dX9_effect_49 : decode cX9_effect 49 = .ok (.aload_n 0, 1) := by decide +kernel
theorem dX9_effect_50 : decode cX9_effect 50 = .ok (.getfield 13, 3) := by decide +kernel
theorem dX9_effect_53 : decode cX9_effect 53 = .ok (.iload 4, 2) := by decide +kernel
theorem dX9_effect_55 : decode cX9_effect 55 = .ok (.iconst 2, 1) := by decide +kernel
theorem dX9_effect_56 : decode cX9_effect 56 = .ok (.iadd, 1) := by decide +kernel
theorem dX9_effect_57 : decode cX9_effect 57 = .ok (.iconst 2, 1) := by decide +kernel
theorem dX9_effect_58 : decode cX9_effect 58 = .ok (.iload 7, 2) := by decide +kernel
theorem dX9_effect_60 : decode cX9_effect 60 = .ok (.imul, 1) := by decide +kernel
theorem dX9_effect_61 : decode cX9_effect 61 = .ok (.iadd, 1) := by decide +kernel
theorem dX9_effect_62 : decode cX9_effect 62 = .ok (.iaload, 1) := by decide +kernel
theorem dX9_effect_63 : decode cX9_effect 63 = .ok (.i2l, 1) := by decide +kernel
theorem dX9_effect_64 : decode cX9_effect 64 = .ok (.lstore 5, 2) := by decide +kernel
theorem dX9_effect_66 : decode cX9_effect 66 = .ok (.iinc 7 (-1), 3) := by decide +kernel
theorem dX9_effect_69 : decode cX9_effect 69 = .ok (.goto (-43), 3) := by decide +kernel
theorem dX9_effect_72 : decode cX9_effect 72 = .ok (.iload_n 2, 1) := by decide +kernel
theorem dX9_effect_73 : decode cX9_effect 73 = .ok (.i2l, 1) := by decide +kernel
theorem dX9_effect_74 : decode cX9_effect 74 = .ok (.lload 5, 2) := by decide +kernel
theorem dX9_effect_76 : decode cX9_effect 76 = .ok (.lmul, 1) := by decide +kernel
theorem dX9_effect_77 : decode cX9_effect 77 = .ok (.ldc2_w 188, 3) := by decide +kernel
theorem dX9_effect_80 : decode cX9_effect 80 = .ok (.ladd, 1) := by decide +kernel
theorem dX9_effect_81 : decode cX9_effect 81 = .ok (.ldc2_w 186, 3) := by decide +kernel
theorem dX9_effect_84 : decode cX9_effect 84 = .ok (.ldiv, 1) := by decide +kernel
theorem dX9_effect_85 : decode cX9_effect 85 = .ok (.l2i, 1) := by decide +kernel
theorem dX9_effect_86 : decode cX9_effect 86 = .ok (.ireturn, 1) := by decide +kernel
theorem dX9_boundOf_0 : decode cX9_boundOf 0 = .ok (.aload_n 0, 1) := by decide +kernel
theorem dX9_boundOf_1 : decode cX9_boundOf 1 = .ok (.iload_n 1, 1) := by decide +kernel
theorem dX9_boundOf_2 : decode cX9_boundOf 2 = .ok (.invokevirtual 170, 3) := by decide +kernel
theorem dX9_boundOf_5 : decode cX9_boundOf 5 = .ok (.iconst 2, 1) := by decide +kernel
theorem dX9_boundOf_6 : decode cX9_boundOf 6 = .ok (.iadd, 1) := by decide +kernel
theorem dX9_boundOf_7 : decode cX9_boundOf 7 = .ok (.istore_n 3, 1) := by decide +kernel
theorem dX9_boundOf_8 : decode cX9_boundOf 8 = .ok (.bipush 6, 2) := by decide +kernel
theorem dX9_boundOf_10 : decode cX9_boundOf 10 = .ok (.istore 4, 2) := by decide +kernel
theorem dX9_boundOf_12 : decode cX9_boundOf 12 = .ok (.aload_n 0, 1) := by decide +kernel
theorem dX9_boundOf_13 : decode cX9_boundOf 13 = .ok (.getfield 13, 3) := by decide +kernel
theorem dX9_boundOf_16 : decode cX9_boundOf 16 = .ok (.iload_n 3, 1) := by decide +kernel
theorem dX9_boundOf_17 : decode cX9_boundOf 17 = .ok (.iaload, 1) := by decide +kernel
theorem dX9_boundOf_18 : decode cX9_boundOf 18 = .ok (.iconst 1, 1) := by decide +kernel
theorem dX9_boundOf_19 : decode cX9_boundOf 19 = .ok (.isub, 1) := by decide +kernel
theorem dX9_boundOf_20 : decode cX9_boundOf 20 = .ok (.istore 5, 2) := by decide +kernel
theorem dX9_boundOf_22 : decode cX9_boundOf 22 = .ok (.iload 5, 2) := by decide +kernel
theorem dX9_boundOf_24 : decode cX9_boundOf 24 = .ok (.ifCond .lt 30, 3) := by decide +kernel
theorem dX9_boundOf_27 : decode cX9_boundOf 27 = .ok (.aload_n 0, 1) := by decide +kernel
theorem dX9_boundOf_28 : decode cX9_boundOf 28 = .ok (.getfield 13, 3) := by decide +kernel
theorem dX9_boundOf_31 : decode cX9_boundOf 31 = .ok (.iload_n 3, 1) := by decide +kernel
theorem dX9_boundOf_32 : decode cX9_boundOf 32 = .ok (.iconst 1, 1) := by decide +kernel
theorem dX9_boundOf_33 : decode cX9_boundOf 33 = .ok (.iadd, 1) := by decide +kernel
theorem dX9_boundOf_34 : decode cX9_boundOf 34 = .ok (.iconst 2, 1) := by decide +kernel
theorem dX9_boundOf_35 : decode cX9_boundOf 35 = .ok (.iload 5, 2) := by decide +kernel
theorem dX9_boundOf_37 : decode cX9_boundOf 37 = .ok (.imul, 1) := by decide +kernel
theorem dX9_boundOf_38 : decode cX9_boundOf 38 = .ok (.iadd, 1) := by decide +kernel
theorem dX9_boundOf_39 : decode cX9_boundOf 39 = .ok (.iaload, 1) := by decide +kernel
theorem dX9_boundOf_40 : decode cX9_boundOf 40 = .ok (.iload_n 2, 1) := by decide +kernel
theorem dX9_boundOf_41 : decode cX9_boundOf 41 = .ok (.if_icmp .lt 7, 3) := by decide +kernel
theorem dX9_boundOf_44 : decode cX9_boundOf 44 = .ok (.iload 5, 2) := by decide +kernel
theorem dX9_boundOf_46 : decode cX9_boundOf 46 = .ok (.istore 4, 2) := by decide +kernel
theorem dX9_boundOf_48 : decode cX9_boundOf 48 = .ok (.iinc 5 (-1), 3) := by decide +kernel
theorem dX9_boundOf_51 : decode cX9_boundOf 51 = .ok (.goto (-29), 3) := by decide +kernel
theorem dX9_boundOf_54 : decode cX9_boundOf 54 = .ok (.iload 4, 2) := by decide +kernel
theorem dX9_boundOf_56 : decode cX9_boundOf 56 = .ok (.ireturn, 1) := by decide +kernel
theorem dX9_bears_0 : decode cX9_bears 0 = .ok (.iload_n 2, 1) := by decide +kernel
theorem dX9_bears_1 : decode cX9_bears 1 = .ok (.bipush 6, 2) := by decide +kernel
theorem dX9_bears_3 : decode cX9_bears 3 = .ok (.if_icmp .ne 7, 3) := by decide +kernel
theorem dX9_bears_6 : decode cX9_bears 6 = .ok (.lconst 1, 1) := by decide +kernel
theorem dX9_bears_7 : decode cX9_bears 7 = .ok (.goto 22, 3) := by decide +kernel
theorem dX9_bears_10 : decode cX9_bears 10 = .ok (.aload_n 0, 1) := by decide +kernel
theorem dX9_bears_11 : decode cX9_bears 11 = .ok (.getfield 13, 3) := by decide +kernel
theorem dX9_bears_14 : decode cX9_bears 14 = .ok (.aload_n 0, 1) := by decide +kernel
theorem dX9_bears_15 : decode cX9_bears 15 = .ok (.iload_n 1, 1) := by decide +kernel
theorem dX9_bears_16 : decode cX9_bears 16 = .ok (.invokevirtual 170, 3) := by decide +kernel
theorem dX9_bears_19 : decode cX9_bears 19 = .ok (.iconst 2, 1) := by decide +kernel
theorem dX9_bears_20 : decode cX9_bears 20 = .ok (.iadd, 1) := by decide +kernel
theorem dX9_bears_21 : decode cX9_bears 21 = .ok (.iconst 2, 1) := by decide +kernel
theorem dX9_bears_22 : decode cX9_bears 22 = .ok (.iadd, 1) := by decide +kernel
theorem dX9_bears_23 : decode cX9_bears 23 = .ok (.iconst 2, 1) := by decide +kernel
theorem dX9_bears_24 : decode cX9_bears 24 = .ok (.iload_n 2, 1) := by decide +kernel
theorem dX9_bears_25 : decode cX9_bears 25 = .ok (.imul, 1) := by decide +kernel
theorem dX9_bears_26 : decode cX9_bears 26 = .ok (.iadd, 1) := by decide +kernel
theorem dX9_bears_27 : decode cX9_bears 27 = .ok (.iaload, 1) := by decide +kernel
theorem dX9_bears_28 : decode cX9_bears 28 = .ok (.i2l, 1) := by decide +kernel
theorem dX9_bears_29 : decode cX9_bears 29 = .ok (.lreturn, 1) := by decide +kernel
theorem dX9_count0_0 : decode cX9_count0 0 = .ok (.iconst 0, 1) := by decide +kernel
theorem dX9_count0_1 : decode cX9_count0 1 = .ok (.istore_n 2, 1) := by decide +kernel
theorem dX9_count0_2 : decode cX9_count0 2 = .ok (.iload_n 2, 1) := by decide +kernel
theorem dX9_count0_3 : decode cX9_count0 3 = .ok (.bipush 7, 2) := by decide +kernel
theorem dX9_count0_5 : decode cX9_count0 5 = .ok (.if_icmp .ge 16, 3) := by decide +kernel
theorem dX9_count0_8 : decode cX9_count0 8 = .ok (.aload_n 0, 1) := by decide +kernel
theorem dX9_count0_9 : decode cX9_count0 9 = .ok (.getfield 52, 3) := by decide +kernel
theorem dX9_count0_12 : decode cX9_count0 12 = .ok (.iload_n 2, 1) := by decide +kernel
theorem dX9_count0_13 : decode cX9_count0 13 = .ok (.lconst 0, 1) := by decide +kernel
theorem dX9_count0_14 : decode cX9_count0 14 = .ok (.lastore, 1) := by decide +kernel
theorem dX9_count0_15 : decode cX9_count0 15 = .ok (.iinc 2 1, 3) := by decide +kernel
theorem dX9_count0_18 : decode cX9_count0 18 = .ok (.goto (-16), 3) := by decide +kernel
theorem dX9_count0_21 : decode cX9_count0 21 = .ok (.aload_n 0, 1) := by decide +kernel
theorem dX9_count0_22 : decode cX9_count0 22 = .ok (.lconst 0, 1) := by decide +kernel
theorem dX9_count0_23 : decode cX9_count0 23 = .ok (.putfield 190, 3) := by decide +kernel
theorem dX9_count0_26 : decode cX9_count0 26 = .ok (.aload_n 0, 1) := by decide +kernel
theorem dX9_count0_27 : decode cX9_count0 27 = .ok (.getfield 13, 3) := by decide +kernel
theorem dX9_count0_30 : decode cX9_count0 30 = .ok (.aload_n 0, 1) := by decide +kernel
theorem dX9_count0_31 : decode cX9_count0 31 = .ok (.iload_n 1, 1) := by decide +kernel
theorem dX9_count0_32 : decode cX9_count0 32 = .ok (.invokevirtual 170, 3) := by decide +kernel
theorem dX9_count0_35 : decode cX9_count0 35 = .ok (.iconst 0, 1) := by decide +kernel
theorem dX9_count0_36 : decode cX9_count0 36 = .ok (.iadd, 1) := by decide +kernel
theorem dX9_count0_37 : decode cX9_count0 37 = .ok (.iaload, 1) := by decide +kernel
theorem dX9_count0_38 : decode cX9_count0 38 = .ok (.istore_n 2, 1) := by decide +kernel
theorem dX9_count0_39 : decode cX9_count0 39 = .ok (.aload_n 0, 1) := by decide +kernel
theorem dX9_count0_40 : decode cX9_count0 40 = .ok (.iload_n 2, 1) := by decide +kernel
theorem dX9_count0_41 : decode cX9_count0 41 = .ok (.invokevirtual 154, 3) := by decide +kernel
theorem dX9_count0_44 : decode cX9_count0 44 = .ok (.ifCond .ne 4, 3) := by decide +kernel
theorem dX9_count0_47 : decode cX9_count0 47 = .ok (.return_, 1) := by decide +kernel
theorem dX9_count0_48 : decode cX9_count0 48 = .ok (.aload_n 0, 1) := by decide +kernel
theorem dX9_count0_49 : decode cX9_count0 49 = .ok (.getfield 13, 3) := by decide +kernel
theorem dX9_count0_52 : decode cX9_count0 52 = .ok (.aload_n 0, 1) := by decide +kernel
theorem dX9_count0_53 : decode cX9_count0 53 = .ok (.iload_n 1, 1) := by decide +kernel
theorem dX9_count0_54 : decode cX9_count0 54 = .ok (.invokevirtual 170, 3) := by decide +kernel
theorem dX9_count0_57 : decode cX9_count0 57 = .ok (.iconst 1, 1) := by decide +kernel
theorem dX9_count0_58 : decode cX9_count0 58 = .ok (.iadd, 1) := by decide +kernel
theorem dX9_count0_59 : decode cX9_count0 59 = .ok (.iaload, 1) := by decide +kernel
theorem dX9_count0_60 : decode cX9_count0 60 = .ok (.istore_n 3, 1) := by decide +kernel
theorem dX9_count0_61 : decode cX9_count0 61 = .ok (.aload_n 0, 1) := by decide +kernel
theorem dX9_count0_62 : decode cX9_count0 62 = .ok (.iload_n 2, 1) := by decide +kernel
theorem dX9_count0_63 : decode cX9_count0 63 = .ok (.iload_n 3, 1) := by decide +kernel
theorem dX9_count0_64 : decode cX9_count0 64 = .ok (.invokevirtual 157, 3) := by decide +kernel
theorem dX9_count0_67 : decode cX9_count0 67 = .ok (.iconst 0, 1) := by decide +kernel
theorem dX9_count0_68 : decode cX9_count0 68 = .ok (.istore 4, 2) := by decide +kernel
theorem dX9_count0_70 : decode cX9_count0 70 = .ok (.iconst 0, 1) := by decide +kernel
theorem dX9_count0_71 : decode cX9_count0 71 = .ok (.istore 5, 2) := by decide +kernel
theorem dX9_count0_73 : decode cX9_count0 73 = .ok (.iload 5, 2) := by decide +kernel
theorem dX9_count0_75 : decode cX9_count0 75 = .ok (.aload_n 0, 1) := by decide +kernel
theorem dX9_count0_76 : decode cX9_count0 76 = .ok (.getfield 141, 3) := by decide +kernel
theorem dX9_count0_79 : decode cX9_count0 79 = .ok (.aload_n 0, 1) := by decide +kernel
theorem dX9_count0_80 : decode cX9_count0 80 = .ok (.getfield 151, 3) := by decide +kernel
theorem dX9_count0_83 : decode cX9_count0 83 = .ok (.iadd, 1) := by decide +kernel
theorem dX9_count0_84 : decode cX9_count0 84 = .ok (.iconst 1, 1) := by decide +kernel
theorem dX9_count0_85 : decode cX9_count0 85 = .ok (.isub, 1) := by decide +kernel
theorem dX9_count0_86 : decode cX9_count0 86 = .ok (.if_icmp .lt 12, 3) := by decide +kernel
theorem dX9_count0_89 : decode cX9_count0 89 = .ok (.iload 5, 2) := by decide +kernel
theorem dX9_count0_91 : decode cX9_count0 91 = .ok (.aload_n 0, 1) := by decide +kernel
theorem dX9_count0_92 : decode cX9_count0 92 = .ok (.getfield 141, 3) := by decide +kernel
theorem dX9_count0_95 : decode cX9_count0 95 = .ok (.if_icmp .ge 209, 3) := by decide +kernel
theorem dX9_count0_98 : decode cX9_count0 98 = .ok (.iload 5, 2) := by decide +kernel
theorem dX9_count0_100 : decode cX9_count0 100 = .ok (.aload_n 0, 1) := by decide +kernel
theorem dX9_count0_101 : decode cX9_count0 101 = .ok (.getfield 141, 3) := by decide +kernel
theorem dX9_count0_104 : decode cX9_count0 104 = .ok (.if_icmp .ge 7, 3) := by decide +kernel
theorem dX9_count0_107 : decode cX9_count0 107 = .ok (.iconst 1, 1) := by decide +kernel
theorem dX9_count0_108 : decode cX9_count0 108 = .ok (.goto 4, 3) := by decide +kernel
theorem dX9_count0_111 : decode cX9_count0 111 = .ok (.iconst 0, 1) := by decide +kernel
theorem dX9_count0_112 : decode cX9_count0 112 = .ok (.istore 6, 2) := by decide +kernel
theorem dX9_count0_114 : decode cX9_count0 114 = .ok (.iload 6, 2) := by decide +kernel
theorem dX9_count0_116 : decode cX9_count0 116 = .ok (.ifCond .eq 7, 3) := by decide +kernel
theorem dX9_count0_119 : decode cX9_count0 119 = .ok (.iconst 0, 1) := by decide +kernel
theorem dX9_count0_120 : decode cX9_count0 120 = .ok (.goto 15, 3) := by decide +kernel
theorem dX9_count0_123 : decode cX9_count0 123 = .ok (.aload_n 0, 1) := by decide +kernel
theorem dX9_count0_124 : decode cX9_count0 124 = .ok (.getfield 49, 3) := by decide +kernel
theorem dX9_count0_127 : decode cX9_count0 127 = .ok (.iload 5, 2) := by decide +kernel
theorem dX9_count0_129 : decode cX9_count0 129 = .ok (.aload_n 0, 1) := by decide +kernel
theorem dX9_count0_130 : decode cX9_count0 130 = .ok (.getfield 141, 3) := by decide +kernel
theorem dX9_count0_133 : decode cX9_count0 133 = .ok (.isub, 1) := by decide +kernel
theorem dX9_count0_134 : decode cX9_count0 134 = .ok (.iaload, 1) := by decide +kernel
theorem dX9_count0_135 : decode cX9_count0 135 = .ok (.istore 7, 2) := by decide +kernel
theorem dX9_count0_137 : decode cX9_count0 137 = .ok (.iload 6, 2) := by decide +kernel
theorem dX9_count0_139 : decode cX9_count0 139 = .ok (.ifCond .eq 7, 3) := by decide +kernel
theorem dX9_count0_142 : decode cX9_count0 142 = .ok (.iconst 0, 1) := by decide +kernel
theorem dX9_count0_143 : decode cX9_count0 143 = .ok (.goto 17, 3) := by decide +kernel
theorem dX9_count0_146 : decode cX9_count0 146 = .ok (.aload_n 0, 1) := by decide +kernel
theorem dX9_count0_147 : decode cX9_count0 147 = .ok (.getfield 49, 3) := by decide +kernel
theorem dX9_count0_150 : decode cX9_count0 150 = .ok (.iload 5, 2) := by decide +kernel
theorem dX9_count0_152 : decode cX9_count0 152 = .ok (.aload_n 0, 1) := by decide +kernel
theorem dX9_count0_153 : decode cX9_count0 153 = .ok (.getfield 141, 3) := by decide +kernel
theorem dX9_count0_156 : decode cX9_count0 156 = .ok (.isub, 1) := by decide +kernel
theorem dX9_count0_157 : decode cX9_count0 157 = .ok (.iconst 1, 1) := by decide +kernel
theorem dX9_count0_158 : decode cX9_count0 158 = .ok (.iadd, 1) := by decide +kernel
theorem dX9_count0_159 : decode cX9_count0 159 = .ok (.iaload, 1) := by decide +kernel
theorem dX9_count0_160 : decode cX9_count0 160 = .ok (.istore 8, 2) := by decide +kernel
theorem dX9_count0_162 : decode cX9_count0 162 = .ok (.iload 6, 2) := by decide +kernel
theorem dX9_count0_164 : decode cX9_count0 164 = .ok (.ifCond .eq 23, 3) := by decide +kernel
theorem dX9_count0_167 : decode cX9_count0 167 = .ok (.aload_n 0, 1) := by decide +kernel
theorem dX9_count0_168 : decode cX9_count0 168 = .ok (.iload_n 1, 1) := by decide +kernel
theorem dX9_count0_169 : decode cX9_count0 169 = .ok (.aload_n 0, 1) := by decide +kernel
theorem dX9_count0_170 : decode cX9_count0 170 = .ok (.iload 5, 2) := by decide +kernel
theorem dX9_count0_172 : decode cX9_count0 172 = .ok (.invokevirtual 164, 3) := by decide +kernel
theorem dX9_count0_175 : decode cX9_count0 175 = .ok (.aload_n 0, 1) := by decide +kernel
theorem dX9_count0_176 : decode cX9_count0 176 = .ok (.iload 5, 2) := by decide +kernel
theorem dX9_count0_178 : decode cX9_count0 178 = .ok (.invokevirtual 167, 3) := by decide +kernel
theorem dX9_count0_181 : decode cX9_count0 181 = .ok (.invokevirtual 194, 3) := by decide +kernel
theorem dX9_count0_184 : decode cX9_count0 184 = .ok (.goto 33, 3) := by decide +kernel
theorem dX9_count0_187 : decode cX9_count0 187 = .ok (.aload_n 0, 1) := by decide +kernel
theorem dX9_count0_188 : decode cX9_count0 188 = .ok (.iload_n 1, 1) := by decide +kernel
theorem dX9_count0_189 : decode cX9_count0 189 = .ok (.iload 7, 2) := by decide +kernel
theorem dX9_count0_191 : decode cX9_count0 191 = .ok (.iload 8, 2) := by decide +kernel
theorem dX9_count0_193 : decode cX9_count0 193 = .ok (.if_icmp .le 11, 3) := by decide +kernel
theorem dX9_count0_196 : decode cX9_count0 196 = .ok (.iload 7, 2) := by decide +kernel
theorem dX9_count0_198 : decode cX9_count0 198 = .ok (.iload 8, 2) := by decide +kernel
theorem dX9_count0_200 : decode cX9_count0 200 = .ok (.isub, 1) := by decide +kernel
theorem dX9_count0_201 : decode cX9_count0 201 = .ok (.goto 8, 3) := by decide +kernel
theorem dX9_count0_204 : decode cX9_count0 204 = .ok (.iload 8, 2) := by decide +kernel
theorem dX9_count0_206 : decode cX9_count0 206 = .ok (.iload 7, 2) := by decide +kernel
theorem dX9_count0_208 : decode cX9_count0 208 = .ok (.isub, 1) := by decide +kernel
theorem dX9_count0_209 : decode cX9_count0 209 = .ok (.iload 7, 2) := by decide +kernel
theorem dX9_count0_211 : decode cX9_count0 211 = .ok (.iload 8, 2) := by decide +kernel
theorem dX9_count0_213 : decode cX9_count0 213 = .ok (.iadd, 1) := by decide +kernel
theorem dX9_count0_214 : decode cX9_count0 214 = .ok (.invokevirtual 194, 3) := by decide +kernel
theorem dX9_count0_217 : decode cX9_count0 217 = .ok (.istore 9, 2) := by decide +kernel
theorem dX9_count0_219 : decode cX9_count0 219 = .ok (.iload 4, 2) := by decide +kernel
theorem dX9_count0_221 : decode cX9_count0 221 = .ok (.ifCond .ne 21, 3) := by decide +kernel
theorem dX9_count0_224 : decode cX9_count0 224 = .ok (.iload 9, 2) := by decide +kernel
theorem dX9_count0_226 : decode cX9_count0 226 = .ok (.aload_n 0, 1) := by decide +kernel
theorem dX9_count0_227 : decode cX9_count0 227 = .ok (.getfield 13, 3) := by decide +kernel
theorem dX9_count0_230 : decode cX9_count0 230 = .ok (.aload_n 0, 1) := by decide +kernel
theorem dX9_count0_231 : decode cX9_count0 231 = .ok (.iload_n 1, 1) := by decide +kernel
theorem dX9_count0_232 : decode cX9_count0 232 = .ok (.invokevirtual 170, 3) := by decide +kernel
theorem dX9_count0_235 : decode cX9_count0 235 = .ok (.bipush 24, 2) := by decide +kernel
theorem dX9_count0_237 : decode cX9_count0 237 = .ok (.iadd, 1) := by decide +kernel
theorem dX9_count0_238 : decode cX9_count0 238 = .ok (.iaload, 1) := by decide +kernel
theorem dX9_count0_239 : decode cX9_count0 239 = .ok (.if_icmp .lt 7, 3) := by decide +kernel
theorem dX9_count0_242 : decode cX9_count0 242 = .ok (.iconst 1, 1) := by decide +kernel
theorem dX9_count0_243 : decode cX9_count0 243 = .ok (.goto 4, 3) := by decide +kernel
theorem dX9_count0_246 : decode cX9_count0 246 = .ok (.iconst 0, 1) := by decide +kernel
theorem dX9_count0_247 : decode cX9_count0 247 = .ok (.istore 4, 2) := by decide +kernel
theorem dX9_count0_249 : decode cX9_count0 249 = .ok (.iload 4, 2) := by decide +kernel
theorem dX9_count0_251 : decode cX9_count0 251 = .ok (.ifCond .ne 6, 3) := by decide +kernel
theorem dX9_count0_254 : decode cX9_count0 254 = .ok (.goto 44, 3) := by decide +kernel
theorem dX9_count0_257 : decode cX9_count0 257 = .ok (.aload_n 0, 1) := by decide +kernel
theorem dX9_count0_258 : decode cX9_count0 258 = .ok (.iload_n 1, 1) := by decide +kernel
theorem dX9_count0_259 : decode cX9_count0 259 = .ok (.iload 9, 2) := by decide +kernel
theorem dX9_count0_261 : decode cX9_count0 261 = .ok (.invokevirtual 198, 3) := by decide +kernel
theorem dX9_count0_264 : decode cX9_count0 264 = .ok (.istore 10, 2) := by decide +kernel
theorem dX9_count0_266 : decode cX9_count0 266 = .ok (.aload_n 0, 1) := by decide +kernel
theorem dX9_count0_267 : decode cX9_count0 267 = .ok (.getfield 52, 3) := by decide +kernel
theorem dX9_count0_270 : decode cX9_count0 270 = .ok (.iload 10, 2) := by decide +kernel
theorem dX9_count0_272 : decode cX9_count0 272 = .ok (.dup2, 1) := by decide +kernel
theorem dX9_count0_273 : decode cX9_count0 273 = .ok (.laload, 1) := by decide +kernel
theorem dX9_count0_274 : decode cX9_count0 274 = .ok (.iload 6, 2) := by decide +kernel
theorem dX9_count0_276 : decode cX9_count0 276 = .ok (.ifCond .eq 9, 3) := by decide +kernel
theorem dX9_count0_279 : decode cX9_count0 279 = .ok (.ldc2_w 201, 3) := by decide +kernel
theorem dX9_count0_282 : decode cX9_count0 282 = .ok (.goto 6, 3) := by decide +kernel
theorem dX9_count0_285 : decode cX9_count0 285 = .ok (.ldc2_w 174, 3) := by decide +kernel
theorem dX9_count0_288 : decode cX9_count0 288 = .ok (.aload_n 0, 1) := by decide +kernel
theorem dX9_count0_289 : decode cX9_count0 289 = .ok (.iload_n 1, 1) := by decide +kernel
theorem dX9_count0_290 : decode cX9_count0 290 = .ok (.iload 10, 2) := by decide +kernel
theorem dX9_count0_292 : decode cX9_count0 292 = .ok (.invokevirtual 203, 3) := by decide +kernel
theorem dX9_count0_295 : decode cX9_count0 295 = .ok (.ldiv, 1) := by decide +kernel
theorem dX9_count0_296 : decode cX9_count0 296 = .ok (.ladd, 1) := by decide +kernel
theorem dX9_count0_297 : decode cX9_count0 297 = .ok (.lastore, 1) := by decide +kernel
theorem dX9_count0_298 : decode cX9_count0 298 = .ok (.iinc 5 1, 3) := by decide +kernel
theorem dX9_count0_301 : decode cX9_count0 301 = .ok (.goto (-228), 3) := by decide +kernel
theorem dX9_count0_304 : decode cX9_count0 304 = .ok (.aload_n 0, 1) := by decide +kernel
theorem dX9_count0_305 : decode cX9_count0 305 = .ok (.iload_n 2, 1) := by decide +kernel
theorem dX9_count0_306 : decode cX9_count0 306 = .ok (.invokevirtual 121, 3) := by decide +kernel
theorem dX9_count0_309 : decode cX9_count0 309 = .ok (.istore 5, 2) := by decide +kernel
theorem dX9_count0_311 : decode cX9_count0 311 = .ok (.ldc2_w 201, 3) := by decide +kernel
theorem dX9_count0_314 : decode cX9_count0 314 = .ok (.aload_n 0, 1) := by decide +kernel
theorem dX9_count0_315 : decode cX9_count0 315 = .ok (.iload_n 1, 1) := by decide +kernel
theorem dX9_count0_316 : decode cX9_count0 316 = .ok (.aload_n 0, 1) := by decide +kernel
theorem dX9_count0_317 : decode cX9_count0 317 = .ok (.iload_n 1, 1) := by decide +kernel
theorem dX9_count0_318 : decode cX9_count0 318 = .ok (.aload_n 0, 1) := by decide +kernel
theorem dX9_count0_319 : decode cX9_count0 319 = .ok (.getfield 13, 3) := by decide +kernel
theorem dX9_count0_322 : decode cX9_count0 322 = .ok (.aload_n 0, 1) := by decide +kernel
theorem dX9_count0_323 : decode cX9_count0 323 = .ok (.iload_n 1, 1) := by decide +kernel
theorem dX9_count0_324 : decode cX9_count0 324 = .ok (.invokevirtual 170, 3) := by decide +kernel
theorem dX9_count0_327 : decode cX9_count0 327 = .ok (.bipush 25, 2) := by decide +kernel
theorem dX9_count0_329 : decode cX9_count0 329 = .ok (.iadd, 1) := by decide +kernel
theorem dX9_count0_330 : decode cX9_count0 330 = .ok (.iaload, 1) := by decide +kernel
theorem dX9_count0_331 : decode cX9_count0 331 = .ok (.invokevirtual 198, 3) := by decide +kernel
theorem dX9_count0_334 : decode cX9_count0 334 = .ok (.invokevirtual 203, 3) := by decide +kernel
theorem dX9_count0_337 : decode cX9_count0 337 = .ok (.ldiv, 1) := by decide +kernel
theorem dX9_count0_338 : decode cX9_count0 338 = .ok (.lstore 6, 2) := by decide +kernel
theorem dX9_count0_340 : decode cX9_count0 340 = .ok (.iload_n 3, 1) := by decide +kernel
theorem dX9_count0_341 : decode cX9_count0 341 = .ok (.istore 8, 2) := by decide +kernel
theorem dX9_count0_343 : decode cX9_count0 343 = .ok (.iload 8, 2) := by decide +kernel
theorem dX9_count0_345 : decode cX9_count0 345 = .ok (.iload 5, 2) := by decide +kernel
theorem dX9_count0_347 : decode cX9_count0 347 = .ok (.if_icmp .ge 36, 3) := by decide +kernel
theorem dX9_count0_350 : decode cX9_count0 350 = .ok (.aload_n 0, 1) := by decide +kernel
theorem dX9_count0_351 : decode cX9_count0 351 = .ok (.dup, 1) := by decide +kernel
theorem dX9_count0_352 : decode cX9_count0 352 = .ok (.getfield 190, 3) := by decide +kernel
theorem dX9_count0_355 : decode cX9_count0 355 = .ok (.aload_n 0, 1) := by decide +kernel
theorem dX9_count0_356 : decode cX9_count0 356 = .ok (.iload_n 2, 1) := by decide +kernel
theorem dX9_count0_357 : decode cX9_count0 357 = .ok (.iload 8, 2) := by decide +kernel
theorem dX9_count0_359 : decode cX9_count0 359 = .ok (.invokevirtual 127, 3) := by decide +kernel
theorem dX9_count0_362 : decode cX9_count0 362 = .ok (.ldc 86, 2) := by decide +kernel
theorem dX9_count0_364 : decode cX9_count0 364 = .ok (.if_icmp .ne 8, 3) := by decide +kernel
theorem dX9_count0_367 : decode cX9_count0 367 = .ok (.lload 6, 2) := by decide +kernel
theorem dX9_count0_369 : decode cX9_count0 369 = .ok (.goto 4, 3) := by decide +kernel
theorem dX9_count0_372 : decode cX9_count0 372 = .ok (.lconst 0, 1) := by decide +kernel
theorem dX9_count0_373 : decode cX9_count0 373 = .ok (.ladd, 1) := by decide +kernel
theorem dX9_count0_374 : decode cX9_count0 374 = .ok (.putfield 190, 3) := by decide +kernel
theorem dX9_count0_377 : decode cX9_count0 377 = .ok (.iinc 8 1, 3) := by decide +kernel
theorem dX9_count0_380 : decode cX9_count0 380 = .ok (.goto (-37), 3) := by decide +kernel
theorem dX9_count0_383 : decode cX9_count0 383 = .ok (.return_, 1) := by decide +kernel
theorem dX9_sum_0 : decode cX9_sum 0 = .ok (.aload_n 0, 1) := by decide +kernel
theorem dX9_sum_1 : decode cX9_sum 1 = .ok (.iload_n 1, 1) := by decide +kernel
theorem dX9_sum_2 : decode cX9_sum 2 = .ok (.invokevirtual 206, 3) := by decide +kernel
theorem dX9_sum_5 : decode cX9_sum 5 = .ok (.iload_n 2, 1) := by decide +kernel
theorem dX9_sum_6 : decode cX9_sum 6 = .ok (.ifCond .ne 7, 3) := by decide +kernel
theorem dX9_sum_9 : decode cX9_sum 9 = .ok (.lconst 0, 1) := by decide +kernel
theorem dX9_sum_10 : decode cX9_sum 10 = .ok (.goto 7, 3) := by decide +kernel
theorem dX9_sum_13 : decode cX9_sum 13 = .ok (.aload_n 0, 1) := by decide +kernel
theorem dX9_sum_14 : decode cX9_sum 14 = .ok (.getfield 190, 3) := by decide +kernel
theorem dX9_sum_17 : decode cX9_sum 17 = .ok (.lstore_n 3, 1) := by decide +kernel
theorem dX9_sum_18 : decode cX9_sum 18 = .ok (.iconst 0, 1) := by decide +kernel
theorem dX9_sum_19 : decode cX9_sum 19 = .ok (.istore 5, 2) := by decide +kernel
theorem dX9_sum_21 : decode cX9_sum 21 = .ok (.iload 5, 2) := by decide +kernel
theorem dX9_sum_23 : decode cX9_sum 23 = .ok (.bipush 7, 2) := by decide +kernel
theorem dX9_sum_25 : decode cX9_sum 25 = .ok (.if_icmp .ge 19, 3) := by decide +kernel
theorem dX9_sum_28 : decode cX9_sum 28 = .ok (.lload_n 3, 1) := by decide +kernel
theorem dX9_sum_29 : decode cX9_sum 29 = .ok (.aload_n 0, 1) := by decide +kernel
theorem dX9_sum_30 : decode cX9_sum 30 = .ok (.getfield 52, 3) := by decide +kernel
theorem dX9_sum_33 : decode cX9_sum 33 = .ok (.iload 5, 2) := by decide +kernel
theorem dX9_sum_35 : decode cX9_sum 35 = .ok (.laload, 1) := by decide +kernel
theorem dX9_sum_36 : decode cX9_sum 36 = .ok (.ladd, 1) := by decide +kernel
theorem dX9_sum_37 : decode cX9_sum 37 = .ok (.lstore_n 3, 1) := by decide +kernel
theorem dX9_sum_38 : decode cX9_sum 38 = .ok (.iinc 5 1, 3) := by decide +kernel
theorem dX9_sum_41 : decode cX9_sum 41 = .ok (.goto (-20), 3) := by decide +kernel
theorem dX9_sum_44 : decode cX9_sum 44 = .ok (.lload_n 3, 1) := by decide +kernel
theorem dX9_sum_45 : decode cX9_sum 45 = .ok (.lreturn, 1) := by decide +kernel
theorem dX9_damage_0 : decode cX9_damage 0 = .ok (.aload_n 0, 1) := by decide +kernel
theorem dX9_damage_1 : decode cX9_damage 1 = .ok (.iload_n 1, 1) := by decide +kernel
theorem dX9_damage_2 : decode cX9_damage 2 = .ok (.invokestatic 71, 3) := by decide +kernel
theorem dX9_damage_5 : decode cX9_damage 5 = .ok (.ifCond .ne 21, 3) := by decide +kernel
theorem dX9_damage_8 : decode cX9_damage 8 = .ok (.iload_n 2, 1) := by decide +kernel
theorem dX9_damage_9 : decode cX9_damage 9 = .ok (.ifCond .lt 17, 3) := by decide +kernel
theorem dX9_damage_12 : decode cX9_damage 12 = .ok (.iload_n 2, 1) := by decide +kernel
theorem dX9_damage_13 : decode cX9_damage 13 = .ok (.iconst 1, 1) := by decide +kernel
theorem dX9_damage_14 : decode cX9_damage 14 = .ok (.if_icmp .gt 12, 3) := by decide +kernel
theorem dX9_damage_17 : decode cX9_damage 17 = .ok (.iload_n 3, 1) := by decide +kernel
theorem dX9_damage_18 : decode cX9_damage 18 = .ok (.ifCond .lt 8, 3) := by decide +kernel
theorem dX9_damage_21 : decode cX9_damage 21 = .ok (.iload_n 3, 1) := by decide +kernel
theorem dX9_damage_22 : decode cX9_damage 22 = .ok (.iconst 2, 1) := by decide +kernel
theorem dX9_damage_23 : decode cX9_damage 23 = .ok (.if_icmp .le 7, 3) := by decide +kernel
theorem dX9_damage_26 : decode cX9_damage 26 = .ok (.iconst 1, 1) := by decide +kernel
theorem dX9_damage_27 : decode cX9_damage 27 = .ok (.goto 4, 3) := by decide +kernel
theorem dX9_damage_30 : decode cX9_damage 30 = .ok (.iconst 0, 1) := by decide +kernel
theorem dX9_damage_31 : decode cX9_damage 31 = .ok (.invokevirtual 160, 3) := by decide +kernel
theorem dX9_damage_34 : decode cX9_damage 34 = .ok (.ifCond .eq 5, 3) := by decide +kernel
theorem dX9_damage_37 : decode cX9_damage 37 = .ok (.lconst 0, 1) := by decide +kernel
theorem dX9_damage_38 : decode cX9_damage 38 = .ok (.lreturn, 1) := by decide +kernel
theorem dX9_damage_39 : decode cX9_damage 39 = .ok (.aload_n 0, 1) := by decide +kernel
theorem dX9_damage_40 : decode cX9_damage 40 = .ok (.iload_n 1, 1) := by decide +kernel
theorem dX9_damage_41 : decode cX9_damage 41 = .ok (.iload_n 2, 1) := by decide +kernel
theorem dX9_damage_42 : decode cX9_damage 42 = .ok (.invokevirtual 209, 3) := by decide +kernel
theorem dX9_damage_45 : decode cX9_damage 45 = .ok (.lstore 4, 2) := by decide +kernel
theorem dX9_damage_47 : decode cX9_damage 47 = .ok (.iload_n 3, 1) := by decide +kernel
theorem dX9_damage_48 : decode cX9_damage 48 = .ok (.iconst 2, 1) := by decide +kernel
theorem dX9_damage_49 : decode cX9_damage 49 = .ok (.if_icmp .ne 18, 3) := by decide +kernel
theorem dX9_damage_52 : decode cX9_damage 52 = .ok (.lload 4, 2) := by decide +kernel
theorem dX9_damage_54 : decode cX9_damage 54 = .ok (.ldc2_w 201, 3) := by decide +kernel
theorem dX9_damage_57 : decode cX9_damage 57 = .ok (.lcmp, 1) := by decide +kernel
theorem dX9_damage_58 : decode cX9_damage 58 = .ok (.ifCond .lt 7, 3) := by decide +kernel
theorem dX9_damage_61 : decode cX9_damage 61 = .ok (.lconst 1, 1) := by decide +kernel
theorem dX9_damage_62 : decode cX9_damage 62 = .ok (.goto 4, 3) := by decide +kernel
theorem dX9_damage_65 : decode cX9_damage 65 = .ok (.lconst 0, 1) := by decide +kernel
theorem dX9_damage_66 : decode cX9_damage 66 = .ok (.lreturn, 1) := by decide +kernel
theorem dX9_damage_67 : decode cX9_damage 67 = .ok (.lload 4, 2) := by decide +kernel
theorem dX9_damage_69 : decode cX9_damage 69 = .ok (.lstore 6, 2) := by decide +kernel
theorem dX9_damage_71 : decode cX9_damage 71 = .ok (.ldc2_w 201, 3) := by decide +kernel
theorem dX9_damage_74 : decode cX9_damage 74 = .ok (.lstore 8, 2) := by decide +kernel
theorem dX9_damage_76 : decode cX9_damage 76 = .ok (.lload 6, 2) := by decide +kernel
theorem dX9_damage_78 : decode cX9_damage 78 = .ok (.lconst 0, 1) := by decide +kernel
theorem dX9_damage_79 : decode cX9_damage 79 = .ok (.lcmp, 1) := by decide +kernel
theorem dX9_damage_80 : decode cX9_damage 80 = .ok (.ifCond .eq 21, 3) := by decide +kernel
theorem dX9_damage_83 : decode cX9_damage 83 = .ok (.lload 8, 2) := by decide +kernel
theorem dX9_damage_85 : decode cX9_damage 85 = .ok (.lload 6, 2) := by decide +kernel
theorem dX9_damage_87 : decode cX9_damage 87 = .ok (.lrem, 1) := by decide +kernel
theorem dX9_damage_88 : decode cX9_damage 88 = .ok (.lstore 10, 2) := by decide +kernel
theorem dX9_damage_90 : decode cX9_damage 90 = .ok (.lload 6, 2) := by decide +kernel
theorem dX9_damage_92 : decode cX9_damage 92 = .ok (.lstore 8, 2) := by decide +kernel
theorem dX9_damage_94 : decode cX9_damage 94 = .ok (.lload 10, 2) := by decide +kernel
theorem dX9_damage_96 : decode cX9_damage 96 = .ok (.lstore 6, 2) := by decide +kernel
theorem dX9_damage_98 : decode cX9_damage 98 = .ok (.goto (-22), 3) := by decide +kernel
theorem dX9_damage_101 : decode cX9_damage 101 = .ok (.iload_n 3, 1) := by decide +kernel
theorem dX9_damage_102 : decode cX9_damage 102 = .ok (.ifCond .ne 8, 3) := by decide +kernel
theorem dX9_damage_105 : decode cX9_damage 105 = .ok (.lload 4, 2) := by decide +kernel
theorem dX9_damage_107 : decode cX9_damage 107 = .ok (.goto 6, 3) := by decide +kernel
theorem dX9_damage_110 : decode cX9_damage 110 = .ok (.ldc2_w 201, 3) := by decide +kernel
theorem dX9_damage_113 : decode cX9_damage 113 = .ok (.lload 8, 2) := by decide +kernel
theorem dX9_damage_115 : decode cX9_damage 115 = .ok (.ldiv, 1) := by decide +kernel
theorem dX9_damage_116 : decode cX9_damage 116 = .ok (.lreturn, 1) := by decide +kernel
theorem dX9_part_0 : decode cX9_part 0 = .ok (.aload_n 0, 1) := by decide +kernel
theorem dX9_part_1 : decode cX9_part 1 = .ok (.iload_n 1, 1) := by decide +kernel
theorem dX9_part_2 : decode cX9_part 2 = .ok (.invokestatic 71, 3) := by decide +kernel
theorem dX9_part_5 : decode cX9_part 5 = .ok (.ifCond .ne 35, 3) := by decide +kernel
theorem dX9_part_8 : decode cX9_part 8 = .ok (.iload_n 2, 1) := by decide +kernel
theorem dX9_part_9 : decode cX9_part 9 = .ok (.ifCond .lt 31, 3) := by decide +kernel
theorem dX9_part_12 : decode cX9_part 12 = .ok (.iload_n 2, 1) := by decide +kernel
theorem dX9_part_13 : decode cX9_part 13 = .ok (.bipush 6, 2) := by decide +kernel
theorem dX9_part_15 : decode cX9_part 15 = .ok (.if_icmp .gt 25, 3) := by decide +kernel
theorem dX9_part_18 : decode cX9_part 18 = .ok (.iload_n 2, 1) := by decide +kernel
theorem dX9_part_19 : decode cX9_part 19 = .ok (.bipush 6, 2) := by decide +kernel
theorem dX9_part_21 : decode cX9_part 21 = .ok (.if_icmp .ge 23, 3) := by decide +kernel
theorem dX9_part_24 : decode cX9_part 24 = .ok (.iload_n 2, 1) := by decide +kernel
theorem dX9_part_25 : decode cX9_part 25 = .ok (.aload_n 0, 1) := by decide +kernel
theorem dX9_part_26 : decode cX9_part 26 = .ok (.getfield 13, 3) := by decide +kernel
theorem dX9_part_29 : decode cX9_part 29 = .ok (.aload_n 0, 1) := by decide +kernel
theorem dX9_part_30 : decode cX9_part 30 = .ok (.iload_n 1, 1) := by decide +kernel
theorem dX9_part_31 : decode cX9_part 31 = .ok (.invokevirtual 170, 3) := by decide +kernel
theorem dX9_part_34 : decode cX9_part 34 = .ok (.iconst 2, 1) := by decide +kernel
theorem dX9_part_35 : decode cX9_part 35 = .ok (.iadd, 1) := by decide +kernel
theorem dX9_part_36 : decode cX9_part 36 = .ok (.iaload, 1) := by decide +kernel
theorem dX9_part_37 : decode cX9_part 37 = .ok (.if_icmp .lt 7, 3) := by decide +kernel
theorem dX9_part_40 : decode cX9_part 40 = .ok (.iconst 1, 1) := by decide +kernel
theorem dX9_part_41 : decode cX9_part 41 = .ok (.goto 4, 3) := by decide +kernel
theorem dX9_part_44 : decode cX9_part 44 = .ok (.iconst 0, 1) := by decide +kernel
theorem dX9_part_45 : decode cX9_part 45 = .ok (.invokevirtual 160, 3) := by decide +kernel
theorem dX9_part_48 : decode cX9_part 48 = .ok (.ifCond .eq 5, 3) := by decide +kernel
theorem dX9_part_51 : decode cX9_part 51 = .ok (.lconst 0, 1) := by decide +kernel
theorem dX9_part_52 : decode cX9_part 52 = .ok (.lreturn, 1) := by decide +kernel
theorem dX9_part_53 : decode cX9_part 53 = .ok (.aload_n 0, 1) := by decide +kernel
theorem dX9_part_54 : decode cX9_part 54 = .ok (.iload_n 1, 1) := by decide +kernel
theorem dX9_part_55 : decode cX9_part 55 = .ok (.invokevirtual 206, 3) := by decide +kernel
theorem dX9_part_58 : decode cX9_part 58 = .ok (.aload_n 0, 1) := by decide +kernel
theorem dX9_part_59 : decode cX9_part 59 = .ok (.getfield 52, 3) := by decide +kernel
theorem dX9_part_62 : decode cX9_part 62 = .ok (.iload_n 2, 1) := by decide +kernel
theorem dX9_part_63 : decode cX9_part 63 = .ok (.laload, 1) := by decide +kernel
theorem dX9_part_64 : decode cX9_part 64 = .ok (.lreturn, 1) := by decide +kernel
theorem dX9_parts_0 : decode cX9_parts 0 = .ok (.aload_n 0, 1) := by decide +kernel
theorem dX9_parts_1 : decode cX9_parts 1 = .ok (.iload_n 1, 1) := by decide +kernel
theorem dX9_parts_2 : decode cX9_parts 2 = .ok (.invokestatic 71, 3) := by decide +kernel
theorem dX9_parts_5 : decode cX9_parts 5 = .ok (.invokevirtual 160, 3) := by decide +kernel
theorem dX9_parts_8 : decode cX9_parts 8 = .ok (.ifCond .eq 5, 3) := by decide +kernel
theorem dX9_parts_11 : decode cX9_parts 11 = .ok (.iconst 0, 1) := by decide +kernel
theorem dX9_parts_12 : decode cX9_parts 12 = .ok (.ireturn, 1) := by decide +kernel
theorem dX9_parts_13 : decode cX9_parts 13 = .ok (.aload_n 0, 1) := by decide +kernel
theorem dX9_parts_14 : decode cX9_parts 14 = .ok (.iload_n 1, 1) := by decide +kernel
theorem dX9_parts_15 : decode cX9_parts 15 = .ok (.invokevirtual 206, 3) := by decide +kernel
theorem dX9_parts_18 : decode cX9_parts 18 = .ok (.iconst 0, 1) := by decide +kernel
theorem dX9_parts_19 : decode cX9_parts 19 = .ok (.istore_n 3, 1) := by decide +kernel
theorem dX9_parts_20 : decode cX9_parts 20 = .ok (.iload_n 3, 1) := by decide +kernel
theorem dX9_parts_21 : decode cX9_parts 21 = .ok (.bipush 7, 2) := by decide +kernel
theorem dX9_parts_23 : decode cX9_parts 23 = .ok (.if_icmp .ge 97, 3) := by decide +kernel
theorem dX9_parts_26 : decode cX9_parts 26 = .ok (.iconst 0, 1) := by decide +kernel
theorem dX9_parts_27 : decode cX9_parts 27 = .ok (.istore 4, 2) := by decide +kernel
theorem dX9_parts_29 : decode cX9_parts 29 = .ok (.iconst 0, 1) := by decide +kernel
theorem dX9_parts_30 : decode cX9_parts 30 = .ok (.istore 5, 2) := by decide +kernel
theorem dX9_parts_32 : decode cX9_parts 32 = .ok (.iload 5, 2) := by decide +kernel
theorem dX9_parts_34 : decode cX9_parts 34 = .ok (.bipush 7, 2) := by decide +kernel
theorem dX9_parts_36 : decode cX9_parts 36 = .ok (.if_icmp .ge 59, 3) := by decide +kernel
theorem dX9_parts_39 : decode cX9_parts 39 = .ok (.iload 4, 2) := by decide +kernel
theorem dX9_parts_41 : decode cX9_parts 41 = .ok (.aload_n 0, 1) := by decide +kernel
theorem dX9_parts_42 : decode cX9_parts 42 = .ok (.getfield 52, 3) := by decide +kernel
theorem dX9_parts_45 : decode cX9_parts 45 = .ok (.iload 5, 2) := by decide +kernel
theorem dX9_parts_47 : decode cX9_parts 47 = .ok (.laload, 1) := by decide +kernel
theorem dX9_parts_48 : decode cX9_parts 48 = .ok (.aload_n 0, 1) := by decide +kernel
theorem dX9_parts_49 : decode cX9_parts 49 = .ok (.getfield 52, 3) := by decide +kernel
theorem dX9_parts_52 : decode cX9_parts 52 = .ok (.iload_n 3, 1) := by decide +kernel
theorem dX9_parts_53 : decode cX9_parts 53 = .ok (.laload, 1) := by decide +kernel
theorem dX9_parts_54 : decode cX9_parts 54 = .ok (.lcmp, 1) := by decide +kernel
theorem dX9_parts_55 : decode cX9_parts 55 = .ok (.ifCond .gt 26, 3) := by decide +kernel
theorem dX9_parts_58 : decode cX9_parts 58 = .ok (.aload_n 0, 1) := by decide +kernel
theorem dX9_parts_59 : decode cX9_parts 59 = .ok (.getfield 52, 3) := by decide +kernel
theorem dX9_parts_62 : decode cX9_parts 62 = .ok (.iload 5, 2) := by decide +kernel
theorem dX9_parts_64 : decode cX9_parts 64 = .ok (.laload, 1) := by decide +kernel
theorem dX9_parts_65 : decode cX9_parts 65 = .ok (.aload_n 0, 1) := by decide +kernel
theorem dX9_parts_66 : decode cX9_parts 66 = .ok (.getfield 52, 3) := by decide +kernel
theorem dX9_parts_69 : decode cX9_parts 69 = .ok (.iload_n 3, 1) := by decide +kernel
theorem dX9_parts_70 : decode cX9_parts 70 = .ok (.laload, 1) := by decide +kernel
theorem dX9_parts_71 : decode cX9_parts 71 = .ok (.lcmp, 1) := by decide +kernel
theorem dX9_parts_72 : decode cX9_parts 72 = .ok (.ifCond .ne 13, 3) := by decide +kernel
theorem dX9_parts_75 : decode cX9_parts 75 = .ok (.iload 5, 2) := by decide +kernel
theorem dX9_parts_77 : decode cX9_parts 77 = .ok (.iload_n 3, 1) := by decide +kernel
theorem dX9_parts_78 : decode cX9_parts 78 = .ok (.if_icmp .ge 7, 3) := by decide +kernel
theorem dX9_parts_81 : decode cX9_parts 81 = .ok (.iconst 1, 1) := by decide +kernel
theorem dX9_parts_82 : decode cX9_parts 82 = .ok (.goto 4, 3) := by decide +kernel
theorem dX9_parts_85 : decode cX9_parts 85 = .ok (.iconst 0, 1) := by decide +kernel
theorem dX9_parts_86 : decode cX9_parts 86 = .ok (.iadd, 1) := by decide +kernel
theorem dX9_parts_87 : decode cX9_parts 87 = .ok (.istore 4, 2) := by decide +kernel
theorem dX9_parts_89 : decode cX9_parts 89 = .ok (.iinc 5 1, 3) := by decide +kernel
theorem dX9_parts_92 : decode cX9_parts 92 = .ok (.goto (-60), 3) := by decide +kernel
theorem dX9_parts_95 : decode cX9_parts 95 = .ok (.iload 4, 2) := by decide +kernel
theorem dX9_parts_97 : decode cX9_parts 97 = .ok (.iload_n 2, 1) := by decide +kernel
theorem dX9_parts_98 : decode cX9_parts 98 = .ok (.if_icmp .ne 16, 3) := by decide +kernel
theorem dX9_parts_101 : decode cX9_parts 101 = .ok (.aload_n 0, 1) := by decide +kernel
theorem dX9_parts_102 : decode cX9_parts 102 = .ok (.getfield 52, 3) := by decide +kernel
theorem dX9_parts_105 : decode cX9_parts 105 = .ok (.iload_n 3, 1) := by decide +kernel
theorem dX9_parts_106 : decode cX9_parts 106 = .ok (.laload, 1) := by decide +kernel
theorem dX9_parts_107 : decode cX9_parts 107 = .ok (.lconst 0, 1) := by decide +kernel
theorem dX9_parts_108 : decode cX9_parts 108 = .ok (.lcmp, 1) := by decide +kernel
theorem dX9_parts_109 : decode cX9_parts 109 = .ok (.ifCond .le 5, 3) := by decide +kernel
theorem dX9_parts_112 : decode cX9_parts 112 = .ok (.iload_n 3, 1) := by decide +kernel
theorem dX9_parts_113 : decode cX9_parts 113 = .ok (.ireturn, 1) := by decide +kernel
theorem dX9_parts_114 : decode cX9_parts 114 = .ok (.iinc 3 1, 3) := by decide +kernel
theorem dX9_parts_117 : decode cX9_parts 117 = .ok (.goto (-97), 3) := by decide +kernel
theorem dX9_parts_120 : decode cX9_parts 120 = .ok (.iconst (-1), 1) := by decide +kernel
theorem dX9_parts_121 : decode cX9_parts 121 = .ok (.ireturn, 1) := by decide +kernel
theorem dX9_left_0 : decode cX9_left 0 = .ok (.aload_n 0, 1) := by decide +kernel
theorem dX9_left_1 : decode cX9_left 1 = .ok (.iconst 0, 1) := by decide +kernel
theorem dX9_left_2 : decode cX9_left 2 = .ok (.putfield 1, 3) := by decide +kernel
theorem dX9_left_5 : decode cX9_left 5 = .ok (.iload_n 1, 1) := by decide +kernel
theorem dX9_left_6 : decode cX9_left 6 = .ok (.invokestatic 71, 3) := by decide +kernel
theorem dX9_left_9 : decode cX9_left 9 = .ok (.ifCond .ne 14, 3) := by decide +kernel
theorem dX9_left_12 : decode cX9_left 12 = .ok (.iload_n 2, 1) := by decide +kernel
theorem dX9_left_13 : decode cX9_left 13 = .ok (.iconst 1, 1) := by decide +kernel
theorem dX9_left_14 : decode cX9_left 14 = .ok (.if_icmp .lt 9, 3) := by decide +kernel
theorem dX9_left_17 : decode cX9_left 17 = .ok (.iload_n 2, 1) := by decide +kernel
theorem dX9_left_18 : decode cX9_left 18 = .ok (.ldc 75, 2) := by decide +kernel
theorem dX9_left_20 : decode cX9_left 20 = .ok (.if_icmp .le 5, 3) := by decide +kernel
theorem dX9_left_23 : decode cX9_left 23 = .ok (.iconst (-1), 1) := by decide +kernel
theorem dX9_left_24 : decode cX9_left 24 = .ok (.ireturn, 1) := by decide +kernel
theorem dX9_left_25 : decode cX9_left 25 = .ok (.aload_n 0, 1) := by decide +kernel
theorem dX9_left_26 : decode cX9_left 26 = .ok (.iload_n 1, 1) := by decide +kernel
theorem dX9_left_27 : decode cX9_left 27 = .ok (.iconst 0, 1) := by decide +kernel
theorem dX9_left_28 : decode cX9_left 28 = .ok (.invokevirtual 209, 3) := by decide +kernel
theorem dX9_left_31 : decode cX9_left 31 = .ok (.lstore_n 3, 1) := by decide +kernel
theorem dX9_left_32 : decode cX9_left 32 = .ok (.lload_n 3, 1) := by decide +kernel
theorem dX9_left_33 : decode cX9_left 33 = .ok (.lconst 0, 1) := by decide +kernel
theorem dX9_left_34 : decode cX9_left 34 = .ok (.lcmp, 1) := by decide +kernel
theorem dX9_left_35 : decode cX9_left 35 = .ok (.ifCond .ne 5, 3) := by decide +kernel
theorem dX9_left_38 : decode cX9_left 38 = .ok (.iconst (-1), 1) := by decide +kernel
theorem dX9_left_39 : decode cX9_left 39 = .ok (.ireturn, 1) := by decide +kernel
theorem dX9_left_40 : decode cX9_left 40 = .ok (.ldc2_w 201, 3) := by decide +kernel
theorem dX9_left_43 : decode cX9_left 43 = .ok (.iload_n 2, 1) := by decide +kernel
theorem dX9_left_44 : decode cX9_left 44 = .ok (.i2l, 1) := by decide +kernel
theorem dX9_left_45 : decode cX9_left 45 = .ok (.lmul, 1) := by decide +kernel
theorem dX9_left_46 : decode cX9_left 46 = .ok (.lload_n 3, 1) := by decide +kernel
theorem dX9_left_47 : decode cX9_left 47 = .ok (.ladd, 1) := by decide +kernel
theorem dX9_left_48 : decode cX9_left 48 = .ok (.lconst 1, 1) := by decide +kernel
theorem dX9_left_49 : decode cX9_left 49 = .ok (.lsub, 1) := by decide +kernel
theorem dX9_left_50 : decode cX9_left 50 = .ok (.lload_n 3, 1) := by decide +kernel
theorem dX9_left_51 : decode cX9_left 51 = .ok (.ldiv, 1) := by decide +kernel
theorem dX9_left_52 : decode cX9_left 52 = .ok (.iload_n 2, 1) := by decide +kernel
theorem dX9_left_53 : decode cX9_left 53 = .ok (.i2l, 1) := by decide +kernel
theorem dX9_left_54 : decode cX9_left 54 = .ok (.lsub, 1) := by decide +kernel
theorem dX9_left_55 : decode cX9_left 55 = .ok (.lstore 5, 2) := by decide +kernel
theorem dX9_left_57 : decode cX9_left 57 = .ok (.lload 5, 2) := by decide +kernel
theorem dX9_left_59 : decode cX9_left 59 = .ok (.lconst 0, 1) := by decide +kernel
theorem dX9_left_60 : decode cX9_left 60 = .ok (.lcmp, 1) := by decide +kernel
theorem dX9_left_61 : decode cX9_left 61 = .ok (.ifCond .ge 7, 3) := by decide +kernel
theorem dX9_left_64 : decode cX9_left 64 = .ok (.iconst 0, 1) := by decide +kernel
theorem dX9_left_65 : decode cX9_left 65 = .ok (.goto 20, 3) := by decide +kernel
theorem dX9_left_68 : decode cX9_left 68 = .ok (.lload 5, 2) := by decide +kernel
theorem dX9_left_70 : decode cX9_left 70 = .ok (.ldc2_w 212, 3) := by decide +kernel
theorem dX9_left_73 : decode cX9_left 73 = .ok (.lcmp, 1) := by decide +kernel
theorem dX9_left_74 : decode cX9_left 74 = .ok (.ifCond .le 8, 3) := by decide +kernel
theorem dX9_left_77 : decode cX9_left 77 = .ok (.ldc 214, 2) := by decide +kernel
theorem dX9_left_79 : decode cX9_left 79 = .ok (.goto 6, 3) := by decide +kernel
theorem dX9_left_82 : decode cX9_left 82 = .ok (.lload 5, 2) := by decide +kernel
theorem dX9_left_84 : decode cX9_left 84 = .ok (.l2i, 1) := by decide +kernel
theorem dX9_left_85 : decode cX9_left 85 = .ok (.ireturn, 1) := by decide +kernel
theorem dX9_grown_0 : decode cX9_grown 0 = .ok (.aload_n 0, 1) := by decide +kernel
theorem dX9_grown_1 : decode cX9_grown 1 = .ok (.iload_n 1, 1) := by decide +kernel
theorem dX9_grown_2 : decode cX9_grown 2 = .ok (.invokevirtual 170, 3) := by decide +kernel
theorem dX9_grown_5 : decode cX9_grown 5 = .ok (.bipush 28, 2) := by decide +kernel
theorem dX9_grown_7 : decode cX9_grown 7 = .ok (.iadd, 1) := by decide +kernel
theorem dX9_grown_8 : decode cX9_grown 8 = .ok (.istore_n 3, 1) := by decide +kernel
theorem dX9_grown_9 : decode cX9_grown 9 = .ok (.aload_n 0, 1) := by decide +kernel
theorem dX9_grown_10 : decode cX9_grown 10 = .ok (.getfield 13, 3) := by decide +kernel
theorem dX9_grown_13 : decode cX9_grown 13 = .ok (.iload_n 3, 1) := by decide +kernel
theorem dX9_grown_14 : decode cX9_grown 14 = .ok (.iaload, 1) := by decide +kernel
theorem dX9_grown_15 : decode cX9_grown 15 = .ok (.istore 4, 2) := by decide +kernel
theorem dX9_grown_17 : decode cX9_grown 17 = .ok (.iload 4, 2) := by decide +kernel
theorem dX9_grown_19 : decode cX9_grown 19 = .ok (.ifCond .ne 5, 3) := by decide +kernel
theorem dX9_grown_22 : decode cX9_grown 22 = .ok (.iload_n 2, 1) := by decide +kernel
theorem dX9_grown_23 : decode cX9_grown 23 = .ok (.ireturn, 1) := by decide +kernel
theorem dX9_grown_24 : decode cX9_grown 24 = .ok (.aload_n 0, 1) := by decide +kernel
theorem dX9_grown_25 : decode cX9_grown 25 = .ok (.getfield 13, 3) := by decide +kernel
theorem dX9_grown_28 : decode cX9_grown 28 = .ok (.iload_n 3, 1) := by decide +kernel
theorem dX9_grown_29 : decode cX9_grown 29 = .ok (.iconst 2, 1) := by decide +kernel
theorem dX9_grown_30 : decode cX9_grown 30 = .ok (.iload 4, 2) := by decide +kernel
theorem dX9_grown_32 : decode cX9_grown 32 = .ok (.imul, 1) := by decide +kernel
theorem dX9_grown_33 : decode cX9_grown 33 = .ok (.iadd, 1) := by decide +kernel
theorem dX9_grown_34 : decode cX9_grown 34 = .ok (.iaload, 1) := by decide +kernel
theorem dX9_grown_35 : decode cX9_grown 35 = .ok (.istore 5, 2) := by decide +kernel
theorem dX9_grown_37 : decode cX9_grown 37 = .ok (.iload 4, 2) := by decide +kernel
theorem dX9_grown_39 : decode cX9_grown 39 = .ok (.iconst 1, 1) := by decide +kernel
theorem dX9_grown_40 : decode cX9_grown 40 = .ok (.isub, 1) := by decide +kernel
theorem dX9_grown_41 : decode cX9_grown 41 = .ok (.istore 6, 2) := by decide +kernel
theorem dX9_grown_43 : decode cX9_grown 43 = .ok (.iload 6, 2) := by decide +kernel
theorem dX9_grown_45 : decode cX9_grown 45 = .ok (.ifCond .lt 41, 3) := by decide +kernel
theorem dX9_grown_48 : decode cX9_grown 48 = .ok (.aload_n 0, 1) := by decide +kernel
theorem dX9_grown_49 : decode cX9_grown 49 = .ok (.getfield 13, 3) := by decide +kernel
theorem dX9_grown_52 : decode cX9_grown 52 = .ok (.iload_n 3, 1) := by decide +kernel
theorem dX9_grown_53 : decode cX9_grown 53 = .ok (.iconst 1, 1) := by decide +kernel
theorem dX9_grown_54 : decode cX9_grown 54 = .ok (.iadd, 1) := by decide +kernel
theorem dX9_grown_55 : decode cX9_grown 55 = .ok (.iconst 2, 1) := by decide +kernel
theorem dX9_grown_56 : decode cX9_grown 56 = .ok (.iload 6, 2) := by decide +kernel
theorem dX9_grown_58 : decode cX9_grown 58 = .ok (.imul, 1) := by decide +kernel
theorem dX9_grown_59 : decode cX9_grown 59 = .ok (.iadd, 1) := by decide +kernel
theorem dX9_grown_60 : decode cX9_grown 60 = .ok (.iaload, 1) := by decide +kernel
theorem dX9_grown_61 : decode cX9_grown 61 = .ok (.iload_n 2, 1) := by decide +kernel
theorem dX9_grown_62 : decode cX9_grown 62 = .ok (.if_icmp .lt 18, 3) := by decide +kernel
theorem dX9_grown_65 : decode cX9_grown 65 = .ok (.aload_n 0, 1) := by decide +kernel
theorem dX9_grown_66 : decode cX9_grown 66 = .ok (.getfield 13, 3) := by decide +kernel
theorem dX9_grown_69 : decode cX9_grown 69 = .ok (.iload_n 3, 1) := by decide +kernel
theorem dX9_grown_70 : decode cX9_grown 70 = .ok (.iconst 2, 1) := by decide +kernel
theorem dX9_grown_71 : decode cX9_grown 71 = .ok (.iadd, 1) := by decide +kernel
theorem dX9_grown_72 : decode cX9_grown 72 = .ok (.iconst 2, 1) := by decide +kernel
theorem dX9_grown_73 : decode cX9_grown 73 = .ok (.iload 6, 2) := by decide +kernel
theorem dX9_grown_75 : decode cX9_grown 75 = .ok (.imul, 1) := by decide +kernel
theorem dX9_grown_76 : decode cX9_grown 76 = .ok (.iadd, 1) := by decide +kernel
theorem dX9_grown_77 : decode cX9_grown 77 = .ok (.iaload, 1) := by decide +kernel
theorem dX9_grown_78 : decode cX9_grown 78 = .ok (.istore 5, 2) := by decide +kernel
theorem dX9_grown_80 : decode cX9_grown 80 = .ok (.iinc 6 (-1), 3) := by decide +kernel
theorem dX9_grown_83 : decode cX9_grown 83 = .ok (.goto (-40), 3) := by decide +kernel
theorem dX9_grown_86 : decode cX9_grown 86 = .ok (.iload_n 2, 1) := by decide +kernel
theorem dX9_grown_87 : decode cX9_grown 87 = .ok (.iload 5, 2) := by decide +kernel
theorem dX9_grown_89 : decode cX9_grown 89 = .ok (.iadd, 1) := by decide +kernel
theorem dX9_grown_90 : decode cX9_grown 90 = .ok (.ldc 215, 2) := by decide +kernel
theorem dX9_grown_92 : decode cX9_grown 92 = .ok (.if_icmp .le 8, 3) := by decide +kernel
theorem dX9_grown_95 : decode cX9_grown 95 = .ok (.ldc 215, 2) := by decide +kernel
theorem dX9_grown_97 : decode cX9_grown 97 = .ok (.goto 7, 3) := by decide +kernel
theorem dX9_grown_100 : decode cX9_grown 100 = .ok (.iload_n 2, 1) := by decide +kernel
theorem dX9_grown_101 : decode cX9_grown 101 = .ok (.iload 5, 2) := by decide +kernel
theorem dX9_grown_103 : decode cX9_grown 103 = .ok (.iadd, 1) := by decide +kernel
theorem dX9_grown_104 : decode cX9_grown 104 = .ok (.ireturn, 1) := by decide +kernel
theorem dX9_lengthOf_0 : decode cX9_lengthOf 0 = .ok (.aload_n 0, 1) := by decide +kernel
theorem dX9_lengthOf_1 : decode cX9_lengthOf 1 = .ok (.getfield 13, 3) := by decide +kernel
theorem dX9_lengthOf_4 : decode cX9_lengthOf 4 = .ok (.aload_n 0, 1) := by decide +kernel
theorem dX9_lengthOf_5 : decode cX9_lengthOf 5 = .ok (.iload_n 1, 1) := by decide +kernel
theorem dX9_lengthOf_6 : decode cX9_lengthOf 6 = .ok (.invokevirtual 170, 3) := by decide +kernel
theorem dX9_lengthOf_9 : decode cX9_lengthOf 9 = .ok (.bipush 26, 2) := by decide +kernel
theorem dX9_lengthOf_11 : decode cX9_lengthOf 11 = .ok (.iadd, 1) := by decide +kernel
theorem dX9_lengthOf_12 : decode cX9_lengthOf 12 = .ok (.iaload, 1) := by decide +kernel
theorem dX9_lengthOf_13 : decode cX9_lengthOf 13 = .ok (.istore_n 2, 1) := by decide +kernel
theorem dX9_lengthOf_14 : decode cX9_lengthOf 14 = .ok (.aload_n 0, 1) := by decide +kernel
theorem dX9_lengthOf_15 : decode cX9_lengthOf 15 = .ok (.getfield 13, 3) := by decide +kernel
theorem dX9_lengthOf_18 : decode cX9_lengthOf 18 = .ok (.aload_n 0, 1) := by decide +kernel
theorem dX9_lengthOf_19 : decode cX9_lengthOf 19 = .ok (.iload_n 1, 1) := by decide +kernel
theorem dX9_lengthOf_20 : decode cX9_lengthOf 20 = .ok (.invokevirtual 170, 3) := by decide +kernel
theorem dX9_lengthOf_23 : decode cX9_lengthOf 23 = .ok (.iconst 0, 1) := by decide +kernel
theorem dX9_lengthOf_24 : decode cX9_lengthOf 24 = .ok (.iadd, 1) := by decide +kernel
theorem dX9_lengthOf_25 : decode cX9_lengthOf 25 = .ok (.iaload, 1) := by decide +kernel
theorem dX9_lengthOf_26 : decode cX9_lengthOf 26 = .ok (.istore_n 3, 1) := by decide +kernel
theorem dX9_lengthOf_27 : decode cX9_lengthOf 27 = .ok (.iload_n 2, 1) := by decide +kernel
theorem dX9_lengthOf_28 : decode cX9_lengthOf 28 = .ok (.ifCond .lt 11, 3) := by decide +kernel
theorem dX9_lengthOf_31 : decode cX9_lengthOf 31 = .ok (.aload_n 0, 1) := by decide +kernel
theorem dX9_lengthOf_32 : decode cX9_lengthOf 32 = .ok (.iload_n 3, 1) := by decide +kernel
theorem dX9_lengthOf_33 : decode cX9_lengthOf 33 = .ok (.invokevirtual 154, 3) := by decide +kernel
theorem dX9_lengthOf_36 : decode cX9_lengthOf 36 = .ok (.ifCond .ne 5, 3) := by decide +kernel
theorem dX9_lengthOf_39 : decode cX9_lengthOf 39 = .ok (.iload_n 2, 1) := by decide +kernel
theorem dX9_lengthOf_40 : decode cX9_lengthOf 40 = .ok (.ireturn, 1) := by decide +kernel
theorem dX9_lengthOf_41 : decode cX9_lengthOf 41 = .ok (.aload_n 0, 1) := by decide +kernel
theorem dX9_lengthOf_42 : decode cX9_lengthOf 42 = .ok (.iload_n 3, 1) := by decide +kernel
theorem dX9_lengthOf_43 : decode cX9_lengthOf 43 = .ok (.aload_n 0, 1) := by decide +kernel
theorem dX9_lengthOf_44 : decode cX9_lengthOf 44 = .ok (.getfield 13, 3) := by decide +kernel
theorem dX9_lengthOf_47 : decode cX9_lengthOf 47 = .ok (.aload_n 0, 1) := by decide +kernel
theorem dX9_lengthOf_48 : decode cX9_lengthOf 48 = .ok (.iload_n 1, 1) := by decide +kernel
theorem dX9_lengthOf_49 : decode cX9_lengthOf 49 = .ok (.invokevirtual 170, 3) := by decide +kernel
theorem dX9_lengthOf_52 : decode cX9_lengthOf 52 = .ok (.iconst 1, 1) := by decide +kernel
theorem dX9_lengthOf_53 : decode cX9_lengthOf 53 = .ok (.iadd, 1) := by decide +kernel
theorem dX9_lengthOf_54 : decode cX9_lengthOf 54 = .ok (.iaload, 1) := by decide +kernel
theorem dX9_lengthOf_55 : decode cX9_lengthOf 55 = .ok (.invokevirtual 157, 3) := by decide +kernel
theorem dX9_lengthOf_58 : decode cX9_lengthOf 58 = .ok (.iconst 0, 1) := by decide +kernel
theorem dX9_lengthOf_59 : decode cX9_lengthOf 59 = .ok (.istore 4, 2) := by decide +kernel
theorem dX9_lengthOf_61 : decode cX9_lengthOf 61 = .ok (.iload 4, 2) := by decide +kernel
theorem dX9_lengthOf_63 : decode cX9_lengthOf 63 = .ok (.aload_n 0, 1) := by decide +kernel
theorem dX9_lengthOf_64 : decode cX9_lengthOf 64 = .ok (.getfield 141, 3) := by decide +kernel
theorem dX9_lengthOf_67 : decode cX9_lengthOf 67 = .ok (.if_icmp .ge 49, 3) := by decide +kernel
theorem dX9_lengthOf_70 : decode cX9_lengthOf 70 = .ok (.aload_n 0, 1) := by decide +kernel
theorem dX9_lengthOf_71 : decode cX9_lengthOf 71 = .ok (.iload_n 1, 1) := by decide +kernel
theorem dX9_lengthOf_72 : decode cX9_lengthOf 72 = .ok (.aload_n 0, 1) := by decide +kernel
theorem dX9_lengthOf_73 : decode cX9_lengthOf 73 = .ok (.iload 4, 2) := by decide +kernel
theorem dX9_lengthOf_75 : decode cX9_lengthOf 75 = .ok (.invokevirtual 164, 3) := by decide +kernel
theorem dX9_lengthOf_78 : decode cX9_lengthOf 78 = .ok (.aload_n 0, 1) := by decide +kernel
theorem dX9_lengthOf_79 : decode cX9_lengthOf 79 = .ok (.iload 4, 2) := by decide +kernel
theorem dX9_lengthOf_81 : decode cX9_lengthOf 81 = .ok (.invokevirtual 167, 3) := by decide +kernel
theorem dX9_lengthOf_84 : decode cX9_lengthOf 84 = .ok (.invokevirtual 194, 3) := by decide +kernel
theorem dX9_lengthOf_87 : decode cX9_lengthOf 87 = .ok (.aload_n 0, 1) := by decide +kernel
theorem dX9_lengthOf_88 : decode cX9_lengthOf 88 = .ok (.getfield 13, 3) := by decide +kernel
theorem dX9_lengthOf_91 : decode cX9_lengthOf 91 = .ok (.aload_n 0, 1) := by decide +kernel
theorem dX9_lengthOf_92 : decode cX9_lengthOf 92 = .ok (.iload_n 1, 1) := by decide +kernel
theorem dX9_lengthOf_93 : decode cX9_lengthOf 93 = .ok (.invokevirtual 170, 3) := by decide +kernel
theorem dX9_lengthOf_96 : decode cX9_lengthOf 96 = .ok (.bipush 27, 2) := by decide +kernel
theorem dX9_lengthOf_98 : decode cX9_lengthOf 98 = .ok (.iadd, 1) := by decide +kernel
theorem dX9_lengthOf_99 : decode cX9_lengthOf 99 = .ok (.iaload, 1) := by decide +kernel
theorem dX9_lengthOf_100 : decode cX9_lengthOf 100 = .ok (.if_icmp .le 10, 3) := by decide +kernel
theorem dX9_lengthOf_103 : decode cX9_lengthOf 103 = .ok (.aload_n 0, 1) := by decide +kernel
theorem dX9_lengthOf_104 : decode cX9_lengthOf 104 = .ok (.iload_n 1, 1) := by decide +kernel
theorem dX9_lengthOf_105 : decode cX9_lengthOf 105 = .ok (.iload_n 2, 1) := by decide +kernel
theorem dX9_lengthOf_106 : decode cX9_lengthOf 106 = .ok (.invokevirtual 216, 3) := by decide +kernel
theorem dX9_lengthOf_109 : decode cX9_lengthOf 109 = .ok (.istore_n 2, 1) := by decide +kernel
theorem dX9_lengthOf_110 : decode cX9_lengthOf 110 = .ok (.iinc 4 1, 3) := by decide +kernel
theorem dX9_lengthOf_113 : decode cX9_lengthOf 113 = .ok (.goto (-52), 3) := by decide +kernel
theorem dX9_lengthOf_116 : decode cX9_lengthOf 116 = .ok (.iload_n 2, 1) := by decide +kernel
theorem dX9_lengthOf_117 : decode cX9_lengthOf 117 = .ok (.ireturn, 1) := by decide +kernel
theorem dX9_length_0 : decode cX9_length 0 = .ok (.aload_n 0, 1) := by decide +kernel
theorem dX9_length_1 : decode cX9_length 1 = .ok (.iconst 0, 1) := by decide +kernel
theorem dX9_length_2 : decode cX9_length 2 = .ok (.putfield 1, 3) := by decide +kernel
theorem dX9_length_5 : decode cX9_length 5 = .ok (.iload_n 1, 1) := by decide +kernel
theorem dX9_length_6 : decode cX9_length 6 = .ok (.invokestatic 71, 3) := by decide +kernel
theorem dX9_length_9 : decode cX9_length 9 = .ok (.ifCond .eq 7, 3) := by decide +kernel
theorem dX9_length_12 : decode cX9_length 12 = .ok (.iconst (-1), 1) := by decide +kernel
theorem dX9_length_13 : decode cX9_length 13 = .ok (.goto 8, 3) := by decide +kernel
theorem dX9_length_16 : decode cX9_length 16 = .ok (.aload_n 0, 1) := by decide +kernel
theorem dX9_length_17 : decode cX9_length 17 = .ok (.iload_n 1, 1) := by decide +kernel
theorem dX9_length_18 : decode cX9_length 18 = .ok (.invokevirtual 219, 3) := by decide +kernel
theorem dX9_length_21 : decode cX9_length 21 = .ok (.ireturn, 1) := by decide +kernel
theorem dX9_cyclesTo_0 : decode cX9_cyclesTo 0 = .ok (.iload_n 2, 1) := by decide +kernel
theorem dX9_cyclesTo_1 : decode cX9_cyclesTo 1 = .ok (.istore 4, 2) := by decide +kernel
theorem dX9_cyclesTo_3 : decode cX9_cyclesTo 3 = .ok (.iconst 0, 1) := by decide +kernel
theorem dX9_cyclesTo_4 : decode cX9_cyclesTo 4 = .ok (.istore 5, 2) := by decide +kernel
theorem dX9_cyclesTo_6 : decode cX9_cyclesTo 6 = .ok (.iload 4, 2) := by decide +kernel
theorem dX9_cyclesTo_8 : decode cX9_cyclesTo 8 = .ok (.iload_n 3, 1) := by decide +kernel
theorem dX9_cyclesTo_9 : decode cX9_cyclesTo 9 = .ok (.if_icmp .ge 25, 3) := by decide +kernel
theorem dX9_cyclesTo_12 : decode cX9_cyclesTo 12 = .ok (.iload 5, 2) := by decide +kernel
theorem dX9_cyclesTo_14 : decode cX9_cyclesTo 14 = .ok (.ldc 75, 2) := by decide +kernel
theorem dX9_cyclesTo_16 : decode cX9_cyclesTo 16 = .ok (.if_icmp .ge 18, 3) := by decide +kernel
theorem dX9_cyclesTo_19 : decode cX9_cyclesTo 19 = .ok (.aload_n 0, 1) := by decide +kernel
theorem dX9_cyclesTo_20 : decode cX9_cyclesTo 20 = .ok (.iload_n 1, 1) := by decide +kernel
theorem dX9_cyclesTo_21 : decode cX9_cyclesTo 21 = .ok (.iload 4, 2) := by decide +kernel
theorem dX9_cyclesTo_23 : decode cX9_cyclesTo 23 = .ok (.invokevirtual 216, 3) := by decide +kernel
theorem dX9_cyclesTo_26 : decode cX9_cyclesTo 26 = .ok (.istore 4, 2) := by decide +kernel
theorem dX9_cyclesTo_28 : decode cX9_cyclesTo 28 = .ok (.iinc 5 1, 3) := by decide +kernel
theorem dX9_cyclesTo_31 : decode cX9_cyclesTo 31 = .ok (.goto (-25), 3) := by decide +kernel
theorem dX9_cyclesTo_34 : decode cX9_cyclesTo 34 = .ok (.iload 4, 2) := by decide +kernel
theorem dX9_cyclesTo_36 : decode cX9_cyclesTo 36 = .ok (.iload_n 3, 1) := by decide +kernel
theorem dX9_cyclesTo_37 : decode cX9_cyclesTo 37 = .ok (.if_icmp .ge 7, 3) := by decide +kernel
theorem dX9_cyclesTo_40 : decode cX9_cyclesTo 40 = .ok (.iconst (-1), 1) := by decide +kernel
theorem dX9_cyclesTo_41 : decode cX9_cyclesTo 41 = .ok (.goto 5, 3) := by decide +kernel
theorem dX9_cyclesTo_44 : decode cX9_cyclesTo 44 = .ok (.iload 5, 2) := by decide +kernel
theorem dX9_cyclesTo_46 : decode cX9_cyclesTo 46 = .ok (.ireturn, 1) := by decide +kernel
theorem dX9_due_0 : decode cX9_due 0 = .ok (.aload_n 0, 1) := by decide +kernel
theorem dX9_due_1 : decode cX9_due 1 = .ok (.iconst 0, 1) := by decide +kernel
theorem dX9_due_2 : decode cX9_due 2 = .ok (.putfield 1, 3) := by decide +kernel
theorem dX9_due_5 : decode cX9_due 5 = .ok (.iload_n 1, 1) := by decide +kernel
theorem dX9_due_6 : decode cX9_due 6 = .ok (.invokestatic 71, 3) := by decide +kernel
theorem dX9_due_9 : decode cX9_due 9 = .ok (.ifCond .ne 44, 3) := by decide +kernel
theorem dX9_due_12 : decode cX9_due 12 = .ok (.iload_n 2, 1) := by decide +kernel
theorem dX9_due_13 : decode cX9_due 13 = .ok (.iconst 1, 1) := by decide +kernel
theorem dX9_due_14 : decode cX9_due 14 = .ok (.if_icmp .lt 39, 3) := by decide +kernel
theorem dX9_due_17 : decode cX9_due 17 = .ok (.iload_n 2, 1) := by decide +kernel
theorem dX9_due_18 : decode cX9_due 18 = .ok (.sipush 1000, 3) := by decide +kernel
theorem dX9_due_21 : decode cX9_due 21 = .ok (.if_icmp .gt 32, 3) := by decide +kernel
theorem dX9_due_24 : decode cX9_due 24 = .ok (.iload_n 3, 1) := by decide +kernel
theorem dX9_due_25 : decode cX9_due 25 = .ok (.ifCond .lt 28, 3) := by decide +kernel
theorem dX9_due_28 : decode cX9_due 28 = .ok (.iload 4, 2) := by decide +kernel
theorem dX9_due_30 : decode cX9_due 30 = .ok (.ifCond .lt 23, 3) := by decide +kernel
theorem dX9_due_33 : decode cX9_due 33 = .ok (.iload_n 3, 1) := by decide +kernel
theorem dX9_due_34 : decode cX9_due 34 = .ok (.iload 4, 2) := by decide +kernel
theorem dX9_due_36 : decode cX9_due 36 = .ok (.if_icmp .gt 17, 3) := by decide +kernel
theorem dX9_due_39 : decode cX9_due 39 = .ok (.iload 5, 2) := by decide +kernel
theorem dX9_due_41 : decode cX9_due 41 = .ok (.iconst 1, 1) := by decide +kernel
theorem dX9_due_42 : decode cX9_due 42 = .ok (.if_icmp .lt 11, 3) := by decide +kernel
theorem dX9_due_45 : decode cX9_due 45 = .ok (.iload 5, 2) := by decide +kernel
theorem dX9_due_47 : decode cX9_due 47 = .ok (.sipush 10000, 3) := by decide +kernel
theorem dX9_due_50 : decode cX9_due 50 = .ok (.if_icmp .le 5, 3) := by decide +kernel
theorem dX9_due_53 : decode cX9_due 53 = .ok (.iconst (-1), 1) := by decide +kernel
theorem dX9_due_54 : decode cX9_due 54 = .ok (.ireturn, 1) := by decide +kernel
theorem dX9_due_55 : decode cX9_due 55 = .ok (.aload_n 0, 1) := by decide +kernel
theorem dX9_due_56 : decode cX9_due 56 = .ok (.iload_n 1, 1) := by decide +kernel
theorem dX9_due_57 : decode cX9_due 57 = .ok (.invokevirtual 219, 3) := by decide +kernel
theorem dX9_due_60 : decode cX9_due 60 = .ok (.istore 6, 2) := by decide +kernel
theorem dX9_due_62 : decode cX9_due 62 = .ok (.iload 6, 2) := by decide +kernel
theorem dX9_due_64 : decode cX9_due 64 = .ok (.ifCond .ge 5, 3) := by decide +kernel
theorem dX9_due_67 : decode cX9_due 67 = .ok (.iconst (-1), 1) := by decide +kernel
theorem dX9_due_68 : decode cX9_due 68 = .ok (.ireturn, 1) := by decide +kernel
theorem dX9_due_69 : decode cX9_due 69 = .ok (.aload_n 0, 1) := by decide +kernel
theorem dX9_due_70 : decode cX9_due 70 = .ok (.iload_n 1, 1) := by decide +kernel
theorem dX9_due_71 : decode cX9_due 71 = .ok (.iload 6, 2) := by decide +kernel
theorem dX9_due_73 : decode cX9_due 73 = .ok (.iload 4, 2) := by decide +kernel
theorem dX9_due_75 : decode cX9_due 75 = .ok (.invokevirtual 222, 3) := by decide +kernel
theorem dX9_due_78 : decode cX9_due 78 = .ok (.istore 7, 2) := by decide +kernel
theorem dX9_due_80 : decode cX9_due 80 = .ok (.iload 7, 2) := by decide +kernel
theorem dX9_due_82 : decode cX9_due 82 = .ok (.ifCond .ge 5, 3) := by decide +kernel
theorem dX9_due_85 : decode cX9_due 85 = .ok (.iconst (-1), 1) := by decide +kernel
theorem dX9_due_86 : decode cX9_due 86 = .ok (.ireturn, 1) := by decide +kernel
theorem dX9_due_87 : decode cX9_due 87 = .ok (.aload_n 0, 1) := by decide +kernel
theorem dX9_due_88 : decode cX9_due 88 = .ok (.iload_n 1, 1) := by decide +kernel
theorem dX9_due_89 : decode cX9_due 89 = .ok (.iload 6, 2) := by decide +kernel
theorem dX9_due_91 : decode cX9_due 91 = .ok (.iload_n 3, 1) := by decide +kernel
theorem dX9_due_92 : decode cX9_due 92 = .ok (.invokevirtual 222, 3) := by decide +kernel
theorem dX9_due_95 : decode cX9_due 95 = .ok (.iload_n 2, 1) := by decide +kernel
theorem dX9_due_96 : decode cX9_due 96 = .ok (.iadd, 1) := by decide +kernel
theorem dX9_due_97 : decode cX9_due 97 = .ok (.iconst 1, 1) := by decide +kernel
theorem dX9_due_98 : decode cX9_due 98 = .ok (.isub, 1) := by decide +kernel
theorem dX9_due_99 : decode cX9_due 99 = .ok (.iload_n 2, 1) := by decide +kernel
theorem dX9_due_100 : decode cX9_due 100 = .ok (.idiv, 1) := by decide +kernel
theorem dX9_due_101 : decode cX9_due 101 = .ok (.istore 8, 2) := by decide +kernel
theorem dX9_due_103 : decode cX9_due 103 = .ok (.iload 7, 2) := by decide +kernel
theorem dX9_due_105 : decode cX9_due 105 = .ok (.iload_n 2, 1) := by decide +kernel
theorem dX9_due_106 : decode cX9_due 106 = .ok (.iadd, 1) := by decide +kernel
theorem dX9_due_107 : decode cX9_due 107 = .ok (.iconst 1, 1) := by decide +kernel
theorem dX9_due_108 : decode cX9_due 108 = .ok (.isub, 1) := by decide +kernel
theorem dX9_due_109 : decode cX9_due 109 = .ok (.iload_n 2, 1) := by decide +kernel
theorem dX9_due_110 : decode cX9_due 110 = .ok (.idiv, 1) := by decide +kernel
theorem dX9_due_111 : decode cX9_due 111 = .ok (.istore 9, 2) := by decide +kernel
theorem dX9_due_113 : decode cX9_due 113 = .ok (.iload 9, 2) := by decide +kernel
theorem dX9_due_115 : decode cX9_due 115 = .ok (.iload 5, 2) := by decide +kernel
theorem dX9_due_117 : decode cX9_due 117 = .ok (.isub, 1) := by decide +kernel
theorem dX9_due_118 : decode cX9_due 118 = .ok (.iconst 1, 1) := by decide +kernel
theorem dX9_due_119 : decode cX9_due 119 = .ok (.isub, 1) := by decide +kernel
theorem dX9_due_120 : decode cX9_due 120 = .ok (.istore 10, 2) := by decide +kernel
theorem dX9_due_122 : decode cX9_due 122 = .ok (.iload 10, 2) := by decide +kernel
theorem dX9_due_124 : decode cX9_due 124 = .ok (.iload 8, 2) := by decide +kernel
theorem dX9_due_126 : decode cX9_due 126 = .ok (.if_icmp .ge 7, 3) := by decide +kernel
theorem dX9_due_129 : decode cX9_due 129 = .ok (.iconst (-1), 1) := by decide +kernel
theorem dX9_due_130 : decode cX9_due 130 = .ok (.goto 5, 3) := by decide +kernel
theorem dX9_due_133 : decode cX9_due 133 = .ok (.iload 10, 2) := by decide +kernel
theorem dX9_due_135 : decode cX9_due 135 = .ok (.ireturn, 1) := by decide +kernel
theorem dX9_undo_0 : decode cX9_undo 0 = .ok (.aload_n 0, 1) := by decide +kernel
theorem dX9_undo_1 : decode cX9_undo 1 = .ok (.iconst 0, 1) := by decide +kernel
theorem dX9_undo_2 : decode cX9_undo 2 = .ok (.putfield 1, 3) := by decide +kernel
theorem dX9_undo_5 : decode cX9_undo 5 = .ok (.aload_n 0, 1) := by decide +kernel
theorem dX9_undo_6 : decode cX9_undo 6 = .ok (.getfield 60, 3) := by decide +kernel
theorem dX9_undo_9 : decode cX9_undo 9 = .ok (.ifCond .ne 5, 3) := by decide +kernel
theorem dX9_undo_12 : decode cX9_undo 12 = .ok (.iconst 0, 1) := by decide +kernel
theorem dX9_undo_13 : decode cX9_undo 13 = .ok (.ireturn, 1) := by decide +kernel
theorem dX9_undo_14 : decode cX9_undo 14 = .ok (.aload_n 0, 1) := by decide +kernel
theorem dX9_undo_15 : decode cX9_undo 15 = .ok (.aload_n 0, 1) := by decide +kernel
theorem dX9_undo_16 : decode cX9_undo 16 = .ok (.getfield 17, 3) := by decide +kernel
theorem dX9_undo_19 : decode cX9_undo 19 = .ok (.aload_n 0, 1) := by decide +kernel
theorem dX9_undo_20 : decode cX9_undo 20 = .ok (.getfield 13, 3) := by decide +kernel
theorem dX9_undo_23 : decode cX9_undo 23 = .ok (.invokevirtual 56, 3) := by decide +kernel
theorem dX9_undo_26 : decode cX9_undo 26 = .ok (.aload_n 0, 1) := by decide +kernel
theorem dX9_undo_27 : decode cX9_undo 27 = .ok (.iconst 0, 1) := by decide +kernel
theorem dX9_undo_28 : decode cX9_undo 28 = .ok (.putfield 60, 3) := by decide +kernel
theorem dX9_undo_31 : decode cX9_undo 31 = .ok (.iconst 1, 1) := by decide +kernel
theorem dX9_undo_32 : decode cX9_undo 32 = .ok (.ireturn, 1) := by decide +kernel
theorem dX9_image_0 : decode cX9_image 0 = .ok (.aload_n 0, 1) := by decide +kernel
theorem dX9_image_1 : decode cX9_image 1 = .ok (.iconst 0, 1) := by decide +kernel
theorem dX9_image_2 : decode cX9_image 2 = .ok (.putfield 1, 3) := by decide +kernel
theorem dX9_image_5 : decode cX9_image 5 = .ok (.aload_n 0, 1) := by decide +kernel
theorem dX9_image_6 : decode cX9_image 6 = .ok (.getfield 225, 3) := by decide +kernel
theorem dX9_image_9 : decode cX9_image 9 = .ok (.istore_n 1, 1) := by decide +kernel
theorem dX9_image_10 : decode cX9_image 10 = .ok (.aload_n 0, 1) := by decide +kernel
theorem dX9_image_11 : decode cX9_image 11 = .ok (.aload_n 0, 1) := by decide +kernel
theorem dX9_image_12 : decode cX9_image 12 = .ok (.getfield 13, 3) := by decide +kernel
theorem dX9_image_15 : decode cX9_image 15 = .ok (.aload_n 0, 1) := by decide +kernel
theorem dX9_image_16 : decode cX9_image 16 = .ok (.getfield 20, 3) := by decide +kernel
theorem dX9_image_19 : decode cX9_image 19 = .ok (.invokevirtual 56, 3) := by decide +kernel
theorem dX9_image_22 : decode cX9_image 22 = .ok (.aload_n 0, 1) := by decide +kernel
theorem dX9_image_23 : decode cX9_image 23 = .ok (.iconst 1, 1) := by decide +kernel
theorem dX9_image_24 : decode cX9_image 24 = .ok (.putfield 225, 3) := by decide +kernel
theorem dX9_image_27 : decode cX9_image 27 = .ok (.iload_n 1, 1) := by decide +kernel
theorem dX9_image_28 : decode cX9_image 28 = .ok (.ireturn, 1) := by decide +kernel
theorem dX9_again_0 : decode cX9_again 0 = .ok (.aload_n 0, 1) := by decide +kernel
theorem dX9_again_1 : decode cX9_again 1 = .ok (.iconst 0, 1) := by decide +kernel
theorem dX9_again_2 : decode cX9_again 2 = .ok (.putfield 1, 3) := by decide +kernel
theorem dX9_again_5 : decode cX9_again 5 = .ok (.aload_n 0, 1) := by decide +kernel
theorem dX9_again_6 : decode cX9_again 6 = .ok (.getfield 225, 3) := by decide +kernel
theorem dX9_again_9 : decode cX9_again 9 = .ok (.ifCond .ne 5, 3) := by decide +kernel
theorem dX9_again_12 : decode cX9_again 12 = .ok (.iconst 0, 1) := by decide +kernel
theorem dX9_again_13 : decode cX9_again 13 = .ok (.ireturn, 1) := by decide +kernel
theorem dX9_again_14 : decode cX9_again 14 = .ok (.aload_n 0, 1) := by decide +kernel
theorem dX9_again_15 : decode cX9_again 15 = .ok (.aload_n 0, 1) := by decide +kernel
theorem dX9_again_16 : decode cX9_again 16 = .ok (.getfield 20, 3) := by decide +kernel
theorem dX9_again_19 : decode cX9_again 19 = .ok (.aload_n 0, 1) := by decide +kernel
theorem dX9_again_20 : decode cX9_again 20 = .ok (.getfield 13, 3) := by decide +kernel
theorem dX9_again_23 : decode cX9_again 23 = .ok (.invokevirtual 56, 3) := by decide +kernel
theorem dX9_again_26 : decode cX9_again 26 = .ok (.aload_n 0, 1) := by decide +kernel
theorem dX9_again_27 : decode cX9_again 27 = .ok (.iconst 0, 1) := by decide +kernel
theorem dX9_again_28 : decode cX9_again 28 = .ok (.putfield 60, 3) := by decide +kernel
theorem dX9_again_31 : decode cX9_again 31 = .ok (.iconst 1, 1) := by decide +kernel
theorem dX9_again_32 : decode cX9_again 32 = .ok (.ireturn, 1) := by decide +kernel
theorem dX9_count_0 : decode cX9_count 0 = .ok (.aload_n 0, 1) := by decide +kernel
theorem dX9_count_1 : decode cX9_count 1 = .ok (.iconst 0, 1) := by decide +kernel
theorem dX9_count_2 : decode cX9_count 2 = .ok (.putfield 1, 3) := by decide +kernel
theorem dX9_count_5 : decode cX9_count 5 = .ok (.iload_n 1, 1) := by decide +kernel
theorem dX9_count_6 : decode cX9_count 6 = .ok (.ifCond .ne 8, 3) := by decide +kernel
theorem dX9_count_9 : decode cX9_count 9 = .ok (.aload_n 0, 1) := by decide +kernel
theorem dX9_count_10 : decode cX9_count 10 = .ok (.getfield 64, 3) := by decide +kernel
theorem dX9_count_13 : decode cX9_count 13 = .ok (.ireturn, 1) := by decide +kernel
theorem dX9_count_14 : decode cX9_count 14 = .ok (.iload_n 1, 1) := by decide +kernel
theorem dX9_count_15 : decode cX9_count 15 = .ok (.iconst 3, 1) := by decide +kernel
theorem dX9_count_16 : decode cX9_count 16 = .ok (.if_icmp .ne 16, 3) := by decide +kernel
theorem dX9_count_19 : decode cX9_count 19 = .ok (.aload_n 0, 1) := by decide +kernel
theorem dX9_count_20 : decode cX9_count 20 = .ok (.getfield 60, 3) := by decide +kernel
theorem dX9_count_23 : decode cX9_count 23 = .ok (.ifCond .eq 7, 3) := by decide +kernel
theorem dX9_count_26 : decode cX9_count 26 = .ok (.iconst 1, 1) := by decide +kernel
theorem dX9_count_27 : decode cX9_count 27 = .ok (.goto 4, 3) := by decide +kernel
theorem dX9_count_30 : decode cX9_count 30 = .ok (.iconst 0, 1) := by decide +kernel
theorem dX9_count_31 : decode cX9_count 31 = .ok (.ireturn, 1) := by decide +kernel
theorem dX9_count_32 : decode cX9_count 32 = .ok (.iload_n 1, 1) := by decide +kernel
theorem dX9_count_33 : decode cX9_count 33 = .ok (.iconst 4, 1) := by decide +kernel
theorem dX9_count_34 : decode cX9_count 34 = .ok (.if_icmp .ne 16, 3) := by decide +kernel
theorem dX9_count_37 : decode cX9_count 37 = .ok (.aload_n 0, 1) := by decide +kernel
theorem dX9_count_38 : decode cX9_count 38 = .ok (.getfield 225, 3) := by decide +kernel
theorem dX9_count_41 : decode cX9_count 41 = .ok (.ifCond .eq 7, 3) := by decide +kernel
theorem dX9_count_44 : decode cX9_count 44 = .ok (.iconst 1, 1) := by decide +kernel
theorem dX9_count_45 : decode cX9_count 45 = .ok (.goto 4, 3) := by decide +kernel
theorem dX9_count_48 : decode cX9_count 48 = .ok (.iconst 0, 1) := by decide +kernel
theorem dX9_count_49 : decode cX9_count 49 = .ok (.ireturn, 1) := by decide +kernel
theorem dX9_count_50 : decode cX9_count 50 = .ok (.iload_n 1, 1) := by decide +kernel
theorem dX9_count_51 : decode cX9_count 51 = .ok (.iconst 1, 1) := by decide +kernel
theorem dX9_count_52 : decode cX9_count 52 = .ok (.if_icmp .eq 10, 3) := by decide +kernel
theorem dX9_count_55 : decode cX9_count 55 = .ok (.iload_n 1, 1) := by decide +kernel
theorem dX9_count_56 : decode cX9_count 56 = .ok (.iconst 2, 1) := by decide +kernel
theorem dX9_count_57 : decode cX9_count 57 = .ok (.if_icmp .eq 5, 3) := by decide +kernel
theorem dX9_count_60 : decode cX9_count 60 = .ok (.iconst (-1), 1) := by decide +kernel
theorem dX9_count_61 : decode cX9_count 61 = .ok (.ireturn, 1) := by decide +kernel
theorem dX9_count_62 : decode cX9_count 62 = .ok (.iconst 0, 1) := by decide +kernel
theorem dX9_count_63 : decode cX9_count 63 = .ok (.istore_n 2, 1) := by decide +kernel
theorem dX9_count_64 : decode cX9_count 64 = .ok (.iconst 0, 1) := by decide +kernel
theorem dX9_count_65 : decode cX9_count 65 = .ok (.istore_n 3, 1) := by decide +kernel
theorem dX9_count_66 : decode cX9_count 66 = .ok (.iload_n 3, 1) := by decide +kernel
theorem dX9_count_67 : decode cX9_count 67 = .ok (.bipush 12, 2) := by decide +kernel
theorem dX9_count_69 : decode cX9_count 69 = .ok (.if_icmp .ge 52, 3) := by decide +kernel
theorem dX9_count_72 : decode cX9_count 72 = .ok (.iload_n 2, 1) := by decide +kernel
theorem dX9_count_73 : decode cX9_count 73 = .ok (.iload_n 1, 1) := by decide +kernel
theorem dX9_count_74 : decode cX9_count 74 = .ok (.iconst 1, 1) := by decide +kernel
theorem dX9_count_75 : decode cX9_count 75 = .ok (.if_icmp .ne 19, 3) := by decide +kernel
theorem dX9_count_78 : decode cX9_count 78 = .ok (.aload_n 0, 1) := by decide +kernel
theorem dX9_count_79 : decode cX9_count 79 = .ok (.iload_n 3, 1) := by decide +kernel
theorem dX9_count_80 : decode cX9_count 80 = .ok (.invokevirtual 154, 3) := by decide +kernel
theorem dX9_count_83 : decode cX9_count 83 = .ok (.ifCond .eq 7, 3) := by decide +kernel
theorem dX9_count_86 : decode cX9_count 86 = .ok (.iconst 1, 1) := by decide +kernel
theorem dX9_count_87 : decode cX9_count 87 = .ok (.goto 26, 3) := by decide +kernel
theorem dX9_count_90 : decode cX9_count 90 = .ok (.iconst 0, 1) := by decide +kernel
theorem dX9_count_91 : decode cX9_count 91 = .ok (.goto 22, 3) := by decide +kernel
theorem dX9_count_94 : decode cX9_count 94 = .ok (.aload_n 0, 1) := by decide +kernel
theorem dX9_count_95 : decode cX9_count 95 = .ok (.getfield 13, 3) := by decide +kernel
theorem dX9_count_98 : decode cX9_count 98 = .ok (.sipush 404, 3) := by decide +kernel
theorem dX9_count_101 : decode cX9_count 101 = .ok (.iload_n 3, 1) := by decide +kernel
theorem dX9_count_102 : decode cX9_count 102 = .ok (.imul, 1) := by decide +kernel
theorem dX9_count_103 : decode cX9_count 103 = .ok (.iaload, 1) := by decide +kernel
theorem dX9_count_104 : decode cX9_count 104 = .ok (.iconst 5, 1) := by decide +kernel
theorem dX9_count_105 : decode cX9_count 105 = .ok (.if_icmp .ne 7, 3) := by decide +kernel
theorem dX9_count_108 : decode cX9_count 108 = .ok (.iconst 1, 1) := by decide +kernel
theorem dX9_count_109 : decode cX9_count 109 = .ok (.goto 4, 3) := by decide +kernel
theorem dX9_count_112 : decode cX9_count 112 = .ok (.iconst 0, 1) := by decide +kernel
theorem dX9_count_113 : decode cX9_count 113 = .ok (.iadd, 1) := by decide +kernel
theorem dX9_count_114 : decode cX9_count 114 = .ok (.istore_n 2, 1) := by decide +kernel
theorem dX9_count_115 : decode cX9_count 115 = .ok (.iinc 3 1, 3) := by decide +kernel
theorem dX9_count_118 : decode cX9_count 118 = .ok (.goto (-52), 3) := by decide +kernel
theorem dX9_count_121 : decode cX9_count 121 = .ok (.iload_n 2, 1) := by decide +kernel
theorem dX9_count_122 : decode cX9_count 122 = .ok (.ireturn, 1) := by decide +kernel
theorem dJ9_abs_0f7a4_0 : decode cJ9_abs_0f7a4 0 = .ok (.iload_n 0, 1) := by decide +kernel
theorem dJ9_abs_0f7a4_1 : decode cJ9_abs_0f7a4 1 = .ok (.ifCond .ge 8, 3) := by decide +kernel
theorem dJ9_abs_0f7a4_4 : decode cJ9_abs_0f7a4 4 = .ok (.iload_n 0, 1) := by decide +kernel
theorem dJ9_abs_0f7a4_5 : decode cJ9_abs_0f7a4 5 = .ok (.ineg, 1) := by decide +kernel
theorem dJ9_abs_0f7a4_6 : decode cJ9_abs_0f7a4 6 = .ok (.goto 4, 3) := by decide +kernel
theorem dJ9_abs_0f7a4_9 : decode cJ9_abs_0f7a4 9 = .ok (.iload_n 0, 1) := by decide +kernel
theorem dJ9_abs_0f7a4_10 : decode cJ9_abs_0f7a4 10 = .ok (.ireturn, 1) := by decide +kernel
theorem dJ9_max_7cf53_0 : decode cJ9_max_7cf53 0 = .ok (.iload_n 0, 1) := by decide +kernel
theorem dJ9_max_7cf53_1 : decode cJ9_max_7cf53 1 = .ok (.iload_n 1, 1) := by decide +kernel
theorem dJ9_max_7cf53_2 : decode cJ9_max_7cf53 2 = .ok (.if_icmp .lt 7, 3) := by decide +kernel
theorem dJ9_max_7cf53_5 : decode cJ9_max_7cf53 5 = .ok (.iload_n 0, 1) := by decide +kernel
theorem dJ9_max_7cf53_6 : decode cJ9_max_7cf53 6 = .ok (.goto 4, 3) := by decide +kernel
theorem dJ9_max_7cf53_9 : decode cJ9_max_7cf53 9 = .ok (.iload_n 1, 1) := by decide +kernel
theorem dJ9_max_7cf53_10 : decode cJ9_max_7cf53 10 = .ok (.ireturn, 1) := by decide +kernel
theorem dJ9_min_7cf53_0 : decode cJ9_min_7cf53 0 = .ok (.iload_n 0, 1) := by decide +kernel
theorem dJ9_min_7cf53_1 : decode cJ9_min_7cf53 1 = .ok (.iload_n 1, 1) := by decide +kernel
theorem dJ9_min_7cf53_2 : decode cJ9_min_7cf53 2 = .ok (.if_icmp .gt 7, 3) := by decide +kernel
theorem dJ9_min_7cf53_5 : decode cJ9_min_7cf53 5 = .ok (.iload_n 0, 1) := by decide +kernel
theorem dJ9_min_7cf53_6 : decode cJ9_min_7cf53 6 = .ok (.goto 4, 3) := by decide +kernel
theorem dJ9_min_7cf53_9 : decode cJ9_min_7cf53 9 = .ok (.iload_n 1, 1) := by decide +kernel
theorem dJ9_min_7cf53_10 : decode cJ9_min_7cf53 10 = .ok (.ireturn, 1) := by decide +kernel
theorem dJ9_min_f86c9_0 : decode cJ9_min_f86c9 0 = .ok (.lload_n 0, 1) := by decide +kernel
theorem dJ9_min_f86c9_1 : decode cJ9_min_f86c9 1 = .ok (.lload_n 2, 1) := by decide +kernel
theorem dJ9_min_f86c9_2 : decode cJ9_min_f86c9 2 = .ok (.lcmp, 1) := by decide +kernel
theorem dJ9_min_f86c9_3 : decode cJ9_min_f86c9 3 = .ok (.ifCond .gt 7, 3) := by decide +kernel
theorem dJ9_min_f86c9_6 : decode cJ9_min_f86c9 6 = .ok (.lload_n 0, 1) := by decide +kernel
theorem dJ9_min_f86c9_7 : decode cJ9_min_f86c9 7 = .ok (.goto 4, 3) := by decide +kernel
theorem dJ9_min_f86c9_10 : decode cJ9_min_f86c9 10 = .ok (.lload_n 2, 1) := by decide +kernel
theorem dJ9_min_f86c9_11 : decode cJ9_min_f86c9 11 = .ok (.lreturn, 1) := by decide +kernel
theorem dL_span_0 : decode cL_span 0 = .ok (.aload_n 3, 1) := by decide +kernel
theorem dL_span_1 : decode cL_span 1 = .ok (.iconst 0, 1) := by decide +kernel
theorem dL_span_2 : decode cL_span 2 = .ok (.aload_n 0, 1) := by decide +kernel
theorem dL_span_3 : decode cL_span 3 = .ok (.iload_n 1, 1) := by decide +kernel
theorem dL_span_4 : decode cL_span 4 = .ok (.iload_n 2, 1) := by decide +kernel
theorem dL_span_5 : decode cL_span 5 = .ok (.invokevirtual 7, 3) := by decide +kernel
theorem dL_span_8 : decode cL_span 8 = .ok (.i2l, 1) := by decide +kernel
theorem dL_span_9 : decode cL_span 9 = .ok (.lastore, 1) := by decide +kernel
theorem dL_span_10 : decode cL_span 10 = .ok (.goto 7, 3) := by decide +kernel
