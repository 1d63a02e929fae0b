theorem dX0_init_0 : decode cX0_init 0 = .ok (.aload_n 0, 1) := by decide +kernel
theorem dX0_init_1 : decode cX0_init 1 = .ok (.invokespecial 3, 3) := by decide +kernel
theorem dX0_init_4 : decode cX0_init 4 = .ok (.aload_n 0, 1) := by decide +kernel
theorem dX0_init_5 : decode cX0_init 5 = .ok (.bipush 12, 2) := by decide +kernel
theorem dX0_init_7 : decode cX0_init 7 = .ok (.anewarray 9, 3) := by decide +kernel
theorem dX0_init_10 : decode cX0_init 10 = .ok (.putfield 11, 3) := by decide +kernel
theorem dX0_init_13 : decode cX0_init 13 = .ok (.aload_n 0, 1) := by decide +kernel
theorem dX0_init_14 : decode cX0_init 14 = .ok (.bipush 12, 2) := by decide +kernel
theorem dX0_init_16 : decode cX0_init 16 = .ok (.anewarray 17, 3) := by decide +kernel
theorem dX0_init_19 : decode cX0_init 19 = .ok (.putfield 19, 3) := by decide +kernel
theorem dX0_init_22 : decode cX0_init 22 = .ok (.iconst 0, 1) := by decide +kernel
theorem dX0_init_23 : decode cX0_init 23 = .ok (.istore_n 1, 1) := by decide +kernel
theorem dX0_init_24 : decode cX0_init 24 = .ok (.iload_n 1, 1) := by decide +kernel
theorem dX0_init_25 : decode cX0_init 25 = .ok (.aload_n 0, 1) := by decide +kernel
theorem dX0_init_26 : decode cX0_init 26 = .ok (.getfield 11, 3) := by decide +kernel
theorem dX0_init_29 : decode cX0_init 29 = .ok (.arraylength, 1) := by decide +kernel
theorem dX0_init_30 : decode cX0_init 30 = .ok (.if_icmp .ge 22, 3) := by decide +kernel
theorem dX0_init_33 : decode cX0_init 33 = .ok (.aload_n 0, 1) := by decide +kernel
theorem dX0_init_34 : decode cX0_init 34 = .ok (.getfield 11, 3) := by decide +kernel
theorem dX0_init_37 : decode cX0_init 37 = .ok (.iload_n 1, 1) := by decide +kernel
theorem dX0_init_38 : decode cX0_init 38 = .ok (.new 9, 3) := by decide +kernel
theorem dX0_init_41 : decode cX0_init 41 = .ok (.dup, 1) := by decide +kernel
theorem dX0_init_42 : decode cX0_init 42 = .ok (.invokespecial 23, 3) := by decide +kernel
theorem dX0_init_45 : decode cX0_init 45 = .ok (.aastore, 1) := by decide +kernel
theorem dX0_init_46 : decode cX0_init 46 = .ok (.iinc 1 1, 3) := by decide +kernel
theorem dX0_init_49 : decode cX0_init 49 = .ok (.goto (-25), 3) := by decide +kernel
theorem dX0_init_52 : decode cX0_init 52 = .ok (.iconst 0, 1) := by decide +kernel
theorem dX0_init_53 : decode cX0_init 53 = .ok (.istore_n 1, 1) := by decide +kernel
theorem dX0_init_54 : decode cX0_init 54 = .ok (.iload_n 1, 1) := by decide +kernel
theorem dX0_init_55 : decode cX0_init 55 = .ok (.aload_n 0, 1) := by decide +kernel
theorem dX0_init_56 : decode cX0_init 56 = .ok (.getfield 19, 3) := by decide +kernel
theorem dX0_init_59 : decode cX0_init 59 = .ok (.arraylength, 1) := by decide +kernel
theorem dX0_init_60 : decode cX0_init 60 = .ok (.if_icmp .ge 22, 3) := by decide +kernel
theorem dX0_init_63 : decode cX0_init 63 = .ok (.aload_n 0, 1) := by decide +kernel
theorem dX0_init_64 : decode cX0_init 64 = .ok (.getfield 19, 3) := by decide +kernel
theorem dX0_init_67 : decode cX0_init 67 = .ok (.iload_n 1, 1) := by decide +kernel
theorem dX0_init_68 : decode cX0_init 68 = .ok (.new 17, 3) := by decide +kernel
theorem dX0_init_71 : decode cX0_init 71 = .ok (.dup, 1) := by decide +kernel
theorem dX0_init_72 : decode cX0_init 72 = .ok (.invokespecial 24, 3) := by decide +kernel
theorem dX0_init_75 : decode cX0_init 75 = .ok (.aastore, 1) := by decide +kernel
theorem dX0_init_76 : decode cX0_init 76 = .ok (.iinc 1 1, 3) := by decide +kernel
theorem dX0_init_79 : decode cX0_init 79 = .ok (.goto (-25), 3) := by decide +kernel
theorem dX0_init_82 : decode cX0_init 82 = .ok (.return_, 1) := by decide +kernel
theorem dX0_placeAt_0 : decode cX0_placeAt 0 = .ok (.iload_n 1, 1) := by decide +kernel
theorem dX0_placeAt_1 : decode cX0_placeAt 1 = .ok (.ifCond .lt 21, 3) := by decide +kernel
theorem dX0_placeAt_4 : decode cX0_placeAt 4 = .ok (.iload_n 1, 1) := by decide +kernel
theorem dX0_placeAt_5 : decode cX0_placeAt 5 = .ok (.aload_n 0, 1) := by decide +kernel
theorem dX0_placeAt_6 : decode cX0_placeAt 6 = .ok (.getfield 11, 3) := by decide +kernel
theorem dX0_placeAt_9 : decode cX0_placeAt 9 = .ok (.arraylength, 1) := by decide +kernel
theorem dX0_placeAt_10 : decode cX0_placeAt 10 = .ok (.if_icmp .ge 12, 3) := by decide +kernel
theorem dX0_placeAt_13 : decode cX0_placeAt 13 = .ok (.aload_n 0, 1) := by decide +kernel
theorem dX0_placeAt_14 : decode cX0_placeAt 14 = .ok (.getfield 11, 3) := by decide +kernel
theorem dX0_placeAt_17 : decode cX0_placeAt 17 = .ok (.iload_n 1, 1) := by decide +kernel
theorem dX0_placeAt_18 : decode cX0_placeAt 18 = .ok (.aaload, 1) := by decide +kernel
theorem dX0_placeAt_19 : decode cX0_placeAt 19 = .ok (.goto 4, 3) := by decide +kernel
theorem dX0_placeAt_22 : decode cX0_placeAt 22 = .ok (.aconst_null, 1) := by decide +kernel
theorem dX0_placeAt_23 : decode cX0_placeAt 23 = .ok (.areturn, 1) := by decide +kernel
theorem dX0_detailAt_0 : decode cX0_detailAt 0 = .ok (.iload_n 1, 1) := by decide +kernel
theorem dX0_detailAt_1 : decode cX0_detailAt 1 = .ok (.ifCond .lt 21, 3) := by decide +kernel
theorem dX0_detailAt_4 : decode cX0_detailAt 4 = .ok (.iload_n 1, 1) := by decide +kernel
theorem dX0_detailAt_5 : decode cX0_detailAt 5 = .ok (.aload_n 0, 1) := by decide +kernel
theorem dX0_detailAt_6 : decode cX0_detailAt 6 = .ok (.getfield 19, 3) := by decide +kernel
theorem dX0_detailAt_9 : decode cX0_detailAt 9 = .ok (.arraylength, 1) := by decide +kernel
theorem dX0_detailAt_10 : decode cX0_detailAt 10 = .ok (.if_icmp .ge 12, 3) := by decide +kernel
theorem dX0_detailAt_13 : decode cX0_detailAt 13 = .ok (.aload_n 0, 1) := by decide +kernel
theorem dX0_detailAt_14 : decode cX0_detailAt 14 = .ok (.getfield 19, 3) := by decide +kernel
theorem dX0_detailAt_17 : decode cX0_detailAt 17 = .ok (.iload_n 1, 1) := by decide +kernel
theorem dX0_detailAt_18 : decode cX0_detailAt 18 = .ok (.aaload, 1) := by decide +kernel
theorem dX0_detailAt_19 : decode cX0_detailAt 19 = .ok (.goto 4, 3) := by decide +kernel
theorem dX0_detailAt_22 : decode cX0_detailAt 22 = .ok (.aconst_null, 1) := by decide +kernel
theorem dX0_detailAt_23 : decode cX0_detailAt 23 = .ok (.areturn, 1) := by decide +kernel
theorem dX0_gaugeAt_0 : decode cX0_gaugeAt 0 = .ok (.aload_n 0, 1) := by decide +kernel
theorem dX0_gaugeAt_1 : decode cX0_gaugeAt 1 = .ok (.iload_n 1, 1) := by decide +kernel
theorem dX0_gaugeAt_2 : decode cX0_gaugeAt 2 = .ok (.invokevirtual 25, 3) := by decide +kernel
theorem dX0_gaugeAt_5 : decode cX0_gaugeAt 5 = .ok (.astore_n 2, 1) := by decide +kernel
theorem dX0_gaugeAt_6 : decode cX0_gaugeAt 6 = .ok (.aload_n 2, 1) := by decide +kernel
theorem dX0_gaugeAt_7 : decode cX0_gaugeAt 7 = .ok (.ifnull 14, 3) := by decide +kernel
theorem dX0_gaugeAt_10 : decode cX0_gaugeAt 10 = .ok (.aload_n 2, 1) := by decide +kernel
theorem dX0_gaugeAt_11 : decode cX0_gaugeAt 11 = .ok (.invokevirtual 29, 3) := by decide +kernel
theorem dX0_gaugeAt_14 : decode cX0_gaugeAt 14 = .ok (.ifCond .eq 7, 3) := by decide +kernel
theorem dX0_gaugeAt_17 : decode cX0_gaugeAt 17 = .ok (.aload_n 2, 1) := by decide +kernel
theorem dX0_gaugeAt_18 : decode cX0_gaugeAt 18 = .ok (.goto 4, 3) := by decide +kernel
theorem dX0_gaugeAt_21 : decode cX0_gaugeAt 21 = .ok (.aconst_null, 1) := by decide +kernel
theorem dX0_gaugeAt_22 : decode cX0_gaugeAt 22 = .ok (.areturn, 1) := by decide +kernel
theorem dX0_fedGaugeAt_0 : decode cX0_fedGaugeAt 0 = .ok (.aload_n 0, 1) := by decide +kernel
theorem dX0_fedGaugeAt_1 : decode cX0_fedGaugeAt 1 = .ok (.iload_n 1, 1) := by decide +kernel
theorem dX0_fedGaugeAt_2 : decode cX0_fedGaugeAt 2 = .ok (.invokevirtual 33, 3) := by decide +kernel
theorem dX0_fedGaugeAt_5 : decode cX0_fedGaugeAt 5 = .ok (.astore_n 2, 1) := by decide +kernel
theorem dX0_fedGaugeAt_6 : decode cX0_fedGaugeAt 6 = .ok (.aload_n 2, 1) := by decide +kernel
theorem dX0_fedGaugeAt_7 : decode cX0_fedGaugeAt 7 = .ok (.ifnull 15, 3) := by decide +kernel
theorem dX0_fedGaugeAt_10 : decode cX0_fedGaugeAt 10 = .ok (.aload_n 2, 1) := by decide +kernel
theorem dX0_fedGaugeAt_11 : decode cX0_fedGaugeAt 11 = .ok (.getfield 36, 3) := by decide +kernel
theorem dX0_fedGaugeAt_14 : decode cX0_fedGaugeAt 14 = .ok (.iconst 4, 1) := by decide +kernel
theorem dX0_fedGaugeAt_15 : decode cX0_fedGaugeAt 15 = .ok (.if_icmp .eq 7, 3) := by decide +kernel
theorem dX0_fedGaugeAt_18 : decode cX0_fedGaugeAt 18 = .ok (.aload_n 2, 1) := by decide +kernel
theorem dX0_fedGaugeAt_19 : decode cX0_fedGaugeAt 19 = .ok (.goto 4, 3) := by decide +kernel
theorem dX0_fedGaugeAt_22 : decode cX0_fedGaugeAt 22 = .ok (.aconst_null, 1) := by decide +kernel
theorem dX0_fedGaugeAt_23 : decode cX0_fedGaugeAt 23 = .ok (.areturn, 1) := by decide +kernel
theorem dX0_gauges_0 : decode cX0_gauges 0 = .ok (.iconst 0, 1) := by decide +kernel
theorem dX0_gauges_1 : decode cX0_gauges 1 = .ok (.istore_n 1, 1) := by decide +kernel
theorem dX0_gauges_2 : decode cX0_gauges 2 = .ok (.iconst 0, 1) := by decide +kernel
theorem dX0_gauges_3 : decode cX0_gauges 3 = .ok (.istore_n 2, 1) := by decide +kernel
theorem dX0_gauges_4 : decode cX0_gauges 4 = .ok (.iload_n 2, 1) := by decide +kernel
theorem dX0_gauges_5 : decode cX0_gauges 5 = .ok (.bipush 12, 2) := by decide +kernel
theorem dX0_gauges_7 : decode cX0_gauges 7 = .ok (.if_icmp .ge 25, 3) := by decide +kernel
theorem dX0_gauges_10 : decode cX0_gauges 10 = .ok (.iload_n 1, 1) := by decide +kernel
theorem dX0_gauges_11 : decode cX0_gauges 11 = .ok (.aload_n 0, 1) := by decide +kernel
theorem dX0_gauges_12 : decode cX0_gauges 12 = .ok (.iload_n 2, 1) := by decide +kernel
theorem dX0_gauges_13 : decode cX0_gauges 13 = .ok (.invokevirtual 33, 3) := by decide +kernel
theorem dX0_gauges_16 : decode cX0_gauges 16 = .ok (.ifnull 7, 3) := by decide +kernel
theorem dX0_gauges_19 : decode cX0_gauges 19 = .ok (.iconst 1, 1) := by decide +kernel
theorem dX0_gauges_20 : decode cX0_gauges 20 = .ok (.goto 4, 3) := by decide +kernel
theorem dX0_gauges_23 : decode cX0_gauges 23 = .ok (.iconst 0, 1) := by decide +kernel
theorem dX0_gauges_24 : decode cX0_gauges 24 = .ok (.iadd, 1) := by decide +kernel
theorem dX0_gauges_25 : decode cX0_gauges 25 = .ok (.istore_n 1, 1) := by decide +kernel
theorem dX0_gauges_26 : decode cX0_gauges 26 = .ok (.iinc 2 1, 3) := by decide +kernel
theorem dX0_gauges_29 : decode cX0_gauges 29 = .ok (.goto (-25), 3) := by decide +kernel
theorem dX0_gauges_32 : decode cX0_gauges 32 = .ok (.iload_n 1, 1) := by decide +kernel
theorem dX0_gauges_33 : decode cX0_gauges 33 = .ok (.ireturn, 1) := by decide +kernel
theorem dX0_plugs_0 : decode cX0_plugs 0 = .ok (.iconst 0, 1) := by decide +kernel
theorem dX0_plugs_1 : decode cX0_plugs 1 = .ok (.istore_n 1, 1) := by decide +kernel
theorem dX0_plugs_2 : decode cX0_plugs 2 = .ok (.iconst 0, 1) := by decide +kernel
theorem dX0_plugs_3 : decode cX0_plugs 3 = .ok (.istore_n 2, 1) := by decide +kernel
theorem dX0_plugs_4 : decode cX0_plugs 4 = .ok (.iload_n 2, 1) := by decide +kernel
theorem dX0_plugs_5 : decode cX0_plugs 5 = .ok (.bipush 12, 2) := by decide +kernel
theorem dX0_plugs_7 : decode cX0_plugs 7 = .ok (.if_icmp .ge 35, 3) := by decide +kernel
theorem dX0_plugs_10 : decode cX0_plugs 10 = .ok (.aload_n 0, 1) := by decide +kernel
theorem dX0_plugs_11 : decode cX0_plugs 11 = .ok (.iload_n 2, 1) := by decide +kernel
theorem dX0_plugs_12 : decode cX0_plugs 12 = .ok (.invokevirtual 25, 3) := by decide +kernel
theorem dX0_plugs_15 : decode cX0_plugs 15 = .ok (.astore_n 3, 1) := by decide +kernel
theorem dX0_plugs_16 : decode cX0_plugs 16 = .ok (.iload_n 1, 1) := by decide +kernel
theorem dX0_plugs_17 : decode cX0_plugs 17 = .ok (.aload_n 3, 1) := by decide +kernel
theorem dX0_plugs_18 : decode cX0_plugs 18 = .ok (.ifnull 15, 3) := by decide +kernel
theorem dX0_plugs_21 : decode cX0_plugs 21 = .ok (.aload_n 3, 1) := by decide +kernel
theorem dX0_plugs_22 : decode cX0_plugs 22 = .ok (.getfield 36, 3) := by decide +kernel
theorem dX0_plugs_25 : decode cX0_plugs 25 = .ok (.iconst 5, 1) := by decide +kernel
theorem dX0_plugs_26 : decode cX0_plugs 26 = .ok (.if_icmp .ne 7, 3) := by decide +kernel
theorem dX0_plugs_29 : decode cX0_plugs 29 = .ok (.iconst 1, 1) := by decide +kernel
theorem dX0_plugs_30 : decode cX0_plugs 30 = .ok (.goto 4, 3) := by decide +kernel
theorem dX0_plugs_33 : decode cX0_plugs 33 = .ok (.iconst 0, 1) := by decide +kernel
theorem dX0_plugs_34 : decode cX0_plugs 34 = .ok (.iadd, 1) := by decide +kernel
theorem dX0_plugs_35 : decode cX0_plugs 35 = .ok (.istore_n 1, 1) := by decide +kernel
theorem dX0_plugs_36 : decode cX0_plugs 36 = .ok (.iinc 2 1, 3) := by decide +kernel
theorem dX0_plugs_39 : decode cX0_plugs 39 = .ok (.goto (-35), 3) := by decide +kernel
theorem dX0_plugs_42 : decode cX0_plugs 42 = .ok (.iload_n 1, 1) := by decide +kernel
theorem dX0_plugs_43 : decode cX0_plugs 43 = .ok (.ireturn, 1) := by decide +kernel
theorem dX0_spansOf_0 : decode cX0_spansOf 0 = .ok (.aload_n 1, 1) := by decide +kernel
theorem dX0_spansOf_1 : decode cX0_spansOf 1 = .ok (.getfield 36, 3) := by decide +kernel
theorem dX0_spansOf_4 : decode cX0_spansOf 4 = .ok (.iconst 4, 1) := by decide +kernel
theorem dX0_spansOf_5 : decode cX0_spansOf 5 = .ok (.if_icmp .eq 8, 3) := by decide +kernel
theorem dX0_spansOf_8 : decode cX0_spansOf 8 = .ok (.aload_n 1, 1) := by decide +kernel
theorem dX0_spansOf_9 : decode cX0_spansOf 9 = .ok (.getfield 40, 3) := by decide +kernel
theorem dX0_spansOf_12 : decode cX0_spansOf 12 = .ok (.ireturn, 1) := by decide +kernel
theorem dX0_spansOf_13 : decode cX0_spansOf 13 = .ok (.aload_n 0, 1) := by decide +kernel
theorem dX0_spansOf_14 : decode cX0_spansOf 14 = .ok (.aload_n 1, 1) := by decide +kernel
theorem dX0_spansOf_15 : decode cX0_spansOf 15 = .ok (.getfield 43, 3) := by decide +kernel
theorem dX0_spansOf_18 : decode cX0_spansOf 18 = .ok (.invokevirtual 46, 3) := by decide +kernel
theorem dX0_spansOf_21 : decode cX0_spansOf 21 = .ok (.astore_n 2, 1) := by decide +kernel
theorem dX0_spansOf_22 : decode cX0_spansOf 22 = .ok (.aload_n 0, 1) := by decide +kernel
theorem dX0_spansOf_23 : decode cX0_spansOf 23 = .ok (.aload_n 1, 1) := by decide +kernel
theorem dX0_spansOf_24 : decode cX0_spansOf 24 = .ok (.getfield 49, 3) := by decide +kernel
theorem dX0_spansOf_27 : decode cX0_spansOf 27 = .ok (.invokevirtual 46, 3) := by decide +kernel
theorem dX0_spansOf_30 : decode cX0_spansOf 30 = .ok (.astore_n 3, 1) := by decide +kernel
theorem dX0_spansOf_31 : decode cX0_spansOf 31 = .ok (.aload_n 2, 1) := by decide +kernel
theorem dX0_spansOf_32 : decode cX0_spansOf 32 = .ok (.ifnull 7, 3) := by decide +kernel
theorem dX0_spansOf_35 : decode cX0_spansOf 35 = .ok (.aload_n 3, 1) := by decide +kernel
theorem dX0_spansOf_36 : decode cX0_spansOf 36 = .ok (.ifnonnull 7, 3) := by decide +kernel
theorem dX0_spansOf_39 : decode cX0_spansOf 39 = .ok (.iconst 0, 1) := by decide +kernel
theorem dX0_spansOf_40 : decode cX0_spansOf 40 = .ok (.goto 14, 3) := by decide +kernel
theorem dX0_spansOf_43 : decode cX0_spansOf 43 = .ok (.aload_n 2, 1) := by decide +kernel
theorem dX0_spansOf_44 : decode cX0_spansOf 44 = .ok (.getfield 40, 3) := by decide +kernel
theorem dX0_spansOf_47 : decode cX0_spansOf 47 = .ok (.aload_n 3, 1) := by decide +kernel
theorem dX0_spansOf_48 : decode cX0_spansOf 48 = .ok (.getfield 40, 3) := by decide +kernel
theorem dX0_spansOf_51 : decode cX0_spansOf 51 = .ok (.invokestatic 52, 3) := by decide +kernel
theorem dX0_spansOf_54 : decode cX0_spansOf 54 = .ok (.ireturn, 1) := by decide +kernel
theorem dX0_cellOf_0 : decode cX0_cellOf 0 = .ok (.aload_n 1, 1) := by decide +kernel
theorem dX0_cellOf_1 : decode cX0_cellOf 1 = .ok (.getfield 36, 3) := by decide +kernel
theorem dX0_cellOf_4 : decode cX0_cellOf 4 = .ok (.iconst 4, 1) := by decide +kernel
theorem dX0_cellOf_5 : decode cX0_cellOf 5 = .ok (.if_icmp .eq 9, 3) := by decide +kernel
theorem dX0_cellOf_8 : decode cX0_cellOf 8 = .ok (.aload_n 1, 1) := by decide +kernel
theorem dX0_cellOf_9 : decode cX0_cellOf 9 = .ok (.iload_n 2, 1) := by decide +kernel
theorem dX0_cellOf_10 : decode cX0_cellOf 10 = .ok (.invokevirtual 58, 3) := by decide +kernel
theorem dX0_cellOf_13 : decode cX0_cellOf 13 = .ok (.ireturn, 1) := by decide +kernel
theorem dX0_cellOf_14 : decode cX0_cellOf 14 = .ok (.aload_n 0, 1) := by decide +kernel
theorem dX0_cellOf_15 : decode cX0_cellOf 15 = .ok (.aload_n 1, 1) := by decide +kernel
theorem dX0_cellOf_16 : decode cX0_cellOf 16 = .ok (.getfield 43, 3) := by decide +kernel
theorem dX0_cellOf_19 : decode cX0_cellOf 19 = .ok (.invokevirtual 46, 3) := by decide +kernel
theorem dX0_cellOf_22 : decode cX0_cellOf 22 = .ok (.astore_n 3, 1) := by decide +kernel
theorem dX0_cellOf_23 : decode cX0_cellOf 23 = .ok (.aload_n 0, 1) := by decide +kernel
theorem dX0_cellOf_24 : decode cX0_cellOf 24 = .ok (.aload_n 1, 1) := by decide +kernel
theorem dX0_cellOf_25 : decode cX0_cellOf 25 = .ok (.getfield 49, 3) := by decide +kernel
theorem dX0_cellOf_28 : decode cX0_cellOf 28 = .ok (.invokevirtual 46, 3) := by decide +kernel
theorem dX0_cellOf_31 : decode cX0_cellOf 31 = .ok (.astore 4, 2) := by decide +kernel
theorem dX0_cellOf_33 : decode cX0_cellOf 33 = .ok (.aload_n 3, 1) := by decide +kernel
theorem dX0_cellOf_34 : decode cX0_cellOf 34 = .ok (.ifnull 8, 3) := by decide +kernel
theorem dX0_cellOf_37 : decode cX0_cellOf 37 = .ok (.aload 4, 2) := by decide +kernel
theorem dX0_cellOf_39 : decode cX0_cellOf 39 = .ok (.ifnonnull 6, 3) := by decide +kernel
theorem dX0_cellOf_42 : decode cX0_cellOf 42 = .ok (.ldc 62, 2) := by decide +kernel
theorem dX0_cellOf_44 : decode cX0_cellOf 44 = .ok (.ireturn, 1) := by decide +kernel
theorem dX0_cellOf_45 : decode cX0_cellOf 45 = .ok (.aload_n 3, 1) := by decide +kernel
theorem dX0_cellOf_46 : decode cX0_cellOf 46 = .ok (.iload_n 2, 1) := by decide +kernel
theorem dX0_cellOf_47 : decode cX0_cellOf 47 = .ok (.invokevirtual 58, 3) := by decide +kernel
theorem dX0_cellOf_50 : decode cX0_cellOf 50 = .ok (.aload 4, 2) := by decide +kernel
theorem dX0_cellOf_52 : decode cX0_cellOf 52 = .ok (.iload_n 2, 1) := by decide +kernel
theorem dX0_cellOf_53 : decode cX0_cellOf 53 = .ok (.invokevirtual 58, 3) := by decide +kernel
theorem dX0_cellOf_56 : decode cX0_cellOf 56 = .ok (.invokestatic 63, 3) := by decide +kernel
theorem dX0_cellOf_59 : decode cX0_cellOf 59 = .ok (.ireturn, 1) := by decide +kernel
theorem dX0_sumOf_0 : decode cX0_sumOf 0 = .ok (.iload_n 0, 1) := by decide +kernel
theorem dX0_sumOf_1 : decode cX0_sumOf 1 = .ok (.ldc 66, 2) := by decide +kernel
theorem dX0_sumOf_3 : decode cX0_sumOf 3 = .ok (.if_icmp .eq 9, 3) := by decide +kernel
theorem dX0_sumOf_6 : decode cX0_sumOf 6 = .ok (.iload_n 1, 1) := by decide +kernel
theorem dX0_sumOf_7 : decode cX0_sumOf 7 = .ok (.ldc 66, 2) := by decide +kernel
theorem dX0_sumOf_9 : decode cX0_sumOf 9 = .ok (.if_icmp .ne 6, 3) := by decide +kernel
theorem dX0_sumOf_12 : decode cX0_sumOf 12 = .ok (.ldc 66, 2) := by decide +kernel
theorem dX0_sumOf_14 : decode cX0_sumOf 14 = .ok (.ireturn, 1) := by decide +kernel
theorem dX0_sumOf_15 : decode cX0_sumOf 15 = .ok (.iload_n 0, 1) := by decide +kernel
theorem dX0_sumOf_16 : decode cX0_sumOf 16 = .ok (.ldc 62, 2) := by decide +kernel
theorem dX0_sumOf_18 : decode cX0_sumOf 18 = .ok (.if_icmp .eq 9, 3) := by decide +kernel
theorem dX0_sumOf_21 : decode cX0_sumOf 21 = .ok (.iload_n 1, 1) := by decide +kernel
theorem dX0_sumOf_22 : decode cX0_sumOf 22 = .ok (.ldc 62, 2) := by decide +kernel
theorem dX0_sumOf_24 : decode cX0_sumOf 24 = .ok (.if_icmp .ne 6, 3) := by decide +kernel
theorem dX0_sumOf_27 : decode cX0_sumOf 27 = .ok (.ldc 62, 2) := by decide +kernel
theorem dX0_sumOf_29 : decode cX0_sumOf 29 = .ok (.ireturn, 1) := by decide +kernel
theorem dX0_sumOf_30 : decode cX0_sumOf 30 = .ok (.iload_n 0, 1) := by decide +kernel
theorem dX0_sumOf_31 : decode cX0_sumOf 31 = .ok (.i2l, 1) := by decide +kernel
theorem dX0_sumOf_32 : decode cX0_sumOf 32 = .ok (.iload_n 1, 1) := by decide +kernel
theorem dX0_sumOf_33 : decode cX0_sumOf 33 = .ok (.i2l, 1) := by decide +kernel
theorem dX0_sumOf_34 : decode cX0_sumOf 34 = .ok (.ladd, 1) := by decide +kernel
theorem dX0_sumOf_35 : decode cX0_sumOf 35 = .ok (.invokestatic 67, 3) := by decide +kernel
theorem dX0_sumOf_38 : decode cX0_sumOf 38 = .ok (.ireturn, 1) := by decide +kernel
theorem dX0_copyFrom_0 : decode cX0_copyFrom 0 = .ok (.iconst 0, 1) := by decide +kernel
theorem dX0_copyFrom_1 : decode cX0_copyFrom 1 = .ok (.istore_n 2, 1) := by decide +kernel
theorem dX0_copyFrom_2 : decode cX0_copyFrom 2 = .ok (.iload_n 2, 1) := by decide +kernel
theorem dX0_copyFrom_3 : decode cX0_copyFrom 3 = .ok (.bipush 12, 2) := by decide +kernel
theorem dX0_copyFrom_5 : decode cX0_copyFrom 5 = .ok (.if_icmp .ge 37, 3) := by decide +kernel
theorem dX0_copyFrom_8 : decode cX0_copyFrom 8 = .ok (.aload_n 0, 1) := by decide +kernel
theorem dX0_copyFrom_9 : decode cX0_copyFrom 9 = .ok (.iload_n 2, 1) := by decide +kernel
theorem dX0_copyFrom_10 : decode cX0_copyFrom 10 = .ok (.invokevirtual 25, 3) := by decide +kernel
theorem dX0_copyFrom_13 : decode cX0_copyFrom 13 = .ok (.astore_n 3, 1) := by decide +kernel
theorem dX0_copyFrom_14 : decode cX0_copyFrom 14 = .ok (.aload_n 1, 1) := by decide +kernel
theorem dX0_copyFrom_15 : decode cX0_copyFrom 15 = .ok (.iload_n 2, 1) := by decide +kernel
theorem dX0_copyFrom_16 : decode cX0_copyFrom 16 = .ok (.invokevirtual 25, 3) := by decide +kernel
theorem dX0_copyFrom_19 : decode cX0_copyFrom 19 = .ok (.astore 4, 2) := by decide +kernel
theorem dX0_copyFrom_21 : decode cX0_copyFrom 21 = .ok (.aload_n 3, 1) := by decide +kernel
theorem dX0_copyFrom_22 : decode cX0_copyFrom 22 = .ok (.ifnull 14, 3) := by decide +kernel
theorem dX0_copyFrom_25 : decode cX0_copyFrom 25 = .ok (.aload 4, 2) := by decide +kernel
theorem dX0_copyFrom_27 : decode cX0_copyFrom 27 = .ok (.ifnull 9, 3) := by decide +kernel
theorem dX0_copyFrom_30 : decode cX0_copyFrom 30 = .ok (.aload_n 3, 1) := by decide +kernel
theorem dX0_copyFrom_31 : decode cX0_copyFrom 31 = .ok (.aload 4, 2) := by decide +kernel
theorem dX0_copyFrom_33 : decode cX0_copyFrom 33 = .ok (.invokevirtual 73, 3) := by decide +kernel
theorem dX0_copyFrom_36 : decode cX0_copyFrom 36 = .ok (.iinc 2 1, 3) := by decide +kernel
theorem dX0_copyFrom_39 : decode cX0_copyFrom 39 = .ok (.goto (-37), 3) := by decide +kernel
theorem dX0_copyFrom_42 : decode cX0_copyFrom 42 = .ok (.iconst 0, 1) := by decide +kernel
theorem dX0_copyFrom_43 : decode cX0_copyFrom 43 = .ok (.istore_n 2, 1) := by decide +kernel
theorem dX0_copyFrom_44 : decode cX0_copyFrom 44 = .ok (.iload_n 2, 1) := by decide +kernel
theorem dX0_copyFrom_45 : decode cX0_copyFrom 45 = .ok (.bipush 12, 2) := by decide +kernel
theorem dX0_copyFrom_47 : decode cX0_copyFrom 47 = .ok (.if_icmp .ge 37, 3) := by decide +kernel
theorem dX0_copyFrom_50 : decode cX0_copyFrom 50 = .ok (.aload_n 0, 1) := by decide +kernel
theorem dX0_copyFrom_51 : decode cX0_copyFrom 51 = .ok (.iload_n 2, 1) := by decide +kernel
theorem dX0_copyFrom_52 : decode cX0_copyFrom 52 = .ok (.invokevirtual 77, 3) := by decide +kernel
theorem dX0_copyFrom_55 : decode cX0_copyFrom 55 = .ok (.astore_n 3, 1) := by decide +kernel
theorem dX0_copyFrom_56 : decode cX0_copyFrom 56 = .ok (.aload_n 1, 1) := by decide +kernel
theorem dX0_copyFrom_57 : decode cX0_copyFrom 57 = .ok (.iload_n 2, 1) := by decide +kernel
theorem dX0_copyFrom_58 : decode cX0_copyFrom 58 = .ok (.invokevirtual 77, 3) := by decide +kernel
theorem dX0_copyFrom_61 : decode cX0_copyFrom 61 = .ok (.astore 4, 2) := by decide +kernel
theorem dX0_copyFrom_63 : decode cX0_copyFrom 63 = .ok (.aload_n 3, 1) := by decide +kernel
theorem dX0_copyFrom_64 : decode cX0_copyFrom 64 = .ok (.ifnull 14, 3) := by decide +kernel
theorem dX0_copyFrom_67 : decode cX0_copyFrom 67 = .ok (.aload 4, 2) := by decide +kernel
theorem dX0_copyFrom_69 : decode cX0_copyFrom 69 = .ok (.ifnull 9, 3) := by decide +kernel
theorem dX0_copyFrom_72 : decode cX0_copyFrom 72 = .ok (.aload_n 3, 1) := by decide +kernel
theorem dX0_copyFrom_73 : decode cX0_copyFrom 73 = .ok (.aload 4, 2) := by decide +kernel
theorem dX0_copyFrom_75 : decode cX0_copyFrom 75 = .ok (.invokevirtual 81, 3) := by decide +kernel
theorem dX0_copyFrom_78 : decode cX0_copyFrom 78 = .ok (.iinc 2 1, 3) := by decide +kernel
theorem dX0_copyFrom_81 : decode cX0_copyFrom 81 = .ok (.goto (-37), 3) := by decide +kernel
theorem dX0_copyFrom_84 : decode cX0_copyFrom 84 = .ok (.return_, 1) := by decide +kernel
theorem dX1_init_0 : decode cX1_init 0 = .ok (.aload_n 0, 1) := by decide +kernel
theorem dX1_init_1 : decode cX1_init 1 = .ok (.invokespecial 3, 3) := by decide +kernel
theorem dX1_init_4 : decode cX1_init 4 = .ok (.aload_n 0, 1) := by decide +kernel
theorem dX1_init_5 : decode cX1_init 5 = .ok (.sipush 256, 3) := by decide +kernel
theorem dX1_init_8 : decode cX1_init 8 = .ok (.newarray .int, 2) := by decide +kernel
theorem dX1_init_10 : decode cX1_init 10 = .ok (.putfield 9, 3) := by decide +kernel
theorem dX1_init_13 : decode cX1_init 13 = .ok (.aload_n 0, 1) := by decide +kernel
theorem dX1_init_14 : decode cX1_init 14 = .ok (.sipush 256, 3) := by decide +kernel
theorem dX1_init_17 : decode cX1_init 17 = .ok (.newarray .int, 2) := by decide +kernel
theorem dX1_init_19 : decode cX1_init 19 = .ok (.putfield 15, 3) := by decide +kernel
theorem dX1_init_22 : decode cX1_init 22 = .ok (.return_, 1) := by decide +kernel
theorem dX1_begin_0 : decode cX1_begin 0 = .ok (.iconst 0, 1) := by decide +kernel
theorem dX1_begin_1 : decode cX1_begin 1 = .ok (.istore_n 1, 1) := by decide +kernel
theorem dX1_begin_2 : decode cX1_begin 2 = .ok (.iload_n 1, 1) := by decide +kernel
theorem dX1_begin_3 : decode cX1_begin 3 = .ok (.aload_n 0, 1) := by decide +kernel
theorem dX1_begin_4 : decode cX1_begin 4 = .ok (.getfield 9, 3) := by decide +kernel
theorem dX1_begin_7 : decode cX1_begin 7 = .ok (.arraylength, 1) := by decide +kernel
theorem dX1_begin_8 : decode cX1_begin 8 = .ok (.if_icmp .ge 16, 3) := by decide +kernel
theorem dX1_begin_11 : decode cX1_begin 11 = .ok (.aload_n 0, 1) := by decide +kernel
theorem dX1_begin_12 : decode cX1_begin 12 = .ok (.getfield 9, 3) := by decide +kernel
theorem dX1_begin_15 : decode cX1_begin 15 = .ok (.iload_n 1, 1) := by decide +kernel
theorem dX1_begin_16 : decode cX1_begin 16 = .ok (.iconst (-1), 1) := by decide +kernel
theorem dX1_begin_17 : decode cX1_begin 17 = .ok (.iastore, 1) := by decide +kernel
theorem dX1_begin_18 : decode cX1_begin 18 = .ok (.iinc 1 1, 3) := by decide +kernel
theorem dX1_begin_21 : decode cX1_begin 21 = .ok (.goto (-19), 3) := by decide +kernel
theorem dX1_begin_24 : decode cX1_begin 24 = .ok (.iconst 0, 1) := by decide +kernel
theorem dX1_begin_25 : decode cX1_begin 25 = .ok (.istore_n 1, 1) := by decide +kernel
theorem dX1_begin_26 : decode cX1_begin 26 = .ok (.iload_n 1, 1) := by decide +kernel
theorem dX1_begin_27 : decode cX1_begin 27 = .ok (.aload_n 0, 1) := by decide +kernel
theorem dX1_begin_28 : decode cX1_begin 28 = .ok (.getfield 15, 3) := by decide +kernel
theorem dX1_begin_31 : decode cX1_begin 31 = .ok (.arraylength, 1) := by decide +kernel
theorem dX1_begin_32 : decode cX1_begin 32 = .ok (.if_icmp .ge 16, 3) := by decide +kernel
theorem dX1_begin_35 : decode cX1_begin 35 = .ok (.aload_n 0, 1) := by decide +kernel
theorem dX1_begin_36 : decode cX1_begin 36 = .ok (.getfield 15, 3) := by decide +kernel
theorem dX1_begin_39 : decode cX1_begin 39 = .ok (.iload_n 1, 1) := by decide +kernel
theorem dX1_begin_40 : decode cX1_begin 40 = .ok (.iconst (-1), 1) := by decide +kernel
theorem dX1_begin_41 : decode cX1_begin 41 = .ok (.iastore, 1) := by decide +kernel
theorem dX1_begin_42 : decode cX1_begin 42 = .ok (.iinc 1 1, 3) := by decide +kernel
theorem dX1_begin_45 : decode cX1_begin 45 = .ok (.goto (-19), 3) := by decide +kernel
theorem dX1_begin_48 : decode cX1_begin 48 = .ok (.return_, 1) := by decide +kernel
theorem dX1_pair_0 : decode cX1_pair 0 = .ok (.iload_n 1, 1) := by decide +kernel
theorem dX1_pair_1 : decode cX1_pair 1 = .ok (.ifCond .lt 39, 3) := by decide +kernel
theorem dX1_pair_4 : decode cX1_pair 4 = .ok (.iload_n 1, 1) := by decide +kernel
theorem dX1_pair_5 : decode cX1_pair 5 = .ok (.aload_n 0, 1) := by decide +kernel
theorem dX1_pair_6 : decode cX1_pair 6 = .ok (.getfield 9, 3) := by decide +kernel
theorem dX1_pair_9 : decode cX1_pair 9 = .ok (.arraylength, 1) := by decide +kernel
theorem dX1_pair_10 : decode cX1_pair 10 = .ok (.if_icmp .ge 30, 3) := by decide +kernel
theorem dX1_pair_13 : decode cX1_pair 13 = .ok (.iload_n 2, 1) := by decide +kernel
theorem dX1_pair_14 : decode cX1_pair 14 = .ok (.ifCond .lt 26, 3) := by decide +kernel
theorem dX1_pair_17 : decode cX1_pair 17 = .ok (.iload_n 2, 1) := by decide +kernel
theorem dX1_pair_18 : decode cX1_pair 18 = .ok (.aload_n 0, 1) := by decide +kernel
theorem dX1_pair_19 : decode cX1_pair 19 = .ok (.getfield 9, 3) := by decide +kernel
theorem dX1_pair_22 : decode cX1_pair 22 = .ok (.arraylength, 1) := by decide +kernel
theorem dX1_pair_23 : decode cX1_pair 23 = .ok (.if_icmp .ge 17, 3) := by decide +kernel
theorem dX1_pair_26 : decode cX1_pair 26 = .ok (.aload_n 0, 1) := by decide +kernel
theorem dX1_pair_27 : decode cX1_pair 27 = .ok (.getfield 9, 3) := by decide +kernel
theorem dX1_pair_30 : decode cX1_pair 30 = .ok (.iload_n 1, 1) := by decide +kernel
theorem dX1_pair_31 : decode cX1_pair 31 = .ok (.iload_n 2, 1) := by decide +kernel
theorem dX1_pair_32 : decode cX1_pair 32 = .ok (.iastore, 1) := by decide +kernel
theorem dX1_pair_33 : decode cX1_pair 33 = .ok (.aload_n 0, 1) := by decide +kernel
theorem dX1_pair_34 : decode cX1_pair 34 = .ok (.getfield 9, 3) := by decide +kernel
theorem dX1_pair_37 : decode cX1_pair 37 = .ok (.iload_n 2, 1) := by decide +kernel
theorem dX1_pair_38 : decode cX1_pair 38 = .ok (.iload_n 1, 1) := by decide +kernel
theorem dX1_pair_39 : decode cX1_pair 39 = .ok (.iastore, 1) := by decide +kernel
theorem dX1_pair_40 : decode cX1_pair 40 = .ok (.return_, 1) := by decide +kernel
theorem dX1_tell_0 : decode cX1_tell 0 = .ok (.iload_n 1, 1) := by decide +kernel
theorem dX1_tell_1 : decode cX1_tell 1 = .ok (.ifCond .lt 69, 3) := by decide +kernel
theorem dX1_tell_4 : decode cX1_tell 4 = .ok (.iload_n 1, 1) := by decide +kernel
theorem dX1_tell_5 : decode cX1_tell 5 = .ok (.aload_n 0, 1) := by decide +kernel
theorem dX1_tell_6 : decode cX1_tell 6 = .ok (.getfield 15, 3) := by decide +kernel
theorem dX1_tell_9 : decode cX1_tell 9 = .ok (.arraylength, 1) := by decide +kernel
theorem dX1_tell_10 : decode cX1_tell 10 = .ok (.if_icmp .ge 60, 3) := by decide +kernel
theorem dX1_tell_13 : decode cX1_tell 13 = .ok (.iload_n 2, 1) := by decide +kernel
theorem dX1_tell_14 : decode cX1_tell 14 = .ok (.ifCond .lt 56, 3) := by decide +kernel
theorem dX1_tell_17 : decode cX1_tell 17 = .ok (.iload_n 2, 1) := by decide +kernel
theorem dX1_tell_18 : decode cX1_tell 18 = .ok (.aload_n 0, 1) := by decide +kernel
theorem dX1_tell_19 : decode cX1_tell 19 = .ok (.getfield 15, 3) := by decide +kernel
theorem dX1_tell_22 : decode cX1_tell 22 = .ok (.arraylength, 1) := by decide +kernel
theorem dX1_tell_23 : decode cX1_tell 23 = .ok (.if_icmp .ge 47, 3) := by decide +kernel
theorem dX1_tell_26 : decode cX1_tell 26 = .ok (.aload_n 0, 1) := by decide +kernel
theorem dX1_tell_27 : decode cX1_tell 27 = .ok (.getfield 15, 3) := by decide +kernel
theorem dX1_tell_30 : decode cX1_tell 30 = .ok (.iload_n 1, 1) := by decide +kernel
theorem dX1_tell_31 : decode cX1_tell 31 = .ok (.aload_n 0, 1) := by decide +kernel
theorem dX1_tell_32 : decode cX1_tell 32 = .ok (.getfield 15, 3) := by decide +kernel
theorem dX1_tell_35 : decode cX1_tell 35 = .ok (.iload_n 1, 1) := by decide +kernel
theorem dX1_tell_36 : decode cX1_tell 36 = .ok (.iaload, 1) := by decide +kernel
theorem dX1_tell_37 : decode cX1_tell 37 = .ok (.iconst (-1), 1) := by decide +kernel
theorem dX1_tell_38 : decode cX1_tell 38 = .ok (.if_icmp .ne 7, 3) := by decide +kernel
theorem dX1_tell_41 : decode cX1_tell 41 = .ok (.iload_n 2, 1) := by decide +kernel
theorem dX1_tell_42 : decode cX1_tell 42 = .ok (.goto 5, 3) := by decide +kernel
theorem dX1_tell_45 : decode cX1_tell 45 = .ok (.bipush (-2), 2) := by decide +kernel
theorem dX1_tell_47 : decode cX1_tell 47 = .ok (.iastore, 1) := by decide +kernel
theorem dX1_tell_48 : decode cX1_tell 48 = .ok (.aload_n 0, 1) := by decide +kernel
theorem dX1_tell_49 : decode cX1_tell 49 = .ok (.getfield 15, 3) := by decide +kernel
theorem dX1_tell_52 : decode cX1_tell 52 = .ok (.iload_n 2, 1) := by decide +kernel
theorem dX1_tell_53 : decode cX1_tell 53 = .ok (.aload_n 0, 1) := by decide +kernel
theorem dX1_tell_54 : decode cX1_tell 54 = .ok (.getfield 15, 3) := by decide +kernel
theorem dX1_tell_57 : decode cX1_tell 57 = .ok (.iload_n 2, 1) := by decide +kernel
theorem dX1_tell_58 : decode cX1_tell 58 = .ok (.iaload, 1) := by decide +kernel
theorem dX1_tell_59 : decode cX1_tell 59 = .ok (.iconst (-1), 1) := by decide +kernel
theorem dX1_tell_60 : decode cX1_tell 60 = .ok (.if_icmp .ne 7, 3) := by decide +kernel
theorem dX1_tell_63 : decode cX1_tell 63 = .ok (.iload_n 1, 1) := by decide +kernel
theorem dX1_tell_64 : decode cX1_tell 64 = .ok (.goto 5, 3) := by decide +kernel
theorem dX1_tell_67 : decode cX1_tell 67 = .ok (.bipush (-2), 2) := by decide +kernel
theorem dX1_tell_69 : decode cX1_tell 69 = .ok (.iastore, 1) := by decide +kernel
theorem dX1_tell_70 : decode cX1_tell 70 = .ok (.return_, 1) := by decide +kernel
theorem dX1_leastWrong_0 : decode cX1_leastWrong 0 = .ok (.iconst 0, 1) := by decide +kernel
theorem dX1_leastWrong_1 : decode cX1_leastWrong 1 = .ok (.istore_n 2, 1) := by decide +kernel
theorem dX1_leastWrong_2 : decode cX1_leastWrong 2 = .ok (.iload_n 2, 1) := by decide +kernel
theorem dX1_leastWrong_3 : decode cX1_leastWrong 3 = .ok (.iload_n 1, 1) := by decide +kernel
theorem dX1_leastWrong_4 : decode cX1_leastWrong 4 = .ok (.if_icmp .ge 44, 3) := by decide +kernel
theorem dX1_leastWrong_7 : decode cX1_leastWrong 7 = .ok (.iload_n 2, 1) := by decide +kernel
theorem dX1_leastWrong_8 : decode cX1_leastWrong 8 = .ok (.aload_n 0, 1) := by decide +kernel
theorem dX1_leastWrong_9 : decode cX1_leastWrong 9 = .ok (.getfield 9, 3) := by decide +kernel
theorem dX1_leastWrong_12 : decode cX1_leastWrong 12 = .ok (.arraylength, 1) := by decide +kernel
theorem dX1_leastWrong_13 : decode cX1_leastWrong 13 = .ok (.if_icmp .ge 35, 3) := by decide +kernel
theorem dX1_leastWrong_16 : decode cX1_leastWrong 16 = .ok (.iload_n 2, 1) := by decide +kernel
theorem dX1_leastWrong_17 : decode cX1_leastWrong 17 = .ok (.aload_n 0, 1) := by decide +kernel
theorem dX1_leastWrong_18 : decode cX1_leastWrong 18 = .ok (.getfield 15, 3) := by decide +kernel
theorem dX1_leastWrong_21 : decode cX1_leastWrong 21 = .ok (.arraylength, 1) := by decide +kernel
theorem dX1_leastWrong_22 : decode cX1_leastWrong 22 = .ok (.if_icmp .ge 26, 3) := by decide +kernel
theorem dX1_leastWrong_25 : decode cX1_leastWrong 25 = .ok (.aload_n 0, 1) := by decide +kernel
theorem dX1_leastWrong_26 : decode cX1_leastWrong 26 = .ok (.getfield 9, 3) := by decide +kernel
theorem dX1_leastWrong_29 : decode cX1_leastWrong 29 = .ok (.iload_n 2, 1) := by decide +kernel
theorem dX1_leastWrong_30 : decode cX1_leastWrong 30 = .ok (.iaload, 1) := by decide +kernel
theorem dX1_leastWrong_31 : decode cX1_leastWrong 31 = .ok (.aload_n 0, 1) := by decide +kernel
theorem dX1_leastWrong_32 : decode cX1_leastWrong 32 = .ok (.getfield 15, 3) := by decide +kernel
theorem dX1_leastWrong_35 : decode cX1_leastWrong 35 = .ok (.iload_n 2, 1) := by decide +kernel
theorem dX1_leastWrong_36 : decode cX1_leastWrong 36 = .ok (.iaload, 1) := by decide +kernel
theorem dX1_leastWrong_37 : decode cX1_leastWrong 37 = .ok (.if_icmp .eq 5, 3) := by decide +kernel
theorem dX1_leastWrong_40 : decode cX1_leastWrong 40 = .ok (.iload_n 2, 1) := by decide +kernel
theorem dX1_leastWrong_41 : decode cX1_leastWrong 41 = .ok (.ireturn, 1) := by decide +kernel
theorem dX1_leastWrong_42 : decode cX1_leastWrong 42 = .ok (.iinc 2 1, 3) := by decide +kernel
theorem dX1_leastWrong_45 : decode cX1_leastWrong 45 = .ok (.goto (-43), 3) := by decide +kernel
theorem dX1_leastWrong_48 : decode cX1_leastWrong 48 = .ok (.iconst (-1), 1) := by decide +kernel
theorem dX1_leastWrong_49 : decode cX1_leastWrong 49 = .ok (.ireturn, 1) := by decide +kernel
theorem dX2_init_0 : decode cX2_init 0 = .ok (.aload_n 0, 1) := by decide +kernel
theorem dX2_init_1 : decode cX2_init 1 = .ok (.invokespecial 3, 3) := by decide +kernel
theorem dX2_init_4 : decode cX2_init 4 = .ok (.aload_n 0, 1) := by decide +kernel
theorem dX2_init_5 : decode cX2_init 5 = .ok (.new 9, 3) := by decide +kernel
theorem dX2_init_8 : decode cX2_init 8 = .ok (.dup, 1) := by decide +kernel
theorem dX2_init_9 : decode cX2_init 9 = .ok (.bipush 6, 2) := by decide +kernel
theorem dX2_init_11 : decode cX2_init 11 = .ok (.invokespecial 11, 3) := by decide +kernel
theorem dX2_init_14 : decode cX2_init 14 = .ok (.putfield 14, 3) := by decide +kernel
theorem dX2_init_17 : decode cX2_init 17 = .ok (.aload_n 0, 1) := by decide +kernel
theorem dX2_init_18 : decode cX2_init 18 = .ok (.new 9, 3) := by decide +kernel
theorem dX2_init_21 : decode cX2_init 21 = .ok (.dup, 1) := by decide +kernel
theorem dX2_init_22 : decode cX2_init 22 = .ok (.iconst 4, 1) := by decide +kernel
theorem dX2_init_23 : decode cX2_init 23 = .ok (.invokespecial 11, 3) := by decide +kernel
theorem dX2_init_26 : decode cX2_init 26 = .ok (.putfield 20, 3) := by decide +kernel
theorem dX2_init_29 : decode cX2_init 29 = .ok (.aload_n 0, 1) := by decide +kernel
theorem dX2_init_30 : decode cX2_init 30 = .ok (.new 9, 3) := by decide +kernel
theorem dX2_init_33 : decode cX2_init 33 = .ok (.dup, 1) := by decide +kernel
theorem dX2_init_34 : decode cX2_init 34 = .ok (.iconst 4, 1) := by decide +kernel
theorem dX2_init_35 : decode cX2_init 35 = .ok (.invokespecial 11, 3) := by decide +kernel
theorem dX2_init_38 : decode cX2_init 38 = .ok (.putfield 23, 3) := by decide +kernel
theorem dX2_init_41 : decode cX2_init 41 = .ok (.aload_n 0, 1) := by decide +kernel
theorem dX2_init_42 : decode cX2_init 42 = .ok (.iconst (-1), 1) := by decide +kernel
theorem dX2_init_43 : decode cX2_init 43 = .ok (.putfield 26, 3) := by decide +kernel
theorem dX2_init_46 : decode cX2_init 46 = .ok (.aload_n 0, 1) := by decide +kernel
theorem dX2_init_47 : decode cX2_init 47 = .ok (.iconst (-1), 1) := by decide +kernel
theorem dX2_init_48 : decode cX2_init 48 = .ok (.putfield 30, 3) := by decide +kernel
theorem dX2_init_51 : decode cX2_init 51 = .ok (.return_, 1) := by decide +kernel
theorem dX2_copyFrom_0 : decode cX2_copyFrom 0 = .ok (.aload_n 0, 1) := by decide +kernel
theorem dX2_copyFrom_1 : decode cX2_copyFrom 1 = .ok (.getfield 14, 3) := by decide +kernel
theorem dX2_copyFrom_4 : decode cX2_copyFrom 4 = .ok (.aload_n 1, 1) := by decide +kernel
theorem dX2_copyFrom_5 : decode cX2_copyFrom 5 = .ok (.getfield 14, 3) := by decide +kernel
theorem dX2_copyFrom_8 : decode cX2_copyFrom 8 = .ok (.invokevirtual 33, 3) := by decide +kernel
theorem dX2_copyFrom_11 : decode cX2_copyFrom 11 = .ok (.aload_n 0, 1) := by decide +kernel
theorem dX2_copyFrom_12 : decode cX2_copyFrom 12 = .ok (.getfield 20, 3) := by decide +kernel
theorem dX2_copyFrom_15 : decode cX2_copyFrom 15 = .ok (.aload_n 1, 1) := by decide +kernel
theorem dX2_copyFrom_16 : decode cX2_copyFrom 16 = .ok (.getfield 20, 3) := by decide +kernel
theorem dX2_copyFrom_19 : decode cX2_copyFrom 19 = .ok (.invokevirtual 33, 3) := by decide +kernel
theorem dX2_copyFrom_22 : decode cX2_copyFrom 22 = .ok (.aload_n 0, 1) := by decide +kernel
theorem dX2_copyFrom_23 : decode cX2_copyFrom 23 = .ok (.getfield 23, 3) := by decide +kernel
theorem dX2_copyFrom_26 : decode cX2_copyFrom 26 = .ok (.aload_n 1, 1) := by decide +kernel
theorem dX2_copyFrom_27 : decode cX2_copyFrom 27 = .ok (.getfield 23, 3) := by decide +kernel
theorem dX2_copyFrom_30 : decode cX2_copyFrom 30 = .ok (.invokevirtual 33, 3) := by decide +kernel
theorem dX2_copyFrom_33 : decode cX2_copyFrom 33 = .ok (.aload_n 0, 1) := by decide +kernel
theorem dX2_copyFrom_34 : decode cX2_copyFrom 34 = .ok (.aload_n 1, 1) := by decide +kernel
theorem dX2_copyFrom_35 : decode cX2_copyFrom 35 = .ok (.getfield 26, 3) := by decide +kernel
theorem dX2_copyFrom_38 : decode cX2_copyFrom 38 = .ok (.putfield 26, 3) := by decide +kernel
theorem dX2_copyFrom_41 : decode cX2_copyFrom 41 = .ok (.aload_n 0, 1) := by decide +kernel
theorem dX2_copyFrom_42 : decode cX2_copyFrom 42 = .ok (.aload_n 1, 1) := by decide +kernel
theorem dX2_copyFrom_43 : decode cX2_copyFrom 43 = .ok (.getfield 37, 3) := by decide +kernel
theorem dX2_copyFrom_46 : decode cX2_copyFrom 46 = .ok (.putfield 37, 3) := by decide +kernel
theorem dX2_copyFrom_49 : decode cX2_copyFrom 49 = .ok (.aload_n 0, 1) := by decide +kernel
theorem dX2_copyFrom_50 : decode cX2_copyFrom 50 = .ok (.aload_n 1, 1) := by decide +kernel
theorem dX2_copyFrom_51 : decode cX2_copyFrom 51 = .ok (.getfield 40, 3) := by decide +kernel
theorem dX2_copyFrom_54 : decode cX2_copyFrom 54 = .ok (.putfield 40, 3) := by decide +kernel
theorem dX2_copyFrom_57 : decode cX2_copyFrom 57 = .ok (.aload_n 0, 1) := by decide +kernel
theorem dX2_copyFrom_58 : decode cX2_copyFrom 58 = .ok (.aload_n 1, 1) := by decide +kernel
theorem dX2_copyFrom_59 : decode cX2_copyFrom 59 = .ok (.getfield 43, 3) := by decide +kernel
theorem dX2_copyFrom_62 : decode cX2_copyFrom 62 = .ok (.putfield 43, 3) := by decide +kernel
theorem dX2_copyFrom_65 : decode cX2_copyFrom 65 = .ok (.aload_n 0, 1) := by decide +kernel
theorem dX2_copyFrom_66 : decode cX2_copyFrom 66 = .ok (.aload_n 1, 1) := by decide +kernel
theorem dX2_copyFrom_67 : decode cX2_copyFrom 67 = .ok (.getfield 30, 3) := by decide +kernel
theorem dX2_copyFrom_70 : decode cX2_copyFrom 70 = .ok (.putfield 30, 3) := by decide +kernel
theorem dX2_copyFrom_73 : decode cX2_copyFrom 73 = .ok (.aload_n 0, 1) := by decide +kernel
theorem dX2_copyFrom_74 : decode cX2_copyFrom 74 = .ok (.aload_n 1, 1) := by decide +kernel
theorem dX2_copyFrom_75 : decode cX2_copyFrom 75 = .ok (.getfield 46, 3) := by decide +kernel
theorem dX2_copyFrom_78 : decode cX2_copyFrom 78 = .ok (.putfield 46, 3) := by decide +kernel
theorem dX2_copyFrom_81 : decode cX2_copyFrom 81 = .ok (.return_, 1) := by decide +kernel
theorem dX2_effectOf_0 : decode cX2_effectOf 0 = .ok (.aload_n 0, 1) := by decide +kernel
theorem dX2_effectOf_1 : decode cX2_effectOf 1 = .ok (.getfield 20, 3) := by decide +kernel
theorem dX2_effectOf_4 : decode cX2_effectOf 4 = .ok (.aload_n 1, 1) := by decide +kernel
theorem dX2_effectOf_5 : decode cX2_effectOf 5 = .ok (.iload_n 2, 1) := by decide +kernel
theorem dX2_effectOf_6 : decode cX2_effectOf 6 = .ok (.iload_n 3, 1) := by decide +kernel
theorem dX2_effectOf_7 : decode cX2_effectOf 7 = .ok (.invokevirtual 49, 3) := by decide +kernel
theorem dX2_effectOf_10 : decode cX2_effectOf 10 = .ok (.invokevirtual 55, 3) := by decide +kernel
theorem dX2_effectOf_13 : decode cX2_effectOf 13 = .ok (.istore 4, 2) := by decide +kernel
theorem dX2_effectOf_15 : decode cX2_effectOf 15 = .ok (.iload 4, 2) := by decide +kernel
theorem dX2_effectOf_17 : decode cX2_effectOf 17 = .ok (.iconst (-1), 1) := by decide +kernel
theorem dX2_effectOf_18 : decode cX2_effectOf 18 = .ok (.if_icmp .ne 8, 3) := by decide +kernel
theorem dX2_effectOf_21 : decode cX2_effectOf 21 = .ok (.bipush 100, 2) := by decide +kernel
theorem dX2_effectOf_23 : decode cX2_effectOf 23 = .ok (.goto 12, 3) := by decide +kernel
theorem dX2_effectOf_26 : decode cX2_effectOf 26 = .ok (.aload_n 0, 1) := by decide +kernel
theorem dX2_effectOf_27 : decode cX2_effectOf 27 = .ok (.getfield 20, 3) := by decide +kernel
theorem dX2_effectOf_30 : decode cX2_effectOf 30 = .ok (.iload 4, 2) := by decide +kernel
theorem dX2_effectOf_32 : decode cX2_effectOf 32 = .ok (.invokevirtual 59, 3) := by decide +kernel
theorem dX2_effectOf_35 : decode cX2_effectOf 35 = .ok (.istore 5, 2) := by decide +kernel
theorem dX2_effectOf_37 : decode cX2_effectOf 37 = .ok (.aload_n 1, 1) := by decide +kernel
theorem dX2_effectOf_38 : decode cX2_effectOf 38 = .ok (.iload_n 2, 1) := by decide +kernel
theorem dX2_effectOf_39 : decode cX2_effectOf 39 = .ok (.iload_n 3, 1) := by decide +kernel
theorem dX2_effectOf_40 : decode cX2_effectOf 40 = .ok (.invokevirtual 62, 3) := by decide +kernel
theorem dX2_effectOf_43 : decode cX2_effectOf 43 = .ok (.iload 5, 2) := by decide +kernel
theorem dX2_effectOf_45 : decode cX2_effectOf 45 = .ok (.imul, 1) := by decide +kernel
theorem dX2_effectOf_46 : decode cX2_effectOf 46 = .ok (.bipush 99, 2) := by decide +kernel
theorem dX2_effectOf_48 : decode cX2_effectOf 48 = .ok (.iadd, 1) := by decide +kernel
theorem dX2_effectOf_49 : decode cX2_effectOf 49 = .ok (.bipush 100, 2) := by decide +kernel
theorem dX2_effectOf_51 : decode cX2_effectOf 51 = .ok (.idiv, 1) := by decide +kernel
theorem dX2_effectOf_52 : decode cX2_effectOf 52 = .ok (.ireturn, 1) := by decide +kernel
theorem dX2_boundFor_0 : decode cX2_boundFor 0 = .ok (.aload_n 0, 1) := by decide +kernel
theorem dX2_boundFor_1 : decode cX2_boundFor 1 = .ok (.getfield 14, 3) := by decide +kernel
theorem dX2_boundFor_4 : decode cX2_boundFor 4 = .ok (.iload_n 1, 1) := by decide +kernel
theorem dX2_boundFor_5 : decode cX2_boundFor 5 = .ok (.invokevirtual 55, 3) := by decide +kernel
theorem dX2_boundFor_8 : decode cX2_boundFor 8 = .ok (.istore_n 2, 1) := by decide +kernel
theorem dX2_boundFor_9 : decode cX2_boundFor 9 = .ok (.iload_n 2, 1) := by decide +kernel
theorem dX2_boundFor_10 : decode cX2_boundFor 10 = .ok (.iconst (-1), 1) := by decide +kernel
theorem dX2_boundFor_11 : decode cX2_boundFor 11 = .ok (.if_icmp .ne 8, 3) := by decide +kernel
theorem dX2_boundFor_14 : decode cX2_boundFor 14 = .ok (.bipush 6, 2) := by decide +kernel
theorem dX2_boundFor_16 : decode cX2_boundFor 16 = .ok (.goto 4, 3) := by decide +kernel
theorem dX2_boundFor_19 : decode cX2_boundFor 19 = .ok (.iload_n 2, 1) := by decide +kernel
theorem dX2_boundFor_20 : decode cX2_boundFor 20 = .ok (.ireturn, 1) := by decide +kernel
theorem dX2_useUnder_0 : decode cX2_useUnder 0 = .ok (.iload_n 1, 1) := by decide +kernel
theorem dX2_useUnder_1 : decode cX2_useUnder 1 = .ok (.bipush 6, 2) := by decide +kernel
theorem dX2_useUnder_3 : decode cX2_useUnder 3 = .ok (.if_icmp .ne 7, 3) := by decide +kernel
theorem dX2_useUnder_6 : decode cX2_useUnder 6 = .ok (.iconst 1, 1) := by decide +kernel
theorem dX2_useUnder_7 : decode cX2_useUnder 7 = .ok (.goto 11, 3) := by decide +kernel
theorem dX2_useUnder_10 : decode cX2_useUnder 10 = .ok (.aload_n 0, 1) := by decide +kernel
theorem dX2_useUnder_11 : decode cX2_useUnder 11 = .ok (.getfield 14, 3) := by decide +kernel
theorem dX2_useUnder_14 : decode cX2_useUnder 14 = .ok (.iload_n 1, 1) := by decide +kernel
theorem dX2_useUnder_15 : decode cX2_useUnder 15 = .ok (.invokevirtual 59, 3) := by decide +kernel
theorem dX2_useUnder_18 : decode cX2_useUnder 18 = .ok (.istore_n 2, 1) := by decide +kernel
theorem dX2_useUnder_19 : decode cX2_useUnder 19 = .ok (.iload_n 2, 1) := by decide +kernel
theorem dX2_useUnder_20 : decode cX2_useUnder 20 = .ok (.iconst 1, 1) := by decide +kernel
theorem dX2_useUnder_21 : decode cX2_useUnder 21 = .ok (.if_icmp .ge 9, 3) := by decide +kernel
theorem dX2_useUnder_24 : decode cX2_useUnder 24 = .ok (.ldc2_w 65, 3) := by decide +kernel
theorem dX2_useUnder_27 : decode cX2_useUnder 27 = .ok (.goto 9, 3) := by decide +kernel
theorem dX2_useUnder_30 : decode cX2_useUnder 30 = .ok (.ldc2_w 65, 3) := by decide +kernel
theorem dX2_useUnder_33 : decode cX2_useUnder 33 = .ok (.iload_n 2, 1) := by decide +kernel
theorem dX2_useUnder_34 : decode cX2_useUnder 34 = .ok (.i2l, 1) := by decide +kernel
theorem dX2_useUnder_35 : decode cX2_useUnder 35 = .ok (.ldiv, 1) := by decide +kernel
theorem dX2_useUnder_36 : decode cX2_useUnder 36 = .ok (.lreturn, 1) := by decide +kernel
theorem dX2_growthAt_0 : decode cX2_growthAt 0 = .ok (.aload_n 0, 1) := by decide +kernel
theorem dX2_growthAt_1 : decode cX2_growthAt 1 = .ok (.getfield 23, 3) := by decide +kernel
theorem dX2_growthAt_4 : decode cX2_growthAt 4 = .ok (.iload_n 1, 1) := by decide +kernel
theorem dX2_growthAt_5 : decode cX2_growthAt 5 = .ok (.invokevirtual 55, 3) := by decide +kernel
theorem dX2_growthAt_8 : decode cX2_growthAt 8 = .ok (.istore_n 2, 1) := by decide +kernel
theorem dX2_growthAt_9 : decode cX2_growthAt 9 = .ok (.aload_n 0, 1) := by decide +kernel
theorem dX2_growthAt_10 : decode cX2_growthAt 10 = .ok (.getfield 23, 3) := by decide +kernel
theorem dX2_growthAt_13 : decode cX2_growthAt 13 = .ok (.iload_n 2, 1) := by decide +kernel
theorem dX2_growthAt_14 : decode cX2_growthAt 14 = .ok (.iconst (-1), 1) := by decide +kernel
theorem dX2_growthAt_15 : decode cX2_growthAt 15 = .ok (.if_icmp .ne 15, 3) := by decide +kernel
theorem dX2_growthAt_18 : decode cX2_growthAt 18 = .ok (.aload_n 0, 1) := by decide +kernel
theorem dX2_growthAt_19 : decode cX2_growthAt 19 = .ok (.getfield 23, 3) := by decide +kernel
theorem dX2_growthAt_22 : decode cX2_growthAt 22 = .ok (.getfield 67, 3) := by decide +kernel
theorem dX2_growthAt_25 : decode cX2_growthAt 25 = .ok (.iconst 1, 1) := by decide +kernel
theorem dX2_growthAt_26 : decode cX2_growthAt 26 = .ok (.isub, 1) := by decide +kernel
theorem dX2_growthAt_27 : decode cX2_growthAt 27 = .ok (.goto 4, 3) := by decide +kernel
theorem dX2_growthAt_30 : decode cX2_growthAt 30 = .ok (.iload_n 2, 1) := by decide +kernel
theorem dX2_growthAt_31 : decode cX2_growthAt 31 = .ok (.invokevirtual 59, 3) := by decide +kernel
theorem dX2_growthAt_34 : decode cX2_growthAt 34 = .ok (.ireturn, 1) := by decide +kernel
theorem dX2_cyclesUntil_0 : decode cX2_cyclesUntil 0 = .ok (.iload_n 2, 1) := by decide +kernel
theorem dX2_cyclesUntil_1 : decode cX2_cyclesUntil 1 = .ok (.ldc 70, 2) := by decide +kernel
theorem dX2_cyclesUntil_3 : decode cX2_cyclesUntil 3 = .ok (.if_icmp .le 7, 3) := by decide +kernel
theorem dX2_cyclesUntil_6 : decode cX2_cyclesUntil 6 = .ok (.ldc2_w 71, 3) := by decide +kernel
theorem dX2_cyclesUntil_9 : decode cX2_cyclesUntil 9 = .ok (.lreturn, 1) := by decide +kernel
theorem dX2_cyclesUntil_10 : decode cX2_cyclesUntil 10 = .ok (.iload_n 1, 1) := by decide +kernel
theorem dX2_cyclesUntil_11 : decode cX2_cyclesUntil 11 = .ok (.i2l, 1) := by decide +kernel
theorem dX2_cyclesUntil_12 : decode cX2_cyclesUntil 12 = .ok (.lstore_n 3, 1) := by decide +kernel
theorem dX2_cyclesUntil_13 : decode cX2_cyclesUntil 13 = .ok (.lconst 0, 1) := by decide +kernel
theorem dX2_cyclesUntil_14 : decode cX2_cyclesUntil 14 = .ok (.lstore 5, 2) := by decide +kernel
theorem dX2_cyclesUntil_16 : decode cX2_cyclesUntil 16 = .ok (.iconst 0, 1) := by decide +kernel
theorem dX2_cyclesUntil_17 : decode cX2_cyclesUntil 17 = .ok (.istore 7, 2) := by decide +kernel
theorem dX2_cyclesUntil_19 : decode cX2_cyclesUntil 19 = .ok (.iload 7, 2) := by decide +kernel
theorem dX2_cyclesUntil_21 : decode cX2_cyclesUntil 21 = .ok (.aload_n 0, 1) := by decide +kernel
theorem dX2_cyclesUntil_22 : decode cX2_cyclesUntil 22 = .ok (.getfield 23, 3) := by decide +kernel
theorem dX2_cyclesUntil_25 : decode cX2_cyclesUntil 25 = .ok (.getfield 67, 3) := by decide +kernel
theorem dX2_cyclesUntil_28 : decode cX2_cyclesUntil 28 = .ok (.if_icmp .ge 118, 3) := by decide +kernel
theorem dX2_cyclesUntil_31 : decode cX2_cyclesUntil 31 = .ok (.iload 7, 2) := by decide +kernel
theorem dX2_cyclesUntil_33 : decode cX2_cyclesUntil 33 = .ok (.aload_n 0, 1) := by decide +kernel
theorem dX2_cyclesUntil_34 : decode cX2_cyclesUntil 34 = .ok (.getfield 23, 3) := by decide +kernel
theorem dX2_cyclesUntil_37 : decode cX2_cyclesUntil 37 = .ok (.getfield 67, 3) := by decide +kernel
theorem dX2_cyclesUntil_40 : decode cX2_cyclesUntil 40 = .ok (.iconst 1, 1) := by decide +kernel
theorem dX2_cyclesUntil_41 : decode cX2_cyclesUntil 41 = .ok (.isub, 1) := by decide +kernel
theorem dX2_cyclesUntil_42 : decode cX2_cyclesUntil 42 = .ok (.if_icmp .ne 7, 3) := by decide +kernel
theorem dX2_cyclesUntil_45 : decode cX2_cyclesUntil 45 = .ok (.iconst 1, 1) := by decide +kernel
theorem dX2_cyclesUntil_46 : decode cX2_cyclesUntil 46 = .ok (.goto 4, 3) := by decide +kernel
theorem dX2_cyclesUntil_49 : decode cX2_cyclesUntil 49 = .ok (.iconst 0, 1) := by decide +kernel
theorem dX2_cyclesUntil_50 : decode cX2_cyclesUntil 50 = .ok (.istore 8, 2) := by decide +kernel
theorem dX2_cyclesUntil_52 : decode cX2_cyclesUntil 52 = .ok (.iload 8, 2) := by decide +kernel
theorem dX2_cyclesUntil_54 : decode cX2_cyclesUntil 54 = .ok (.ifCond .eq 8, 3) := by decide +kernel
theorem dX2_cyclesUntil_57 : decode cX2_cyclesUntil 57 = .ok (.iload_n 2, 1) := by decide +kernel
theorem dX2_cyclesUntil_58 : decode cX2_cyclesUntil 58 = .ok (.i2l, 1) := by decide +kernel
theorem dX2_cyclesUntil_59 : decode cX2_cyclesUntil 59 = .ok (.goto 20, 3) := by decide +kernel
theorem dX2_cyclesUntil_62 : decode cX2_cyclesUntil 62 = .ok (.iload_n 2, 1) := by decide +kernel
theorem dX2_cyclesUntil_63 : decode cX2_cyclesUntil 63 = .ok (.i2l, 1) := by decide +kernel
theorem dX2_cyclesUntil_64 : decode cX2_cyclesUntil 64 = .ok (.aload_n 0, 1) := by decide +kernel
theorem dX2_cyclesUntil_65 : decode cX2_cyclesUntil 65 = .ok (.getfield 23, 3) := by decide +kernel
theorem dX2_cyclesUntil_68 : decode cX2_cyclesUntil 68 = .ok (.iload 7, 2) := by decide +kernel
theorem dX2_cyclesUntil_70 : decode cX2_cyclesUntil 70 = .ok (.invokevirtual 73, 3) := by decide +kernel
theorem dX2_cyclesUntil_73 : decode cX2_cyclesUntil 73 = .ok (.i2l, 1) := by decide +kernel
theorem dX2_cyclesUntil_74 : decode cX2_cyclesUntil 74 = .ok (.lconst 1, 1) := by decide +kernel
theorem dX2_cyclesUntil_75 : decode cX2_cyclesUntil 75 = .ok (.ladd, 1) := by decide +kernel
theorem dX2_cyclesUntil_76 : decode cX2_cyclesUntil 76 = .ok (.invokestatic 76, 3) := by decide +kernel
theorem dX2_cyclesUntil_79 : decode cX2_cyclesUntil 79 = .ok (.lstore 9, 2) := by decide +kernel
theorem dX2_cyclesUntil_81 : decode cX2_cyclesUntil 81 = .ok (.aload_n 0, 1) := by decide +kernel
theorem dX2_cyclesUntil_82 : decode cX2_cyclesUntil 82 = .ok (.getfield 23, 3) := by decide +kernel
theorem dX2_cyclesUntil_85 : decode cX2_cyclesUntil 85 = .ok (.iload 7, 2) := by decide +kernel
theorem dX2_cyclesUntil_87 : decode cX2_cyclesUntil 87 = .ok (.invokevirtual 59, 3) := by decide +kernel
theorem dX2_cyclesUntil_90 : decode cX2_cyclesUntil 90 = .ok (.i2l, 1) := by decide +kernel
theorem dX2_cyclesUntil_91 : decode cX2_cyclesUntil 91 = .ok (.lstore 11, 2) := by decide +kernel
theorem dX2_cyclesUntil_93 : decode cX2_cyclesUntil 93 = .ok (.lload_n 3, 1) := by decide +kernel
theorem dX2_cyclesUntil_94 : decode cX2_cyclesUntil 94 = .ok (.lload 9, 2) := by decide +kernel
theorem dX2_cyclesUntil_96 : decode cX2_cyclesUntil 96 = .ok (.lcmp, 1) := by decide +kernel
theorem dX2_cyclesUntil_97 : decode cX2_cyclesUntil 97 = .ok (.ifCond .ge 43, 3) := by decide +kernel
theorem dX2_cyclesUntil_100 : decode cX2_cyclesUntil 100 = .ok (.lload 11, 2) := by decide +kernel
theorem dX2_cyclesUntil_102 : decode cX2_cyclesUntil 102 = .ok (.lconst 1, 1) := by decide +kernel
theorem dX2_cyclesUntil_103 : decode cX2_cyclesUntil 103 = .ok (.lcmp, 1) := by decide +kernel
theorem dX2_cyclesUntil_104 : decode cX2_cyclesUntil 104 = .ok (.ifCond .ge 7, 3) := by decide +kernel
theorem dX2_cyclesUntil_107 : decode cX2_cyclesUntil 107 = .ok (.ldc2_w 71, 3) := by decide +kernel
theorem dX2_cyclesUntil_110 : decode cX2_cyclesUntil 110 = .ok (.lreturn, 1) := by decide +kernel
theorem dX2_cyclesUntil_111 : decode cX2_cyclesUntil 111 = .ok (.lload 9, 2) := by decide +kernel
theorem dX2_cyclesUntil_113 : decode cX2_cyclesUntil 113 = .ok (.lload_n 3, 1) := by decide +kernel
theorem dX2_cyclesUntil_114 : decode cX2_cyclesUntil 114 = .ok (.lsub, 1) := by decide +kernel
theorem dX2_cyclesUntil_115 : decode cX2_cyclesUntil 115 = .ok (.lload 11, 2) := by decide +kernel
theorem dX2_cyclesUntil_117 : decode cX2_cyclesUntil 117 = .ok (.ladd, 1) := by decide +kernel
theorem dX2_cyclesUntil_118 : decode cX2_cyclesUntil 118 = .ok (.lconst 1, 1) := by decide +kernel
theorem dX2_cyclesUntil_119 : decode cX2_cyclesUntil 119 = .ok (.lsub, 1) := by decide +kernel
theorem dX2_cyclesUntil_120 : decode cX2_cyclesUntil 120 = .ok (.lload 11, 2) := by decide +kernel
theorem dX2_cyclesUntil_122 : decode cX2_cyclesUntil 122 = .ok (.ldiv, 1) := by decide +kernel
theorem dX2_cyclesUntil_123 : decode cX2_cyclesUntil 123 = .ok (.lstore 13, 2) := by decide +kernel
theorem dX2_cyclesUntil_125 : decode cX2_cyclesUntil 125 = .ok (.lload 5, 2) := by decide +kernel
theorem dX2_cyclesUntil_127 : decode cX2_cyclesUntil 127 = .ok (.lload 13, 2) := by decide +kernel
theorem dX2_cyclesUntil_129 : decode cX2_cyclesUntil 129 = .ok (.ladd, 1) := by decide +kernel
theorem dX2_cyclesUntil_130 : decode cX2_cyclesUntil 130 = .ok (.lstore 5, 2) := by decide +kernel
theorem dX2_cyclesUntil_132 : decode cX2_cyclesUntil 132 = .ok (.lload_n 3, 1) := by decide +kernel
theorem dX2_cyclesUntil_133 : decode cX2_cyclesUntil 133 = .ok (.lload 13, 2) := by decide +kernel
theorem dX2_cyclesUntil_135 : decode cX2_cyclesUntil 135 = .ok (.lload 11, 2) := by decide +kernel
theorem dX2_cyclesUntil_137 : decode cX2_cyclesUntil 137 = .ok (.lmul, 1) := by decide +kernel
theorem dX2_cyclesUntil_138 : decode cX2_cyclesUntil 138 = .ok (.ladd, 1) := by decide +kernel
theorem dX2_cyclesUntil_139 : decode cX2_cyclesUntil 139 = .ok (.lstore_n 3, 1) := by decide +kernel
theorem dX2_cyclesUntil_140 : decode cX2_cyclesUntil 140 = .ok (.iinc 7 1, 3) := by decide +kernel
theorem dX2_cyclesUntil_143 : decode cX2_cyclesUntil 143 = .ok (.goto (-124), 3) := by decide +kernel
theorem dX2_cyclesUntil_146 : decode cX2_cyclesUntil 146 = .ok (.lload_n 3, 1) := by decide +kernel
theorem dX2_cyclesUntil_147 : decode cX2_cyclesUntil 147 = .ok (.iload_n 2, 1) := by decide +kernel
theorem dX2_cyclesUntil_148 : decode cX2_cyclesUntil 148 = .ok (.i2l, 1) := by decide +kernel
theorem dX2_cyclesUntil_149 : decode cX2_cyclesUntil 149 = .ok (.lcmp, 1) := by decide +kernel
theorem dX2_cyclesUntil_150 : decode cX2_cyclesUntil 150 = .ok (.ifCond .lt 8, 3) := by decide +kernel
theorem dX2_cyclesUntil_153 : decode cX2_cyclesUntil 153 = .ok (.lload 5, 2) := by decide +kernel
theorem dX2_cyclesUntil_155 : decode cX2_cyclesUntil 155 = .ok (.goto 6, 3) := by decide +kernel
theorem dX2_cyclesUntil_158 : decode cX2_cyclesUntil 158 = .ok (.ldc2_w 71, 3) := by decide +kernel
theorem dX2_cyclesUntil_161 : decode cX2_cyclesUntil 161 = .ok (.lreturn, 1) := by decide +kernel
theorem dX3_init_0 : decode cX3_init 0 = .ok (.aload_n 0, 1) := by decide +kernel
theorem dX3_init_1 : decode cX3_init 1 = .ok (.invokespecial 3, 3) := by decide +kernel
theorem dX3_init_4 : decode cX3_init 4 = .ok (.iload_n 1, 1) := by decide +kernel
theorem dX3_init_5 : decode cX3_init 5 = .ok (.ifCond .ge 7, 3) := by decide +kernel
theorem dX3_init_8 : decode cX3_init 8 = .ok (.iconst 0, 1) := by decide +kernel
theorem dX3_init_9 : decode cX3_init 9 = .ok (.goto 4, 3) := by decide +kernel
theorem dX3_init_12 : decode cX3_init 12 = .ok (.iload_n 1, 1) := by decide +kernel
theorem dX3_init_13 : decode cX3_init 13 = .ok (.istore_n 2, 1) := by decide +kernel
theorem dX3_init_14 : decode cX3_init 14 = .ok (.aload_n 0, 1) := by decide +kernel
theorem dX3_init_15 : decode cX3_init 15 = .ok (.iload_n 2, 1) := by decide +kernel
theorem dX3_init_16 : decode cX3_init 16 = .ok (.newarray .int, 2) := by decide +kernel
theorem dX3_init_18 : decode cX3_init 18 = .ok (.putfield 9, 3) := by decide +kernel
theorem dX3_init_21 : decode cX3_init 21 = .ok (.aload_n 0, 1) := by decide +kernel
theorem dX3_init_22 : decode cX3_init 22 = .ok (.iload_n 2, 1) := by decide +kernel
theorem dX3_init_23 : decode cX3_init 23 = .ok (.newarray .int, 2) := by decide +kernel
theorem dX3_init_25 : decode cX3_init 25 = .ok (.putfield 15, 3) := by decide +kernel
theorem dX3_init_28 : decode cX3_init 28 = .ok (.return_, 1) := by decide +kernel
theorem dX3_takes_0 : decode cX3_takes 0 = .ok (.aload_n 0, 1) := by decide +kernel
theorem dX3_takes_1 : decode cX3_takes 1 = .ok (.getfield 18, 3) := by decide +kernel
theorem dX3_takes_4 : decode cX3_takes 4 = .ok (.aload_n 0, 1) := by decide +kernel
theorem dX3_takes_5 : decode cX3_takes 5 = .ok (.getfield 9, 3) := by decide +kernel
theorem dX3_takes_8 : decode cX3_takes 8 = .ok (.arraylength, 1) := by decide +kernel
theorem dX3_takes_9 : decode cX3_takes 9 = .ok (.if_icmp .lt 5, 3) := by decide +kernel
theorem dX3_takes_12 : decode cX3_takes 12 = .ok (.iconst 0, 1) := by decide +kernel
theorem dX3_takes_13 : decode cX3_takes 13 = .ok (.ireturn, 1) := by decide +kernel
theorem dX3_takes_14 : decode cX3_takes 14 = .ok (.aload_n 0, 1) := by decide +kernel
theorem dX3_takes_15 : decode cX3_takes 15 = .ok (.getfield 18, 3) := by decide +kernel
theorem dX3_takes_18 : decode cX3_takes 18 = .ok (.iconst 1, 1) := by decide +kernel
theorem dX3_takes_19 : decode cX3_takes 19 = .ok (.if_icmp .lt 18, 3) := by decide +kernel
theorem dX3_takes_22 : decode cX3_takes 22 = .ok (.iload_n 1, 1) := by decide +kernel
theorem dX3_takes_23 : decode cX3_takes 23 = .ok (.aload_n 0, 1) := by decide +kernel
theorem dX3_takes_24 : decode cX3_takes 24 = .ok (.getfield 9, 3) := by decide +kernel
theorem dX3_takes_27 : decode cX3_takes 27 = .ok (.aload_n 0, 1) := by decide +kernel
theorem dX3_takes_28 : decode cX3_takes 28 = .ok (.getfield 18, 3) := by decide +kernel
theorem dX3_takes_31 : decode cX3_takes 31 = .ok (.iconst 1, 1) := by decide +kernel
theorem dX3_takes_32 : decode cX3_takes 32 = .ok (.isub, 1) := by decide +kernel
theorem dX3_takes_33 : decode cX3_takes 33 = .ok (.iaload, 1) := by decide +kernel
theorem dX3_takes_34 : decode cX3_takes 34 = .ok (.if_icmp .le 7, 3) := by decide +kernel
theorem dX3_takes_37 : decode cX3_takes 37 = .ok (.iconst 1, 1) := by decide +kernel
theorem dX3_takes_38 : decode cX3_takes 38 = .ok (.goto 4, 3) := by decide +kernel
theorem dX3_takes_41 : decode cX3_takes 41 = .ok (.iconst 0, 1) := by decide +kernel
theorem dX3_takes_42 : decode cX3_takes 42 = .ok (.ireturn, 1) := by decide +kernel
theorem dX3_add_0 : decode cX3_add 0 = .ok (.aload_n 0, 1) := by decide +kernel
theorem dX3_add_1 : decode cX3_add 1 = .ok (.getfield 18, 3) := by decide +kernel
theorem dX3_add_4 : decode cX3_add 4 = .ok (.ifCond .lt 57, 3) := by decide +kernel
theorem dX3_add_7 : decode cX3_add 7 = .ok (.aload_n 0, 1) := by decide +kernel
theorem dX3_add_8 : decode cX3_add 8 = .ok (.getfield 18, 3) := by decide +kernel
theorem dX3_add_11 : decode cX3_add 11 = .ok (.aload_n 0, 1) := by decide +kernel
theorem dX3_add_12 : decode cX3_add 12 = .ok (.getfield 9, 3) := by decide +kernel
theorem dX3_add_15 : decode cX3_add 15 = .ok (.arraylength, 1) := by decide +kernel
theorem dX3_add_16 : decode cX3_add 16 = .ok (.if_icmp .ge 45, 3) := by decide +kernel
theorem dX3_add_19 : decode cX3_add 19 = .ok (.aload_n 0, 1) := by decide +kernel
theorem dX3_add_20 : decode cX3_add 20 = .ok (.getfield 18, 3) := by decide +kernel
theorem dX3_add_23 : decode cX3_add 23 = .ok (.aload_n 0, 1) := by decide +kernel
theorem dX3_add_24 : decode cX3_add 24 = .ok (.getfield 15, 3) := by decide +kernel
theorem dX3_add_27 : decode cX3_add 27 = .ok (.arraylength, 1) := by decide +kernel
theorem dX3_add_28 : decode cX3_add 28 = .ok (.if_icmp .ge 33, 3) := by decide +kernel
theorem dX3_add_31 : decode cX3_add 31 = .ok (.aload_n 0, 1) := by decide +kernel
theorem dX3_add_32 : decode cX3_add 32 = .ok (.getfield 9, 3) := by decide +kernel
theorem dX3_add_35 : decode cX3_add 35 = .ok (.aload_n 0, 1) := by decide +kernel
theorem dX3_add_36 : decode cX3_add 36 = .ok (.getfield 18, 3) := by decide +kernel
theorem dX3_add_39 : decode cX3_add 39 = .ok (.iload_n 1, 1) := by decide +kernel
theorem dX3_add_40 : decode cX3_add 40 = .ok (.iastore, 1) := by decide +kernel
theorem dX3_add_41 : decode cX3_add 41 = .ok (.aload_n 0, 1) := by decide +kernel
theorem dX3_add_42 : decode cX3_add 42 = .ok (.getfield 15, 3) := by decide +kernel
theorem dX3_add_45 : decode cX3_add 45 = .ok (.aload_n 0, 1) := by decide +kernel
theorem dX3_add_46 : decode cX3_add 46 = .ok (.getfield 18, 3) := by decide +kernel
theorem dX3_add_49 : decode cX3_add 49 = .ok (.iload_n 2, 1) := by decide +kernel
theorem dX3_add_50 : decode cX3_add 50 = .ok (.iastore, 1) := by decide +kernel
theorem dX3_add_51 : decode cX3_add 51 = .ok (.aload_n 0, 1) := by decide +kernel
theorem dX3_add_52 : decode cX3_add 52 = .ok (.dup, 1) := by decide +kernel
theorem dX3_add_53 : decode cX3_add 53 = .ok (.getfield 18, 3) := by decide +kernel
theorem dX3_add_56 : decode cX3_add 56 = .ok (.iconst 1, 1) := by decide +kernel
theorem dX3_add_57 : decode cX3_add 57 = .ok (.iadd, 1) := by decide +kernel
theorem dX3_add_58 : decode cX3_add 58 = .ok (.putfield 18, 3) := by decide +kernel
theorem dX3_add_61 : decode cX3_add 61 = .ok (.aload_n 0, 1) := by decide +kernel
theorem dX3_add_62 : decode cX3_add 62 = .ok (.getfield 18, 3) := by decide +kernel
theorem dX3_add_65 : decode cX3_add 65 = .ok (.ireturn, 1) := by decide +kernel
theorem dX3_firstNotBelow_0 : decode cX3_firstNotBelow 0 = .ok (.iconst 0, 1) := by decide +kernel
theorem dX3_firstNotBelow_1 : decode cX3_firstNotBelow 1 = .ok (.istore_n 2, 1) := by decide +kernel
theorem dX3_firstNotBelow_2 : decode cX3_firstNotBelow 2 = .ok (.iload_n 2, 1) := by decide +kernel
theorem dX3_firstNotBelow_3 : decode cX3_firstNotBelow 3 = .ok (.aload_n 0, 1) := by decide +kernel
theorem dX3_firstNotBelow_4 : decode cX3_firstNotBelow 4 = .ok (.getfield 18, 3) := by decide +kernel
theorem dX3_firstNotBelow_7 : decode cX3_firstNotBelow 7 = .ok (.if_icmp .ge 30, 3) := by decide +kernel
theorem dX3_firstNotBelow_10 : decode cX3_firstNotBelow 10 = .ok (.iload_n 2, 1) := by decide +kernel
theorem dX3_firstNotBelow_11 : decode cX3_firstNotBelow 11 = .ok (.aload_n 0, 1) := by decide +kernel
theorem dX3_firstNotBelow_12 : decode cX3_firstNotBelow 12 = .ok (.getfield 9, 3) := by decide +kernel
theorem dX3_firstNotBelow_15 : decode cX3_firstNotBelow 15 = .ok (.arraylength, 1) := by decide +kernel
theorem dX3_firstNotBelow_16 : decode cX3_firstNotBelow 16 = .ok (.if_icmp .ge 21, 3) := by decide +kernel
theorem dX3_firstNotBelow_19 : decode cX3_firstNotBelow 19 = .ok (.aload_n 0, 1) := by decide +kernel
theorem dX3_firstNotBelow_20 : decode cX3_firstNotBelow 20 = .ok (.getfield 9, 3) := by decide +kernel
theorem dX3_firstNotBelow_23 : decode cX3_firstNotBelow 23 = .ok (.iload_n 2, 1) := by decide +kernel
theorem dX3_firstNotBelow_24 : decode cX3_firstNotBelow 24 = .ok (.iaload, 1) := by decide +kernel
theorem dX3_firstNotBelow_25 : decode cX3_firstNotBelow 25 = .ok (.iload_n 1, 1) := by decide +kernel
theorem dX3_firstNotBelow_26 : decode cX3_firstNotBelow 26 = .ok (.if_icmp .lt 5, 3) := by decide +kernel
theorem dX3_firstNotBelow_29 : decode cX3_firstNotBelow 29 = .ok (.iload_n 2, 1) := by decide +kernel
theorem dX3_firstNotBelow_30 : decode cX3_firstNotBelow 30 = .ok (.ireturn, 1) := by decide +kernel
theorem dX3_firstNotBelow_31 : decode cX3_firstNotBelow 31 = .ok (.iinc 2 1, 3) := by decide +kernel
theorem dX3_firstNotBelow_34 : decode cX3_firstNotBelow 34 = .ok (.goto (-32), 3) := by decide +kernel
theorem dX3_firstNotBelow_37 : decode cX3_firstNotBelow 37 = .ok (.iconst (-1), 1) := by decide +kernel
theorem dX3_firstNotBelow_38 : decode cX3_firstNotBelow 38 = .ok (.ireturn, 1) := by decide +kernel
theorem dX3_topAt_0 : decode cX3_topAt 0 = .ok (.iload_n 1, 1) := by decide +kernel
theorem dX3_topAt_1 : decode cX3_topAt 1 = .ok (.ifCond .lt 21, 3) := by decide +kernel
theorem dX3_topAt_4 : decode cX3_topAt 4 = .ok (.iload_n 1, 1) := by decide +kernel
theorem dX3_topAt_5 : decode cX3_topAt 5 = .ok (.aload_n 0, 1) := by decide +kernel
theorem dX3_topAt_6 : decode cX3_topAt 6 = .ok (.getfield 9, 3) := by decide +kernel
theorem dX3_topAt_9 : decode cX3_topAt 9 = .ok (.arraylength, 1) := by decide +kernel
theorem dX3_topAt_10 : decode cX3_topAt 10 = .ok (.if_icmp .ge 12, 3) := by decide +kernel
theorem dX3_topAt_13 : decode cX3_topAt 13 = .ok (.aload_n 0, 1) := by decide +kernel
theorem dX3_topAt_14 : decode cX3_topAt 14 = .ok (.getfield 9, 3) := by decide +kernel
theorem dX3_topAt_17 : decode cX3_topAt 17 = .ok (.iload_n 1, 1) := by decide +kernel
theorem dX3_topAt_18 : decode cX3_topAt 18 = .ok (.iaload, 1) := by decide +kernel
theorem dX3_topAt_19 : decode cX3_topAt 19 = .ok (.goto 4, 3) := by decide +kernel
theorem dX3_topAt_22 : decode cX3_topAt 22 = .ok (.iconst 0, 1) := by decide +kernel
theorem dX3_topAt_23 : decode cX3_topAt 23 = .ok (.ireturn, 1) := by decide +kernel
theorem dX3_valueAt_0 : decode cX3_valueAt 0 = .ok (.iload_n 1, 1) := by decide +kernel
theorem dX3_valueAt_1 : decode cX3_valueAt 1 = .ok (.ifCond .lt 21, 3) := by decide +kernel
theorem dX3_valueAt_4 : decode cX3_valueAt 4 = .ok (.iload_n 1, 1) := by decide +kernel
theorem dX3_valueAt_5 : decode cX3_valueAt 5 = .ok (.aload_n 0, 1) := by decide +kernel
theorem dX3_valueAt_6 : decode cX3_valueAt 6 = .ok (.getfield 15, 3) := by decide +kernel
theorem dX3_valueAt_9 : decode cX3_valueAt 9 = .ok (.arraylength, 1) := by decide +kernel
theorem dX3_valueAt_10 : decode cX3_valueAt 10 = .ok (.if_icmp .ge 12, 3) := by decide +kernel
theorem dX3_valueAt_13 : decode cX3_valueAt 13 = .ok (.aload_n 0, 1) := by decide +kernel
theorem dX3_valueAt_14 : decode cX3_valueAt 14 = .ok (.getfield 15, 3) := by decide +kernel
theorem dX3_valueAt_17 : decode cX3_valueAt 17 = .ok (.iload_n 1, 1) := by decide +kernel
theorem dX3_valueAt_18 : decode cX3_valueAt 18 = .ok (.iaload, 1) := by decide +kernel
theorem dX3_valueAt_19 : decode cX3_valueAt 19 = .ok (.goto 4, 3) := by decide +kernel
theorem dX3_valueAt_22 : decode cX3_valueAt 22 = .ok (.iconst 0, 1) := by decide +kernel
theorem dX3_valueAt_23 : decode cX3_valueAt 23 = .ok (.ireturn, 1) := by decide +kernel
theorem dX3_copyFrom_0 : decode cX3_copyFrom 0 = .ok (.aload_n 0, 1) := by decide +kernel
theorem dX3_copyFrom_1 : decode cX3_copyFrom 1 = .ok (.aload_n 1, 1) := by decide +kernel
theorem dX3_copyFrom_2 : decode cX3_copyFrom 2 = .ok (.getfield 18, 3) := by decide +kernel
theorem dX3_copyFrom_5 : decode cX3_copyFrom 5 = .ok (.putfield 18, 3) := by decide +kernel
theorem dX3_copyFrom_8 : decode cX3_copyFrom 8 = .ok (.iconst 0, 1) := by decide +kernel
theorem dX3_copyFrom_9 : decode cX3_copyFrom 9 = .ok (.istore_n 2, 1) := by decide +kernel
theorem dX3_copyFrom_10 : decode cX3_copyFrom 10 = .ok (.iload_n 2, 1) := by decide +kernel
theorem dX3_copyFrom_11 : decode cX3_copyFrom 11 = .ok (.aload_n 0, 1) := by decide +kernel
theorem dX3_copyFrom_12 : decode cX3_copyFrom 12 = .ok (.getfield 18, 3) := by decide +kernel
theorem dX3_copyFrom_15 : decode cX3_copyFrom 15 = .ok (.if_icmp .ge 29, 3) := by decide +kernel
theorem dX3_copyFrom_18 : decode cX3_copyFrom 18 = .ok (.iload_n 2, 1) := by decide +kernel
theorem dX3_copyFrom_19 : decode cX3_copyFrom 19 = .ok (.aload_n 0, 1) := by decide +kernel
theorem dX3_copyFrom_20 : decode cX3_copyFrom 20 = .ok (.getfield 9, 3) := by decide +kernel
theorem dX3_copyFrom_23 : decode cX3_copyFrom 23 = .ok (.arraylength, 1) := by decide +kernel
theorem dX3_copyFrom_24 : decode cX3_copyFrom 24 = .ok (.if_icmp .ge 20, 3) := by decide +kernel
theorem dX3_copyFrom_27 : decode cX3_copyFrom 27 = .ok (.aload_n 0, 1) := by decide +kernel
theorem dX3_copyFrom_28 : decode cX3_copyFrom 28 = .ok (.getfield 9, 3) := by decide +kernel
theorem dX3_copyFrom_31 : decode cX3_copyFrom 31 = .ok (.iload_n 2, 1) := by decide +kernel
theorem dX3_copyFrom_32 : decode cX3_copyFrom 32 = .ok (.aload_n 1, 1) := by decide +kernel
theorem dX3_copyFrom_33 : decode cX3_copyFrom 33 = .ok (.iload_n 2, 1) := by decide +kernel
theorem dX3_copyFrom_34 : decode cX3_copyFrom 34 = .ok (.invokevirtual 22, 3) := by decide +kernel
theorem dX3_copyFrom_37 : decode cX3_copyFrom 37 = .ok (.iastore, 1) := by decide +kernel
theorem dX3_copyFrom_38 : decode cX3_copyFrom 38 = .ok (.iinc 2 1, 3) := by decide +kernel
theorem dX3_copyFrom_41 : decode cX3_copyFrom 41 = .ok (.goto (-31), 3) := by decide +kernel
theorem dX3_copyFrom_44 : decode cX3_copyFrom 44 = .ok (.iconst 0, 1) := by decide +kernel
theorem dX3_copyFrom_45 : decode cX3_copyFrom 45 = .ok (.istore_n 2, 1) := by decide +kernel
theorem dX3_copyFrom_46 : decode cX3_copyFrom 46 = .ok (.iload_n 2, 1) := by decide +kernel
theorem dX3_copyFrom_47 : decode cX3_copyFrom 47 = .ok (.aload_n 0, 1) := by decide +kernel
theorem dX3_copyFrom_48 : decode cX3_copyFrom 48 = .ok (.getfield 18, 3) := by decide +kernel
theorem dX3_copyFrom_51 : decode cX3_copyFrom 51 = .ok (.if_icmp .ge 29, 3) := by decide +kernel
theorem dX3_copyFrom_54 : decode cX3_copyFrom 54 = .ok (.iload_n 2, 1) := by decide +kernel
theorem dX3_copyFrom_55 : decode cX3_copyFrom 55 = .ok (.aload_n 0, 1) := by decide +kernel
theorem dX3_copyFrom_56 : decode cX3_copyFrom 56 = .ok (.getfield 15, 3) := by decide +kernel
theorem dX3_copyFrom_59 : decode cX3_copyFrom 59 = .ok (.arraylength, 1) := by decide +kernel
theorem dX3_copyFrom_60 : decode cX3_copyFrom 60 = .ok (.if_icmp .ge 20, 3) := by decide +kernel
theorem dX3_copyFrom_63 : decode cX3_copyFrom 63 = .ok (.aload_n 0, 1) := by decide +kernel
theorem dX3_copyFrom_64 : decode cX3_copyFrom 64 = .ok (.getfield 15, 3) := by decide +kernel
theorem dX3_copyFrom_67 : decode cX3_copyFrom 67 = .ok (.iload_n 2, 1) := by decide +kernel
theorem dX3_copyFrom_68 : decode cX3_copyFrom 68 = .ok (.aload_n 1, 1) := by decide +kernel
theorem dX3_copyFrom_69 : decode cX3_copyFrom 69 = .ok (.iload_n 2, 1) := by decide +kernel
theorem dX3_copyFrom_70 : decode cX3_copyFrom 70 = .ok (.invokevirtual 26, 3) := by decide +kernel
theorem dX3_copyFrom_73 : decode cX3_copyFrom 73 = .ok (.iastore, 1) := by decide +kernel
theorem dX3_copyFrom_74 : decode cX3_copyFrom 74 = .ok (.iinc 2 1, 3) := by decide +kernel
theorem dX3_copyFrom_77 : decode cX3_copyFrom 77 = .ok (.goto (-31), 3) := by decide +kernel
theorem dX3_copyFrom_80 : decode cX3_copyFrom 80 = .ok (.return_, 1) := by decide +kernel
theorem dX4_init_0 : decode cX4_init 0 = .ok (.aload_n 0, 1) := by decide +kernel
theorem dX4_init_1 : decode cX4_init 1 = .ok (.invokespecial 3, 3) := by decide +kernel
theorem dX4_init_4 : decode cX4_init 4 = .ok (.aload_n 0, 1) := by decide +kernel
theorem dX4_init_5 : decode cX4_init 5 = .ok (.sipush 400, 3) := by decide +kernel
theorem dX4_init_8 : decode cX4_init 8 = .ok (.newarray .int, 2) := by decide +kernel
theorem dX4_init_10 : decode cX4_init 10 = .ok (.putfield 9, 3) := by decide +kernel
theorem dX4_init_13 : decode cX4_init 13 = .ok (.aload_n 0, 1) := by decide +kernel
theorem dX4_init_14 : decode cX4_init 14 = .ok (.iconst (-1), 1) := by decide +kernel
theorem dX4_init_15 : decode cX4_init 15 = .ok (.putfield 15, 3) := by decide +kernel
theorem dX4_init_18 : decode cX4_init 18 = .ok (.return_, 1) := by decide +kernel
theorem dX4_become_0 : decode cX4_become 0 = .ok (.aload_n 0, 1) := by decide +kernel
theorem dX4_become_1 : decode cX4_become 1 = .ok (.iload_n 1, 1) := by decide +kernel
theorem dX4_become_2 : decode cX4_become 2 = .ok (.putfield 15, 3) := by decide +kernel
theorem dX4_become_5 : decode cX4_become 5 = .ok (.aload_n 0, 1) := by decide +kernel
theorem dX4_become_6 : decode cX4_become 6 = .ok (.iload_n 2, 1) := by decide +kernel
theorem dX4_become_7 : decode cX4_become 7 = .ok (.putfield 19, 3) := by decide +kernel
theorem dX4_become_10 : decode cX4_become 10 = .ok (.aload_n 0, 1) := by decide +kernel
theorem dX4_become_11 : decode cX4_become 11 = .ok (.iload_n 3, 1) := by decide +kernel
theorem dX4_become_12 : decode cX4_become 12 = .ok (.putfield 22, 3) := by decide +kernel
theorem dX4_become_15 : decode cX4_become 15 = .ok (.aload_n 0, 1) := by decide +kernel
theorem dX4_become_16 : decode cX4_become 16 = .ok (.iconst 0, 1) := by decide +kernel
theorem dX4_become_17 : decode cX4_become 17 = .ok (.putfield 25, 3) := by decide +kernel
theorem dX4_become_20 : decode cX4_become 20 = .ok (.return_, 1) := by decide +kernel
theorem dX4_isGauge_0 : decode cX4_isGauge 0 = .ok (.aload_n 0, 1) := by decide +kernel
theorem dX4_isGauge_1 : decode cX4_isGauge 1 = .ok (.getfield 15, 3) := by decide +kernel
theorem dX4_isGauge_4 : decode cX4_isGauge 4 = .ok (.ifCond .lt 15, 3) := by decide +kernel
theorem dX4_isGauge_7 : decode cX4_isGauge 7 = .ok (.aload_n 0, 1) := by decide +kernel
theorem dX4_isGauge_8 : decode cX4_isGauge 8 = .ok (.getfield 15, 3) := by decide +kernel
theorem dX4_isGauge_11 : decode cX4_isGauge 11 = .ok (.iconst 4, 1) := by decide +kernel
theorem dX4_isGauge_12 : decode cX4_isGauge 12 = .ok (.if_icmp .gt 7, 3) := by decide +kernel
theorem dX4_isGauge_15 : decode cX4_isGauge 15 = .ok (.iconst 1, 1) := by decide +kernel
theorem dX4_isGauge_16 : decode cX4_isGauge 16 = .ok (.goto 4, 3) := by decide +kernel
theorem dX4_isGauge_19 : decode cX4_isGauge 19 = .ok (.iconst 0, 1) := by decide +kernel
theorem dX4_isGauge_20 : decode cX4_isGauge 20 = .ok (.ireturn, 1) := by decide +kernel
theorem dX4_add_0 : decode cX4_add 0 = .ok (.aload_n 0, 1) := by decide +kernel
theorem dX4_add_1 : decode cX4_add 1 = .ok (.getfield 25, 3) := by decide +kernel
theorem dX4_add_4 : decode cX4_add 4 = .ok (.ifCond .lt 80, 3) := by decide +kernel
theorem dX4_add_7 : decode cX4_add 7 = .ok (.aload_n 0, 1) := by decide +kernel
theorem dX4_add_8 : decode cX4_add 8 = .ok (.getfield 25, 3) := by decide +kernel
theorem dX4_add_11 : decode cX4_add 11 = .ok (.aload_n 0, 1) := by decide +kernel
theorem dX4_add_12 : decode cX4_add 12 = .ok (.getfield 9, 3) := by decide +kernel
theorem dX4_add_15 : decode cX4_add 15 = .ok (.arraylength, 1) := by decide +kernel
theorem dX4_add_16 : decode cX4_add 16 = .ok (.if_icmp .ge 68, 3) := by decide +kernel
theorem dX4_add_19 : decode cX4_add 19 = .ok (.aload_n 0, 1) := by decide +kernel
theorem dX4_add_20 : decode cX4_add 20 = .ok (.getfield 15, 3) := by decide +kernel
theorem dX4_add_23 : decode cX4_add 23 = .ok (.iconst 3, 1) := by decide +kernel
theorem dX4_add_24 : decode cX4_add 24 = .ok (.if_icmp .ne 29, 3) := by decide +kernel
theorem dX4_add_27 : decode cX4_add 27 = .ok (.aload_n 0, 1) := by decide +kernel
theorem dX4_add_28 : decode cX4_add 28 = .ok (.getfield 25, 3) := by decide +kernel
theorem dX4_add_31 : decode cX4_add 31 = .ok (.aload_n 0, 1) := by decide +kernel
theorem dX4_add_32 : decode cX4_add 32 = .ok (.getfield 19, 3) := by decide +kernel
theorem dX4_add_35 : decode cX4_add 35 = .ok (.if_icmp .lt 18, 3) := by decide +kernel
theorem dX4_add_38 : decode cX4_add 38 = .ok (.aload_n 0, 1) := by decide +kernel
theorem dX4_add_39 : decode cX4_add 39 = .ok (.getfield 25, 3) := by decide +kernel
theorem dX4_add_42 : decode cX4_add 42 = .ok (.aload_n 0, 1) := by decide +kernel
theorem dX4_add_43 : decode cX4_add 43 = .ok (.getfield 22, 3) := by decide +kernel
theorem dX4_add_46 : decode cX4_add 46 = .ok (.if_icmp .gt 7, 3) := by decide +kernel
theorem dX4_add_49 : decode cX4_add 49 = .ok (.iconst 1, 1) := by decide +kernel
theorem dX4_add_50 : decode cX4_add 50 = .ok (.goto 4, 3) := by decide +kernel
theorem dX4_add_53 : decode cX4_add 53 = .ok (.iconst 0, 1) := by decide +kernel
theorem dX4_add_54 : decode cX4_add 54 = .ok (.istore_n 2, 1) := by decide +kernel
theorem dX4_add_55 : decode cX4_add 55 = .ok (.aload_n 0, 1) := by decide +kernel
theorem dX4_add_56 : decode cX4_add 56 = .ok (.getfield 9, 3) := by decide +kernel
theorem dX4_add_59 : decode cX4_add 59 = .ok (.aload_n 0, 1) := by decide +kernel
theorem dX4_add_60 : decode cX4_add 60 = .ok (.getfield 25, 3) := by decide +kernel
theorem dX4_add_63 : decode cX4_add 63 = .ok (.iload_n 2, 1) := by decide +kernel
theorem dX4_add_64 : decode cX4_add 64 = .ok (.ifCond .eq 8, 3) := by decide +kernel
theorem dX4_add_67 : decode cX4_add 67 = .ok (.ldc 28, 2) := by decide +kernel
theorem dX4_add_69 : decode cX4_add 69 = .ok (.goto 4, 3) := by decide +kernel
theorem dX4_add_72 : decode cX4_add 72 = .ok (.iload_n 1, 1) := by decide +kernel
theorem dX4_add_73 : decode cX4_add 73 = .ok (.iastore, 1) := by decide +kernel
theorem dX4_add_74 : decode cX4_add 74 = .ok (.aload_n 0, 1) := by decide +kernel
theorem dX4_add_75 : decode cX4_add 75 = .ok (.dup, 1) := by decide +kernel
theorem dX4_add_76 : decode cX4_add 76 = .ok (.getfield 25, 3) := by decide +kernel
theorem dX4_add_79 : decode cX4_add 79 = .ok (.iconst 1, 1) := by decide +kernel
theorem dX4_add_80 : decode cX4_add 80 = .ok (.iadd, 1) := by decide +kernel
theorem dX4_add_81 : decode cX4_add 81 = .ok (.putfield 25, 3) := by decide +kernel
theorem dX4_add_84 : decode cX4_add 84 = .ok (.return_, 1) := by decide +kernel
theorem dX4_cellAt_0 : decode cX4_cellAt 0 = .ok (.iload_n 1, 1) := by decide +kernel
theorem dX4_cellAt_1 : decode cX4_cellAt 1 = .ok (.ifCond .lt 29, 3) := by decide +kernel
theorem dX4_cellAt_4 : decode cX4_cellAt 4 = .ok (.iload_n 1, 1) := by decide +kernel
theorem dX4_cellAt_5 : decode cX4_cellAt 5 = .ok (.aload_n 0, 1) := by decide +kernel
theorem dX4_cellAt_6 : decode cX4_cellAt 6 = .ok (.getfield 25, 3) := by decide +kernel
theorem dX4_cellAt_9 : decode cX4_cellAt 9 = .ok (.if_icmp .ge 21, 3) := by decide +kernel
theorem dX4_cellAt_12 : decode cX4_cellAt 12 = .ok (.iload_n 1, 1) := by decide +kernel
theorem dX4_cellAt_13 : decode cX4_cellAt 13 = .ok (.aload_n 0, 1) := by decide +kernel
theorem dX4_cellAt_14 : decode cX4_cellAt 14 = .ok (.getfield 9, 3) := by decide +kernel
theorem dX4_cellAt_17 : decode cX4_cellAt 17 = .ok (.arraylength, 1) := by decide +kernel
theorem dX4_cellAt_18 : decode cX4_cellAt 18 = .ok (.if_icmp .ge 12, 3) := by decide +kernel
theorem dX4_cellAt_21 : decode cX4_cellAt 21 = .ok (.aload_n 0, 1) := by decide +kernel
theorem dX4_cellAt_22 : decode cX4_cellAt 22 = .ok (.getfield 9, 3) := by decide +kernel
theorem dX4_cellAt_25 : decode cX4_cellAt 25 = .ok (.iload_n 1, 1) := by decide +kernel
theorem dX4_cellAt_26 : decode cX4_cellAt 26 = .ok (.iaload, 1) := by decide +kernel
theorem dX4_cellAt_27 : decode cX4_cellAt 27 = .ok (.goto 5, 3) := by decide +kernel
theorem dX4_cellAt_30 : decode cX4_cellAt 30 = .ok (.ldc 28, 2) := by decide +kernel
theorem dX4_cellAt_32 : decode cX4_cellAt 32 = .ok (.ireturn, 1) := by decide +kernel
theorem dX4_set_0 : decode cX4_set 0 = .ok (.iload_n 1, 1) := by decide +kernel
theorem dX4_set_1 : decode cX4_set 1 = .ok (.ifCond .lt 27, 3) := by decide +kernel
theorem dX4_set_4 : decode cX4_set 4 = .ok (.iload_n 1, 1) := by decide +kernel
theorem dX4_set_5 : decode cX4_set 5 = .ok (.aload_n 0, 1) := by decide +kernel
theorem dX4_set_6 : decode cX4_set 6 = .ok (.getfield 25, 3) := by decide +kernel
theorem dX4_set_9 : decode cX4_set 9 = .ok (.if_icmp .ge 19, 3) := by decide +kernel
theorem dX4_set_12 : decode cX4_set 12 = .ok (.iload_n 1, 1) := by decide +kernel
theorem dX4_set_13 : decode cX4_set 13 = .ok (.aload_n 0, 1) := by decide +kernel
theorem dX4_set_14 : decode cX4_set 14 = .ok (.getfield 9, 3) := by decide +kernel
theorem dX4_set_17 : decode cX4_set 17 = .ok (.arraylength, 1) := by decide +kernel
theorem dX4_set_18 : decode cX4_set 18 = .ok (.if_icmp .ge 10, 3) := by decide +kernel
theorem dX4_set_21 : decode cX4_set 21 = .ok (.aload_n 0, 1) := by decide +kernel
theorem dX4_set_22 : decode cX4_set 22 = .ok (.getfield 9, 3) := by decide +kernel
theorem dX4_set_25 : decode cX4_set 25 = .ok (.iload_n 1, 1) := by decide +kernel
theorem dX4_set_26 : decode cX4_set 26 = .ok (.iload_n 2, 1) := by decide +kernel
theorem dX4_set_27 : decode cX4_set 27 = .ok (.iastore, 1) := by decide +kernel
theorem dX4_set_28 : decode cX4_set 28 = .ok (.return_, 1) := by decide +kernel
theorem dX4_hasGap_0 : decode cX4_hasGap 0 = .ok (.aload_n 0, 1) := by decide +kernel
theorem dX4_hasGap_1 : decode cX4_hasGap 1 = .ok (.iload_n 1, 1) := by decide +kernel
theorem dX4_hasGap_2 : decode cX4_hasGap 2 = .ok (.invokevirtual 29, 3) := by decide +kernel
theorem dX4_hasGap_5 : decode cX4_hasGap 5 = .ok (.ldc 33, 2) := by decide +kernel
theorem dX4_hasGap_7 : decode cX4_hasGap 7 = .ok (.if_icmp .ne 7, 3) := by decide +kernel
theorem dX4_hasGap_10 : decode cX4_hasGap 10 = .ok (.iconst 1, 1) := by decide +kernel
theorem dX4_hasGap_11 : decode cX4_hasGap 11 = .ok (.goto 4, 3) := by decide +kernel
theorem dX4_hasGap_14 : decode cX4_hasGap 14 = .ok (.iconst 0, 1) := by decide +kernel
theorem dX4_hasGap_15 : decode cX4_hasGap 15 = .ok (.ireturn, 1) := by decide +kernel
theorem dX4_tearOut_0 : decode cX4_tearOut 0 = .ok (.iconst 0, 1) := by decide +kernel
theorem dX4_tearOut_1 : decode cX4_tearOut 1 = .ok (.istore_n 3, 1) := by decide +kernel
theorem dX4_tearOut_2 : decode cX4_tearOut 2 = .ok (.iload_n 1, 1) := by decide +kernel
theorem dX4_tearOut_3 : decode cX4_tearOut 3 = .ok (.istore 4, 2) := by decide +kernel
theorem dX4_tearOut_5 : decode cX4_tearOut 5 = .ok (.iload 4, 2) := by decide +kernel
theorem dX4_tearOut_7 : decode cX4_tearOut 7 = .ok (.iload_n 2, 1) := by decide +kernel
theorem dX4_tearOut_8 : decode cX4_tearOut 8 = .ok (.if_icmp .gt 51, 3) := by decide +kernel
theorem dX4_tearOut_11 : decode cX4_tearOut 11 = .ok (.iload 4, 2) := by decide +kernel
theorem dX4_tearOut_13 : decode cX4_tearOut 13 = .ok (.aload_n 0, 1) := by decide +kernel
theorem dX4_tearOut_14 : decode cX4_tearOut 14 = .ok (.getfield 25, 3) := by decide +kernel
theorem dX4_tearOut_17 : decode cX4_tearOut 17 = .ok (.if_icmp .ge 42, 3) := by decide +kernel
theorem dX4_tearOut_20 : decode cX4_tearOut 20 = .ok (.aload_n 0, 1) := by decide +kernel
theorem dX4_tearOut_21 : decode cX4_tearOut 21 = .ok (.iload 4, 2) := by decide +kernel
theorem dX4_tearOut_23 : decode cX4_tearOut 23 = .ok (.invokevirtual 29, 3) := by decide +kernel
theorem dX4_tearOut_26 : decode cX4_tearOut 26 = .ok (.istore 5, 2) := by decide +kernel
theorem dX4_tearOut_28 : decode cX4_tearOut 28 = .ok (.iload 5, 2) := by decide +kernel
theorem dX4_tearOut_30 : decode cX4_tearOut 30 = .ok (.ldc 33, 2) := by decide +kernel
theorem dX4_tearOut_32 : decode cX4_tearOut 32 = .ok (.if_icmp .eq 21, 3) := by decide +kernel
theorem dX4_tearOut_35 : decode cX4_tearOut 35 = .ok (.iload 5, 2) := by decide +kernel
theorem dX4_tearOut_37 : decode cX4_tearOut 37 = .ok (.ldc 28, 2) := by decide +kernel
theorem dX4_tearOut_39 : decode cX4_tearOut 39 = .ok (.if_icmp .eq 14, 3) := by decide +kernel
theorem dX4_tearOut_42 : decode cX4_tearOut 42 = .ok (.aload_n 0, 1) := by decide +kernel
theorem dX4_tearOut_43 : decode cX4_tearOut 43 = .ok (.iload 4, 2) := by decide +kernel
theorem dX4_tearOut_45 : decode cX4_tearOut 45 = .ok (.ldc 33, 2) := by decide +kernel
theorem dX4_tearOut_47 : decode cX4_tearOut 47 = .ok (.invokevirtual 34, 3) := by decide +kernel
theorem dX4_tearOut_50 : decode cX4_tearOut 50 = .ok (.iinc 3 1, 3) := by decide +kernel
theorem dX4_tearOut_53 : decode cX4_tearOut 53 = .ok (.iinc 4 1, 3) := by decide +kernel
theorem dX4_tearOut_56 : decode cX4_tearOut 56 = .ok (.goto (-51), 3) := by decide +kernel
theorem dX4_tearOut_59 : decode cX4_tearOut 59 = .ok (.iload_n 3, 1) := by decide +kernel
theorem dX4_tearOut_60 : decode cX4_tearOut 60 = .ok (.ireturn, 1) := by decide +kernel
theorem dX4_copyFrom_0 : decode cX4_copyFrom 0 = .ok (.aload_n 0, 1) := by decide +kernel
theorem dX4_copyFrom_1 : decode cX4_copyFrom 1 = .ok (.aload_n 1, 1) := by decide +kernel
theorem dX4_copyFrom_2 : decode cX4_copyFrom 2 = .ok (.getfield 15, 3) := by decide +kernel
theorem dX4_copyFrom_5 : decode cX4_copyFrom 5 = .ok (.putfield 15, 3) := by decide +kernel
theorem dX4_copyFrom_8 : decode cX4_copyFrom 8 = .ok (.aload_n 0, 1) := by decide +kernel
theorem dX4_copyFrom_9 : decode cX4_copyFrom 9 = .ok (.aload_n 1, 1) := by decide +kernel
theorem dX4_copyFrom_10 : decode cX4_copyFrom 10 = .ok (.getfield 19, 3) := by decide +kernel
theorem dX4_copyFrom_13 : decode cX4_copyFrom 13 = .ok (.putfield 19, 3) := by decide +kernel
theorem dX4_copyFrom_16 : decode cX4_copyFrom 16 = .ok (.aload_n 0, 1) := by decide +kernel
theorem dX4_copyFrom_17 : decode cX4_copyFrom 17 = .ok (.aload_n 1, 1) := by decide +kernel
theorem dX4_copyFrom_18 : decode cX4_copyFrom 18 = .ok (.getfield 22, 3) := by decide +kernel
theorem dX4_copyFrom_21 : decode cX4_copyFrom 21 = .ok (.putfield 22, 3) := by decide +kernel
theorem dX4_copyFrom_24 : decode cX4_copyFrom 24 = .ok (.aload_n 0, 1) := by decide +kernel
theorem dX4_copyFrom_25 : decode cX4_copyFrom 25 = .ok (.aload_n 1, 1) := by decide +kernel
theorem dX4_copyFrom_26 : decode cX4_copyFrom 26 = .ok (.getfield 25, 3) := by decide +kernel
theorem dX4_copyFrom_29 : decode cX4_copyFrom 29 = .ok (.putfield 25, 3) := by decide +kernel
theorem dX4_copyFrom_32 : decode cX4_copyFrom 32 = .ok (.iconst 0, 1) := by decide +kernel
theorem dX4_copyFrom_33 : decode cX4_copyFrom 33 = .ok (.istore_n 2, 1) := by decide +kernel
theorem dX4_copyFrom_34 : decode cX4_copyFrom 34 = .ok (.iload_n 2, 1) := by decide +kernel
theorem dX4_copyFrom_35 : decode cX4_copyFrom 35 = .ok (.aload_n 0, 1) := by decide +kernel
theorem dX4_copyFrom_36 : decode cX4_copyFrom 36 = .ok (.getfield 25, 3) := by decide +kernel
theorem dX4_copyFrom_39 : decode cX4_copyFrom 39 = .ok (.if_icmp .ge 39, 3) := by decide +kernel
theorem dX4_copyFrom_42 : decode cX4_copyFrom 42 = .ok (.iload_n 2, 1) := by decide +kernel
theorem dX4_copyFrom_43 : decode cX4_copyFrom 43 = .ok (.aload_n 0, 1) := by decide +kernel
theorem dX4_copyFrom_44 : decode cX4_copyFrom 44 = .ok (.getfield 9, 3) := by decide +kernel
theorem dX4_copyFrom_47 : decode cX4_copyFrom 47 = .ok (.arraylength, 1) := by decide +kernel
theorem dX4_copyFrom_48 : decode cX4_copyFrom 48 = .ok (.if_icmp .ge 30, 3) := by decide +kernel
theorem dX4_copyFrom_51 : decode cX4_copyFrom 51 = .ok (.iload_n 2, 1) := by decide +kernel
theorem dX4_copyFrom_52 : decode cX4_copyFrom 52 = .ok (.aload_n 1, 1) := by decide +kernel
theorem dX4_copyFrom_53 : decode cX4_copyFrom 53 = .ok (.getfield 9, 3) := by decide +kernel
theorem dX4_copyFrom_56 : decode cX4_copyFrom 56 = .ok (.arraylength, 1) := by decide +kernel
theorem dX4_copyFrom_57 : decode cX4_copyFrom 57 = .ok (.if_icmp .ge 21, 3) := by decide +kernel
theorem dX4_copyFrom_60 : decode cX4_copyFrom 60 = .ok (.aload_n 0, 1) := by decide +kernel
theorem dX4_copyFrom_61 : decode cX4_copyFrom 61 = .ok (.getfield 9, 3) := by decide +kernel
theorem dX4_copyFrom_64 : decode cX4_copyFrom 64 = .ok (.iload_n 2, 1) := by decide +kernel
theorem dX4_copyFrom_65 : decode cX4_copyFrom 65 = .ok (.aload_n 1, 1) := by decide +kernel
theorem dX4_copyFrom_66 : decode cX4_copyFrom 66 = .ok (.getfield 9, 3) := by decide +kernel
theorem dX4_copyFrom_69 : decode cX4_copyFrom 69 = .ok (.iload_n 2, 1) := by decide +kernel
theorem dX4_copyFrom_70 : decode cX4_copyFrom 70 = .ok (.iaload, 1) := by decide +kernel
theorem dX4_copyFrom_71 : decode cX4_copyFrom 71 = .ok (.iastore, 1) := by decide +kernel
theorem dX4_copyFrom_72 : decode cX4_copyFrom 72 = .ok (.iinc 2 1, 3) := by decide +kernel
theorem dX4_copyFrom_75 : decode cX4_copyFrom 75 = .ok (.goto (-41), 3) := by decide +kernel
theorem dX4_copyFrom_78 : decode cX4_copyFrom 78 = .ok (.return_, 1) := by decide +kernel
theorem dX5_init_0 : decode cX5_init 0 = .ok (.aload_n 0, 1) := by decide +kernel
theorem dX5_init_1 : decode cX5_init 1 = .ok (.invokespecial 3, 3) := by decide +kernel
theorem dX5_init_4 : decode cX5_init 4 = .ok (.aload_n 0, 1) := by decide +kernel
theorem dX5_init_5 : decode cX5_init 5 = .ok (.sipush 400, 3) := by decide +kernel
theorem dX5_init_8 : decode cX5_init 8 = .ok (.newarray .int, 2) := by decide +kernel
theorem dX5_init_10 : decode cX5_init 10 = .ok (.putfield 9, 3) := by decide +kernel
theorem dX5_init_13 : decode cX5_init 13 = .ok (.aload_n 0, 1) := by decide +kernel
theorem dX5_init_14 : decode cX5_init 14 = .ok (.sipush 400, 3) := by decide +kernel
theorem dX5_init_17 : decode cX5_init 17 = .ok (.newarray .int, 2) := by decide +kernel
theorem dX5_init_19 : decode cX5_init 19 = .ok (.putfield 15, 3) := by decide +kernel
theorem dX5_init_22 : decode cX5_init 22 = .ok (.aload_n 0, 1) := by decide +kernel
theorem dX5_init_23 : decode cX5_init 23 = .ok (.sipush 400, 3) := by decide +kernel
theorem dX5_init_26 : decode cX5_init 26 = .ok (.newarray .int, 2) := by decide +kernel
theorem dX5_init_28 : decode cX5_init 28 = .ok (.putfield 18, 3) := by decide +kernel
theorem dX5_init_31 : decode cX5_init 31 = .ok (.aload_n 0, 1) := by decide +kernel
theorem dX5_init_32 : decode cX5_init 32 = .ok (.sipush 200, 3) := by decide +kernel
theorem dX5_init_35 : decode cX5_init 35 = .ok (.newarray .int, 2) := by decide +kernel
theorem dX5_init_37 : decode cX5_init 37 = .ok (.putfield 21, 3) := by decide +kernel
theorem dX5_init_40 : decode cX5_init 40 = .ok (.aload_n 0, 1) := by decide +kernel
theorem dX5_init_41 : decode cX5_init 41 = .ok (.sipush 200, 3) := by decide +kernel
theorem dX5_init_44 : decode cX5_init 44 = .ok (.newarray .int, 2) := by decide +kernel
theorem dX5_init_46 : decode cX5_init 46 = .ok (.putfield 24, 3) := by decide +kernel
theorem dX5_init_49 : decode cX5_init 49 = .ok (.aload_n 0, 1) := by decide +kernel
theorem dX5_init_50 : decode cX5_init 50 = .ok (.sipush 200, 3) := by decide +kernel
theorem dX5_init_53 : decode cX5_init 53 = .ok (.newarray .int, 2) := by decide +kernel
theorem dX5_init_55 : decode cX5_init 55 = .ok (.putfield 27, 3) := by decide +kernel
theorem dX5_init_58 : decode cX5_init 58 = .ok (.return_, 1) := by decide +kernel
theorem dX5_reckon_0 : decode cX5_reckon 0 = .ok (.aload_n 0, 1) := by decide +kernel
theorem dX5_reckon_1 : decode cX5_reckon 1 = .ok (.iconst 0, 1) := by decide +kernel
theorem dX5_reckon_2 : decode cX5_reckon 2 = .ok (.putfield 30, 3) := by decide +kernel
theorem dX5_reckon_5 : decode cX5_reckon 5 = .ok (.aload_n 0, 1) := by decide +kernel
theorem dX5_reckon_6 : decode cX5_reckon 6 = .ok (.iconst 0, 1) := by decide +kernel
theorem dX5_reckon_7 : decode cX5_reckon 7 = .ok (.putfield 34, 3) := by decide +kernel
theorem dX5_reckon_10 : decode cX5_reckon 10 = .ok (.aload_n 0, 1) := by decide +kernel
theorem dX5_reckon_11 : decode cX5_reckon 11 = .ok (.iconst 0, 1) := by decide +kernel
theorem dX5_reckon_12 : decode cX5_reckon 12 = .ok (.putfield 37, 3) := by decide +kernel
theorem dX5_reckon_15 : decode cX5_reckon 15 = .ok (.aload_n 1, 1) := by decide +kernel
theorem dX5_reckon_16 : decode cX5_reckon 16 = .ok (.aload_n 2, 1) := by decide +kernel
theorem dX5_reckon_17 : decode cX5_reckon 17 = .ok (.invokevirtual 40, 3) := by decide +kernel
theorem dX5_reckon_20 : decode cX5_reckon 20 = .ok (.istore 4, 2) := by decide +kernel
theorem dX5_reckon_22 : decode cX5_reckon 22 = .ok (.iload_n 3, 1) := by decide +kernel
theorem dX5_reckon_23 : decode cX5_reckon 23 = .ok (.istore 5, 2) := by decide +kernel
theorem dX5_reckon_25 : decode cX5_reckon 25 = .ok (.iload 5, 2) := by decide +kernel
theorem dX5_reckon_27 : decode cX5_reckon 27 = .ok (.iload 4, 2) := by decide +kernel
theorem dX5_reckon_29 : decode cX5_reckon 29 = .ok (.if_icmp .ge 62, 3) := by decide +kernel
theorem dX5_reckon_32 : decode cX5_reckon 32 = .ok (.aload_n 1, 1) := by decide +kernel
theorem dX5_reckon_33 : decode cX5_reckon 33 = .ok (.aload_n 2, 1) := by decide +kernel
theorem dX5_reckon_34 : decode cX5_reckon 34 = .ok (.iload 5, 2) := by decide +kernel
theorem dX5_reckon_36 : decode cX5_reckon 36 = .ok (.invokevirtual 46, 3) := by decide +kernel
theorem dX5_reckon_39 : decode cX5_reckon 39 = .ok (.istore 6, 2) := by decide +kernel
theorem dX5_reckon_41 : decode cX5_reckon 41 = .ok (.iload 6, 2) := by decide +kernel
theorem dX5_reckon_43 : decode cX5_reckon 43 = .ok (.ldc 50, 2) := by decide +kernel
theorem dX5_reckon_45 : decode cX5_reckon 45 = .ok (.if_icmp .ne 16, 3) := by decide +kernel
theorem dX5_reckon_48 : decode cX5_reckon 48 = .ok (.aload_n 0, 1) := by decide +kernel
theorem dX5_reckon_49 : decode cX5_reckon 49 = .ok (.dup, 1) := by decide +kernel
theorem dX5_reckon_50 : decode cX5_reckon 50 = .ok (.getfield 30, 3) := by decide +kernel
theorem dX5_reckon_53 : decode cX5_reckon 53 = .ok (.iconst 1, 1) := by decide +kernel
theorem dX5_reckon_54 : decode cX5_reckon 54 = .ok (.iadd, 1) := by decide +kernel
theorem dX5_reckon_55 : decode cX5_reckon 55 = .ok (.putfield 30, 3) := by decide +kernel
theorem dX5_reckon_58 : decode cX5_reckon 58 = .ok (.goto 27, 3) := by decide +kernel
theorem dX5_reckon_61 : decode cX5_reckon 61 = .ok (.iload 6, 2) := by decide +kernel
theorem dX5_reckon_63 : decode cX5_reckon 63 = .ok (.ldc 51, 2) := by decide +kernel
theorem dX5_reckon_65 : decode cX5_reckon 65 = .ok (.if_icmp .eq 20, 3) := by decide +kernel
theorem dX5_reckon_68 : decode cX5_reckon 68 = .ok (.aload_n 0, 1) := by decide +kernel
theorem dX5_reckon_69 : decode cX5_reckon 69 = .ok (.dup, 1) := by decide +kernel
theorem dX5_reckon_70 : decode cX5_reckon 70 = .ok (.getfield 34, 3) := by decide +kernel
theorem dX5_reckon_73 : decode cX5_reckon 73 = .ok (.iconst 1, 1) := by decide +kernel
theorem dX5_reckon_74 : decode cX5_reckon 74 = .ok (.iadd, 1) := by decide +kernel
theorem dX5_reckon_75 : decode cX5_reckon 75 = .ok (.putfield 34, 3) := by decide +kernel
theorem dX5_reckon_78 : decode cX5_reckon 78 = .ok (.aload_n 0, 1) := by decide +kernel
theorem dX5_reckon_79 : decode cX5_reckon 79 = .ok (.aload_n 2, 1) := by decide +kernel
theorem dX5_reckon_80 : decode cX5_reckon 80 = .ok (.iload 6, 2) := by decide +kernel
theorem dX5_reckon_82 : decode cX5_reckon 82 = .ok (.invokevirtual 52, 3) := by decide +kernel
theorem dX5_reckon_85 : decode cX5_reckon 85 = .ok (.iinc 5 1, 3) := by decide +kernel
theorem dX5_reckon_88 : decode cX5_reckon 88 = .ok (.goto (-63), 3) := by decide +kernel
theorem dX5_reckon_91 : decode cX5_reckon 91 = .ok (.aload_n 2, 1) := by decide +kernel
theorem dX5_reckon_92 : decode cX5_reckon 92 = .ok (.getfield 56, 3) := by decide +kernel
theorem dX5_reckon_95 : decode cX5_reckon 95 = .ok (.iconst 2, 1) := by decide +kernel
theorem dX5_reckon_96 : decode cX5_reckon 96 = .ok (.if_icmp .ne 22, 3) := by decide +kernel
theorem dX5_reckon_99 : decode cX5_reckon 99 = .ok (.aload_n 0, 1) := by decide +kernel
theorem dX5_reckon_100 : decode cX5_reckon 100 = .ok (.aload_n 0, 1) := by decide +kernel
theorem dX5_reckon_101 : decode cX5_reckon 101 = .ok (.getfield 9, 3) := by decide +kernel
theorem dX5_reckon_104 : decode cX5_reckon 104 = .ok (.aload_n 0, 1) := by decide +kernel
theorem dX5_reckon_105 : decode cX5_reckon 105 = .ok (.getfield 37, 3) := by decide +kernel
theorem dX5_reckon_108 : decode cX5_reckon 108 = .ok (.aload_n 0, 1) := by decide +kernel
theorem dX5_reckon_109 : decode cX5_reckon 109 = .ok (.getfield 9, 3) := by decide +kernel
theorem dX5_reckon_112 : decode cX5_reckon 112 = .ok (.invokestatic 61, 3) := by decide +kernel
theorem dX5_reckon_115 : decode cX5_reckon 115 = .ok (.putfield 37, 3) := by decide +kernel
theorem dX5_reckon_118 : decode cX5_reckon 118 = .ok (.aload_n 0, 1) := by decide +kernel
theorem dX5_reckon_119 : decode cX5_reckon 119 = .ok (.aload_n 0, 1) := by decide +kernel
theorem dX5_reckon_120 : decode cX5_reckon 120 = .ok (.getfield 9, 3) := by decide +kernel
theorem dX5_reckon_123 : decode cX5_reckon 123 = .ok (.aload_n 0, 1) := by decide +kernel
theorem dX5_reckon_124 : decode cX5_reckon 124 = .ok (.getfield 37, 3) := by decide +kernel
theorem dX5_reckon_127 : decode cX5_reckon 127 = .ok (.aload_n 0, 1) := by decide +kernel
theorem dX5_reckon_128 : decode cX5_reckon 128 = .ok (.getfield 15, 3) := by decide +kernel
theorem dX5_reckon_131 : decode cX5_reckon 131 = .ok (.invokestatic 61, 3) := by decide +kernel
theorem dX5_reckon_134 : decode cX5_reckon 134 = .ok (.putfield 65, 3) := by decide +kernel
theorem dX5_reckon_137 : decode cX5_reckon 137 = .ok (.aload_n 0, 1) := by decide +kernel
theorem dX5_reckon_138 : decode cX5_reckon 138 = .ok (.invokevirtual 68, 3) := by decide +kernel
theorem dX5_reckon_141 : decode cX5_reckon 141 = .ok (.return_, 1) := by decide +kernel
theorem dX5_keep_0 : decode cX5_keep 0 = .ok (.aload_n 0, 1) := by decide +kernel
theorem dX5_keep_1 : decode cX5_keep 1 = .ok (.getfield 37, 3) := by decide +kernel
theorem dX5_keep_4 : decode cX5_keep 4 = .ok (.ifCond .lt 15, 3) := by decide +kernel
theorem dX5_keep_7 : decode cX5_keep 7 = .ok (.aload_n 0, 1) := by decide +kernel
theorem dX5_keep_8 : decode cX5_keep 8 = .ok (.getfield 37, 3) := by decide +kernel
theorem dX5_keep_11 : decode cX5_keep 11 = .ok (.aload_n 0, 1) := by decide +kernel
theorem dX5_keep_12 : decode cX5_keep 12 = .ok (.getfield 9, 3) := by decide +kernel
theorem dX5_keep_15 : decode cX5_keep 15 = .ok (.arraylength, 1) := by decide +kernel
theorem dX5_keep_16 : decode cX5_keep 16 = .ok (.if_icmp .lt 4, 3) := by decide +kernel
theorem dX5_keep_19 : decode cX5_keep 19 = .ok (.return_, 1) := by decide +kernel
theorem dX5_keep_20 : decode cX5_keep 20 = .ok (.aload_n 1, 1) := by decide +kernel
theorem dX5_keep_21 : decode cX5_keep 21 = .ok (.getfield 56, 3) := by decide +kernel
theorem dX5_keep_24 : decode cX5_keep 24 = .ok (.iconst 1, 1) := by decide +kernel
theorem dX5_keep_25 : decode cX5_keep 25 = .ok (.if_icmp .ne 34, 3) := by decide +kernel
theorem dX5_keep_28 : decode cX5_keep 28 = .ok (.aload_n 0, 1) := by decide +kernel
theorem dX5_keep_29 : decode cX5_keep 29 = .ok (.getfield 37, 3) := by decide +kernel
theorem dX5_keep_32 : decode cX5_keep 32 = .ok (.ifCond .le 27, 3) := by decide +kernel
theorem dX5_keep_35 : decode cX5_keep 35 = .ok (.iload_n 2, 1) := by decide +kernel
theorem dX5_keep_36 : decode cX5_keep 36 = .ok (.aload_n 0, 1) := by decide +kernel
theorem dX5_keep_37 : decode cX5_keep 37 = .ok (.getfield 9, 3) := by decide +kernel
theorem dX5_keep_40 : decode cX5_keep 40 = .ok (.aload_n 0, 1) := by decide +kernel
theorem dX5_keep_41 : decode cX5_keep 41 = .ok (.getfield 37, 3) := by decide +kernel
theorem dX5_keep_44 : decode cX5_keep 44 = .ok (.iconst 1, 1) := by decide +kernel
theorem dX5_keep_45 : decode cX5_keep 45 = .ok (.isub, 1) := by decide +kernel
theorem dX5_keep_46 : decode cX5_keep 46 = .ok (.iaload, 1) := by decide +kernel
theorem dX5_keep_47 : decode cX5_keep 47 = .ok (.isub, 1) := by decide +kernel
theorem dX5_keep_48 : decode cX5_keep 48 = .ok (.invokestatic 71, 3) := by decide +kernel
theorem dX5_keep_51 : decode cX5_keep 51 = .ok (.aload_n 1, 1) := by decide +kernel
theorem dX5_keep_52 : decode cX5_keep 52 = .ok (.getfield 77, 3) := by decide +kernel
theorem dX5_keep_55 : decode cX5_keep 55 = .ok (.if_icmp .ge 4, 3) := by decide +kernel
theorem dX5_keep_58 : decode cX5_keep 58 = .ok (.return_, 1) := by decide +kernel
theorem dX5_keep_59 : decode cX5_keep 59 = .ok (.aload_n 0, 1) := by decide +kernel
theorem dX5_keep_60 : decode cX5_keep 60 = .ok (.getfield 9, 3) := by decide +kernel
theorem dX5_keep_63 : decode cX5_keep 63 = .ok (.aload_n 0, 1) := by decide +kernel
theorem dX5_keep_64 : decode cX5_keep 64 = .ok (.getfield 37, 3) := by decide +kernel
theorem dX5_keep_67 : decode cX5_keep 67 = .ok (.iload_n 2, 1) := by decide +kernel
theorem dX5_keep_68 : decode cX5_keep 68 = .ok (.iastore, 1) := by decide +kernel
theorem dX5_keep_69 : decode cX5_keep 69 = .ok (.aload_n 0, 1) := by decide +kernel
theorem dX5_keep_70 : decode cX5_keep 70 = .ok (.dup, 1) := by decide +kernel
theorem dX5_keep_71 : decode cX5_keep 71 = .ok (.getfield 37, 3) := by decide +kernel
theorem dX5_keep_74 : decode cX5_keep 74 = .ok (.iconst 1, 1) := by decide +kernel
theorem dX5_keep_75 : decode cX5_keep 75 = .ok (.iadd, 1) := by decide +kernel
theorem dX5_keep_76 : decode cX5_keep 76 = .ok (.putfield 37, 3) := by decide +kernel
theorem dX5_keep_79 : decode cX5_keep 79 = .ok (.return_, 1) := by decide +kernel
theorem dX5_copyTurns_0 : decode cX5_copyTurns 0 = .ok (.iconst 0, 1) := by decide +kernel
theorem dX5_copyTurns_1 : decode cX5_copyTurns 1 = .ok (.istore_n 3, 1) := by decide +kernel
theorem dX5_copyTurns_2 : decode cX5_copyTurns 2 = .ok (.iconst 0, 1) := by decide +kernel
theorem dX5_copyTurns_3 : decode cX5_copyTurns 3 = .ok (.istore 4, 2) := by decide +kernel
theorem dX5_copyTurns_5 : decode cX5_copyTurns 5 = .ok (.iload 4, 2) := by decide +kernel
theorem dX5_copyTurns_7 : decode cX5_copyTurns 7 = .ok (.iload_n 1, 1) := by decide +kernel
theorem dX5_copyTurns_8 : decode cX5_copyTurns 8 = .ok (.if_icmp .ge 100, 3) := by decide +kernel
theorem dX5_copyTurns_11 : decode cX5_copyTurns 11 = .ok (.iload 4, 2) := by decide +kernel
theorem dX5_copyTurns_13 : decode cX5_copyTurns 13 = .ok (.aload_n 0, 1) := by decide +kernel
theorem dX5_copyTurns_14 : decode cX5_copyTurns 14 = .ok (.arraylength, 1) := by decide +kernel
theorem dX5_copyTurns_15 : decode cX5_copyTurns 15 = .ok (.if_icmp .ge 93, 3) := by decide +kernel
theorem dX5_copyTurns_18 : decode cX5_copyTurns 18 = .ok (.aload_n 0, 1) := by decide +kernel
theorem dX5_copyTurns_19 : decode cX5_copyTurns 19 = .ok (.iload 4, 2) := by decide +kernel
theorem dX5_copyTurns_21 : decode cX5_copyTurns 21 = .ok (.iaload, 1) := by decide +kernel
theorem dX5_copyTurns_22 : decode cX5_copyTurns 22 = .ok (.istore 5, 2) := by decide +kernel
theorem dX5_copyTurns_24 : decode cX5_copyTurns 24 = .ok (.iload_n 3, 1) := by decide +kernel
theorem dX5_copyTurns_25 : decode cX5_copyTurns 25 = .ok (.iconst 1, 1) := by decide +kernel
theorem dX5_copyTurns_26 : decode cX5_copyTurns 26 = .ok (.if_icmp .le 30, 3) := by decide +kernel
theorem dX5_copyTurns_29 : decode cX5_copyTurns 29 = .ok (.iload_n 3, 1) := by decide +kernel
theorem dX5_copyTurns_30 : decode cX5_copyTurns 30 = .ok (.aload_n 2, 1) := by decide +kernel
theorem dX5_copyTurns_31 : decode cX5_copyTurns 31 = .ok (.arraylength, 1) := by decide +kernel
theorem dX5_copyTurns_32 : decode cX5_copyTurns 32 = .ok (.if_icmp .gt 24, 3) := by decide +kernel
theorem dX5_copyTurns_35 : decode cX5_copyTurns 35 = .ok (.aload_n 2, 1) := by decide +kernel
theorem dX5_copyTurns_36 : decode cX5_copyTurns 36 = .ok (.iload_n 3, 1) := by decide +kernel
theorem dX5_copyTurns_37 : decode cX5_copyTurns 37 = .ok (.iconst 2, 1) := by decide +kernel
theorem dX5_copyTurns_38 : decode cX5_copyTurns 38 = .ok (.isub, 1) := by decide +kernel
theorem dX5_copyTurns_39 : decode cX5_copyTurns 39 = .ok (.iaload, 1) := by decide +kernel
theorem dX5_copyTurns_40 : decode cX5_copyTurns 40 = .ok (.aload_n 2, 1) := by decide +kernel
theorem dX5_copyTurns_41 : decode cX5_copyTurns 41 = .ok (.iload_n 3, 1) := by decide +kernel
theorem dX5_copyTurns_42 : decode cX5_copyTurns 42 = .ok (.iconst 1, 1) := by decide +kernel
theorem dX5_copyTurns_43 : decode cX5_copyTurns 43 = .ok (.isub, 1) := by decide +kernel
theorem dX5_copyTurns_44 : decode cX5_copyTurns 44 = .ok (.iaload, 1) := by decide +kernel
theorem dX5_copyTurns_45 : decode cX5_copyTurns 45 = .ok (.iload 5, 2) := by decide +kernel
theorem dX5_copyTurns_47 : decode cX5_copyTurns 47 = .ok (.invokestatic 80, 3) := by decide +kernel
theorem dX5_copyTurns_50 : decode cX5_copyTurns 50 = .ok (.ifCond .eq 6, 3) := by decide +kernel
theorem dX5_copyTurns_53 : decode cX5_copyTurns 53 = .ok (.iinc 3 (-1), 3) := by decide +kernel
theorem dX5_copyTurns_56 : decode cX5_copyTurns 56 = .ok (.iload_n 3, 1) := by decide +kernel
theorem dX5_copyTurns_57 : decode cX5_copyTurns 57 = .ok (.ifCond .le 23, 3) := by decide +kernel
theorem dX5_copyTurns_60 : decode cX5_copyTurns 60 = .ok (.iload_n 3, 1) := by decide +kernel
theorem dX5_copyTurns_61 : decode cX5_copyTurns 61 = .ok (.aload_n 2, 1) := by decide +kernel
theorem dX5_copyTurns_62 : decode cX5_copyTurns 62 = .ok (.arraylength, 1) := by decide +kernel
theorem dX5_copyTurns_63 : decode cX5_copyTurns 63 = .ok (.if_icmp .gt 17, 3) := by decide +kernel
theorem dX5_copyTurns_66 : decode cX5_copyTurns 66 = .ok (.aload_n 2, 1) := by decide +kernel
theorem dX5_copyTurns_67 : decode cX5_copyTurns 67 = .ok (.iload_n 3, 1) := by decide +kernel
theorem dX5_copyTurns_68 : decode cX5_copyTurns 68 = .ok (.iconst 1, 1) := by decide +kernel
theorem dX5_copyTurns_69 : decode cX5_copyTurns 69 = .ok (.isub, 1) := by decide +kernel
theorem dX5_copyTurns_70 : decode cX5_copyTurns 70 = .ok (.iaload, 1) := by decide +kernel
theorem dX5_copyTurns_71 : decode cX5_copyTurns 71 = .ok (.iload 5, 2) := by decide +kernel
theorem dX5_copyTurns_73 : decode cX5_copyTurns 73 = .ok (.if_icmp .ne 7, 3) := by decide +kernel
theorem dX5_copyTurns_76 : decode cX5_copyTurns 76 = .ok (.iconst 1, 1) := by decide +kernel
theorem dX5_copyTurns_77 : decode cX5_copyTurns 77 = .ok (.goto 4, 3) := by decide +kernel
theorem dX5_copyTurns_80 : decode cX5_copyTurns 80 = .ok (.iconst 0, 1) := by decide +kernel
theorem dX5_copyTurns_81 : decode cX5_copyTurns 81 = .ok (.istore 6, 2) := by decide +kernel
theorem dX5_copyTurns_83 : decode cX5_copyTurns 83 = .ok (.iload 6, 2) := by decide +kernel
theorem dX5_copyTurns_85 : decode cX5_copyTurns 85 = .ok (.ifCond .ne 17, 3) := by decide +kernel
theorem dX5_copyTurns_88 : decode cX5_copyTurns 88 = .ok (.iload_n 3, 1) := by decide +kernel
theorem dX5_copyTurns_89 : decode cX5_copyTurns 89 = .ok (.aload_n 2, 1) := by decide +kernel
theorem dX5_copyTurns_90 : decode cX5_copyTurns 90 = .ok (.arraylength, 1) := by decide +kernel
theorem dX5_copyTurns_91 : decode cX5_copyTurns 91 = .ok (.if_icmp .ge 11, 3) := by decide +kernel
theorem dX5_copyTurns_94 : decode cX5_copyTurns 94 = .ok (.aload_n 2, 1) := by decide +kernel
theorem dX5_copyTurns_95 : decode cX5_copyTurns 95 = .ok (.iload_n 3, 1) := by decide +kernel
theorem dX5_copyTurns_96 : decode cX5_copyTurns 96 = .ok (.iload 5, 2) := by decide +kernel
theorem dX5_copyTurns_98 : decode cX5_copyTurns 98 = .ok (.iastore, 1) := by decide +kernel
theorem dX5_copyTurns_99 : decode cX5_copyTurns 99 = .ok (.iinc 3 1, 3) := by decide +kernel
theorem dX5_copyTurns_102 : decode cX5_copyTurns 102 = .ok (.iinc 4 1, 3) := by decide +kernel
theorem dX5_copyTurns_105 : decode cX5_copyTurns 105 = .ok (.goto (-100), 3) := by decide +kernel
theorem dX5_copyTurns_108 : decode cX5_copyTurns 108 = .ok (.iload_n 3, 1) := by decide +kernel
theorem dX5_copyTurns_109 : decode cX5_copyTurns 109 = .ok (.ireturn, 1) := by decide +kernel
theorem dX5_isPassedOver_0 : decode cX5_isPassedOver 0 = .ok (.iload_n 0, 1) := by decide +kernel
theorem dX5_isPassedOver_1 : decode cX5_isPassedOver 1 = .ok (.iload_n 1, 1) := by decide +kernel
theorem dX5_isPassedOver_2 : decode cX5_isPassedOver 2 = .ok (.if_icmp .ge 16, 3) := by decide +kernel
theorem dX5_isPassedOver_5 : decode cX5_isPassedOver 5 = .ok (.iload_n 1, 1) := by decide +kernel
theorem dX5_isPassedOver_6 : decode cX5_isPassedOver 6 = .ok (.iload_n 2, 1) := by decide +kernel
theorem dX5_isPassedOver_7 : decode cX5_isPassedOver 7 = .ok (.if_icmp .ge 7, 3) := by decide +kernel
theorem dX5_isPassedOver_10 : decode cX5_isPassedOver 10 = .ok (.iconst 1, 1) := by decide +kernel
theorem dX5_isPassedOver_11 : decode cX5_isPassedOver 11 = .ok (.goto 17, 3) := by decide +kernel
theorem dX5_isPassedOver_14 : decode cX5_isPassedOver 14 = .ok (.iconst 0, 1) := by decide +kernel
theorem dX5_isPassedOver_15 : decode cX5_isPassedOver 15 = .ok (.goto 13, 3) := by decide +kernel
theorem dX5_isPassedOver_18 : decode cX5_isPassedOver 18 = .ok (.iload_n 1, 1) := by decide +kernel
theorem dX5_isPassedOver_19 : decode cX5_isPassedOver 19 = .ok (.iload_n 2, 1) := by decide +kernel
theorem dX5_isPassedOver_20 : decode cX5_isPassedOver 20 = .ok (.if_icmp .le 7, 3) := by decide +kernel
theorem dX5_isPassedOver_23 : decode cX5_isPassedOver 23 = .ok (.iconst 1, 1) := by decide +kernel
theorem dX5_isPassedOver_24 : decode cX5_isPassedOver 24 = .ok (.goto 4, 3) := by decide +kernel
theorem dX5_isPassedOver_27 : decode cX5_isPassedOver 27 = .ok (.iconst 0, 1) := by decide +kernel
theorem dX5_isPassedOver_28 : decode cX5_isPassedOver 28 = .ok (.ireturn, 1) := by decide +kernel
theorem dX5_pileUp_0 : decode cX5_pileUp 0 = .ok (.aload_n 0, 1) := by decide +kernel
theorem dX5_pileUp_1 : decode cX5_pileUp 1 = .ok (.iconst 0, 1) := by decide +kernel
theorem dX5_pileUp_2 : decode cX5_pileUp 2 = .ok (.putfield 84, 3) := by decide +kernel
theorem dX5_pileUp_5 : decode cX5_pileUp 5 = .ok (.aload_n 0, 1) := by decide +kernel
theorem dX5_pileUp_6 : decode cX5_pileUp 6 = .ok (.iconst 0, 1) := by decide +kernel
theorem dX5_pileUp_7 : decode cX5_pileUp 7 = .ok (.putfield 87, 3) := by decide +kernel
theorem dX5_pileUp_10 : decode cX5_pileUp 10 = .ok (.iconst 0, 1) := by decide +kernel
theorem dX5_pileUp_11 : decode cX5_pileUp 11 = .ok (.istore_n 1, 1) := by decide +kernel
theorem dX5_pileUp_12 : decode cX5_pileUp 12 = .ok (.iload_n 1, 1) := by decide +kernel
theorem dX5_pileUp_13 : decode cX5_pileUp 13 = .ok (.aload_n 0, 1) := by decide +kernel
theorem dX5_pileUp_14 : decode cX5_pileUp 14 = .ok (.getfield 65, 3) := by decide +kernel
theorem dX5_pileUp_17 : decode cX5_pileUp 17 = .ok (.if_icmp .ge 74, 3) := by decide +kernel
theorem dX5_pileUp_20 : decode cX5_pileUp 20 = .ok (.aload_n 0, 1) := by decide +kernel
theorem dX5_pileUp_21 : decode cX5_pileUp 21 = .ok (.getfield 84, 3) := by decide +kernel
theorem dX5_pileUp_24 : decode cX5_pileUp 24 = .ok (.ifCond .lt 35, 3) := by decide +kernel
theorem dX5_pileUp_27 : decode cX5_pileUp 27 = .ok (.aload_n 0, 1) := by decide +kernel
theorem dX5_pileUp_28 : decode cX5_pileUp 28 = .ok (.getfield 84, 3) := by decide +kernel
theorem dX5_pileUp_31 : decode cX5_pileUp 31 = .ok (.aload_n 0, 1) := by decide +kernel
theorem dX5_pileUp_32 : decode cX5_pileUp 32 = .ok (.getfield 18, 3) := by decide +kernel
theorem dX5_pileUp_35 : decode cX5_pileUp 35 = .ok (.arraylength, 1) := by decide +kernel
theorem dX5_pileUp_36 : decode cX5_pileUp 36 = .ok (.if_icmp .ge 23, 3) := by decide +kernel
theorem dX5_pileUp_39 : decode cX5_pileUp 39 = .ok (.aload_n 0, 1) := by decide +kernel
theorem dX5_pileUp_40 : decode cX5_pileUp 40 = .ok (.getfield 18, 3) := by decide +kernel
theorem dX5_pileUp_43 : decode cX5_pileUp 43 = .ok (.aload_n 0, 1) := by decide +kernel
theorem dX5_pileUp_44 : decode cX5_pileUp 44 = .ok (.getfield 84, 3) := by decide +kernel
theorem dX5_pileUp_47 : decode cX5_pileUp 47 = .ok (.iload_n 1, 1) := by decide +kernel
theorem dX5_pileUp_48 : decode cX5_pileUp 48 = .ok (.iastore, 1) := by decide +kernel
theorem dX5_pileUp_49 : decode cX5_pileUp 49 = .ok (.aload_n 0, 1) := by decide +kernel
theorem dX5_pileUp_50 : decode cX5_pileUp 50 = .ok (.dup, 1) := by decide +kernel
theorem dX5_pileUp_51 : decode cX5_pileUp 51 = .ok (.getfield 84, 3) := by decide +kernel
theorem dX5_pileUp_54 : decode cX5_pileUp 54 = .ok (.iconst 1, 1) := by decide +kernel
theorem dX5_pileUp_55 : decode cX5_pileUp 55 = .ok (.iadd, 1) := by decide +kernel
theorem dX5_pileUp_56 : decode cX5_pileUp 56 = .ok (.putfield 84, 3) := by decide +kernel
theorem dX5_pileUp_59 : decode cX5_pileUp 59 = .ok (.iconst 0, 1) := by decide +kernel
theorem dX5_pileUp_60 : decode cX5_pileUp 60 = .ok (.istore_n 2, 1) := by decide +kernel
theorem dX5_pileUp_61 : decode cX5_pileUp 61 = .ok (.iload_n 2, 1) := by decide +kernel
theorem dX5_pileUp_62 : decode cX5_pileUp 62 = .ok (.sipush 400, 3) := by decide +kernel
theorem dX5_pileUp_65 : decode cX5_pileUp 65 = .ok (.if_icmp .ge 20, 3) := by decide +kernel
theorem dX5_pileUp_68 : decode cX5_pileUp 68 = .ok (.aload_n 0, 1) := by decide +kernel
theorem dX5_pileUp_69 : decode cX5_pileUp 69 = .ok (.invokevirtual 90, 3) := by decide +kernel
theorem dX5_pileUp_72 : decode cX5_pileUp 72 = .ok (.ifCond .eq 13, 3) := by decide +kernel
theorem dX5_pileUp_75 : decode cX5_pileUp 75 = .ok (.aload_n 0, 1) := by decide +kernel
theorem dX5_pileUp_76 : decode cX5_pileUp 76 = .ok (.invokevirtual 94, 3) := by decide +kernel
theorem dX5_pileUp_79 : decode cX5_pileUp 79 = .ok (.iinc 2 1, 3) := by decide +kernel
theorem dX5_pileUp_82 : decode cX5_pileUp 82 = .ok (.goto (-21), 3) := by decide +kernel
theorem dX5_pileUp_85 : decode cX5_pileUp 85 = .ok (.iinc 1 1, 3) := by decide +kernel
theorem dX5_pileUp_88 : decode cX5_pileUp 88 = .ok (.goto (-76), 3) := by decide +kernel
theorem dX5_pileUp_91 : decode cX5_pileUp 91 = .ok (.return_, 1) := by decide +kernel
theorem dX5_closesCycle_0 : decode cX5_closesCycle 0 = .ok (.aload_n 0, 1) := by decide +kernel
theorem dX5_closesCycle_1 : decode cX5_closesCycle 1 = .ok (.getfield 84, 3) := by decide +kernel
theorem dX5_closesCycle_4 : decode cX5_closesCycle 4 = .ok (.iconst 4, 1) := by decide +kernel
theorem dX5_closesCycle_5 : decode cX5_closesCycle 5 = .ok (.if_icmp .ge 5, 3) := by decide +kernel
theorem dX5_closesCycle_8 : decode cX5_closesCycle 8 = .ok (.iconst 0, 1) := by decide +kernel
