theorem dX0_init_0 : decode cX0_init 0 = .ok (.aload_n 0, 1) := by decide +kernel
theorem dX0_init_1 : decode cX0_init 1 = .ok (.invokespecial 3, 3) := by decide +kernel
theorem dX0_init_4 : decode cX0_init 4 = .ok (.aload_n 0, 1) := by decide +kernel
theorem dX0_init_5 : decode cX0_init 5 = .ok (.iconst 3, 1) := by decide +kernel
theorem dX0_init_6 : decode cX0_init 6 = .ok (.newarray .int, 2) := by decide +kernel
theorem dX0_init_8 : decode cX0_init 8 = .ok (.dup, 1) := by decide +kernel
theorem dX0_init_9 : decode cX0_init 9 = .ok (.iconst 0, 1) := by decide +kernel
theorem dX0_init_10 : decode cX0_init 10 = .ok (.bipush 30, 2) := by decide +kernel
theorem dX0_init_12 : decode cX0_init 12 = .ok (.iastore, 1) := by decide +kernel
theorem dX0_init_13 : decode cX0_init 13 = .ok (.dup, 1) := by decide +kernel
theorem dX0_init_14 : decode cX0_init 14 = .ok (.iconst 1, 1) := by decide +kernel
theorem dX0_init_15 : decode cX0_init 15 = .ok (.iconst 1, 1) := by decide +kernel
theorem dX0_init_16 : decode cX0_init 16 = .ok (.iastore, 1) := by decide +kernel
theorem dX0_init_17 : decode cX0_init 17 = .ok (.dup, 1) := by decide +kernel
theorem dX0_init_18 : decode cX0_init 18 = .ok (.iconst 2, 1) := by decide +kernel
theorem dX0_init_19 : decode cX0_init 19 = .ok (.bipush 50, 2) := by decide +kernel
theorem dX0_init_21 : decode cX0_init 21 = .ok (.iastore, 1) := by decide +kernel
theorem dX0_init_22 : decode cX0_init 22 = .ok (.putfield 9, 3) := by decide +kernel
theorem dX0_init_25 : decode cX0_init 25 = .ok (.aload_n 0, 1) := by decide +kernel
theorem dX0_init_26 : decode cX0_init 26 = .ok (.iconst 5, 1) := by decide +kernel
theorem dX0_init_27 : decode cX0_init 27 = .ok (.anewarray 15, 3) := by decide +kernel
theorem dX0_init_30 : decode cX0_init 30 = .ok (.putfield 17, 3) := by decide +kernel
theorem dX0_init_33 : decode cX0_init 33 = .ok (.aload_n 0, 1) := by decide +kernel
theorem dX0_init_34 : decode cX0_init 34 = .ok (.iconst 0, 1) := by decide +kernel
theorem dX0_init_35 : decode cX0_init 35 = .ok (.putfield 21, 3) := by decide +kernel
theorem dX0_init_38 : decode cX0_init 38 = .ok (.aload_n 0, 1) := by decide +kernel
theorem dX0_init_39 : decode cX0_init 39 = .ok (.iload_n 1, 1) := by decide +kernel
theorem dX0_init_40 : decode cX0_init 40 = .ok (.putfield 25, 3) := by decide +kernel
theorem dX0_init_43 : decode cX0_init 43 = .ok (.aload_n 0, 1) := by decide +kernel
theorem dX0_init_44 : decode cX0_init 44 = .ok (.aload_n 2, 1) := by decide +kernel
theorem dX0_init_45 : decode cX0_init 45 = .ok (.putfield 28, 3) := by decide +kernel
theorem dX0_init_48 : decode cX0_init 48 = .ok (.aload_n 0, 1) := by decide +kernel
theorem dX0_init_49 : decode cX0_init 49 = .ok (.iload_n 3, 1) := by decide +kernel
theorem dX0_init_50 : decode cX0_init 50 = .ok (.putfield 31, 3) := by decide +kernel
theorem dX0_init_53 : decode cX0_init 53 = .ok (.aload_n 0, 1) := by decide +kernel
theorem dX0_init_54 : decode cX0_init 54 = .ok (.aload 4, 2) := by decide +kernel
theorem dX0_init_56 : decode cX0_init 56 = .ok (.invokevirtual 34, 3) := by decide +kernel
theorem dX0_init_59 : decode cX0_init 59 = .ok (.putfield 40, 3) := by decide +kernel
theorem dX0_init_62 : decode cX0_init 62 = .ok (.aload_n 0, 1) := by decide +kernel
theorem dX0_init_63 : decode cX0_init 63 = .ok (.aload_n 2, 1) := by decide +kernel
theorem dX0_init_64 : decode cX0_init 64 = .ok (.arraylength, 1) := by decide +kernel
theorem dX0_init_65 : decode cX0_init 65 = .ok (.iload_n 1, 1) := by decide +kernel
theorem dX0_init_66 : decode cX0_init 66 = .ok (.iconst 1, 1) := by decide +kernel
theorem dX0_init_67 : decode cX0_init 67 = .ok (.iadd, 1) := by decide +kernel
theorem dX0_init_68 : decode cX0_init 68 = .ok (.multianewarray 43 2, 4) := by decide +kernel
theorem dX0_init_72 : decode cX0_init 72 = .ok (.putfield 45, 3) := by decide +kernel
theorem dX0_init_75 : decode cX0_init 75 = .ok (.iconst 0, 1) := by decide +kernel
theorem dX0_init_76 : decode cX0_init 76 = .ok (.istore 5, 2) := by decide +kernel
theorem dX0_init_78 : decode cX0_init 78 = .ok (.iload 5, 2) := by decide +kernel
theorem dX0_init_80 : decode cX0_init 80 = .ok (.aload_n 2, 1) := by decide +kernel
theorem dX0_init_81 : decode cX0_init 81 = .ok (.arraylength, 1) := by decide +kernel
theorem dX0_init_82 : decode cX0_init 82 = .ok (.if_icmp .ge 43, 3) := by decide +kernel
theorem dX0_init_85 : decode cX0_init 85 = .ok (.iconst 0, 1) := by decide +kernel
theorem dX0_init_86 : decode cX0_init 86 = .ok (.istore 6, 2) := by decide +kernel
theorem dX0_init_88 : decode cX0_init 88 = .ok (.iload 6, 2) := by decide +kernel
theorem dX0_init_90 : decode cX0_init 90 = .ok (.iload_n 1, 1) := by decide +kernel
theorem dX0_init_91 : decode cX0_init 91 = .ok (.if_icmp .gt 28, 3) := by decide +kernel
theorem dX0_init_94 : decode cX0_init 94 = .ok (.aload_n 0, 1) := by decide +kernel
theorem dX0_init_95 : decode cX0_init 95 = .ok (.getfield 45, 3) := by decide +kernel
theorem dX0_init_98 : decode cX0_init 98 = .ok (.iload 5, 2) := by decide +kernel
theorem dX0_init_100 : decode cX0_init 100 = .ok (.aaload, 1) := by decide +kernel
theorem dX0_init_101 : decode cX0_init 101 = .ok (.iload 6, 2) := by decide +kernel
theorem dX0_init_103 : decode cX0_init 103 = .ok (.aload 4, 2) := by decide +kernel
theorem dX0_init_105 : decode cX0_init 105 = .ok (.iload 5, 2) := by decide +kernel
theorem dX0_init_107 : decode cX0_init 107 = .ok (.iload 6, 2) := by decide +kernel
theorem dX0_init_109 : decode cX0_init 109 = .ok (.invokevirtual 48, 3) := by decide +kernel
theorem dX0_init_112 : decode cX0_init 112 = .ok (.lastore, 1) := by decide +kernel
theorem dX0_init_113 : decode cX0_init 113 = .ok (.iinc 6 1, 3) := by decide +kernel
theorem dX0_init_116 : decode cX0_init 116 = .ok (.goto (-28), 3) := by decide +kernel
theorem dX0_init_119 : decode cX0_init 119 = .ok (.iinc 5 1, 3) := by decide +kernel
theorem dX0_init_122 : decode cX0_init 122 = .ok (.goto (-44), 3) := by decide +kernel
theorem dX0_init_125 : decode cX0_init 125 = .ok (.return_, 1) := by decide +kernel
theorem dX0_lacksSupport_0 : decode cX0_lacksSupport 0 = .ok (.iload_n 1, 1) := by decide +kernel
theorem dX0_lacksSupport_1 : decode cX0_lacksSupport 1 = .ok (.ifCond .ne 22, 3) := by decide +kernel
theorem dX0_lacksSupport_4 : decode cX0_lacksSupport 4 = .ok (.iload_n 2, 1) := by decide +kernel
theorem dX0_lacksSupport_5 : decode cX0_lacksSupport 5 = .ok (.iconst 0, 1) := by decide +kernel
theorem dX0_lacksSupport_6 : decode cX0_lacksSupport 6 = .ok (.aload_n 0, 1) := by decide +kernel
theorem dX0_lacksSupport_7 : decode cX0_lacksSupport 7 = .ok (.getfield 28, 3) := by decide +kernel
theorem dX0_lacksSupport_10 : decode cX0_lacksSupport 10 = .ok (.arraylength, 1) := by decide +kernel
theorem dX0_lacksSupport_11 : decode cX0_lacksSupport 11 = .ok (.iconst 1, 1) := by decide +kernel
theorem dX0_lacksSupport_12 : decode cX0_lacksSupport 12 = .ok (.isub, 1) := by decide +kernel
theorem dX0_lacksSupport_13 : decode cX0_lacksSupport 13 = .ok (.invokestatic 52, 3) := by decide +kernel
theorem dX0_lacksSupport_16 : decode cX0_lacksSupport 16 = .ok (.ifCond .ne 7, 3) := by decide +kernel
theorem dX0_lacksSupport_19 : decode cX0_lacksSupport 19 = .ok (.iconst 1, 1) := by decide +kernel
theorem dX0_lacksSupport_20 : decode cX0_lacksSupport 20 = .ok (.goto 4, 3) := by decide +kernel
theorem dX0_lacksSupport_23 : decode cX0_lacksSupport 23 = .ok (.iconst 0, 1) := by decide +kernel
theorem dX0_lacksSupport_24 : decode cX0_lacksSupport 24 = .ok (.ireturn, 1) := by decide +kernel
theorem dX0_hasResponse_0 : decode cX0_hasResponse 0 = .ok (.iload_n 1, 1) := by decide +kernel
theorem dX0_hasResponse_1 : decode cX0_hasResponse 1 = .ok (.ifCond .ne 20, 3) := by decide +kernel
theorem dX0_hasResponse_4 : decode cX0_hasResponse 4 = .ok (.aload_n 0, 1) := by decide +kernel
theorem dX0_hasResponse_5 : decode cX0_hasResponse 5 = .ok (.iload_n 1, 1) := by decide +kernel
theorem dX0_hasResponse_6 : decode cX0_hasResponse 6 = .ok (.iload_n 2, 1) := by decide +kernel
theorem dX0_hasResponse_7 : decode cX0_hasResponse 7 = .ok (.invokevirtual 56, 3) := by decide +kernel
theorem dX0_hasResponse_10 : decode cX0_hasResponse 10 = .ok (.ifCond .ne 7, 3) := by decide +kernel
theorem dX0_hasResponse_13 : decode cX0_hasResponse 13 = .ok (.iconst 1, 1) := by decide +kernel
theorem dX0_hasResponse_14 : decode cX0_hasResponse 14 = .ok (.goto 29, 3) := by decide +kernel
theorem dX0_hasResponse_17 : decode cX0_hasResponse 17 = .ok (.iconst 0, 1) := by decide +kernel
theorem dX0_hasResponse_18 : decode cX0_hasResponse 18 = .ok (.goto 25, 3) := by decide +kernel
theorem dX0_hasResponse_21 : decode cX0_hasResponse 21 = .ok (.iload_n 1, 1) := by decide +kernel
theorem dX0_hasResponse_22 : decode cX0_hasResponse 22 = .ok (.iconst 1, 1) := by decide +kernel
theorem dX0_hasResponse_23 : decode cX0_hasResponse 23 = .ok (.if_icmp .ne 19, 3) := by decide +kernel
theorem dX0_hasResponse_26 : decode cX0_hasResponse 26 = .ok (.iload_n 2, 1) := by decide +kernel
theorem dX0_hasResponse_27 : decode cX0_hasResponse 27 = .ok (.iconst 0, 1) := by decide +kernel
theorem dX0_hasResponse_28 : decode cX0_hasResponse 28 = .ok (.aload_n 0, 1) := by decide +kernel
theorem dX0_hasResponse_29 : decode cX0_hasResponse 29 = .ok (.getfield 25, 3) := by decide +kernel
theorem dX0_hasResponse_32 : decode cX0_hasResponse 32 = .ok (.invokestatic 52, 3) := by decide +kernel
theorem dX0_hasResponse_35 : decode cX0_hasResponse 35 = .ok (.ifCond .eq 7, 3) := by decide +kernel
theorem dX0_hasResponse_38 : decode cX0_hasResponse 38 = .ok (.iconst 1, 1) := by decide +kernel
theorem dX0_hasResponse_39 : decode cX0_hasResponse 39 = .ok (.goto 4, 3) := by decide +kernel
theorem dX0_hasResponse_42 : decode cX0_hasResponse 42 = .ok (.iconst 0, 1) := by decide +kernel
theorem dX0_hasResponse_43 : decode cX0_hasResponse 43 = .ok (.ireturn, 1) := by decide +kernel
theorem dX0_checkAt_0 : decode cX0_checkAt 0 = .ok (.iload_n 1, 1) := by decide +kernel
theorem dX0_checkAt_1 : decode cX0_checkAt 1 = .ok (.iconst 0, 1) := by decide +kernel
theorem dX0_checkAt_2 : decode cX0_checkAt 2 = .ok (.aload_n 0, 1) := by decide +kernel
theorem dX0_checkAt_3 : decode cX0_checkAt 3 = .ok (.getfield 21, 3) := by decide +kernel
theorem dX0_checkAt_6 : decode cX0_checkAt 6 = .ok (.iconst 1, 1) := by decide +kernel
theorem dX0_checkAt_7 : decode cX0_checkAt 7 = .ok (.isub, 1) := by decide +kernel
theorem dX0_checkAt_8 : decode cX0_checkAt 8 = .ok (.invokestatic 52, 3) := by decide +kernel
theorem dX0_checkAt_11 : decode cX0_checkAt 11 = .ok (.ifCond .eq 12, 3) := by decide +kernel
theorem dX0_checkAt_14 : decode cX0_checkAt 14 = .ok (.aload_n 0, 1) := by decide +kernel
theorem dX0_checkAt_15 : decode cX0_checkAt 15 = .ok (.getfield 17, 3) := by decide +kernel
theorem dX0_checkAt_18 : decode cX0_checkAt 18 = .ok (.iload_n 1, 1) := by decide +kernel
theorem dX0_checkAt_19 : decode cX0_checkAt 19 = .ok (.aaload, 1) := by decide +kernel
theorem dX0_checkAt_20 : decode cX0_checkAt 20 = .ok (.goto 4, 3) := by decide +kernel
theorem dX0_checkAt_23 : decode cX0_checkAt 23 = .ok (.aconst_null, 1) := by decide +kernel
theorem dX0_checkAt_24 : decode cX0_checkAt 24 = .ok (.areturn, 1) := by decide +kernel
theorem dX0_momentUpper_0 : decode cX0_momentUpper 0 = .ok (.aload_n 0, 1) := by decide +kernel
theorem dX0_momentUpper_1 : decode cX0_momentUpper 1 = .ok (.getfield 40, 3) := by decide +kernel
theorem dX0_momentUpper_4 : decode cX0_momentUpper 4 = .ok (.lneg, 1) := by decide +kernel
theorem dX0_momentUpper_5 : decode cX0_momentUpper 5 = .ok (.iconst 0, 1) := by decide +kernel
theorem dX0_momentUpper_6 : decode cX0_momentUpper 6 = .ok (.iload_n 1, 1) := by decide +kernel
theorem dX0_momentUpper_7 : decode cX0_momentUpper 7 = .ok (.iload_n 2, 1) := by decide +kernel
theorem dX0_momentUpper_8 : decode cX0_momentUpper 8 = .ok (.isub, 1) := by decide +kernel
theorem dX0_momentUpper_9 : decode cX0_momentUpper 9 = .ok (.invokestatic 60, 3) := by decide +kernel
theorem dX0_momentUpper_12 : decode cX0_momentUpper 12 = .ok (.i2l, 1) := by decide +kernel
theorem dX0_momentUpper_13 : decode cX0_momentUpper 13 = .ok (.lmul, 1) := by decide +kernel
theorem dX0_momentUpper_14 : decode cX0_momentUpper 14 = .ok (.lstore_n 3, 1) := by decide +kernel
theorem dX0_momentUpper_15 : decode cX0_momentUpper 15 = .ok (.iconst 0, 1) := by decide +kernel
theorem dX0_momentUpper_16 : decode cX0_momentUpper 16 = .ok (.istore 5, 2) := by decide +kernel
theorem dX0_momentUpper_18 : decode cX0_momentUpper 18 = .ok (.iload 5, 2) := by decide +kernel
theorem dX0_momentUpper_20 : decode cX0_momentUpper 20 = .ok (.aload_n 0, 1) := by decide +kernel
theorem dX0_momentUpper_21 : decode cX0_momentUpper 21 = .ok (.getfield 28, 3) := by decide +kernel
theorem dX0_momentUpper_24 : decode cX0_momentUpper 24 = .ok (.arraylength, 1) := by decide +kernel
theorem dX0_momentUpper_25 : decode cX0_momentUpper 25 = .ok (.if_icmp .ge 36, 3) := by decide +kernel
theorem dX0_momentUpper_28 : decode cX0_momentUpper 28 = .ok (.lload_n 3, 1) := by decide +kernel
theorem dX0_momentUpper_29 : decode cX0_momentUpper 29 = .ok (.aload_n 0, 1) := by decide +kernel
theorem dX0_momentUpper_30 : decode cX0_momentUpper 30 = .ok (.getfield 45, 3) := by decide +kernel
theorem dX0_momentUpper_33 : decode cX0_momentUpper 33 = .ok (.iload 5, 2) := by decide +kernel
theorem dX0_momentUpper_35 : decode cX0_momentUpper 35 = .ok (.aaload, 1) := by decide +kernel
theorem dX0_momentUpper_36 : decode cX0_momentUpper 36 = .ok (.iload_n 2, 1) := by decide +kernel
theorem dX0_momentUpper_37 : decode cX0_momentUpper 37 = .ok (.laload, 1) := by decide +kernel
theorem dX0_momentUpper_38 : decode cX0_momentUpper 38 = .ok (.iconst 0, 1) := by decide +kernel
theorem dX0_momentUpper_39 : decode cX0_momentUpper 39 = .ok (.iload_n 1, 1) := by decide +kernel
theorem dX0_momentUpper_40 : decode cX0_momentUpper 40 = .ok (.aload_n 0, 1) := by decide +kernel
theorem dX0_momentUpper_41 : decode cX0_momentUpper 41 = .ok (.getfield 28, 3) := by decide +kernel
theorem dX0_momentUpper_44 : decode cX0_momentUpper 44 = .ok (.iload 5, 2) := by decide +kernel
theorem dX0_momentUpper_46 : decode cX0_momentUpper 46 = .ok (.iaload, 1) := by decide +kernel
theorem dX0_momentUpper_47 : decode cX0_momentUpper 47 = .ok (.isub, 1) := by decide +kernel
theorem dX0_momentUpper_48 : decode cX0_momentUpper 48 = .ok (.invokestatic 60, 3) := by decide +kernel
theorem dX0_momentUpper_51 : decode cX0_momentUpper 51 = .ok (.i2l, 1) := by decide +kernel
theorem dX0_momentUpper_52 : decode cX0_momentUpper 52 = .ok (.lmul, 1) := by decide +kernel
theorem dX0_momentUpper_53 : decode cX0_momentUpper 53 = .ok (.ladd, 1) := by decide +kernel
theorem dX0_momentUpper_54 : decode cX0_momentUpper 54 = .ok (.lstore_n 3, 1) := by decide +kernel
theorem dX0_momentUpper_55 : decode cX0_momentUpper 55 = .ok (.iinc 5 1, 3) := by decide +kernel
theorem dX0_momentUpper_58 : decode cX0_momentUpper 58 = .ok (.goto (-40), 3) := by decide +kernel
theorem dX0_momentUpper_61 : decode cX0_momentUpper 61 = .ok (.lload_n 3, 1) := by decide +kernel
theorem dX0_momentUpper_62 : decode cX0_momentUpper 62 = .ok (.lreturn, 1) := by decide +kernel
theorem dX1_init_0 : decode cX1_init 0 = .ok (.aload_n 0, 1) := by decide +kernel
theorem dX1_init_1 : decode cX1_init 1 = .ok (.invokespecial 3, 3) := by decide +kernel
theorem dX1_init_4 : decode cX1_init 4 = .ok (.aload_n 0, 1) := by decide +kernel
theorem dX1_init_5 : decode cX1_init 5 = .ok (.new 9, 3) := by decide +kernel
theorem dX1_init_8 : decode cX1_init 8 = .ok (.dup, 1) := by decide +kernel
theorem dX1_init_9 : decode cX1_init 9 = .ok (.invokespecial 11, 3) := by decide +kernel
theorem dX1_init_12 : decode cX1_init 12 = .ok (.putfield 12, 3) := by decide +kernel
theorem dX1_init_15 : decode cX1_init 15 = .ok (.aload_n 0, 1) := by decide +kernel
theorem dX1_init_16 : decode cX1_init 16 = .ok (.iload_n 1, 1) := by decide +kernel
theorem dX1_init_17 : decode cX1_init 17 = .ok (.putfield 18, 3) := by decide +kernel
theorem dX1_init_20 : decode cX1_init 20 = .ok (.aload_n 0, 1) := by decide +kernel
theorem dX1_init_21 : decode cX1_init 21 = .ok (.iload_n 2, 1) := by decide +kernel
theorem dX1_init_22 : decode cX1_init 22 = .ok (.putfield 22, 3) := by decide +kernel
theorem dX1_init_25 : decode cX1_init 25 = .ok (.return_, 1) := by decide +kernel
theorem dX1_totalLower_0 : decode cX1_totalLower 0 = .ok (.aload_n 0, 1) := by decide +kernel
theorem dX1_totalLower_1 : decode cX1_totalLower 1 = .ok (.getfield 12, 3) := by decide +kernel
theorem dX1_totalLower_4 : decode cX1_totalLower 4 = .ok (.getfield 25, 3) := by decide +kernel
theorem dX1_totalLower_7 : decode cX1_totalLower 7 = .ok (.ldc2_w 29, 3) := by decide +kernel
theorem dX1_totalLower_10 : decode cX1_totalLower 10 = .ok (.lmul, 1) := by decide +kernel
theorem dX1_totalLower_11 : decode cX1_totalLower 11 = .ok (.ldc2_w 29, 3) := by decide +kernel
theorem dX1_totalLower_14 : decode cX1_totalLower 14 = .ok (.lmul, 1) := by decide +kernel
theorem dX1_totalLower_15 : decode cX1_totalLower 15 = .ok (.lreturn, 1) := by decide +kernel
theorem dX1_allows_0 : decode cX1_allows 0 = .ok (.iload_n 1, 1) := by decide +kernel
theorem dX1_allows_1 : decode cX1_allows 1 = .ok (.ifCond .ne 26, 3) := by decide +kernel
theorem dX1_allows_4 : decode cX1_allows 4 = .ok (.lload_n 2, 1) := by decide +kernel
theorem dX1_allows_5 : decode cX1_allows 5 = .ok (.aload_n 0, 1) := by decide +kernel
theorem dX1_allows_6 : decode cX1_allows 6 = .ok (.getfield 18, 3) := by decide +kernel
theorem dX1_allows_9 : decode cX1_allows 9 = .ok (.i2l, 1) := by decide +kernel
theorem dX1_allows_10 : decode cX1_allows 10 = .ok (.aload_n 0, 1) := by decide +kernel
theorem dX1_allows_11 : decode cX1_allows 11 = .ok (.invokevirtual 31, 3) := by decide +kernel
theorem dX1_allows_14 : decode cX1_allows 14 = .ok (.lmul, 1) := by decide +kernel
theorem dX1_allows_15 : decode cX1_allows 15 = .ok (.lcmp, 1) := by decide +kernel
theorem dX1_allows_16 : decode cX1_allows 16 = .ok (.ifCond .gt 7, 3) := by decide +kernel
theorem dX1_allows_19 : decode cX1_allows 19 = .ok (.iconst 1, 1) := by decide +kernel
theorem dX1_allows_20 : decode cX1_allows 20 = .ok (.goto 27, 3) := by decide +kernel
theorem dX1_allows_23 : decode cX1_allows 23 = .ok (.iconst 0, 1) := by decide +kernel
theorem dX1_allows_24 : decode cX1_allows 24 = .ok (.goto 23, 3) := by decide +kernel
theorem dX1_allows_27 : decode cX1_allows 27 = .ok (.lload_n 2, 1) := by decide +kernel
theorem dX1_allows_28 : decode cX1_allows 28 = .ok (.aload_n 0, 1) := by decide +kernel
theorem dX1_allows_29 : decode cX1_allows 29 = .ok (.getfield 22, 3) := by decide +kernel
theorem dX1_allows_32 : decode cX1_allows 32 = .ok (.i2l, 1) := by decide +kernel
theorem dX1_allows_33 : decode cX1_allows 33 = .ok (.aload_n 0, 1) := by decide +kernel
theorem dX1_allows_34 : decode cX1_allows 34 = .ok (.invokevirtual 31, 3) := by decide +kernel
theorem dX1_allows_37 : decode cX1_allows 37 = .ok (.lmul, 1) := by decide +kernel
theorem dX1_allows_38 : decode cX1_allows 38 = .ok (.lcmp, 1) := by decide +kernel
theorem dX1_allows_39 : decode cX1_allows 39 = .ok (.ifCond .lt 7, 3) := by decide +kernel
theorem dX1_allows_42 : decode cX1_allows 42 = .ok (.iconst 1, 1) := by decide +kernel
theorem dX1_allows_43 : decode cX1_allows 43 = .ok (.goto 4, 3) := by decide +kernel
theorem dX1_allows_46 : decode cX1_allows 46 = .ok (.iconst 0, 1) := by decide +kernel
theorem dX1_allows_47 : decode cX1_allows 47 = .ok (.ireturn, 1) := by decide +kernel
theorem dX2_init_0 : decode cX2_init 0 = .ok (.aload_n 0, 1) := by decide +kernel
theorem dX2_init_1 : decode cX2_init 1 = .ok (.invokespecial 3, 3) := by decide +kernel
theorem dX2_init_4 : decode cX2_init 4 = .ok (.aload_n 0, 1) := by decide +kernel
theorem dX2_init_5 : decode cX2_init 5 = .ok (.iconst 2, 1) := by decide +kernel
theorem dX2_init_6 : decode cX2_init 6 = .ok (.newarray .long, 2) := by decide +kernel
theorem dX2_init_8 : decode cX2_init 8 = .ok (.putfield 9, 3) := by decide +kernel
theorem dX2_init_11 : decode cX2_init 11 = .ok (.aload_n 0, 1) := by decide +kernel
theorem dX2_init_12 : decode cX2_init 12 = .ok (.iconst 2, 1) := by decide +kernel
theorem dX2_init_13 : decode cX2_init 13 = .ok (.newarray .int, 2) := by decide +kernel
theorem dX2_init_15 : decode cX2_init 15 = .ok (.putfield 15, 3) := by decide +kernel
theorem dX2_init_18 : decode cX2_init 18 = .ok (.aload_n 0, 1) := by decide +kernel
theorem dX2_init_19 : decode cX2_init 19 = .ok (.iconst 2, 1) := by decide +kernel
theorem dX2_init_20 : decode cX2_init 20 = .ok (.newarray .int, 2) := by decide +kernel
theorem dX2_init_22 : decode cX2_init 22 = .ok (.putfield 19, 3) := by decide +kernel
theorem dX2_init_25 : decode cX2_init 25 = .ok (.return_, 1) := by decide +kernel
theorem dX2_find_0 : decode cX2_find 0 = .ok (.iconst 0, 1) := by decide +kernel
theorem dX2_find_1 : decode cX2_find 1 = .ok (.istore 4, 2) := by decide +kernel
theorem dX2_find_3 : decode cX2_find 3 = .ok (.iload 4, 2) := by decide +kernel
theorem dX2_find_5 : decode cX2_find 5 = .ok (.iconst 2, 1) := by decide +kernel
theorem dX2_find_6 : decode cX2_find 6 = .ok (.if_icmp .ge 117, 3) := by decide +kernel
theorem dX2_find_9 : decode cX2_find 9 = .ok (.aload_n 3, 1) := by decide +kernel
theorem dX2_find_10 : decode cX2_find 10 = .ok (.aload_n 1, 1) := by decide +kernel
theorem dX2_find_11 : decode cX2_find 11 = .ok (.aload_n 2, 1) := by decide +kernel
theorem dX2_find_12 : decode cX2_find 12 = .ok (.iload 4, 2) := by decide +kernel
theorem dX2_find_14 : decode cX2_find 14 = .ok (.invokevirtual 22, 3) := by decide +kernel
theorem dX2_find_17 : decode cX2_find 17 = .ok (.iconst 0, 1) := by decide +kernel
theorem dX2_find_18 : decode cX2_find 18 = .ok (.istore 5, 2) := by decide +kernel
theorem dX2_find_20 : decode cX2_find 20 = .ok (.iload 5, 2) := by decide +kernel
theorem dX2_find_22 : decode cX2_find 22 = .ok (.aload_n 3, 1) := by decide +kernel
theorem dX2_find_23 : decode cX2_find 23 = .ok (.getfield 28, 3) := by decide +kernel
theorem dX2_find_26 : decode cX2_find 26 = .ok (.if_icmp .ge 91, 3) := by decide +kernel
theorem dX2_find_29 : decode cX2_find 29 = .ok (.aload_n 3, 1) := by decide +kernel
theorem dX2_find_30 : decode cX2_find 30 = .ok (.getfield 31, 3) := by decide +kernel
theorem dX2_find_33 : decode cX2_find 33 = .ok (.iload 5, 2) := by decide +kernel
theorem dX2_find_35 : decode cX2_find 35 = .ok (.laload, 1) := by decide +kernel
theorem dX2_find_36 : decode cX2_find 36 = .ok (.lstore 6, 2) := by decide +kernel
theorem dX2_find_38 : decode cX2_find 38 = .ok (.iload 4, 2) := by decide +kernel
theorem dX2_find_40 : decode cX2_find 40 = .ok (.ifCond .ne 12, 3) := by decide +kernel
theorem dX2_find_43 : decode cX2_find 43 = .ok (.iload 5, 2) := by decide +kernel
theorem dX2_find_45 : decode cX2_find 45 = .ok (.ifCond .ne 7, 3) := by decide +kernel
theorem dX2_find_48 : decode cX2_find 48 = .ok (.iconst 1, 1) := by decide +kernel
theorem dX2_find_49 : decode cX2_find 49 = .ok (.goto 4, 3) := by decide +kernel
theorem dX2_find_52 : decode cX2_find 52 = .ok (.iconst 0, 1) := by decide +kernel
theorem dX2_find_53 : decode cX2_find 53 = .ok (.istore 8, 2) := by decide +kernel
theorem dX2_find_55 : decode cX2_find 55 = .ok (.iload 8, 2) := by decide +kernel
theorem dX2_find_57 : decode cX2_find 57 = .ok (.ifCond .ne 15, 3) := by decide +kernel
theorem dX2_find_60 : decode cX2_find 60 = .ok (.lload 6, 2) := by decide +kernel
theorem dX2_find_62 : decode cX2_find 62 = .ok (.aload_n 0, 1) := by decide +kernel
theorem dX2_find_63 : decode cX2_find 63 = .ok (.getfield 9, 3) := by decide +kernel
theorem dX2_find_66 : decode cX2_find 66 = .ok (.iconst 0, 1) := by decide +kernel
theorem dX2_find_67 : decode cX2_find 67 = .ok (.laload, 1) := by decide +kernel
theorem dX2_find_68 : decode cX2_find 68 = .ok (.lcmp, 1) := by decide +kernel
theorem dX2_find_69 : decode cX2_find 69 = .ok (.ifCond .le 14, 3) := by decide +kernel
theorem dX2_find_72 : decode cX2_find 72 = .ok (.aload_n 0, 1) := by decide +kernel
theorem dX2_find_73 : decode cX2_find 73 = .ok (.iconst 0, 1) := by decide +kernel
theorem dX2_find_74 : decode cX2_find 74 = .ok (.lload 6, 2) := by decide +kernel
theorem dX2_find_76 : decode cX2_find 76 = .ok (.iload 4, 2) := by decide +kernel
theorem dX2_find_78 : decode cX2_find 78 = .ok (.iload 5, 2) := by decide +kernel
theorem dX2_find_80 : decode cX2_find 80 = .ok (.invokevirtual 34, 3) := by decide +kernel
theorem dX2_find_83 : decode cX2_find 83 = .ok (.iload 8, 2) := by decide +kernel
theorem dX2_find_85 : decode cX2_find 85 = .ok (.ifCond .ne 15, 3) := by decide +kernel
theorem dX2_find_88 : decode cX2_find 88 = .ok (.lload 6, 2) := by decide +kernel
theorem dX2_find_90 : decode cX2_find 90 = .ok (.aload_n 0, 1) := by decide +kernel
theorem dX2_find_91 : decode cX2_find 91 = .ok (.getfield 9, 3) := by decide +kernel
theorem dX2_find_94 : decode cX2_find 94 = .ok (.iconst 1, 1) := by decide +kernel
theorem dX2_find_95 : decode cX2_find 95 = .ok (.laload, 1) := by decide +kernel
theorem dX2_find_96 : decode cX2_find 96 = .ok (.lcmp, 1) := by decide +kernel
theorem dX2_find_97 : decode cX2_find 97 = .ok (.ifCond .ge 14, 3) := by decide +kernel
theorem dX2_find_100 : decode cX2_find 100 = .ok (.aload_n 0, 1) := by decide +kernel
theorem dX2_find_101 : decode cX2_find 101 = .ok (.iconst 1, 1) := by decide +kernel
theorem dX2_find_102 : decode cX2_find 102 = .ok (.lload 6, 2) := by decide +kernel
theorem dX2_find_104 : decode cX2_find 104 = .ok (.iload 4, 2) := by decide +kernel
theorem dX2_find_106 : decode cX2_find 106 = .ok (.iload 5, 2) := by decide +kernel
theorem dX2_find_108 : decode cX2_find 108 = .ok (.invokevirtual 34, 3) := by decide +kernel
theorem dX2_find_111 : decode cX2_find 111 = .ok (.iinc 5 1, 3) := by decide +kernel
theorem dX2_find_114 : decode cX2_find 114 = .ok (.goto (-94), 3) := by decide +kernel
theorem dX2_find_117 : decode cX2_find 117 = .ok (.iinc 4 1, 3) := by decide +kernel
theorem dX2_find_120 : decode cX2_find 120 = .ok (.goto (-117), 3) := by decide +kernel
theorem dX2_find_123 : decode cX2_find 123 = .ok (.aload_n 0, 1) := by decide +kernel
theorem dX2_find_124 : decode cX2_find 124 = .ok (.getfield 9, 3) := by decide +kernel
theorem dX2_find_127 : decode cX2_find 127 = .ok (.iconst 0, 1) := by decide +kernel
theorem dX2_find_128 : decode cX2_find 128 = .ok (.laload, 1) := by decide +kernel
theorem dX2_find_129 : decode cX2_find 129 = .ok (.lconst 0, 1) := by decide +kernel
theorem dX2_find_130 : decode cX2_find 130 = .ok (.lcmp, 1) := by decide +kernel
theorem dX2_find_131 : decode cX2_find 131 = .ok (.ifCond .ge 11, 3) := by decide +kernel
theorem dX2_find_134 : decode cX2_find 134 = .ok (.aload_n 0, 1) := by decide +kernel
theorem dX2_find_135 : decode cX2_find 135 = .ok (.iconst 0, 1) := by decide +kernel
theorem dX2_find_136 : decode cX2_find 136 = .ok (.lconst 0, 1) := by decide +kernel
theorem dX2_find_137 : decode cX2_find 137 = .ok (.iconst (-1), 1) := by decide +kernel
theorem dX2_find_138 : decode cX2_find 138 = .ok (.iconst (-1), 1) := by decide +kernel
theorem dX2_find_139 : decode cX2_find 139 = .ok (.invokevirtual 34, 3) := by decide +kernel
theorem dX2_find_142 : decode cX2_find 142 = .ok (.aload_n 0, 1) := by decide +kernel
theorem dX2_find_143 : decode cX2_find 143 = .ok (.getfield 9, 3) := by decide +kernel
theorem dX2_find_146 : decode cX2_find 146 = .ok (.iconst 1, 1) := by decide +kernel
theorem dX2_find_147 : decode cX2_find 147 = .ok (.laload, 1) := by decide +kernel
theorem dX2_find_148 : decode cX2_find 148 = .ok (.lconst 0, 1) := by decide +kernel
theorem dX2_find_149 : decode cX2_find 149 = .ok (.lcmp, 1) := by decide +kernel
theorem dX2_find_150 : decode cX2_find 150 = .ok (.ifCond .le 11, 3) := by decide +kernel
theorem dX2_find_153 : decode cX2_find 153 = .ok (.aload_n 0, 1) := by decide +kernel
theorem dX2_find_154 : decode cX2_find 154 = .ok (.iconst 1, 1) := by decide +kernel
theorem dX2_find_155 : decode cX2_find 155 = .ok (.lconst 0, 1) := by decide +kernel
theorem dX2_find_156 : decode cX2_find 156 = .ok (.iconst (-1), 1) := by decide +kernel
theorem dX2_find_157 : decode cX2_find 157 = .ok (.iconst (-1), 1) := by decide +kernel
theorem dX2_find_158 : decode cX2_find 158 = .ok (.invokevirtual 34, 3) := by decide +kernel
theorem dX2_find_161 : decode cX2_find 161 = .ok (.return_, 1) := by decide +kernel
theorem dX2_set_0 : decode cX2_set 0 = .ok (.aload_n 0, 1) := by decide +kernel
theorem dX2_set_1 : decode cX2_set 1 = .ok (.getfield 9, 3) := by decide +kernel
theorem dX2_set_4 : decode cX2_set 4 = .ok (.iload_n 1, 1) := by decide +kernel
theorem dX2_set_5 : decode cX2_set 5 = .ok (.lload_n 2, 1) := by decide +kernel
theorem dX2_set_6 : decode cX2_set 6 = .ok (.lastore, 1) := by decide +kernel
theorem dX2_set_7 : decode cX2_set 7 = .ok (.aload_n 0, 1) := by decide +kernel
theorem dX2_set_8 : decode cX2_set 8 = .ok (.getfield 15, 3) := by decide +kernel
theorem dX2_set_11 : decode cX2_set 11 = .ok (.iload_n 1, 1) := by decide +kernel
theorem dX2_set_12 : decode cX2_set 12 = .ok (.iload 4, 2) := by decide +kernel
theorem dX2_set_14 : decode cX2_set 14 = .ok (.iastore, 1) := by decide +kernel
theorem dX2_set_15 : decode cX2_set 15 = .ok (.aload_n 0, 1) := by decide +kernel
theorem dX2_set_16 : decode cX2_set 16 = .ok (.getfield 19, 3) := by decide +kernel
theorem dX2_set_19 : decode cX2_set 19 = .ok (.iload_n 1, 1) := by decide +kernel
theorem dX2_set_20 : decode cX2_set 20 = .ok (.iload 5, 2) := by decide +kernel
theorem dX2_set_22 : decode cX2_set 22 = .ok (.iastore, 1) := by decide +kernel
theorem dX2_set_23 : decode cX2_set 23 = .ok (.return_, 1) := by decide +kernel
theorem dX3_init_0 : decode cX3_init 0 = .ok (.aload_n 0, 1) := by decide +kernel
theorem dX3_init_1 : decode cX3_init 1 = .ok (.invokespecial 3, 3) := by decide +kernel
theorem dX3_init_4 : decode cX3_init 4 = .ok (.aload_n 0, 1) := by decide +kernel
theorem dX3_init_5 : decode cX3_init 5 = .ok (.new 9, 3) := by decide +kernel
theorem dX3_init_8 : decode cX3_init 8 = .ok (.dup, 1) := by decide +kernel
theorem dX3_init_9 : decode cX3_init 9 = .ok (.invokespecial 11, 3) := by decide +kernel
theorem dX3_init_12 : decode cX3_init 12 = .ok (.putfield 12, 3) := by decide +kernel
theorem dX3_init_15 : decode cX3_init 15 = .ok (.aload_n 0, 1) := by decide +kernel
theorem dX3_init_16 : decode cX3_init 16 = .ok (.new 18, 3) := by decide +kernel
theorem dX3_init_19 : decode cX3_init 19 = .ok (.dup, 1) := by decide +kernel
theorem dX3_init_20 : decode cX3_init 20 = .ok (.invokespecial 20, 3) := by decide +kernel
theorem dX3_init_23 : decode cX3_init 23 = .ok (.putfield 21, 3) := by decide +kernel
theorem dX3_init_26 : decode cX3_init 26 = .ok (.aload_n 0, 1) := by decide +kernel
theorem dX3_init_27 : decode cX3_init 27 = .ok (.iconst 2, 1) := by decide +kernel
theorem dX3_init_28 : decode cX3_init 28 = .ok (.iconst 5, 1) := by decide +kernel
theorem dX3_init_29 : decode cX3_init 29 = .ok (.multianewarray 25 2, 4) := by decide +kernel
theorem dX3_init_33 : decode cX3_init 33 = .ok (.putfield 27, 3) := by decide +kernel
theorem dX3_init_36 : decode cX3_init 36 = .ok (.aload_n 0, 1) := by decide +kernel
theorem dX3_init_37 : decode cX3_init 37 = .ok (.bipush 100, 2) := by decide +kernel
theorem dX3_init_39 : decode cX3_init 39 = .ok (.putfield 30, 3) := by decide +kernel
theorem dX3_init_42 : decode cX3_init 42 = .ok (.aload_n 0, 1) := by decide +kernel
theorem dX3_init_43 : decode cX3_init 43 = .ok (.iconst (-1), 1) := by decide +kernel
theorem dX3_init_44 : decode cX3_init 44 = .ok (.putfield 34, 3) := by decide +kernel
theorem dX3_init_47 : decode cX3_init 47 = .ok (.aload_n 0, 1) := by decide +kernel
theorem dX3_init_48 : decode cX3_init 48 = .ok (.iconst 0, 1) := by decide +kernel
theorem dX3_init_49 : decode cX3_init 49 = .ok (.putfield 37, 3) := by decide +kernel
theorem dX3_init_52 : decode cX3_init 52 = .ok (.aload_n 0, 1) := by decide +kernel
theorem dX3_init_53 : decode cX3_init 53 = .ok (.iconst (-1), 1) := by decide +kernel
theorem dX3_init_54 : decode cX3_init 54 = .ok (.putfield 40, 3) := by decide +kernel
theorem dX3_init_57 : decode cX3_init 57 = .ok (.aload_n 0, 1) := by decide +kernel
theorem dX3_init_58 : decode cX3_init 58 = .ok (.iconst (-1), 1) := by decide +kernel
theorem dX3_init_59 : decode cX3_init 59 = .ok (.putfield 43, 3) := by decide +kernel
theorem dX3_init_62 : decode cX3_init 62 = .ok (.return_, 1) := by decide +kernel
theorem dX3_prepare_0 : decode cX3_prepare 0 = .ok (.aload_n 0, 1) := by decide +kernel
theorem dX3_prepare_1 : decode cX3_prepare 1 = .ok (.iconst (-1), 1) := by decide +kernel
theorem dX3_prepare_2 : decode cX3_prepare 2 = .ok (.putfield 34, 3) := by decide +kernel
theorem dX3_prepare_5 : decode cX3_prepare 5 = .ok (.aload_n 0, 1) := by decide +kernel
theorem dX3_prepare_6 : decode cX3_prepare 6 = .ok (.iload_n 3, 1) := by decide +kernel
theorem dX3_prepare_7 : decode cX3_prepare 7 = .ok (.iconst 2, 1) := by decide +kernel
theorem dX3_prepare_8 : decode cX3_prepare 8 = .ok (.if_icmp .ne 8, 3) := by decide +kernel
theorem dX3_prepare_11 : decode cX3_prepare 11 = .ok (.bipush 100, 2) := by decide +kernel
theorem dX3_prepare_13 : decode cX3_prepare 13 = .ok (.goto 12, 3) := by decide +kernel
theorem dX3_prepare_16 : decode cX3_prepare 16 = .ok (.bipush 100, 2) := by decide +kernel
theorem dX3_prepare_18 : decode cX3_prepare 18 = .ok (.aload_n 1, 1) := by decide +kernel
theorem dX3_prepare_19 : decode cX3_prepare 19 = .ok (.getfield 46, 3) := by decide +kernel
theorem dX3_prepare_22 : decode cX3_prepare 22 = .ok (.iconst 0, 1) := by decide +kernel
theorem dX3_prepare_23 : decode cX3_prepare 23 = .ok (.iaload, 1) := by decide +kernel
theorem dX3_prepare_24 : decode cX3_prepare 24 = .ok (.iadd, 1) := by decide +kernel
theorem dX3_prepare_25 : decode cX3_prepare 25 = .ok (.putfield 30, 3) := by decide +kernel
theorem dX3_prepare_28 : decode cX3_prepare 28 = .ok (.iload_n 3, 1) := by decide +kernel
theorem dX3_prepare_29 : decode cX3_prepare 29 = .ok (.ifCond .ne 11, 3) := by decide +kernel
theorem dX3_prepare_32 : decode cX3_prepare 32 = .ok (.aload_n 2, 1) := by decide +kernel
theorem dX3_prepare_33 : decode cX3_prepare 33 = .ok (.ifnull 7, 3) := by decide +kernel
theorem dX3_prepare_36 : decode cX3_prepare 36 = .ok (.iconst 1, 1) := by decide +kernel
theorem dX3_prepare_37 : decode cX3_prepare 37 = .ok (.goto 4, 3) := by decide +kernel
theorem dX3_prepare_40 : decode cX3_prepare 40 = .ok (.iconst 0, 1) := by decide +kernel
theorem dX3_prepare_41 : decode cX3_prepare 41 = .ok (.istore 4, 2) := by decide +kernel
theorem dX3_prepare_43 : decode cX3_prepare 43 = .ok (.iload 4, 2) := by decide +kernel
theorem dX3_prepare_45 : decode cX3_prepare 45 = .ok (.ifCond .eq 22, 3) := by decide +kernel
theorem dX3_prepare_48 : decode cX3_prepare 48 = .ok (.aload_n 1, 1) := by decide +kernel
theorem dX3_prepare_49 : decode cX3_prepare 49 = .ok (.getfield 46, 3) := by decide +kernel
theorem dX3_prepare_52 : decode cX3_prepare 52 = .ok (.iconst 1, 1) := by decide +kernel
theorem dX3_prepare_53 : decode cX3_prepare 53 = .ok (.iaload, 1) := by decide +kernel
theorem dX3_prepare_54 : decode cX3_prepare 54 = .ok (.iconst 1, 1) := by decide +kernel
theorem dX3_prepare_55 : decode cX3_prepare 55 = .ok (.isub, 1) := by decide +kernel
theorem dX3_prepare_56 : decode cX3_prepare 56 = .ok (.aload_n 1, 1) := by decide +kernel
theorem dX3_prepare_57 : decode cX3_prepare 57 = .ok (.getfield 46, 3) := by decide +kernel
theorem dX3_prepare_60 : decode cX3_prepare 60 = .ok (.iconst 2, 1) := by decide +kernel
theorem dX3_prepare_61 : decode cX3_prepare 61 = .ok (.iaload, 1) := by decide +kernel
theorem dX3_prepare_62 : decode cX3_prepare 62 = .ok (.imul, 1) := by decide +kernel
theorem dX3_prepare_63 : decode cX3_prepare 63 = .ok (.i2l, 1) := by decide +kernel
theorem dX3_prepare_64 : decode cX3_prepare 64 = .ok (.goto 4, 3) := by decide +kernel
theorem dX3_prepare_67 : decode cX3_prepare 67 = .ok (.lconst 0, 1) := by decide +kernel
theorem dX3_prepare_68 : decode cX3_prepare 68 = .ok (.lstore 5, 2) := by decide +kernel
theorem dX3_prepare_70 : decode cX3_prepare 70 = .ok (.iconst 0, 1) := by decide +kernel
theorem dX3_prepare_71 : decode cX3_prepare 71 = .ok (.istore 7, 2) := by decide +kernel
theorem dX3_prepare_73 : decode cX3_prepare 73 = .ok (.iload 7, 2) := by decide +kernel
theorem dX3_prepare_75 : decode cX3_prepare 75 = .ok (.iconst 5, 1) := by decide +kernel
theorem dX3_prepare_76 : decode cX3_prepare 76 = .ok (.if_icmp .ge 108, 3) := by decide +kernel
theorem dX3_prepare_79 : decode cX3_prepare 79 = .ok (.aload_n 0, 1) := by decide +kernel
theorem dX3_prepare_80 : decode cX3_prepare 80 = .ok (.getfield 27, 3) := by decide +kernel
theorem dX3_prepare_83 : decode cX3_prepare 83 = .ok (.iconst 0, 1) := by decide +kernel
theorem dX3_prepare_84 : decode cX3_prepare 84 = .ok (.aaload, 1) := by decide +kernel
theorem dX3_prepare_85 : decode cX3_prepare 85 = .ok (.iload 7, 2) := by decide +kernel
theorem dX3_prepare_87 : decode cX3_prepare 87 = .ok (.lconst 0, 1) := by decide +kernel
theorem dX3_prepare_88 : decode cX3_prepare 88 = .ok (.lastore, 1) := by decide +kernel
theorem dX3_prepare_89 : decode cX3_prepare 89 = .ok (.aload_n 0, 1) := by decide +kernel
theorem dX3_prepare_90 : decode cX3_prepare 90 = .ok (.getfield 27, 3) := by decide +kernel
theorem dX3_prepare_93 : decode cX3_prepare 93 = .ok (.iconst 1, 1) := by decide +kernel
theorem dX3_prepare_94 : decode cX3_prepare 94 = .ok (.aaload, 1) := by decide +kernel
theorem dX3_prepare_95 : decode cX3_prepare 95 = .ok (.iload 7, 2) := by decide +kernel
theorem dX3_prepare_97 : decode cX3_prepare 97 = .ok (.lconst 0, 1) := by decide +kernel
theorem dX3_prepare_98 : decode cX3_prepare 98 = .ok (.lastore, 1) := by decide +kernel
theorem dX3_prepare_99 : decode cX3_prepare 99 = .ok (.aload_n 1, 1) := by decide +kernel
theorem dX3_prepare_100 : decode cX3_prepare 100 = .ok (.iload 7, 2) := by decide +kernel
theorem dX3_prepare_102 : decode cX3_prepare 102 = .ok (.invokevirtual 52, 3) := by decide +kernel
theorem dX3_prepare_105 : decode cX3_prepare 105 = .ok (.astore 8, 2) := by decide +kernel
theorem dX3_prepare_107 : decode cX3_prepare 107 = .ok (.aload 8, 2) := by decide +kernel
theorem dX3_prepare_109 : decode cX3_prepare 109 = .ok (.ifnull 69, 3) := by decide +kernel
theorem dX3_prepare_112 : decode cX3_prepare 112 = .ok (.lload 5, 2) := by decide +kernel
theorem dX3_prepare_114 : decode cX3_prepare 114 = .ok (.lconst 0, 1) := by decide +kernel
theorem dX3_prepare_115 : decode cX3_prepare 115 = .ok (.lcmp, 1) := by decide +kernel
theorem dX3_prepare_116 : decode cX3_prepare 116 = .ok (.ifCond .eq 62, 3) := by decide +kernel
theorem dX3_prepare_119 : decode cX3_prepare 119 = .ok (.aload_n 0, 1) := by decide +kernel
theorem dX3_prepare_120 : decode cX3_prepare 120 = .ok (.getfield 21, 3) := by decide +kernel
theorem dX3_prepare_123 : decode cX3_prepare 123 = .ok (.aload 8, 2) := by decide +kernel
theorem dX3_prepare_125 : decode cX3_prepare 125 = .ok (.getfield 56, 3) := by decide +kernel
theorem dX3_prepare_128 : decode cX3_prepare 128 = .ok (.aload_n 2, 1) := by decide +kernel
theorem dX3_prepare_129 : decode cX3_prepare 129 = .ok (.aload_n 0, 1) := by decide +kernel
theorem dX3_prepare_130 : decode cX3_prepare 130 = .ok (.getfield 12, 3) := by decide +kernel
theorem dX3_prepare_133 : decode cX3_prepare 133 = .ok (.invokevirtual 62, 3) := by decide +kernel
theorem dX3_prepare_136 : decode cX3_prepare 136 = .ok (.aload_n 0, 1) := by decide +kernel
theorem dX3_prepare_137 : decode cX3_prepare 137 = .ok (.getfield 27, 3) := by decide +kernel
theorem dX3_prepare_140 : decode cX3_prepare 140 = .ok (.iconst 0, 1) := by decide +kernel
theorem dX3_prepare_141 : decode cX3_prepare 141 = .ok (.aaload, 1) := by decide +kernel
theorem dX3_prepare_142 : decode cX3_prepare 142 = .ok (.iload 7, 2) := by decide +kernel
theorem dX3_prepare_144 : decode cX3_prepare 144 = .ok (.lload 5, 2) := by decide +kernel
theorem dX3_prepare_146 : decode cX3_prepare 146 = .ok (.aload_n 0, 1) := by decide +kernel
theorem dX3_prepare_147 : decode cX3_prepare 147 = .ok (.getfield 21, 3) := by decide +kernel
theorem dX3_prepare_150 : decode cX3_prepare 150 = .ok (.getfield 66, 3) := by decide +kernel
theorem dX3_prepare_153 : decode cX3_prepare 153 = .ok (.iconst 0, 1) := by decide +kernel
theorem dX3_prepare_154 : decode cX3_prepare 154 = .ok (.laload, 1) := by decide +kernel
theorem dX3_prepare_155 : decode cX3_prepare 155 = .ok (.lmul, 1) := by decide +kernel
theorem dX3_prepare_156 : decode cX3_prepare 156 = .ok (.lastore, 1) := by decide +kernel
theorem dX3_prepare_157 : decode cX3_prepare 157 = .ok (.aload_n 0, 1) := by decide +kernel
theorem dX3_prepare_158 : decode cX3_prepare 158 = .ok (.getfield 27, 3) := by decide +kernel
theorem dX3_prepare_161 : decode cX3_prepare 161 = .ok (.iconst 1, 1) := by decide +kernel
theorem dX3_prepare_162 : decode cX3_prepare 162 = .ok (.aaload, 1) := by decide +kernel
theorem dX3_prepare_163 : decode cX3_prepare 163 = .ok (.iload 7, 2) := by decide +kernel
theorem dX3_prepare_165 : decode cX3_prepare 165 = .ok (.lload 5, 2) := by decide +kernel
theorem dX3_prepare_167 : decode cX3_prepare 167 = .ok (.aload_n 0, 1) := by decide +kernel
theorem dX3_prepare_168 : decode cX3_prepare 168 = .ok (.getfield 21, 3) := by decide +kernel
theorem dX3_prepare_171 : decode cX3_prepare 171 = .ok (.getfield 66, 3) := by decide +kernel
theorem dX3_prepare_174 : decode cX3_prepare 174 = .ok (.iconst 1, 1) := by decide +kernel
theorem dX3_prepare_175 : decode cX3_prepare 175 = .ok (.laload, 1) := by decide +kernel
theorem dX3_prepare_176 : decode cX3_prepare 176 = .ok (.lmul, 1) := by decide +kernel
theorem dX3_prepare_177 : decode cX3_prepare 177 = .ok (.lastore, 1) := by decide +kernel
theorem dX3_prepare_178 : decode cX3_prepare 178 = .ok (.iinc 7 1, 3) := by decide +kernel
theorem dX3_prepare_181 : decode cX3_prepare 181 = .ok (.goto (-108), 3) := by decide +kernel
theorem dX3_prepare_184 : decode cX3_prepare 184 = .ok (.return_, 1) := by decide +kernel
theorem dX3_totalOf_0 : decode cX3_totalOf 0 = .ok (.ldc2_w 70, 3) := by decide +kernel
theorem dX3_totalOf_3 : decode cX3_totalOf 3 = .ok (.lload_n 3, 1) := by decide +kernel
theorem dX3_totalOf_4 : decode cX3_totalOf 4 = .ok (.lmul, 1) := by decide +kernel
theorem dX3_totalOf_5 : decode cX3_totalOf 5 = .ok (.aload_n 0, 1) := by decide +kernel
theorem dX3_totalOf_6 : decode cX3_totalOf 6 = .ok (.getfield 27, 3) := by decide +kernel
theorem dX3_totalOf_9 : decode cX3_totalOf 9 = .ok (.iload_n 2, 1) := by decide +kernel
theorem dX3_totalOf_10 : decode cX3_totalOf 10 = .ok (.aaload, 1) := by decide +kernel
theorem dX3_totalOf_11 : decode cX3_totalOf 11 = .ok (.iload_n 1, 1) := by decide +kernel
theorem dX3_totalOf_12 : decode cX3_totalOf 12 = .ok (.laload, 1) := by decide +kernel
theorem dX3_totalOf_13 : decode cX3_totalOf 13 = .ok (.ladd, 1) := by decide +kernel
theorem dX3_totalOf_14 : decode cX3_totalOf 14 = .ok (.aload_n 0, 1) := by decide +kernel
theorem dX3_totalOf_15 : decode cX3_totalOf 15 = .ok (.getfield 30, 3) := by decide +kernel
theorem dX3_totalOf_18 : decode cX3_totalOf 18 = .ok (.i2l, 1) := by decide +kernel
theorem dX3_totalOf_19 : decode cX3_totalOf 19 = .ok (.lmul, 1) := by decide +kernel
theorem dX3_totalOf_20 : decode cX3_totalOf 20 = .ok (.lreturn, 1) := by decide +kernel
theorem dX3_firstUnmet_0 : decode cX3_firstUnmet 0 = .ok (.iconst 0, 1) := by decide +kernel
theorem dX3_firstUnmet_1 : decode cX3_firstUnmet 1 = .ok (.istore_n 3, 1) := by decide +kernel
theorem dX3_firstUnmet_2 : decode cX3_firstUnmet 2 = .ok (.iload_n 3, 1) := by decide +kernel
theorem dX3_firstUnmet_3 : decode cX3_firstUnmet 3 = .ok (.aload_n 1, 1) := by decide +kernel
theorem dX3_firstUnmet_4 : decode cX3_firstUnmet 4 = .ok (.getfield 72, 3) := by decide +kernel
theorem dX3_firstUnmet_7 : decode cX3_firstUnmet 7 = .ok (.if_icmp .ge 34, 3) := by decide +kernel
theorem dX3_firstUnmet_10 : decode cX3_firstUnmet 10 = .ok (.aload_n 1, 1) := by decide +kernel
theorem dX3_firstUnmet_11 : decode cX3_firstUnmet 11 = .ok (.iload_n 3, 1) := by decide +kernel
theorem dX3_firstUnmet_12 : decode cX3_firstUnmet 12 = .ok (.invokevirtual 52, 3) := by decide +kernel
theorem dX3_firstUnmet_15 : decode cX3_firstUnmet 15 = .ok (.astore 4, 2) := by decide +kernel
theorem dX3_firstUnmet_17 : decode cX3_firstUnmet 17 = .ok (.aload 4, 2) := by decide +kernel
theorem dX3_firstUnmet_19 : decode cX3_firstUnmet 19 = .ok (.ifnull 16, 3) := by decide +kernel
theorem dX3_firstUnmet_22 : decode cX3_firstUnmet 22 = .ok (.aload_n 0, 1) := by decide +kernel
theorem dX3_firstUnmet_23 : decode cX3_firstUnmet 23 = .ok (.iload_n 3, 1) := by decide +kernel
theorem dX3_firstUnmet_24 : decode cX3_firstUnmet 24 = .ok (.aload 4, 2) := by decide +kernel
theorem dX3_firstUnmet_26 : decode cX3_firstUnmet 26 = .ok (.aload_n 2, 1) := by decide +kernel
theorem dX3_firstUnmet_27 : decode cX3_firstUnmet 27 = .ok (.invokevirtual 75, 3) := by decide +kernel
theorem dX3_firstUnmet_30 : decode cX3_firstUnmet 30 = .ok (.ifCond .ne 5, 3) := by decide +kernel
theorem dX3_firstUnmet_33 : decode cX3_firstUnmet 33 = .ok (.iload_n 3, 1) := by decide +kernel
theorem dX3_firstUnmet_34 : decode cX3_firstUnmet 34 = .ok (.ireturn, 1) := by decide +kernel
theorem dX3_firstUnmet_35 : decode cX3_firstUnmet 35 = .ok (.iinc 3 1, 3) := by decide +kernel
theorem dX3_firstUnmet_38 : decode cX3_firstUnmet 38 = .ok (.goto (-36), 3) := by decide +kernel
theorem dX3_firstUnmet_41 : decode cX3_firstUnmet 41 = .ok (.iconst (-1), 1) := by decide +kernel
theorem dX3_firstUnmet_42 : decode cX3_firstUnmet 42 = .ok (.ireturn, 1) := by decide +kernel
theorem dX3_allMet_0 : decode cX3_allMet 0 = .ok (.aload_n 0, 1) := by decide +kernel
theorem dX3_allMet_1 : decode cX3_allMet 1 = .ok (.aload_n 1, 1) := by decide +kernel
theorem dX3_allMet_2 : decode cX3_allMet 2 = .ok (.aload_n 2, 1) := by decide +kernel
theorem dX3_allMet_3 : decode cX3_allMet 3 = .ok (.invokevirtual 79, 3) := by decide +kernel
theorem dX3_allMet_6 : decode cX3_allMet 6 = .ok (.ifCond .ne 17, 3) := by decide +kernel
theorem dX3_allMet_9 : decode cX3_allMet 9 = .ok (.aload_n 0, 1) := by decide +kernel
theorem dX3_allMet_10 : decode cX3_allMet 10 = .ok (.aload_n 1, 1) := by decide +kernel
theorem dX3_allMet_11 : decode cX3_allMet 11 = .ok (.aload_n 2, 1) := by decide +kernel
theorem dX3_allMet_12 : decode cX3_allMet 12 = .ok (.invokevirtual 83, 3) := by decide +kernel
theorem dX3_allMet_15 : decode cX3_allMet 15 = .ok (.iconst (-1), 1) := by decide +kernel
theorem dX3_allMet_16 : decode cX3_allMet 16 = .ok (.if_icmp .ne 7, 3) := by decide +kernel
theorem dX3_allMet_19 : decode cX3_allMet 19 = .ok (.iconst 1, 1) := by decide +kernel
theorem dX3_allMet_20 : decode cX3_allMet 20 = .ok (.goto 4, 3) := by decide +kernel
theorem dX3_allMet_23 : decode cX3_allMet 23 = .ok (.iconst 0, 1) := by decide +kernel
theorem dX3_allMet_24 : decode cX3_allMet 24 = .ok (.ireturn, 1) := by decide +kernel
theorem dX3_failsAsBefore_0 : decode cX3_failsAsBefore 0 = .ok (.aload_n 1, 1) := by decide +kernel
theorem dX3_failsAsBefore_1 : decode cX3_failsAsBefore 1 = .ok (.aload_n 0, 1) := by decide +kernel
theorem dX3_failsAsBefore_2 : decode cX3_failsAsBefore 2 = .ok (.getfield 34, 3) := by decide +kernel
theorem dX3_failsAsBefore_5 : decode cX3_failsAsBefore 5 = .ok (.invokevirtual 52, 3) := by decide +kernel
theorem dX3_failsAsBefore_8 : decode cX3_failsAsBefore 8 = .ok (.astore_n 3, 1) := by decide +kernel
theorem dX3_failsAsBefore_9 : decode cX3_failsAsBefore 9 = .ok (.aload_n 3, 1) := by decide +kernel
theorem dX3_failsAsBefore_10 : decode cX3_failsAsBefore 10 = .ok (.ifnull 11, 3) := by decide +kernel
theorem dX3_failsAsBefore_13 : decode cX3_failsAsBefore 13 = .ok (.aload_n 0, 1) := by decide +kernel
theorem dX3_failsAsBefore_14 : decode cX3_failsAsBefore 14 = .ok (.getfield 40, 3) := by decide +kernel
theorem dX3_failsAsBefore_17 : decode cX3_failsAsBefore 17 = .ok (.iconst (-1), 1) := by decide +kernel
theorem dX3_failsAsBefore_18 : decode cX3_failsAsBefore 18 = .ok (.if_icmp .ne 5, 3) := by decide +kernel
theorem dX3_failsAsBefore_21 : decode cX3_failsAsBefore 21 = .ok (.iconst 0, 1) := by decide +kernel
theorem dX3_failsAsBefore_22 : decode cX3_failsAsBefore 22 = .ok (.ireturn, 1) := by decide +kernel
theorem dX3_failsAsBefore_23 : decode cX3_failsAsBefore 23 = .ok (.aload_n 3, 1) := by decide +kernel
theorem dX3_failsAsBefore_24 : decode cX3_failsAsBefore 24 = .ok (.getfield 56, 3) := by decide +kernel
theorem dX3_failsAsBefore_27 : decode cX3_failsAsBefore 27 = .ok (.aload_n 2, 1) := by decide +kernel
theorem dX3_failsAsBefore_28 : decode cX3_failsAsBefore 28 = .ok (.aload_n 0, 1) := by decide +kernel
theorem dX3_failsAsBefore_29 : decode cX3_failsAsBefore 29 = .ok (.getfield 40, 3) := by decide +kernel
theorem dX3_failsAsBefore_32 : decode cX3_failsAsBefore 32 = .ok (.aload_n 0, 1) := by decide +kernel
theorem dX3_failsAsBefore_33 : decode cX3_failsAsBefore 33 = .ok (.getfield 43, 3) := by decide +kernel
theorem dX3_failsAsBefore_36 : decode cX3_failsAsBefore 36 = .ok (.invokevirtual 87, 3) := by decide +kernel
theorem dX3_failsAsBefore_39 : decode cX3_failsAsBefore 39 = .ok (.lstore 4, 2) := by decide +kernel
theorem dX3_failsAsBefore_41 : decode cX3_failsAsBefore 41 = .ok (.aload_n 3, 1) := by decide +kernel
theorem dX3_failsAsBefore_42 : decode cX3_failsAsBefore 42 = .ok (.aload_n 0, 1) := by decide +kernel
theorem dX3_failsAsBefore_43 : decode cX3_failsAsBefore 43 = .ok (.getfield 37, 3) := by decide +kernel
theorem dX3_failsAsBefore_46 : decode cX3_failsAsBefore 46 = .ok (.aload_n 0, 1) := by decide +kernel
theorem dX3_failsAsBefore_47 : decode cX3_failsAsBefore 47 = .ok (.aload_n 0, 1) := by decide +kernel
theorem dX3_failsAsBefore_48 : decode cX3_failsAsBefore 48 = .ok (.getfield 34, 3) := by decide +kernel
theorem dX3_failsAsBefore_51 : decode cX3_failsAsBefore 51 = .ok (.aload_n 0, 1) := by decide +kernel
theorem dX3_failsAsBefore_52 : decode cX3_failsAsBefore 52 = .ok (.getfield 37, 3) := by decide +kernel
theorem dX3_failsAsBefore_55 : decode cX3_failsAsBefore 55 = .ok (.lload 4, 2) := by decide +kernel
theorem dX3_failsAsBefore_57 : decode cX3_failsAsBefore 57 = .ok (.invokevirtual 93, 3) := by decide +kernel
theorem dX3_failsAsBefore_60 : decode cX3_failsAsBefore 60 = .ok (.invokevirtual 97, 3) := by decide +kernel
theorem dX3_failsAsBefore_63 : decode cX3_failsAsBefore 63 = .ok (.ifCond .ne 7, 3) := by decide +kernel
theorem dX3_failsAsBefore_66 : decode cX3_failsAsBefore 66 = .ok (.iconst 1, 1) := by decide +kernel
theorem dX3_failsAsBefore_67 : decode cX3_failsAsBefore 67 = .ok (.goto 4, 3) := by decide +kernel
theorem dX3_failsAsBefore_70 : decode cX3_failsAsBefore 70 = .ok (.iconst 0, 1) := by decide +kernel
theorem dX3_failsAsBefore_71 : decode cX3_failsAsBefore 71 = .ok (.ireturn, 1) := by decide +kernel
theorem dX3_isMet_0 : decode cX3_isMet 0 = .ok (.aload_n 0, 1) := by decide +kernel
theorem dX3_isMet_1 : decode cX3_isMet 1 = .ok (.getfield 21, 3) := by decide +kernel
theorem dX3_isMet_4 : decode cX3_isMet 4 = .ok (.aload_n 2, 1) := by decide +kernel
theorem dX3_isMet_5 : decode cX3_isMet 5 = .ok (.getfield 56, 3) := by decide +kernel
theorem dX3_isMet_8 : decode cX3_isMet 8 = .ok (.aload_n 3, 1) := by decide +kernel
theorem dX3_isMet_9 : decode cX3_isMet 9 = .ok (.aload_n 0, 1) := by decide +kernel
theorem dX3_isMet_10 : decode cX3_isMet 10 = .ok (.getfield 12, 3) := by decide +kernel
theorem dX3_isMet_13 : decode cX3_isMet 13 = .ok (.invokevirtual 62, 3) := by decide +kernel
theorem dX3_isMet_16 : decode cX3_isMet 16 = .ok (.iconst 0, 1) := by decide +kernel
theorem dX3_isMet_17 : decode cX3_isMet 17 = .ok (.istore 4, 2) := by decide +kernel
theorem dX3_isMet_19 : decode cX3_isMet 19 = .ok (.iload 4, 2) := by decide +kernel
theorem dX3_isMet_21 : decode cX3_isMet 21 = .ok (.iconst 1, 1) := by decide +kernel
theorem dX3_isMet_22 : decode cX3_isMet 22 = .ok (.if_icmp .gt 76, 3) := by decide +kernel
theorem dX3_isMet_25 : decode cX3_isMet 25 = .ok (.aload_n 2, 1) := by decide +kernel
theorem dX3_isMet_26 : decode cX3_isMet 26 = .ok (.iload 4, 2) := by decide +kernel
theorem dX3_isMet_28 : decode cX3_isMet 28 = .ok (.aload_n 0, 1) := by decide +kernel
theorem dX3_isMet_29 : decode cX3_isMet 29 = .ok (.iload_n 1, 1) := by decide +kernel
theorem dX3_isMet_30 : decode cX3_isMet 30 = .ok (.iload 4, 2) := by decide +kernel
theorem dX3_isMet_32 : decode cX3_isMet 32 = .ok (.aload_n 0, 1) := by decide +kernel
theorem dX3_isMet_33 : decode cX3_isMet 33 = .ok (.getfield 21, 3) := by decide +kernel
theorem dX3_isMet_36 : decode cX3_isMet 36 = .ok (.getfield 66, 3) := by decide +kernel
theorem dX3_isMet_39 : decode cX3_isMet 39 = .ok (.iload 4, 2) := by decide +kernel
theorem dX3_isMet_41 : decode cX3_isMet 41 = .ok (.laload, 1) := by decide +kernel
theorem dX3_isMet_42 : decode cX3_isMet 42 = .ok (.invokevirtual 93, 3) := by decide +kernel
theorem dX3_isMet_45 : decode cX3_isMet 45 = .ok (.invokevirtual 97, 3) := by decide +kernel
theorem dX3_isMet_48 : decode cX3_isMet 48 = .ok (.ifCond .ne 44, 3) := by decide +kernel
theorem dX3_isMet_51 : decode cX3_isMet 51 = .ok (.aload_n 0, 1) := by decide +kernel
theorem dX3_isMet_52 : decode cX3_isMet 52 = .ok (.iload_n 1, 1) := by decide +kernel
theorem dX3_isMet_53 : decode cX3_isMet 53 = .ok (.putfield 34, 3) := by decide +kernel
theorem dX3_isMet_56 : decode cX3_isMet 56 = .ok (.aload_n 0, 1) := by decide +kernel
theorem dX3_isMet_57 : decode cX3_isMet 57 = .ok (.iload 4, 2) := by decide +kernel
theorem dX3_isMet_59 : decode cX3_isMet 59 = .ok (.putfield 37, 3) := by decide +kernel
theorem dX3_isMet_62 : decode cX3_isMet 62 = .ok (.aload_n 0, 1) := by decide +kernel
theorem dX3_isMet_63 : decode cX3_isMet 63 = .ok (.aload_n 0, 1) := by decide +kernel
theorem dX3_isMet_64 : decode cX3_isMet 64 = .ok (.getfield 21, 3) := by decide +kernel
theorem dX3_isMet_67 : decode cX3_isMet 67 = .ok (.getfield 101, 3) := by decide +kernel
theorem dX3_isMet_70 : decode cX3_isMet 70 = .ok (.iload 4, 2) := by decide +kernel
theorem dX3_isMet_72 : decode cX3_isMet 72 = .ok (.iaload, 1) := by decide +kernel
theorem dX3_isMet_73 : decode cX3_isMet 73 = .ok (.putfield 40, 3) := by decide +kernel
theorem dX3_isMet_76 : decode cX3_isMet 76 = .ok (.aload_n 0, 1) := by decide +kernel
theorem dX3_isMet_77 : decode cX3_isMet 77 = .ok (.aload_n 0, 1) := by decide +kernel
theorem dX3_isMet_78 : decode cX3_isMet 78 = .ok (.getfield 21, 3) := by decide +kernel
theorem dX3_isMet_81 : decode cX3_isMet 81 = .ok (.getfield 104, 3) := by decide +kernel
theorem dX3_isMet_84 : decode cX3_isMet 84 = .ok (.iload 4, 2) := by decide +kernel
theorem dX3_isMet_86 : decode cX3_isMet 86 = .ok (.iaload, 1) := by decide +kernel
theorem dX3_isMet_87 : decode cX3_isMet 87 = .ok (.putfield 43, 3) := by decide +kernel
theorem dX3_isMet_90 : decode cX3_isMet 90 = .ok (.iconst 0, 1) := by decide +kernel
theorem dX3_isMet_91 : decode cX3_isMet 91 = .ok (.ireturn, 1) := by decide +kernel
theorem dX3_isMet_92 : decode cX3_isMet 92 = .ok (.iinc 4 1, 3) := by decide +kernel
theorem dX3_isMet_95 : decode cX3_isMet 95 = .ok (.goto (-76), 3) := by decide +kernel
theorem dX3_isMet_98 : decode cX3_isMet 98 = .ok (.iconst 1, 1) := by decide +kernel
theorem dX3_isMet_99 : decode cX3_isMet 99 = .ok (.ireturn, 1) := by decide +kernel
theorem dX4_init_0 : decode cX4_init 0 = .ok (.aload_n 0, 1) := by decide +kernel
theorem dX4_init_1 : decode cX4_init 1 = .ok (.invokespecial 3, 3) := by decide +kernel
theorem dX4_init_4 : decode cX4_init 4 = .ok (.aload_n 0, 1) := by decide +kernel
theorem dX4_init_5 : decode cX4_init 5 = .ok (.bipush 61, 2) := by decide +kernel
theorem dX4_init_7 : decode cX4_init 7 = .ok (.newarray .long, 2) := by decide +kernel
theorem dX4_init_9 : decode cX4_init 9 = .ok (.putfield 9, 3) := by decide +kernel
theorem dX4_init_12 : decode cX4_init 12 = .ok (.aload_n 0, 1) := by decide +kernel
theorem dX4_init_13 : decode cX4_init 13 = .ok (.lconst 1, 1) := by decide +kernel
theorem dX4_init_14 : decode cX4_init 14 = .ok (.putfield 15, 3) := by decide +kernel
theorem dX4_init_17 : decode cX4_init 17 = .ok (.aload_n 0, 1) := by decide +kernel
theorem dX4_init_18 : decode cX4_init 18 = .ok (.iconst 0, 1) := by decide +kernel
theorem dX4_init_19 : decode cX4_init 19 = .ok (.putfield 19, 3) := by decide +kernel
theorem dX4_init_22 : decode cX4_init 22 = .ok (.return_, 1) := by decide +kernel
theorem dX4_draw_0 : decode cX4_draw 0 = .ok (.aload_n 1, 1) := by decide +kernel
theorem dX4_draw_1 : decode cX4_draw 1 = .ok (.iload_n 2, 1) := by decide +kernel
theorem dX4_draw_2 : decode cX4_draw 2 = .ok (.iload_n 3, 1) := by decide +kernel
theorem dX4_draw_3 : decode cX4_draw 3 = .ok (.invokevirtual 23, 3) := by decide +kernel
theorem dX4_draw_6 : decode cX4_draw 6 = .ok (.ifCond .ne 4, 3) := by decide +kernel
theorem dX4_draw_9 : decode cX4_draw 9 = .ok (.return_, 1) := by decide +kernel
theorem dX4_draw_10 : decode cX4_draw 10 = .ok (.aload_n 0, 1) := by decide +kernel
theorem dX4_draw_11 : decode cX4_draw 11 = .ok (.aload_n 1, 1) := by decide +kernel
theorem dX4_draw_12 : decode cX4_draw 12 = .ok (.getfield 29, 3) := by decide +kernel
theorem dX4_draw_15 : decode cX4_draw 15 = .ok (.putfield 19, 3) := by decide +kernel
theorem dX4_draw_18 : decode cX4_draw 18 = .ok (.aload_n 0, 1) := by decide +kernel
theorem dX4_draw_19 : decode cX4_draw 19 = .ok (.aload_n 1, 1) := by decide +kernel
theorem dX4_draw_20 : decode cX4_draw 20 = .ok (.getfield 30, 3) := by decide +kernel
theorem dX4_draw_23 : decode cX4_draw 23 = .ok (.putfield 15, 3) := by decide +kernel
theorem dX4_draw_26 : decode cX4_draw 26 = .ok (.iconst 0, 1) := by decide +kernel
theorem dX4_draw_27 : decode cX4_draw 27 = .ok (.istore 4, 2) := by decide +kernel
theorem dX4_draw_29 : decode cX4_draw 29 = .ok (.iload 4, 2) := by decide +kernel
theorem dX4_draw_31 : decode cX4_draw 31 = .ok (.aload_n 0, 1) := by decide +kernel
theorem dX4_draw_32 : decode cX4_draw 32 = .ok (.getfield 19, 3) := by decide +kernel
theorem dX4_draw_35 : decode cX4_draw 35 = .ok (.if_icmp .gt 39, 3) := by decide +kernel
theorem dX4_draw_38 : decode cX4_draw 38 = .ok (.aload_n 0, 1) := by decide +kernel
theorem dX4_draw_39 : decode cX4_draw 39 = .ok (.getfield 9, 3) := by decide +kernel
theorem dX4_draw_42 : decode cX4_draw 42 = .ok (.iload 4, 2) := by decide +kernel
theorem dX4_draw_44 : decode cX4_draw 44 = .ok (.iload_n 2, 1) := by decide +kernel
theorem dX4_draw_45 : decode cX4_draw 45 = .ok (.ifCond .ne 15, 3) := by decide +kernel
theorem dX4_draw_48 : decode cX4_draw 48 = .ok (.aload_n 1, 1) := by decide +kernel
theorem dX4_draw_49 : decode cX4_draw 49 = .ok (.getfield 31, 3) := by decide +kernel
theorem dX4_draw_52 : decode cX4_draw 52 = .ok (.iload_n 3, 1) := by decide +kernel
theorem dX4_draw_53 : decode cX4_draw 53 = .ok (.aaload, 1) := by decide +kernel
theorem dX4_draw_54 : decode cX4_draw 54 = .ok (.iload 4, 2) := by decide +kernel
theorem dX4_draw_56 : decode cX4_draw 56 = .ok (.laload, 1) := by decide +kernel
theorem dX4_draw_57 : decode cX4_draw 57 = .ok (.goto 10, 3) := by decide +kernel
theorem dX4_draw_60 : decode cX4_draw 60 = .ok (.aload_n 1, 1) := by decide +kernel
theorem dX4_draw_61 : decode cX4_draw 61 = .ok (.iload_n 3, 1) := by decide +kernel
theorem dX4_draw_62 : decode cX4_draw 62 = .ok (.iload 4, 2) := by decide +kernel
theorem dX4_draw_64 : decode cX4_draw 64 = .ok (.invokevirtual 35, 3) := by decide +kernel
theorem dX4_draw_67 : decode cX4_draw 67 = .ok (.lastore, 1) := by decide +kernel
theorem dX4_draw_68 : decode cX4_draw 68 = .ok (.iinc 4 1, 3) := by decide +kernel
theorem dX4_draw_71 : decode cX4_draw 71 = .ok (.goto (-42), 3) := by decide +kernel
theorem dX4_draw_74 : decode cX4_draw 74 = .ok (.return_, 1) := by decide +kernel
theorem dX4_effectOf_0 : decode cX4_effectOf 0 = .ok (.aload_n 1, 1) := by decide +kernel
theorem dX4_effectOf_1 : decode cX4_effectOf 1 = .ok (.invokevirtual 39, 3) := by decide +kernel
theorem dX4_effectOf_4 : decode cX4_effectOf 4 = .ok (.istore 4, 2) := by decide +kernel
theorem dX4_effectOf_6 : decode cX4_effectOf 6 = .ok (.iconst 0, 1) := by decide +kernel
theorem dX4_effectOf_7 : decode cX4_effectOf 7 = .ok (.istore 5, 2) := by decide +kernel
theorem dX4_effectOf_9 : decode cX4_effectOf 9 = .ok (.lconst 0, 1) := by decide +kernel
theorem dX4_effectOf_10 : decode cX4_effectOf 10 = .ok (.lstore 6, 2) := by decide +kernel
theorem dX4_effectOf_12 : decode cX4_effectOf 12 = .ok (.iconst 0, 1) := by decide +kernel
theorem dX4_effectOf_13 : decode cX4_effectOf 13 = .ok (.istore 8, 2) := by decide +kernel
theorem dX4_effectOf_15 : decode cX4_effectOf 15 = .ok (.iload 8, 2) := by decide +kernel
theorem dX4_effectOf_17 : decode cX4_effectOf 17 = .ok (.aload_n 1, 1) := by decide +kernel
theorem dX4_effectOf_18 : decode cX4_effectOf 18 = .ok (.getfield 45, 3) := by decide +kernel
theorem dX4_effectOf_21 : decode cX4_effectOf 21 = .ok (.if_icmp .ge 73, 3) := by decide +kernel
theorem dX4_effectOf_24 : decode cX4_effectOf 24 = .ok (.iload 5, 2) := by decide +kernel
theorem dX4_effectOf_26 : decode cX4_effectOf 26 = .ok (.aload_n 1, 1) := by decide +kernel
theorem dX4_effectOf_27 : decode cX4_effectOf 27 = .ok (.getfield 48, 3) := by decide +kernel
theorem dX4_effectOf_30 : decode cX4_effectOf 30 = .ok (.iload 8, 2) := by decide +kernel
theorem dX4_effectOf_32 : decode cX4_effectOf 32 = .ok (.iaload, 1) := by decide +kernel
theorem dX4_effectOf_33 : decode cX4_effectOf 33 = .ok (.iadd, 1) := by decide +kernel
theorem dX4_effectOf_34 : decode cX4_effectOf 34 = .ok (.istore 5, 2) := by decide +kernel
theorem dX4_effectOf_36 : decode cX4_effectOf 36 = .ok (.iload_n 3, 1) := by decide +kernel
theorem dX4_effectOf_37 : decode cX4_effectOf 37 = .ok (.iload_n 2, 1) := by decide +kernel
theorem dX4_effectOf_38 : decode cX4_effectOf 38 = .ok (.ifCond .ne 8, 3) := by decide +kernel
theorem dX4_effectOf_41 : decode cX4_effectOf 41 = .ok (.iload 5, 2) := by decide +kernel
theorem dX4_effectOf_43 : decode cX4_effectOf 43 = .ok (.goto 8, 3) := by decide +kernel
theorem dX4_effectOf_46 : decode cX4_effectOf 46 = .ok (.iload 4, 2) := by decide +kernel
theorem dX4_effectOf_48 : decode cX4_effectOf 48 = .ok (.iload 5, 2) := by decide +kernel
theorem dX4_effectOf_50 : decode cX4_effectOf 50 = .ok (.isub, 1) := by decide +kernel
theorem dX4_effectOf_51 : decode cX4_effectOf 51 = .ok (.isub, 1) := by decide +kernel
theorem dX4_effectOf_52 : decode cX4_effectOf 52 = .ok (.istore 9, 2) := by decide +kernel
theorem dX4_effectOf_54 : decode cX4_effectOf 54 = .ok (.iload 9, 2) := by decide +kernel
theorem dX4_effectOf_56 : decode cX4_effectOf 56 = .ok (.iconst 0, 1) := by decide +kernel
theorem dX4_effectOf_57 : decode cX4_effectOf 57 = .ok (.aload_n 0, 1) := by decide +kernel
theorem dX4_effectOf_58 : decode cX4_effectOf 58 = .ok (.getfield 19, 3) := by decide +kernel
theorem dX4_effectOf_61 : decode cX4_effectOf 61 = .ok (.invokestatic 52, 3) := by decide +kernel
theorem dX4_effectOf_64 : decode cX4_effectOf 64 = .ok (.ifCond .eq 24, 3) := by decide +kernel
theorem dX4_effectOf_67 : decode cX4_effectOf 67 = .ok (.lload 6, 2) := by decide +kernel
theorem dX4_effectOf_69 : decode cX4_effectOf 69 = .ok (.aload_n 1, 1) := by decide +kernel
theorem dX4_effectOf_70 : decode cX4_effectOf 70 = .ok (.getfield 56, 3) := by decide +kernel
theorem dX4_effectOf_73 : decode cX4_effectOf 73 = .ok (.iload 8, 2) := by decide +kernel
theorem dX4_effectOf_75 : decode cX4_effectOf 75 = .ok (.iaload, 1) := by decide +kernel
theorem dX4_effectOf_76 : decode cX4_effectOf 76 = .ok (.i2l, 1) := by decide +kernel
theorem dX4_effectOf_77 : decode cX4_effectOf 77 = .ok (.aload_n 0, 1) := by decide +kernel
theorem dX4_effectOf_78 : decode cX4_effectOf 78 = .ok (.getfield 9, 3) := by decide +kernel
theorem dX4_effectOf_81 : decode cX4_effectOf 81 = .ok (.iload 9, 2) := by decide +kernel
theorem dX4_effectOf_83 : decode cX4_effectOf 83 = .ok (.laload, 1) := by decide +kernel
theorem dX4_effectOf_84 : decode cX4_effectOf 84 = .ok (.lmul, 1) := by decide +kernel
theorem dX4_effectOf_85 : decode cX4_effectOf 85 = .ok (.ladd, 1) := by decide +kernel
theorem dX4_effectOf_86 : decode cX4_effectOf 86 = .ok (.lstore 6, 2) := by decide +kernel
theorem dX4_effectOf_88 : decode cX4_effectOf 88 = .ok (.iinc 8 1, 3) := by decide +kernel
theorem dX4_effectOf_91 : decode cX4_effectOf 91 = .ok (.goto (-76), 3) := by decide +kernel
theorem dX4_effectOf_94 : decode cX4_effectOf 94 = .ok (.lload 6, 2) := by decide +kernel
theorem dX4_effectOf_96 : decode cX4_effectOf 96 = .ok (.lreturn, 1) := by decide +kernel
theorem dX4_cut_0 : decode cX4_cut 0 = .ok (.aload_n 0, 1) := by decide +kernel
theorem dX4_cut_1 : decode cX4_cut 1 = .ok (.getfield 15, 3) := by decide +kernel
theorem dX4_cut_4 : decode cX4_cut 4 = .ok (.lconst 0, 1) := by decide +kernel
theorem dX4_cut_5 : decode cX4_cut 5 = .ok (.lcmp, 1) := by decide +kernel
theorem dX4_cut_6 : decode cX4_cut 6 = .ok (.ifCond .ne 7, 3) := by decide +kernel
theorem dX4_cut_9 : decode cX4_cut 9 = .ok (.lconst 0, 1) := by decide +kernel
theorem dX4_cut_10 : decode cX4_cut 10 = .ok (.goto 9, 3) := by decide +kernel
theorem dX4_cut_13 : decode cX4_cut 13 = .ok (.lload_n 1, 1) := by decide +kernel
theorem dX4_cut_14 : decode cX4_cut 14 = .ok (.aload_n 0, 1) := by decide +kernel
theorem dX4_cut_15 : decode cX4_cut 15 = .ok (.getfield 15, 3) := by decide +kernel
theorem dX4_cut_18 : decode cX4_cut 18 = .ok (.ldiv, 1) := by decide +kernel
theorem dX4_cut_19 : decode cX4_cut 19 = .ok (.lreturn, 1) := by decide +kernel
theorem dX5_init_0 : decode cX5_init 0 = .ok (.aload_n 0, 1) := by decide +kernel
theorem dX5_init_1 : decode cX5_init 1 = .ok (.invokespecial 3, 3) := by decide +kernel
theorem dX5_init_4 : decode cX5_init 4 = .ok (.aload_n 0, 1) := by decide +kernel
theorem dX5_init_5 : decode cX5_init 5 = .ok (.bipush 24, 2) := by decide +kernel
theorem dX5_init_7 : decode cX5_init 7 = .ok (.newarray .int, 2) := by decide +kernel
theorem dX5_init_9 : decode cX5_init 9 = .ok (.putfield 9, 3) := by decide +kernel
theorem dX5_init_12 : decode cX5_init 12 = .ok (.aload_n 0, 1) := by decide +kernel
theorem dX5_init_13 : decode cX5_init 13 = .ok (.bipush 24, 2) := by decide +kernel
theorem dX5_init_15 : decode cX5_init 15 = .ok (.newarray .int, 2) := by decide +kernel
theorem dX5_init_17 : decode cX5_init 17 = .ok (.putfield 15, 3) := by decide +kernel
theorem dX5_init_20 : decode cX5_init 20 = .ok (.aload_n 0, 1) := by decide +kernel
theorem dX5_init_21 : decode cX5_init 21 = .ok (.bipush 24, 2) := by decide +kernel
theorem dX5_init_23 : decode cX5_init 23 = .ok (.newarray .int, 2) := by decide +kernel
theorem dX5_init_25 : decode cX5_init 25 = .ok (.putfield 18, 3) := by decide +kernel
theorem dX5_init_28 : decode cX5_init 28 = .ok (.aload_n 0, 1) := by decide +kernel
theorem dX5_init_29 : decode cX5_init 29 = .ok (.bipush 24, 2) := by decide +kernel
theorem dX5_init_31 : decode cX5_init 31 = .ok (.newarray .int, 2) := by decide +kernel
theorem dX5_init_33 : decode cX5_init 33 = .ok (.putfield 21, 3) := by decide +kernel
theorem dX5_init_36 : decode cX5_init 36 = .ok (.aload_n 0, 1) := by decide +kernel
theorem dX5_init_37 : decode cX5_init 37 = .ok (.bipush 24, 2) := by decide +kernel
theorem dX5_init_39 : decode cX5_init 39 = .ok (.newarray .boolean, 2) := by decide +kernel
theorem dX5_init_41 : decode cX5_init 41 = .ok (.putfield 24, 3) := by decide +kernel
theorem dX5_init_44 : decode cX5_init 44 = .ok (.aload_n 0, 1) := by decide +kernel
theorem dX5_init_45 : decode cX5_init 45 = .ok (.iconst 0, 1) := by decide +kernel
theorem dX5_init_46 : decode cX5_init 46 = .ok (.putfield 28, 3) := by decide +kernel
theorem dX5_init_49 : decode cX5_init 49 = .ok (.aload_n 0, 1) := by decide +kernel
theorem dX5_init_50 : decode cX5_init 50 = .ok (.bipush 10, 2) := by decide +kernel
theorem dX5_init_52 : decode cX5_init 52 = .ok (.newarray .int, 2) := by decide +kernel
theorem dX5_init_54 : decode cX5_init 54 = .ok (.putfield 32, 3) := by decide +kernel
theorem dX5_init_57 : decode cX5_init 57 = .ok (.aload_n 0, 1) := by decide +kernel
theorem dX5_init_58 : decode cX5_init 58 = .ok (.bipush 10, 2) := by decide +kernel
theorem dX5_init_60 : decode cX5_init 60 = .ok (.newarray .int, 2) := by decide +kernel
theorem dX5_init_62 : decode cX5_init 62 = .ok (.putfield 35, 3) := by decide +kernel
theorem dX5_init_65 : decode cX5_init 65 = .ok (.aload_n 0, 1) := by decide +kernel
theorem dX5_init_66 : decode cX5_init 66 = .ok (.iconst 0, 1) := by decide +kernel
theorem dX5_init_67 : decode cX5_init 67 = .ok (.putfield 38, 3) := by decide +kernel
theorem dX5_init_70 : decode cX5_init 70 = .ok (.aload_n 0, 1) := by decide +kernel
theorem dX5_init_71 : decode cX5_init 71 = .ok (.iconst 0, 1) := by decide +kernel
theorem dX5_init_72 : decode cX5_init 72 = .ok (.putfield 41, 3) := by decide +kernel
theorem dX5_init_75 : decode cX5_init 75 = .ok (.return_, 1) := by decide +kernel
theorem dX5_lay_0 : decode cX5_lay 0 = .ok (.aload_n 0, 1) := by decide +kernel
theorem dX5_lay_1 : decode cX5_lay 1 = .ok (.getfield 28, 3) := by decide +kernel
theorem dX5_lay_4 : decode cX5_lay 4 = .ok (.bipush 24, 2) := by decide +kernel
theorem dX5_lay_6 : decode cX5_lay 6 = .ok (.if_icmp .lt 5, 3) := by decide +kernel
theorem dX5_lay_9 : decode cX5_lay 9 = .ok (.iconst 0, 1) := by decide +kernel
theorem dX5_lay_10 : decode cX5_lay 10 = .ok (.ireturn, 1) := by decide +kernel
theorem dX5_lay_11 : decode cX5_lay 11 = .ok (.aload_n 0, 1) := by decide +kernel
theorem dX5_lay_12 : decode cX5_lay 12 = .ok (.getfield 9, 3) := by decide +kernel
theorem dX5_lay_15 : decode cX5_lay 15 = .ok (.aload_n 0, 1) := by decide +kernel
theorem dX5_lay_16 : decode cX5_lay 16 = .ok (.getfield 28, 3) := by decide +kernel
theorem dX5_lay_19 : decode cX5_lay 19 = .ok (.iload_n 1, 1) := by decide +kernel
theorem dX5_lay_20 : decode cX5_lay 20 = .ok (.iastore, 1) := by decide +kernel
theorem dX5_lay_21 : decode cX5_lay 21 = .ok (.aload_n 0, 1) := by decide +kernel
theorem dX5_lay_22 : decode cX5_lay 22 = .ok (.getfield 15, 3) := by decide +kernel
theorem dX5_lay_25 : decode cX5_lay 25 = .ok (.aload_n 0, 1) := by decide +kernel
theorem dX5_lay_26 : decode cX5_lay 26 = .ok (.getfield 28, 3) := by decide +kernel
theorem dX5_lay_29 : decode cX5_lay 29 = .ok (.iload_n 2, 1) := by decide +kernel
theorem dX5_lay_30 : decode cX5_lay 30 = .ok (.iastore, 1) := by decide +kernel
theorem dX5_lay_31 : decode cX5_lay 31 = .ok (.aload_n 0, 1) := by decide +kernel
theorem dX5_lay_32 : decode cX5_lay 32 = .ok (.getfield 18, 3) := by decide +kernel
theorem dX5_lay_35 : decode cX5_lay 35 = .ok (.aload_n 0, 1) := by decide +kernel
theorem dX5_lay_36 : decode cX5_lay 36 = .ok (.getfield 28, 3) := by decide +kernel
theorem dX5_lay_39 : decode cX5_lay 39 = .ok (.iload_n 3, 1) := by decide +kernel
theorem dX5_lay_40 : decode cX5_lay 40 = .ok (.iastore, 1) := by decide +kernel
theorem dX5_lay_41 : decode cX5_lay 41 = .ok (.aload_n 0, 1) := by decide +kernel
theorem dX5_lay_42 : decode cX5_lay 42 = .ok (.getfield 21, 3) := by decide +kernel
theorem dX5_lay_45 : decode cX5_lay 45 = .ok (.aload_n 0, 1) := by decide +kernel
theorem dX5_lay_46 : decode cX5_lay 46 = .ok (.getfield 28, 3) := by decide +kernel
theorem dX5_lay_49 : decode cX5_lay 49 = .ok (.iload 4, 2) := by decide +kernel
theorem dX5_lay_51 : decode cX5_lay 51 = .ok (.iastore, 1) := by decide +kernel
theorem dX5_lay_52 : decode cX5_lay 52 = .ok (.aload_n 0, 1) := by decide +kernel
theorem dX5_lay_53 : decode cX5_lay 53 = .ok (.dup, 1) := by decide +kernel
theorem dX5_lay_54 : decode cX5_lay 54 = .ok (.getfield 28, 3) := by decide +kernel
theorem dX5_lay_57 : decode cX5_lay 57 = .ok (.iconst 1, 1) := by decide +kernel
theorem dX5_lay_58 : decode cX5_lay 58 = .ok (.iadd, 1) := by decide +kernel
theorem dX5_lay_59 : decode cX5_lay 59 = .ok (.putfield 28, 3) := by decide +kernel
theorem dX5_lay_62 : decode cX5_lay 62 = .ok (.iconst 1, 1) := by decide +kernel
theorem dX5_lay_63 : decode cX5_lay 63 = .ok (.ireturn, 1) := by decide +kernel
theorem dX5_openAll_0 : decode cX5_openAll 0 = .ok (.iconst 0, 1) := by decide +kernel
theorem dX5_openAll_1 : decode cX5_openAll 1 = .ok (.istore_n 1, 1) := by decide +kernel
theorem dX5_openAll_2 : decode cX5_openAll 2 = .ok (.iload_n 1, 1) := by decide +kernel
theorem dX5_openAll_3 : decode cX5_openAll 3 = .ok (.aload_n 0, 1) := by decide +kernel
theorem dX5_openAll_4 : decode cX5_openAll 4 = .ok (.getfield 28, 3) := by decide +kernel
theorem dX5_openAll_7 : decode cX5_openAll 7 = .ok (.if_icmp .ge 16, 3) := by decide +kernel
theorem dX5_openAll_10 : decode cX5_openAll 10 = .ok (.aload_n 0, 1) := by decide +kernel
theorem dX5_openAll_11 : decode cX5_openAll 11 = .ok (.getfield 24, 3) := by decide +kernel
theorem dX5_openAll_14 : decode cX5_openAll 14 = .ok (.iload_n 1, 1) := by decide +kernel
theorem dX5_openAll_15 : decode cX5_openAll 15 = .ok (.iconst 0, 1) := by decide +kernel
theorem dX5_openAll_16 : decode cX5_openAll 16 = .ok (.bastore, 1) := by decide +kernel
theorem dX5_openAll_17 : decode cX5_openAll 17 = .ok (.iinc 1 1, 3) := by decide +kernel
theorem dX5_openAll_20 : decode cX5_openAll 20 = .ok (.goto (-18), 3) := by decide +kernel
theorem dX5_openAll_23 : decode cX5_openAll 23 = .ok (.return_, 1) := by decide +kernel
theorem dX5_closeOver_0 : decode cX5_closeOver 0 = .ok (.iconst 0, 1) := by decide +kernel
theorem dX5_closeOver_1 : decode cX5_closeOver 1 = .ok (.istore_n 2, 1) := by decide +kernel
theorem dX5_closeOver_2 : decode cX5_closeOver 2 = .ok (.iload_n 2, 1) := by decide +kernel
theorem dX5_closeOver_3 : decode cX5_closeOver 3 = .ok (.aload_n 0, 1) := by decide +kernel
theorem dX5_closeOver_4 : decode cX5_closeOver 4 = .ok (.getfield 28, 3) := by decide +kernel
theorem dX5_closeOver_7 : decode cX5_closeOver 7 = .ok (.if_icmp .ge 26, 3) := by decide +kernel
theorem dX5_closeOver_10 : decode cX5_closeOver 10 = .ok (.aload_n 0, 1) := by decide +kernel
theorem dX5_closeOver_11 : decode cX5_closeOver 11 = .ok (.getfield 21, 3) := by decide +kernel
theorem dX5_closeOver_14 : decode cX5_closeOver 14 = .ok (.iload_n 2, 1) := by decide +kernel
theorem dX5_closeOver_15 : decode cX5_closeOver 15 = .ok (.iaload, 1) := by decide +kernel
theorem dX5_closeOver_16 : decode cX5_closeOver 16 = .ok (.iload_n 1, 1) := by decide +kernel
theorem dX5_closeOver_17 : decode cX5_closeOver 17 = .ok (.if_icmp .ne 10, 3) := by decide +kernel
theorem dX5_closeOver_20 : decode cX5_closeOver 20 = .ok (.aload_n 0, 1) := by decide +kernel
theorem dX5_closeOver_21 : decode cX5_closeOver 21 = .ok (.getfield 24, 3) := by decide +kernel
theorem dX5_closeOver_24 : decode cX5_closeOver 24 = .ok (.iload_n 2, 1) := by decide +kernel
theorem dX5_closeOver_25 : decode cX5_closeOver 25 = .ok (.iconst 1, 1) := by decide +kernel
theorem dX5_closeOver_26 : decode cX5_closeOver 26 = .ok (.bastore, 1) := by decide +kernel
theorem dX5_closeOver_27 : decode cX5_closeOver 27 = .ok (.iinc 2 1, 3) := by decide +kernel
theorem dX5_closeOver_30 : decode cX5_closeOver 30 = .ok (.goto (-28), 3) := by decide +kernel
theorem dX5_closeOver_33 : decode cX5_closeOver 33 = .ok (.return_, 1) := by decide +kernel
theorem dX5_bridgeOf_0 : decode cX5_bridgeOf 0 = .ok (.iload_n 1, 1) := by decide +kernel
theorem dX5_bridgeOf_1 : decode cX5_bridgeOf 1 = .ok (.iconst 0, 1) := by decide +kernel
theorem dX5_bridgeOf_2 : decode cX5_bridgeOf 2 = .ok (.aload_n 0, 1) := by decide +kernel
theorem dX5_bridgeOf_3 : decode cX5_bridgeOf 3 = .ok (.getfield 28, 3) := by decide +kernel
theorem dX5_bridgeOf_6 : decode cX5_bridgeOf 6 = .ok (.iconst 1, 1) := by decide +kernel
theorem dX5_bridgeOf_7 : decode cX5_bridgeOf 7 = .ok (.isub, 1) := by decide +kernel
theorem dX5_bridgeOf_8 : decode cX5_bridgeOf 8 = .ok (.invokestatic 44, 3) := by decide +kernel
theorem dX5_bridgeOf_11 : decode cX5_bridgeOf 11 = .ok (.ifCond .eq 12, 3) := by decide +kernel
theorem dX5_bridgeOf_14 : decode cX5_bridgeOf 14 = .ok (.aload_n 0, 1) := by decide +kernel
theorem dX5_bridgeOf_15 : decode cX5_bridgeOf 15 = .ok (.getfield 21, 3) := by decide +kernel
theorem dX5_bridgeOf_18 : decode cX5_bridgeOf 18 = .ok (.iload_n 1, 1) := by decide +kernel
theorem dX5_bridgeOf_19 : decode cX5_bridgeOf 19 = .ok (.iaload, 1) := by decide +kernel
theorem dX5_bridgeOf_20 : decode cX5_bridgeOf 20 = .ok (.goto 4, 3) := by decide +kernel
theorem dX5_bridgeOf_23 : decode cX5_bridgeOf 23 = .ok (.iconst (-1), 1) := by decide +kernel
theorem dX5_bridgeOf_24 : decode cX5_bridgeOf 24 = .ok (.ireturn, 1) := by decide +kernel
theorem dX5_wayRoad_0 : decode cX5_wayRoad 0 = .ok (.iload_n 1, 1) := by decide +kernel
theorem dX5_wayRoad_1 : decode cX5_wayRoad 1 = .ok (.iconst 0, 1) := by decide +kernel
theorem dX5_wayRoad_2 : decode cX5_wayRoad 2 = .ok (.aload_n 0, 1) := by decide +kernel
theorem dX5_wayRoad_3 : decode cX5_wayRoad 3 = .ok (.getfield 38, 3) := by decide +kernel
theorem dX5_wayRoad_6 : decode cX5_wayRoad 6 = .ok (.iconst 1, 1) := by decide +kernel
theorem dX5_wayRoad_7 : decode cX5_wayRoad 7 = .ok (.isub, 1) := by decide +kernel
theorem dX5_wayRoad_8 : decode cX5_wayRoad 8 = .ok (.invokestatic 44, 3) := by decide +kernel
theorem dX5_wayRoad_11 : decode cX5_wayRoad 11 = .ok (.ifCond .eq 12, 3) := by decide +kernel
theorem dX5_wayRoad_14 : decode cX5_wayRoad 14 = .ok (.aload_n 0, 1) := by decide +kernel
theorem dX5_wayRoad_15 : decode cX5_wayRoad 15 = .ok (.getfield 35, 3) := by decide +kernel
theorem dX5_wayRoad_18 : decode cX5_wayRoad 18 = .ok (.iload_n 1, 1) := by decide +kernel
theorem dX5_wayRoad_19 : decode cX5_wayRoad 19 = .ok (.iaload, 1) := by decide +kernel
theorem dX5_wayRoad_20 : decode cX5_wayRoad 20 = .ok (.goto 4, 3) := by decide +kernel
theorem dX5_wayRoad_23 : decode cX5_wayRoad 23 = .ok (.iconst (-1), 1) := by decide +kernel
theorem dX5_wayRoad_24 : decode cX5_wayRoad 24 = .ok (.ireturn, 1) := by decide +kernel
theorem dX5_search_0 : decode cX5_search 0 = .ok (.aload_n 0, 1) := by decide +kernel
theorem dX5_search_1 : decode cX5_search 1 = .ok (.iload_n 2, 1) := by decide +kernel
theorem dX5_search_2 : decode cX5_search 2 = .ok (.invokevirtual 48, 3) := by decide +kernel
theorem dX5_search_5 : decode cX5_search 5 = .ok (.aload_n 0, 1) := by decide +kernel
theorem dX5_search_6 : decode cX5_search 6 = .ok (.iconst 0, 1) := by decide +kernel
theorem dX5_search_7 : decode cX5_search 7 = .ok (.putfield 38, 3) := by decide +kernel
theorem dX5_search_10 : decode cX5_search 10 = .ok (.aload_n 0, 1) := by decide +kernel
theorem dX5_search_11 : decode cX5_search 11 = .ok (.aload_n 0, 1) := by decide +kernel
theorem dX5_search_12 : decode cX5_search 12 = .ok (.getfield 32, 3) := by decide +kernel
theorem dX5_search_15 : decode cX5_search 15 = .ok (.iload_n 1, 1) := by decide +kernel
theorem dX5_search_16 : decode cX5_search 16 = .ok (.iaload, 1) := by decide +kernel
theorem dX5_search_17 : decode cX5_search 17 = .ok (.sipush 1000, 3) := by decide +kernel
theorem dX5_search_20 : decode cX5_search 20 = .ok (.idiv, 1) := by decide +kernel
theorem dX5_search_21 : decode cX5_search 21 = .ok (.putfield 41, 3) := by decide +kernel
theorem dX5_search_24 : decode cX5_search 24 = .ok (.aload_n 0, 1) := by decide +kernel
theorem dX5_search_25 : decode cX5_search 25 = .ok (.getfield 32, 3) := by decide +kernel
theorem dX5_search_28 : decode cX5_search 28 = .ok (.iload_n 1, 1) := by decide +kernel
theorem dX5_search_29 : decode cX5_search 29 = .ok (.iaload, 1) := by decide +kernel
theorem dX5_search_30 : decode cX5_search 30 = .ok (.ldc 52, 2) := by decide +kernel
theorem dX5_search_32 : decode cX5_search 32 = .ok (.if_icmp .lt 5, 3) := by decide +kernel
theorem dX5_search_35 : decode cX5_search 35 = .ok (.iconst 0, 1) := by decide +kernel
theorem dX5_search_36 : decode cX5_search 36 = .ok (.ireturn, 1) := by decide +kernel
theorem dX5_search_37 : decode cX5_search 37 = .ok (.iload_n 1, 1) := by decide +kernel
theorem dX5_search_38 : decode cX5_search 38 = .ok (.istore_n 3, 1) := by decide +kernel
theorem dX5_search_39 : decode cX5_search 39 = .ok (.iconst 0, 1) := by decide +kernel
theorem dX5_search_40 : decode cX5_search 40 = .ok (.istore 4, 2) := by decide +kernel
theorem dX5_search_42 : decode cX5_search 42 = .ok (.iload 4, 2) := by decide +kernel
theorem dX5_search_44 : decode cX5_search 44 = .ok (.bipush 10, 2) := by decide +kernel
theorem dX5_search_46 : decode cX5_search 46 = .ok (.if_icmp .ge 56, 3) := by decide +kernel
theorem dX5_search_49 : decode cX5_search 49 = .ok (.iload_n 3, 1) := by decide +kernel
theorem dX5_search_50 : decode cX5_search 50 = .ok (.iload_n 2, 1) := by decide +kernel
theorem dX5_search_51 : decode cX5_search 51 = .ok (.if_icmp .eq 51, 3) := by decide +kernel
theorem dX5_search_54 : decode cX5_search 54 = .ok (.aload_n 0, 1) := by decide +kernel
theorem dX5_search_55 : decode cX5_search 55 = .ok (.iload_n 3, 1) := by decide +kernel
theorem dX5_search_56 : decode cX5_search 56 = .ok (.invokevirtual 53, 3) := by decide +kernel
theorem dX5_search_59 : decode cX5_search 59 = .ok (.istore 5, 2) := by decide +kernel
theorem dX5_search_61 : decode cX5_search 61 = .ok (.iload 5, 2) := by decide +kernel
theorem dX5_search_63 : decode cX5_search 63 = .ok (.iconst (-1), 1) := by decide +kernel
theorem dX5_search_64 : decode cX5_search 64 = .ok (.if_icmp .ne 5, 3) := by decide +kernel
theorem dX5_search_67 : decode cX5_search 67 = .ok (.iconst 0, 1) := by decide +kernel
theorem dX5_search_68 : decode cX5_search 68 = .ok (.ireturn, 1) := by decide +kernel
theorem dX5_search_69 : decode cX5_search 69 = .ok (.aload_n 0, 1) := by decide +kernel
theorem dX5_search_70 : decode cX5_search 70 = .ok (.getfield 35, 3) := by decide +kernel
theorem dX5_search_73 : decode cX5_search 73 = .ok (.iload 4, 2) := by decide +kernel
theorem dX5_search_75 : decode cX5_search 75 = .ok (.iload 5, 2) := by decide +kernel
theorem dX5_search_77 : decode cX5_search 77 = .ok (.iastore, 1) := by decide +kernel
theorem dX5_search_78 : decode cX5_search 78 = .ok (.aload_n 0, 1) := by decide +kernel
theorem dX5_search_79 : decode cX5_search 79 = .ok (.dup, 1) := by decide +kernel
theorem dX5_search_80 : decode cX5_search 80 = .ok (.getfield 38, 3) := by decide +kernel
theorem dX5_search_83 : decode cX5_search 83 = .ok (.iconst 1, 1) := by decide +kernel
theorem dX5_search_84 : decode cX5_search 84 = .ok (.iadd, 1) := by decide +kernel
theorem dX5_search_85 : decode cX5_search 85 = .ok (.putfield 38, 3) := by decide +kernel
theorem dX5_search_88 : decode cX5_search 88 = .ok (.aload_n 0, 1) := by decide +kernel
theorem dX5_search_89 : decode cX5_search 89 = .ok (.iload 5, 2) := by decide +kernel
theorem dX5_search_91 : decode cX5_search 91 = .ok (.iload_n 3, 1) := by decide +kernel
theorem dX5_search_92 : decode cX5_search 92 = .ok (.invokevirtual 57, 3) := by decide +kernel
theorem dX5_search_95 : decode cX5_search 95 = .ok (.istore_n 3, 1) := by decide +kernel
theorem dX5_search_96 : decode cX5_search 96 = .ok (.iinc 4 1, 3) := by decide +kernel
theorem dX5_search_99 : decode cX5_search 99 = .ok (.goto (-57), 3) := by decide +kernel
theorem dX5_search_102 : decode cX5_search 102 = .ok (.iconst 1, 1) := by decide +kernel
theorem dX5_search_103 : decode cX5_search 103 = .ok (.ireturn, 1) := by decide +kernel
theorem dX5_spreadCosts_0 : decode cX5_spreadCosts 0 = .ok (.aload_n 0, 1) := by decide +kernel
theorem dX5_spreadCosts_1 : decode cX5_spreadCosts 1 = .ok (.getfield 32, 3) := by decide +kernel
theorem dX5_spreadCosts_4 : decode cX5_spreadCosts 4 = .ok (.ldc 52, 2) := by decide +kernel
theorem dX5_spreadCosts_6 : decode cX5_spreadCosts 6 = .ok (.invokestatic 61, 3) := by decide +kernel
theorem dX5_spreadCosts_9 : decode cX5_spreadCosts 9 = .ok (.aload_n 0, 1) := by decide +kernel
theorem dX5_spreadCosts_10 : decode cX5_spreadCosts 10 = .ok (.getfield 32, 3) := by decide +kernel
theorem dX5_spreadCosts_13 : decode cX5_spreadCosts 13 = .ok (.iload_n 1, 1) := by decide +kernel
theorem dX5_spreadCosts_14 : decode cX5_spreadCosts 14 = .ok (.iconst 0, 1) := by decide +kernel
theorem dX5_spreadCosts_15 : decode cX5_spreadCosts 15 = .ok (.iastore, 1) := by decide +kernel
theorem dX5_spreadCosts_16 : decode cX5_spreadCosts 16 = .ok (.iconst 1, 1) := by decide +kernel
theorem dX5_spreadCosts_17 : decode cX5_spreadCosts 17 = .ok (.istore_n 2, 1) := by decide +kernel
theorem dX5_spreadCosts_18 : decode cX5_spreadCosts 18 = .ok (.iload_n 2, 1) := by decide +kernel
theorem dX5_spreadCosts_19 : decode cX5_spreadCosts 19 = .ok (.bipush 10, 2) := by decide +kernel
theorem dX5_spreadCosts_21 : decode cX5_spreadCosts 21 = .ok (.if_icmp .ge 110, 3) := by decide +kernel
theorem dX5_spreadCosts_24 : decode cX5_spreadCosts 24 = .ok (.iconst 0, 1) := by decide +kernel
theorem dX5_spreadCosts_25 : decode cX5_spreadCosts 25 = .ok (.istore_n 3, 1) := by decide +kernel
theorem dX5_spreadCosts_26 : decode cX5_spreadCosts 26 = .ok (.iload_n 3, 1) := by decide +kernel
theorem dX5_spreadCosts_27 : decode cX5_spreadCosts 27 = .ok (.aload_n 0, 1) := by decide +kernel
theorem dX5_spreadCosts_28 : decode cX5_spreadCosts 28 = .ok (.getfield 28, 3) := by decide +kernel
theorem dX5_spreadCosts_31 : decode cX5_spreadCosts 31 = .ok (.if_icmp .ge 94, 3) := by decide +kernel
theorem dX5_spreadCosts_34 : decode cX5_spreadCosts 34 = .ok (.aload_n 0, 1) := by decide +kernel
theorem dX5_spreadCosts_35 : decode cX5_spreadCosts 35 = .ok (.getfield 24, 3) := by decide +kernel
theorem dX5_spreadCosts_38 : decode cX5_spreadCosts 38 = .ok (.iload_n 3, 1) := by decide +kernel
theorem dX5_spreadCosts_39 : decode cX5_spreadCosts 39 = .ok (.baload, 1) := by decide +kernel
theorem dX5_spreadCosts_40 : decode cX5_spreadCosts 40 = .ok (.ifCond .ne 79, 3) := by decide +kernel
theorem dX5_spreadCosts_43 : decode cX5_spreadCosts 43 = .ok (.aload_n 0, 1) := by decide +kernel
theorem dX5_spreadCosts_44 : decode cX5_spreadCosts 44 = .ok (.getfield 9, 3) := by decide +kernel
theorem dX5_spreadCosts_47 : decode cX5_spreadCosts 47 = .ok (.iload_n 3, 1) := by decide +kernel
theorem dX5_spreadCosts_48 : decode cX5_spreadCosts 48 = .ok (.iaload, 1) := by decide +kernel
theorem dX5_spreadCosts_49 : decode cX5_spreadCosts 49 = .ok (.istore 4, 2) := by decide +kernel
theorem dX5_spreadCosts_51 : decode cX5_spreadCosts 51 = .ok (.aload_n 0, 1) := by decide +kernel
theorem dX5_spreadCosts_52 : decode cX5_spreadCosts 52 = .ok (.getfield 15, 3) := by decide +kernel
theorem dX5_spreadCosts_55 : decode cX5_spreadCosts 55 = .ok (.iload_n 3, 1) := by decide +kernel
theorem dX5_spreadCosts_56 : decode cX5_spreadCosts 56 = .ok (.iaload, 1) := by decide +kernel
theorem dX5_spreadCosts_57 : decode cX5_spreadCosts 57 = .ok (.istore 5, 2) := by decide +kernel
theorem dX5_spreadCosts_59 : decode cX5_spreadCosts 59 = .ok (.aload_n 0, 1) := by decide +kernel
theorem dX5_spreadCosts_60 : decode cX5_spreadCosts 60 = .ok (.getfield 32, 3) := by decide +kernel
theorem dX5_spreadCosts_63 : decode cX5_spreadCosts 63 = .ok (.iload 4, 2) := by decide +kernel
theorem dX5_spreadCosts_65 : decode cX5_spreadCosts 65 = .ok (.aload_n 0, 1) := by decide +kernel
theorem dX5_spreadCosts_66 : decode cX5_spreadCosts 66 = .ok (.getfield 32, 3) := by decide +kernel
theorem dX5_spreadCosts_69 : decode cX5_spreadCosts 69 = .ok (.iload 4, 2) := by decide +kernel
theorem dX5_spreadCosts_71 : decode cX5_spreadCosts 71 = .ok (.iaload, 1) := by decide +kernel
theorem dX5_spreadCosts_72 : decode cX5_spreadCosts 72 = .ok (.aload_n 0, 1) := by decide +kernel
theorem dX5_spreadCosts_73 : decode cX5_spreadCosts 73 = .ok (.getfield 32, 3) := by decide +kernel
theorem dX5_spreadCosts_76 : decode cX5_spreadCosts 76 = .ok (.iload 5, 2) := by decide +kernel
theorem dX5_spreadCosts_78 : decode cX5_spreadCosts 78 = .ok (.iaload, 1) := by decide +kernel
theorem dX5_spreadCosts_79 : decode cX5_spreadCosts 79 = .ok (.aload_n 0, 1) := by decide +kernel
theorem dX5_spreadCosts_80 : decode cX5_spreadCosts 80 = .ok (.iload_n 3, 1) := by decide +kernel
theorem dX5_spreadCosts_81 : decode cX5_spreadCosts 81 = .ok (.invokevirtual 67, 3) := by decide +kernel
theorem dX5_spreadCosts_84 : decode cX5_spreadCosts 84 = .ok (.iadd, 1) := by decide +kernel
theorem dX5_spreadCosts_85 : decode cX5_spreadCosts 85 = .ok (.invokestatic 70, 3) := by decide +kernel
theorem dX5_spreadCosts_88 : decode cX5_spreadCosts 88 = .ok (.iastore, 1) := by decide +kernel
theorem dX5_spreadCosts_89 : decode cX5_spreadCosts 89 = .ok (.aload_n 0, 1) := by decide +kernel
theorem dX5_spreadCosts_90 : decode cX5_spreadCosts 90 = .ok (.getfield 32, 3) := by decide +kernel
theorem dX5_spreadCosts_93 : decode cX5_spreadCosts 93 = .ok (.iload 5, 2) := by decide +kernel
theorem dX5_spreadCosts_95 : decode cX5_spreadCosts 95 = .ok (.aload_n 0, 1) := by decide +kernel
theorem dX5_spreadCosts_96 : decode cX5_spreadCosts 96 = .ok (.getfield 32, 3) := by decide +kernel
theorem dX5_spreadCosts_99 : decode cX5_spreadCosts 99 = .ok (.iload 5, 2) := by decide +kernel
theorem dX5_spreadCosts_101 : decode cX5_spreadCosts 101 = .ok (.iaload, 1) := by decide +kernel
theorem dX5_spreadCosts_102 : decode cX5_spreadCosts 102 = .ok (.aload_n 0, 1) := by decide +kernel
theorem dX5_spreadCosts_103 : decode cX5_spreadCosts 103 = .ok (.getfield 32, 3) := by decide +kernel
theorem dX5_spreadCosts_106 : decode cX5_spreadCosts 106 = .ok (.iload 4, 2) := by decide +kernel
theorem dX5_spreadCosts_108 : decode cX5_spreadCosts 108 = .ok (.iaload, 1) := by decide +kernel
theorem dX5_spreadCosts_109 : decode cX5_spreadCosts 109 = .ok (.aload_n 0, 1) := by decide +kernel
theorem dX5_spreadCosts_110 : decode cX5_spreadCosts 110 = .ok (.iload_n 3, 1) := by decide +kernel
theorem dX5_spreadCosts_111 : decode cX5_spreadCosts 111 = .ok (.invokevirtual 67, 3) := by decide +kernel
theorem dX5_spreadCosts_114 : decode cX5_spreadCosts 114 = .ok (.iadd, 1) := by decide +kernel
theorem dX5_spreadCosts_115 : decode cX5_spreadCosts 115 = .ok (.invokestatic 70, 3) := by decide +kernel
theorem dX5_spreadCosts_118 : decode cX5_spreadCosts 118 = .ok (.iastore, 1) := by decide +kernel
theorem dX5_spreadCosts_119 : decode cX5_spreadCosts 119 = .ok (.iinc 3 1, 3) := by decide +kernel
theorem dX5_spreadCosts_122 : decode cX5_spreadCosts 122 = .ok (.goto (-96), 3) := by decide +kernel
theorem dX5_spreadCosts_125 : decode cX5_spreadCosts 125 = .ok (.iinc 2 1, 3) := by decide +kernel
theorem dX5_spreadCosts_128 : decode cX5_spreadCosts 128 = .ok (.goto (-110), 3) := by decide +kernel
theorem dX5_spreadCosts_131 : decode cX5_spreadCosts 131 = .ok (.return_, 1) := by decide +kernel
theorem dX5_firstRoadOn_0 : decode cX5_firstRoadOn 0 = .ok (.iconst 0, 1) := by decide +kernel
theorem dX5_firstRoadOn_1 : decode cX5_firstRoadOn 1 = .ok (.istore_n 2, 1) := by decide +kernel
theorem dX5_firstRoadOn_2 : decode cX5_firstRoadOn 2 = .ok (.iload_n 2, 1) := by decide +kernel
theorem dX5_firstRoadOn_3 : decode cX5_firstRoadOn 3 = .ok (.aload_n 0, 1) := by decide +kernel
theorem dX5_firstRoadOn_4 : decode cX5_firstRoadOn 4 = .ok (.getfield 28, 3) := by decide +kernel
theorem dX5_firstRoadOn_7 : decode cX5_firstRoadOn 7 = .ok (.if_icmp .ge 76, 3) := by decide +kernel
theorem dX5_firstRoadOn_10 : decode cX5_firstRoadOn 10 = .ok (.aload_n 0, 1) := by decide +kernel
theorem dX5_firstRoadOn_11 : decode cX5_firstRoadOn 11 = .ok (.getfield 9, 3) := by decide +kernel
theorem dX5_firstRoadOn_14 : decode cX5_firstRoadOn 14 = .ok (.iload_n 2, 1) := by decide +kernel
theorem dX5_firstRoadOn_15 : decode cX5_firstRoadOn 15 = .ok (.iaload, 1) := by decide +kernel
theorem dX5_firstRoadOn_16 : decode cX5_firstRoadOn 16 = .ok (.iload_n 1, 1) := by decide +kernel
theorem dX5_firstRoadOn_17 : decode cX5_firstRoadOn 17 = .ok (.if_icmp .eq 13, 3) := by decide +kernel
theorem dX5_firstRoadOn_20 : decode cX5_firstRoadOn 20 = .ok (.aload_n 0, 1) := by decide +kernel
theorem dX5_firstRoadOn_21 : decode cX5_firstRoadOn 21 = .ok (.getfield 15, 3) := by decide +kernel
theorem dX5_firstRoadOn_24 : decode cX5_firstRoadOn 24 = .ok (.iload_n 2, 1) := by decide +kernel
theorem dX5_firstRoadOn_25 : decode cX5_firstRoadOn 25 = .ok (.iaload, 1) := by decide +kernel
theorem dX5_firstRoadOn_26 : decode cX5_firstRoadOn 26 = .ok (.iload_n 1, 1) := by decide +kernel
theorem dX5_firstRoadOn_27 : decode cX5_firstRoadOn 27 = .ok (.if_icmp .ne 7, 3) := by decide +kernel
theorem dX5_firstRoadOn_30 : decode cX5_firstRoadOn 30 = .ok (.iconst 1, 1) := by decide +kernel
theorem dX5_firstRoadOn_31 : decode cX5_firstRoadOn 31 = .ok (.goto 4, 3) := by decide +kernel
theorem dX5_firstRoadOn_34 : decode cX5_firstRoadOn 34 = .ok (.iconst 0, 1) := by decide +kernel
theorem dX5_firstRoadOn_35 : decode cX5_firstRoadOn 35 = .ok (.istore_n 3, 1) := by decide +kernel
theorem dX5_firstRoadOn_36 : decode cX5_firstRoadOn 36 = .ok (.iload_n 3, 1) := by decide +kernel
theorem dX5_firstRoadOn_37 : decode cX5_firstRoadOn 37 = .ok (.ifCond .eq 40, 3) := by decide +kernel
theorem dX5_firstRoadOn_40 : decode cX5_firstRoadOn 40 = .ok (.aload_n 0, 1) := by decide +kernel
theorem dX5_firstRoadOn_41 : decode cX5_firstRoadOn 41 = .ok (.getfield 24, 3) := by decide +kernel
theorem dX5_firstRoadOn_44 : decode cX5_firstRoadOn 44 = .ok (.iload_n 2, 1) := by decide +kernel
theorem dX5_firstRoadOn_45 : decode cX5_firstRoadOn 45 = .ok (.baload, 1) := by decide +kernel
theorem dX5_firstRoadOn_46 : decode cX5_firstRoadOn 46 = .ok (.ifCond .ne 31, 3) := by decide +kernel
theorem dX5_firstRoadOn_49 : decode cX5_firstRoadOn 49 = .ok (.aload_n 0, 1) := by decide +kernel
theorem dX5_firstRoadOn_50 : decode cX5_firstRoadOn 50 = .ok (.getfield 32, 3) := by decide +kernel
theorem dX5_firstRoadOn_53 : decode cX5_firstRoadOn 53 = .ok (.aload_n 0, 1) := by decide +kernel
theorem dX5_firstRoadOn_54 : decode cX5_firstRoadOn 54 = .ok (.iload_n 2, 1) := by decide +kernel
theorem dX5_firstRoadOn_55 : decode cX5_firstRoadOn 55 = .ok (.iload_n 1, 1) := by decide +kernel
theorem dX5_firstRoadOn_56 : decode cX5_firstRoadOn 56 = .ok (.invokevirtual 57, 3) := by decide +kernel
theorem dX5_firstRoadOn_59 : decode cX5_firstRoadOn 59 = .ok (.iaload, 1) := by decide +kernel
theorem dX5_firstRoadOn_60 : decode cX5_firstRoadOn 60 = .ok (.aload_n 0, 1) := by decide +kernel
theorem dX5_firstRoadOn_61 : decode cX5_firstRoadOn 61 = .ok (.iload_n 2, 1) := by decide +kernel
theorem dX5_firstRoadOn_62 : decode cX5_firstRoadOn 62 = .ok (.invokevirtual 67, 3) := by decide +kernel
theorem dX5_firstRoadOn_65 : decode cX5_firstRoadOn 65 = .ok (.iadd, 1) := by decide +kernel
theorem dX5_firstRoadOn_66 : decode cX5_firstRoadOn 66 = .ok (.aload_n 0, 1) := by decide +kernel
theorem dX5_firstRoadOn_67 : decode cX5_firstRoadOn 67 = .ok (.getfield 32, 3) := by decide +kernel
theorem dX5_firstRoadOn_70 : decode cX5_firstRoadOn 70 = .ok (.iload_n 1, 1) := by decide +kernel
theorem dX5_firstRoadOn_71 : decode cX5_firstRoadOn 71 = .ok (.iaload, 1) := by decide +kernel
theorem dX5_firstRoadOn_72 : decode cX5_firstRoadOn 72 = .ok (.if_icmp .ne 5, 3) := by decide +kernel
theorem dX5_firstRoadOn_75 : decode cX5_firstRoadOn 75 = .ok (.iload_n 2, 1) := by decide +kernel
theorem dX5_firstRoadOn_76 : decode cX5_firstRoadOn 76 = .ok (.ireturn, 1) := by decide +kernel
theorem dX5_firstRoadOn_77 : decode cX5_firstRoadOn 77 = .ok (.iinc 2 1, 3) := by decide +kernel
theorem dX5_firstRoadOn_80 : decode cX5_firstRoadOn 80 = .ok (.goto (-78), 3) := by decide +kernel
theorem dX5_firstRoadOn_83 : decode cX5_firstRoadOn 83 = .ok (.iconst (-1), 1) := by decide +kernel
theorem dX5_firstRoadOn_84 : decode cX5_firstRoadOn 84 = .ok (.ireturn, 1) := by decide +kernel
theorem dX5_costOf_0 : decode cX5_costOf 0 = .ok (.aload_n 0, 1) := by decide +kernel
theorem dX5_costOf_1 : decode cX5_costOf 1 = .ok (.getfield 18, 3) := by decide +kernel
theorem dX5_costOf_4 : decode cX5_costOf 4 = .ok (.iload_n 1, 1) := by decide +kernel
theorem dX5_costOf_5 : decode cX5_costOf 5 = .ok (.iaload, 1) := by decide +kernel
theorem dX5_costOf_6 : decode cX5_costOf 6 = .ok (.sipush 1000, 3) := by decide +kernel
theorem dX5_costOf_9 : decode cX5_costOf 9 = .ok (.imul, 1) := by decide +kernel
theorem dX5_costOf_10 : decode cX5_costOf 10 = .ok (.iconst 1, 1) := by decide +kernel
theorem dX5_costOf_11 : decode cX5_costOf 11 = .ok (.iadd, 1) := by decide +kernel
theorem dX5_costOf_12 : decode cX5_costOf 12 = .ok (.ireturn, 1) := by decide +kernel
theorem dX5_otherEnd_0 : decode cX5_otherEnd 0 = .ok (.aload_n 0, 1) := by decide +kernel
theorem dX5_otherEnd_1 : decode cX5_otherEnd 1 = .ok (.getfield 9, 3) := by decide +kernel
theorem dX5_otherEnd_4 : decode cX5_otherEnd 4 = .ok (.iload_n 1, 1) := by decide +kernel
theorem dX5_otherEnd_5 : decode cX5_otherEnd 5 = .ok (.iaload, 1) := by decide +kernel
theorem dX5_otherEnd_6 : decode cX5_otherEnd 6 = .ok (.iload_n 2, 1) := by decide +kernel
theorem dX5_otherEnd_7 : decode cX5_otherEnd 7 = .ok (.if_icmp .ne 12, 3) := by decide +kernel
theorem dX5_otherEnd_10 : decode cX5_otherEnd 10 = .ok (.aload_n 0, 1) := by decide +kernel
theorem dX5_otherEnd_11 : decode cX5_otherEnd 11 = .ok (.getfield 15, 3) := by decide +kernel
theorem dX5_otherEnd_14 : decode cX5_otherEnd 14 = .ok (.iload_n 1, 1) := by decide +kernel
theorem dX5_otherEnd_15 : decode cX5_otherEnd 15 = .ok (.iaload, 1) := by decide +kernel
theorem dX5_otherEnd_16 : decode cX5_otherEnd 16 = .ok (.goto 9, 3) := by decide +kernel
theorem dX5_otherEnd_19 : decode cX5_otherEnd 19 = .ok (.aload_n 0, 1) := by decide +kernel
theorem dX5_otherEnd_20 : decode cX5_otherEnd 20 = .ok (.getfield 9, 3) := by decide +kernel
theorem dX5_otherEnd_23 : decode cX5_otherEnd 23 = .ok (.iload_n 1, 1) := by decide +kernel
theorem dX5_otherEnd_24 : decode cX5_otherEnd 24 = .ok (.iaload, 1) := by decide +kernel
theorem dX5_otherEnd_25 : decode cX5_otherEnd 25 = .ok (.ireturn, 1) := by decide +kernel
theorem dX6_init_0 : decode cX6_init 0 = .ok (.aload_n 0, 1) := by decide +kernel
theorem dX6_init_1 : decode cX6_init 1 = .ok (.invokespecial 3, 3) := by decide +kernel
theorem dX6_init_4 : decode cX6_init 4 = .ok (.aload_n 0, 1) := by decide +kernel
theorem dX6_init_5 : decode cX6_init 5 = .ok (.iconst 5, 1) := by decide +kernel
theorem dX6_init_6 : decode cX6_init 6 = .ok (.bipush 66, 2) := by decide +kernel
theorem dX6_init_8 : decode cX6_init 8 = .ok (.multianewarray 9 2, 4) := by decide +kernel
theorem dX6_init_12 : decode cX6_init 12 = .ok (.putfield 11, 3) := by decide +kernel
theorem dX6_init_15 : decode cX6_init 15 = .ok (.aload_n 0, 1) := by decide +kernel
theorem dX6_init_16 : decode cX6_init 16 = .ok (.iconst 0, 1) := by decide +kernel
theorem dX6_init_17 : decode cX6_init 17 = .ok (.putfield 16, 3) := by decide +kernel
theorem dX6_init_20 : decode cX6_init 20 = .ok (.aload_n 0, 1) := by decide +kernel
theorem dX6_init_21 : decode cX6_init 21 = .ok (.iconst 0, 1) := by decide +kernel
theorem dX6_init_22 : decode cX6_init 22 = .ok (.putfield 20, 3) := by decide +kernel
theorem dX6_init_25 : decode cX6_init 25 = .ok (.return_, 1) := by decide +kernel
theorem dX6_solve_0 : decode cX6_solve 0 = .ok (.aload_n 0, 1) := by decide +kernel
theorem dX6_solve_1 : decode cX6_solve 1 = .ok (.aload_n 2, 1) := by decide +kernel
theorem dX6_solve_2 : decode cX6_solve 2 = .ok (.arraylength, 1) := by decide +kernel
theorem dX6_solve_3 : decode cX6_solve 3 = .ok (.iconst 5, 1) := by decide +kernel
theorem dX6_solve_4 : decode cX6_solve 4 = .ok (.invokestatic 23, 3) := by decide +kernel
theorem dX6_solve_7 : decode cX6_solve 7 = .ok (.putfield 16, 3) := by decide +kernel
theorem dX6_solve_10 : decode cX6_solve 10 = .ok (.aload_n 0, 1) := by decide +kernel
theorem dX6_solve_11 : decode cX6_solve 11 = .ok (.aload_n 0, 1) := by decide +kernel
theorem dX6_solve_12 : decode cX6_solve 12 = .ok (.getfield 16, 3) := by decide +kernel
theorem dX6_solve_15 : decode cX6_solve 15 = .ok (.iload_n 1, 1) := by decide +kernel
theorem dX6_solve_16 : decode cX6_solve 16 = .ok (.bipush 60, 2) := by decide +kernel
theorem dX6_solve_18 : decode cX6_solve 18 = .ok (.invokestatic 23, 3) := by decide +kernel
theorem dX6_solve_21 : decode cX6_solve 21 = .ok (.iadd, 1) := by decide +kernel
theorem dX6_solve_22 : decode cX6_solve 22 = .ok (.iconst 1, 1) := by decide +kernel
theorem dX6_solve_23 : decode cX6_solve 23 = .ok (.iadd, 1) := by decide +kernel
theorem dX6_solve_24 : decode cX6_solve 24 = .ok (.putfield 20, 3) := by decide +kernel
theorem dX6_solve_27 : decode cX6_solve 27 = .ok (.aload_n 0, 1) := by decide +kernel
theorem dX6_solve_28 : decode cX6_solve 28 = .ok (.getfield 11, 3) := by decide +kernel
theorem dX6_solve_31 : decode cX6_solve 31 = .ok (.iconst 0, 1) := by decide +kernel
theorem dX6_solve_32 : decode cX6_solve 32 = .ok (.aaload, 1) := by decide +kernel
theorem dX6_solve_33 : decode cX6_solve 33 = .ok (.iconst 0, 1) := by decide +kernel
theorem dX6_solve_34 : decode cX6_solve 34 = .ok (.aload_n 0, 1) := by decide +kernel
theorem dX6_solve_35 : decode cX6_solve 35 = .ok (.getfield 20, 3) := by decide +kernel
theorem dX6_solve_38 : decode cX6_solve 38 = .ok (.lconst 1, 1) := by decide +kernel
theorem dX6_solve_39 : decode cX6_solve 39 = .ok (.invokestatic 29, 3) := by decide +kernel
theorem dX6_solve_42 : decode cX6_solve 42 = .ok (.aload_n 0, 1) := by decide +kernel
theorem dX6_solve_43 : decode cX6_solve 43 = .ok (.iconst 1, 1) := by decide +kernel
theorem dX6_solve_44 : decode cX6_solve 44 = .ok (.iload_n 1, 1) := by decide +kernel
theorem dX6_solve_45 : decode cX6_solve 45 = .ok (.aload_n 2, 1) := by decide +kernel
theorem dX6_solve_46 : decode cX6_solve 46 = .ok (.invokevirtual 35, 3) := by decide +kernel
theorem dX6_solve_49 : decode cX6_solve 49 = .ok (.iconst 0, 1) := by decide +kernel
theorem dX6_solve_50 : decode cX6_solve 50 = .ok (.istore 4, 2) := by decide +kernel
theorem dX6_solve_52 : decode cX6_solve 52 = .ok (.iload 4, 2) := by decide +kernel
theorem dX6_solve_54 : decode cX6_solve 54 = .ok (.aload_n 3, 1) := by decide +kernel
theorem dX6_solve_55 : decode cX6_solve 55 = .ok (.arraylength, 1) := by decide +kernel
theorem dX6_solve_56 : decode cX6_solve 56 = .ok (.if_icmp .ge 33, 3) := by decide +kernel
theorem dX6_solve_59 : decode cX6_solve 59 = .ok (.iload 4, 2) := by decide +kernel
theorem dX6_solve_61 : decode cX6_solve 61 = .ok (.iconst 2, 1) := by decide +kernel
theorem dX6_solve_62 : decode cX6_solve 62 = .ok (.iadd, 1) := by decide +kernel
theorem dX6_solve_63 : decode cX6_solve 63 = .ok (.aload_n 0, 1) := by decide +kernel
theorem dX6_solve_64 : decode cX6_solve 64 = .ok (.getfield 16, 3) := by decide +kernel
theorem dX6_solve_67 : decode cX6_solve 67 = .ok (.if_icmp .ge 22, 3) := by decide +kernel
theorem dX6_solve_70 : decode cX6_solve 70 = .ok (.aload_n 0, 1) := by decide +kernel
theorem dX6_solve_71 : decode cX6_solve 71 = .ok (.iload 4, 2) := by decide +kernel
theorem dX6_solve_73 : decode cX6_solve 73 = .ok (.iconst 2, 1) := by decide +kernel
theorem dX6_solve_74 : decode cX6_solve 74 = .ok (.iadd, 1) := by decide +kernel
theorem dX6_solve_75 : decode cX6_solve 75 = .ok (.aload_n 3, 1) := by decide +kernel
theorem dX6_solve_76 : decode cX6_solve 76 = .ok (.iload 4, 2) := by decide +kernel
theorem dX6_solve_78 : decode cX6_solve 78 = .ok (.iaload, 1) := by decide +kernel
theorem dX6_solve_79 : decode cX6_solve 79 = .ok (.aload_n 2, 1) := by decide +kernel
theorem dX6_solve_80 : decode cX6_solve 80 = .ok (.invokevirtual 35, 3) := by decide +kernel
theorem dX6_solve_83 : decode cX6_solve 83 = .ok (.iinc 4 1, 3) := by decide +kernel
theorem dX6_solve_86 : decode cX6_solve 86 = .ok (.goto (-34), 3) := by decide +kernel
theorem dX6_solve_89 : decode cX6_solve 89 = .ok (.aload_n 0, 1) := by decide +kernel
theorem dX6_solve_90 : decode cX6_solve 90 = .ok (.invokevirtual 39, 3) := by decide +kernel
theorem dX6_solve_93 : decode cX6_solve 93 = .ok (.ireturn, 1) := by decide +kernel
theorem dX6_writeCondition_0 : decode cX6_writeCondition 0 = .ok (.iconst 0, 1) := by decide +kernel
theorem dX6_writeCondition_1 : decode cX6_writeCondition 1 = .ok (.istore 4, 2) := by decide +kernel
theorem dX6_writeCondition_3 : decode cX6_writeCondition 3 = .ok (.iload 4, 2) := by decide +kernel
theorem dX6_writeCondition_5 : decode cX6_writeCondition 5 = .ok (.aload_n 0, 1) := by decide +kernel
theorem dX6_writeCondition_6 : decode cX6_writeCondition 6 = .ok (.getfield 16, 3) := by decide +kernel
theorem dX6_writeCondition_9 : decode cX6_writeCondition 9 = .ok (.if_icmp .ge 29, 3) := by decide +kernel
theorem dX6_writeCondition_12 : decode cX6_writeCondition 12 = .ok (.aload_n 0, 1) := by decide +kernel
theorem dX6_writeCondition_13 : decode cX6_writeCondition 13 = .ok (.getfield 11, 3) := by decide +kernel
theorem dX6_writeCondition_16 : decode cX6_writeCondition 16 = .ok (.iload_n 1, 1) := by decide +kernel
theorem dX6_writeCondition_17 : decode cX6_writeCondition 17 = .ok (.aaload, 1) := by decide +kernel
theorem dX6_writeCondition_18 : decode cX6_writeCondition 18 = .ok (.iload 4, 2) := by decide +kernel
theorem dX6_writeCondition_20 : decode cX6_writeCondition 20 = .ok (.iconst 0, 1) := by decide +kernel
theorem dX6_writeCondition_21 : decode cX6_writeCondition 21 = .ok (.iload_n 2, 1) := by decide +kernel
theorem dX6_writeCondition_22 : decode cX6_writeCondition 22 = .ok (.aload_n 3, 1) := by decide +kernel
theorem dX6_writeCondition_23 : decode cX6_writeCondition 23 = .ok (.iload 4, 2) := by decide +kernel
theorem dX6_writeCondition_25 : decode cX6_writeCondition 25 = .ok (.iaload, 1) := by decide +kernel
theorem dX6_writeCondition_26 : decode cX6_writeCondition 26 = .ok (.isub, 1) := by decide +kernel
theorem dX6_writeCondition_27 : decode cX6_writeCondition 27 = .ok (.invokestatic 43, 3) := by decide +kernel
theorem dX6_writeCondition_30 : decode cX6_writeCondition 30 = .ok (.i2l, 1) := by decide +kernel
theorem dX6_writeCondition_31 : decode cX6_writeCondition 31 = .ok (.lastore, 1) := by decide +kernel
theorem dX6_writeCondition_32 : decode cX6_writeCondition 32 = .ok (.iinc 4 1, 3) := by decide +kernel
theorem dX6_writeCondition_35 : decode cX6_writeCondition 35 = .ok (.goto (-32), 3) := by decide +kernel
theorem dX6_writeCondition_38 : decode cX6_writeCondition 38 = .ok (.aload_n 0, 1) := by decide +kernel
theorem dX6_writeCondition_39 : decode cX6_writeCondition 39 = .ok (.getfield 16, 3) := by decide +kernel
theorem dX6_writeCondition_42 : decode cX6_writeCondition 42 = .ok (.istore 4, 2) := by decide +kernel
theorem dX6_writeCondition_44 : decode cX6_writeCondition 44 = .ok (.iload 4, 2) := by decide +kernel
theorem dX6_writeCondition_46 : decode cX6_writeCondition 46 = .ok (.aload_n 0, 1) := by decide +kernel
theorem dX6_writeCondition_47 : decode cX6_writeCondition 47 = .ok (.getfield 20, 3) := by decide +kernel
theorem dX6_writeCondition_50 : decode cX6_writeCondition 50 = .ok (.if_icmp .ge 32, 3) := by decide +kernel
theorem dX6_writeCondition_53 : decode cX6_writeCondition 53 = .ok (.aload_n 0, 1) := by decide +kernel
theorem dX6_writeCondition_54 : decode cX6_writeCondition 54 = .ok (.getfield 11, 3) := by decide +kernel
theorem dX6_writeCondition_57 : decode cX6_writeCondition 57 = .ok (.iload_n 1, 1) := by decide +kernel
theorem dX6_writeCondition_58 : decode cX6_writeCondition 58 = .ok (.aaload, 1) := by decide +kernel
theorem dX6_writeCondition_59 : decode cX6_writeCondition 59 = .ok (.iload 4, 2) := by decide +kernel
theorem dX6_writeCondition_61 : decode cX6_writeCondition 61 = .ok (.iconst 0, 1) := by decide +kernel
theorem dX6_writeCondition_62 : decode cX6_writeCondition 62 = .ok (.iload_n 2, 1) := by decide +kernel
theorem dX6_writeCondition_63 : decode cX6_writeCondition 63 = .ok (.iload 4, 2) := by decide +kernel
theorem dX6_writeCondition_65 : decode cX6_writeCondition 65 = .ok (.aload_n 0, 1) := by decide +kernel
theorem dX6_writeCondition_66 : decode cX6_writeCondition 66 = .ok (.getfield 16, 3) := by decide +kernel
theorem dX6_writeCondition_69 : decode cX6_writeCondition 69 = .ok (.isub, 1) := by decide +kernel
theorem dX6_writeCondition_70 : decode cX6_writeCondition 70 = .ok (.isub, 1) := by decide +kernel
theorem dX6_writeCondition_71 : decode cX6_writeCondition 71 = .ok (.invokestatic 43, 3) := by decide +kernel
theorem dX6_writeCondition_74 : decode cX6_writeCondition 74 = .ok (.i2l, 1) := by decide +kernel
theorem dX6_writeCondition_75 : decode cX6_writeCondition 75 = .ok (.lastore, 1) := by decide +kernel
theorem dX6_writeCondition_76 : decode cX6_writeCondition 76 = .ok (.iinc 4 1, 3) := by decide +kernel
theorem dX6_writeCondition_79 : decode cX6_writeCondition 79 = .ok (.goto (-35), 3) := by decide +kernel
theorem dX6_writeCondition_82 : decode cX6_writeCondition 82 = .ok (.return_, 1) := by decide +kernel
theorem dX6_eliminate_0 : decode cX6_eliminate 0 = .ok (.lconst 1, 1) := by decide +kernel
theorem dX6_eliminate_1 : decode cX6_eliminate 1 = .ok (.lstore_n 1, 1) := by decide +kernel
theorem dX6_eliminate_2 : decode cX6_eliminate 2 = .ok (.iconst 0, 1) := by decide +kernel
theorem dX6_eliminate_3 : decode cX6_eliminate 3 = .ok (.istore_n 3, 1) := by decide +kernel
theorem dX6_eliminate_4 : decode cX6_eliminate 4 = .ok (.iload_n 3, 1) := by decide +kernel
theorem dX6_eliminate_5 : decode cX6_eliminate 5 = .ok (.aload_n 0, 1) := by decide +kernel
theorem dX6_eliminate_6 : decode cX6_eliminate 6 = .ok (.getfield 16, 3) := by decide +kernel
theorem dX6_eliminate_9 : decode cX6_eliminate 9 = .ok (.if_icmp .ge 60, 3) := by decide +kernel
theorem dX6_eliminate_12 : decode cX6_eliminate 12 = .ok (.aload_n 0, 1) := by decide +kernel
theorem dX6_eliminate_13 : decode cX6_eliminate 13 = .ok (.iload_n 3, 1) := by decide +kernel
theorem dX6_eliminate_14 : decode cX6_eliminate 14 = .ok (.invokevirtual 46, 3) := by decide +kernel
theorem dX6_eliminate_17 : decode cX6_eliminate 17 = .ok (.ifCond .ne 5, 3) := by decide +kernel
theorem dX6_eliminate_20 : decode cX6_eliminate 20 = .ok (.iconst 0, 1) := by decide +kernel
theorem dX6_eliminate_21 : decode cX6_eliminate 21 = .ok (.ireturn, 1) := by decide +kernel
theorem dX6_eliminate_22 : decode cX6_eliminate 22 = .ok (.iconst 0, 1) := by decide +kernel
theorem dX6_eliminate_23 : decode cX6_eliminate 23 = .ok (.istore 4, 2) := by decide +kernel
theorem dX6_eliminate_25 : decode cX6_eliminate 25 = .ok (.iload 4, 2) := by decide +kernel
theorem dX6_eliminate_27 : decode cX6_eliminate 27 = .ok (.aload_n 0, 1) := by decide +kernel
theorem dX6_eliminate_28 : decode cX6_eliminate 28 = .ok (.getfield 16, 3) := by decide +kernel
theorem dX6_eliminate_31 : decode cX6_eliminate 31 = .ok (.if_icmp .ge 23, 3) := by decide +kernel
theorem dX6_eliminate_34 : decode cX6_eliminate 34 = .ok (.iload 4, 2) := by decide +kernel
theorem dX6_eliminate_36 : decode cX6_eliminate 36 = .ok (.iload_n 3, 1) := by decide +kernel
theorem dX6_eliminate_37 : decode cX6_eliminate 37 = .ok (.if_icmp .eq 11, 3) := by decide +kernel
theorem dX6_eliminate_40 : decode cX6_eliminate 40 = .ok (.aload_n 0, 1) := by decide +kernel
theorem dX6_eliminate_41 : decode cX6_eliminate 41 = .ok (.iload 4, 2) := by decide +kernel
theorem dX6_eliminate_43 : decode cX6_eliminate 43 = .ok (.iload_n 3, 1) := by decide +kernel
theorem dX6_eliminate_44 : decode cX6_eliminate 44 = .ok (.lload_n 1, 1) := by decide +kernel
theorem dX6_eliminate_45 : decode cX6_eliminate 45 = .ok (.invokevirtual 50, 3) := by decide +kernel
theorem dX6_eliminate_48 : decode cX6_eliminate 48 = .ok (.iinc 4 1, 3) := by decide +kernel
theorem dX6_eliminate_51 : decode cX6_eliminate 51 = .ok (.goto (-26), 3) := by decide +kernel
theorem dX6_eliminate_54 : decode cX6_eliminate 54 = .ok (.aload_n 0, 1) := by decide +kernel
theorem dX6_eliminate_55 : decode cX6_eliminate 55 = .ok (.getfield 11, 3) := by decide +kernel
theorem dX6_eliminate_58 : decode cX6_eliminate 58 = .ok (.iload_n 3, 1) := by decide +kernel
theorem dX6_eliminate_59 : decode cX6_eliminate 59 = .ok (.aaload, 1) := by decide +kernel
theorem dX6_eliminate_60 : decode cX6_eliminate 60 = .ok (.iload_n 3, 1) := by decide +kernel
theorem dX6_eliminate_61 : decode cX6_eliminate 61 = .ok (.laload, 1) := by decide +kernel
theorem dX6_eliminate_62 : decode cX6_eliminate 62 = .ok (.lstore_n 1, 1) := by decide +kernel
theorem dX6_eliminate_63 : decode cX6_eliminate 63 = .ok (.iinc 3 1, 3) := by decide +kernel
theorem dX6_eliminate_66 : decode cX6_eliminate 66 = .ok (.goto (-62), 3) := by decide +kernel
theorem dX6_eliminate_69 : decode cX6_eliminate 69 = .ok (.iconst 1, 1) := by decide +kernel
theorem dX6_eliminate_70 : decode cX6_eliminate 70 = .ok (.ireturn, 1) := by decide +kernel
theorem dX6_bringPivot_0 : decode cX6_bringPivot 0 = .ok (.iload_n 1, 1) := by decide +kernel
theorem dX6_bringPivot_1 : decode cX6_bringPivot 1 = .ok (.istore_n 2, 1) := by decide +kernel
theorem dX6_bringPivot_2 : decode cX6_bringPivot 2 = .ok (.iload_n 2, 1) := by decide +kernel
theorem dX6_bringPivot_3 : decode cX6_bringPivot 3 = .ok (.aload_n 0, 1) := by decide +kernel
theorem dX6_bringPivot_4 : decode cX6_bringPivot 4 = .ok (.getfield 16, 3) := by decide +kernel
theorem dX6_bringPivot_7 : decode cX6_bringPivot 7 = .ok (.if_icmp .ge 50, 3) := by decide +kernel
theorem dX6_bringPivot_10 : decode cX6_bringPivot 10 = .ok (.aload_n 0, 1) := by decide +kernel
theorem dX6_bringPivot_11 : decode cX6_bringPivot 11 = .ok (.getfield 11, 3) := by decide +kernel
theorem dX6_bringPivot_14 : decode cX6_bringPivot 14 = .ok (.iload_n 2, 1) := by decide +kernel
theorem dX6_bringPivot_15 : decode cX6_bringPivot 15 = .ok (.aaload, 1) := by decide +kernel
theorem dX6_bringPivot_16 : decode cX6_bringPivot 16 = .ok (.iload_n 1, 1) := by decide +kernel
theorem dX6_bringPivot_17 : decode cX6_bringPivot 17 = .ok (.laload, 1) := by decide +kernel
theorem dX6_bringPivot_18 : decode cX6_bringPivot 18 = .ok (.lconst 0, 1) := by decide +kernel
theorem dX6_bringPivot_19 : decode cX6_bringPivot 19 = .ok (.lcmp, 1) := by decide +kernel
theorem dX6_bringPivot_20 : decode cX6_bringPivot 20 = .ok (.ifCond .eq 31, 3) := by decide +kernel
theorem dX6_bringPivot_23 : decode cX6_bringPivot 23 = .ok (.aload_n 0, 1) := by decide +kernel
theorem dX6_bringPivot_24 : decode cX6_bringPivot 24 = .ok (.getfield 11, 3) := by decide +kernel
theorem dX6_bringPivot_27 : decode cX6_bringPivot 27 = .ok (.iload_n 2, 1) := by decide +kernel
theorem dX6_bringPivot_28 : decode cX6_bringPivot 28 = .ok (.aaload, 1) := by decide +kernel
theorem dX6_bringPivot_29 : decode cX6_bringPivot 29 = .ok (.astore_n 3, 1) := by decide +kernel
theorem dX6_bringPivot_30 : decode cX6_bringPivot 30 = .ok (.aload_n 0, 1) := by decide +kernel
theorem dX6_bringPivot_31 : decode cX6_bringPivot 31 = .ok (.getfield 11, 3) := by decide +kernel
theorem dX6_bringPivot_34 : decode cX6_bringPivot 34 = .ok (.iload_n 2, 1) := by decide +kernel
theorem dX6_bringPivot_35 : decode cX6_bringPivot 35 = .ok (.aload_n 0, 1) := by decide +kernel
theorem dX6_bringPivot_36 : decode cX6_bringPivot 36 = .ok (.getfield 11, 3) := by decide +kernel
theorem dX6_bringPivot_39 : decode cX6_bringPivot 39 = .ok (.iload_n 1, 1) := by decide +kernel
theorem dX6_bringPivot_40 : decode cX6_bringPivot 40 = .ok (.aaload, 1) := by decide +kernel
theorem dX6_bringPivot_41 : decode cX6_bringPivot 41 = .ok (.aastore, 1) := by decide +kernel
theorem dX6_bringPivot_42 : decode cX6_bringPivot 42 = .ok (.aload_n 0, 1) := by decide +kernel
theorem dX6_bringPivot_43 : decode cX6_bringPivot 43 = .ok (.getfield 11, 3) := by decide +kernel
theorem dX6_bringPivot_46 : decode cX6_bringPivot 46 = .ok (.iload_n 1, 1) := by decide +kernel
theorem dX6_bringPivot_47 : decode cX6_bringPivot 47 = .ok (.aload_n 3, 1) := by decide +kernel
theorem dX6_bringPivot_48 : decode cX6_bringPivot 48 = .ok (.aastore, 1) := by decide +kernel
theorem dX6_bringPivot_49 : decode cX6_bringPivot 49 = .ok (.iconst 1, 1) := by decide +kernel
theorem dX6_bringPivot_50 : decode cX6_bringPivot 50 = .ok (.ireturn, 1) := by decide +kernel
theorem dX6_bringPivot_51 : decode cX6_bringPivot 51 = .ok (.iinc 2 1, 3) := by decide +kernel
theorem dX6_bringPivot_54 : decode cX6_bringPivot 54 = .ok (.goto (-52), 3) := by decide +kernel
theorem dX6_bringPivot_57 : decode cX6_bringPivot 57 = .ok (.iconst 0, 1) := by decide +kernel
theorem dX6_bringPivot_58 : decode cX6_bringPivot 58 = .ok (.ireturn, 1) := by decide +kernel
theorem dX6_clear_0 : decode cX6_clear 0 = .ok (.lload_n 3, 1) := by decide +kernel
theorem dX6_clear_1 : decode cX6_clear 1 = .ok (.lconst 0, 1) := by decide +kernel
theorem dX6_clear_2 : decode cX6_clear 2 = .ok (.lcmp, 1) := by decide +kernel
theorem dX6_clear_3 : decode cX6_clear 3 = .ok (.ifCond .ne 4, 3) := by decide +kernel
theorem dX6_clear_6 : decode cX6_clear 6 = .ok (.return_, 1) := by decide +kernel
theorem dX6_clear_7 : decode cX6_clear 7 = .ok (.aload_n 0, 1) := by decide +kernel
theorem dX6_clear_8 : decode cX6_clear 8 = .ok (.getfield 11, 3) := by decide +kernel
theorem dX6_clear_11 : decode cX6_clear 11 = .ok (.iload_n 2, 1) := by decide +kernel
theorem dX6_clear_12 : decode cX6_clear 12 = .ok (.aaload, 1) := by decide +kernel
theorem dX6_clear_13 : decode cX6_clear 13 = .ok (.iload_n 2, 1) := by decide +kernel
theorem dX6_clear_14 : decode cX6_clear 14 = .ok (.laload, 1) := by decide +kernel
theorem dX6_clear_15 : decode cX6_clear 15 = .ok (.lstore 5, 2) := by decide +kernel
theorem dX6_clear_17 : decode cX6_clear 17 = .ok (.aload_n 0, 1) := by decide +kernel
theorem dX6_clear_18 : decode cX6_clear 18 = .ok (.getfield 11, 3) := by decide +kernel
theorem dX6_clear_21 : decode cX6_clear 21 = .ok (.iload_n 1, 1) := by decide +kernel
theorem dX6_clear_22 : decode cX6_clear 22 = .ok (.aaload, 1) := by decide +kernel
theorem dX6_clear_23 : decode cX6_clear 23 = .ok (.iload_n 2, 1) := by decide +kernel
theorem dX6_clear_24 : decode cX6_clear 24 = .ok (.laload, 1) := by decide +kernel
theorem dX6_clear_25 : decode cX6_clear 25 = .ok (.lstore 7, 2) := by decide +kernel
theorem dX6_clear_27 : decode cX6_clear 27 = .ok (.iconst 0, 1) := by decide +kernel
theorem dX6_clear_28 : decode cX6_clear 28 = .ok (.istore 9, 2) := by decide +kernel
theorem dX6_clear_30 : decode cX6_clear 30 = .ok (.iload 9, 2) := by decide +kernel
theorem dX6_clear_32 : decode cX6_clear 32 = .ok (.aload_n 0, 1) := by decide +kernel
theorem dX6_clear_33 : decode cX6_clear 33 = .ok (.getfield 20, 3) := by decide +kernel
theorem dX6_clear_36 : decode cX6_clear 36 = .ok (.if_icmp .ge 45, 3) := by decide +kernel
theorem dX6_clear_39 : decode cX6_clear 39 = .ok (.aload_n 0, 1) := by decide +kernel
theorem dX6_clear_40 : decode cX6_clear 40 = .ok (.getfield 11, 3) := by decide +kernel
theorem dX6_clear_43 : decode cX6_clear 43 = .ok (.iload_n 1, 1) := by decide +kernel
theorem dX6_clear_44 : decode cX6_clear 44 = .ok (.aaload, 1) := by decide +kernel
theorem dX6_clear_45 : decode cX6_clear 45 = .ok (.iload 9, 2) := by decide +kernel
theorem dX6_clear_47 : decode cX6_clear 47 = .ok (.lload 5, 2) := by decide +kernel
theorem dX6_clear_49 : decode cX6_clear 49 = .ok (.aload_n 0, 1) := by decide +kernel
theorem dX6_clear_50 : decode cX6_clear 50 = .ok (.getfield 11, 3) := by decide +kernel
theorem dX6_clear_53 : decode cX6_clear 53 = .ok (.iload_n 1, 1) := by decide +kernel
theorem dX6_clear_54 : decode cX6_clear 54 = .ok (.aaload, 1) := by decide +kernel
theorem dX6_clear_55 : decode cX6_clear 55 = .ok (.iload 9, 2) := by decide +kernel
theorem dX6_clear_57 : decode cX6_clear 57 = .ok (.laload, 1) := by decide +kernel
theorem dX6_clear_58 : decode cX6_clear 58 = .ok (.lmul, 1) := by decide +kernel
theorem dX6_clear_59 : decode cX6_clear 59 = .ok (.lload 7, 2) := by decide +kernel
theorem dX6_clear_61 : decode cX6_clear 61 = .ok (.aload_n 0, 1) := by decide +kernel
theorem dX6_clear_62 : decode cX6_clear 62 = .ok (.getfield 11, 3) := by decide +kernel
theorem dX6_clear_65 : decode cX6_clear 65 = .ok (.iload_n 2, 1) := by decide +kernel
theorem dX6_clear_66 : decode cX6_clear 66 = .ok (.aaload, 1) := by decide +kernel
theorem dX6_clear_67 : decode cX6_clear 67 = .ok (.iload 9, 2) := by decide +kernel
theorem dX6_clear_69 : decode cX6_clear 69 = .ok (.laload, 1) := by decide +kernel
theorem dX6_clear_70 : decode cX6_clear 70 = .ok (.lmul, 1) := by decide +kernel
theorem dX6_clear_71 : decode cX6_clear 71 = .ok (.lsub, 1) := by decide +kernel
theorem dX6_clear_72 : decode cX6_clear 72 = .ok (.lload_n 3, 1) := by decide +kernel
theorem dX6_clear_73 : decode cX6_clear 73 = .ok (.ldiv, 1) := by decide +kernel
theorem dX6_clear_74 : decode cX6_clear 74 = .ok (.lastore, 1) := by decide +kernel
theorem dX6_clear_75 : decode cX6_clear 75 = .ok (.iinc 9 1, 3) := by decide +kernel
theorem dX6_clear_78 : decode cX6_clear 78 = .ok (.goto (-48), 3) := by decide +kernel
theorem dX6_clear_81 : decode cX6_clear 81 = .ok (.return_, 1) := by decide +kernel
theorem dX6_lower_0 : decode cX6_lower 0 = .ok (.aload_n 0, 1) := by decide +kernel
theorem dX6_lower_1 : decode cX6_lower 1 = .ok (.getfield 11, 3) := by decide +kernel
theorem dX6_lower_4 : decode cX6_lower 4 = .ok (.iconst 0, 1) := by decide +kernel
theorem dX6_lower_5 : decode cX6_lower 5 = .ok (.aaload, 1) := by decide +kernel
theorem dX6_lower_6 : decode cX6_lower 6 = .ok (.iconst 0, 1) := by decide +kernel
theorem dX6_lower_7 : decode cX6_lower 7 = .ok (.laload, 1) := by decide +kernel
theorem dX6_lower_8 : decode cX6_lower 8 = .ok (.invokestatic 54, 3) := by decide +kernel
theorem dX6_lower_11 : decode cX6_lower 11 = .ok (.lreturn, 1) := by decide +kernel
theorem dX6_upper_0 : decode cX6_upper 0 = .ok (.aload_n 0, 1) := by decide +kernel
theorem dX6_upper_1 : decode cX6_upper 1 = .ok (.getfield 11, 3) := by decide +kernel
theorem dX6_upper_4 : decode cX6_upper 4 = .ok (.iconst 0, 1) := by decide +kernel
theorem dX6_upper_5 : decode cX6_upper 5 = .ok (.aaload, 1) := by decide +kernel
theorem dX6_upper_6 : decode cX6_upper 6 = .ok (.iconst 0, 1) := by decide +kernel
theorem dX6_upper_7 : decode cX6_upper 7 = .ok (.laload, 1) := by decide +kernel
theorem dX6_upper_8 : decode cX6_upper 8 = .ok (.lconst 0, 1) := by decide +kernel
theorem dX6_upper_9 : decode cX6_upper 9 = .ok (.lcmp, 1) := by decide +kernel
theorem dX6_upper_10 : decode cX6_upper 10 = .ok (.ifCond .ge 20, 3) := by decide +kernel
theorem dX6_upper_13 : decode cX6_upper 13 = .ok (.aload_n 0, 1) := by decide +kernel
theorem dX6_upper_14 : decode cX6_upper 14 = .ok (.getfield 11, 3) := by decide +kernel
theorem dX6_upper_17 : decode cX6_upper 17 = .ok (.iload_n 1, 1) := by decide +kernel
theorem dX6_upper_18 : decode cX6_upper 18 = .ok (.aaload, 1) := by decide +kernel
theorem dX6_upper_19 : decode cX6_upper 19 = .ok (.aload_n 0, 1) := by decide +kernel
theorem dX6_upper_20 : decode cX6_upper 20 = .ok (.getfield 16, 3) := by decide +kernel
theorem dX6_upper_23 : decode cX6_upper 23 = .ok (.iload_n 2, 1) := by decide +kernel
theorem dX6_upper_24 : decode cX6_upper 24 = .ok (.iadd, 1) := by decide +kernel
theorem dX6_upper_25 : decode cX6_upper 25 = .ok (.laload, 1) := by decide +kernel
theorem dX6_upper_26 : decode cX6_upper 26 = .ok (.lneg, 1) := by decide +kernel
theorem dX6_upper_27 : decode cX6_upper 27 = .ok (.goto 16, 3) := by decide +kernel
theorem dX6_upper_30 : decode cX6_upper 30 = .ok (.aload_n 0, 1) := by decide +kernel
theorem dX6_upper_31 : decode cX6_upper 31 = .ok (.getfield 11, 3) := by decide +kernel
theorem dX6_upper_34 : decode cX6_upper 34 = .ok (.iload_n 1, 1) := by decide +kernel
theorem dX6_upper_35 : decode cX6_upper 35 = .ok (.aaload, 1) := by decide +kernel
theorem dX6_upper_36 : decode cX6_upper 36 = .ok (.aload_n 0, 1) := by decide +kernel
theorem dX6_upper_37 : decode cX6_upper 37 = .ok (.getfield 16, 3) := by decide +kernel
theorem dX6_upper_40 : decode cX6_upper 40 = .ok (.iload_n 2, 1) := by decide +kernel
theorem dX6_upper_41 : decode cX6_upper 41 = .ok (.iadd, 1) := by decide +kernel
theorem dX6_upper_42 : decode cX6_upper 42 = .ok (.laload, 1) := by decide +kernel
theorem dX6_upper_43 : decode cX6_upper 43 = .ok (.lreturn, 1) := by decide +kernel
theorem dX7_init_0 : decode cX7_init 0 = .ok (.aload_n 0, 1) := by decide +kernel
theorem dX7_init_1 : decode cX7_init 1 = .ok (.invokespecial 3, 3) := by decide +kernel
theorem dX7_init_4 : decode cX7_init 4 = .ok (.aload_n 0, 1) := by decide +kernel
theorem dX7_init_5 : decode cX7_init 5 = .ok (.sipush 341, 3) := by decide +kernel
theorem dX7_init_8 : decode cX7_init 8 = .ok (.newarray .long, 2) := by decide +kernel
theorem dX7_init_10 : decode cX7_init 10 = .ok (.putfield 9, 3) := by decide +kernel
theorem dX7_init_13 : decode cX7_init 13 = .ok (.aload_n 0, 1) := by decide +kernel
theorem dX7_init_14 : decode cX7_init 14 = .ok (.iconst 0, 1) := by decide +kernel
theorem dX7_init_15 : decode cX7_init 15 = .ok (.putfield 15, 3) := by decide +kernel
theorem dX7_init_18 : decode cX7_init 18 = .ok (.return_, 1) := by decide +kernel
theorem dX7_roll_0 : decode cX7_roll 0 = .ok (.aload_n 2, 1) := by decide +kernel
theorem dX7_roll_1 : decode cX7_roll 1 = .ok (.invokevirtual 19, 3) := by decide +kernel
theorem dX7_roll_4 : decode cX7_roll 4 = .ok (.istore 4, 2) := by decide +kernel
theorem dX7_roll_6 : decode cX7_roll 6 = .ok (.aload_n 0, 1) := by decide +kernel
theorem dX7_roll_7 : decode cX7_roll 7 = .ok (.aload_n 1, 1) := by decide +kernel
theorem dX7_roll_8 : decode cX7_roll 8 = .ok (.getfield 25, 3) := by decide +kernel
theorem dX7_roll_11 : decode cX7_roll 11 = .ok (.iload 4, 2) := by decide +kernel
theorem dX7_roll_13 : decode cX7_roll 13 = .ok (.iadd, 1) := by decide +kernel
theorem dX7_roll_14 : decode cX7_roll 14 = .ok (.iconst 1, 1) := by decide +kernel
theorem dX7_roll_15 : decode cX7_roll 15 = .ok (.iadd, 1) := by decide +kernel
theorem dX7_roll_16 : decode cX7_roll 16 = .ok (.sipush 341, 3) := by decide +kernel
theorem dX7_roll_19 : decode cX7_roll 19 = .ok (.invokestatic 30, 3) := by decide +kernel
theorem dX7_roll_22 : decode cX7_roll 22 = .ok (.putfield 15, 3) := by decide +kernel
theorem dX7_roll_25 : decode cX7_roll 25 = .ok (.aload_n 0, 1) := by decide +kernel
theorem dX7_roll_26 : decode cX7_roll 26 = .ok (.getfield 9, 3) := by decide +kernel
theorem dX7_roll_29 : decode cX7_roll 29 = .ok (.iconst 0, 1) := by decide +kernel
theorem dX7_roll_30 : decode cX7_roll 30 = .ok (.aload_n 0, 1) := by decide +kernel
theorem dX7_roll_31 : decode cX7_roll 31 = .ok (.getfield 15, 3) := by decide +kernel
theorem dX7_roll_34 : decode cX7_roll 34 = .ok (.lconst 0, 1) := by decide +kernel
theorem dX7_roll_35 : decode cX7_roll 35 = .ok (.invokestatic 36, 3) := by decide +kernel
theorem dX7_roll_38 : decode cX7_roll 38 = .ok (.iconst 0, 1) := by decide +kernel
theorem dX7_roll_39 : decode cX7_roll 39 = .ok (.istore 5, 2) := by decide +kernel
theorem dX7_roll_41 : decode cX7_roll 41 = .ok (.iconst 0, 1) := by decide +kernel
theorem dX7_roll_42 : decode cX7_roll 42 = .ok (.istore 6, 2) := by decide +kernel
theorem dX7_roll_44 : decode cX7_roll 44 = .ok (.iload 6, 2) := by decide +kernel
theorem dX7_roll_46 : decode cX7_roll 46 = .ok (.aload_n 2, 1) := by decide +kernel
theorem dX7_roll_47 : decode cX7_roll 47 = .ok (.getfield 42, 3) := by decide +kernel
theorem dX7_roll_50 : decode cX7_roll 50 = .ok (.if_icmp .ge 48, 3) := by decide +kernel
theorem dX7_roll_53 : decode cX7_roll 53 = .ok (.iload 5, 2) := by decide +kernel
theorem dX7_roll_55 : decode cX7_roll 55 = .ok (.aload_n 2, 1) := by decide +kernel
theorem dX7_roll_56 : decode cX7_roll 56 = .ok (.getfield 45, 3) := by decide +kernel
theorem dX7_roll_59 : decode cX7_roll 59 = .ok (.iload 6, 2) := by decide +kernel
theorem dX7_roll_61 : decode cX7_roll 61 = .ok (.iaload, 1) := by decide +kernel
theorem dX7_roll_62 : decode cX7_roll 62 = .ok (.iadd, 1) := by decide +kernel
theorem dX7_roll_63 : decode cX7_roll 63 = .ok (.istore 5, 2) := by decide +kernel
theorem dX7_roll_65 : decode cX7_roll 65 = .ok (.aload_n 0, 1) := by decide +kernel
theorem dX7_roll_66 : decode cX7_roll 66 = .ok (.aload_n 1, 1) := by decide +kernel
theorem dX7_roll_67 : decode cX7_roll 67 = .ok (.aload_n 2, 1) := by decide +kernel
theorem dX7_roll_68 : decode cX7_roll 68 = .ok (.getfield 49, 3) := by decide +kernel
theorem dX7_roll_71 : decode cX7_roll 71 = .ok (.iload 6, 2) := by decide +kernel
theorem dX7_roll_73 : decode cX7_roll 73 = .ok (.iaload, 1) := by decide +kernel
theorem dX7_roll_74 : decode cX7_roll 74 = .ok (.i2l, 1) := by decide +kernel
theorem dX7_roll_75 : decode cX7_roll 75 = .ok (.iload_n 3, 1) := by decide +kernel
theorem dX7_roll_76 : decode cX7_roll 76 = .ok (.ifCond .ne 8, 3) := by decide +kernel
theorem dX7_roll_79 : decode cX7_roll 79 = .ok (.iload 5, 2) := by decide +kernel
theorem dX7_roll_81 : decode cX7_roll 81 = .ok (.goto 8, 3) := by decide +kernel
theorem dX7_roll_84 : decode cX7_roll 84 = .ok (.iload 4, 2) := by decide +kernel
theorem dX7_roll_86 : decode cX7_roll 86 = .ok (.iload 5, 2) := by decide +kernel
theorem dX7_roll_88 : decode cX7_roll 88 = .ok (.isub, 1) := by decide +kernel
theorem dX7_roll_89 : decode cX7_roll 89 = .ok (.invokevirtual 52, 3) := by decide +kernel
theorem dX7_roll_92 : decode cX7_roll 92 = .ok (.iinc 6 1, 3) := by decide +kernel
theorem dX7_roll_95 : decode cX7_roll 95 = .ok (.goto (-51), 3) := by decide +kernel
theorem dX7_roll_98 : decode cX7_roll 98 = .ok (.return_, 1) := by decide +kernel
theorem dX7_addAxle_0 : decode cX7_addAxle 0 = .ok (.iconst 0, 1) := by decide +kernel
theorem dX7_addAxle_1 : decode cX7_addAxle 1 = .ok (.istore 5, 2) := by decide +kernel
theorem dX7_addAxle_3 : decode cX7_addAxle 3 = .ok (.iload 5, 2) := by decide +kernel
theorem dX7_addAxle_5 : decode cX7_addAxle 5 = .ok (.aload_n 1, 1) := by decide +kernel
theorem dX7_addAxle_6 : decode cX7_addAxle 6 = .ok (.getfield 25, 3) := by decide +kernel
theorem dX7_addAxle_9 : decode cX7_addAxle 9 = .ok (.if_icmp .gt 43, 3) := by decide +kernel
theorem dX7_addAxle_12 : decode cX7_addAxle 12 = .ok (.iload 4, 2) := by decide +kernel
theorem dX7_addAxle_14 : decode cX7_addAxle 14 = .ok (.iload 5, 2) := by decide +kernel
theorem dX7_addAxle_16 : decode cX7_addAxle 16 = .ok (.iadd, 1) := by decide +kernel
theorem dX7_addAxle_17 : decode cX7_addAxle 17 = .ok (.aload_n 0, 1) := by decide +kernel
theorem dX7_addAxle_18 : decode cX7_addAxle 18 = .ok (.getfield 15, 3) := by decide +kernel
theorem dX7_addAxle_21 : decode cX7_addAxle 21 = .ok (.if_icmp .ge 31, 3) := by decide +kernel
theorem dX7_addAxle_24 : decode cX7_addAxle 24 = .ok (.aload_n 0, 1) := by decide +kernel
theorem dX7_addAxle_25 : decode cX7_addAxle 25 = .ok (.getfield 9, 3) := by decide +kernel
theorem dX7_addAxle_28 : decode cX7_addAxle 28 = .ok (.iload 4, 2) := by decide +kernel
theorem dX7_addAxle_30 : decode cX7_addAxle 30 = .ok (.iload 5, 2) := by decide +kernel
theorem dX7_addAxle_32 : decode cX7_addAxle 32 = .ok (.iadd, 1) := by decide +kernel
theorem dX7_addAxle_33 : decode cX7_addAxle 33 = .ok (.dup2, 1) := by decide +kernel
theorem dX7_addAxle_34 : decode cX7_addAxle 34 = .ok (.laload, 1) := by decide +kernel
theorem dX7_addAxle_35 : decode cX7_addAxle 35 = .ok (.lload_n 2, 1) := by decide +kernel
theorem dX7_addAxle_36 : decode cX7_addAxle 36 = .ok (.aload_n 1, 1) := by decide +kernel
theorem dX7_addAxle_37 : decode cX7_addAxle 37 = .ok (.getfield 56, 3) := by decide +kernel
theorem dX7_addAxle_40 : decode cX7_addAxle 40 = .ok (.iload 5, 2) := by decide +kernel
theorem dX7_addAxle_42 : decode cX7_addAxle 42 = .ok (.laload, 1) := by decide +kernel
theorem dX7_addAxle_43 : decode cX7_addAxle 43 = .ok (.lmul, 1) := by decide +kernel
theorem dX7_addAxle_44 : decode cX7_addAxle 44 = .ok (.ladd, 1) := by decide +kernel
theorem dX7_addAxle_45 : decode cX7_addAxle 45 = .ok (.lastore, 1) := by decide +kernel
theorem dX7_addAxle_46 : decode cX7_addAxle 46 = .ok (.iinc 5 1, 3) := by decide +kernel
theorem dX7_addAxle_49 : decode cX7_addAxle 49 = .ok (.goto (-46), 3) := by decide +kernel
theorem dX7_addAxle_52 : decode cX7_addAxle 52 = .ok (.return_, 1) := by decide +kernel
theorem dX8_init_0 : decode cX8_init 0 = .ok (.aload_n 0, 1) := by decide +kernel
theorem dX8_init_1 : decode cX8_init 1 = .ok (.invokespecial 3, 3) := by decide +kernel
theorem dX8_init_4 : decode cX8_init 4 = .ok (.aload_n 0, 1) := by decide +kernel
theorem dX8_init_5 : decode cX8_init 5 = .ok (.bipush 8, 2) := by decide +kernel
theorem dX8_init_7 : decode cX8_init 7 = .ok (.newarray .int, 2) := by decide +kernel
theorem dX8_init_9 : decode cX8_init 9 = .ok (.putfield 9, 3) := by decide +kernel
theorem dX8_init_12 : decode cX8_init 12 = .ok (.aload_n 0, 1) := by decide +kernel
theorem dX8_init_13 : decode cX8_init 13 = .ok (.bipush 8, 2) := by decide +kernel
theorem dX8_init_15 : decode cX8_init 15 = .ok (.newarray .int, 2) := by decide +kernel
theorem dX8_init_17 : decode cX8_init 17 = .ok (.putfield 15, 3) := by decide +kernel
theorem dX8_init_20 : decode cX8_init 20 = .ok (.aload_n 0, 1) := by decide +kernel
theorem dX8_init_21 : decode cX8_init 21 = .ok (.iconst 0, 1) := by decide +kernel
theorem dX8_init_22 : decode cX8_init 22 = .ok (.putfield 18, 3) := by decide +kernel
theorem dX8_init_25 : decode cX8_init 25 = .ok (.aload_n 0, 1) := by decide +kernel
theorem dX8_init_26 : decode cX8_init 26 = .ok (.iconst 0, 1) := by decide +kernel
theorem dX8_init_27 : decode cX8_init 27 = .ok (.putfield 22, 3) := by decide +kernel
theorem dX8_init_30 : decode cX8_init 30 = .ok (.return_, 1) := by decide +kernel
theorem dX8_couple_0 : decode cX8_couple 0 = .ok (.aload_n 0, 1) := by decide +kernel
theorem dX8_couple_1 : decode cX8_couple 1 = .ok (.getfield 18, 3) := by decide +kernel
theorem dX8_couple_4 : decode cX8_couple 4 = .ok (.bipush 8, 2) := by decide +kernel
theorem dX8_couple_6 : decode cX8_couple 6 = .ok (.if_icmp .lt 5, 3) := by decide +kernel
theorem dX8_couple_9 : decode cX8_couple 9 = .ok (.iconst 0, 1) := by decide +kernel
theorem dX8_couple_10 : decode cX8_couple 10 = .ok (.ireturn, 1) := by decide +kernel
theorem dX8_couple_11 : decode cX8_couple 11 = .ok (.aload_n 0, 1) := by decide +kernel
theorem dX8_couple_12 : decode cX8_couple 12 = .ok (.getfield 15, 3) := by decide +kernel
theorem dX8_couple_15 : decode cX8_couple 15 = .ok (.aload_n 0, 1) := by decide +kernel
theorem dX8_couple_16 : decode cX8_couple 16 = .ok (.getfield 18, 3) := by decide +kernel
theorem dX8_couple_19 : decode cX8_couple 19 = .ok (.iload_n 1, 1) := by decide +kernel
theorem dX8_couple_20 : decode cX8_couple 20 = .ok (.iastore, 1) := by decide +kernel
theorem dX8_couple_21 : decode cX8_couple 21 = .ok (.aload_n 0, 1) := by decide +kernel
theorem dX8_couple_22 : decode cX8_couple 22 = .ok (.getfield 9, 3) := by decide +kernel
theorem dX8_couple_25 : decode cX8_couple 25 = .ok (.aload_n 0, 1) := by decide +kernel
theorem dX8_couple_26 : decode cX8_couple 26 = .ok (.getfield 18, 3) := by decide +kernel
theorem dX8_couple_29 : decode cX8_couple 29 = .ok (.iload_n 2, 1) := by decide +kernel
theorem dX8_couple_30 : decode cX8_couple 30 = .ok (.iastore, 1) := by decide +kernel
theorem dX8_couple_31 : decode cX8_couple 31 = .ok (.aload_n 0, 1) := by decide +kernel
theorem dX8_couple_32 : decode cX8_couple 32 = .ok (.dup, 1) := by decide +kernel
theorem dX8_couple_33 : decode cX8_couple 33 = .ok (.getfield 18, 3) := by decide +kernel
theorem dX8_couple_36 : decode cX8_couple 36 = .ok (.iconst 1, 1) := by decide +kernel
theorem dX8_couple_37 : decode cX8_couple 37 = .ok (.iadd, 1) := by decide +kernel
theorem dX8_couple_38 : decode cX8_couple 38 = .ok (.putfield 18, 3) := by decide +kernel
theorem dX8_couple_41 : decode cX8_couple 41 = .ok (.iconst 1, 1) := by decide +kernel
theorem dX8_couple_42 : decode cX8_couple 42 = .ok (.ireturn, 1) := by decide +kernel
theorem dX8_allGaps_0 : decode cX8_allGaps 0 = .ok (.iconst 0, 1) := by decide +kernel
theorem dX8_allGaps_1 : decode cX8_allGaps 1 = .ok (.istore_n 1, 1) := by decide +kernel
theorem dX8_allGaps_2 : decode cX8_allGaps 2 = .ok (.iconst 0, 1) := by decide +kernel
theorem dX8_allGaps_3 : decode cX8_allGaps 3 = .ok (.istore_n 2, 1) := by decide +kernel
theorem dX8_allGaps_4 : decode cX8_allGaps 4 = .ok (.iload_n 2, 1) := by decide +kernel
theorem dX8_allGaps_5 : decode cX8_allGaps 5 = .ok (.aload_n 0, 1) := by decide +kernel
theorem dX8_allGaps_6 : decode cX8_allGaps 6 = .ok (.getfield 18, 3) := by decide +kernel
theorem dX8_allGaps_9 : decode cX8_allGaps 9 = .ok (.if_icmp .ge 18, 3) := by decide +kernel
theorem dX8_allGaps_12 : decode cX8_allGaps 12 = .ok (.iload_n 1, 1) := by decide +kernel
theorem dX8_allGaps_13 : decode cX8_allGaps 13 = .ok (.aload_n 0, 1) := by decide +kernel
theorem dX8_allGaps_14 : decode cX8_allGaps 14 = .ok (.getfield 15, 3) := by decide +kernel
theorem dX8_allGaps_17 : decode cX8_allGaps 17 = .ok (.iload_n 2, 1) := by decide +kernel
theorem dX8_allGaps_18 : decode cX8_allGaps 18 = .ok (.iaload, 1) := by decide +kernel
theorem dX8_allGaps_19 : decode cX8_allGaps 19 = .ok (.iadd, 1) := by decide +kernel
theorem dX8_allGaps_20 : decode cX8_allGaps 20 = .ok (.istore_n 1, 1) := by decide +kernel
theorem dX8_allGaps_21 : decode cX8_allGaps 21 = .ok (.iinc 2 1, 3) := by decide +kernel
theorem dX8_allGaps_24 : decode cX8_allGaps 24 = .ok (.goto (-20), 3) := by decide +kernel
theorem dX8_allGaps_27 : decode cX8_allGaps 27 = .ok (.iload_n 1, 1) := by decide +kernel
theorem dX8_allGaps_28 : decode cX8_allGaps 28 = .ok (.ireturn, 1) := by decide +kernel
theorem dX8_copyWeighing_0 : decode cX8_copyWeighing 0 = .ok (.aload_n 0, 1) := by decide +kernel
theorem dX8_copyWeighing_1 : decode cX8_copyWeighing 1 = .ok (.aload_n 1, 1) := by decide +kernel
theorem dX8_copyWeighing_2 : decode cX8_copyWeighing 2 = .ok (.getfield 18, 3) := by decide +kernel
theorem dX8_copyWeighing_5 : decode cX8_copyWeighing 5 = .ok (.putfield 18, 3) := by decide +kernel
theorem dX8_copyWeighing_8 : decode cX8_copyWeighing 8 = .ok (.iconst 0, 1) := by decide +kernel
theorem dX8_copyWeighing_9 : decode cX8_copyWeighing 9 = .ok (.istore_n 3, 1) := by decide +kernel
theorem dX8_copyWeighing_10 : decode cX8_copyWeighing 10 = .ok (.iload_n 3, 1) := by decide +kernel
theorem dX8_copyWeighing_11 : decode cX8_copyWeighing 11 = .ok (.aload_n 0, 1) := by decide +kernel
theorem dX8_copyWeighing_12 : decode cX8_copyWeighing 12 = .ok (.getfield 18, 3) := by decide +kernel
theorem dX8_copyWeighing_15 : decode cX8_copyWeighing 15 = .ok (.if_icmp .ge 38, 3) := by decide +kernel
theorem dX8_copyWeighing_18 : decode cX8_copyWeighing 18 = .ok (.aload_n 0, 1) := by decide +kernel
theorem dX8_copyWeighing_19 : decode cX8_copyWeighing 19 = .ok (.getfield 15, 3) := by decide +kernel
theorem dX8_copyWeighing_22 : decode cX8_copyWeighing 22 = .ok (.iload_n 3, 1) := by decide +kernel
theorem dX8_copyWeighing_23 : decode cX8_copyWeighing 23 = .ok (.aload_n 1, 1) := by decide +kernel
theorem dX8_copyWeighing_24 : decode cX8_copyWeighing 24 = .ok (.getfield 15, 3) := by decide +kernel
theorem dX8_copyWeighing_27 : decode cX8_copyWeighing 27 = .ok (.iload_n 3, 1) := by decide +kernel
theorem dX8_copyWeighing_28 : decode cX8_copyWeighing 28 = .ok (.iaload, 1) := by decide +kernel
theorem dX8_copyWeighing_29 : decode cX8_copyWeighing 29 = .ok (.iastore, 1) := by decide +kernel
theorem dX8_copyWeighing_30 : decode cX8_copyWeighing 30 = .ok (.aload_n 0, 1) := by decide +kernel
theorem dX8_copyWeighing_31 : decode cX8_copyWeighing 31 = .ok (.getfield 9, 3) := by decide +kernel
theorem dX8_copyWeighing_34 : decode cX8_copyWeighing 34 = .ok (.iload_n 3, 1) := by decide +kernel
theorem dX8_copyWeighing_35 : decode cX8_copyWeighing 35 = .ok (.aload_n 1, 1) := by decide +kernel
theorem dX8_copyWeighing_36 : decode cX8_copyWeighing 36 = .ok (.getfield 9, 3) := by decide +kernel
theorem dX8_copyWeighing_39 : decode cX8_copyWeighing 39 = .ok (.iload_n 3, 1) := by decide +kernel
theorem dX8_copyWeighing_40 : decode cX8_copyWeighing 40 = .ok (.iaload, 1) := by decide +kernel
theorem dX8_copyWeighing_41 : decode cX8_copyWeighing 41 = .ok (.iload_n 2, 1) := by decide +kernel
theorem dX8_copyWeighing_42 : decode cX8_copyWeighing 42 = .ok (.imul, 1) := by decide +kernel
theorem dX8_copyWeighing_43 : decode cX8_copyWeighing 43 = .ok (.bipush 100, 2) := by decide +kernel
theorem dX8_copyWeighing_45 : decode cX8_copyWeighing 45 = .ok (.idiv, 1) := by decide +kernel
theorem dX8_copyWeighing_46 : decode cX8_copyWeighing 46 = .ok (.iastore, 1) := by decide +kernel
theorem dX8_copyWeighing_47 : decode cX8_copyWeighing 47 = .ok (.iinc 3 1, 3) := by decide +kernel
theorem dX8_copyWeighing_50 : decode cX8_copyWeighing 50 = .ok (.goto (-40), 3) := by decide +kernel
theorem dX8_copyWeighing_53 : decode cX8_copyWeighing 53 = .ok (.return_, 1) := by decide +kernel
theorem dX8_copySpread_0 : decode cX8_copySpread 0 = .ok (.aload_n 0, 1) := by decide +kernel
theorem dX8_copySpread_1 : decode cX8_copySpread 1 = .ok (.aload_n 1, 1) := by decide +kernel
theorem dX8_copySpread_2 : decode cX8_copySpread 2 = .ok (.getfield 18, 3) := by decide +kernel
theorem dX8_copySpread_5 : decode cX8_copySpread 5 = .ok (.putfield 18, 3) := by decide +kernel
theorem dX8_copySpread_8 : decode cX8_copySpread 8 = .ok (.iconst 0, 1) := by decide +kernel
theorem dX8_copySpread_9 : decode cX8_copySpread 9 = .ok (.istore_n 3, 1) := by decide +kernel
theorem dX8_copySpread_10 : decode cX8_copySpread 10 = .ok (.iload_n 3, 1) := by decide +kernel
theorem dX8_copySpread_11 : decode cX8_copySpread 11 = .ok (.aload_n 0, 1) := by decide +kernel
theorem dX8_copySpread_12 : decode cX8_copySpread 12 = .ok (.getfield 18, 3) := by decide +kernel
theorem dX8_copySpread_15 : decode cX8_copySpread 15 = .ok (.if_icmp .ge 43, 3) := by decide +kernel
theorem dX8_copySpread_18 : decode cX8_copySpread 18 = .ok (.aload_n 0, 1) := by decide +kernel
theorem dX8_copySpread_19 : decode cX8_copySpread 19 = .ok (.getfield 15, 3) := by decide +kernel
theorem dX8_copySpread_22 : decode cX8_copySpread 22 = .ok (.iload_n 3, 1) := by decide +kernel
theorem dX8_copySpread_23 : decode cX8_copySpread 23 = .ok (.iload_n 3, 1) := by decide +kernel
theorem dX8_copySpread_24 : decode cX8_copySpread 24 = .ok (.ifCond .ne 7, 3) := by decide +kernel
theorem dX8_copySpread_27 : decode cX8_copySpread 27 = .ok (.iconst 0, 1) := by decide +kernel
theorem dX8_copySpread_28 : decode cX8_copySpread 28 = .ok (.goto 11, 3) := by decide +kernel
theorem dX8_copySpread_31 : decode cX8_copySpread 31 = .ok (.aload_n 1, 1) := by decide +kernel
theorem dX8_copySpread_32 : decode cX8_copySpread 32 = .ok (.getfield 15, 3) := by decide +kernel
theorem dX8_copySpread_35 : decode cX8_copySpread 35 = .ok (.iload_n 3, 1) := by decide +kernel
theorem dX8_copySpread_36 : decode cX8_copySpread 36 = .ok (.iaload, 1) := by decide +kernel
theorem dX8_copySpread_37 : decode cX8_copySpread 37 = .ok (.iload_n 2, 1) := by decide +kernel
theorem dX8_copySpread_38 : decode cX8_copySpread 38 = .ok (.iadd, 1) := by decide +kernel
theorem dX8_copySpread_39 : decode cX8_copySpread 39 = .ok (.iastore, 1) := by decide +kernel
theorem dX8_copySpread_40 : decode cX8_copySpread 40 = .ok (.aload_n 0, 1) := by decide +kernel
theorem dX8_copySpread_41 : decode cX8_copySpread 41 = .ok (.getfield 9, 3) := by decide +kernel
theorem dX8_copySpread_44 : decode cX8_copySpread 44 = .ok (.iload_n 3, 1) := by decide +kernel
theorem dX8_copySpread_45 : decode cX8_copySpread 45 = .ok (.aload_n 1, 1) := by decide +kernel
theorem dX8_copySpread_46 : decode cX8_copySpread 46 = .ok (.getfield 9, 3) := by decide +kernel
theorem dX8_copySpread_49 : decode cX8_copySpread 49 = .ok (.iload_n 3, 1) := by decide +kernel
theorem dX8_copySpread_50 : decode cX8_copySpread 50 = .ok (.iaload, 1) := by decide +kernel
theorem dX8_copySpread_51 : decode cX8_copySpread 51 = .ok (.iastore, 1) := by decide +kernel
theorem dX8_copySpread_52 : decode cX8_copySpread 52 = .ok (.iinc 3 1, 3) := by decide +kernel
theorem dX8_copySpread_55 : decode cX8_copySpread 55 = .ok (.goto (-45), 3) := by decide +kernel
theorem dX8_copySpread_58 : decode cX8_copySpread 58 = .ok (.return_, 1) := by decide +kernel
theorem dX9_init_0 : decode cX9_init 0 = .ok (.aload_n 0, 1) := by decide +kernel
theorem dX9_init_1 : decode cX9_init 1 = .ok (.invokespecial 3, 3) := by decide +kernel
theorem dX9_init_4 : decode cX9_init 4 = .ok (.aload_n 0, 1) := by decide +kernel
theorem dX9_init_5 : decode cX9_init 5 = .ok (.sipush 343, 3) := by decide +kernel
theorem dX9_init_8 : decode cX9_init 8 = .ok (.newarray .long, 2) := by decide +kernel
theorem dX9_init_10 : decode cX9_init 10 = .ok (.putfield 9, 3) := by decide +kernel
theorem dX9_init_13 : decode cX9_init 13 = .ok (.aload_n 0, 1) := by decide +kernel
theorem dX9_init_14 : decode cX9_init 14 = .ok (.iconst 0, 1) := by decide +kernel
theorem dX9_init_15 : decode cX9_init 15 = .ok (.putfield 15, 3) := by decide +kernel
theorem dX9_init_18 : decode cX9_init 18 = .ok (.aload_n 0, 1) := by decide +kernel
theorem dX9_init_19 : decode cX9_init 19 = .ok (.iconst 0, 1) := by decide +kernel
theorem dX9_init_20 : decode cX9_init 20 = .ok (.putfield 19, 3) := by decide +kernel
theorem dX9_init_23 : decode cX9_init 23 = .ok (.aload_n 0, 1) := by decide +kernel
theorem dX9_init_24 : decode cX9_init 24 = .ok (.iconst 0, 1) := by decide +kernel
theorem dX9_init_25 : decode cX9_init 25 = .ok (.putfield 22, 3) := by decide +kernel
theorem dX9_init_28 : decode cX9_init 28 = .ok (.aload_n 0, 1) := by decide +kernel
theorem dX9_init_29 : decode cX9_init 29 = .ok (.lconst 0, 1) := by decide +kernel
theorem dX9_init_30 : decode cX9_init 30 = .ok (.putfield 25, 3) := by decide +kernel
theorem dX9_init_33 : decode cX9_init 33 = .ok (.return_, 1) := by decide +kernel
theorem dX9_take_0 : decode cX9_take 0 = .ok (.aload_n 0, 1) := by decide +kernel
theorem dX9_take_1 : decode cX9_take 1 = .ok (.iconst 0, 1) := by decide +kernel
theorem dX9_take_2 : decode cX9_take 2 = .ok (.putfield 19, 3) := by decide +kernel
theorem dX9_take_5 : decode cX9_take 5 = .ok (.aload_n 0, 1) := by decide +kernel
theorem dX9_take_6 : decode cX9_take 6 = .ok (.iconst 0, 1) := by decide +kernel
theorem dX9_take_7 : decode cX9_take 7 = .ok (.putfield 22, 3) := by decide +kernel
theorem dX9_take_10 : decode cX9_take 10 = .ok (.aload_n 0, 1) := by decide +kernel
theorem dX9_take_11 : decode cX9_take 11 = .ok (.lconst 0, 1) := by decide +kernel
theorem dX9_take_12 : decode cX9_take 12 = .ok (.putfield 25, 3) := by decide +kernel
theorem dX9_take_15 : decode cX9_take 15 = .ok (.aload_n 0, 1) := by decide +kernel
theorem dX9_take_16 : decode cX9_take 16 = .ok (.iconst 0, 1) := by decide +kernel
theorem dX9_take_17 : decode cX9_take 17 = .ok (.putfield 15, 3) := by decide +kernel
theorem dX9_take_20 : decode cX9_take 20 = .ok (.aload_n 0, 1) := by decide +kernel
theorem dX9_take_21 : decode cX9_take 21 = .ok (.lconst 0, 1) := by decide +kernel
theorem dX9_take_22 : decode cX9_take 22 = .ok (.invokevirtual 29, 3) := by decide +kernel
theorem dX9_take_25 : decode cX9_take 25 = .ok (.iconst 0, 1) := by decide +kernel
theorem dX9_take_26 : decode cX9_take 26 = .ok (.istore_n 3, 1) := by decide +kernel
theorem dX9_take_27 : decode cX9_take 27 = .ok (.iload_n 3, 1) := by decide +kernel
theorem dX9_take_28 : decode cX9_take 28 = .ok (.aload_n 1, 1) := by decide +kernel
theorem dX9_take_29 : decode cX9_take 29 = .ok (.getfield 33, 3) := by decide +kernel
theorem dX9_take_32 : decode cX9_take 32 = .ok (.if_icmp .ge 19, 3) := by decide +kernel
theorem dX9_take_35 : decode cX9_take 35 = .ok (.aload_n 0, 1) := by decide +kernel
theorem dX9_take_36 : decode cX9_take 36 = .ok (.aload_n 1, 1) := by decide +kernel
theorem dX9_take_37 : decode cX9_take 37 = .ok (.getfield 38, 3) := by decide +kernel
theorem dX9_take_40 : decode cX9_take 40 = .ok (.iload_n 3, 1) := by decide +kernel
theorem dX9_take_41 : decode cX9_take 41 = .ok (.laload, 1) := by decide +kernel
theorem dX9_take_42 : decode cX9_take 42 = .ok (.invokevirtual 29, 3) := by decide +kernel
theorem dX9_take_45 : decode cX9_take 45 = .ok (.iinc 3 1, 3) := by decide +kernel
theorem dX9_take_48 : decode cX9_take 48 = .ok (.goto (-21), 3) := by decide +kernel
theorem dX9_take_51 : decode cX9_take 51 = .ok (.aload_n 0, 1) := by decide +kernel
theorem dX9_take_52 : decode cX9_take 52 = .ok (.lconst 0, 1) := by decide +kernel
theorem dX9_take_53 : decode cX9_take 53 = .ok (.invokevirtual 29, 3) := by decide +kernel
theorem dX9_take_56 : decode cX9_take 56 = .ok (.aload_n 0, 1) := by decide +kernel
theorem dX9_take_57 : decode cX9_take 57 = .ok (.aload_n 2, 1) := by decide +kernel
theorem dX9_take_58 : decode cX9_take 58 = .ok (.invokevirtual 41, 3) := by decide +kernel
theorem dX9_take_61 : decode cX9_take 61 = .ok (.aload_n 0, 1) := by decide +kernel
theorem dX9_take_62 : decode cX9_take 62 = .ok (.aload_n 2, 1) := by decide +kernel
theorem dX9_take_63 : decode cX9_take 63 = .ok (.invokevirtual 45, 3) := by decide +kernel
theorem dX9_take_66 : decode cX9_take 66 = .ok (.return_, 1) := by decide +kernel
theorem dX9_push_0 : decode cX9_push 0 = .ok (.aload_n 0, 1) := by decide +kernel
theorem dX9_push_1 : decode cX9_push 1 = .ok (.getfield 15, 3) := by decide +kernel
theorem dX9_push_4 : decode cX9_push 4 = .ok (.iconst 2, 1) := by decide +kernel
theorem dX9_push_5 : decode cX9_push 5 = .ok (.if_icmp .lt 45, 3) := by decide +kernel
theorem dX9_push_8 : decode cX9_push 8 = .ok (.aload_n 0, 1) := by decide +kernel
theorem dX9_push_9 : decode cX9_push 9 = .ok (.getfield 9, 3) := by decide +kernel
theorem dX9_push_12 : decode cX9_push 12 = .ok (.aload_n 0, 1) := by decide +kernel
theorem dX9_push_13 : decode cX9_push 13 = .ok (.getfield 15, 3) := by decide +kernel
theorem dX9_push_16 : decode cX9_push 16 = .ok (.iconst 1, 1) := by decide +kernel
theorem dX9_push_17 : decode cX9_push 17 = .ok (.isub, 1) := by decide +kernel
theorem dX9_push_18 : decode cX9_push 18 = .ok (.laload, 1) := by decide +kernel
theorem dX9_push_19 : decode cX9_push 19 = .ok (.aload_n 0, 1) := by decide +kernel
theorem dX9_push_20 : decode cX9_push 20 = .ok (.getfield 9, 3) := by decide +kernel
theorem dX9_push_23 : decode cX9_push 23 = .ok (.aload_n 0, 1) := by decide +kernel
theorem dX9_push_24 : decode cX9_push 24 = .ok (.getfield 15, 3) := by decide +kernel
theorem dX9_push_27 : decode cX9_push 27 = .ok (.iconst 2, 1) := by decide +kernel
theorem dX9_push_28 : decode cX9_push 28 = .ok (.isub, 1) := by decide +kernel
theorem dX9_push_29 : decode cX9_push 29 = .ok (.laload, 1) := by decide +kernel
theorem dX9_push_30 : decode cX9_push 30 = .ok (.lload_n 1, 1) := by decide +kernel
theorem dX9_push_31 : decode cX9_push 31 = .ok (.invokestatic 48, 3) := by decide +kernel
theorem dX9_push_34 : decode cX9_push 34 = .ok (.ifCond .eq 16, 3) := by decide +kernel
theorem dX9_push_37 : decode cX9_push 37 = .ok (.aload_n 0, 1) := by decide +kernel
theorem dX9_push_38 : decode cX9_push 38 = .ok (.dup, 1) := by decide +kernel
theorem dX9_push_39 : decode cX9_push 39 = .ok (.getfield 15, 3) := by decide +kernel
theorem dX9_push_42 : decode cX9_push 42 = .ok (.iconst 1, 1) := by decide +kernel
theorem dX9_push_43 : decode cX9_push 43 = .ok (.isub, 1) := by decide +kernel
theorem dX9_push_44 : decode cX9_push 44 = .ok (.putfield 15, 3) := by decide +kernel
theorem dX9_push_47 : decode cX9_push 47 = .ok (.goto (-47), 3) := by decide +kernel
theorem dX9_push_50 : decode cX9_push 50 = .ok (.aload_n 0, 1) := by decide +kernel
theorem dX9_push_51 : decode cX9_push 51 = .ok (.getfield 15, 3) := by decide +kernel
theorem dX9_push_54 : decode cX9_push 54 = .ok (.aload_n 0, 1) := by decide +kernel
theorem dX9_push_55 : decode cX9_push 55 = .ok (.getfield 9, 3) := by decide +kernel
theorem dX9_push_58 : decode cX9_push 58 = .ok (.arraylength, 1) := by decide +kernel
theorem dX9_push_59 : decode cX9_push 59 = .ok (.if_icmp .ge 23, 3) := by decide +kernel
theorem dX9_push_62 : decode cX9_push 62 = .ok (.aload_n 0, 1) := by decide +kernel
theorem dX9_push_63 : decode cX9_push 63 = .ok (.getfield 9, 3) := by decide +kernel
theorem dX9_push_66 : decode cX9_push 66 = .ok (.aload_n 0, 1) := by decide +kernel
theorem dX9_push_67 : decode cX9_push 67 = .ok (.getfield 15, 3) := by decide +kernel
theorem dX9_push_70 : decode cX9_push 70 = .ok (.lload_n 1, 1) := by decide +kernel
theorem dX9_push_71 : decode cX9_push 71 = .ok (.lastore, 1) := by decide +kernel
theorem dX9_push_72 : decode cX9_push 72 = .ok (.aload_n 0, 1) := by decide +kernel
theorem dX9_push_73 : decode cX9_push 73 = .ok (.dup, 1) := by decide +kernel
theorem dX9_push_74 : decode cX9_push 74 = .ok (.getfield 15, 3) := by decide +kernel
theorem dX9_push_77 : decode cX9_push 77 = .ok (.iconst 1, 1) := by decide +kernel
theorem dX9_push_78 : decode cX9_push 78 = .ok (.iadd, 1) := by decide +kernel
theorem dX9_push_79 : decode cX9_push 79 = .ok (.putfield 15, 3) := by decide +kernel
theorem dX9_push_82 : decode cX9_push 82 = .ok (.return_, 1) := by decide +kernel
theorem dX9_liesBetween_0 : decode cX9_liesBetween 0 = .ok (.lload_n 0, 1) := by decide +kernel
theorem dX9_liesBetween_1 : decode cX9_liesBetween 1 = .ok (.lload_n 2, 1) := by decide +kernel
theorem dX9_liesBetween_2 : decode cX9_liesBetween 2 = .ok (.lload 4, 2) := by decide +kernel
theorem dX9_liesBetween_4 : decode cX9_liesBetween 4 = .ok (.invokestatic 52, 3) := by decide +kernel
theorem dX9_liesBetween_7 : decode cX9_liesBetween 7 = .ok (.lcmp, 1) := by decide +kernel
theorem dX9_liesBetween_8 : decode cX9_liesBetween 8 = .ok (.ifCond .lt 18, 3) := by decide +kernel
theorem dX9_liesBetween_11 : decode cX9_liesBetween 11 = .ok (.lload_n 0, 1) := by decide +kernel
theorem dX9_liesBetween_12 : decode cX9_liesBetween 12 = .ok (.lload_n 2, 1) := by decide +kernel
theorem dX9_liesBetween_13 : decode cX9_liesBetween 13 = .ok (.lload 4, 2) := by decide +kernel
theorem dX9_liesBetween_15 : decode cX9_liesBetween 15 = .ok (.invokestatic 58, 3) := by decide +kernel
theorem dX9_liesBetween_18 : decode cX9_liesBetween 18 = .ok (.lcmp, 1) := by decide +kernel
theorem dX9_liesBetween_19 : decode cX9_liesBetween 19 = .ok (.ifCond .gt 7, 3) := by decide +kernel
theorem dX9_liesBetween_22 : decode cX9_liesBetween 22 = .ok (.iconst 1, 1) := by decide +kernel
theorem dX9_liesBetween_23 : decode cX9_liesBetween 23 = .ok (.goto 4, 3) := by decide +kernel
theorem dX9_liesBetween_26 : decode cX9_liesBetween 26 = .ok (.iconst 0, 1) := by decide +kernel
theorem dX9_liesBetween_27 : decode cX9_liesBetween 27 = .ok (.ireturn, 1) := by decide +kernel
theorem dX9_takeWholeTurns_0 : decode cX9_takeWholeTurns 0 = .ok (.iconst 0, 1) := by decide +kernel
theorem dX9_takeWholeTurns_1 : decode cX9_takeWholeTurns 1 = .ok (.istore_n 2, 1) := by decide +kernel
theorem dX9_takeWholeTurns_2 : decode cX9_takeWholeTurns 2 = .ok (.iconst 0, 1) := by decide +kernel
theorem dX9_takeWholeTurns_3 : decode cX9_takeWholeTurns 3 = .ok (.istore_n 3, 1) := by decide +kernel
theorem dX9_takeWholeTurns_4 : decode cX9_takeWholeTurns 4 = .ok (.iload_n 3, 1) := by decide +kernel
theorem dX9_takeWholeTurns_5 : decode cX9_takeWholeTurns 5 = .ok (.aload_n 0, 1) := by decide +kernel
theorem dX9_takeWholeTurns_6 : decode cX9_takeWholeTurns 6 = .ok (.getfield 15, 3) := by decide +kernel
theorem dX9_takeWholeTurns_9 : decode cX9_takeWholeTurns 9 = .ok (.if_icmp .ge 98, 3) := by decide +kernel
theorem dX9_takeWholeTurns_12 : decode cX9_takeWholeTurns 12 = .ok (.aload_n 0, 1) := by decide +kernel
theorem dX9_takeWholeTurns_13 : decode cX9_takeWholeTurns 13 = .ok (.getfield 9, 3) := by decide +kernel
theorem dX9_takeWholeTurns_16 : decode cX9_takeWholeTurns 16 = .ok (.iload_n 2, 1) := by decide +kernel
theorem dX9_takeWholeTurns_17 : decode cX9_takeWholeTurns 17 = .ok (.aload_n 0, 1) := by decide +kernel
theorem dX9_takeWholeTurns_18 : decode cX9_takeWholeTurns 18 = .ok (.getfield 9, 3) := by decide +kernel
theorem dX9_takeWholeTurns_21 : decode cX9_takeWholeTurns 21 = .ok (.iload_n 3, 1) := by decide +kernel
theorem dX9_takeWholeTurns_22 : decode cX9_takeWholeTurns 22 = .ok (.laload, 1) := by decide +kernel
theorem dX9_takeWholeTurns_23 : decode cX9_takeWholeTurns 23 = .ok (.lastore, 1) := by decide +kernel
theorem dX9_takeWholeTurns_24 : decode cX9_takeWholeTurns 24 = .ok (.iinc 2 1, 3) := by decide +kernel
theorem dX9_takeWholeTurns_27 : decode cX9_takeWholeTurns 27 = .ok (.iload_n 2, 1) := by decide +kernel
theorem dX9_takeWholeTurns_28 : decode cX9_takeWholeTurns 28 = .ok (.iconst 4, 1) := by decide +kernel
theorem dX9_takeWholeTurns_29 : decode cX9_takeWholeTurns 29 = .ok (.if_icmp .lt 72, 3) := by decide +kernel
theorem dX9_takeWholeTurns_32 : decode cX9_takeWholeTurns 32 = .ok (.aload_n 0, 1) := by decide +kernel
theorem dX9_takeWholeTurns_33 : decode cX9_takeWholeTurns 33 = .ok (.iload_n 2, 1) := by decide +kernel
theorem dX9_takeWholeTurns_34 : decode cX9_takeWholeTurns 34 = .ok (.iconst 4, 1) := by decide +kernel
theorem dX9_takeWholeTurns_35 : decode cX9_takeWholeTurns 35 = .ok (.isub, 1) := by decide +kernel
theorem dX9_takeWholeTurns_36 : decode cX9_takeWholeTurns 36 = .ok (.invokevirtual 61, 3) := by decide +kernel
theorem dX9_takeWholeTurns_39 : decode cX9_takeWholeTurns 39 = .ok (.ifCond .eq 62, 3) := by decide +kernel
theorem dX9_takeWholeTurns_42 : decode cX9_takeWholeTurns 42 = .ok (.aload_n 0, 1) := by decide +kernel
theorem dX9_takeWholeTurns_43 : decode cX9_takeWholeTurns 43 = .ok (.dup, 1) := by decide +kernel
theorem dX9_takeWholeTurns_44 : decode cX9_takeWholeTurns 44 = .ok (.getfield 19, 3) := by decide +kernel
theorem dX9_takeWholeTurns_47 : decode cX9_takeWholeTurns 47 = .ok (.iconst 1, 1) := by decide +kernel
theorem dX9_takeWholeTurns_48 : decode cX9_takeWholeTurns 48 = .ok (.iadd, 1) := by decide +kernel
theorem dX9_takeWholeTurns_49 : decode cX9_takeWholeTurns 49 = .ok (.putfield 19, 3) := by decide +kernel
theorem dX9_takeWholeTurns_52 : decode cX9_takeWholeTurns 52 = .ok (.aload_n 0, 1) := by decide +kernel
theorem dX9_takeWholeTurns_53 : decode cX9_takeWholeTurns 53 = .ok (.dup, 1) := by decide +kernel
theorem dX9_takeWholeTurns_54 : decode cX9_takeWholeTurns 54 = .ok (.getfield 25, 3) := by decide +kernel
theorem dX9_takeWholeTurns_57 : decode cX9_takeWholeTurns 57 = .ok (.ldc2_w 65, 3) := by decide +kernel
theorem dX9_takeWholeTurns_60 : decode cX9_takeWholeTurns 60 = .ok (.aload_n 1, 1) := by decide +kernel
theorem dX9_takeWholeTurns_61 : decode cX9_takeWholeTurns 61 = .ok (.aload_n 0, 1) := by decide +kernel
theorem dX9_takeWholeTurns_62 : decode cX9_takeWholeTurns 62 = .ok (.iload_n 2, 1) := by decide +kernel
theorem dX9_takeWholeTurns_63 : decode cX9_takeWholeTurns 63 = .ok (.iconst 3, 1) := by decide +kernel
theorem dX9_takeWholeTurns_64 : decode cX9_takeWholeTurns 64 = .ok (.isub, 1) := by decide +kernel
theorem dX9_takeWholeTurns_65 : decode cX9_takeWholeTurns 65 = .ok (.invokevirtual 67, 3) := by decide +kernel
theorem dX9_takeWholeTurns_68 : decode cX9_takeWholeTurns 68 = .ok (.invokevirtual 71, 3) := by decide +kernel
theorem dX9_takeWholeTurns_71 : decode cX9_takeWholeTurns 71 = .ok (.invokestatic 77, 3) := by decide +kernel
theorem dX9_takeWholeTurns_74 : decode cX9_takeWholeTurns 74 = .ok (.lmul, 1) := by decide +kernel
theorem dX9_takeWholeTurns_75 : decode cX9_takeWholeTurns 75 = .ok (.ladd, 1) := by decide +kernel
theorem dX9_takeWholeTurns_76 : decode cX9_takeWholeTurns 76 = .ok (.putfield 25, 3) := by decide +kernel
theorem dX9_takeWholeTurns_79 : decode cX9_takeWholeTurns 79 = .ok (.aload_n 0, 1) := by decide +kernel
theorem dX9_takeWholeTurns_80 : decode cX9_takeWholeTurns 80 = .ok (.getfield 9, 3) := by decide +kernel
theorem dX9_takeWholeTurns_83 : decode cX9_takeWholeTurns 83 = .ok (.iload_n 2, 1) := by decide +kernel
theorem dX9_takeWholeTurns_84 : decode cX9_takeWholeTurns 84 = .ok (.iconst 3, 1) := by decide +kernel
theorem dX9_takeWholeTurns_85 : decode cX9_takeWholeTurns 85 = .ok (.isub, 1) := by decide +kernel
theorem dX9_takeWholeTurns_86 : decode cX9_takeWholeTurns 86 = .ok (.aload_n 0, 1) := by decide +kernel
theorem dX9_takeWholeTurns_87 : decode cX9_takeWholeTurns 87 = .ok (.getfield 9, 3) := by decide +kernel
theorem dX9_takeWholeTurns_90 : decode cX9_takeWholeTurns 90 = .ok (.iload_n 2, 1) := by decide +kernel
theorem dX9_takeWholeTurns_91 : decode cX9_takeWholeTurns 91 = .ok (.iconst 1, 1) := by decide +kernel
theorem dX9_takeWholeTurns_92 : decode cX9_takeWholeTurns 92 = .ok (.isub, 1) := by decide +kernel
theorem dX9_takeWholeTurns_93 : decode cX9_takeWholeTurns 93 = .ok (.laload, 1) := by decide +kernel
theorem dX9_takeWholeTurns_94 : decode cX9_takeWholeTurns 94 = .ok (.lastore, 1) := by decide +kernel
theorem dX9_takeWholeTurns_95 : decode cX9_takeWholeTurns 95 = .ok (.iinc 2 (-2), 3) := by decide +kernel
theorem dX9_takeWholeTurns_98 : decode cX9_takeWholeTurns 98 = .ok (.goto (-71), 3) := by decide +kernel
theorem dX9_takeWholeTurns_101 : decode cX9_takeWholeTurns 101 = .ok (.iinc 3 1, 3) := by decide +kernel
theorem dX9_takeWholeTurns_104 : decode cX9_takeWholeTurns 104 = .ok (.goto (-100), 3) := by decide +kernel
theorem dX9_takeWholeTurns_107 : decode cX9_takeWholeTurns 107 = .ok (.aload_n 0, 1) := by decide +kernel
theorem dX9_takeWholeTurns_108 : decode cX9_takeWholeTurns 108 = .ok (.iload_n 2, 1) := by decide +kernel
theorem dX9_takeWholeTurns_109 : decode cX9_takeWholeTurns 109 = .ok (.putfield 15, 3) := by decide +kernel
theorem dX9_takeWholeTurns_112 : decode cX9_takeWholeTurns 112 = .ok (.return_, 1) := by decide +kernel
theorem dX9_innerStepIsLeast_0 : decode cX9_innerStepIsLeast 0 = .ok (.aload_n 0, 1) := by decide +kernel
theorem dX9_innerStepIsLeast_1 : decode cX9_innerStepIsLeast 1 = .ok (.iload_n 1, 1) := by decide +kernel
theorem dX9_innerStepIsLeast_2 : decode cX9_innerStepIsLeast 2 = .ok (.iconst 1, 1) := by decide +kernel
theorem dX9_innerStepIsLeast_3 : decode cX9_innerStepIsLeast 3 = .ok (.iadd, 1) := by decide +kernel
theorem dX9_innerStepIsLeast_4 : decode cX9_innerStepIsLeast 4 = .ok (.invokevirtual 67, 3) := by decide +kernel
theorem dX9_innerStepIsLeast_7 : decode cX9_innerStepIsLeast 7 = .ok (.lstore_n 2, 1) := by decide +kernel
theorem dX9_innerStepIsLeast_8 : decode cX9_innerStepIsLeast 8 = .ok (.lload_n 2, 1) := by decide +kernel
theorem dX9_innerStepIsLeast_9 : decode cX9_innerStepIsLeast 9 = .ok (.aload_n 0, 1) := by decide +kernel
theorem dX9_innerStepIsLeast_10 : decode cX9_innerStepIsLeast 10 = .ok (.iload_n 1, 1) := by decide +kernel
theorem dX9_innerStepIsLeast_11 : decode cX9_innerStepIsLeast 11 = .ok (.invokevirtual 67, 3) := by decide +kernel
theorem dX9_innerStepIsLeast_14 : decode cX9_innerStepIsLeast 14 = .ok (.lcmp, 1) := by decide +kernel
theorem dX9_innerStepIsLeast_15 : decode cX9_innerStepIsLeast 15 = .ok (.ifCond .gt 19, 3) := by decide +kernel
theorem dX9_innerStepIsLeast_18 : decode cX9_innerStepIsLeast 18 = .ok (.lload_n 2, 1) := by decide +kernel
theorem dX9_innerStepIsLeast_19 : decode cX9_innerStepIsLeast 19 = .ok (.aload_n 0, 1) := by decide +kernel
theorem dX9_innerStepIsLeast_20 : decode cX9_innerStepIsLeast 20 = .ok (.iload_n 1, 1) := by decide +kernel
theorem dX9_innerStepIsLeast_21 : decode cX9_innerStepIsLeast 21 = .ok (.iconst 2, 1) := by decide +kernel
theorem dX9_innerStepIsLeast_22 : decode cX9_innerStepIsLeast 22 = .ok (.iadd, 1) := by decide +kernel
theorem dX9_innerStepIsLeast_23 : decode cX9_innerStepIsLeast 23 = .ok (.invokevirtual 67, 3) := by decide +kernel
theorem dX9_innerStepIsLeast_26 : decode cX9_innerStepIsLeast 26 = .ok (.lcmp, 1) := by decide +kernel
theorem dX9_innerStepIsLeast_27 : decode cX9_innerStepIsLeast 27 = .ok (.ifCond .gt 7, 3) := by decide +kernel
theorem dX9_innerStepIsLeast_30 : decode cX9_innerStepIsLeast 30 = .ok (.iconst 1, 1) := by decide +kernel
theorem dX9_innerStepIsLeast_31 : decode cX9_innerStepIsLeast 31 = .ok (.goto 4, 3) := by decide +kernel
theorem dX9_innerStepIsLeast_34 : decode cX9_innerStepIsLeast 34 = .ok (.iconst 0, 1) := by decide +kernel
theorem dX9_innerStepIsLeast_35 : decode cX9_innerStepIsLeast 35 = .ok (.ireturn, 1) := by decide +kernel
theorem dX9_takeHalfTurns_0 : decode cX9_takeHalfTurns 0 = .ok (.iconst 0, 1) := by decide +kernel
theorem dX9_takeHalfTurns_1 : decode cX9_takeHalfTurns 1 = .ok (.istore_n 2, 1) := by decide +kernel
theorem dX9_takeHalfTurns_2 : decode cX9_takeHalfTurns 2 = .ok (.iload_n 2, 1) := by decide +kernel
theorem dX9_takeHalfTurns_3 : decode cX9_takeHalfTurns 3 = .ok (.iconst 1, 1) := by decide +kernel
theorem dX9_takeHalfTurns_4 : decode cX9_takeHalfTurns 4 = .ok (.iadd, 1) := by decide +kernel
theorem dX9_takeHalfTurns_5 : decode cX9_takeHalfTurns 5 = .ok (.aload_n 0, 1) := by decide +kernel
theorem dX9_takeHalfTurns_6 : decode cX9_takeHalfTurns 6 = .ok (.getfield 15, 3) := by decide +kernel
theorem dX9_takeHalfTurns_9 : decode cX9_takeHalfTurns 9 = .ok (.if_icmp .ge 40, 3) := by decide +kernel
theorem dX9_takeHalfTurns_12 : decode cX9_takeHalfTurns 12 = .ok (.aload_n 0, 1) := by decide +kernel
theorem dX9_takeHalfTurns_13 : decode cX9_takeHalfTurns 13 = .ok (.dup, 1) := by decide +kernel
theorem dX9_takeHalfTurns_14 : decode cX9_takeHalfTurns 14 = .ok (.getfield 22, 3) := by decide +kernel
theorem dX9_takeHalfTurns_17 : decode cX9_takeHalfTurns 17 = .ok (.iconst 1, 1) := by decide +kernel
theorem dX9_takeHalfTurns_18 : decode cX9_takeHalfTurns 18 = .ok (.iadd, 1) := by decide +kernel
theorem dX9_takeHalfTurns_19 : decode cX9_takeHalfTurns 19 = .ok (.putfield 22, 3) := by decide +kernel
theorem dX9_takeHalfTurns_22 : decode cX9_takeHalfTurns 22 = .ok (.aload_n 0, 1) := by decide +kernel
theorem dX9_takeHalfTurns_23 : decode cX9_takeHalfTurns 23 = .ok (.dup, 1) := by decide +kernel
theorem dX9_takeHalfTurns_24 : decode cX9_takeHalfTurns 24 = .ok (.getfield 25, 3) := by decide +kernel
theorem dX9_takeHalfTurns_27 : decode cX9_takeHalfTurns 27 = .ok (.aload_n 1, 1) := by decide +kernel
theorem dX9_takeHalfTurns_28 : decode cX9_takeHalfTurns 28 = .ok (.aload_n 0, 1) := by decide +kernel
theorem dX9_takeHalfTurns_29 : decode cX9_takeHalfTurns 29 = .ok (.iload_n 2, 1) := by decide +kernel
theorem dX9_takeHalfTurns_30 : decode cX9_takeHalfTurns 30 = .ok (.invokevirtual 67, 3) := by decide +kernel
theorem dX9_takeHalfTurns_33 : decode cX9_takeHalfTurns 33 = .ok (.invokevirtual 71, 3) := by decide +kernel
theorem dX9_takeHalfTurns_36 : decode cX9_takeHalfTurns 36 = .ok (.invokestatic 77, 3) := by decide +kernel
theorem dX9_takeHalfTurns_39 : decode cX9_takeHalfTurns 39 = .ok (.ladd, 1) := by decide +kernel
theorem dX9_takeHalfTurns_40 : decode cX9_takeHalfTurns 40 = .ok (.putfield 25, 3) := by decide +kernel
theorem dX9_takeHalfTurns_43 : decode cX9_takeHalfTurns 43 = .ok (.iinc 2 1, 3) := by decide +kernel
theorem dX9_takeHalfTurns_46 : decode cX9_takeHalfTurns 46 = .ok (.goto (-44), 3) := by decide +kernel
theorem dX9_takeHalfTurns_49 : decode cX9_takeHalfTurns 49 = .ok (.return_, 1) := by decide +kernel
theorem dX9_step_0 : decode cX9_step 0 = .ok (.aload_n 0, 1) := by decide +kernel
theorem dX9_step_1 : decode cX9_step 1 = .ok (.getfield 9, 3) := by decide +kernel
theorem dX9_step_4 : decode cX9_step 4 = .ok (.iload_n 1, 1) := by decide +kernel
theorem dX9_step_5 : decode cX9_step 5 = .ok (.iconst 1, 1) := by decide +kernel
theorem dX9_step_6 : decode cX9_step 6 = .ok (.iadd, 1) := by decide +kernel
theorem dX9_step_7 : decode cX9_step 7 = .ok (.laload, 1) := by decide +kernel
theorem dX9_step_8 : decode cX9_step 8 = .ok (.aload_n 0, 1) := by decide +kernel
theorem dX9_step_9 : decode cX9_step 9 = .ok (.getfield 9, 3) := by decide +kernel
theorem dX9_step_12 : decode cX9_step 12 = .ok (.iload_n 1, 1) := by decide +kernel
theorem dX9_step_13 : decode cX9_step 13 = .ok (.laload, 1) := by decide +kernel
theorem dX9_step_14 : decode cX9_step 14 = .ok (.lsub, 1) := by decide +kernel
theorem dX9_step_15 : decode cX9_step 15 = .ok (.invokestatic 80, 3) := by decide +kernel
theorem dX9_step_18 : decode cX9_step 18 = .ok (.lreturn, 1) := by decide +kernel
theorem dX9_cube_0 : decode cX9_cube 0 = .ok (.lload_n 0, 1) := by decide +kernel
theorem dX9_cube_1 : decode cX9_cube 1 = .ok (.lload_n 0, 1) := by decide +kernel
theorem dX9_cube_2 : decode cX9_cube 2 = .ok (.lmul, 1) := by decide +kernel
theorem dX9_cube_3 : decode cX9_cube 3 = .ok (.lload_n 0, 1) := by decide +kernel
theorem dX9_cube_4 : decode cX9_cube 4 = .ok (.lmul, 1) := by decide +kernel
theorem dX9_cube_5 : decode cX9_cube 5 = .ok (.lreturn, 1) := by decide +kernel
theorem dX10_init_0 : decode cX10_init 0 = .ok (.aload_n 0, 1) := by decide +kernel
theorem dX10_init_1 : decode cX10_init 1 = .ok (.invokespecial 3, 3) := by decide +kernel
theorem dX10_init_4 : decode cX10_init 4 = .ok (.aload_n 0, 1) := by decide +kernel
theorem dX10_init_5 : decode cX10_init 5 = .ok (.bipush 6, 2) := by decide +kernel
theorem dX10_init_7 : decode cX10_init 7 = .ok (.anewarray 9, 3) := by decide +kernel
theorem dX10_init_10 : decode cX10_init 10 = .ok (.putfield 11, 3) := by decide +kernel
theorem dX10_init_13 : decode cX10_init 13 = .ok (.aload_n 0, 1) := by decide +kernel
theorem dX10_init_14 : decode cX10_init 14 = .ok (.iconst 0, 1) := by decide +kernel
theorem dX10_init_15 : decode cX10_init 15 = .ok (.putfield 15, 3) := by decide +kernel
theorem dX10_init_18 : decode cX10_init 18 = .ok (.aload_n 0, 1) := by decide +kernel
theorem dX10_init_19 : decode cX10_init 19 = .ok (.bipush 8, 2) := by decide +kernel
theorem dX10_init_21 : decode cX10_init 21 = .ok (.anewarray 19, 3) := by decide +kernel
theorem dX10_init_24 : decode cX10_init 24 = .ok (.putfield 21, 3) := by decide +kernel
theorem dX10_init_27 : decode cX10_init 27 = .ok (.aload_n 0, 1) := by decide +kernel
theorem dX10_init_28 : decode cX10_init 28 = .ok (.iconst 0, 1) := by decide +kernel
theorem dX10_init_29 : decode cX10_init 29 = .ok (.putfield 25, 3) := by decide +kernel
theorem dX10_init_32 : decode cX10_init 32 = .ok (.aload_n 0, 1) := by decide +kernel
theorem dX10_init_33 : decode cX10_init 33 = .ok (.iconst (-1), 1) := by decide +kernel
theorem dX10_init_34 : decode cX10_init 34 = .ok (.putfield 28, 3) := by decide +kernel
theorem dX10_init_37 : decode cX10_init 37 = .ok (.aload_n 0, 1) := by decide +kernel
theorem dX10_init_38 : decode cX10_init 38 = .ok (.new 31, 3) := by decide +kernel
theorem dX10_init_41 : decode cX10_init 41 = .ok (.dup, 1) := by decide +kernel
theorem dX10_init_42 : decode cX10_init 42 = .ok (.invokespecial 33, 3) := by decide +kernel
theorem dX10_init_45 : decode cX10_init 45 = .ok (.putfield 34, 3) := by decide +kernel
theorem dX10_init_48 : decode cX10_init 48 = .ok (.aload_n 0, 1) := by decide +kernel
theorem dX10_init_49 : decode cX10_init 49 = .ok (.new 38, 3) := by decide +kernel
theorem dX10_init_52 : decode cX10_init 52 = .ok (.dup, 1) := by decide +kernel
theorem dX10_init_53 : decode cX10_init 53 = .ok (.invokespecial 40, 3) := by decide +kernel
theorem dX10_init_56 : decode cX10_init 56 = .ok (.putfield 41, 3) := by decide +kernel
theorem dX10_init_59 : decode cX10_init 59 = .ok (.aload_n 0, 1) := by decide +kernel
theorem dX10_init_60 : decode cX10_init 60 = .ok (.new 45, 3) := by decide +kernel
theorem dX10_init_63 : decode cX10_init 63 = .ok (.dup, 1) := by decide +kernel
theorem dX10_init_64 : decode cX10_init 64 = .ok (.invokespecial 47, 3) := by decide +kernel
theorem dX10_init_67 : decode cX10_init 67 = .ok (.putfield 48, 3) := by decide +kernel
theorem dX10_init_70 : decode cX10_init 70 = .ok (.aload_n 0, 1) := by decide +kernel
theorem dX10_init_71 : decode cX10_init 71 = .ok (.new 52, 3) := by decide +kernel
theorem dX10_init_74 : decode cX10_init 74 = .ok (.dup, 1) := by decide +kernel
theorem dX10_init_75 : decode cX10_init 75 = .ok (.invokespecial 54, 3) := by decide +kernel
theorem dX10_init_78 : decode cX10_init 78 = .ok (.putfield 55, 3) := by decide +kernel
theorem dX10_init_81 : decode cX10_init 81 = .ok (.aload_n 0, 1) := by decide +kernel
theorem dX10_init_82 : decode cX10_init 82 = .ok (.new 59, 3) := by decide +kernel
theorem dX10_init_85 : decode cX10_init 85 = .ok (.dup, 1) := by decide +kernel
theorem dX10_init_86 : decode cX10_init 86 = .ok (.invokespecial 61, 3) := by decide +kernel
theorem dX10_init_89 : decode cX10_init 89 = .ok (.putfield 62, 3) := by decide +kernel
theorem dX10_init_92 : decode cX10_init 92 = .ok (.aload_n 0, 1) := by decide +kernel
theorem dX10_init_93 : decode cX10_init 93 = .ok (.new 66, 3) := by decide +kernel
theorem dX10_init_96 : decode cX10_init 96 = .ok (.dup, 1) := by decide +kernel
theorem dX10_init_97 : decode cX10_init 97 = .ok (.invokespecial 68, 3) := by decide +kernel
theorem dX10_init_100 : decode cX10_init 100 = .ok (.putfield 69, 3) := by decide +kernel
theorem dX10_init_103 : decode cX10_init 103 = .ok (.aload_n 0, 1) := by decide +kernel
theorem dX10_init_104 : decode cX10_init 104 = .ok (.new 73, 3) := by decide +kernel
theorem dX10_init_107 : decode cX10_init 107 = .ok (.dup, 1) := by decide +kernel
theorem dX10_init_108 : decode cX10_init 108 = .ok (.invokespecial 75, 3) := by decide +kernel
theorem dX10_init_111 : decode cX10_init 111 = .ok (.putfield 76, 3) := by decide +kernel
theorem dX10_init_114 : decode cX10_init 114 = .ok (.aload_n 0, 1) := by decide +kernel
theorem dX10_init_115 : decode cX10_init 115 = .ok (.new 19, 3) := by decide +kernel
theorem dX10_init_118 : decode cX10_init 118 = .ok (.dup, 1) := by decide +kernel
theorem dX10_init_119 : decode cX10_init 119 = .ok (.invokespecial 80, 3) := by decide +kernel
theorem dX10_init_122 : decode cX10_init 122 = .ok (.putfield 81, 3) := by decide +kernel
theorem dX10_init_125 : decode cX10_init 125 = .ok (.aload_n 0, 1) := by decide +kernel
theorem dX10_init_126 : decode cX10_init 126 = .ok (.bipush 6, 2) := by decide +kernel
theorem dX10_init_128 : decode cX10_init 128 = .ok (.newarray .int, 2) := by decide +kernel
theorem dX10_init_130 : decode cX10_init 130 = .ok (.putfield 85, 3) := by decide +kernel
theorem dX10_init_133 : decode cX10_init 133 = .ok (.return_, 1) := by decide +kernel
theorem dX10_bridge_0 : decode cX10_bridge 0 = .ok (.iload_n 1, 1) := by decide +kernel
theorem dX10_bridge_1 : decode cX10_bridge 1 = .ok (.lload_n 2, 1) := by decide +kernel
theorem dX10_bridge_2 : decode cX10_bridge 2 = .ok (.lload 4, 2) := by decide +kernel
theorem dX10_bridge_4 : decode cX10_bridge 4 = .ok (.invokestatic 89, 3) := by decide +kernel
theorem dX10_bridge_7 : decode cX10_bridge 7 = .ok (.ifCond .ne 7, 3) := by decide +kernel
theorem dX10_bridge_10 : decode cX10_bridge 10 = .ok (.sipush (-1002), 3) := by decide +kernel
theorem dX10_bridge_13 : decode cX10_bridge 13 = .ok (.ireturn, 1) := by decide +kernel
theorem dX10_bridge_14 : decode cX10_bridge 14 = .ok (.lload_n 2, 1) := by decide +kernel
theorem dX10_bridge_15 : decode cX10_bridge 15 = .ok (.invokestatic 93, 3) := by decide +kernel
theorem dX10_bridge_18 : decode cX10_bridge 18 = .ok (.astore 6, 2) := by decide +kernel
theorem dX10_bridge_20 : decode cX10_bridge 20 = .ok (.lload 4, 2) := by decide +kernel
theorem dX10_bridge_22 : decode cX10_bridge 22 = .ok (.invokestatic 93, 3) := by decide +kernel
theorem dX10_bridge_25 : decode cX10_bridge 25 = .ok (.astore 7, 2) := by decide +kernel
theorem dX10_bridge_27 : decode cX10_bridge 27 = .ok (.aload_n 0, 1) := by decide +kernel
theorem dX10_bridge_28 : decode cX10_bridge 28 = .ok (.getfield 41, 3) := by decide +kernel
theorem dX10_bridge_31 : decode cX10_bridge 31 = .ok (.iload_n 1, 1) := by decide +kernel
theorem dX10_bridge_32 : decode cX10_bridge 32 = .ok (.aload 6, 2) := by decide +kernel
theorem dX10_bridge_34 : decode cX10_bridge 34 = .ok (.aload 7, 2) := by decide +kernel
theorem dX10_bridge_36 : decode cX10_bridge 36 = .ok (.invokevirtual 97, 3) := by decide +kernel
theorem dX10_bridge_39 : decode cX10_bridge 39 = .ok (.ifCond .ne 7, 3) := by decide +kernel
theorem dX10_bridge_42 : decode cX10_bridge 42 = .ok (.sipush (-1003), 3) := by decide +kernel
theorem dX10_bridge_45 : decode cX10_bridge 45 = .ok (.ireturn, 1) := by decide +kernel
theorem dX10_bridge_46 : decode cX10_bridge 46 = .ok (.aload_n 0, 1) := by decide +kernel
theorem dX10_bridge_47 : decode cX10_bridge 47 = .ok (.getfield 15, 3) := by decide +kernel
theorem dX10_bridge_50 : decode cX10_bridge 50 = .ok (.bipush 6, 2) := by decide +kernel
theorem dX10_bridge_52 : decode cX10_bridge 52 = .ok (.if_icmp .lt 7, 3) := by decide +kernel
theorem dX10_bridge_55 : decode cX10_bridge 55 = .ok (.sipush (-1004), 3) := by decide +kernel
theorem dX10_bridge_58 : decode cX10_bridge 58 = .ok (.ireturn, 1) := by decide +kernel
theorem dX10_bridge_59 : decode cX10_bridge 59 = .ok (.aload_n 0, 1) := by decide +kernel
theorem dX10_bridge_60 : decode cX10_bridge 60 = .ok (.getfield 11, 3) := by decide +kernel
theorem dX10_bridge_63 : decode cX10_bridge 63 = .ok (.aload_n 0, 1) := by decide +kernel
theorem dX10_bridge_64 : decode cX10_bridge 64 = .ok (.getfield 15, 3) := by decide +kernel
theorem dX10_bridge_67 : decode cX10_bridge 67 = .ok (.new 9, 3) := by decide +kernel
theorem dX10_bridge_70 : decode cX10_bridge 70 = .ok (.dup, 1) := by decide +kernel
theorem dX10_bridge_71 : decode cX10_bridge 71 = .ok (.iload_n 1, 1) := by decide +kernel
theorem dX10_bridge_72 : decode cX10_bridge 72 = .ok (.aload 6, 2) := by decide +kernel
theorem dX10_bridge_74 : decode cX10_bridge 74 = .ok (.aload 7, 2) := by decide +kernel
theorem dX10_bridge_76 : decode cX10_bridge 76 = .ok (.arraylength, 1) := by decide +kernel
theorem dX10_bridge_77 : decode cX10_bridge 77 = .ok (.aload_n 0, 1) := by decide +kernel
theorem dX10_bridge_78 : decode cX10_bridge 78 = .ok (.getfield 41, 3) := by decide +kernel
theorem dX10_bridge_81 : decode cX10_bridge 81 = .ok (.invokespecial 101, 3) := by decide +kernel
theorem dX10_bridge_84 : decode cX10_bridge 84 = .ok (.aastore, 1) := by decide +kernel
theorem dX10_bridge_85 : decode cX10_bridge 85 = .ok (.aload_n 0, 1) := by decide +kernel
theorem dX10_bridge_86 : decode cX10_bridge 86 = .ok (.dup, 1) := by decide +kernel
theorem dX10_bridge_87 : decode cX10_bridge 87 = .ok (.getfield 15, 3) := by decide +kernel
theorem dX10_bridge_90 : decode cX10_bridge 90 = .ok (.iconst 1, 1) := by decide +kernel
theorem dX10_bridge_91 : decode cX10_bridge 91 = .ok (.iadd, 1) := by decide +kernel
theorem dX10_bridge_92 : decode cX10_bridge 92 = .ok (.putfield 15, 3) := by decide +kernel
theorem dX10_bridge_95 : decode cX10_bridge 95 = .ok (.aload_n 0, 1) := by decide +kernel
theorem dX10_bridge_96 : decode cX10_bridge 96 = .ok (.getfield 15, 3) := by decide +kernel
theorem dX10_bridge_99 : decode cX10_bridge 99 = .ok (.iconst 1, 1) := by decide +kernel
theorem dX10_bridge_100 : decode cX10_bridge 100 = .ok (.isub, 1) := by decide +kernel
theorem dX10_bridge_101 : decode cX10_bridge 101 = .ok (.ireturn, 1) := by decide +kernel
theorem dX10_told_0 : decode cX10_told 0 = .ok (.aload_n 0, 1) := by decide +kernel
theorem dX10_told_1 : decode cX10_told 1 = .ok (.iload_n 1, 1) := by decide +kernel
theorem dX10_told_2 : decode cX10_told 2 = .ok (.invokevirtual 104, 3) := by decide +kernel
theorem dX10_told_5 : decode cX10_told 5 = .ok (.astore_n 3, 1) := by decide +kernel
theorem dX10_told_6 : decode cX10_told 6 = .ok (.aload_n 3, 1) := by decide +kernel
theorem dX10_told_7 : decode cX10_told 7 = .ok (.ifnonnull 7, 3) := by decide +kernel
theorem dX10_told_10 : decode cX10_told 10 = .ok (.sipush (-1001), 3) := by decide +kernel
theorem dX10_told_13 : decode cX10_told 13 = .ok (.ireturn, 1) := by decide +kernel
theorem dX10_told_14 : decode cX10_told 14 = .ok (.iload_n 2, 1) := by decide +kernel
theorem dX10_told_15 : decode cX10_told 15 = .ok (.tableswitch 83 0 6 #[41, 46, 52, 57, 62, 69, 76], 41) := by decide +kernel
theorem dX10_told_56 : decode cX10_told 56 = .ok (.aload_n 3, 1) := by decide +kernel
theorem dX10_told_57 : decode cX10_told 57 = .ok (.getfield 108, 3) := by decide +kernel
theorem dX10_told_60 : decode cX10_told 60 = .ok (.ireturn, 1) := by decide +kernel
theorem dX10_told_61 : decode cX10_told 61 = .ok (.aload_n 3, 1) := by decide +kernel
theorem dX10_told_62 : decode cX10_told 62 = .ok (.getfield 111, 3) := by decide +kernel
theorem dX10_told_65 : decode cX10_told 65 = .ok (.arraylength, 1) := by decide +kernel
theorem dX10_told_66 : decode cX10_told 66 = .ok (.ireturn, 1) := by decide +kernel
theorem dX10_told_67 : decode cX10_told 67 = .ok (.aload_n 3, 1) := by decide +kernel
theorem dX10_told_68 : decode cX10_told 68 = .ok (.getfield 114, 3) := by decide +kernel
theorem dX10_told_71 : decode cX10_told 71 = .ok (.ireturn, 1) := by decide +kernel
theorem dX10_told_72 : decode cX10_told 72 = .ok (.aload_n 3, 1) := by decide +kernel
theorem dX10_told_73 : decode cX10_told 73 = .ok (.getfield 117, 3) := by decide +kernel
theorem dX10_told_76 : decode cX10_told 76 = .ok (.ireturn, 1) := by decide +kernel
theorem dX10_told_77 : decode cX10_told 77 = .ok (.aload_n 3, 1) := by decide +kernel
theorem dX10_told_78 : decode cX10_told 78 = .ok (.getfield 120, 3) := by decide +kernel
theorem dX10_told_81 : decode cX10_told 81 = .ok (.iconst 0, 1) := by decide +kernel
theorem dX10_told_82 : decode cX10_told 82 = .ok (.iaload, 1) := by decide +kernel
theorem dX10_told_83 : decode cX10_told 83 = .ok (.ireturn, 1) := by decide +kernel
theorem dX10_told_84 : decode cX10_told 84 = .ok (.aload_n 3, 1) := by decide +kernel
theorem dX10_told_85 : decode cX10_told 85 = .ok (.getfield 120, 3) := by decide +kernel
theorem dX10_told_88 : decode cX10_told 88 = .ok (.iconst 1, 1) := by decide +kernel
theorem dX10_told_89 : decode cX10_told 89 = .ok (.iaload, 1) := by decide +kernel
theorem dX10_told_90 : decode cX10_told 90 = .ok (.ireturn, 1) := by decide +kernel
theorem dX10_told_91 : decode cX10_told 91 = .ok (.aload_n 3, 1) := by decide +kernel
theorem dX10_told_92 : decode cX10_told 92 = .ok (.getfield 120, 3) := by decide +kernel
theorem dX10_told_95 : decode cX10_told 95 = .ok (.iconst 2, 1) := by decide +kernel
theorem dX10_told_96 : decode cX10_told 96 = .ok (.iaload, 1) := by decide +kernel
theorem dX10_told_97 : decode cX10_told 97 = .ok (.ireturn, 1) := by decide +kernel
theorem dX10_told_98 : decode cX10_told 98 = .ok (.sipush (-1002), 3) := by decide +kernel
theorem dX10_told_101 : decode cX10_told 101 = .ok (.ireturn, 1) := by decide +kernel
theorem dX10_influence_0 : decode cX10_influence 0 = .ok (.aload_n 0, 1) := by decide +kernel
theorem dX10_influence_1 : decode cX10_influence 1 = .ok (.iload_n 1, 1) := by decide +kernel
theorem dX10_influence_2 : decode cX10_influence 2 = .ok (.invokevirtual 104, 3) := by decide +kernel
theorem dX10_influence_5 : decode cX10_influence 5 = .ok (.astore 6, 2) := by decide +kernel
theorem dX10_influence_7 : decode cX10_influence 7 = .ok (.aload 6, 2) := by decide +kernel
theorem dX10_influence_9 : decode cX10_influence 9 = .ok (.ifnull 13, 3) := by decide +kernel
theorem dX10_influence_12 : decode cX10_influence 12 = .ok (.aload 6, 2) := by decide +kernel
theorem dX10_influence_14 : decode cX10_influence 14 = .ok (.iload_n 2, 1) := by decide +kernel
theorem dX10_influence_15 : decode cX10_influence 15 = .ok (.iload_n 3, 1) := by decide +kernel
theorem dX10_influence_16 : decode cX10_influence 16 = .ok (.invokevirtual 123, 3) := by decide +kernel
theorem dX10_influence_19 : decode cX10_influence 19 = .ok (.ifCond .eq 7, 3) := by decide +kernel
theorem dX10_influence_22 : decode cX10_influence 22 = .ok (.ldc2_w 127, 3) := by decide +kernel
theorem dX10_influence_25 : decode cX10_influence 25 = .ok (.lreturn, 1) := by decide +kernel
theorem dX10_influence_26 : decode cX10_influence 26 = .ok (.aload 6, 2) := by decide +kernel
theorem dX10_influence_28 : decode cX10_influence 28 = .ok (.iload_n 2, 1) := by decide +kernel
theorem dX10_influence_29 : decode cX10_influence 29 = .ok (.iload_n 3, 1) := by decide +kernel
theorem dX10_influence_30 : decode cX10_influence 30 = .ok (.invokevirtual 129, 3) := by decide +kernel
theorem dX10_influence_33 : decode cX10_influence 33 = .ok (.ifCond .eq 27, 3) := by decide +kernel
theorem dX10_influence_36 : decode cX10_influence 36 = .ok (.iload 4, 2) := by decide +kernel
theorem dX10_influence_38 : decode cX10_influence 38 = .ok (.iconst 0, 1) := by decide +kernel
theorem dX10_influence_39 : decode cX10_influence 39 = .ok (.aload 6, 2) := by decide +kernel
theorem dX10_influence_41 : decode cX10_influence 41 = .ok (.getfield 108, 3) := by decide +kernel
theorem dX10_influence_44 : decode cX10_influence 44 = .ok (.invokestatic 132, 3) := by decide +kernel
theorem dX10_influence_47 : decode cX10_influence 47 = .ok (.ifCond .eq 13, 3) := by decide +kernel
theorem dX10_influence_50 : decode cX10_influence 50 = .ok (.iload 5, 2) := by decide +kernel
theorem dX10_influence_52 : decode cX10_influence 52 = .ok (.iconst 0, 1) := by decide +kernel
theorem dX10_influence_53 : decode cX10_influence 53 = .ok (.iconst 1, 1) := by decide +kernel
theorem dX10_influence_54 : decode cX10_influence 54 = .ok (.invokestatic 132, 3) := by decide +kernel
theorem dX10_influence_57 : decode cX10_influence 57 = .ok (.ifCond .ne 7, 3) := by decide +kernel
theorem dX10_influence_60 : decode cX10_influence 60 = .ok (.ldc2_w 136, 3) := by decide +kernel
theorem dX10_influence_63 : decode cX10_influence 63 = .ok (.lreturn, 1) := by decide +kernel
theorem dX10_influence_64 : decode cX10_influence 64 = .ok (.aload_n 0, 1) := by decide +kernel
theorem dX10_influence_65 : decode cX10_influence 65 = .ok (.getfield 48, 3) := by decide +kernel
theorem dX10_influence_68 : decode cX10_influence 68 = .ok (.aload 6, 2) := by decide +kernel
theorem dX10_influence_70 : decode cX10_influence 70 = .ok (.iload_n 2, 1) := by decide +kernel
theorem dX10_influence_71 : decode cX10_influence 71 = .ok (.iload_n 3, 1) := by decide +kernel
theorem dX10_influence_72 : decode cX10_influence 72 = .ok (.invokevirtual 138, 3) := by decide +kernel
theorem dX10_influence_75 : decode cX10_influence 75 = .ok (.aload_n 0, 1) := by decide +kernel
theorem dX10_influence_76 : decode cX10_influence 76 = .ok (.getfield 48, 3) := by decide +kernel
theorem dX10_influence_79 : decode cX10_influence 79 = .ok (.getfield 142, 3) := by decide +kernel
theorem dX10_influence_82 : decode cX10_influence 82 = .ok (.iload 4, 2) := by decide +kernel
theorem dX10_influence_84 : decode cX10_influence 84 = .ok (.laload, 1) := by decide +kernel
theorem dX10_influence_85 : decode cX10_influence 85 = .ok (.aload_n 0, 1) := by decide +kernel
theorem dX10_influence_86 : decode cX10_influence 86 = .ok (.getfield 48, 3) := by decide +kernel
theorem dX10_influence_89 : decode cX10_influence 89 = .ok (.getfield 146, 3) := by decide +kernel
theorem dX10_influence_92 : decode cX10_influence 92 = .ok (.iload 5, 2) := by decide +kernel
theorem dX10_influence_94 : decode cX10_influence 94 = .ok (.invokestatic 150, 3) := by decide +kernel
theorem dX10_influence_97 : decode cX10_influence 97 = .ok (.lreturn, 1) := by decide +kernel
theorem dX10_rule_0 : decode cX10_rule 0 = .ok (.aload_n 0, 1) := by decide +kernel
theorem dX10_rule_1 : decode cX10_rule 1 = .ok (.iload_n 1, 1) := by decide +kernel
theorem dX10_rule_2 : decode cX10_rule 2 = .ok (.invokevirtual 104, 3) := by decide +kernel
theorem dX10_rule_5 : decode cX10_rule 5 = .ok (.astore 4, 2) := by decide +kernel
theorem dX10_rule_7 : decode cX10_rule 7 = .ok (.aload 4, 2) := by decide +kernel
theorem dX10_rule_9 : decode cX10_rule 9 = .ok (.ifnonnull 7, 3) := by decide +kernel
theorem dX10_rule_12 : decode cX10_rule 12 = .ok (.sipush (-1001), 3) := by decide +kernel
theorem dX10_rule_15 : decode cX10_rule 15 = .ok (.ireturn, 1) := by decide +kernel
theorem dX10_rule_16 : decode cX10_rule 16 = .ok (.iload_n 2, 1) := by decide +kernel
theorem dX10_rule_17 : decode cX10_rule 17 = .ok (.iconst 0, 1) := by decide +kernel
theorem dX10_rule_18 : decode cX10_rule 18 = .ok (.iconst 2, 1) := by decide +kernel
theorem dX10_rule_19 : decode cX10_rule 19 = .ok (.invokestatic 132, 3) := by decide +kernel
theorem dX10_rule_22 : decode cX10_rule 22 = .ok (.ifCond .eq 20, 3) := by decide +kernel
theorem dX10_rule_25 : decode cX10_rule 25 = .ok (.iload_n 3, 1) := by decide +kernel
theorem dX10_rule_26 : decode cX10_rule 26 = .ok (.getstatic 154, 3) := by decide +kernel
theorem dX10_rule_29 : decode cX10_rule 29 = .ok (.iload_n 2, 1) := by decide +kernel
theorem dX10_rule_30 : decode cX10_rule 30 = .ok (.iaload, 1) := by decide +kernel
theorem dX10_rule_31 : decode cX10_rule 31 = .ok (.getstatic 157, 3) := by decide +kernel
theorem dX10_rule_34 : decode cX10_rule 34 = .ok (.iload_n 2, 1) := by decide +kernel
theorem dX10_rule_35 : decode cX10_rule 35 = .ok (.iaload, 1) := by decide +kernel
theorem dX10_rule_36 : decode cX10_rule 36 = .ok (.invokestatic 132, 3) := by decide +kernel
theorem dX10_rule_39 : decode cX10_rule 39 = .ok (.ifCond .ne 7, 3) := by decide +kernel
theorem dX10_rule_42 : decode cX10_rule 42 = .ok (.sipush (-1002), 3) := by decide +kernel
theorem dX10_rule_45 : decode cX10_rule 45 = .ok (.ireturn, 1) := by decide +kernel
theorem dX10_rule_46 : decode cX10_rule 46 = .ok (.aload 4, 2) := by decide +kernel
theorem dX10_rule_48 : decode cX10_rule 48 = .ok (.getfield 120, 3) := by decide +kernel
theorem dX10_rule_51 : decode cX10_rule 51 = .ok (.iload_n 2, 1) := by decide +kernel
theorem dX10_rule_52 : decode cX10_rule 52 = .ok (.iaload, 1) := by decide +kernel
theorem dX10_rule_53 : decode cX10_rule 53 = .ok (.istore 5, 2) := by decide +kernel
theorem dX10_rule_55 : decode cX10_rule 55 = .ok (.aload 4, 2) := by decide +kernel
theorem dX10_rule_57 : decode cX10_rule 57 = .ok (.getfield 120, 3) := by decide +kernel
theorem dX10_rule_60 : decode cX10_rule 60 = .ok (.iload_n 2, 1) := by decide +kernel
theorem dX10_rule_61 : decode cX10_rule 61 = .ok (.iload_n 3, 1) := by decide +kernel
theorem dX10_rule_62 : decode cX10_rule 62 = .ok (.iastore, 1) := by decide +kernel
theorem dX10_rule_63 : decode cX10_rule 63 = .ok (.iload 5, 2) := by decide +kernel
theorem dX10_rule_65 : decode cX10_rule 65 = .ok (.ireturn, 1) := by decide +kernel
theorem dX10_train_0 : decode cX10_train 0 = .ok (.iload_n 1, 1) := by decide +kernel
theorem dX10_train_1 : decode cX10_train 1 = .ok (.iconst 1, 1) := by decide +kernel
theorem dX10_train_2 : decode cX10_train 2 = .ok (.sipush 200, 3) := by decide +kernel
theorem dX10_train_5 : decode cX10_train 5 = .ok (.invokestatic 132, 3) := by decide +kernel
theorem dX10_train_8 : decode cX10_train 8 = .ok (.ifCond .ne 7, 3) := by decide +kernel
theorem dX10_train_11 : decode cX10_train 11 = .ok (.sipush (-1002), 3) := by decide +kernel
theorem dX10_train_14 : decode cX10_train 14 = .ok (.ireturn, 1) := by decide +kernel
theorem dX10_train_15 : decode cX10_train 15 = .ok (.aload_n 0, 1) := by decide +kernel
theorem dX10_train_16 : decode cX10_train 16 = .ok (.getfield 25, 3) := by decide +kernel
theorem dX10_train_19 : decode cX10_train 19 = .ok (.bipush 8, 2) := by decide +kernel
theorem dX10_train_21 : decode cX10_train 21 = .ok (.if_icmp .lt 7, 3) := by decide +kernel
theorem dX10_train_24 : decode cX10_train 24 = .ok (.sipush (-1004), 3) := by decide +kernel
theorem dX10_train_27 : decode cX10_train 27 = .ok (.ireturn, 1) := by decide +kernel
theorem dX10_train_28 : decode cX10_train 28 = .ok (.new 19, 3) := by decide +kernel
theorem dX10_train_31 : decode cX10_train 31 = .ok (.dup, 1) := by decide +kernel
theorem dX10_train_32 : decode cX10_train 32 = .ok (.invokespecial 80, 3) := by decide +kernel
theorem dX10_train_35 : decode cX10_train 35 = .ok (.astore_n 2, 1) := by decide +kernel
theorem dX10_train_36 : decode cX10_train 36 = .ok (.aload_n 2, 1) := by decide +kernel
theorem dX10_train_37 : decode cX10_train 37 = .ok (.iconst 0, 1) := by decide +kernel
theorem dX10_train_38 : decode cX10_train 38 = .ok (.iload_n 1, 1) := by decide +kernel
theorem dX10_train_39 : decode cX10_train 39 = .ok (.invokevirtual 160, 3) := by decide +kernel
theorem dX10_train_42 : decode cX10_train 42 = .ok (.pop, 1) := by decide +kernel
theorem dX10_train_43 : decode cX10_train 43 = .ok (.aload_n 0, 1) := by decide +kernel
theorem dX10_train_44 : decode cX10_train 44 = .ok (.getfield 21, 3) := by decide +kernel
theorem dX10_train_47 : decode cX10_train 47 = .ok (.aload_n 0, 1) := by decide +kernel
theorem dX10_train_48 : decode cX10_train 48 = .ok (.getfield 25, 3) := by decide +kernel
theorem dX10_train_51 : decode cX10_train 51 = .ok (.aload_n 2, 1) := by decide +kernel
theorem dX10_train_52 : decode cX10_train 52 = .ok (.aastore, 1) := by decide +kernel
theorem dX10_train_53 : decode cX10_train 53 = .ok (.aload_n 0, 1) := by decide +kernel
theorem dX10_train_54 : decode cX10_train 54 = .ok (.dup, 1) := by decide +kernel
theorem dX10_train_55 : decode cX10_train 55 = .ok (.getfield 25, 3) := by decide +kernel
theorem dX10_train_58 : decode cX10_train 58 = .ok (.iconst 1, 1) := by decide +kernel
theorem dX10_train_59 : decode cX10_train 59 = .ok (.iadd, 1) := by decide +kernel
theorem dX10_train_60 : decode cX10_train 60 = .ok (.putfield 25, 3) := by decide +kernel
theorem dX10_train_63 : decode cX10_train 63 = .ok (.aload_n 0, 1) := by decide +kernel
theorem dX10_train_64 : decode cX10_train 64 = .ok (.getfield 25, 3) := by decide +kernel
theorem dX10_train_67 : decode cX10_train 67 = .ok (.iconst 1, 1) := by decide +kernel
theorem dX10_train_68 : decode cX10_train 68 = .ok (.isub, 1) := by decide +kernel
theorem dX10_train_69 : decode cX10_train 69 = .ok (.ireturn, 1) := by decide +kernel
theorem dX10_axle_0 : decode cX10_axle 0 = .ok (.aload_n 0, 1) := by decide +kernel
theorem dX10_axle_1 : decode cX10_axle 1 = .ok (.iload_n 1, 1) := by decide +kernel
theorem dX10_axle_2 : decode cX10_axle 2 = .ok (.invokevirtual 163, 3) := by decide +kernel
theorem dX10_axle_5 : decode cX10_axle 5 = .ok (.astore 4, 2) := by decide +kernel
theorem dX10_axle_7 : decode cX10_axle 7 = .ok (.aload 4, 2) := by decide +kernel
theorem dX10_axle_9 : decode cX10_axle 9 = .ok (.ifnonnull 7, 3) := by decide +kernel
theorem dX10_axle_12 : decode cX10_axle 12 = .ok (.sipush (-1001), 3) := by decide +kernel
theorem dX10_axle_15 : decode cX10_axle 15 = .ok (.ireturn, 1) := by decide +kernel
theorem dX10_axle_16 : decode cX10_axle 16 = .ok (.iload_n 2, 1) := by decide +kernel
theorem dX10_axle_17 : decode cX10_axle 17 = .ok (.iconst 1, 1) := by decide +kernel
theorem dX10_axle_18 : decode cX10_axle 18 = .ok (.bipush 20, 2) := by decide +kernel
theorem dX10_axle_20 : decode cX10_axle 20 = .ok (.invokestatic 132, 3) := by decide +kernel
theorem dX10_axle_23 : decode cX10_axle 23 = .ok (.ifCond .eq 14, 3) := by decide +kernel
theorem dX10_axle_26 : decode cX10_axle 26 = .ok (.iload_n 3, 1) := by decide +kernel
theorem dX10_axle_27 : decode cX10_axle 27 = .ok (.iconst 1, 1) := by decide +kernel
theorem dX10_axle_28 : decode cX10_axle 28 = .ok (.sipush 200, 3) := by decide +kernel
theorem dX10_axle_31 : decode cX10_axle 31 = .ok (.invokestatic 132, 3) := by decide +kernel
theorem dX10_axle_34 : decode cX10_axle 34 = .ok (.ifCond .ne 7, 3) := by decide +kernel
theorem dX10_axle_37 : decode cX10_axle 37 = .ok (.sipush (-1002), 3) := by decide +kernel
theorem dX10_axle_40 : decode cX10_axle 40 = .ok (.ireturn, 1) := by decide +kernel
theorem dX10_axle_41 : decode cX10_axle 41 = .ok (.aload 4, 2) := by decide +kernel
theorem dX10_axle_43 : decode cX10_axle 43 = .ok (.iload_n 2, 1) := by decide +kernel
theorem dX10_axle_44 : decode cX10_axle 44 = .ok (.iload_n 3, 1) := by decide +kernel
theorem dX10_axle_45 : decode cX10_axle 45 = .ok (.invokevirtual 160, 3) := by decide +kernel
theorem dX10_axle_48 : decode cX10_axle 48 = .ok (.ifCond .ne 7, 3) := by decide +kernel
theorem dX10_axle_51 : decode cX10_axle 51 = .ok (.sipush (-1004), 3) := by decide +kernel
theorem dX10_axle_54 : decode cX10_axle 54 = .ok (.ireturn, 1) := by decide +kernel
theorem dX10_axle_55 : decode cX10_axle 55 = .ok (.aload 4, 2) := by decide +kernel
theorem dX10_axle_57 : decode cX10_axle 57 = .ok (.getfield 167, 3) := by decide +kernel
theorem dX10_axle_60 : decode cX10_axle 60 = .ok (.ireturn, 1) := by decide +kernel
theorem dX10_axles_0 : decode cX10_axles 0 = .ok (.aload_n 0, 1) := by decide +kernel
theorem dX10_axles_1 : decode cX10_axles 1 = .ok (.iload_n 1, 1) := by decide +kernel
theorem dX10_axles_2 : decode cX10_axles 2 = .ok (.invokevirtual 163, 3) := by decide +kernel
theorem dX10_axles_5 : decode cX10_axles 5 = .ok (.astore 4, 2) := by decide +kernel
theorem dX10_axles_7 : decode cX10_axles 7 = .ok (.aload 4, 2) := by decide +kernel
theorem dX10_axles_9 : decode cX10_axles 9 = .ok (.ifnonnull 7, 3) := by decide +kernel
theorem dX10_axles_12 : decode cX10_axles 12 = .ok (.sipush (-1001), 3) := by decide +kernel
theorem dX10_axles_15 : decode cX10_axles 15 = .ok (.ireturn, 1) := by decide +kernel
theorem dX10_axles_16 : decode cX10_axles 16 = .ok (.iload_n 3, 1) := by decide +kernel
theorem dX10_axles_17 : decode cX10_axles 17 = .ok (.iconst 0, 1) := by decide +kernel
theorem dX10_axles_18 : decode cX10_axles 18 = .ok (.iconst 1, 1) := by decide +kernel
theorem dX10_axles_19 : decode cX10_axles 19 = .ok (.invokestatic 132, 3) := by decide +kernel
theorem dX10_axles_22 : decode cX10_axles 22 = .ok (.ifCond .ne 7, 3) := by decide +kernel
theorem dX10_axles_25 : decode cX10_axles 25 = .ok (.sipush (-1002), 3) := by decide +kernel
theorem dX10_axles_28 : decode cX10_axles 28 = .ok (.ireturn, 1) := by decide +kernel
theorem dX10_axles_29 : decode cX10_axles 29 = .ok (.iload_n 2, 1) := by decide +kernel
theorem dX10_axles_30 : decode cX10_axles 30 = .ok (.iconst (-1), 1) := by decide +kernel
theorem dX10_axles_31 : decode cX10_axles 31 = .ok (.if_icmp .ne 21, 3) := by decide +kernel
theorem dX10_axles_34 : decode cX10_axles 34 = .ok (.iload_n 3, 1) := by decide +kernel
theorem dX10_axles_35 : decode cX10_axles 35 = .ok (.ifCond .ne 11, 3) := by decide +kernel
theorem dX10_axles_38 : decode cX10_axles 38 = .ok (.aload 4, 2) := by decide +kernel
theorem dX10_axles_40 : decode cX10_axles 40 = .ok (.getfield 167, 3) := by decide +kernel
theorem dX10_axles_43 : decode cX10_axles 43 = .ok (.goto 8, 3) := by decide +kernel
theorem dX10_axles_46 : decode cX10_axles 46 = .ok (.aload 4, 2) := by decide +kernel
theorem dX10_axles_48 : decode cX10_axles 48 = .ok (.invokevirtual 170, 3) := by decide +kernel
theorem dX10_axles_51 : decode cX10_axles 51 = .ok (.ireturn, 1) := by decide +kernel
theorem dX10_axles_52 : decode cX10_axles 52 = .ok (.iload_n 2, 1) := by decide +kernel
theorem dX10_axles_53 : decode cX10_axles 53 = .ok (.iconst 0, 1) := by decide +kernel
theorem dX10_axles_54 : decode cX10_axles 54 = .ok (.aload 4, 2) := by decide +kernel
theorem dX10_axles_56 : decode cX10_axles 56 = .ok (.getfield 167, 3) := by decide +kernel
theorem dX10_axles_59 : decode cX10_axles 59 = .ok (.iconst 1, 1) := by decide +kernel
theorem dX10_axles_60 : decode cX10_axles 60 = .ok (.isub, 1) := by decide +kernel
theorem dX10_axles_61 : decode cX10_axles 61 = .ok (.invokestatic 132, 3) := by decide +kernel
theorem dX10_axles_64 : decode cX10_axles 64 = .ok (.ifCond .ne 5, 3) := by decide +kernel
theorem dX10_axles_67 : decode cX10_axles 67 = .ok (.iconst (-1), 1) := by decide +kernel
theorem dX10_axles_68 : decode cX10_axles 68 = .ok (.ireturn, 1) := by decide +kernel
theorem dX10_axles_69 : decode cX10_axles 69 = .ok (.iload_n 3, 1) := by decide +kernel
theorem dX10_axles_70 : decode cX10_axles 70 = .ok (.ifCond .ne 13, 3) := by decide +kernel
theorem dX10_axles_73 : decode cX10_axles 73 = .ok (.aload 4, 2) := by decide +kernel
theorem dX10_axles_75 : decode cX10_axles 75 = .ok (.getfield 174, 3) := by decide +kernel
theorem dX10_axles_78 : decode cX10_axles 78 = .ok (.iload_n 2, 1) := by decide +kernel
theorem dX10_axles_79 : decode cX10_axles 79 = .ok (.iaload, 1) := by decide +kernel
theorem dX10_axles_80 : decode cX10_axles 80 = .ok (.goto 10, 3) := by decide +kernel
theorem dX10_axles_83 : decode cX10_axles 83 = .ok (.aload 4, 2) := by decide +kernel
theorem dX10_axles_85 : decode cX10_axles 85 = .ok (.getfield 177, 3) := by decide +kernel
theorem dX10_axles_88 : decode cX10_axles 88 = .ok (.iload_n 2, 1) := by decide +kernel
theorem dX10_axles_89 : decode cX10_axles 89 = .ok (.iaload, 1) := by decide +kernel
theorem dX10_axles_90 : decode cX10_axles 90 = .ok (.ireturn, 1) := by decide +kernel
theorem dX10_effect_0 : decode cX10_effect 0 = .ok (.aload_n 0, 1) := by decide +kernel
theorem dX10_effect_1 : decode cX10_effect 1 = .ok (.iload_n 1, 1) := by decide +kernel
theorem dX10_effect_2 : decode cX10_effect 2 = .ok (.invokevirtual 104, 3) := by decide +kernel
theorem dX10_effect_5 : decode cX10_effect 5 = .ok (.astore 8, 2) := by decide +kernel
theorem dX10_effect_7 : decode cX10_effect 7 = .ok (.aload_n 0, 1) := by decide +kernel
theorem dX10_effect_8 : decode cX10_effect 8 = .ok (.iload 4, 2) := by decide +kernel
theorem dX10_effect_10 : decode cX10_effect 10 = .ok (.invokevirtual 163, 3) := by decide +kernel
theorem dX10_effect_13 : decode cX10_effect 13 = .ok (.astore 9, 2) := by decide +kernel
theorem dX10_effect_15 : decode cX10_effect 15 = .ok (.aload 8, 2) := by decide +kernel
theorem dX10_effect_17 : decode cX10_effect 17 = .ok (.ifnull 18, 3) := by decide +kernel
theorem dX10_effect_20 : decode cX10_effect 20 = .ok (.aload 8, 2) := by decide +kernel
theorem dX10_effect_22 : decode cX10_effect 22 = .ok (.iload_n 2, 1) := by decide +kernel
theorem dX10_effect_23 : decode cX10_effect 23 = .ok (.iload_n 3, 1) := by decide +kernel
theorem dX10_effect_24 : decode cX10_effect 24 = .ok (.invokevirtual 123, 3) := by decide +kernel
theorem dX10_effect_27 : decode cX10_effect 27 = .ok (.ifCond .ne 8, 3) := by decide +kernel
theorem dX10_effect_30 : decode cX10_effect 30 = .ok (.aload 9, 2) := by decide +kernel
theorem dX10_effect_32 : decode cX10_effect 32 = .ok (.ifnonnull 7, 3) := by decide +kernel
theorem dX10_effect_35 : decode cX10_effect 35 = .ok (.ldc2_w 127, 3) := by decide +kernel
theorem dX10_effect_38 : decode cX10_effect 38 = .ok (.lreturn, 1) := by decide +kernel
theorem dX10_effect_39 : decode cX10_effect 39 = .ok (.aload 8, 2) := by decide +kernel
theorem dX10_effect_41 : decode cX10_effect 41 = .ok (.iload_n 2, 1) := by decide +kernel
theorem dX10_effect_42 : decode cX10_effect 42 = .ok (.iload_n 3, 1) := by decide +kernel
theorem dX10_effect_43 : decode cX10_effect 43 = .ok (.invokevirtual 129, 3) := by decide +kernel
theorem dX10_effect_46 : decode cX10_effect 46 = .ok (.ifCond .eq 43, 3) := by decide +kernel
theorem dX10_effect_49 : decode cX10_effect 49 = .ok (.iload 5, 2) := by decide +kernel
theorem dX10_effect_51 : decode cX10_effect 51 = .ok (.iconst 0, 1) := by decide +kernel
theorem dX10_effect_52 : decode cX10_effect 52 = .ok (.iconst 1, 1) := by decide +kernel
theorem dX10_effect_53 : decode cX10_effect 53 = .ok (.invokestatic 132, 3) := by decide +kernel
theorem dX10_effect_56 : decode cX10_effect 56 = .ok (.ifCond .eq 33, 3) := by decide +kernel
theorem dX10_effect_59 : decode cX10_effect 59 = .ok (.iload 6, 2) := by decide +kernel
theorem dX10_effect_61 : decode cX10_effect 61 = .ok (.iconst 0, 1) := by decide +kernel
theorem dX10_effect_62 : decode cX10_effect 62 = .ok (.aload 8, 2) := by decide +kernel
theorem dX10_effect_64 : decode cX10_effect 64 = .ok (.getfield 108, 3) := by decide +kernel
theorem dX10_effect_67 : decode cX10_effect 67 = .ok (.aload 9, 2) := by decide +kernel
theorem dX10_effect_69 : decode cX10_effect 69 = .ok (.invokevirtual 170, 3) := by decide +kernel
theorem dX10_effect_72 : decode cX10_effect 72 = .ok (.iadd, 1) := by decide +kernel
theorem dX10_effect_73 : decode cX10_effect 73 = .ok (.invokestatic 132, 3) := by decide +kernel
theorem dX10_effect_76 : decode cX10_effect 76 = .ok (.ifCond .eq 13, 3) := by decide +kernel
theorem dX10_effect_79 : decode cX10_effect 79 = .ok (.iload 7, 2) := by decide +kernel
theorem dX10_effect_81 : decode cX10_effect 81 = .ok (.iconst 0, 1) := by decide +kernel
theorem dX10_effect_82 : decode cX10_effect 82 = .ok (.iconst 1, 1) := by decide +kernel
theorem dX10_effect_83 : decode cX10_effect 83 = .ok (.invokestatic 132, 3) := by decide +kernel
theorem dX10_effect_86 : decode cX10_effect 86 = .ok (.ifCond .ne 7, 3) := by decide +kernel
theorem dX10_effect_89 : decode cX10_effect 89 = .ok (.ldc2_w 136, 3) := by decide +kernel
theorem dX10_effect_92 : decode cX10_effect 92 = .ok (.lreturn, 1) := by decide +kernel
theorem dX10_effect_93 : decode cX10_effect 93 = .ok (.aload_n 0, 1) := by decide +kernel
theorem dX10_effect_94 : decode cX10_effect 94 = .ok (.getfield 48, 3) := by decide +kernel
theorem dX10_effect_97 : decode cX10_effect 97 = .ok (.aload 8, 2) := by decide +kernel
theorem dX10_effect_99 : decode cX10_effect 99 = .ok (.iload_n 2, 1) := by decide +kernel
theorem dX10_effect_100 : decode cX10_effect 100 = .ok (.iload_n 3, 1) := by decide +kernel
theorem dX10_effect_101 : decode cX10_effect 101 = .ok (.invokevirtual 138, 3) := by decide +kernel
theorem dX10_effect_104 : decode cX10_effect 104 = .ok (.aload_n 0, 1) := by decide +kernel
theorem dX10_effect_105 : decode cX10_effect 105 = .ok (.getfield 48, 3) := by decide +kernel
theorem dX10_effect_108 : decode cX10_effect 108 = .ok (.aload 9, 2) := by decide +kernel
theorem dX10_effect_110 : decode cX10_effect 110 = .ok (.iload 5, 2) := by decide +kernel
theorem dX10_effect_112 : decode cX10_effect 112 = .ok (.iload 6, 2) := by decide +kernel
theorem dX10_effect_114 : decode cX10_effect 114 = .ok (.invokevirtual 180, 3) := by decide +kernel
theorem dX10_effect_117 : decode cX10_effect 117 = .ok (.aload_n 0, 1) := by decide +kernel
theorem dX10_effect_118 : decode cX10_effect 118 = .ok (.getfield 48, 3) := by decide +kernel
theorem dX10_effect_121 : decode cX10_effect 121 = .ok (.getfield 146, 3) := by decide +kernel
theorem dX10_effect_124 : decode cX10_effect 124 = .ok (.iload 7, 2) := by decide +kernel
theorem dX10_effect_126 : decode cX10_effect 126 = .ok (.invokestatic 150, 3) := by decide +kernel
theorem dX10_effect_129 : decode cX10_effect 129 = .ok (.lreturn, 1) := by decide +kernel
theorem dX10_worst_0 : decode cX10_worst 0 = .ok (.aload_n 0, 1) := by decide +kernel
theorem dX10_worst_1 : decode cX10_worst 1 = .ok (.iload_n 1, 1) := by decide +kernel
theorem dX10_worst_2 : decode cX10_worst 2 = .ok (.invokevirtual 104, 3) := by decide +kernel
theorem dX10_worst_5 : decode cX10_worst 5 = .ok (.astore 7, 2) := by decide +kernel
theorem dX10_worst_7 : decode cX10_worst 7 = .ok (.aload_n 0, 1) := by decide +kernel
theorem dX10_worst_8 : decode cX10_worst 8 = .ok (.iload 4, 2) := by decide +kernel
theorem dX10_worst_10 : decode cX10_worst 10 = .ok (.invokevirtual 163, 3) := by decide +kernel
theorem dX10_worst_13 : decode cX10_worst 13 = .ok (.astore 8, 2) := by decide +kernel
theorem dX10_worst_15 : decode cX10_worst 15 = .ok (.aload 7, 2) := by decide +kernel
theorem dX10_worst_17 : decode cX10_worst 17 = .ok (.ifnull 18, 3) := by decide +kernel
theorem dX10_worst_20 : decode cX10_worst 20 = .ok (.aload 7, 2) := by decide +kernel
theorem dX10_worst_22 : decode cX10_worst 22 = .ok (.iload_n 2, 1) := by decide +kernel
theorem dX10_worst_23 : decode cX10_worst 23 = .ok (.iload_n 3, 1) := by decide +kernel
theorem dX10_worst_24 : decode cX10_worst 24 = .ok (.invokevirtual 123, 3) := by decide +kernel
theorem dX10_worst_27 : decode cX10_worst 27 = .ok (.ifCond .ne 8, 3) := by decide +kernel
theorem dX10_worst_30 : decode cX10_worst 30 = .ok (.aload 8, 2) := by decide +kernel
theorem dX10_worst_32 : decode cX10_worst 32 = .ok (.ifnonnull 7, 3) := by decide +kernel
theorem dX10_worst_35 : decode cX10_worst 35 = .ok (.ldc2_w 127, 3) := by decide +kernel
theorem dX10_worst_38 : decode cX10_worst 38 = .ok (.lreturn, 1) := by decide +kernel
theorem dX10_worst_39 : decode cX10_worst 39 = .ok (.aload 7, 2) := by decide +kernel
theorem dX10_worst_41 : decode cX10_worst 41 = .ok (.iload_n 2, 1) := by decide +kernel
theorem dX10_worst_42 : decode cX10_worst 42 = .ok (.iload_n 3, 1) := by decide +kernel
theorem dX10_worst_43 : decode cX10_worst 43 = .ok (.invokevirtual 129, 3) := by decide +kernel
theorem dX10_worst_46 : decode cX10_worst 46 = .ok (.ifCond .eq 23, 3) := by decide +kernel
theorem dX10_worst_49 : decode cX10_worst 49 = .ok (.iload 5, 2) := by decide +kernel
theorem dX10_worst_51 : decode cX10_worst 51 = .ok (.iconst 0, 1) := by decide +kernel
theorem dX10_worst_52 : decode cX10_worst 52 = .ok (.iconst 1, 1) := by decide +kernel
theorem dX10_worst_53 : decode cX10_worst 53 = .ok (.invokestatic 132, 3) := by decide +kernel
theorem dX10_worst_56 : decode cX10_worst 56 = .ok (.ifCond .eq 13, 3) := by decide +kernel
theorem dX10_worst_59 : decode cX10_worst 59 = .ok (.iload 6, 2) := by decide +kernel
theorem dX10_worst_61 : decode cX10_worst 61 = .ok (.iconst 0, 1) := by decide +kernel
theorem dX10_worst_62 : decode cX10_worst 62 = .ok (.iconst 3, 1) := by decide +kernel
theorem dX10_worst_63 : decode cX10_worst 63 = .ok (.invokestatic 132, 3) := by decide +kernel
theorem dX10_worst_66 : decode cX10_worst 66 = .ok (.ifCond .ne 7, 3) := by decide +kernel
theorem dX10_worst_69 : decode cX10_worst 69 = .ok (.ldc2_w 136, 3) := by decide +kernel
theorem dX10_worst_72 : decode cX10_worst 72 = .ok (.lreturn, 1) := by decide +kernel
theorem dX10_worst_73 : decode cX10_worst 73 = .ok (.aload_n 0, 1) := by decide +kernel
theorem dX10_worst_74 : decode cX10_worst 74 = .ok (.getfield 48, 3) := by decide +kernel
theorem dX10_worst_77 : decode cX10_worst 77 = .ok (.aload 7, 2) := by decide +kernel
theorem dX10_worst_79 : decode cX10_worst 79 = .ok (.iload_n 2, 1) := by decide +kernel
theorem dX10_worst_80 : decode cX10_worst 80 = .ok (.iload_n 3, 1) := by decide +kernel
theorem dX10_worst_81 : decode cX10_worst 81 = .ok (.invokevirtual 138, 3) := by decide +kernel
theorem dX10_worst_84 : decode cX10_worst 84 = .ok (.aload_n 0, 1) := by decide +kernel
theorem dX10_worst_85 : decode cX10_worst 85 = .ok (.getfield 62, 3) := by decide +kernel
theorem dX10_worst_88 : decode cX10_worst 88 = .ok (.aload_n 0, 1) := by decide +kernel
theorem dX10_worst_89 : decode cX10_worst 89 = .ok (.getfield 48, 3) := by decide +kernel
theorem dX10_worst_92 : decode cX10_worst 92 = .ok (.aload 8, 2) := by decide +kernel
theorem dX10_worst_94 : decode cX10_worst 94 = .ok (.aload_n 0, 1) := by decide +kernel
theorem dX10_worst_95 : decode cX10_worst 95 = .ok (.getfield 55, 3) := by decide +kernel
theorem dX10_worst_98 : decode cX10_worst 98 = .ok (.invokevirtual 184, 3) := by decide +kernel
theorem dX10_worst_101 : decode cX10_worst 101 = .ok (.iload 6, 2) := by decide +kernel
theorem dX10_worst_103 : decode cX10_worst 103 = .ok (.iconst 2, 1) := by decide +kernel
theorem dX10_worst_104 : decode cX10_worst 104 = .ok (.if_icmp .ne 15, 3) := by decide +kernel
theorem dX10_worst_107 : decode cX10_worst 107 = .ok (.aload_n 0, 1) := by decide +kernel
theorem dX10_worst_108 : decode cX10_worst 108 = .ok (.getfield 62, 3) := by decide +kernel
theorem dX10_worst_111 : decode cX10_worst 111 = .ok (.getfield 188, 3) := by decide +kernel
theorem dX10_worst_114 : decode cX10_worst 114 = .ok (.iload 5, 2) := by decide +kernel
theorem dX10_worst_116 : decode cX10_worst 116 = .ok (.iaload, 1) := by decide +kernel
theorem dX10_worst_117 : decode cX10_worst 117 = .ok (.i2l, 1) := by decide +kernel
theorem dX10_worst_118 : decode cX10_worst 118 = .ok (.lreturn, 1) := by decide +kernel
theorem dX10_worst_119 : decode cX10_worst 119 = .ok (.iload 6, 2) := by decide +kernel
theorem dX10_worst_121 : decode cX10_worst 121 = .ok (.iconst 3, 1) := by decide +kernel
theorem dX10_worst_122 : decode cX10_worst 122 = .ok (.if_icmp .ne 15, 3) := by decide +kernel
theorem dX10_worst_125 : decode cX10_worst 125 = .ok (.aload_n 0, 1) := by decide +kernel
theorem dX10_worst_126 : decode cX10_worst 126 = .ok (.getfield 62, 3) := by decide +kernel
theorem dX10_worst_129 : decode cX10_worst 129 = .ok (.getfield 191, 3) := by decide +kernel
theorem dX10_worst_132 : decode cX10_worst 132 = .ok (.iload 5, 2) := by decide +kernel
theorem dX10_worst_134 : decode cX10_worst 134 = .ok (.iaload, 1) := by decide +kernel
theorem dX10_worst_135 : decode cX10_worst 135 = .ok (.i2l, 1) := by decide +kernel
theorem dX10_worst_136 : decode cX10_worst 136 = .ok (.lreturn, 1) := by decide +kernel
theorem dX10_worst_137 : decode cX10_worst 137 = .ok (.aload_n 0, 1) := by decide +kernel
theorem dX10_worst_138 : decode cX10_worst 138 = .ok (.getfield 62, 3) := by decide +kernel
theorem dX10_worst_141 : decode cX10_worst 141 = .ok (.getfield 194, 3) := by decide +kernel
theorem dX10_worst_144 : decode cX10_worst 144 = .ok (.iload 5, 2) := by decide +kernel
theorem dX10_worst_146 : decode cX10_worst 146 = .ok (.laload, 1) := by decide +kernel
theorem dX10_worst_147 : decode cX10_worst 147 = .ok (.aload_n 0, 1) := by decide +kernel
theorem dX10_worst_148 : decode cX10_worst 148 = .ok (.getfield 48, 3) := by decide +kernel
theorem dX10_worst_151 : decode cX10_worst 151 = .ok (.getfield 146, 3) := by decide +kernel
theorem dX10_worst_154 : decode cX10_worst 154 = .ok (.iload 6, 2) := by decide +kernel
theorem dX10_worst_156 : decode cX10_worst 156 = .ok (.invokestatic 150, 3) := by decide +kernel
theorem dX10_worst_159 : decode cX10_worst 159 = .ok (.lreturn, 1) := by decide +kernel
theorem dX10_check_0 : decode cX10_check 0 = .ok (.aload_n 0, 1) := by decide +kernel
theorem dX10_check_1 : decode cX10_check 1 = .ok (.iload_n 1, 1) := by decide +kernel
theorem dX10_check_2 : decode cX10_check 2 = .ok (.invokevirtual 104, 3) := by decide +kernel
theorem dX10_check_5 : decode cX10_check 5 = .ok (.astore 6, 2) := by decide +kernel
theorem dX10_check_7 : decode cX10_check 7 = .ok (.aload 6, 2) := by decide +kernel
theorem dX10_check_9 : decode cX10_check 9 = .ok (.ifnull 13, 3) := by decide +kernel
theorem dX10_check_12 : decode cX10_check 12 = .ok (.aload 6, 2) := by decide +kernel
theorem dX10_check_14 : decode cX10_check 14 = .ok (.iload_n 2, 1) := by decide +kernel
theorem dX10_check_15 : decode cX10_check 15 = .ok (.iload_n 3, 1) := by decide +kernel
theorem dX10_check_16 : decode cX10_check 16 = .ok (.invokevirtual 123, 3) := by decide +kernel
theorem dX10_check_19 : decode cX10_check 19 = .ok (.ifCond .eq 7, 3) := by decide +kernel
theorem dX10_check_22 : decode cX10_check 22 = .ok (.sipush (-1001), 3) := by decide +kernel
theorem dX10_check_25 : decode cX10_check 25 = .ok (.ireturn, 1) := by decide +kernel
theorem dX10_check_26 : decode cX10_check 26 = .ok (.aload 6, 2) := by decide +kernel
theorem dX10_check_28 : decode cX10_check 28 = .ok (.iload_n 2, 1) := by decide +kernel
theorem dX10_check_29 : decode cX10_check 29 = .ok (.iload_n 3, 1) := by decide +kernel
theorem dX10_check_30 : decode cX10_check 30 = .ok (.invokevirtual 129, 3) := by decide +kernel
theorem dX10_check_33 : decode cX10_check 33 = .ok (.ifCond .eq 13, 3) := by decide +kernel
theorem dX10_check_36 : decode cX10_check 36 = .ok (.iload 4, 2) := by decide +kernel
theorem dX10_check_38 : decode cX10_check 38 = .ok (.iload 5, 2) := by decide +kernel
theorem dX10_check_40 : decode cX10_check 40 = .ok (.invokestatic 195, 3) := by decide +kernel
theorem dX10_check_43 : decode cX10_check 43 = .ok (.ifCond .ne 7, 3) := by decide +kernel
theorem dX10_check_46 : decode cX10_check 46 = .ok (.sipush (-1002), 3) := by decide +kernel
theorem dX10_check_49 : decode cX10_check 49 = .ok (.ireturn, 1) := by decide +kernel
theorem dX10_check_50 : decode cX10_check 50 = .ok (.aload 6, 2) := by decide +kernel
theorem dX10_check_52 : decode cX10_check 52 = .ok (.getfield 117, 3) := by decide +kernel
theorem dX10_check_55 : decode cX10_check 55 = .ok (.iconst 5, 1) := by decide +kernel
theorem dX10_check_56 : decode cX10_check 56 = .ok (.if_icmp .lt 7, 3) := by decide +kernel
theorem dX10_check_59 : decode cX10_check 59 = .ok (.sipush (-1004), 3) := by decide +kernel
theorem dX10_check_62 : decode cX10_check 62 = .ok (.ireturn, 1) := by decide +kernel
theorem dX10_check_63 : decode cX10_check 63 = .ok (.new 198, 3) := by decide +kernel
theorem dX10_check_66 : decode cX10_check 66 = .ok (.dup, 1) := by decide +kernel
theorem dX10_check_67 : decode cX10_check 67 = .ok (.iload 4, 2) := by decide +kernel
theorem dX10_check_69 : decode cX10_check 69 = .ok (.iload 5, 2) := by decide +kernel
theorem dX10_check_71 : decode cX10_check 71 = .ok (.invokespecial 200, 3) := by decide +kernel
theorem dX10_check_74 : decode cX10_check 74 = .ok (.astore 7, 2) := by decide +kernel
theorem dX10_check_76 : decode cX10_check 76 = .ok (.aload 7, 2) := by decide +kernel
theorem dX10_check_78 : decode cX10_check 78 = .ok (.getfield 203, 3) := by decide +kernel
theorem dX10_check_81 : decode cX10_check 81 = .ok (.aload 6, 2) := by decide +kernel
theorem dX10_check_83 : decode cX10_check 83 = .ok (.iload_n 2, 1) := by decide +kernel
theorem dX10_check_84 : decode cX10_check 84 = .ok (.iload_n 3, 1) := by decide +kernel
theorem dX10_check_85 : decode cX10_check 85 = .ok (.invokevirtual 138, 3) := by decide +kernel
theorem dX10_check_88 : decode cX10_check 88 = .ok (.aload 6, 2) := by decide +kernel
theorem dX10_check_90 : decode cX10_check 90 = .ok (.getfield 204, 3) := by decide +kernel
theorem dX10_check_93 : decode cX10_check 93 = .ok (.aload 6, 2) := by decide +kernel
theorem dX10_check_95 : decode cX10_check 95 = .ok (.getfield 117, 3) := by decide +kernel
theorem dX10_check_98 : decode cX10_check 98 = .ok (.aload 7, 2) := by decide +kernel
theorem dX10_check_100 : decode cX10_check 100 = .ok (.aastore, 1) := by decide +kernel
theorem dX10_check_101 : decode cX10_check 101 = .ok (.aload 6, 2) := by decide +kernel
theorem dX10_check_103 : decode cX10_check 103 = .ok (.dup, 1) := by decide +kernel
theorem dX10_check_104 : decode cX10_check 104 = .ok (.getfield 117, 3) := by decide +kernel
theorem dX10_check_107 : decode cX10_check 107 = .ok (.iconst 1, 1) := by decide +kernel
theorem dX10_check_108 : decode cX10_check 108 = .ok (.iadd, 1) := by decide +kernel
theorem dX10_check_109 : decode cX10_check 109 = .ok (.putfield 117, 3) := by decide +kernel
theorem dX10_check_112 : decode cX10_check 112 = .ok (.aload 6, 2) := by decide +kernel
theorem dX10_check_114 : decode cX10_check 114 = .ok (.getfield 117, 3) := by decide +kernel
theorem dX10_check_117 : decode cX10_check 117 = .ok (.iconst 1, 1) := by decide +kernel
theorem dX10_check_118 : decode cX10_check 118 = .ok (.isub, 1) := by decide +kernel
theorem dX10_check_119 : decode cX10_check 119 = .ok (.ireturn, 1) := by decide +kernel
theorem dX10_limit_0 : decode cX10_limit 0 = .ok (.aload_n 0, 1) := by decide +kernel
theorem dX10_limit_1 : decode cX10_limit 1 = .ok (.iload_n 1, 1) := by decide +kernel
theorem dX10_limit_2 : decode cX10_limit 2 = .ok (.invokevirtual 104, 3) := by decide +kernel
theorem dX10_limit_5 : decode cX10_limit 5 = .ok (.astore 5, 2) := by decide +kernel
theorem dX10_limit_7 : decode cX10_limit 7 = .ok (.aload 5, 2) := by decide +kernel
theorem dX10_limit_9 : decode cX10_limit 9 = .ok (.ifnonnull 7, 3) := by decide +kernel
theorem dX10_limit_12 : decode cX10_limit 12 = .ok (.aconst_null, 1) := by decide +kernel
theorem dX10_limit_13 : decode cX10_limit 13 = .ok (.goto 9, 3) := by decide +kernel
theorem dX10_limit_16 : decode cX10_limit 16 = .ok (.aload 5, 2) := by decide +kernel
theorem dX10_limit_18 : decode cX10_limit 18 = .ok (.iload_n 2, 1) := by decide +kernel
theorem dX10_limit_19 : decode cX10_limit 19 = .ok (.invokevirtual 208, 3) := by decide +kernel
theorem dX10_limit_22 : decode cX10_limit 22 = .ok (.astore 6, 2) := by decide +kernel
theorem dX10_limit_24 : decode cX10_limit 24 = .ok (.aload 6, 2) := by decide +kernel
theorem dX10_limit_26 : decode cX10_limit 26 = .ok (.ifnonnull 7, 3) := by decide +kernel
theorem dX10_limit_29 : decode cX10_limit 29 = .ok (.sipush (-1001), 3) := by decide +kernel
theorem dX10_limit_32 : decode cX10_limit 32 = .ok (.ireturn, 1) := by decide +kernel
theorem dX10_limit_33 : decode cX10_limit 33 = .ok (.iload_n 3, 1) := by decide +kernel
theorem dX10_limit_34 : decode cX10_limit 34 = .ok (.iload 4, 2) := by decide +kernel
theorem dX10_limit_36 : decode cX10_limit 36 = .ok (.invokestatic 195, 3) := by decide +kernel
theorem dX10_limit_39 : decode cX10_limit 39 = .ok (.ifCond .ne 7, 3) := by decide +kernel
theorem dX10_limit_42 : decode cX10_limit 42 = .ok (.sipush (-1002), 3) := by decide +kernel
theorem dX10_limit_45 : decode cX10_limit 45 = .ok (.ireturn, 1) := by decide +kernel
theorem dX10_limit_46 : decode cX10_limit 46 = .ok (.aload 6, 2) := by decide +kernel
theorem dX10_limit_48 : decode cX10_limit 48 = .ok (.iload_n 3, 1) := by decide +kernel
theorem dX10_limit_49 : decode cX10_limit 49 = .ok (.putfield 212, 3) := by decide +kernel
theorem dX10_limit_52 : decode cX10_limit 52 = .ok (.aload 6, 2) := by decide +kernel
theorem dX10_limit_54 : decode cX10_limit 54 = .ok (.iload 4, 2) := by decide +kernel
theorem dX10_limit_56 : decode cX10_limit 56 = .ok (.putfield 215, 3) := by decide +kernel
theorem dX10_limit_59 : decode cX10_limit 59 = .ok (.iconst 1, 1) := by decide +kernel
theorem dX10_limit_60 : decode cX10_limit 60 = .ok (.ireturn, 1) := by decide +kernel
theorem dX10_usual_0 : decode cX10_usual 0 = .ok (.iload_n 1, 1) := by decide +kernel
theorem dX10_usual_1 : decode cX10_usual 1 = .ok (.iconst (-1), 1) := by decide +kernel
theorem dX10_usual_2 : decode cX10_usual 2 = .ok (.if_icmp .eq 15, 3) := by decide +kernel
theorem dX10_usual_5 : decode cX10_usual 5 = .ok (.aload_n 0, 1) := by decide +kernel
theorem dX10_usual_6 : decode cX10_usual 6 = .ok (.iload_n 1, 1) := by decide +kernel
theorem dX10_usual_7 : decode cX10_usual 7 = .ok (.invokevirtual 163, 3) := by decide +kernel
theorem dX10_usual_10 : decode cX10_usual 10 = .ok (.ifnonnull 7, 3) := by decide +kernel
theorem dX10_usual_13 : decode cX10_usual 13 = .ok (.sipush (-1001), 3) := by decide +kernel
theorem dX10_usual_16 : decode cX10_usual 16 = .ok (.ireturn, 1) := by decide +kernel
theorem dX10_usual_17 : decode cX10_usual 17 = .ok (.aload_n 0, 1) := by decide +kernel
theorem dX10_usual_18 : decode cX10_usual 18 = .ok (.getfield 28, 3) := by decide +kernel
theorem dX10_usual_21 : decode cX10_usual 21 = .ok (.istore_n 2, 1) := by decide +kernel
theorem dX10_usual_22 : decode cX10_usual 22 = .ok (.aload_n 0, 1) := by decide +kernel
theorem dX10_usual_23 : decode cX10_usual 23 = .ok (.iload_n 1, 1) := by decide +kernel
theorem dX10_usual_24 : decode cX10_usual 24 = .ok (.putfield 28, 3) := by decide +kernel
theorem dX10_usual_27 : decode cX10_usual 27 = .ok (.iload_n 2, 1) := by decide +kernel
theorem dX10_usual_28 : decode cX10_usual 28 = .ok (.ireturn, 1) := by decide +kernel
theorem dX10_total_0 : decode cX10_total 0 = .ok (.aload_n 0, 1) := by decide +kernel
theorem dX10_total_1 : decode cX10_total 1 = .ok (.iload_n 1, 1) := by decide +kernel
theorem dX10_total_2 : decode cX10_total 2 = .ok (.invokevirtual 104, 3) := by decide +kernel
theorem dX10_total_5 : decode cX10_total 5 = .ok (.astore 7, 2) := by decide +kernel
theorem dX10_total_7 : decode cX10_total 7 = .ok (.aload 7, 2) := by decide +kernel
theorem dX10_total_9 : decode cX10_total 9 = .ok (.ifnonnull 7, 3) := by decide +kernel
theorem dX10_total_12 : decode cX10_total 12 = .ok (.aconst_null, 1) := by decide +kernel
theorem dX10_total_13 : decode cX10_total 13 = .ok (.goto 9, 3) := by decide +kernel
theorem dX10_total_16 : decode cX10_total 16 = .ok (.aload 7, 2) := by decide +kernel
theorem dX10_total_18 : decode cX10_total 18 = .ok (.iload_n 2, 1) := by decide +kernel
theorem dX10_total_19 : decode cX10_total 19 = .ok (.invokevirtual 208, 3) := by decide +kernel
theorem dX10_total_22 : decode cX10_total 22 = .ok (.astore 8, 2) := by decide +kernel
theorem dX10_total_24 : decode cX10_total 24 = .ok (.aload_n 0, 1) := by decide +kernel
theorem dX10_total_25 : decode cX10_total 25 = .ok (.iload_n 3, 1) := by decide +kernel
theorem dX10_total_26 : decode cX10_total 26 = .ok (.invokevirtual 163, 3) := by decide +kernel
theorem dX10_total_29 : decode cX10_total 29 = .ok (.astore 9, 2) := by decide +kernel
theorem dX10_total_31 : decode cX10_total 31 = .ok (.aload 7, 2) := by decide +kernel
theorem dX10_total_33 : decode cX10_total 33 = .ok (.ifnull 13, 3) := by decide +kernel
theorem dX10_total_36 : decode cX10_total 36 = .ok (.aload 8, 2) := by decide +kernel
theorem dX10_total_38 : decode cX10_total 38 = .ok (.ifnull 8, 3) := by decide +kernel
theorem dX10_total_41 : decode cX10_total 41 = .ok (.aload 9, 2) := by decide +kernel
theorem dX10_total_43 : decode cX10_total 43 = .ok (.ifnonnull 7, 3) := by decide +kernel
theorem dX10_total_46 : decode cX10_total 46 = .ok (.ldc2_w 127, 3) := by decide +kernel
theorem dX10_total_49 : decode cX10_total 49 = .ok (.lreturn, 1) := by decide +kernel
theorem dX10_total_50 : decode cX10_total 50 = .ok (.iload 4, 2) := by decide +kernel
theorem dX10_total_52 : decode cX10_total 52 = .ok (.iconst 0, 1) := by decide +kernel
theorem dX10_total_53 : decode cX10_total 53 = .ok (.iconst 2, 1) := by decide +kernel
theorem dX10_total_54 : decode cX10_total 54 = .ok (.invokestatic 132, 3) := by decide +kernel
theorem dX10_total_57 : decode cX10_total 57 = .ok (.ifCond .eq 23, 3) := by decide +kernel
theorem dX10_total_60 : decode cX10_total 60 = .ok (.iload 5, 2) := by decide +kernel
theorem dX10_total_62 : decode cX10_total 62 = .ok (.iconst 0, 1) := by decide +kernel
theorem dX10_total_63 : decode cX10_total 63 = .ok (.iconst 1, 1) := by decide +kernel
theorem dX10_total_64 : decode cX10_total 64 = .ok (.invokestatic 132, 3) := by decide +kernel
theorem dX10_total_67 : decode cX10_total 67 = .ok (.ifCond .eq 13, 3) := by decide +kernel
theorem dX10_total_70 : decode cX10_total 70 = .ok (.iload 6, 2) := by decide +kernel
theorem dX10_total_72 : decode cX10_total 72 = .ok (.iconst 0, 1) := by decide +kernel
theorem dX10_total_73 : decode cX10_total 73 = .ok (.iconst 1, 1) := by decide +kernel
theorem dX10_total_74 : decode cX10_total 74 = .ok (.invokestatic 132, 3) := by decide +kernel
theorem dX10_total_77 : decode cX10_total 77 = .ok (.ifCond .ne 7, 3) := by decide +kernel
theorem dX10_total_80 : decode cX10_total 80 = .ok (.ldc2_w 136, 3) := by decide +kernel
theorem dX10_total_83 : decode cX10_total 83 = .ok (.lreturn, 1) := by decide +kernel
theorem dX10_total_84 : decode cX10_total 84 = .ok (.aload_n 0, 1) := by decide +kernel
theorem dX10_total_85 : decode cX10_total 85 = .ok (.getfield 69, 3) := by decide +kernel
theorem dX10_total_88 : decode cX10_total 88 = .ok (.aload 7, 2) := by decide +kernel
theorem dX10_total_90 : decode cX10_total 90 = .ok (.aload_n 0, 1) := by decide +kernel
theorem dX10_total_91 : decode cX10_total 91 = .ok (.aload_n 0, 1) := by decide +kernel
theorem dX10_total_92 : decode cX10_total 92 = .ok (.getfield 28, 3) := by decide +kernel
theorem dX10_total_95 : decode cX10_total 95 = .ok (.invokevirtual 163, 3) := by decide +kernel
theorem dX10_total_98 : decode cX10_total 98 = .ok (.iload 4, 2) := by decide +kernel
theorem dX10_total_100 : decode cX10_total 100 = .ok (.invokevirtual 218, 3) := by decide +kernel
theorem dX10_total_103 : decode cX10_total 103 = .ok (.aload_n 0, 1) := by decide +kernel
theorem dX10_total_104 : decode cX10_total 104 = .ok (.getfield 62, 3) := by decide +kernel
theorem dX10_total_107 : decode cX10_total 107 = .ok (.aload 8, 2) := by decide +kernel
theorem dX10_total_109 : decode cX10_total 109 = .ok (.getfield 203, 3) := by decide +kernel
theorem dX10_total_112 : decode cX10_total 112 = .ok (.aload 9, 2) := by decide +kernel
theorem dX10_total_114 : decode cX10_total 114 = .ok (.aload_n 0, 1) := by decide +kernel
theorem dX10_total_115 : decode cX10_total 115 = .ok (.getfield 55, 3) := by decide +kernel
theorem dX10_total_118 : decode cX10_total 118 = .ok (.invokevirtual 184, 3) := by decide +kernel
theorem dX10_total_121 : decode cX10_total 121 = .ok (.aload_n 0, 1) := by decide +kernel
theorem dX10_total_122 : decode cX10_total 122 = .ok (.getfield 69, 3) := by decide +kernel
theorem dX10_total_125 : decode cX10_total 125 = .ok (.iload_n 2, 1) := by decide +kernel
theorem dX10_total_126 : decode cX10_total 126 = .ok (.iload 5, 2) := by decide +kernel
theorem dX10_total_128 : decode cX10_total 128 = .ok (.aload_n 0, 1) := by decide +kernel
theorem dX10_total_129 : decode cX10_total 129 = .ok (.getfield 62, 3) := by decide +kernel
theorem dX10_total_132 : decode cX10_total 132 = .ok (.getfield 194, 3) := by decide +kernel
theorem dX10_total_135 : decode cX10_total 135 = .ok (.iload 5, 2) := by decide +kernel
theorem dX10_total_137 : decode cX10_total 137 = .ok (.laload, 1) := by decide +kernel
theorem dX10_total_138 : decode cX10_total 138 = .ok (.invokevirtual 222, 3) := by decide +kernel
theorem dX10_total_141 : decode cX10_total 141 = .ok (.aload 8, 2) := by decide +kernel
theorem dX10_total_143 : decode cX10_total 143 = .ok (.invokevirtual 226, 3) := by decide +kernel
theorem dX10_total_146 : decode cX10_total 146 = .ok (.iload 6, 2) := by decide +kernel
theorem dX10_total_148 : decode cX10_total 148 = .ok (.invokestatic 150, 3) := by decide +kernel
theorem dX10_total_151 : decode cX10_total 151 = .ok (.lreturn, 1) := by decide +kernel
theorem dX10_fails_0 : decode cX10_fails 0 = .ok (.aload_n 0, 1) := by decide +kernel
theorem dX10_fails_1 : decode cX10_fails 1 = .ok (.iload_n 1, 1) := by decide +kernel
theorem dX10_fails_2 : decode cX10_fails 2 = .ok (.invokevirtual 104, 3) := by decide +kernel
theorem dX10_fails_5 : decode cX10_fails 5 = .ok (.astore 4, 2) := by decide +kernel
theorem dX10_fails_7 : decode cX10_fails 7 = .ok (.aload_n 0, 1) := by decide +kernel
theorem dX10_fails_8 : decode cX10_fails 8 = .ok (.iload_n 2, 1) := by decide +kernel
theorem dX10_fails_9 : decode cX10_fails 9 = .ok (.invokevirtual 163, 3) := by decide +kernel
theorem dX10_fails_12 : decode cX10_fails 12 = .ok (.astore 5, 2) := by decide +kernel
theorem dX10_fails_14 : decode cX10_fails 14 = .ok (.aload 4, 2) := by decide +kernel
theorem dX10_fails_16 : decode cX10_fails 16 = .ok (.ifnull 8, 3) := by decide +kernel
theorem dX10_fails_19 : decode cX10_fails 19 = .ok (.aload 5, 2) := by decide +kernel
theorem dX10_fails_21 : decode cX10_fails 21 = .ok (.ifnonnull 7, 3) := by decide +kernel
theorem dX10_fails_24 : decode cX10_fails 24 = .ok (.sipush (-1001), 3) := by decide +kernel
theorem dX10_fails_27 : decode cX10_fails 27 = .ok (.ireturn, 1) := by decide +kernel
theorem dX10_fails_28 : decode cX10_fails 28 = .ok (.iload_n 3, 1) := by decide +kernel
theorem dX10_fails_29 : decode cX10_fails 29 = .ok (.iconst 0, 1) := by decide +kernel
theorem dX10_fails_30 : decode cX10_fails 30 = .ok (.iconst 2, 1) := by decide +kernel
theorem dX10_fails_31 : decode cX10_fails 31 = .ok (.invokestatic 132, 3) := by decide +kernel
theorem dX10_fails_34 : decode cX10_fails 34 = .ok (.ifCond .ne 7, 3) := by decide +kernel
theorem dX10_fails_37 : decode cX10_fails 37 = .ok (.sipush (-1002), 3) := by decide +kernel
theorem dX10_fails_40 : decode cX10_fails 40 = .ok (.ireturn, 1) := by decide +kernel
theorem dX10_fails_41 : decode cX10_fails 41 = .ok (.aload_n 0, 1) := by decide +kernel
theorem dX10_fails_42 : decode cX10_fails 42 = .ok (.getfield 69, 3) := by decide +kernel
theorem dX10_fails_45 : decode cX10_fails 45 = .ok (.aload 4, 2) := by decide +kernel
theorem dX10_fails_47 : decode cX10_fails 47 = .ok (.aload_n 0, 1) := by decide +kernel
theorem dX10_fails_48 : decode cX10_fails 48 = .ok (.aload_n 0, 1) := by decide +kernel
theorem dX10_fails_49 : decode cX10_fails 49 = .ok (.getfield 28, 3) := by decide +kernel
theorem dX10_fails_52 : decode cX10_fails 52 = .ok (.invokevirtual 163, 3) := by decide +kernel
theorem dX10_fails_55 : decode cX10_fails 55 = .ok (.iload_n 3, 1) := by decide +kernel
theorem dX10_fails_56 : decode cX10_fails 56 = .ok (.invokevirtual 218, 3) := by decide +kernel
theorem dX10_fails_59 : decode cX10_fails 59 = .ok (.aload_n 0, 1) := by decide +kernel
theorem dX10_fails_60 : decode cX10_fails 60 = .ok (.getfield 69, 3) := by decide +kernel
theorem dX10_fails_63 : decode cX10_fails 63 = .ok (.aload 4, 2) := by decide +kernel
theorem dX10_fails_65 : decode cX10_fails 65 = .ok (.aload 5, 2) := by decide +kernel
theorem dX10_fails_67 : decode cX10_fails 67 = .ok (.invokevirtual 230, 3) := by decide +kernel
theorem dX10_fails_70 : decode cX10_fails 70 = .ok (.ireturn, 1) := by decide +kernel
theorem dX10_posted_0 : decode cX10_posted 0 = .ok (.aload_n 0, 1) := by decide +kernel
theorem dX10_posted_1 : decode cX10_posted 1 = .ok (.iload_n 1, 1) := by decide +kernel
theorem dX10_posted_2 : decode cX10_posted 2 = .ok (.invokevirtual 104, 3) := by decide +kernel
theorem dX10_posted_5 : decode cX10_posted 5 = .ok (.astore_n 3, 1) := by decide +kernel
theorem dX10_posted_6 : decode cX10_posted 6 = .ok (.aload_n 0, 1) := by decide +kernel
theorem dX10_posted_7 : decode cX10_posted 7 = .ok (.iload_n 2, 1) := by decide +kernel
theorem dX10_posted_8 : decode cX10_posted 8 = .ok (.invokevirtual 163, 3) := by decide +kernel
theorem dX10_posted_11 : decode cX10_posted 11 = .ok (.astore 4, 2) := by decide +kernel
theorem dX10_posted_13 : decode cX10_posted 13 = .ok (.aload_n 3, 1) := by decide +kernel
theorem dX10_posted_14 : decode cX10_posted 14 = .ok (.ifnull 8, 3) := by decide +kernel
theorem dX10_posted_17 : decode cX10_posted 17 = .ok (.aload 4, 2) := by decide +kernel
theorem dX10_posted_19 : decode cX10_posted 19 = .ok (.ifnonnull 7, 3) := by decide +kernel
theorem dX10_posted_22 : decode cX10_posted 22 = .ok (.sipush (-1001), 3) := by decide +kernel
theorem dX10_posted_25 : decode cX10_posted 25 = .ok (.ireturn, 1) := by decide +kernel
theorem dX10_posted_26 : decode cX10_posted 26 = .ok (.aload_n 0, 1) := by decide +kernel
theorem dX10_posted_27 : decode cX10_posted 27 = .ok (.getfield 69, 3) := by decide +kernel
theorem dX10_posted_30 : decode cX10_posted 30 = .ok (.aload_n 3, 1) := by decide +kernel
theorem dX10_posted_31 : decode cX10_posted 31 = .ok (.aload_n 0, 1) := by decide +kernel
theorem dX10_posted_32 : decode cX10_posted 32 = .ok (.aload_n 0, 1) := by decide +kernel
theorem dX10_posted_33 : decode cX10_posted 33 = .ok (.getfield 28, 3) := by decide +kernel
theorem dX10_posted_36 : decode cX10_posted 36 = .ok (.invokevirtual 163, 3) := by decide +kernel
theorem dX10_posted_39 : decode cX10_posted 39 = .ok (.iconst 0, 1) := by decide +kernel
theorem dX10_posted_40 : decode cX10_posted 40 = .ok (.invokevirtual 218, 3) := by decide +kernel
theorem dX10_posted_43 : decode cX10_posted 43 = .ok (.aload_n 0, 1) := by decide +kernel
theorem dX10_posted_44 : decode cX10_posted 44 = .ok (.getfield 81, 3) := by decide +kernel
theorem dX10_posted_47 : decode cX10_posted 47 = .ok (.aload 4, 2) := by decide +kernel
theorem dX10_posted_49 : decode cX10_posted 49 = .ok (.iconst 0, 1) := by decide +kernel
theorem dX10_posted_50 : decode cX10_posted 50 = .ok (.invokevirtual 234, 3) := by decide +kernel
theorem dX10_posted_53 : decode cX10_posted 53 = .ok (.aload_n 0, 1) := by decide +kernel
theorem dX10_posted_54 : decode cX10_posted 54 = .ok (.getfield 69, 3) := by decide +kernel
theorem dX10_posted_57 : decode cX10_posted 57 = .ok (.aload_n 3, 1) := by decide +kernel
theorem dX10_posted_58 : decode cX10_posted 58 = .ok (.aload_n 0, 1) := by decide +kernel
theorem dX10_posted_59 : decode cX10_posted 59 = .ok (.getfield 81, 3) := by decide +kernel
theorem dX10_posted_62 : decode cX10_posted 62 = .ok (.invokevirtual 238, 3) := by decide +kernel
theorem dX10_posted_65 : decode cX10_posted 65 = .ok (.ifCond .ne 5, 3) := by decide +kernel
theorem dX10_posted_68 : decode cX10_posted 68 = .ok (.iconst (-1), 1) := by decide +kernel
theorem dX10_posted_69 : decode cX10_posted 69 = .ok (.ireturn, 1) := by decide +kernel
theorem dX10_posted_70 : decode cX10_posted 70 = .ok (.sipush 300, 3) := by decide +kernel
theorem dX10_posted_73 : decode cX10_posted 73 = .ok (.istore 5, 2) := by decide +kernel
theorem dX10_posted_75 : decode cX10_posted 75 = .ok (.iload 5, 2) := by decide +kernel
theorem dX10_posted_77 : decode cX10_posted 77 = .ok (.ifCond .le 38, 3) := by decide +kernel
theorem dX10_posted_80 : decode cX10_posted 80 = .ok (.aload_n 0, 1) := by decide +kernel
theorem dX10_posted_81 : decode cX10_posted 81 = .ok (.getfield 81, 3) := by decide +kernel
theorem dX10_posted_84 : decode cX10_posted 84 = .ok (.aload 4, 2) := by decide +kernel
theorem dX10_posted_86 : decode cX10_posted 86 = .ok (.iload 5, 2) := by decide +kernel
theorem dX10_posted_88 : decode cX10_posted 88 = .ok (.invokevirtual 234, 3) := by decide +kernel
theorem dX10_posted_91 : decode cX10_posted 91 = .ok (.aload_n 0, 1) := by decide +kernel
theorem dX10_posted_92 : decode cX10_posted 92 = .ok (.getfield 69, 3) := by decide +kernel
theorem dX10_posted_95 : decode cX10_posted 95 = .ok (.aload_n 3, 1) := by decide +kernel
theorem dX10_posted_96 : decode cX10_posted 96 = .ok (.aload_n 0, 1) := by decide +kernel
theorem dX10_posted_97 : decode cX10_posted 97 = .ok (.getfield 81, 3) := by decide +kernel
theorem dX10_posted_100 : decode cX10_posted 100 = .ok (.invokevirtual 238, 3) := by decide +kernel
theorem dX10_posted_103 : decode cX10_posted 103 = .ok (.ifCond .eq 6, 3) := by decide +kernel
theorem dX10_posted_106 : decode cX10_posted 106 = .ok (.iload 5, 2) := by decide +kernel
theorem dX10_posted_108 : decode cX10_posted 108 = .ok (.ireturn, 1) := by decide +kernel
theorem dX10_posted_109 : decode cX10_posted 109 = .ok (.iinc 5 (-1), 3) := by decide +kernel
theorem dX10_posted_112 : decode cX10_posted 112 = .ok (.goto (-37), 3) := by decide +kernel
theorem dX10_posted_115 : decode cX10_posted 115 = .ok (.iconst 0, 1) := by decide +kernel
theorem dX10_posted_116 : decode cX10_posted 116 = .ok (.ireturn, 1) := by decide +kernel
theorem dX10_spread_0 : decode cX10_spread 0 = .ok (.aload_n 0, 1) := by decide +kernel
theorem dX10_spread_1 : decode cX10_spread 1 = .ok (.iload_n 1, 1) := by decide +kernel
theorem dX10_spread_2 : decode cX10_spread 2 = .ok (.invokevirtual 104, 3) := by decide +kernel
theorem dX10_spread_5 : decode cX10_spread 5 = .ok (.astore 4, 2) := by decide +kernel
theorem dX10_spread_7 : decode cX10_spread 7 = .ok (.aload_n 0, 1) := by decide +kernel
theorem dX10_spread_8 : decode cX10_spread 8 = .ok (.iload_n 2, 1) := by decide +kernel
theorem dX10_spread_9 : decode cX10_spread 9 = .ok (.invokevirtual 163, 3) := by decide +kernel
theorem dX10_spread_12 : decode cX10_spread 12 = .ok (.astore 5, 2) := by decide +kernel
theorem dX10_spread_14 : decode cX10_spread 14 = .ok (.aload 4, 2) := by decide +kernel
theorem dX10_spread_16 : decode cX10_spread 16 = .ok (.ifnull 8, 3) := by decide +kernel
theorem dX10_spread_19 : decode cX10_spread 19 = .ok (.aload 5, 2) := by decide +kernel
theorem dX10_spread_21 : decode cX10_spread 21 = .ok (.ifnonnull 7, 3) := by decide +kernel
theorem dX10_spread_24 : decode cX10_spread 24 = .ok (.sipush (-1001), 3) := by decide +kernel
theorem dX10_spread_27 : decode cX10_spread 27 = .ok (.ireturn, 1) := by decide +kernel
theorem dX10_spread_28 : decode cX10_spread 28 = .ok (.iload_n 3, 1) := by decide +kernel
theorem dX10_spread_29 : decode cX10_spread 29 = .ok (.iconst 0, 1) := by decide +kernel
theorem dX10_spread_30 : decode cX10_spread 30 = .ok (.iconst 2, 1) := by decide +kernel
theorem dX10_spread_31 : decode cX10_spread 31 = .ok (.invokestatic 132, 3) := by decide +kernel
theorem dX10_spread_34 : decode cX10_spread 34 = .ok (.ifCond .ne 7, 3) := by decide +kernel
theorem dX10_spread_37 : decode cX10_spread 37 = .ok (.sipush (-1002), 3) := by decide +kernel
theorem dX10_spread_40 : decode cX10_spread 40 = .ok (.ireturn, 1) := by decide +kernel
theorem dX10_spread_41 : decode cX10_spread 41 = .ok (.aload_n 0, 1) := by decide +kernel
theorem dX10_spread_42 : decode cX10_spread 42 = .ok (.getfield 69, 3) := by decide +kernel
theorem dX10_spread_45 : decode cX10_spread 45 = .ok (.aload 4, 2) := by decide +kernel
theorem dX10_spread_47 : decode cX10_spread 47 = .ok (.aload_n 0, 1) := by decide +kernel
theorem dX10_spread_48 : decode cX10_spread 48 = .ok (.aload_n 0, 1) := by decide +kernel
theorem dX10_spread_49 : decode cX10_spread 49 = .ok (.getfield 28, 3) := by decide +kernel
theorem dX10_spread_52 : decode cX10_spread 52 = .ok (.invokevirtual 163, 3) := by decide +kernel
theorem dX10_spread_55 : decode cX10_spread 55 = .ok (.iload_n 3, 1) := by decide +kernel
theorem dX10_spread_56 : decode cX10_spread 56 = .ok (.invokevirtual 218, 3) := by decide +kernel
theorem dX10_spread_59 : decode cX10_spread 59 = .ok (.iconst 0, 1) := by decide +kernel
theorem dX10_spread_60 : decode cX10_spread 60 = .ok (.istore 6, 2) := by decide +kernel
theorem dX10_spread_62 : decode cX10_spread 62 = .ok (.iload 6, 2) := by decide +kernel
theorem dX10_spread_64 : decode cX10_spread 64 = .ok (.bipush 20, 2) := by decide +kernel
theorem dX10_spread_66 : decode cX10_spread 66 = .ok (.if_icmp .gt 39, 3) := by decide +kernel
theorem dX10_spread_69 : decode cX10_spread 69 = .ok (.aload_n 0, 1) := by decide +kernel
theorem dX10_spread_70 : decode cX10_spread 70 = .ok (.getfield 81, 3) := by decide +kernel
theorem dX10_spread_73 : decode cX10_spread 73 = .ok (.aload 5, 2) := by decide +kernel
theorem dX10_spread_75 : decode cX10_spread 75 = .ok (.iload 6, 2) := by decide +kernel
theorem dX10_spread_77 : decode cX10_spread 77 = .ok (.invokevirtual 242, 3) := by decide +kernel
theorem dX10_spread_80 : decode cX10_spread 80 = .ok (.aload_n 0, 1) := by decide +kernel
theorem dX10_spread_81 : decode cX10_spread 81 = .ok (.getfield 69, 3) := by decide +kernel
theorem dX10_spread_84 : decode cX10_spread 84 = .ok (.aload 4, 2) := by decide +kernel
theorem dX10_spread_86 : decode cX10_spread 86 = .ok (.aload_n 0, 1) := by decide +kernel
theorem dX10_spread_87 : decode cX10_spread 87 = .ok (.getfield 81, 3) := by decide +kernel
theorem dX10_spread_90 : decode cX10_spread 90 = .ok (.invokevirtual 238, 3) := by decide +kernel
theorem dX10_spread_93 : decode cX10_spread 93 = .ok (.ifCond .eq 6, 3) := by decide +kernel
theorem dX10_spread_96 : decode cX10_spread 96 = .ok (.iload 6, 2) := by decide +kernel
theorem dX10_spread_98 : decode cX10_spread 98 = .ok (.ireturn, 1) := by decide +kernel
theorem dX10_spread_99 : decode cX10_spread 99 = .ok (.iinc 6 1, 3) := by decide +kernel
theorem dX10_spread_102 : decode cX10_spread 102 = .ok (.goto (-40), 3) := by decide +kernel
theorem dX10_spread_105 : decode cX10_spread 105 = .ok (.iconst (-1), 1) := by decide +kernel
theorem dX10_spread_106 : decode cX10_spread 106 = .ok (.ireturn, 1) := by decide +kernel
theorem dX10_road_0 : decode cX10_road 0 = .ok (.iload_n 1, 1) := by decide +kernel
theorem dX10_road_1 : decode cX10_road 1 = .ok (.invokestatic 245, 3) := by decide +kernel
theorem dX10_road_4 : decode cX10_road 4 = .ok (.ifCond .eq 25, 3) := by decide +kernel
theorem dX10_road_7 : decode cX10_road 7 = .ok (.iload_n 2, 1) := by decide +kernel
theorem dX10_road_8 : decode cX10_road 8 = .ok (.invokestatic 245, 3) := by decide +kernel
theorem dX10_road_11 : decode cX10_road 11 = .ok (.ifCond .eq 18, 3) := by decide +kernel
theorem dX10_road_14 : decode cX10_road 14 = .ok (.iload 4, 2) := by decide +kernel
theorem dX10_road_16 : decode cX10_road 16 = .ok (.iconst (-1), 1) := by decide +kernel
theorem dX10_road_17 : decode cX10_road 17 = .ok (.if_icmp .eq 16, 3) := by decide +kernel
theorem dX10_road_20 : decode cX10_road 20 = .ok (.aload_n 0, 1) := by decide +kernel
theorem dX10_road_21 : decode cX10_road 21 = .ok (.iload 4, 2) := by decide +kernel
theorem dX10_road_23 : decode cX10_road 23 = .ok (.invokevirtual 104, 3) := by decide +kernel
theorem dX10_road_26 : decode cX10_road 26 = .ok (.ifnonnull 7, 3) := by decide +kernel
theorem dX10_road_29 : decode cX10_road 29 = .ok (.sipush (-1001), 3) := by decide +kernel
theorem dX10_road_32 : decode cX10_road 32 = .ok (.ireturn, 1) := by decide +kernel
theorem dX10_road_33 : decode cX10_road 33 = .ok (.iload_n 3, 1) := by decide +kernel
theorem dX10_road_34 : decode cX10_road 34 = .ok (.iconst 1, 1) := by decide +kernel
theorem dX10_road_35 : decode cX10_road 35 = .ok (.sipush 500, 3) := by decide +kernel
theorem dX10_road_38 : decode cX10_road 38 = .ok (.invokestatic 132, 3) := by decide +kernel
theorem dX10_road_41 : decode cX10_road 41 = .ok (.ifCond .eq 8, 3) := by decide +kernel
theorem dX10_road_44 : decode cX10_road 44 = .ok (.iload_n 1, 1) := by decide +kernel
theorem dX10_road_45 : decode cX10_road 45 = .ok (.iload_n 2, 1) := by decide +kernel
theorem dX10_road_46 : decode cX10_road 46 = .ok (.if_icmp .ne 7, 3) := by decide +kernel
theorem dX10_road_49 : decode cX10_road 49 = .ok (.sipush (-1002), 3) := by decide +kernel
theorem dX10_road_52 : decode cX10_road 52 = .ok (.ireturn, 1) := by decide +kernel
theorem dX10_road_53 : decode cX10_road 53 = .ok (.aload_n 0, 1) := by decide +kernel
theorem dX10_road_54 : decode cX10_road 54 = .ok (.getfield 34, 3) := by decide +kernel
theorem dX10_road_57 : decode cX10_road 57 = .ok (.iload_n 1, 1) := by decide +kernel
theorem dX10_road_58 : decode cX10_road 58 = .ok (.iload_n 2, 1) := by decide +kernel
theorem dX10_road_59 : decode cX10_road 59 = .ok (.iload_n 3, 1) := by decide +kernel
theorem dX10_road_60 : decode cX10_road 60 = .ok (.iload 4, 2) := by decide +kernel
theorem dX10_road_62 : decode cX10_road 62 = .ok (.invokevirtual 249, 3) := by decide +kernel
theorem dX10_road_65 : decode cX10_road 65 = .ok (.ifCond .ne 7, 3) := by decide +kernel
theorem dX10_road_68 : decode cX10_road 68 = .ok (.sipush (-1004), 3) := by decide +kernel
theorem dX10_road_71 : decode cX10_road 71 = .ok (.ireturn, 1) := by decide +kernel
theorem dX10_road_72 : decode cX10_road 72 = .ok (.aload_n 0, 1) := by decide +kernel
theorem dX10_road_73 : decode cX10_road 73 = .ok (.getfield 34, 3) := by decide +kernel
theorem dX10_road_76 : decode cX10_road 76 = .ok (.getfield 253, 3) := by decide +kernel
theorem dX10_road_79 : decode cX10_road 79 = .ok (.iconst 1, 1) := by decide +kernel
theorem dX10_road_80 : decode cX10_road 80 = .ok (.isub, 1) := by decide +kernel
theorem dX10_road_81 : decode cX10_road 81 = .ok (.ireturn, 1) := by decide +kernel
theorem dX10_route_0 : decode cX10_route 0 = .ok (.aload_n 0, 1) := by decide +kernel
theorem dX10_route_1 : decode cX10_route 1 = .ok (.iload_n 1, 1) := by decide +kernel
theorem dX10_route_2 : decode cX10_route 2 = .ok (.invokevirtual 163, 3) := by decide +kernel
theorem dX10_route_5 : decode cX10_route 5 = .ok (.astore 6, 2) := by decide +kernel
theorem dX10_route_7 : decode cX10_route 7 = .ok (.aload 6, 2) := by decide +kernel
theorem dX10_route_9 : decode cX10_route 9 = .ok (.ifnull 18, 3) := by decide +kernel
theorem dX10_route_12 : decode cX10_route 12 = .ok (.iload_n 3, 1) := by decide +kernel
theorem dX10_route_13 : decode cX10_route 13 = .ok (.invokestatic 245, 3) := by decide +kernel
theorem dX10_route_16 : decode cX10_route 16 = .ok (.ifCond .eq 11, 3) := by decide +kernel
theorem dX10_route_19 : decode cX10_route 19 = .ok (.iload 4, 2) := by decide +kernel
theorem dX10_route_21 : decode cX10_route 21 = .ok (.invokestatic 245, 3) := by decide +kernel
theorem dX10_route_24 : decode cX10_route 24 = .ok (.ifCond .ne 7, 3) := by decide +kernel
theorem dX10_route_27 : decode cX10_route 27 = .ok (.sipush (-1001), 3) := by decide +kernel
theorem dX10_route_30 : decode cX10_route 30 = .ok (.ireturn, 1) := by decide +kernel
theorem dX10_route_31 : decode cX10_route 31 = .ok (.iload_n 2, 1) := by decide +kernel
theorem dX10_route_32 : decode cX10_route 32 = .ok (.iconst 0, 1) := by decide +kernel
theorem dX10_route_33 : decode cX10_route 33 = .ok (.iconst 2, 1) := by decide +kernel
theorem dX10_route_34 : decode cX10_route 34 = .ok (.invokestatic 132, 3) := by decide +kernel
theorem dX10_route_37 : decode cX10_route 37 = .ok (.ifCond .eq 20, 3) := by decide +kernel
theorem dX10_route_40 : decode cX10_route 40 = .ok (.iload 5, 2) := by decide +kernel
theorem dX10_route_42 : decode cX10_route 42 = .ok (.iconst 0, 1) := by decide +kernel
theorem dX10_route_43 : decode cX10_route 43 = .ok (.bipush 11, 2) := by decide +kernel
theorem dX10_route_45 : decode cX10_route 45 = .ok (.invokestatic 132, 3) := by decide +kernel
theorem dX10_route_48 : decode cX10_route 48 = .ok (.ifCond .eq 9, 3) := by decide +kernel
theorem dX10_route_51 : decode cX10_route 51 = .ok (.iload_n 3, 1) := by decide +kernel
theorem dX10_route_52 : decode cX10_route 52 = .ok (.iload 4, 2) := by decide +kernel
theorem dX10_route_54 : decode cX10_route 54 = .ok (.if_icmp .ne 7, 3) := by decide +kernel
theorem dX10_route_57 : decode cX10_route 57 = .ok (.sipush (-1002), 3) := by decide +kernel
theorem dX10_route_60 : decode cX10_route 60 = .ok (.ireturn, 1) := by decide +kernel
theorem dX10_route_61 : decode cX10_route 61 = .ok (.aload_n 0, 1) := by decide +kernel
theorem dX10_route_62 : decode cX10_route 62 = .ok (.aload 6, 2) := by decide +kernel
theorem dX10_route_64 : decode cX10_route 64 = .ok (.iload_n 2, 1) := by decide +kernel
theorem dX10_route_65 : decode cX10_route 65 = .ok (.invokevirtual 256, 3) := by decide +kernel
theorem dX10_route_68 : decode cX10_route 68 = .ok (.aload_n 0, 1) := by decide +kernel
theorem dX10_route_69 : decode cX10_route 69 = .ok (.getfield 34, 3) := by decide +kernel
theorem dX10_route_72 : decode cX10_route 72 = .ok (.iload_n 3, 1) := by decide +kernel
theorem dX10_route_73 : decode cX10_route 73 = .ok (.iload 4, 2) := by decide +kernel
theorem dX10_route_75 : decode cX10_route 75 = .ok (.invokevirtual 259, 3) := by decide +kernel
theorem dX10_route_78 : decode cX10_route 78 = .ok (.ifCond .ne 5, 3) := by decide +kernel
theorem dX10_route_81 : decode cX10_route 81 = .ok (.iconst (-1), 1) := by decide +kernel
theorem dX10_route_82 : decode cX10_route 82 = .ok (.ireturn, 1) := by decide +kernel
theorem dX10_route_83 : decode cX10_route 83 = .ok (.iload 5, 2) := by decide +kernel
theorem dX10_route_85 : decode cX10_route 85 = .ok (.ifCond .ne 11, 3) := by decide +kernel
theorem dX10_route_88 : decode cX10_route 88 = .ok (.aload_n 0, 1) := by decide +kernel
theorem dX10_route_89 : decode cX10_route 89 = .ok (.getfield 34, 3) := by decide +kernel
theorem dX10_route_92 : decode cX10_route 92 = .ok (.getfield 262, 3) := by decide +kernel
theorem dX10_route_95 : decode cX10_route 95 = .ok (.ireturn, 1) := by decide +kernel
theorem dX10_route_96 : decode cX10_route 96 = .ok (.iload 5, 2) := by decide +kernel
theorem dX10_route_98 : decode cX10_route 98 = .ok (.iconst 1, 1) := by decide +kernel
theorem dX10_route_99 : decode cX10_route 99 = .ok (.if_icmp .ne 11, 3) := by decide +kernel
theorem dX10_route_102 : decode cX10_route 102 = .ok (.aload_n 0, 1) := by decide +kernel
theorem dX10_route_103 : decode cX10_route 103 = .ok (.getfield 34, 3) := by decide +kernel
theorem dX10_route_106 : decode cX10_route 106 = .ok (.getfield 265, 3) := by decide +kernel
theorem dX10_route_109 : decode cX10_route 109 = .ok (.ireturn, 1) := by decide +kernel
theorem dX10_route_110 : decode cX10_route 110 = .ok (.aload_n 0, 1) := by decide +kernel
theorem dX10_route_111 : decode cX10_route 111 = .ok (.getfield 34, 3) := by decide +kernel
theorem dX10_route_114 : decode cX10_route 114 = .ok (.iload 5, 2) := by decide +kernel
theorem dX10_route_116 : decode cX10_route 116 = .ok (.iconst 2, 1) := by decide +kernel
theorem dX10_route_117 : decode cX10_route 117 = .ok (.isub, 1) := by decide +kernel
theorem dX10_route_118 : decode cX10_route 118 = .ok (.invokevirtual 268, 3) := by decide +kernel
theorem dX10_route_121 : decode cX10_route 121 = .ok (.ireturn, 1) := by decide +kernel
theorem dX10_why_0 : decode cX10_why 0 = .ok (.aload_n 0, 1) := by decide +kernel
theorem dX10_why_1 : decode cX10_why 1 = .ok (.iload_n 1, 1) := by decide +kernel
theorem dX10_why_2 : decode cX10_why 2 = .ok (.invokevirtual 163, 3) := by decide +kernel
theorem dX10_why_5 : decode cX10_why 5 = .ok (.astore 5, 2) := by decide +kernel
theorem dX10_why_7 : decode cX10_why 7 = .ok (.aload 5, 2) := by decide +kernel
theorem dX10_why_9 : decode cX10_why 9 = .ok (.ifnull 18, 3) := by decide +kernel
theorem dX10_why_12 : decode cX10_why 12 = .ok (.iload_n 3, 1) := by decide +kernel
theorem dX10_why_13 : decode cX10_why 13 = .ok (.invokestatic 245, 3) := by decide +kernel
theorem dX10_why_16 : decode cX10_why 16 = .ok (.ifCond .eq 11, 3) := by decide +kernel
theorem dX10_why_19 : decode cX10_why 19 = .ok (.iload 4, 2) := by decide +kernel
theorem dX10_why_21 : decode cX10_why 21 = .ok (.invokestatic 245, 3) := by decide +kernel
theorem dX10_why_24 : decode cX10_why 24 = .ok (.ifCond .ne 7, 3) := by decide +kernel
theorem dX10_why_27 : decode cX10_why 27 = .ok (.sipush (-1001), 3) := by decide +kernel
theorem dX10_why_30 : decode cX10_why 30 = .ok (.ireturn, 1) := by decide +kernel
theorem dX10_why_31 : decode cX10_why 31 = .ok (.iload_n 2, 1) := by decide +kernel
theorem dX10_why_32 : decode cX10_why 32 = .ok (.iconst 0, 1) := by decide +kernel
theorem dX10_why_33 : decode cX10_why 33 = .ok (.iconst 2, 1) := by decide +kernel
theorem dX10_why_34 : decode cX10_why 34 = .ok (.invokestatic 132, 3) := by decide +kernel
theorem dX10_why_37 : decode cX10_why 37 = .ok (.ifCond .eq 9, 3) := by decide +kernel
theorem dX10_why_40 : decode cX10_why 40 = .ok (.iload_n 3, 1) := by decide +kernel
theorem dX10_why_41 : decode cX10_why 41 = .ok (.iload 4, 2) := by decide +kernel
theorem dX10_why_43 : decode cX10_why 43 = .ok (.if_icmp .ne 7, 3) := by decide +kernel
theorem dX10_why_46 : decode cX10_why 46 = .ok (.sipush (-1002), 3) := by decide +kernel
theorem dX10_why_49 : decode cX10_why 49 = .ok (.ireturn, 1) := by decide +kernel
theorem dX10_why_50 : decode cX10_why 50 = .ok (.aload_n 0, 1) := by decide +kernel
theorem dX10_why_51 : decode cX10_why 51 = .ok (.aload 5, 2) := by decide +kernel
theorem dX10_why_53 : decode cX10_why 53 = .ok (.iload_n 2, 1) := by decide +kernel
theorem dX10_why_54 : decode cX10_why 54 = .ok (.invokevirtual 256, 3) := by decide +kernel
theorem dX10_why_57 : decode cX10_why 57 = .ok (.aload_n 0, 1) := by decide +kernel
theorem dX10_why_58 : decode cX10_why 58 = .ok (.getfield 34, 3) := by decide +kernel
theorem dX10_why_61 : decode cX10_why 61 = .ok (.iload_n 3, 1) := by decide +kernel
theorem dX10_why_62 : decode cX10_why 62 = .ok (.iload 4, 2) := by decide +kernel
theorem dX10_why_64 : decode cX10_why 64 = .ok (.invokevirtual 259, 3) := by decide +kernel
theorem dX10_why_67 : decode cX10_why 67 = .ok (.ifCond .eq 5, 3) := by decide +kernel
theorem dX10_why_70 : decode cX10_why 70 = .ok (.iconst (-1), 1) := by decide +kernel
theorem dX10_why_71 : decode cX10_why 71 = .ok (.ireturn, 1) := by decide +kernel
theorem dX10_why_72 : decode cX10_why 72 = .ok (.aload_n 0, 1) := by decide +kernel
theorem dX10_why_73 : decode cX10_why 73 = .ok (.getfield 34, 3) := by decide +kernel
theorem dX10_why_76 : decode cX10_why 76 = .ok (.invokevirtual 272, 3) := by decide +kernel
theorem dX10_why_79 : decode cX10_why 79 = .ok (.aload_n 0, 1) := by decide +kernel
theorem dX10_why_80 : decode cX10_why 80 = .ok (.getfield 34, 3) := by decide +kernel
theorem dX10_why_83 : decode cX10_why 83 = .ok (.iload_n 3, 1) := by decide +kernel
theorem dX10_why_84 : decode cX10_why 84 = .ok (.iload 4, 2) := by decide +kernel
theorem dX10_why_86 : decode cX10_why 86 = .ok (.invokevirtual 259, 3) := by decide +kernel
theorem dX10_why_89 : decode cX10_why 89 = .ok (.ifCond .ne 5, 3) := by decide +kernel
theorem dX10_why_92 : decode cX10_why 92 = .ok (.iconst (-1), 1) := by decide +kernel
theorem dX10_why_93 : decode cX10_why 93 = .ok (.ireturn, 1) := by decide +kernel
theorem dX10_why_94 : decode cX10_why 94 = .ok (.aload_n 0, 1) := by decide +kernel
theorem dX10_why_95 : decode cX10_why 95 = .ok (.invokevirtual 275, 3) := by decide +kernel
theorem dX10_why_98 : decode cX10_why 98 = .ok (.ireturn, 1) := by decide +kernel
theorem dX10_wear_0 : decode cX10_wear 0 = .ok (.aload_n 0, 1) := by decide +kernel
theorem dX10_wear_1 : decode cX10_wear 1 = .ok (.iload_n 1, 1) := by decide +kernel
theorem dX10_wear_2 : decode cX10_wear 2 = .ok (.invokevirtual 104, 3) := by decide +kernel
theorem dX10_wear_5 : decode cX10_wear 5 = .ok (.astore 6, 2) := by decide +kernel
theorem dX10_wear_7 : decode cX10_wear 7 = .ok (.aload_n 0, 1) := by decide +kernel
theorem dX10_wear_8 : decode cX10_wear 8 = .ok (.iload 4, 2) := by decide +kernel
theorem dX10_wear_10 : decode cX10_wear 10 = .ok (.invokevirtual 163, 3) := by decide +kernel
theorem dX10_wear_13 : decode cX10_wear 13 = .ok (.astore 7, 2) := by decide +kernel
theorem dX10_wear_15 : decode cX10_wear 15 = .ok (.aload 6, 2) := by decide +kernel
theorem dX10_wear_17 : decode cX10_wear 17 = .ok (.ifnull 18, 3) := by decide +kernel
theorem dX10_wear_20 : decode cX10_wear 20 = .ok (.aload 6, 2) := by decide +kernel
theorem dX10_wear_22 : decode cX10_wear 22 = .ok (.iload_n 2, 1) := by decide +kernel
theorem dX10_wear_23 : decode cX10_wear 23 = .ok (.iload_n 3, 1) := by decide +kernel
theorem dX10_wear_24 : decode cX10_wear 24 = .ok (.invokevirtual 123, 3) := by decide +kernel
theorem dX10_wear_27 : decode cX10_wear 27 = .ok (.ifCond .ne 8, 3) := by decide +kernel
theorem dX10_wear_30 : decode cX10_wear 30 = .ok (.aload 7, 2) := by decide +kernel
theorem dX10_wear_32 : decode cX10_wear 32 = .ok (.ifnonnull 7, 3) := by decide +kernel
theorem dX10_wear_35 : decode cX10_wear 35 = .ok (.ldc2_w 127, 3) := by decide +kernel
theorem dX10_wear_38 : decode cX10_wear 38 = .ok (.lreturn, 1) := by decide +kernel
theorem dX10_wear_39 : decode cX10_wear 39 = .ok (.aload 6, 2) := by decide +kernel
theorem dX10_wear_41 : decode cX10_wear 41 = .ok (.iload_n 2, 1) := by decide +kernel
theorem dX10_wear_42 : decode cX10_wear 42 = .ok (.iload_n 3, 1) := by decide +kernel
theorem dX10_wear_43 : decode cX10_wear 43 = .ok (.invokevirtual 129, 3) := by decide +kernel
theorem dX10_wear_46 : decode cX10_wear 46 = .ok (.ifCond .eq 13, 3) := by decide +kernel
theorem dX10_wear_49 : decode cX10_wear 49 = .ok (.iload 5, 2) := by decide +kernel
theorem dX10_wear_51 : decode cX10_wear 51 = .ok (.iconst 0, 1) := by decide +kernel
theorem dX10_wear_52 : decode cX10_wear 52 = .ok (.iconst 2, 1) := by decide +kernel
theorem dX10_wear_53 : decode cX10_wear 53 = .ok (.invokestatic 132, 3) := by decide +kernel
theorem dX10_wear_56 : decode cX10_wear 56 = .ok (.ifCond .ne 7, 3) := by decide +kernel
theorem dX10_wear_59 : decode cX10_wear 59 = .ok (.ldc2_w 136, 3) := by decide +kernel
theorem dX10_wear_62 : decode cX10_wear 62 = .ok (.lreturn, 1) := by decide +kernel
theorem dX10_wear_63 : decode cX10_wear 63 = .ok (.aload_n 0, 1) := by decide +kernel
theorem dX10_wear_64 : decode cX10_wear 64 = .ok (.getfield 48, 3) := by decide +kernel
theorem dX10_wear_67 : decode cX10_wear 67 = .ok (.aload 6, 2) := by decide +kernel
theorem dX10_wear_69 : decode cX10_wear 69 = .ok (.iload_n 2, 1) := by decide +kernel
theorem dX10_wear_70 : decode cX10_wear 70 = .ok (.iload_n 3, 1) := by decide +kernel
theorem dX10_wear_71 : decode cX10_wear 71 = .ok (.invokevirtual 138, 3) := by decide +kernel
theorem dX10_wear_74 : decode cX10_wear 74 = .ok (.aload_n 0, 1) := by decide +kernel
theorem dX10_wear_75 : decode cX10_wear 75 = .ok (.getfield 55, 3) := by decide +kernel
theorem dX10_wear_78 : decode cX10_wear 78 = .ok (.aload_n 0, 1) := by decide +kernel
theorem dX10_wear_79 : decode cX10_wear 79 = .ok (.getfield 48, 3) := by decide +kernel
theorem dX10_wear_82 : decode cX10_wear 82 = .ok (.aload 7, 2) := by decide +kernel
theorem dX10_wear_84 : decode cX10_wear 84 = .ok (.iconst 0, 1) := by decide +kernel
theorem dX10_wear_85 : decode cX10_wear 85 = .ok (.invokevirtual 278, 3) := by decide +kernel
theorem dX10_wear_88 : decode cX10_wear 88 = .ok (.aload_n 0, 1) := by decide +kernel
theorem dX10_wear_89 : decode cX10_wear 89 = .ok (.getfield 76, 3) := by decide +kernel
theorem dX10_wear_92 : decode cX10_wear 92 = .ok (.aload_n 0, 1) := by decide +kernel
theorem dX10_wear_93 : decode cX10_wear 93 = .ok (.getfield 55, 3) := by decide +kernel
theorem dX10_wear_96 : decode cX10_wear 96 = .ok (.aload_n 0, 1) := by decide +kernel
theorem dX10_wear_97 : decode cX10_wear 97 = .ok (.getfield 48, 3) := by decide +kernel
theorem dX10_wear_100 : decode cX10_wear 100 = .ok (.invokevirtual 282, 3) := by decide +kernel
theorem dX10_wear_103 : decode cX10_wear 103 = .ok (.iload 5, 2) := by decide +kernel
theorem dX10_wear_105 : decode cX10_wear 105 = .ok (.ifCond .ne 11, 3) := by decide +kernel
theorem dX10_wear_108 : decode cX10_wear 108 = .ok (.aload_n 0, 1) := by decide +kernel
theorem dX10_wear_109 : decode cX10_wear 109 = .ok (.getfield 76, 3) := by decide +kernel
theorem dX10_wear_112 : decode cX10_wear 112 = .ok (.getfield 286, 3) := by decide +kernel
theorem dX10_wear_115 : decode cX10_wear 115 = .ok (.lreturn, 1) := by decide +kernel
theorem dX10_wear_116 : decode cX10_wear 116 = .ok (.iload 5, 2) := by decide +kernel
theorem dX10_wear_118 : decode cX10_wear 118 = .ok (.iconst 1, 1) := by decide +kernel
theorem dX10_wear_119 : decode cX10_wear 119 = .ok (.if_icmp .ne 14, 3) := by decide +kernel
theorem dX10_wear_122 : decode cX10_wear 122 = .ok (.aload_n 0, 1) := by decide +kernel
theorem dX10_wear_123 : decode cX10_wear 123 = .ok (.getfield 76, 3) := by decide +kernel
theorem dX10_wear_126 : decode cX10_wear 126 = .ok (.getfield 289, 3) := by decide +kernel
theorem dX10_wear_129 : decode cX10_wear 129 = .ok (.i2l, 1) := by decide +kernel
theorem dX10_wear_130 : decode cX10_wear 130 = .ok (.goto 11, 3) := by decide +kernel
theorem dX10_wear_133 : decode cX10_wear 133 = .ok (.aload_n 0, 1) := by decide +kernel
theorem dX10_wear_134 : decode cX10_wear 134 = .ok (.getfield 76, 3) := by decide +kernel
theorem dX10_wear_137 : decode cX10_wear 137 = .ok (.getfield 292, 3) := by decide +kernel
theorem dX10_wear_140 : decode cX10_wear 140 = .ok (.i2l, 1) := by decide +kernel
theorem dX10_wear_141 : decode cX10_wear 141 = .ok (.lreturn, 1) := by decide +kernel
theorem dX10_traffic_0 : decode cX10_traffic 0 = .ok (.aload_n 0, 1) := by decide +kernel
theorem dX10_traffic_1 : decode cX10_traffic 1 = .ok (.iload_n 1, 1) := by decide +kernel
theorem dX10_traffic_2 : decode cX10_traffic 2 = .ok (.invokevirtual 163, 3) := by decide +kernel
theorem dX10_traffic_5 : decode cX10_traffic 5 = .ok (.astore_n 3, 1) := by decide +kernel
theorem dX10_traffic_6 : decode cX10_traffic 6 = .ok (.aload_n 3, 1) := by decide +kernel
theorem dX10_traffic_7 : decode cX10_traffic 7 = .ok (.ifnonnull 7, 3) := by decide +kernel
theorem dX10_traffic_10 : decode cX10_traffic 10 = .ok (.sipush (-1001), 3) := by decide +kernel
theorem dX10_traffic_13 : decode cX10_traffic 13 = .ok (.ireturn, 1) := by decide +kernel
theorem dX10_traffic_14 : decode cX10_traffic 14 = .ok (.iload_n 2, 1) := by decide +kernel
theorem dX10_traffic_15 : decode cX10_traffic 15 = .ok (.iconst 0, 1) := by decide +kernel
theorem dX10_traffic_16 : decode cX10_traffic 16 = .ok (.sipush 1000, 3) := by decide +kernel
theorem dX10_traffic_19 : decode cX10_traffic 19 = .ok (.invokestatic 132, 3) := by decide +kernel
theorem dX10_traffic_22 : decode cX10_traffic 22 = .ok (.ifCond .ne 7, 3) := by decide +kernel
theorem dX10_traffic_25 : decode cX10_traffic 25 = .ok (.sipush (-1002), 3) := by decide +kernel
theorem dX10_traffic_28 : decode cX10_traffic 28 = .ok (.ireturn, 1) := by decide +kernel
theorem dX10_traffic_29 : decode cX10_traffic 29 = .ok (.aload_n 3, 1) := by decide +kernel
theorem dX10_traffic_30 : decode cX10_traffic 30 = .ok (.getfield 295, 3) := by decide +kernel
theorem dX10_traffic_33 : decode cX10_traffic 33 = .ok (.istore 4, 2) := by decide +kernel
theorem dX10_traffic_35 : decode cX10_traffic 35 = .ok (.aload_n 3, 1) := by decide +kernel
theorem dX10_traffic_36 : decode cX10_traffic 36 = .ok (.iload_n 2, 1) := by decide +kernel
theorem dX10_traffic_37 : decode cX10_traffic 37 = .ok (.putfield 295, 3) := by decide +kernel
theorem dX10_traffic_40 : decode cX10_traffic 40 = .ok (.iload 4, 2) := by decide +kernel
theorem dX10_traffic_42 : decode cX10_traffic 42 = .ok (.ireturn, 1) := by decide +kernel
theorem dX10_worn_0 : decode cX10_worn 0 = .ok (.aload_n 0, 1) := by decide +kernel
theorem dX10_worn_1 : decode cX10_worn 1 = .ok (.iload_n 1, 1) := by decide +kernel
theorem dX10_worn_2 : decode cX10_worn 2 = .ok (.invokevirtual 104, 3) := by decide +kernel
theorem dX10_worn_5 : decode cX10_worn 5 = .ok (.astore 4, 2) := by decide +kernel
theorem dX10_worn_7 : decode cX10_worn 7 = .ok (.aload 4, 2) := by decide +kernel
theorem dX10_worn_9 : decode cX10_worn 9 = .ok (.ifnull 13, 3) := by decide +kernel
theorem dX10_worn_12 : decode cX10_worn 12 = .ok (.aload 4, 2) := by decide +kernel
theorem dX10_worn_14 : decode cX10_worn 14 = .ok (.iload_n 2, 1) := by decide +kernel
theorem dX10_worn_15 : decode cX10_worn 15 = .ok (.iload_n 3, 1) := by decide +kernel
theorem dX10_worn_16 : decode cX10_worn 16 = .ok (.invokevirtual 123, 3) := by decide +kernel
theorem dX10_worn_19 : decode cX10_worn 19 = .ok (.ifCond .eq 7, 3) := by decide +kernel
theorem dX10_worn_22 : decode cX10_worn 22 = .ok (.ldc2_w 127, 3) := by decide +kernel
theorem dX10_worn_25 : decode cX10_worn 25 = .ok (.lreturn, 1) := by decide +kernel
theorem dX10_worn_26 : decode cX10_worn 26 = .ok (.aload 4, 2) := by decide +kernel
theorem dX10_worn_28 : decode cX10_worn 28 = .ok (.iload_n 2, 1) := by decide +kernel
theorem dX10_worn_29 : decode cX10_worn 29 = .ok (.iload_n 3, 1) := by decide +kernel
theorem dX10_worn_30 : decode cX10_worn 30 = .ok (.invokevirtual 129, 3) := by decide +kernel
theorem dX10_worn_33 : decode cX10_worn 33 = .ok (.ifCond .ne 7, 3) := by decide +kernel
theorem dX10_worn_36 : decode cX10_worn 36 = .ok (.ldc2_w 136, 3) := by decide +kernel
theorem dX10_worn_39 : decode cX10_worn 39 = .ok (.lreturn, 1) := by decide +kernel
theorem dX10_worn_40 : decode cX10_worn 40 = .ok (.aload_n 0, 1) := by decide +kernel
theorem dX10_worn_41 : decode cX10_worn 41 = .ok (.getfield 48, 3) := by decide +kernel
theorem dX10_worn_44 : decode cX10_worn 44 = .ok (.aload 4, 2) := by decide +kernel
theorem dX10_worn_46 : decode cX10_worn 46 = .ok (.iload_n 2, 1) := by decide +kernel
theorem dX10_worn_47 : decode cX10_worn 47 = .ok (.iload_n 3, 1) := by decide +kernel
theorem dX10_worn_48 : decode cX10_worn 48 = .ok (.invokevirtual 138, 3) := by decide +kernel
theorem dX10_worn_51 : decode cX10_worn 51 = .ok (.lconst 0, 1) := by decide +kernel
theorem dX10_worn_52 : decode cX10_worn 52 = .ok (.lstore 5, 2) := by decide +kernel
theorem dX10_worn_54 : decode cX10_worn 54 = .ok (.iconst 0, 1) := by decide +kernel
theorem dX10_worn_55 : decode cX10_worn 55 = .ok (.istore 7, 2) := by decide +kernel
theorem dX10_worn_57 : decode cX10_worn 57 = .ok (.iload 7, 2) := by decide +kernel
theorem dX10_worn_59 : decode cX10_worn 59 = .ok (.aload_n 0, 1) := by decide +kernel
theorem dX10_worn_60 : decode cX10_worn 60 = .ok (.getfield 25, 3) := by decide +kernel
theorem dX10_worn_63 : decode cX10_worn 63 = .ok (.if_icmp .ge 78, 3) := by decide +kernel
theorem dX10_worn_66 : decode cX10_worn 66 = .ok (.aload_n 0, 1) := by decide +kernel
theorem dX10_worn_67 : decode cX10_worn 67 = .ok (.iload 7, 2) := by decide +kernel
theorem dX10_worn_69 : decode cX10_worn 69 = .ok (.invokevirtual 163, 3) := by decide +kernel
theorem dX10_worn_72 : decode cX10_worn 72 = .ok (.astore 8, 2) := by decide +kernel
theorem dX10_worn_74 : decode cX10_worn 74 = .ok (.aload 8, 2) := by decide +kernel
theorem dX10_worn_76 : decode cX10_worn 76 = .ok (.ifnull 59, 3) := by decide +kernel
theorem dX10_worn_79 : decode cX10_worn 79 = .ok (.aload 8, 2) := by decide +kernel
theorem dX10_worn_81 : decode cX10_worn 81 = .ok (.getfield 295, 3) := by decide +kernel
theorem dX10_worn_84 : decode cX10_worn 84 = .ok (.ifCond .le 51, 3) := by decide +kernel
theorem dX10_worn_87 : decode cX10_worn 87 = .ok (.aload_n 0, 1) := by decide +kernel
theorem dX10_worn_88 : decode cX10_worn 88 = .ok (.getfield 55, 3) := by decide +kernel
theorem dX10_worn_91 : decode cX10_worn 91 = .ok (.aload_n 0, 1) := by decide +kernel
theorem dX10_worn_92 : decode cX10_worn 92 = .ok (.getfield 48, 3) := by decide +kernel
theorem dX10_worn_95 : decode cX10_worn 95 = .ok (.aload 8, 2) := by decide +kernel
theorem dX10_worn_97 : decode cX10_worn 97 = .ok (.iconst 0, 1) := by decide +kernel
theorem dX10_worn_98 : decode cX10_worn 98 = .ok (.invokevirtual 278, 3) := by decide +kernel
theorem dX10_worn_101 : decode cX10_worn 101 = .ok (.aload_n 0, 1) := by decide +kernel
theorem dX10_worn_102 : decode cX10_worn 102 = .ok (.getfield 76, 3) := by decide +kernel
theorem dX10_worn_105 : decode cX10_worn 105 = .ok (.aload_n 0, 1) := by decide +kernel
theorem dX10_worn_106 : decode cX10_worn 106 = .ok (.getfield 55, 3) := by decide +kernel
theorem dX10_worn_109 : decode cX10_worn 109 = .ok (.aload_n 0, 1) := by decide +kernel
theorem dX10_worn_110 : decode cX10_worn 110 = .ok (.getfield 48, 3) := by decide +kernel
theorem dX10_worn_113 : decode cX10_worn 113 = .ok (.invokevirtual 282, 3) := by decide +kernel
theorem dX10_worn_116 : decode cX10_worn 116 = .ok (.lload 5, 2) := by decide +kernel
theorem dX10_worn_118 : decode cX10_worn 118 = .ok (.aload 8, 2) := by decide +kernel
theorem dX10_worn_120 : decode cX10_worn 120 = .ok (.getfield 295, 3) := by decide +kernel
theorem dX10_worn_123 : decode cX10_worn 123 = .ok (.i2l, 1) := by decide +kernel
theorem dX10_worn_124 : decode cX10_worn 124 = .ok (.aload_n 0, 1) := by decide +kernel
theorem dX10_worn_125 : decode cX10_worn 125 = .ok (.getfield 76, 3) := by decide +kernel
theorem dX10_worn_128 : decode cX10_worn 128 = .ok (.getfield 286, 3) := by decide +kernel
theorem dX10_worn_131 : decode cX10_worn 131 = .ok (.lmul, 1) := by decide +kernel
theorem dX10_worn_132 : decode cX10_worn 132 = .ok (.ladd, 1) := by decide +kernel
theorem dX10_worn_133 : decode cX10_worn 133 = .ok (.lstore 5, 2) := by decide +kernel
theorem dX10_worn_135 : decode cX10_worn 135 = .ok (.iinc 7 1, 3) := by decide +kernel
theorem dX10_worn_138 : decode cX10_worn 138 = .ok (.goto (-81), 3) := by decide +kernel
theorem dX10_worn_141 : decode cX10_worn 141 = .ok (.lload 5, 2) := by decide +kernel
theorem dX10_worn_143 : decode cX10_worn 143 = .ok (.lreturn, 1) := by decide +kernel
theorem dX10_count_0 : decode cX10_count 0 = .ok (.iload_n 1, 1) := by decide +kernel
theorem dX10_count_1 : decode cX10_count 1 = .ok (.tableswitch 72 0 5 #[39, 44, 49, 57, 62, 67], 39) := by decide +kernel
theorem dX10_count_40 : decode cX10_count 40 = .ok (.aload_n 0, 1) := by decide +kernel
theorem dX10_count_41 : decode cX10_count 41 = .ok (.getfield 15, 3) := by decide +kernel
theorem dX10_count_44 : decode cX10_count 44 = .ok (.ireturn, 1) := by decide +kernel
theorem dX10_count_45 : decode cX10_count 45 = .ok (.aload_n 0, 1) := by decide +kernel
theorem dX10_count_46 : decode cX10_count 46 = .ok (.getfield 25, 3) := by decide +kernel
theorem dX10_count_49 : decode cX10_count 49 = .ok (.ireturn, 1) := by decide +kernel
theorem dX10_count_50 : decode cX10_count 50 = .ok (.aload_n 0, 1) := by decide +kernel
theorem dX10_count_51 : decode cX10_count 51 = .ok (.getfield 34, 3) := by decide +kernel
theorem dX10_count_54 : decode cX10_count 54 = .ok (.getfield 253, 3) := by decide +kernel
theorem dX10_count_57 : decode cX10_count 57 = .ok (.ireturn, 1) := by decide +kernel
theorem dX10_count_58 : decode cX10_count 58 = .ok (.aload_n 0, 1) := by decide +kernel
theorem dX10_count_59 : decode cX10_count 59 = .ok (.invokevirtual 298, 3) := by decide +kernel
theorem dX10_count_62 : decode cX10_count 62 = .ok (.ireturn, 1) := by decide +kernel
theorem dX10_count_63 : decode cX10_count 63 = .ok (.aload_n 0, 1) := by decide +kernel
theorem dX10_count_64 : decode cX10_count 64 = .ok (.getfield 28, 3) := by decide +kernel
theorem dX10_count_67 : decode cX10_count 67 = .ok (.ireturn, 1) := by decide +kernel
theorem dX10_count_68 : decode cX10_count 68 = .ok (.aload_n 0, 1) := by decide +kernel
theorem dX10_count_69 : decode cX10_count 69 = .ok (.invokevirtual 301, 3) := by decide +kernel
theorem dX10_count_72 : decode cX10_count 72 = .ok (.ireturn, 1) := by decide +kernel
theorem dX10_count_73 : decode cX10_count 73 = .ok (.sipush (-1002), 3) := by decide +kernel
theorem dX10_count_76 : decode cX10_count 76 = .ok (.ireturn, 1) := by decide +kernel
theorem dX10_within_0 : decode cX10_within 0 = .ok (.iload_n 0, 1) := by decide +kernel
theorem dX10_within_1 : decode cX10_within 1 = .ok (.iload_n 1, 1) := by decide +kernel
theorem dX10_within_2 : decode cX10_within 2 = .ok (.if_icmp .lt 12, 3) := by decide +kernel
theorem dX10_within_5 : decode cX10_within 5 = .ok (.iload_n 0, 1) := by decide +kernel
theorem dX10_within_6 : decode cX10_within 6 = .ok (.iload_n 2, 1) := by decide +kernel
theorem dX10_within_7 : decode cX10_within 7 = .ok (.if_icmp .gt 7, 3) := by decide +kernel
theorem dX10_within_10 : decode cX10_within 10 = .ok (.iconst 1, 1) := by decide +kernel
theorem dX10_within_11 : decode cX10_within 11 = .ok (.goto 4, 3) := by decide +kernel
theorem dX10_within_14 : decode cX10_within 14 = .ok (.iconst 0, 1) := by decide +kernel
theorem dX10_within_15 : decode cX10_within 15 = .ok (.ireturn, 1) := by decide +kernel
theorem dX10_isTown_0 : decode cX10_isTown 0 = .ok (.iload_n 0, 1) := by decide +kernel
theorem dX10_isTown_1 : decode cX10_isTown 1 = .ok (.iconst 0, 1) := by decide +kernel
theorem dX10_isTown_2 : decode cX10_isTown 2 = .ok (.bipush 9, 2) := by decide +kernel
theorem dX10_isTown_4 : decode cX10_isTown 4 = .ok (.invokestatic 132, 3) := by decide +kernel
theorem dX10_isTown_7 : decode cX10_isTown 7 = .ok (.ireturn, 1) := by decide +kernel
theorem dX10_limitsHold_0 : decode cX10_limitsHold 0 = .ok (.iload_n 0, 1) := by decide +kernel
theorem dX10_limitsHold_1 : decode cX10_limitsHold 1 = .ok (.iconst 0, 1) := by decide +kernel
theorem dX10_limitsHold_2 : decode cX10_limitsHold 2 = .ok (.ldc_w 304, 3) := by decide +kernel
theorem dX10_limitsHold_5 : decode cX10_limitsHold 5 = .ok (.invokestatic 132, 3) := by decide +kernel
theorem dX10_limitsHold_8 : decode cX10_limitsHold 8 = .ok (.ifCond .eq 18, 3) := by decide +kernel
theorem dX10_limitsHold_11 : decode cX10_limitsHold 11 = .ok (.iload_n 1, 1) := by decide +kernel
theorem dX10_limitsHold_12 : decode cX10_limitsHold 12 = .ok (.ldc_w 305, 3) := by decide +kernel
theorem dX10_limitsHold_15 : decode cX10_limitsHold 15 = .ok (.iconst 0, 1) := by decide +kernel
theorem dX10_limitsHold_16 : decode cX10_limitsHold 16 = .ok (.invokestatic 132, 3) := by decide +kernel
theorem dX10_limitsHold_19 : decode cX10_limitsHold 19 = .ok (.ifCond .eq 7, 3) := by decide +kernel
theorem dX10_limitsHold_22 : decode cX10_limitsHold 22 = .ok (.iconst 1, 1) := by decide +kernel
theorem dX10_limitsHold_23 : decode cX10_limitsHold 23 = .ok (.goto 4, 3) := by decide +kernel
theorem dX10_limitsHold_26 : decode cX10_limitsHold 26 = .ok (.iconst 0, 1) := by decide +kernel
theorem dX10_limitsHold_27 : decode cX10_limitsHold 27 = .ok (.ireturn, 1) := by decide +kernel
theorem dX10_wellFormed_0 : decode cX10_wellFormed 0 = .ok (.iload_n 0, 1) := by decide +kernel
theorem dX10_wellFormed_1 : decode cX10_wellFormed 1 = .ok (.iconst 2, 1) := by decide +kernel
theorem dX10_wellFormed_2 : decode cX10_wellFormed 2 = .ok (.bipush 60, 2) := by decide +kernel
theorem dX10_wellFormed_4 : decode cX10_wellFormed 4 = .ok (.invokestatic 132, 3) := by decide +kernel
theorem dX10_wellFormed_7 : decode cX10_wellFormed 7 = .ok (.ifCond .ne 5, 3) := by decide +kernel
theorem dX10_wellFormed_10 : decode cX10_wellFormed 10 = .ok (.iconst 0, 1) := by decide +kernel
theorem dX10_wellFormed_11 : decode cX10_wellFormed 11 = .ok (.ireturn, 1) := by decide +kernel
theorem dX10_wellFormed_12 : decode cX10_wellFormed 12 = .ok (.ldc2_w 306, 3) := by decide +kernel
theorem dX10_wellFormed_15 : decode cX10_wellFormed 15 = .ok (.iload_n 0, 1) := by decide +kernel
theorem dX10_wellFormed_16 : decode cX10_wellFormed 16 = .ok (.lshl, 1) := by decide +kernel
theorem dX10_wellFormed_17 : decode cX10_wellFormed 17 = .ok (.lconst 1, 1) := by decide +kernel
theorem dX10_wellFormed_18 : decode cX10_wellFormed 18 = .ok (.lsub, 1) := by decide +kernel
theorem dX10_wellFormed_19 : decode cX10_wellFormed 19 = .ok (.lstore 5, 2) := by decide +kernel
theorem dX10_wellFormed_21 : decode cX10_wellFormed 21 = .ok (.lconst 1, 1) := by decide +kernel
theorem dX10_wellFormed_22 : decode cX10_wellFormed 22 = .ok (.iload_n 0, 1) := by decide +kernel
theorem dX10_wellFormed_23 : decode cX10_wellFormed 23 = .ok (.lshl, 1) := by decide +kernel
theorem dX10_wellFormed_24 : decode cX10_wellFormed 24 = .ok (.ldc2_w 306, 3) := by decide +kernel
theorem dX10_wellFormed_27 : decode cX10_wellFormed 27 = .ok (.lsub, 1) := by decide +kernel
theorem dX10_wellFormed_28 : decode cX10_wellFormed 28 = .ok (.lstore 7, 2) := by decide +kernel
theorem dX10_wellFormed_30 : decode cX10_wellFormed 30 = .ok (.lload_n 1, 1) := by decide +kernel
theorem dX10_wellFormed_31 : decode cX10_wellFormed 31 = .ok (.invokestatic 308, 3) := by decide +kernel
theorem dX10_wellFormed_34 : decode cX10_wellFormed 34 = .ok (.istore 9, 2) := by decide +kernel
theorem dX10_wellFormed_36 : decode cX10_wellFormed 36 = .ok (.lload_n 1, 1) := by decide +kernel
theorem dX10_wellFormed_37 : decode cX10_wellFormed 37 = .ok (.lload 5, 2) := by decide +kernel
theorem dX10_wellFormed_39 : decode cX10_wellFormed 39 = .ok (.ldc2_w 314, 3) := by decide +kernel
theorem dX10_wellFormed_42 : decode cX10_wellFormed 42 = .ok (.lxor, 1) := by decide +kernel
theorem dX10_wellFormed_43 : decode cX10_wellFormed 43 = .ok (.land, 1) := by decide +kernel
theorem dX10_wellFormed_44 : decode cX10_wellFormed 44 = .ok (.lconst 0, 1) := by decide +kernel
theorem dX10_wellFormed_45 : decode cX10_wellFormed 45 = .ok (.lcmp, 1) := by decide +kernel
theorem dX10_wellFormed_46 : decode cX10_wellFormed 46 = .ok (.ifCond .ne 49, 3) := by decide +kernel
theorem dX10_wellFormed_49 : decode cX10_wellFormed 49 = .ok (.iload 9, 2) := by decide +kernel
theorem dX10_wellFormed_51 : decode cX10_wellFormed 51 = .ok (.iconst 2, 1) := by decide +kernel
theorem dX10_wellFormed_52 : decode cX10_wellFormed 52 = .ok (.iconst 5, 1) := by decide +kernel
theorem dX10_wellFormed_53 : decode cX10_wellFormed 53 = .ok (.invokestatic 132, 3) := by decide +kernel
theorem dX10_wellFormed_56 : decode cX10_wellFormed 56 = .ok (.ifCond .eq 39, 3) := by decide +kernel
theorem dX10_wellFormed_59 : decode cX10_wellFormed 59 = .ok (.lload_n 3, 1) := by decide +kernel
theorem dX10_wellFormed_60 : decode cX10_wellFormed 60 = .ok (.lload 7, 2) := by decide +kernel
theorem dX10_wellFormed_62 : decode cX10_wellFormed 62 = .ok (.ldc2_w 314, 3) := by decide +kernel
theorem dX10_wellFormed_65 : decode cX10_wellFormed 65 = .ok (.lxor, 1) := by decide +kernel
theorem dX10_wellFormed_66 : decode cX10_wellFormed 66 = .ok (.land, 1) := by decide +kernel
theorem dX10_wellFormed_67 : decode cX10_wellFormed 67 = .ok (.lconst 0, 1) := by decide +kernel
theorem dX10_wellFormed_68 : decode cX10_wellFormed 68 = .ok (.lcmp, 1) := by decide +kernel
theorem dX10_wellFormed_69 : decode cX10_wellFormed 69 = .ok (.ifCond .ne 26, 3) := by decide +kernel
theorem dX10_wellFormed_72 : decode cX10_wellFormed 72 = .ok (.lload_n 3, 1) := by decide +kernel
theorem dX10_wellFormed_73 : decode cX10_wellFormed 73 = .ok (.lload_n 1, 1) := by decide +kernel
theorem dX10_wellFormed_74 : decode cX10_wellFormed 74 = .ok (.land, 1) := by decide +kernel
theorem dX10_wellFormed_75 : decode cX10_wellFormed 75 = .ok (.lconst 0, 1) := by decide +kernel
theorem dX10_wellFormed_76 : decode cX10_wellFormed 76 = .ok (.lcmp, 1) := by decide +kernel
theorem dX10_wellFormed_77 : decode cX10_wellFormed 77 = .ok (.ifCond .ne 18, 3) := by decide +kernel
theorem dX10_wellFormed_80 : decode cX10_wellFormed 80 = .ok (.lload_n 3, 1) := by decide +kernel
theorem dX10_wellFormed_81 : decode cX10_wellFormed 81 = .ok (.invokestatic 308, 3) := by decide +kernel
theorem dX10_wellFormed_84 : decode cX10_wellFormed 84 = .ok (.iload 9, 2) := by decide +kernel
theorem dX10_wellFormed_86 : decode cX10_wellFormed 86 = .ok (.iconst 2, 1) := by decide +kernel
theorem dX10_wellFormed_87 : decode cX10_wellFormed 87 = .ok (.isub, 1) := by decide +kernel
theorem dX10_wellFormed_88 : decode cX10_wellFormed 88 = .ok (.if_icmp .ne 7, 3) := by decide +kernel
theorem dX10_wellFormed_91 : decode cX10_wellFormed 91 = .ok (.iconst 1, 1) := by decide +kernel
theorem dX10_wellFormed_92 : decode cX10_wellFormed 92 = .ok (.goto 4, 3) := by decide +kernel
theorem dX10_wellFormed_95 : decode cX10_wellFormed 95 = .ok (.iconst 0, 1) := by decide +kernel
theorem dX10_wellFormed_96 : decode cX10_wellFormed 96 = .ok (.ireturn, 1) := by decide +kernel
theorem dX10_placesOf_0 : decode cX10_placesOf 0 = .ok (.lload_n 0, 1) := by decide +kernel
theorem dX10_placesOf_1 : decode cX10_placesOf 1 = .ok (.invokestatic 308, 3) := by decide +kernel
theorem dX10_placesOf_4 : decode cX10_placesOf 4 = .ok (.newarray .int, 2) := by decide +kernel
theorem dX10_placesOf_6 : decode cX10_placesOf 6 = .ok (.astore_n 2, 1) := by decide +kernel
theorem dX10_placesOf_7 : decode cX10_placesOf 7 = .ok (.iconst 0, 1) := by decide +kernel
theorem dX10_placesOf_8 : decode cX10_placesOf 8 = .ok (.istore_n 3, 1) := by decide +kernel
theorem dX10_placesOf_9 : decode cX10_placesOf 9 = .ok (.iconst 0, 1) := by decide +kernel
theorem dX10_placesOf_10 : decode cX10_placesOf 10 = .ok (.istore 4, 2) := by decide +kernel
theorem dX10_placesOf_12 : decode cX10_placesOf 12 = .ok (.iload 4, 2) := by decide +kernel
theorem dX10_placesOf_14 : decode cX10_placesOf 14 = .ok (.bipush 60, 2) := by decide +kernel
theorem dX10_placesOf_16 : decode cX10_placesOf 16 = .ok (.if_icmp .gt 34, 3) := by decide +kernel
theorem dX10_placesOf_19 : decode cX10_placesOf 19 = .ok (.iload_n 3, 1) := by decide +kernel
theorem dX10_placesOf_20 : decode cX10_placesOf 20 = .ok (.aload_n 2, 1) := by decide +kernel
theorem dX10_placesOf_21 : decode cX10_placesOf 21 = .ok (.arraylength, 1) := by decide +kernel
theorem dX10_placesOf_22 : decode cX10_placesOf 22 = .ok (.if_icmp .ge 28, 3) := by decide +kernel
theorem dX10_placesOf_25 : decode cX10_placesOf 25 = .ok (.lload_n 0, 1) := by decide +kernel
theorem dX10_placesOf_26 : decode cX10_placesOf 26 = .ok (.iload 4, 2) := by decide +kernel
theorem dX10_placesOf_28 : decode cX10_placesOf 28 = .ok (.lushr, 1) := by decide +kernel
theorem dX10_placesOf_29 : decode cX10_placesOf 29 = .ok (.lconst 1, 1) := by decide +kernel
theorem dX10_placesOf_30 : decode cX10_placesOf 30 = .ok (.land, 1) := by decide +kernel
theorem dX10_placesOf_31 : decode cX10_placesOf 31 = .ok (.lconst 0, 1) := by decide +kernel
theorem dX10_placesOf_32 : decode cX10_placesOf 32 = .ok (.lcmp, 1) := by decide +kernel
theorem dX10_placesOf_33 : decode cX10_placesOf 33 = .ok (.ifCond .eq 11, 3) := by decide +kernel
theorem dX10_placesOf_36 : decode cX10_placesOf 36 = .ok (.aload_n 2, 1) := by decide +kernel
theorem dX10_placesOf_37 : decode cX10_placesOf 37 = .ok (.iload_n 3, 1) := by decide +kernel
theorem dX10_placesOf_38 : decode cX10_placesOf 38 = .ok (.iload 4, 2) := by decide +kernel
theorem dX10_placesOf_40 : decode cX10_placesOf 40 = .ok (.iastore, 1) := by decide +kernel
theorem dX10_placesOf_41 : decode cX10_placesOf 41 = .ok (.iinc 3 1, 3) := by decide +kernel
theorem dX10_placesOf_44 : decode cX10_placesOf 44 = .ok (.iinc 4 1, 3) := by decide +kernel
theorem dX10_placesOf_47 : decode cX10_placesOf 47 = .ok (.goto (-35), 3) := by decide +kernel
theorem dX10_placesOf_50 : decode cX10_placesOf 50 = .ok (.aload_n 2, 1) := by decide +kernel
theorem dX10_placesOf_51 : decode cX10_placesOf 51 = .ok (.areturn, 1) := by decide +kernel
theorem dX10_bridgeAt_0 : decode cX10_bridgeAt 0 = .ok (.iload_n 1, 1) := by decide +kernel
theorem dX10_bridgeAt_1 : decode cX10_bridgeAt 1 = .ok (.iconst 0, 1) := by decide +kernel
theorem dX10_bridgeAt_2 : decode cX10_bridgeAt 2 = .ok (.aload_n 0, 1) := by decide +kernel
theorem dX10_bridgeAt_3 : decode cX10_bridgeAt 3 = .ok (.getfield 15, 3) := by decide +kernel
theorem dX10_bridgeAt_6 : decode cX10_bridgeAt 6 = .ok (.iconst 1, 1) := by decide +kernel
theorem dX10_bridgeAt_7 : decode cX10_bridgeAt 7 = .ok (.isub, 1) := by decide +kernel
theorem dX10_bridgeAt_8 : decode cX10_bridgeAt 8 = .ok (.invokestatic 132, 3) := by decide +kernel
theorem dX10_bridgeAt_11 : decode cX10_bridgeAt 11 = .ok (.ifCond .eq 12, 3) := by decide +kernel
theorem dX10_bridgeAt_14 : decode cX10_bridgeAt 14 = .ok (.aload_n 0, 1) := by decide +kernel
theorem dX10_bridgeAt_15 : decode cX10_bridgeAt 15 = .ok (.getfield 11, 3) := by decide +kernel
theorem dX10_bridgeAt_18 : decode cX10_bridgeAt 18 = .ok (.iload_n 1, 1) := by decide +kernel
theorem dX10_bridgeAt_19 : decode cX10_bridgeAt 19 = .ok (.aaload, 1) := by decide +kernel
theorem dX10_bridgeAt_20 : decode cX10_bridgeAt 20 = .ok (.goto 4, 3) := by decide +kernel
theorem dX10_bridgeAt_23 : decode cX10_bridgeAt 23 = .ok (.aconst_null, 1) := by decide +kernel
theorem dX10_bridgeAt_24 : decode cX10_bridgeAt 24 = .ok (.areturn, 1) := by decide +kernel
theorem dX10_trainAt_0 : decode cX10_trainAt 0 = .ok (.iload_n 1, 1) := by decide +kernel
theorem dX10_trainAt_1 : decode cX10_trainAt 1 = .ok (.iconst 0, 1) := by decide +kernel
theorem dX10_trainAt_2 : decode cX10_trainAt 2 = .ok (.aload_n 0, 1) := by decide +kernel
theorem dX10_trainAt_3 : decode cX10_trainAt 3 = .ok (.getfield 25, 3) := by decide +kernel
theorem dX10_trainAt_6 : decode cX10_trainAt 6 = .ok (.iconst 1, 1) := by decide +kernel
theorem dX10_trainAt_7 : decode cX10_trainAt 7 = .ok (.isub, 1) := by decide +kernel
theorem dX10_trainAt_8 : decode cX10_trainAt 8 = .ok (.invokestatic 132, 3) := by decide +kernel
theorem dX10_trainAt_11 : decode cX10_trainAt 11 = .ok (.ifCond .eq 12, 3) := by decide +kernel
theorem dX10_trainAt_14 : decode cX10_trainAt 14 = .ok (.aload_n 0, 1) := by decide +kernel
theorem dX10_trainAt_15 : decode cX10_trainAt 15 = .ok (.getfield 21, 3) := by decide +kernel
theorem dX10_trainAt_18 : decode cX10_trainAt 18 = .ok (.iload_n 1, 1) := by decide +kernel
theorem dX10_trainAt_19 : decode cX10_trainAt 19 = .ok (.aaload, 1) := by decide +kernel
theorem dX10_trainAt_20 : decode cX10_trainAt 20 = .ok (.goto 4, 3) := by decide +kernel
theorem dX10_trainAt_23 : decode cX10_trainAt 23 = .ok (.aconst_null, 1) := by decide +kernel
theorem dX10_trainAt_24 : decode cX10_trainAt 24 = .ok (.areturn, 1) := by decide +kernel
theorem dX10_partOf_0 : decode cX10_partOf 0 = .ok (.lload_n 0, 1) := by decide +kernel
theorem dX10_partOf_1 : decode cX10_partOf 1 = .ok (.invokestatic 316, 3) := by decide +kernel
theorem dX10_partOf_4 : decode cX10_partOf 4 = .ok (.lload_n 2, 1) := by decide +kernel
theorem dX10_partOf_5 : decode cX10_partOf 5 = .ok (.invokestatic 322, 3) := by decide +kernel
theorem dX10_partOf_8 : decode cX10_partOf 8 = .ok (.lstore 5, 2) := by decide +kernel
theorem dX10_partOf_10 : decode cX10_partOf 10 = .ok (.lload 5, 2) := by decide +kernel
theorem dX10_partOf_12 : decode cX10_partOf 12 = .ok (.lconst 0, 1) := by decide +kernel
theorem dX10_partOf_13 : decode cX10_partOf 13 = .ok (.lcmp, 1) := by decide +kernel
theorem dX10_partOf_14 : decode cX10_partOf 14 = .ok (.ifCond .ne 5, 3) := by decide +kernel
theorem dX10_partOf_17 : decode cX10_partOf 17 = .ok (.lconst 0, 1) := by decide +kernel
theorem dX10_partOf_18 : decode cX10_partOf 18 = .ok (.lreturn, 1) := by decide +kernel
theorem dX10_partOf_19 : decode cX10_partOf 19 = .ok (.iload 4, 2) := by decide +kernel
theorem dX10_partOf_21 : decode cX10_partOf 21 = .ok (.ifCond .ne 7, 3) := by decide +kernel
theorem dX10_partOf_24 : decode cX10_partOf 24 = .ok (.lload_n 0, 1) := by decide +kernel
theorem dX10_partOf_25 : decode cX10_partOf 25 = .ok (.goto 4, 3) := by decide +kernel
theorem dX10_partOf_28 : decode cX10_partOf 28 = .ok (.lload_n 2, 1) := by decide +kernel
theorem dX10_partOf_29 : decode cX10_partOf 29 = .ok (.lload 5, 2) := by decide +kernel
theorem dX10_partOf_31 : decode cX10_partOf 31 = .ok (.ldiv, 1) := by decide +kernel
theorem dX10_partOf_32 : decode cX10_partOf 32 = .ok (.lreturn, 1) := by decide +kernel
theorem dX10_commonDivisor_0 : decode cX10_commonDivisor 0 = .ok (.lload_n 0, 1) := by decide +kernel
theorem dX10_commonDivisor_1 : decode cX10_commonDivisor 1 = .ok (.lstore 4, 2) := by decide +kernel
theorem dX10_commonDivisor_3 : decode cX10_commonDivisor 3 = .ok (.lload_n 2, 1) := by decide +kernel
theorem dX10_commonDivisor_4 : decode cX10_commonDivisor 4 = .ok (.lstore 6, 2) := by decide +kernel
theorem dX10_commonDivisor_6 : decode cX10_commonDivisor 6 = .ok (.iconst 0, 1) := by decide +kernel
theorem dX10_commonDivisor_7 : decode cX10_commonDivisor 7 = .ok (.istore 8, 2) := by decide +kernel
theorem dX10_commonDivisor_9 : decode cX10_commonDivisor 9 = .ok (.iload 8, 2) := by decide +kernel
theorem dX10_commonDivisor_11 : decode cX10_commonDivisor 11 = .ok (.sipush 200, 3) := by decide +kernel
theorem dX10_commonDivisor_14 : decode cX10_commonDivisor 14 = .ok (.if_icmp .ge 31, 3) := by decide +kernel
theorem dX10_commonDivisor_17 : decode cX10_commonDivisor 17 = .ok (.lload 6, 2) := by decide +kernel
theorem dX10_commonDivisor_19 : decode cX10_commonDivisor 19 = .ok (.lconst 0, 1) := by decide +kernel
theorem dX10_commonDivisor_20 : decode cX10_commonDivisor 20 = .ok (.lcmp, 1) := by decide +kernel
theorem dX10_commonDivisor_21 : decode cX10_commonDivisor 21 = .ok (.ifCond .eq 24, 3) := by decide +kernel
theorem dX10_commonDivisor_24 : decode cX10_commonDivisor 24 = .ok (.lload 4, 2) := by decide +kernel
theorem dX10_commonDivisor_26 : decode cX10_commonDivisor 26 = .ok (.lload 6, 2) := by decide +kernel
theorem dX10_commonDivisor_28 : decode cX10_commonDivisor 28 = .ok (.lrem, 1) := by decide +kernel
theorem dX10_commonDivisor_29 : decode cX10_commonDivisor 29 = .ok (.lstore 9, 2) := by decide +kernel
theorem dX10_commonDivisor_31 : decode cX10_commonDivisor 31 = .ok (.lload 6, 2) := by decide +kernel
theorem dX10_commonDivisor_33 : decode cX10_commonDivisor 33 = .ok (.lstore 4, 2) := by decide +kernel
theorem dX10_commonDivisor_35 : decode cX10_commonDivisor 35 = .ok (.lload 9, 2) := by decide +kernel
theorem dX10_commonDivisor_37 : decode cX10_commonDivisor 37 = .ok (.lstore 6, 2) := by decide +kernel
theorem dX10_commonDivisor_39 : decode cX10_commonDivisor 39 = .ok (.iinc 8 1, 3) := by decide +kernel
theorem dX10_commonDivisor_42 : decode cX10_commonDivisor 42 = .ok (.goto (-33), 3) := by decide +kernel
theorem dX10_commonDivisor_45 : decode cX10_commonDivisor 45 = .ok (.lload 4, 2) := by decide +kernel
theorem dX10_commonDivisor_47 : decode cX10_commonDivisor 47 = .ok (.lreturn, 1) := by decide +kernel
theorem dX10_closeRoadsUnmet_0 : decode cX10_closeRoadsUnmet 0 = .ok (.aload_n 0, 1) := by decide +kernel
theorem dX10_closeRoadsUnmet_1 : decode cX10_closeRoadsUnmet 1 = .ok (.getfield 34, 3) := by decide +kernel
theorem dX10_closeRoadsUnmet_4 : decode cX10_closeRoadsUnmet 4 = .ok (.invokevirtual 272, 3) := by decide +kernel
theorem dX10_closeRoadsUnmet_7 : decode cX10_closeRoadsUnmet 7 = .ok (.iconst 0, 1) := by decide +kernel
theorem dX10_closeRoadsUnmet_8 : decode cX10_closeRoadsUnmet 8 = .ok (.istore_n 3, 1) := by decide +kernel
theorem dX10_closeRoadsUnmet_9 : decode cX10_closeRoadsUnmet 9 = .ok (.iload_n 3, 1) := by decide +kernel
theorem dX10_closeRoadsUnmet_10 : decode cX10_closeRoadsUnmet 10 = .ok (.aload_n 0, 1) := by decide +kernel
theorem dX10_closeRoadsUnmet_11 : decode cX10_closeRoadsUnmet 11 = .ok (.getfield 15, 3) := by decide +kernel
theorem dX10_closeRoadsUnmet_14 : decode cX10_closeRoadsUnmet 14 = .ok (.if_icmp .ge 80, 3) := by decide +kernel
theorem dX10_closeRoadsUnmet_17 : decode cX10_closeRoadsUnmet 17 = .ok (.aload_n 0, 1) := by decide +kernel
theorem dX10_closeRoadsUnmet_18 : decode cX10_closeRoadsUnmet 18 = .ok (.getfield 85, 3) := by decide +kernel
theorem dX10_closeRoadsUnmet_21 : decode cX10_closeRoadsUnmet 21 = .ok (.iload_n 3, 1) := by decide +kernel
theorem dX10_closeRoadsUnmet_22 : decode cX10_closeRoadsUnmet 22 = .ok (.iconst (-1), 1) := by decide +kernel
theorem dX10_closeRoadsUnmet_23 : decode cX10_closeRoadsUnmet 23 = .ok (.iastore, 1) := by decide +kernel
theorem dX10_closeRoadsUnmet_24 : decode cX10_closeRoadsUnmet 24 = .ok (.aload_n 0, 1) := by decide +kernel
theorem dX10_closeRoadsUnmet_25 : decode cX10_closeRoadsUnmet 25 = .ok (.iload_n 3, 1) := by decide +kernel
theorem dX10_closeRoadsUnmet_26 : decode cX10_closeRoadsUnmet 26 = .ok (.invokevirtual 104, 3) := by decide +kernel
theorem dX10_closeRoadsUnmet_29 : decode cX10_closeRoadsUnmet 29 = .ok (.astore 4, 2) := by decide +kernel
theorem dX10_closeRoadsUnmet_31 : decode cX10_closeRoadsUnmet 31 = .ok (.aload 4, 2) := by decide +kernel
theorem dX10_closeRoadsUnmet_33 : decode cX10_closeRoadsUnmet 33 = .ok (.ifnull 37, 3) := by decide +kernel
theorem dX10_closeRoadsUnmet_36 : decode cX10_closeRoadsUnmet 36 = .ok (.aload_n 0, 1) := by decide +kernel
theorem dX10_closeRoadsUnmet_37 : decode cX10_closeRoadsUnmet 37 = .ok (.getfield 69, 3) := by decide +kernel
theorem dX10_closeRoadsUnmet_40 : decode cX10_closeRoadsUnmet 40 = .ok (.aload 4, 2) := by decide +kernel
theorem dX10_closeRoadsUnmet_42 : decode cX10_closeRoadsUnmet 42 = .ok (.aload_n 0, 1) := by decide +kernel
theorem dX10_closeRoadsUnmet_43 : decode cX10_closeRoadsUnmet 43 = .ok (.aload_n 0, 1) := by decide +kernel
theorem dX10_closeRoadsUnmet_44 : decode cX10_closeRoadsUnmet 44 = .ok (.getfield 28, 3) := by decide +kernel
theorem dX10_closeRoadsUnmet_47 : decode cX10_closeRoadsUnmet 47 = .ok (.invokevirtual 163, 3) := by decide +kernel
theorem dX10_closeRoadsUnmet_50 : decode cX10_closeRoadsUnmet 50 = .ok (.iload_n 2, 1) := by decide +kernel
theorem dX10_closeRoadsUnmet_51 : decode cX10_closeRoadsUnmet 51 = .ok (.invokevirtual 218, 3) := by decide +kernel
theorem dX10_closeRoadsUnmet_54 : decode cX10_closeRoadsUnmet 54 = .ok (.aload_n 0, 1) := by decide +kernel
theorem dX10_closeRoadsUnmet_55 : decode cX10_closeRoadsUnmet 55 = .ok (.getfield 85, 3) := by decide +kernel
theorem dX10_closeRoadsUnmet_58 : decode cX10_closeRoadsUnmet 58 = .ok (.iload_n 3, 1) := by decide +kernel
theorem dX10_closeRoadsUnmet_59 : decode cX10_closeRoadsUnmet 59 = .ok (.aload_n 0, 1) := by decide +kernel
theorem dX10_closeRoadsUnmet_60 : decode cX10_closeRoadsUnmet 60 = .ok (.getfield 69, 3) := by decide +kernel
theorem dX10_closeRoadsUnmet_63 : decode cX10_closeRoadsUnmet 63 = .ok (.aload 4, 2) := by decide +kernel
theorem dX10_closeRoadsUnmet_65 : decode cX10_closeRoadsUnmet 65 = .ok (.aload_n 1, 1) := by decide +kernel
theorem dX10_closeRoadsUnmet_66 : decode cX10_closeRoadsUnmet 66 = .ok (.invokevirtual 230, 3) := by decide +kernel
theorem dX10_closeRoadsUnmet_69 : decode cX10_closeRoadsUnmet 69 = .ok (.iastore, 1) := by decide +kernel
theorem dX10_closeRoadsUnmet_70 : decode cX10_closeRoadsUnmet 70 = .ok (.aload_n 0, 1) := by decide +kernel
theorem dX10_closeRoadsUnmet_71 : decode cX10_closeRoadsUnmet 71 = .ok (.getfield 85, 3) := by decide +kernel
theorem dX10_closeRoadsUnmet_74 : decode cX10_closeRoadsUnmet 74 = .ok (.iload_n 3, 1) := by decide +kernel
theorem dX10_closeRoadsUnmet_75 : decode cX10_closeRoadsUnmet 75 = .ok (.iaload, 1) := by decide +kernel
theorem dX10_closeRoadsUnmet_76 : decode cX10_closeRoadsUnmet 76 = .ok (.iconst (-1), 1) := by decide +kernel
theorem dX10_closeRoadsUnmet_77 : decode cX10_closeRoadsUnmet 77 = .ok (.if_icmp .eq 11, 3) := by decide +kernel
theorem dX10_closeRoadsUnmet_80 : decode cX10_closeRoadsUnmet 80 = .ok (.aload_n 0, 1) := by decide +kernel
theorem dX10_closeRoadsUnmet_81 : decode cX10_closeRoadsUnmet 81 = .ok (.getfield 34, 3) := by decide +kernel
theorem dX10_closeRoadsUnmet_84 : decode cX10_closeRoadsUnmet 84 = .ok (.iload_n 3, 1) := by decide +kernel
theorem dX10_closeRoadsUnmet_85 : decode cX10_closeRoadsUnmet 85 = .ok (.invokevirtual 326, 3) := by decide +kernel
theorem dX10_closeRoadsUnmet_88 : decode cX10_closeRoadsUnmet 88 = .ok (.iinc 3 1, 3) := by decide +kernel
theorem dX10_closeRoadsUnmet_91 : decode cX10_closeRoadsUnmet 91 = .ok (.goto (-82), 3) := by decide +kernel
theorem dX10_closeRoadsUnmet_94 : decode cX10_closeRoadsUnmet 94 = .ok (.return_, 1) := by decide +kernel
theorem dX10_firstUnmetOnWay_0 : decode cX10_firstUnmetOnWay 0 = .ok (.iconst 0, 1) := by decide +kernel
theorem dX10_firstUnmetOnWay_1 : decode cX10_firstUnmetOnWay 1 = .ok (.istore_n 1, 1) := by decide +kernel
theorem dX10_firstUnmetOnWay_2 : decode cX10_firstUnmetOnWay 2 = .ok (.iload_n 1, 1) := by decide +kernel
theorem dX10_firstUnmetOnWay_3 : decode cX10_firstUnmetOnWay 3 = .ok (.aload_n 0, 1) := by decide +kernel
theorem dX10_firstUnmetOnWay_4 : decode cX10_firstUnmetOnWay 4 = .ok (.getfield 34, 3) := by decide +kernel
theorem dX10_firstUnmetOnWay_7 : decode cX10_firstUnmetOnWay 7 = .ok (.getfield 265, 3) := by decide +kernel
theorem dX10_firstUnmetOnWay_10 : decode cX10_firstUnmetOnWay 10 = .ok (.if_icmp .ge 61, 3) := by decide +kernel
theorem dX10_firstUnmetOnWay_13 : decode cX10_firstUnmetOnWay 13 = .ok (.aload_n 0, 1) := by decide +kernel
theorem dX10_firstUnmetOnWay_14 : decode cX10_firstUnmetOnWay 14 = .ok (.getfield 34, 3) := by decide +kernel
theorem dX10_firstUnmetOnWay_17 : decode cX10_firstUnmetOnWay 17 = .ok (.aload_n 0, 1) := by decide +kernel
theorem dX10_firstUnmetOnWay_18 : decode cX10_firstUnmetOnWay 18 = .ok (.getfield 34, 3) := by decide +kernel
theorem dX10_firstUnmetOnWay_21 : decode cX10_firstUnmetOnWay 21 = .ok (.iload_n 1, 1) := by decide +kernel
theorem dX10_firstUnmetOnWay_22 : decode cX10_firstUnmetOnWay 22 = .ok (.invokevirtual 268, 3) := by decide +kernel
theorem dX10_firstUnmetOnWay_25 : decode cX10_firstUnmetOnWay 25 = .ok (.invokevirtual 330, 3) := by decide +kernel
theorem dX10_firstUnmetOnWay_28 : decode cX10_firstUnmetOnWay 28 = .ok (.istore_n 2, 1) := by decide +kernel
theorem dX10_firstUnmetOnWay_29 : decode cX10_firstUnmetOnWay 29 = .ok (.iload_n 2, 1) := by decide +kernel
theorem dX10_firstUnmetOnWay_30 : decode cX10_firstUnmetOnWay 30 = .ok (.iconst 0, 1) := by decide +kernel
theorem dX10_firstUnmetOnWay_31 : decode cX10_firstUnmetOnWay 31 = .ok (.aload_n 0, 1) := by decide +kernel
theorem dX10_firstUnmetOnWay_32 : decode cX10_firstUnmetOnWay 32 = .ok (.getfield 15, 3) := by decide +kernel
theorem dX10_firstUnmetOnWay_35 : decode cX10_firstUnmetOnWay 35 = .ok (.iconst 1, 1) := by decide +kernel
theorem dX10_firstUnmetOnWay_36 : decode cX10_firstUnmetOnWay 36 = .ok (.isub, 1) := by decide +kernel
theorem dX10_firstUnmetOnWay_37 : decode cX10_firstUnmetOnWay 37 = .ok (.invokestatic 132, 3) := by decide +kernel
theorem dX10_firstUnmetOnWay_40 : decode cX10_firstUnmetOnWay 40 = .ok (.ifCond .eq 25, 3) := by decide +kernel
theorem dX10_firstUnmetOnWay_43 : decode cX10_firstUnmetOnWay 43 = .ok (.aload_n 0, 1) := by decide +kernel
theorem dX10_firstUnmetOnWay_44 : decode cX10_firstUnmetOnWay 44 = .ok (.getfield 85, 3) := by decide +kernel
theorem dX10_firstUnmetOnWay_47 : decode cX10_firstUnmetOnWay 47 = .ok (.iload_n 2, 1) := by decide +kernel
theorem dX10_firstUnmetOnWay_48 : decode cX10_firstUnmetOnWay 48 = .ok (.iaload, 1) := by decide +kernel
theorem dX10_firstUnmetOnWay_49 : decode cX10_firstUnmetOnWay 49 = .ok (.iconst (-1), 1) := by decide +kernel
theorem dX10_firstUnmetOnWay_50 : decode cX10_firstUnmetOnWay 50 = .ok (.if_icmp .eq 15, 3) := by decide +kernel
theorem dX10_firstUnmetOnWay_53 : decode cX10_firstUnmetOnWay 53 = .ok (.bipush 10, 2) := by decide +kernel
theorem dX10_firstUnmetOnWay_55 : decode cX10_firstUnmetOnWay 55 = .ok (.iload_n 2, 1) := by decide +kernel
theorem dX10_firstUnmetOnWay_56 : decode cX10_firstUnmetOnWay 56 = .ok (.imul, 1) := by decide +kernel
theorem dX10_firstUnmetOnWay_57 : decode cX10_firstUnmetOnWay 57 = .ok (.aload_n 0, 1) := by decide +kernel
theorem dX10_firstUnmetOnWay_58 : decode cX10_firstUnmetOnWay 58 = .ok (.getfield 85, 3) := by decide +kernel
theorem dX10_firstUnmetOnWay_61 : decode cX10_firstUnmetOnWay 61 = .ok (.iload_n 2, 1) := by decide +kernel
theorem dX10_firstUnmetOnWay_62 : decode cX10_firstUnmetOnWay 62 = .ok (.iaload, 1) := by decide +kernel
theorem dX10_firstUnmetOnWay_63 : decode cX10_firstUnmetOnWay 63 = .ok (.iadd, 1) := by decide +kernel
theorem dX10_firstUnmetOnWay_64 : decode cX10_firstUnmetOnWay 64 = .ok (.ireturn, 1) := by decide +kernel
theorem dX10_firstUnmetOnWay_65 : decode cX10_firstUnmetOnWay 65 = .ok (.iinc 1 1, 3) := by decide +kernel
theorem dX10_firstUnmetOnWay_68 : decode cX10_firstUnmetOnWay 68 = .ok (.goto (-66), 3) := by decide +kernel
theorem dX10_firstUnmetOnWay_71 : decode cX10_firstUnmetOnWay 71 = .ok (.iconst (-1), 1) := by decide +kernel
theorem dX10_firstUnmetOnWay_72 : decode cX10_firstUnmetOnWay 72 = .ok (.ireturn, 1) := by decide +kernel
theorem dX10_allChecks_0 : decode cX10_allChecks 0 = .ok (.iconst 0, 1) := by decide +kernel
theorem dX10_allChecks_1 : decode cX10_allChecks 1 = .ok (.istore_n 1, 1) := by decide +kernel
theorem dX10_allChecks_2 : decode cX10_allChecks 2 = .ok (.iconst 0, 1) := by decide +kernel
theorem dX10_allChecks_3 : decode cX10_allChecks 3 = .ok (.istore_n 2, 1) := by decide +kernel
theorem dX10_allChecks_4 : decode cX10_allChecks 4 = .ok (.iload_n 2, 1) := by decide +kernel
theorem dX10_allChecks_5 : decode cX10_allChecks 5 = .ok (.aload_n 0, 1) := by decide +kernel
theorem dX10_allChecks_6 : decode cX10_allChecks 6 = .ok (.getfield 15, 3) := by decide +kernel
theorem dX10_allChecks_9 : decode cX10_allChecks 9 = .ok (.if_icmp .ge 30, 3) := by decide +kernel
theorem dX10_allChecks_12 : decode cX10_allChecks 12 = .ok (.aload_n 0, 1) := by decide +kernel
theorem dX10_allChecks_13 : decode cX10_allChecks 13 = .ok (.iload_n 2, 1) := by decide +kernel
theorem dX10_allChecks_14 : decode cX10_allChecks 14 = .ok (.invokevirtual 104, 3) := by decide +kernel
theorem dX10_allChecks_17 : decode cX10_allChecks 17 = .ok (.astore_n 3, 1) := by decide +kernel
theorem dX10_allChecks_18 : decode cX10_allChecks 18 = .ok (.iload_n 1, 1) := by decide +kernel
theorem dX10_allChecks_19 : decode cX10_allChecks 19 = .ok (.aload_n 3, 1) := by decide +kernel
theorem dX10_allChecks_20 : decode cX10_allChecks 20 = .ok (.ifnonnull 7, 3) := by decide +kernel
theorem dX10_allChecks_23 : decode cX10_allChecks 23 = .ok (.iconst 0, 1) := by decide +kernel
theorem dX10_allChecks_24 : decode cX10_allChecks 24 = .ok (.goto 7, 3) := by decide +kernel
theorem dX10_allChecks_27 : decode cX10_allChecks 27 = .ok (.aload_n 3, 1) := by decide +kernel
theorem dX10_allChecks_28 : decode cX10_allChecks 28 = .ok (.getfield 117, 3) := by decide +kernel
theorem dX10_allChecks_31 : decode cX10_allChecks 31 = .ok (.iadd, 1) := by decide +kernel
theorem dX10_allChecks_32 : decode cX10_allChecks 32 = .ok (.istore_n 1, 1) := by decide +kernel
theorem dX10_allChecks_33 : decode cX10_allChecks 33 = .ok (.iinc 2 1, 3) := by decide +kernel
theorem dX10_allChecks_36 : decode cX10_allChecks 36 = .ok (.goto (-32), 3) := by decide +kernel
theorem dX10_allChecks_39 : decode cX10_allChecks 39 = .ok (.iload_n 1, 1) := by decide +kernel
theorem dX10_allChecks_40 : decode cX10_allChecks 40 = .ok (.ireturn, 1) := by decide +kernel
theorem dX10_allTraffic_0 : decode cX10_allTraffic 0 = .ok (.iconst 0, 1) := by decide +kernel
theorem dX10_allTraffic_1 : decode cX10_allTraffic 1 = .ok (.istore_n 1, 1) := by decide +kernel
theorem dX10_allTraffic_2 : decode cX10_allTraffic 2 = .ok (.iconst 0, 1) := by decide +kernel
theorem dX10_allTraffic_3 : decode cX10_allTraffic 3 = .ok (.istore_n 2, 1) := by decide +kernel
theorem dX10_allTraffic_4 : decode cX10_allTraffic 4 = .ok (.iload_n 2, 1) := by decide +kernel
theorem dX10_allTraffic_5 : decode cX10_allTraffic 5 = .ok (.aload_n 0, 1) := by decide +kernel
theorem dX10_allTraffic_6 : decode cX10_allTraffic 6 = .ok (.getfield 25, 3) := by decide +kernel
theorem dX10_allTraffic_9 : decode cX10_allTraffic 9 = .ok (.if_icmp .ge 30, 3) := by decide +kernel
theorem dX10_allTraffic_12 : decode cX10_allTraffic 12 = .ok (.aload_n 0, 1) := by decide +kernel
theorem dX10_allTraffic_13 : decode cX10_allTraffic 13 = .ok (.iload_n 2, 1) := by decide +kernel
theorem dX10_allTraffic_14 : decode cX10_allTraffic 14 = .ok (.invokevirtual 163, 3) := by decide +kernel
theorem dX10_allTraffic_17 : decode cX10_allTraffic 17 = .ok (.astore_n 3, 1) := by decide +kernel
theorem dX10_allTraffic_18 : decode cX10_allTraffic 18 = .ok (.iload_n 1, 1) := by decide +kernel
theorem dX10_allTraffic_19 : decode cX10_allTraffic 19 = .ok (.aload_n 3, 1) := by decide +kernel
theorem dX10_allTraffic_20 : decode cX10_allTraffic 20 = .ok (.ifnonnull 7, 3) := by decide +kernel
theorem dX10_allTraffic_23 : decode cX10_allTraffic 23 = .ok (.iconst 0, 1) := by decide +kernel
theorem dX10_allTraffic_24 : decode cX10_allTraffic 24 = .ok (.goto 7, 3) := by decide +kernel
theorem dX10_allTraffic_27 : decode cX10_allTraffic 27 = .ok (.aload_n 3, 1) := by decide +kernel
theorem dX10_allTraffic_28 : decode cX10_allTraffic 28 = .ok (.getfield 295, 3) := by decide +kernel
theorem dX10_allTraffic_31 : decode cX10_allTraffic 31 = .ok (.iadd, 1) := by decide +kernel
theorem dX10_allTraffic_32 : decode cX10_allTraffic 32 = .ok (.istore_n 1, 1) := by decide +kernel
theorem dX10_allTraffic_33 : decode cX10_allTraffic 33 = .ok (.iinc 2 1, 3) := by decide +kernel
theorem dX10_allTraffic_36 : decode cX10_allTraffic 36 = .ok (.goto (-32), 3) := by decide +kernel
theorem dX10_allTraffic_39 : decode cX10_allTraffic 39 = .ok (.iload_n 1, 1) := by decide +kernel
theorem dX10_allTraffic_40 : decode cX10_allTraffic 40 = .ok (.ireturn, 1) := by decide +kernel
theorem dJ13_bitCount_95d88_0 : decode cJ13_bitCount_95d88 0 = .ok (.lload_n 0, 1) := by decide +kernel
theorem dJ13_bitCount_95d88_1 : decode cJ13_bitCount_95d88 1 = .ok (.lload_n 0, 1) := by decide +kernel
theorem dJ13_bitCount_95d88_2 : decode cJ13_bitCount_95d88 2 = .ok (.iconst 1, 1) := by decide +kernel
theorem dJ13_bitCount_95d88_3 : decode cJ13_bitCount_95d88 3 = .ok (.lushr, 1) := by decide +kernel
theorem dJ13_bitCount_95d88_4 : decode cJ13_bitCount_95d88 4 = .ok (.ldc2_w 314, 3) := by decide +kernel
theorem dJ13_bitCount_95d88_7 : decode cJ13_bitCount_95d88 7 = .ok (.land, 1) := by decide +kernel
theorem dJ13_bitCount_95d88_8 : decode cJ13_bitCount_95d88 8 = .ok (.lsub, 1) := by decide +kernel
theorem dJ13_bitCount_95d88_9 : decode cJ13_bitCount_95d88 9 = .ok (.lstore_n 0, 1) := by decide +kernel
theorem dJ13_bitCount_95d88_10 : decode cJ13_bitCount_95d88 10 = .ok (.lload_n 0, 1) := by decide +kernel
theorem dJ13_bitCount_95d88_11 : decode cJ13_bitCount_95d88 11 = .ok (.ldc2_w 316, 3) := by decide +kernel
theorem dJ13_bitCount_95d88_14 : decode cJ13_bitCount_95d88 14 = .ok (.land, 1) := by decide +kernel
theorem dJ13_bitCount_95d88_15 : decode cJ13_bitCount_95d88 15 = .ok (.lload_n 0, 1) := by decide +kernel
theorem dJ13_bitCount_95d88_16 : decode cJ13_bitCount_95d88 16 = .ok (.iconst 2, 1) := by decide +kernel
theorem dJ13_bitCount_95d88_17 : decode cJ13_bitCount_95d88 17 = .ok (.lushr, 1) := by decide +kernel
theorem dJ13_bitCount_95d88_18 : decode cJ13_bitCount_95d88 18 = .ok (.ldc2_w 316, 3) := by decide +kernel
theorem dJ13_bitCount_95d88_21 : decode cJ13_bitCount_95d88 21 = .ok (.land, 1) := by decide +kernel
theorem dJ13_bitCount_95d88_22 : decode cJ13_bitCount_95d88 22 = .ok (.ladd, 1) := by decide +kernel
theorem dJ13_bitCount_95d88_23 : decode cJ13_bitCount_95d88 23 = .ok (.lstore_n 0, 1) := by decide +kernel
theorem dJ13_bitCount_95d88_24 : decode cJ13_bitCount_95d88 24 = .ok (.lload_n 0, 1) := by decide +kernel
theorem dJ13_bitCount_95d88_25 : decode cJ13_bitCount_95d88 25 = .ok (.lload_n 0, 1) := by decide +kernel
theorem dJ13_bitCount_95d88_26 : decode cJ13_bitCount_95d88 26 = .ok (.iconst 4, 1) := by decide +kernel
theorem dJ13_bitCount_95d88_27 : decode cJ13_bitCount_95d88 27 = .ok (.lushr, 1) := by decide +kernel
theorem dJ13_bitCount_95d88_28 : decode cJ13_bitCount_95d88 28 = .ok (.ladd, 1) := by decide +kernel
theorem dJ13_bitCount_95d88_29 : decode cJ13_bitCount_95d88 29 = .ok (.ldc2_w 318, 3) := by decide +kernel
theorem dJ13_bitCount_95d88_32 : decode cJ13_bitCount_95d88 32 = .ok (.land, 1) := by decide +kernel
theorem dJ13_bitCount_95d88_33 : decode cJ13_bitCount_95d88 33 = .ok (.lstore_n 0, 1) := by decide +kernel
theorem dJ13_bitCount_95d88_34 : decode cJ13_bitCount_95d88 34 = .ok (.lload_n 0, 1) := by decide +kernel
theorem dJ13_bitCount_95d88_35 : decode cJ13_bitCount_95d88 35 = .ok (.lload_n 0, 1) := by decide +kernel
theorem dJ13_bitCount_95d88_36 : decode cJ13_bitCount_95d88 36 = .ok (.bipush 8, 2) := by decide +kernel
theorem dJ13_bitCount_95d88_38 : decode cJ13_bitCount_95d88 38 = .ok (.lushr, 1) := by decide +kernel
theorem dJ13_bitCount_95d88_39 : decode cJ13_bitCount_95d88 39 = .ok (.ladd, 1) := by decide +kernel
theorem dJ13_bitCount_95d88_40 : decode cJ13_bitCount_95d88 40 = .ok (.lstore_n 0, 1) := by decide +kernel
theorem dJ13_bitCount_95d88_41 : decode cJ13_bitCount_95d88 41 = .ok (.lload_n 0, 1) := by decide +kernel
theorem dJ13_bitCount_95d88_42 : decode cJ13_bitCount_95d88 42 = .ok (.lload_n 0, 1) := by decide +kernel
theorem dJ13_bitCount_95d88_43 : decode cJ13_bitCount_95d88 43 = .ok (.bipush 16, 2) := by decide +kernel
theorem dJ13_bitCount_95d88_45 : decode cJ13_bitCount_95d88 45 = .ok (.lushr, 1) := by decide +kernel
theorem dJ13_bitCount_95d88_46 : decode cJ13_bitCount_95d88 46 = .ok (.ladd, 1) := by decide +kernel
theorem dJ13_bitCount_95d88_47 : decode cJ13_bitCount_95d88 47 = .ok (.lstore_n 0, 1) := by decide +kernel
theorem dJ13_bitCount_95d88_48 : decode cJ13_bitCount_95d88 48 = .ok (.lload_n 0, 1) := by decide +kernel
theorem dJ13_bitCount_95d88_49 : decode cJ13_bitCount_95d88 49 = .ok (.lload_n 0, 1) := by decide +kernel
theorem dJ13_bitCount_95d88_50 : decode cJ13_bitCount_95d88 50 = .ok (.bipush 32, 2) := by decide +kernel
theorem dJ13_bitCount_95d88_52 : decode cJ13_bitCount_95d88 52 = .ok (.lushr, 1) := by decide +kernel
theorem dJ13_bitCount_95d88_53 : decode cJ13_bitCount_95d88 53 = .ok (.ladd, 1) := by decide +kernel
theorem dJ13_bitCount_95d88_54 : decode cJ13_bitCount_95d88 54 = .ok (.lstore_n 0, 1) := by decide +kernel
theorem dJ13_bitCount_95d88_55 : decode cJ13_bitCount_95d88 55 = .ok (.lload_n 0, 1) := by decide +kernel
theorem dJ13_bitCount_95d88_56 : decode cJ13_bitCount_95d88 56 = .ok (.l2i, 1) := by decide +kernel
theorem dJ13_bitCount_95d88_57 : decode cJ13_bitCount_95d88 57 = .ok (.bipush 127, 2) := by decide +kernel
theorem dJ13_bitCount_95d88_59 : decode cJ13_bitCount_95d88 59 = .ok (.iand, 1) := by decide +kernel
theorem dJ13_bitCount_95d88_60 : decode cJ13_bitCount_95d88 60 = .ok (.ireturn, 1) := by decide +kernel
theorem dJ9_abs_067f4_0 : decode cJ9_abs_067f4 0 = .ok (.lload_n 0, 1) := by decide +kernel
theorem dJ9_abs_067f4_1 : decode cJ9_abs_067f4 1 = .ok (.lconst 0, 1) := by decide +kernel
theorem dJ9_abs_067f4_2 : decode cJ9_abs_067f4 2 = .ok (.lcmp, 1) := by decide +kernel
theorem dJ9_abs_067f4_3 : decode cJ9_abs_067f4 3 = .ok (.ifCond .ge 8, 3) := by decide +kernel
theorem dJ9_abs_067f4_6 : decode cJ9_abs_067f4 6 = .ok (.lload_n 0, 1) := by decide +kernel
theorem dJ9_abs_067f4_7 : decode cJ9_abs_067f4 7 = .ok (.lneg, 1) := by decide +kernel
theorem dJ9_abs_067f4_8 : decode cJ9_abs_067f4 8 = .ok (.goto 4, 3) := by decide +kernel
theorem dJ9_abs_067f4_11 : decode cJ9_abs_067f4 11 = .ok (.lload_n 0, 1) := by decide +kernel
theorem dJ9_abs_067f4_12 : decode cJ9_abs_067f4 12 = .ok (.lreturn, 1) := by decide +kernel
theorem dJ9_max_7cf53_0 : decode cJ9_max_7cf53 0 = .ok (.iload_n 0, 1) := by decide +kernel
theorem dJ9_max_7cf53_1 : decode cJ9_max_7cf53 1 = .ok (.iload_n 1, 1) := by decide +kernel
theorem dJ9_max_7cf53_2 : decode cJ9_max_7cf53 2 = .ok (.if_icmp .lt 7, 3) := by decide +kernel
theorem dJ9_max_7cf53_5 : decode cJ9_max_7cf53 5 = .ok (.iload_n 0, 1) := by decide +kernel
theorem dJ9_max_7cf53_6 : decode cJ9_max_7cf53 6 = .ok (.goto 4, 3) := by decide +kernel
theorem dJ9_max_7cf53_9 : decode cJ9_max_7cf53 9 = .ok (.iload_n 1, 1) := by decide +kernel
theorem dJ9_max_7cf53_10 : decode cJ9_max_7cf53 10 = .ok (.ireturn, 1) := by decide +kernel
theorem dJ9_max_f86c9_0 : decode cJ9_max_f86c9 0 = .ok (.lload_n 0, 1) := by decide +kernel
theorem dJ9_max_f86c9_1 : decode cJ9_max_f86c9 1 = .ok (.lload_n 2, 1) := by decide +kernel
theorem dJ9_max_f86c9_2 : decode cJ9_max_f86c9 2 = .ok (.lcmp, 1) := by decide +kernel
theorem dJ9_max_f86c9_3 : decode cJ9_max_f86c9 3 = .ok (.ifCond .lt 7, 3) := by decide +kernel
theorem dJ9_max_f86c9_6 : decode cJ9_max_f86c9 6 = .ok (.lload_n 0, 1) := by decide +kernel
theorem dJ9_max_f86c9_7 : decode cJ9_max_f86c9 7 = .ok (.goto 4, 3) := by decide +kernel
theorem dJ9_max_f86c9_10 : decode cJ9_max_f86c9 10 = .ok (.lload_n 2, 1) := by decide +kernel
theorem dJ9_max_f86c9_11 : decode cJ9_max_f86c9 11 = .ok (.lreturn, 1) := by decide +kernel
theorem dJ9_min_7cf53_0 : decode cJ9_min_7cf53 0 = .ok (.iload_n 0, 1) := by decide +kernel
theorem dJ9_min_7cf53_1 : decode cJ9_min_7cf53 1 = .ok (.iload_n 1, 1) := by decide +kernel
theorem dJ9_min_7cf53_2 : decode cJ9_min_7cf53 2 = .ok (.if_icmp .gt 7, 3) := by decide +kernel
theorem dJ9_min_7cf53_5 : decode cJ9_min_7cf53 5 = .ok (.iload_n 0, 1) := by decide +kernel
theorem dJ9_min_7cf53_6 : decode cJ9_min_7cf53 6 = .ok (.goto 4, 3) := by decide +kernel
theorem dJ9_min_7cf53_9 : decode cJ9_min_7cf53 9 = .ok (.iload_n 1, 1) := by decide +kernel
theorem dJ9_min_7cf53_10 : decode cJ9_min_7cf53 10 = .ok (.ireturn, 1) := by decide +kernel
theorem dJ9_min_f86c9_0 : decode cJ9_min_f86c9 0 = .ok (.lload_n 0, 1) := by decide +kernel
theorem dJ9_min_f86c9_1 : decode cJ9_min_f86c9 1 = .ok (.lload_n 2, 1) := by decide +kernel
theorem dJ9_min_f86c9_2 : decode cJ9_min_f86c9 2 = .ok (.lcmp, 1) := by decide +kernel
theorem dJ9_min_f86c9_3 : decode cJ9_min_f86c9 3 = .ok (.ifCond .gt 7, 3) := by decide +kernel
theorem dJ9_min_f86c9_6 : decode cJ9_min_f86c9 6 = .ok (.lload_n 0, 1) := by decide +kernel
theorem dJ9_min_f86c9_7 : decode cJ9_min_f86c9 7 = .ok (.goto 4, 3) := by decide +kernel
theorem dJ9_min_f86c9_10 : decode cJ9_min_f86c9 10 = .ok (.lload_n 2, 1) := by decide +kernel
theorem dJ9_min_f86c9_11 : decode cJ9_min_f86c9 11 = .ok (.lreturn, 1) := by decide +kernel
theorem dJ7_rangeCheck_23922_0 : decode cJ7_rangeCheck_23922 0 = .ok (.iload_n 1, 1) := by decide +kernel
theorem dJ7_rangeCheck_23922_1 : decode cJ7_rangeCheck_23922 1 = .ok (.iload_n 2, 1) := by decide +kernel
theorem dJ7_rangeCheck_23922_2 : decode cJ7_rangeCheck_23922 2 = .ok (.if_icmp .le 44, 3) := by decide +kernel
theorem dJ7_rangeCheck_23922_5 : decode cJ7_rangeCheck_23922 5 = .ok (.new 43, 3) := by decide +kernel
theorem dJ7_rangeCheck_23922_8 : decode cJ7_rangeCheck_23922 8 = .ok (.dup, 1) := by decide +kernel
theorem dJ7_rangeCheck_23922_9 : decode cJ7_rangeCheck_23922 9 = .ok (.new 45, 3) := by decide +kernel
theorem dJ7_rangeCheck_23922_12 : decode cJ7_rangeCheck_23922 12 = .ok (.dup, 1) := by decide +kernel
theorem dJ7_rangeCheck_23922_13 : decode cJ7_rangeCheck_23922 13 = .ok (.invokespecial 47, 3) := by decide +kernel
theorem dJ7_rangeCheck_23922_16 : decode cJ7_rangeCheck_23922 16 = .ok (.ldc 48, 2) := by decide +kernel
theorem dJ7_rangeCheck_23922_18 : decode cJ7_rangeCheck_23922 18 = .ok (.invokevirtual 50, 3) := by decide +kernel
theorem dJ7_rangeCheck_23922_21 : decode cJ7_rangeCheck_23922 21 = .ok (.iload_n 1, 1) := by decide +kernel
theorem dJ7_rangeCheck_23922_22 : decode cJ7_rangeCheck_23922 22 = .ok (.invokevirtual 54, 3) := by decide +kernel
theorem dJ7_rangeCheck_23922_25 : decode cJ7_rangeCheck_23922 25 = .ok (.ldc 57, 2) := by decide +kernel
theorem dJ7_rangeCheck_23922_27 : decode cJ7_rangeCheck_23922 27 = .ok (.invokevirtual 50, 3) := by decide +kernel
theorem dJ7_rangeCheck_23922_30 : decode cJ7_rangeCheck_23922 30 = .ok (.iload_n 2, 1) := by decide +kernel
theorem dJ7_rangeCheck_23922_31 : decode cJ7_rangeCheck_23922 31 = .ok (.invokevirtual 54, 3) := by decide +kernel
theorem dJ7_rangeCheck_23922_34 : decode cJ7_rangeCheck_23922 34 = .ok (.ldc 59, 2) := by decide +kernel
theorem dJ7_rangeCheck_23922_36 : decode cJ7_rangeCheck_23922 36 = .ok (.invokevirtual 50, 3) := by decide +kernel
theorem dJ7_rangeCheck_23922_39 : decode cJ7_rangeCheck_23922 39 = .ok (.invokevirtual 61, 3) := by decide +kernel
theorem dJ7_rangeCheck_23922_42 : decode cJ7_rangeCheck_23922 42 = .ok (.invokespecial 65, 3) := by decide +kernel
theorem dJ7_rangeCheck_23922_45 : decode cJ7_rangeCheck_23922 45 = .ok (.athrow, 1) := by decide +kernel
theorem dJ7_rangeCheck_23922_46 : decode cJ7_rangeCheck_23922 46 = .ok (.iload_n 1, 1) := by decide +kernel
theorem dJ7_rangeCheck_23922_47 : decode cJ7_rangeCheck_23922 47 = .ok (.ifCond .ge 12, 3) := by decide +kernel
theorem dJ7_rangeCheck_23922_50 : decode cJ7_rangeCheck_23922 50 = .ok (.new 68, 3) := by decide +kernel
theorem dJ7_rangeCheck_23922_53 : decode cJ7_rangeCheck_23922 53 = .ok (.dup, 1) := by decide +kernel
theorem dJ7_rangeCheck_23922_54 : decode cJ7_rangeCheck_23922 54 = .ok (.iload_n 1, 1) := by decide +kernel
theorem dJ7_rangeCheck_23922_55 : decode cJ7_rangeCheck_23922 55 = .ok (.invokespecial 70, 3) := by decide +kernel
theorem dJ7_rangeCheck_23922_58 : decode cJ7_rangeCheck_23922 58 = .ok (.athrow, 1) := by decide +kernel
theorem dJ7_rangeCheck_23922_59 : decode cJ7_rangeCheck_23922 59 = .ok (.iload_n 2, 1) := by decide +kernel
theorem dJ7_rangeCheck_23922_60 : decode cJ7_rangeCheck_23922 60 = .ok (.iload_n 0, 1) := by decide +kernel
theorem dJ7_rangeCheck_23922_61 : decode cJ7_rangeCheck_23922 61 = .ok (.if_icmp .le 12, 3) := by decide +kernel
theorem dJ7_rangeCheck_23922_64 : decode cJ7_rangeCheck_23922 64 = .ok (.new 68, 3) := by decide +kernel
theorem dJ7_rangeCheck_23922_67 : decode cJ7_rangeCheck_23922 67 = .ok (.dup, 1) := by decide +kernel
theorem dJ7_rangeCheck_23922_68 : decode cJ7_rangeCheck_23922 68 = .ok (.iload_n 2, 1) := by decide +kernel
theorem dJ7_rangeCheck_23922_69 : decode cJ7_rangeCheck_23922 69 = .ok (.invokespecial 70, 3) := by decide +kernel
theorem dJ7_rangeCheck_23922_72 : decode cJ7_rangeCheck_23922 72 = .ok (.athrow, 1) := by decide +kernel
theorem dJ7_rangeCheck_23922_73 : decode cJ7_rangeCheck_23922 73 = .ok (.return_, 1) := by decide +kernel
theorem dJ7_fill_bad5a_0 : decode cJ7_fill_bad5a 0 = .ok (.aload_n 0, 1) := by decide +kernel
theorem dJ7_fill_bad5a_1 : decode cJ7_fill_bad5a 1 = .ok (.arraylength, 1) := by decide +kernel
theorem dJ7_fill_bad5a_2 : decode cJ7_fill_bad5a 2 = .ok (.iload_n 1, 1) := by decide +kernel
theorem dJ7_fill_bad5a_3 : decode cJ7_fill_bad5a 3 = .ok (.iload_n 2, 1) := by decide +kernel
theorem dJ7_fill_bad5a_4 : decode cJ7_fill_bad5a 4 = .ok (.invokestatic 13, 3) := by decide +kernel
theorem dJ7_fill_bad5a_7 : decode cJ7_fill_bad5a 7 = .ok (.iload_n 1, 1) := by decide +kernel
theorem dJ7_fill_bad5a_8 : decode cJ7_fill_bad5a 8 = .ok (.istore 5, 2) := by decide +kernel
theorem dJ7_fill_bad5a_10 : decode cJ7_fill_bad5a 10 = .ok (.iload 5, 2) := by decide +kernel
theorem dJ7_fill_bad5a_12 : decode cJ7_fill_bad5a 12 = .ok (.iload_n 2, 1) := by decide +kernel
theorem dJ7_fill_bad5a_13 : decode cJ7_fill_bad5a 13 = .ok (.if_icmp .ge 14, 3) := by decide +kernel
theorem dJ7_fill_bad5a_16 : decode cJ7_fill_bad5a 16 = .ok (.aload_n 0, 1) := by decide +kernel
theorem dJ7_fill_bad5a_17 : decode cJ7_fill_bad5a 17 = .ok (.iload 5, 2) := by decide +kernel
theorem dJ7_fill_bad5a_19 : decode cJ7_fill_bad5a 19 = .ok (.lload_n 3, 1) := by decide +kernel
theorem dJ7_fill_bad5a_20 : decode cJ7_fill_bad5a 20 = .ok (.lastore, 1) := by decide +kernel
theorem dJ7_fill_bad5a_21 : decode cJ7_fill_bad5a 21 = .ok (.iinc 5 1, 3) := by decide +kernel
theorem dJ7_fill_bad5a_24 : decode cJ7_fill_bad5a 24 = .ok (.goto (-14), 3) := by decide +kernel
theorem dJ7_fill_bad5a_27 : decode cJ7_fill_bad5a 27 = .ok (.return_, 1) := by decide +kernel
theorem dJ7_fill_53178_0 : decode cJ7_fill_53178 0 = .ok (.iconst 0, 1) := by decide +kernel
theorem dJ7_fill_53178_1 : decode cJ7_fill_53178 1 = .ok (.istore_n 2, 1) := by decide +kernel
theorem dJ7_fill_53178_2 : decode cJ7_fill_53178 2 = .ok (.aload_n 0, 1) := by decide +kernel
theorem dJ7_fill_53178_3 : decode cJ7_fill_53178 3 = .ok (.arraylength, 1) := by decide +kernel
theorem dJ7_fill_53178_4 : decode cJ7_fill_53178 4 = .ok (.istore_n 3, 1) := by decide +kernel
theorem dJ7_fill_53178_5 : decode cJ7_fill_53178 5 = .ok (.iload_n 2, 1) := by decide +kernel
theorem dJ7_fill_53178_6 : decode cJ7_fill_53178 6 = .ok (.iload_n 3, 1) := by decide +kernel
theorem dJ7_fill_53178_7 : decode cJ7_fill_53178 7 = .ok (.if_icmp .ge 13, 3) := by decide +kernel
theorem dJ7_fill_53178_10 : decode cJ7_fill_53178 10 = .ok (.aload_n 0, 1) := by decide +kernel
theorem dJ7_fill_53178_11 : decode cJ7_fill_53178 11 = .ok (.iload_n 2, 1) := by decide +kernel
theorem dJ7_fill_53178_12 : decode cJ7_fill_53178 12 = .ok (.iload_n 1, 1) := by decide +kernel
theorem dJ7_fill_53178_13 : decode cJ7_fill_53178 13 = .ok (.iastore, 1) := by decide +kernel
theorem dJ7_fill_53178_14 : decode cJ7_fill_53178 14 = .ok (.iinc 2 1, 3) := by decide +kernel
theorem dJ7_fill_53178_17 : decode cJ7_fill_53178 17 = .ok (.goto (-12), 3) := by decide +kernel
theorem dJ7_fill_53178_20 : decode cJ7_fill_53178 20 = .ok (.return_, 1) := by decide +kernel
