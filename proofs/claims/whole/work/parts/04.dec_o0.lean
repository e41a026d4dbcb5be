theorem dX0_init_0 : decode cX0_init 0 = .ok (.aload_n 0, 1) := by decide +kernel
theorem dX0_init_1 : decode cX0_init 1 = .ok (.invokespecial 3, 3) := by decide +kernel
theorem dX0_init_4 : decode cX0_init 4 = .ok (.aload_n 0, 1) := by decide +kernel
theorem dX0_init_5 : decode cX0_init 5 = .ok (.new 9, 3) := by decide +kernel
theorem dX0_init_8 : decode cX0_init 8 = .ok (.dup, 1) := by decide +kernel
theorem dX0_init_9 : decode cX0_init 9 = .ok (.invokespecial 11, 3) := by decide +kernel
theorem dX0_init_12 : decode cX0_init 12 = .ok (.putfield 12, 3) := by decide +kernel
theorem dX0_init_15 : decode cX0_init 15 = .ok (.aload_n 0, 1) := by decide +kernel
theorem dX0_init_16 : decode cX0_init 16 = .ok (.iconst 1, 1) := by decide +kernel
theorem dX0_init_17 : decode cX0_init 17 = .ok (.putfield 18, 3) := by decide +kernel
theorem dX0_init_20 : decode cX0_init 20 = .ok (.aload_n 0, 1) := by decide +kernel
theorem dX0_init_21 : decode cX0_init 21 = .ok (.iload_n 1, 1) := by decide +kernel
theorem dX0_init_22 : decode cX0_init 22 = .ok (.putfield 22, 3) := by decide +kernel
theorem dX0_init_25 : decode cX0_init 25 = .ok (.aload_n 0, 1) := by decide +kernel
theorem dX0_init_26 : decode cX0_init 26 = .ok (.iload_n 2, 1) := by decide +kernel
theorem dX0_init_27 : decode cX0_init 27 = .ok (.bipush 100, 2) := by decide +kernel
theorem dX0_init_29 : decode cX0_init 29 = .ok (.idiv, 1) := by decide +kernel
theorem dX0_init_30 : decode cX0_init 30 = .ok (.putfield 26, 3) := by decide +kernel
theorem dX0_init_33 : decode cX0_init 33 = .ok (.aload_n 0, 1) := by decide +kernel
theorem dX0_init_34 : decode cX0_init 34 = .ok (.iload_n 2, 1) := by decide +kernel
theorem dX0_init_35 : decode cX0_init 35 = .ok (.bipush 100, 2) := by decide +kernel
theorem dX0_init_37 : decode cX0_init 37 = .ok (.irem, 1) := by decide +kernel
theorem dX0_init_38 : decode cX0_init 38 = .ok (.putfield 29, 3) := by decide +kernel
theorem dX0_init_41 : decode cX0_init 41 = .ok (.aload_n 0, 1) := by decide +kernel
theorem dX0_init_42 : decode cX0_init 42 = .ok (.iload 6, 2) := by decide +kernel
theorem dX0_init_44 : decode cX0_init 44 = .ok (.putfield 32, 3) := by decide +kernel
theorem dX0_init_47 : decode cX0_init 47 = .ok (.aload_n 0, 1) := by decide +kernel
theorem dX0_init_48 : decode cX0_init 48 = .ok (.new 35, 3) := by decide +kernel
theorem dX0_init_51 : decode cX0_init 51 = .ok (.dup, 1) := by decide +kernel
theorem dX0_init_52 : decode cX0_init 52 = .ok (.iload 4, 2) := by decide +kernel
theorem dX0_init_54 : decode cX0_init 54 = .ok (.i2l, 1) := by decide +kernel
theorem dX0_init_55 : decode cX0_init 55 = .ok (.iload 6, 2) := by decide +kernel
theorem dX0_init_57 : decode cX0_init 57 = .ok (.i2l, 1) := by decide +kernel
theorem dX0_init_58 : decode cX0_init 58 = .ok (.invokespecial 37, 3) := by decide +kernel
theorem dX0_init_61 : decode cX0_init 61 = .ok (.putfield 40, 3) := by decide +kernel
theorem dX0_init_64 : decode cX0_init 64 = .ok (.aload_n 0, 1) := by decide +kernel
theorem dX0_init_65 : decode cX0_init 65 = .ok (.getfield 12, 3) := by decide +kernel
theorem dX0_init_68 : decode cX0_init 68 = .ok (.aload_n 0, 1) := by decide +kernel
theorem dX0_init_69 : decode cX0_init 69 = .ok (.getfield 40, 3) := by decide +kernel
theorem dX0_init_72 : decode cX0_init 72 = .ok (.invokevirtual 44, 3) := by decide +kernel
theorem dX0_init_75 : decode cX0_init 75 = .ok (.pop, 1) := by decide +kernel
theorem dX0_init_76 : decode cX0_init 76 = .ok (.aload_n 0, 1) := by decide +kernel
theorem dX0_init_77 : decode cX0_init 77 = .ok (.getfield 40, 3) := by decide +kernel
theorem dX0_init_80 : decode cX0_init 80 = .ok (.astore 7, 2) := by decide +kernel
theorem dX0_init_82 : decode cX0_init 82 = .ok (.iconst 1, 1) := by decide +kernel
theorem dX0_init_83 : decode cX0_init 83 = .ok (.istore 8, 2) := by decide +kernel
theorem dX0_init_85 : decode cX0_init 85 = .ok (.iload 8, 2) := by decide +kernel
theorem dX0_init_87 : decode cX0_init 87 = .ok (.iload_n 3, 1) := by decide +kernel
theorem dX0_init_88 : decode cX0_init 88 = .ok (.if_icmp .ge 40, 3) := by decide +kernel
theorem dX0_init_91 : decode cX0_init 91 = .ok (.new 35, 3) := by decide +kernel
theorem dX0_init_94 : decode cX0_init 94 = .ok (.dup, 1) := by decide +kernel
theorem dX0_init_95 : decode cX0_init 95 = .ok (.iload 4, 2) := by decide +kernel
theorem dX0_init_97 : decode cX0_init 97 = .ok (.iload 8, 2) := by decide +kernel
theorem dX0_init_99 : decode cX0_init 99 = .ok (.iload 5, 2) := by decide +kernel
theorem dX0_init_101 : decode cX0_init 101 = .ok (.imul, 1) := by decide +kernel
theorem dX0_init_102 : decode cX0_init 102 = .ok (.iadd, 1) := by decide +kernel
theorem dX0_init_103 : decode cX0_init 103 = .ok (.i2l, 1) := by decide +kernel
theorem dX0_init_104 : decode cX0_init 104 = .ok (.iload 6, 2) := by decide +kernel
theorem dX0_init_106 : decode cX0_init 106 = .ok (.i2l, 1) := by decide +kernel
theorem dX0_init_107 : decode cX0_init 107 = .ok (.invokespecial 37, 3) := by decide +kernel
theorem dX0_init_110 : decode cX0_init 110 = .ok (.astore 7, 2) := by decide +kernel
theorem dX0_init_112 : decode cX0_init 112 = .ok (.aload_n 0, 1) := by decide +kernel
theorem dX0_init_113 : decode cX0_init 113 = .ok (.getfield 12, 3) := by decide +kernel
theorem dX0_init_116 : decode cX0_init 116 = .ok (.aload 7, 2) := by decide +kernel
theorem dX0_init_118 : decode cX0_init 118 = .ok (.invokevirtual 44, 3) := by decide +kernel
theorem dX0_init_121 : decode cX0_init 121 = .ok (.pop, 1) := by decide +kernel
theorem dX0_init_122 : decode cX0_init 122 = .ok (.iinc 8 1, 3) := by decide +kernel
theorem dX0_init_125 : decode cX0_init 125 = .ok (.goto (-40), 3) := by decide +kernel
theorem dX0_init_128 : decode cX0_init 128 = .ok (.aload_n 0, 1) := by decide +kernel
theorem dX0_init_129 : decode cX0_init 129 = .ok (.aload 7, 2) := by decide +kernel
theorem dX0_init_131 : decode cX0_init 131 = .ok (.putfield 48, 3) := by decide +kernel
theorem dX0_init_134 : decode cX0_init 134 = .ok (.return_, 1) := by decide +kernel
theorem dX0_isFrozen_0 : decode cX0_isFrozen 0 = .ok (.aload_n 0, 1) := by decide +kernel
theorem dX0_isFrozen_1 : decode cX0_isFrozen 1 = .ok (.getfield 40, 3) := by decide +kernel
theorem dX0_isFrozen_4 : decode cX0_isFrozen 4 = .ok (.getfield 51, 3) := by decide +kernel
theorem dX0_isFrozen_7 : decode cX0_isFrozen 7 = .ok (.lconst 0, 1) := by decide +kernel
theorem dX0_isFrozen_8 : decode cX0_isFrozen 8 = .ok (.lcmp, 1) := by decide +kernel
theorem dX0_isFrozen_9 : decode cX0_isFrozen 9 = .ok (.ifCond .gt 7, 3) := by decide +kernel
theorem dX0_isFrozen_12 : decode cX0_isFrozen 12 = .ok (.iconst 1, 1) := by decide +kernel
theorem dX0_isFrozen_13 : decode cX0_isFrozen 13 = .ok (.goto 4, 3) := by decide +kernel
theorem dX0_isFrozen_16 : decode cX0_isFrozen 16 = .ok (.iconst 0, 1) := by decide +kernel
theorem dX0_isFrozen_17 : decode cX0_isFrozen 17 = .ok (.ireturn, 1) := by decide +kernel
theorem dX0_leadOut_0 : decode cX0_leadOut 0 = .ok (.ldc2_w 55, 3) := by decide +kernel
theorem dX0_leadOut_3 : decode cX0_leadOut 3 = .ok (.aload_n 0, 1) := by decide +kernel
theorem dX0_leadOut_4 : decode cX0_leadOut 4 = .ok (.getfield 32, 3) := by decide +kernel
theorem dX0_leadOut_7 : decode cX0_leadOut 7 = .ok (.i2l, 1) := by decide +kernel
theorem dX0_leadOut_8 : decode cX0_leadOut 8 = .ok (.lmul, 1) := by decide +kernel
theorem dX0_leadOut_9 : decode cX0_leadOut 9 = .ok (.lstore_n 1, 1) := by decide +kernel
theorem dX0_leadOut_10 : decode cX0_leadOut 10 = .ok (.aload_n 0, 1) := by decide +kernel
theorem dX0_leadOut_11 : decode cX0_leadOut 11 = .ok (.getfield 40, 3) := by decide +kernel
theorem dX0_leadOut_14 : decode cX0_leadOut 14 = .ok (.astore_n 3, 1) := by decide +kernel
theorem dX0_leadOut_15 : decode cX0_leadOut 15 = .ok (.iconst 1, 1) := by decide +kernel
theorem dX0_leadOut_16 : decode cX0_leadOut 16 = .ok (.istore 4, 2) := by decide +kernel
theorem dX0_leadOut_18 : decode cX0_leadOut 18 = .ok (.iload 4, 2) := by decide +kernel
theorem dX0_leadOut_20 : decode cX0_leadOut 20 = .ok (.aload_n 0, 1) := by decide +kernel
theorem dX0_leadOut_21 : decode cX0_leadOut 21 = .ok (.getfield 12, 3) := by decide +kernel
theorem dX0_leadOut_24 : decode cX0_leadOut 24 = .ok (.invokevirtual 57, 3) := by decide +kernel
theorem dX0_leadOut_27 : decode cX0_leadOut 27 = .ok (.if_icmp .ge 71, 3) := by decide +kernel
theorem dX0_leadOut_30 : decode cX0_leadOut 30 = .ok (.aload_n 0, 1) := by decide +kernel
theorem dX0_leadOut_31 : decode cX0_leadOut 31 = .ok (.getfield 12, 3) := by decide +kernel
theorem dX0_leadOut_34 : decode cX0_leadOut 34 = .ok (.iload 4, 2) := by decide +kernel
theorem dX0_leadOut_36 : decode cX0_leadOut 36 = .ok (.invokevirtual 61, 3) := by decide +kernel
theorem dX0_leadOut_39 : decode cX0_leadOut 39 = .ok (.checkcast 35, 3) := by decide +kernel
theorem dX0_leadOut_42 : decode cX0_leadOut 42 = .ok (.astore 5, 2) := by decide +kernel
theorem dX0_leadOut_44 : decode cX0_leadOut 44 = .ok (.aload_n 0, 1) := by decide +kernel
theorem dX0_leadOut_45 : decode cX0_leadOut 45 = .ok (.getfield 65, 3) := by decide +kernel
theorem dX0_leadOut_48 : decode cX0_leadOut 48 = .ok (.i2l, 1) := by decide +kernel
theorem dX0_leadOut_49 : decode cX0_leadOut 49 = .ok (.aload_n 3, 1) := by decide +kernel
theorem dX0_leadOut_50 : decode cX0_leadOut 50 = .ok (.getfield 51, 3) := by decide +kernel
theorem dX0_leadOut_53 : decode cX0_leadOut 53 = .ok (.aload 5, 2) := by decide +kernel
theorem dX0_leadOut_55 : decode cX0_leadOut 55 = .ok (.getfield 51, 3) := by decide +kernel
theorem dX0_leadOut_58 : decode cX0_leadOut 58 = .ok (.lsub, 1) := by decide +kernel
theorem dX0_leadOut_59 : decode cX0_leadOut 59 = .ok (.lmul, 1) := by decide +kernel
theorem dX0_leadOut_60 : decode cX0_leadOut 60 = .ok (.ldc2_w 68, 3) := by decide +kernel
theorem dX0_leadOut_63 : decode cX0_leadOut 63 = .ok (.ldiv, 1) := by decide +kernel
theorem dX0_leadOut_64 : decode cX0_leadOut 64 = .ok (.lstore 6, 2) := by decide +kernel
theorem dX0_leadOut_66 : decode cX0_leadOut 66 = .ok (.aload_n 3, 1) := by decide +kernel
theorem dX0_leadOut_67 : decode cX0_leadOut 67 = .ok (.dup, 1) := by decide +kernel
theorem dX0_leadOut_68 : decode cX0_leadOut 68 = .ok (.getfield 70, 3) := by decide +kernel
theorem dX0_leadOut_71 : decode cX0_leadOut 71 = .ok (.lload 6, 2) := by decide +kernel
theorem dX0_leadOut_73 : decode cX0_leadOut 73 = .ok (.lsub, 1) := by decide +kernel
theorem dX0_leadOut_74 : decode cX0_leadOut 74 = .ok (.putfield 70, 3) := by decide +kernel
theorem dX0_leadOut_77 : decode cX0_leadOut 77 = .ok (.aload 5, 2) := by decide +kernel
theorem dX0_leadOut_79 : decode cX0_leadOut 79 = .ok (.dup, 1) := by decide +kernel
theorem dX0_leadOut_80 : decode cX0_leadOut 80 = .ok (.getfield 70, 3) := by decide +kernel
theorem dX0_leadOut_83 : decode cX0_leadOut 83 = .ok (.lload 6, 2) := by decide +kernel
theorem dX0_leadOut_85 : decode cX0_leadOut 85 = .ok (.ladd, 1) := by decide +kernel
theorem dX0_leadOut_86 : decode cX0_leadOut 86 = .ok (.putfield 70, 3) := by decide +kernel
theorem dX0_leadOut_89 : decode cX0_leadOut 89 = .ok (.aload 5, 2) := by decide +kernel
theorem dX0_leadOut_91 : decode cX0_leadOut 91 = .ok (.astore_n 3, 1) := by decide +kernel
theorem dX0_leadOut_92 : decode cX0_leadOut 92 = .ok (.iinc 4 1, 3) := by decide +kernel
theorem dX0_leadOut_95 : decode cX0_leadOut 95 = .ok (.goto (-77), 3) := by decide +kernel
theorem dX0_leadOut_98 : decode cX0_leadOut 98 = .ok (.aload_n 0, 1) := by decide +kernel
theorem dX0_leadOut_99 : decode cX0_leadOut 99 = .ok (.getfield 65, 3) := by decide +kernel
theorem dX0_leadOut_102 : decode cX0_leadOut 102 = .ok (.i2l, 1) := by decide +kernel
theorem dX0_leadOut_103 : decode cX0_leadOut 103 = .ok (.aload_n 3, 1) := by decide +kernel
theorem dX0_leadOut_104 : decode cX0_leadOut 104 = .ok (.getfield 51, 3) := by decide +kernel
theorem dX0_leadOut_107 : decode cX0_leadOut 107 = .ok (.lload_n 1, 1) := by decide +kernel
theorem dX0_leadOut_108 : decode cX0_leadOut 108 = .ok (.lsub, 1) := by decide +kernel
theorem dX0_leadOut_109 : decode cX0_leadOut 109 = .ok (.lmul, 1) := by decide +kernel
theorem dX0_leadOut_110 : decode cX0_leadOut 110 = .ok (.ldc2_w 68, 3) := by decide +kernel
theorem dX0_leadOut_113 : decode cX0_leadOut 113 = .ok (.ldiv, 1) := by decide +kernel
theorem dX0_leadOut_114 : decode cX0_leadOut 114 = .ok (.lstore 4, 2) := by decide +kernel
theorem dX0_leadOut_116 : decode cX0_leadOut 116 = .ok (.aload_n 3, 1) := by decide +kernel
theorem dX0_leadOut_117 : decode cX0_leadOut 117 = .ok (.dup, 1) := by decide +kernel
theorem dX0_leadOut_118 : decode cX0_leadOut 118 = .ok (.getfield 70, 3) := by decide +kernel
theorem dX0_leadOut_121 : decode cX0_leadOut 121 = .ok (.lload 4, 2) := by decide +kernel
theorem dX0_leadOut_123 : decode cX0_leadOut 123 = .ok (.lsub, 1) := by decide +kernel
theorem dX0_leadOut_124 : decode cX0_leadOut 124 = .ok (.putfield 70, 3) := by decide +kernel
theorem dX0_leadOut_127 : decode cX0_leadOut 127 = .ok (.lload 4, 2) := by decide +kernel
theorem dX0_leadOut_129 : decode cX0_leadOut 129 = .ok (.lreturn, 1) := by decide +kernel
theorem dX0_shareWith_0 : decode cX0_shareWith 0 = .ok (.aload_n 0, 1) := by decide +kernel
theorem dX0_shareWith_1 : decode cX0_shareWith 1 = .ok (.getfield 26, 3) := by decide +kernel
theorem dX0_shareWith_4 : decode cX0_shareWith 4 = .ok (.aload_n 1, 1) := by decide +kernel
theorem dX0_shareWith_5 : decode cX0_shareWith 5 = .ok (.getfield 26, 3) := by decide +kernel
theorem dX0_shareWith_8 : decode cX0_shareWith 8 = .ok (.isub, 1) := by decide +kernel
theorem dX0_shareWith_9 : decode cX0_shareWith 9 = .ok (.invokestatic 73, 3) := by decide +kernel
theorem dX0_shareWith_12 : decode cX0_shareWith 12 = .ok (.aload_n 0, 1) := by decide +kernel
theorem dX0_shareWith_13 : decode cX0_shareWith 13 = .ok (.getfield 29, 3) := by decide +kernel
theorem dX0_shareWith_16 : decode cX0_shareWith 16 = .ok (.aload_n 1, 1) := by decide +kernel
theorem dX0_shareWith_17 : decode cX0_shareWith 17 = .ok (.getfield 29, 3) := by decide +kernel
theorem dX0_shareWith_20 : decode cX0_shareWith 20 = .ok (.isub, 1) := by decide +kernel
theorem dX0_shareWith_21 : decode cX0_shareWith 21 = .ok (.invokestatic 73, 3) := by decide +kernel
theorem dX0_shareWith_24 : decode cX0_shareWith 24 = .ok (.invokestatic 79, 3) := by decide +kernel
theorem dX0_shareWith_27 : decode cX0_shareWith 27 = .ok (.istore_n 3, 1) := by decide +kernel
theorem dX0_shareWith_28 : decode cX0_shareWith 28 = .ok (.iload_n 3, 1) := by decide +kernel
theorem dX0_shareWith_29 : decode cX0_shareWith 29 = .ok (.bipush 9, 2) := by decide +kernel
theorem dX0_shareWith_31 : decode cX0_shareWith 31 = .ok (.if_icmp .le 4, 3) := by decide +kernel
theorem dX0_shareWith_34 : decode cX0_shareWith 34 = .ok (.return_, 1) := by decide +kernel
theorem dX0_shareWith_35 : decode cX0_shareWith 35 = .ok (.iload_n 2, 1) := by decide +kernel
theorem dX0_shareWith_36 : decode cX0_shareWith 36 = .ok (.i2l, 1) := by decide +kernel
theorem dX0_shareWith_37 : decode cX0_shareWith 37 = .ok (.aload_n 0, 1) := by decide +kernel
theorem dX0_shareWith_38 : decode cX0_shareWith 38 = .ok (.getfield 48, 3) := by decide +kernel
theorem dX0_shareWith_41 : decode cX0_shareWith 41 = .ok (.getfield 51, 3) := by decide +kernel
theorem dX0_shareWith_44 : decode cX0_shareWith 44 = .ok (.aload_n 1, 1) := by decide +kernel
theorem dX0_shareWith_45 : decode cX0_shareWith 45 = .ok (.getfield 48, 3) := by decide +kernel
theorem dX0_shareWith_48 : decode cX0_shareWith 48 = .ok (.getfield 51, 3) := by decide +kernel
theorem dX0_shareWith_51 : decode cX0_shareWith 51 = .ok (.lsub, 1) := by decide +kernel
theorem dX0_shareWith_52 : decode cX0_shareWith 52 = .ok (.lmul, 1) := by decide +kernel
theorem dX0_shareWith_53 : decode cX0_shareWith 53 = .ok (.ldc2_w 68, 3) := by decide +kernel
theorem dX0_shareWith_56 : decode cX0_shareWith 56 = .ok (.iload_n 3, 1) := by decide +kernel
theorem dX0_shareWith_57 : decode cX0_shareWith 57 = .ok (.iconst 1, 1) := by decide +kernel
theorem dX0_shareWith_58 : decode cX0_shareWith 58 = .ok (.iadd, 1) := by decide +kernel
theorem dX0_shareWith_59 : decode cX0_shareWith 59 = .ok (.i2l, 1) := by decide +kernel
theorem dX0_shareWith_60 : decode cX0_shareWith 60 = .ok (.lmul, 1) := by decide +kernel
theorem dX0_shareWith_61 : decode cX0_shareWith 61 = .ok (.invokestatic 83, 3) := by decide +kernel
theorem dX0_shareWith_64 : decode cX0_shareWith 64 = .ok (.lstore 4, 2) := by decide +kernel
theorem dX0_shareWith_66 : decode cX0_shareWith 66 = .ok (.aload_n 0, 1) := by decide +kernel
theorem dX0_shareWith_67 : decode cX0_shareWith 67 = .ok (.getfield 48, 3) := by decide +kernel
theorem dX0_shareWith_70 : decode cX0_shareWith 70 = .ok (.dup, 1) := by decide +kernel
theorem dX0_shareWith_71 : decode cX0_shareWith 71 = .ok (.getfield 70, 3) := by decide +kernel
theorem dX0_shareWith_74 : decode cX0_shareWith 74 = .ok (.lload 4, 2) := by decide +kernel
theorem dX0_shareWith_76 : decode cX0_shareWith 76 = .ok (.lsub, 1) := by decide +kernel
theorem dX0_shareWith_77 : decode cX0_shareWith 77 = .ok (.putfield 70, 3) := by decide +kernel
theorem dX0_shareWith_80 : decode cX0_shareWith 80 = .ok (.aload_n 1, 1) := by decide +kernel
theorem dX0_shareWith_81 : decode cX0_shareWith 81 = .ok (.getfield 48, 3) := by decide +kernel
theorem dX0_shareWith_84 : decode cX0_shareWith 84 = .ok (.dup, 1) := by decide +kernel
theorem dX0_shareWith_85 : decode cX0_shareWith 85 = .ok (.getfield 70, 3) := by decide +kernel
theorem dX0_shareWith_88 : decode cX0_shareWith 88 = .ok (.lload 4, 2) := by decide +kernel
theorem dX0_shareWith_90 : decode cX0_shareWith 90 = .ok (.ladd, 1) := by decide +kernel
theorem dX0_shareWith_91 : decode cX0_shareWith 91 = .ok (.putfield 70, 3) := by decide +kernel
theorem dX0_shareWith_94 : decode cX0_shareWith 94 = .ok (.return_, 1) := by decide +kernel
theorem dX0_wash_0 : decode cX0_wash 0 = .ok (.lconst 0, 1) := by decide +kernel
theorem dX0_wash_1 : decode cX0_wash 1 = .ok (.lstore_n 1, 1) := by decide +kernel
theorem dX0_wash_2 : decode cX0_wash 2 = .ok (.iconst 0, 1) := by decide +kernel
theorem dX0_wash_3 : decode cX0_wash 3 = .ok (.istore_n 3, 1) := by decide +kernel
theorem dX0_wash_4 : decode cX0_wash 4 = .ok (.iload_n 3, 1) := by decide +kernel
theorem dX0_wash_5 : decode cX0_wash 5 = .ok (.aload_n 0, 1) := by decide +kernel
theorem dX0_wash_6 : decode cX0_wash 6 = .ok (.getfield 12, 3) := by decide +kernel
theorem dX0_wash_9 : decode cX0_wash 9 = .ok (.invokevirtual 57, 3) := by decide +kernel
theorem dX0_wash_12 : decode cX0_wash 12 = .ok (.if_icmp .ge 62, 3) := by decide +kernel
theorem dX0_wash_15 : decode cX0_wash 15 = .ok (.aload_n 0, 1) := by decide +kernel
theorem dX0_wash_16 : decode cX0_wash 16 = .ok (.getfield 12, 3) := by decide +kernel
theorem dX0_wash_19 : decode cX0_wash 19 = .ok (.iload_n 3, 1) := by decide +kernel
theorem dX0_wash_20 : decode cX0_wash 20 = .ok (.invokevirtual 61, 3) := by decide +kernel
theorem dX0_wash_23 : decode cX0_wash 23 = .ok (.checkcast 35, 3) := by decide +kernel
theorem dX0_wash_26 : decode cX0_wash 26 = .ok (.astore 4, 2) := by decide +kernel
theorem dX0_wash_28 : decode cX0_wash 28 = .ok (.aload_n 0, 1) := by decide +kernel
theorem dX0_wash_29 : decode cX0_wash 29 = .ok (.getfield 87, 3) := by decide +kernel
theorem dX0_wash_32 : decode cX0_wash 32 = .ok (.i2l, 1) := by decide +kernel
theorem dX0_wash_33 : decode cX0_wash 33 = .ok (.aload 4, 2) := by decide +kernel
theorem dX0_wash_35 : decode cX0_wash 35 = .ok (.getfield 90, 3) := by decide +kernel
theorem dX0_wash_38 : decode cX0_wash 38 = .ok (.aload 4, 2) := by decide +kernel
theorem dX0_wash_40 : decode cX0_wash 40 = .ok (.getfield 93, 3) := by decide +kernel
theorem dX0_wash_43 : decode cX0_wash 43 = .ok (.lsub, 1) := by decide +kernel
theorem dX0_wash_44 : decode cX0_wash 44 = .ok (.lmul, 1) := by decide +kernel
theorem dX0_wash_45 : decode cX0_wash 45 = .ok (.ldc2_w 55, 3) := by decide +kernel
theorem dX0_wash_48 : decode cX0_wash 48 = .ok (.ldiv, 1) := by decide +kernel
theorem dX0_wash_49 : decode cX0_wash 49 = .ok (.lstore 5, 2) := by decide +kernel
theorem dX0_wash_51 : decode cX0_wash 51 = .ok (.aload 4, 2) := by decide +kernel
theorem dX0_wash_53 : decode cX0_wash 53 = .ok (.dup, 1) := by decide +kernel
theorem dX0_wash_54 : decode cX0_wash 54 = .ok (.getfield 70, 3) := by decide +kernel
theorem dX0_wash_57 : decode cX0_wash 57 = .ok (.lload 5, 2) := by decide +kernel
theorem dX0_wash_59 : decode cX0_wash 59 = .ok (.lsub, 1) := by decide +kernel
theorem dX0_wash_60 : decode cX0_wash 60 = .ok (.putfield 70, 3) := by decide +kernel
theorem dX0_wash_63 : decode cX0_wash 63 = .ok (.lload_n 1, 1) := by decide +kernel
theorem dX0_wash_64 : decode cX0_wash 64 = .ok (.lload 5, 2) := by decide +kernel
theorem dX0_wash_66 : decode cX0_wash 66 = .ok (.ladd, 1) := by decide +kernel
theorem dX0_wash_67 : decode cX0_wash 67 = .ok (.lstore_n 1, 1) := by decide +kernel
theorem dX0_wash_68 : decode cX0_wash 68 = .ok (.iinc 3 1, 3) := by decide +kernel
theorem dX0_wash_71 : decode cX0_wash 71 = .ok (.goto (-67), 3) := by decide +kernel
theorem dX0_wash_74 : decode cX0_wash 74 = .ok (.lload_n 1, 1) := by decide +kernel
theorem dX0_wash_75 : decode cX0_wash 75 = .ok (.lreturn, 1) := by decide +kernel
theorem dX0_settle_0 : decode cX0_settle 0 = .ok (.iconst 0, 1) := by decide +kernel
theorem dX0_settle_1 : decode cX0_settle 1 = .ok (.istore_n 1, 1) := by decide +kernel
theorem dX0_settle_2 : decode cX0_settle 2 = .ok (.iload_n 1, 1) := by decide +kernel
theorem dX0_settle_3 : decode cX0_settle 3 = .ok (.aload_n 0, 1) := by decide +kernel
theorem dX0_settle_4 : decode cX0_settle 4 = .ok (.getfield 12, 3) := by decide +kernel
theorem dX0_settle_7 : decode cX0_settle 7 = .ok (.invokevirtual 57, 3) := by decide +kernel
theorem dX0_settle_10 : decode cX0_settle 10 = .ok (.if_icmp .ge 23, 3) := by decide +kernel
theorem dX0_settle_13 : decode cX0_settle 13 = .ok (.aload_n 0, 1) := by decide +kernel
theorem dX0_settle_14 : decode cX0_settle 14 = .ok (.getfield 12, 3) := by decide +kernel
theorem dX0_settle_17 : decode cX0_settle 17 = .ok (.iload_n 1, 1) := by decide +kernel
theorem dX0_settle_18 : decode cX0_settle 18 = .ok (.invokevirtual 61, 3) := by decide +kernel
theorem dX0_settle_21 : decode cX0_settle 21 = .ok (.checkcast 35, 3) := by decide +kernel
theorem dX0_settle_24 : decode cX0_settle 24 = .ok (.invokevirtual 96, 3) := by decide +kernel
theorem dX0_settle_27 : decode cX0_settle 27 = .ok (.iinc 1 1, 3) := by decide +kernel
theorem dX0_settle_30 : decode cX0_settle 30 = .ok (.goto (-28), 3) := by decide +kernel
theorem dX0_settle_33 : decode cX0_settle 33 = .ok (.return_, 1) := by decide +kernel
theorem dX0_follow_0 : decode cX0_follow 0 = .ok (.aload_n 0, 1) := by decide +kernel
theorem dX0_follow_1 : decode cX0_follow 1 = .ok (.aload_n 1, 1) := by decide +kernel
theorem dX0_follow_2 : decode cX0_follow 2 = .ok (.getfield 65, 3) := by decide +kernel
theorem dX0_follow_5 : decode cX0_follow 5 = .ok (.putfield 65, 3) := by decide +kernel
theorem dX0_follow_8 : decode cX0_follow 8 = .ok (.aload_n 0, 1) := by decide +kernel
theorem dX0_follow_9 : decode cX0_follow 9 = .ok (.aload_n 1, 1) := by decide +kernel
theorem dX0_follow_10 : decode cX0_follow 10 = .ok (.getfield 87, 3) := by decide +kernel
theorem dX0_follow_13 : decode cX0_follow 13 = .ok (.putfield 87, 3) := by decide +kernel
theorem dX0_follow_16 : decode cX0_follow 16 = .ok (.aload_n 0, 1) := by decide +kernel
theorem dX0_follow_17 : decode cX0_follow 17 = .ok (.aload_n 1, 1) := by decide +kernel
theorem dX0_follow_18 : decode cX0_follow 18 = .ok (.getfield 18, 3) := by decide +kernel
theorem dX0_follow_21 : decode cX0_follow 21 = .ok (.putfield 18, 3) := by decide +kernel
theorem dX0_follow_24 : decode cX0_follow 24 = .ok (.aload_n 0, 1) := by decide +kernel
theorem dX0_follow_25 : decode cX0_follow 25 = .ok (.aload_n 1, 1) := by decide +kernel
theorem dX0_follow_26 : decode cX0_follow 26 = .ok (.getfield 99, 3) := by decide +kernel
theorem dX0_follow_29 : decode cX0_follow 29 = .ok (.putfield 99, 3) := by decide +kernel
theorem dX0_follow_32 : decode cX0_follow 32 = .ok (.iconst 0, 1) := by decide +kernel
theorem dX0_follow_33 : decode cX0_follow 33 = .ok (.istore_n 2, 1) := by decide +kernel
theorem dX0_follow_34 : decode cX0_follow 34 = .ok (.iload_n 2, 1) := by decide +kernel
theorem dX0_follow_35 : decode cX0_follow 35 = .ok (.aload_n 0, 1) := by decide +kernel
theorem dX0_follow_36 : decode cX0_follow 36 = .ok (.getfield 12, 3) := by decide +kernel
theorem dX0_follow_39 : decode cX0_follow 39 = .ok (.invokevirtual 57, 3) := by decide +kernel
theorem dX0_follow_42 : decode cX0_follow 42 = .ok (.if_icmp .ge 45, 3) := by decide +kernel
theorem dX0_follow_45 : decode cX0_follow 45 = .ok (.iload_n 2, 1) := by decide +kernel
theorem dX0_follow_46 : decode cX0_follow 46 = .ok (.aload_n 1, 1) := by decide +kernel
theorem dX0_follow_47 : decode cX0_follow 47 = .ok (.getfield 12, 3) := by decide +kernel
theorem dX0_follow_50 : decode cX0_follow 50 = .ok (.invokevirtual 57, 3) := by decide +kernel
theorem dX0_follow_53 : decode cX0_follow 53 = .ok (.if_icmp .ge 34, 3) := by decide +kernel
theorem dX0_follow_56 : decode cX0_follow 56 = .ok (.aload_n 0, 1) := by decide +kernel
theorem dX0_follow_57 : decode cX0_follow 57 = .ok (.getfield 12, 3) := by decide +kernel
theorem dX0_follow_60 : decode cX0_follow 60 = .ok (.iload_n 2, 1) := by decide +kernel
theorem dX0_follow_61 : decode cX0_follow 61 = .ok (.invokevirtual 61, 3) := by decide +kernel
theorem dX0_follow_64 : decode cX0_follow 64 = .ok (.checkcast 35, 3) := by decide +kernel
theorem dX0_follow_67 : decode cX0_follow 67 = .ok (.aload_n 1, 1) := by decide +kernel
theorem dX0_follow_68 : decode cX0_follow 68 = .ok (.getfield 12, 3) := by decide +kernel
theorem dX0_follow_71 : decode cX0_follow 71 = .ok (.iload_n 2, 1) := by decide +kernel
theorem dX0_follow_72 : decode cX0_follow 72 = .ok (.invokevirtual 61, 3) := by decide +kernel
theorem dX0_follow_75 : decode cX0_follow 75 = .ok (.checkcast 35, 3) := by decide +kernel
theorem dX0_follow_78 : decode cX0_follow 78 = .ok (.invokevirtual 102, 3) := by decide +kernel
theorem dX0_follow_81 : decode cX0_follow 81 = .ok (.iinc 2 1, 3) := by decide +kernel
theorem dX0_follow_84 : decode cX0_follow 84 = .ok (.goto (-50), 3) := by decide +kernel
theorem dX0_follow_87 : decode cX0_follow 87 = .ok (.return_, 1) := by decide +kernel
theorem dX1_init_0 : decode cX1_init 0 = .ok (.aload_n 0, 1) := by decide +kernel
theorem dX1_init_1 : decode cX1_init 1 = .ok (.invokespecial 3, 3) := by decide +kernel
theorem dX1_init_4 : decode cX1_init 4 = .ok (.aload_n 0, 1) := by decide +kernel
theorem dX1_init_5 : decode cX1_init 5 = .ok (.new 9, 3) := by decide +kernel
theorem dX1_init_8 : decode cX1_init 8 = .ok (.dup, 1) := by decide +kernel
theorem dX1_init_9 : decode cX1_init 9 = .ok (.invokespecial 11, 3) := by decide +kernel
theorem dX1_init_12 : decode cX1_init 12 = .ok (.putfield 12, 3) := by decide +kernel
theorem dX1_init_15 : decode cX1_init 15 = .ok (.aload_n 0, 1) := by decide +kernel
theorem dX1_init_16 : decode cX1_init 16 = .ok (.bipush 9, 2) := by decide +kernel
theorem dX1_init_18 : decode cX1_init 18 = .ok (.newarray .long, 2) := by decide +kernel
theorem dX1_init_20 : decode cX1_init 20 = .ok (.putfield 18, 3) := by decide +kernel
theorem dX1_init_23 : decode cX1_init 23 = .ok (.aload_n 0, 1) := by decide +kernel
theorem dX1_init_24 : decode cX1_init 24 = .ok (.aload_n 1, 1) := by decide +kernel
theorem dX1_init_25 : decode cX1_init 25 = .ok (.putfield 22, 3) := by decide +kernel
theorem dX1_init_28 : decode cX1_init 28 = .ok (.aload_n 0, 1) := by decide +kernel
theorem dX1_init_29 : decode cX1_init 29 = .ok (.aload_n 2, 1) := by decide +kernel
theorem dX1_init_30 : decode cX1_init 30 = .ok (.putfield 26, 3) := by decide +kernel
theorem dX1_init_33 : decode cX1_init 33 = .ok (.aload_n 0, 1) := by decide +kernel
theorem dX1_init_34 : decode cX1_init 34 = .ok (.aload_n 3, 1) := by decide +kernel
theorem dX1_init_35 : decode cX1_init 35 = .ok (.putfield 30, 3) := by decide +kernel
theorem dX1_init_38 : decode cX1_init 38 = .ok (.return_, 1) := by decide +kernel
theorem dX1_find_0 : decode cX1_find 0 = .ok (.iload_n 1, 1) := by decide +kernel
theorem dX1_find_1 : decode cX1_find 1 = .ok (.ifCond .lt 14, 3) := by decide +kernel
theorem dX1_find_4 : decode cX1_find 4 = .ok (.iload_n 1, 1) := by decide +kernel
theorem dX1_find_5 : decode cX1_find 5 = .ok (.aload_n 0, 1) := by decide +kernel
theorem dX1_find_6 : decode cX1_find 6 = .ok (.getfield 12, 3) := by decide +kernel
theorem dX1_find_9 : decode cX1_find 9 = .ok (.invokevirtual 34, 3) := by decide +kernel
theorem dX1_find_12 : decode cX1_find 12 = .ok (.if_icmp .lt 7, 3) := by decide +kernel
theorem dX1_find_15 : decode cX1_find 15 = .ok (.aconst_null, 1) := by decide +kernel
theorem dX1_find_16 : decode cX1_find 16 = .ok (.goto 14, 3) := by decide +kernel
theorem dX1_find_19 : decode cX1_find 19 = .ok (.aload_n 0, 1) := by decide +kernel
theorem dX1_find_20 : decode cX1_find 20 = .ok (.getfield 12, 3) := by decide +kernel
theorem dX1_find_23 : decode cX1_find 23 = .ok (.iload_n 1, 1) := by decide +kernel
theorem dX1_find_24 : decode cX1_find 24 = .ok (.invokevirtual 38, 3) := by decide +kernel
theorem dX1_find_27 : decode cX1_find 27 = .ok (.checkcast 42, 3) := by decide +kernel
theorem dX1_find_30 : decode cX1_find 30 = .ok (.areturn, 1) := by decide +kernel
theorem dX1_pass_0 : decode cX1_pass 0 = .ok (.aload_n 0, 1) := by decide +kernel
theorem dX1_pass_1 : decode cX1_pass 1 = .ok (.getfield 22, 3) := by decide +kernel
theorem dX1_pass_4 : decode cX1_pass 4 = .ok (.aload_n 0, 1) := by decide +kernel
theorem dX1_pass_5 : decode cX1_pass 5 = .ok (.getfield 44, 3) := by decide +kernel
theorem dX1_pass_8 : decode cX1_pass 8 = .ok (.invokevirtual 48, 3) := by decide +kernel
theorem dX1_pass_11 : decode cX1_pass 11 = .ok (.lstore_n 1, 1) := by decide +kernel
theorem dX1_pass_12 : decode cX1_pass 12 = .ok (.aload_n 0, 1) := by decide +kernel
theorem dX1_pass_13 : decode cX1_pass 13 = .ok (.getfield 30, 3) := by decide +kernel
theorem dX1_pass_16 : decode cX1_pass 16 = .ok (.aload_n 0, 1) := by decide +kernel
theorem dX1_pass_17 : decode cX1_pass 17 = .ok (.getfield 22, 3) := by decide +kernel
theorem dX1_pass_20 : decode cX1_pass 20 = .ok (.aload_n 0, 1) := by decide +kernel
theorem dX1_pass_21 : decode cX1_pass 21 = .ok (.getfield 44, 3) := by decide +kernel
theorem dX1_pass_24 : decode cX1_pass 24 = .ok (.lload_n 1, 1) := by decide +kernel
theorem dX1_pass_25 : decode cX1_pass 25 = .ok (.invokevirtual 54, 3) := by decide +kernel
theorem dX1_pass_28 : decode cX1_pass 28 = .ok (.aload_n 0, 1) := by decide +kernel
theorem dX1_pass_29 : decode cX1_pass 29 = .ok (.invokevirtual 60, 3) := by decide +kernel
theorem dX1_pass_32 : decode cX1_pass 32 = .ok (.aload_n 0, 1) := by decide +kernel
theorem dX1_pass_33 : decode cX1_pass 33 = .ok (.invokevirtual 63, 3) := by decide +kernel
theorem dX1_pass_36 : decode cX1_pass 36 = .ok (.aload_n 0, 1) := by decide +kernel
theorem dX1_pass_37 : decode cX1_pass 37 = .ok (.lload_n 1, 1) := by decide +kernel
theorem dX1_pass_38 : decode cX1_pass 38 = .ok (.invokevirtual 66, 3) := by decide +kernel
theorem dX1_pass_41 : decode cX1_pass 41 = .ok (.iconst 0, 1) := by decide +kernel
theorem dX1_pass_42 : decode cX1_pass 42 = .ok (.istore_n 3, 1) := by decide +kernel
theorem dX1_pass_43 : decode cX1_pass 43 = .ok (.iload_n 3, 1) := by decide +kernel
theorem dX1_pass_44 : decode cX1_pass 44 = .ok (.aload_n 0, 1) := by decide +kernel
theorem dX1_pass_45 : decode cX1_pass 45 = .ok (.getfield 12, 3) := by decide +kernel
theorem dX1_pass_48 : decode cX1_pass 48 = .ok (.invokevirtual 34, 3) := by decide +kernel
theorem dX1_pass_51 : decode cX1_pass 51 = .ok (.if_icmp .ge 23, 3) := by decide +kernel
theorem dX1_pass_54 : decode cX1_pass 54 = .ok (.aload_n 0, 1) := by decide +kernel
theorem dX1_pass_55 : decode cX1_pass 55 = .ok (.getfield 12, 3) := by decide +kernel
theorem dX1_pass_58 : decode cX1_pass 58 = .ok (.iload_n 3, 1) := by decide +kernel
theorem dX1_pass_59 : decode cX1_pass 59 = .ok (.invokevirtual 38, 3) := by decide +kernel
theorem dX1_pass_62 : decode cX1_pass 62 = .ok (.checkcast 42, 3) := by decide +kernel
theorem dX1_pass_65 : decode cX1_pass 65 = .ok (.invokevirtual 70, 3) := by decide +kernel
theorem dX1_pass_68 : decode cX1_pass 68 = .ok (.iinc 3 1, 3) := by decide +kernel
theorem dX1_pass_71 : decode cX1_pass 71 = .ok (.goto (-28), 3) := by decide +kernel
theorem dX1_pass_74 : decode cX1_pass 74 = .ok (.aload_n 0, 1) := by decide +kernel
theorem dX1_pass_75 : decode cX1_pass 75 = .ok (.dup, 1) := by decide +kernel
theorem dX1_pass_76 : decode cX1_pass 76 = .ok (.getfield 44, 3) := by decide +kernel
theorem dX1_pass_79 : decode cX1_pass 79 = .ok (.iconst 1, 1) := by decide +kernel
theorem dX1_pass_80 : decode cX1_pass 80 = .ok (.iadd, 1) := by decide +kernel
theorem dX1_pass_81 : decode cX1_pass 81 = .ok (.putfield 44, 3) := by decide +kernel
theorem dX1_pass_84 : decode cX1_pass 84 = .ok (.return_, 1) := by decide +kernel
theorem dX1_layFlows_0 : decode cX1_layFlows 0 = .ok (.iconst 0, 1) := by decide +kernel
theorem dX1_layFlows_1 : decode cX1_layFlows 1 = .ok (.istore_n 1, 1) := by decide +kernel
theorem dX1_layFlows_2 : decode cX1_layFlows 2 = .ok (.iload_n 1, 1) := by decide +kernel
theorem dX1_layFlows_3 : decode cX1_layFlows 3 = .ok (.aload_n 0, 1) := by decide +kernel
theorem dX1_layFlows_4 : decode cX1_layFlows 4 = .ok (.getfield 12, 3) := by decide +kernel
theorem dX1_layFlows_7 : decode cX1_layFlows 7 = .ok (.invokevirtual 34, 3) := by decide +kernel
theorem dX1_layFlows_10 : decode cX1_layFlows 10 = .ok (.if_icmp .ge 89, 3) := by decide +kernel
theorem dX1_layFlows_13 : decode cX1_layFlows 13 = .ok (.aload_n 0, 1) := by decide +kernel
theorem dX1_layFlows_14 : decode cX1_layFlows 14 = .ok (.getfield 12, 3) := by decide +kernel
theorem dX1_layFlows_17 : decode cX1_layFlows 17 = .ok (.iload_n 1, 1) := by decide +kernel
theorem dX1_layFlows_18 : decode cX1_layFlows 18 = .ok (.invokevirtual 38, 3) := by decide +kernel
theorem dX1_layFlows_21 : decode cX1_layFlows 21 = .ok (.checkcast 42, 3) := by decide +kernel
theorem dX1_layFlows_24 : decode cX1_layFlows 24 = .ok (.astore_n 2, 1) := by decide +kernel
theorem dX1_layFlows_25 : decode cX1_layFlows 25 = .ok (.aload_n 0, 1) := by decide +kernel
theorem dX1_layFlows_26 : decode cX1_layFlows 26 = .ok (.getfield 18, 3) := by decide +kernel
theorem dX1_layFlows_29 : decode cX1_layFlows 29 = .ok (.bipush 7, 2) := by decide +kernel
theorem dX1_layFlows_31 : decode cX1_layFlows 31 = .ok (.dup2, 1) := by decide +kernel
theorem dX1_layFlows_32 : decode cX1_layFlows 32 = .ok (.laload, 1) := by decide +kernel
theorem dX1_layFlows_33 : decode cX1_layFlows 33 = .ok (.aload_n 2, 1) := by decide +kernel
theorem dX1_layFlows_34 : decode cX1_layFlows 34 = .ok (.invokevirtual 73, 3) := by decide +kernel
theorem dX1_layFlows_37 : decode cX1_layFlows 37 = .ok (.ladd, 1) := by decide +kernel
theorem dX1_layFlows_38 : decode cX1_layFlows 38 = .ok (.lastore, 1) := by decide +kernel
theorem dX1_layFlows_39 : decode cX1_layFlows 39 = .ok (.aload_n 0, 1) := by decide +kernel
theorem dX1_layFlows_40 : decode cX1_layFlows 40 = .ok (.getfield 18, 3) := by decide +kernel
theorem dX1_layFlows_43 : decode cX1_layFlows 43 = .ok (.bipush 8, 2) := by decide +kernel
theorem dX1_layFlows_45 : decode cX1_layFlows 45 = .ok (.dup2, 1) := by decide +kernel
theorem dX1_layFlows_46 : decode cX1_layFlows 46 = .ok (.laload, 1) := by decide +kernel
theorem dX1_layFlows_47 : decode cX1_layFlows 47 = .ok (.aload_n 2, 1) := by decide +kernel
theorem dX1_layFlows_48 : decode cX1_layFlows 48 = .ok (.invokevirtual 77, 3) := by decide +kernel
theorem dX1_layFlows_51 : decode cX1_layFlows 51 = .ok (.ladd, 1) := by decide +kernel
theorem dX1_layFlows_52 : decode cX1_layFlows 52 = .ok (.lastore, 1) := by decide +kernel
theorem dX1_layFlows_53 : decode cX1_layFlows 53 = .ok (.iload_n 1, 1) := by decide +kernel
theorem dX1_layFlows_54 : decode cX1_layFlows 54 = .ok (.iconst 1, 1) := by decide +kernel
theorem dX1_layFlows_55 : decode cX1_layFlows 55 = .ok (.iadd, 1) := by decide +kernel
theorem dX1_layFlows_56 : decode cX1_layFlows 56 = .ok (.istore_n 3, 1) := by decide +kernel
theorem dX1_layFlows_57 : decode cX1_layFlows 57 = .ok (.iload_n 3, 1) := by decide +kernel
theorem dX1_layFlows_58 : decode cX1_layFlows 58 = .ok (.aload_n 0, 1) := by decide +kernel
theorem dX1_layFlows_59 : decode cX1_layFlows 59 = .ok (.getfield 12, 3) := by decide +kernel
theorem dX1_layFlows_62 : decode cX1_layFlows 62 = .ok (.invokevirtual 34, 3) := by decide +kernel
theorem dX1_layFlows_65 : decode cX1_layFlows 65 = .ok (.if_icmp .ge 28, 3) := by decide +kernel
theorem dX1_layFlows_68 : decode cX1_layFlows 68 = .ok (.aload_n 2, 1) := by decide +kernel
theorem dX1_layFlows_69 : decode cX1_layFlows 69 = .ok (.aload_n 0, 1) := by decide +kernel
theorem dX1_layFlows_70 : decode cX1_layFlows 70 = .ok (.getfield 12, 3) := by decide +kernel
theorem dX1_layFlows_73 : decode cX1_layFlows 73 = .ok (.iload_n 3, 1) := by decide +kernel
theorem dX1_layFlows_74 : decode cX1_layFlows 74 = .ok (.invokevirtual 38, 3) := by decide +kernel
theorem dX1_layFlows_77 : decode cX1_layFlows 77 = .ok (.checkcast 42, 3) := by decide +kernel
theorem dX1_layFlows_80 : decode cX1_layFlows 80 = .ok (.aload_n 0, 1) := by decide +kernel
theorem dX1_layFlows_81 : decode cX1_layFlows 81 = .ok (.getfield 80, 3) := by decide +kernel
theorem dX1_layFlows_84 : decode cX1_layFlows 84 = .ok (.invokevirtual 83, 3) := by decide +kernel
theorem dX1_layFlows_87 : decode cX1_layFlows 87 = .ok (.iinc 3 1, 3) := by decide +kernel
theorem dX1_layFlows_90 : decode cX1_layFlows 90 = .ok (.goto (-33), 3) := by decide +kernel
theorem dX1_layFlows_93 : decode cX1_layFlows 93 = .ok (.iinc 1 1, 3) := by decide +kernel
theorem dX1_layFlows_96 : decode cX1_layFlows 96 = .ok (.goto (-94), 3) := by decide +kernel
theorem dX1_layFlows_99 : decode cX1_layFlows 99 = .ok (.return_, 1) := by decide +kernel
theorem dX1_takeSun_0 : decode cX1_takeSun 0 = .ok (.aload_n 0, 1) := by decide +kernel
theorem dX1_takeSun_1 : decode cX1_takeSun 1 = .ok (.getfield 30, 3) := by decide +kernel
theorem dX1_takeSun_4 : decode cX1_takeSun 4 = .ok (.iconst 1, 1) := by decide +kernel
theorem dX1_takeSun_5 : decode cX1_takeSun 5 = .ok (.aload_n 0, 1) := by decide +kernel
theorem dX1_takeSun_6 : decode cX1_takeSun 6 = .ok (.getfield 44, 3) := by decide +kernel
theorem dX1_takeSun_9 : decode cX1_takeSun 9 = .ok (.bipush 24, 2) := by decide +kernel
theorem dX1_takeSun_11 : decode cX1_takeSun 11 = .ok (.idiv, 1) := by decide +kernel
theorem dX1_takeSun_12 : decode cX1_takeSun 12 = .ok (.invokevirtual 87, 3) := by decide +kernel
theorem dX1_takeSun_15 : decode cX1_takeSun 15 = .ok (.astore_n 1, 1) := by decide +kernel
theorem dX1_takeSun_16 : decode cX1_takeSun 16 = .ok (.aload_n 0, 1) := by decide +kernel
theorem dX1_takeSun_17 : decode cX1_takeSun 17 = .ok (.getfield 22, 3) := by decide +kernel
theorem dX1_takeSun_20 : decode cX1_takeSun 20 = .ok (.getfield 91, 3) := by decide +kernel
theorem dX1_takeSun_23 : decode cX1_takeSun 23 = .ok (.aload_n 0, 1) := by decide +kernel
theorem dX1_takeSun_24 : decode cX1_takeSun 24 = .ok (.getfield 44, 3) := by decide +kernel
theorem dX1_takeSun_27 : decode cX1_takeSun 27 = .ok (.invokestatic 95, 3) := by decide +kernel
theorem dX1_takeSun_30 : decode cX1_takeSun 30 = .ok (.i2l, 1) := by decide +kernel
theorem dX1_takeSun_31 : decode cX1_takeSun 31 = .ok (.lstore_n 2, 1) := by decide +kernel
theorem dX1_takeSun_32 : decode cX1_takeSun 32 = .ok (.iconst 0, 1) := by decide +kernel
theorem dX1_takeSun_33 : decode cX1_takeSun 33 = .ok (.istore 4, 2) := by decide +kernel
theorem dX1_takeSun_35 : decode cX1_takeSun 35 = .ok (.iload 4, 2) := by decide +kernel
theorem dX1_takeSun_37 : decode cX1_takeSun 37 = .ok (.aload_n 0, 1) := by decide +kernel
theorem dX1_takeSun_38 : decode cX1_takeSun 38 = .ok (.getfield 12, 3) := by decide +kernel
theorem dX1_takeSun_41 : decode cX1_takeSun 41 = .ok (.invokevirtual 34, 3) := by decide +kernel
theorem dX1_takeSun_44 : decode cX1_takeSun 44 = .ok (.if_icmp .ge 84, 3) := by decide +kernel
theorem dX1_takeSun_47 : decode cX1_takeSun 47 = .ok (.lload_n 2, 1) := by decide +kernel
theorem dX1_takeSun_48 : decode cX1_takeSun 48 = .ok (.lconst 0, 1) := by decide +kernel
theorem dX1_takeSun_49 : decode cX1_takeSun 49 = .ok (.lcmp, 1) := by decide +kernel
theorem dX1_takeSun_50 : decode cX1_takeSun 50 = .ok (.ifCond .le 78, 3) := by decide +kernel
theorem dX1_takeSun_53 : decode cX1_takeSun 53 = .ok (.aload_n 0, 1) := by decide +kernel
theorem dX1_takeSun_54 : decode cX1_takeSun 54 = .ok (.getfield 12, 3) := by decide +kernel
theorem dX1_takeSun_57 : decode cX1_takeSun 57 = .ok (.iload 4, 2) := by decide +kernel
theorem dX1_takeSun_59 : decode cX1_takeSun 59 = .ok (.invokevirtual 38, 3) := by decide +kernel
theorem dX1_takeSun_62 : decode cX1_takeSun 62 = .ok (.checkcast 42, 3) := by decide +kernel
theorem dX1_takeSun_65 : decode cX1_takeSun 65 = .ok (.astore 5, 2) := by decide +kernel
theorem dX1_takeSun_67 : decode cX1_takeSun 67 = .ok (.aload 5, 2) := by decide +kernel
theorem dX1_takeSun_69 : decode cX1_takeSun 69 = .ok (.getfield 99, 3) := by decide +kernel
theorem dX1_takeSun_72 : decode cX1_takeSun 72 = .ok (.ifCond .eq 50, 3) := by decide +kernel
theorem dX1_takeSun_75 : decode cX1_takeSun 75 = .ok (.lload_n 2, 1) := by decide +kernel
theorem dX1_takeSun_76 : decode cX1_takeSun 76 = .ok (.aload_n 0, 1) := by decide +kernel
theorem dX1_takeSun_77 : decode cX1_takeSun 77 = .ok (.getfield 30, 3) := by decide +kernel
theorem dX1_takeSun_80 : decode cX1_takeSun 80 = .ok (.aload_n 1, 1) := by decide +kernel
theorem dX1_takeSun_81 : decode cX1_takeSun 81 = .ok (.aload 5, 2) := by decide +kernel
theorem dX1_takeSun_83 : decode cX1_takeSun 83 = .ok (.invokevirtual 103, 3) := by decide +kernel
theorem dX1_takeSun_86 : decode cX1_takeSun 86 = .ok (.invokestatic 107, 3) := by decide +kernel
theorem dX1_takeSun_89 : decode cX1_takeSun 89 = .ok (.lstore 6, 2) := by decide +kernel
theorem dX1_takeSun_91 : decode cX1_takeSun 91 = .ok (.aload 5, 2) := by decide +kernel
theorem dX1_takeSun_93 : decode cX1_takeSun 93 = .ok (.getfield 113, 3) := by decide +kernel
theorem dX1_takeSun_96 : decode cX1_takeSun 96 = .ok (.dup, 1) := by decide +kernel
theorem dX1_takeSun_97 : decode cX1_takeSun 97 = .ok (.getfield 117, 3) := by decide +kernel
theorem dX1_takeSun_100 : decode cX1_takeSun 100 = .ok (.lload 6, 2) := by decide +kernel
theorem dX1_takeSun_102 : decode cX1_takeSun 102 = .ok (.ladd, 1) := by decide +kernel
theorem dX1_takeSun_103 : decode cX1_takeSun 103 = .ok (.putfield 117, 3) := by decide +kernel
theorem dX1_takeSun_106 : decode cX1_takeSun 106 = .ok (.lload_n 2, 1) := by decide +kernel
theorem dX1_takeSun_107 : decode cX1_takeSun 107 = .ok (.lload 6, 2) := by decide +kernel
theorem dX1_takeSun_109 : decode cX1_takeSun 109 = .ok (.lsub, 1) := by decide +kernel
theorem dX1_takeSun_110 : decode cX1_takeSun 110 = .ok (.lstore_n 2, 1) := by decide +kernel
theorem dX1_takeSun_111 : decode cX1_takeSun 111 = .ok (.aload_n 0, 1) := by decide +kernel
theorem dX1_takeSun_112 : decode cX1_takeSun 112 = .ok (.getfield 18, 3) := by decide +kernel
theorem dX1_takeSun_115 : decode cX1_takeSun 115 = .ok (.iconst 0, 1) := by decide +kernel
theorem dX1_takeSun_116 : decode cX1_takeSun 116 = .ok (.dup2, 1) := by decide +kernel
theorem dX1_takeSun_117 : decode cX1_takeSun 117 = .ok (.laload, 1) := by decide +kernel
theorem dX1_takeSun_118 : decode cX1_takeSun 118 = .ok (.lload 6, 2) := by decide +kernel
theorem dX1_takeSun_120 : decode cX1_takeSun 120 = .ok (.ladd, 1) := by decide +kernel
theorem dX1_takeSun_121 : decode cX1_takeSun 121 = .ok (.lastore, 1) := by decide +kernel
theorem dX1_takeSun_122 : decode cX1_takeSun 122 = .ok (.iinc 4 1, 3) := by decide +kernel
theorem dX1_takeSun_125 : decode cX1_takeSun 125 = .ok (.goto (-90), 3) := by decide +kernel
theorem dX1_takeSun_128 : decode cX1_takeSun 128 = .ok (.aload_n 0, 1) := by decide +kernel
theorem dX1_takeSun_129 : decode cX1_takeSun 129 = .ok (.getfield 18, 3) := by decide +kernel
theorem dX1_takeSun_132 : decode cX1_takeSun 132 = .ok (.iconst 1, 1) := by decide +kernel
theorem dX1_takeSun_133 : decode cX1_takeSun 133 = .ok (.dup2, 1) := by decide +kernel
theorem dX1_takeSun_134 : decode cX1_takeSun 134 = .ok (.laload, 1) := by decide +kernel
theorem dX1_takeSun_135 : decode cX1_takeSun 135 = .ok (.lload_n 2, 1) := by decide +kernel
theorem dX1_takeSun_136 : decode cX1_takeSun 136 = .ok (.ladd, 1) := by decide +kernel
theorem dX1_takeSun_137 : decode cX1_takeSun 137 = .ok (.lastore, 1) := by decide +kernel
theorem dX1_takeSun_138 : decode cX1_takeSun 138 = .ok (.return_, 1) := by decide +kernel
theorem dX1_meet_0 : decode cX1_meet 0 = .ok (.aload_n 0, 1) := by decide +kernel
theorem dX1_meet_1 : decode cX1_meet 1 = .ok (.getfield 30, 3) := by decide +kernel
theorem dX1_meet_4 : decode cX1_meet 4 = .ok (.iconst 0, 1) := by decide +kernel
theorem dX1_meet_5 : decode cX1_meet 5 = .ok (.aload_n 0, 1) := by decide +kernel
theorem dX1_meet_6 : decode cX1_meet 6 = .ok (.getfield 44, 3) := by decide +kernel
theorem dX1_meet_9 : decode cX1_meet 9 = .ok (.bipush 24, 2) := by decide +kernel
theorem dX1_meet_11 : decode cX1_meet 11 = .ok (.idiv, 1) := by decide +kernel
theorem dX1_meet_12 : decode cX1_meet 12 = .ok (.invokevirtual 87, 3) := by decide +kernel
theorem dX1_meet_15 : decode cX1_meet 15 = .ok (.astore_n 3, 1) := by decide +kernel
theorem dX1_meet_16 : decode cX1_meet 16 = .ok (.lload_n 1, 1) := by decide +kernel
theorem dX1_meet_17 : decode cX1_meet 17 = .ok (.lstore 4, 2) := by decide +kernel
theorem dX1_meet_19 : decode cX1_meet 19 = .ok (.lconst 0, 1) := by decide +kernel
theorem dX1_meet_20 : decode cX1_meet 20 = .ok (.lstore 6, 2) := by decide +kernel
theorem dX1_meet_22 : decode cX1_meet 22 = .ok (.iconst 0, 1) := by decide +kernel
theorem dX1_meet_23 : decode cX1_meet 23 = .ok (.istore 8, 2) := by decide +kernel
theorem dX1_meet_25 : decode cX1_meet 25 = .ok (.iload 8, 2) := by decide +kernel
theorem dX1_meet_27 : decode cX1_meet 27 = .ok (.aload_n 0, 1) := by decide +kernel
theorem dX1_meet_28 : decode cX1_meet 28 = .ok (.getfield 12, 3) := by decide +kernel
theorem dX1_meet_31 : decode cX1_meet 31 = .ok (.invokevirtual 34, 3) := by decide +kernel
theorem dX1_meet_34 : decode cX1_meet 34 = .ok (.if_icmp .ge 193, 3) := by decide +kernel
theorem dX1_meet_37 : decode cX1_meet 37 = .ok (.lload 4, 2) := by decide +kernel
theorem dX1_meet_39 : decode cX1_meet 39 = .ok (.lconst 0, 1) := by decide +kernel
theorem dX1_meet_40 : decode cX1_meet 40 = .ok (.lcmp, 1) := by decide +kernel
theorem dX1_meet_41 : decode cX1_meet 41 = .ok (.ifCond .le 186, 3) := by decide +kernel
theorem dX1_meet_44 : decode cX1_meet 44 = .ok (.aload_n 0, 1) := by decide +kernel
theorem dX1_meet_45 : decode cX1_meet 45 = .ok (.getfield 12, 3) := by decide +kernel
theorem dX1_meet_48 : decode cX1_meet 48 = .ok (.iload 8, 2) := by decide +kernel
theorem dX1_meet_50 : decode cX1_meet 50 = .ok (.invokevirtual 38, 3) := by decide +kernel
theorem dX1_meet_53 : decode cX1_meet 53 = .ok (.checkcast 42, 3) := by decide +kernel
theorem dX1_meet_56 : decode cX1_meet 56 = .ok (.astore 9, 2) := by decide +kernel
theorem dX1_meet_58 : decode cX1_meet 58 = .ok (.aload 9, 2) := by decide +kernel
theorem dX1_meet_60 : decode cX1_meet 60 = .ok (.getfield 99, 3) := by decide +kernel
theorem dX1_meet_63 : decode cX1_meet 63 = .ok (.ifCond .eq 158, 3) := by decide +kernel
theorem dX1_meet_66 : decode cX1_meet 66 = .ok (.aload 9, 2) := by decide +kernel
theorem dX1_meet_68 : decode cX1_meet 68 = .ok (.invokevirtual 123, 3) := by decide +kernel
theorem dX1_meet_71 : decode cX1_meet 71 = .ok (.ifCond .ne 150, 3) := by decide +kernel
theorem dX1_meet_74 : decode cX1_meet 74 = .ok (.aload_n 0, 1) := by decide +kernel
theorem dX1_meet_75 : decode cX1_meet 75 = .ok (.getfield 26, 3) := by decide +kernel
theorem dX1_meet_78 : decode cX1_meet 78 = .ok (.aload 9, 2) := by decide +kernel
theorem dX1_meet_80 : decode cX1_meet 80 = .ok (.getfield 113, 3) := by decide +kernel
theorem dX1_meet_83 : decode cX1_meet 83 = .ok (.getfield 127, 3) := by decide +kernel
theorem dX1_meet_86 : decode cX1_meet 86 = .ok (.invokevirtual 130, 3) := by decide +kernel
theorem dX1_meet_89 : decode cX1_meet 89 = .ok (.lstore 10, 2) := by decide +kernel
theorem dX1_meet_91 : decode cX1_meet 91 = .ok (.ldc2_w 136, 3) := by decide +kernel
theorem dX1_meet_94 : decode cX1_meet 94 = .ok (.lload 4, 2) := by decide +kernel
theorem dX1_meet_96 : decode cX1_meet 96 = .ok (.lmul, 1) := by decide +kernel
theorem dX1_meet_97 : decode cX1_meet 97 = .ok (.ldc2_w 138, 3) := by decide +kernel
theorem dX1_meet_100 : decode cX1_meet 100 = .ok (.ladd, 1) := by decide +kernel
theorem dX1_meet_101 : decode cX1_meet 101 = .ok (.lload 10, 2) := by decide +kernel
theorem dX1_meet_103 : decode cX1_meet 103 = .ok (.invokestatic 140, 3) := by decide +kernel
theorem dX1_meet_106 : decode cX1_meet 106 = .ok (.lstore 12, 2) := by decide +kernel
theorem dX1_meet_108 : decode cX1_meet 108 = .ok (.lconst 0, 1) := by decide +kernel
theorem dX1_meet_109 : decode cX1_meet 109 = .ok (.aload 9, 2) := by decide +kernel
theorem dX1_meet_111 : decode cX1_meet 111 = .ok (.getfield 113, 3) := by decide +kernel
theorem dX1_meet_114 : decode cX1_meet 114 = .ok (.getfield 117, 3) := by decide +kernel
theorem dX1_meet_117 : decode cX1_meet 117 = .ok (.invokestatic 143, 3) := by decide +kernel
theorem dX1_meet_120 : decode cX1_meet 120 = .ok (.lstore 14, 2) := by decide +kernel
theorem dX1_meet_122 : decode cX1_meet 122 = .ok (.aload_n 0, 1) := by decide +kernel
theorem dX1_meet_123 : decode cX1_meet 123 = .ok (.getfield 30, 3) := by decide +kernel
theorem dX1_meet_126 : decode cX1_meet 126 = .ok (.aload_n 3, 1) := by decide +kernel
theorem dX1_meet_127 : decode cX1_meet 127 = .ok (.aload 9, 2) := by decide +kernel
theorem dX1_meet_129 : decode cX1_meet 129 = .ok (.invokevirtual 103, 3) := by decide +kernel
theorem dX1_meet_132 : decode cX1_meet 132 = .ok (.lload 14, 2) := by decide +kernel
theorem dX1_meet_134 : decode cX1_meet 134 = .ok (.lload 12, 2) := by decide +kernel
theorem dX1_meet_136 : decode cX1_meet 136 = .ok (.invokestatic 107, 3) := by decide +kernel
theorem dX1_meet_139 : decode cX1_meet 139 = .ok (.invokestatic 107, 3) := by decide +kernel
theorem dX1_meet_142 : decode cX1_meet 142 = .ok (.lstore 16, 2) := by decide +kernel
theorem dX1_meet_144 : decode cX1_meet 144 = .ok (.lload 16, 2) := by decide +kernel
theorem dX1_meet_146 : decode cX1_meet 146 = .ok (.lload 10, 2) := by decide +kernel
theorem dX1_meet_148 : decode cX1_meet 148 = .ok (.lmul, 1) := by decide +kernel
theorem dX1_meet_149 : decode cX1_meet 149 = .ok (.ldc2_w 136, 3) := by decide +kernel
theorem dX1_meet_152 : decode cX1_meet 152 = .ok (.ldiv, 1) := by decide +kernel
theorem dX1_meet_153 : decode cX1_meet 153 = .ok (.lstore 18, 2) := by decide +kernel
theorem dX1_meet_155 : decode cX1_meet 155 = .ok (.aload 9, 2) := by decide +kernel
theorem dX1_meet_157 : decode cX1_meet 157 = .ok (.getfield 113, 3) := by decide +kernel
theorem dX1_meet_160 : decode cX1_meet 160 = .ok (.dup, 1) := by decide +kernel
theorem dX1_meet_161 : decode cX1_meet 161 = .ok (.getfield 117, 3) := by decide +kernel
theorem dX1_meet_164 : decode cX1_meet 164 = .ok (.lload 16, 2) := by decide +kernel
theorem dX1_meet_166 : decode cX1_meet 166 = .ok (.lsub, 1) := by decide +kernel
theorem dX1_meet_167 : decode cX1_meet 167 = .ok (.putfield 117, 3) := by decide +kernel
theorem dX1_meet_170 : decode cX1_meet 170 = .ok (.aload 9, 2) := by decide +kernel
theorem dX1_meet_172 : decode cX1_meet 172 = .ok (.dup, 1) := by decide +kernel
theorem dX1_meet_173 : decode cX1_meet 173 = .ok (.getfield 146, 3) := by decide +kernel
theorem dX1_meet_176 : decode cX1_meet 176 = .ok (.lload 16, 2) := by decide +kernel
theorem dX1_meet_178 : decode cX1_meet 178 = .ok (.ladd, 1) := by decide +kernel
theorem dX1_meet_179 : decode cX1_meet 179 = .ok (.putfield 146, 3) := by decide +kernel
theorem dX1_meet_182 : decode cX1_meet 182 = .ok (.lload 4, 2) := by decide +kernel
theorem dX1_meet_184 : decode cX1_meet 184 = .ok (.lload 18, 2) := by decide +kernel
theorem dX1_meet_186 : decode cX1_meet 186 = .ok (.lsub, 1) := by decide +kernel
theorem dX1_meet_187 : decode cX1_meet 187 = .ok (.lstore 4, 2) := by decide +kernel
theorem dX1_meet_189 : decode cX1_meet 189 = .ok (.lload 6, 2) := by decide +kernel
theorem dX1_meet_191 : decode cX1_meet 191 = .ok (.lload 18, 2) := by decide +kernel
theorem dX1_meet_193 : decode cX1_meet 193 = .ok (.lload 16, 2) := by decide +kernel
theorem dX1_meet_195 : decode cX1_meet 195 = .ok (.lsub, 1) := by decide +kernel
theorem dX1_meet_196 : decode cX1_meet 196 = .ok (.ladd, 1) := by decide +kernel
theorem dX1_meet_197 : decode cX1_meet 197 = .ok (.lstore 6, 2) := by decide +kernel
theorem dX1_meet_199 : decode cX1_meet 199 = .ok (.aload_n 0, 1) := by decide +kernel
theorem dX1_meet_200 : decode cX1_meet 200 = .ok (.getfield 18, 3) := by decide +kernel
theorem dX1_meet_203 : decode cX1_meet 203 = .ok (.iconst 2, 1) := by decide +kernel
theorem dX1_meet_204 : decode cX1_meet 204 = .ok (.dup2, 1) := by decide +kernel
theorem dX1_meet_205 : decode cX1_meet 205 = .ok (.laload, 1) := by decide +kernel
theorem dX1_meet_206 : decode cX1_meet 206 = .ok (.lload 16, 2) := by decide +kernel
theorem dX1_meet_208 : decode cX1_meet 208 = .ok (.ladd, 1) := by decide +kernel
theorem dX1_meet_209 : decode cX1_meet 209 = .ok (.lastore, 1) := by decide +kernel
theorem dX1_meet_210 : decode cX1_meet 210 = .ok (.aload_n 0, 1) := by decide +kernel
theorem dX1_meet_211 : decode cX1_meet 211 = .ok (.getfield 18, 3) := by decide +kernel
theorem dX1_meet_214 : decode cX1_meet 214 = .ok (.iconst 3, 1) := by decide +kernel
theorem dX1_meet_215 : decode cX1_meet 215 = .ok (.dup2, 1) := by decide +kernel
theorem dX1_meet_216 : decode cX1_meet 216 = .ok (.laload, 1) := by decide +kernel
theorem dX1_meet_217 : decode cX1_meet 217 = .ok (.lload 18, 2) := by decide +kernel
theorem dX1_meet_219 : decode cX1_meet 219 = .ok (.ladd, 1) := by decide +kernel
theorem dX1_meet_220 : decode cX1_meet 220 = .ok (.lastore, 1) := by decide +kernel
theorem dX1_meet_221 : decode cX1_meet 221 = .ok (.iinc 8 1, 3) := by decide +kernel
theorem dX1_meet_224 : decode cX1_meet 224 = .ok (.goto (-199), 3) := by decide +kernel
theorem dX1_meet_227 : decode cX1_meet 227 = .ok (.aload_n 0, 1) := by decide +kernel
theorem dX1_meet_228 : decode cX1_meet 228 = .ok (.getfield 18, 3) := by decide +kernel
theorem dX1_meet_231 : decode cX1_meet 231 = .ok (.iconst 4, 1) := by decide +kernel
theorem dX1_meet_232 : decode cX1_meet 232 = .ok (.dup2, 1) := by decide +kernel
theorem dX1_meet_233 : decode cX1_meet 233 = .ok (.laload, 1) := by decide +kernel
theorem dX1_meet_234 : decode cX1_meet 234 = .ok (.lload 6, 2) := by decide +kernel
theorem dX1_meet_236 : decode cX1_meet 236 = .ok (.ladd, 1) := by decide +kernel
theorem dX1_meet_237 : decode cX1_meet 237 = .ok (.lastore, 1) := by decide +kernel
theorem dX1_meet_238 : decode cX1_meet 238 = .ok (.aload_n 0, 1) := by decide +kernel
theorem dX1_meet_239 : decode cX1_meet 239 = .ok (.getfield 18, 3) := by decide +kernel
theorem dX1_meet_242 : decode cX1_meet 242 = .ok (.iconst 5, 1) := by decide +kernel
theorem dX1_meet_243 : decode cX1_meet 243 = .ok (.dup2, 1) := by decide +kernel
theorem dX1_meet_244 : decode cX1_meet 244 = .ok (.laload, 1) := by decide +kernel
theorem dX1_meet_245 : decode cX1_meet 245 = .ok (.lload 4, 2) := by decide +kernel
theorem dX1_meet_247 : decode cX1_meet 247 = .ok (.ladd, 1) := by decide +kernel
theorem dX1_meet_248 : decode cX1_meet 248 = .ok (.lastore, 1) := by decide +kernel
theorem dX1_meet_249 : decode cX1_meet 249 = .ok (.aload_n 0, 1) := by decide +kernel
theorem dX1_meet_250 : decode cX1_meet 250 = .ok (.getfield 18, 3) := by decide +kernel
theorem dX1_meet_253 : decode cX1_meet 253 = .ok (.bipush 6, 2) := by decide +kernel
theorem dX1_meet_255 : decode cX1_meet 255 = .ok (.dup2, 1) := by decide +kernel
theorem dX1_meet_256 : decode cX1_meet 256 = .ok (.laload, 1) := by decide +kernel
theorem dX1_meet_257 : decode cX1_meet 257 = .ok (.lload 6, 2) := by decide +kernel
theorem dX1_meet_259 : decode cX1_meet 259 = .ok (.lload 4, 2) := by decide +kernel
theorem dX1_meet_261 : decode cX1_meet 261 = .ok (.ladd, 1) := by decide +kernel
theorem dX1_meet_262 : decode cX1_meet 262 = .ok (.aload_n 0, 1) := by decide +kernel
theorem dX1_meet_263 : decode cX1_meet 263 = .ok (.getfield 22, 3) := by decide +kernel
theorem dX1_meet_266 : decode cX1_meet 266 = .ok (.getfield 149, 3) := by decide +kernel
theorem dX1_meet_269 : decode cX1_meet 269 = .ok (.aload_n 0, 1) := by decide +kernel
theorem dX1_meet_270 : decode cX1_meet 270 = .ok (.getfield 44, 3) := by decide +kernel
theorem dX1_meet_273 : decode cX1_meet 273 = .ok (.invokestatic 95, 3) := by decide +kernel
theorem dX1_meet_276 : decode cX1_meet 276 = .ok (.i2l, 1) := by decide +kernel
theorem dX1_meet_277 : decode cX1_meet 277 = .ok (.lmul, 1) := by decide +kernel
theorem dX1_meet_278 : decode cX1_meet 278 = .ok (.ldc2_w 136, 3) := by decide +kernel
theorem dX1_meet_281 : decode cX1_meet 281 = .ok (.ldiv, 1) := by decide +kernel
theorem dX1_meet_282 : decode cX1_meet 282 = .ok (.ladd, 1) := by decide +kernel
theorem dX1_meet_283 : decode cX1_meet 283 = .ok (.lastore, 1) := by decide +kernel
theorem dX1_meet_284 : decode cX1_meet 284 = .ok (.return_, 1) := by decide +kernel
theorem dX1_follow_0 : decode cX1_follow 0 = .ok (.aload_n 0, 1) := by decide +kernel
theorem dX1_follow_1 : decode cX1_follow 1 = .ok (.aload_n 1, 1) := by decide +kernel
theorem dX1_follow_2 : decode cX1_follow 2 = .ok (.getfield 80, 3) := by decide +kernel
theorem dX1_follow_5 : decode cX1_follow 5 = .ok (.putfield 80, 3) := by decide +kernel
theorem dX1_follow_8 : decode cX1_follow 8 = .ok (.aload_n 0, 1) := by decide +kernel
theorem dX1_follow_9 : decode cX1_follow 9 = .ok (.aload_n 1, 1) := by decide +kernel
theorem dX1_follow_10 : decode cX1_follow 10 = .ok (.getfield 44, 3) := by decide +kernel
theorem dX1_follow_13 : decode cX1_follow 13 = .ok (.putfield 44, 3) := by decide +kernel
theorem dX1_follow_16 : decode cX1_follow 16 = .ok (.iconst 0, 1) := by decide +kernel
theorem dX1_follow_17 : decode cX1_follow 17 = .ok (.istore_n 2, 1) := by decide +kernel
theorem dX1_follow_18 : decode cX1_follow 18 = .ok (.iload_n 2, 1) := by decide +kernel
theorem dX1_follow_19 : decode cX1_follow 19 = .ok (.aload_n 0, 1) := by decide +kernel
theorem dX1_follow_20 : decode cX1_follow 20 = .ok (.getfield 18, 3) := by decide +kernel
theorem dX1_follow_23 : decode cX1_follow 23 = .ok (.arraylength, 1) := by decide +kernel
theorem dX1_follow_24 : decode cX1_follow 24 = .ok (.if_icmp .ge 30, 3) := by decide +kernel
theorem dX1_follow_27 : decode cX1_follow 27 = .ok (.iload_n 2, 1) := by decide +kernel
theorem dX1_follow_28 : decode cX1_follow 28 = .ok (.aload_n 1, 1) := by decide +kernel
theorem dX1_follow_29 : decode cX1_follow 29 = .ok (.getfield 18, 3) := by decide +kernel
theorem dX1_follow_32 : decode cX1_follow 32 = .ok (.arraylength, 1) := by decide +kernel
theorem dX1_follow_33 : decode cX1_follow 33 = .ok (.if_icmp .ge 21, 3) := by decide +kernel
theorem dX1_follow_36 : decode cX1_follow 36 = .ok (.aload_n 0, 1) := by decide +kernel
theorem dX1_follow_37 : decode cX1_follow 37 = .ok (.getfield 18, 3) := by decide +kernel
theorem dX1_follow_40 : decode cX1_follow 40 = .ok (.iload_n 2, 1) := by decide +kernel
theorem dX1_follow_41 : decode cX1_follow 41 = .ok (.aload_n 1, 1) := by decide +kernel
theorem dX1_follow_42 : decode cX1_follow 42 = .ok (.getfield 18, 3) := by decide +kernel
theorem dX1_follow_45 : decode cX1_follow 45 = .ok (.iload_n 2, 1) := by decide +kernel
theorem dX1_follow_46 : decode cX1_follow 46 = .ok (.laload, 1) := by decide +kernel
theorem dX1_follow_47 : decode cX1_follow 47 = .ok (.lastore, 1) := by decide +kernel
theorem dX1_follow_48 : decode cX1_follow 48 = .ok (.iinc 2 1, 3) := by decide +kernel
theorem dX1_follow_51 : decode cX1_follow 51 = .ok (.goto (-33), 3) := by decide +kernel
theorem dX1_follow_54 : decode cX1_follow 54 = .ok (.iconst 0, 1) := by decide +kernel
theorem dX1_follow_55 : decode cX1_follow 55 = .ok (.istore_n 2, 1) := by decide +kernel
theorem dX1_follow_56 : decode cX1_follow 56 = .ok (.iload_n 2, 1) := by decide +kernel
theorem dX1_follow_57 : decode cX1_follow 57 = .ok (.aload_n 0, 1) := by decide +kernel
theorem dX1_follow_58 : decode cX1_follow 58 = .ok (.getfield 12, 3) := by decide +kernel
theorem dX1_follow_61 : decode cX1_follow 61 = .ok (.invokevirtual 34, 3) := by decide +kernel
theorem dX1_follow_64 : decode cX1_follow 64 = .ok (.if_icmp .ge 45, 3) := by decide +kernel
theorem dX1_follow_67 : decode cX1_follow 67 = .ok (.iload_n 2, 1) := by decide +kernel
theorem dX1_follow_68 : decode cX1_follow 68 = .ok (.aload_n 1, 1) := by decide +kernel
theorem dX1_follow_69 : decode cX1_follow 69 = .ok (.getfield 12, 3) := by decide +kernel
theorem dX1_follow_72 : decode cX1_follow 72 = .ok (.invokevirtual 34, 3) := by decide +kernel
theorem dX1_follow_75 : decode cX1_follow 75 = .ok (.if_icmp .ge 34, 3) := by decide +kernel
theorem dX1_follow_78 : decode cX1_follow 78 = .ok (.aload_n 0, 1) := by decide +kernel
theorem dX1_follow_79 : decode cX1_follow 79 = .ok (.getfield 12, 3) := by decide +kernel
theorem dX1_follow_82 : decode cX1_follow 82 = .ok (.iload_n 2, 1) := by decide +kernel
theorem dX1_follow_83 : decode cX1_follow 83 = .ok (.invokevirtual 38, 3) := by decide +kernel
theorem dX1_follow_86 : decode cX1_follow 86 = .ok (.checkcast 42, 3) := by decide +kernel
theorem dX1_follow_89 : decode cX1_follow 89 = .ok (.aload_n 1, 1) := by decide +kernel
theorem dX1_follow_90 : decode cX1_follow 90 = .ok (.getfield 12, 3) := by decide +kernel
theorem dX1_follow_93 : decode cX1_follow 93 = .ok (.iload_n 2, 1) := by decide +kernel
theorem dX1_follow_94 : decode cX1_follow 94 = .ok (.invokevirtual 38, 3) := by decide +kernel
theorem dX1_follow_97 : decode cX1_follow 97 = .ok (.checkcast 42, 3) := by decide +kernel
theorem dX1_follow_100 : decode cX1_follow 100 = .ok (.invokevirtual 152, 3) := by decide +kernel
theorem dX1_follow_103 : decode cX1_follow 103 = .ok (.iinc 2 1, 3) := by decide +kernel
theorem dX1_follow_106 : decode cX1_follow 106 = .ok (.goto (-50), 3) := by decide +kernel
theorem dX1_follow_109 : decode cX1_follow 109 = .ok (.return_, 1) := by decide +kernel
theorem dX1_shut_0 : decode cX1_shut 0 = .ok (.iconst 0, 1) := by decide +kernel
theorem dX1_shut_1 : decode cX1_shut 1 = .ok (.istore_n 2, 1) := by decide +kernel
theorem dX1_shut_2 : decode cX1_shut 2 = .ok (.iload_n 2, 1) := by decide +kernel
theorem dX1_shut_3 : decode cX1_shut 3 = .ok (.aload_n 0, 1) := by decide +kernel
theorem dX1_shut_4 : decode cX1_shut 4 = .ok (.getfield 12, 3) := by decide +kernel
theorem dX1_shut_7 : decode cX1_shut 7 = .ok (.invokevirtual 34, 3) := by decide +kernel
theorem dX1_shut_10 : decode cX1_shut 10 = .ok (.if_icmp .ge 33, 3) := by decide +kernel
theorem dX1_shut_13 : decode cX1_shut 13 = .ok (.iload_n 1, 1) := by decide +kernel
theorem dX1_shut_14 : decode cX1_shut 14 = .ok (.iload_n 2, 1) := by decide +kernel
theorem dX1_shut_15 : decode cX1_shut 15 = .ok (.ishr, 1) := by decide +kernel
theorem dX1_shut_16 : decode cX1_shut 16 = .ok (.iconst 1, 1) := by decide +kernel
theorem dX1_shut_17 : decode cX1_shut 17 = .ok (.iand, 1) := by decide +kernel
theorem dX1_shut_18 : decode cX1_shut 18 = .ok (.iconst 1, 1) := by decide +kernel
theorem dX1_shut_19 : decode cX1_shut 19 = .ok (.if_icmp .ne 18, 3) := by decide +kernel
theorem dX1_shut_22 : decode cX1_shut 22 = .ok (.aload_n 0, 1) := by decide +kernel
theorem dX1_shut_23 : decode cX1_shut 23 = .ok (.getfield 12, 3) := by decide +kernel
theorem dX1_shut_26 : decode cX1_shut 26 = .ok (.iload_n 2, 1) := by decide +kernel
theorem dX1_shut_27 : decode cX1_shut 27 = .ok (.invokevirtual 38, 3) := by decide +kernel
theorem dX1_shut_30 : decode cX1_shut 30 = .ok (.checkcast 42, 3) := by decide +kernel
theorem dX1_shut_33 : decode cX1_shut 33 = .ok (.iconst 0, 1) := by decide +kernel
theorem dX1_shut_34 : decode cX1_shut 34 = .ok (.putfield 99, 3) := by decide +kernel
theorem dX1_shut_37 : decode cX1_shut 37 = .ok (.iinc 2 1, 3) := by decide +kernel
theorem dX1_shut_40 : decode cX1_shut 40 = .ok (.goto (-38), 3) := by decide +kernel
theorem dX1_shut_43 : decode cX1_shut 43 = .ok (.return_, 1) := by decide +kernel
theorem dX1_openOnly_0 : decode cX1_openOnly 0 = .ok (.iconst 0, 1) := by decide +kernel
theorem dX1_openOnly_1 : decode cX1_openOnly 1 = .ok (.istore_n 2, 1) := by decide +kernel
theorem dX1_openOnly_2 : decode cX1_openOnly 2 = .ok (.iload_n 2, 1) := by decide +kernel
theorem dX1_openOnly_3 : decode cX1_openOnly 3 = .ok (.aload_n 0, 1) := by decide +kernel
theorem dX1_openOnly_4 : decode cX1_openOnly 4 = .ok (.getfield 12, 3) := by decide +kernel
theorem dX1_openOnly_7 : decode cX1_openOnly 7 = .ok (.invokevirtual 34, 3) := by decide +kernel
theorem dX1_openOnly_10 : decode cX1_openOnly 10 = .ok (.if_icmp .ge 37, 3) := by decide +kernel
theorem dX1_openOnly_13 : decode cX1_openOnly 13 = .ok (.aload_n 0, 1) := by decide +kernel
theorem dX1_openOnly_14 : decode cX1_openOnly 14 = .ok (.getfield 12, 3) := by decide +kernel
theorem dX1_openOnly_17 : decode cX1_openOnly 17 = .ok (.iload_n 2, 1) := by decide +kernel
theorem dX1_openOnly_18 : decode cX1_openOnly 18 = .ok (.invokevirtual 38, 3) := by decide +kernel
theorem dX1_openOnly_21 : decode cX1_openOnly 21 = .ok (.checkcast 42, 3) := by decide +kernel
theorem dX1_openOnly_24 : decode cX1_openOnly 24 = .ok (.iload_n 1, 1) := by decide +kernel
theorem dX1_openOnly_25 : decode cX1_openOnly 25 = .ok (.iload_n 2, 1) := by decide +kernel
theorem dX1_openOnly_26 : decode cX1_openOnly 26 = .ok (.ishr, 1) := by decide +kernel
theorem dX1_openOnly_27 : decode cX1_openOnly 27 = .ok (.iconst 1, 1) := by decide +kernel
theorem dX1_openOnly_28 : decode cX1_openOnly 28 = .ok (.iand, 1) := by decide +kernel
theorem dX1_openOnly_29 : decode cX1_openOnly 29 = .ok (.iconst 1, 1) := by decide +kernel
theorem dX1_openOnly_30 : decode cX1_openOnly 30 = .ok (.if_icmp .ne 7, 3) := by decide +kernel
theorem dX1_openOnly_33 : decode cX1_openOnly 33 = .ok (.iconst 1, 1) := by decide +kernel
theorem dX1_openOnly_34 : decode cX1_openOnly 34 = .ok (.goto 4, 3) := by decide +kernel
theorem dX1_openOnly_37 : decode cX1_openOnly 37 = .ok (.iconst 0, 1) := by decide +kernel
theorem dX1_openOnly_38 : decode cX1_openOnly 38 = .ok (.putfield 99, 3) := by decide +kernel
theorem dX1_openOnly_41 : decode cX1_openOnly 41 = .ok (.iinc 2 1, 3) := by decide +kernel
theorem dX1_openOnly_44 : decode cX1_openOnly 44 = .ok (.goto (-42), 3) := by decide +kernel
theorem dX1_openOnly_47 : decode cX1_openOnly 47 = .ok (.return_, 1) := by decide +kernel
theorem dX1_openOnes_0 : decode cX1_openOnes 0 = .ok (.iconst 0, 1) := by decide +kernel
theorem dX1_openOnes_1 : decode cX1_openOnes 1 = .ok (.istore_n 1, 1) := by decide +kernel
theorem dX1_openOnes_2 : decode cX1_openOnes 2 = .ok (.iconst 0, 1) := by decide +kernel
theorem dX1_openOnes_3 : decode cX1_openOnes 3 = .ok (.istore_n 2, 1) := by decide +kernel
theorem dX1_openOnes_4 : decode cX1_openOnes 4 = .ok (.iload_n 2, 1) := by decide +kernel
theorem dX1_openOnes_5 : decode cX1_openOnes 5 = .ok (.aload_n 0, 1) := by decide +kernel
theorem dX1_openOnes_6 : decode cX1_openOnes 6 = .ok (.getfield 12, 3) := by decide +kernel
theorem dX1_openOnes_9 : decode cX1_openOnes 9 = .ok (.invokevirtual 34, 3) := by decide +kernel
theorem dX1_openOnes_12 : decode cX1_openOnes 12 = .ok (.if_icmp .ge 34, 3) := by decide +kernel
theorem dX1_openOnes_15 : decode cX1_openOnes 15 = .ok (.iload_n 1, 1) := by decide +kernel
theorem dX1_openOnes_16 : decode cX1_openOnes 16 = .ok (.aload_n 0, 1) := by decide +kernel
theorem dX1_openOnes_17 : decode cX1_openOnes 17 = .ok (.getfield 12, 3) := by decide +kernel
theorem dX1_openOnes_20 : decode cX1_openOnes 20 = .ok (.iload_n 2, 1) := by decide +kernel
theorem dX1_openOnes_21 : decode cX1_openOnes 21 = .ok (.invokevirtual 38, 3) := by decide +kernel
theorem dX1_openOnes_24 : decode cX1_openOnes 24 = .ok (.checkcast 42, 3) := by decide +kernel
theorem dX1_openOnes_27 : decode cX1_openOnes 27 = .ok (.getfield 99, 3) := by decide +kernel
theorem dX1_openOnes_30 : decode cX1_openOnes 30 = .ok (.ifCond .eq 7, 3) := by decide +kernel
theorem dX1_openOnes_33 : decode cX1_openOnes 33 = .ok (.iconst 1, 1) := by decide +kernel
theorem dX1_openOnes_34 : decode cX1_openOnes 34 = .ok (.goto 4, 3) := by decide +kernel
theorem dX1_openOnes_37 : decode cX1_openOnes 37 = .ok (.iconst 0, 1) := by decide +kernel
theorem dX1_openOnes_38 : decode cX1_openOnes 38 = .ok (.iadd, 1) := by decide +kernel
theorem dX1_openOnes_39 : decode cX1_openOnes 39 = .ok (.istore_n 1, 1) := by decide +kernel
theorem dX1_openOnes_40 : decode cX1_openOnes 40 = .ok (.iinc 2 1, 3) := by decide +kernel
theorem dX1_openOnes_43 : decode cX1_openOnes 43 = .ok (.goto (-39), 3) := by decide +kernel
theorem dX1_openOnes_46 : decode cX1_openOnes 46 = .ok (.iload_n 1, 1) := by decide +kernel
theorem dX1_openOnes_47 : decode cX1_openOnes 47 = .ok (.ireturn, 1) := by decide +kernel
theorem dX1_coldestNow_0 : decode cX1_coldestNow 0 = .ok (.ldc2_w 156, 3) := by decide +kernel
theorem dX1_coldestNow_3 : decode cX1_coldestNow 3 = .ok (.lstore_n 1, 1) := by decide +kernel
theorem dX1_coldestNow_4 : decode cX1_coldestNow 4 = .ok (.iconst 0, 1) := by decide +kernel
theorem dX1_coldestNow_5 : decode cX1_coldestNow 5 = .ok (.istore_n 3, 1) := by decide +kernel
theorem dX1_coldestNow_6 : decode cX1_coldestNow 6 = .ok (.iload_n 3, 1) := by decide +kernel
theorem dX1_coldestNow_7 : decode cX1_coldestNow 7 = .ok (.aload_n 0, 1) := by decide +kernel
theorem dX1_coldestNow_8 : decode cX1_coldestNow 8 = .ok (.getfield 12, 3) := by decide +kernel
theorem dX1_coldestNow_11 : decode cX1_coldestNow 11 = .ok (.invokevirtual 34, 3) := by decide +kernel
theorem dX1_coldestNow_14 : decode cX1_coldestNow 14 = .ok (.if_icmp .ge 31, 3) := by decide +kernel
theorem dX1_coldestNow_17 : decode cX1_coldestNow 17 = .ok (.lload_n 1, 1) := by decide +kernel
theorem dX1_coldestNow_18 : decode cX1_coldestNow 18 = .ok (.aload_n 0, 1) := by decide +kernel
theorem dX1_coldestNow_19 : decode cX1_coldestNow 19 = .ok (.getfield 12, 3) := by decide +kernel
theorem dX1_coldestNow_22 : decode cX1_coldestNow 22 = .ok (.iload_n 3, 1) := by decide +kernel
theorem dX1_coldestNow_23 : decode cX1_coldestNow 23 = .ok (.invokevirtual 38, 3) := by decide +kernel
theorem dX1_coldestNow_26 : decode cX1_coldestNow 26 = .ok (.checkcast 42, 3) := by decide +kernel
theorem dX1_coldestNow_29 : decode cX1_coldestNow 29 = .ok (.getfield 113, 3) := by decide +kernel
theorem dX1_coldestNow_32 : decode cX1_coldestNow 32 = .ok (.getfield 127, 3) := by decide +kernel
theorem dX1_coldestNow_35 : decode cX1_coldestNow 35 = .ok (.invokestatic 107, 3) := by decide +kernel
theorem dX1_coldestNow_38 : decode cX1_coldestNow 38 = .ok (.lstore_n 1, 1) := by decide +kernel
theorem dX1_coldestNow_39 : decode cX1_coldestNow 39 = .ok (.iinc 3 1, 3) := by decide +kernel
theorem dX1_coldestNow_42 : decode cX1_coldestNow 42 = .ok (.goto (-36), 3) := by decide +kernel
theorem dX1_coldestNow_45 : decode cX1_coldestNow 45 = .ok (.lload_n 1, 1) := by decide +kernel
theorem dX1_coldestNow_46 : decode cX1_coldestNow 46 = .ok (.lreturn, 1) := by decide +kernel
theorem dX1_heatInAll_0 : decode cX1_heatInAll 0 = .ok (.lconst 0, 1) := by decide +kernel
theorem dX1_heatInAll_1 : decode cX1_heatInAll 1 = .ok (.lstore_n 2, 1) := by decide +kernel
theorem dX1_heatInAll_2 : decode cX1_heatInAll 2 = .ok (.iconst 0, 1) := by decide +kernel
theorem dX1_heatInAll_3 : decode cX1_heatInAll 3 = .ok (.istore 4, 2) := by decide +kernel
theorem dX1_heatInAll_5 : decode cX1_heatInAll 5 = .ok (.iload 4, 2) := by decide +kernel
theorem dX1_heatInAll_7 : decode cX1_heatInAll 7 = .ok (.aload_n 0, 1) := by decide +kernel
theorem dX1_heatInAll_8 : decode cX1_heatInAll 8 = .ok (.getfield 12, 3) := by decide +kernel
theorem dX1_heatInAll_11 : decode cX1_heatInAll 11 = .ok (.invokevirtual 34, 3) := by decide +kernel
theorem dX1_heatInAll_14 : decode cX1_heatInAll 14 = .ok (.if_icmp .ge 77, 3) := by decide +kernel
theorem dX1_heatInAll_17 : decode cX1_heatInAll 17 = .ok (.aload_n 0, 1) := by decide +kernel
theorem dX1_heatInAll_18 : decode cX1_heatInAll 18 = .ok (.getfield 12, 3) := by decide +kernel
theorem dX1_heatInAll_21 : decode cX1_heatInAll 21 = .ok (.iload 4, 2) := by decide +kernel
theorem dX1_heatInAll_23 : decode cX1_heatInAll 23 = .ok (.invokevirtual 38, 3) := by decide +kernel
theorem dX1_heatInAll_26 : decode cX1_heatInAll 26 = .ok (.checkcast 42, 3) := by decide +kernel
theorem dX1_heatInAll_29 : decode cX1_heatInAll 29 = .ok (.getfield 158, 3) := by decide +kernel
theorem dX1_heatInAll_32 : decode cX1_heatInAll 32 = .ok (.astore 5, 2) := by decide +kernel
theorem dX1_heatInAll_34 : decode cX1_heatInAll 34 = .ok (.iconst 0, 1) := by decide +kernel
theorem dX1_heatInAll_35 : decode cX1_heatInAll 35 = .ok (.istore 6, 2) := by decide +kernel
theorem dX1_heatInAll_37 : decode cX1_heatInAll 37 = .ok (.iload 6, 2) := by decide +kernel
theorem dX1_heatInAll_39 : decode cX1_heatInAll 39 = .ok (.aload 5, 2) := by decide +kernel
theorem dX1_heatInAll_41 : decode cX1_heatInAll 41 = .ok (.invokevirtual 34, 3) := by decide +kernel
theorem dX1_heatInAll_44 : decode cX1_heatInAll 44 = .ok (.if_icmp .ge 41, 3) := by decide +kernel
theorem dX1_heatInAll_47 : decode cX1_heatInAll 47 = .ok (.aload 5, 2) := by decide +kernel
theorem dX1_heatInAll_49 : decode cX1_heatInAll 49 = .ok (.iload 6, 2) := by decide +kernel
theorem dX1_heatInAll_51 : decode cX1_heatInAll 51 = .ok (.invokevirtual 38, 3) := by decide +kernel
theorem dX1_heatInAll_54 : decode cX1_heatInAll 54 = .ok (.checkcast 118, 3) := by decide +kernel
theorem dX1_heatInAll_57 : decode cX1_heatInAll 57 = .ok (.astore 7, 2) := by decide +kernel
theorem dX1_heatInAll_59 : decode cX1_heatInAll 59 = .ok (.lload_n 2, 1) := by decide +kernel
theorem dX1_heatInAll_60 : decode cX1_heatInAll 60 = .ok (.iload_n 1, 1) := by decide +kernel
theorem dX1_heatInAll_61 : decode cX1_heatInAll 61 = .ok (.ifCond .eq 11, 3) := by decide +kernel
theorem dX1_heatInAll_64 : decode cX1_heatInAll 64 = .ok (.aload 7, 2) := by decide +kernel
theorem dX1_heatInAll_66 : decode cX1_heatInAll 66 = .ok (.getfield 161, 3) := by decide +kernel
theorem dX1_heatInAll_69 : decode cX1_heatInAll 69 = .ok (.goto 8, 3) := by decide +kernel
theorem dX1_heatInAll_72 : decode cX1_heatInAll 72 = .ok (.aload 7, 2) := by decide +kernel
theorem dX1_heatInAll_74 : decode cX1_heatInAll 74 = .ok (.getfield 117, 3) := by decide +kernel
theorem dX1_heatInAll_77 : decode cX1_heatInAll 77 = .ok (.ladd, 1) := by decide +kernel
theorem dX1_heatInAll_78 : decode cX1_heatInAll 78 = .ok (.lstore_n 2, 1) := by decide +kernel
theorem dX1_heatInAll_79 : decode cX1_heatInAll 79 = .ok (.iinc 6 1, 3) := by decide +kernel
theorem dX1_heatInAll_82 : decode cX1_heatInAll 82 = .ok (.goto (-45), 3) := by decide +kernel
theorem dX1_heatInAll_85 : decode cX1_heatInAll 85 = .ok (.iinc 4 1, 3) := by decide +kernel
theorem dX1_heatInAll_88 : decode cX1_heatInAll 88 = .ok (.goto (-83), 3) := by decide +kernel
theorem dX1_heatInAll_91 : decode cX1_heatInAll 91 = .ok (.lload_n 2, 1) := by decide +kernel
theorem dX1_heatInAll_92 : decode cX1_heatInAll 92 = .ok (.lreturn, 1) := by decide +kernel
theorem dX2_init_0 : decode cX2_init 0 = .ok (.aload_n 0, 1) := by decide +kernel
theorem dX2_init_1 : decode cX2_init 1 = .ok (.invokespecial 1, 3) := by decide +kernel
theorem dX2_init_4 : decode cX2_init 4 = .ok (.aload_n 0, 1) := by decide +kernel
theorem dX2_init_5 : decode cX2_init 5 = .ok (.iload_n 1, 1) := by decide +kernel
theorem dX2_init_6 : decode cX2_init 6 = .ok (.putfield 7, 3) := by decide +kernel
theorem dX2_init_9 : decode cX2_init 9 = .ok (.aload_n 0, 1) := by decide +kernel
theorem dX2_init_10 : decode cX2_init 10 = .ok (.iload_n 2, 1) := by decide +kernel
theorem dX2_init_11 : decode cX2_init 11 = .ok (.putfield 13, 3) := by decide +kernel
theorem dX2_init_14 : decode cX2_init 14 = .ok (.aload_n 0, 1) := by decide +kernel
theorem dX2_init_15 : decode cX2_init 15 = .ok (.iload_n 3, 1) := by decide +kernel
theorem dX2_init_16 : decode cX2_init 16 = .ok (.putfield 16, 3) := by decide +kernel
theorem dX2_init_19 : decode cX2_init 19 = .ok (.return_, 1) := by decide +kernel
theorem dX2_isJoinedOn_0 : decode cX2_isJoinedOn 0 = .ok (.aload_n 0, 1) := by decide +kernel
theorem dX2_isJoinedOn_1 : decode cX2_isJoinedOn 1 = .ok (.getfield 19, 3) := by decide +kernel
theorem dX2_isJoinedOn_4 : decode cX2_isJoinedOn 4 = .ok (.ifCond .eq 15, 3) := by decide +kernel
theorem dX2_isJoinedOn_7 : decode cX2_isJoinedOn 7 = .ok (.aload_n 0, 1) := by decide +kernel
theorem dX2_isJoinedOn_8 : decode cX2_isJoinedOn 8 = .ok (.getfield 23, 3) := by decide +kernel
theorem dX2_isJoinedOn_11 : decode cX2_isJoinedOn 11 = .ok (.iload_n 1, 1) := by decide +kernel
theorem dX2_isJoinedOn_12 : decode cX2_isJoinedOn 12 = .ok (.if_icmp .gt 7, 3) := by decide +kernel
theorem dX2_isJoinedOn_15 : decode cX2_isJoinedOn 15 = .ok (.iconst 1, 1) := by decide +kernel
theorem dX2_isJoinedOn_16 : decode cX2_isJoinedOn 16 = .ok (.goto 4, 3) := by decide +kernel
theorem dX2_isJoinedOn_19 : decode cX2_isJoinedOn 19 = .ok (.iconst 0, 1) := by decide +kernel
theorem dX2_isJoinedOn_20 : decode cX2_isJoinedOn 20 = .ok (.ireturn, 1) := by decide +kernel
theorem dX3_init_0 : decode cX3_init 0 = .ok (.aload_n 0, 1) := by decide +kernel
theorem dX3_init_1 : decode cX3_init 1 = .ok (.invokespecial 1, 3) := by decide +kernel
theorem dX3_init_4 : decode cX3_init 4 = .ok (.aload_n 0, 1) := by decide +kernel
theorem dX3_init_5 : decode cX3_init 5 = .ok (.iload_n 1, 1) := by decide +kernel
theorem dX3_init_6 : decode cX3_init 6 = .ok (.putfield 7, 3) := by decide +kernel
theorem dX3_init_9 : decode cX3_init 9 = .ok (.aload_n 0, 1) := by decide +kernel
theorem dX3_init_10 : decode cX3_init 10 = .ok (.iload_n 2, 1) := by decide +kernel
theorem dX3_init_11 : decode cX3_init 11 = .ok (.putfield 13, 3) := by decide +kernel
theorem dX3_init_14 : decode cX3_init 14 = .ok (.aload_n 0, 1) := by decide +kernel
theorem dX3_init_15 : decode cX3_init 15 = .ok (.lload_n 3, 1) := by decide +kernel
theorem dX3_init_16 : decode cX3_init 16 = .ok (.putfield 16, 3) := by decide +kernel
theorem dX3_init_19 : decode cX3_init 19 = .ok (.return_, 1) := by decide +kernel
theorem dX4_init_0 : decode cX4_init 0 = .ok (.aload_n 0, 1) := by decide +kernel
theorem dX4_init_1 : decode cX4_init 1 = .ok (.invokespecial 1, 3) := by decide +kernel
theorem dX4_init_4 : decode cX4_init 4 = .ok (.aload_n 0, 1) := by decide +kernel
theorem dX4_init_5 : decode cX4_init 5 = .ok (.lload_n 1, 1) := by decide +kernel
theorem dX4_init_6 : decode cX4_init 6 = .ok (.putfield 7, 3) := by decide +kernel
theorem dX4_init_9 : decode cX4_init 9 = .ok (.aload_n 0, 1) := by decide +kernel
theorem dX4_init_10 : decode cX4_init 10 = .ok (.ldc2_w 13, 3) := by decide +kernel
theorem dX4_init_13 : decode cX4_init 13 = .ok (.lload_n 3, 1) := by decide +kernel
theorem dX4_init_14 : decode cX4_init 14 = .ok (.lmul, 1) := by decide +kernel
theorem dX4_init_15 : decode cX4_init 15 = .ok (.lload_n 1, 1) := by decide +kernel
theorem dX4_init_16 : decode cX4_init 16 = .ok (.lmul, 1) := by decide +kernel
theorem dX4_init_17 : decode cX4_init 17 = .ok (.putfield 15, 3) := by decide +kernel
theorem dX4_init_20 : decode cX4_init 20 = .ok (.aload_n 0, 1) := by decide +kernel
theorem dX4_init_21 : decode cX4_init 21 = .ok (.aload_n 0, 1) := by decide +kernel
theorem dX4_init_22 : decode cX4_init 22 = .ok (.getfield 15, 3) := by decide +kernel
theorem dX4_init_25 : decode cX4_init 25 = .ok (.putfield 18, 3) := by decide +kernel
theorem dX4_init_28 : decode cX4_init 28 = .ok (.aload_n 0, 1) := by decide +kernel
theorem dX4_init_29 : decode cX4_init 29 = .ok (.aload_n 0, 1) := by decide +kernel
theorem dX4_init_30 : decode cX4_init 30 = .ok (.getfield 15, 3) := by decide +kernel
theorem dX4_init_33 : decode cX4_init 33 = .ok (.lload_n 1, 1) := by decide +kernel
theorem dX4_init_34 : decode cX4_init 34 = .ok (.invokestatic 21, 3) := by decide +kernel
theorem dX4_init_37 : decode cX4_init 37 = .ok (.putfield 27, 3) := by decide +kernel
theorem dX4_init_40 : decode cX4_init 40 = .ok (.return_, 1) := by decide +kernel
theorem dX4_settle_0 : decode cX4_settle 0 = .ok (.aload_n 0, 1) := by decide +kernel
theorem dX4_settle_1 : decode cX4_settle 1 = .ok (.dup, 1) := by decide +kernel
theorem dX4_settle_2 : decode cX4_settle 2 = .ok (.getfield 18, 3) := by decide +kernel
theorem dX4_settle_5 : decode cX4_settle 5 = .ok (.aload_n 0, 1) := by decide +kernel
theorem dX4_settle_6 : decode cX4_settle 6 = .ok (.getfield 30, 3) := by decide +kernel
theorem dX4_settle_9 : decode cX4_settle 9 = .ok (.ladd, 1) := by decide +kernel
theorem dX4_settle_10 : decode cX4_settle 10 = .ok (.putfield 18, 3) := by decide +kernel
theorem dX4_settle_13 : decode cX4_settle 13 = .ok (.aload_n 0, 1) := by decide +kernel
theorem dX4_settle_14 : decode cX4_settle 14 = .ok (.lconst 0, 1) := by decide +kernel
theorem dX4_settle_15 : decode cX4_settle 15 = .ok (.putfield 30, 3) := by decide +kernel
theorem dX4_settle_18 : decode cX4_settle 18 = .ok (.aload_n 0, 1) := by decide +kernel
theorem dX4_settle_19 : decode cX4_settle 19 = .ok (.aload_n 0, 1) := by decide +kernel
theorem dX4_settle_20 : decode cX4_settle 20 = .ok (.getfield 18, 3) := by decide +kernel
theorem dX4_settle_23 : decode cX4_settle 23 = .ok (.aload_n 0, 1) := by decide +kernel
theorem dX4_settle_24 : decode cX4_settle 24 = .ok (.getfield 7, 3) := by decide +kernel
theorem dX4_settle_27 : decode cX4_settle 27 = .ok (.invokestatic 21, 3) := by decide +kernel
theorem dX4_settle_30 : decode cX4_settle 30 = .ok (.putfield 27, 3) := by decide +kernel
theorem dX4_settle_33 : decode cX4_settle 33 = .ok (.return_, 1) := by decide +kernel
theorem dX4_follow_0 : decode cX4_follow 0 = .ok (.aload_n 0, 1) := by decide +kernel
theorem dX4_follow_1 : decode cX4_follow 1 = .ok (.aload_n 1, 1) := by decide +kernel
theorem dX4_follow_2 : decode cX4_follow 2 = .ok (.getfield 18, 3) := by decide +kernel
theorem dX4_follow_5 : decode cX4_follow 5 = .ok (.putfield 18, 3) := by decide +kernel
theorem dX4_follow_8 : decode cX4_follow 8 = .ok (.aload_n 0, 1) := by decide +kernel
theorem dX4_follow_9 : decode cX4_follow 9 = .ok (.aload_n 1, 1) := by decide +kernel
theorem dX4_follow_10 : decode cX4_follow 10 = .ok (.getfield 27, 3) := by decide +kernel
theorem dX4_follow_13 : decode cX4_follow 13 = .ok (.putfield 27, 3) := by decide +kernel
theorem dX4_follow_16 : decode cX4_follow 16 = .ok (.aload_n 0, 1) := by decide +kernel
theorem dX4_follow_17 : decode cX4_follow 17 = .ok (.lconst 0, 1) := by decide +kernel
theorem dX4_follow_18 : decode cX4_follow 18 = .ok (.putfield 30, 3) := by decide +kernel
theorem dX4_follow_21 : decode cX4_follow 21 = .ok (.return_, 1) := by decide +kernel
theorem dX5_init_0 : decode cX5_init 0 = .ok (.aload_n 0, 1) := by decide +kernel
theorem dX5_init_1 : decode cX5_init 1 = .ok (.invokespecial 1, 3) := by decide +kernel
theorem dX5_init_4 : decode cX5_init 4 = .ok (.aload_n 0, 1) := by decide +kernel
theorem dX5_init_5 : decode cX5_init 5 = .ok (.iload_n 1, 1) := by decide +kernel
theorem dX5_init_6 : decode cX5_init 6 = .ok (.putfield 7, 3) := by decide +kernel
theorem dX5_init_9 : decode cX5_init 9 = .ok (.aload_n 0, 1) := by decide +kernel
theorem dX5_init_10 : decode cX5_init 10 = .ok (.iload_n 2, 1) := by decide +kernel
theorem dX5_init_11 : decode cX5_init 11 = .ok (.putfield 13, 3) := by decide +kernel
theorem dX5_init_14 : decode cX5_init 14 = .ok (.aload_n 0, 1) := by decide +kernel
theorem dX5_init_15 : decode cX5_init 15 = .ok (.aload_n 3, 1) := by decide +kernel
theorem dX5_init_16 : decode cX5_init 16 = .ok (.putfield 16, 3) := by decide +kernel
theorem dX5_init_19 : decode cX5_init 19 = .ok (.aload_n 0, 1) := by decide +kernel
theorem dX5_init_20 : decode cX5_init 20 = .ok (.iload 4, 2) := by decide +kernel
theorem dX5_init_22 : decode cX5_init 22 = .ok (.putfield 20, 3) := by decide +kernel
theorem dX5_init_25 : decode cX5_init 25 = .ok (.return_, 1) := by decide +kernel
theorem dX6_init_0 : decode cX6_init 0 = .ok (.aload_n 0, 1) := by decide +kernel
theorem dX6_init_1 : decode cX6_init 1 = .ok (.invokespecial 3, 3) := by decide +kernel
theorem dX6_init_4 : decode cX6_init 4 = .ok (.aload_n 0, 1) := by decide +kernel
theorem dX6_init_5 : decode cX6_init 5 = .ok (.new 9, 3) := by decide +kernel
theorem dX6_init_8 : decode cX6_init 8 = .ok (.dup, 1) := by decide +kernel
theorem dX6_init_9 : decode cX6_init 9 = .ok (.invokespecial 11, 3) := by decide +kernel
theorem dX6_init_12 : decode cX6_init 12 = .ok (.putfield 12, 3) := by decide +kernel
theorem dX6_init_15 : decode cX6_init 15 = .ok (.aload_n 0, 1) := by decide +kernel
theorem dX6_init_16 : decode cX6_init 16 = .ok (.bipush 9, 2) := by decide +kernel
theorem dX6_init_18 : decode cX6_init 18 = .ok (.newarray .long, 2) := by decide +kernel
theorem dX6_init_20 : decode cX6_init 20 = .ok (.putfield 18, 3) := by decide +kernel
theorem dX6_init_23 : decode cX6_init 23 = .ok (.aload_n 0, 1) := by decide +kernel
theorem dX6_init_24 : decode cX6_init 24 = .ok (.bipush 60, 2) := by decide +kernel
theorem dX6_init_26 : decode cX6_init 26 = .ok (.newarray .long, 2) := by decide +kernel
theorem dX6_init_28 : decode cX6_init 28 = .ok (.putfield 22, 3) := by decide +kernel
theorem dX6_init_31 : decode cX6_init 31 = .ok (.return_, 1) := by decide +kernel
theorem dX6_inForce_0 : decode cX6_inForce 0 = .ok (.aconst_null, 1) := by decide +kernel
theorem dX6_inForce_1 : decode cX6_inForce 1 = .ok (.astore_n 3, 1) := by decide +kernel
theorem dX6_inForce_2 : decode cX6_inForce 2 = .ok (.iconst 0, 1) := by decide +kernel
theorem dX6_inForce_3 : decode cX6_inForce 3 = .ok (.istore 4, 2) := by decide +kernel
theorem dX6_inForce_5 : decode cX6_inForce 5 = .ok (.iload 4, 2) := by decide +kernel
theorem dX6_inForce_7 : decode cX6_inForce 7 = .ok (.aload_n 0, 1) := by decide +kernel
theorem dX6_inForce_8 : decode cX6_inForce 8 = .ok (.getfield 12, 3) := by decide +kernel
theorem dX6_inForce_11 : decode cX6_inForce 11 = .ok (.invokevirtual 25, 3) := by decide +kernel
theorem dX6_inForce_14 : decode cX6_inForce 14 = .ok (.if_icmp .ge 60, 3) := by decide +kernel
theorem dX6_inForce_17 : decode cX6_inForce 17 = .ok (.aload_n 0, 1) := by decide +kernel
theorem dX6_inForce_18 : decode cX6_inForce 18 = .ok (.getfield 12, 3) := by decide +kernel
theorem dX6_inForce_21 : decode cX6_inForce 21 = .ok (.iload 4, 2) := by decide +kernel
theorem dX6_inForce_23 : decode cX6_inForce 23 = .ok (.invokevirtual 29, 3) := by decide +kernel
theorem dX6_inForce_26 : decode cX6_inForce 26 = .ok (.checkcast 33, 3) := by decide +kernel
theorem dX6_inForce_29 : decode cX6_inForce 29 = .ok (.astore 5, 2) := by decide +kernel
theorem dX6_inForce_31 : decode cX6_inForce 31 = .ok (.aload 5, 2) := by decide +kernel
theorem dX6_inForce_33 : decode cX6_inForce 33 = .ok (.getfield 35, 3) := by decide +kernel
theorem dX6_inForce_36 : decode cX6_inForce 36 = .ok (.iload_n 1, 1) := by decide +kernel
theorem dX6_inForce_37 : decode cX6_inForce 37 = .ok (.if_icmp .ne 31, 3) := by decide +kernel
theorem dX6_inForce_40 : decode cX6_inForce 40 = .ok (.aload 5, 2) := by decide +kernel
theorem dX6_inForce_42 : decode cX6_inForce 42 = .ok (.getfield 39, 3) := by decide +kernel
theorem dX6_inForce_45 : decode cX6_inForce 45 = .ok (.iload_n 2, 1) := by decide +kernel
theorem dX6_inForce_46 : decode cX6_inForce 46 = .ok (.if_icmp .gt 22, 3) := by decide +kernel
theorem dX6_inForce_49 : decode cX6_inForce 49 = .ok (.aload_n 3, 1) := by decide +kernel
theorem dX6_inForce_50 : decode cX6_inForce 50 = .ok (.ifnull 15, 3) := by decide +kernel
theorem dX6_inForce_53 : decode cX6_inForce 53 = .ok (.aload 5, 2) := by decide +kernel
theorem dX6_inForce_55 : decode cX6_inForce 55 = .ok (.getfield 39, 3) := by decide +kernel
theorem dX6_inForce_58 : decode cX6_inForce 58 = .ok (.aload_n 3, 1) := by decide +kernel
theorem dX6_inForce_59 : decode cX6_inForce 59 = .ok (.getfield 39, 3) := by decide +kernel
theorem dX6_inForce_62 : decode cX6_inForce 62 = .ok (.if_icmp .lt 6, 3) := by decide +kernel
theorem dX6_inForce_65 : decode cX6_inForce 65 = .ok (.aload 5, 2) := by decide +kernel
theorem dX6_inForce_67 : decode cX6_inForce 67 = .ok (.astore_n 3, 1) := by decide +kernel
theorem dX6_inForce_68 : decode cX6_inForce 68 = .ok (.iinc 4 1, 3) := by decide +kernel
theorem dX6_inForce_71 : decode cX6_inForce 71 = .ok (.goto (-66), 3) := by decide +kernel
theorem dX6_inForce_74 : decode cX6_inForce 74 = .ok (.aload_n 3, 1) := by decide +kernel
theorem dX6_inForce_75 : decode cX6_inForce 75 = .ok (.areturn, 1) := by decide +kernel
theorem dX6_tellHour_0 : decode cX6_tellHour 0 = .ok (.aload_n 0, 1) := by decide +kernel
theorem dX6_tellHour_1 : decode cX6_tellHour 1 = .ok (.getfield 18, 3) := by decide +kernel
theorem dX6_tellHour_4 : decode cX6_tellHour 4 = .ok (.iconst 0, 1) := by decide +kernel
theorem dX6_tellHour_5 : decode cX6_tellHour 5 = .ok (.iload_n 2, 1) := by decide +kernel
theorem dX6_tellHour_6 : decode cX6_tellHour 6 = .ok (.bipush 24, 2) := by decide +kernel
theorem dX6_tellHour_8 : decode cX6_tellHour 8 = .ok (.irem, 1) := by decide +kernel
theorem dX6_tellHour_9 : decode cX6_tellHour 9 = .ok (.i2l, 1) := by decide +kernel
theorem dX6_tellHour_10 : decode cX6_tellHour 10 = .ok (.lastore, 1) := by decide +kernel
theorem dX6_tellHour_11 : decode cX6_tellHour 11 = .ok (.aload_n 0, 1) := by decide +kernel
theorem dX6_tellHour_12 : decode cX6_tellHour 12 = .ok (.getfield 18, 3) := by decide +kernel
theorem dX6_tellHour_15 : decode cX6_tellHour 15 = .ok (.iconst 1, 1) := by decide +kernel
theorem dX6_tellHour_16 : decode cX6_tellHour 16 = .ok (.iload_n 2, 1) := by decide +kernel
theorem dX6_tellHour_17 : decode cX6_tellHour 17 = .ok (.bipush 24, 2) := by decide +kernel
theorem dX6_tellHour_19 : decode cX6_tellHour 19 = .ok (.idiv, 1) := by decide +kernel
theorem dX6_tellHour_20 : decode cX6_tellHour 20 = .ok (.i2l, 1) := by decide +kernel
theorem dX6_tellHour_21 : decode cX6_tellHour 21 = .ok (.lastore, 1) := by decide +kernel
theorem dX6_tellHour_22 : decode cX6_tellHour 22 = .ok (.aload_n 0, 1) := by decide +kernel
theorem dX6_tellHour_23 : decode cX6_tellHour 23 = .ok (.getfield 18, 3) := by decide +kernel
theorem dX6_tellHour_26 : decode cX6_tellHour 26 = .ok (.iconst 2, 1) := by decide +kernel
theorem dX6_tellHour_27 : decode cX6_tellHour 27 = .ok (.aload_n 1, 1) := by decide +kernel
theorem dX6_tellHour_28 : decode cX6_tellHour 28 = .ok (.getfield 42, 3) := by decide +kernel
theorem dX6_tellHour_31 : decode cX6_tellHour 31 = .ok (.iload_n 2, 1) := by decide +kernel
theorem dX6_tellHour_32 : decode cX6_tellHour 32 = .ok (.invokestatic 48, 3) := by decide +kernel
theorem dX6_tellHour_35 : decode cX6_tellHour 35 = .ok (.i2l, 1) := by decide +kernel
theorem dX6_tellHour_36 : decode cX6_tellHour 36 = .ok (.lastore, 1) := by decide +kernel
theorem dX6_tellHour_37 : decode cX6_tellHour 37 = .ok (.aload_n 0, 1) := by decide +kernel
theorem dX6_tellHour_38 : decode cX6_tellHour 38 = .ok (.getfield 18, 3) := by decide +kernel
theorem dX6_tellHour_41 : decode cX6_tellHour 41 = .ok (.iconst 3, 1) := by decide +kernel
theorem dX6_tellHour_42 : decode cX6_tellHour 42 = .ok (.aload_n 1, 1) := by decide +kernel
theorem dX6_tellHour_43 : decode cX6_tellHour 43 = .ok (.getfield 52, 3) := by decide +kernel
theorem dX6_tellHour_46 : decode cX6_tellHour 46 = .ok (.iload_n 2, 1) := by decide +kernel
theorem dX6_tellHour_47 : decode cX6_tellHour 47 = .ok (.bipush 24, 2) := by decide +kernel
theorem dX6_tellHour_49 : decode cX6_tellHour 49 = .ok (.idiv, 1) := by decide +kernel
theorem dX6_tellHour_50 : decode cX6_tellHour 50 = .ok (.invokestatic 48, 3) := by decide +kernel
theorem dX6_tellHour_53 : decode cX6_tellHour 53 = .ok (.i2l, 1) := by decide +kernel
theorem dX6_tellHour_54 : decode cX6_tellHour 54 = .ok (.lastore, 1) := by decide +kernel
theorem dX6_tellHour_55 : decode cX6_tellHour 55 = .ok (.aload_n 0, 1) := by decide +kernel
theorem dX6_tellHour_56 : decode cX6_tellHour 56 = .ok (.getfield 18, 3) := by decide +kernel
theorem dX6_tellHour_59 : decode cX6_tellHour 59 = .ok (.iconst 4, 1) := by decide +kernel
theorem dX6_tellHour_60 : decode cX6_tellHour 60 = .ok (.lload_n 3, 1) := by decide +kernel
theorem dX6_tellHour_61 : decode cX6_tellHour 61 = .ok (.lastore, 1) := by decide +kernel
theorem dX6_tellHour_62 : decode cX6_tellHour 62 = .ok (.return_, 1) := by decide +kernel
theorem dX6_worth_0 : decode cX6_worth 0 = .ok (.aload_n 1, 1) := by decide +kernel
theorem dX6_worth_1 : decode cX6_worth 1 = .ok (.ifnonnull 5, 3) := by decide +kernel
theorem dX6_worth_4 : decode cX6_worth 4 = .ok (.lconst 0, 1) := by decide +kernel
theorem dX6_worth_5 : decode cX6_worth 5 = .ok (.lreturn, 1) := by decide +kernel
theorem dX6_worth_6 : decode cX6_worth 6 = .ok (.aload_n 0, 1) := by decide +kernel
theorem dX6_worth_7 : decode cX6_worth 7 = .ok (.getfield 18, 3) := by decide +kernel
theorem dX6_worth_10 : decode cX6_worth 10 = .ok (.iconst 5, 1) := by decide +kernel
theorem dX6_worth_11 : decode cX6_worth 11 = .ok (.aload_n 2, 1) := by decide +kernel
theorem dX6_worth_12 : decode cX6_worth 12 = .ok (.getfield 55, 3) := by decide +kernel
theorem dX6_worth_15 : decode cX6_worth 15 = .ok (.getfield 61, 3) := by decide +kernel
theorem dX6_worth_18 : decode cX6_worth 18 = .ok (.ldc2_w 67, 3) := by decide +kernel
theorem dX6_worth_21 : decode cX6_worth 21 = .ok (.ldiv, 1) := by decide +kernel
theorem dX6_worth_22 : decode cX6_worth 22 = .ok (.lastore, 1) := by decide +kernel
theorem dX6_worth_23 : decode cX6_worth 23 = .ok (.aload_n 0, 1) := by decide +kernel
theorem dX6_worth_24 : decode cX6_worth 24 = .ok (.getfield 18, 3) := by decide +kernel
theorem dX6_worth_27 : decode cX6_worth 27 = .ok (.bipush 6, 2) := by decide +kernel
theorem dX6_worth_29 : decode cX6_worth 29 = .ok (.aload_n 2, 1) := by decide +kernel
theorem dX6_worth_30 : decode cX6_worth 30 = .ok (.getfield 69, 3) := by decide +kernel
theorem dX6_worth_33 : decode cX6_worth 33 = .ok (.getfield 61, 3) := by decide +kernel
theorem dX6_worth_36 : decode cX6_worth 36 = .ok (.ldc2_w 67, 3) := by decide +kernel
theorem dX6_worth_39 : decode cX6_worth 39 = .ok (.ldiv, 1) := by decide +kernel
theorem dX6_worth_40 : decode cX6_worth 40 = .ok (.lastore, 1) := by decide +kernel
theorem dX6_worth_41 : decode cX6_worth 41 = .ok (.aload_n 0, 1) := by decide +kernel
theorem dX6_worth_42 : decode cX6_worth 42 = .ok (.getfield 18, 3) := by decide +kernel
theorem dX6_worth_45 : decode cX6_worth 45 = .ok (.bipush 7, 2) := by decide +kernel
theorem dX6_worth_47 : decode cX6_worth 47 = .ok (.aload_n 2, 1) := by decide +kernel
theorem dX6_worth_48 : decode cX6_worth 48 = .ok (.getfield 72, 3) := by decide +kernel
theorem dX6_worth_51 : decode cX6_worth 51 = .ok (.i2l, 1) := by decide +kernel
theorem dX6_worth_52 : decode cX6_worth 52 = .ok (.lastore, 1) := by decide +kernel
theorem dX6_worth_53 : decode cX6_worth 53 = .ok (.aload_n 0, 1) := by decide +kernel
theorem dX6_worth_54 : decode cX6_worth 54 = .ok (.getfield 18, 3) := by decide +kernel
theorem dX6_worth_57 : decode cX6_worth 57 = .ok (.bipush 8, 2) := by decide +kernel
theorem dX6_worth_59 : decode cX6_worth 59 = .ok (.aload_n 2, 1) := by decide +kernel
theorem dX6_worth_60 : decode cX6_worth 60 = .ok (.getfield 75, 3) := by decide +kernel
theorem dX6_worth_63 : decode cX6_worth 63 = .ok (.i2l, 1) := by decide +kernel
theorem dX6_worth_64 : decode cX6_worth 64 = .ok (.lastore, 1) := by decide +kernel
theorem dX6_worth_65 : decode cX6_worth 65 = .ok (.aload_n 0, 1) := by decide +kernel
theorem dX6_worth_66 : decode cX6_worth 66 = .ok (.aload_n 1, 1) := by decide +kernel
theorem dX6_worth_67 : decode cX6_worth 67 = .ok (.getfield 78, 3) := by decide +kernel
theorem dX6_worth_70 : decode cX6_worth 70 = .ok (.aload_n 1, 1) := by decide +kernel
theorem dX6_worth_71 : decode cX6_worth 71 = .ok (.getfield 81, 3) := by decide +kernel
theorem dX6_worth_74 : decode cX6_worth 74 = .ok (.invokevirtual 84, 3) := by decide +kernel
theorem dX6_worth_77 : decode cX6_worth 77 = .ok (.lstore_n 3, 1) := by decide +kernel
theorem dX6_worth_78 : decode cX6_worth 78 = .ok (.lload_n 3, 1) := by decide +kernel
theorem dX6_worth_79 : decode cX6_worth 79 = .ok (.lconst 0, 1) := by decide +kernel
theorem dX6_worth_80 : decode cX6_worth 80 = .ok (.lcmp, 1) := by decide +kernel
theorem dX6_worth_81 : decode cX6_worth 81 = .ok (.ifCond .ge 7, 3) := by decide +kernel
theorem dX6_worth_84 : decode cX6_worth 84 = .ok (.lconst 0, 1) := by decide +kernel
theorem dX6_worth_85 : decode cX6_worth 85 = .ok (.goto 18, 3) := by decide +kernel
theorem dX6_worth_88 : decode cX6_worth 88 = .ok (.lload_n 3, 1) := by decide +kernel
theorem dX6_worth_89 : decode cX6_worth 89 = .ok (.ldc2_w 88, 3) := by decide +kernel
theorem dX6_worth_92 : decode cX6_worth 92 = .ok (.lcmp, 1) := by decide +kernel
theorem dX6_worth_93 : decode cX6_worth 93 = .ok (.ifCond .le 9, 3) := by decide +kernel
theorem dX6_worth_96 : decode cX6_worth 96 = .ok (.ldc2_w 88, 3) := by decide +kernel
theorem dX6_worth_99 : decode cX6_worth 99 = .ok (.goto 4, 3) := by decide +kernel
theorem dX6_worth_102 : decode cX6_worth 102 = .ok (.lload_n 3, 1) := by decide +kernel
theorem dX6_worth_103 : decode cX6_worth 103 = .ok (.lreturn, 1) := by decide +kernel
theorem dX6_workOut_0 : decode cX6_workOut 0 = .ok (.iconst 0, 1) := by decide +kernel
theorem dX6_workOut_1 : decode cX6_workOut 1 = .ok (.istore_n 3, 1) := by decide +kernel
theorem dX6_workOut_2 : decode cX6_workOut 2 = .ok (.iconst 0, 1) := by decide +kernel
theorem dX6_workOut_3 : decode cX6_workOut 3 = .ok (.istore 4, 2) := by decide +kernel
theorem dX6_workOut_5 : decode cX6_workOut 5 = .ok (.iload 4, 2) := by decide +kernel
theorem dX6_workOut_7 : decode cX6_workOut 7 = .ok (.iload_n 2, 1) := by decide +kernel
theorem dX6_workOut_8 : decode cX6_workOut 8 = .ok (.if_icmp .ge 105, 3) := by decide +kernel
theorem dX6_workOut_11 : decode cX6_workOut 11 = .ok (.iload 4, 2) := by decide +kernel
theorem dX6_workOut_13 : decode cX6_workOut 13 = .ok (.aload_n 1, 1) := by decide +kernel
theorem dX6_workOut_14 : decode cX6_workOut 14 = .ok (.arraylength, 1) := by decide +kernel
theorem dX6_workOut_15 : decode cX6_workOut 15 = .ok (.if_icmp .ge 98, 3) := by decide +kernel
theorem dX6_workOut_18 : decode cX6_workOut 18 = .ok (.aload_n 1, 1) := by decide +kernel
theorem dX6_workOut_19 : decode cX6_workOut 19 = .ok (.iload 4, 2) := by decide +kernel
theorem dX6_workOut_21 : decode cX6_workOut 21 = .ok (.iaload, 1) := by decide +kernel
theorem dX6_workOut_22 : decode cX6_workOut 22 = .ok (.istore 5, 2) := by decide +kernel
theorem dX6_workOut_24 : decode cX6_workOut 24 = .ok (.iload 5, 2) := by decide +kernel
theorem dX6_workOut_26 : decode cX6_workOut 26 = .ok (.bipush (-10), 2) := by decide +kernel
theorem dX6_workOut_28 : decode cX6_workOut 28 = .ok (.if_icmp .gt 55, 3) := by decide +kernel
theorem dX6_workOut_31 : decode cX6_workOut 31 = .ok (.iload_n 3, 1) := by decide +kernel
theorem dX6_workOut_32 : decode cX6_workOut 32 = .ok (.iconst 2, 1) := by decide +kernel
theorem dX6_workOut_33 : decode cX6_workOut 33 = .ok (.if_icmp .lt 12, 3) := by decide +kernel
theorem dX6_workOut_36 : decode cX6_workOut 36 = .ok (.iload_n 3, 1) := by decide +kernel
theorem dX6_workOut_37 : decode cX6_workOut 37 = .ok (.aload_n 0, 1) := by decide +kernel
theorem dX6_workOut_38 : decode cX6_workOut 38 = .ok (.getfield 22, 3) := by decide +kernel
theorem dX6_workOut_41 : decode cX6_workOut 41 = .ok (.arraylength, 1) := by decide +kernel
theorem dX6_workOut_42 : decode cX6_workOut 42 = .ok (.if_icmp .le 5, 3) := by decide +kernel
theorem dX6_workOut_45 : decode cX6_workOut 45 = .ok (.lconst 0, 1) := by decide +kernel
theorem dX6_workOut_46 : decode cX6_workOut 46 = .ok (.lreturn, 1) := by decide +kernel
theorem dX6_workOut_47 : decode cX6_workOut 47 = .ok (.iinc 3 (-1), 3) := by decide +kernel
theorem dX6_workOut_50 : decode cX6_workOut 50 = .ok (.aload_n 0, 1) := by decide +kernel
theorem dX6_workOut_51 : decode cX6_workOut 51 = .ok (.getfield 22, 3) := by decide +kernel
theorem dX6_workOut_54 : decode cX6_workOut 54 = .ok (.iload_n 3, 1) := by decide +kernel
theorem dX6_workOut_55 : decode cX6_workOut 55 = .ok (.iconst 1, 1) := by decide +kernel
theorem dX6_workOut_56 : decode cX6_workOut 56 = .ok (.isub, 1) := by decide +kernel
theorem dX6_workOut_57 : decode cX6_workOut 57 = .ok (.bipush (-10), 2) := by decide +kernel
theorem dX6_workOut_59 : decode cX6_workOut 59 = .ok (.iload 5, 2) := by decide +kernel
theorem dX6_workOut_61 : decode cX6_workOut 61 = .ok (.isub, 1) := by decide +kernel
theorem dX6_workOut_62 : decode cX6_workOut 62 = .ok (.aload_n 0, 1) := by decide +kernel
theorem dX6_workOut_63 : decode cX6_workOut 63 = .ok (.getfield 22, 3) := by decide +kernel
theorem dX6_workOut_66 : decode cX6_workOut 66 = .ok (.iload_n 3, 1) := by decide +kernel
theorem dX6_workOut_67 : decode cX6_workOut 67 = .ok (.iconst 1, 1) := by decide +kernel
theorem dX6_workOut_68 : decode cX6_workOut 68 = .ok (.isub, 1) := by decide +kernel
theorem dX6_workOut_69 : decode cX6_workOut 69 = .ok (.laload, 1) := by decide +kernel
theorem dX6_workOut_70 : decode cX6_workOut 70 = .ok (.aload_n 0, 1) := by decide +kernel
theorem dX6_workOut_71 : decode cX6_workOut 71 = .ok (.getfield 22, 3) := by decide +kernel
theorem dX6_workOut_74 : decode cX6_workOut 74 = .ok (.iload_n 3, 1) := by decide +kernel
theorem dX6_workOut_75 : decode cX6_workOut 75 = .ok (.laload, 1) := by decide +kernel
theorem dX6_workOut_76 : decode cX6_workOut 76 = .ok (.invokestatic 90, 3) := by decide +kernel
theorem dX6_workOut_79 : decode cX6_workOut 79 = .ok (.lastore, 1) := by decide +kernel
theorem dX6_workOut_80 : decode cX6_workOut 80 = .ok (.goto 27, 3) := by decide +kernel
theorem dX6_workOut_83 : decode cX6_workOut 83 = .ok (.iload_n 3, 1) := by decide +kernel
theorem dX6_workOut_84 : decode cX6_workOut 84 = .ok (.aload_n 0, 1) := by decide +kernel
theorem dX6_workOut_85 : decode cX6_workOut 85 = .ok (.getfield 22, 3) := by decide +kernel
theorem dX6_workOut_88 : decode cX6_workOut 88 = .ok (.arraylength, 1) := by decide +kernel
theorem dX6_workOut_89 : decode cX6_workOut 89 = .ok (.if_icmp .ge 18, 3) := by decide +kernel
theorem dX6_workOut_92 : decode cX6_workOut 92 = .ok (.aload_n 0, 1) := by decide +kernel
theorem dX6_workOut_93 : decode cX6_workOut 93 = .ok (.getfield 22, 3) := by decide +kernel
theorem dX6_workOut_96 : decode cX6_workOut 96 = .ok (.iload_n 3, 1) := by decide +kernel
theorem dX6_workOut_97 : decode cX6_workOut 97 = .ok (.aload_n 0, 1) := by decide +kernel
theorem dX6_workOut_98 : decode cX6_workOut 98 = .ok (.iload 5, 2) := by decide +kernel
theorem dX6_workOut_100 : decode cX6_workOut 100 = .ok (.invokevirtual 94, 3) := by decide +kernel
theorem dX6_workOut_103 : decode cX6_workOut 103 = .ok (.lastore, 1) := by decide +kernel
theorem dX6_workOut_104 : decode cX6_workOut 104 = .ok (.iinc 3 1, 3) := by decide +kernel
theorem dX6_workOut_107 : decode cX6_workOut 107 = .ok (.iinc 4 1, 3) := by decide +kernel
theorem dX6_workOut_110 : decode cX6_workOut 110 = .ok (.goto (-105), 3) := by decide +kernel
theorem dX6_workOut_113 : decode cX6_workOut 113 = .ok (.iload_n 3, 1) := by decide +kernel
theorem dX6_workOut_114 : decode cX6_workOut 114 = .ok (.ifCond .le 23, 3) := by decide +kernel
theorem dX6_workOut_117 : decode cX6_workOut 117 = .ok (.iload_n 3, 1) := by decide +kernel
theorem dX6_workOut_118 : decode cX6_workOut 118 = .ok (.aload_n 0, 1) := by decide +kernel
theorem dX6_workOut_119 : decode cX6_workOut 119 = .ok (.getfield 22, 3) := by decide +kernel
theorem dX6_workOut_122 : decode cX6_workOut 122 = .ok (.arraylength, 1) := by decide +kernel
theorem dX6_workOut_123 : decode cX6_workOut 123 = .ok (.if_icmp .gt 14, 3) := by decide +kernel
theorem dX6_workOut_126 : decode cX6_workOut 126 = .ok (.aload_n 0, 1) := by decide +kernel
theorem dX6_workOut_127 : decode cX6_workOut 127 = .ok (.getfield 22, 3) := by decide +kernel
theorem dX6_workOut_130 : decode cX6_workOut 130 = .ok (.iload_n 3, 1) := by decide +kernel
theorem dX6_workOut_131 : decode cX6_workOut 131 = .ok (.iconst 1, 1) := by decide +kernel
theorem dX6_workOut_132 : decode cX6_workOut 132 = .ok (.isub, 1) := by decide +kernel
theorem dX6_workOut_133 : decode cX6_workOut 133 = .ok (.laload, 1) := by decide +kernel
theorem dX6_workOut_134 : decode cX6_workOut 134 = .ok (.goto 4, 3) := by decide +kernel
theorem dX6_workOut_137 : decode cX6_workOut 137 = .ok (.lconst 0, 1) := by decide +kernel
theorem dX6_workOut_138 : decode cX6_workOut 138 = .ok (.lreturn, 1) := by decide +kernel
theorem dX6_valueOf_0 : decode cX6_valueOf 0 = .ok (.iload_n 1, 1) := by decide +kernel
theorem dX6_valueOf_1 : decode cX6_valueOf 1 = .ok (.ifCond .lt 6, 3) := by decide +kernel
theorem dX6_valueOf_4 : decode cX6_valueOf 4 = .ok (.iload_n 1, 1) := by decide +kernel
theorem dX6_valueOf_5 : decode cX6_valueOf 5 = .ok (.i2l, 1) := by decide +kernel
theorem dX6_valueOf_6 : decode cX6_valueOf 6 = .ok (.lreturn, 1) := by decide +kernel
theorem dX6_valueOf_7 : decode cX6_valueOf 7 = .ok (.iconst (-1), 1) := by decide +kernel
theorem dX6_valueOf_8 : decode cX6_valueOf 8 = .ok (.iload_n 1, 1) := by decide +kernel
theorem dX6_valueOf_9 : decode cX6_valueOf 9 = .ok (.isub, 1) := by decide +kernel
theorem dX6_valueOf_10 : decode cX6_valueOf 10 = .ok (.istore_n 2, 1) := by decide +kernel
theorem dX6_valueOf_11 : decode cX6_valueOf 11 = .ok (.iload_n 2, 1) := by decide +kernel
theorem dX6_valueOf_12 : decode cX6_valueOf 12 = .ok (.ifCond .lt 21, 3) := by decide +kernel
theorem dX6_valueOf_15 : decode cX6_valueOf 15 = .ok (.iload_n 2, 1) := by decide +kernel
theorem dX6_valueOf_16 : decode cX6_valueOf 16 = .ok (.aload_n 0, 1) := by decide +kernel
theorem dX6_valueOf_17 : decode cX6_valueOf 17 = .ok (.getfield 18, 3) := by decide +kernel
theorem dX6_valueOf_20 : decode cX6_valueOf 20 = .ok (.arraylength, 1) := by decide +kernel
theorem dX6_valueOf_21 : decode cX6_valueOf 21 = .ok (.if_icmp .ge 12, 3) := by decide +kernel
theorem dX6_valueOf_24 : decode cX6_valueOf 24 = .ok (.aload_n 0, 1) := by decide +kernel
theorem dX6_valueOf_25 : decode cX6_valueOf 25 = .ok (.getfield 18, 3) := by decide +kernel
theorem dX6_valueOf_28 : decode cX6_valueOf 28 = .ok (.iload_n 2, 1) := by decide +kernel
theorem dX6_valueOf_29 : decode cX6_valueOf 29 = .ok (.laload, 1) := by decide +kernel
theorem dX6_valueOf_30 : decode cX6_valueOf 30 = .ok (.goto 4, 3) := by decide +kernel
theorem dX6_valueOf_33 : decode cX6_valueOf 33 = .ok (.lconst 0, 1) := by decide +kernel
theorem dX6_valueOf_34 : decode cX6_valueOf 34 = .ok (.lreturn, 1) := by decide +kernel
theorem dX6_step_0 : decode cX6_step 0 = .ok (.iload_n 0, 1) := by decide +kernel
theorem dX6_step_1 : decode cX6_step 1 = .ok (.tableswitch 113 0 5 #[39, 47, 55, 63, 81, 97], 39) := by decide +kernel
theorem dX6_step_40 : decode cX6_step 40 = .ok (.lload_n 1, 1) := by decide +kernel
theorem dX6_step_41 : decode cX6_step 41 = .ok (.lload_n 3, 1) := by decide +kernel
theorem dX6_step_42 : decode cX6_step 42 = .ok (.ladd, 1) := by decide +kernel
theorem dX6_step_43 : decode cX6_step 43 = .ok (.lstore 5, 2) := by decide +kernel
theorem dX6_step_45 : decode cX6_step 45 = .ok (.goto 82, 3) := by decide +kernel
theorem dX6_step_48 : decode cX6_step 48 = .ok (.lload_n 1, 1) := by decide +kernel
theorem dX6_step_49 : decode cX6_step 49 = .ok (.lload_n 3, 1) := by decide +kernel
theorem dX6_step_50 : decode cX6_step 50 = .ok (.lsub, 1) := by decide +kernel
theorem dX6_step_51 : decode cX6_step 51 = .ok (.lstore 5, 2) := by decide +kernel
theorem dX6_step_53 : decode cX6_step 53 = .ok (.goto 74, 3) := by decide +kernel
theorem dX6_step_56 : decode cX6_step 56 = .ok (.lload_n 1, 1) := by decide +kernel
theorem dX6_step_57 : decode cX6_step 57 = .ok (.lload_n 3, 1) := by decide +kernel
theorem dX6_step_58 : decode cX6_step 58 = .ok (.lmul, 1) := by decide +kernel
theorem dX6_step_59 : decode cX6_step 59 = .ok (.lstore 5, 2) := by decide +kernel
theorem dX6_step_61 : decode cX6_step 61 = .ok (.goto 66, 3) := by decide +kernel
theorem dX6_step_64 : decode cX6_step 64 = .ok (.lload_n 3, 1) := by decide +kernel
theorem dX6_step_65 : decode cX6_step 65 = .ok (.lconst 0, 1) := by decide +kernel
theorem dX6_step_66 : decode cX6_step 66 = .ok (.lcmp, 1) := by decide +kernel
theorem dX6_step_67 : decode cX6_step 67 = .ok (.ifCond .ne 7, 3) := by decide +kernel
theorem dX6_step_70 : decode cX6_step 70 = .ok (.lconst 0, 1) := by decide +kernel
theorem dX6_step_71 : decode cX6_step 71 = .ok (.goto 6, 3) := by decide +kernel
theorem dX6_step_74 : decode cX6_step 74 = .ok (.lload_n 1, 1) := by decide +kernel
theorem dX6_step_75 : decode cX6_step 75 = .ok (.lload_n 3, 1) := by decide +kernel
theorem dX6_step_76 : decode cX6_step 76 = .ok (.ldiv, 1) := by decide +kernel
theorem dX6_step_77 : decode cX6_step 77 = .ok (.lstore 5, 2) := by decide +kernel
theorem dX6_step_79 : decode cX6_step 79 = .ok (.goto 48, 3) := by decide +kernel
theorem dX6_step_82 : decode cX6_step 82 = .ok (.lload_n 1, 1) := by decide +kernel
theorem dX6_step_83 : decode cX6_step 83 = .ok (.lload_n 3, 1) := by decide +kernel
theorem dX6_step_84 : decode cX6_step 84 = .ok (.lcmp, 1) := by decide +kernel
theorem dX6_step_85 : decode cX6_step 85 = .ok (.ifCond .ge 7, 3) := by decide +kernel
theorem dX6_step_88 : decode cX6_step 88 = .ok (.lconst 1, 1) := by decide +kernel
theorem dX6_step_89 : decode cX6_step 89 = .ok (.goto 4, 3) := by decide +kernel
theorem dX6_step_92 : decode cX6_step 92 = .ok (.lconst 0, 1) := by decide +kernel
theorem dX6_step_93 : decode cX6_step 93 = .ok (.lstore 5, 2) := by decide +kernel
theorem dX6_step_95 : decode cX6_step 95 = .ok (.goto 32, 3) := by decide +kernel
theorem dX6_step_98 : decode cX6_step 98 = .ok (.lload_n 1, 1) := by decide +kernel
theorem dX6_step_99 : decode cX6_step 99 = .ok (.lload_n 3, 1) := by decide +kernel
theorem dX6_step_100 : decode cX6_step 100 = .ok (.lcmp, 1) := by decide +kernel
theorem dX6_step_101 : decode cX6_step 101 = .ok (.ifCond .ne 7, 3) := by decide +kernel
theorem dX6_step_104 : decode cX6_step 104 = .ok (.lconst 1, 1) := by decide +kernel
theorem dX6_step_105 : decode cX6_step 105 = .ok (.goto 4, 3) := by decide +kernel
theorem dX6_step_108 : decode cX6_step 108 = .ok (.lconst 0, 1) := by decide +kernel
theorem dX6_step_109 : decode cX6_step 109 = .ok (.lstore 5, 2) := by decide +kernel
theorem dX6_step_111 : decode cX6_step 111 = .ok (.goto 16, 3) := by decide +kernel
theorem dX6_step_114 : decode cX6_step 114 = .ok (.lload_n 1, 1) := by decide +kernel
theorem dX6_step_115 : decode cX6_step 115 = .ok (.lload_n 3, 1) := by decide +kernel
theorem dX6_step_116 : decode cX6_step 116 = .ok (.lcmp, 1) := by decide +kernel
theorem dX6_step_117 : decode cX6_step 117 = .ok (.ifCond .le 7, 3) := by decide +kernel
theorem dX6_step_120 : decode cX6_step 120 = .ok (.lconst 1, 1) := by decide +kernel
theorem dX6_step_121 : decode cX6_step 121 = .ok (.goto 4, 3) := by decide +kernel
theorem dX6_step_124 : decode cX6_step 124 = .ok (.lconst 0, 1) := by decide +kernel
theorem dX6_step_125 : decode cX6_step 125 = .ok (.lstore 5, 2) := by decide +kernel
theorem dX6_step_127 : decode cX6_step 127 = .ok (.lload 5, 2) := by decide +kernel
theorem dX6_step_129 : decode cX6_step 129 = .ok (.ldc2_w 98, 3) := by decide +kernel
theorem dX6_step_132 : decode cX6_step 132 = .ok (.lcmp, 1) := by decide +kernel
theorem dX6_step_133 : decode cX6_step 133 = .ok (.ifCond .ge 9, 3) := by decide +kernel
theorem dX6_step_136 : decode cX6_step 136 = .ok (.ldc2_w 98, 3) := by decide +kernel
theorem dX6_step_139 : decode cX6_step 139 = .ok (.goto 20, 3) := by decide +kernel
theorem dX6_step_142 : decode cX6_step 142 = .ok (.lload 5, 2) := by decide +kernel
theorem dX6_step_144 : decode cX6_step 144 = .ok (.ldc2_w 100, 3) := by decide +kernel
theorem dX6_step_147 : decode cX6_step 147 = .ok (.lcmp, 1) := by decide +kernel
theorem dX6_step_148 : decode cX6_step 148 = .ok (.ifCond .le 9, 3) := by decide +kernel
theorem dX6_step_151 : decode cX6_step 151 = .ok (.ldc2_w 100, 3) := by decide +kernel
theorem dX6_step_154 : decode cX6_step 154 = .ok (.goto 5, 3) := by decide +kernel
theorem dX6_step_157 : decode cX6_step 157 = .ok (.lload 5, 2) := by decide +kernel
theorem dX6_step_159 : decode cX6_step 159 = .ok (.lreturn, 1) := by decide +kernel
theorem dX7_init_0 : decode cX7_init 0 = .ok (.aload_n 0, 1) := by decide +kernel
theorem dX7_init_1 : decode cX7_init 1 = .ok (.invokespecial 3, 3) := by decide +kernel
theorem dX7_init_4 : decode cX7_init 4 = .ok (.aload_n 0, 1) := by decide +kernel
theorem dX7_init_5 : decode cX7_init 5 = .ok (.bipush 8, 2) := by decide +kernel
theorem dX7_init_7 : decode cX7_init 7 = .ok (.newarray .int, 2) := by decide +kernel
theorem dX7_init_9 : decode cX7_init 9 = .ok (.putfield 9, 3) := by decide +kernel
theorem dX7_init_12 : decode cX7_init 12 = .ok (.aload_n 0, 1) := by decide +kernel
theorem dX7_init_13 : decode cX7_init 13 = .ok (.bipush 8, 2) := by decide +kernel
theorem dX7_init_15 : decode cX7_init 15 = .ok (.newarray .int, 2) := by decide +kernel
theorem dX7_init_17 : decode cX7_init 17 = .ok (.putfield 15, 3) := by decide +kernel
theorem dX7_init_20 : decode cX7_init 20 = .ok (.return_, 1) := by decide +kernel
theorem dX7_isAboveLast_0 : decode cX7_isAboveLast 0 = .ok (.aload_n 0, 1) := by decide +kernel
theorem dX7_isAboveLast_1 : decode cX7_isAboveLast 1 = .ok (.getfield 18, 3) := by decide +kernel
theorem dX7_isAboveLast_4 : decode cX7_isAboveLast 4 = .ok (.iconst 1, 1) := by decide +kernel
theorem dX7_isAboveLast_5 : decode cX7_isAboveLast 5 = .ok (.isub, 1) := by decide +kernel
theorem dX7_isAboveLast_6 : decode cX7_isAboveLast 6 = .ok (.istore_n 2, 1) := by decide +kernel
theorem dX7_isAboveLast_7 : decode cX7_isAboveLast 7 = .ok (.iload_n 2, 1) := by decide +kernel
theorem dX7_isAboveLast_8 : decode cX7_isAboveLast 8 = .ok (.ifCond .lt 22, 3) := by decide +kernel
theorem dX7_isAboveLast_11 : decode cX7_isAboveLast 11 = .ok (.iload_n 2, 1) := by decide +kernel
theorem dX7_isAboveLast_12 : decode cX7_isAboveLast 12 = .ok (.aload_n 0, 1) := by decide +kernel
theorem dX7_isAboveLast_13 : decode cX7_isAboveLast 13 = .ok (.getfield 9, 3) := by decide +kernel
theorem dX7_isAboveLast_16 : decode cX7_isAboveLast 16 = .ok (.arraylength, 1) := by decide +kernel
theorem dX7_isAboveLast_17 : decode cX7_isAboveLast 17 = .ok (.if_icmp .ge 13, 3) := by decide +kernel
theorem dX7_isAboveLast_20 : decode cX7_isAboveLast 20 = .ok (.iload_n 1, 1) := by decide +kernel
theorem dX7_isAboveLast_21 : decode cX7_isAboveLast 21 = .ok (.aload_n 0, 1) := by decide +kernel
theorem dX7_isAboveLast_22 : decode cX7_isAboveLast 22 = .ok (.getfield 9, 3) := by decide +kernel
theorem dX7_isAboveLast_25 : decode cX7_isAboveLast 25 = .ok (.iload_n 2, 1) := by decide +kernel
theorem dX7_isAboveLast_26 : decode cX7_isAboveLast 26 = .ok (.iaload, 1) := by decide +kernel
theorem dX7_isAboveLast_27 : decode cX7_isAboveLast 27 = .ok (.if_icmp .le 7, 3) := by decide +kernel
theorem dX7_isAboveLast_30 : decode cX7_isAboveLast 30 = .ok (.iconst 1, 1) := by decide +kernel
theorem dX7_isAboveLast_31 : decode cX7_isAboveLast 31 = .ok (.goto 4, 3) := by decide +kernel
theorem dX7_isAboveLast_34 : decode cX7_isAboveLast 34 = .ok (.iconst 0, 1) := by decide +kernel
theorem dX7_isAboveLast_35 : decode cX7_isAboveLast 35 = .ok (.ireturn, 1) := by decide +kernel
theorem dX7_addPoint_0 : decode cX7_addPoint 0 = .ok (.aload_n 0, 1) := by decide +kernel
theorem dX7_addPoint_1 : decode cX7_addPoint 1 = .ok (.getfield 18, 3) := by decide +kernel
theorem dX7_addPoint_4 : decode cX7_addPoint 4 = .ok (.ifCond .lt 57, 3) := by decide +kernel
theorem dX7_addPoint_7 : decode cX7_addPoint 7 = .ok (.aload_n 0, 1) := by decide +kernel
theorem dX7_addPoint_8 : decode cX7_addPoint 8 = .ok (.getfield 18, 3) := by decide +kernel
theorem dX7_addPoint_11 : decode cX7_addPoint 11 = .ok (.aload_n 0, 1) := by decide +kernel
theorem dX7_addPoint_12 : decode cX7_addPoint 12 = .ok (.getfield 9, 3) := by decide +kernel
theorem dX7_addPoint_15 : decode cX7_addPoint 15 = .ok (.arraylength, 1) := by decide +kernel
theorem dX7_addPoint_16 : decode cX7_addPoint 16 = .ok (.if_icmp .ge 45, 3) := by decide +kernel
theorem dX7_addPoint_19 : decode cX7_addPoint 19 = .ok (.aload_n 0, 1) := by decide +kernel
theorem dX7_addPoint_20 : decode cX7_addPoint 20 = .ok (.getfield 18, 3) := by decide +kernel
theorem dX7_addPoint_23 : decode cX7_addPoint 23 = .ok (.aload_n 0, 1) := by decide +kernel
theorem dX7_addPoint_24 : decode cX7_addPoint 24 = .ok (.getfield 15, 3) := by decide +kernel
theorem dX7_addPoint_27 : decode cX7_addPoint 27 = .ok (.arraylength, 1) := by decide +kernel
theorem dX7_addPoint_28 : decode cX7_addPoint 28 = .ok (.if_icmp .ge 33, 3) := by decide +kernel
theorem dX7_addPoint_31 : decode cX7_addPoint 31 = .ok (.aload_n 0, 1) := by decide +kernel
theorem dX7_addPoint_32 : decode cX7_addPoint 32 = .ok (.getfield 9, 3) := by decide +kernel
theorem dX7_addPoint_35 : decode cX7_addPoint 35 = .ok (.aload_n 0, 1) := by decide +kernel
theorem dX7_addPoint_36 : decode cX7_addPoint 36 = .ok (.getfield 18, 3) := by decide +kernel
theorem dX7_addPoint_39 : decode cX7_addPoint 39 = .ok (.iload_n 1, 1) := by decide +kernel
theorem dX7_addPoint_40 : decode cX7_addPoint 40 = .ok (.iastore, 1) := by decide +kernel
theorem dX7_addPoint_41 : decode cX7_addPoint 41 = .ok (.aload_n 0, 1) := by decide +kernel
theorem dX7_addPoint_42 : decode cX7_addPoint 42 = .ok (.getfield 15, 3) := by decide +kernel
theorem dX7_addPoint_45 : decode cX7_addPoint 45 = .ok (.aload_n 0, 1) := by decide +kernel
theorem dX7_addPoint_46 : decode cX7_addPoint 46 = .ok (.getfield 18, 3) := by decide +kernel
theorem dX7_addPoint_49 : decode cX7_addPoint 49 = .ok (.iload_n 2, 1) := by decide +kernel
theorem dX7_addPoint_50 : decode cX7_addPoint 50 = .ok (.iastore, 1) := by decide +kernel
theorem dX7_addPoint_51 : decode cX7_addPoint 51 = .ok (.aload_n 0, 1) := by decide +kernel
theorem dX7_addPoint_52 : decode cX7_addPoint 52 = .ok (.dup, 1) := by decide +kernel
theorem dX7_addPoint_53 : decode cX7_addPoint 53 = .ok (.getfield 18, 3) := by decide +kernel
theorem dX7_addPoint_56 : decode cX7_addPoint 56 = .ok (.iconst 1, 1) := by decide +kernel
theorem dX7_addPoint_57 : decode cX7_addPoint 57 = .ok (.iadd, 1) := by decide +kernel
theorem dX7_addPoint_58 : decode cX7_addPoint 58 = .ok (.putfield 18, 3) := by decide +kernel
theorem dX7_addPoint_61 : decode cX7_addPoint 61 = .ok (.return_, 1) := by decide +kernel
theorem dX7_liftAt_0 : decode cX7_liftAt 0 = .ok (.ldc2_w 22, 3) := by decide +kernel
theorem dX7_liftAt_3 : decode cX7_liftAt 3 = .ok (.lstore_n 3, 1) := by decide +kernel
theorem dX7_liftAt_4 : decode cX7_liftAt 4 = .ok (.lconst 0, 1) := by decide +kernel
theorem dX7_liftAt_5 : decode cX7_liftAt 5 = .ok (.lstore 5, 2) := by decide +kernel
theorem dX7_liftAt_7 : decode cX7_liftAt 7 = .ok (.iconst 0, 1) := by decide +kernel
theorem dX7_liftAt_8 : decode cX7_liftAt 8 = .ok (.istore 7, 2) := by decide +kernel
theorem dX7_liftAt_10 : decode cX7_liftAt 10 = .ok (.iload 7, 2) := by decide +kernel
theorem dX7_liftAt_12 : decode cX7_liftAt 12 = .ok (.aload_n 0, 1) := by decide +kernel
theorem dX7_liftAt_13 : decode cX7_liftAt 13 = .ok (.getfield 18, 3) := by decide +kernel
theorem dX7_liftAt_16 : decode cX7_liftAt 16 = .ok (.if_icmp .ge 105, 3) := by decide +kernel
theorem dX7_liftAt_19 : decode cX7_liftAt 19 = .ok (.iload 7, 2) := by decide +kernel
theorem dX7_liftAt_21 : decode cX7_liftAt 21 = .ok (.aload_n 0, 1) := by decide +kernel
theorem dX7_liftAt_22 : decode cX7_liftAt 22 = .ok (.getfield 9, 3) := by decide +kernel
theorem dX7_liftAt_25 : decode cX7_liftAt 25 = .ok (.arraylength, 1) := by decide +kernel
theorem dX7_liftAt_26 : decode cX7_liftAt 26 = .ok (.if_icmp .ge 95, 3) := by decide +kernel
theorem dX7_liftAt_29 : decode cX7_liftAt 29 = .ok (.iload 7, 2) := by decide +kernel
theorem dX7_liftAt_31 : decode cX7_liftAt 31 = .ok (.aload_n 0, 1) := by decide +kernel
theorem dX7_liftAt_32 : decode cX7_liftAt 32 = .ok (.getfield 15, 3) := by decide +kernel
theorem dX7_liftAt_35 : decode cX7_liftAt 35 = .ok (.arraylength, 1) := by decide +kernel
theorem dX7_liftAt_36 : decode cX7_liftAt 36 = .ok (.if_icmp .ge 85, 3) := by decide +kernel
theorem dX7_liftAt_39 : decode cX7_liftAt 39 = .ok (.ldc2_w 24, 3) := by decide +kernel
theorem dX7_liftAt_42 : decode cX7_liftAt 42 = .ok (.aload_n 0, 1) := by decide +kernel
theorem dX7_liftAt_43 : decode cX7_liftAt 43 = .ok (.getfield 9, 3) := by decide +kernel
theorem dX7_liftAt_46 : decode cX7_liftAt 46 = .ok (.iload 7, 2) := by decide +kernel
theorem dX7_liftAt_48 : decode cX7_liftAt 48 = .ok (.iaload, 1) := by decide +kernel
theorem dX7_liftAt_49 : decode cX7_liftAt 49 = .ok (.i2l, 1) := by decide +kernel
theorem dX7_liftAt_50 : decode cX7_liftAt 50 = .ok (.lmul, 1) := by decide +kernel
theorem dX7_liftAt_51 : decode cX7_liftAt 51 = .ok (.lstore 8, 2) := by decide +kernel
theorem dX7_liftAt_53 : decode cX7_liftAt 53 = .ok (.lload_n 1, 1) := by decide +kernel
theorem dX7_liftAt_54 : decode cX7_liftAt 54 = .ok (.lload 8, 2) := by decide +kernel
theorem dX7_liftAt_56 : decode cX7_liftAt 56 = .ok (.lcmp, 1) := by decide +kernel
theorem dX7_liftAt_57 : decode cX7_liftAt 57 = .ok (.ifCond .ge 45, 3) := by decide +kernel
theorem dX7_liftAt_60 : decode cX7_liftAt 60 = .ok (.iload 7, 2) := by decide +kernel
theorem dX7_liftAt_62 : decode cX7_liftAt 62 = .ok (.ifCond .ne 14, 3) := by decide +kernel
theorem dX7_liftAt_65 : decode cX7_liftAt 65 = .ok (.aload_n 0, 1) := by decide +kernel
theorem dX7_liftAt_66 : decode cX7_liftAt 66 = .ok (.getfield 15, 3) := by decide +kernel
theorem dX7_liftAt_69 : decode cX7_liftAt 69 = .ok (.iload 7, 2) := by decide +kernel
theorem dX7_liftAt_71 : decode cX7_liftAt 71 = .ok (.iaload, 1) := by decide +kernel
theorem dX7_liftAt_72 : decode cX7_liftAt 72 = .ok (.i2l, 1) := by decide +kernel
theorem dX7_liftAt_73 : decode cX7_liftAt 73 = .ok (.goto 28, 3) := by decide +kernel
theorem dX7_liftAt_76 : decode cX7_liftAt 76 = .ok (.lload_n 3, 1) := by decide +kernel
theorem dX7_liftAt_77 : decode cX7_liftAt 77 = .ok (.aload_n 0, 1) := by decide +kernel
theorem dX7_liftAt_78 : decode cX7_liftAt 78 = .ok (.getfield 15, 3) := by decide +kernel
theorem dX7_liftAt_81 : decode cX7_liftAt 81 = .ok (.iload 7, 2) := by decide +kernel
theorem dX7_liftAt_83 : decode cX7_liftAt 83 = .ok (.iaload, 1) := by decide +kernel
theorem dX7_liftAt_84 : decode cX7_liftAt 84 = .ok (.i2l, 1) := by decide +kernel
theorem dX7_liftAt_85 : decode cX7_liftAt 85 = .ok (.lload_n 3, 1) := by decide +kernel
theorem dX7_liftAt_86 : decode cX7_liftAt 86 = .ok (.lsub, 1) := by decide +kernel
theorem dX7_liftAt_87 : decode cX7_liftAt 87 = .ok (.lload_n 1, 1) := by decide +kernel
theorem dX7_liftAt_88 : decode cX7_liftAt 88 = .ok (.lload 5, 2) := by decide +kernel
theorem dX7_liftAt_90 : decode cX7_liftAt 90 = .ok (.lsub, 1) := by decide +kernel
theorem dX7_liftAt_91 : decode cX7_liftAt 91 = .ok (.lmul, 1) := by decide +kernel
theorem dX7_liftAt_92 : decode cX7_liftAt 92 = .ok (.lload 8, 2) := by decide +kernel
theorem dX7_liftAt_94 : decode cX7_liftAt 94 = .ok (.lload 5, 2) := by decide +kernel
theorem dX7_liftAt_96 : decode cX7_liftAt 96 = .ok (.lsub, 1) := by decide +kernel
theorem dX7_liftAt_97 : decode cX7_liftAt 97 = .ok (.invokestatic 26, 3) := by decide +kernel
theorem dX7_liftAt_100 : decode cX7_liftAt 100 = .ok (.ladd, 1) := by decide +kernel
theorem dX7_liftAt_101 : decode cX7_liftAt 101 = .ok (.lreturn, 1) := by decide +kernel
theorem dX7_liftAt_102 : decode cX7_liftAt 102 = .ok (.aload_n 0, 1) := by decide +kernel
theorem dX7_liftAt_103 : decode cX7_liftAt 103 = .ok (.getfield 15, 3) := by decide +kernel
theorem dX7_liftAt_106 : decode cX7_liftAt 106 = .ok (.iload 7, 2) := by decide +kernel
theorem dX7_liftAt_108 : decode cX7_liftAt 108 = .ok (.iaload, 1) := by decide +kernel
theorem dX7_liftAt_109 : decode cX7_liftAt 109 = .ok (.i2l, 1) := by decide +kernel
theorem dX7_liftAt_110 : decode cX7_liftAt 110 = .ok (.lstore_n 3, 1) := by decide +kernel
theorem dX7_liftAt_111 : decode cX7_liftAt 111 = .ok (.lload 8, 2) := by decide +kernel
theorem dX7_liftAt_113 : decode cX7_liftAt 113 = .ok (.lstore 5, 2) := by decide +kernel
theorem dX7_liftAt_115 : decode cX7_liftAt 115 = .ok (.iinc 7 1, 3) := by decide +kernel
theorem dX7_liftAt_118 : decode cX7_liftAt 118 = .ok (.goto (-108), 3) := by decide +kernel
theorem dX7_liftAt_121 : decode cX7_liftAt 121 = .ok (.lload_n 3, 1) := by decide +kernel
theorem dX7_liftAt_122 : decode cX7_liftAt 122 = .ok (.lreturn, 1) := by decide +kernel
theorem dX8_init_0 : decode cX8_init 0 = .ok (.aload_n 0, 1) := by decide +kernel
theorem dX8_init_1 : decode cX8_init 1 = .ok (.invokespecial 3, 3) := by decide +kernel
theorem dX8_init_4 : decode cX8_init 4 = .ok (.aload_n 0, 1) := by decide +kernel
theorem dX8_init_5 : decode cX8_init 5 = .ok (.bipush 100, 2) := by decide +kernel
theorem dX8_init_7 : decode cX8_init 7 = .ok (.putfield 9, 3) := by decide +kernel
theorem dX8_init_10 : decode cX8_init 10 = .ok (.aload_n 0, 1) := by decide +kernel
theorem dX8_init_11 : decode cX8_init 11 = .ok (.bipush 24, 2) := by decide +kernel
theorem dX8_init_13 : decode cX8_init 13 = .ok (.newarray .long, 2) := by decide +kernel
theorem dX8_init_15 : decode cX8_init 15 = .ok (.putfield 15, 3) := by decide +kernel
theorem dX8_init_18 : decode cX8_init 18 = .ok (.aload_n 0, 1) := by decide +kernel
theorem dX8_init_19 : decode cX8_init 19 = .ok (.bipush 24, 2) := by decide +kernel
theorem dX8_init_21 : decode cX8_init 21 = .ok (.newarray .long, 2) := by decide +kernel
theorem dX8_init_23 : decode cX8_init 23 = .ok (.putfield 19, 3) := by decide +kernel
theorem dX8_init_26 : decode cX8_init 26 = .ok (.aload_n 0, 1) := by decide +kernel
theorem dX8_init_27 : decode cX8_init 27 = .ok (.bipush 24, 2) := by decide +kernel
theorem dX8_init_29 : decode cX8_init 29 = .ok (.newarray .long, 2) := by decide +kernel
theorem dX8_init_31 : decode cX8_init 31 = .ok (.putfield 22, 3) := by decide +kernel
theorem dX8_init_34 : decode cX8_init 34 = .ok (.aload_n 0, 1) := by decide +kernel
theorem dX8_init_35 : decode cX8_init 35 = .ok (.bipush 25, 2) := by decide +kernel
theorem dX8_init_37 : decode cX8_init 37 = .ok (.bipush 10, 2) := by decide +kernel
theorem dX8_init_39 : decode cX8_init 39 = .ok (.multianewarray 25 2, 4) := by decide +kernel
theorem dX8_init_43 : decode cX8_init 43 = .ok (.putfield 27, 3) := by decide +kernel
theorem dX8_init_46 : decode cX8_init 46 = .ok (.return_, 1) := by decide +kernel
theorem dX8_plan_0 : decode cX8_plan 0 = .ok (.iconst 0, 1) := by decide +kernel
theorem dX8_plan_1 : decode cX8_plan 1 = .ok (.istore_n 3, 1) := by decide +kernel
theorem dX8_plan_2 : decode cX8_plan 2 = .ok (.iload_n 3, 1) := by decide +kernel
theorem dX8_plan_3 : decode cX8_plan 3 = .ok (.bipush 24, 2) := by decide +kernel
theorem dX8_plan_5 : decode cX8_plan 5 = .ok (.if_icmp .ge 39, 3) := by decide +kernel
theorem dX8_plan_8 : decode cX8_plan 8 = .ok (.aload_n 0, 1) := by decide +kernel
theorem dX8_plan_9 : decode cX8_plan 9 = .ok (.getfield 19, 3) := by decide +kernel
theorem dX8_plan_12 : decode cX8_plan 12 = .ok (.iload_n 3, 1) := by decide +kernel
theorem dX8_plan_13 : decode cX8_plan 13 = .ok (.aload_n 1, 1) := by decide +kernel
theorem dX8_plan_14 : decode cX8_plan 14 = .ok (.iload_n 2, 1) := by decide +kernel
theorem dX8_plan_15 : decode cX8_plan 15 = .ok (.iload_n 3, 1) := by decide +kernel
theorem dX8_plan_16 : decode cX8_plan 16 = .ok (.iadd, 1) := by decide +kernel
theorem dX8_plan_17 : decode cX8_plan 17 = .ok (.invokevirtual 30, 3) := by decide +kernel
theorem dX8_plan_20 : decode cX8_plan 20 = .ok (.lastore, 1) := by decide +kernel
theorem dX8_plan_21 : decode cX8_plan 21 = .ok (.aload_n 0, 1) := by decide +kernel
theorem dX8_plan_22 : decode cX8_plan 22 = .ok (.getfield 22, 3) := by decide +kernel
theorem dX8_plan_25 : decode cX8_plan 25 = .ok (.iload_n 3, 1) := by decide +kernel
theorem dX8_plan_26 : decode cX8_plan 26 = .ok (.aload_n 1, 1) := by decide +kernel
theorem dX8_plan_27 : decode cX8_plan 27 = .ok (.getfield 36, 3) := by decide +kernel
theorem dX8_plan_30 : decode cX8_plan 30 = .ok (.iload_n 2, 1) := by decide +kernel
theorem dX8_plan_31 : decode cX8_plan 31 = .ok (.iload_n 3, 1) := by decide +kernel
theorem dX8_plan_32 : decode cX8_plan 32 = .ok (.iadd, 1) := by decide +kernel
theorem dX8_plan_33 : decode cX8_plan 33 = .ok (.invokestatic 39, 3) := by decide +kernel
theorem dX8_plan_36 : decode cX8_plan 36 = .ok (.i2l, 1) := by decide +kernel
theorem dX8_plan_37 : decode cX8_plan 37 = .ok (.lastore, 1) := by decide +kernel
theorem dX8_plan_38 : decode cX8_plan 38 = .ok (.iinc 3 1, 3) := by decide +kernel
theorem dX8_plan_41 : decode cX8_plan 41 = .ok (.goto (-39), 3) := by decide +kernel
theorem dX8_plan_44 : decode cX8_plan 44 = .ok (.bipush 23, 2) := by decide +kernel
theorem dX8_plan_46 : decode cX8_plan 46 = .ok (.istore_n 3, 1) := by decide +kernel
theorem dX8_plan_47 : decode cX8_plan 47 = .ok (.iload_n 3, 1) := by decide +kernel
theorem dX8_plan_48 : decode cX8_plan 48 = .ok (.ifCond .lt 50, 3) := by decide +kernel
theorem dX8_plan_51 : decode cX8_plan 51 = .ok (.iconst 0, 1) := by decide +kernel
theorem dX8_plan_52 : decode cX8_plan 52 = .ok (.istore 4, 2) := by decide +kernel
theorem dX8_plan_54 : decode cX8_plan 54 = .ok (.iload 4, 2) := by decide +kernel
theorem dX8_plan_56 : decode cX8_plan 56 = .ok (.aload_n 0, 1) := by decide +kernel
theorem dX8_plan_57 : decode cX8_plan 57 = .ok (.getfield 43, 3) := by decide +kernel
theorem dX8_plan_60 : decode cX8_plan 60 = .ok (.if_icmp .gt 32, 3) := by decide +kernel
theorem dX8_plan_63 : decode cX8_plan 63 = .ok (.iload 4, 2) := by decide +kernel
theorem dX8_plan_65 : decode cX8_plan 65 = .ok (.bipush 9, 2) := by decide +kernel
theorem dX8_plan_67 : decode cX8_plan 67 = .ok (.if_icmp .gt 25, 3) := by decide +kernel
theorem dX8_plan_70 : decode cX8_plan 70 = .ok (.aload_n 0, 1) := by decide +kernel
theorem dX8_plan_71 : decode cX8_plan 71 = .ok (.getfield 27, 3) := by decide +kernel
theorem dX8_plan_74 : decode cX8_plan 74 = .ok (.iload_n 3, 1) := by decide +kernel
theorem dX8_plan_75 : decode cX8_plan 75 = .ok (.aaload, 1) := by decide +kernel
theorem dX8_plan_76 : decode cX8_plan 76 = .ok (.iload 4, 2) := by decide +kernel
theorem dX8_plan_78 : decode cX8_plan 78 = .ok (.aload_n 0, 1) := by decide +kernel
theorem dX8_plan_79 : decode cX8_plan 79 = .ok (.iload_n 3, 1) := by decide +kernel
theorem dX8_plan_80 : decode cX8_plan 80 = .ok (.iload 4, 2) := by decide +kernel
theorem dX8_plan_82 : decode cX8_plan 82 = .ok (.invokevirtual 46, 3) := by decide +kernel
theorem dX8_plan_85 : decode cX8_plan 85 = .ok (.lastore, 1) := by decide +kernel
theorem dX8_plan_86 : decode cX8_plan 86 = .ok (.iinc 4 1, 3) := by decide +kernel
theorem dX8_plan_89 : decode cX8_plan 89 = .ok (.goto (-35), 3) := by decide +kernel
theorem dX8_plan_92 : decode cX8_plan 92 = .ok (.iinc 3 (-1), 3) := by decide +kernel
theorem dX8_plan_95 : decode cX8_plan 95 = .ok (.goto (-48), 3) := by decide +kernel
theorem dX8_plan_98 : decode cX8_plan 98 = .ok (.iconst 0, 1) := by decide +kernel
theorem dX8_plan_99 : decode cX8_plan 99 = .ok (.istore_n 3, 1) := by decide +kernel
theorem dX8_plan_100 : decode cX8_plan 100 = .ok (.iconst 0, 1) := by decide +kernel
theorem dX8_plan_101 : decode cX8_plan 101 = .ok (.istore 4, 2) := by decide +kernel
theorem dX8_plan_103 : decode cX8_plan 103 = .ok (.iload 4, 2) := by decide +kernel
theorem dX8_plan_105 : decode cX8_plan 105 = .ok (.bipush 24, 2) := by decide +kernel
theorem dX8_plan_107 : decode cX8_plan 107 = .ok (.if_icmp .ge 47, 3) := by decide +kernel
theorem dX8_plan_110 : decode cX8_plan 110 = .ok (.aload_n 0, 1) := by decide +kernel
theorem dX8_plan_111 : decode cX8_plan 111 = .ok (.iload 4, 2) := by decide +kernel
theorem dX8_plan_113 : decode cX8_plan 113 = .ok (.iload_n 3, 1) := by decide +kernel
theorem dX8_plan_114 : decode cX8_plan 114 = .ok (.invokevirtual 50, 3) := by decide +kernel
theorem dX8_plan_117 : decode cX8_plan 117 = .ok (.istore 5, 2) := by decide +kernel
theorem dX8_plan_119 : decode cX8_plan 119 = .ok (.aload_n 0, 1) := by decide +kernel
theorem dX8_plan_120 : decode cX8_plan 120 = .ok (.getfield 15, 3) := by decide +kernel
theorem dX8_plan_123 : decode cX8_plan 123 = .ok (.iload 4, 2) := by decide +kernel
theorem dX8_plan_125 : decode cX8_plan 125 = .ok (.aload_n 0, 1) := by decide +kernel
theorem dX8_plan_126 : decode cX8_plan 126 = .ok (.getfield 19, 3) := by decide +kernel
theorem dX8_plan_129 : decode cX8_plan 129 = .ok (.iload 4, 2) := by decide +kernel
theorem dX8_plan_131 : decode cX8_plan 131 = .ok (.laload, 1) := by decide +kernel
theorem dX8_plan_132 : decode cX8_plan 132 = .ok (.iload 5, 2) := by decide +kernel
theorem dX8_plan_134 : decode cX8_plan 134 = .ok (.i2l, 1) := by decide +kernel
theorem dX8_plan_135 : decode cX8_plan 135 = .ok (.aload_n 0, 1) := by decide +kernel
theorem dX8_plan_136 : decode cX8_plan 136 = .ok (.getfield 9, 3) := by decide +kernel
theorem dX8_plan_139 : decode cX8_plan 139 = .ok (.i2l, 1) := by decide +kernel
theorem dX8_plan_140 : decode cX8_plan 140 = .ok (.lmul, 1) := by decide +kernel
theorem dX8_plan_141 : decode cX8_plan 141 = .ok (.ladd, 1) := by decide +kernel
theorem dX8_plan_142 : decode cX8_plan 142 = .ok (.lastore, 1) := by decide +kernel
theorem dX8_plan_143 : decode cX8_plan 143 = .ok (.iload_n 3, 1) := by decide +kernel
theorem dX8_plan_144 : decode cX8_plan 144 = .ok (.iload 5, 2) := by decide +kernel
theorem dX8_plan_146 : decode cX8_plan 146 = .ok (.iadd, 1) := by decide +kernel
theorem dX8_plan_147 : decode cX8_plan 147 = .ok (.istore_n 3, 1) := by decide +kernel
theorem dX8_plan_148 : decode cX8_plan 148 = .ok (.iinc 4 1, 3) := by decide +kernel
theorem dX8_plan_151 : decode cX8_plan 151 = .ok (.goto (-48), 3) := by decide +kernel
theorem dX8_plan_154 : decode cX8_plan 154 = .ok (.return_, 1) := by decide +kernel
theorem dX8_leastCost_0 : decode cX8_leastCost 0 = .ok (.aload_n 0, 1) := by decide +kernel
theorem dX8_leastCost_1 : decode cX8_leastCost 1 = .ok (.getfield 27, 3) := by decide +kernel
theorem dX8_leastCost_4 : decode cX8_leastCost 4 = .ok (.iconst 0, 1) := by decide +kernel
theorem dX8_leastCost_5 : decode cX8_leastCost 5 = .ok (.aaload, 1) := by decide +kernel
theorem dX8_leastCost_6 : decode cX8_leastCost 6 = .ok (.iconst 0, 1) := by decide +kernel
theorem dX8_leastCost_7 : decode cX8_leastCost 7 = .ok (.laload, 1) := by decide +kernel
theorem dX8_leastCost_8 : decode cX8_leastCost 8 = .ok (.lreturn, 1) := by decide +kernel
theorem dX8_leastFrom_0 : decode cX8_leastFrom 0 = .ok (.ldc2_w 54, 3) := by decide +kernel
theorem dX8_leastFrom_3 : decode cX8_leastFrom 3 = .ok (.lstore_n 3, 1) := by decide +kernel
theorem dX8_leastFrom_4 : decode cX8_leastFrom 4 = .ok (.bipush (-3), 2) := by decide +kernel
theorem dX8_leastFrom_6 : decode cX8_leastFrom 6 = .ok (.istore 5, 2) := by decide +kernel
theorem dX8_leastFrom_8 : decode cX8_leastFrom 8 = .ok (.iload 5, 2) := by decide +kernel
theorem dX8_leastFrom_10 : decode cX8_leastFrom 10 = .ok (.iconst 3, 1) := by decide +kernel
theorem dX8_leastFrom_11 : decode cX8_leastFrom 11 = .ok (.if_icmp .gt 22, 3) := by decide +kernel
theorem dX8_leastFrom_14 : decode cX8_leastFrom 14 = .ok (.lload_n 3, 1) := by decide +kernel
theorem dX8_leastFrom_15 : decode cX8_leastFrom 15 = .ok (.aload_n 0, 1) := by decide +kernel
theorem dX8_leastFrom_16 : decode cX8_leastFrom 16 = .ok (.iload_n 1, 1) := by decide +kernel
theorem dX8_leastFrom_17 : decode cX8_leastFrom 17 = .ok (.iload_n 2, 1) := by decide +kernel
theorem dX8_leastFrom_18 : decode cX8_leastFrom 18 = .ok (.iload 5, 2) := by decide +kernel
theorem dX8_leastFrom_20 : decode cX8_leastFrom 20 = .ok (.invokevirtual 56, 3) := by decide +kernel
theorem dX8_leastFrom_23 : decode cX8_leastFrom 23 = .ok (.invokestatic 60, 3) := by decide +kernel
theorem dX8_leastFrom_26 : decode cX8_leastFrom 26 = .ok (.lstore_n 3, 1) := by decide +kernel
theorem dX8_leastFrom_27 : decode cX8_leastFrom 27 = .ok (.iinc 5 1, 3) := by decide +kernel
theorem dX8_leastFrom_30 : decode cX8_leastFrom 30 = .ok (.goto (-22), 3) := by decide +kernel
theorem dX8_leastFrom_33 : decode cX8_leastFrom 33 = .ok (.lload_n 3, 1) := by decide +kernel
theorem dX8_leastFrom_34 : decode cX8_leastFrom 34 = .ok (.lreturn, 1) := by decide +kernel
theorem dX8_firstBest_0 : decode cX8_firstBest 0 = .ok (.aload_n 0, 1) := by decide +kernel
theorem dX8_firstBest_1 : decode cX8_firstBest 1 = .ok (.iload_n 1, 1) := by decide +kernel
theorem dX8_firstBest_2 : decode cX8_firstBest 2 = .ok (.iload_n 2, 1) := by decide +kernel
theorem dX8_firstBest_3 : decode cX8_firstBest 3 = .ok (.invokevirtual 46, 3) := by decide +kernel
theorem dX8_firstBest_6 : decode cX8_firstBest 6 = .ok (.lstore_n 3, 1) := by decide +kernel
theorem dX8_firstBest_7 : decode cX8_firstBest 7 = .ok (.bipush (-3), 2) := by decide +kernel
theorem dX8_firstBest_9 : decode cX8_firstBest 9 = .ok (.istore 5, 2) := by decide +kernel
theorem dX8_firstBest_11 : decode cX8_firstBest 11 = .ok (.iload 5, 2) := by decide +kernel
theorem dX8_firstBest_13 : decode cX8_firstBest 13 = .ok (.iconst 3, 1) := by decide +kernel
theorem dX8_firstBest_14 : decode cX8_firstBest 14 = .ok (.if_icmp .gt 25, 3) := by decide +kernel
theorem dX8_firstBest_17 : decode cX8_firstBest 17 = .ok (.aload_n 0, 1) := by decide +kernel
theorem dX8_firstBest_18 : decode cX8_firstBest 18 = .ok (.iload_n 1, 1) := by decide +kernel
theorem dX8_firstBest_19 : decode cX8_firstBest 19 = .ok (.iload_n 2, 1) := by decide +kernel
theorem dX8_firstBest_20 : decode cX8_firstBest 20 = .ok (.iload 5, 2) := by decide +kernel
theorem dX8_firstBest_22 : decode cX8_firstBest 22 = .ok (.invokevirtual 56, 3) := by decide +kernel
theorem dX8_firstBest_25 : decode cX8_firstBest 25 = .ok (.lload_n 3, 1) := by decide +kernel
theorem dX8_firstBest_26 : decode cX8_firstBest 26 = .ok (.lcmp, 1) := by decide +kernel
theorem dX8_firstBest_27 : decode cX8_firstBest 27 = .ok (.ifCond .ne 6, 3) := by decide +kernel
theorem dX8_firstBest_30 : decode cX8_firstBest 30 = .ok (.iload 5, 2) := by decide +kernel
theorem dX8_firstBest_32 : decode cX8_firstBest 32 = .ok (.ireturn, 1) := by decide +kernel
theorem dX8_firstBest_33 : decode cX8_firstBest 33 = .ok (.iinc 5 1, 3) := by decide +kernel
theorem dX8_firstBest_36 : decode cX8_firstBest 36 = .ok (.goto (-25), 3) := by decide +kernel
theorem dX8_firstBest_39 : decode cX8_firstBest 39 = .ok (.iconst 0, 1) := by decide +kernel
theorem dX8_firstBest_40 : decode cX8_firstBest 40 = .ok (.ireturn, 1) := by decide +kernel
theorem dX8_costOf_0 : decode cX8_costOf 0 = .ok (.iload_n 2, 1) := by decide +kernel
theorem dX8_costOf_1 : decode cX8_costOf 1 = .ok (.iload_n 3, 1) := by decide +kernel
theorem dX8_costOf_2 : decode cX8_costOf 2 = .ok (.iadd, 1) := by decide +kernel
theorem dX8_costOf_3 : decode cX8_costOf 3 = .ok (.istore 4, 2) := by decide +kernel
theorem dX8_costOf_5 : decode cX8_costOf 5 = .ok (.iload_n 1, 1) := by decide +kernel
theorem dX8_costOf_6 : decode cX8_costOf 6 = .ok (.ifCond .lt 30, 3) := by decide +kernel
theorem dX8_costOf_9 : decode cX8_costOf 9 = .ok (.iload_n 1, 1) := by decide +kernel
theorem dX8_costOf_10 : decode cX8_costOf 10 = .ok (.bipush 24, 2) := by decide +kernel
theorem dX8_costOf_12 : decode cX8_costOf 12 = .ok (.if_icmp .ge 24, 3) := by decide +kernel
theorem dX8_costOf_15 : decode cX8_costOf 15 = .ok (.iload 4, 2) := by decide +kernel
theorem dX8_costOf_17 : decode cX8_costOf 17 = .ok (.ifCond .lt 19, 3) := by decide +kernel
theorem dX8_costOf_20 : decode cX8_costOf 20 = .ok (.iload 4, 2) := by decide +kernel
theorem dX8_costOf_22 : decode cX8_costOf 22 = .ok (.aload_n 0, 1) := by decide +kernel
theorem dX8_costOf_23 : decode cX8_costOf 23 = .ok (.getfield 43, 3) := by decide +kernel
theorem dX8_costOf_26 : decode cX8_costOf 26 = .ok (.if_icmp .gt 10, 3) := by decide +kernel
theorem dX8_costOf_29 : decode cX8_costOf 29 = .ok (.iload 4, 2) := by decide +kernel
theorem dX8_costOf_31 : decode cX8_costOf 31 = .ok (.bipush 9, 2) := by decide +kernel
theorem dX8_costOf_33 : decode cX8_costOf 33 = .ok (.if_icmp .le 7, 3) := by decide +kernel
theorem dX8_costOf_36 : decode cX8_costOf 36 = .ok (.ldc2_w 54, 3) := by decide +kernel
theorem dX8_costOf_39 : decode cX8_costOf 39 = .ok (.lreturn, 1) := by decide +kernel
theorem dX8_costOf_40 : decode cX8_costOf 40 = .ok (.aload_n 0, 1) := by decide +kernel
theorem dX8_costOf_41 : decode cX8_costOf 41 = .ok (.getfield 19, 3) := by decide +kernel
theorem dX8_costOf_44 : decode cX8_costOf 44 = .ok (.iload_n 1, 1) := by decide +kernel
theorem dX8_costOf_45 : decode cX8_costOf 45 = .ok (.laload, 1) := by decide +kernel
theorem dX8_costOf_46 : decode cX8_costOf 46 = .ok (.iload_n 3, 1) := by decide +kernel
theorem dX8_costOf_47 : decode cX8_costOf 47 = .ok (.i2l, 1) := by decide +kernel
theorem dX8_costOf_48 : decode cX8_costOf 48 = .ok (.aload_n 0, 1) := by decide +kernel
theorem dX8_costOf_49 : decode cX8_costOf 49 = .ok (.getfield 9, 3) := by decide +kernel
theorem dX8_costOf_52 : decode cX8_costOf 52 = .ok (.i2l, 1) := by decide +kernel
theorem dX8_costOf_53 : decode cX8_costOf 53 = .ok (.lmul, 1) := by decide +kernel
theorem dX8_costOf_54 : decode cX8_costOf 54 = .ok (.ladd, 1) := by decide +kernel
theorem dX8_costOf_55 : decode cX8_costOf 55 = .ok (.lstore 5, 2) := by decide +kernel
theorem dX8_costOf_57 : decode cX8_costOf 57 = .ok (.lload 5, 2) := by decide +kernel
theorem dX8_costOf_59 : decode cX8_costOf 59 = .ok (.lconst 0, 1) := by decide +kernel
theorem dX8_costOf_60 : decode cX8_costOf 60 = .ok (.lcmp, 1) := by decide +kernel
theorem dX8_costOf_61 : decode cX8_costOf 61 = .ok (.ifCond .ge 9, 3) := by decide +kernel
theorem dX8_costOf_64 : decode cX8_costOf 64 = .ok (.ldc2_w 54, 3) := by decide +kernel
theorem dX8_costOf_67 : decode cX8_costOf 67 = .ok (.goto 28, 3) := by decide +kernel
theorem dX8_costOf_70 : decode cX8_costOf 70 = .ok (.lload 5, 2) := by decide +kernel
theorem dX8_costOf_72 : decode cX8_costOf 72 = .ok (.aload_n 0, 1) := by decide +kernel
theorem dX8_costOf_73 : decode cX8_costOf 73 = .ok (.getfield 22, 3) := by decide +kernel
theorem dX8_costOf_76 : decode cX8_costOf 76 = .ok (.iload_n 1, 1) := by decide +kernel
theorem dX8_costOf_77 : decode cX8_costOf 77 = .ok (.laload, 1) := by decide +kernel
theorem dX8_costOf_78 : decode cX8_costOf 78 = .ok (.lmul, 1) := by decide +kernel
theorem dX8_costOf_79 : decode cX8_costOf 79 = .ok (.ldc2_w 66, 3) := by decide +kernel
theorem dX8_costOf_82 : decode cX8_costOf 82 = .ok (.ldiv, 1) := by decide +kernel
theorem dX8_costOf_83 : decode cX8_costOf 83 = .ok (.aload_n 0, 1) := by decide +kernel
theorem dX8_costOf_84 : decode cX8_costOf 84 = .ok (.getfield 27, 3) := by decide +kernel
theorem dX8_costOf_87 : decode cX8_costOf 87 = .ok (.iload_n 1, 1) := by decide +kernel
theorem dX8_costOf_88 : decode cX8_costOf 88 = .ok (.iconst 1, 1) := by decide +kernel
theorem dX8_costOf_89 : decode cX8_costOf 89 = .ok (.iadd, 1) := by decide +kernel
theorem dX8_costOf_90 : decode cX8_costOf 90 = .ok (.aaload, 1) := by decide +kernel
theorem dX8_costOf_91 : decode cX8_costOf 91 = .ok (.iload 4, 2) := by decide +kernel
theorem dX8_costOf_93 : decode cX8_costOf 93 = .ok (.laload, 1) := by decide +kernel
theorem dX8_costOf_94 : decode cX8_costOf 94 = .ok (.ladd, 1) := by decide +kernel
theorem dX8_costOf_95 : decode cX8_costOf 95 = .ok (.lreturn, 1) := by decide +kernel
theorem dX9_init_0 : decode cX9_init 0 = .ok (.aload_n 0, 1) := by decide +kernel
theorem dX9_init_1 : decode cX9_init 1 = .ok (.invokespecial 3, 3) := by decide +kernel
theorem dX9_init_4 : decode cX9_init 4 = .ok (.aload_n 0, 1) := by decide +kernel
theorem dX9_init_5 : decode cX9_init 5 = .ok (.bipush 60, 2) := by decide +kernel
theorem dX9_init_7 : decode cX9_init 7 = .ok (.newarray .int, 2) := by decide +kernel
theorem dX9_init_9 : decode cX9_init 9 = .ok (.putfield 9, 3) := by decide +kernel
theorem dX9_init_12 : decode cX9_init 12 = .ok (.aload_n 0, 1) := by decide +kernel
theorem dX9_init_13 : decode cX9_init 13 = .ok (.bipush 60, 2) := by decide +kernel
theorem dX9_init_15 : decode cX9_init 15 = .ok (.newarray .int, 2) := by decide +kernel
theorem dX9_init_17 : decode cX9_init 17 = .ok (.putfield 15, 3) := by decide +kernel
theorem dX9_init_20 : decode cX9_init 20 = .ok (.return_, 1) := by decide +kernel
theorem dX9_put_0 : decode cX9_put 0 = .ok (.aload_n 0, 1) := by decide +kernel
theorem dX9_put_1 : decode cX9_put 1 = .ok (.getfield 18, 3) := by decide +kernel
theorem dX9_put_4 : decode cX9_put 4 = .ok (.ifCond .lt 35, 3) := by decide +kernel
theorem dX9_put_7 : decode cX9_put 7 = .ok (.aload_n 0, 1) := by decide +kernel
theorem dX9_put_8 : decode cX9_put 8 = .ok (.getfield 18, 3) := by decide +kernel
theorem dX9_put_11 : decode cX9_put 11 = .ok (.aload_n 0, 1) := by decide +kernel
theorem dX9_put_12 : decode cX9_put 12 = .ok (.getfield 9, 3) := by decide +kernel
theorem dX9_put_15 : decode cX9_put 15 = .ok (.arraylength, 1) := by decide +kernel
theorem dX9_put_16 : decode cX9_put 16 = .ok (.if_icmp .ge 23, 3) := by decide +kernel
theorem dX9_put_19 : decode cX9_put 19 = .ok (.aload_n 0, 1) := by decide +kernel
theorem dX9_put_20 : decode cX9_put 20 = .ok (.getfield 9, 3) := by decide +kernel
theorem dX9_put_23 : decode cX9_put 23 = .ok (.aload_n 0, 1) := by decide +kernel
theorem dX9_put_24 : decode cX9_put 24 = .ok (.getfield 18, 3) := by decide +kernel
theorem dX9_put_27 : decode cX9_put 27 = .ok (.iload_n 1, 1) := by decide +kernel
theorem dX9_put_28 : decode cX9_put 28 = .ok (.iastore, 1) := by decide +kernel
theorem dX9_put_29 : decode cX9_put 29 = .ok (.aload_n 0, 1) := by decide +kernel
theorem dX9_put_30 : decode cX9_put 30 = .ok (.dup, 1) := by decide +kernel
theorem dX9_put_31 : decode cX9_put 31 = .ok (.getfield 18, 3) := by decide +kernel
theorem dX9_put_34 : decode cX9_put 34 = .ok (.iconst 1, 1) := by decide +kernel
theorem dX9_put_35 : decode cX9_put 35 = .ok (.iadd, 1) := by decide +kernel
theorem dX9_put_36 : decode cX9_put 36 = .ok (.putfield 18, 3) := by decide +kernel
theorem dX9_put_39 : decode cX9_put 39 = .ok (.return_, 1) := by decide +kernel
theorem dX9_compile_0 : decode cX9_compile 0 = .ok (.aload_n 0, 1) := by decide +kernel
theorem dX9_compile_1 : decode cX9_compile 1 = .ok (.iconst 0, 1) := by decide +kernel
theorem dX9_compile_2 : decode cX9_compile 2 = .ok (.putfield 22, 3) := by decide +kernel
theorem dX9_compile_5 : decode cX9_compile 5 = .ok (.aload_n 0, 1) := by decide +kernel
theorem dX9_compile_6 : decode cX9_compile 6 = .ok (.iconst 0, 1) := by decide +kernel
theorem dX9_compile_7 : decode cX9_compile 7 = .ok (.putfield 25, 3) := by decide +kernel
theorem dX9_compile_10 : decode cX9_compile 10 = .ok (.aload_n 0, 1) := by decide +kernel
theorem dX9_compile_11 : decode cX9_compile 11 = .ok (.iconst (-1), 1) := by decide +kernel
theorem dX9_compile_12 : decode cX9_compile 12 = .ok (.putfield 28, 3) := by decide +kernel
theorem dX9_compile_15 : decode cX9_compile 15 = .ok (.aload_n 0, 1) := by decide +kernel
theorem dX9_compile_16 : decode cX9_compile 16 = .ok (.iconst 0, 1) := by decide +kernel
theorem dX9_compile_17 : decode cX9_compile 17 = .ok (.invokevirtual 31, 3) := by decide +kernel
theorem dX9_compile_20 : decode cX9_compile 20 = .ok (.aload_n 0, 1) := by decide +kernel
theorem dX9_compile_21 : decode cX9_compile 21 = .ok (.getfield 22, 3) := by decide +kernel
theorem dX9_compile_24 : decode cX9_compile 24 = .ok (.aload_n 0, 1) := by decide +kernel
theorem dX9_compile_25 : decode cX9_compile 25 = .ok (.getfield 18, 3) := by decide +kernel
theorem dX9_compile_28 : decode cX9_compile 28 = .ok (.if_icmp .ge 7, 3) := by decide +kernel
theorem dX9_compile_31 : decode cX9_compile 31 = .ok (.aload_n 0, 1) := by decide +kernel
theorem dX9_compile_32 : decode cX9_compile 32 = .ok (.invokevirtual 35, 3) := by decide +kernel
theorem dX9_compile_35 : decode cX9_compile 35 = .ok (.aload_n 0, 1) := by decide +kernel
theorem dX9_compile_36 : decode cX9_compile 36 = .ok (.getfield 28, 3) := by decide +kernel
theorem dX9_compile_39 : decode cX9_compile 39 = .ok (.ireturn, 1) := by decide +kernel
theorem dX9_readSum_0 : decode cX9_readSum 0 = .ok (.aload_n 0, 1) := by decide +kernel
theorem dX9_readSum_1 : decode cX9_readSum 1 = .ok (.iload_n 1, 1) := by decide +kernel
theorem dX9_readSum_2 : decode cX9_readSum 2 = .ok (.invokevirtual 38, 3) := by decide +kernel
theorem dX9_readSum_5 : decode cX9_readSum 5 = .ok (.iconst 0, 1) := by decide +kernel
theorem dX9_readSum_6 : decode cX9_readSum 6 = .ok (.istore_n 2, 1) := by decide +kernel
theorem dX9_readSum_7 : decode cX9_readSum 7 = .ok (.iload_n 2, 1) := by decide +kernel
theorem dX9_readSum_8 : decode cX9_readSum 8 = .ok (.bipush 60, 2) := by decide +kernel
theorem dX9_readSum_10 : decode cX9_readSum 10 = .ok (.if_icmp .ge 33, 3) := by decide +kernel
theorem dX9_readSum_13 : decode cX9_readSum 13 = .ok (.aload_n 0, 1) := by decide +kernel
theorem dX9_readSum_14 : decode cX9_readSum 14 = .ok (.ldc 41, 2) := by decide +kernel
theorem dX9_readSum_16 : decode cX9_readSum 16 = .ok (.invokevirtual 43, 3) := by decide +kernel
theorem dX9_readSum_19 : decode cX9_readSum 19 = .ok (.ifCond .eq 24, 3) := by decide +kernel
theorem dX9_readSum_22 : decode cX9_readSum 22 = .ok (.aload_n 0, 1) := by decide +kernel
theorem dX9_readSum_23 : decode cX9_readSum 23 = .ok (.invokevirtual 47, 3) := by decide +kernel
theorem dX9_readSum_26 : decode cX9_readSum 26 = .ok (.istore_n 3, 1) := by decide +kernel
theorem dX9_readSum_27 : decode cX9_readSum 27 = .ok (.aload_n 0, 1) := by decide +kernel
theorem dX9_readSum_28 : decode cX9_readSum 28 = .ok (.iload_n 1, 1) := by decide +kernel
theorem dX9_readSum_29 : decode cX9_readSum 29 = .ok (.invokevirtual 38, 3) := by decide +kernel
theorem dX9_readSum_32 : decode cX9_readSum 32 = .ok (.aload_n 0, 1) := by decide +kernel
theorem dX9_readSum_33 : decode cX9_readSum 33 = .ok (.iload_n 3, 1) := by decide +kernel
theorem dX9_readSum_34 : decode cX9_readSum 34 = .ok (.invokevirtual 51, 3) := by decide +kernel
theorem dX9_readSum_37 : decode cX9_readSum 37 = .ok (.iinc 2 1, 3) := by decide +kernel
theorem dX9_readSum_40 : decode cX9_readSum 40 = .ok (.goto (-33), 3) := by decide +kernel
theorem dX9_readSum_43 : decode cX9_readSum 43 = .ok (.return_, 1) := by decide +kernel
theorem dX9_readTerm_0 : decode cX9_readTerm 0 = .ok (.aload_n 0, 1) := by decide +kernel
theorem dX9_readTerm_1 : decode cX9_readTerm 1 = .ok (.iload_n 1, 1) := by decide +kernel
theorem dX9_readTerm_2 : decode cX9_readTerm 2 = .ok (.invokevirtual 54, 3) := by decide +kernel
theorem dX9_readTerm_5 : decode cX9_readTerm 5 = .ok (.iconst 0, 1) := by decide +kernel
theorem dX9_readTerm_6 : decode cX9_readTerm 6 = .ok (.istore_n 2, 1) := by decide +kernel
theorem dX9_readTerm_7 : decode cX9_readTerm 7 = .ok (.iload_n 2, 1) := by decide +kernel
theorem dX9_readTerm_8 : decode cX9_readTerm 8 = .ok (.bipush 60, 2) := by decide +kernel
theorem dX9_readTerm_10 : decode cX9_readTerm 10 = .ok (.if_icmp .ge 33, 3) := by decide +kernel
theorem dX9_readTerm_13 : decode cX9_readTerm 13 = .ok (.aload_n 0, 1) := by decide +kernel
theorem dX9_readTerm_14 : decode cX9_readTerm 14 = .ok (.ldc 57, 2) := by decide +kernel
theorem dX9_readTerm_16 : decode cX9_readTerm 16 = .ok (.invokevirtual 43, 3) := by decide +kernel
theorem dX9_readTerm_19 : decode cX9_readTerm 19 = .ok (.ifCond .eq 24, 3) := by decide +kernel
theorem dX9_readTerm_22 : decode cX9_readTerm 22 = .ok (.aload_n 0, 1) := by decide +kernel
theorem dX9_readTerm_23 : decode cX9_readTerm 23 = .ok (.invokevirtual 47, 3) := by decide +kernel
theorem dX9_readTerm_26 : decode cX9_readTerm 26 = .ok (.istore_n 3, 1) := by decide +kernel
theorem dX9_readTerm_27 : decode cX9_readTerm 27 = .ok (.aload_n 0, 1) := by decide +kernel
theorem dX9_readTerm_28 : decode cX9_readTerm 28 = .ok (.iload_n 1, 1) := by decide +kernel
theorem dX9_readTerm_29 : decode cX9_readTerm 29 = .ok (.invokevirtual 54, 3) := by decide +kernel
theorem dX9_readTerm_32 : decode cX9_readTerm 32 = .ok (.aload_n 0, 1) := by decide +kernel
theorem dX9_readTerm_33 : decode cX9_readTerm 33 = .ok (.iload_n 3, 1) := by decide +kernel
theorem dX9_readTerm_34 : decode cX9_readTerm 34 = .ok (.invokevirtual 51, 3) := by decide +kernel
theorem dX9_readTerm_37 : decode cX9_readTerm 37 = .ok (.iinc 2 1, 3) := by decide +kernel
theorem dX9_readTerm_40 : decode cX9_readTerm 40 = .ok (.goto (-33), 3) := by decide +kernel
theorem dX9_readTerm_43 : decode cX9_readTerm 43 = .ok (.return_, 1) := by decide +kernel
theorem dX9_readUnit_0 : decode cX9_readUnit 0 = .ok (.aload_n 0, 1) := by decide +kernel
theorem dX9_readUnit_1 : decode cX9_readUnit 1 = .ok (.invokevirtual 59, 3) := by decide +kernel
theorem dX9_readUnit_4 : decode cX9_readUnit 4 = .ok (.ifCond .eq 10, 3) := by decide +kernel
theorem dX9_readUnit_7 : decode cX9_readUnit 7 = .ok (.aload_n 0, 1) := by decide +kernel
theorem dX9_readUnit_8 : decode cX9_readUnit 8 = .ok (.invokevirtual 63, 3) := by decide +kernel
theorem dX9_readUnit_11 : decode cX9_readUnit 11 = .ok (.goto 79, 3) := by decide +kernel
theorem dX9_readUnit_14 : decode cX9_readUnit 14 = .ok (.aload_n 0, 1) := by decide +kernel
theorem dX9_readUnit_15 : decode cX9_readUnit 15 = .ok (.ldc 66, 2) := by decide +kernel
theorem dX9_readUnit_17 : decode cX9_readUnit 17 = .ok (.invokevirtual 43, 3) := by decide +kernel
theorem dX9_readUnit_20 : decode cX9_readUnit 20 = .ok (.ifCond .eq 32, 3) := by decide +kernel
theorem dX9_readUnit_23 : decode cX9_readUnit 23 = .ok (.aload_n 0, 1) := by decide +kernel
theorem dX9_readUnit_24 : decode cX9_readUnit 24 = .ok (.iconst (-1), 1) := by decide +kernel
theorem dX9_readUnit_25 : decode cX9_readUnit 25 = .ok (.ldc 66, 2) := by decide +kernel
theorem dX9_readUnit_27 : decode cX9_readUnit 27 = .ok (.aload_n 0, 1) := by decide +kernel
theorem dX9_readUnit_28 : decode cX9_readUnit 28 = .ok (.invokevirtual 68, 3) := by decide +kernel
theorem dX9_readUnit_31 : decode cX9_readUnit 31 = .ok (.i2c, 1) := by decide +kernel
theorem dX9_readUnit_32 : decode cX9_readUnit 32 = .ok (.invokevirtual 71, 3) := by decide +kernel
theorem dX9_readUnit_35 : decode cX9_readUnit 35 = .ok (.isub, 1) := by decide +kernel
theorem dX9_readUnit_36 : decode cX9_readUnit 36 = .ok (.invokevirtual 51, 3) := by decide +kernel
theorem dX9_readUnit_39 : decode cX9_readUnit 39 = .ok (.aload_n 0, 1) := by decide +kernel
theorem dX9_readUnit_40 : decode cX9_readUnit 40 = .ok (.dup, 1) := by decide +kernel
theorem dX9_readUnit_41 : decode cX9_readUnit 41 = .ok (.getfield 22, 3) := by decide +kernel
theorem dX9_readUnit_44 : decode cX9_readUnit 44 = .ok (.iconst 1, 1) := by decide +kernel
theorem dX9_readUnit_45 : decode cX9_readUnit 45 = .ok (.iadd, 1) := by decide +kernel
theorem dX9_readUnit_46 : decode cX9_readUnit 46 = .ok (.putfield 22, 3) := by decide +kernel
theorem dX9_readUnit_49 : decode cX9_readUnit 49 = .ok (.goto 41, 3) := by decide +kernel
theorem dX9_readUnit_52 : decode cX9_readUnit 52 = .ok (.aload_n 0, 1) := by decide +kernel
theorem dX9_readUnit_53 : decode cX9_readUnit 53 = .ok (.ldc 77, 2) := by decide +kernel
theorem dX9_readUnit_55 : decode cX9_readUnit 55 = .ok (.invokevirtual 43, 3) := by decide +kernel
theorem dX9_readUnit_58 : decode cX9_readUnit 58 = .ok (.ifCond .eq 28, 3) := by decide +kernel
theorem dX9_readUnit_61 : decode cX9_readUnit 61 = .ok (.iload_n 1, 1) := by decide +kernel
theorem dX9_readUnit_62 : decode cX9_readUnit 62 = .ok (.iconst 5, 1) := by decide +kernel
theorem dX9_readUnit_63 : decode cX9_readUnit 63 = .ok (.if_icmp .ge 23, 3) := by decide +kernel
theorem dX9_readUnit_66 : decode cX9_readUnit 66 = .ok (.aload_n 0, 1) := by decide +kernel
theorem dX9_readUnit_67 : decode cX9_readUnit 67 = .ok (.dup, 1) := by decide +kernel
theorem dX9_readUnit_68 : decode cX9_readUnit 68 = .ok (.getfield 22, 3) := by decide +kernel
theorem dX9_readUnit_71 : decode cX9_readUnit 71 = .ok (.iconst 1, 1) := by decide +kernel
theorem dX9_readUnit_72 : decode cX9_readUnit 72 = .ok (.iadd, 1) := by decide +kernel
theorem dX9_readUnit_73 : decode cX9_readUnit 73 = .ok (.putfield 22, 3) := by decide +kernel
theorem dX9_readUnit_76 : decode cX9_readUnit 76 = .ok (.aload_n 0, 1) := by decide +kernel
theorem dX9_readUnit_77 : decode cX9_readUnit 77 = .ok (.iload_n 1, 1) := by decide +kernel
theorem dX9_readUnit_78 : decode cX9_readUnit 78 = .ok (.iconst 1, 1) := by decide +kernel
theorem dX9_readUnit_79 : decode cX9_readUnit 79 = .ok (.iadd, 1) := by decide +kernel
theorem dX9_readUnit_80 : decode cX9_readUnit 80 = .ok (.invokevirtual 79, 3) := by decide +kernel
theorem dX9_readUnit_83 : decode cX9_readUnit 83 = .ok (.goto 7, 3) := by decide +kernel
theorem dX9_readUnit_86 : decode cX9_readUnit 86 = .ok (.aload_n 0, 1) := by decide +kernel
theorem dX9_readUnit_87 : decode cX9_readUnit 87 = .ok (.invokevirtual 35, 3) := by decide +kernel
theorem dX9_readUnit_90 : decode cX9_readUnit 90 = .ok (.return_, 1) := by decide +kernel
theorem dX9_readBracket_0 : decode cX9_readBracket 0 = .ok (.aload_n 0, 1) := by decide +kernel
theorem dX9_readBracket_1 : decode cX9_readBracket 1 = .ok (.iload_n 1, 1) := by decide +kernel
theorem dX9_readBracket_2 : decode cX9_readBracket 2 = .ok (.invokevirtual 31, 3) := by decide +kernel
theorem dX9_readBracket_5 : decode cX9_readBracket 5 = .ok (.aload_n 0, 1) := by decide +kernel
theorem dX9_readBracket_6 : decode cX9_readBracket 6 = .ok (.ldc 82, 2) := by decide +kernel
theorem dX9_readBracket_8 : decode cX9_readBracket 8 = .ok (.invokevirtual 43, 3) := by decide +kernel
theorem dX9_readBracket_11 : decode cX9_readBracket 11 = .ok (.ifCond .eq 18, 3) := by decide +kernel
theorem dX9_readBracket_14 : decode cX9_readBracket 14 = .ok (.aload_n 0, 1) := by decide +kernel
theorem dX9_readBracket_15 : decode cX9_readBracket 15 = .ok (.invokevirtual 47, 3) := by decide +kernel
theorem dX9_readBracket_18 : decode cX9_readBracket 18 = .ok (.istore_n 2, 1) := by decide +kernel
theorem dX9_readBracket_19 : decode cX9_readBracket 19 = .ok (.aload_n 0, 1) := by decide +kernel
theorem dX9_readBracket_20 : decode cX9_readBracket 20 = .ok (.iload_n 1, 1) := by decide +kernel
theorem dX9_readBracket_21 : decode cX9_readBracket 21 = .ok (.invokevirtual 31, 3) := by decide +kernel
theorem dX9_readBracket_24 : decode cX9_readBracket 24 = .ok (.aload_n 0, 1) := by decide +kernel
theorem dX9_readBracket_25 : decode cX9_readBracket 25 = .ok (.iload_n 2, 1) := by decide +kernel
theorem dX9_readBracket_26 : decode cX9_readBracket 26 = .ok (.invokevirtual 51, 3) := by decide +kernel
theorem dX9_readBracket_29 : decode cX9_readBracket 29 = .ok (.aload_n 0, 1) := by decide +kernel
theorem dX9_readBracket_30 : decode cX9_readBracket 30 = .ok (.ldc 84, 2) := by decide +kernel
theorem dX9_readBracket_32 : decode cX9_readBracket 32 = .ok (.invokevirtual 43, 3) := by decide +kernel
theorem dX9_readBracket_35 : decode cX9_readBracket 35 = .ok (.ifCond .eq 16, 3) := by decide +kernel
theorem dX9_readBracket_38 : decode cX9_readBracket 38 = .ok (.aload_n 0, 1) := by decide +kernel
theorem dX9_readBracket_39 : decode cX9_readBracket 39 = .ok (.dup, 1) := by decide +kernel
theorem dX9_readBracket_40 : decode cX9_readBracket 40 = .ok (.getfield 22, 3) := by decide +kernel
theorem dX9_readBracket_43 : decode cX9_readBracket 43 = .ok (.iconst 1, 1) := by decide +kernel
theorem dX9_readBracket_44 : decode cX9_readBracket 44 = .ok (.iadd, 1) := by decide +kernel
theorem dX9_readBracket_45 : decode cX9_readBracket 45 = .ok (.putfield 22, 3) := by decide +kernel
theorem dX9_readBracket_48 : decode cX9_readBracket 48 = .ok (.goto 7, 3) := by decide +kernel
theorem dX9_readBracket_51 : decode cX9_readBracket 51 = .ok (.aload_n 0, 1) := by decide +kernel
theorem dX9_readBracket_52 : decode cX9_readBracket 52 = .ok (.invokevirtual 35, 3) := by decide +kernel
theorem dX9_readBracket_55 : decode cX9_readBracket 55 = .ok (.return_, 1) := by decide +kernel
theorem dX9_readNumber_0 : decode cX9_readNumber 0 = .ok (.iconst 0, 1) := by decide +kernel
theorem dX9_readNumber_1 : decode cX9_readNumber 1 = .ok (.istore_n 1, 1) := by decide +kernel
theorem dX9_readNumber_2 : decode cX9_readNumber 2 = .ok (.iconst 0, 1) := by decide +kernel
theorem dX9_readNumber_3 : decode cX9_readNumber 3 = .ok (.istore_n 2, 1) := by decide +kernel
theorem dX9_readNumber_4 : decode cX9_readNumber 4 = .ok (.iload_n 2, 1) := by decide +kernel
theorem dX9_readNumber_5 : decode cX9_readNumber 5 = .ok (.iconst 5, 1) := by decide +kernel
theorem dX9_readNumber_6 : decode cX9_readNumber 6 = .ok (.if_icmp .ge 39, 3) := by decide +kernel
theorem dX9_readNumber_9 : decode cX9_readNumber 9 = .ok (.aload_n 0, 1) := by decide +kernel
theorem dX9_readNumber_10 : decode cX9_readNumber 10 = .ok (.invokevirtual 59, 3) := by decide +kernel
theorem dX9_readNumber_13 : decode cX9_readNumber 13 = .ok (.ifCond .eq 32, 3) := by decide +kernel
theorem dX9_readNumber_16 : decode cX9_readNumber 16 = .ok (.bipush 10, 2) := by decide +kernel
theorem dX9_readNumber_18 : decode cX9_readNumber 18 = .ok (.iload_n 1, 1) := by decide +kernel
theorem dX9_readNumber_19 : decode cX9_readNumber 19 = .ok (.imul, 1) := by decide +kernel
theorem dX9_readNumber_20 : decode cX9_readNumber 20 = .ok (.aload_n 0, 1) := by decide +kernel
theorem dX9_readNumber_21 : decode cX9_readNumber 21 = .ok (.invokevirtual 68, 3) := by decide +kernel
theorem dX9_readNumber_24 : decode cX9_readNumber 24 = .ok (.iadd, 1) := by decide +kernel
theorem dX9_readNumber_25 : decode cX9_readNumber 25 = .ok (.bipush 48, 2) := by decide +kernel
theorem dX9_readNumber_27 : decode cX9_readNumber 27 = .ok (.isub, 1) := by decide +kernel
theorem dX9_readNumber_28 : decode cX9_readNumber 28 = .ok (.istore_n 1, 1) := by decide +kernel
theorem dX9_readNumber_29 : decode cX9_readNumber 29 = .ok (.aload_n 0, 1) := by decide +kernel
theorem dX9_readNumber_30 : decode cX9_readNumber 30 = .ok (.dup, 1) := by decide +kernel
theorem dX9_readNumber_31 : decode cX9_readNumber 31 = .ok (.getfield 22, 3) := by decide +kernel
theorem dX9_readNumber_34 : decode cX9_readNumber 34 = .ok (.iconst 1, 1) := by decide +kernel
theorem dX9_readNumber_35 : decode cX9_readNumber 35 = .ok (.iadd, 1) := by decide +kernel
theorem dX9_readNumber_36 : decode cX9_readNumber 36 = .ok (.putfield 22, 3) := by decide +kernel
theorem dX9_readNumber_39 : decode cX9_readNumber 39 = .ok (.iinc 2 1, 3) := by decide +kernel
theorem dX9_readNumber_42 : decode cX9_readNumber 42 = .ok (.goto (-38), 3) := by decide +kernel
theorem dX9_readNumber_45 : decode cX9_readNumber 45 = .ok (.aload_n 0, 1) := by decide +kernel
theorem dX9_readNumber_46 : decode cX9_readNumber 46 = .ok (.iload_n 1, 1) := by decide +kernel
theorem dX9_readNumber_47 : decode cX9_readNumber 47 = .ok (.invokevirtual 51, 3) := by decide +kernel
theorem dX9_readNumber_50 : decode cX9_readNumber 50 = .ok (.return_, 1) := by decide +kernel
theorem dX9_takeOperator_0 : decode cX9_takeOperator 0 = .ok (.bipush (-10), 2) := by decide +kernel
theorem dX9_takeOperator_2 : decode cX9_takeOperator 2 = .ok (.ldc 86, 2) := by decide +kernel
theorem dX9_takeOperator_4 : decode cX9_takeOperator 4 = .ok (.aload_n 0, 1) := by decide +kernel
theorem dX9_takeOperator_5 : decode cX9_takeOperator 5 = .ok (.invokevirtual 68, 3) := by decide +kernel
theorem dX9_takeOperator_8 : decode cX9_takeOperator 8 = .ok (.i2c, 1) := by decide +kernel
theorem dX9_takeOperator_9 : decode cX9_takeOperator 9 = .ok (.invokevirtual 71, 3) := by decide +kernel
theorem dX9_takeOperator_12 : decode cX9_takeOperator 12 = .ok (.isub, 1) := by decide +kernel
theorem dX9_takeOperator_13 : decode cX9_takeOperator 13 = .ok (.istore_n 1, 1) := by decide +kernel
theorem dX9_takeOperator_14 : decode cX9_takeOperator 14 = .ok (.aload_n 0, 1) := by decide +kernel
theorem dX9_takeOperator_15 : decode cX9_takeOperator 15 = .ok (.dup, 1) := by decide +kernel
theorem dX9_takeOperator_16 : decode cX9_takeOperator 16 = .ok (.getfield 22, 3) := by decide +kernel
theorem dX9_takeOperator_19 : decode cX9_takeOperator 19 = .ok (.iconst 1, 1) := by decide +kernel
theorem dX9_takeOperator_20 : decode cX9_takeOperator 20 = .ok (.iadd, 1) := by decide +kernel
theorem dX9_takeOperator_21 : decode cX9_takeOperator 21 = .ok (.putfield 22, 3) := by decide +kernel
theorem dX9_takeOperator_24 : decode cX9_takeOperator 24 = .ok (.iload_n 1, 1) := by decide +kernel
theorem dX9_takeOperator_25 : decode cX9_takeOperator 25 = .ok (.ireturn, 1) := by decide +kernel
theorem dX9_seen_0 : decode cX9_seen 0 = .ok (.aload_n 0, 1) := by decide +kernel
theorem dX9_seen_1 : decode cX9_seen 1 = .ok (.getfield 28, 3) := by decide +kernel
theorem dX9_seen_4 : decode cX9_seen 4 = .ok (.iconst (-1), 1) := by decide +kernel
theorem dX9_seen_5 : decode cX9_seen 5 = .ok (.if_icmp .ne 37, 3) := by decide +kernel
theorem dX9_seen_8 : decode cX9_seen 8 = .ok (.aload_n 0, 1) := by decide +kernel
theorem dX9_seen_9 : decode cX9_seen 9 = .ok (.getfield 22, 3) := by decide +kernel
theorem dX9_seen_12 : decode cX9_seen 12 = .ok (.ifCond .lt 30, 3) := by decide +kernel
theorem dX9_seen_15 : decode cX9_seen 15 = .ok (.aload_n 0, 1) := by decide +kernel
theorem dX9_seen_16 : decode cX9_seen 16 = .ok (.getfield 22, 3) := by decide +kernel
theorem dX9_seen_19 : decode cX9_seen 19 = .ok (.aload_n 0, 1) := by decide +kernel
theorem dX9_seen_20 : decode cX9_seen 20 = .ok (.getfield 18, 3) := by decide +kernel
theorem dX9_seen_23 : decode cX9_seen 23 = .ok (.if_icmp .ge 19, 3) := by decide +kernel
theorem dX9_seen_26 : decode cX9_seen 26 = .ok (.aload_n 0, 1) := by decide +kernel
theorem dX9_seen_27 : decode cX9_seen 27 = .ok (.getfield 22, 3) := by decide +kernel
theorem dX9_seen_30 : decode cX9_seen 30 = .ok (.aload_n 0, 1) := by decide +kernel
theorem dX9_seen_31 : decode cX9_seen 31 = .ok (.getfield 9, 3) := by decide +kernel
theorem dX9_seen_34 : decode cX9_seen 34 = .ok (.arraylength, 1) := by decide +kernel
theorem dX9_seen_35 : decode cX9_seen 35 = .ok (.if_icmp .ge 7, 3) := by decide +kernel
theorem dX9_seen_38 : decode cX9_seen 38 = .ok (.iconst 1, 1) := by decide +kernel
theorem dX9_seen_39 : decode cX9_seen 39 = .ok (.goto 4, 3) := by decide +kernel
theorem dX9_seen_42 : decode cX9_seen 42 = .ok (.iconst 0, 1) := by decide +kernel
theorem dX9_seen_43 : decode cX9_seen 43 = .ok (.istore_n 1, 1) := by decide +kernel
theorem dX9_seen_44 : decode cX9_seen 44 = .ok (.iload_n 1, 1) := by decide +kernel
theorem dX9_seen_45 : decode cX9_seen 45 = .ok (.ifCond .eq 15, 3) := by decide +kernel
theorem dX9_seen_48 : decode cX9_seen 48 = .ok (.aload_n 0, 1) := by decide +kernel
theorem dX9_seen_49 : decode cX9_seen 49 = .ok (.getfield 9, 3) := by decide +kernel
theorem dX9_seen_52 : decode cX9_seen 52 = .ok (.aload_n 0, 1) := by decide +kernel
theorem dX9_seen_53 : decode cX9_seen 53 = .ok (.getfield 22, 3) := by decide +kernel
theorem dX9_seen_56 : decode cX9_seen 56 = .ok (.iaload, 1) := by decide +kernel
theorem dX9_seen_57 : decode cX9_seen 57 = .ok (.goto 4, 3) := by decide +kernel
theorem dX9_seen_60 : decode cX9_seen 60 = .ok (.iconst (-1), 1) := by decide +kernel
theorem dX9_seen_61 : decode cX9_seen 61 = .ok (.ireturn, 1) := by decide +kernel
theorem dX9_isAt_0 : decode cX9_isAt 0 = .ok (.aload_n 0, 1) := by decide +kernel
theorem dX9_isAt_1 : decode cX9_isAt 1 = .ok (.invokevirtual 68, 3) := by decide +kernel
