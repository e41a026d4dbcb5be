theorem dX11_init_0 : decode cX11_init 0 = .ok (.aload_n 0, 1) := by decide +kernel
theorem dX11_init_1 : decode cX11_init 1 = .ok (.invokespecial 1, 3) := by decide +kernel
theorem dX11_init_4 : decode cX11_init 4 = .ok (.aload_n 0, 1) := by decide +kernel
theorem dX11_init_5 : decode cX11_init 5 = .ok (.new 7, 3) := by decide +kernel
theorem dX11_init_8 : decode cX11_init 8 = .ok (.dup, 1) := by decide +kernel
theorem dX11_init_9 : decode cX11_init 9 = .ok (.invokespecial 9, 3) := by decide +kernel
theorem dX11_init_12 : decode cX11_init 12 = .ok (.putfield 10, 3) := by decide +kernel
theorem dX11_init_15 : decode cX11_init 15 = .ok (.aload_n 0, 1) := by decide +kernel
theorem dX11_init_16 : decode cX11_init 16 = .ok (.new 16, 3) := by decide +kernel
theorem dX11_init_19 : decode cX11_init 19 = .ok (.dup, 1) := by decide +kernel
theorem dX11_init_20 : decode cX11_init 20 = .ok (.invokespecial 18, 3) := by decide +kernel
theorem dX11_init_23 : decode cX11_init 23 = .ok (.putfield 19, 3) := by decide +kernel
theorem dX11_init_26 : decode cX11_init 26 = .ok (.aload_n 0, 1) := by decide +kernel
theorem dX11_init_27 : decode cX11_init 27 = .ok (.new 23, 3) := by decide +kernel
theorem dX11_init_30 : decode cX11_init 30 = .ok (.dup, 1) := by decide +kernel
theorem dX11_init_31 : decode cX11_init 31 = .ok (.invokespecial 25, 3) := by decide +kernel
theorem dX11_init_34 : decode cX11_init 34 = .ok (.putfield 26, 3) := by decide +kernel
theorem dX11_init_37 : decode cX11_init 37 = .ok (.aload_n 0, 1) := by decide +kernel
theorem dX11_init_38 : decode cX11_init 38 = .ok (.new 30, 3) := by decide +kernel
theorem dX11_init_41 : decode cX11_init 41 = .ok (.dup, 1) := by decide +kernel
theorem dX11_init_42 : decode cX11_init 42 = .ok (.invokespecial 32, 3) := by decide +kernel
theorem dX11_init_45 : decode cX11_init 45 = .ok (.putfield 33, 3) := by decide +kernel
theorem dX11_init_48 : decode cX11_init 48 = .ok (.aload_n 0, 1) := by decide +kernel
theorem dX11_init_49 : decode cX11_init 49 = .ok (.new 37, 3) := by decide +kernel
theorem dX11_init_52 : decode cX11_init 52 = .ok (.dup, 1) := by decide +kernel
theorem dX11_init_53 : decode cX11_init 53 = .ok (.invokespecial 39, 3) := by decide +kernel
theorem dX11_init_56 : decode cX11_init 56 = .ok (.putfield 40, 3) := by decide +kernel
theorem dX11_init_59 : decode cX11_init 59 = .ok (.aload_n 0, 1) := by decide +kernel
theorem dX11_init_60 : decode cX11_init 60 = .ok (.new 44, 3) := by decide +kernel
theorem dX11_init_63 : decode cX11_init 63 = .ok (.dup, 1) := by decide +kernel
theorem dX11_init_64 : decode cX11_init 64 = .ok (.aload_n 0, 1) := by decide +kernel
theorem dX11_init_65 : decode cX11_init 65 = .ok (.getfield 10, 3) := by decide +kernel
theorem dX11_init_68 : decode cX11_init 68 = .ok (.aload_n 0, 1) := by decide +kernel
theorem dX11_init_69 : decode cX11_init 69 = .ok (.getfield 19, 3) := by decide +kernel
theorem dX11_init_72 : decode cX11_init 72 = .ok (.aload_n 0, 1) := by decide +kernel
theorem dX11_init_73 : decode cX11_init 73 = .ok (.getfield 26, 3) := by decide +kernel
theorem dX11_init_76 : decode cX11_init 76 = .ok (.invokespecial 46, 3) := by decide +kernel
theorem dX11_init_79 : decode cX11_init 79 = .ok (.putfield 49, 3) := by decide +kernel
theorem dX11_init_82 : decode cX11_init 82 = .ok (.aload_n 0, 1) := by decide +kernel
theorem dX11_init_83 : decode cX11_init 83 = .ok (.new 44, 3) := by decide +kernel
theorem dX11_init_86 : decode cX11_init 86 = .ok (.dup, 1) := by decide +kernel
theorem dX11_init_87 : decode cX11_init 87 = .ok (.aload_n 0, 1) := by decide +kernel
theorem dX11_init_88 : decode cX11_init 88 = .ok (.getfield 10, 3) := by decide +kernel
theorem dX11_init_91 : decode cX11_init 91 = .ok (.aload_n 0, 1) := by decide +kernel
theorem dX11_init_92 : decode cX11_init 92 = .ok (.getfield 19, 3) := by decide +kernel
theorem dX11_init_95 : decode cX11_init 95 = .ok (.aload_n 0, 1) := by decide +kernel
theorem dX11_init_96 : decode cX11_init 96 = .ok (.getfield 26, 3) := by decide +kernel
theorem dX11_init_99 : decode cX11_init 99 = .ok (.invokespecial 46, 3) := by decide +kernel
theorem dX11_init_102 : decode cX11_init 102 = .ok (.putfield 53, 3) := by decide +kernel
theorem dX11_init_105 : decode cX11_init 105 = .ok (.aload_n 0, 1) := by decide +kernel
theorem dX11_init_106 : decode cX11_init 106 = .ok (.new 56, 3) := by decide +kernel
theorem dX11_init_109 : decode cX11_init 109 = .ok (.dup, 1) := by decide +kernel
theorem dX11_init_110 : decode cX11_init 110 = .ok (.invokespecial 58, 3) := by decide +kernel
theorem dX11_init_113 : decode cX11_init 113 = .ok (.putfield 59, 3) := by decide +kernel
theorem dX11_init_116 : decode cX11_init 116 = .ok (.aload_n 0, 1) := by decide +kernel
theorem dX11_init_117 : decode cX11_init 117 = .ok (.bipush 7, 2) := by decide +kernel
theorem dX11_init_119 : decode cX11_init 119 = .ok (.newarray .int, 2) := by decide +kernel
theorem dX11_init_121 : decode cX11_init 121 = .ok (.putfield 63, 3) := by decide +kernel
theorem dX11_init_124 : decode cX11_init 124 = .ok (.return_, 1) := by decide +kernel
theorem dX11_hours_0 : decode cX11_hours 0 = .ok (.iload_n 1, 1) := by decide +kernel
theorem dX11_hours_1 : decode cX11_hours 1 = .ok (.iconst 1, 1) := by decide +kernel
theorem dX11_hours_2 : decode cX11_hours 2 = .ok (.sipush 8000, 3) := by decide +kernel
theorem dX11_hours_5 : decode cX11_hours 5 = .ok (.aload_n 0, 1) := by decide +kernel
theorem dX11_hours_6 : decode cX11_hours 6 = .ok (.getfield 49, 3) := by decide +kernel
theorem dX11_hours_9 : decode cX11_hours 9 = .ok (.getfield 67, 3) := by decide +kernel
theorem dX11_hours_12 : decode cX11_hours 12 = .ok (.isub, 1) := by decide +kernel
theorem dX11_hours_13 : decode cX11_hours 13 = .ok (.invokestatic 71, 3) := by decide +kernel
theorem dX11_hours_16 : decode cX11_hours 16 = .ok (.istore_n 2, 1) := by decide +kernel
theorem dX11_hours_17 : decode cX11_hours 17 = .ok (.iload_n 2, 1) := by decide +kernel
theorem dX11_hours_18 : decode cX11_hours 18 = .ok (.ifCond .eq 9, 3) := by decide +kernel
theorem dX11_hours_21 : decode cX11_hours 21 = .ok (.aload_n 0, 1) := by decide +kernel
theorem dX11_hours_22 : decode cX11_hours 22 = .ok (.iload_n 2, 1) := by decide +kernel
theorem dX11_hours_23 : decode cX11_hours 23 = .ok (.invokevirtual 75, 3) := by decide +kernel
theorem dX11_hours_26 : decode cX11_hours 26 = .ok (.ireturn, 1) := by decide +kernel
theorem dX11_hours_27 : decode cX11_hours 27 = .ok (.iconst 0, 1) := by decide +kernel
theorem dX11_hours_28 : decode cX11_hours 28 = .ok (.istore_n 3, 1) := by decide +kernel
theorem dX11_hours_29 : decode cX11_hours 29 = .ok (.iload_n 3, 1) := by decide +kernel
theorem dX11_hours_30 : decode cX11_hours 30 = .ok (.iload_n 1, 1) := by decide +kernel
theorem dX11_hours_31 : decode cX11_hours 31 = .ok (.if_icmp .ge 16, 3) := by decide +kernel
theorem dX11_hours_34 : decode cX11_hours 34 = .ok (.aload_n 0, 1) := by decide +kernel
theorem dX11_hours_35 : decode cX11_hours 35 = .ok (.getfield 49, 3) := by decide +kernel
theorem dX11_hours_38 : decode cX11_hours 38 = .ok (.invokevirtual 79, 3) := by decide +kernel
theorem dX11_hours_41 : decode cX11_hours 41 = .ok (.iinc 3 1, 3) := by decide +kernel
theorem dX11_hours_44 : decode cX11_hours 44 = .ok (.goto (-15), 3) := by decide +kernel
theorem dX11_hours_47 : decode cX11_hours 47 = .ok (.aload_n 0, 1) := by decide +kernel
theorem dX11_hours_48 : decode cX11_hours 48 = .ok (.getfield 49, 3) := by decide +kernel
theorem dX11_hours_51 : decode cX11_hours 51 = .ok (.getfield 67, 3) := by decide +kernel
theorem dX11_hours_54 : decode cX11_hours 54 = .ok (.ireturn, 1) := by decide +kernel
theorem dX11_bore_0 : decode cX11_bore 0 = .ok (.iload_n 1, 1) := by decide +kernel
theorem dX11_bore_1 : decode cX11_bore 1 = .ok (.ifCond .lt 24, 3) := by decide +kernel
theorem dX11_bore_4 : decode cX11_bore 4 = .ok (.iload_n 2, 1) := by decide +kernel
theorem dX11_bore_5 : decode cX11_bore 5 = .ok (.iconst 1, 1) := by decide +kernel
theorem dX11_bore_6 : decode cX11_bore 6 = .ok (.if_icmp .lt 19, 3) := by decide +kernel
theorem dX11_bore_9 : decode cX11_bore 9 = .ok (.iload_n 3, 1) := by decide +kernel
theorem dX11_bore_10 : decode cX11_bore 10 = .ok (.bipush 100, 2) := by decide +kernel
theorem dX11_bore_12 : decode cX11_bore 12 = .ok (.if_icmp .lt 13, 3) := by decide +kernel
theorem dX11_bore_15 : decode cX11_bore 15 = .ok (.iload 4, 2) := by decide +kernel
theorem dX11_bore_17 : decode cX11_bore 17 = .ok (.ifCond .lt 8, 3) := by decide +kernel
theorem dX11_bore_20 : decode cX11_bore 20 = .ok (.iload 5, 2) := by decide +kernel
theorem dX11_bore_22 : decode cX11_bore 22 = .ok (.ifCond .ge 10, 3) := by decide +kernel
theorem dX11_bore_25 : decode cX11_bore 25 = .ok (.aload_n 0, 1) := by decide +kernel
theorem dX11_bore_26 : decode cX11_bore 26 = .ok (.bipush (-4), 2) := by decide +kernel
theorem dX11_bore_28 : decode cX11_bore 28 = .ok (.invokevirtual 75, 3) := by decide +kernel
theorem dX11_bore_31 : decode cX11_bore 31 = .ok (.ireturn, 1) := by decide +kernel
theorem dX11_bore_32 : decode cX11_bore 32 = .ok (.aload_n 0, 1) := by decide +kernel
theorem dX11_bore_33 : decode cX11_bore 33 = .ok (.getfield 49, 3) := by decide +kernel
theorem dX11_bore_36 : decode cX11_bore 36 = .ok (.getfield 82, 3) := by decide +kernel
theorem dX11_bore_39 : decode cX11_bore 39 = .ok (.invokevirtual 85, 3) := by decide +kernel
theorem dX11_bore_42 : decode cX11_bore 42 = .ok (.istore 6, 2) := by decide +kernel
theorem dX11_bore_44 : decode cX11_bore 44 = .ok (.iload_n 1, 1) := by decide +kernel
theorem dX11_bore_45 : decode cX11_bore 45 = .ok (.sipush 9999, 3) := by decide +kernel
theorem dX11_bore_48 : decode cX11_bore 48 = .ok (.if_icmp .gt 38, 3) := by decide +kernel
theorem dX11_bore_51 : decode cX11_bore 51 = .ok (.iload_n 2, 1) := by decide +kernel
theorem dX11_bore_52 : decode cX11_bore 52 = .ok (.bipush 8, 2) := by decide +kernel
theorem dX11_bore_54 : decode cX11_bore 54 = .ok (.if_icmp .gt 32, 3) := by decide +kernel
theorem dX11_bore_57 : decode cX11_bore 57 = .ok (.iload_n 3, 1) := by decide +kernel
theorem dX11_bore_58 : decode cX11_bore 58 = .ok (.sipush 9999, 3) := by decide +kernel
theorem dX11_bore_61 : decode cX11_bore 61 = .ok (.if_icmp .gt 25, 3) := by decide +kernel
theorem dX11_bore_64 : decode cX11_bore 64 = .ok (.iload 4, 2) := by decide +kernel
theorem dX11_bore_66 : decode cX11_bore 66 = .ok (.sipush 999, 3) := by decide +kernel
theorem dX11_bore_69 : decode cX11_bore 69 = .ok (.if_icmp .gt 17, 3) := by decide +kernel
theorem dX11_bore_72 : decode cX11_bore 72 = .ok (.iload 5, 2) := by decide +kernel
theorem dX11_bore_74 : decode cX11_bore 74 = .ok (.bipush 99, 2) := by decide +kernel
theorem dX11_bore_76 : decode cX11_bore 76 = .ok (.if_icmp .gt 10, 3) := by decide +kernel
theorem dX11_bore_79 : decode cX11_bore 79 = .ok (.iload 6, 2) := by decide +kernel
theorem dX11_bore_81 : decode cX11_bore 81 = .ok (.bipush 8, 2) := by decide +kernel
theorem dX11_bore_83 : decode cX11_bore 83 = .ok (.if_icmp .lt 10, 3) := by decide +kernel
theorem dX11_bore_86 : decode cX11_bore 86 = .ok (.aload_n 0, 1) := by decide +kernel
theorem dX11_bore_87 : decode cX11_bore 87 = .ok (.bipush (-6), 2) := by decide +kernel
theorem dX11_bore_89 : decode cX11_bore 89 = .ok (.invokevirtual 75, 3) := by decide +kernel
theorem dX11_bore_92 : decode cX11_bore 92 = .ok (.ireturn, 1) := by decide +kernel
theorem dX11_bore_93 : decode cX11_bore 93 = .ok (.aload_n 0, 1) := by decide +kernel
theorem dX11_bore_94 : decode cX11_bore 94 = .ok (.getfield 49, 3) := by decide +kernel
theorem dX11_bore_97 : decode cX11_bore 97 = .ok (.getfield 82, 3) := by decide +kernel
theorem dX11_bore_100 : decode cX11_bore 100 = .ok (.new 89, 3) := by decide +kernel
theorem dX11_bore_103 : decode cX11_bore 103 = .ok (.dup, 1) := by decide +kernel
theorem dX11_bore_104 : decode cX11_bore 104 = .ok (.iload 6, 2) := by decide +kernel
theorem dX11_bore_106 : decode cX11_bore 106 = .ok (.iload_n 1, 1) := by decide +kernel
theorem dX11_bore_107 : decode cX11_bore 107 = .ok (.iload_n 2, 1) := by decide +kernel
theorem dX11_bore_108 : decode cX11_bore 108 = .ok (.iload_n 3, 1) := by decide +kernel
theorem dX11_bore_109 : decode cX11_bore 109 = .ok (.iload 4, 2) := by decide +kernel
theorem dX11_bore_111 : decode cX11_bore 111 = .ok (.iload 5, 2) := by decide +kernel
theorem dX11_bore_113 : decode cX11_bore 113 = .ok (.invokespecial 91, 3) := by decide +kernel
theorem dX11_bore_116 : decode cX11_bore 116 = .ok (.invokevirtual 94, 3) := by decide +kernel
theorem dX11_bore_119 : decode cX11_bore 119 = .ok (.pop, 1) := by decide +kernel
theorem dX11_bore_120 : decode cX11_bore 120 = .ok (.aload_n 0, 1) := by decide +kernel
theorem dX11_bore_121 : decode cX11_bore 121 = .ok (.getfield 53, 3) := by decide +kernel
theorem dX11_bore_124 : decode cX11_bore 124 = .ok (.getfield 82, 3) := by decide +kernel
theorem dX11_bore_127 : decode cX11_bore 127 = .ok (.new 89, 3) := by decide +kernel
theorem dX11_bore_130 : decode cX11_bore 130 = .ok (.dup, 1) := by decide +kernel
theorem dX11_bore_131 : decode cX11_bore 131 = .ok (.iload 6, 2) := by decide +kernel
theorem dX11_bore_133 : decode cX11_bore 133 = .ok (.iload_n 1, 1) := by decide +kernel
theorem dX11_bore_134 : decode cX11_bore 134 = .ok (.iload_n 2, 1) := by decide +kernel
theorem dX11_bore_135 : decode cX11_bore 135 = .ok (.iload_n 3, 1) := by decide +kernel
theorem dX11_bore_136 : decode cX11_bore 136 = .ok (.iload 4, 2) := by decide +kernel
theorem dX11_bore_138 : decode cX11_bore 138 = .ok (.iload 5, 2) := by decide +kernel
theorem dX11_bore_140 : decode cX11_bore 140 = .ok (.invokespecial 91, 3) := by decide +kernel
theorem dX11_bore_143 : decode cX11_bore 143 = .ok (.invokevirtual 94, 3) := by decide +kernel
theorem dX11_bore_146 : decode cX11_bore 146 = .ok (.pop, 1) := by decide +kernel
theorem dX11_bore_147 : decode cX11_bore 147 = .ok (.iload 6, 2) := by decide +kernel
theorem dX11_bore_149 : decode cX11_bore 149 = .ok (.ireturn, 1) := by decide +kernel
theorem dX11_soil_0 : decode cX11_soil 0 = .ok (.aload_n 0, 1) := by decide +kernel
theorem dX11_soil_1 : decode cX11_soil 1 = .ok (.getfield 49, 3) := by decide +kernel
theorem dX11_soil_4 : decode cX11_soil 4 = .ok (.iload_n 1, 1) := by decide +kernel
theorem dX11_soil_5 : decode cX11_soil 5 = .ok (.invokevirtual 98, 3) := by decide +kernel
theorem dX11_soil_8 : decode cX11_soil 8 = .ok (.astore 4, 2) := by decide +kernel
theorem dX11_soil_10 : decode cX11_soil 10 = .ok (.aload 4, 2) := by decide +kernel
theorem dX11_soil_12 : decode cX11_soil 12 = .ok (.ifnonnull 9, 3) := by decide +kernel
theorem dX11_soil_15 : decode cX11_soil 15 = .ok (.aload_n 0, 1) := by decide +kernel
theorem dX11_soil_16 : decode cX11_soil 16 = .ok (.iconst (-1), 1) := by decide +kernel
theorem dX11_soil_17 : decode cX11_soil 17 = .ok (.invokevirtual 75, 3) := by decide +kernel
theorem dX11_soil_20 : decode cX11_soil 20 = .ok (.ireturn, 1) := by decide +kernel
theorem dX11_soil_21 : decode cX11_soil 21 = .ok (.iload_n 2, 1) := by decide +kernel
theorem dX11_soil_22 : decode cX11_soil 22 = .ok (.ifCond .lt 7, 3) := by decide +kernel
theorem dX11_soil_25 : decode cX11_soil 25 = .ok (.iload_n 3, 1) := by decide +kernel
theorem dX11_soil_26 : decode cX11_soil 26 = .ok (.ifCond .ge 10, 3) := by decide +kernel
theorem dX11_soil_29 : decode cX11_soil 29 = .ok (.aload_n 0, 1) := by decide +kernel
theorem dX11_soil_30 : decode cX11_soil 30 = .ok (.bipush (-4), 2) := by decide +kernel
theorem dX11_soil_32 : decode cX11_soil 32 = .ok (.invokevirtual 75, 3) := by decide +kernel
theorem dX11_soil_35 : decode cX11_soil 35 = .ok (.ireturn, 1) := by decide +kernel
theorem dX11_soil_36 : decode cX11_soil 36 = .ok (.iload_n 2, 1) := by decide +kernel
theorem dX11_soil_37 : decode cX11_soil 37 = .ok (.sipush 999, 3) := by decide +kernel
theorem dX11_soil_40 : decode cX11_soil 40 = .ok (.if_icmp .gt 9, 3) := by decide +kernel
theorem dX11_soil_43 : decode cX11_soil 43 = .ok (.iload_n 3, 1) := by decide +kernel
theorem dX11_soil_44 : decode cX11_soil 44 = .ok (.bipush 100, 2) := by decide +kernel
theorem dX11_soil_46 : decode cX11_soil 46 = .ok (.if_icmp .le 10, 3) := by decide +kernel
theorem dX11_soil_49 : decode cX11_soil 49 = .ok (.aload_n 0, 1) := by decide +kernel
theorem dX11_soil_50 : decode cX11_soil 50 = .ok (.bipush (-6), 2) := by decide +kernel
theorem dX11_soil_52 : decode cX11_soil 52 = .ok (.invokevirtual 75, 3) := by decide +kernel
theorem dX11_soil_55 : decode cX11_soil 55 = .ok (.ireturn, 1) := by decide +kernel
theorem dX11_soil_56 : decode cX11_soil 56 = .ok (.aload 4, 2) := by decide +kernel
theorem dX11_soil_58 : decode cX11_soil 58 = .ok (.getfield 102, 3) := by decide +kernel
theorem dX11_soil_61 : decode cX11_soil 61 = .ok (.istore 5, 2) := by decide +kernel
theorem dX11_soil_63 : decode cX11_soil 63 = .ok (.aload 4, 2) := by decide +kernel
theorem dX11_soil_65 : decode cX11_soil 65 = .ok (.iload_n 2, 1) := by decide +kernel
theorem dX11_soil_66 : decode cX11_soil 66 = .ok (.putfield 102, 3) := by decide +kernel
theorem dX11_soil_69 : decode cX11_soil 69 = .ok (.aload 4, 2) := by decide +kernel
theorem dX11_soil_71 : decode cX11_soil 71 = .ok (.iload_n 3, 1) := by decide +kernel
theorem dX11_soil_72 : decode cX11_soil 72 = .ok (.putfield 105, 3) := by decide +kernel
theorem dX11_soil_75 : decode cX11_soil 75 = .ok (.iload 5, 2) := by decide +kernel
theorem dX11_soil_77 : decode cX11_soil 77 = .ok (.ireturn, 1) := by decide +kernel
theorem dX11_share_0 : decode cX11_share 0 = .ok (.iload_n 1, 1) := by decide +kernel
theorem dX11_share_1 : decode cX11_share 1 = .ok (.iconst 0, 1) := by decide +kernel
theorem dX11_share_2 : decode cX11_share 2 = .ok (.sipush 999, 3) := by decide +kernel
theorem dX11_share_5 : decode cX11_share 5 = .ok (.invokestatic 71, 3) := by decide +kernel
theorem dX11_share_8 : decode cX11_share 8 = .ok (.istore_n 2, 1) := by decide +kernel
theorem dX11_share_9 : decode cX11_share 9 = .ok (.iload_n 2, 1) := by decide +kernel
theorem dX11_share_10 : decode cX11_share 10 = .ok (.ifCond .eq 9, 3) := by decide +kernel
theorem dX11_share_13 : decode cX11_share 13 = .ok (.aload_n 0, 1) := by decide +kernel
theorem dX11_share_14 : decode cX11_share 14 = .ok (.iload_n 2, 1) := by decide +kernel
theorem dX11_share_15 : decode cX11_share 15 = .ok (.invokevirtual 75, 3) := by decide +kernel
theorem dX11_share_18 : decode cX11_share 18 = .ok (.ireturn, 1) := by decide +kernel
theorem dX11_share_19 : decode cX11_share 19 = .ok (.aload_n 0, 1) := by decide +kernel
theorem dX11_share_20 : decode cX11_share 20 = .ok (.getfield 49, 3) := by decide +kernel
theorem dX11_share_23 : decode cX11_share 23 = .ok (.getfield 108, 3) := by decide +kernel
theorem dX11_share_26 : decode cX11_share 26 = .ok (.istore_n 3, 1) := by decide +kernel
theorem dX11_share_27 : decode cX11_share 27 = .ok (.aload_n 0, 1) := by decide +kernel
theorem dX11_share_28 : decode cX11_share 28 = .ok (.getfield 49, 3) := by decide +kernel
theorem dX11_share_31 : decode cX11_share 31 = .ok (.iload_n 1, 1) := by decide +kernel
theorem dX11_share_32 : decode cX11_share 32 = .ok (.putfield 108, 3) := by decide +kernel
theorem dX11_share_35 : decode cX11_share 35 = .ok (.iload_n 3, 1) := by decide +kernel
theorem dX11_share_36 : decode cX11_share 36 = .ok (.ireturn, 1) := by decide +kernel
theorem dX11_open_0 : decode cX11_open 0 = .ok (.aload_n 0, 1) := by decide +kernel
theorem dX11_open_1 : decode cX11_open 1 = .ok (.getfield 49, 3) := by decide +kernel
theorem dX11_open_4 : decode cX11_open 4 = .ok (.iload_n 1, 1) := by decide +kernel
theorem dX11_open_5 : decode cX11_open 5 = .ok (.invokevirtual 98, 3) := by decide +kernel
theorem dX11_open_8 : decode cX11_open 8 = .ok (.astore_n 3, 1) := by decide +kernel
theorem dX11_open_9 : decode cX11_open 9 = .ok (.aload_n 3, 1) := by decide +kernel
theorem dX11_open_10 : decode cX11_open 10 = .ok (.ifnonnull 9, 3) := by decide +kernel
theorem dX11_open_13 : decode cX11_open 13 = .ok (.aload_n 0, 1) := by decide +kernel
theorem dX11_open_14 : decode cX11_open 14 = .ok (.iconst (-1), 1) := by decide +kernel
theorem dX11_open_15 : decode cX11_open 15 = .ok (.invokevirtual 75, 3) := by decide +kernel
theorem dX11_open_18 : decode cX11_open 18 = .ok (.ireturn, 1) := by decide +kernel
theorem dX11_open_19 : decode cX11_open 19 = .ok (.aload_n 3, 1) := by decide +kernel
theorem dX11_open_20 : decode cX11_open 20 = .ok (.getfield 111, 3) := by decide +kernel
theorem dX11_open_23 : decode cX11_open 23 = .ok (.iload_n 2, 1) := by decide +kernel
theorem dX11_open_24 : decode cX11_open 24 = .ok (.if_icmp .ne 5, 3) := by decide +kernel
theorem dX11_open_27 : decode cX11_open 27 = .ok (.iconst 0, 1) := by decide +kernel
theorem dX11_open_28 : decode cX11_open 28 = .ok (.ireturn, 1) := by decide +kernel
theorem dX11_open_29 : decode cX11_open 29 = .ok (.aload_n 3, 1) := by decide +kernel
theorem dX11_open_30 : decode cX11_open 30 = .ok (.iload_n 2, 1) := by decide +kernel
theorem dX11_open_31 : decode cX11_open 31 = .ok (.putfield 111, 3) := by decide +kernel
theorem dX11_open_34 : decode cX11_open 34 = .ok (.iconst 1, 1) := by decide +kernel
theorem dX11_open_35 : decode cX11_open 35 = .ok (.ireturn, 1) := by decide +kernel
theorem dX11_heat_0 : decode cX11_heat 0 = .ok (.aload_n 0, 1) := by decide +kernel
theorem dX11_heat_1 : decode cX11_heat 1 = .ok (.iload_n 1, 1) := by decide +kernel
theorem dX11_heat_2 : decode cX11_heat 2 = .ok (.iload_n 2, 1) := by decide +kernel
theorem dX11_heat_3 : decode cX11_heat 3 = .ok (.invokevirtual 115, 3) := by decide +kernel
theorem dX11_heat_6 : decode cX11_heat 6 = .ok (.astore_n 3, 1) := by decide +kernel
theorem dX11_heat_7 : decode cX11_heat 7 = .ok (.aload_n 3, 1) := by decide +kernel
theorem dX11_heat_8 : decode cX11_heat 8 = .ok (.ifnonnull 11, 3) := by decide +kernel
theorem dX11_heat_11 : decode cX11_heat 11 = .ok (.aload_n 0, 1) := by decide +kernel
theorem dX11_heat_12 : decode cX11_heat 12 = .ok (.iconst (-1), 1) := by decide +kernel
theorem dX11_heat_13 : decode cX11_heat 13 = .ok (.invokevirtual 119, 3) := by decide +kernel
theorem dX11_heat_16 : decode cX11_heat 16 = .ok (.goto 7, 3) := by decide +kernel
theorem dX11_heat_19 : decode cX11_heat 19 = .ok (.aload_n 3, 1) := by decide +kernel
theorem dX11_heat_20 : decode cX11_heat 20 = .ok (.getfield 123, 3) := by decide +kernel
theorem dX11_heat_23 : decode cX11_heat 23 = .ok (.lreturn, 1) := by decide +kernel
theorem dX11_warmth_0 : decode cX11_warmth 0 = .ok (.aload_n 0, 1) := by decide +kernel
theorem dX11_warmth_1 : decode cX11_warmth 1 = .ok (.iload_n 1, 1) := by decide +kernel
theorem dX11_warmth_2 : decode cX11_warmth 2 = .ok (.iload_n 2, 1) := by decide +kernel
theorem dX11_warmth_3 : decode cX11_warmth 3 = .ok (.invokevirtual 115, 3) := by decide +kernel
theorem dX11_warmth_6 : decode cX11_warmth 6 = .ok (.astore_n 3, 1) := by decide +kernel
theorem dX11_warmth_7 : decode cX11_warmth 7 = .ok (.aload_n 3, 1) := by decide +kernel
theorem dX11_warmth_8 : decode cX11_warmth 8 = .ok (.ifnonnull 11, 3) := by decide +kernel
theorem dX11_warmth_11 : decode cX11_warmth 11 = .ok (.aload_n 0, 1) := by decide +kernel
theorem dX11_warmth_12 : decode cX11_warmth 12 = .ok (.iconst (-1), 1) := by decide +kernel
theorem dX11_warmth_13 : decode cX11_warmth 13 = .ok (.invokevirtual 119, 3) := by decide +kernel
theorem dX11_warmth_16 : decode cX11_warmth 16 = .ok (.goto 7, 3) := by decide +kernel
theorem dX11_warmth_19 : decode cX11_warmth 19 = .ok (.aload_n 3, 1) := by decide +kernel
theorem dX11_warmth_20 : decode cX11_warmth 20 = .ok (.getfield 129, 3) := by decide +kernel
theorem dX11_warmth_23 : decode cX11_warmth 23 = .ok (.lreturn, 1) := by decide +kernel
theorem dX11_frozen_0 : decode cX11_frozen 0 = .ok (.aload_n 0, 1) := by decide +kernel
theorem dX11_frozen_1 : decode cX11_frozen 1 = .ok (.getfield 49, 3) := by decide +kernel
theorem dX11_frozen_4 : decode cX11_frozen 4 = .ok (.iload_n 1, 1) := by decide +kernel
theorem dX11_frozen_5 : decode cX11_frozen 5 = .ok (.invokevirtual 98, 3) := by decide +kernel
theorem dX11_frozen_8 : decode cX11_frozen 8 = .ok (.astore_n 2, 1) := by decide +kernel
theorem dX11_frozen_9 : decode cX11_frozen 9 = .ok (.aload_n 2, 1) := by decide +kernel
theorem dX11_frozen_10 : decode cX11_frozen 10 = .ok (.ifnonnull 9, 3) := by decide +kernel
theorem dX11_frozen_13 : decode cX11_frozen 13 = .ok (.aload_n 0, 1) := by decide +kernel
theorem dX11_frozen_14 : decode cX11_frozen 14 = .ok (.iconst (-1), 1) := by decide +kernel
theorem dX11_frozen_15 : decode cX11_frozen 15 = .ok (.invokevirtual 75, 3) := by decide +kernel
theorem dX11_frozen_18 : decode cX11_frozen 18 = .ok (.ireturn, 1) := by decide +kernel
theorem dX11_frozen_19 : decode cX11_frozen 19 = .ok (.aload_n 2, 1) := by decide +kernel
theorem dX11_frozen_20 : decode cX11_frozen 20 = .ok (.invokevirtual 132, 3) := by decide +kernel
theorem dX11_frozen_23 : decode cX11_frozen 23 = .ok (.ifCond .eq 7, 3) := by decide +kernel
theorem dX11_frozen_26 : decode cX11_frozen 26 = .ok (.iconst 1, 1) := by decide +kernel
theorem dX11_frozen_27 : decode cX11_frozen 27 = .ok (.goto 4, 3) := by decide +kernel
theorem dX11_frozen_30 : decode cX11_frozen 30 = .ok (.iconst 0, 1) := by decide +kernel
theorem dX11_frozen_31 : decode cX11_frozen 31 = .ok (.ireturn, 1) := by decide +kernel
theorem dX11_house_0 : decode cX11_house 0 = .ok (.iload_n 1, 1) := by decide +kernel
theorem dX11_house_1 : decode cX11_house 1 = .ok (.ifCond .lt 11, 3) := by decide +kernel
theorem dX11_house_4 : decode cX11_house 4 = .ok (.iload_n 2, 1) := by decide +kernel
theorem dX11_house_5 : decode cX11_house 5 = .ok (.ifCond .lt 7, 3) := by decide +kernel
theorem dX11_house_8 : decode cX11_house 8 = .ok (.iload_n 3, 1) := by decide +kernel
theorem dX11_house_9 : decode cX11_house 9 = .ok (.ifCond .ge 10, 3) := by decide +kernel
theorem dX11_house_12 : decode cX11_house 12 = .ok (.aload_n 0, 1) := by decide +kernel
theorem dX11_house_13 : decode cX11_house 13 = .ok (.bipush (-4), 2) := by decide +kernel
theorem dX11_house_15 : decode cX11_house 15 = .ok (.invokevirtual 75, 3) := by decide +kernel
theorem dX11_house_18 : decode cX11_house 18 = .ok (.ireturn, 1) := by decide +kernel
theorem dX11_house_19 : decode cX11_house 19 = .ok (.aload_n 0, 1) := by decide +kernel
theorem dX11_house_20 : decode cX11_house 20 = .ok (.getfield 10, 3) := by decide +kernel
theorem dX11_house_23 : decode cX11_house 23 = .ok (.getfield 136, 3) := by decide +kernel
theorem dX11_house_26 : decode cX11_house 26 = .ok (.invokevirtual 85, 3) := by decide +kernel
theorem dX11_house_29 : decode cX11_house 29 = .ok (.istore 4, 2) := by decide +kernel
theorem dX11_house_31 : decode cX11_house 31 = .ok (.iload_n 1, 1) := by decide +kernel
theorem dX11_house_32 : decode cX11_house 32 = .ok (.sipush 9999, 3) := by decide +kernel
theorem dX11_house_35 : decode cX11_house 35 = .ok (.if_icmp .gt 23, 3) := by decide +kernel
theorem dX11_house_38 : decode cX11_house 38 = .ok (.iload_n 2, 1) := by decide +kernel
theorem dX11_house_39 : decode cX11_house 39 = .ok (.sipush 999, 3) := by decide +kernel
theorem dX11_house_42 : decode cX11_house 42 = .ok (.if_icmp .gt 16, 3) := by decide +kernel
theorem dX11_house_45 : decode cX11_house 45 = .ok (.iload_n 3, 1) := by decide +kernel
theorem dX11_house_46 : decode cX11_house 46 = .ok (.ldc 139, 2) := by decide +kernel
theorem dX11_house_48 : decode cX11_house 48 = .ok (.if_icmp .gt 10, 3) := by decide +kernel
theorem dX11_house_51 : decode cX11_house 51 = .ok (.iload 4, 2) := by decide +kernel
theorem dX11_house_53 : decode cX11_house 53 = .ok (.bipush 20, 2) := by decide +kernel
theorem dX11_house_55 : decode cX11_house 55 = .ok (.if_icmp .lt 10, 3) := by decide +kernel
theorem dX11_house_58 : decode cX11_house 58 = .ok (.aload_n 0, 1) := by decide +kernel
theorem dX11_house_59 : decode cX11_house 59 = .ok (.bipush (-6), 2) := by decide +kernel
theorem dX11_house_61 : decode cX11_house 61 = .ok (.invokevirtual 75, 3) := by decide +kernel
theorem dX11_house_64 : decode cX11_house 64 = .ok (.ireturn, 1) := by decide +kernel
theorem dX11_house_65 : decode cX11_house 65 = .ok (.aload_n 0, 1) := by decide +kernel
theorem dX11_house_66 : decode cX11_house 66 = .ok (.getfield 10, 3) := by decide +kernel
theorem dX11_house_69 : decode cX11_house 69 = .ok (.getfield 136, 3) := by decide +kernel
theorem dX11_house_72 : decode cX11_house 72 = .ok (.new 140, 3) := by decide +kernel
theorem dX11_house_75 : decode cX11_house 75 = .ok (.dup, 1) := by decide +kernel
theorem dX11_house_76 : decode cX11_house 76 = .ok (.iload_n 1, 1) := by decide +kernel
theorem dX11_house_77 : decode cX11_house 77 = .ok (.iload_n 2, 1) := by decide +kernel
theorem dX11_house_78 : decode cX11_house 78 = .ok (.iload_n 3, 1) := by decide +kernel
theorem dX11_house_79 : decode cX11_house 79 = .ok (.invokespecial 142, 3) := by decide +kernel
theorem dX11_house_82 : decode cX11_house 82 = .ok (.invokevirtual 94, 3) := by decide +kernel
theorem dX11_house_85 : decode cX11_house 85 = .ok (.pop, 1) := by decide +kernel
theorem dX11_house_86 : decode cX11_house 86 = .ok (.iload 4, 2) := by decide +kernel
theorem dX11_house_88 : decode cX11_house 88 = .ok (.ireturn, 1) := by decide +kernel
theorem dX11_join_0 : decode cX11_join 0 = .ok (.iload_n 1, 1) := by decide +kernel
theorem dX11_join_1 : decode cX11_join 1 = .ok (.ifCond .lt 17, 3) := by decide +kernel
theorem dX11_join_4 : decode cX11_join 4 = .ok (.iload_n 1, 1) := by decide +kernel
theorem dX11_join_5 : decode cX11_join 5 = .ok (.aload_n 0, 1) := by decide +kernel
theorem dX11_join_6 : decode cX11_join 6 = .ok (.getfield 10, 3) := by decide +kernel
theorem dX11_join_9 : decode cX11_join 9 = .ok (.getfield 136, 3) := by decide +kernel
theorem dX11_join_12 : decode cX11_join 12 = .ok (.invokevirtual 85, 3) := by decide +kernel
theorem dX11_join_15 : decode cX11_join 15 = .ok (.if_icmp .lt 9, 3) := by decide +kernel
theorem dX11_join_18 : decode cX11_join 18 = .ok (.aload_n 0, 1) := by decide +kernel
theorem dX11_join_19 : decode cX11_join 19 = .ok (.iconst (-1), 1) := by decide +kernel
theorem dX11_join_20 : decode cX11_join 20 = .ok (.invokevirtual 75, 3) := by decide +kernel
theorem dX11_join_23 : decode cX11_join 23 = .ok (.ireturn, 1) := by decide +kernel
theorem dX11_join_24 : decode cX11_join 24 = .ok (.aload_n 0, 1) := by decide +kernel
theorem dX11_join_25 : decode cX11_join 25 = .ok (.getfield 10, 3) := by decide +kernel
theorem dX11_join_28 : decode cX11_join 28 = .ok (.getfield 136, 3) := by decide +kernel
theorem dX11_join_31 : decode cX11_join 31 = .ok (.iload_n 1, 1) := by decide +kernel
theorem dX11_join_32 : decode cX11_join 32 = .ok (.invokevirtual 145, 3) := by decide +kernel
theorem dX11_join_35 : decode cX11_join 35 = .ok (.checkcast 140, 3) := by decide +kernel
theorem dX11_join_38 : decode cX11_join 38 = .ok (.astore_n 3, 1) := by decide +kernel
theorem dX11_join_39 : decode cX11_join 39 = .ok (.aload_n 3, 1) := by decide +kernel
theorem dX11_join_40 : decode cX11_join 40 = .ok (.getfield 149, 3) := by decide +kernel
theorem dX11_join_43 : decode cX11_join 43 = .ok (.ifCond .eq 10, 3) := by decide +kernel
theorem dX11_join_46 : decode cX11_join 46 = .ok (.aload_n 0, 1) := by decide +kernel
theorem dX11_join_47 : decode cX11_join 47 = .ok (.bipush (-3), 2) := by decide +kernel
theorem dX11_join_49 : decode cX11_join 49 = .ok (.invokevirtual 75, 3) := by decide +kernel
theorem dX11_join_52 : decode cX11_join 52 = .ok (.ireturn, 1) := by decide +kernel
theorem dX11_join_53 : decode cX11_join 53 = .ok (.iload_n 2, 1) := by decide +kernel
theorem dX11_join_54 : decode cX11_join 54 = .ok (.aload_n 0, 1) := by decide +kernel
theorem dX11_join_55 : decode cX11_join 55 = .ok (.getfield 49, 3) := by decide +kernel
theorem dX11_join_58 : decode cX11_join 58 = .ok (.getfield 67, 3) := by decide +kernel
theorem dX11_join_61 : decode cX11_join 61 = .ok (.bipush 24, 2) := by decide +kernel
theorem dX11_join_63 : decode cX11_join 63 = .ok (.idiv, 1) := by decide +kernel
theorem dX11_join_64 : decode cX11_join 64 = .ok (.sipush 333, 3) := by decide +kernel
theorem dX11_join_67 : decode cX11_join 67 = .ok (.invokestatic 71, 3) := by decide +kernel
theorem dX11_join_70 : decode cX11_join 70 = .ok (.istore 4, 2) := by decide +kernel
theorem dX11_join_72 : decode cX11_join 72 = .ok (.iload 4, 2) := by decide +kernel
theorem dX11_join_74 : decode cX11_join 74 = .ok (.ifCond .eq 10, 3) := by decide +kernel
theorem dX11_join_77 : decode cX11_join 77 = .ok (.aload_n 0, 1) := by decide +kernel
theorem dX11_join_78 : decode cX11_join 78 = .ok (.iload 4, 2) := by decide +kernel
theorem dX11_join_80 : decode cX11_join 80 = .ok (.invokevirtual 75, 3) := by decide +kernel
theorem dX11_join_83 : decode cX11_join 83 = .ok (.ireturn, 1) := by decide +kernel
theorem dX11_join_84 : decode cX11_join 84 = .ok (.aload_n 3, 1) := by decide +kernel
theorem dX11_join_85 : decode cX11_join 85 = .ok (.iconst 1, 1) := by decide +kernel
theorem dX11_join_86 : decode cX11_join 86 = .ok (.putfield 149, 3) := by decide +kernel
theorem dX11_join_89 : decode cX11_join 89 = .ok (.aload_n 3, 1) := by decide +kernel
theorem dX11_join_90 : decode cX11_join 90 = .ok (.iload_n 2, 1) := by decide +kernel
theorem dX11_join_91 : decode cX11_join 91 = .ok (.putfield 152, 3) := by decide +kernel
theorem dX11_join_94 : decode cX11_join 94 = .ok (.iconst 1, 1) := by decide +kernel
theorem dX11_join_95 : decode cX11_join 95 = .ok (.ireturn, 1) := by decide +kernel
theorem dX11_cold_0 : decode cX11_cold 0 = .ok (.iload_n 1, 1) := by decide +kernel
theorem dX11_cold_1 : decode cX11_cold 1 = .ok (.iconst 0, 1) := by decide +kernel
theorem dX11_cold_2 : decode cX11_cold 2 = .ok (.bipush 11, 2) := by decide +kernel
theorem dX11_cold_4 : decode cX11_cold 4 = .ok (.invokestatic 71, 3) := by decide +kernel
theorem dX11_cold_7 : decode cX11_cold 7 = .ok (.iload_n 2, 1) := by decide +kernel
theorem dX11_cold_8 : decode cX11_cold 8 = .ok (.bipush (-40), 2) := by decide +kernel
theorem dX11_cold_10 : decode cX11_cold 10 = .ok (.bipush 40, 2) := by decide +kernel
theorem dX11_cold_12 : decode cX11_cold 12 = .ok (.invokestatic 71, 3) := by decide +kernel
theorem dX11_cold_15 : decode cX11_cold 15 = .ok (.invokestatic 155, 3) := by decide +kernel
theorem dX11_cold_18 : decode cX11_cold 18 = .ok (.istore_n 3, 1) := by decide +kernel
theorem dX11_cold_19 : decode cX11_cold 19 = .ok (.iload_n 3, 1) := by decide +kernel
theorem dX11_cold_20 : decode cX11_cold 20 = .ok (.ifCond .eq 12, 3) := by decide +kernel
theorem dX11_cold_23 : decode cX11_cold 23 = .ok (.ldc 159, 2) := by decide +kernel
theorem dX11_cold_25 : decode cX11_cold 25 = .ok (.aload_n 0, 1) := by decide +kernel
theorem dX11_cold_26 : decode cX11_cold 26 = .ok (.iload_n 3, 1) := by decide +kernel
theorem dX11_cold_27 : decode cX11_cold 27 = .ok (.invokevirtual 75, 3) := by decide +kernel
theorem dX11_cold_30 : decode cX11_cold 30 = .ok (.isub, 1) := by decide +kernel
theorem dX11_cold_31 : decode cX11_cold 31 = .ok (.ireturn, 1) := by decide +kernel
theorem dX11_cold_32 : decode cX11_cold 32 = .ok (.aload_n 0, 1) := by decide +kernel
theorem dX11_cold_33 : decode cX11_cold 33 = .ok (.getfield 10, 3) := by decide +kernel
theorem dX11_cold_36 : decode cX11_cold 36 = .ok (.getfield 160, 3) := by decide +kernel
theorem dX11_cold_39 : decode cX11_cold 39 = .ok (.iload_n 1, 1) := by decide +kernel
theorem dX11_cold_40 : decode cX11_cold 40 = .ok (.iload_n 2, 1) := by decide +kernel
theorem dX11_cold_41 : decode cX11_cold 41 = .ok (.invokestatic 163, 3) := by decide +kernel
theorem dX11_cold_44 : decode cX11_cold 44 = .ok (.ireturn, 1) := by decide +kernel
theorem dX11_need_0 : decode cX11_need 0 = .ok (.iload_n 1, 1) := by decide +kernel
theorem dX11_need_1 : decode cX11_need 1 = .ok (.iconst 0, 1) := by decide +kernel
theorem dX11_need_2 : decode cX11_need 2 = .ok (.sipush 9999, 3) := by decide +kernel
theorem dX11_need_5 : decode cX11_need 5 = .ok (.invokestatic 71, 3) := by decide +kernel
theorem dX11_need_8 : decode cX11_need 8 = .ok (.istore_n 2, 1) := by decide +kernel
theorem dX11_need_9 : decode cX11_need 9 = .ok (.iload_n 2, 1) := by decide +kernel
theorem dX11_need_10 : decode cX11_need 10 = .ok (.ifCond .eq 11, 3) := by decide +kernel
theorem dX11_need_13 : decode cX11_need 13 = .ok (.aload_n 0, 1) := by decide +kernel
theorem dX11_need_14 : decode cX11_need 14 = .ok (.iload_n 2, 1) := by decide +kernel
theorem dX11_need_15 : decode cX11_need 15 = .ok (.invokevirtual 119, 3) := by decide +kernel
theorem dX11_need_18 : decode cX11_need 18 = .ok (.goto 11, 3) := by decide +kernel
theorem dX11_need_21 : decode cX11_need 21 = .ok (.aload_n 0, 1) := by decide +kernel
theorem dX11_need_22 : decode cX11_need 22 = .ok (.getfield 10, 3) := by decide +kernel
theorem dX11_need_25 : decode cX11_need 25 = .ok (.iload_n 1, 1) := by decide +kernel
theorem dX11_need_26 : decode cX11_need 26 = .ok (.invokevirtual 167, 3) := by decide +kernel
theorem dX11_need_29 : decode cX11_need 29 = .ok (.lreturn, 1) := by decide +kernel
theorem dX11_point_0 : decode cX11_point 0 = .ok (.iload_n 1, 1) := by decide +kernel
theorem dX11_point_1 : decode cX11_point 1 = .ok (.bipush (-20), 2) := by decide +kernel
theorem dX11_point_3 : decode cX11_point 3 = .ok (.if_icmp .lt 20, 3) := by decide +kernel
theorem dX11_point_6 : decode cX11_point 6 = .ok (.iload_n 2, 1) := by decide +kernel
theorem dX11_point_7 : decode cX11_point 7 = .ok (.bipush 100, 2) := by decide +kernel
theorem dX11_point_9 : decode cX11_point 9 = .ok (.if_icmp .lt 14, 3) := by decide +kernel
theorem dX11_point_12 : decode cX11_point 12 = .ok (.aload_n 0, 1) := by decide +kernel
theorem dX11_point_13 : decode cX11_point 13 = .ok (.getfield 19, 3) := by decide +kernel
theorem dX11_point_16 : decode cX11_point 16 = .ok (.iload_n 1, 1) := by decide +kernel
theorem dX11_point_17 : decode cX11_point 17 = .ok (.invokevirtual 170, 3) := by decide +kernel
theorem dX11_point_20 : decode cX11_point 20 = .ok (.ifCond .ne 10, 3) := by decide +kernel
theorem dX11_point_23 : decode cX11_point 23 = .ok (.aload_n 0, 1) := by decide +kernel
theorem dX11_point_24 : decode cX11_point 24 = .ok (.bipush (-4), 2) := by decide +kernel
theorem dX11_point_26 : decode cX11_point 26 = .ok (.invokevirtual 75, 3) := by decide +kernel
theorem dX11_point_29 : decode cX11_point 29 = .ok (.ireturn, 1) := by decide +kernel
theorem dX11_point_30 : decode cX11_point 30 = .ok (.iload_n 1, 1) := by decide +kernel
theorem dX11_point_31 : decode cX11_point 31 = .ok (.bipush 99, 2) := by decide +kernel
theorem dX11_point_33 : decode cX11_point 33 = .ok (.if_icmp .gt 22, 3) := by decide +kernel
theorem dX11_point_36 : decode cX11_point 36 = .ok (.iload_n 2, 1) := by decide +kernel
theorem dX11_point_37 : decode cX11_point 37 = .ok (.sipush 999, 3) := by decide +kernel
theorem dX11_point_40 : decode cX11_point 40 = .ok (.if_icmp .gt 15, 3) := by decide +kernel
theorem dX11_point_43 : decode cX11_point 43 = .ok (.aload_n 0, 1) := by decide +kernel
theorem dX11_point_44 : decode cX11_point 44 = .ok (.getfield 19, 3) := by decide +kernel
theorem dX11_point_47 : decode cX11_point 47 = .ok (.getfield 174, 3) := by decide +kernel
theorem dX11_point_50 : decode cX11_point 50 = .ok (.bipush 8, 2) := by decide +kernel
theorem dX11_point_52 : decode cX11_point 52 = .ok (.if_icmp .lt 10, 3) := by decide +kernel
theorem dX11_point_55 : decode cX11_point 55 = .ok (.aload_n 0, 1) := by decide +kernel
theorem dX11_point_56 : decode cX11_point 56 = .ok (.bipush (-6), 2) := by decide +kernel
theorem dX11_point_58 : decode cX11_point 58 = .ok (.invokevirtual 75, 3) := by decide +kernel
theorem dX11_point_61 : decode cX11_point 61 = .ok (.ireturn, 1) := by decide +kernel
theorem dX11_point_62 : decode cX11_point 62 = .ok (.aload_n 0, 1) := by decide +kernel
theorem dX11_point_63 : decode cX11_point 63 = .ok (.getfield 19, 3) := by decide +kernel
theorem dX11_point_66 : decode cX11_point 66 = .ok (.iload_n 1, 1) := by decide +kernel
theorem dX11_point_67 : decode cX11_point 67 = .ok (.iload_n 2, 1) := by decide +kernel
theorem dX11_point_68 : decode cX11_point 68 = .ok (.invokevirtual 176, 3) := by decide +kernel
theorem dX11_point_71 : decode cX11_point 71 = .ok (.aload_n 0, 1) := by decide +kernel
theorem dX11_point_72 : decode cX11_point 72 = .ok (.getfield 19, 3) := by decide +kernel
theorem dX11_point_75 : decode cX11_point 75 = .ok (.getfield 174, 3) := by decide +kernel
theorem dX11_point_78 : decode cX11_point 78 = .ok (.ireturn, 1) := by decide +kernel
theorem dX11_untable_0 : decode cX11_untable 0 = .ok (.aload_n 0, 1) := by decide +kernel
theorem dX11_untable_1 : decode cX11_untable 1 = .ok (.getfield 19, 3) := by decide +kernel
theorem dX11_untable_4 : decode cX11_untable 4 = .ok (.getfield 174, 3) := by decide +kernel
theorem dX11_untable_7 : decode cX11_untable 7 = .ok (.istore_n 1, 1) := by decide +kernel
theorem dX11_untable_8 : decode cX11_untable 8 = .ok (.aload_n 0, 1) := by decide +kernel
theorem dX11_untable_9 : decode cX11_untable 9 = .ok (.getfield 19, 3) := by decide +kernel
theorem dX11_untable_12 : decode cX11_untable 12 = .ok (.iconst 0, 1) := by decide +kernel
theorem dX11_untable_13 : decode cX11_untable 13 = .ok (.putfield 174, 3) := by decide +kernel
theorem dX11_untable_16 : decode cX11_untable 16 = .ok (.iload_n 1, 1) := by decide +kernel
theorem dX11_untable_17 : decode cX11_untable 17 = .ok (.ireturn, 1) := by decide +kernel
theorem dX11_lift_0 : decode cX11_lift 0 = .ok (.iload_n 1, 1) := by decide +kernel
theorem dX11_lift_1 : decode cX11_lift 1 = .ok (.ldc 180, 2) := by decide +kernel
theorem dX11_lift_3 : decode cX11_lift 3 = .ok (.ldc 181, 2) := by decide +kernel
theorem dX11_lift_5 : decode cX11_lift 5 = .ok (.invokestatic 71, 3) := by decide +kernel
theorem dX11_lift_8 : decode cX11_lift 8 = .ok (.istore_n 2, 1) := by decide +kernel
theorem dX11_lift_9 : decode cX11_lift 9 = .ok (.iload_n 2, 1) := by decide +kernel
theorem dX11_lift_10 : decode cX11_lift 10 = .ok (.ifCond .eq 11, 3) := by decide +kernel
theorem dX11_lift_13 : decode cX11_lift 13 = .ok (.aload_n 0, 1) := by decide +kernel
theorem dX11_lift_14 : decode cX11_lift 14 = .ok (.iload_n 2, 1) := by decide +kernel
theorem dX11_lift_15 : decode cX11_lift 15 = .ok (.invokevirtual 75, 3) := by decide +kernel
theorem dX11_lift_18 : decode cX11_lift 18 = .ok (.goto 13, 3) := by decide +kernel
theorem dX11_lift_21 : decode cX11_lift 21 = .ok (.aload_n 0, 1) := by decide +kernel
theorem dX11_lift_22 : decode cX11_lift 22 = .ok (.getfield 19, 3) := by decide +kernel
theorem dX11_lift_25 : decode cX11_lift 25 = .ok (.iload_n 1, 1) := by decide +kernel
theorem dX11_lift_26 : decode cX11_lift 26 = .ok (.i2l, 1) := by decide +kernel
theorem dX11_lift_27 : decode cX11_lift 27 = .ok (.invokevirtual 182, 3) := by decide +kernel
theorem dX11_lift_30 : decode cX11_lift 30 = .ok (.l2i, 1) := by decide +kernel
theorem dX11_lift_31 : decode cX11_lift 31 = .ok (.ireturn, 1) := by decide +kernel
theorem dX11_price_0 : decode cX11_price 0 = .ok (.iload_n 1, 1) := by decide +kernel
theorem dX11_price_1 : decode cX11_price 1 = .ok (.iconst 0, 1) := by decide +kernel
theorem dX11_price_2 : decode cX11_price 2 = .ok (.bipush 23, 2) := by decide +kernel
theorem dX11_price_4 : decode cX11_price 4 = .ok (.invokestatic 71, 3) := by decide +kernel
theorem dX11_price_7 : decode cX11_price 7 = .ok (.iload_n 2, 1) := by decide +kernel
theorem dX11_price_8 : decode cX11_price 8 = .ok (.iconst 0, 1) := by decide +kernel
theorem dX11_price_9 : decode cX11_price 9 = .ok (.sipush 999, 3) := by decide +kernel
theorem dX11_price_12 : decode cX11_price 12 = .ok (.invokestatic 71, 3) := by decide +kernel
theorem dX11_price_15 : decode cX11_price 15 = .ok (.invokestatic 155, 3) := by decide +kernel
theorem dX11_price_18 : decode cX11_price 18 = .ok (.istore_n 3, 1) := by decide +kernel
theorem dX11_price_19 : decode cX11_price 19 = .ok (.iload_n 3, 1) := by decide +kernel
theorem dX11_price_20 : decode cX11_price 20 = .ok (.ifCond .eq 11, 3) := by decide +kernel
theorem dX11_price_23 : decode cX11_price 23 = .ok (.aload_n 0, 1) := by decide +kernel
theorem dX11_price_24 : decode cX11_price 24 = .ok (.iload_n 3, 1) := by decide +kernel
theorem dX11_price_25 : decode cX11_price 25 = .ok (.invokevirtual 75, 3) := by decide +kernel
theorem dX11_price_28 : decode cX11_price 28 = .ok (.goto 15, 3) := by decide +kernel
theorem dX11_price_31 : decode cX11_price 31 = .ok (.aload_n 0, 1) := by decide +kernel
theorem dX11_price_32 : decode cX11_price 32 = .ok (.getfield 10, 3) := by decide +kernel
theorem dX11_price_35 : decode cX11_price 35 = .ok (.getfield 186, 3) := by decide +kernel
theorem dX11_price_38 : decode cX11_price 38 = .ok (.iload_n 1, 1) := by decide +kernel
theorem dX11_price_39 : decode cX11_price 39 = .ok (.iload_n 2, 1) := by decide +kernel
theorem dX11_price_40 : decode cX11_price 40 = .ok (.invokestatic 163, 3) := by decide +kernel
theorem dX11_price_43 : decode cX11_price 43 = .ok (.ireturn, 1) := by decide +kernel
theorem dX11_sun_0 : decode cX11_sun 0 = .ok (.iload_n 1, 1) := by decide +kernel
theorem dX11_sun_1 : decode cX11_sun 1 = .ok (.iconst 0, 1) := by decide +kernel
theorem dX11_sun_2 : decode cX11_sun 2 = .ok (.bipush 23, 2) := by decide +kernel
theorem dX11_sun_4 : decode cX11_sun 4 = .ok (.invokestatic 71, 3) := by decide +kernel
theorem dX11_sun_7 : decode cX11_sun 7 = .ok (.iload_n 2, 1) := by decide +kernel
theorem dX11_sun_8 : decode cX11_sun 8 = .ok (.iconst 0, 1) := by decide +kernel
theorem dX11_sun_9 : decode cX11_sun 9 = .ok (.ldc 189, 2) := by decide +kernel
theorem dX11_sun_11 : decode cX11_sun 11 = .ok (.invokestatic 71, 3) := by decide +kernel
theorem dX11_sun_14 : decode cX11_sun 14 = .ok (.invokestatic 155, 3) := by decide +kernel
theorem dX11_sun_17 : decode cX11_sun 17 = .ok (.istore_n 3, 1) := by decide +kernel
theorem dX11_sun_18 : decode cX11_sun 18 = .ok (.iload_n 3, 1) := by decide +kernel
theorem dX11_sun_19 : decode cX11_sun 19 = .ok (.ifCond .eq 11, 3) := by decide +kernel
theorem dX11_sun_22 : decode cX11_sun 22 = .ok (.aload_n 0, 1) := by decide +kernel
theorem dX11_sun_23 : decode cX11_sun 23 = .ok (.iload_n 3, 1) := by decide +kernel
theorem dX11_sun_24 : decode cX11_sun 24 = .ok (.invokevirtual 75, 3) := by decide +kernel
theorem dX11_sun_27 : decode cX11_sun 27 = .ok (.goto 15, 3) := by decide +kernel
theorem dX11_sun_30 : decode cX11_sun 30 = .ok (.aload_n 0, 1) := by decide +kernel
theorem dX11_sun_31 : decode cX11_sun 31 = .ok (.getfield 10, 3) := by decide +kernel
theorem dX11_sun_34 : decode cX11_sun 34 = .ok (.getfield 190, 3) := by decide +kernel
theorem dX11_sun_37 : decode cX11_sun 37 = .ok (.iload_n 1, 1) := by decide +kernel
theorem dX11_sun_38 : decode cX11_sun 38 = .ok (.iload_n 2, 1) := by decide +kernel
theorem dX11_sun_39 : decode cX11_sun 39 = .ok (.invokestatic 163, 3) := by decide +kernel
theorem dX11_sun_42 : decode cX11_sun 42 = .ok (.ireturn, 1) := by decide +kernel
theorem dX11_feed_0 : decode cX11_feed 0 = .ok (.iload_n 1, 1) := by decide +kernel
theorem dX11_feed_1 : decode cX11_feed 1 = .ok (.iconst 1, 1) := by decide +kernel
theorem dX11_feed_2 : decode cX11_feed 2 = .ok (.if_icmp .ge 10, 3) := by decide +kernel
theorem dX11_feed_5 : decode cX11_feed 5 = .ok (.aload_n 0, 1) := by decide +kernel
theorem dX11_feed_6 : decode cX11_feed 6 = .ok (.bipush (-4), 2) := by decide +kernel
theorem dX11_feed_8 : decode cX11_feed 8 = .ok (.invokevirtual 75, 3) := by decide +kernel
theorem dX11_feed_11 : decode cX11_feed 11 = .ok (.ireturn, 1) := by decide +kernel
theorem dX11_feed_12 : decode cX11_feed 12 = .ok (.iload_n 1, 1) := by decide +kernel
theorem dX11_feed_13 : decode cX11_feed 13 = .ok (.bipush 8, 2) := by decide +kernel
theorem dX11_feed_15 : decode cX11_feed 15 = .ok (.if_icmp .gt 17, 3) := by decide +kernel
theorem dX11_feed_18 : decode cX11_feed 18 = .ok (.iload_n 1, 1) := by decide +kernel
theorem dX11_feed_19 : decode cX11_feed 19 = .ok (.bipush 60, 2) := by decide +kernel
theorem dX11_feed_21 : decode cX11_feed 21 = .ok (.aload_n 0, 1) := by decide +kernel
theorem dX11_feed_22 : decode cX11_feed 22 = .ok (.getfield 33, 3) := by decide +kernel
theorem dX11_feed_25 : decode cX11_feed 25 = .ok (.getfield 193, 3) := by decide +kernel
theorem dX11_feed_28 : decode cX11_feed 28 = .ok (.isub, 1) := by decide +kernel
theorem dX11_feed_29 : decode cX11_feed 29 = .ok (.if_icmp .le 10, 3) := by decide +kernel
theorem dX11_feed_32 : decode cX11_feed 32 = .ok (.aload_n 0, 1) := by decide +kernel
theorem dX11_feed_33 : decode cX11_feed 33 = .ok (.bipush (-6), 2) := by decide +kernel
theorem dX11_feed_35 : decode cX11_feed 35 = .ok (.invokevirtual 75, 3) := by decide +kernel
theorem dX11_feed_38 : decode cX11_feed 38 = .ok (.ireturn, 1) := by decide +kernel
theorem dX11_feed_39 : decode cX11_feed 39 = .ok (.iconst 0, 1) := by decide +kernel
theorem dX11_feed_40 : decode cX11_feed 40 = .ok (.istore 4, 2) := by decide +kernel
theorem dX11_feed_42 : decode cX11_feed 42 = .ok (.iload 4, 2) := by decide +kernel
theorem dX11_feed_44 : decode cX11_feed 44 = .ok (.iload_n 1, 1) := by decide +kernel
theorem dX11_feed_45 : decode cX11_feed 45 = .ok (.if_icmp .ge 28, 3) := by decide +kernel
theorem dX11_feed_48 : decode cX11_feed 48 = .ok (.aload_n 0, 1) := by decide +kernel
theorem dX11_feed_49 : decode cX11_feed 49 = .ok (.getfield 33, 3) := by decide +kernel
theorem dX11_feed_52 : decode cX11_feed 52 = .ok (.lload_n 2, 1) := by decide +kernel
theorem dX11_feed_53 : decode cX11_feed 53 = .ok (.bipush 8, 2) := by decide +kernel
theorem dX11_feed_55 : decode cX11_feed 55 = .ok (.iload 4, 2) := by decide +kernel
theorem dX11_feed_57 : decode cX11_feed 57 = .ok (.imul, 1) := by decide +kernel
theorem dX11_feed_58 : decode cX11_feed 58 = .ok (.lushr, 1) := by decide +kernel
theorem dX11_feed_59 : decode cX11_feed 59 = .ok (.l2i, 1) := by decide +kernel
theorem dX11_feed_60 : decode cX11_feed 60 = .ok (.sipush 255, 3) := by decide +kernel
theorem dX11_feed_63 : decode cX11_feed 63 = .ok (.iand, 1) := by decide +kernel
theorem dX11_feed_64 : decode cX11_feed 64 = .ok (.invokevirtual 194, 3) := by decide +kernel
theorem dX11_feed_67 : decode cX11_feed 67 = .ok (.iinc 4 1, 3) := by decide +kernel
theorem dX11_feed_70 : decode cX11_feed 70 = .ok (.goto (-28), 3) := by decide +kernel
theorem dX11_feed_73 : decode cX11_feed 73 = .ok (.aload_n 0, 1) := by decide +kernel
theorem dX11_feed_74 : decode cX11_feed 74 = .ok (.getfield 33, 3) := by decide +kernel
theorem dX11_feed_77 : decode cX11_feed 77 = .ok (.getfield 193, 3) := by decide +kernel
theorem dX11_feed_80 : decode cX11_feed 80 = .ok (.ireturn, 1) := by decide +kernel
theorem dX11_rule_0 : decode cX11_rule 0 = .ok (.iload_n 1, 1) := by decide +kernel
theorem dX11_rule_1 : decode cX11_rule 1 = .ok (.ifCond .eq 15, 3) := by decide +kernel
theorem dX11_rule_4 : decode cX11_rule 4 = .ok (.iload_n 1, 1) := by decide +kernel
theorem dX11_rule_5 : decode cX11_rule 5 = .ok (.iconst 1, 1) := by decide +kernel
theorem dX11_rule_6 : decode cX11_rule 6 = .ok (.if_icmp .eq 10, 3) := by decide +kernel
theorem dX11_rule_9 : decode cX11_rule 9 = .ok (.aload_n 0, 1) := by decide +kernel
theorem dX11_rule_10 : decode cX11_rule 10 = .ok (.bipush (-2), 2) := by decide +kernel
theorem dX11_rule_12 : decode cX11_rule 12 = .ok (.invokevirtual 75, 3) := by decide +kernel
theorem dX11_rule_15 : decode cX11_rule 15 = .ok (.ireturn, 1) := by decide +kernel
theorem dX11_rule_16 : decode cX11_rule 16 = .ok (.iload_n 2, 1) := by decide +kernel
theorem dX11_rule_17 : decode cX11_rule 17 = .ok (.aload_n 0, 1) := by decide +kernel
theorem dX11_rule_18 : decode cX11_rule 18 = .ok (.getfield 49, 3) := by decide +kernel
theorem dX11_rule_21 : decode cX11_rule 21 = .ok (.getfield 67, 3) := by decide +kernel
theorem dX11_rule_24 : decode cX11_rule 24 = .ok (.bipush 24, 2) := by decide +kernel
theorem dX11_rule_26 : decode cX11_rule 26 = .ok (.idiv, 1) := by decide +kernel
theorem dX11_rule_27 : decode cX11_rule 27 = .ok (.if_icmp .ge 10, 3) := by decide +kernel
theorem dX11_rule_30 : decode cX11_rule 30 = .ok (.aload_n 0, 1) := by decide +kernel
theorem dX11_rule_31 : decode cX11_rule 31 = .ok (.bipush (-4), 2) := by decide +kernel
theorem dX11_rule_33 : decode cX11_rule 33 = .ok (.invokevirtual 75, 3) := by decide +kernel
theorem dX11_rule_36 : decode cX11_rule 36 = .ok (.ireturn, 1) := by decide +kernel
theorem dX11_rule_37 : decode cX11_rule 37 = .ok (.iload_n 2, 1) := by decide +kernel
theorem dX11_rule_38 : decode cX11_rule 38 = .ok (.sipush 333, 3) := by decide +kernel
theorem dX11_rule_41 : decode cX11_rule 41 = .ok (.if_icmp .gt 18, 3) := by decide +kernel
theorem dX11_rule_44 : decode cX11_rule 44 = .ok (.aload_n 0, 1) := by decide +kernel
theorem dX11_rule_45 : decode cX11_rule 45 = .ok (.getfield 26, 3) := by decide +kernel
theorem dX11_rule_48 : decode cX11_rule 48 = .ok (.getfield 198, 3) := by decide +kernel
theorem dX11_rule_51 : decode cX11_rule 51 = .ok (.invokevirtual 85, 3) := by decide +kernel
theorem dX11_rule_54 : decode cX11_rule 54 = .ok (.bipush 30, 2) := by decide +kernel
theorem dX11_rule_56 : decode cX11_rule 56 = .ok (.if_icmp .lt 10, 3) := by decide +kernel
theorem dX11_rule_59 : decode cX11_rule 59 = .ok (.aload_n 0, 1) := by decide +kernel
theorem dX11_rule_60 : decode cX11_rule 60 = .ok (.bipush (-6), 2) := by decide +kernel
theorem dX11_rule_62 : decode cX11_rule 62 = .ok (.invokevirtual 75, 3) := by decide +kernel
theorem dX11_rule_65 : decode cX11_rule 65 = .ok (.ireturn, 1) := by decide +kernel
theorem dX11_rule_66 : decode cX11_rule 66 = .ok (.aload_n 0, 1) := by decide +kernel
theorem dX11_rule_67 : decode cX11_rule 67 = .ok (.getfield 33, 3) := by decide +kernel
theorem dX11_rule_70 : decode cX11_rule 70 = .ok (.invokevirtual 200, 3) := by decide +kernel
theorem dX11_rule_73 : decode cX11_rule 73 = .ok (.istore_n 3, 1) := by decide +kernel
theorem dX11_rule_74 : decode cX11_rule 74 = .ok (.aload_n 0, 1) := by decide +kernel
theorem dX11_rule_75 : decode cX11_rule 75 = .ok (.getfield 33, 3) := by decide +kernel
theorem dX11_rule_78 : decode cX11_rule 78 = .ok (.iconst 0, 1) := by decide +kernel
theorem dX11_rule_79 : decode cX11_rule 79 = .ok (.putfield 193, 3) := by decide +kernel
theorem dX11_rule_82 : decode cX11_rule 82 = .ok (.iload_n 3, 1) := by decide +kernel
theorem dX11_rule_83 : decode cX11_rule 83 = .ok (.iconst (-1), 1) := by decide +kernel
theorem dX11_rule_84 : decode cX11_rule 84 = .ok (.if_icmp .eq 8, 3) := by decide +kernel
theorem dX11_rule_87 : decode cX11_rule 87 = .ok (.bipush (-20), 2) := by decide +kernel
theorem dX11_rule_89 : decode cX11_rule 89 = .ok (.iload_n 3, 1) := by decide +kernel
theorem dX11_rule_90 : decode cX11_rule 90 = .ok (.isub, 1) := by decide +kernel
theorem dX11_rule_91 : decode cX11_rule 91 = .ok (.ireturn, 1) := by decide +kernel
theorem dX11_rule_92 : decode cX11_rule 92 = .ok (.aload_n 0, 1) := by decide +kernel
theorem dX11_rule_93 : decode cX11_rule 93 = .ok (.getfield 26, 3) := by decide +kernel
theorem dX11_rule_96 : decode cX11_rule 96 = .ok (.getfield 198, 3) := by decide +kernel
theorem dX11_rule_99 : decode cX11_rule 99 = .ok (.new 203, 3) := by decide +kernel
theorem dX11_rule_102 : decode cX11_rule 102 = .ok (.dup, 1) := by decide +kernel
theorem dX11_rule_103 : decode cX11_rule 103 = .ok (.iload_n 1, 1) := by decide +kernel
theorem dX11_rule_104 : decode cX11_rule 104 = .ok (.iload_n 2, 1) := by decide +kernel
theorem dX11_rule_105 : decode cX11_rule 105 = .ok (.aload_n 0, 1) := by decide +kernel
theorem dX11_rule_106 : decode cX11_rule 106 = .ok (.getfield 33, 3) := by decide +kernel
theorem dX11_rule_109 : decode cX11_rule 109 = .ok (.getfield 205, 3) := by decide +kernel
theorem dX11_rule_112 : decode cX11_rule 112 = .ok (.invokevirtual 208, 3) := by decide +kernel
theorem dX11_rule_115 : decode cX11_rule 115 = .ok (.checkcast 209, 3) := by decide +kernel
theorem dX11_rule_118 : decode cX11_rule 118 = .ok (.aload_n 0, 1) := by decide +kernel
theorem dX11_rule_119 : decode cX11_rule 119 = .ok (.getfield 33, 3) := by decide +kernel
theorem dX11_rule_122 : decode cX11_rule 122 = .ok (.getfield 213, 3) := by decide +kernel
theorem dX11_rule_125 : decode cX11_rule 125 = .ok (.invokespecial 216, 3) := by decide +kernel
theorem dX11_rule_128 : decode cX11_rule 128 = .ok (.invokevirtual 94, 3) := by decide +kernel
theorem dX11_rule_131 : decode cX11_rule 131 = .ok (.pop, 1) := by decide +kernel
theorem dX11_rule_132 : decode cX11_rule 132 = .ok (.aload_n 0, 1) := by decide +kernel
theorem dX11_rule_133 : decode cX11_rule 133 = .ok (.getfield 26, 3) := by decide +kernel
theorem dX11_rule_136 : decode cX11_rule 136 = .ok (.getfield 198, 3) := by decide +kernel
theorem dX11_rule_139 : decode cX11_rule 139 = .ok (.invokevirtual 85, 3) := by decide +kernel
theorem dX11_rule_142 : decode cX11_rule 142 = .ok (.ireturn, 1) := by decide +kernel
theorem dX11_may_0 : decode cX11_may 0 = .ok (.aload_n 0, 1) := by decide +kernel
theorem dX11_may_1 : decode cX11_may 1 = .ok (.getfield 49, 3) := by decide +kernel
theorem dX11_may_4 : decode cX11_may 4 = .ok (.iload_n 1, 1) := by decide +kernel
theorem dX11_may_5 : decode cX11_may 5 = .ok (.invokevirtual 98, 3) := by decide +kernel
theorem dX11_may_8 : decode cX11_may 8 = .ok (.astore_n 3, 1) := by decide +kernel
theorem dX11_may_9 : decode cX11_may 9 = .ok (.aload_n 3, 1) := by decide +kernel
theorem dX11_may_10 : decode cX11_may 10 = .ok (.ifnonnull 9, 3) := by decide +kernel
theorem dX11_may_13 : decode cX11_may 13 = .ok (.aload_n 0, 1) := by decide +kernel
theorem dX11_may_14 : decode cX11_may 14 = .ok (.iconst (-1), 1) := by decide +kernel
theorem dX11_may_15 : decode cX11_may 15 = .ok (.invokevirtual 75, 3) := by decide +kernel
theorem dX11_may_18 : decode cX11_may 18 = .ok (.ireturn, 1) := by decide +kernel
theorem dX11_may_19 : decode cX11_may 19 = .ok (.iload_n 2, 1) := by decide +kernel
theorem dX11_may_20 : decode cX11_may 20 = .ok (.ifCond .eq 15, 3) := by decide +kernel
theorem dX11_may_23 : decode cX11_may 23 = .ok (.iload_n 2, 1) := by decide +kernel
theorem dX11_may_24 : decode cX11_may 24 = .ok (.iconst 1, 1) := by decide +kernel
theorem dX11_may_25 : decode cX11_may 25 = .ok (.if_icmp .eq 10, 3) := by decide +kernel
theorem dX11_may_28 : decode cX11_may 28 = .ok (.aload_n 0, 1) := by decide +kernel
theorem dX11_may_29 : decode cX11_may 29 = .ok (.bipush (-2), 2) := by decide +kernel
theorem dX11_may_31 : decode cX11_may 31 = .ok (.invokevirtual 75, 3) := by decide +kernel
theorem dX11_may_34 : decode cX11_may 34 = .ok (.ireturn, 1) := by decide +kernel
theorem dX11_may_35 : decode cX11_may 35 = .ok (.aload_n 0, 1) := by decide +kernel
theorem dX11_may_36 : decode cX11_may 36 = .ok (.getfield 49, 3) := by decide +kernel
theorem dX11_may_39 : decode cX11_may 39 = .ok (.getfield 67, 3) := by decide +kernel
theorem dX11_may_42 : decode cX11_may 42 = .ok (.istore 4, 2) := by decide +kernel
theorem dX11_may_44 : decode cX11_may 44 = .ok (.aload_n 0, 1) := by decide +kernel
theorem dX11_may_45 : decode cX11_may 45 = .ok (.getfield 26, 3) := by decide +kernel
theorem dX11_may_48 : decode cX11_may 48 = .ok (.aload_n 0, 1) := by decide +kernel
theorem dX11_may_49 : decode cX11_may 49 = .ok (.getfield 10, 3) := by decide +kernel
theorem dX11_may_52 : decode cX11_may 52 = .ok (.iload 4, 2) := by decide +kernel
theorem dX11_may_54 : decode cX11_may 54 = .ok (.aload_n 0, 1) := by decide +kernel
theorem dX11_may_55 : decode cX11_may 55 = .ok (.getfield 10, 3) := by decide +kernel
theorem dX11_may_58 : decode cX11_may 58 = .ok (.iload 4, 2) := by decide +kernel
theorem dX11_may_60 : decode cX11_may 60 = .ok (.invokevirtual 167, 3) := by decide +kernel
theorem dX11_may_63 : decode cX11_may 63 = .ok (.invokevirtual 219, 3) := by decide +kernel
theorem dX11_may_66 : decode cX11_may 66 = .ok (.aload_n 0, 1) := by decide +kernel
theorem dX11_may_67 : decode cX11_may 67 = .ok (.getfield 26, 3) := by decide +kernel
theorem dX11_may_70 : decode cX11_may 70 = .ok (.aload_n 0, 1) := by decide +kernel
theorem dX11_may_71 : decode cX11_may 71 = .ok (.getfield 26, 3) := by decide +kernel
theorem dX11_may_74 : decode cX11_may 74 = .ok (.iload_n 2, 1) := by decide +kernel
theorem dX11_may_75 : decode cX11_may 75 = .ok (.iload 4, 2) := by decide +kernel
theorem dX11_may_77 : decode cX11_may 77 = .ok (.bipush 24, 2) := by decide +kernel
theorem dX11_may_79 : decode cX11_may 79 = .ok (.idiv, 1) := by decide +kernel
theorem dX11_may_80 : decode cX11_may 80 = .ok (.invokevirtual 223, 3) := by decide +kernel
theorem dX11_may_83 : decode cX11_may 83 = .ok (.aload_n 3, 1) := by decide +kernel
theorem dX11_may_84 : decode cX11_may 84 = .ok (.invokevirtual 227, 3) := by decide +kernel
theorem dX11_may_87 : decode cX11_may 87 = .ok (.l2i, 1) := by decide +kernel
theorem dX11_may_88 : decode cX11_may 88 = .ok (.ireturn, 1) := by decide +kernel
theorem dX11_told_0 : decode cX11_told 0 = .ok (.iload_n 1, 1) := by decide +kernel
theorem dX11_told_1 : decode cX11_told 1 = .ok (.ifCond .lt 25, 3) := by decide +kernel
theorem dX11_told_4 : decode cX11_told 4 = .ok (.iload_n 1, 1) := by decide +kernel
theorem dX11_told_5 : decode cX11_told 5 = .ok (.aload_n 0, 1) := by decide +kernel
theorem dX11_told_6 : decode cX11_told 6 = .ok (.getfield 49, 3) := by decide +kernel
theorem dX11_told_9 : decode cX11_told 9 = .ok (.getfield 231, 3) := by decide +kernel
theorem dX11_told_12 : decode cX11_told 12 = .ok (.arraylength, 1) := by decide +kernel
theorem dX11_told_13 : decode cX11_told 13 = .ok (.if_icmp .ge 13, 3) := by decide +kernel
theorem dX11_told_16 : decode cX11_told 16 = .ok (.aload_n 0, 1) := by decide +kernel
theorem dX11_told_17 : decode cX11_told 17 = .ok (.getfield 49, 3) := by decide +kernel
theorem dX11_told_20 : decode cX11_told 20 = .ok (.getfield 231, 3) := by decide +kernel
theorem dX11_told_23 : decode cX11_told 23 = .ok (.iload_n 1, 1) := by decide +kernel
theorem dX11_told_24 : decode cX11_told 24 = .ok (.laload, 1) := by decide +kernel
theorem dX11_told_25 : decode cX11_told 25 = .ok (.lreturn, 1) := by decide +kernel
theorem dX11_told_26 : decode cX11_told 26 = .ok (.iload_n 1, 1) := by decide +kernel
theorem dX11_told_27 : decode cX11_told 27 = .ok (.bipush 9, 2) := by decide +kernel
theorem dX11_told_29 : decode cX11_told 29 = .ok (.if_icmp .eq 9, 3) := by decide +kernel
theorem dX11_told_32 : decode cX11_told 32 = .ok (.iload_n 1, 1) := by decide +kernel
theorem dX11_told_33 : decode cX11_told 33 = .ok (.bipush 10, 2) := by decide +kernel
theorem dX11_told_35 : decode cX11_told 35 = .ok (.if_icmp .ne 22, 3) := by decide +kernel
theorem dX11_told_38 : decode cX11_told 38 = .ok (.aload_n 0, 1) := by decide +kernel
theorem dX11_told_39 : decode cX11_told 39 = .ok (.getfield 49, 3) := by decide +kernel
theorem dX11_told_42 : decode cX11_told 42 = .ok (.iload_n 1, 1) := by decide +kernel
theorem dX11_told_43 : decode cX11_told 43 = .ok (.bipush 10, 2) := by decide +kernel
theorem dX11_told_45 : decode cX11_told 45 = .ok (.if_icmp .ne 7, 3) := by decide +kernel
theorem dX11_told_48 : decode cX11_told 48 = .ok (.iconst 1, 1) := by decide +kernel
theorem dX11_told_49 : decode cX11_told 49 = .ok (.goto 4, 3) := by decide +kernel
theorem dX11_told_52 : decode cX11_told 52 = .ok (.iconst 0, 1) := by decide +kernel
theorem dX11_told_53 : decode cX11_told 53 = .ok (.invokevirtual 235, 3) := by decide +kernel
theorem dX11_told_56 : decode cX11_told 56 = .ok (.lreturn, 1) := by decide +kernel
theorem dX11_told_57 : decode cX11_told 57 = .ok (.aload_n 0, 1) := by decide +kernel
theorem dX11_told_58 : decode cX11_told 58 = .ok (.bipush (-2), 2) := by decide +kernel
theorem dX11_told_60 : decode cX11_told 60 = .ok (.invokevirtual 119, 3) := by decide +kernel
theorem dX11_told_63 : decode cX11_told 63 = .ok (.lreturn, 1) := by decide +kernel
theorem dX11_given_0 : decode cX11_given 0 = .ok (.aload_n 0, 1) := by decide +kernel
theorem dX11_given_1 : decode cX11_given 1 = .ok (.getfield 49, 3) := by decide +kernel
theorem dX11_given_4 : decode cX11_given 4 = .ok (.iload_n 1, 1) := by decide +kernel
theorem dX11_given_5 : decode cX11_given 5 = .ok (.invokevirtual 98, 3) := by decide +kernel
theorem dX11_given_8 : decode cX11_given 8 = .ok (.astore_n 2, 1) := by decide +kernel
theorem dX11_given_9 : decode cX11_given 9 = .ok (.aload_n 2, 1) := by decide +kernel
theorem dX11_given_10 : decode cX11_given 10 = .ok (.ifnonnull 11, 3) := by decide +kernel
theorem dX11_given_13 : decode cX11_given 13 = .ok (.aload_n 0, 1) := by decide +kernel
theorem dX11_given_14 : decode cX11_given 14 = .ok (.iconst (-1), 1) := by decide +kernel
theorem dX11_given_15 : decode cX11_given 15 = .ok (.invokevirtual 119, 3) := by decide +kernel
theorem dX11_given_18 : decode cX11_given 18 = .ok (.goto 7, 3) := by decide +kernel
theorem dX11_given_21 : decode cX11_given 21 = .ok (.aload_n 2, 1) := by decide +kernel
theorem dX11_given_22 : decode cX11_given 22 = .ok (.getfield 239, 3) := by decide +kernel
theorem dX11_given_25 : decode cX11_given 25 = .ok (.lreturn, 1) := by decide +kernel
theorem dX11_ahead_0 : decode cX11_ahead 0 = .ok (.iload_n 2, 1) := by decide +kernel
theorem dX11_ahead_1 : decode cX11_ahead 1 = .ok (.ifCond .lt 19, 3) := by decide +kernel
theorem dX11_ahead_4 : decode cX11_ahead 4 = .ok (.iload_n 2, 1) := by decide +kernel
theorem dX11_ahead_5 : decode cX11_ahead 5 = .ok (.iconst 1, 1) := by decide +kernel
theorem dX11_ahead_6 : decode cX11_ahead 6 = .ok (.aload_n 0, 1) := by decide +kernel
theorem dX11_ahead_7 : decode cX11_ahead 7 = .ok (.getfield 49, 3) := by decide +kernel
theorem dX11_ahead_10 : decode cX11_ahead 10 = .ok (.getfield 82, 3) := by decide +kernel
theorem dX11_ahead_13 : decode cX11_ahead 13 = .ok (.invokevirtual 85, 3) := by decide +kernel
theorem dX11_ahead_16 : decode cX11_ahead 16 = .ok (.ishl, 1) := by decide +kernel
theorem dX11_ahead_17 : decode cX11_ahead 17 = .ok (.if_icmp .lt 9, 3) := by decide +kernel
theorem dX11_ahead_20 : decode cX11_ahead 20 = .ok (.aload_n 0, 1) := by decide +kernel
theorem dX11_ahead_21 : decode cX11_ahead 21 = .ok (.iconst (-1), 1) := by decide +kernel
theorem dX11_ahead_22 : decode cX11_ahead 22 = .ok (.invokevirtual 119, 3) := by decide +kernel
theorem dX11_ahead_25 : decode cX11_ahead 25 = .ok (.lreturn, 1) := by decide +kernel
theorem dX11_ahead_26 : decode cX11_ahead 26 = .ok (.iload_n 3, 1) := by decide +kernel
theorem dX11_ahead_27 : decode cX11_ahead 27 = .ok (.ifCond .lt 8, 3) := by decide +kernel
theorem dX11_ahead_30 : decode cX11_ahead 30 = .ok (.iload_n 3, 1) := by decide +kernel
theorem dX11_ahead_31 : decode cX11_ahead 31 = .ok (.iconst 2, 1) := by decide +kernel
theorem dX11_ahead_32 : decode cX11_ahead 32 = .ok (.if_icmp .le 10, 3) := by decide +kernel
theorem dX11_ahead_35 : decode cX11_ahead 35 = .ok (.aload_n 0, 1) := by decide +kernel
theorem dX11_ahead_36 : decode cX11_ahead 36 = .ok (.bipush (-2), 2) := by decide +kernel
theorem dX11_ahead_38 : decode cX11_ahead 38 = .ok (.invokevirtual 119, 3) := by decide +kernel
theorem dX11_ahead_41 : decode cX11_ahead 41 = .ok (.lreturn, 1) := by decide +kernel
theorem dX11_ahead_42 : decode cX11_ahead 42 = .ok (.iload_n 1, 1) := by decide +kernel
theorem dX11_ahead_43 : decode cX11_ahead 43 = .ok (.iconst 1, 1) := by decide +kernel
theorem dX11_ahead_44 : decode cX11_ahead 44 = .ok (.sipush 500, 3) := by decide +kernel
theorem dX11_ahead_47 : decode cX11_ahead 47 = .ok (.invokestatic 71, 3) := by decide +kernel
theorem dX11_ahead_50 : decode cX11_ahead 50 = .ok (.istore 4, 2) := by decide +kernel
theorem dX11_ahead_52 : decode cX11_ahead 52 = .ok (.iload 4, 2) := by decide +kernel
theorem dX11_ahead_54 : decode cX11_ahead 54 = .ok (.ifCond .eq 10, 3) := by decide +kernel
theorem dX11_ahead_57 : decode cX11_ahead 57 = .ok (.aload_n 0, 1) := by decide +kernel
theorem dX11_ahead_58 : decode cX11_ahead 58 = .ok (.iload 4, 2) := by decide +kernel
theorem dX11_ahead_60 : decode cX11_ahead 60 = .ok (.invokevirtual 119, 3) := by decide +kernel
theorem dX11_ahead_63 : decode cX11_ahead 63 = .ok (.lreturn, 1) := by decide +kernel
theorem dX11_ahead_64 : decode cX11_ahead 64 = .ok (.iload_n 3, 1) := by decide +kernel
theorem dX11_ahead_65 : decode cX11_ahead 65 = .ok (.iconst 2, 1) := by decide +kernel
theorem dX11_ahead_66 : decode cX11_ahead 66 = .ok (.if_icmp .eq 23, 3) := by decide +kernel
theorem dX11_ahead_69 : decode cX11_ahead 69 = .ok (.aload_n 0, 1) := by decide +kernel
theorem dX11_ahead_70 : decode cX11_ahead 70 = .ok (.getfield 49, 3) := by decide +kernel
theorem dX11_ahead_73 : decode cX11_ahead 73 = .ok (.getfield 82, 3) := by decide +kernel
theorem dX11_ahead_76 : decode cX11_ahead 76 = .ok (.invokevirtual 242, 3) := by decide +kernel
theorem dX11_ahead_79 : decode cX11_ahead 79 = .ok (.ifCond .eq 10, 3) := by decide +kernel
theorem dX11_ahead_82 : decode cX11_ahead 82 = .ok (.aload_n 0, 1) := by decide +kernel
theorem dX11_ahead_83 : decode cX11_ahead 83 = .ok (.bipush (-3), 2) := by decide +kernel
theorem dX11_ahead_85 : decode cX11_ahead 85 = .ok (.invokevirtual 119, 3) := by decide +kernel
theorem dX11_ahead_88 : decode cX11_ahead 88 = .ok (.lreturn, 1) := by decide +kernel
theorem dX11_ahead_89 : decode cX11_ahead 89 = .ok (.aload_n 0, 1) := by decide +kernel
theorem dX11_ahead_90 : decode cX11_ahead 90 = .ok (.getfield 53, 3) := by decide +kernel
theorem dX11_ahead_93 : decode cX11_ahead 93 = .ok (.aload_n 0, 1) := by decide +kernel
theorem dX11_ahead_94 : decode cX11_ahead 94 = .ok (.getfield 49, 3) := by decide +kernel
theorem dX11_ahead_97 : decode cX11_ahead 97 = .ok (.invokevirtual 245, 3) := by decide +kernel
theorem dX11_ahead_100 : decode cX11_ahead 100 = .ok (.aload_n 0, 1) := by decide +kernel
theorem dX11_ahead_101 : decode cX11_ahead 101 = .ok (.getfield 53, 3) := by decide +kernel
theorem dX11_ahead_104 : decode cX11_ahead 104 = .ok (.iload_n 2, 1) := by decide +kernel
theorem dX11_ahead_105 : decode cX11_ahead 105 = .ok (.invokevirtual 249, 3) := by decide +kernel
theorem dX11_ahead_108 : decode cX11_ahead 108 = .ok (.aload_n 0, 1) := by decide +kernel
theorem dX11_ahead_109 : decode cX11_ahead 109 = .ok (.iload_n 1, 1) := by decide +kernel
theorem dX11_ahead_110 : decode cX11_ahead 110 = .ok (.invokevirtual 252, 3) := by decide +kernel
theorem dX11_ahead_113 : decode cX11_ahead 113 = .ok (.iload_n 3, 1) := by decide +kernel
theorem dX11_ahead_114 : decode cX11_ahead 114 = .ok (.iconst 2, 1) := by decide +kernel
theorem dX11_ahead_115 : decode cX11_ahead 115 = .ok (.if_icmp .ne 23, 3) := by decide +kernel
theorem dX11_ahead_118 : decode cX11_ahead 118 = .ok (.aload_n 0, 1) := by decide +kernel
theorem dX11_ahead_119 : decode cX11_ahead 119 = .ok (.getfield 53, 3) := by decide +kernel
theorem dX11_ahead_122 : decode cX11_ahead 122 = .ok (.getfield 231, 3) := by decide +kernel
theorem dX11_ahead_125 : decode cX11_ahead 125 = .ok (.iconst 5, 1) := by decide +kernel
theorem dX11_ahead_126 : decode cX11_ahead 126 = .ok (.laload, 1) := by decide +kernel
theorem dX11_ahead_127 : decode cX11_ahead 127 = .ok (.aload_n 0, 1) := by decide +kernel
theorem dX11_ahead_128 : decode cX11_ahead 128 = .ok (.getfield 49, 3) := by decide +kernel
theorem dX11_ahead_131 : decode cX11_ahead 131 = .ok (.getfield 231, 3) := by decide +kernel
theorem dX11_ahead_134 : decode cX11_ahead 134 = .ok (.iconst 5, 1) := by decide +kernel
theorem dX11_ahead_135 : decode cX11_ahead 135 = .ok (.laload, 1) := by decide +kernel
theorem dX11_ahead_136 : decode cX11_ahead 136 = .ok (.lsub, 1) := by decide +kernel
theorem dX11_ahead_137 : decode cX11_ahead 137 = .ok (.lreturn, 1) := by decide +kernel
theorem dX11_ahead_138 : decode cX11_ahead 138 = .ok (.iload_n 3, 1) := by decide +kernel
theorem dX11_ahead_139 : decode cX11_ahead 139 = .ok (.ifCond .ne 10, 3) := by decide +kernel
theorem dX11_ahead_142 : decode cX11_ahead 142 = .ok (.aload_n 0, 1) := by decide +kernel
theorem dX11_ahead_143 : decode cX11_ahead 143 = .ok (.getfield 255, 3) := by decide +kernel
theorem dX11_ahead_146 : decode cX11_ahead 146 = .ok (.goto 8, 3) := by decide +kernel
theorem dX11_ahead_149 : decode cX11_ahead 149 = .ok (.aload_n 0, 1) := by decide +kernel
theorem dX11_ahead_150 : decode cX11_ahead 150 = .ok (.getfield 258, 3) := by decide +kernel
theorem dX11_ahead_153 : decode cX11_ahead 153 = .ok (.i2l, 1) := by decide +kernel
theorem dX11_ahead_154 : decode cX11_ahead 154 = .ok (.lreturn, 1) := by decide +kernel
theorem dX11_few_0 : decode cX11_few 0 = .ok (.iload_n 1, 1) := by decide +kernel
theorem dX11_few_1 : decode cX11_few 1 = .ok (.iconst 1, 1) := by decide +kernel
theorem dX11_few_2 : decode cX11_few 2 = .ok (.if_icmp .lt 7, 3) := by decide +kernel
theorem dX11_few_5 : decode cX11_few 5 = .ok (.iload_n 2, 1) := by decide +kernel
theorem dX11_few_6 : decode cX11_few 6 = .ok (.ifCond .ge 10, 3) := by decide +kernel
theorem dX11_few_9 : decode cX11_few 9 = .ok (.aload_n 0, 1) := by decide +kernel
theorem dX11_few_10 : decode cX11_few 10 = .ok (.bipush (-4), 2) := by decide +kernel
theorem dX11_few_12 : decode cX11_few 12 = .ok (.invokevirtual 75, 3) := by decide +kernel
theorem dX11_few_15 : decode cX11_few 15 = .ok (.ireturn, 1) := by decide +kernel
theorem dX11_few_16 : decode cX11_few 16 = .ok (.iload_n 1, 1) := by decide +kernel
theorem dX11_few_17 : decode cX11_few 17 = .ok (.bipush 100, 2) := by decide +kernel
theorem dX11_few_19 : decode cX11_few 19 = .ok (.if_icmp .gt 9, 3) := by decide +kernel
theorem dX11_few_22 : decode cX11_few 22 = .ok (.iload_n 2, 1) := by decide +kernel
theorem dX11_few_23 : decode cX11_few 23 = .ok (.ldc 159, 2) := by decide +kernel
theorem dX11_few_25 : decode cX11_few 25 = .ok (.if_icmp .le 10, 3) := by decide +kernel
theorem dX11_few_28 : decode cX11_few 28 = .ok (.aload_n 0, 1) := by decide +kernel
theorem dX11_few_29 : decode cX11_few 29 = .ok (.bipush (-6), 2) := by decide +kernel
theorem dX11_few_31 : decode cX11_few 31 = .ok (.invokevirtual 75, 3) := by decide +kernel
theorem dX11_few_34 : decode cX11_few 34 = .ok (.ireturn, 1) := by decide +kernel
theorem dX11_few_35 : decode cX11_few 35 = .ok (.aload_n 0, 1) := by decide +kernel
theorem dX11_few_36 : decode cX11_few 36 = .ok (.getfield 49, 3) := by decide +kernel
theorem dX11_few_39 : decode cX11_few 39 = .ok (.getfield 82, 3) := by decide +kernel
theorem dX11_few_42 : decode cX11_few 42 = .ok (.invokevirtual 85, 3) := by decide +kernel
theorem dX11_few_45 : decode cX11_few 45 = .ok (.istore_n 3, 1) := by decide +kernel
theorem dX11_few_46 : decode cX11_few 46 = .ok (.iconst 0, 1) := by decide +kernel
theorem dX11_few_47 : decode cX11_few 47 = .ok (.istore 4, 2) := by decide +kernel
theorem dX11_few_49 : decode cX11_few 49 = .ok (.iload 4, 2) := by decide +kernel
theorem dX11_few_51 : decode cX11_few 51 = .ok (.iload_n 3, 1) := by decide +kernel
theorem dX11_few_52 : decode cX11_few 52 = .ok (.if_icmp .gt 51, 3) := by decide +kernel
theorem dX11_few_55 : decode cX11_few 55 = .ok (.iconst 0, 1) := by decide +kernel
theorem dX11_few_56 : decode cX11_few 56 = .ok (.istore 5, 2) := by decide +kernel
theorem dX11_few_58 : decode cX11_few 58 = .ok (.iload 5, 2) := by decide +kernel
theorem dX11_few_60 : decode cX11_few 60 = .ok (.iconst 1, 1) := by decide +kernel
theorem dX11_few_61 : decode cX11_few 61 = .ok (.iload_n 3, 1) := by decide +kernel
theorem dX11_few_62 : decode cX11_few 62 = .ok (.ishl, 1) := by decide +kernel
theorem dX11_few_63 : decode cX11_few 63 = .ok (.if_icmp .ge 34, 3) := by decide +kernel
theorem dX11_few_66 : decode cX11_few 66 = .ok (.iload 5, 2) := by decide +kernel
theorem dX11_few_68 : decode cX11_few 68 = .ok (.invokestatic 261, 3) := by decide +kernel
theorem dX11_few_71 : decode cX11_few 71 = .ok (.iload 4, 2) := by decide +kernel
theorem dX11_few_73 : decode cX11_few 73 = .ok (.if_icmp .ne 18, 3) := by decide +kernel
theorem dX11_few_76 : decode cX11_few 76 = .ok (.aload_n 0, 1) := by decide +kernel
theorem dX11_few_77 : decode cX11_few 77 = .ok (.iload 5, 2) := by decide +kernel
theorem dX11_few_79 : decode cX11_few 79 = .ok (.iload_n 1, 1) := by decide +kernel
theorem dX11_few_80 : decode cX11_few 80 = .ok (.iload_n 2, 1) := by decide +kernel
theorem dX11_few_81 : decode cX11_few 81 = .ok (.i2l, 1) := by decide +kernel
theorem dX11_few_82 : decode cX11_few 82 = .ok (.invokevirtual 266, 3) := by decide +kernel
theorem dX11_few_85 : decode cX11_few 85 = .ok (.ifCond .eq 6, 3) := by decide +kernel
theorem dX11_few_88 : decode cX11_few 88 = .ok (.iload 5, 2) := by decide +kernel
theorem dX11_few_90 : decode cX11_few 90 = .ok (.ireturn, 1) := by decide +kernel
theorem dX11_few_91 : decode cX11_few 91 = .ok (.iinc 5 1, 3) := by decide +kernel
theorem dX11_few_94 : decode cX11_few 94 = .ok (.goto (-36), 3) := by decide +kernel
theorem dX11_few_97 : decode cX11_few 97 = .ok (.iinc 4 1, 3) := by decide +kernel
theorem dX11_few_100 : decode cX11_few 100 = .ok (.goto (-51), 3) := by decide +kernel
theorem dX11_few_103 : decode cX11_few 103 = .ok (.bipush (-9), 2) := by decide +kernel
theorem dX11_few_105 : decode cX11_few 105 = .ok (.ireturn, 1) := by decide +kernel
theorem dX11_takenFrom_0 : decode cX11_takenFrom 0 = .ok (.aload_n 0, 1) := by decide +kernel
theorem dX11_takenFrom_1 : decode cX11_takenFrom 1 = .ok (.getfield 49, 3) := by decide +kernel
theorem dX11_takenFrom_4 : decode cX11_takenFrom 4 = .ok (.iload_n 1, 1) := by decide +kernel
theorem dX11_takenFrom_5 : decode cX11_takenFrom 5 = .ok (.invokevirtual 98, 3) := by decide +kernel
theorem dX11_takenFrom_8 : decode cX11_takenFrom 8 = .ok (.ifnull 19, 3) := by decide +kernel
theorem dX11_takenFrom_11 : decode cX11_takenFrom 11 = .ok (.aload_n 0, 1) := by decide +kernel
theorem dX11_takenFrom_12 : decode cX11_takenFrom 12 = .ok (.getfield 49, 3) := by decide +kernel
theorem dX11_takenFrom_15 : decode cX11_takenFrom 15 = .ok (.iload_n 2, 1) := by decide +kernel
theorem dX11_takenFrom_16 : decode cX11_takenFrom 16 = .ok (.invokevirtual 98, 3) := by decide +kernel
theorem dX11_takenFrom_19 : decode cX11_takenFrom 19 = .ok (.ifnull 8, 3) := by decide +kernel
theorem dX11_takenFrom_22 : decode cX11_takenFrom 22 = .ok (.iload_n 1, 1) := by decide +kernel
theorem dX11_takenFrom_23 : decode cX11_takenFrom 23 = .ok (.iload_n 2, 1) := by decide +kernel
theorem dX11_takenFrom_24 : decode cX11_takenFrom 24 = .ok (.if_icmp .ne 9, 3) := by decide +kernel
theorem dX11_takenFrom_27 : decode cX11_takenFrom 27 = .ok (.aload_n 0, 1) := by decide +kernel
theorem dX11_takenFrom_28 : decode cX11_takenFrom 28 = .ok (.iconst (-1), 1) := by decide +kernel
theorem dX11_takenFrom_29 : decode cX11_takenFrom 29 = .ok (.invokevirtual 119, 3) := by decide +kernel
theorem dX11_takenFrom_32 : decode cX11_takenFrom 32 = .ok (.lreturn, 1) := by decide +kernel
theorem dX11_takenFrom_33 : decode cX11_takenFrom 33 = .ok (.iload_n 3, 1) := by decide +kernel
theorem dX11_takenFrom_34 : decode cX11_takenFrom 34 = .ok (.iconst 1, 1) := by decide +kernel
theorem dX11_takenFrom_35 : decode cX11_takenFrom 35 = .ok (.sipush 500, 3) := by decide +kernel
theorem dX11_takenFrom_38 : decode cX11_takenFrom 38 = .ok (.invokestatic 71, 3) := by decide +kernel
theorem dX11_takenFrom_41 : decode cX11_takenFrom 41 = .ok (.istore 4, 2) := by decide +kernel
theorem dX11_takenFrom_43 : decode cX11_takenFrom 43 = .ok (.iload 4, 2) := by decide +kernel
theorem dX11_takenFrom_45 : decode cX11_takenFrom 45 = .ok (.ifCond .eq 10, 3) := by decide +kernel
theorem dX11_takenFrom_48 : decode cX11_takenFrom 48 = .ok (.aload_n 0, 1) := by decide +kernel
theorem dX11_takenFrom_49 : decode cX11_takenFrom 49 = .ok (.iload 4, 2) := by decide +kernel
theorem dX11_takenFrom_51 : decode cX11_takenFrom 51 = .ok (.invokevirtual 119, 3) := by decide +kernel
theorem dX11_takenFrom_54 : decode cX11_takenFrom 54 = .ok (.lreturn, 1) := by decide +kernel
theorem dX11_takenFrom_55 : decode cX11_takenFrom 55 = .ok (.aload_n 0, 1) := by decide +kernel
theorem dX11_takenFrom_56 : decode cX11_takenFrom 56 = .ok (.iload_n 1, 1) := by decide +kernel
theorem dX11_takenFrom_57 : decode cX11_takenFrom 57 = .ok (.iconst 0, 1) := by decide +kernel
theorem dX11_takenFrom_58 : decode cX11_takenFrom 58 = .ok (.iload_n 3, 1) := by decide +kernel
theorem dX11_takenFrom_59 : decode cX11_takenFrom 59 = .ok (.invokevirtual 270, 3) := by decide +kernel
theorem dX11_takenFrom_62 : decode cX11_takenFrom 62 = .ok (.lstore 5, 2) := by decide +kernel
theorem dX11_takenFrom_64 : decode cX11_takenFrom 64 = .ok (.aload_n 0, 1) := by decide +kernel
theorem dX11_takenFrom_65 : decode cX11_takenFrom 65 = .ok (.iload_n 1, 1) := by decide +kernel
theorem dX11_takenFrom_66 : decode cX11_takenFrom 66 = .ok (.iconst 1, 1) := by decide +kernel
theorem dX11_takenFrom_67 : decode cX11_takenFrom 67 = .ok (.iload_n 2, 1) := by decide +kernel
theorem dX11_takenFrom_68 : decode cX11_takenFrom 68 = .ok (.ishl, 1) := by decide +kernel
theorem dX11_takenFrom_69 : decode cX11_takenFrom 69 = .ok (.iload_n 3, 1) := by decide +kernel
theorem dX11_takenFrom_70 : decode cX11_takenFrom 70 = .ok (.invokevirtual 270, 3) := by decide +kernel
theorem dX11_takenFrom_73 : decode cX11_takenFrom 73 = .ok (.lload 5, 2) := by decide +kernel
theorem dX11_takenFrom_75 : decode cX11_takenFrom 75 = .ok (.lsub, 1) := by decide +kernel
theorem dX11_takenFrom_76 : decode cX11_takenFrom 76 = .ok (.lreturn, 1) := by decide +kernel
theorem dX11_tank_0 : decode cX11_tank 0 = .ok (.iload_n 1, 1) := by decide +kernel
theorem dX11_tank_1 : decode cX11_tank 1 = .ok (.ifCond .lt 8, 3) := by decide +kernel
theorem dX11_tank_4 : decode cX11_tank 4 = .ok (.iload_n 2, 1) := by decide +kernel
theorem dX11_tank_5 : decode cX11_tank 5 = .ok (.iconst 1, 1) := by decide +kernel
theorem dX11_tank_6 : decode cX11_tank 6 = .ok (.if_icmp .ge 10, 3) := by decide +kernel
theorem dX11_tank_9 : decode cX11_tank 9 = .ok (.aload_n 0, 1) := by decide +kernel
theorem dX11_tank_10 : decode cX11_tank 10 = .ok (.bipush (-4), 2) := by decide +kernel
theorem dX11_tank_12 : decode cX11_tank 12 = .ok (.invokevirtual 75, 3) := by decide +kernel
theorem dX11_tank_15 : decode cX11_tank 15 = .ok (.ireturn, 1) := by decide +kernel
theorem dX11_tank_16 : decode cX11_tank 16 = .ok (.iload_n 1, 1) := by decide +kernel
theorem dX11_tank_17 : decode cX11_tank 17 = .ok (.bipush 9, 2) := by decide +kernel
theorem dX11_tank_19 : decode cX11_tank 19 = .ok (.if_icmp .gt 10, 3) := by decide +kernel
theorem dX11_tank_22 : decode cX11_tank 22 = .ok (.iload_n 2, 1) := by decide +kernel
theorem dX11_tank_23 : decode cX11_tank 23 = .ok (.sipush 9999, 3) := by decide +kernel
theorem dX11_tank_26 : decode cX11_tank 26 = .ok (.if_icmp .le 10, 3) := by decide +kernel
theorem dX11_tank_29 : decode cX11_tank 29 = .ok (.aload_n 0, 1) := by decide +kernel
theorem dX11_tank_30 : decode cX11_tank 30 = .ok (.bipush (-6), 2) := by decide +kernel
theorem dX11_tank_32 : decode cX11_tank 32 = .ok (.invokevirtual 75, 3) := by decide +kernel
theorem dX11_tank_35 : decode cX11_tank 35 = .ok (.ireturn, 1) := by decide +kernel
theorem dX11_tank_36 : decode cX11_tank 36 = .ok (.aload_n 0, 1) := by decide +kernel
theorem dX11_tank_37 : decode cX11_tank 37 = .ok (.getfield 40, 3) := by decide +kernel
theorem dX11_tank_40 : decode cX11_tank 40 = .ok (.getfield 274, 3) := by decide +kernel
theorem dX11_tank_43 : decode cX11_tank 43 = .ok (.istore_n 3, 1) := by decide +kernel
theorem dX11_tank_44 : decode cX11_tank 44 = .ok (.aload_n 0, 1) := by decide +kernel
theorem dX11_tank_45 : decode cX11_tank 45 = .ok (.getfield 40, 3) := by decide +kernel
theorem dX11_tank_48 : decode cX11_tank 48 = .ok (.iload_n 1, 1) := by decide +kernel
theorem dX11_tank_49 : decode cX11_tank 49 = .ok (.putfield 274, 3) := by decide +kernel
theorem dX11_tank_52 : decode cX11_tank 52 = .ok (.aload_n 0, 1) := by decide +kernel
theorem dX11_tank_53 : decode cX11_tank 53 = .ok (.getfield 40, 3) := by decide +kernel
theorem dX11_tank_56 : decode cX11_tank 56 = .ok (.iload_n 2, 1) := by decide +kernel
theorem dX11_tank_57 : decode cX11_tank 57 = .ok (.putfield 277, 3) := by decide +kernel
theorem dX11_tank_60 : decode cX11_tank 60 = .ok (.iload_n 3, 1) := by decide +kernel
theorem dX11_tank_61 : decode cX11_tank 61 = .ok (.ireturn, 1) := by decide +kernel
theorem dX11_best_0 : decode cX11_best 0 = .ok (.iload_n 1, 1) := by decide +kernel
theorem dX11_best_1 : decode cX11_best 1 = .ok (.ifCond .lt 9, 3) := by decide +kernel
theorem dX11_best_4 : decode cX11_best 4 = .ok (.iload_n 1, 1) := by decide +kernel
theorem dX11_best_5 : decode cX11_best 5 = .ok (.bipush 24, 2) := by decide +kernel
theorem dX11_best_7 : decode cX11_best 7 = .ok (.if_icmp .le 10, 3) := by decide +kernel
theorem dX11_best_10 : decode cX11_best 10 = .ok (.aload_n 0, 1) := by decide +kernel
theorem dX11_best_11 : decode cX11_best 11 = .ok (.bipush (-2), 2) := by decide +kernel
theorem dX11_best_13 : decode cX11_best 13 = .ok (.invokevirtual 119, 3) := by decide +kernel
theorem dX11_best_16 : decode cX11_best 16 = .ok (.lreturn, 1) := by decide +kernel
theorem dX11_best_17 : decode cX11_best 17 = .ok (.aload_n 0, 1) := by decide +kernel
theorem dX11_best_18 : decode cX11_best 18 = .ok (.getfield 40, 3) := by decide +kernel
theorem dX11_best_21 : decode cX11_best 21 = .ok (.aload_n 0, 1) := by decide +kernel
theorem dX11_best_22 : decode cX11_best 22 = .ok (.getfield 10, 3) := by decide +kernel
theorem dX11_best_25 : decode cX11_best 25 = .ok (.aload_n 0, 1) := by decide +kernel
theorem dX11_best_26 : decode cX11_best 26 = .ok (.getfield 49, 3) := by decide +kernel
theorem dX11_best_29 : decode cX11_best 29 = .ok (.getfield 67, 3) := by decide +kernel
theorem dX11_best_32 : decode cX11_best 32 = .ok (.invokevirtual 278, 3) := by decide +kernel
theorem dX11_best_35 : decode cX11_best 35 = .ok (.iload_n 1, 1) := by decide +kernel
theorem dX11_best_36 : decode cX11_best 36 = .ok (.aload_n 0, 1) := by decide +kernel
theorem dX11_best_37 : decode cX11_best 37 = .ok (.getfield 40, 3) := by decide +kernel
theorem dX11_best_40 : decode cX11_best 40 = .ok (.getfield 282, 3) := by decide +kernel
theorem dX11_best_43 : decode cX11_best 43 = .ok (.arraylength, 1) := by decide +kernel
theorem dX11_best_44 : decode cX11_best 44 = .ok (.if_icmp .ge 15, 3) := by decide +kernel
theorem dX11_best_47 : decode cX11_best 47 = .ok (.aload_n 0, 1) := by decide +kernel
theorem dX11_best_48 : decode cX11_best 48 = .ok (.getfield 40, 3) := by decide +kernel
theorem dX11_best_51 : decode cX11_best 51 = .ok (.getfield 282, 3) := by decide +kernel
theorem dX11_best_54 : decode cX11_best 54 = .ok (.iload_n 1, 1) := by decide +kernel
theorem dX11_best_55 : decode cX11_best 55 = .ok (.laload, 1) := by decide +kernel
theorem dX11_best_56 : decode cX11_best 56 = .ok (.goto 10, 3) := by decide +kernel
theorem dX11_best_59 : decode cX11_best 59 = .ok (.aload_n 0, 1) := by decide +kernel
theorem dX11_best_60 : decode cX11_best 60 = .ok (.getfield 40, 3) := by decide +kernel
theorem dX11_best_63 : decode cX11_best 63 = .ok (.invokevirtual 285, 3) := by decide +kernel
theorem dX11_best_66 : decode cX11_best 66 = .ok (.lreturn, 1) := by decide +kernel
theorem dX11_reading_0 : decode cX11_reading 0 = .ok (.aload_n 0, 1) := by decide +kernel
theorem dX11_reading_1 : decode cX11_reading 1 = .ok (.getfield 49, 3) := by decide +kernel
theorem dX11_reading_4 : decode cX11_reading 4 = .ok (.iload_n 1, 1) := by decide +kernel
theorem dX11_reading_5 : decode cX11_reading 5 = .ok (.invokevirtual 98, 3) := by decide +kernel
theorem dX11_reading_8 : decode cX11_reading 8 = .ok (.astore_n 3, 1) := by decide +kernel
theorem dX11_reading_9 : decode cX11_reading 9 = .ok (.aload_n 3, 1) := by decide +kernel
theorem dX11_reading_10 : decode cX11_reading 10 = .ok (.ifnonnull 9, 3) := by decide +kernel
theorem dX11_reading_13 : decode cX11_reading 13 = .ok (.aload_n 0, 1) := by decide +kernel
theorem dX11_reading_14 : decode cX11_reading 14 = .ok (.iconst (-1), 1) := by decide +kernel
theorem dX11_reading_15 : decode cX11_reading 15 = .ok (.invokevirtual 75, 3) := by decide +kernel
theorem dX11_reading_18 : decode cX11_reading 18 = .ok (.ireturn, 1) := by decide +kernel
theorem dX11_reading_19 : decode cX11_reading 19 = .ok (.aload_n 0, 1) := by decide +kernel
theorem dX11_reading_20 : decode cX11_reading 20 = .ok (.getfield 59, 3) := by decide +kernel
theorem dX11_reading_23 : decode cX11_reading 23 = .ok (.invokevirtual 85, 3) := by decide +kernel
theorem dX11_reading_26 : decode cX11_reading 26 = .ok (.istore 4, 2) := by decide +kernel
theorem dX11_reading_28 : decode cX11_reading 28 = .ok (.iload_n 2, 1) := by decide +kernel
theorem dX11_reading_29 : decode cX11_reading 29 = .ok (.ldc 180, 2) := by decide +kernel
theorem dX11_reading_31 : decode cX11_reading 31 = .ok (.if_icmp .ge 10, 3) := by decide +kernel
theorem dX11_reading_34 : decode cX11_reading 34 = .ok (.aload_n 0, 1) := by decide +kernel
theorem dX11_reading_35 : decode cX11_reading 35 = .ok (.bipush (-4), 2) := by decide +kernel
theorem dX11_reading_37 : decode cX11_reading 37 = .ok (.invokevirtual 75, 3) := by decide +kernel
theorem dX11_reading_40 : decode cX11_reading 40 = .ok (.ireturn, 1) := by decide +kernel
theorem dX11_reading_41 : decode cX11_reading 41 = .ok (.iload_n 2, 1) := by decide +kernel
theorem dX11_reading_42 : decode cX11_reading 42 = .ok (.ldc 181, 2) := by decide +kernel
theorem dX11_reading_44 : decode cX11_reading 44 = .ok (.if_icmp .gt 10, 3) := by decide +kernel
theorem dX11_reading_47 : decode cX11_reading 47 = .ok (.iload 4, 2) := by decide +kernel
theorem dX11_reading_49 : decode cX11_reading 49 = .ok (.bipush 20, 2) := by decide +kernel
theorem dX11_reading_51 : decode cX11_reading 51 = .ok (.if_icmp .lt 10, 3) := by decide +kernel
theorem dX11_reading_54 : decode cX11_reading 54 = .ok (.aload_n 0, 1) := by decide +kernel
theorem dX11_reading_55 : decode cX11_reading 55 = .ok (.bipush (-6), 2) := by decide +kernel
theorem dX11_reading_57 : decode cX11_reading 57 = .ok (.invokevirtual 75, 3) := by decide +kernel
theorem dX11_reading_60 : decode cX11_reading 60 = .ok (.ireturn, 1) := by decide +kernel
theorem dX11_reading_61 : decode cX11_reading 61 = .ok (.aload_n 0, 1) := by decide +kernel
theorem dX11_reading_62 : decode cX11_reading 62 = .ok (.getfield 59, 3) := by decide +kernel
theorem dX11_reading_65 : decode cX11_reading 65 = .ok (.new 289, 3) := by decide +kernel
theorem dX11_reading_68 : decode cX11_reading 68 = .ok (.dup, 1) := by decide +kernel
theorem dX11_reading_69 : decode cX11_reading 69 = .ok (.iload_n 1, 1) := by decide +kernel
theorem dX11_reading_70 : decode cX11_reading 70 = .ok (.aload_n 0, 1) := by decide +kernel
theorem dX11_reading_71 : decode cX11_reading 71 = .ok (.getfield 49, 3) := by decide +kernel
theorem dX11_reading_74 : decode cX11_reading 74 = .ok (.getfield 67, 3) := by decide +kernel
theorem dX11_reading_77 : decode cX11_reading 77 = .ok (.iload_n 2, 1) := by decide +kernel
theorem dX11_reading_78 : decode cX11_reading 78 = .ok (.i2l, 1) := by decide +kernel
theorem dX11_reading_79 : decode cX11_reading 79 = .ok (.aload_n 3, 1) := by decide +kernel
theorem dX11_reading_80 : decode cX11_reading 80 = .ok (.getfield 291, 3) := by decide +kernel
theorem dX11_reading_83 : decode cX11_reading 83 = .ok (.getfield 129, 3) := by decide +kernel
theorem dX11_reading_86 : decode cX11_reading 86 = .ok (.lsub, 1) := by decide +kernel
theorem dX11_reading_87 : decode cX11_reading 87 = .ok (.invokespecial 295, 3) := by decide +kernel
theorem dX11_reading_90 : decode cX11_reading 90 = .ok (.invokevirtual 94, 3) := by decide +kernel
theorem dX11_reading_93 : decode cX11_reading 93 = .ok (.pop, 1) := by decide +kernel
theorem dX11_reading_94 : decode cX11_reading 94 = .ok (.iload 4, 2) := by decide +kernel
theorem dX11_reading_96 : decode cX11_reading 96 = .ok (.ireturn, 1) := by decide +kernel
theorem dX11_wrong_0 : decode cX11_wrong 0 = .ok (.iload_n 1, 1) := by decide +kernel
theorem dX11_wrong_1 : decode cX11_wrong 1 = .ok (.ifCond .lt 14, 3) := by decide +kernel
theorem dX11_wrong_4 : decode cX11_wrong 4 = .ok (.iload_n 1, 1) := by decide +kernel
theorem dX11_wrong_5 : decode cX11_wrong 5 = .ok (.aload_n 0, 1) := by decide +kernel
theorem dX11_wrong_6 : decode cX11_wrong 6 = .ok (.getfield 59, 3) := by decide +kernel
theorem dX11_wrong_9 : decode cX11_wrong 9 = .ok (.invokevirtual 85, 3) := by decide +kernel
theorem dX11_wrong_12 : decode cX11_wrong 12 = .ok (.if_icmp .lt 11, 3) := by decide +kernel
theorem dX11_wrong_15 : decode cX11_wrong 15 = .ok (.aload_n 0, 1) := by decide +kernel
theorem dX11_wrong_16 : decode cX11_wrong 16 = .ok (.iconst (-1), 1) := by decide +kernel
theorem dX11_wrong_17 : decode cX11_wrong 17 = .ok (.invokevirtual 119, 3) := by decide +kernel
theorem dX11_wrong_20 : decode cX11_wrong 20 = .ok (.goto 17, 3) := by decide +kernel
theorem dX11_wrong_23 : decode cX11_wrong 23 = .ok (.aload_n 0, 1) := by decide +kernel
theorem dX11_wrong_24 : decode cX11_wrong 24 = .ok (.getfield 59, 3) := by decide +kernel
theorem dX11_wrong_27 : decode cX11_wrong 27 = .ok (.iload_n 1, 1) := by decide +kernel
theorem dX11_wrong_28 : decode cX11_wrong 28 = .ok (.invokevirtual 145, 3) := by decide +kernel
theorem dX11_wrong_31 : decode cX11_wrong 31 = .ok (.checkcast 289, 3) := by decide +kernel
theorem dX11_wrong_34 : decode cX11_wrong 34 = .ok (.getfield 298, 3) := by decide +kernel
theorem dX11_wrong_37 : decode cX11_wrong 37 = .ok (.lreturn, 1) := by decide +kernel
theorem dX11_leak_0 : decode cX11_leak 0 = .ok (.aload_n 0, 1) := by decide +kernel
theorem dX11_leak_1 : decode cX11_leak 1 = .ok (.getfield 49, 3) := by decide +kernel
theorem dX11_leak_4 : decode cX11_leak 4 = .ok (.iload_n 1, 1) := by decide +kernel
theorem dX11_leak_5 : decode cX11_leak 5 = .ok (.invokevirtual 98, 3) := by decide +kernel
theorem dX11_leak_8 : decode cX11_leak 8 = .ok (.astore_n 2, 1) := by decide +kernel
theorem dX11_leak_9 : decode cX11_leak 9 = .ok (.aload_n 2, 1) := by decide +kernel
theorem dX11_leak_10 : decode cX11_leak 10 = .ok (.ifnonnull 9, 3) := by decide +kernel
theorem dX11_leak_13 : decode cX11_leak 13 = .ok (.aload_n 0, 1) := by decide +kernel
theorem dX11_leak_14 : decode cX11_leak 14 = .ok (.iconst (-1), 1) := by decide +kernel
theorem dX11_leak_15 : decode cX11_leak 15 = .ok (.invokevirtual 119, 3) := by decide +kernel
theorem dX11_leak_18 : decode cX11_leak 18 = .ok (.lreturn, 1) := by decide +kernel
theorem dX11_leak_19 : decode cX11_leak 19 = .ok (.aconst_null, 1) := by decide +kernel
theorem dX11_leak_20 : decode cX11_leak 20 = .ok (.astore_n 3, 1) := by decide +kernel
theorem dX11_leak_21 : decode cX11_leak 21 = .ok (.aconst_null, 1) := by decide +kernel
theorem dX11_leak_22 : decode cX11_leak 22 = .ok (.astore 4, 2) := by decide +kernel
theorem dX11_leak_24 : decode cX11_leak 24 = .ok (.iconst 0, 1) := by decide +kernel
theorem dX11_leak_25 : decode cX11_leak 25 = .ok (.istore 5, 2) := by decide +kernel
theorem dX11_leak_27 : decode cX11_leak 27 = .ok (.iload 5, 2) := by decide +kernel
theorem dX11_leak_29 : decode cX11_leak 29 = .ok (.aload_n 0, 1) := by decide +kernel
theorem dX11_leak_30 : decode cX11_leak 30 = .ok (.getfield 59, 3) := by decide +kernel
theorem dX11_leak_33 : decode cX11_leak 33 = .ok (.invokevirtual 85, 3) := by decide +kernel
theorem dX11_leak_36 : decode cX11_leak 36 = .ok (.if_icmp .ge 47, 3) := by decide +kernel
theorem dX11_leak_39 : decode cX11_leak 39 = .ok (.aload_n 0, 1) := by decide +kernel
theorem dX11_leak_40 : decode cX11_leak 40 = .ok (.getfield 59, 3) := by decide +kernel
theorem dX11_leak_43 : decode cX11_leak 43 = .ok (.iload 5, 2) := by decide +kernel
theorem dX11_leak_45 : decode cX11_leak 45 = .ok (.invokevirtual 145, 3) := by decide +kernel
theorem dX11_leak_48 : decode cX11_leak 48 = .ok (.checkcast 289, 3) := by decide +kernel
theorem dX11_leak_51 : decode cX11_leak 51 = .ok (.astore 6, 2) := by decide +kernel
theorem dX11_leak_53 : decode cX11_leak 53 = .ok (.aload 6, 2) := by decide +kernel
theorem dX11_leak_55 : decode cX11_leak 55 = .ok (.getfield 301, 3) := by decide +kernel
theorem dX11_leak_58 : decode cX11_leak 58 = .ok (.iload_n 1, 1) := by decide +kernel
theorem dX11_leak_59 : decode cX11_leak 59 = .ok (.if_icmp .ne 18, 3) := by decide +kernel
theorem dX11_leak_62 : decode cX11_leak 62 = .ok (.aload_n 3, 1) := by decide +kernel
theorem dX11_leak_63 : decode cX11_leak 63 = .ok (.ifnonnull 8, 3) := by decide +kernel
theorem dX11_leak_66 : decode cX11_leak 66 = .ok (.aload 6, 2) := by decide +kernel
theorem dX11_leak_68 : decode cX11_leak 68 = .ok (.goto 4, 3) := by decide +kernel
theorem dX11_leak_71 : decode cX11_leak 71 = .ok (.aload_n 3, 1) := by decide +kernel
theorem dX11_leak_72 : decode cX11_leak 72 = .ok (.astore_n 3, 1) := by decide +kernel
theorem dX11_leak_73 : decode cX11_leak 73 = .ok (.aload 6, 2) := by decide +kernel
theorem dX11_leak_75 : decode cX11_leak 75 = .ok (.astore 4, 2) := by decide +kernel
theorem dX11_leak_77 : decode cX11_leak 77 = .ok (.iinc 5 1, 3) := by decide +kernel
theorem dX11_leak_80 : decode cX11_leak 80 = .ok (.goto (-53), 3) := by decide +kernel
theorem dX11_leak_83 : decode cX11_leak 83 = .ok (.aload_n 3, 1) := by decide +kernel
theorem dX11_leak_84 : decode cX11_leak 84 = .ok (.ifnull 20, 3) := by decide +kernel
theorem dX11_leak_87 : decode cX11_leak 87 = .ok (.aload 4, 2) := by decide +kernel
theorem dX11_leak_89 : decode cX11_leak 89 = .ok (.ifnull 15, 3) := by decide +kernel
theorem dX11_leak_92 : decode cX11_leak 92 = .ok (.aload_n 3, 1) := by decide +kernel
theorem dX11_leak_93 : decode cX11_leak 93 = .ok (.getfield 304, 3) := by decide +kernel
theorem dX11_leak_96 : decode cX11_leak 96 = .ok (.aload 4, 2) := by decide +kernel
theorem dX11_leak_98 : decode cX11_leak 98 = .ok (.getfield 304, 3) := by decide +kernel
theorem dX11_leak_101 : decode cX11_leak 101 = .ok (.if_icmp .ne 10, 3) := by decide +kernel
theorem dX11_leak_104 : decode cX11_leak 104 = .ok (.aload_n 0, 1) := by decide +kernel
theorem dX11_leak_105 : decode cX11_leak 105 = .ok (.bipush (-3), 2) := by decide +kernel
theorem dX11_leak_107 : decode cX11_leak 107 = .ok (.invokevirtual 119, 3) := by decide +kernel
theorem dX11_leak_110 : decode cX11_leak 110 = .ok (.lreturn, 1) := by decide +kernel
theorem dX11_leak_111 : decode cX11_leak 111 = .ok (.aload_n 3, 1) := by decide +kernel
theorem dX11_leak_112 : decode cX11_leak 112 = .ok (.getfield 298, 3) := by decide +kernel
theorem dX11_leak_115 : decode cX11_leak 115 = .ok (.aload 4, 2) := by decide +kernel
theorem dX11_leak_117 : decode cX11_leak 117 = .ok (.getfield 298, 3) := by decide +kernel
theorem dX11_leak_120 : decode cX11_leak 120 = .ok (.lsub, 1) := by decide +kernel
theorem dX11_leak_121 : decode cX11_leak 121 = .ok (.aload_n 2, 1) := by decide +kernel
theorem dX11_leak_122 : decode cX11_leak 122 = .ok (.getfield 291, 3) := by decide +kernel
theorem dX11_leak_125 : decode cX11_leak 125 = .ok (.getfield 305, 3) := by decide +kernel
theorem dX11_leak_128 : decode cX11_leak 128 = .ok (.lmul, 1) := by decide +kernel
theorem dX11_leak_129 : decode cX11_leak 129 = .ok (.aload 4, 2) := by decide +kernel
theorem dX11_leak_131 : decode cX11_leak 131 = .ok (.getfield 304, 3) := by decide +kernel
theorem dX11_leak_134 : decode cX11_leak 134 = .ok (.aload_n 3, 1) := by decide +kernel
theorem dX11_leak_135 : decode cX11_leak 135 = .ok (.getfield 304, 3) := by decide +kernel
theorem dX11_leak_138 : decode cX11_leak 138 = .ok (.isub, 1) := by decide +kernel
theorem dX11_leak_139 : decode cX11_leak 139 = .ok (.i2l, 1) := by decide +kernel
theorem dX11_leak_140 : decode cX11_leak 140 = .ok (.invokestatic 308, 3) := by decide +kernel
theorem dX11_leak_143 : decode cX11_leak 143 = .ok (.lreturn, 1) := by decide +kernel
theorem dX11_count_0 : decode cX11_count 0 = .ok (.iload_n 1, 1) := by decide +kernel
theorem dX11_count_1 : decode cX11_count 1 = .ok (.tableswitch 142 0 8 #[51, 59, 70, 78, 89, 107, 115, 126, 134], 51) := by decide +kernel
theorem dX11_count_52 : decode cX11_count 52 = .ok (.aload_n 0, 1) := by decide +kernel
theorem dX11_count_53 : decode cX11_count 53 = .ok (.getfield 49, 3) := by decide +kernel
theorem dX11_count_56 : decode cX11_count 56 = .ok (.getfield 67, 3) := by decide +kernel
theorem dX11_count_59 : decode cX11_count 59 = .ok (.ireturn, 1) := by decide +kernel
theorem dX11_count_60 : decode cX11_count 60 = .ok (.aload_n 0, 1) := by decide +kernel
theorem dX11_count_61 : decode cX11_count 61 = .ok (.getfield 49, 3) := by decide +kernel
theorem dX11_count_64 : decode cX11_count 64 = .ok (.getfield 82, 3) := by decide +kernel
theorem dX11_count_67 : decode cX11_count 67 = .ok (.invokevirtual 85, 3) := by decide +kernel
theorem dX11_count_70 : decode cX11_count 70 = .ok (.ireturn, 1) := by decide +kernel
theorem dX11_count_71 : decode cX11_count 71 = .ok (.aload_n 0, 1) := by decide +kernel
theorem dX11_count_72 : decode cX11_count 72 = .ok (.getfield 49, 3) := by decide +kernel
theorem dX11_count_75 : decode cX11_count 75 = .ok (.invokevirtual 312, 3) := by decide +kernel
theorem dX11_count_78 : decode cX11_count 78 = .ok (.ireturn, 1) := by decide +kernel
theorem dX11_count_79 : decode cX11_count 79 = .ok (.aload_n 0, 1) := by decide +kernel
theorem dX11_count_80 : decode cX11_count 80 = .ok (.getfield 10, 3) := by decide +kernel
theorem dX11_count_83 : decode cX11_count 83 = .ok (.getfield 136, 3) := by decide +kernel
theorem dX11_count_86 : decode cX11_count 86 = .ok (.invokevirtual 85, 3) := by decide +kernel
theorem dX11_count_89 : decode cX11_count 89 = .ok (.ireturn, 1) := by decide +kernel
theorem dX11_count_90 : decode cX11_count 90 = .ok (.aload_n 0, 1) := by decide +kernel
theorem dX11_count_91 : decode cX11_count 91 = .ok (.getfield 10, 3) := by decide +kernel
theorem dX11_count_94 : decode cX11_count 94 = .ok (.aload_n 0, 1) := by decide +kernel
theorem dX11_count_95 : decode cX11_count 95 = .ok (.getfield 49, 3) := by decide +kernel
theorem dX11_count_98 : decode cX11_count 98 = .ok (.getfield 67, 3) := by decide +kernel
theorem dX11_count_101 : decode cX11_count 101 = .ok (.bipush 24, 2) := by decide +kernel
theorem dX11_count_103 : decode cX11_count 103 = .ok (.idiv, 1) := by decide +kernel
theorem dX11_count_104 : decode cX11_count 104 = .ok (.invokevirtual 315, 3) := by decide +kernel
theorem dX11_count_107 : decode cX11_count 107 = .ok (.ireturn, 1) := by decide +kernel
theorem dX11_count_108 : decode cX11_count 108 = .ok (.aload_n 0, 1) := by decide +kernel
theorem dX11_count_109 : decode cX11_count 109 = .ok (.getfield 19, 3) := by decide +kernel
theorem dX11_count_112 : decode cX11_count 112 = .ok (.getfield 174, 3) := by decide +kernel
theorem dX11_count_115 : decode cX11_count 115 = .ok (.ireturn, 1) := by decide +kernel
theorem dX11_count_116 : decode cX11_count 116 = .ok (.aload_n 0, 1) := by decide +kernel
theorem dX11_count_117 : decode cX11_count 117 = .ok (.getfield 26, 3) := by decide +kernel
theorem dX11_count_120 : decode cX11_count 120 = .ok (.getfield 198, 3) := by decide +kernel
theorem dX11_count_123 : decode cX11_count 123 = .ok (.invokevirtual 85, 3) := by decide +kernel
theorem dX11_count_126 : decode cX11_count 126 = .ok (.ireturn, 1) := by decide +kernel
theorem dX11_count_127 : decode cX11_count 127 = .ok (.aload_n 0, 1) := by decide +kernel
theorem dX11_count_128 : decode cX11_count 128 = .ok (.getfield 33, 3) := by decide +kernel
theorem dX11_count_131 : decode cX11_count 131 = .ok (.getfield 193, 3) := by decide +kernel
theorem dX11_count_134 : decode cX11_count 134 = .ok (.ireturn, 1) := by decide +kernel
theorem dX11_count_135 : decode cX11_count 135 = .ok (.aload_n 0, 1) := by decide +kernel
theorem dX11_count_136 : decode cX11_count 136 = .ok (.getfield 59, 3) := by decide +kernel
theorem dX11_count_139 : decode cX11_count 139 = .ok (.invokevirtual 85, 3) := by decide +kernel
theorem dX11_count_142 : decode cX11_count 142 = .ok (.ireturn, 1) := by decide +kernel
theorem dX11_count_143 : decode cX11_count 143 = .ok (.iload_n 1, 1) := by decide +kernel
theorem dX11_count_144 : decode cX11_count 144 = .ok (.bipush 10, 2) := by decide +kernel
theorem dX11_count_146 : decode cX11_count 146 = .ok (.if_icmp .le 27, 3) := by decide +kernel
theorem dX11_count_149 : decode cX11_count 149 = .ok (.iload_n 1, 1) := by decide +kernel
theorem dX11_count_150 : decode cX11_count 150 = .ok (.bipush 10, 2) := by decide +kernel
theorem dX11_count_152 : decode cX11_count 152 = .ok (.isub, 1) := by decide +kernel
theorem dX11_count_153 : decode cX11_count 153 = .ok (.aload_n 0, 1) := by decide +kernel
theorem dX11_count_154 : decode cX11_count 154 = .ok (.getfield 63, 3) := by decide +kernel
theorem dX11_count_157 : decode cX11_count 157 = .ok (.arraylength, 1) := by decide +kernel
theorem dX11_count_158 : decode cX11_count 158 = .ok (.if_icmp .ge 15, 3) := by decide +kernel
theorem dX11_count_161 : decode cX11_count 161 = .ok (.aload_n 0, 1) := by decide +kernel
theorem dX11_count_162 : decode cX11_count 162 = .ok (.getfield 63, 3) := by decide +kernel
theorem dX11_count_165 : decode cX11_count 165 = .ok (.iload_n 1, 1) := by decide +kernel
theorem dX11_count_166 : decode cX11_count 166 = .ok (.bipush 10, 2) := by decide +kernel
theorem dX11_count_168 : decode cX11_count 168 = .ok (.isub, 1) := by decide +kernel
theorem dX11_count_169 : decode cX11_count 169 = .ok (.iaload, 1) := by decide +kernel
theorem dX11_count_170 : decode cX11_count 170 = .ok (.goto 5, 3) := by decide +kernel
theorem dX11_count_173 : decode cX11_count 173 = .ok (.bipush (-9), 2) := by decide +kernel
theorem dX11_count_175 : decode cX11_count 175 = .ok (.ireturn, 1) := by decide +kernel
theorem dX11_findRing_0 : decode cX11_findRing 0 = .ok (.aload_n 0, 1) := by decide +kernel
theorem dX11_findRing_1 : decode cX11_findRing 1 = .ok (.getfield 49, 3) := by decide +kernel
theorem dX11_findRing_4 : decode cX11_findRing 4 = .ok (.iload_n 1, 1) := by decide +kernel
theorem dX11_findRing_5 : decode cX11_findRing 5 = .ok (.invokevirtual 98, 3) := by decide +kernel
theorem dX11_findRing_8 : decode cX11_findRing 8 = .ok (.astore_n 3, 1) := by decide +kernel
theorem dX11_findRing_9 : decode cX11_findRing 9 = .ok (.aload_n 3, 1) := by decide +kernel
theorem dX11_findRing_10 : decode cX11_findRing 10 = .ok (.ifnull 18, 3) := by decide +kernel
theorem dX11_findRing_13 : decode cX11_findRing 13 = .ok (.iload_n 2, 1) := by decide +kernel
theorem dX11_findRing_14 : decode cX11_findRing 14 = .ok (.ifCond .lt 14, 3) := by decide +kernel
theorem dX11_findRing_17 : decode cX11_findRing 17 = .ok (.iload_n 2, 1) := by decide +kernel
theorem dX11_findRing_18 : decode cX11_findRing 18 = .ok (.aload_n 3, 1) := by decide +kernel
theorem dX11_findRing_19 : decode cX11_findRing 19 = .ok (.getfield 318, 3) := by decide +kernel
theorem dX11_findRing_22 : decode cX11_findRing 22 = .ok (.invokevirtual 85, 3) := by decide +kernel
theorem dX11_findRing_25 : decode cX11_findRing 25 = .ok (.if_icmp .lt 5, 3) := by decide +kernel
theorem dX11_findRing_28 : decode cX11_findRing 28 = .ok (.aconst_null, 1) := by decide +kernel
theorem dX11_findRing_29 : decode cX11_findRing 29 = .ok (.areturn, 1) := by decide +kernel
theorem dX11_findRing_30 : decode cX11_findRing 30 = .ok (.aload_n 3, 1) := by decide +kernel
theorem dX11_findRing_31 : decode cX11_findRing 31 = .ok (.getfield 318, 3) := by decide +kernel
theorem dX11_findRing_34 : decode cX11_findRing 34 = .ok (.iload_n 2, 1) := by decide +kernel
theorem dX11_findRing_35 : decode cX11_findRing 35 = .ok (.invokevirtual 145, 3) := by decide +kernel
theorem dX11_findRing_38 : decode cX11_findRing 38 = .ok (.checkcast 124, 3) := by decide +kernel
theorem dX11_findRing_41 : decode cX11_findRing 41 = .ok (.areturn, 1) := by decide +kernel
theorem dX11_passColdest_0 : decode cX11_passColdest 0 = .ok (.aload_n 0, 1) := by decide +kernel
theorem dX11_passColdest_1 : decode cX11_passColdest 1 = .ok (.ldc2_w 321, 3) := by decide +kernel
theorem dX11_passColdest_4 : decode cX11_passColdest 4 = .ok (.putfield 255, 3) := by decide +kernel
theorem dX11_passColdest_7 : decode cX11_passColdest 7 = .ok (.aload_n 0, 1) := by decide +kernel
theorem dX11_passColdest_8 : decode cX11_passColdest 8 = .ok (.aload_n 0, 1) := by decide +kernel
theorem dX11_passColdest_9 : decode cX11_passColdest 9 = .ok (.getfield 53, 3) := by decide +kernel
theorem dX11_passColdest_12 : decode cX11_passColdest 12 = .ok (.getfield 67, 3) := by decide +kernel
theorem dX11_passColdest_15 : decode cX11_passColdest 15 = .ok (.putfield 258, 3) := by decide +kernel
theorem dX11_passColdest_18 : decode cX11_passColdest 18 = .ok (.iconst 0, 1) := by decide +kernel
theorem dX11_passColdest_19 : decode cX11_passColdest 19 = .ok (.istore_n 2, 1) := by decide +kernel
theorem dX11_passColdest_20 : decode cX11_passColdest 20 = .ok (.iload_n 2, 1) := by decide +kernel
theorem dX11_passColdest_21 : decode cX11_passColdest 21 = .ok (.iload_n 1, 1) := by decide +kernel
theorem dX11_passColdest_22 : decode cX11_passColdest 22 = .ok (.if_icmp .ge 54, 3) := by decide +kernel
theorem dX11_passColdest_25 : decode cX11_passColdest 25 = .ok (.aload_n 0, 1) := by decide +kernel
theorem dX11_passColdest_26 : decode cX11_passColdest 26 = .ok (.getfield 53, 3) := by decide +kernel
theorem dX11_passColdest_29 : decode cX11_passColdest 29 = .ok (.getfield 67, 3) := by decide +kernel
theorem dX11_passColdest_32 : decode cX11_passColdest 32 = .ok (.istore_n 3, 1) := by decide +kernel
theorem dX11_passColdest_33 : decode cX11_passColdest 33 = .ok (.aload_n 0, 1) := by decide +kernel
theorem dX11_passColdest_34 : decode cX11_passColdest 34 = .ok (.getfield 53, 3) := by decide +kernel
theorem dX11_passColdest_37 : decode cX11_passColdest 37 = .ok (.invokevirtual 79, 3) := by decide +kernel
theorem dX11_passColdest_40 : decode cX11_passColdest 40 = .ok (.aload_n 0, 1) := by decide +kernel
theorem dX11_passColdest_41 : decode cX11_passColdest 41 = .ok (.getfield 53, 3) := by decide +kernel
theorem dX11_passColdest_44 : decode cX11_passColdest 44 = .ok (.invokevirtual 323, 3) := by decide +kernel
theorem dX11_passColdest_47 : decode cX11_passColdest 47 = .ok (.lstore 4, 2) := by decide +kernel
theorem dX11_passColdest_49 : decode cX11_passColdest 49 = .ok (.lload 4, 2) := by decide +kernel
theorem dX11_passColdest_51 : decode cX11_passColdest 51 = .ok (.aload_n 0, 1) := by decide +kernel
theorem dX11_passColdest_52 : decode cX11_passColdest 52 = .ok (.getfield 255, 3) := by decide +kernel
theorem dX11_passColdest_55 : decode cX11_passColdest 55 = .ok (.lcmp, 1) := by decide +kernel
theorem dX11_passColdest_56 : decode cX11_passColdest 56 = .ok (.ifCond .ge 14, 3) := by decide +kernel
theorem dX11_passColdest_59 : decode cX11_passColdest 59 = .ok (.aload_n 0, 1) := by decide +kernel
theorem dX11_passColdest_60 : decode cX11_passColdest 60 = .ok (.lload 4, 2) := by decide +kernel
theorem dX11_passColdest_62 : decode cX11_passColdest 62 = .ok (.putfield 255, 3) := by decide +kernel
theorem dX11_passColdest_65 : decode cX11_passColdest 65 = .ok (.aload_n 0, 1) := by decide +kernel
theorem dX11_passColdest_66 : decode cX11_passColdest 66 = .ok (.iload_n 3, 1) := by decide +kernel
theorem dX11_passColdest_67 : decode cX11_passColdest 67 = .ok (.putfield 258, 3) := by decide +kernel
theorem dX11_passColdest_70 : decode cX11_passColdest 70 = .ok (.iinc 2 1, 3) := by decide +kernel
theorem dX11_passColdest_73 : decode cX11_passColdest 73 = .ok (.goto (-53), 3) := by decide +kernel
theorem dX11_passColdest_76 : decode cX11_passColdest 76 = .ok (.return_, 1) := by decide +kernel
theorem dX11_isEnough_0 : decode cX11_isEnough 0 = .ok (.aload_n 0, 1) := by decide +kernel
theorem dX11_isEnough_1 : decode cX11_isEnough 1 = .ok (.getfield 53, 3) := by decide +kernel
theorem dX11_isEnough_4 : decode cX11_isEnough 4 = .ok (.aload_n 0, 1) := by decide +kernel
theorem dX11_isEnough_5 : decode cX11_isEnough 5 = .ok (.getfield 49, 3) := by decide +kernel
theorem dX11_isEnough_8 : decode cX11_isEnough 8 = .ok (.invokevirtual 245, 3) := by decide +kernel
theorem dX11_isEnough_11 : decode cX11_isEnough 11 = .ok (.aload_n 0, 1) := by decide +kernel
theorem dX11_isEnough_12 : decode cX11_isEnough 12 = .ok (.getfield 53, 3) := by decide +kernel
theorem dX11_isEnough_15 : decode cX11_isEnough 15 = .ok (.iload_n 1, 1) := by decide +kernel
theorem dX11_isEnough_16 : decode cX11_isEnough 16 = .ok (.invokevirtual 326, 3) := by decide +kernel
theorem dX11_isEnough_19 : decode cX11_isEnough 19 = .ok (.aload_n 0, 1) := by decide +kernel
theorem dX11_isEnough_20 : decode cX11_isEnough 20 = .ok (.getfield 49, 3) := by decide +kernel
theorem dX11_isEnough_23 : decode cX11_isEnough 23 = .ok (.getfield 231, 3) := by decide +kernel
theorem dX11_isEnough_26 : decode cX11_isEnough 26 = .ok (.iconst 5, 1) := by decide +kernel
theorem dX11_isEnough_27 : decode cX11_isEnough 27 = .ok (.laload, 1) := by decide +kernel
theorem dX11_isEnough_28 : decode cX11_isEnough 28 = .ok (.lload_n 3, 1) := by decide +kernel
theorem dX11_isEnough_29 : decode cX11_isEnough 29 = .ok (.ladd, 1) := by decide +kernel
theorem dX11_isEnough_30 : decode cX11_isEnough 30 = .ok (.lstore 5, 2) := by decide +kernel
theorem dX11_isEnough_32 : decode cX11_isEnough 32 = .ok (.iconst 0, 1) := by decide +kernel
theorem dX11_isEnough_33 : decode cX11_isEnough 33 = .ok (.istore 7, 2) := by decide +kernel
theorem dX11_isEnough_35 : decode cX11_isEnough 35 = .ok (.iload 7, 2) := by decide +kernel
theorem dX11_isEnough_37 : decode cX11_isEnough 37 = .ok (.iload_n 2, 1) := by decide +kernel
theorem dX11_isEnough_38 : decode cX11_isEnough 38 = .ok (.if_icmp .ge 31, 3) := by decide +kernel
theorem dX11_isEnough_41 : decode cX11_isEnough 41 = .ok (.aload_n 0, 1) := by decide +kernel
theorem dX11_isEnough_42 : decode cX11_isEnough 42 = .ok (.getfield 53, 3) := by decide +kernel
theorem dX11_isEnough_45 : decode cX11_isEnough 45 = .ok (.getfield 231, 3) := by decide +kernel
theorem dX11_isEnough_48 : decode cX11_isEnough 48 = .ok (.iconst 5, 1) := by decide +kernel
theorem dX11_isEnough_49 : decode cX11_isEnough 49 = .ok (.laload, 1) := by decide +kernel
theorem dX11_isEnough_50 : decode cX11_isEnough 50 = .ok (.lload 5, 2) := by decide +kernel
theorem dX11_isEnough_52 : decode cX11_isEnough 52 = .ok (.lcmp, 1) := by decide +kernel
theorem dX11_isEnough_53 : decode cX11_isEnough 53 = .ok (.ifCond .gt 16, 3) := by decide +kernel
theorem dX11_isEnough_56 : decode cX11_isEnough 56 = .ok (.aload_n 0, 1) := by decide +kernel
theorem dX11_isEnough_57 : decode cX11_isEnough 57 = .ok (.getfield 53, 3) := by decide +kernel
theorem dX11_isEnough_60 : decode cX11_isEnough 60 = .ok (.invokevirtual 79, 3) := by decide +kernel
theorem dX11_isEnough_63 : decode cX11_isEnough 63 = .ok (.iinc 7 1, 3) := by decide +kernel
theorem dX11_isEnough_66 : decode cX11_isEnough 66 = .ok (.goto (-31), 3) := by decide +kernel
theorem dX11_isEnough_69 : decode cX11_isEnough 69 = .ok (.aload_n 0, 1) := by decide +kernel
theorem dX11_isEnough_70 : decode cX11_isEnough 70 = .ok (.getfield 53, 3) := by decide +kernel
theorem dX11_isEnough_73 : decode cX11_isEnough 73 = .ok (.getfield 231, 3) := by decide +kernel
theorem dX11_isEnough_76 : decode cX11_isEnough 76 = .ok (.iconst 5, 1) := by decide +kernel
theorem dX11_isEnough_77 : decode cX11_isEnough 77 = .ok (.laload, 1) := by decide +kernel
theorem dX11_isEnough_78 : decode cX11_isEnough 78 = .ok (.lload 5, 2) := by decide +kernel
theorem dX11_isEnough_80 : decode cX11_isEnough 80 = .ok (.lcmp, 1) := by decide +kernel
theorem dX11_isEnough_81 : decode cX11_isEnough 81 = .ok (.ifCond .gt 7, 3) := by decide +kernel
theorem dX11_isEnough_84 : decode cX11_isEnough 84 = .ok (.iconst 1, 1) := by decide +kernel
theorem dX11_isEnough_85 : decode cX11_isEnough 85 = .ok (.goto 4, 3) := by decide +kernel
theorem dX11_isEnough_88 : decode cX11_isEnough 88 = .ok (.iconst 0, 1) := by decide +kernel
theorem dX11_isEnough_89 : decode cX11_isEnough 89 = .ok (.ireturn, 1) := by decide +kernel
theorem dX11_givenInMind_0 : decode cX11_givenInMind 0 = .ok (.aload_n 0, 1) := by decide +kernel
theorem dX11_givenInMind_1 : decode cX11_givenInMind 1 = .ok (.getfield 53, 3) := by decide +kernel
theorem dX11_givenInMind_4 : decode cX11_givenInMind 4 = .ok (.aload_n 0, 1) := by decide +kernel
theorem dX11_givenInMind_5 : decode cX11_givenInMind 5 = .ok (.getfield 49, 3) := by decide +kernel
theorem dX11_givenInMind_8 : decode cX11_givenInMind 8 = .ok (.invokevirtual 245, 3) := by decide +kernel
theorem dX11_givenInMind_11 : decode cX11_givenInMind 11 = .ok (.aload_n 0, 1) := by decide +kernel
theorem dX11_givenInMind_12 : decode cX11_givenInMind 12 = .ok (.getfield 53, 3) := by decide +kernel
theorem dX11_givenInMind_15 : decode cX11_givenInMind 15 = .ok (.iload_n 2, 1) := by decide +kernel
theorem dX11_givenInMind_16 : decode cX11_givenInMind 16 = .ok (.invokevirtual 249, 3) := by decide +kernel
theorem dX11_givenInMind_19 : decode cX11_givenInMind 19 = .ok (.iconst 0, 1) := by decide +kernel
theorem dX11_givenInMind_20 : decode cX11_givenInMind 20 = .ok (.istore 4, 2) := by decide +kernel
theorem dX11_givenInMind_22 : decode cX11_givenInMind 22 = .ok (.iload 4, 2) := by decide +kernel
theorem dX11_givenInMind_24 : decode cX11_givenInMind 24 = .ok (.iload_n 3, 1) := by decide +kernel
theorem dX11_givenInMind_25 : decode cX11_givenInMind 25 = .ok (.if_icmp .ge 16, 3) := by decide +kernel
theorem dX11_givenInMind_28 : decode cX11_givenInMind 28 = .ok (.aload_n 0, 1) := by decide +kernel
theorem dX11_givenInMind_29 : decode cX11_givenInMind 29 = .ok (.getfield 53, 3) := by decide +kernel
theorem dX11_givenInMind_32 : decode cX11_givenInMind 32 = .ok (.invokevirtual 79, 3) := by decide +kernel
theorem dX11_givenInMind_35 : decode cX11_givenInMind 35 = .ok (.iinc 4 1, 3) := by decide +kernel
theorem dX11_givenInMind_38 : decode cX11_givenInMind 38 = .ok (.goto (-16), 3) := by decide +kernel
theorem dX11_givenInMind_41 : decode cX11_givenInMind 41 = .ok (.aload_n 0, 1) := by decide +kernel
theorem dX11_givenInMind_42 : decode cX11_givenInMind 42 = .ok (.getfield 53, 3) := by decide +kernel
theorem dX11_givenInMind_45 : decode cX11_givenInMind 45 = .ok (.iload_n 1, 1) := by decide +kernel
theorem dX11_givenInMind_46 : decode cX11_givenInMind 46 = .ok (.invokevirtual 98, 3) := by decide +kernel
theorem dX11_givenInMind_49 : decode cX11_givenInMind 49 = .ok (.astore 4, 2) := by decide +kernel
theorem dX11_givenInMind_51 : decode cX11_givenInMind 51 = .ok (.aload 4, 2) := by decide +kernel
theorem dX11_givenInMind_53 : decode cX11_givenInMind 53 = .ok (.ifnonnull 7, 3) := by decide +kernel
theorem dX11_givenInMind_56 : decode cX11_givenInMind 56 = .ok (.lconst 0, 1) := by decide +kernel
theorem dX11_givenInMind_57 : decode cX11_givenInMind 57 = .ok (.goto 8, 3) := by decide +kernel
theorem dX11_givenInMind_60 : decode cX11_givenInMind 60 = .ok (.aload 4, 2) := by decide +kernel
theorem dX11_givenInMind_62 : decode cX11_givenInMind 62 = .ok (.getfield 239, 3) := by decide +kernel
theorem dX11_givenInMind_65 : decode cX11_givenInMind 65 = .ok (.lreturn, 1) := by decide +kernel
theorem dX11_refuse_0 : decode cX11_refuse 0 = .ok (.iload_n 1, 1) := by decide +kernel
theorem dX11_refuse_1 : decode cX11_refuse 1 = .ok (.ifCond .ge 24, 3) := by decide +kernel
theorem dX11_refuse_4 : decode cX11_refuse 4 = .ok (.iload_n 1, 1) := by decide +kernel
theorem dX11_refuse_5 : decode cX11_refuse 5 = .ok (.aload_n 0, 1) := by decide +kernel
theorem dX11_refuse_6 : decode cX11_refuse 6 = .ok (.getfield 63, 3) := by decide +kernel
theorem dX11_refuse_9 : decode cX11_refuse 9 = .ok (.arraylength, 1) := by decide +kernel
theorem dX11_refuse_10 : decode cX11_refuse 10 = .ok (.ineg, 1) := by decide +kernel
theorem dX11_refuse_11 : decode cX11_refuse 11 = .ok (.if_icmp .le 14, 3) := by decide +kernel
theorem dX11_refuse_14 : decode cX11_refuse 14 = .ok (.aload_n 0, 1) := by decide +kernel
theorem dX11_refuse_15 : decode cX11_refuse 15 = .ok (.getfield 63, 3) := by decide +kernel
theorem dX11_refuse_18 : decode cX11_refuse 18 = .ok (.iload_n 1, 1) := by decide +kernel
theorem dX11_refuse_19 : decode cX11_refuse 19 = .ok (.ineg, 1) := by decide +kernel
theorem dX11_refuse_20 : decode cX11_refuse 20 = .ok (.dup2, 1) := by decide +kernel
theorem dX11_refuse_21 : decode cX11_refuse 21 = .ok (.iaload, 1) := by decide +kernel
theorem dX11_refuse_22 : decode cX11_refuse 22 = .ok (.iconst 1, 1) := by decide +kernel
theorem dX11_refuse_23 : decode cX11_refuse 23 = .ok (.iadd, 1) := by decide +kernel
theorem dX11_refuse_24 : decode cX11_refuse 24 = .ok (.iastore, 1) := by decide +kernel
theorem dX11_refuse_25 : decode cX11_refuse 25 = .ok (.iload_n 1, 1) := by decide +kernel
theorem dX11_refuse_26 : decode cX11_refuse 26 = .ok (.ireturn, 1) := by decide +kernel
theorem dX11_refuseLong_0 : decode cX11_refuseLong 0 = .ok (.ldc2_w 321, 3) := by decide +kernel
theorem dX11_refuseLong_3 : decode cX11_refuseLong 3 = .ok (.aload_n 0, 1) := by decide +kernel
theorem dX11_refuseLong_4 : decode cX11_refuseLong 4 = .ok (.iload_n 1, 1) := by decide +kernel
theorem dX11_refuseLong_5 : decode cX11_refuseLong 5 = .ok (.invokevirtual 75, 3) := by decide +kernel
theorem dX11_refuseLong_8 : decode cX11_refuseLong 8 = .ok (.i2l, 1) := by decide +kernel
theorem dX11_refuseLong_9 : decode cX11_refuseLong 9 = .ok (.lsub, 1) := by decide +kernel
theorem dX11_refuseLong_10 : decode cX11_refuseLong 10 = .ok (.lreturn, 1) := by decide +kernel
theorem dX11_beyond_0 : decode cX11_beyond 0 = .ok (.iload_n 0, 1) := by decide +kernel
theorem dX11_beyond_1 : decode cX11_beyond 1 = .ok (.iload_n 1, 1) := by decide +kernel
theorem dX11_beyond_2 : decode cX11_beyond 2 = .ok (.if_icmp .ge 6, 3) := by decide +kernel
theorem dX11_beyond_5 : decode cX11_beyond 5 = .ok (.bipush (-4), 2) := by decide +kernel
theorem dX11_beyond_7 : decode cX11_beyond 7 = .ok (.ireturn, 1) := by decide +kernel
theorem dX11_beyond_8 : decode cX11_beyond 8 = .ok (.iload_n 0, 1) := by decide +kernel
theorem dX11_beyond_9 : decode cX11_beyond 9 = .ok (.iload_n 2, 1) := by decide +kernel
theorem dX11_beyond_10 : decode cX11_beyond 10 = .ok (.if_icmp .le 8, 3) := by decide +kernel
theorem dX11_beyond_13 : decode cX11_beyond 13 = .ok (.bipush (-6), 2) := by decide +kernel
theorem dX11_beyond_15 : decode cX11_beyond 15 = .ok (.goto 4, 3) := by decide +kernel
theorem dX11_beyond_18 : decode cX11_beyond 18 = .ok (.iconst 0, 1) := by decide +kernel
theorem dX11_beyond_19 : decode cX11_beyond 19 = .ok (.ireturn, 1) := by decide +kernel
theorem dX11_firstOf_0 : decode cX11_firstOf 0 = .ok (.iload_n 0, 1) := by decide +kernel
theorem dX11_firstOf_1 : decode cX11_firstOf 1 = .ok (.ifCond .eq 7, 3) := by decide +kernel
theorem dX11_firstOf_4 : decode cX11_firstOf 4 = .ok (.iload_n 0, 1) := by decide +kernel
theorem dX11_firstOf_5 : decode cX11_firstOf 5 = .ok (.goto 4, 3) := by decide +kernel
theorem dX11_firstOf_8 : decode cX11_firstOf 8 = .ok (.iload_n 1, 1) := by decide +kernel
theorem dX11_firstOf_9 : decode cX11_firstOf 9 = .ok (.ireturn, 1) := by decide +kernel
theorem dX11_replace_0 : decode cX11_replace 0 = .ok (.iload_n 1, 1) := by decide +kernel
theorem dX11_replace_1 : decode cX11_replace 1 = .ok (.ifCond .lt 9, 3) := by decide +kernel
theorem dX11_replace_4 : decode cX11_replace 4 = .ok (.iload_n 1, 1) := by decide +kernel
theorem dX11_replace_5 : decode cX11_replace 5 = .ok (.aload_n 0, 1) := by decide +kernel
theorem dX11_replace_6 : decode cX11_replace 6 = .ok (.arraylength, 1) := by decide +kernel
theorem dX11_replace_7 : decode cX11_replace 7 = .ok (.if_icmp .lt 5, 3) := by decide +kernel
theorem dX11_replace_10 : decode cX11_replace 10 = .ok (.iconst 0, 1) := by decide +kernel
theorem dX11_replace_11 : decode cX11_replace 11 = .ok (.ireturn, 1) := by decide +kernel
theorem dX11_replace_12 : decode cX11_replace 12 = .ok (.aload_n 0, 1) := by decide +kernel
theorem dX11_replace_13 : decode cX11_replace 13 = .ok (.iload_n 1, 1) := by decide +kernel
theorem dX11_replace_14 : decode cX11_replace 14 = .ok (.iaload, 1) := by decide +kernel
theorem dX11_replace_15 : decode cX11_replace 15 = .ok (.istore_n 3, 1) := by decide +kernel
theorem dX11_replace_16 : decode cX11_replace 16 = .ok (.aload_n 0, 1) := by decide +kernel
theorem dX11_replace_17 : decode cX11_replace 17 = .ok (.iload_n 1, 1) := by decide +kernel
theorem dX11_replace_18 : decode cX11_replace 18 = .ok (.iload_n 2, 1) := by decide +kernel
theorem dX11_replace_19 : decode cX11_replace 19 = .ok (.iastore, 1) := by decide +kernel
theorem dX11_replace_20 : decode cX11_replace 20 = .ok (.iload_n 3, 1) := by decide +kernel
theorem dX11_replace_21 : decode cX11_replace 21 = .ok (.ireturn, 1) := by decide +kernel
theorem dX11_inRound_0 : decode cX11_inRound 0 = .ok (.aload_n 0, 1) := by decide +kernel
theorem dX11_inRound_1 : decode cX11_inRound 1 = .ok (.arraylength, 1) := by decide +kernel
theorem dX11_inRound_2 : decode cX11_inRound 2 = .ok (.ifCond .ne 7, 3) := by decide +kernel
theorem dX11_inRound_5 : decode cX11_inRound 5 = .ok (.iconst 0, 1) := by decide +kernel
theorem dX11_inRound_6 : decode cX11_inRound 6 = .ok (.goto 11, 3) := by decide +kernel
theorem dX11_inRound_9 : decode cX11_inRound 9 = .ok (.aload_n 0, 1) := by decide +kernel
theorem dX11_inRound_10 : decode cX11_inRound 10 = .ok (.iload_n 1, 1) := by decide +kernel
theorem dX11_inRound_11 : decode cX11_inRound 11 = .ok (.aload_n 0, 1) := by decide +kernel
theorem dX11_inRound_12 : decode cX11_inRound 12 = .ok (.arraylength, 1) := by decide +kernel
theorem dX11_inRound_13 : decode cX11_inRound 13 = .ok (.invokestatic 329, 3) := by decide +kernel
theorem dX11_inRound_16 : decode cX11_inRound 16 = .ok (.iaload, 1) := by decide +kernel
theorem dX11_inRound_17 : decode cX11_inRound 17 = .ok (.ireturn, 1) := by decide +kernel
theorem dX11_cut_0 : decode cX11_cut 0 = .ok (.lload_n 2, 1) := by decide +kernel
theorem dX11_cut_1 : decode cX11_cut 1 = .ok (.lconst 0, 1) := by decide +kernel
theorem dX11_cut_2 : decode cX11_cut 2 = .ok (.lcmp, 1) := by decide +kernel
theorem dX11_cut_3 : decode cX11_cut 3 = .ok (.ifCond .ne 7, 3) := by decide +kernel
theorem dX11_cut_6 : decode cX11_cut 6 = .ok (.lconst 0, 1) := by decide +kernel
theorem dX11_cut_7 : decode cX11_cut 7 = .ok (.goto 6, 3) := by decide +kernel
theorem dX11_cut_10 : decode cX11_cut 10 = .ok (.lload_n 0, 1) := by decide +kernel
theorem dX11_cut_11 : decode cX11_cut 11 = .ok (.lload_n 2, 1) := by decide +kernel
theorem dX11_cut_12 : decode cX11_cut 12 = .ok (.ldiv, 1) := by decide +kernel
theorem dX11_cut_13 : decode cX11_cut 13 = .ok (.lreturn, 1) := by decide +kernel
