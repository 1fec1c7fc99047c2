theorem dX0_init_0 : decode cX0_init 0 = .ok (.aload_n 0, 1) := by decide +kernel
theorem dX0_init_1 : decode cX0_init 1 = .ok (.invokespecial 3, 3) := by decide +kernel
theorem dX0_init_4 : decode cX0_init 4 = .ok (.aload_n 0, 1) := by decide +kernel
theorem dX0_init_5 : decode cX0_init 5 = .ok (.bipush 25, 2) := by decide +kernel
theorem dX0_init_7 : decode cX0_init 7 = .ok (.newarray .int, 2) := by decide +kernel
theorem dX0_init_9 : decode cX0_init 9 = .ok (.putfield 9, 3) := by decide +kernel
theorem dX0_init_12 : decode cX0_init 12 = .ok (.aload_n 0, 1) := by decide +kernel
theorem dX0_init_13 : decode cX0_init 13 = .ok (.iconst 5, 1) := by decide +kernel
theorem dX0_init_14 : decode cX0_init 14 = .ok (.newarray .int, 2) := by decide +kernel
theorem dX0_init_16 : decode cX0_init 16 = .ok (.putfield 15, 3) := by decide +kernel
theorem dX0_init_19 : decode cX0_init 19 = .ok (.aload_n 0, 1) := by decide +kernel
theorem dX0_init_20 : decode cX0_init 20 = .ok (.iconst 1, 1) := by decide +kernel
theorem dX0_init_21 : decode cX0_init 21 = .ok (.putfield 18, 3) := by decide +kernel
theorem dX0_init_24 : decode cX0_init 24 = .ok (.aload_n 0, 1) := by decide +kernel
theorem dX0_init_25 : decode cX0_init 25 = .ok (.iconst 0, 1) := by decide +kernel
theorem dX0_init_26 : decode cX0_init 26 = .ok (.putfield 22, 3) := by decide +kernel
theorem dX0_init_29 : decode cX0_init 29 = .ok (.aload_n 0, 1) := by decide +kernel
theorem dX0_init_30 : decode cX0_init 30 = .ok (.iconst 0, 1) := by decide +kernel
theorem dX0_init_31 : decode cX0_init 31 = .ok (.putfield 25, 3) := by decide +kernel
theorem dX0_init_34 : decode cX0_init 34 = .ok (.aload_n 0, 1) := by decide +kernel
theorem dX0_init_35 : decode cX0_init 35 = .ok (.aload_n 1, 1) := by decide +kernel
theorem dX0_init_36 : decode cX0_init 36 = .ok (.putfield 28, 3) := by decide +kernel
theorem dX0_init_39 : decode cX0_init 39 = .ok (.return_, 1) := by decide +kernel
theorem dX0_fits_0 : decode cX0_fits 0 = .ok (.iload_n 1, 1) := by decide +kernel
theorem dX0_fits_1 : decode cX0_fits 1 = .ok (.iconst 1, 1) := by decide +kernel
theorem dX0_fits_2 : decode cX0_fits 2 = .ok (.if_icmp .lt 21, 3) := by decide +kernel
theorem dX0_fits_5 : decode cX0_fits 5 = .ok (.iload_n 1, 1) := by decide +kernel
theorem dX0_fits_6 : decode cX0_fits 6 = .ok (.bipush 12, 2) := by decide +kernel
theorem dX0_fits_8 : decode cX0_fits 8 = .ok (.if_icmp .gt 15, 3) := by decide +kernel
theorem dX0_fits_11 : decode cX0_fits 11 = .ok (.iload_n 2, 1) := by decide +kernel
theorem dX0_fits_12 : decode cX0_fits 12 = .ok (.aload_n 0, 1) := by decide +kernel
theorem dX0_fits_13 : decode cX0_fits 13 = .ok (.getfield 28, 3) := by decide +kernel
theorem dX0_fits_16 : decode cX0_fits 16 = .ok (.invokevirtual 32, 3) := by decide +kernel
theorem dX0_fits_19 : decode cX0_fits 19 = .ok (.ishr, 1) := by decide +kernel
theorem dX0_fits_20 : decode cX0_fits 20 = .ok (.ifCond .eq 5, 3) := by decide +kernel
theorem dX0_fits_23 : decode cX0_fits 23 = .ok (.iconst 0, 1) := by decide +kernel
theorem dX0_fits_24 : decode cX0_fits 24 = .ok (.ireturn, 1) := by decide +kernel
theorem dX0_fits_25 : decode cX0_fits 25 = .ok (.iconst 0, 1) := by decide +kernel
theorem dX0_fits_26 : decode cX0_fits 26 = .ok (.istore_n 3, 1) := by decide +kernel
theorem dX0_fits_27 : decode cX0_fits 27 = .ok (.iload_n 3, 1) := by decide +kernel
theorem dX0_fits_28 : decode cX0_fits 28 = .ok (.bipush 8, 2) := by decide +kernel
theorem dX0_fits_30 : decode cX0_fits 30 = .ok (.if_icmp .ge 34, 3) := by decide +kernel
theorem dX0_fits_33 : decode cX0_fits 33 = .ok (.iload_n 2, 1) := by decide +kernel
theorem dX0_fits_34 : decode cX0_fits 34 = .ok (.iload_n 3, 1) := by decide +kernel
theorem dX0_fits_35 : decode cX0_fits 35 = .ok (.invokestatic 38, 3) := by decide +kernel
theorem dX0_fits_38 : decode cX0_fits 38 = .ok (.ifCond .eq 20, 3) := by decide +kernel
theorem dX0_fits_41 : decode cX0_fits 41 = .ok (.aload_n 0, 1) := by decide +kernel
theorem dX0_fits_42 : decode cX0_fits 42 = .ok (.getfield 28, 3) := by decide +kernel
theorem dX0_fits_45 : decode cX0_fits 45 = .ok (.iload_n 3, 1) := by decide +kernel
theorem dX0_fits_46 : decode cX0_fits 46 = .ok (.invokevirtual 42, 3) := by decide +kernel
theorem dX0_fits_49 : decode cX0_fits 49 = .ok (.invokestatic 46, 3) := by decide +kernel
theorem dX0_fits_52 : decode cX0_fits 52 = .ok (.iload_n 1, 1) := by decide +kernel
theorem dX0_fits_53 : decode cX0_fits 53 = .ok (.if_icmp .le 5, 3) := by decide +kernel
theorem dX0_fits_56 : decode cX0_fits 56 = .ok (.iconst 0, 1) := by decide +kernel
theorem dX0_fits_57 : decode cX0_fits 57 = .ok (.ireturn, 1) := by decide +kernel
theorem dX0_fits_58 : decode cX0_fits 58 = .ok (.iinc 3 1, 3) := by decide +kernel
theorem dX0_fits_61 : decode cX0_fits 61 = .ok (.goto (-34), 3) := by decide +kernel
theorem dX0_fits_64 : decode cX0_fits 64 = .ok (.iconst 1, 1) := by decide +kernel
theorem dX0_fits_65 : decode cX0_fits 65 = .ok (.ireturn, 1) := by decide +kernel
theorem dX0_fill_0 : decode cX0_fill 0 = .ok (.aload_n 0, 1) := by decide +kernel
theorem dX0_fill_1 : decode cX0_fill 1 = .ok (.iload_n 1, 1) := by decide +kernel
theorem dX0_fill_2 : decode cX0_fill 2 = .ok (.invokevirtual 49, 3) := by decide +kernel
theorem dX0_fill_5 : decode cX0_fill 5 = .ok (.iconst 0, 1) := by decide +kernel
theorem dX0_fill_6 : decode cX0_fill 6 = .ok (.istore 4, 2) := by decide +kernel
theorem dX0_fill_8 : decode cX0_fill 8 = .ok (.iconst 0, 1) := by decide +kernel
theorem dX0_fill_9 : decode cX0_fill 9 = .ok (.istore 5, 2) := by decide +kernel
theorem dX0_fill_11 : decode cX0_fill 11 = .ok (.iload 5, 2) := by decide +kernel
theorem dX0_fill_13 : decode cX0_fill 13 = .ok (.iload_n 2, 1) := by decide +kernel
theorem dX0_fill_14 : decode cX0_fill 14 = .ok (.if_icmp .ge 83, 3) := by decide +kernel
theorem dX0_fill_17 : decode cX0_fill 17 = .ok (.iload 5, 2) := by decide +kernel
theorem dX0_fill_19 : decode cX0_fill 19 = .ok (.aload_n 0, 1) := by decide +kernel
theorem dX0_fill_20 : decode cX0_fill 20 = .ok (.getfield 15, 3) := by decide +kernel
theorem dX0_fill_23 : decode cX0_fill 23 = .ok (.arraylength, 1) := by decide +kernel
theorem dX0_fill_24 : decode cX0_fill 24 = .ok (.if_icmp .ge 73, 3) := by decide +kernel
theorem dX0_fill_27 : decode cX0_fill 27 = .ok (.aload_n 0, 1) := by decide +kernel
theorem dX0_fill_28 : decode cX0_fill 28 = .ok (.getfield 28, 3) := by decide +kernel
theorem dX0_fill_31 : decode cX0_fill 31 = .ok (.iload_n 3, 1) := by decide +kernel
theorem dX0_fill_32 : decode cX0_fill 32 = .ok (.iload 5, 2) := by decide +kernel
theorem dX0_fill_34 : decode cX0_fill 34 = .ok (.invokestatic 53, 3) := by decide +kernel
theorem dX0_fill_37 : decode cX0_fill 37 = .ok (.invokevirtual 42, 3) := by decide +kernel
theorem dX0_fill_40 : decode cX0_fill 40 = .ok (.istore 6, 2) := by decide +kernel
theorem dX0_fill_42 : decode cX0_fill 42 = .ok (.aload_n 0, 1) := by decide +kernel
theorem dX0_fill_43 : decode cX0_fill 43 = .ok (.getfield 15, 3) := by decide +kernel
theorem dX0_fill_46 : decode cX0_fill 46 = .ok (.iload 5, 2) := by decide +kernel
theorem dX0_fill_48 : decode cX0_fill 48 = .ok (.aload_n 0, 1) := by decide +kernel
theorem dX0_fill_49 : decode cX0_fill 49 = .ok (.iload 6, 2) := by decide +kernel
theorem dX0_fill_51 : decode cX0_fill 51 = .ok (.invokevirtual 57, 3) := by decide +kernel
theorem dX0_fill_54 : decode cX0_fill 54 = .ok (.iastore, 1) := by decide +kernel
theorem dX0_fill_55 : decode cX0_fill 55 = .ok (.aload_n 0, 1) := by decide +kernel
theorem dX0_fill_56 : decode cX0_fill 56 = .ok (.iload 6, 2) := by decide +kernel
theorem dX0_fill_58 : decode cX0_fill 58 = .ok (.aload_n 0, 1) := by decide +kernel
theorem dX0_fill_59 : decode cX0_fill 59 = .ok (.getfield 15, 3) := by decide +kernel
theorem dX0_fill_62 : decode cX0_fill 62 = .ok (.iload 5, 2) := by decide +kernel
theorem dX0_fill_64 : decode cX0_fill 64 = .ok (.iaload, 1) := by decide +kernel
theorem dX0_fill_65 : decode cX0_fill 65 = .ok (.invokevirtual 60, 3) := by decide +kernel
theorem dX0_fill_68 : decode cX0_fill 68 = .ok (.iload 4, 2) := by decide +kernel
theorem dX0_fill_70 : decode cX0_fill 70 = .ok (.aload_n 0, 1) := by decide +kernel
theorem dX0_fill_71 : decode cX0_fill 71 = .ok (.getfield 15, 3) := by decide +kernel
theorem dX0_fill_74 : decode cX0_fill 74 = .ok (.iload 5, 2) := by decide +kernel
theorem dX0_fill_76 : decode cX0_fill 76 = .ok (.iaload, 1) := by decide +kernel
theorem dX0_fill_77 : decode cX0_fill 77 = .ok (.bipush 100, 2) := by decide +kernel
theorem dX0_fill_79 : decode cX0_fill 79 = .ok (.idiv, 1) := by decide +kernel
theorem dX0_fill_80 : decode cX0_fill 80 = .ok (.iload 6, 2) := by decide +kernel
theorem dX0_fill_82 : decode cX0_fill 82 = .ok (.invokestatic 64, 3) := by decide +kernel
theorem dX0_fill_85 : decode cX0_fill 85 = .ok (.iadd, 1) := by decide +kernel
theorem dX0_fill_86 : decode cX0_fill 86 = .ok (.invokestatic 67, 3) := by decide +kernel
theorem dX0_fill_89 : decode cX0_fill 89 = .ok (.istore 4, 2) := by decide +kernel
theorem dX0_fill_91 : decode cX0_fill 91 = .ok (.iinc 5 1, 3) := by decide +kernel
theorem dX0_fill_94 : decode cX0_fill 94 = .ok (.goto (-83), 3) := by decide +kernel
theorem dX0_fill_97 : decode cX0_fill 97 = .ok (.iload 4, 2) := by decide +kernel
theorem dX0_fill_99 : decode cX0_fill 99 = .ok (.ireturn, 1) := by decide +kernel
theorem dX0_spotAt_0 : decode cX0_spotAt 0 = .ok (.iload_n 1, 1) := by decide +kernel
theorem dX0_spotAt_1 : decode cX0_spotAt 1 = .ok (.ifCond .lt 12, 3) := by decide +kernel
theorem dX0_spotAt_4 : decode cX0_spotAt 4 = .ok (.iload_n 1, 1) := by decide +kernel
theorem dX0_spotAt_5 : decode cX0_spotAt 5 = .ok (.aload_n 0, 1) := by decide +kernel
theorem dX0_spotAt_6 : decode cX0_spotAt 6 = .ok (.getfield 15, 3) := by decide +kernel
theorem dX0_spotAt_9 : decode cX0_spotAt 9 = .ok (.arraylength, 1) := by decide +kernel
theorem dX0_spotAt_10 : decode cX0_spotAt 10 = .ok (.if_icmp .lt 8, 3) := by decide +kernel
theorem dX0_spotAt_13 : decode cX0_spotAt 13 = .ok (.bipush (-4), 2) := by decide +kernel
theorem dX0_spotAt_15 : decode cX0_spotAt 15 = .ok (.goto 9, 3) := by decide +kernel
theorem dX0_spotAt_18 : decode cX0_spotAt 18 = .ok (.aload_n 0, 1) := by decide +kernel
theorem dX0_spotAt_19 : decode cX0_spotAt 19 = .ok (.getfield 15, 3) := by decide +kernel
theorem dX0_spotAt_22 : decode cX0_spotAt 22 = .ok (.iload_n 1, 1) := by decide +kernel
theorem dX0_spotAt_23 : decode cX0_spotAt 23 = .ok (.iaload, 1) := by decide +kernel
theorem dX0_spotAt_24 : decode cX0_spotAt 24 = .ok (.ireturn, 1) := by decide +kernel
theorem dX0_findBest_0 : decode cX0_findBest 0 = .ok (.aload_n 0, 1) := by decide +kernel
theorem dX0_findBest_1 : decode cX0_findBest 1 = .ok (.iload_n 1, 1) := by decide +kernel
theorem dX0_findBest_2 : decode cX0_findBest 2 = .ok (.invokevirtual 49, 3) := by decide +kernel
theorem dX0_findBest_5 : decode cX0_findBest 5 = .ok (.aload_n 0, 1) := by decide +kernel
theorem dX0_findBest_6 : decode cX0_findBest 6 = .ok (.bipush 26, 2) := by decide +kernel
theorem dX0_findBest_8 : decode cX0_findBest 8 = .ok (.putfield 22, 3) := by decide +kernel
theorem dX0_findBest_11 : decode cX0_findBest 11 = .ok (.aload_n 0, 1) := by decide +kernel
theorem dX0_findBest_12 : decode cX0_findBest 12 = .ok (.iconst 0, 1) := by decide +kernel
theorem dX0_findBest_13 : decode cX0_findBest 13 = .ok (.putfield 25, 3) := by decide +kernel
theorem dX0_findBest_16 : decode cX0_findBest 16 = .ok (.aload_n 0, 1) := by decide +kernel
theorem dX0_findBest_17 : decode cX0_findBest 17 = .ok (.iload_n 2, 1) := by decide +kernel
theorem dX0_findBest_18 : decode cX0_findBest 18 = .ok (.iconst 0, 1) := by decide +kernel
theorem dX0_findBest_19 : decode cX0_findBest 19 = .ok (.iconst 0, 1) := by decide +kernel
theorem dX0_findBest_20 : decode cX0_findBest 20 = .ok (.iconst 0, 1) := by decide +kernel
theorem dX0_findBest_21 : decode cX0_findBest 21 = .ok (.invokestatic 72, 3) := by decide +kernel
theorem dX0_findBest_24 : decode cX0_findBest 24 = .ok (.return_, 1) := by decide +kernel
theorem dX0_bestHeight_0 : decode cX0_bestHeight 0 = .ok (.aload_n 0, 1) := by decide +kernel
theorem dX0_bestHeight_1 : decode cX0_bestHeight 1 = .ok (.getfield 22, 3) := by decide +kernel
theorem dX0_bestHeight_4 : decode cX0_bestHeight 4 = .ok (.ireturn, 1) := by decide +kernel
theorem dX0_bestOrder_0 : decode cX0_bestOrder 0 = .ok (.aload_n 0, 1) := by decide +kernel
theorem dX0_bestOrder_1 : decode cX0_bestOrder 1 = .ok (.getfield 25, 3) := by decide +kernel
theorem dX0_bestOrder_4 : decode cX0_bestOrder 4 = .ok (.ireturn, 1) := by decide +kernel
theorem dX0_search_0 : decode cX0_search 0 = .ok (.iload 4, 2) := by decide +kernel
theorem dX0_search_2 : decode cX0_search 2 = .ok (.aload_n 0, 1) := by decide +kernel
theorem dX0_search_3 : decode cX0_search 3 = .ok (.getfield 22, 3) := by decide +kernel
theorem dX0_search_6 : decode cX0_search 6 = .ok (.if_icmp .ge 8, 3) := by decide +kernel
theorem dX0_search_9 : decode cX0_search 9 = .ok (.iload_n 2, 1) := by decide +kernel
theorem dX0_search_10 : decode cX0_search 10 = .ok (.iconst 5, 1) := by decide +kernel
theorem dX0_search_11 : decode cX0_search 11 = .ok (.if_icmp .le 4, 3) := by decide +kernel
theorem dX0_search_14 : decode cX0_search 14 = .ok (.return_, 1) := by decide +kernel
theorem dX0_search_15 : decode cX0_search 15 = .ok (.iload_n 1, 1) := by decide +kernel
theorem dX0_search_16 : decode cX0_search 16 = .ok (.ifCond .ne 15, 3) := by decide +kernel
theorem dX0_search_19 : decode cX0_search 19 = .ok (.aload_n 0, 1) := by decide +kernel
theorem dX0_search_20 : decode cX0_search 20 = .ok (.iload 4, 2) := by decide +kernel
theorem dX0_search_22 : decode cX0_search 22 = .ok (.putfield 22, 3) := by decide +kernel
theorem dX0_search_25 : decode cX0_search 25 = .ok (.aload_n 0, 1) := by decide +kernel
theorem dX0_search_26 : decode cX0_search 26 = .ok (.iload_n 3, 1) := by decide +kernel
theorem dX0_search_27 : decode cX0_search 27 = .ok (.putfield 25, 3) := by decide +kernel
theorem dX0_search_30 : decode cX0_search 30 = .ok (.return_, 1) := by decide +kernel
theorem dX0_search_31 : decode cX0_search 31 = .ok (.iconst 0, 1) := by decide +kernel
theorem dX0_search_32 : decode cX0_search 32 = .ok (.istore 5, 2) := by decide +kernel
theorem dX0_search_34 : decode cX0_search 34 = .ok (.iload 5, 2) := by decide +kernel
theorem dX0_search_36 : decode cX0_search 36 = .ok (.bipush 8, 2) := by decide +kernel
theorem dX0_search_38 : decode cX0_search 38 = .ok (.if_icmp .ge 96, 3) := by decide +kernel
theorem dX0_search_41 : decode cX0_search 41 = .ok (.iload_n 1, 1) := by decide +kernel
theorem dX0_search_42 : decode cX0_search 42 = .ok (.iload 5, 2) := by decide +kernel
theorem dX0_search_44 : decode cX0_search 44 = .ok (.invokestatic 38, 3) := by decide +kernel
theorem dX0_search_47 : decode cX0_search 47 = .ok (.ifCond .eq 81, 3) := by decide +kernel
theorem dX0_search_50 : decode cX0_search 50 = .ok (.aload_n 0, 1) := by decide +kernel
theorem dX0_search_51 : decode cX0_search 51 = .ok (.getfield 28, 3) := by decide +kernel
theorem dX0_search_54 : decode cX0_search 54 = .ok (.iload 5, 2) := by decide +kernel
theorem dX0_search_56 : decode cX0_search 56 = .ok (.invokevirtual 42, 3) := by decide +kernel
theorem dX0_search_59 : decode cX0_search 59 = .ok (.istore 6, 2) := by decide +kernel
theorem dX0_search_61 : decode cX0_search 61 = .ok (.aload_n 0, 1) := by decide +kernel
theorem dX0_search_62 : decode cX0_search 62 = .ok (.iload 6, 2) := by decide +kernel
theorem dX0_search_64 : decode cX0_search 64 = .ok (.invokevirtual 57, 3) := by decide +kernel
theorem dX0_search_67 : decode cX0_search 67 = .ok (.istore 7, 2) := by decide +kernel
theorem dX0_search_69 : decode cX0_search 69 = .ok (.iload 4, 2) := by decide +kernel
theorem dX0_search_71 : decode cX0_search 71 = .ok (.iload 7, 2) := by decide +kernel
theorem dX0_search_73 : decode cX0_search 73 = .ok (.bipush 100, 2) := by decide +kernel
theorem dX0_search_75 : decode cX0_search 75 = .ok (.idiv, 1) := by decide +kernel
theorem dX0_search_76 : decode cX0_search 76 = .ok (.iload 6, 2) := by decide +kernel
theorem dX0_search_78 : decode cX0_search 78 = .ok (.invokestatic 64, 3) := by decide +kernel
theorem dX0_search_81 : decode cX0_search 81 = .ok (.iadd, 1) := by decide +kernel
theorem dX0_search_82 : decode cX0_search 82 = .ok (.invokestatic 67, 3) := by decide +kernel
theorem dX0_search_85 : decode cX0_search 85 = .ok (.istore 8, 2) := by decide +kernel
theorem dX0_search_87 : decode cX0_search 87 = .ok (.aload_n 0, 1) := by decide +kernel
theorem dX0_search_88 : decode cX0_search 88 = .ok (.iload 6, 2) := by decide +kernel
theorem dX0_search_90 : decode cX0_search 90 = .ok (.iload 7, 2) := by decide +kernel
theorem dX0_search_92 : decode cX0_search 92 = .ok (.invokevirtual 60, 3) := by decide +kernel
theorem dX0_search_95 : decode cX0_search 95 = .ok (.aload_n 0, 1) := by decide +kernel
theorem dX0_search_96 : decode cX0_search 96 = .ok (.iload_n 1, 1) := by decide +kernel
theorem dX0_search_97 : decode cX0_search 97 = .ok (.iconst 1, 1) := by decide +kernel
theorem dX0_search_98 : decode cX0_search 98 = .ok (.iload 5, 2) := by decide +kernel
theorem dX0_search_100 : decode cX0_search 100 = .ok (.ishl, 1) := by decide +kernel
theorem dX0_search_101 : decode cX0_search 101 = .ok (.iconst (-1), 1) := by decide +kernel
theorem dX0_search_102 : decode cX0_search 102 = .ok (.ixor, 1) := by decide +kernel
theorem dX0_search_103 : decode cX0_search 103 = .ok (.iand, 1) := by decide +kernel
theorem dX0_search_104 : decode cX0_search 104 = .ok (.iload_n 2, 1) := by decide +kernel
theorem dX0_search_105 : decode cX0_search 105 = .ok (.iconst 1, 1) := by decide +kernel
theorem dX0_search_106 : decode cX0_search 106 = .ok (.iadd, 1) := by decide +kernel
theorem dX0_search_107 : decode cX0_search 107 = .ok (.iload_n 3, 1) := by decide +kernel
theorem dX0_search_108 : decode cX0_search 108 = .ok (.iload 5, 2) := by decide +kernel
theorem dX0_search_110 : decode cX0_search 110 = .ok (.iconst 3, 1) := by decide +kernel
theorem dX0_search_111 : decode cX0_search 111 = .ok (.iload_n 2, 1) := by decide +kernel
theorem dX0_search_112 : decode cX0_search 112 = .ok (.imul, 1) := by decide +kernel
theorem dX0_search_113 : decode cX0_search 113 = .ok (.ishl, 1) := by decide +kernel
theorem dX0_search_114 : decode cX0_search 114 = .ok (.ior, 1) := by decide +kernel
theorem dX0_search_115 : decode cX0_search 115 = .ok (.iload 8, 2) := by decide +kernel
theorem dX0_search_117 : decode cX0_search 117 = .ok (.invokestatic 72, 3) := by decide +kernel
theorem dX0_search_120 : decode cX0_search 120 = .ok (.aload_n 0, 1) := by decide +kernel
theorem dX0_search_121 : decode cX0_search 121 = .ok (.iload 6, 2) := by decide +kernel
theorem dX0_search_123 : decode cX0_search 123 = .ok (.iload 7, 2) := by decide +kernel
theorem dX0_search_125 : decode cX0_search 125 = .ok (.invokevirtual 60, 3) := by decide +kernel
theorem dX0_search_128 : decode cX0_search 128 = .ok (.iinc 5 1, 3) := by decide +kernel
theorem dX0_search_131 : decode cX0_search 131 = .ok (.goto (-97), 3) := by decide +kernel
theorem dX0_search_134 : decode cX0_search 134 = .ok (.return_, 1) := by decide +kernel
theorem dX0_empty_0 : decode cX0_empty 0 = .ok (.aload_n 0, 1) := by decide +kernel
theorem dX0_empty_1 : decode cX0_empty 1 = .ok (.iload_n 1, 1) := by decide +kernel
theorem dX0_empty_2 : decode cX0_empty 2 = .ok (.putfield 18, 3) := by decide +kernel
theorem dX0_empty_5 : decode cX0_empty 5 = .ok (.iconst 0, 1) := by decide +kernel
theorem dX0_empty_6 : decode cX0_empty 6 = .ok (.istore_n 2, 1) := by decide +kernel
theorem dX0_empty_7 : decode cX0_empty 7 = .ok (.iload_n 2, 1) := by decide +kernel
theorem dX0_empty_8 : decode cX0_empty 8 = .ok (.aload_n 0, 1) := by decide +kernel
theorem dX0_empty_9 : decode cX0_empty 9 = .ok (.getfield 9, 3) := by decide +kernel
theorem dX0_empty_12 : decode cX0_empty 12 = .ok (.arraylength, 1) := by decide +kernel
theorem dX0_empty_13 : decode cX0_empty 13 = .ok (.if_icmp .ge 16, 3) := by decide +kernel
theorem dX0_empty_16 : decode cX0_empty 16 = .ok (.aload_n 0, 1) := by decide +kernel
theorem dX0_empty_17 : decode cX0_empty 17 = .ok (.getfield 9, 3) := by decide +kernel
theorem dX0_empty_20 : decode cX0_empty 20 = .ok (.iload_n 2, 1) := by decide +kernel
theorem dX0_empty_21 : decode cX0_empty 21 = .ok (.iconst 0, 1) := by decide +kernel
theorem dX0_empty_22 : decode cX0_empty 22 = .ok (.iastore, 1) := by decide +kernel
theorem dX0_empty_23 : decode cX0_empty 23 = .ok (.iinc 2 1, 3) := by decide +kernel
theorem dX0_empty_26 : decode cX0_empty 26 = .ok (.goto (-19), 3) := by decide +kernel
theorem dX0_empty_29 : decode cX0_empty 29 = .ok (.return_, 1) := by decide +kernel
theorem dX0_spotFor_0 : decode cX0_spotFor 0 = .ok (.aload_n 0, 1) := by decide +kernel
theorem dX0_spotFor_1 : decode cX0_spotFor 1 = .ok (.getfield 18, 3) := by decide +kernel
theorem dX0_spotFor_4 : decode cX0_spotFor 4 = .ok (.iload_n 1, 1) := by decide +kernel
theorem dX0_spotFor_5 : decode cX0_spotFor 5 = .ok (.invokestatic 46, 3) := by decide +kernel
theorem dX0_spotFor_8 : decode cX0_spotFor 8 = .ok (.isub, 1) := by decide +kernel
theorem dX0_spotFor_9 : decode cX0_spotFor 9 = .ok (.iconst 1, 1) := by decide +kernel
theorem dX0_spotFor_10 : decode cX0_spotFor 10 = .ok (.iadd, 1) := by decide +kernel
theorem dX0_spotFor_11 : decode cX0_spotFor 11 = .ok (.istore_n 2, 1) := by decide +kernel
theorem dX0_spotFor_12 : decode cX0_spotFor 12 = .ok (.iconst 0, 1) := by decide +kernel
theorem dX0_spotFor_13 : decode cX0_spotFor 13 = .ok (.istore_n 3, 1) := by decide +kernel
theorem dX0_spotFor_14 : decode cX0_spotFor 14 = .ok (.iload_n 3, 1) := by decide +kernel
theorem dX0_spotFor_15 : decode cX0_spotFor 15 = .ok (.bipush 25, 2) := by decide +kernel
theorem dX0_spotFor_17 : decode cX0_spotFor 17 = .ok (.if_icmp .ge 43, 3) := by decide +kernel
theorem dX0_spotFor_20 : decode cX0_spotFor 20 = .ok (.iconst 0, 1) := by decide +kernel
theorem dX0_spotFor_21 : decode cX0_spotFor 21 = .ok (.istore 4, 2) := by decide +kernel
theorem dX0_spotFor_23 : decode cX0_spotFor 23 = .ok (.iload 4, 2) := by decide +kernel
theorem dX0_spotFor_25 : decode cX0_spotFor 25 = .ok (.iload_n 2, 1) := by decide +kernel
theorem dX0_spotFor_26 : decode cX0_spotFor 26 = .ok (.if_icmp .ge 28, 3) := by decide +kernel
theorem dX0_spotFor_29 : decode cX0_spotFor 29 = .ok (.aload_n 0, 1) := by decide +kernel
theorem dX0_spotFor_30 : decode cX0_spotFor 30 = .ok (.iload_n 1, 1) := by decide +kernel
theorem dX0_spotFor_31 : decode cX0_spotFor 31 = .ok (.iload 4, 2) := by decide +kernel
theorem dX0_spotFor_33 : decode cX0_spotFor 33 = .ok (.iload_n 3, 1) := by decide +kernel
theorem dX0_spotFor_34 : decode cX0_spotFor 34 = .ok (.invokevirtual 76, 3) := by decide +kernel
theorem dX0_spotFor_37 : decode cX0_spotFor 37 = .ok (.ifCond .eq 11, 3) := by decide +kernel
theorem dX0_spotFor_40 : decode cX0_spotFor 40 = .ok (.bipush 100, 2) := by decide +kernel
theorem dX0_spotFor_42 : decode cX0_spotFor 42 = .ok (.iload_n 3, 1) := by decide +kernel
theorem dX0_spotFor_43 : decode cX0_spotFor 43 = .ok (.imul, 1) := by decide +kernel
theorem dX0_spotFor_44 : decode cX0_spotFor 44 = .ok (.iload 4, 2) := by decide +kernel
theorem dX0_spotFor_46 : decode cX0_spotFor 46 = .ok (.iadd, 1) := by decide +kernel
theorem dX0_spotFor_47 : decode cX0_spotFor 47 = .ok (.ireturn, 1) := by decide +kernel
theorem dX0_spotFor_48 : decode cX0_spotFor 48 = .ok (.iinc 4 1, 3) := by decide +kernel
theorem dX0_spotFor_51 : decode cX0_spotFor 51 = .ok (.goto (-28), 3) := by decide +kernel
theorem dX0_spotFor_54 : decode cX0_spotFor 54 = .ok (.iinc 3 1, 3) := by decide +kernel
theorem dX0_spotFor_57 : decode cX0_spotFor 57 = .ok (.goto (-43), 3) := by decide +kernel
theorem dX0_spotFor_60 : decode cX0_spotFor 60 = .ok (.iconst 0, 1) := by decide +kernel
theorem dX0_spotFor_61 : decode cX0_spotFor 61 = .ok (.ireturn, 1) := by decide +kernel
theorem dX0_isClear_0 : decode cX0_isClear 0 = .ok (.iconst 0, 1) := by decide +kernel
theorem dX0_isClear_1 : decode cX0_isClear 1 = .ok (.istore 4, 2) := by decide +kernel
theorem dX0_isClear_3 : decode cX0_isClear 3 = .ok (.iload 4, 2) := by decide +kernel
theorem dX0_isClear_5 : decode cX0_isClear 5 = .ok (.iconst 5, 1) := by decide +kernel
theorem dX0_isClear_6 : decode cX0_isClear 6 = .ok (.if_icmp .ge 44, 3) := by decide +kernel
theorem dX0_isClear_9 : decode cX0_isClear 9 = .ok (.iload_n 3, 1) := by decide +kernel
theorem dX0_isClear_10 : decode cX0_isClear 10 = .ok (.iload 4, 2) := by decide +kernel
theorem dX0_isClear_12 : decode cX0_isClear 12 = .ok (.iadd, 1) := by decide +kernel
theorem dX0_isClear_13 : decode cX0_isClear 13 = .ok (.aload_n 0, 1) := by decide +kernel
theorem dX0_isClear_14 : decode cX0_isClear 14 = .ok (.getfield 9, 3) := by decide +kernel
theorem dX0_isClear_17 : decode cX0_isClear 17 = .ok (.arraylength, 1) := by decide +kernel
theorem dX0_isClear_18 : decode cX0_isClear 18 = .ok (.if_icmp .ge 32, 3) := by decide +kernel
theorem dX0_isClear_21 : decode cX0_isClear 21 = .ok (.iload_n 1, 1) := by decide +kernel
theorem dX0_isClear_22 : decode cX0_isClear 22 = .ok (.iload 4, 2) := by decide +kernel
theorem dX0_isClear_24 : decode cX0_isClear 24 = .ok (.invokestatic 80, 3) := by decide +kernel
theorem dX0_isClear_27 : decode cX0_isClear 27 = .ok (.iload_n 2, 1) := by decide +kernel
theorem dX0_isClear_28 : decode cX0_isClear 28 = .ok (.ishl, 1) := by decide +kernel
theorem dX0_isClear_29 : decode cX0_isClear 29 = .ok (.aload_n 0, 1) := by decide +kernel
theorem dX0_isClear_30 : decode cX0_isClear 30 = .ok (.getfield 9, 3) := by decide +kernel
theorem dX0_isClear_33 : decode cX0_isClear 33 = .ok (.iload_n 3, 1) := by decide +kernel
theorem dX0_isClear_34 : decode cX0_isClear 34 = .ok (.iload 4, 2) := by decide +kernel
theorem dX0_isClear_36 : decode cX0_isClear 36 = .ok (.iadd, 1) := by decide +kernel
theorem dX0_isClear_37 : decode cX0_isClear 37 = .ok (.iaload, 1) := by decide +kernel
theorem dX0_isClear_38 : decode cX0_isClear 38 = .ok (.iand, 1) := by decide +kernel
theorem dX0_isClear_39 : decode cX0_isClear 39 = .ok (.ifCond .eq 5, 3) := by decide +kernel
theorem dX0_isClear_42 : decode cX0_isClear 42 = .ok (.iconst 0, 1) := by decide +kernel
theorem dX0_isClear_43 : decode cX0_isClear 43 = .ok (.ireturn, 1) := by decide +kernel
theorem dX0_isClear_44 : decode cX0_isClear 44 = .ok (.iinc 4 1, 3) := by decide +kernel
theorem dX0_isClear_47 : decode cX0_isClear 47 = .ok (.goto (-44), 3) := by decide +kernel
theorem dX0_isClear_50 : decode cX0_isClear 50 = .ok (.iconst 1, 1) := by decide +kernel
theorem dX0_isClear_51 : decode cX0_isClear 51 = .ok (.ireturn, 1) := by decide +kernel
theorem dX0_toggle_0 : decode cX0_toggle 0 = .ok (.iload_n 2, 1) := by decide +kernel
theorem dX0_toggle_1 : decode cX0_toggle 1 = .ok (.bipush 100, 2) := by decide +kernel
theorem dX0_toggle_3 : decode cX0_toggle 3 = .ok (.irem, 1) := by decide +kernel
theorem dX0_toggle_4 : decode cX0_toggle 4 = .ok (.istore_n 3, 1) := by decide +kernel
theorem dX0_toggle_5 : decode cX0_toggle 5 = .ok (.iload_n 2, 1) := by decide +kernel
theorem dX0_toggle_6 : decode cX0_toggle 6 = .ok (.bipush 100, 2) := by decide +kernel
theorem dX0_toggle_8 : decode cX0_toggle 8 = .ok (.idiv, 1) := by decide +kernel
theorem dX0_toggle_9 : decode cX0_toggle 9 = .ok (.istore 4, 2) := by decide +kernel
theorem dX0_toggle_11 : decode cX0_toggle 11 = .ok (.iconst 0, 1) := by decide +kernel
theorem dX0_toggle_12 : decode cX0_toggle 12 = .ok (.istore 5, 2) := by decide +kernel
theorem dX0_toggle_14 : decode cX0_toggle 14 = .ok (.iload 5, 2) := by decide +kernel
theorem dX0_toggle_16 : decode cX0_toggle 16 = .ok (.iconst 5, 1) := by decide +kernel
theorem dX0_toggle_17 : decode cX0_toggle 17 = .ok (.if_icmp .ge 51, 3) := by decide +kernel
theorem dX0_toggle_20 : decode cX0_toggle 20 = .ok (.iload 4, 2) := by decide +kernel
theorem dX0_toggle_22 : decode cX0_toggle 22 = .ok (.iload 5, 2) := by decide +kernel
theorem dX0_toggle_24 : decode cX0_toggle 24 = .ok (.iadd, 1) := by decide +kernel
theorem dX0_toggle_25 : decode cX0_toggle 25 = .ok (.ifCond .lt 43, 3) := by decide +kernel
theorem dX0_toggle_28 : decode cX0_toggle 28 = .ok (.iload 4, 2) := by decide +kernel
theorem dX0_toggle_30 : decode cX0_toggle 30 = .ok (.iload 5, 2) := by decide +kernel
theorem dX0_toggle_32 : decode cX0_toggle 32 = .ok (.iadd, 1) := by decide +kernel
theorem dX0_toggle_33 : decode cX0_toggle 33 = .ok (.aload_n 0, 1) := by decide +kernel
theorem dX0_toggle_34 : decode cX0_toggle 34 = .ok (.getfield 9, 3) := by decide +kernel
theorem dX0_toggle_37 : decode cX0_toggle 37 = .ok (.arraylength, 1) := by decide +kernel
theorem dX0_toggle_38 : decode cX0_toggle 38 = .ok (.if_icmp .ge 30, 3) := by decide +kernel
theorem dX0_toggle_41 : decode cX0_toggle 41 = .ok (.aload_n 0, 1) := by decide +kernel
theorem dX0_toggle_42 : decode cX0_toggle 42 = .ok (.getfield 9, 3) := by decide +kernel
theorem dX0_toggle_45 : decode cX0_toggle 45 = .ok (.iload 4, 2) := by decide +kernel
theorem dX0_toggle_47 : decode cX0_toggle 47 = .ok (.iload 5, 2) := by decide +kernel
theorem dX0_toggle_49 : decode cX0_toggle 49 = .ok (.iadd, 1) := by decide +kernel
theorem dX0_toggle_50 : decode cX0_toggle 50 = .ok (.dup2, 1) := by decide +kernel
theorem dX0_toggle_51 : decode cX0_toggle 51 = .ok (.iaload, 1) := by decide +kernel
theorem dX0_toggle_52 : decode cX0_toggle 52 = .ok (.iload_n 1, 1) := by decide +kernel
theorem dX0_toggle_53 : decode cX0_toggle 53 = .ok (.iload 5, 2) := by decide +kernel
theorem dX0_toggle_55 : decode cX0_toggle 55 = .ok (.invokestatic 80, 3) := by decide +kernel
theorem dX0_toggle_58 : decode cX0_toggle 58 = .ok (.iload_n 3, 1) := by decide +kernel
theorem dX0_toggle_59 : decode cX0_toggle 59 = .ok (.ishl, 1) := by decide +kernel
theorem dX0_toggle_60 : decode cX0_toggle 60 = .ok (.ixor, 1) := by decide +kernel
theorem dX0_toggle_61 : decode cX0_toggle 61 = .ok (.iastore, 1) := by decide +kernel
theorem dX0_toggle_62 : decode cX0_toggle 62 = .ok (.iinc 5 1, 3) := by decide +kernel
theorem dX0_toggle_65 : decode cX0_toggle 65 = .ok (.goto (-51), 3) := by decide +kernel
theorem dX0_toggle_68 : decode cX0_toggle 68 = .ok (.return_, 1) := by decide +kernel
theorem dX1_init_0 : decode cX1_init 0 = .ok (.aload_n 0, 1) := by decide +kernel
theorem dX1_init_1 : decode cX1_init 1 = .ok (.invokespecial 3, 3) := by decide +kernel
theorem dX1_init_4 : decode cX1_init 4 = .ok (.aload_n 0, 1) := by decide +kernel
theorem dX1_init_5 : decode cX1_init 5 = .ok (.bipush 8, 2) := by decide +kernel
theorem dX1_init_7 : decode cX1_init 7 = .ok (.newarray .int, 2) := by decide +kernel
theorem dX1_init_9 : decode cX1_init 9 = .ok (.putfield 9, 3) := by decide +kernel
theorem dX1_init_12 : decode cX1_init 12 = .ok (.aload_n 0, 1) := by decide +kernel
theorem dX1_init_13 : decode cX1_init 13 = .ok (.iconst 0, 1) := by decide +kernel
theorem dX1_init_14 : decode cX1_init 14 = .ok (.putfield 15, 3) := by decide +kernel
theorem dX1_init_17 : decode cX1_init 17 = .ok (.aload_n 0, 1) := by decide +kernel
theorem dX1_init_18 : decode cX1_init 18 = .ok (.iconst 0, 1) := by decide +kernel
theorem dX1_init_19 : decode cX1_init 19 = .ok (.putfield 19, 3) := by decide +kernel
theorem dX1_init_22 : decode cX1_init 22 = .ok (.aload_n 0, 1) := by decide +kernel
theorem dX1_init_23 : decode cX1_init 23 = .ok (.aload_n 1, 1) := by decide +kernel
theorem dX1_init_24 : decode cX1_init 24 = .ok (.putfield 22, 3) := by decide +kernel
theorem dX1_init_27 : decode cX1_init 27 = .ok (.aload_n 0, 1) := by decide +kernel
theorem dX1_init_28 : decode cX1_init 28 = .ok (.aload_n 2, 1) := by decide +kernel
theorem dX1_init_29 : decode cX1_init 29 = .ok (.putfield 26, 3) := by decide +kernel
theorem dX1_init_32 : decode cX1_init 32 = .ok (.return_, 1) := by decide +kernel
theorem dX1_clearOff_0 : decode cX1_clearOff 0 = .ok (.aload_n 0, 1) := by decide +kernel
theorem dX1_clearOff_1 : decode cX1_clearOff 1 = .ok (.aload_n 0, 1) := by decide +kernel
theorem dX1_clearOff_2 : decode cX1_clearOff 2 = .ok (.getfield 22, 3) := by decide +kernel
theorem dX1_clearOff_5 : decode cX1_clearOff 5 = .ok (.invokevirtual 30, 3) := by decide +kernel
theorem dX1_clearOff_8 : decode cX1_clearOff 8 = .ok (.putfield 19, 3) := by decide +kernel
theorem dX1_clearOff_11 : decode cX1_clearOff 11 = .ok (.aload_n 0, 1) := by decide +kernel
theorem dX1_clearOff_12 : decode cX1_clearOff 12 = .ok (.iconst 0, 1) := by decide +kernel
theorem dX1_clearOff_13 : decode cX1_clearOff 13 = .ok (.putfield 15, 3) := by decide +kernel
theorem dX1_clearOff_16 : decode cX1_clearOff 16 = .ok (.iconst 0, 1) := by decide +kernel
theorem dX1_clearOff_17 : decode cX1_clearOff 17 = .ok (.istore_n 2, 1) := by decide +kernel
theorem dX1_clearOff_18 : decode cX1_clearOff 18 = .ok (.iload_n 2, 1) := by decide +kernel
theorem dX1_clearOff_19 : decode cX1_clearOff 19 = .ok (.aload_n 0, 1) := by decide +kernel
theorem dX1_clearOff_20 : decode cX1_clearOff 20 = .ok (.getfield 9, 3) := by decide +kernel
theorem dX1_clearOff_23 : decode cX1_clearOff 23 = .ok (.arraylength, 1) := by decide +kernel
theorem dX1_clearOff_24 : decode cX1_clearOff 24 = .ok (.if_icmp .ge 51, 3) := by decide +kernel
theorem dX1_clearOff_27 : decode cX1_clearOff 27 = .ok (.aload_n 0, 1) := by decide +kernel
theorem dX1_clearOff_28 : decode cX1_clearOff 28 = .ok (.iload_n 1, 1) := by decide +kernel
theorem dX1_clearOff_29 : decode cX1_clearOff 29 = .ok (.invokevirtual 36, 3) := by decide +kernel
theorem dX1_clearOff_32 : decode cX1_clearOff 32 = .ok (.istore_n 3, 1) := by decide +kernel
theorem dX1_clearOff_33 : decode cX1_clearOff 33 = .ok (.iload_n 3, 1) := by decide +kernel
theorem dX1_clearOff_34 : decode cX1_clearOff 34 = .ok (.ifCond .ge 4, 3) := by decide +kernel
theorem dX1_clearOff_37 : decode cX1_clearOff 37 = .ok (.return_, 1) := by decide +kernel
theorem dX1_clearOff_38 : decode cX1_clearOff 38 = .ok (.aload_n 0, 1) := by decide +kernel
theorem dX1_clearOff_39 : decode cX1_clearOff 39 = .ok (.getfield 9, 3) := by decide +kernel
theorem dX1_clearOff_42 : decode cX1_clearOff 42 = .ok (.iload_n 2, 1) := by decide +kernel
theorem dX1_clearOff_43 : decode cX1_clearOff 43 = .ok (.iload_n 3, 1) := by decide +kernel
theorem dX1_clearOff_44 : decode cX1_clearOff 44 = .ok (.iastore, 1) := by decide +kernel
theorem dX1_clearOff_45 : decode cX1_clearOff 45 = .ok (.aload_n 0, 1) := by decide +kernel
theorem dX1_clearOff_46 : decode cX1_clearOff 46 = .ok (.dup, 1) := by decide +kernel
theorem dX1_clearOff_47 : decode cX1_clearOff 47 = .ok (.getfield 15, 3) := by decide +kernel
theorem dX1_clearOff_50 : decode cX1_clearOff 50 = .ok (.iconst 1, 1) := by decide +kernel
theorem dX1_clearOff_51 : decode cX1_clearOff 51 = .ok (.iadd, 1) := by decide +kernel
theorem dX1_clearOff_52 : decode cX1_clearOff 52 = .ok (.putfield 15, 3) := by decide +kernel
theorem dX1_clearOff_55 : decode cX1_clearOff 55 = .ok (.aload_n 0, 1) := by decide +kernel
theorem dX1_clearOff_56 : decode cX1_clearOff 56 = .ok (.dup, 1) := by decide +kernel
theorem dX1_clearOff_57 : decode cX1_clearOff 57 = .ok (.getfield 19, 3) := by decide +kernel
theorem dX1_clearOff_60 : decode cX1_clearOff 60 = .ok (.iconst 1, 1) := by decide +kernel
theorem dX1_clearOff_61 : decode cX1_clearOff 61 = .ok (.iload_n 3, 1) := by decide +kernel
theorem dX1_clearOff_62 : decode cX1_clearOff 62 = .ok (.ishl, 1) := by decide +kernel
theorem dX1_clearOff_63 : decode cX1_clearOff 63 = .ok (.iconst (-1), 1) := by decide +kernel
theorem dX1_clearOff_64 : decode cX1_clearOff 64 = .ok (.ixor, 1) := by decide +kernel
theorem dX1_clearOff_65 : decode cX1_clearOff 65 = .ok (.iand, 1) := by decide +kernel
theorem dX1_clearOff_66 : decode cX1_clearOff 66 = .ok (.putfield 19, 3) := by decide +kernel
theorem dX1_clearOff_69 : decode cX1_clearOff 69 = .ok (.iinc 2 1, 3) := by decide +kernel
theorem dX1_clearOff_72 : decode cX1_clearOff 72 = .ok (.goto (-54), 3) := by decide +kernel
theorem dX1_clearOff_75 : decode cX1_clearOff 75 = .ok (.return_, 1) := by decide +kernel
theorem dX1_told_0 : decode cX1_told 0 = .ok (.iload_n 1, 1) := by decide +kernel
theorem dX1_told_1 : decode cX1_told 1 = .ok (.ifCond .ge 8, 3) := by decide +kernel
theorem dX1_told_4 : decode cX1_told 4 = .ok (.aload_n 0, 1) := by decide +kernel
theorem dX1_told_5 : decode cX1_told 5 = .ok (.getfield 19, 3) := by decide +kernel
theorem dX1_told_8 : decode cX1_told 8 = .ok (.ireturn, 1) := by decide +kernel
theorem dX1_told_9 : decode cX1_told 9 = .ok (.iload_n 1, 1) := by decide +kernel
theorem dX1_told_10 : decode cX1_told 10 = .ok (.aload_n 0, 1) := by decide +kernel
theorem dX1_told_11 : decode cX1_told 11 = .ok (.getfield 15, 3) := by decide +kernel
theorem dX1_told_14 : decode cX1_told 14 = .ok (.if_icmp .ge 21, 3) := by decide +kernel
theorem dX1_told_17 : decode cX1_told 17 = .ok (.iload_n 1, 1) := by decide +kernel
theorem dX1_told_18 : decode cX1_told 18 = .ok (.aload_n 0, 1) := by decide +kernel
theorem dX1_told_19 : decode cX1_told 19 = .ok (.getfield 9, 3) := by decide +kernel
theorem dX1_told_22 : decode cX1_told 22 = .ok (.arraylength, 1) := by decide +kernel
theorem dX1_told_23 : decode cX1_told 23 = .ok (.if_icmp .ge 12, 3) := by decide +kernel
theorem dX1_told_26 : decode cX1_told 26 = .ok (.aload_n 0, 1) := by decide +kernel
theorem dX1_told_27 : decode cX1_told 27 = .ok (.getfield 9, 3) := by decide +kernel
theorem dX1_told_30 : decode cX1_told 30 = .ok (.iload_n 1, 1) := by decide +kernel
theorem dX1_told_31 : decode cX1_told 31 = .ok (.iaload, 1) := by decide +kernel
theorem dX1_told_32 : decode cX1_told 32 = .ok (.goto 5, 3) := by decide +kernel
theorem dX1_told_35 : decode cX1_told 35 = .ok (.bipush (-4), 2) := by decide +kernel
theorem dX1_told_37 : decode cX1_told 37 = .ok (.ireturn, 1) := by decide +kernel
theorem dX1_lowestToGo_0 : decode cX1_lowestToGo 0 = .ok (.iconst 0, 1) := by decide +kernel
theorem dX1_lowestToGo_1 : decode cX1_lowestToGo 1 = .ok (.istore_n 2, 1) := by decide +kernel
theorem dX1_lowestToGo_2 : decode cX1_lowestToGo 2 = .ok (.iload_n 2, 1) := by decide +kernel
theorem dX1_lowestToGo_3 : decode cX1_lowestToGo 3 = .ok (.bipush 8, 2) := by decide +kernel
theorem dX1_lowestToGo_5 : decode cX1_lowestToGo 5 = .ok (.if_icmp .ge 87, 3) := by decide +kernel
theorem dX1_lowestToGo_8 : decode cX1_lowestToGo 8 = .ok (.aload_n 0, 1) := by decide +kernel
theorem dX1_lowestToGo_9 : decode cX1_lowestToGo 9 = .ok (.getfield 19, 3) := by decide +kernel
theorem dX1_lowestToGo_12 : decode cX1_lowestToGo 12 = .ok (.iload_n 2, 1) := by decide +kernel
theorem dX1_lowestToGo_13 : decode cX1_lowestToGo 13 = .ok (.invokestatic 40, 3) := by decide +kernel
theorem dX1_lowestToGo_16 : decode cX1_lowestToGo 16 = .ok (.ifCond .ne 6, 3) := by decide +kernel
theorem dX1_lowestToGo_19 : decode cX1_lowestToGo 19 = .ok (.goto 67, 3) := by decide +kernel
theorem dX1_lowestToGo_22 : decode cX1_lowestToGo 22 = .ok (.aload_n 0, 1) := by decide +kernel
theorem dX1_lowestToGo_23 : decode cX1_lowestToGo 23 = .ok (.getfield 19, 3) := by decide +kernel
theorem dX1_lowestToGo_26 : decode cX1_lowestToGo 26 = .ok (.iconst 1, 1) := by decide +kernel
theorem dX1_lowestToGo_27 : decode cX1_lowestToGo 27 = .ok (.iload_n 2, 1) := by decide +kernel
theorem dX1_lowestToGo_28 : decode cX1_lowestToGo 28 = .ok (.ishl, 1) := by decide +kernel
theorem dX1_lowestToGo_29 : decode cX1_lowestToGo 29 = .ok (.iconst (-1), 1) := by decide +kernel
theorem dX1_lowestToGo_30 : decode cX1_lowestToGo 30 = .ok (.ixor, 1) := by decide +kernel
theorem dX1_lowestToGo_31 : decode cX1_lowestToGo 31 = .ok (.iand, 1) := by decide +kernel
theorem dX1_lowestToGo_32 : decode cX1_lowestToGo 32 = .ok (.istore_n 3, 1) := by decide +kernel
theorem dX1_lowestToGo_33 : decode cX1_lowestToGo 33 = .ok (.iload_n 1, 1) := by decide +kernel
theorem dX1_lowestToGo_34 : decode cX1_lowestToGo 34 = .ok (.iconst (-1), 1) := by decide +kernel
theorem dX1_lowestToGo_35 : decode cX1_lowestToGo 35 = .ok (.if_icmp .ne 23, 3) := by decide +kernel
theorem dX1_lowestToGo_38 : decode cX1_lowestToGo 38 = .ok (.aload_n 0, 1) := by decide +kernel
theorem dX1_lowestToGo_39 : decode cX1_lowestToGo 39 = .ok (.getfield 26, 3) := by decide +kernel
theorem dX1_lowestToGo_42 : decode cX1_lowestToGo 42 = .ok (.iload_n 2, 1) := by decide +kernel
theorem dX1_lowestToGo_43 : decode cX1_lowestToGo 43 = .ok (.iload_n 3, 1) := by decide +kernel
theorem dX1_lowestToGo_44 : decode cX1_lowestToGo 44 = .ok (.invokevirtual 44, 3) := by decide +kernel
theorem dX1_lowestToGo_47 : decode cX1_lowestToGo 47 = .ok (.ifCond .lt 7, 3) := by decide +kernel
theorem dX1_lowestToGo_50 : decode cX1_lowestToGo 50 = .ok (.iconst 1, 1) := by decide +kernel
theorem dX1_lowestToGo_51 : decode cX1_lowestToGo 51 = .ok (.goto 26, 3) := by decide +kernel
theorem dX1_lowestToGo_54 : decode cX1_lowestToGo 54 = .ok (.iconst 0, 1) := by decide +kernel
theorem dX1_lowestToGo_55 : decode cX1_lowestToGo 55 = .ok (.goto 22, 3) := by decide +kernel
theorem dX1_lowestToGo_58 : decode cX1_lowestToGo 58 = .ok (.aload_n 0, 1) := by decide +kernel
theorem dX1_lowestToGo_59 : decode cX1_lowestToGo 59 = .ok (.getfield 22, 3) := by decide +kernel
theorem dX1_lowestToGo_62 : decode cX1_lowestToGo 62 = .ok (.iload_n 2, 1) := by decide +kernel
theorem dX1_lowestToGo_63 : decode cX1_lowestToGo 63 = .ok (.iload_n 1, 1) := by decide +kernel
theorem dX1_lowestToGo_64 : decode cX1_lowestToGo 64 = .ok (.invokevirtual 50, 3) := by decide +kernel
theorem dX1_lowestToGo_67 : decode cX1_lowestToGo 67 = .ok (.iload_n 3, 1) := by decide +kernel
theorem dX1_lowestToGo_68 : decode cX1_lowestToGo 68 = .ok (.iand, 1) := by decide +kernel
theorem dX1_lowestToGo_69 : decode cX1_lowestToGo 69 = .ok (.ifCond .ne 7, 3) := by decide +kernel
theorem dX1_lowestToGo_72 : decode cX1_lowestToGo 72 = .ok (.iconst 1, 1) := by decide +kernel
theorem dX1_lowestToGo_73 : decode cX1_lowestToGo 73 = .ok (.goto 4, 3) := by decide +kernel
theorem dX1_lowestToGo_76 : decode cX1_lowestToGo 76 = .ok (.iconst 0, 1) := by decide +kernel
theorem dX1_lowestToGo_77 : decode cX1_lowestToGo 77 = .ok (.istore 4, 2) := by decide +kernel
theorem dX1_lowestToGo_79 : decode cX1_lowestToGo 79 = .ok (.iload 4, 2) := by decide +kernel
theorem dX1_lowestToGo_81 : decode cX1_lowestToGo 81 = .ok (.ifCond .eq 5, 3) := by decide +kernel
theorem dX1_lowestToGo_84 : decode cX1_lowestToGo 84 = .ok (.iload_n 2, 1) := by decide +kernel
theorem dX1_lowestToGo_85 : decode cX1_lowestToGo 85 = .ok (.ireturn, 1) := by decide +kernel
theorem dX1_lowestToGo_86 : decode cX1_lowestToGo 86 = .ok (.iinc 2 1, 3) := by decide +kernel
theorem dX1_lowestToGo_89 : decode cX1_lowestToGo 89 = .ok (.goto (-87), 3) := by decide +kernel
theorem dX1_lowestToGo_92 : decode cX1_lowestToGo 92 = .ok (.bipush (-4), 2) := by decide +kernel
theorem dX1_lowestToGo_94 : decode cX1_lowestToGo 94 = .ok (.ireturn, 1) := by decide +kernel
theorem dX2_init_0 : decode cX2_init 0 = .ok (.aload_n 0, 1) := by decide +kernel
theorem dX2_init_1 : decode cX2_init 1 = .ok (.invokespecial 3, 3) := by decide +kernel
theorem dX2_init_4 : decode cX2_init 4 = .ok (.aload_n 0, 1) := by decide +kernel
theorem dX2_init_5 : decode cX2_init 5 = .ok (.bipush 24, 2) := by decide +kernel
theorem dX2_init_7 : decode cX2_init 7 = .ok (.newarray .int, 2) := by decide +kernel
theorem dX2_init_9 : decode cX2_init 9 = .ok (.putfield 9, 3) := by decide +kernel
theorem dX2_init_12 : decode cX2_init 12 = .ok (.aload_n 0, 1) := by decide +kernel
theorem dX2_init_13 : decode cX2_init 13 = .ok (.bipush 20, 2) := by decide +kernel
theorem dX2_init_15 : decode cX2_init 15 = .ok (.newarray .int, 2) := by decide +kernel
theorem dX2_init_17 : decode cX2_init 17 = .ok (.putfield 15, 3) := by decide +kernel
theorem dX2_init_20 : decode cX2_init 20 = .ok (.aload_n 0, 1) := by decide +kernel
theorem dX2_init_21 : decode cX2_init 21 = .ok (.bipush 20, 2) := by decide +kernel
theorem dX2_init_23 : decode cX2_init 23 = .ok (.newarray .int, 2) := by decide +kernel
theorem dX2_init_25 : decode cX2_init 25 = .ok (.putfield 18, 3) := by decide +kernel
theorem dX2_init_28 : decode cX2_init 28 = .ok (.aload_n 0, 1) := by decide +kernel
theorem dX2_init_29 : decode cX2_init 29 = .ok (.sipush 400, 3) := by decide +kernel
theorem dX2_init_32 : decode cX2_init 32 = .ok (.newarray .int, 2) := by decide +kernel
theorem dX2_init_34 : decode cX2_init 34 = .ok (.putfield 21, 3) := by decide +kernel
theorem dX2_init_37 : decode cX2_init 37 = .ok (.aload_n 0, 1) := by decide +kernel
theorem dX2_init_38 : decode cX2_init 38 = .ok (.sipush 400, 3) := by decide +kernel
theorem dX2_init_41 : decode cX2_init 41 = .ok (.newarray .int, 2) := by decide +kernel
theorem dX2_init_43 : decode cX2_init 43 = .ok (.putfield 24, 3) := by decide +kernel
theorem dX2_init_46 : decode cX2_init 46 = .ok (.aload_n 0, 1) := by decide +kernel
theorem dX2_init_47 : decode cX2_init 47 = .ok (.iconst 0, 1) := by decide +kernel
theorem dX2_init_48 : decode cX2_init 48 = .ok (.putfield 27, 3) := by decide +kernel
theorem dX2_init_51 : decode cX2_init 51 = .ok (.aload_n 0, 1) := by decide +kernel
theorem dX2_init_52 : decode cX2_init 52 = .ok (.sipush 400, 3) := by decide +kernel
theorem dX2_init_55 : decode cX2_init 55 = .ok (.newarray .int, 2) := by decide +kernel
theorem dX2_init_57 : decode cX2_init 57 = .ok (.putfield 31, 3) := by decide +kernel
theorem dX2_init_60 : decode cX2_init 60 = .ok (.aload_n 0, 1) := by decide +kernel
theorem dX2_init_61 : decode cX2_init 61 = .ok (.iconst 0, 1) := by decide +kernel
theorem dX2_init_62 : decode cX2_init 62 = .ok (.putfield 34, 3) := by decide +kernel
theorem dX2_init_65 : decode cX2_init 65 = .ok (.aload_n 0, 1) := by decide +kernel
theorem dX2_init_66 : decode cX2_init 66 = .ok (.aload_n 1, 1) := by decide +kernel
theorem dX2_init_67 : decode cX2_init 67 = .ok (.putfield 37, 3) := by decide +kernel
theorem dX2_init_70 : decode cX2_init 70 = .ok (.return_, 1) := by decide +kernel
theorem dX2_forgetSteps_0 : decode cX2_forgetSteps 0 = .ok (.aload_n 0, 1) := by decide +kernel
theorem dX2_forgetSteps_1 : decode cX2_forgetSteps 1 = .ok (.iconst 0, 1) := by decide +kernel
theorem dX2_forgetSteps_2 : decode cX2_forgetSteps 2 = .ok (.putfield 34, 3) := by decide +kernel
theorem dX2_forgetSteps_5 : decode cX2_forgetSteps 5 = .ok (.return_, 1) := by decide +kernel
theorem dX2_stepAt_0 : decode cX2_stepAt 0 = .ok (.iload_n 1, 1) := by decide +kernel
theorem dX2_stepAt_1 : decode cX2_stepAt 1 = .ok (.ifCond .lt 29, 3) := by decide +kernel
theorem dX2_stepAt_4 : decode cX2_stepAt 4 = .ok (.iload_n 1, 1) := by decide +kernel
theorem dX2_stepAt_5 : decode cX2_stepAt 5 = .ok (.aload_n 0, 1) := by decide +kernel
theorem dX2_stepAt_6 : decode cX2_stepAt 6 = .ok (.getfield 34, 3) := by decide +kernel
theorem dX2_stepAt_9 : decode cX2_stepAt 9 = .ok (.if_icmp .ge 21, 3) := by decide +kernel
theorem dX2_stepAt_12 : decode cX2_stepAt 12 = .ok (.iload_n 1, 1) := by decide +kernel
theorem dX2_stepAt_13 : decode cX2_stepAt 13 = .ok (.aload_n 0, 1) := by decide +kernel
theorem dX2_stepAt_14 : decode cX2_stepAt 14 = .ok (.getfield 31, 3) := by decide +kernel
theorem dX2_stepAt_17 : decode cX2_stepAt 17 = .ok (.arraylength, 1) := by decide +kernel
theorem dX2_stepAt_18 : decode cX2_stepAt 18 = .ok (.if_icmp .ge 12, 3) := by decide +kernel
theorem dX2_stepAt_21 : decode cX2_stepAt 21 = .ok (.aload_n 0, 1) := by decide +kernel
theorem dX2_stepAt_22 : decode cX2_stepAt 22 = .ok (.getfield 31, 3) := by decide +kernel
theorem dX2_stepAt_25 : decode cX2_stepAt 25 = .ok (.iload_n 1, 1) := by decide +kernel
theorem dX2_stepAt_26 : decode cX2_stepAt 26 = .ok (.iaload, 1) := by decide +kernel
theorem dX2_stepAt_27 : decode cX2_stepAt 27 = .ok (.goto 5, 3) := by decide +kernel
theorem dX2_stepAt_30 : decode cX2_stepAt 30 = .ok (.bipush (-4), 2) := by decide +kernel
theorem dX2_stepAt_32 : decode cX2_stepAt 32 = .ok (.ireturn, 1) := by decide +kernel
theorem dX2_canStand_0 : decode cX2_canStand 0 = .ok (.aload_n 0, 1) := by decide +kernel
theorem dX2_canStand_1 : decode cX2_canStand 1 = .ok (.iload_n 1, 1) := by decide +kernel
theorem dX2_canStand_2 : decode cX2_canStand 2 = .ok (.aload_n 0, 1) := by decide +kernel
theorem dX2_canStand_3 : decode cX2_canStand 3 = .ok (.getfield 37, 3) := by decide +kernel
theorem dX2_canStand_6 : decode cX2_canStand 6 = .ok (.iload_n 1, 1) := by decide +kernel
theorem dX2_canStand_7 : decode cX2_canStand 7 = .ok (.invokevirtual 41, 3) := by decide +kernel
theorem dX2_canStand_10 : decode cX2_canStand 10 = .ok (.invokevirtual 47, 3) := by decide +kernel
theorem dX2_canStand_13 : decode cX2_canStand 13 = .ok (.aload_n 0, 1) := by decide +kernel
theorem dX2_canStand_14 : decode cX2_canStand 14 = .ok (.getfield 15, 3) := by decide +kernel
theorem dX2_canStand_17 : decode cX2_canStand 17 = .ok (.iload_n 2, 1) := by decide +kernel
theorem dX2_canStand_18 : decode cX2_canStand 18 = .ok (.iload_n 3, 1) := by decide +kernel
theorem dX2_canStand_19 : decode cX2_canStand 19 = .ok (.invokestatic 51, 3) := by decide +kernel
theorem dX2_canStand_22 : decode cX2_canStand 22 = .ok (.invokestatic 55, 3) := by decide +kernel
theorem dX2_canStand_25 : decode cX2_canStand 25 = .ok (.ireturn, 1) := by decide +kernel
theorem dX2_isOutWhereItLies_0 : decode cX2_isOutWhereItLies 0 = .ok (.aload_n 0, 1) := by decide +kernel
theorem dX2_isOutWhereItLies_1 : decode cX2_isOutWhereItLies 1 = .ok (.iload_n 1, 1) := by decide +kernel
theorem dX2_isOutWhereItLies_2 : decode cX2_isOutWhereItLies 2 = .ok (.aload_n 0, 1) := by decide +kernel
theorem dX2_isOutWhereItLies_3 : decode cX2_isOutWhereItLies 3 = .ok (.getfield 37, 3) := by decide +kernel
theorem dX2_isOutWhereItLies_6 : decode cX2_isOutWhereItLies 6 = .ok (.iload_n 1, 1) := by decide +kernel
theorem dX2_isOutWhereItLies_7 : decode cX2_isOutWhereItLies 7 = .ok (.invokevirtual 41, 3) := by decide +kernel
theorem dX2_isOutWhereItLies_10 : decode cX2_isOutWhereItLies 10 = .ok (.invokevirtual 47, 3) := by decide +kernel
theorem dX2_isOutWhereItLies_13 : decode cX2_isOutWhereItLies 13 = .ok (.aload_n 0, 1) := by decide +kernel
theorem dX2_isOutWhereItLies_14 : decode cX2_isOutWhereItLies 14 = .ok (.getfield 18, 3) := by decide +kernel
theorem dX2_isOutWhereItLies_17 : decode cX2_isOutWhereItLies 17 = .ok (.aload_n 0, 1) := by decide +kernel
theorem dX2_isOutWhereItLies_18 : decode cX2_isOutWhereItLies 18 = .ok (.iload_n 1, 1) := by decide +kernel
theorem dX2_isOutWhereItLies_19 : decode cX2_isOutWhereItLies 19 = .ok (.invokevirtual 59, 3) := by decide +kernel
theorem dX2_isOutWhereItLies_22 : decode cX2_isOutWhereItLies 22 = .ok (.invokestatic 55, 3) := by decide +kernel
theorem dX2_isOutWhereItLies_25 : decode cX2_isOutWhereItLies 25 = .ok (.ireturn, 1) := by decide +kernel
theorem dX2_stepsOnward_0 : decode cX2_stepsOnward 0 = .ok (.aload_n 0, 1) := by decide +kernel
theorem dX2_stepsOnward_1 : decode cX2_stepsOnward 1 = .ok (.iload_n 1, 1) := by decide +kernel
theorem dX2_stepsOnward_2 : decode cX2_stepsOnward 2 = .ok (.aload_n 0, 1) := by decide +kernel
theorem dX2_stepsOnward_3 : decode cX2_stepsOnward 3 = .ok (.getfield 37, 3) := by decide +kernel
theorem dX2_stepsOnward_6 : decode cX2_stepsOnward 6 = .ok (.iload_n 1, 1) := by decide +kernel
theorem dX2_stepsOnward_7 : decode cX2_stepsOnward 7 = .ok (.invokevirtual 41, 3) := by decide +kernel
theorem dX2_stepsOnward_10 : decode cX2_stepsOnward 10 = .ok (.invokevirtual 47, 3) := by decide +kernel
theorem dX2_stepsOnward_13 : decode cX2_stepsOnward 13 = .ok (.aload_n 0, 1) := by decide +kernel
theorem dX2_stepsOnward_14 : decode cX2_stepsOnward 14 = .ok (.iload_n 1, 1) := by decide +kernel
theorem dX2_stepsOnward_15 : decode cX2_stepsOnward 15 = .ok (.invokevirtual 59, 3) := by decide +kernel
theorem dX2_stepsOnward_18 : decode cX2_stepsOnward 18 = .ok (.istore 4, 2) := by decide +kernel
theorem dX2_stepsOnward_20 : decode cX2_stepsOnward 20 = .ok (.iconst 0, 1) := by decide +kernel
theorem dX2_stepsOnward_21 : decode cX2_stepsOnward 21 = .ok (.istore 5, 2) := by decide +kernel
theorem dX2_stepsOnward_23 : decode cX2_stepsOnward 23 = .ok (.iload 5, 2) := by decide +kernel
theorem dX2_stepsOnward_25 : decode cX2_stepsOnward 25 = .ok (.iload_n 3, 1) := by decide +kernel
theorem dX2_stepsOnward_26 : decode cX2_stepsOnward 26 = .ok (.if_icmp .ge 32, 3) := by decide +kernel
theorem dX2_stepsOnward_29 : decode cX2_stepsOnward 29 = .ok (.iload 4, 2) := by decide +kernel
theorem dX2_stepsOnward_31 : decode cX2_stepsOnward 31 = .ok (.iload_n 2, 1) := by decide +kernel
theorem dX2_stepsOnward_32 : decode cX2_stepsOnward 32 = .ok (.invokestatic 62, 3) := by decide +kernel
theorem dX2_stepsOnward_35 : decode cX2_stepsOnward 35 = .ok (.istore 4, 2) := by decide +kernel
theorem dX2_stepsOnward_37 : decode cX2_stepsOnward 37 = .ok (.aload_n 0, 1) := by decide +kernel
theorem dX2_stepsOnward_38 : decode cX2_stepsOnward 38 = .ok (.getfield 15, 3) := by decide +kernel
theorem dX2_stepsOnward_41 : decode cX2_stepsOnward 41 = .ok (.iload 4, 2) := by decide +kernel
theorem dX2_stepsOnward_43 : decode cX2_stepsOnward 43 = .ok (.invokestatic 55, 3) := by decide +kernel
theorem dX2_stepsOnward_46 : decode cX2_stepsOnward 46 = .ok (.ifCond .ne 6, 3) := by decide +kernel
theorem dX2_stepsOnward_49 : decode cX2_stepsOnward 49 = .ok (.iload 5, 2) := by decide +kernel
theorem dX2_stepsOnward_51 : decode cX2_stepsOnward 51 = .ok (.ireturn, 1) := by decide +kernel
theorem dX2_stepsOnward_52 : decode cX2_stepsOnward 52 = .ok (.iinc 5 1, 3) := by decide +kernel
theorem dX2_stepsOnward_55 : decode cX2_stepsOnward 55 = .ok (.goto (-32), 3) := by decide +kernel
theorem dX2_stepsOnward_58 : decode cX2_stepsOnward 58 = .ok (.iload_n 3, 1) := by decide +kernel
theorem dX2_stepsOnward_59 : decode cX2_stepsOnward 59 = .ok (.ireturn, 1) := by decide +kernel
theorem dX2_stepsOut_0 : decode cX2_stepsOut 0 = .ok (.aload_n 0, 1) := by decide +kernel
theorem dX2_stepsOut_1 : decode cX2_stepsOut 1 = .ok (.iload_n 1, 1) := by decide +kernel
theorem dX2_stepsOut_2 : decode cX2_stepsOut 2 = .ok (.iload_n 2, 1) := by decide +kernel
theorem dX2_stepsOut_3 : decode cX2_stepsOut 3 = .ok (.invokevirtual 47, 3) := by decide +kernel
theorem dX2_stepsOut_6 : decode cX2_stepsOut 6 = .ok (.aload_n 0, 1) := by decide +kernel
theorem dX2_stepsOut_7 : decode cX2_stepsOut 7 = .ok (.aload_n 0, 1) := by decide +kernel
theorem dX2_stepsOut_8 : decode cX2_stepsOut 8 = .ok (.iload_n 1, 1) := by decide +kernel
theorem dX2_stepsOut_9 : decode cX2_stepsOut 9 = .ok (.invokevirtual 59, 3) := by decide +kernel
theorem dX2_stepsOut_12 : decode cX2_stepsOut 12 = .ok (.iconst 0, 1) := by decide +kernel
theorem dX2_stepsOut_13 : decode cX2_stepsOut 13 = .ok (.invokevirtual 65, 3) := by decide +kernel
theorem dX2_stepsOut_16 : decode cX2_stepsOut 16 = .ok (.aload_n 0, 1) := by decide +kernel
theorem dX2_stepsOut_17 : decode cX2_stepsOut 17 = .ok (.iconst 0, 1) := by decide +kernel
theorem dX2_stepsOut_18 : decode cX2_stepsOut 18 = .ok (.invokevirtual 68, 3) := by decide +kernel
theorem dX2_stepsOut_21 : decode cX2_stepsOut 21 = .ok (.iconst 0, 1) := by decide +kernel
theorem dX2_stepsOut_22 : decode cX2_stepsOut 22 = .ok (.istore_n 3, 1) := by decide +kernel
theorem dX2_stepsOut_23 : decode cX2_stepsOut 23 = .ok (.iload_n 3, 1) := by decide +kernel
theorem dX2_stepsOut_24 : decode cX2_stepsOut 24 = .ok (.aload_n 0, 1) := by decide +kernel
theorem dX2_stepsOut_25 : decode cX2_stepsOut 25 = .ok (.getfield 27, 3) := by decide +kernel
theorem dX2_stepsOut_28 : decode cX2_stepsOut 28 = .ok (.if_icmp .ge 45, 3) := by decide +kernel
theorem dX2_stepsOut_31 : decode cX2_stepsOut 31 = .ok (.iload_n 3, 1) := by decide +kernel
theorem dX2_stepsOut_32 : decode cX2_stepsOut 32 = .ok (.aload_n 0, 1) := by decide +kernel
theorem dX2_stepsOut_33 : decode cX2_stepsOut 33 = .ok (.getfield 24, 3) := by decide +kernel
theorem dX2_stepsOut_36 : decode cX2_stepsOut 36 = .ok (.arraylength, 1) := by decide +kernel
theorem dX2_stepsOut_37 : decode cX2_stepsOut 37 = .ok (.if_icmp .ge 36, 3) := by decide +kernel
theorem dX2_stepsOut_40 : decode cX2_stepsOut 40 = .ok (.aload_n 0, 1) := by decide +kernel
theorem dX2_stepsOut_41 : decode cX2_stepsOut 41 = .ok (.getfield 18, 3) := by decide +kernel
theorem dX2_stepsOut_44 : decode cX2_stepsOut 44 = .ok (.aload_n 0, 1) := by decide +kernel
theorem dX2_stepsOut_45 : decode cX2_stepsOut 45 = .ok (.getfield 24, 3) := by decide +kernel
theorem dX2_stepsOut_48 : decode cX2_stepsOut 48 = .ok (.iload_n 3, 1) := by decide +kernel
theorem dX2_stepsOut_49 : decode cX2_stepsOut 49 = .ok (.iaload, 1) := by decide +kernel
theorem dX2_stepsOut_50 : decode cX2_stepsOut 50 = .ok (.invokestatic 55, 3) := by decide +kernel
theorem dX2_stepsOut_53 : decode cX2_stepsOut 53 = .ok (.ifCond .eq 14, 3) := by decide +kernel
theorem dX2_stepsOut_56 : decode cX2_stepsOut 56 = .ok (.aload_n 0, 1) := by decide +kernel
theorem dX2_stepsOut_57 : decode cX2_stepsOut 57 = .ok (.aload_n 0, 1) := by decide +kernel
theorem dX2_stepsOut_58 : decode cX2_stepsOut 58 = .ok (.getfield 24, 3) := by decide +kernel
theorem dX2_stepsOut_61 : decode cX2_stepsOut 61 = .ok (.iload_n 3, 1) := by decide +kernel
theorem dX2_stepsOut_62 : decode cX2_stepsOut 62 = .ok (.iaload, 1) := by decide +kernel
theorem dX2_stepsOut_63 : decode cX2_stepsOut 63 = .ok (.invokevirtual 72, 3) := by decide +kernel
theorem dX2_stepsOut_66 : decode cX2_stepsOut 66 = .ok (.ireturn, 1) := by decide +kernel
theorem dX2_stepsOut_67 : decode cX2_stepsOut 67 = .ok (.iinc 3 1, 3) := by decide +kernel
theorem dX2_stepsOut_70 : decode cX2_stepsOut 70 = .ok (.goto (-47), 3) := by decide +kernel
theorem dX2_stepsOut_73 : decode cX2_stepsOut 73 = .ok (.bipush (-4), 2) := by decide +kernel
theorem dX2_stepsOut_75 : decode cX2_stepsOut 75 = .ok (.ireturn, 1) := by decide +kernel
theorem dX2_findWay_0 : decode cX2_findWay 0 = .ok (.aload_n 0, 1) := by decide +kernel
theorem dX2_findWay_1 : decode cX2_findWay 1 = .ok (.iload_n 1, 1) := by decide +kernel
theorem dX2_findWay_2 : decode cX2_findWay 2 = .ok (.aload_n 0, 1) := by decide +kernel
theorem dX2_findWay_3 : decode cX2_findWay 3 = .ok (.getfield 37, 3) := by decide +kernel
theorem dX2_findWay_6 : decode cX2_findWay 6 = .ok (.iload_n 1, 1) := by decide +kernel
theorem dX2_findWay_7 : decode cX2_findWay 7 = .ok (.invokevirtual 41, 3) := by decide +kernel
theorem dX2_findWay_10 : decode cX2_findWay 10 = .ok (.invokevirtual 47, 3) := by decide +kernel
theorem dX2_findWay_13 : decode cX2_findWay 13 = .ok (.aload_n 0, 1) := by decide +kernel
theorem dX2_findWay_14 : decode cX2_findWay 14 = .ok (.iload_n 2, 1) := by decide +kernel
theorem dX2_findWay_15 : decode cX2_findWay 15 = .ok (.iload_n 3, 1) := by decide +kernel
theorem dX2_findWay_16 : decode cX2_findWay 16 = .ok (.invokestatic 51, 3) := by decide +kernel
theorem dX2_findWay_19 : decode cX2_findWay 19 = .ok (.iconst 0, 1) := by decide +kernel
theorem dX2_findWay_20 : decode cX2_findWay 20 = .ok (.invokevirtual 65, 3) := by decide +kernel
theorem dX2_findWay_23 : decode cX2_findWay 23 = .ok (.aload_n 0, 1) := by decide +kernel
theorem dX2_findWay_24 : decode cX2_findWay 24 = .ok (.iconst 0, 1) := by decide +kernel
theorem dX2_findWay_25 : decode cX2_findWay 25 = .ok (.invokevirtual 68, 3) := by decide +kernel
theorem dX2_findWay_28 : decode cX2_findWay 28 = .ok (.aload_n 0, 1) := by decide +kernel
theorem dX2_findWay_29 : decode cX2_findWay 29 = .ok (.iload_n 1, 1) := by decide +kernel
theorem dX2_findWay_30 : decode cX2_findWay 30 = .ok (.invokevirtual 59, 3) := by decide +kernel
theorem dX2_findWay_33 : decode cX2_findWay 33 = .ok (.istore 4, 2) := by decide +kernel
theorem dX2_findWay_35 : decode cX2_findWay 35 = .ok (.aload_n 0, 1) := by decide +kernel
theorem dX2_findWay_36 : decode cX2_findWay 36 = .ok (.iload 4, 2) := by decide +kernel
theorem dX2_findWay_38 : decode cX2_findWay 38 = .ok (.invokevirtual 72, 3) := by decide +kernel
theorem dX2_findWay_41 : decode cX2_findWay 41 = .ok (.istore 5, 2) := by decide +kernel
theorem dX2_findWay_43 : decode cX2_findWay 43 = .ok (.iload 5, 2) := by decide +kernel
theorem dX2_findWay_45 : decode cX2_findWay 45 = .ok (.ifCond .ge 6, 3) := by decide +kernel
theorem dX2_findWay_48 : decode cX2_findWay 48 = .ok (.bipush (-4), 2) := by decide +kernel
theorem dX2_findWay_50 : decode cX2_findWay 50 = .ok (.ireturn, 1) := by decide +kernel
theorem dX2_findWay_51 : decode cX2_findWay 51 = .ok (.aload_n 0, 1) := by decide +kernel
theorem dX2_findWay_52 : decode cX2_findWay 52 = .ok (.iload 4, 2) := by decide +kernel
theorem dX2_findWay_54 : decode cX2_findWay 54 = .ok (.iload 5, 2) := by decide +kernel
theorem dX2_findWay_56 : decode cX2_findWay 56 = .ok (.invokevirtual 75, 3) := by decide +kernel
theorem dX2_findWay_59 : decode cX2_findWay 59 = .ok (.iload 5, 2) := by decide +kernel
theorem dX2_findWay_61 : decode cX2_findWay 61 = .ok (.ireturn, 1) := by decide +kernel
theorem dX2_countInside_0 : decode cX2_countInside 0 = .ok (.aload_n 0, 1) := by decide +kernel
theorem dX2_countInside_1 : decode cX2_countInside 1 = .ok (.iload_n 1, 1) := by decide +kernel
theorem dX2_countInside_2 : decode cX2_countInside 2 = .ok (.aload_n 0, 1) := by decide +kernel
theorem dX2_countInside_3 : decode cX2_countInside 3 = .ok (.getfield 37, 3) := by decide +kernel
theorem dX2_countInside_6 : decode cX2_countInside 6 = .ok (.iload_n 1, 1) := by decide +kernel
theorem dX2_countInside_7 : decode cX2_countInside 7 = .ok (.invokevirtual 41, 3) := by decide +kernel
theorem dX2_countInside_10 : decode cX2_countInside 10 = .ok (.invokevirtual 47, 3) := by decide +kernel
theorem dX2_countInside_13 : decode cX2_countInside 13 = .ok (.aload_n 0, 1) := by decide +kernel
theorem dX2_countInside_14 : decode cX2_countInside 14 = .ok (.getfield 37, 3) := by decide +kernel
theorem dX2_countInside_17 : decode cX2_countInside 17 = .ok (.iload_n 1, 1) := by decide +kernel
theorem dX2_countInside_18 : decode cX2_countInside 18 = .ok (.invokevirtual 78, 3) := by decide +kernel
theorem dX2_countInside_21 : decode cX2_countInside 21 = .ok (.istore_n 2, 1) := by decide +kernel
theorem dX2_countInside_22 : decode cX2_countInside 22 = .ok (.aload_n 0, 1) := by decide +kernel
theorem dX2_countInside_23 : decode cX2_countInside 23 = .ok (.getfield 37, 3) := by decide +kernel
theorem dX2_countInside_26 : decode cX2_countInside 26 = .ok (.invokevirtual 81, 3) := by decide +kernel
theorem dX2_countInside_29 : decode cX2_countInside 29 = .ok (.iload_n 2, 1) := by decide +kernel
theorem dX2_countInside_30 : decode cX2_countInside 30 = .ok (.invokestatic 85, 3) := by decide +kernel
theorem dX2_countInside_33 : decode cX2_countInside 33 = .ok (.isub, 1) := by decide +kernel
theorem dX2_countInside_34 : decode cX2_countInside 34 = .ok (.iconst 1, 1) := by decide +kernel
theorem dX2_countInside_35 : decode cX2_countInside 35 = .ok (.iadd, 1) := by decide +kernel
theorem dX2_countInside_36 : decode cX2_countInside 36 = .ok (.istore_n 3, 1) := by decide +kernel
theorem dX2_countInside_37 : decode cX2_countInside 37 = .ok (.aload_n 0, 1) := by decide +kernel
theorem dX2_countInside_38 : decode cX2_countInside 38 = .ok (.getfield 37, 3) := by decide +kernel
theorem dX2_countInside_41 : decode cX2_countInside 41 = .ok (.invokevirtual 88, 3) := by decide +kernel
theorem dX2_countInside_44 : decode cX2_countInside 44 = .ok (.iload_n 2, 1) := by decide +kernel
theorem dX2_countInside_45 : decode cX2_countInside 45 = .ok (.invokestatic 91, 3) := by decide +kernel
theorem dX2_countInside_48 : decode cX2_countInside 48 = .ok (.isub, 1) := by decide +kernel
theorem dX2_countInside_49 : decode cX2_countInside 49 = .ok (.iconst 1, 1) := by decide +kernel
theorem dX2_countInside_50 : decode cX2_countInside 50 = .ok (.iadd, 1) := by decide +kernel
theorem dX2_countInside_51 : decode cX2_countInside 51 = .ok (.istore 4, 2) := by decide +kernel
theorem dX2_countInside_53 : decode cX2_countInside 53 = .ok (.iconst 0, 1) := by decide +kernel
theorem dX2_countInside_54 : decode cX2_countInside 54 = .ok (.istore 5, 2) := by decide +kernel
theorem dX2_countInside_56 : decode cX2_countInside 56 = .ok (.iconst 0, 1) := by decide +kernel
theorem dX2_countInside_57 : decode cX2_countInside 57 = .ok (.istore 6, 2) := by decide +kernel
theorem dX2_countInside_59 : decode cX2_countInside 59 = .ok (.iload 6, 2) := by decide +kernel
theorem dX2_countInside_61 : decode cX2_countInside 61 = .ok (.iload 4, 2) := by decide +kernel
theorem dX2_countInside_63 : decode cX2_countInside 63 = .ok (.if_icmp .ge 51, 3) := by decide +kernel
theorem dX2_countInside_66 : decode cX2_countInside 66 = .ok (.iconst 0, 1) := by decide +kernel
theorem dX2_countInside_67 : decode cX2_countInside 67 = .ok (.istore 7, 2) := by decide +kernel
theorem dX2_countInside_69 : decode cX2_countInside 69 = .ok (.iload 7, 2) := by decide +kernel
theorem dX2_countInside_71 : decode cX2_countInside 71 = .ok (.iload_n 3, 1) := by decide +kernel
theorem dX2_countInside_72 : decode cX2_countInside 72 = .ok (.if_icmp .ge 36, 3) := by decide +kernel
theorem dX2_countInside_75 : decode cX2_countInside 75 = .ok (.iload 5, 2) := by decide +kernel
theorem dX2_countInside_77 : decode cX2_countInside 77 = .ok (.aload_n 0, 1) := by decide +kernel
theorem dX2_countInside_78 : decode cX2_countInside 78 = .ok (.getfield 15, 3) := by decide +kernel
theorem dX2_countInside_81 : decode cX2_countInside 81 = .ok (.iload 7, 2) := by decide +kernel
theorem dX2_countInside_83 : decode cX2_countInside 83 = .ok (.iload 6, 2) := by decide +kernel
theorem dX2_countInside_85 : decode cX2_countInside 85 = .ok (.invokestatic 51, 3) := by decide +kernel
theorem dX2_countInside_88 : decode cX2_countInside 88 = .ok (.invokestatic 55, 3) := by decide +kernel
theorem dX2_countInside_91 : decode cX2_countInside 91 = .ok (.ifCond .eq 7, 3) := by decide +kernel
theorem dX2_countInside_94 : decode cX2_countInside 94 = .ok (.iconst 1, 1) := by decide +kernel
theorem dX2_countInside_95 : decode cX2_countInside 95 = .ok (.goto 4, 3) := by decide +kernel
theorem dX2_countInside_98 : decode cX2_countInside 98 = .ok (.iconst 0, 1) := by decide +kernel
theorem dX2_countInside_99 : decode cX2_countInside 99 = .ok (.iadd, 1) := by decide +kernel
theorem dX2_countInside_100 : decode cX2_countInside 100 = .ok (.istore 5, 2) := by decide +kernel
theorem dX2_countInside_102 : decode cX2_countInside 102 = .ok (.iinc 7 1, 3) := by decide +kernel
theorem dX2_countInside_105 : decode cX2_countInside 105 = .ok (.goto (-36), 3) := by decide +kernel
theorem dX2_countInside_108 : decode cX2_countInside 108 = .ok (.iinc 6 1, 3) := by decide +kernel
theorem dX2_countInside_111 : decode cX2_countInside 111 = .ok (.goto (-52), 3) := by decide +kernel
theorem dX2_countInside_114 : decode cX2_countInside 114 = .ok (.iload 5, 2) := by decide +kernel
theorem dX2_countInside_116 : decode cX2_countInside 116 = .ok (.ireturn, 1) := by decide +kernel
theorem dX2_countRooms_0 : decode cX2_countRooms 0 = .ok (.aload_n 0, 1) := by decide +kernel
theorem dX2_countRooms_1 : decode cX2_countRooms 1 = .ok (.iload_n 1, 1) := by decide +kernel
theorem dX2_countRooms_2 : decode cX2_countRooms 2 = .ok (.aload_n 0, 1) := by decide +kernel
theorem dX2_countRooms_3 : decode cX2_countRooms 3 = .ok (.getfield 37, 3) := by decide +kernel
theorem dX2_countRooms_6 : decode cX2_countRooms 6 = .ok (.iload_n 1, 1) := by decide +kernel
theorem dX2_countRooms_7 : decode cX2_countRooms 7 = .ok (.invokevirtual 41, 3) := by decide +kernel
theorem dX2_countRooms_10 : decode cX2_countRooms 10 = .ok (.invokevirtual 47, 3) := by decide +kernel
theorem dX2_countRooms_13 : decode cX2_countRooms 13 = .ok (.iconst 0, 1) := by decide +kernel
theorem dX2_countRooms_14 : decode cX2_countRooms 14 = .ok (.istore_n 2, 1) := by decide +kernel
theorem dX2_countRooms_15 : decode cX2_countRooms 15 = .ok (.iload_n 2, 1) := by decide +kernel
theorem dX2_countRooms_16 : decode cX2_countRooms 16 = .ok (.sipush 400, 3) := by decide +kernel
theorem dX2_countRooms_19 : decode cX2_countRooms 19 = .ok (.if_icmp .ge 26, 3) := by decide +kernel
theorem dX2_countRooms_22 : decode cX2_countRooms 22 = .ok (.aload_n 0, 1) := by decide +kernel
theorem dX2_countRooms_23 : decode cX2_countRooms 23 = .ok (.getfield 18, 3) := by decide +kernel
theorem dX2_countRooms_26 : decode cX2_countRooms 26 = .ok (.iload_n 2, 1) := by decide +kernel
theorem dX2_countRooms_27 : decode cX2_countRooms 27 = .ok (.invokestatic 55, 3) := by decide +kernel
theorem dX2_countRooms_30 : decode cX2_countRooms 30 = .ok (.ifCond .eq 9, 3) := by decide +kernel
theorem dX2_countRooms_33 : decode cX2_countRooms 33 = .ok (.aload_n 0, 1) := by decide +kernel
theorem dX2_countRooms_34 : decode cX2_countRooms 34 = .ok (.iload_n 2, 1) := by decide +kernel
theorem dX2_countRooms_35 : decode cX2_countRooms 35 = .ok (.iconst 0, 1) := by decide +kernel
theorem dX2_countRooms_36 : decode cX2_countRooms 36 = .ok (.invokevirtual 65, 3) := by decide +kernel
theorem dX2_countRooms_39 : decode cX2_countRooms 39 = .ok (.iinc 2 1, 3) := by decide +kernel
theorem dX2_countRooms_42 : decode cX2_countRooms 42 = .ok (.goto (-27), 3) := by decide +kernel
theorem dX2_countRooms_45 : decode cX2_countRooms 45 = .ok (.aload_n 0, 1) := by decide +kernel
theorem dX2_countRooms_46 : decode cX2_countRooms 46 = .ok (.iconst 0, 1) := by decide +kernel
theorem dX2_countRooms_47 : decode cX2_countRooms 47 = .ok (.invokevirtual 68, 3) := by decide +kernel
theorem dX2_countRooms_50 : decode cX2_countRooms 50 = .ok (.iconst 0, 1) := by decide +kernel
theorem dX2_countRooms_51 : decode cX2_countRooms 51 = .ok (.istore_n 2, 1) := by decide +kernel
theorem dX2_countRooms_52 : decode cX2_countRooms 52 = .ok (.iconst 0, 1) := by decide +kernel
theorem dX2_countRooms_53 : decode cX2_countRooms 53 = .ok (.istore_n 3, 1) := by decide +kernel
theorem dX2_countRooms_54 : decode cX2_countRooms 54 = .ok (.iload_n 3, 1) := by decide +kernel
theorem dX2_countRooms_55 : decode cX2_countRooms 55 = .ok (.sipush 400, 3) := by decide +kernel
theorem dX2_countRooms_58 : decode cX2_countRooms 58 = .ok (.if_icmp .ge 39, 3) := by decide +kernel
theorem dX2_countRooms_61 : decode cX2_countRooms 61 = .ok (.aload_n 0, 1) := by decide +kernel
theorem dX2_countRooms_62 : decode cX2_countRooms 62 = .ok (.getfield 27, 3) := by decide +kernel
theorem dX2_countRooms_65 : decode cX2_countRooms 65 = .ok (.istore 4, 2) := by decide +kernel
theorem dX2_countRooms_67 : decode cX2_countRooms 67 = .ok (.aload_n 0, 1) := by decide +kernel
theorem dX2_countRooms_68 : decode cX2_countRooms 68 = .ok (.iload_n 3, 1) := by decide +kernel
theorem dX2_countRooms_69 : decode cX2_countRooms 69 = .ok (.iconst 0, 1) := by decide +kernel
theorem dX2_countRooms_70 : decode cX2_countRooms 70 = .ok (.invokevirtual 65, 3) := by decide +kernel
theorem dX2_countRooms_73 : decode cX2_countRooms 73 = .ok (.aload_n 0, 1) := by decide +kernel
theorem dX2_countRooms_74 : decode cX2_countRooms 74 = .ok (.getfield 27, 3) := by decide +kernel
theorem dX2_countRooms_77 : decode cX2_countRooms 77 = .ok (.iload 4, 2) := by decide +kernel
theorem dX2_countRooms_79 : decode cX2_countRooms 79 = .ok (.if_icmp .le 12, 3) := by decide +kernel
theorem dX2_countRooms_82 : decode cX2_countRooms 82 = .ok (.iinc 2 1, 3) := by decide +kernel
theorem dX2_countRooms_85 : decode cX2_countRooms 85 = .ok (.aload_n 0, 1) := by decide +kernel
theorem dX2_countRooms_86 : decode cX2_countRooms 86 = .ok (.iload 4, 2) := by decide +kernel
theorem dX2_countRooms_88 : decode cX2_countRooms 88 = .ok (.invokevirtual 68, 3) := by decide +kernel
theorem dX2_countRooms_91 : decode cX2_countRooms 91 = .ok (.iinc 3 1, 3) := by decide +kernel
theorem dX2_countRooms_94 : decode cX2_countRooms 94 = .ok (.goto (-40), 3) := by decide +kernel
theorem dX2_countRooms_97 : decode cX2_countRooms 97 = .ok (.iload_n 2, 1) := by decide +kernel
theorem dX2_countRooms_98 : decode cX2_countRooms 98 = .ok (.ireturn, 1) := by decide +kernel
theorem dX2_keepSteps_0 : decode cX2_keepSteps 0 = .ok (.iload_n 1, 1) := by decide +kernel
theorem dX2_keepSteps_1 : decode cX2_keepSteps 1 = .ok (.istore_n 3, 1) := by decide +kernel
theorem dX2_keepSteps_2 : decode cX2_keepSteps 2 = .ok (.aload_n 0, 1) := by decide +kernel
theorem dX2_keepSteps_3 : decode cX2_keepSteps 3 = .ok (.iload_n 2, 1) := by decide +kernel
theorem dX2_keepSteps_4 : decode cX2_keepSteps 4 = .ok (.putfield 34, 3) := by decide +kernel
theorem dX2_keepSteps_7 : decode cX2_keepSteps 7 = .ok (.iconst 0, 1) := by decide +kernel
theorem dX2_keepSteps_8 : decode cX2_keepSteps 8 = .ok (.istore 4, 2) := by decide +kernel
theorem dX2_keepSteps_10 : decode cX2_keepSteps 10 = .ok (.iload 4, 2) := by decide +kernel
theorem dX2_keepSteps_12 : decode cX2_keepSteps 12 = .ok (.iload_n 2, 1) := by decide +kernel
theorem dX2_keepSteps_13 : decode cX2_keepSteps 13 = .ok (.if_icmp .ge 48, 3) := by decide +kernel
theorem dX2_keepSteps_16 : decode cX2_keepSteps 16 = .ok (.iload 4, 2) := by decide +kernel
theorem dX2_keepSteps_18 : decode cX2_keepSteps 18 = .ok (.aload_n 0, 1) := by decide +kernel
theorem dX2_keepSteps_19 : decode cX2_keepSteps 19 = .ok (.getfield 31, 3) := by decide +kernel
theorem dX2_keepSteps_22 : decode cX2_keepSteps 22 = .ok (.arraylength, 1) := by decide +kernel
theorem dX2_keepSteps_23 : decode cX2_keepSteps 23 = .ok (.if_icmp .ge 38, 3) := by decide +kernel
theorem dX2_keepSteps_26 : decode cX2_keepSteps 26 = .ok (.aload_n 0, 1) := by decide +kernel
theorem dX2_keepSteps_27 : decode cX2_keepSteps 27 = .ok (.iload_n 3, 1) := by decide +kernel
theorem dX2_keepSteps_28 : decode cX2_keepSteps 28 = .ok (.iload_n 2, 1) := by decide +kernel
theorem dX2_keepSteps_29 : decode cX2_keepSteps 29 = .ok (.iload 4, 2) := by decide +kernel
theorem dX2_keepSteps_31 : decode cX2_keepSteps 31 = .ok (.isub, 1) := by decide +kernel
theorem dX2_keepSteps_32 : decode cX2_keepSteps 32 = .ok (.iconst 1, 1) := by decide +kernel
theorem dX2_keepSteps_33 : decode cX2_keepSteps 33 = .ok (.isub, 1) := by decide +kernel
theorem dX2_keepSteps_34 : decode cX2_keepSteps 34 = .ok (.invokevirtual 94, 3) := by decide +kernel
theorem dX2_keepSteps_37 : decode cX2_keepSteps 37 = .ok (.istore 5, 2) := by decide +kernel
theorem dX2_keepSteps_39 : decode cX2_keepSteps 39 = .ok (.aload_n 0, 1) := by decide +kernel
theorem dX2_keepSteps_40 : decode cX2_keepSteps 40 = .ok (.getfield 31, 3) := by decide +kernel
theorem dX2_keepSteps_43 : decode cX2_keepSteps 43 = .ok (.iload 4, 2) := by decide +kernel
theorem dX2_keepSteps_45 : decode cX2_keepSteps 45 = .ok (.iload 5, 2) := by decide +kernel
theorem dX2_keepSteps_47 : decode cX2_keepSteps 47 = .ok (.iastore, 1) := by decide +kernel
theorem dX2_keepSteps_48 : decode cX2_keepSteps 48 = .ok (.iload_n 3, 1) := by decide +kernel
theorem dX2_keepSteps_49 : decode cX2_keepSteps 49 = .ok (.iload 5, 2) := by decide +kernel
theorem dX2_keepSteps_51 : decode cX2_keepSteps 51 = .ok (.invokestatic 62, 3) := by decide +kernel
theorem dX2_keepSteps_54 : decode cX2_keepSteps 54 = .ok (.istore_n 3, 1) := by decide +kernel
theorem dX2_keepSteps_55 : decode cX2_keepSteps 55 = .ok (.iinc 4 1, 3) := by decide +kernel
theorem dX2_keepSteps_58 : decode cX2_keepSteps 58 = .ok (.goto (-48), 3) := by decide +kernel
theorem dX2_keepSteps_61 : decode cX2_keepSteps 61 = .ok (.return_, 1) := by decide +kernel
theorem dX2_directionTo_0 : decode cX2_directionTo 0 = .ok (.iconst 0, 1) := by decide +kernel
theorem dX2_directionTo_1 : decode cX2_directionTo 1 = .ok (.istore_n 3, 1) := by decide +kernel
theorem dX2_directionTo_2 : decode cX2_directionTo 2 = .ok (.iload_n 3, 1) := by decide +kernel
theorem dX2_directionTo_3 : decode cX2_directionTo 3 = .ok (.iconst 3, 1) := by decide +kernel
theorem dX2_directionTo_4 : decode cX2_directionTo 4 = .ok (.if_icmp .ge 24, 3) := by decide +kernel
theorem dX2_directionTo_7 : decode cX2_directionTo 7 = .ok (.aload_n 0, 1) := by decide +kernel
theorem dX2_directionTo_8 : decode cX2_directionTo 8 = .ok (.iload_n 1, 1) := by decide +kernel
theorem dX2_directionTo_9 : decode cX2_directionTo 9 = .ok (.iload_n 3, 1) := by decide +kernel
theorem dX2_directionTo_10 : decode cX2_directionTo 10 = .ok (.invokestatic 62, 3) := by decide +kernel
theorem dX2_directionTo_13 : decode cX2_directionTo 13 = .ok (.invokevirtual 72, 3) := by decide +kernel
theorem dX2_directionTo_16 : decode cX2_directionTo 16 = .ok (.iload_n 2, 1) := by decide +kernel
theorem dX2_directionTo_17 : decode cX2_directionTo 17 = .ok (.if_icmp .ne 5, 3) := by decide +kernel
theorem dX2_directionTo_20 : decode cX2_directionTo 20 = .ok (.iload_n 3, 1) := by decide +kernel
theorem dX2_directionTo_21 : decode cX2_directionTo 21 = .ok (.ireturn, 1) := by decide +kernel
theorem dX2_directionTo_22 : decode cX2_directionTo 22 = .ok (.iinc 3 1, 3) := by decide +kernel
theorem dX2_directionTo_25 : decode cX2_directionTo 25 = .ok (.goto (-23), 3) := by decide +kernel
theorem dX2_directionTo_28 : decode cX2_directionTo 28 = .ok (.iconst 3, 1) := by decide +kernel
theorem dX2_directionTo_29 : decode cX2_directionTo 29 = .ok (.ireturn, 1) := by decide +kernel
theorem dX2_survey_0 : decode cX2_survey 0 = .ok (.aload_n 0, 1) := by decide +kernel
theorem dX2_survey_1 : decode cX2_survey 1 = .ok (.getfield 37, 3) := by decide +kernel
theorem dX2_survey_4 : decode cX2_survey 4 = .ok (.iload_n 1, 1) := by decide +kernel
theorem dX2_survey_5 : decode cX2_survey 5 = .ok (.invokevirtual 78, 3) := by decide +kernel
theorem dX2_survey_8 : decode cX2_survey 8 = .ok (.istore_n 3, 1) := by decide +kernel
theorem dX2_survey_9 : decode cX2_survey 9 = .ok (.iconst 0, 1) := by decide +kernel
theorem dX2_survey_10 : decode cX2_survey 10 = .ok (.istore 4, 2) := by decide +kernel
theorem dX2_survey_12 : decode cX2_survey 12 = .ok (.iload 4, 2) := by decide +kernel
theorem dX2_survey_14 : decode cX2_survey 14 = .ok (.aload_n 0, 1) := by decide +kernel
theorem dX2_survey_15 : decode cX2_survey 15 = .ok (.getfield 9, 3) := by decide +kernel
theorem dX2_survey_18 : decode cX2_survey 18 = .ok (.arraylength, 1) := by decide +kernel
theorem dX2_survey_19 : decode cX2_survey 19 = .ok (.if_icmp .ge 42, 3) := by decide +kernel
theorem dX2_survey_22 : decode cX2_survey 22 = .ok (.aload_n 0, 1) := by decide +kernel
theorem dX2_survey_23 : decode cX2_survey 23 = .ok (.getfield 9, 3) := by decide +kernel
theorem dX2_survey_26 : decode cX2_survey 26 = .ok (.iload 4, 2) := by decide +kernel
theorem dX2_survey_28 : decode cX2_survey 28 = .ok (.aload_n 0, 1) := by decide +kernel
theorem dX2_survey_29 : decode cX2_survey 29 = .ok (.getfield 37, 3) := by decide +kernel
theorem dX2_survey_32 : decode cX2_survey 32 = .ok (.iload 4, 2) := by decide +kernel
theorem dX2_survey_34 : decode cX2_survey 34 = .ok (.bipush (-6), 2) := by decide +kernel
theorem dX2_survey_36 : decode cX2_survey 36 = .ok (.iadd, 1) := by decide +kernel
theorem dX2_survey_37 : decode cX2_survey 37 = .ok (.invokevirtual 97, 3) := by decide +kernel
theorem dX2_survey_40 : decode cX2_survey 40 = .ok (.aload_n 0, 1) := by decide +kernel
theorem dX2_survey_41 : decode cX2_survey 41 = .ok (.getfield 37, 3) := by decide +kernel
theorem dX2_survey_44 : decode cX2_survey 44 = .ok (.iload_n 2, 1) := by decide +kernel
theorem dX2_survey_45 : decode cX2_survey 45 = .ok (.iload 4, 2) := by decide +kernel
theorem dX2_survey_47 : decode cX2_survey 47 = .ok (.bipush (-6), 2) := by decide +kernel
theorem dX2_survey_49 : decode cX2_survey 49 = .ok (.iadd, 1) := by decide +kernel
theorem dX2_survey_50 : decode cX2_survey 50 = .ok (.invokevirtual 100, 3) := by decide +kernel
theorem dX2_survey_53 : decode cX2_survey 53 = .ok (.ior, 1) := by decide +kernel
theorem dX2_survey_54 : decode cX2_survey 54 = .ok (.iastore, 1) := by decide +kernel
theorem dX2_survey_55 : decode cX2_survey 55 = .ok (.iinc 4 1, 3) := by decide +kernel
theorem dX2_survey_58 : decode cX2_survey 58 = .ok (.goto (-46), 3) := by decide +kernel
theorem dX2_survey_61 : decode cX2_survey 61 = .ok (.aload_n 0, 1) := by decide +kernel
theorem dX2_survey_62 : decode cX2_survey 62 = .ok (.iload_n 3, 1) := by decide +kernel
theorem dX2_survey_63 : decode cX2_survey 63 = .ok (.aload_n 0, 1) := by decide +kernel
theorem dX2_survey_64 : decode cX2_survey 64 = .ok (.getfield 15, 3) := by decide +kernel
theorem dX2_survey_67 : decode cX2_survey 67 = .ok (.invokevirtual 103, 3) := by decide +kernel
theorem dX2_survey_70 : decode cX2_survey 70 = .ok (.iconst 0, 1) := by decide +kernel
theorem dX2_survey_71 : decode cX2_survey 71 = .ok (.istore 4, 2) := by decide +kernel
theorem dX2_survey_73 : decode cX2_survey 73 = .ok (.iload 4, 2) := by decide +kernel
theorem dX2_survey_75 : decode cX2_survey 75 = .ok (.aload_n 0, 1) := by decide +kernel
theorem dX2_survey_76 : decode cX2_survey 76 = .ok (.getfield 9, 3) := by decide +kernel
theorem dX2_survey_79 : decode cX2_survey 79 = .ok (.arraylength, 1) := by decide +kernel
theorem dX2_survey_80 : decode cX2_survey 80 = .ok (.if_icmp .ge 28, 3) := by decide +kernel
theorem dX2_survey_83 : decode cX2_survey 83 = .ok (.aload_n 0, 1) := by decide +kernel
theorem dX2_survey_84 : decode cX2_survey 84 = .ok (.getfield 9, 3) := by decide +kernel
theorem dX2_survey_87 : decode cX2_survey 87 = .ok (.iload 4, 2) := by decide +kernel
theorem dX2_survey_89 : decode cX2_survey 89 = .ok (.aload_n 0, 1) := by decide +kernel
theorem dX2_survey_90 : decode cX2_survey 90 = .ok (.getfield 37, 3) := by decide +kernel
theorem dX2_survey_93 : decode cX2_survey 93 = .ok (.iload 4, 2) := by decide +kernel
theorem dX2_survey_95 : decode cX2_survey 95 = .ok (.bipush (-6), 2) := by decide +kernel
theorem dX2_survey_97 : decode cX2_survey 97 = .ok (.iadd, 1) := by decide +kernel
theorem dX2_survey_98 : decode cX2_survey 98 = .ok (.invokevirtual 107, 3) := by decide +kernel
theorem dX2_survey_101 : decode cX2_survey 101 = .ok (.iastore, 1) := by decide +kernel
theorem dX2_survey_102 : decode cX2_survey 102 = .ok (.iinc 4 1, 3) := by decide +kernel
theorem dX2_survey_105 : decode cX2_survey 105 = .ok (.goto (-32), 3) := by decide +kernel
theorem dX2_survey_108 : decode cX2_survey 108 = .ok (.aload_n 0, 1) := by decide +kernel
theorem dX2_survey_109 : decode cX2_survey 109 = .ok (.iload_n 3, 1) := by decide +kernel
theorem dX2_survey_110 : decode cX2_survey 110 = .ok (.aload_n 0, 1) := by decide +kernel
theorem dX2_survey_111 : decode cX2_survey 111 = .ok (.getfield 18, 3) := by decide +kernel
theorem dX2_survey_114 : decode cX2_survey 114 = .ok (.invokevirtual 103, 3) := by decide +kernel
theorem dX2_survey_117 : decode cX2_survey 117 = .ok (.aload_n 0, 1) := by decide +kernel
theorem dX2_survey_118 : decode cX2_survey 118 = .ok (.iconst 0, 1) := by decide +kernel
theorem dX2_survey_119 : decode cX2_survey 119 = .ok (.putfield 27, 3) := by decide +kernel
theorem dX2_survey_122 : decode cX2_survey 122 = .ok (.iconst 0, 1) := by decide +kernel
theorem dX2_survey_123 : decode cX2_survey 123 = .ok (.istore 4, 2) := by decide +kernel
theorem dX2_survey_125 : decode cX2_survey 125 = .ok (.iload 4, 2) := by decide +kernel
theorem dX2_survey_127 : decode cX2_survey 127 = .ok (.aload_n 0, 1) := by decide +kernel
theorem dX2_survey_128 : decode cX2_survey 128 = .ok (.getfield 21, 3) := by decide +kernel
theorem dX2_survey_131 : decode cX2_survey 131 = .ok (.arraylength, 1) := by decide +kernel
theorem dX2_survey_132 : decode cX2_survey 132 = .ok (.if_icmp .ge 18, 3) := by decide +kernel
theorem dX2_survey_135 : decode cX2_survey 135 = .ok (.aload_n 0, 1) := by decide +kernel
theorem dX2_survey_136 : decode cX2_survey 136 = .ok (.getfield 21, 3) := by decide +kernel
theorem dX2_survey_139 : decode cX2_survey 139 = .ok (.iload 4, 2) := by decide +kernel
theorem dX2_survey_141 : decode cX2_survey 141 = .ok (.bipush (-4), 2) := by decide +kernel
theorem dX2_survey_143 : decode cX2_survey 143 = .ok (.iastore, 1) := by decide +kernel
theorem dX2_survey_144 : decode cX2_survey 144 = .ok (.iinc 4 1, 3) := by decide +kernel
theorem dX2_survey_147 : decode cX2_survey 147 = .ok (.goto (-22), 3) := by decide +kernel
theorem dX2_survey_150 : decode cX2_survey 150 = .ok (.return_, 1) := by decide +kernel
theorem dX2_markClear_0 : decode cX2_markClear 0 = .ok (.iconst 0, 1) := by decide +kernel
theorem dX2_markClear_1 : decode cX2_markClear 1 = .ok (.istore_n 3, 1) := by decide +kernel
theorem dX2_markClear_2 : decode cX2_markClear 2 = .ok (.iload_n 3, 1) := by decide +kernel
theorem dX2_markClear_3 : decode cX2_markClear 3 = .ok (.aload_n 2, 1) := by decide +kernel
theorem dX2_markClear_4 : decode cX2_markClear 4 = .ok (.arraylength, 1) := by decide +kernel
theorem dX2_markClear_5 : decode cX2_markClear 5 = .ok (.if_icmp .ge 72, 3) := by decide +kernel
theorem dX2_markClear_8 : decode cX2_markClear 8 = .ok (.iconst 0, 1) := by decide +kernel
theorem dX2_markClear_9 : decode cX2_markClear 9 = .ok (.istore 4, 2) := by decide +kernel
theorem dX2_markClear_11 : decode cX2_markClear 11 = .ok (.iconst 0, 1) := by decide +kernel
theorem dX2_markClear_12 : decode cX2_markClear 12 = .ok (.istore 5, 2) := by decide +kernel
theorem dX2_markClear_14 : decode cX2_markClear 14 = .ok (.iload 5, 2) := by decide +kernel
theorem dX2_markClear_16 : decode cX2_markClear 16 = .ok (.iconst 5, 1) := by decide +kernel
theorem dX2_markClear_17 : decode cX2_markClear 17 = .ok (.if_icmp .ge 44, 3) := by decide +kernel
theorem dX2_markClear_20 : decode cX2_markClear 20 = .ok (.iload_n 3, 1) := by decide +kernel
theorem dX2_markClear_21 : decode cX2_markClear 21 = .ok (.iload 5, 2) := by decide +kernel
theorem dX2_markClear_23 : decode cX2_markClear 23 = .ok (.iadd, 1) := by decide +kernel
theorem dX2_markClear_24 : decode cX2_markClear 24 = .ok (.aload_n 0, 1) := by decide +kernel
theorem dX2_markClear_25 : decode cX2_markClear 25 = .ok (.getfield 9, 3) := by decide +kernel
theorem dX2_markClear_28 : decode cX2_markClear 28 = .ok (.arraylength, 1) := by decide +kernel
theorem dX2_markClear_29 : decode cX2_markClear 29 = .ok (.if_icmp .ge 32, 3) := by decide +kernel
theorem dX2_markClear_32 : decode cX2_markClear 32 = .ok (.iload 4, 2) := by decide +kernel
theorem dX2_markClear_34 : decode cX2_markClear 34 = .ok (.iload_n 1, 1) := by decide +kernel
theorem dX2_markClear_35 : decode cX2_markClear 35 = .ok (.iload 5, 2) := by decide +kernel
theorem dX2_markClear_37 : decode cX2_markClear 37 = .ok (.invokestatic 110, 3) := by decide +kernel
theorem dX2_markClear_40 : decode cX2_markClear 40 = .ok (.aload_n 0, 1) := by decide +kernel
theorem dX2_markClear_41 : decode cX2_markClear 41 = .ok (.getfield 9, 3) := by decide +kernel
theorem dX2_markClear_44 : decode cX2_markClear 44 = .ok (.iload_n 3, 1) := by decide +kernel
theorem dX2_markClear_45 : decode cX2_markClear 45 = .ok (.iload 5, 2) := by decide +kernel
theorem dX2_markClear_47 : decode cX2_markClear 47 = .ok (.iadd, 1) := by decide +kernel
theorem dX2_markClear_48 : decode cX2_markClear 48 = .ok (.iaload, 1) := by decide +kernel
theorem dX2_markClear_49 : decode cX2_markClear 49 = .ok (.invokestatic 113, 3) := by decide +kernel
theorem dX2_markClear_52 : decode cX2_markClear 52 = .ok (.ior, 1) := by decide +kernel
theorem dX2_markClear_53 : decode cX2_markClear 53 = .ok (.istore 4, 2) := by decide +kernel
theorem dX2_markClear_55 : decode cX2_markClear 55 = .ok (.iinc 5 1, 3) := by decide +kernel
theorem dX2_markClear_58 : decode cX2_markClear 58 = .ok (.goto (-44), 3) := by decide +kernel
theorem dX2_markClear_61 : decode cX2_markClear 61 = .ok (.aload_n 2, 1) := by decide +kernel
theorem dX2_markClear_62 : decode cX2_markClear 62 = .ok (.iload_n 3, 1) := by decide +kernel
theorem dX2_markClear_63 : decode cX2_markClear 63 = .ok (.iload 4, 2) := by decide +kernel
theorem dX2_markClear_65 : decode cX2_markClear 65 = .ok (.iconst (-1), 1) := by decide +kernel
theorem dX2_markClear_66 : decode cX2_markClear 66 = .ok (.ixor, 1) := by decide +kernel
theorem dX2_markClear_67 : decode cX2_markClear 67 = .ok (.ldc 116, 2) := by decide +kernel
theorem dX2_markClear_69 : decode cX2_markClear 69 = .ok (.iand, 1) := by decide +kernel
theorem dX2_markClear_70 : decode cX2_markClear 70 = .ok (.iastore, 1) := by decide +kernel
theorem dX2_markClear_71 : decode cX2_markClear 71 = .ok (.iinc 3 1, 3) := by decide +kernel
theorem dX2_markClear_74 : decode cX2_markClear 74 = .ok (.goto (-72), 3) := by decide +kernel
theorem dX2_markClear_77 : decode cX2_markClear 77 = .ok (.return_, 1) := by decide +kernel
theorem dX2_hitPlaces_0 : decode cX2_hitPlaces 0 = .ok (.iconst 0, 1) := by decide +kernel
theorem dX2_hitPlaces_1 : decode cX2_hitPlaces 1 = .ok (.istore_n 2, 1) := by decide +kernel
theorem dX2_hitPlaces_2 : decode cX2_hitPlaces 2 = .ok (.iconst 0, 1) := by decide +kernel
theorem dX2_hitPlaces_3 : decode cX2_hitPlaces 3 = .ok (.istore_n 3, 1) := by decide +kernel
theorem dX2_hitPlaces_4 : decode cX2_hitPlaces 4 = .ok (.iload_n 3, 1) := by decide +kernel
theorem dX2_hitPlaces_5 : decode cX2_hitPlaces 5 = .ok (.iconst 5, 1) := by decide +kernel
theorem dX2_hitPlaces_6 : decode cX2_hitPlaces 6 = .ok (.if_icmp .ge 24, 3) := by decide +kernel
theorem dX2_hitPlaces_9 : decode cX2_hitPlaces 9 = .ok (.iload_n 0, 1) := by decide +kernel
theorem dX2_hitPlaces_10 : decode cX2_hitPlaces 10 = .ok (.iload_n 3, 1) := by decide +kernel
theorem dX2_hitPlaces_11 : decode cX2_hitPlaces 11 = .ok (.ishr, 1) := by decide +kernel
theorem dX2_hitPlaces_12 : decode cX2_hitPlaces 12 = .ok (.iconst 1, 1) := by decide +kernel
theorem dX2_hitPlaces_13 : decode cX2_hitPlaces 13 = .ok (.iand, 1) := by decide +kernel
theorem dX2_hitPlaces_14 : decode cX2_hitPlaces 14 = .ok (.iconst 1, 1) := by decide +kernel
theorem dX2_hitPlaces_15 : decode cX2_hitPlaces 15 = .ok (.if_icmp .ne 9, 3) := by decide +kernel
theorem dX2_hitPlaces_18 : decode cX2_hitPlaces 18 = .ok (.iload_n 2, 1) := by decide +kernel
theorem dX2_hitPlaces_19 : decode cX2_hitPlaces 19 = .ok (.iload_n 1, 1) := by decide +kernel
theorem dX2_hitPlaces_20 : decode cX2_hitPlaces 20 = .ok (.iload_n 3, 1) := by decide +kernel
theorem dX2_hitPlaces_21 : decode cX2_hitPlaces 21 = .ok (.ishr, 1) := by decide +kernel
theorem dX2_hitPlaces_22 : decode cX2_hitPlaces 22 = .ok (.ior, 1) := by decide +kernel
theorem dX2_hitPlaces_23 : decode cX2_hitPlaces 23 = .ok (.istore_n 2, 1) := by decide +kernel
theorem dX2_hitPlaces_24 : decode cX2_hitPlaces 24 = .ok (.iinc 3 1, 3) := by decide +kernel
theorem dX2_hitPlaces_27 : decode cX2_hitPlaces 27 = .ok (.goto (-23), 3) := by decide +kernel
theorem dX2_hitPlaces_30 : decode cX2_hitPlaces 30 = .ok (.iload_n 2, 1) := by decide +kernel
theorem dX2_hitPlaces_31 : decode cX2_hitPlaces 31 = .ok (.ireturn, 1) := by decide +kernel
theorem dX2_spreadFrom_0 : decode cX2_spreadFrom 0 = .ok (.iload_n 1, 1) := by decide +kernel
theorem dX2_spreadFrom_1 : decode cX2_spreadFrom 1 = .ok (.istore_n 2, 1) := by decide +kernel
theorem dX2_spreadFrom_2 : decode cX2_spreadFrom 2 = .ok (.iload_n 2, 1) := by decide +kernel
theorem dX2_spreadFrom_3 : decode cX2_spreadFrom 3 = .ok (.aload_n 0, 1) := by decide +kernel
theorem dX2_spreadFrom_4 : decode cX2_spreadFrom 4 = .ok (.getfield 27, 3) := by decide +kernel
theorem dX2_spreadFrom_7 : decode cX2_spreadFrom 7 = .ok (.if_icmp .ge 61, 3) := by decide +kernel
theorem dX2_spreadFrom_10 : decode cX2_spreadFrom 10 = .ok (.iload_n 2, 1) := by decide +kernel
theorem dX2_spreadFrom_11 : decode cX2_spreadFrom 11 = .ok (.aload_n 0, 1) := by decide +kernel
theorem dX2_spreadFrom_12 : decode cX2_spreadFrom 12 = .ok (.getfield 24, 3) := by decide +kernel
theorem dX2_spreadFrom_15 : decode cX2_spreadFrom 15 = .ok (.arraylength, 1) := by decide +kernel
theorem dX2_spreadFrom_16 : decode cX2_spreadFrom 16 = .ok (.if_icmp .ge 52, 3) := by decide +kernel
theorem dX2_spreadFrom_19 : decode cX2_spreadFrom 19 = .ok (.aload_n 0, 1) := by decide +kernel
theorem dX2_spreadFrom_20 : decode cX2_spreadFrom 20 = .ok (.getfield 24, 3) := by decide +kernel
theorem dX2_spreadFrom_23 : decode cX2_spreadFrom 23 = .ok (.iload_n 2, 1) := by decide +kernel
theorem dX2_spreadFrom_24 : decode cX2_spreadFrom 24 = .ok (.iaload, 1) := by decide +kernel
theorem dX2_spreadFrom_25 : decode cX2_spreadFrom 25 = .ok (.istore_n 3, 1) := by decide +kernel
theorem dX2_spreadFrom_26 : decode cX2_spreadFrom 26 = .ok (.aload_n 0, 1) := by decide +kernel
theorem dX2_spreadFrom_27 : decode cX2_spreadFrom 27 = .ok (.iload_n 3, 1) := by decide +kernel
theorem dX2_spreadFrom_28 : decode cX2_spreadFrom 28 = .ok (.invokevirtual 72, 3) := by decide +kernel
theorem dX2_spreadFrom_31 : decode cX2_spreadFrom 31 = .ok (.iconst 1, 1) := by decide +kernel
theorem dX2_spreadFrom_32 : decode cX2_spreadFrom 32 = .ok (.iadd, 1) := by decide +kernel
theorem dX2_spreadFrom_33 : decode cX2_spreadFrom 33 = .ok (.istore 4, 2) := by decide +kernel
theorem dX2_spreadFrom_35 : decode cX2_spreadFrom 35 = .ok (.iconst 0, 1) := by decide +kernel
theorem dX2_spreadFrom_36 : decode cX2_spreadFrom 36 = .ok (.istore 5, 2) := by decide +kernel
theorem dX2_spreadFrom_38 : decode cX2_spreadFrom 38 = .ok (.iload 5, 2) := by decide +kernel
theorem dX2_spreadFrom_40 : decode cX2_spreadFrom 40 = .ok (.iconst 3, 1) := by decide +kernel
theorem dX2_spreadFrom_41 : decode cX2_spreadFrom 41 = .ok (.if_icmp .gt 21, 3) := by decide +kernel
theorem dX2_spreadFrom_44 : decode cX2_spreadFrom 44 = .ok (.aload_n 0, 1) := by decide +kernel
theorem dX2_spreadFrom_45 : decode cX2_spreadFrom 45 = .ok (.iload_n 3, 1) := by decide +kernel
theorem dX2_spreadFrom_46 : decode cX2_spreadFrom 46 = .ok (.iload 5, 2) := by decide +kernel
theorem dX2_spreadFrom_48 : decode cX2_spreadFrom 48 = .ok (.invokestatic 62, 3) := by decide +kernel
theorem dX2_spreadFrom_51 : decode cX2_spreadFrom 51 = .ok (.iload 4, 2) := by decide +kernel
theorem dX2_spreadFrom_53 : decode cX2_spreadFrom 53 = .ok (.invokevirtual 65, 3) := by decide +kernel
theorem dX2_spreadFrom_56 : decode cX2_spreadFrom 56 = .ok (.iinc 5 1, 3) := by decide +kernel
theorem dX2_spreadFrom_59 : decode cX2_spreadFrom 59 = .ok (.goto (-21), 3) := by decide +kernel
theorem dX2_spreadFrom_62 : decode cX2_spreadFrom 62 = .ok (.iinc 2 1, 3) := by decide +kernel
theorem dX2_spreadFrom_65 : decode cX2_spreadFrom 65 = .ok (.goto (-63), 3) := by decide +kernel
theorem dX2_spreadFrom_68 : decode cX2_spreadFrom 68 = .ok (.return_, 1) := by decide +kernel
theorem dX2_reach_0 : decode cX2_reach 0 = .ok (.aload_n 0, 1) := by decide +kernel
theorem dX2_reach_1 : decode cX2_reach 1 = .ok (.getfield 15, 3) := by decide +kernel
theorem dX2_reach_4 : decode cX2_reach 4 = .ok (.iload_n 1, 1) := by decide +kernel
theorem dX2_reach_5 : decode cX2_reach 5 = .ok (.invokestatic 55, 3) := by decide +kernel
theorem dX2_reach_8 : decode cX2_reach 8 = .ok (.ifCond .eq 59, 3) := by decide +kernel
theorem dX2_reach_11 : decode cX2_reach 11 = .ok (.aload_n 0, 1) := by decide +kernel
theorem dX2_reach_12 : decode cX2_reach 12 = .ok (.iload_n 1, 1) := by decide +kernel
theorem dX2_reach_13 : decode cX2_reach 13 = .ok (.invokevirtual 72, 3) := by decide +kernel
theorem dX2_reach_16 : decode cX2_reach 16 = .ok (.ifCond .ge 51, 3) := by decide +kernel
theorem dX2_reach_19 : decode cX2_reach 19 = .ok (.iload_n 1, 1) := by decide +kernel
theorem dX2_reach_20 : decode cX2_reach 20 = .ok (.aload_n 0, 1) := by decide +kernel
theorem dX2_reach_21 : decode cX2_reach 21 = .ok (.getfield 21, 3) := by decide +kernel
theorem dX2_reach_24 : decode cX2_reach 24 = .ok (.arraylength, 1) := by decide +kernel
theorem dX2_reach_25 : decode cX2_reach 25 = .ok (.if_icmp .ge 42, 3) := by decide +kernel
theorem dX2_reach_28 : decode cX2_reach 28 = .ok (.aload_n 0, 1) := by decide +kernel
theorem dX2_reach_29 : decode cX2_reach 29 = .ok (.getfield 27, 3) := by decide +kernel
theorem dX2_reach_32 : decode cX2_reach 32 = .ok (.aload_n 0, 1) := by decide +kernel
theorem dX2_reach_33 : decode cX2_reach 33 = .ok (.getfield 24, 3) := by decide +kernel
theorem dX2_reach_36 : decode cX2_reach 36 = .ok (.arraylength, 1) := by decide +kernel
theorem dX2_reach_37 : decode cX2_reach 37 = .ok (.if_icmp .ge 30, 3) := by decide +kernel
theorem dX2_reach_40 : decode cX2_reach 40 = .ok (.aload_n 0, 1) := by decide +kernel
theorem dX2_reach_41 : decode cX2_reach 41 = .ok (.getfield 21, 3) := by decide +kernel
theorem dX2_reach_44 : decode cX2_reach 44 = .ok (.iload_n 1, 1) := by decide +kernel
theorem dX2_reach_45 : decode cX2_reach 45 = .ok (.iload_n 2, 1) := by decide +kernel
theorem dX2_reach_46 : decode cX2_reach 46 = .ok (.iastore, 1) := by decide +kernel
theorem dX2_reach_47 : decode cX2_reach 47 = .ok (.aload_n 0, 1) := by decide +kernel
theorem dX2_reach_48 : decode cX2_reach 48 = .ok (.getfield 24, 3) := by decide +kernel
theorem dX2_reach_51 : decode cX2_reach 51 = .ok (.aload_n 0, 1) := by decide +kernel
theorem dX2_reach_52 : decode cX2_reach 52 = .ok (.getfield 27, 3) := by decide +kernel
theorem dX2_reach_55 : decode cX2_reach 55 = .ok (.iload_n 1, 1) := by decide +kernel
theorem dX2_reach_56 : decode cX2_reach 56 = .ok (.iastore, 1) := by decide +kernel
theorem dX2_reach_57 : decode cX2_reach 57 = .ok (.aload_n 0, 1) := by decide +kernel
theorem dX2_reach_58 : decode cX2_reach 58 = .ok (.dup, 1) := by decide +kernel
theorem dX2_reach_59 : decode cX2_reach 59 = .ok (.getfield 27, 3) := by decide +kernel
theorem dX2_reach_62 : decode cX2_reach 62 = .ok (.iconst 1, 1) := by decide +kernel
theorem dX2_reach_63 : decode cX2_reach 63 = .ok (.iadd, 1) := by decide +kernel
theorem dX2_reach_64 : decode cX2_reach 64 = .ok (.putfield 27, 3) := by decide +kernel
theorem dX2_reach_67 : decode cX2_reach 67 = .ok (.return_, 1) := by decide +kernel
theorem dX2_distanceOf_0 : decode cX2_distanceOf 0 = .ok (.iload_n 1, 1) := by decide +kernel
theorem dX2_distanceOf_1 : decode cX2_distanceOf 1 = .ok (.ifCond .lt 12, 3) := by decide +kernel
theorem dX2_distanceOf_4 : decode cX2_distanceOf 4 = .ok (.iload_n 1, 1) := by decide +kernel
theorem dX2_distanceOf_5 : decode cX2_distanceOf 5 = .ok (.aload_n 0, 1) := by decide +kernel
theorem dX2_distanceOf_6 : decode cX2_distanceOf 6 = .ok (.getfield 21, 3) := by decide +kernel
theorem dX2_distanceOf_9 : decode cX2_distanceOf 9 = .ok (.arraylength, 1) := by decide +kernel
theorem dX2_distanceOf_10 : decode cX2_distanceOf 10 = .ok (.if_icmp .lt 8, 3) := by decide +kernel
theorem dX2_distanceOf_13 : decode cX2_distanceOf 13 = .ok (.bipush (-4), 2) := by decide +kernel
theorem dX2_distanceOf_15 : decode cX2_distanceOf 15 = .ok (.goto 9, 3) := by decide +kernel
theorem dX2_distanceOf_18 : decode cX2_distanceOf 18 = .ok (.aload_n 0, 1) := by decide +kernel
theorem dX2_distanceOf_19 : decode cX2_distanceOf 19 = .ok (.getfield 21, 3) := by decide +kernel
theorem dX2_distanceOf_22 : decode cX2_distanceOf 22 = .ok (.iload_n 1, 1) := by decide +kernel
theorem dX2_distanceOf_23 : decode cX2_distanceOf 23 = .ok (.iaload, 1) := by decide +kernel
theorem dX2_distanceOf_24 : decode cX2_distanceOf 24 = .ok (.ireturn, 1) := by decide +kernel
theorem dX2_isMarked_0 : decode cX2_isMarked 0 = .ok (.iload_n 1, 1) := by decide +kernel
theorem dX2_isMarked_1 : decode cX2_isMarked 1 = .ok (.ifCond .lt 12, 3) := by decide +kernel
theorem dX2_isMarked_4 : decode cX2_isMarked 4 = .ok (.iload_n 1, 1) := by decide +kernel
theorem dX2_isMarked_5 : decode cX2_isMarked 5 = .ok (.bipush 20, 2) := by decide +kernel
theorem dX2_isMarked_7 : decode cX2_isMarked 7 = .ok (.idiv, 1) := by decide +kernel
theorem dX2_isMarked_8 : decode cX2_isMarked 8 = .ok (.aload_n 0, 1) := by decide +kernel
theorem dX2_isMarked_9 : decode cX2_isMarked 9 = .ok (.arraylength, 1) := by decide +kernel
theorem dX2_isMarked_10 : decode cX2_isMarked 10 = .ok (.if_icmp .lt 5, 3) := by decide +kernel
theorem dX2_isMarked_13 : decode cX2_isMarked 13 = .ok (.iconst 0, 1) := by decide +kernel
theorem dX2_isMarked_14 : decode cX2_isMarked 14 = .ok (.ireturn, 1) := by decide +kernel
theorem dX2_isMarked_15 : decode cX2_isMarked 15 = .ok (.aload_n 0, 1) := by decide +kernel
theorem dX2_isMarked_16 : decode cX2_isMarked 16 = .ok (.iload_n 1, 1) := by decide +kernel
theorem dX2_isMarked_17 : decode cX2_isMarked 17 = .ok (.bipush 20, 2) := by decide +kernel
theorem dX2_isMarked_19 : decode cX2_isMarked 19 = .ok (.idiv, 1) := by decide +kernel
theorem dX2_isMarked_20 : decode cX2_isMarked 20 = .ok (.iaload, 1) := by decide +kernel
theorem dX2_isMarked_21 : decode cX2_isMarked 21 = .ok (.iload_n 1, 1) := by decide +kernel
theorem dX2_isMarked_22 : decode cX2_isMarked 22 = .ok (.bipush 20, 2) := by decide +kernel
theorem dX2_isMarked_24 : decode cX2_isMarked 24 = .ok (.irem, 1) := by decide +kernel
theorem dX2_isMarked_25 : decode cX2_isMarked 25 = .ok (.ishr, 1) := by decide +kernel
theorem dX2_isMarked_26 : decode cX2_isMarked 26 = .ok (.iconst 1, 1) := by decide +kernel
theorem dX2_isMarked_27 : decode cX2_isMarked 27 = .ok (.iand, 1) := by decide +kernel
theorem dX2_isMarked_28 : decode cX2_isMarked 28 = .ok (.iconst 1, 1) := by decide +kernel
theorem dX2_isMarked_29 : decode cX2_isMarked 29 = .ok (.if_icmp .ne 7, 3) := by decide +kernel
theorem dX2_isMarked_32 : decode cX2_isMarked 32 = .ok (.iconst 1, 1) := by decide +kernel
theorem dX2_isMarked_33 : decode cX2_isMarked 33 = .ok (.goto 4, 3) := by decide +kernel
theorem dX2_isMarked_36 : decode cX2_isMarked 36 = .ok (.iconst 0, 1) := by decide +kernel
theorem dX2_isMarked_37 : decode cX2_isMarked 37 = .ok (.ireturn, 1) := by decide +kernel
theorem dX2_whereLies_0 : decode cX2_whereLies 0 = .ok (.aload_n 0, 1) := by decide +kernel
theorem dX2_whereLies_1 : decode cX2_whereLies 1 = .ok (.getfield 37, 3) := by decide +kernel
theorem dX2_whereLies_4 : decode cX2_whereLies 4 = .ok (.iload_n 1, 1) := by decide +kernel
theorem dX2_whereLies_5 : decode cX2_whereLies 5 = .ok (.invokevirtual 117, 3) := by decide +kernel
theorem dX2_whereLies_8 : decode cX2_whereLies 8 = .ok (.aload_n 0, 1) := by decide +kernel
theorem dX2_whereLies_9 : decode cX2_whereLies 9 = .ok (.getfield 37, 3) := by decide +kernel
theorem dX2_whereLies_12 : decode cX2_whereLies 12 = .ok (.iload_n 1, 1) := by decide +kernel
theorem dX2_whereLies_13 : decode cX2_whereLies 13 = .ok (.invokevirtual 120, 3) := by decide +kernel
theorem dX2_whereLies_16 : decode cX2_whereLies 16 = .ok (.invokestatic 51, 3) := by decide +kernel
theorem dX2_whereLies_19 : decode cX2_whereLies 19 = .ok (.ireturn, 1) := by decide +kernel
theorem dX2_placeAt_0 : decode cX2_placeAt 0 = .ok (.iload_n 0, 1) := by decide +kernel
theorem dX2_placeAt_1 : decode cX2_placeAt 1 = .ok (.iload_n 1, 1) := by decide +kernel
theorem dX2_placeAt_2 : decode cX2_placeAt 2 = .ok (.invokestatic 123, 3) := by decide +kernel
theorem dX2_placeAt_5 : decode cX2_placeAt 5 = .ok (.ifCond .eq 18, 3) := by decide +kernel
theorem dX2_placeAt_8 : decode cX2_placeAt 8 = .ok (.bipush 20, 2) := by decide +kernel
theorem dX2_placeAt_10 : decode cX2_placeAt 10 = .ok (.iload_n 1, 1) := by decide +kernel
theorem dX2_placeAt_11 : decode cX2_placeAt 11 = .ok (.bipush (-6), 2) := by decide +kernel
theorem dX2_placeAt_13 : decode cX2_placeAt 13 = .ok (.isub, 1) := by decide +kernel
theorem dX2_placeAt_14 : decode cX2_placeAt 14 = .ok (.imul, 1) := by decide +kernel
theorem dX2_placeAt_15 : decode cX2_placeAt 15 = .ok (.iload_n 0, 1) := by decide +kernel
theorem dX2_placeAt_16 : decode cX2_placeAt 16 = .ok (.iadd, 1) := by decide +kernel
theorem dX2_placeAt_17 : decode cX2_placeAt 17 = .ok (.bipush (-6), 2) := by decide +kernel
theorem dX2_placeAt_19 : decode cX2_placeAt 19 = .ok (.isub, 1) := by decide +kernel
theorem dX2_placeAt_20 : decode cX2_placeAt 20 = .ok (.goto 5, 3) := by decide +kernel
theorem dX2_placeAt_23 : decode cX2_placeAt 23 = .ok (.bipush (-4), 2) := by decide +kernel
theorem dX2_placeAt_25 : decode cX2_placeAt 25 = .ok (.ireturn, 1) := by decide +kernel
theorem dX2_beside_0 : decode cX2_beside 0 = .ok (.iload_n 0, 1) := by decide +kernel
theorem dX2_beside_1 : decode cX2_beside 1 = .ok (.bipush 20, 2) := by decide +kernel
theorem dX2_beside_3 : decode cX2_beside 3 = .ok (.irem, 1) := by decide +kernel
theorem dX2_beside_4 : decode cX2_beside 4 = .ok (.iload_n 1, 1) := by decide +kernel
theorem dX2_beside_5 : decode cX2_beside 5 = .ok (.invokestatic 127, 3) := by decide +kernel
theorem dX2_beside_8 : decode cX2_beside 8 = .ok (.iadd, 1) := by decide +kernel
theorem dX2_beside_9 : decode cX2_beside 9 = .ok (.istore_n 2, 1) := by decide +kernel
theorem dX2_beside_10 : decode cX2_beside 10 = .ok (.iload_n 0, 1) := by decide +kernel
theorem dX2_beside_11 : decode cX2_beside 11 = .ok (.bipush 20, 2) := by decide +kernel
theorem dX2_beside_13 : decode cX2_beside 13 = .ok (.idiv, 1) := by decide +kernel
theorem dX2_beside_14 : decode cX2_beside 14 = .ok (.iload_n 1, 1) := by decide +kernel
theorem dX2_beside_15 : decode cX2_beside 15 = .ok (.invokestatic 130, 3) := by decide +kernel
theorem dX2_beside_18 : decode cX2_beside 18 = .ok (.iadd, 1) := by decide +kernel
theorem dX2_beside_19 : decode cX2_beside 19 = .ok (.istore_n 3, 1) := by decide +kernel
theorem dX2_beside_20 : decode cX2_beside 20 = .ok (.iload_n 0, 1) := by decide +kernel
theorem dX2_beside_21 : decode cX2_beside 21 = .ok (.ifCond .lt 23, 3) := by decide +kernel
theorem dX2_beside_24 : decode cX2_beside 24 = .ok (.iload_n 2, 1) := by decide +kernel
theorem dX2_beside_25 : decode cX2_beside 25 = .ok (.ifCond .lt 19, 3) := by decide +kernel
theorem dX2_beside_28 : decode cX2_beside 28 = .ok (.iload_n 2, 1) := by decide +kernel
theorem dX2_beside_29 : decode cX2_beside 29 = .ok (.bipush 20, 2) := by decide +kernel
theorem dX2_beside_31 : decode cX2_beside 31 = .ok (.if_icmp .ge 13, 3) := by decide +kernel
theorem dX2_beside_34 : decode cX2_beside 34 = .ok (.iload_n 3, 1) := by decide +kernel
theorem dX2_beside_35 : decode cX2_beside 35 = .ok (.ifCond .lt 9, 3) := by decide +kernel
theorem dX2_beside_38 : decode cX2_beside 38 = .ok (.iload_n 3, 1) := by decide +kernel
theorem dX2_beside_39 : decode cX2_beside 39 = .ok (.bipush 20, 2) := by decide +kernel
theorem dX2_beside_41 : decode cX2_beside 41 = .ok (.if_icmp .lt 6, 3) := by decide +kernel
theorem dX2_beside_44 : decode cX2_beside 44 = .ok (.bipush (-4), 2) := by decide +kernel
theorem dX2_beside_46 : decode cX2_beside 46 = .ok (.ireturn, 1) := by decide +kernel
theorem dX2_beside_47 : decode cX2_beside 47 = .ok (.bipush 20, 2) := by decide +kernel
theorem dX2_beside_49 : decode cX2_beside 49 = .ok (.iload_n 3, 1) := by decide +kernel
theorem dX2_beside_50 : decode cX2_beside 50 = .ok (.imul, 1) := by decide +kernel
theorem dX2_beside_51 : decode cX2_beside 51 = .ok (.iload_n 2, 1) := by decide +kernel
theorem dX2_beside_52 : decode cX2_beside 52 = .ok (.iadd, 1) := by decide +kernel
theorem dX2_beside_53 : decode cX2_beside 53 = .ok (.ireturn, 1) := by decide +kernel
theorem dX3_init_0 : decode cX3_init 0 = .ok (.aload_n 0, 1) := by decide +kernel
theorem dX3_init_1 : decode cX3_init 1 = .ok (.invokespecial 3, 3) := by decide +kernel
theorem dX3_init_4 : decode cX3_init 4 = .ok (.aload_n 0, 1) := by decide +kernel
theorem dX3_init_5 : decode cX3_init 5 = .ok (.bipush 10, 2) := by decide +kernel
theorem dX3_init_7 : decode cX3_init 7 = .ok (.newarray .int, 2) := by decide +kernel
theorem dX3_init_9 : decode cX3_init 9 = .ok (.putfield 9, 3) := by decide +kernel
theorem dX3_init_12 : decode cX3_init 12 = .ok (.aload_n 0, 1) := by decide +kernel
theorem dX3_init_13 : decode cX3_init 13 = .ok (.bipush 8, 2) := by decide +kernel
theorem dX3_init_15 : decode cX3_init 15 = .ok (.newarray .int, 2) := by decide +kernel
theorem dX3_init_17 : decode cX3_init 17 = .ok (.putfield 15, 3) := by decide +kernel
theorem dX3_init_20 : decode cX3_init 20 = .ok (.aload_n 0, 1) := by decide +kernel
theorem dX3_init_21 : decode cX3_init 21 = .ok (.bipush 8, 2) := by decide +kernel
theorem dX3_init_23 : decode cX3_init 23 = .ok (.newarray .int, 2) := by decide +kernel
theorem dX3_init_25 : decode cX3_init 25 = .ok (.putfield 18, 3) := by decide +kernel
theorem dX3_init_28 : decode cX3_init 28 = .ok (.aload_n 0, 1) := by decide +kernel
theorem dX3_init_29 : decode cX3_init 29 = .ok (.bipush 8, 2) := by decide +kernel
theorem dX3_init_31 : decode cX3_init 31 = .ok (.newarray .int, 2) := by decide +kernel
theorem dX3_init_33 : decode cX3_init 33 = .ok (.putfield 21, 3) := by decide +kernel
theorem dX3_init_36 : decode cX3_init 36 = .ok (.aload_n 0, 1) := by decide +kernel
theorem dX3_init_37 : decode cX3_init 37 = .ok (.iconst 1, 1) := by decide +kernel
theorem dX3_init_38 : decode cX3_init 38 = .ok (.putfield 24, 3) := by decide +kernel
theorem dX3_init_41 : decode cX3_init 41 = .ok (.aload_n 0, 1) := by decide +kernel
theorem dX3_init_42 : decode cX3_init 42 = .ok (.iconst 1, 1) := by decide +kernel
theorem dX3_init_43 : decode cX3_init 43 = .ok (.putfield 28, 3) := by decide +kernel
theorem dX3_init_46 : decode cX3_init 46 = .ok (.aload_n 0, 1) := by decide +kernel
theorem dX3_init_47 : decode cX3_init 47 = .ok (.iconst 0, 1) := by decide +kernel
theorem dX3_init_48 : decode cX3_init 48 = .ok (.putfield 31, 3) := by decide +kernel
theorem dX3_init_51 : decode cX3_init 51 = .ok (.aload_n 0, 1) := by decide +kernel
theorem dX3_init_52 : decode cX3_init 52 = .ok (.iconst 0, 1) := by decide +kernel
theorem dX3_init_53 : decode cX3_init 53 = .ok (.putfield 34, 3) := by decide +kernel
theorem dX3_init_56 : decode cX3_init 56 = .ok (.return_, 1) := by decide +kernel
theorem dX3_renew_0 : decode cX3_renew 0 = .ok (.aload_n 0, 1) := by decide +kernel
theorem dX3_renew_1 : decode cX3_renew 1 = .ok (.iload_n 1, 1) := by decide +kernel
theorem dX3_renew_2 : decode cX3_renew 2 = .ok (.putfield 24, 3) := by decide +kernel
theorem dX3_renew_5 : decode cX3_renew 5 = .ok (.aload_n 0, 1) := by decide +kernel
theorem dX3_renew_6 : decode cX3_renew 6 = .ok (.iload_n 2, 1) := by decide +kernel
theorem dX3_renew_7 : decode cX3_renew 7 = .ok (.putfield 28, 3) := by decide +kernel
theorem dX3_renew_10 : decode cX3_renew 10 = .ok (.aload_n 0, 1) := by decide +kernel
theorem dX3_renew_11 : decode cX3_renew 11 = .ok (.iconst 0, 1) := by decide +kernel
theorem dX3_renew_12 : decode cX3_renew 12 = .ok (.putfield 34, 3) := by decide +kernel
theorem dX3_renew_15 : decode cX3_renew 15 = .ok (.iconst 0, 1) := by decide +kernel
theorem dX3_renew_16 : decode cX3_renew 16 = .ok (.istore_n 3, 1) := by decide +kernel
theorem dX3_renew_17 : decode cX3_renew 17 = .ok (.iload_n 3, 1) := by decide +kernel
theorem dX3_renew_18 : decode cX3_renew 18 = .ok (.aload_n 0, 1) := by decide +kernel
theorem dX3_renew_19 : decode cX3_renew 19 = .ok (.getfield 9, 3) := by decide +kernel
theorem dX3_renew_22 : decode cX3_renew 22 = .ok (.arraylength, 1) := by decide +kernel
theorem dX3_renew_23 : decode cX3_renew 23 = .ok (.if_icmp .ge 16, 3) := by decide +kernel
theorem dX3_renew_26 : decode cX3_renew 26 = .ok (.aload_n 0, 1) := by decide +kernel
theorem dX3_renew_27 : decode cX3_renew 27 = .ok (.getfield 9, 3) := by decide +kernel
theorem dX3_renew_30 : decode cX3_renew 30 = .ok (.iload_n 3, 1) := by decide +kernel
theorem dX3_renew_31 : decode cX3_renew 31 = .ok (.iconst 0, 1) := by decide +kernel
theorem dX3_renew_32 : decode cX3_renew 32 = .ok (.iastore, 1) := by decide +kernel
theorem dX3_renew_33 : decode cX3_renew 33 = .ok (.iinc 3 1, 3) := by decide +kernel
theorem dX3_renew_36 : decode cX3_renew 36 = .ok (.goto (-19), 3) := by decide +kernel
theorem dX3_renew_39 : decode cX3_renew 39 = .ok (.return_, 1) := by decide +kernel
theorem dX3_columnCount_0 : decode cX3_columnCount 0 = .ok (.aload_n 0, 1) := by decide +kernel
theorem dX3_columnCount_1 : decode cX3_columnCount 1 = .ok (.getfield 24, 3) := by decide +kernel
theorem dX3_columnCount_4 : decode cX3_columnCount 4 = .ok (.ireturn, 1) := by decide +kernel
theorem dX3_rowCount_0 : decode cX3_rowCount 0 = .ok (.aload_n 0, 1) := by decide +kernel
theorem dX3_rowCount_1 : decode cX3_rowCount 1 = .ok (.getfield 28, 3) := by decide +kernel
theorem dX3_rowCount_4 : decode cX3_rowCount 4 = .ok (.ireturn, 1) := by decide +kernel
theorem dX3_pieceCount_0 : decode cX3_pieceCount 0 = .ok (.aload_n 0, 1) := by decide +kernel
theorem dX3_pieceCount_1 : decode cX3_pieceCount 1 = .ok (.getfield 31, 3) := by decide +kernel
theorem dX3_pieceCount_4 : decode cX3_pieceCount 4 = .ok (.ireturn, 1) := by decide +kernel
theorem dX3_lyingSet_0 : decode cX3_lyingSet 0 = .ok (.aload_n 0, 1) := by decide +kernel
theorem dX3_lyingSet_1 : decode cX3_lyingSet 1 = .ok (.getfield 34, 3) := by decide +kernel
theorem dX3_lyingSet_4 : decode cX3_lyingSet 4 = .ok (.ireturn, 1) := by decide +kernel
theorem dX3_wallCount_0 : decode cX3_wallCount 0 = .ok (.iconst 0, 1) := by decide +kernel
theorem dX3_wallCount_1 : decode cX3_wallCount 1 = .ok (.istore_n 1, 1) := by decide +kernel
theorem dX3_wallCount_2 : decode cX3_wallCount 2 = .ok (.iconst 0, 1) := by decide +kernel
theorem dX3_wallCount_3 : decode cX3_wallCount 3 = .ok (.istore_n 2, 1) := by decide +kernel
theorem dX3_wallCount_4 : decode cX3_wallCount 4 = .ok (.iload_n 2, 1) := by decide +kernel
theorem dX3_wallCount_5 : decode cX3_wallCount 5 = .ok (.aload_n 0, 1) := by decide +kernel
theorem dX3_wallCount_6 : decode cX3_wallCount 6 = .ok (.getfield 9, 3) := by decide +kernel
theorem dX3_wallCount_9 : decode cX3_wallCount 9 = .ok (.arraylength, 1) := by decide +kernel
theorem dX3_wallCount_10 : decode cX3_wallCount 10 = .ok (.if_icmp .ge 21, 3) := by decide +kernel
theorem dX3_wallCount_13 : decode cX3_wallCount 13 = .ok (.iload_n 1, 1) := by decide +kernel
theorem dX3_wallCount_14 : decode cX3_wallCount 14 = .ok (.aload_n 0, 1) := by decide +kernel
theorem dX3_wallCount_15 : decode cX3_wallCount 15 = .ok (.getfield 9, 3) := by decide +kernel
theorem dX3_wallCount_18 : decode cX3_wallCount 18 = .ok (.iload_n 2, 1) := by decide +kernel
theorem dX3_wallCount_19 : decode cX3_wallCount 19 = .ok (.iaload, 1) := by decide +kernel
theorem dX3_wallCount_20 : decode cX3_wallCount 20 = .ok (.invokestatic 37, 3) := by decide +kernel
theorem dX3_wallCount_23 : decode cX3_wallCount 23 = .ok (.iadd, 1) := by decide +kernel
theorem dX3_wallCount_24 : decode cX3_wallCount 24 = .ok (.istore_n 1, 1) := by decide +kernel
theorem dX3_wallCount_25 : decode cX3_wallCount 25 = .ok (.iinc 2 1, 3) := by decide +kernel
theorem dX3_wallCount_28 : decode cX3_wallCount 28 = .ok (.goto (-24), 3) := by decide +kernel
theorem dX3_wallCount_31 : decode cX3_wallCount 31 = .ok (.iload_n 1, 1) := by decide +kernel
theorem dX3_wallCount_32 : decode cX3_wallCount 32 = .ok (.ireturn, 1) := by decide +kernel
theorem dX3_hasRow_0 : decode cX3_hasRow 0 = .ok (.iload_n 1, 1) := by decide +kernel
theorem dX3_hasRow_1 : decode cX3_hasRow 1 = .ok (.ifCond .lt 24, 3) := by decide +kernel
theorem dX3_hasRow_4 : decode cX3_hasRow 4 = .ok (.iload_n 1, 1) := by decide +kernel
theorem dX3_hasRow_5 : decode cX3_hasRow 5 = .ok (.aload_n 0, 1) := by decide +kernel
theorem dX3_hasRow_6 : decode cX3_hasRow 6 = .ok (.getfield 28, 3) := by decide +kernel
theorem dX3_hasRow_9 : decode cX3_hasRow 9 = .ok (.if_icmp .ge 16, 3) := by decide +kernel
theorem dX3_hasRow_12 : decode cX3_hasRow 12 = .ok (.iload_n 1, 1) := by decide +kernel
theorem dX3_hasRow_13 : decode cX3_hasRow 13 = .ok (.aload_n 0, 1) := by decide +kernel
theorem dX3_hasRow_14 : decode cX3_hasRow 14 = .ok (.getfield 9, 3) := by decide +kernel
theorem dX3_hasRow_17 : decode cX3_hasRow 17 = .ok (.arraylength, 1) := by decide +kernel
theorem dX3_hasRow_18 : decode cX3_hasRow 18 = .ok (.if_icmp .ge 7, 3) := by decide +kernel
theorem dX3_hasRow_21 : decode cX3_hasRow 21 = .ok (.iconst 1, 1) := by decide +kernel
theorem dX3_hasRow_22 : decode cX3_hasRow 22 = .ok (.goto 4, 3) := by decide +kernel
theorem dX3_hasRow_25 : decode cX3_hasRow 25 = .ok (.iconst 0, 1) := by decide +kernel
theorem dX3_hasRow_26 : decode cX3_hasRow 26 = .ok (.ireturn, 1) := by decide +kernel
theorem dX3_wholeRow_0 : decode cX3_wholeRow 0 = .ok (.iconst 1, 1) := by decide +kernel
theorem dX3_wholeRow_1 : decode cX3_wholeRow 1 = .ok (.aload_n 0, 1) := by decide +kernel
theorem dX3_wholeRow_2 : decode cX3_wholeRow 2 = .ok (.getfield 24, 3) := by decide +kernel
theorem dX3_wholeRow_5 : decode cX3_wholeRow 5 = .ok (.ishl, 1) := by decide +kernel
theorem dX3_wholeRow_6 : decode cX3_wholeRow 6 = .ok (.iconst 1, 1) := by decide +kernel
theorem dX3_wholeRow_7 : decode cX3_wholeRow 7 = .ok (.isub, 1) := by decide +kernel
theorem dX3_wholeRow_8 : decode cX3_wholeRow 8 = .ok (.ireturn, 1) := by decide +kernel
theorem dX3_setWalls_0 : decode cX3_setWalls 0 = .ok (.aload_n 0, 1) := by decide +kernel
theorem dX3_setWalls_1 : decode cX3_setWalls 1 = .ok (.iload_n 1, 1) := by decide +kernel
theorem dX3_setWalls_2 : decode cX3_setWalls 2 = .ok (.invokevirtual 43, 3) := by decide +kernel
theorem dX3_setWalls_5 : decode cX3_setWalls 5 = .ok (.ifCond .eq 10, 3) := by decide +kernel
theorem dX3_setWalls_8 : decode cX3_setWalls 8 = .ok (.aload_n 0, 1) := by decide +kernel
theorem dX3_setWalls_9 : decode cX3_setWalls 9 = .ok (.getfield 9, 3) := by decide +kernel
theorem dX3_setWalls_12 : decode cX3_setWalls 12 = .ok (.iload_n 1, 1) := by decide +kernel
theorem dX3_setWalls_13 : decode cX3_setWalls 13 = .ok (.iload_n 2, 1) := by decide +kernel
theorem dX3_setWalls_14 : decode cX3_setWalls 14 = .ok (.iastore, 1) := by decide +kernel
theorem dX3_setWalls_15 : decode cX3_setWalls 15 = .ok (.return_, 1) := by decide +kernel
theorem dX3_addPiece_0 : decode cX3_addPiece 0 = .ok (.aload_n 0, 1) := by decide +kernel
theorem dX3_addPiece_1 : decode cX3_addPiece 1 = .ok (.getfield 31, 3) := by decide +kernel
theorem dX3_addPiece_4 : decode cX3_addPiece 4 = .ok (.aload_n 0, 1) := by decide +kernel
theorem dX3_addPiece_5 : decode cX3_addPiece 5 = .ok (.getfield 15, 3) := by decide +kernel
theorem dX3_addPiece_8 : decode cX3_addPiece 8 = .ok (.arraylength, 1) := by decide +kernel
theorem dX3_addPiece_9 : decode cX3_addPiece 9 = .ok (.if_icmp .lt 6, 3) := by decide +kernel
theorem dX3_addPiece_12 : decode cX3_addPiece 12 = .ok (.bipush (-3), 2) := by decide +kernel
theorem dX3_addPiece_14 : decode cX3_addPiece 14 = .ok (.ireturn, 1) := by decide +kernel
theorem dX3_addPiece_15 : decode cX3_addPiece 15 = .ok (.aload_n 0, 1) := by decide +kernel
theorem dX3_addPiece_16 : decode cX3_addPiece 16 = .ok (.getfield 15, 3) := by decide +kernel
theorem dX3_addPiece_19 : decode cX3_addPiece 19 = .ok (.aload_n 0, 1) := by decide +kernel
theorem dX3_addPiece_20 : decode cX3_addPiece 20 = .ok (.getfield 31, 3) := by decide +kernel
theorem dX3_addPiece_23 : decode cX3_addPiece 23 = .ok (.iload_n 1, 1) := by decide +kernel
theorem dX3_addPiece_24 : decode cX3_addPiece 24 = .ok (.iastore, 1) := by decide +kernel
theorem dX3_addPiece_25 : decode cX3_addPiece 25 = .ok (.aload_n 0, 1) := by decide +kernel
theorem dX3_addPiece_26 : decode cX3_addPiece 26 = .ok (.dup, 1) := by decide +kernel
theorem dX3_addPiece_27 : decode cX3_addPiece 27 = .ok (.getfield 31, 3) := by decide +kernel
theorem dX3_addPiece_30 : decode cX3_addPiece 30 = .ok (.dup_x1, 1) := by decide +kernel
theorem dX3_addPiece_31 : decode cX3_addPiece 31 = .ok (.iconst 1, 1) := by decide +kernel
theorem dX3_addPiece_32 : decode cX3_addPiece 32 = .ok (.iadd, 1) := by decide +kernel
theorem dX3_addPiece_33 : decode cX3_addPiece 33 = .ok (.putfield 31, 3) := by decide +kernel
theorem dX3_addPiece_36 : decode cX3_addPiece 36 = .ok (.ireturn, 1) := by decide +kernel
theorem dX3_has_0 : decode cX3_has 0 = .ok (.iload_n 1, 1) := by decide +kernel
theorem dX3_has_1 : decode cX3_has 1 = .ok (.ifCond .lt 24, 3) := by decide +kernel
theorem dX3_has_4 : decode cX3_has 4 = .ok (.iload_n 1, 1) := by decide +kernel
theorem dX3_has_5 : decode cX3_has 5 = .ok (.aload_n 0, 1) := by decide +kernel
theorem dX3_has_6 : decode cX3_has 6 = .ok (.getfield 31, 3) := by decide +kernel
theorem dX3_has_9 : decode cX3_has 9 = .ok (.if_icmp .ge 16, 3) := by decide +kernel
theorem dX3_has_12 : decode cX3_has 12 = .ok (.iload_n 1, 1) := by decide +kernel
theorem dX3_has_13 : decode cX3_has 13 = .ok (.aload_n 0, 1) := by decide +kernel
theorem dX3_has_14 : decode cX3_has 14 = .ok (.getfield 15, 3) := by decide +kernel
theorem dX3_has_17 : decode cX3_has 17 = .ok (.arraylength, 1) := by decide +kernel
theorem dX3_has_18 : decode cX3_has 18 = .ok (.if_icmp .ge 7, 3) := by decide +kernel
theorem dX3_has_21 : decode cX3_has 21 = .ok (.iconst 1, 1) := by decide +kernel
theorem dX3_has_22 : decode cX3_has 22 = .ok (.goto 4, 3) := by decide +kernel
theorem dX3_has_25 : decode cX3_has 25 = .ok (.iconst 0, 1) := by decide +kernel
theorem dX3_has_26 : decode cX3_has 26 = .ok (.ireturn, 1) := by decide +kernel
theorem dX3_isLying_0 : decode cX3_isLying 0 = .ok (.aload_n 0, 1) := by decide +kernel
theorem dX3_isLying_1 : decode cX3_isLying 1 = .ok (.iload_n 1, 1) := by decide +kernel
theorem dX3_isLying_2 : decode cX3_isLying 2 = .ok (.invokevirtual 47, 3) := by decide +kernel
theorem dX3_isLying_5 : decode cX3_isLying 5 = .ok (.ifCond .eq 18, 3) := by decide +kernel
theorem dX3_isLying_8 : decode cX3_isLying 8 = .ok (.aload_n 0, 1) := by decide +kernel
theorem dX3_isLying_9 : decode cX3_isLying 9 = .ok (.getfield 34, 3) := by decide +kernel
theorem dX3_isLying_12 : decode cX3_isLying 12 = .ok (.iload_n 1, 1) := by decide +kernel
theorem dX3_isLying_13 : decode cX3_isLying 13 = .ok (.invokestatic 50, 3) := by decide +kernel
theorem dX3_isLying_16 : decode cX3_isLying 16 = .ok (.ifCond .eq 7, 3) := by decide +kernel
theorem dX3_isLying_19 : decode cX3_isLying 19 = .ok (.iconst 1, 1) := by decide +kernel
theorem dX3_isLying_20 : decode cX3_isLying 20 = .ok (.goto 4, 3) := by decide +kernel
theorem dX3_isLying_23 : decode cX3_isLying 23 = .ok (.iconst 0, 1) := by decide +kernel
theorem dX3_isLying_24 : decode cX3_isLying 24 = .ok (.ireturn, 1) := by decide +kernel
theorem dX3_lyingBeside_0 : decode cX3_lyingBeside 0 = .ok (.aload_n 0, 1) := by decide +kernel
theorem dX3_lyingBeside_1 : decode cX3_lyingBeside 1 = .ok (.iload_n 1, 1) := by decide +kernel
theorem dX3_lyingBeside_2 : decode cX3_lyingBeside 2 = .ok (.invokevirtual 47, 3) := by decide +kernel
theorem dX3_lyingBeside_5 : decode cX3_lyingBeside 5 = .ok (.ifCond .eq 16, 3) := by decide +kernel
theorem dX3_lyingBeside_8 : decode cX3_lyingBeside 8 = .ok (.aload_n 0, 1) := by decide +kernel
theorem dX3_lyingBeside_9 : decode cX3_lyingBeside 9 = .ok (.getfield 34, 3) := by decide +kernel
theorem dX3_lyingBeside_12 : decode cX3_lyingBeside 12 = .ok (.iconst 1, 1) := by decide +kernel
theorem dX3_lyingBeside_13 : decode cX3_lyingBeside 13 = .ok (.iload_n 1, 1) := by decide +kernel
theorem dX3_lyingBeside_14 : decode cX3_lyingBeside 14 = .ok (.ishl, 1) := by decide +kernel
theorem dX3_lyingBeside_15 : decode cX3_lyingBeside 15 = .ok (.iconst (-1), 1) := by decide +kernel
theorem dX3_lyingBeside_16 : decode cX3_lyingBeside 16 = .ok (.ixor, 1) := by decide +kernel
theorem dX3_lyingBeside_17 : decode cX3_lyingBeside 17 = .ok (.iand, 1) := by decide +kernel
theorem dX3_lyingBeside_18 : decode cX3_lyingBeside 18 = .ok (.goto 7, 3) := by decide +kernel
theorem dX3_lyingBeside_21 : decode cX3_lyingBeside 21 = .ok (.aload_n 0, 1) := by decide +kernel
theorem dX3_lyingBeside_22 : decode cX3_lyingBeside 22 = .ok (.getfield 34, 3) := by decide +kernel
theorem dX3_lyingBeside_25 : decode cX3_lyingBeside 25 = .ok (.ireturn, 1) := by decide +kernel
theorem dX3_shapeOf_0 : decode cX3_shapeOf 0 = .ok (.aload_n 0, 1) := by decide +kernel
theorem dX3_shapeOf_1 : decode cX3_shapeOf 1 = .ok (.iload_n 1, 1) := by decide +kernel
theorem dX3_shapeOf_2 : decode cX3_shapeOf 2 = .ok (.invokevirtual 47, 3) := by decide +kernel
theorem dX3_shapeOf_5 : decode cX3_shapeOf 5 = .ok (.ifCond .eq 12, 3) := by decide +kernel
theorem dX3_shapeOf_8 : decode cX3_shapeOf 8 = .ok (.aload_n 0, 1) := by decide +kernel
theorem dX3_shapeOf_9 : decode cX3_shapeOf 9 = .ok (.getfield 15, 3) := by decide +kernel
theorem dX3_shapeOf_12 : decode cX3_shapeOf 12 = .ok (.iload_n 1, 1) := by decide +kernel
theorem dX3_shapeOf_13 : decode cX3_shapeOf 13 = .ok (.iaload, 1) := by decide +kernel
theorem dX3_shapeOf_14 : decode cX3_shapeOf 14 = .ok (.goto 4, 3) := by decide +kernel
theorem dX3_shapeOf_17 : decode cX3_shapeOf 17 = .ok (.iconst 0, 1) := by decide +kernel
theorem dX3_shapeOf_18 : decode cX3_shapeOf 18 = .ok (.ireturn, 1) := by decide +kernel
theorem dX3_xOf_0 : decode cX3_xOf 0 = .ok (.aload_n 0, 1) := by decide +kernel
theorem dX3_xOf_1 : decode cX3_xOf 1 = .ok (.iload_n 1, 1) := by decide +kernel
theorem dX3_xOf_2 : decode cX3_xOf 2 = .ok (.invokevirtual 47, 3) := by decide +kernel
theorem dX3_xOf_5 : decode cX3_xOf 5 = .ok (.ifCond .eq 12, 3) := by decide +kernel
theorem dX3_xOf_8 : decode cX3_xOf 8 = .ok (.aload_n 0, 1) := by decide +kernel
theorem dX3_xOf_9 : decode cX3_xOf 9 = .ok (.getfield 18, 3) := by decide +kernel
theorem dX3_xOf_12 : decode cX3_xOf 12 = .ok (.iload_n 1, 1) := by decide +kernel
theorem dX3_xOf_13 : decode cX3_xOf 13 = .ok (.iaload, 1) := by decide +kernel
theorem dX3_xOf_14 : decode cX3_xOf 14 = .ok (.goto 4, 3) := by decide +kernel
theorem dX3_xOf_17 : decode cX3_xOf 17 = .ok (.iconst 0, 1) := by decide +kernel
theorem dX3_xOf_18 : decode cX3_xOf 18 = .ok (.ireturn, 1) := by decide +kernel
theorem dX3_yOf_0 : decode cX3_yOf 0 = .ok (.aload_n 0, 1) := by decide +kernel
theorem dX3_yOf_1 : decode cX3_yOf 1 = .ok (.iload_n 1, 1) := by decide +kernel
theorem dX3_yOf_2 : decode cX3_yOf 2 = .ok (.invokevirtual 47, 3) := by decide +kernel
theorem dX3_yOf_5 : decode cX3_yOf 5 = .ok (.ifCond .eq 12, 3) := by decide +kernel
theorem dX3_yOf_8 : decode cX3_yOf 8 = .ok (.aload_n 0, 1) := by decide +kernel
theorem dX3_yOf_9 : decode cX3_yOf 9 = .ok (.getfield 21, 3) := by decide +kernel
theorem dX3_yOf_12 : decode cX3_yOf 12 = .ok (.iload_n 1, 1) := by decide +kernel
theorem dX3_yOf_13 : decode cX3_yOf 13 = .ok (.iaload, 1) := by decide +kernel
theorem dX3_yOf_14 : decode cX3_yOf 14 = .ok (.goto 4, 3) := by decide +kernel
theorem dX3_yOf_17 : decode cX3_yOf 17 = .ok (.iconst 0, 1) := by decide +kernel
theorem dX3_yOf_18 : decode cX3_yOf 18 = .ok (.ireturn, 1) := by decide +kernel
theorem dX3_lay_0 : decode cX3_lay 0 = .ok (.aload_n 0, 1) := by decide +kernel
theorem dX3_lay_1 : decode cX3_lay 1 = .ok (.iload_n 1, 1) := by decide +kernel
theorem dX3_lay_2 : decode cX3_lay 2 = .ok (.invokevirtual 47, 3) := by decide +kernel
theorem dX3_lay_5 : decode cX3_lay 5 = .ok (.ifCond .eq 29, 3) := by decide +kernel
theorem dX3_lay_8 : decode cX3_lay 8 = .ok (.aload_n 0, 1) := by decide +kernel
theorem dX3_lay_9 : decode cX3_lay 9 = .ok (.getfield 18, 3) := by decide +kernel
theorem dX3_lay_12 : decode cX3_lay 12 = .ok (.iload_n 1, 1) := by decide +kernel
theorem dX3_lay_13 : decode cX3_lay 13 = .ok (.iload_n 2, 1) := by decide +kernel
theorem dX3_lay_14 : decode cX3_lay 14 = .ok (.iastore, 1) := by decide +kernel
theorem dX3_lay_15 : decode cX3_lay 15 = .ok (.aload_n 0, 1) := by decide +kernel
theorem dX3_lay_16 : decode cX3_lay 16 = .ok (.getfield 21, 3) := by decide +kernel
theorem dX3_lay_19 : decode cX3_lay 19 = .ok (.iload_n 1, 1) := by decide +kernel
theorem dX3_lay_20 : decode cX3_lay 20 = .ok (.iload_n 3, 1) := by decide +kernel
theorem dX3_lay_21 : decode cX3_lay 21 = .ok (.iastore, 1) := by decide +kernel
theorem dX3_lay_22 : decode cX3_lay 22 = .ok (.aload_n 0, 1) := by decide +kernel
theorem dX3_lay_23 : decode cX3_lay 23 = .ok (.dup, 1) := by decide +kernel
theorem dX3_lay_24 : decode cX3_lay 24 = .ok (.getfield 34, 3) := by decide +kernel
theorem dX3_lay_27 : decode cX3_lay 27 = .ok (.iconst 1, 1) := by decide +kernel
theorem dX3_lay_28 : decode cX3_lay 28 = .ok (.iload_n 1, 1) := by decide +kernel
theorem dX3_lay_29 : decode cX3_lay 29 = .ok (.ishl, 1) := by decide +kernel
theorem dX3_lay_30 : decode cX3_lay 30 = .ok (.ior, 1) := by decide +kernel
theorem dX3_lay_31 : decode cX3_lay 31 = .ok (.putfield 34, 3) := by decide +kernel
theorem dX3_lay_34 : decode cX3_lay 34 = .ok (.return_, 1) := by decide +kernel
theorem dX3_take_0 : decode cX3_take 0 = .ok (.aload_n 0, 1) := by decide +kernel
theorem dX3_take_1 : decode cX3_take 1 = .ok (.iload_n 1, 1) := by decide +kernel
theorem dX3_take_2 : decode cX3_take 2 = .ok (.invokevirtual 47, 3) := by decide +kernel
theorem dX3_take_5 : decode cX3_take 5 = .ok (.ifCond .eq 17, 3) := by decide +kernel
theorem dX3_take_8 : decode cX3_take 8 = .ok (.aload_n 0, 1) := by decide +kernel
theorem dX3_take_9 : decode cX3_take 9 = .ok (.dup, 1) := by decide +kernel
theorem dX3_take_10 : decode cX3_take 10 = .ok (.getfield 34, 3) := by decide +kernel
theorem dX3_take_13 : decode cX3_take 13 = .ok (.iconst 1, 1) := by decide +kernel
theorem dX3_take_14 : decode cX3_take 14 = .ok (.iload_n 1, 1) := by decide +kernel
theorem dX3_take_15 : decode cX3_take 15 = .ok (.ishl, 1) := by decide +kernel
theorem dX3_take_16 : decode cX3_take 16 = .ok (.iconst (-1), 1) := by decide +kernel
theorem dX3_take_17 : decode cX3_take 17 = .ok (.ixor, 1) := by decide +kernel
theorem dX3_take_18 : decode cX3_take 18 = .ok (.iand, 1) := by decide +kernel
theorem dX3_take_19 : decode cX3_take 19 = .ok (.putfield 34, 3) := by decide +kernel
theorem dX3_take_22 : decode cX3_take 22 = .ok (.return_, 1) := by decide +kernel
theorem dX3_boardSquares_0 : decode cX3_boardSquares 0 = .ok (.aload_n 0, 1) := by decide +kernel
theorem dX3_boardSquares_1 : decode cX3_boardSquares 1 = .ok (.iload_n 1, 1) := by decide +kernel
theorem dX3_boardSquares_2 : decode cX3_boardSquares 2 = .ok (.invokevirtual 43, 3) := by decide +kernel
theorem dX3_boardSquares_5 : decode cX3_boardSquares 5 = .ok (.ifCond .eq 13, 3) := by decide +kernel
theorem dX3_boardSquares_8 : decode cX3_boardSquares 8 = .ok (.aload_n 0, 1) := by decide +kernel
theorem dX3_boardSquares_9 : decode cX3_boardSquares 9 = .ok (.invokevirtual 54, 3) := by decide +kernel
theorem dX3_boardSquares_12 : decode cX3_boardSquares 12 = .ok (.bipush 6, 2) := by decide +kernel
theorem dX3_boardSquares_14 : decode cX3_boardSquares 14 = .ok (.ishl, 1) := by decide +kernel
theorem dX3_boardSquares_15 : decode cX3_boardSquares 15 = .ok (.goto 4, 3) := by decide +kernel
theorem dX3_boardSquares_18 : decode cX3_boardSquares 18 = .ok (.iconst 0, 1) := by decide +kernel
theorem dX3_boardSquares_19 : decode cX3_boardSquares 19 = .ok (.ireturn, 1) := by decide +kernel
theorem dX3_wallSquares_0 : decode cX3_wallSquares 0 = .ok (.aload_n 0, 1) := by decide +kernel
theorem dX3_wallSquares_1 : decode cX3_wallSquares 1 = .ok (.iload_n 1, 1) := by decide +kernel
theorem dX3_wallSquares_2 : decode cX3_wallSquares 2 = .ok (.invokevirtual 43, 3) := by decide +kernel
theorem dX3_wallSquares_5 : decode cX3_wallSquares 5 = .ok (.ifCond .eq 15, 3) := by decide +kernel
theorem dX3_wallSquares_8 : decode cX3_wallSquares 8 = .ok (.aload_n 0, 1) := by decide +kernel
theorem dX3_wallSquares_9 : decode cX3_wallSquares 9 = .ok (.getfield 9, 3) := by decide +kernel
theorem dX3_wallSquares_12 : decode cX3_wallSquares 12 = .ok (.iload_n 1, 1) := by decide +kernel
theorem dX3_wallSquares_13 : decode cX3_wallSquares 13 = .ok (.iaload, 1) := by decide +kernel
theorem dX3_wallSquares_14 : decode cX3_wallSquares 14 = .ok (.bipush 6, 2) := by decide +kernel
theorem dX3_wallSquares_16 : decode cX3_wallSquares 16 = .ok (.ishl, 1) := by decide +kernel
theorem dX3_wallSquares_17 : decode cX3_wallSquares 17 = .ok (.goto 4, 3) := by decide +kernel
theorem dX3_wallSquares_20 : decode cX3_wallSquares 20 = .ok (.iconst 0, 1) := by decide +kernel
theorem dX3_wallSquares_21 : decode cX3_wallSquares 21 = .ok (.ireturn, 1) := by decide +kernel
theorem dX3_squaresOf_0 : decode cX3_squaresOf 0 = .ok (.iload_n 1, 1) := by decide +kernel
theorem dX3_squaresOf_1 : decode cX3_squaresOf 1 = .ok (.ifCond .lt 20, 3) := by decide +kernel
theorem dX3_squaresOf_4 : decode cX3_squaresOf 4 = .ok (.iload_n 1, 1) := by decide +kernel
theorem dX3_squaresOf_5 : decode cX3_squaresOf 5 = .ok (.bipush 8, 2) := by decide +kernel
theorem dX3_squaresOf_7 : decode cX3_squaresOf 7 = .ok (.if_icmp .ge 14, 3) := by decide +kernel
theorem dX3_squaresOf_10 : decode cX3_squaresOf 10 = .ok (.aload_n 0, 1) := by decide +kernel
theorem dX3_squaresOf_11 : decode cX3_squaresOf 11 = .ok (.getfield 34, 3) := by decide +kernel
theorem dX3_squaresOf_14 : decode cX3_squaresOf 14 = .ok (.iload_n 1, 1) := by decide +kernel
theorem dX3_squaresOf_15 : decode cX3_squaresOf 15 = .ok (.ishr, 1) := by decide +kernel
theorem dX3_squaresOf_16 : decode cX3_squaresOf 16 = .ok (.iconst 1, 1) := by decide +kernel
theorem dX3_squaresOf_17 : decode cX3_squaresOf 17 = .ok (.iand, 1) := by decide +kernel
theorem dX3_squaresOf_18 : decode cX3_squaresOf 18 = .ok (.ifCond .ne 5, 3) := by decide +kernel
theorem dX3_squaresOf_21 : decode cX3_squaresOf 21 = .ok (.iconst 0, 1) := by decide +kernel
theorem dX3_squaresOf_22 : decode cX3_squaresOf 22 = .ok (.ireturn, 1) := by decide +kernel
theorem dX3_squaresOf_23 : decode cX3_squaresOf 23 = .ok (.aload_n 0, 1) := by decide +kernel
theorem dX3_squaresOf_24 : decode cX3_squaresOf 24 = .ok (.getfield 15, 3) := by decide +kernel
theorem dX3_squaresOf_27 : decode cX3_squaresOf 27 = .ok (.iload_n 1, 1) := by decide +kernel
theorem dX3_squaresOf_28 : decode cX3_squaresOf 28 = .ok (.iaload, 1) := by decide +kernel
theorem dX3_squaresOf_29 : decode cX3_squaresOf 29 = .ok (.iload_n 2, 1) := by decide +kernel
theorem dX3_squaresOf_30 : decode cX3_squaresOf 30 = .ok (.aload_n 0, 1) := by decide +kernel
theorem dX3_squaresOf_31 : decode cX3_squaresOf 31 = .ok (.getfield 21, 3) := by decide +kernel
theorem dX3_squaresOf_34 : decode cX3_squaresOf 34 = .ok (.iload_n 1, 1) := by decide +kernel
theorem dX3_squaresOf_35 : decode cX3_squaresOf 35 = .ok (.iaload, 1) := by decide +kernel
theorem dX3_squaresOf_36 : decode cX3_squaresOf 36 = .ok (.isub, 1) := by decide +kernel
theorem dX3_squaresOf_37 : decode cX3_squaresOf 37 = .ok (.invokestatic 58, 3) := by decide +kernel
theorem dX3_squaresOf_40 : decode cX3_squaresOf 40 = .ok (.aload_n 0, 1) := by decide +kernel
theorem dX3_squaresOf_41 : decode cX3_squaresOf 41 = .ok (.getfield 18, 3) := by decide +kernel
theorem dX3_squaresOf_44 : decode cX3_squaresOf 44 = .ok (.iload_n 1, 1) := by decide +kernel
theorem dX3_squaresOf_45 : decode cX3_squaresOf 45 = .ok (.iaload, 1) := by decide +kernel
theorem dX3_squaresOf_46 : decode cX3_squaresOf 46 = .ok (.bipush (-6), 2) := by decide +kernel
theorem dX3_squaresOf_48 : decode cX3_squaresOf 48 = .ok (.isub, 1) := by decide +kernel
theorem dX3_squaresOf_49 : decode cX3_squaresOf 49 = .ok (.ishl, 1) := by decide +kernel
theorem dX3_squaresOf_50 : decode cX3_squaresOf 50 = .ok (.ireturn, 1) := by decide +kernel
theorem dX3_squaresOfSet_0 : decode cX3_squaresOfSet 0 = .ok (.iconst 0, 1) := by decide +kernel
theorem dX3_squaresOfSet_1 : decode cX3_squaresOfSet 1 = .ok (.istore_n 3, 1) := by decide +kernel
theorem dX3_squaresOfSet_2 : decode cX3_squaresOfSet 2 = .ok (.iconst 0, 1) := by decide +kernel
theorem dX3_squaresOfSet_3 : decode cX3_squaresOfSet 3 = .ok (.istore 4, 2) := by decide +kernel
theorem dX3_squaresOfSet_5 : decode cX3_squaresOfSet 5 = .ok (.iload 4, 2) := by decide +kernel
theorem dX3_squaresOfSet_7 : decode cX3_squaresOfSet 7 = .ok (.aload_n 0, 1) := by decide +kernel
theorem dX3_squaresOfSet_8 : decode cX3_squaresOfSet 8 = .ok (.getfield 31, 3) := by decide +kernel
theorem dX3_squaresOfSet_11 : decode cX3_squaresOfSet 11 = .ok (.if_icmp .ge 28, 3) := by decide +kernel
theorem dX3_squaresOfSet_14 : decode cX3_squaresOfSet 14 = .ok (.iload_n 1, 1) := by decide +kernel
theorem dX3_squaresOfSet_15 : decode cX3_squaresOfSet 15 = .ok (.iload 4, 2) := by decide +kernel
theorem dX3_squaresOfSet_17 : decode cX3_squaresOfSet 17 = .ok (.invokestatic 50, 3) := by decide +kernel
theorem dX3_squaresOfSet_20 : decode cX3_squaresOfSet 20 = .ok (.ifCond .eq 13, 3) := by decide +kernel
theorem dX3_squaresOfSet_23 : decode cX3_squaresOfSet 23 = .ok (.iload_n 3, 1) := by decide +kernel
theorem dX3_squaresOfSet_24 : decode cX3_squaresOfSet 24 = .ok (.aload_n 0, 1) := by decide +kernel
theorem dX3_squaresOfSet_25 : decode cX3_squaresOfSet 25 = .ok (.iload 4, 2) := by decide +kernel
theorem dX3_squaresOfSet_27 : decode cX3_squaresOfSet 27 = .ok (.iload_n 2, 1) := by decide +kernel
theorem dX3_squaresOfSet_28 : decode cX3_squaresOfSet 28 = .ok (.invokevirtual 62, 3) := by decide +kernel
theorem dX3_squaresOfSet_31 : decode cX3_squaresOfSet 31 = .ok (.ior, 1) := by decide +kernel
theorem dX3_squaresOfSet_32 : decode cX3_squaresOfSet 32 = .ok (.istore_n 3, 1) := by decide +kernel
theorem dX3_squaresOfSet_33 : decode cX3_squaresOfSet 33 = .ok (.iinc 4 1, 3) := by decide +kernel
theorem dX3_squaresOfSet_36 : decode cX3_squaresOfSet 36 = .ok (.goto (-31), 3) := by decide +kernel
theorem dX3_squaresOfSet_39 : decode cX3_squaresOfSet 39 = .ok (.iload_n 3, 1) := by decide +kernel
theorem dX3_squaresOfSet_40 : decode cX3_squaresOfSet 40 = .ok (.ireturn, 1) := by decide +kernel
theorem dX3_isLainOn_0 : decode cX3_isLainOn 0 = .ok (.aload_n 0, 1) := by decide +kernel
theorem dX3_isLainOn_1 : decode cX3_isLainOn 1 = .ok (.aload_n 0, 1) := by decide +kernel
theorem dX3_isLainOn_2 : decode cX3_isLainOn 2 = .ok (.getfield 34, 3) := by decide +kernel
theorem dX3_isLainOn_5 : decode cX3_isLainOn 5 = .ok (.iload_n 1, 1) := by decide +kernel
theorem dX3_isLainOn_6 : decode cX3_isLainOn 6 = .ok (.invokevirtual 65, 3) := by decide +kernel
theorem dX3_isLainOn_9 : decode cX3_isLainOn 9 = .ok (.iload_n 2, 1) := by decide +kernel
theorem dX3_isLainOn_10 : decode cX3_isLainOn 10 = .ok (.bipush 6, 2) := by decide +kernel
theorem dX3_isLainOn_12 : decode cX3_isLainOn 12 = .ok (.ishl, 1) := by decide +kernel
theorem dX3_isLainOn_13 : decode cX3_isLainOn 13 = .ok (.iand, 1) := by decide +kernel
theorem dX3_isLainOn_14 : decode cX3_isLainOn 14 = .ok (.ifCond .eq 7, 3) := by decide +kernel
theorem dX3_isLainOn_17 : decode cX3_isLainOn 17 = .ok (.iconst 1, 1) := by decide +kernel
theorem dX3_isLainOn_18 : decode cX3_isLainOn 18 = .ok (.goto 4, 3) := by decide +kernel
theorem dX3_isLainOn_21 : decode cX3_isLainOn 21 = .ok (.iconst 0, 1) := by decide +kernel
theorem dX3_isLainOn_22 : decode cX3_isLainOn 22 = .ok (.ireturn, 1) := by decide +kernel
theorem dX3_blockersOf_0 : decode cX3_blockersOf 0 = .ok (.iconst 0, 1) := by decide +kernel
theorem dX3_blockersOf_1 : decode cX3_blockersOf 1 = .ok (.istore_n 3, 1) := by decide +kernel
theorem dX3_blockersOf_2 : decode cX3_blockersOf 2 = .ok (.iconst 0, 1) := by decide +kernel
theorem dX3_blockersOf_3 : decode cX3_blockersOf 3 = .ok (.istore 4, 2) := by decide +kernel
theorem dX3_blockersOf_5 : decode cX3_blockersOf 5 = .ok (.iconst 0, 1) := by decide +kernel
theorem dX3_blockersOf_6 : decode cX3_blockersOf 6 = .ok (.istore 5, 2) := by decide +kernel
theorem dX3_blockersOf_8 : decode cX3_blockersOf 8 = .ok (.iload 5, 2) := by decide +kernel
theorem dX3_blockersOf_10 : decode cX3_blockersOf 10 = .ok (.bipush 24, 2) := by decide +kernel
theorem dX3_blockersOf_12 : decode cX3_blockersOf 12 = .ok (.if_icmp .ge 72, 3) := by decide +kernel
theorem dX3_blockersOf_15 : decode cX3_blockersOf 15 = .ok (.iload_n 2, 1) := by decide +kernel
theorem dX3_blockersOf_16 : decode cX3_blockersOf 16 = .ok (.iconst 3, 1) := by decide +kernel
theorem dX3_blockersOf_17 : decode cX3_blockersOf 17 = .ok (.if_icmp .ne 11, 3) := by decide +kernel
theorem dX3_blockersOf_20 : decode cX3_blockersOf 20 = .ok (.bipush 17, 2) := by decide +kernel
theorem dX3_blockersOf_22 : decode cX3_blockersOf 22 = .ok (.iload 5, 2) := by decide +kernel
theorem dX3_blockersOf_24 : decode cX3_blockersOf 24 = .ok (.isub, 1) := by decide +kernel
theorem dX3_blockersOf_25 : decode cX3_blockersOf 25 = .ok (.goto 8, 3) := by decide +kernel
theorem dX3_blockersOf_28 : decode cX3_blockersOf 28 = .ok (.bipush (-6), 2) := by decide +kernel
theorem dX3_blockersOf_30 : decode cX3_blockersOf 30 = .ok (.iload 5, 2) := by decide +kernel
theorem dX3_blockersOf_32 : decode cX3_blockersOf 32 = .ok (.iadd, 1) := by decide +kernel
theorem dX3_blockersOf_33 : decode cX3_blockersOf 33 = .ok (.istore 6, 2) := by decide +kernel
theorem dX3_blockersOf_35 : decode cX3_blockersOf 35 = .ok (.aload_n 0, 1) := by decide +kernel
theorem dX3_blockersOf_36 : decode cX3_blockersOf 36 = .ok (.iload_n 1, 1) := by decide +kernel
theorem dX3_blockersOf_37 : decode cX3_blockersOf 37 = .ok (.iload 6, 2) := by decide +kernel
theorem dX3_blockersOf_39 : decode cX3_blockersOf 39 = .ok (.invokevirtual 62, 3) := by decide +kernel
theorem dX3_blockersOf_42 : decode cX3_blockersOf 42 = .ok (.istore 7, 2) := by decide +kernel
theorem dX3_blockersOf_44 : decode cX3_blockersOf 44 = .ok (.iload_n 2, 1) := by decide +kernel
theorem dX3_blockersOf_45 : decode cX3_blockersOf 45 = .ok (.invokestatic 68, 3) := by decide +kernel
theorem dX3_blockersOf_48 : decode cX3_blockersOf 48 = .ok (.ifCond .ne 11, 3) := by decide +kernel
theorem dX3_blockersOf_51 : decode cX3_blockersOf 51 = .ok (.iload 4, 2) := by decide +kernel
theorem dX3_blockersOf_53 : decode cX3_blockersOf 53 = .ok (.iload 7, 2) := by decide +kernel
theorem dX3_blockersOf_55 : decode cX3_blockersOf 55 = .ok (.ior, 1) := by decide +kernel
theorem dX3_blockersOf_56 : decode cX3_blockersOf 56 = .ok (.goto 9, 3) := by decide +kernel
theorem dX3_blockersOf_59 : decode cX3_blockersOf 59 = .ok (.iload 7, 2) := by decide +kernel
theorem dX3_blockersOf_61 : decode cX3_blockersOf 61 = .ok (.iload_n 2, 1) := by decide +kernel
theorem dX3_blockersOf_62 : decode cX3_blockersOf 62 = .ok (.invokestatic 71, 3) := by decide +kernel
theorem dX3_blockersOf_65 : decode cX3_blockersOf 65 = .ok (.istore 4, 2) := by decide +kernel
theorem dX3_blockersOf_67 : decode cX3_blockersOf 67 = .ok (.iload_n 3, 1) := by decide +kernel
theorem dX3_blockersOf_68 : decode cX3_blockersOf 68 = .ok (.aload_n 0, 1) := by decide +kernel
theorem dX3_blockersOf_69 : decode cX3_blockersOf 69 = .ok (.iload 4, 2) := by decide +kernel
theorem dX3_blockersOf_71 : decode cX3_blockersOf 71 = .ok (.iload 6, 2) := by decide +kernel
theorem dX3_blockersOf_73 : decode cX3_blockersOf 73 = .ok (.invokevirtual 74, 3) := by decide +kernel
theorem dX3_blockersOf_76 : decode cX3_blockersOf 76 = .ok (.ior, 1) := by decide +kernel
theorem dX3_blockersOf_77 : decode cX3_blockersOf 77 = .ok (.istore_n 3, 1) := by decide +kernel
theorem dX3_blockersOf_78 : decode cX3_blockersOf 78 = .ok (.iinc 5 1, 3) := by decide +kernel
theorem dX3_blockersOf_81 : decode cX3_blockersOf 81 = .ok (.goto (-73), 3) := by decide +kernel
theorem dX3_blockersOf_84 : decode cX3_blockersOf 84 = .ok (.iload_n 3, 1) := by decide +kernel
theorem dX3_blockersOf_85 : decode cX3_blockersOf 85 = .ok (.aload_n 0, 1) := by decide +kernel
theorem dX3_blockersOf_86 : decode cX3_blockersOf 86 = .ok (.iload_n 1, 1) := by decide +kernel
theorem dX3_blockersOf_87 : decode cX3_blockersOf 87 = .ok (.invokevirtual 77, 3) := by decide +kernel
theorem dX3_blockersOf_90 : decode cX3_blockersOf 90 = .ok (.iand, 1) := by decide +kernel
theorem dX3_blockersOf_91 : decode cX3_blockersOf 91 = .ok (.ireturn, 1) := by decide +kernel
theorem dX3_sweptAlong_0 : decode cX3_sweptAlong 0 = .ok (.iload_n 0, 1) := by decide +kernel
theorem dX3_sweptAlong_1 : decode cX3_sweptAlong 1 = .ok (.istore_n 2, 1) := by decide +kernel
theorem dX3_sweptAlong_2 : decode cX3_sweptAlong 2 = .ok (.iconst 1, 1) := by decide +kernel
theorem dX3_sweptAlong_3 : decode cX3_sweptAlong 3 = .ok (.istore_n 3, 1) := by decide +kernel
theorem dX3_sweptAlong_4 : decode cX3_sweptAlong 4 = .ok (.iload_n 3, 1) := by decide +kernel
theorem dX3_sweptAlong_5 : decode cX3_sweptAlong 5 = .ok (.bipush 24, 2) := by decide +kernel
theorem dX3_sweptAlong_7 : decode cX3_sweptAlong 7 = .ok (.if_icmp .ge 25, 3) := by decide +kernel
theorem dX3_sweptAlong_10 : decode cX3_sweptAlong 10 = .ok (.iload_n 2, 1) := by decide +kernel
theorem dX3_sweptAlong_11 : decode cX3_sweptAlong 11 = .ok (.iload_n 1, 1) := by decide +kernel
theorem dX3_sweptAlong_12 : decode cX3_sweptAlong 12 = .ok (.ifCond .ne 9, 3) := by decide +kernel
theorem dX3_sweptAlong_15 : decode cX3_sweptAlong 15 = .ok (.iload_n 2, 1) := by decide +kernel
theorem dX3_sweptAlong_16 : decode cX3_sweptAlong 16 = .ok (.iconst 1, 1) := by decide +kernel
theorem dX3_sweptAlong_17 : decode cX3_sweptAlong 17 = .ok (.ishl, 1) := by decide +kernel
theorem dX3_sweptAlong_18 : decode cX3_sweptAlong 18 = .ok (.goto 6, 3) := by decide +kernel
theorem dX3_sweptAlong_21 : decode cX3_sweptAlong 21 = .ok (.iload_n 2, 1) := by decide +kernel
theorem dX3_sweptAlong_22 : decode cX3_sweptAlong 22 = .ok (.iconst 1, 1) := by decide +kernel
theorem dX3_sweptAlong_23 : decode cX3_sweptAlong 23 = .ok (.iushr, 1) := by decide +kernel
theorem dX3_sweptAlong_24 : decode cX3_sweptAlong 24 = .ok (.ior, 1) := by decide +kernel
theorem dX3_sweptAlong_25 : decode cX3_sweptAlong 25 = .ok (.istore_n 2, 1) := by decide +kernel
theorem dX3_sweptAlong_26 : decode cX3_sweptAlong 26 = .ok (.iinc 3 1, 3) := by decide +kernel
theorem dX3_sweptAlong_29 : decode cX3_sweptAlong 29 = .ok (.goto (-25), 3) := by decide +kernel
theorem dX3_sweptAlong_32 : decode cX3_sweptAlong 32 = .ok (.iload_n 2, 1) := by decide +kernel
theorem dX3_sweptAlong_33 : decode cX3_sweptAlong 33 = .ok (.ireturn, 1) := by decide +kernel
theorem dX3_piecesOn_0 : decode cX3_piecesOn 0 = .ok (.iconst 0, 1) := by decide +kernel
theorem dX3_piecesOn_1 : decode cX3_piecesOn 1 = .ok (.istore_n 3, 1) := by decide +kernel
theorem dX3_piecesOn_2 : decode cX3_piecesOn 2 = .ok (.iconst 0, 1) := by decide +kernel
theorem dX3_piecesOn_3 : decode cX3_piecesOn 3 = .ok (.istore 4, 2) := by decide +kernel
theorem dX3_piecesOn_5 : decode cX3_piecesOn 5 = .ok (.iload 4, 2) := by decide +kernel
theorem dX3_piecesOn_7 : decode cX3_piecesOn 7 = .ok (.aload_n 0, 1) := by decide +kernel
theorem dX3_piecesOn_8 : decode cX3_piecesOn 8 = .ok (.getfield 31, 3) := by decide +kernel
theorem dX3_piecesOn_11 : decode cX3_piecesOn 11 = .ok (.if_icmp .ge 28, 3) := by decide +kernel
theorem dX3_piecesOn_14 : decode cX3_piecesOn 14 = .ok (.aload_n 0, 1) := by decide +kernel
theorem dX3_piecesOn_15 : decode cX3_piecesOn 15 = .ok (.iload 4, 2) := by decide +kernel
theorem dX3_piecesOn_17 : decode cX3_piecesOn 17 = .ok (.iload_n 2, 1) := by decide +kernel
theorem dX3_piecesOn_18 : decode cX3_piecesOn 18 = .ok (.invokevirtual 62, 3) := by decide +kernel
theorem dX3_piecesOn_21 : decode cX3_piecesOn 21 = .ok (.iload_n 1, 1) := by decide +kernel
theorem dX3_piecesOn_22 : decode cX3_piecesOn 22 = .ok (.iand, 1) := by decide +kernel
theorem dX3_piecesOn_23 : decode cX3_piecesOn 23 = .ok (.ifCond .eq 10, 3) := by decide +kernel
theorem dX3_piecesOn_26 : decode cX3_piecesOn 26 = .ok (.iload_n 3, 1) := by decide +kernel
theorem dX3_piecesOn_27 : decode cX3_piecesOn 27 = .ok (.iconst 1, 1) := by decide +kernel
theorem dX3_piecesOn_28 : decode cX3_piecesOn 28 = .ok (.iload 4, 2) := by decide +kernel
theorem dX3_piecesOn_30 : decode cX3_piecesOn 30 = .ok (.ishl, 1) := by decide +kernel
theorem dX3_piecesOn_31 : decode cX3_piecesOn 31 = .ok (.ior, 1) := by decide +kernel
theorem dX3_piecesOn_32 : decode cX3_piecesOn 32 = .ok (.istore_n 3, 1) := by decide +kernel
theorem dX3_piecesOn_33 : decode cX3_piecesOn 33 = .ok (.iinc 4 1, 3) := by decide +kernel
theorem dX3_piecesOn_36 : decode cX3_piecesOn 36 = .ok (.goto (-31), 3) := by decide +kernel
theorem dX3_piecesOn_39 : decode cX3_piecesOn 39 = .ok (.iload_n 3, 1) := by decide +kernel
theorem dX3_piecesOn_40 : decode cX3_piecesOn 40 = .ok (.ireturn, 1) := by decide +kernel
