theorem dX5_init_0 : decode cX5_init 0 = .ok (.aload_n 0, 1) := by decide +kernel
theorem dX5_init_1 : decode cX5_init 1 = .ok (.invokespecial 1, 3) := by decide +kernel
theorem dX5_init_4 : decode cX5_init 4 = .ok (.aload_n 0, 1) := by decide +kernel
theorem dX5_init_5 : decode cX5_init 5 = .ok (.iconst 1, 1) := by decide +kernel
theorem dX5_init_6 : decode cX5_init 6 = .ok (.putfield 7, 3) := by decide +kernel
theorem dX5_init_9 : decode cX5_init 9 = .ok (.aload_n 0, 1) := by decide +kernel
theorem dX5_init_10 : decode cX5_init 10 = .ok (.iconst 1, 1) := by decide +kernel
theorem dX5_init_11 : decode cX5_init 11 = .ok (.putfield 13, 3) := by decide +kernel
theorem dX5_init_14 : decode cX5_init 14 = .ok (.aload_n 0, 1) := by decide +kernel
theorem dX5_init_15 : decode cX5_init 15 = .ok (.bipush 10, 2) := by decide +kernel
theorem dX5_init_17 : decode cX5_init 17 = .ok (.newarray .int, 2) := by decide +kernel
theorem dX5_init_19 : decode cX5_init 19 = .ok (.putfield 16, 3) := by decide +kernel
theorem dX5_init_22 : decode cX5_init 22 = .ok (.aload_n 0, 1) := by decide +kernel
theorem dX5_init_23 : decode cX5_init 23 = .ok (.bipush 8, 2) := by decide +kernel
theorem dX5_init_25 : decode cX5_init 25 = .ok (.newarray .int, 2) := by decide +kernel
theorem dX5_init_27 : decode cX5_init 27 = .ok (.putfield 20, 3) := by decide +kernel
theorem dX5_init_30 : decode cX5_init 30 = .ok (.aload_n 0, 1) := by decide +kernel
theorem dX5_init_31 : decode cX5_init 31 = .ok (.bipush 8, 2) := by decide +kernel
theorem dX5_init_33 : decode cX5_init 33 = .ok (.newarray .int, 2) := by decide +kernel
theorem dX5_init_35 : decode cX5_init 35 = .ok (.putfield 23, 3) := by decide +kernel
theorem dX5_init_38 : decode cX5_init 38 = .ok (.aload_n 0, 1) := by decide +kernel
theorem dX5_init_39 : decode cX5_init 39 = .ok (.bipush 8, 2) := by decide +kernel
theorem dX5_init_41 : decode cX5_init 41 = .ok (.newarray .int, 2) := by decide +kernel
theorem dX5_init_43 : decode cX5_init 43 = .ok (.putfield 26, 3) := by decide +kernel
theorem dX5_init_46 : decode cX5_init 46 = .ok (.aload_n 0, 1) := by decide +kernel
theorem dX5_init_47 : decode cX5_init 47 = .ok (.bipush 8, 2) := by decide +kernel
theorem dX5_init_49 : decode cX5_init 49 = .ok (.newarray .boolean, 2) := by decide +kernel
theorem dX5_init_51 : decode cX5_init 51 = .ok (.putfield 29, 3) := by decide +kernel
theorem dX5_init_54 : decode cX5_init 54 = .ok (.aload_n 0, 1) := by decide +kernel
theorem dX5_init_55 : decode cX5_init 55 = .ok (.bipush 8, 2) := by decide +kernel
theorem dX5_init_57 : decode cX5_init 57 = .ok (.newarray .int, 2) := by decide +kernel
theorem dX5_init_59 : decode cX5_init 59 = .ok (.putfield 33, 3) := by decide +kernel
theorem dX5_init_62 : decode cX5_init 62 = .ok (.aload_n 0, 1) := by decide +kernel
theorem dX5_init_63 : decode cX5_init 63 = .ok (.bipush 8, 2) := by decide +kernel
theorem dX5_init_65 : decode cX5_init 65 = .ok (.newarray .int, 2) := by decide +kernel
theorem dX5_init_67 : decode cX5_init 67 = .ok (.putfield 36, 3) := by decide +kernel
theorem dX5_init_70 : decode cX5_init 70 = .ok (.aload_n 0, 1) := by decide +kernel
theorem dX5_init_71 : decode cX5_init 71 = .ok (.iconst (-1), 1) := by decide +kernel
theorem dX5_init_72 : decode cX5_init 72 = .ok (.putfield 39, 3) := by decide +kernel
theorem dX5_init_75 : decode cX5_init 75 = .ok (.aload_n 0, 1) := by decide +kernel
theorem dX5_init_76 : decode cX5_init 76 = .ok (.sipush 400, 3) := by decide +kernel
theorem dX5_init_79 : decode cX5_init 79 = .ok (.newarray .int, 2) := by decide +kernel
theorem dX5_init_81 : decode cX5_init 81 = .ok (.putfield 42, 3) := by decide +kernel
theorem dX5_init_84 : decode cX5_init 84 = .ok (.aload_n 0, 1) := by decide +kernel
theorem dX5_init_85 : decode cX5_init 85 = .ok (.sipush 400, 3) := by decide +kernel
theorem dX5_init_88 : decode cX5_init 88 = .ok (.newarray .int, 2) := by decide +kernel
theorem dX5_init_90 : decode cX5_init 90 = .ok (.putfield 45, 3) := by decide +kernel
theorem dX5_init_93 : decode cX5_init 93 = .ok (.aload_n 0, 1) := by decide +kernel
theorem dX5_init_94 : decode cX5_init 94 = .ok (.sipush 400, 3) := by decide +kernel
theorem dX5_init_97 : decode cX5_init 97 = .ok (.newarray .int, 2) := by decide +kernel
theorem dX5_init_99 : decode cX5_init 99 = .ok (.putfield 48, 3) := by decide +kernel
theorem dX5_init_102 : decode cX5_init 102 = .ok (.aload_n 0, 1) := by decide +kernel
theorem dX5_init_103 : decode cX5_init 103 = .ok (.bipush 40, 2) := by decide +kernel
theorem dX5_init_105 : decode cX5_init 105 = .ok (.newarray .int, 2) := by decide +kernel
theorem dX5_init_107 : decode cX5_init 107 = .ok (.putfield 51, 3) := by decide +kernel
theorem dX5_init_110 : decode cX5_init 110 = .ok (.aload_n 0, 1) := by decide +kernel
theorem dX5_init_111 : decode cX5_init 111 = .ok (.iconst 5, 1) := by decide +kernel
theorem dX5_init_112 : decode cX5_init 112 = .ok (.newarray .int, 2) := by decide +kernel
theorem dX5_init_114 : decode cX5_init 114 = .ok (.putfield 54, 3) := by decide +kernel
theorem dX5_init_117 : decode cX5_init 117 = .ok (.aload_n 0, 1) := by decide +kernel
theorem dX5_init_118 : decode cX5_init 118 = .ok (.iconst 5, 1) := by decide +kernel
theorem dX5_init_119 : decode cX5_init 119 = .ok (.newarray .int, 2) := by decide +kernel
theorem dX5_init_121 : decode cX5_init 121 = .ok (.putfield 57, 3) := by decide +kernel
theorem dX5_init_124 : decode cX5_init 124 = .ok (.return_, 1) := by decide +kernel
theorem dX5_in_0 : decode cX5_in 0 = .ok (.iload_n 0, 1) := by decide +kernel
theorem dX5_in_1 : decode cX5_in 1 = .ok (.iload_n 1, 1) := by decide +kernel
theorem dX5_in_2 : decode cX5_in 2 = .ok (.if_icmp .lt 12, 3) := by decide +kernel
theorem dX5_in_5 : decode cX5_in 5 = .ok (.iload_n 0, 1) := by decide +kernel
theorem dX5_in_6 : decode cX5_in 6 = .ok (.iload_n 2, 1) := by decide +kernel
theorem dX5_in_7 : decode cX5_in 7 = .ok (.if_icmp .gt 7, 3) := by decide +kernel
theorem dX5_in_10 : decode cX5_in 10 = .ok (.iconst 1, 1) := by decide +kernel
theorem dX5_in_11 : decode cX5_in 11 = .ok (.goto 4, 3) := by decide +kernel
theorem dX5_in_14 : decode cX5_in 14 = .ok (.iconst 0, 1) := by decide +kernel
theorem dX5_in_15 : decode cX5_in 15 = .ok (.ireturn, 1) := by decide +kernel
theorem dX5_isPiece_0 : decode cX5_isPiece 0 = .ok (.iload_n 1, 1) := by decide +kernel
theorem dX5_isPiece_1 : decode cX5_isPiece 1 = .ok (.iconst 0, 1) := by decide +kernel
theorem dX5_isPiece_2 : decode cX5_isPiece 2 = .ok (.aload_n 0, 1) := by decide +kernel
theorem dX5_isPiece_3 : decode cX5_isPiece 3 = .ok (.getfield 60, 3) := by decide +kernel
theorem dX5_isPiece_6 : decode cX5_isPiece 6 = .ok (.iconst 1, 1) := by decide +kernel
theorem dX5_isPiece_7 : decode cX5_isPiece 7 = .ok (.isub, 1) := by decide +kernel
theorem dX5_isPiece_8 : decode cX5_isPiece 8 = .ok (.invokestatic 63, 3) := by decide +kernel
theorem dX5_isPiece_11 : decode cX5_isPiece 11 = .ok (.ireturn, 1) := by decide +kernel
theorem dX5_isSpot_0 : decode cX5_isSpot 0 = .ok (.iload_n 0, 1) := by decide +kernel
theorem dX5_isSpot_1 : decode cX5_isSpot 1 = .ok (.bipush (-6), 2) := by decide +kernel
theorem dX5_isSpot_3 : decode cX5_isSpot 3 = .ok (.bipush 13, 2) := by decide +kernel
theorem dX5_isSpot_5 : decode cX5_isSpot 5 = .ok (.invokestatic 63, 3) := by decide +kernel
theorem dX5_isSpot_8 : decode cX5_isSpot 8 = .ok (.ifCond .eq 18, 3) := by decide +kernel
theorem dX5_isSpot_11 : decode cX5_isSpot 11 = .ok (.iload_n 1, 1) := by decide +kernel
theorem dX5_isSpot_12 : decode cX5_isSpot 12 = .ok (.bipush (-6), 2) := by decide +kernel
theorem dX5_isSpot_14 : decode cX5_isSpot 14 = .ok (.bipush 13, 2) := by decide +kernel
theorem dX5_isSpot_16 : decode cX5_isSpot 16 = .ok (.invokestatic 63, 3) := by decide +kernel
theorem dX5_isSpot_19 : decode cX5_isSpot 19 = .ok (.ifCond .eq 7, 3) := by decide +kernel
theorem dX5_isSpot_22 : decode cX5_isSpot 22 = .ok (.iconst 1, 1) := by decide +kernel
theorem dX5_isSpot_23 : decode cX5_isSpot 23 = .ok (.goto 4, 3) := by decide +kernel
theorem dX5_isSpot_26 : decode cX5_isSpot 26 = .ok (.iconst 0, 1) := by decide +kernel
theorem dX5_isSpot_27 : decode cX5_isSpot 27 = .ok (.ireturn, 1) := by decide +kernel
theorem dX5_board_0 : decode cX5_board 0 = .ok (.iload_n 1, 1) := by decide +kernel
theorem dX5_board_1 : decode cX5_board 1 = .ok (.iconst 1, 1) := by decide +kernel
theorem dX5_board_2 : decode cX5_board 2 = .ok (.bipush 12, 2) := by decide +kernel
theorem dX5_board_4 : decode cX5_board 4 = .ok (.invokestatic 63, 3) := by decide +kernel
theorem dX5_board_7 : decode cX5_board 7 = .ok (.ifCond .eq 13, 3) := by decide +kernel
theorem dX5_board_10 : decode cX5_board 10 = .ok (.iload_n 2, 1) := by decide +kernel
theorem dX5_board_11 : decode cX5_board 11 = .ok (.iconst 1, 1) := by decide +kernel
theorem dX5_board_12 : decode cX5_board 12 = .ok (.bipush 10, 2) := by decide +kernel
theorem dX5_board_14 : decode cX5_board 14 = .ok (.invokestatic 63, 3) := by decide +kernel
theorem dX5_board_17 : decode cX5_board 17 = .ok (.ifCond .ne 5, 3) := by decide +kernel
theorem dX5_board_20 : decode cX5_board 20 = .ok (.iconst (-1), 1) := by decide +kernel
theorem dX5_board_21 : decode cX5_board 21 = .ok (.ireturn, 1) := by decide +kernel
theorem dX5_board_22 : decode cX5_board 22 = .ok (.aload_n 0, 1) := by decide +kernel
theorem dX5_board_23 : decode cX5_board 23 = .ok (.iload_n 1, 1) := by decide +kernel
theorem dX5_board_24 : decode cX5_board 24 = .ok (.putfield 7, 3) := by decide +kernel
theorem dX5_board_27 : decode cX5_board 27 = .ok (.aload_n 0, 1) := by decide +kernel
theorem dX5_board_28 : decode cX5_board 28 = .ok (.iload_n 2, 1) := by decide +kernel
theorem dX5_board_29 : decode cX5_board 29 = .ok (.putfield 13, 3) := by decide +kernel
theorem dX5_board_32 : decode cX5_board 32 = .ok (.iconst 0, 1) := by decide +kernel
theorem dX5_board_33 : decode cX5_board 33 = .ok (.istore_n 3, 1) := by decide +kernel
theorem dX5_board_34 : decode cX5_board 34 = .ok (.iload_n 3, 1) := by decide +kernel
theorem dX5_board_35 : decode cX5_board 35 = .ok (.bipush 10, 2) := by decide +kernel
theorem dX5_board_37 : decode cX5_board 37 = .ok (.if_icmp .ge 16, 3) := by decide +kernel
theorem dX5_board_40 : decode cX5_board 40 = .ok (.aload_n 0, 1) := by decide +kernel
theorem dX5_board_41 : decode cX5_board 41 = .ok (.getfield 16, 3) := by decide +kernel
theorem dX5_board_44 : decode cX5_board 44 = .ok (.iload_n 3, 1) := by decide +kernel
theorem dX5_board_45 : decode cX5_board 45 = .ok (.iconst 0, 1) := by decide +kernel
theorem dX5_board_46 : decode cX5_board 46 = .ok (.iastore, 1) := by decide +kernel
theorem dX5_board_47 : decode cX5_board 47 = .ok (.iinc 3 1, 3) := by decide +kernel
theorem dX5_board_50 : decode cX5_board 50 = .ok (.goto (-16), 3) := by decide +kernel
theorem dX5_board_53 : decode cX5_board 53 = .ok (.iconst 0, 1) := by decide +kernel
theorem dX5_board_54 : decode cX5_board 54 = .ok (.istore_n 3, 1) := by decide +kernel
theorem dX5_board_55 : decode cX5_board 55 = .ok (.iload_n 3, 1) := by decide +kernel
theorem dX5_board_56 : decode cX5_board 56 = .ok (.bipush 8, 2) := by decide +kernel
theorem dX5_board_58 : decode cX5_board 58 = .ok (.if_icmp .ge 16, 3) := by decide +kernel
theorem dX5_board_61 : decode cX5_board 61 = .ok (.aload_n 0, 1) := by decide +kernel
theorem dX5_board_62 : decode cX5_board 62 = .ok (.getfield 29, 3) := by decide +kernel
theorem dX5_board_65 : decode cX5_board 65 = .ok (.iload_n 3, 1) := by decide +kernel
theorem dX5_board_66 : decode cX5_board 66 = .ok (.iconst 0, 1) := by decide +kernel
theorem dX5_board_67 : decode cX5_board 67 = .ok (.bastore, 1) := by decide +kernel
theorem dX5_board_68 : decode cX5_board 68 = .ok (.iinc 3 1, 3) := by decide +kernel
theorem dX5_board_71 : decode cX5_board 71 = .ok (.goto (-16), 3) := by decide +kernel
theorem dX5_board_74 : decode cX5_board 74 = .ok (.aload_n 0, 1) := by decide +kernel
theorem dX5_board_75 : decode cX5_board 75 = .ok (.iconst (-1), 1) := by decide +kernel
theorem dX5_board_76 : decode cX5_board 76 = .ok (.putfield 39, 3) := by decide +kernel
theorem dX5_board_79 : decode cX5_board 79 = .ok (.iload_n 1, 1) := by decide +kernel
theorem dX5_board_80 : decode cX5_board 80 = .ok (.iload_n 2, 1) := by decide +kernel
theorem dX5_board_81 : decode cX5_board 81 = .ok (.imul, 1) := by decide +kernel
theorem dX5_board_82 : decode cX5_board 82 = .ok (.ireturn, 1) := by decide +kernel
theorem dX5_has_0 : decode cX5_has 0 = .ok (.iload 4, 2) := by decide +kernel
theorem dX5_has_2 : decode cX5_has 2 = .ok (.iload_n 2, 1) := by decide +kernel
theorem dX5_has_3 : decode cX5_has 3 = .ok (.isub, 1) := by decide +kernel
theorem dX5_has_4 : decode cX5_has 4 = .ok (.iconst 0, 1) := by decide +kernel
theorem dX5_has_5 : decode cX5_has 5 = .ok (.iconst 4, 1) := by decide +kernel
theorem dX5_has_6 : decode cX5_has 6 = .ok (.invokestatic 63, 3) := by decide +kernel
theorem dX5_has_9 : decode cX5_has 9 = .ok (.ifCond .eq 43, 3) := by decide +kernel
theorem dX5_has_12 : decode cX5_has 12 = .ok (.iload 5, 2) := by decide +kernel
theorem dX5_has_14 : decode cX5_has 14 = .ok (.iload_n 3, 1) := by decide +kernel
theorem dX5_has_15 : decode cX5_has 15 = .ok (.isub, 1) := by decide +kernel
theorem dX5_has_16 : decode cX5_has 16 = .ok (.iconst 0, 1) := by decide +kernel
theorem dX5_has_17 : decode cX5_has 17 = .ok (.iconst 4, 1) := by decide +kernel
theorem dX5_has_18 : decode cX5_has 18 = .ok (.invokestatic 63, 3) := by decide +kernel
theorem dX5_has_21 : decode cX5_has 21 = .ok (.ifCond .eq 31, 3) := by decide +kernel
theorem dX5_has_24 : decode cX5_has 24 = .ok (.aload_n 0, 1) := by decide +kernel
theorem dX5_has_25 : decode cX5_has 25 = .ok (.getfield 20, 3) := by decide +kernel
theorem dX5_has_28 : decode cX5_has 28 = .ok (.iload_n 1, 1) := by decide +kernel
theorem dX5_has_29 : decode cX5_has 29 = .ok (.iaload, 1) := by decide +kernel
theorem dX5_has_30 : decode cX5_has 30 = .ok (.iconst 5, 1) := by decide +kernel
theorem dX5_has_31 : decode cX5_has 31 = .ok (.iload 5, 2) := by decide +kernel
theorem dX5_has_33 : decode cX5_has 33 = .ok (.iload_n 3, 1) := by decide +kernel
theorem dX5_has_34 : decode cX5_has 34 = .ok (.isub, 1) := by decide +kernel
theorem dX5_has_35 : decode cX5_has 35 = .ok (.imul, 1) := by decide +kernel
theorem dX5_has_36 : decode cX5_has 36 = .ok (.iload 4, 2) := by decide +kernel
theorem dX5_has_38 : decode cX5_has 38 = .ok (.iadd, 1) := by decide +kernel
theorem dX5_has_39 : decode cX5_has 39 = .ok (.iload_n 2, 1) := by decide +kernel
theorem dX5_has_40 : decode cX5_has 40 = .ok (.isub, 1) := by decide +kernel
theorem dX5_has_41 : decode cX5_has 41 = .ok (.ishr, 1) := by decide +kernel
theorem dX5_has_42 : decode cX5_has 42 = .ok (.iconst 1, 1) := by decide +kernel
theorem dX5_has_43 : decode cX5_has 43 = .ok (.iand, 1) := by decide +kernel
theorem dX5_has_44 : decode cX5_has 44 = .ok (.iconst 1, 1) := by decide +kernel
theorem dX5_has_45 : decode cX5_has 45 = .ok (.if_icmp .ne 7, 3) := by decide +kernel
theorem dX5_has_48 : decode cX5_has 48 = .ok (.iconst 1, 1) := by decide +kernel
theorem dX5_has_49 : decode cX5_has 49 = .ok (.goto 4, 3) := by decide +kernel
theorem dX5_has_52 : decode cX5_has 52 = .ok (.iconst 0, 1) := by decide +kernel
theorem dX5_has_53 : decode cX5_has 53 = .ok (.ireturn, 1) := by decide +kernel
theorem dX5_isOnBoard_0 : decode cX5_isOnBoard 0 = .ok (.iload_n 1, 1) := by decide +kernel
theorem dX5_isOnBoard_1 : decode cX5_isOnBoard 1 = .ok (.iconst 0, 1) := by decide +kernel
theorem dX5_isOnBoard_2 : decode cX5_isOnBoard 2 = .ok (.aload_n 0, 1) := by decide +kernel
theorem dX5_isOnBoard_3 : decode cX5_isOnBoard 3 = .ok (.getfield 7, 3) := by decide +kernel
theorem dX5_isOnBoard_6 : decode cX5_isOnBoard 6 = .ok (.iconst 1, 1) := by decide +kernel
theorem dX5_isOnBoard_7 : decode cX5_isOnBoard 7 = .ok (.isub, 1) := by decide +kernel
theorem dX5_isOnBoard_8 : decode cX5_isOnBoard 8 = .ok (.invokestatic 63, 3) := by decide +kernel
theorem dX5_isOnBoard_11 : decode cX5_isOnBoard 11 = .ok (.ifCond .eq 21, 3) := by decide +kernel
theorem dX5_isOnBoard_14 : decode cX5_isOnBoard 14 = .ok (.iload_n 2, 1) := by decide +kernel
theorem dX5_isOnBoard_15 : decode cX5_isOnBoard 15 = .ok (.iconst 0, 1) := by decide +kernel
theorem dX5_isOnBoard_16 : decode cX5_isOnBoard 16 = .ok (.aload_n 0, 1) := by decide +kernel
theorem dX5_isOnBoard_17 : decode cX5_isOnBoard 17 = .ok (.getfield 13, 3) := by decide +kernel
theorem dX5_isOnBoard_20 : decode cX5_isOnBoard 20 = .ok (.iconst 1, 1) := by decide +kernel
theorem dX5_isOnBoard_21 : decode cX5_isOnBoard 21 = .ok (.isub, 1) := by decide +kernel
theorem dX5_isOnBoard_22 : decode cX5_isOnBoard 22 = .ok (.invokestatic 63, 3) := by decide +kernel
theorem dX5_isOnBoard_25 : decode cX5_isOnBoard 25 = .ok (.ifCond .eq 7, 3) := by decide +kernel
theorem dX5_isOnBoard_28 : decode cX5_isOnBoard 28 = .ok (.iconst 1, 1) := by decide +kernel
theorem dX5_isOnBoard_29 : decode cX5_isOnBoard 29 = .ok (.goto 4, 3) := by decide +kernel
theorem dX5_isOnBoard_32 : decode cX5_isOnBoard 32 = .ok (.iconst 0, 1) := by decide +kernel
theorem dX5_isOnBoard_33 : decode cX5_isOnBoard 33 = .ok (.ireturn, 1) := by decide +kernel
theorem dX5_walls_0 : decode cX5_walls 0 = .ok (.iload_n 1, 1) := by decide +kernel
theorem dX5_walls_1 : decode cX5_walls 1 = .ok (.iconst 0, 1) := by decide +kernel
theorem dX5_walls_2 : decode cX5_walls 2 = .ok (.aload_n 0, 1) := by decide +kernel
theorem dX5_walls_3 : decode cX5_walls 3 = .ok (.getfield 13, 3) := by decide +kernel
theorem dX5_walls_6 : decode cX5_walls 6 = .ok (.iconst 1, 1) := by decide +kernel
theorem dX5_walls_7 : decode cX5_walls 7 = .ok (.isub, 1) := by decide +kernel
theorem dX5_walls_8 : decode cX5_walls 8 = .ok (.invokestatic 63, 3) := by decide +kernel
theorem dX5_walls_11 : decode cX5_walls 11 = .ok (.ifCond .eq 19, 3) := by decide +kernel
theorem dX5_walls_14 : decode cX5_walls 14 = .ok (.iload_n 2, 1) := by decide +kernel
theorem dX5_walls_15 : decode cX5_walls 15 = .ok (.iconst 0, 1) := by decide +kernel
theorem dX5_walls_16 : decode cX5_walls 16 = .ok (.iconst 1, 1) := by decide +kernel
theorem dX5_walls_17 : decode cX5_walls 17 = .ok (.aload_n 0, 1) := by decide +kernel
theorem dX5_walls_18 : decode cX5_walls 18 = .ok (.getfield 7, 3) := by decide +kernel
theorem dX5_walls_21 : decode cX5_walls 21 = .ok (.ishl, 1) := by decide +kernel
theorem dX5_walls_22 : decode cX5_walls 22 = .ok (.iconst 1, 1) := by decide +kernel
theorem dX5_walls_23 : decode cX5_walls 23 = .ok (.isub, 1) := by decide +kernel
theorem dX5_walls_24 : decode cX5_walls 24 = .ok (.invokestatic 63, 3) := by decide +kernel
theorem dX5_walls_27 : decode cX5_walls 27 = .ok (.ifCond .ne 5, 3) := by decide +kernel
theorem dX5_walls_30 : decode cX5_walls 30 = .ok (.iconst (-1), 1) := by decide +kernel
theorem dX5_walls_31 : decode cX5_walls 31 = .ok (.ireturn, 1) := by decide +kernel
theorem dX5_walls_32 : decode cX5_walls 32 = .ok (.iconst 0, 1) := by decide +kernel
theorem dX5_walls_33 : decode cX5_walls 33 = .ok (.istore_n 3, 1) := by decide +kernel
theorem dX5_walls_34 : decode cX5_walls 34 = .ok (.iload_n 3, 1) := by decide +kernel
theorem dX5_walls_35 : decode cX5_walls 35 = .ok (.aload_n 0, 1) := by decide +kernel
theorem dX5_walls_36 : decode cX5_walls 36 = .ok (.getfield 7, 3) := by decide +kernel
theorem dX5_walls_39 : decode cX5_walls 39 = .ok (.if_icmp .ge 74, 3) := by decide +kernel
theorem dX5_walls_42 : decode cX5_walls 42 = .ok (.iconst 0, 1) := by decide +kernel
theorem dX5_walls_43 : decode cX5_walls 43 = .ok (.istore 4, 2) := by decide +kernel
theorem dX5_walls_45 : decode cX5_walls 45 = .ok (.iload 4, 2) := by decide +kernel
theorem dX5_walls_47 : decode cX5_walls 47 = .ok (.aload_n 0, 1) := by decide +kernel
theorem dX5_walls_48 : decode cX5_walls 48 = .ok (.getfield 60, 3) := by decide +kernel
theorem dX5_walls_51 : decode cX5_walls 51 = .ok (.if_icmp .ge 56, 3) := by decide +kernel
theorem dX5_walls_54 : decode cX5_walls 54 = .ok (.iload_n 2, 1) := by decide +kernel
theorem dX5_walls_55 : decode cX5_walls 55 = .ok (.iload_n 3, 1) := by decide +kernel
theorem dX5_walls_56 : decode cX5_walls 56 = .ok (.ishr, 1) := by decide +kernel
theorem dX5_walls_57 : decode cX5_walls 57 = .ok (.iconst 1, 1) := by decide +kernel
theorem dX5_walls_58 : decode cX5_walls 58 = .ok (.iand, 1) := by decide +kernel
theorem dX5_walls_59 : decode cX5_walls 59 = .ok (.iconst 1, 1) := by decide +kernel
theorem dX5_walls_60 : decode cX5_walls 60 = .ok (.if_icmp .ne 41, 3) := by decide +kernel
theorem dX5_walls_63 : decode cX5_walls 63 = .ok (.aload_n 0, 1) := by decide +kernel
theorem dX5_walls_64 : decode cX5_walls 64 = .ok (.getfield 29, 3) := by decide +kernel
theorem dX5_walls_67 : decode cX5_walls 67 = .ok (.iload 4, 2) := by decide +kernel
theorem dX5_walls_69 : decode cX5_walls 69 = .ok (.baload, 1) := by decide +kernel
theorem dX5_walls_70 : decode cX5_walls 70 = .ok (.ifCond .eq 31, 3) := by decide +kernel
theorem dX5_walls_73 : decode cX5_walls 73 = .ok (.aload_n 0, 1) := by decide +kernel
theorem dX5_walls_74 : decode cX5_walls 74 = .ok (.iload 4, 2) := by decide +kernel
theorem dX5_walls_76 : decode cX5_walls 76 = .ok (.aload_n 0, 1) := by decide +kernel
theorem dX5_walls_77 : decode cX5_walls 77 = .ok (.getfield 33, 3) := by decide +kernel
theorem dX5_walls_80 : decode cX5_walls 80 = .ok (.iload 4, 2) := by decide +kernel
theorem dX5_walls_82 : decode cX5_walls 82 = .ok (.iaload, 1) := by decide +kernel
theorem dX5_walls_83 : decode cX5_walls 83 = .ok (.aload_n 0, 1) := by decide +kernel
theorem dX5_walls_84 : decode cX5_walls 84 = .ok (.getfield 36, 3) := by decide +kernel
theorem dX5_walls_87 : decode cX5_walls 87 = .ok (.iload 4, 2) := by decide +kernel
theorem dX5_walls_89 : decode cX5_walls 89 = .ok (.iaload, 1) := by decide +kernel
theorem dX5_walls_90 : decode cX5_walls 90 = .ok (.iload_n 3, 1) := by decide +kernel
theorem dX5_walls_91 : decode cX5_walls 91 = .ok (.iload_n 1, 1) := by decide +kernel
theorem dX5_walls_92 : decode cX5_walls 92 = .ok (.invokevirtual 67, 3) := by decide +kernel
theorem dX5_walls_95 : decode cX5_walls 95 = .ok (.ifCond .eq 6, 3) := by decide +kernel
theorem dX5_walls_98 : decode cX5_walls 98 = .ok (.bipush (-2), 2) := by decide +kernel
theorem dX5_walls_100 : decode cX5_walls 100 = .ok (.ireturn, 1) := by decide +kernel
theorem dX5_walls_101 : decode cX5_walls 101 = .ok (.iinc 4 1, 3) := by decide +kernel
theorem dX5_walls_104 : decode cX5_walls 104 = .ok (.goto (-59), 3) := by decide +kernel
theorem dX5_walls_107 : decode cX5_walls 107 = .ok (.iinc 3 1, 3) := by decide +kernel
theorem dX5_walls_110 : decode cX5_walls 110 = .ok (.goto (-76), 3) := by decide +kernel
theorem dX5_walls_113 : decode cX5_walls 113 = .ok (.aload_n 0, 1) := by decide +kernel
theorem dX5_walls_114 : decode cX5_walls 114 = .ok (.getfield 16, 3) := by decide +kernel
theorem dX5_walls_117 : decode cX5_walls 117 = .ok (.iload_n 1, 1) := by decide +kernel
theorem dX5_walls_118 : decode cX5_walls 118 = .ok (.iload_n 2, 1) := by decide +kernel
theorem dX5_walls_119 : decode cX5_walls 119 = .ok (.iastore, 1) := by decide +kernel
theorem dX5_walls_120 : decode cX5_walls 120 = .ok (.iload_n 2, 1) := by decide +kernel
theorem dX5_walls_121 : decode cX5_walls 121 = .ok (.ireturn, 1) := by decide +kernel
theorem dX5_piece_0 : decode cX5_piece 0 = .ok (.iload_n 1, 1) := by decide +kernel
theorem dX5_piece_1 : decode cX5_piece 1 = .ok (.iconst 1, 1) := by decide +kernel
theorem dX5_piece_2 : decode cX5_piece 2 = .ok (.ldc 71, 2) := by decide +kernel
theorem dX5_piece_4 : decode cX5_piece 4 = .ok (.invokestatic 63, 3) := by decide +kernel
theorem dX5_piece_7 : decode cX5_piece 7 = .ok (.ifCond .ne 5, 3) := by decide +kernel
theorem dX5_piece_10 : decode cX5_piece 10 = .ok (.iconst (-1), 1) := by decide +kernel
theorem dX5_piece_11 : decode cX5_piece 11 = .ok (.ireturn, 1) := by decide +kernel
theorem dX5_piece_12 : decode cX5_piece 12 = .ok (.aload_n 0, 1) := by decide +kernel
theorem dX5_piece_13 : decode cX5_piece 13 = .ok (.getfield 60, 3) := by decide +kernel
theorem dX5_piece_16 : decode cX5_piece 16 = .ok (.bipush 8, 2) := by decide +kernel
theorem dX5_piece_18 : decode cX5_piece 18 = .ok (.if_icmp .ne 6, 3) := by decide +kernel
theorem dX5_piece_21 : decode cX5_piece 21 = .ok (.bipush (-3), 2) := by decide +kernel
theorem dX5_piece_23 : decode cX5_piece 23 = .ok (.ireturn, 1) := by decide +kernel
theorem dX5_piece_24 : decode cX5_piece 24 = .ok (.iload_n 1, 1) := by decide +kernel
theorem dX5_piece_25 : decode cX5_piece 25 = .ok (.istore_n 2, 1) := by decide +kernel
theorem dX5_piece_26 : decode cX5_piece 26 = .ok (.iload_n 2, 1) := by decide +kernel
theorem dX5_piece_27 : decode cX5_piece 27 = .ok (.bipush 31, 2) := by decide +kernel
theorem dX5_piece_29 : decode cX5_piece 29 = .ok (.iand, 1) := by decide +kernel
theorem dX5_piece_30 : decode cX5_piece 30 = .ok (.ifCond .ne 10, 3) := by decide +kernel
theorem dX5_piece_33 : decode cX5_piece 33 = .ok (.iload_n 2, 1) := by decide +kernel
theorem dX5_piece_34 : decode cX5_piece 34 = .ok (.iconst 5, 1) := by decide +kernel
theorem dX5_piece_35 : decode cX5_piece 35 = .ok (.ishr, 1) := by decide +kernel
theorem dX5_piece_36 : decode cX5_piece 36 = .ok (.istore_n 2, 1) := by decide +kernel
theorem dX5_piece_37 : decode cX5_piece 37 = .ok (.goto (-11), 3) := by decide +kernel
theorem dX5_piece_40 : decode cX5_piece 40 = .ok (.iload_n 2, 1) := by decide +kernel
theorem dX5_piece_41 : decode cX5_piece 41 = .ok (.ldc 72, 2) := by decide +kernel
theorem dX5_piece_43 : decode cX5_piece 43 = .ok (.iand, 1) := by decide +kernel
theorem dX5_piece_44 : decode cX5_piece 44 = .ok (.ifCond .ne 10, 3) := by decide +kernel
theorem dX5_piece_47 : decode cX5_piece 47 = .ok (.iload_n 2, 1) := by decide +kernel
theorem dX5_piece_48 : decode cX5_piece 48 = .ok (.iconst 1, 1) := by decide +kernel
theorem dX5_piece_49 : decode cX5_piece 49 = .ok (.ishr, 1) := by decide +kernel
theorem dX5_piece_50 : decode cX5_piece 50 = .ok (.istore_n 2, 1) := by decide +kernel
theorem dX5_piece_51 : decode cX5_piece 51 = .ok (.goto (-11), 3) := by decide +kernel
theorem dX5_piece_54 : decode cX5_piece 54 = .ok (.aload_n 0, 1) := by decide +kernel
theorem dX5_piece_55 : decode cX5_piece 55 = .ok (.getfield 20, 3) := by decide +kernel
theorem dX5_piece_58 : decode cX5_piece 58 = .ok (.aload_n 0, 1) := by decide +kernel
theorem dX5_piece_59 : decode cX5_piece 59 = .ok (.getfield 60, 3) := by decide +kernel
theorem dX5_piece_62 : decode cX5_piece 62 = .ok (.iload_n 2, 1) := by decide +kernel
theorem dX5_piece_63 : decode cX5_piece 63 = .ok (.iastore, 1) := by decide +kernel
theorem dX5_piece_64 : decode cX5_piece 64 = .ok (.iconst 1, 1) := by decide +kernel
theorem dX5_piece_65 : decode cX5_piece 65 = .ok (.istore_n 3, 1) := by decide +kernel
theorem dX5_piece_66 : decode cX5_piece 66 = .ok (.iconst 1, 1) := by decide +kernel
theorem dX5_piece_67 : decode cX5_piece 67 = .ok (.istore 4, 2) := by decide +kernel
theorem dX5_piece_69 : decode cX5_piece 69 = .ok (.iconst 0, 1) := by decide +kernel
theorem dX5_piece_70 : decode cX5_piece 70 = .ok (.istore 5, 2) := by decide +kernel
theorem dX5_piece_72 : decode cX5_piece 72 = .ok (.iload 5, 2) := by decide +kernel
theorem dX5_piece_74 : decode cX5_piece 74 = .ok (.bipush 25, 2) := by decide +kernel
theorem dX5_piece_76 : decode cX5_piece 76 = .ok (.if_icmp .ge 48, 3) := by decide +kernel
theorem dX5_piece_79 : decode cX5_piece 79 = .ok (.iload_n 2, 1) := by decide +kernel
theorem dX5_piece_80 : decode cX5_piece 80 = .ok (.iload 5, 2) := by decide +kernel
theorem dX5_piece_82 : decode cX5_piece 82 = .ok (.ishr, 1) := by decide +kernel
theorem dX5_piece_83 : decode cX5_piece 83 = .ok (.iconst 1, 1) := by decide +kernel
theorem dX5_piece_84 : decode cX5_piece 84 = .ok (.iand, 1) := by decide +kernel
theorem dX5_piece_85 : decode cX5_piece 85 = .ok (.iconst 1, 1) := by decide +kernel
theorem dX5_piece_86 : decode cX5_piece 86 = .ok (.if_icmp .ne 32, 3) := by decide +kernel
theorem dX5_piece_89 : decode cX5_piece 89 = .ok (.iload 5, 2) := by decide +kernel
theorem dX5_piece_91 : decode cX5_piece 91 = .ok (.iconst 5, 1) := by decide +kernel
theorem dX5_piece_92 : decode cX5_piece 92 = .ok (.irem, 1) := by decide +kernel
theorem dX5_piece_93 : decode cX5_piece 93 = .ok (.iconst 1, 1) := by decide +kernel
theorem dX5_piece_94 : decode cX5_piece 94 = .ok (.iadd, 1) := by decide +kernel
theorem dX5_piece_95 : decode cX5_piece 95 = .ok (.iload_n 3, 1) := by decide +kernel
theorem dX5_piece_96 : decode cX5_piece 96 = .ok (.if_icmp .le 12, 3) := by decide +kernel
theorem dX5_piece_99 : decode cX5_piece 99 = .ok (.iload 5, 2) := by decide +kernel
theorem dX5_piece_101 : decode cX5_piece 101 = .ok (.iconst 5, 1) := by decide +kernel
theorem dX5_piece_102 : decode cX5_piece 102 = .ok (.irem, 1) := by decide +kernel
theorem dX5_piece_103 : decode cX5_piece 103 = .ok (.iconst 1, 1) := by decide +kernel
theorem dX5_piece_104 : decode cX5_piece 104 = .ok (.iadd, 1) := by decide +kernel
theorem dX5_piece_105 : decode cX5_piece 105 = .ok (.goto 4, 3) := by decide +kernel
theorem dX5_piece_108 : decode cX5_piece 108 = .ok (.iload_n 3, 1) := by decide +kernel
theorem dX5_piece_109 : decode cX5_piece 109 = .ok (.istore_n 3, 1) := by decide +kernel
theorem dX5_piece_110 : decode cX5_piece 110 = .ok (.iload 5, 2) := by decide +kernel
theorem dX5_piece_112 : decode cX5_piece 112 = .ok (.iconst 5, 1) := by decide +kernel
theorem dX5_piece_113 : decode cX5_piece 113 = .ok (.idiv, 1) := by decide +kernel
theorem dX5_piece_114 : decode cX5_piece 114 = .ok (.iconst 1, 1) := by decide +kernel
theorem dX5_piece_115 : decode cX5_piece 115 = .ok (.iadd, 1) := by decide +kernel
theorem dX5_piece_116 : decode cX5_piece 116 = .ok (.istore 4, 2) := by decide +kernel
theorem dX5_piece_118 : decode cX5_piece 118 = .ok (.iinc 5 1, 3) := by decide +kernel
theorem dX5_piece_121 : decode cX5_piece 121 = .ok (.goto (-49), 3) := by decide +kernel
theorem dX5_piece_124 : decode cX5_piece 124 = .ok (.aload_n 0, 1) := by decide +kernel
theorem dX5_piece_125 : decode cX5_piece 125 = .ok (.getfield 23, 3) := by decide +kernel
theorem dX5_piece_128 : decode cX5_piece 128 = .ok (.aload_n 0, 1) := by decide +kernel
theorem dX5_piece_129 : decode cX5_piece 129 = .ok (.getfield 60, 3) := by decide +kernel
theorem dX5_piece_132 : decode cX5_piece 132 = .ok (.iload_n 3, 1) := by decide +kernel
theorem dX5_piece_133 : decode cX5_piece 133 = .ok (.iastore, 1) := by decide +kernel
theorem dX5_piece_134 : decode cX5_piece 134 = .ok (.aload_n 0, 1) := by decide +kernel
theorem dX5_piece_135 : decode cX5_piece 135 = .ok (.getfield 26, 3) := by decide +kernel
theorem dX5_piece_138 : decode cX5_piece 138 = .ok (.aload_n 0, 1) := by decide +kernel
theorem dX5_piece_139 : decode cX5_piece 139 = .ok (.getfield 60, 3) := by decide +kernel
theorem dX5_piece_142 : decode cX5_piece 142 = .ok (.iload 4, 2) := by decide +kernel
theorem dX5_piece_144 : decode cX5_piece 144 = .ok (.iastore, 1) := by decide +kernel
theorem dX5_piece_145 : decode cX5_piece 145 = .ok (.aload_n 0, 1) := by decide +kernel
theorem dX5_piece_146 : decode cX5_piece 146 = .ok (.getfield 29, 3) := by decide +kernel
theorem dX5_piece_149 : decode cX5_piece 149 = .ok (.aload_n 0, 1) := by decide +kernel
theorem dX5_piece_150 : decode cX5_piece 150 = .ok (.getfield 60, 3) := by decide +kernel
theorem dX5_piece_153 : decode cX5_piece 153 = .ok (.iconst 0, 1) := by decide +kernel
theorem dX5_piece_154 : decode cX5_piece 154 = .ok (.bastore, 1) := by decide +kernel
theorem dX5_piece_155 : decode cX5_piece 155 = .ok (.aload_n 0, 1) := by decide +kernel
theorem dX5_piece_156 : decode cX5_piece 156 = .ok (.dup, 1) := by decide +kernel
theorem dX5_piece_157 : decode cX5_piece 157 = .ok (.getfield 60, 3) := by decide +kernel
theorem dX5_piece_160 : decode cX5_piece 160 = .ok (.iconst 1, 1) := by decide +kernel
theorem dX5_piece_161 : decode cX5_piece 161 = .ok (.iadd, 1) := by decide +kernel
theorem dX5_piece_162 : decode cX5_piece 162 = .ok (.putfield 60, 3) := by decide +kernel
theorem dX5_piece_165 : decode cX5_piece 165 = .ok (.aload_n 0, 1) := by decide +kernel
theorem dX5_piece_166 : decode cX5_piece 166 = .ok (.getfield 60, 3) := by decide +kernel
theorem dX5_piece_169 : decode cX5_piece 169 = .ok (.iconst 1, 1) := by decide +kernel
theorem dX5_piece_170 : decode cX5_piece 170 = .ok (.isub, 1) := by decide +kernel
theorem dX5_piece_171 : decode cX5_piece 171 = .ok (.ireturn, 1) := by decide +kernel
theorem dX5_stand_0 : decode cX5_stand 0 = .ok (.iconst 0, 1) := by decide +kernel
theorem dX5_stand_1 : decode cX5_stand 1 = .ok (.istore 4, 2) := by decide +kernel
theorem dX5_stand_3 : decode cX5_stand 3 = .ok (.iload 4, 2) := by decide +kernel
theorem dX5_stand_5 : decode cX5_stand 5 = .ok (.bipush 25, 2) := by decide +kernel
theorem dX5_stand_7 : decode cX5_stand 7 = .ok (.if_icmp .ge 132, 3) := by decide +kernel
theorem dX5_stand_10 : decode cX5_stand 10 = .ok (.aload_n 0, 1) := by decide +kernel
theorem dX5_stand_11 : decode cX5_stand 11 = .ok (.getfield 20, 3) := by decide +kernel
theorem dX5_stand_14 : decode cX5_stand 14 = .ok (.iload_n 1, 1) := by decide +kernel
theorem dX5_stand_15 : decode cX5_stand 15 = .ok (.iaload, 1) := by decide +kernel
theorem dX5_stand_16 : decode cX5_stand 16 = .ok (.iload 4, 2) := by decide +kernel
theorem dX5_stand_18 : decode cX5_stand 18 = .ok (.ishr, 1) := by decide +kernel
theorem dX5_stand_19 : decode cX5_stand 19 = .ok (.iconst 1, 1) := by decide +kernel
theorem dX5_stand_20 : decode cX5_stand 20 = .ok (.iand, 1) := by decide +kernel
theorem dX5_stand_21 : decode cX5_stand 21 = .ok (.iconst 1, 1) := by decide +kernel
theorem dX5_stand_22 : decode cX5_stand 22 = .ok (.if_icmp .ne 111, 3) := by decide +kernel
theorem dX5_stand_25 : decode cX5_stand 25 = .ok (.iload_n 2, 1) := by decide +kernel
theorem dX5_stand_26 : decode cX5_stand 26 = .ok (.iload 4, 2) := by decide +kernel
theorem dX5_stand_28 : decode cX5_stand 28 = .ok (.iconst 5, 1) := by decide +kernel
theorem dX5_stand_29 : decode cX5_stand 29 = .ok (.irem, 1) := by decide +kernel
theorem dX5_stand_30 : decode cX5_stand 30 = .ok (.iadd, 1) := by decide +kernel
theorem dX5_stand_31 : decode cX5_stand 31 = .ok (.istore 5, 2) := by decide +kernel
theorem dX5_stand_33 : decode cX5_stand 33 = .ok (.iload_n 3, 1) := by decide +kernel
theorem dX5_stand_34 : decode cX5_stand 34 = .ok (.iload 4, 2) := by decide +kernel
theorem dX5_stand_36 : decode cX5_stand 36 = .ok (.iconst 5, 1) := by decide +kernel
theorem dX5_stand_37 : decode cX5_stand 37 = .ok (.idiv, 1) := by decide +kernel
theorem dX5_stand_38 : decode cX5_stand 38 = .ok (.iadd, 1) := by decide +kernel
theorem dX5_stand_39 : decode cX5_stand 39 = .ok (.istore 6, 2) := by decide +kernel
theorem dX5_stand_41 : decode cX5_stand 41 = .ok (.aload_n 0, 1) := by decide +kernel
theorem dX5_stand_42 : decode cX5_stand 42 = .ok (.iload 5, 2) := by decide +kernel
theorem dX5_stand_44 : decode cX5_stand 44 = .ok (.iload 6, 2) := by decide +kernel
theorem dX5_stand_46 : decode cX5_stand 46 = .ok (.invokevirtual 73, 3) := by decide +kernel
theorem dX5_stand_49 : decode cX5_stand 49 = .ok (.ifCond .eq 21, 3) := by decide +kernel
theorem dX5_stand_52 : decode cX5_stand 52 = .ok (.aload_n 0, 1) := by decide +kernel
theorem dX5_stand_53 : decode cX5_stand 53 = .ok (.getfield 16, 3) := by decide +kernel
theorem dX5_stand_56 : decode cX5_stand 56 = .ok (.iload 6, 2) := by decide +kernel
theorem dX5_stand_58 : decode cX5_stand 58 = .ok (.iaload, 1) := by decide +kernel
theorem dX5_stand_59 : decode cX5_stand 59 = .ok (.iload 5, 2) := by decide +kernel
theorem dX5_stand_61 : decode cX5_stand 61 = .ok (.ishr, 1) := by decide +kernel
theorem dX5_stand_62 : decode cX5_stand 62 = .ok (.iconst 1, 1) := by decide +kernel
theorem dX5_stand_63 : decode cX5_stand 63 = .ok (.iand, 1) := by decide +kernel
theorem dX5_stand_64 : decode cX5_stand 64 = .ok (.iconst 1, 1) := by decide +kernel
theorem dX5_stand_65 : decode cX5_stand 65 = .ok (.if_icmp .ne 5, 3) := by decide +kernel
theorem dX5_stand_68 : decode cX5_stand 68 = .ok (.iconst 0, 1) := by decide +kernel
theorem dX5_stand_69 : decode cX5_stand 69 = .ok (.ireturn, 1) := by decide +kernel
theorem dX5_stand_70 : decode cX5_stand 70 = .ok (.iconst 0, 1) := by decide +kernel
theorem dX5_stand_71 : decode cX5_stand 71 = .ok (.istore 7, 2) := by decide +kernel
theorem dX5_stand_73 : decode cX5_stand 73 = .ok (.iload 7, 2) := by decide +kernel
theorem dX5_stand_75 : decode cX5_stand 75 = .ok (.aload_n 0, 1) := by decide +kernel
theorem dX5_stand_76 : decode cX5_stand 76 = .ok (.getfield 60, 3) := by decide +kernel
theorem dX5_stand_79 : decode cX5_stand 79 = .ok (.if_icmp .ge 54, 3) := by decide +kernel
theorem dX5_stand_82 : decode cX5_stand 82 = .ok (.iload 7, 2) := by decide +kernel
theorem dX5_stand_84 : decode cX5_stand 84 = .ok (.iload_n 1, 1) := by decide +kernel
theorem dX5_stand_85 : decode cX5_stand 85 = .ok (.if_icmp .eq 42, 3) := by decide +kernel
theorem dX5_stand_88 : decode cX5_stand 88 = .ok (.aload_n 0, 1) := by decide +kernel
theorem dX5_stand_89 : decode cX5_stand 89 = .ok (.getfield 29, 3) := by decide +kernel
theorem dX5_stand_92 : decode cX5_stand 92 = .ok (.iload 7, 2) := by decide +kernel
theorem dX5_stand_94 : decode cX5_stand 94 = .ok (.baload, 1) := by decide +kernel
theorem dX5_stand_95 : decode cX5_stand 95 = .ok (.ifCond .eq 32, 3) := by decide +kernel
theorem dX5_stand_98 : decode cX5_stand 98 = .ok (.aload_n 0, 1) := by decide +kernel
theorem dX5_stand_99 : decode cX5_stand 99 = .ok (.iload 7, 2) := by decide +kernel
theorem dX5_stand_101 : decode cX5_stand 101 = .ok (.aload_n 0, 1) := by decide +kernel
theorem dX5_stand_102 : decode cX5_stand 102 = .ok (.getfield 33, 3) := by decide +kernel
theorem dX5_stand_105 : decode cX5_stand 105 = .ok (.iload 7, 2) := by decide +kernel
theorem dX5_stand_107 : decode cX5_stand 107 = .ok (.iaload, 1) := by decide +kernel
theorem dX5_stand_108 : decode cX5_stand 108 = .ok (.aload_n 0, 1) := by decide +kernel
theorem dX5_stand_109 : decode cX5_stand 109 = .ok (.getfield 36, 3) := by decide +kernel
theorem dX5_stand_112 : decode cX5_stand 112 = .ok (.iload 7, 2) := by decide +kernel
theorem dX5_stand_114 : decode cX5_stand 114 = .ok (.iaload, 1) := by decide +kernel
theorem dX5_stand_115 : decode cX5_stand 115 = .ok (.iload 5, 2) := by decide +kernel
theorem dX5_stand_117 : decode cX5_stand 117 = .ok (.iload 6, 2) := by decide +kernel
theorem dX5_stand_119 : decode cX5_stand 119 = .ok (.invokevirtual 67, 3) := by decide +kernel
theorem dX5_stand_122 : decode cX5_stand 122 = .ok (.ifCond .eq 5, 3) := by decide +kernel
theorem dX5_stand_125 : decode cX5_stand 125 = .ok (.iconst 0, 1) := by decide +kernel
theorem dX5_stand_126 : decode cX5_stand 126 = .ok (.ireturn, 1) := by decide +kernel
theorem dX5_stand_127 : decode cX5_stand 127 = .ok (.iinc 7 1, 3) := by decide +kernel
theorem dX5_stand_130 : decode cX5_stand 130 = .ok (.goto (-57), 3) := by decide +kernel
theorem dX5_stand_133 : decode cX5_stand 133 = .ok (.iinc 4 1, 3) := by decide +kernel
theorem dX5_stand_136 : decode cX5_stand 136 = .ok (.goto (-133), 3) := by decide +kernel
theorem dX5_stand_139 : decode cX5_stand 139 = .ok (.iconst 1, 1) := by decide +kernel
theorem dX5_stand_140 : decode cX5_stand 140 = .ok (.ireturn, 1) := by decide +kernel
theorem dX5_onBoard_0 : decode cX5_onBoard 0 = .ok (.iconst 0, 1) := by decide +kernel
theorem dX5_onBoard_1 : decode cX5_onBoard 1 = .ok (.istore 4, 2) := by decide +kernel
theorem dX5_onBoard_3 : decode cX5_onBoard 3 = .ok (.iconst 0, 1) := by decide +kernel
theorem dX5_onBoard_4 : decode cX5_onBoard 4 = .ok (.istore 5, 2) := by decide +kernel
theorem dX5_onBoard_6 : decode cX5_onBoard 6 = .ok (.iload 5, 2) := by decide +kernel
theorem dX5_onBoard_8 : decode cX5_onBoard 8 = .ok (.bipush 25, 2) := by decide +kernel
theorem dX5_onBoard_10 : decode cX5_onBoard 10 = .ok (.if_icmp .ge 53, 3) := by decide +kernel
theorem dX5_onBoard_13 : decode cX5_onBoard 13 = .ok (.iload 4, 2) := by decide +kernel
theorem dX5_onBoard_15 : decode cX5_onBoard 15 = .ok (.aload_n 0, 1) := by decide +kernel
theorem dX5_onBoard_16 : decode cX5_onBoard 16 = .ok (.getfield 20, 3) := by decide +kernel
theorem dX5_onBoard_19 : decode cX5_onBoard 19 = .ok (.iload_n 1, 1) := by decide +kernel
theorem dX5_onBoard_20 : decode cX5_onBoard 20 = .ok (.iaload, 1) := by decide +kernel
theorem dX5_onBoard_21 : decode cX5_onBoard 21 = .ok (.iload 5, 2) := by decide +kernel
theorem dX5_onBoard_23 : decode cX5_onBoard 23 = .ok (.ishr, 1) := by decide +kernel
theorem dX5_onBoard_24 : decode cX5_onBoard 24 = .ok (.iconst 1, 1) := by decide +kernel
theorem dX5_onBoard_25 : decode cX5_onBoard 25 = .ok (.iand, 1) := by decide +kernel
theorem dX5_onBoard_26 : decode cX5_onBoard 26 = .ok (.iconst 1, 1) := by decide +kernel
theorem dX5_onBoard_27 : decode cX5_onBoard 27 = .ok (.if_icmp .ne 26, 3) := by decide +kernel
theorem dX5_onBoard_30 : decode cX5_onBoard 30 = .ok (.aload_n 0, 1) := by decide +kernel
theorem dX5_onBoard_31 : decode cX5_onBoard 31 = .ok (.iload_n 2, 1) := by decide +kernel
theorem dX5_onBoard_32 : decode cX5_onBoard 32 = .ok (.iload 5, 2) := by decide +kernel
theorem dX5_onBoard_34 : decode cX5_onBoard 34 = .ok (.iconst 5, 1) := by decide +kernel
theorem dX5_onBoard_35 : decode cX5_onBoard 35 = .ok (.irem, 1) := by decide +kernel
theorem dX5_onBoard_36 : decode cX5_onBoard 36 = .ok (.iadd, 1) := by decide +kernel
theorem dX5_onBoard_37 : decode cX5_onBoard 37 = .ok (.iload_n 3, 1) := by decide +kernel
theorem dX5_onBoard_38 : decode cX5_onBoard 38 = .ok (.iload 5, 2) := by decide +kernel
theorem dX5_onBoard_40 : decode cX5_onBoard 40 = .ok (.iconst 5, 1) := by decide +kernel
theorem dX5_onBoard_41 : decode cX5_onBoard 41 = .ok (.idiv, 1) := by decide +kernel
theorem dX5_onBoard_42 : decode cX5_onBoard 42 = .ok (.iadd, 1) := by decide +kernel
theorem dX5_onBoard_43 : decode cX5_onBoard 43 = .ok (.invokevirtual 73, 3) := by decide +kernel
theorem dX5_onBoard_46 : decode cX5_onBoard 46 = .ok (.ifCond .eq 7, 3) := by decide +kernel
theorem dX5_onBoard_49 : decode cX5_onBoard 49 = .ok (.iconst 1, 1) := by decide +kernel
theorem dX5_onBoard_50 : decode cX5_onBoard 50 = .ok (.goto 4, 3) := by decide +kernel
theorem dX5_onBoard_53 : decode cX5_onBoard 53 = .ok (.iconst 0, 1) := by decide +kernel
theorem dX5_onBoard_54 : decode cX5_onBoard 54 = .ok (.iadd, 1) := by decide +kernel
theorem dX5_onBoard_55 : decode cX5_onBoard 55 = .ok (.istore 4, 2) := by decide +kernel
theorem dX5_onBoard_57 : decode cX5_onBoard 57 = .ok (.iinc 5 1, 3) := by decide +kernel
theorem dX5_onBoard_60 : decode cX5_onBoard 60 = .ok (.goto (-54), 3) := by decide +kernel
theorem dX5_onBoard_63 : decode cX5_onBoard 63 = .ok (.iload 4, 2) := by decide +kernel
theorem dX5_onBoard_65 : decode cX5_onBoard 65 = .ok (.ireturn, 1) := by decide +kernel
theorem dX5_squares_0 : decode cX5_squares 0 = .ok (.iconst 0, 1) := by decide +kernel
theorem dX5_squares_1 : decode cX5_squares 1 = .ok (.istore_n 1, 1) := by decide +kernel
theorem dX5_squares_2 : decode cX5_squares 2 = .ok (.iconst 0, 1) := by decide +kernel
theorem dX5_squares_3 : decode cX5_squares 3 = .ok (.istore_n 2, 1) := by decide +kernel
theorem dX5_squares_4 : decode cX5_squares 4 = .ok (.iload_n 2, 1) := by decide +kernel
theorem dX5_squares_5 : decode cX5_squares 5 = .ok (.bipush 25, 2) := by decide +kernel
theorem dX5_squares_7 : decode cX5_squares 7 = .ok (.if_icmp .ge 17, 3) := by decide +kernel
theorem dX5_squares_10 : decode cX5_squares 10 = .ok (.iload_n 1, 1) := by decide +kernel
theorem dX5_squares_11 : decode cX5_squares 11 = .ok (.iload_n 0, 1) := by decide +kernel
theorem dX5_squares_12 : decode cX5_squares 12 = .ok (.iload_n 2, 1) := by decide +kernel
theorem dX5_squares_13 : decode cX5_squares 13 = .ok (.ishr, 1) := by decide +kernel
theorem dX5_squares_14 : decode cX5_squares 14 = .ok (.iconst 1, 1) := by decide +kernel
theorem dX5_squares_15 : decode cX5_squares 15 = .ok (.iand, 1) := by decide +kernel
theorem dX5_squares_16 : decode cX5_squares 16 = .ok (.iadd, 1) := by decide +kernel
theorem dX5_squares_17 : decode cX5_squares 17 = .ok (.istore_n 1, 1) := by decide +kernel
theorem dX5_squares_18 : decode cX5_squares 18 = .ok (.iinc 2 1, 3) := by decide +kernel
theorem dX5_squares_21 : decode cX5_squares 21 = .ok (.goto (-17), 3) := by decide +kernel
theorem dX5_squares_24 : decode cX5_squares 24 = .ok (.iload_n 1, 1) := by decide +kernel
theorem dX5_squares_25 : decode cX5_squares 25 = .ok (.ireturn, 1) := by decide +kernel
theorem dX5_about_0 : decode cX5_about 0 = .ok (.aload_n 0, 1) := by decide +kernel
theorem dX5_about_1 : decode cX5_about 1 = .ok (.iload_n 1, 1) := by decide +kernel
theorem dX5_about_2 : decode cX5_about 2 = .ok (.invokevirtual 77, 3) := by decide +kernel
theorem dX5_about_5 : decode cX5_about 5 = .ok (.ifCond .eq 13, 3) := by decide +kernel
theorem dX5_about_8 : decode cX5_about 8 = .ok (.iload_n 2, 1) := by decide +kernel
theorem dX5_about_9 : decode cX5_about 9 = .ok (.iconst 0, 1) := by decide +kernel
theorem dX5_about_10 : decode cX5_about 10 = .ok (.bipush 7, 2) := by decide +kernel
theorem dX5_about_12 : decode cX5_about 12 = .ok (.invokestatic 63, 3) := by decide +kernel
theorem dX5_about_15 : decode cX5_about 15 = .ok (.ifCond .ne 5, 3) := by decide +kernel
theorem dX5_about_18 : decode cX5_about 18 = .ok (.iconst (-1), 1) := by decide +kernel
theorem dX5_about_19 : decode cX5_about 19 = .ok (.ireturn, 1) := by decide +kernel
theorem dX5_about_20 : decode cX5_about 20 = .ok (.iload_n 2, 1) := by decide +kernel
theorem dX5_about_21 : decode cX5_about 21 = .ok (.tableswitch 131 0 6 #[43, 53, 60, 67, 88, 109, 124], 43) := by decide +kernel
theorem dX5_about_64 : decode cX5_about 64 = .ok (.aload_n 0, 1) := by decide +kernel
theorem dX5_about_65 : decode cX5_about 65 = .ok (.getfield 20, 3) := by decide +kernel
theorem dX5_about_68 : decode cX5_about 68 = .ok (.iload_n 1, 1) := by decide +kernel
theorem dX5_about_69 : decode cX5_about 69 = .ok (.iaload, 1) := by decide +kernel
theorem dX5_about_70 : decode cX5_about 70 = .ok (.invokestatic 81, 3) := by decide +kernel
theorem dX5_about_73 : decode cX5_about 73 = .ok (.ireturn, 1) := by decide +kernel
theorem dX5_about_74 : decode cX5_about 74 = .ok (.aload_n 0, 1) := by decide +kernel
theorem dX5_about_75 : decode cX5_about 75 = .ok (.getfield 23, 3) := by decide +kernel
theorem dX5_about_78 : decode cX5_about 78 = .ok (.iload_n 1, 1) := by decide +kernel
theorem dX5_about_79 : decode cX5_about 79 = .ok (.iaload, 1) := by decide +kernel
theorem dX5_about_80 : decode cX5_about 80 = .ok (.ireturn, 1) := by decide +kernel
theorem dX5_about_81 : decode cX5_about 81 = .ok (.aload_n 0, 1) := by decide +kernel
theorem dX5_about_82 : decode cX5_about 82 = .ok (.getfield 26, 3) := by decide +kernel
theorem dX5_about_85 : decode cX5_about 85 = .ok (.iload_n 1, 1) := by decide +kernel
theorem dX5_about_86 : decode cX5_about 86 = .ok (.iaload, 1) := by decide +kernel
theorem dX5_about_87 : decode cX5_about 87 = .ok (.ireturn, 1) := by decide +kernel
theorem dX5_about_88 : decode cX5_about 88 = .ok (.aload_n 0, 1) := by decide +kernel
theorem dX5_about_89 : decode cX5_about 89 = .ok (.getfield 29, 3) := by decide +kernel
theorem dX5_about_92 : decode cX5_about 92 = .ok (.iload_n 1, 1) := by decide +kernel
theorem dX5_about_93 : decode cX5_about 93 = .ok (.baload, 1) := by decide +kernel
theorem dX5_about_94 : decode cX5_about 94 = .ok (.ifCond .eq 12, 3) := by decide +kernel
theorem dX5_about_97 : decode cX5_about 97 = .ok (.aload_n 0, 1) := by decide +kernel
theorem dX5_about_98 : decode cX5_about 98 = .ok (.getfield 33, 3) := by decide +kernel
theorem dX5_about_101 : decode cX5_about 101 = .ok (.iload_n 1, 1) := by decide +kernel
theorem dX5_about_102 : decode cX5_about 102 = .ok (.iaload, 1) := by decide +kernel
theorem dX5_about_103 : decode cX5_about 103 = .ok (.goto 5, 3) := by decide +kernel
theorem dX5_about_106 : decode cX5_about 106 = .ok (.bipush (-100), 2) := by decide +kernel
theorem dX5_about_108 : decode cX5_about 108 = .ok (.ireturn, 1) := by decide +kernel
theorem dX5_about_109 : decode cX5_about 109 = .ok (.aload_n 0, 1) := by decide +kernel
theorem dX5_about_110 : decode cX5_about 110 = .ok (.getfield 29, 3) := by decide +kernel
theorem dX5_about_113 : decode cX5_about 113 = .ok (.iload_n 1, 1) := by decide +kernel
theorem dX5_about_114 : decode cX5_about 114 = .ok (.baload, 1) := by decide +kernel
theorem dX5_about_115 : decode cX5_about 115 = .ok (.ifCond .eq 12, 3) := by decide +kernel
theorem dX5_about_118 : decode cX5_about 118 = .ok (.aload_n 0, 1) := by decide +kernel
theorem dX5_about_119 : decode cX5_about 119 = .ok (.getfield 36, 3) := by decide +kernel
theorem dX5_about_122 : decode cX5_about 122 = .ok (.iload_n 1, 1) := by decide +kernel
theorem dX5_about_123 : decode cX5_about 123 = .ok (.iaload, 1) := by decide +kernel
theorem dX5_about_124 : decode cX5_about 124 = .ok (.goto 5, 3) := by decide +kernel
theorem dX5_about_127 : decode cX5_about 127 = .ok (.bipush (-100), 2) := by decide +kernel
theorem dX5_about_129 : decode cX5_about 129 = .ok (.ireturn, 1) := by decide +kernel
theorem dX5_about_130 : decode cX5_about 130 = .ok (.aload_n 0, 1) := by decide +kernel
theorem dX5_about_131 : decode cX5_about 131 = .ok (.getfield 29, 3) := by decide +kernel
theorem dX5_about_134 : decode cX5_about 134 = .ok (.iload_n 1, 1) := by decide +kernel
theorem dX5_about_135 : decode cX5_about 135 = .ok (.baload, 1) := by decide +kernel
theorem dX5_about_136 : decode cX5_about 136 = .ok (.ifCond .eq 7, 3) := by decide +kernel
theorem dX5_about_139 : decode cX5_about 139 = .ok (.iconst 1, 1) := by decide +kernel
theorem dX5_about_140 : decode cX5_about 140 = .ok (.goto 4, 3) := by decide +kernel
theorem dX5_about_143 : decode cX5_about 143 = .ok (.iconst 0, 1) := by decide +kernel
theorem dX5_about_144 : decode cX5_about 144 = .ok (.ireturn, 1) := by decide +kernel
theorem dX5_about_145 : decode cX5_about 145 = .ok (.aload_n 0, 1) := by decide +kernel
theorem dX5_about_146 : decode cX5_about 146 = .ok (.getfield 20, 3) := by decide +kernel
theorem dX5_about_149 : decode cX5_about 149 = .ok (.iload_n 1, 1) := by decide +kernel
theorem dX5_about_150 : decode cX5_about 150 = .ok (.iaload, 1) := by decide +kernel
theorem dX5_about_151 : decode cX5_about 151 = .ok (.ireturn, 1) := by decide +kernel
theorem dX5_about_152 : decode cX5_about 152 = .ok (.aload_n 0, 1) := by decide +kernel
theorem dX5_about_153 : decode cX5_about 153 = .ok (.getfield 29, 3) := by decide +kernel
theorem dX5_about_156 : decode cX5_about 156 = .ok (.iload_n 1, 1) := by decide +kernel
theorem dX5_about_157 : decode cX5_about 157 = .ok (.baload, 1) := by decide +kernel
theorem dX5_about_158 : decode cX5_about 158 = .ok (.ifCond .eq 27, 3) := by decide +kernel
theorem dX5_about_161 : decode cX5_about 161 = .ok (.aload_n 0, 1) := by decide +kernel
theorem dX5_about_162 : decode cX5_about 162 = .ok (.iload_n 1, 1) := by decide +kernel
theorem dX5_about_163 : decode cX5_about 163 = .ok (.aload_n 0, 1) := by decide +kernel
theorem dX5_about_164 : decode cX5_about 164 = .ok (.getfield 33, 3) := by decide +kernel
theorem dX5_about_167 : decode cX5_about 167 = .ok (.iload_n 1, 1) := by decide +kernel
theorem dX5_about_168 : decode cX5_about 168 = .ok (.iaload, 1) := by decide +kernel
theorem dX5_about_169 : decode cX5_about 169 = .ok (.aload_n 0, 1) := by decide +kernel
theorem dX5_about_170 : decode cX5_about 170 = .ok (.getfield 36, 3) := by decide +kernel
theorem dX5_about_173 : decode cX5_about 173 = .ok (.iload_n 1, 1) := by decide +kernel
theorem dX5_about_174 : decode cX5_about 174 = .ok (.iaload, 1) := by decide +kernel
theorem dX5_about_175 : decode cX5_about 175 = .ok (.invokevirtual 85, 3) := by decide +kernel
theorem dX5_about_178 : decode cX5_about 178 = .ok (.ifCond .ne 7, 3) := by decide +kernel
theorem dX5_about_181 : decode cX5_about 181 = .ok (.iconst 1, 1) := by decide +kernel
theorem dX5_about_182 : decode cX5_about 182 = .ok (.goto 4, 3) := by decide +kernel
theorem dX5_about_185 : decode cX5_about 185 = .ok (.iconst 0, 1) := by decide +kernel
theorem dX5_about_186 : decode cX5_about 186 = .ok (.ireturn, 1) := by decide +kernel
theorem dX5_put_0 : decode cX5_put 0 = .ok (.aload_n 0, 1) := by decide +kernel
theorem dX5_put_1 : decode cX5_put 1 = .ok (.iload_n 1, 1) := by decide +kernel
theorem dX5_put_2 : decode cX5_put 2 = .ok (.invokevirtual 77, 3) := by decide +kernel
theorem dX5_put_5 : decode cX5_put 5 = .ok (.ifCond .eq 11, 3) := by decide +kernel
theorem dX5_put_8 : decode cX5_put 8 = .ok (.iload_n 2, 1) := by decide +kernel
theorem dX5_put_9 : decode cX5_put 9 = .ok (.iload_n 3, 1) := by decide +kernel
theorem dX5_put_10 : decode cX5_put 10 = .ok (.invokestatic 89, 3) := by decide +kernel
theorem dX5_put_13 : decode cX5_put 13 = .ok (.ifCond .ne 5, 3) := by decide +kernel
theorem dX5_put_16 : decode cX5_put 16 = .ok (.iconst (-1), 1) := by decide +kernel
theorem dX5_put_17 : decode cX5_put 17 = .ok (.ireturn, 1) := by decide +kernel
theorem dX5_put_18 : decode cX5_put 18 = .ok (.aload_n 0, 1) := by decide +kernel
theorem dX5_put_19 : decode cX5_put 19 = .ok (.iload_n 1, 1) := by decide +kernel
theorem dX5_put_20 : decode cX5_put 20 = .ok (.iload_n 2, 1) := by decide +kernel
theorem dX5_put_21 : decode cX5_put 21 = .ok (.iload_n 3, 1) := by decide +kernel
theorem dX5_put_22 : decode cX5_put 22 = .ok (.invokevirtual 92, 3) := by decide +kernel
theorem dX5_put_25 : decode cX5_put 25 = .ok (.ifCond .ne 6, 3) := by decide +kernel
theorem dX5_put_28 : decode cX5_put 28 = .ok (.bipush (-2), 2) := by decide +kernel
theorem dX5_put_30 : decode cX5_put 30 = .ok (.ireturn, 1) := by decide +kernel
theorem dX5_put_31 : decode cX5_put 31 = .ok (.aload_n 0, 1) := by decide +kernel
theorem dX5_put_32 : decode cX5_put 32 = .ok (.getfield 29, 3) := by decide +kernel
theorem dX5_put_35 : decode cX5_put 35 = .ok (.iload_n 1, 1) := by decide +kernel
theorem dX5_put_36 : decode cX5_put 36 = .ok (.iconst 1, 1) := by decide +kernel
theorem dX5_put_37 : decode cX5_put 37 = .ok (.bastore, 1) := by decide +kernel
theorem dX5_put_38 : decode cX5_put 38 = .ok (.aload_n 0, 1) := by decide +kernel
theorem dX5_put_39 : decode cX5_put 39 = .ok (.getfield 33, 3) := by decide +kernel
theorem dX5_put_42 : decode cX5_put 42 = .ok (.iload_n 1, 1) := by decide +kernel
theorem dX5_put_43 : decode cX5_put 43 = .ok (.iload_n 2, 1) := by decide +kernel
theorem dX5_put_44 : decode cX5_put 44 = .ok (.iastore, 1) := by decide +kernel
theorem dX5_put_45 : decode cX5_put 45 = .ok (.aload_n 0, 1) := by decide +kernel
theorem dX5_put_46 : decode cX5_put 46 = .ok (.getfield 36, 3) := by decide +kernel
theorem dX5_put_49 : decode cX5_put 49 = .ok (.iload_n 1, 1) := by decide +kernel
theorem dX5_put_50 : decode cX5_put 50 = .ok (.iload_n 3, 1) := by decide +kernel
theorem dX5_put_51 : decode cX5_put 51 = .ok (.iastore, 1) := by decide +kernel
theorem dX5_put_52 : decode cX5_put 52 = .ok (.iconst 1, 1) := by decide +kernel
theorem dX5_put_53 : decode cX5_put 53 = .ok (.ireturn, 1) := by decide +kernel
theorem dX5_away_0 : decode cX5_away 0 = .ok (.aload_n 0, 1) := by decide +kernel
theorem dX5_away_1 : decode cX5_away 1 = .ok (.iload_n 1, 1) := by decide +kernel
theorem dX5_away_2 : decode cX5_away 2 = .ok (.invokevirtual 77, 3) := by decide +kernel
theorem dX5_away_5 : decode cX5_away 5 = .ok (.ifCond .ne 5, 3) := by decide +kernel
theorem dX5_away_8 : decode cX5_away 8 = .ok (.iconst (-1), 1) := by decide +kernel
theorem dX5_away_9 : decode cX5_away 9 = .ok (.ireturn, 1) := by decide +kernel
theorem dX5_away_10 : decode cX5_away 10 = .ok (.aload_n 0, 1) := by decide +kernel
theorem dX5_away_11 : decode cX5_away 11 = .ok (.getfield 29, 3) := by decide +kernel
theorem dX5_away_14 : decode cX5_away 14 = .ok (.iload_n 1, 1) := by decide +kernel
theorem dX5_away_15 : decode cX5_away 15 = .ok (.baload, 1) := by decide +kernel
theorem dX5_away_16 : decode cX5_away 16 = .ok (.ifCond .eq 7, 3) := by decide +kernel
theorem dX5_away_19 : decode cX5_away 19 = .ok (.iconst 1, 1) := by decide +kernel
theorem dX5_away_20 : decode cX5_away 20 = .ok (.goto 4, 3) := by decide +kernel
theorem dX5_away_23 : decode cX5_away 23 = .ok (.iconst 0, 1) := by decide +kernel
theorem dX5_away_24 : decode cX5_away 24 = .ok (.istore_n 2, 1) := by decide +kernel
theorem dX5_away_25 : decode cX5_away 25 = .ok (.aload_n 0, 1) := by decide +kernel
theorem dX5_away_26 : decode cX5_away 26 = .ok (.getfield 29, 3) := by decide +kernel
theorem dX5_away_29 : decode cX5_away 29 = .ok (.iload_n 1, 1) := by decide +kernel
theorem dX5_away_30 : decode cX5_away 30 = .ok (.iconst 0, 1) := by decide +kernel
theorem dX5_away_31 : decode cX5_away 31 = .ok (.bastore, 1) := by decide +kernel
theorem dX5_away_32 : decode cX5_away 32 = .ok (.iload_n 2, 1) := by decide +kernel
theorem dX5_away_33 : decode cX5_away 33 = .ok (.ireturn, 1) := by decide +kernel
theorem dX5_stands_0 : decode cX5_stands 0 = .ok (.aload_n 0, 1) := by decide +kernel
theorem dX5_stands_1 : decode cX5_stands 1 = .ok (.iload_n 1, 1) := by decide +kernel
theorem dX5_stands_2 : decode cX5_stands 2 = .ok (.invokevirtual 77, 3) := by decide +kernel
theorem dX5_stands_5 : decode cX5_stands 5 = .ok (.ifCond .eq 11, 3) := by decide +kernel
theorem dX5_stands_8 : decode cX5_stands 8 = .ok (.iload_n 2, 1) := by decide +kernel
theorem dX5_stands_9 : decode cX5_stands 9 = .ok (.iload_n 3, 1) := by decide +kernel
theorem dX5_stands_10 : decode cX5_stands 10 = .ok (.invokestatic 89, 3) := by decide +kernel
theorem dX5_stands_13 : decode cX5_stands 13 = .ok (.ifCond .ne 7, 3) := by decide +kernel
theorem dX5_stands_16 : decode cX5_stands 16 = .ok (.iconst (-1), 1) := by decide +kernel
theorem dX5_stands_17 : decode cX5_stands 17 = .ok (.goto 18, 3) := by decide +kernel
theorem dX5_stands_20 : decode cX5_stands 20 = .ok (.aload_n 0, 1) := by decide +kernel
theorem dX5_stands_21 : decode cX5_stands 21 = .ok (.iload_n 1, 1) := by decide +kernel
theorem dX5_stands_22 : decode cX5_stands 22 = .ok (.iload_n 2, 1) := by decide +kernel
theorem dX5_stands_23 : decode cX5_stands 23 = .ok (.iload_n 3, 1) := by decide +kernel
theorem dX5_stands_24 : decode cX5_stands 24 = .ok (.invokevirtual 92, 3) := by decide +kernel
theorem dX5_stands_27 : decode cX5_stands 27 = .ok (.ifCond .eq 7, 3) := by decide +kernel
theorem dX5_stands_30 : decode cX5_stands 30 = .ok (.iconst 1, 1) := by decide +kernel
theorem dX5_stands_31 : decode cX5_stands 31 = .ok (.goto 4, 3) := by decide +kernel
theorem dX5_stands_34 : decode cX5_stands 34 = .ok (.iconst 0, 1) := by decide +kernel
theorem dX5_stands_35 : decode cX5_stands 35 = .ok (.ireturn, 1) := by decide +kernel
theorem dX5_dx_0 : decode cX5_dx 0 = .ok (.iload_n 0, 1) := by decide +kernel
theorem dX5_dx_1 : decode cX5_dx 1 = .ok (.ifCond .ne 7, 3) := by decide +kernel
theorem dX5_dx_4 : decode cX5_dx 4 = .ok (.iconst 1, 1) := by decide +kernel
theorem dX5_dx_5 : decode cX5_dx 5 = .ok (.goto 13, 3) := by decide +kernel
theorem dX5_dx_8 : decode cX5_dx 8 = .ok (.iload_n 0, 1) := by decide +kernel
theorem dX5_dx_9 : decode cX5_dx 9 = .ok (.iconst 2, 1) := by decide +kernel
theorem dX5_dx_10 : decode cX5_dx 10 = .ok (.if_icmp .ne 7, 3) := by decide +kernel
theorem dX5_dx_13 : decode cX5_dx 13 = .ok (.iconst (-1), 1) := by decide +kernel
theorem dX5_dx_14 : decode cX5_dx 14 = .ok (.goto 4, 3) := by decide +kernel
theorem dX5_dx_17 : decode cX5_dx 17 = .ok (.iconst 0, 1) := by decide +kernel
theorem dX5_dx_18 : decode cX5_dx 18 = .ok (.ireturn, 1) := by decide +kernel
theorem dX5_dy_0 : decode cX5_dy 0 = .ok (.iload_n 0, 1) := by decide +kernel
theorem dX5_dy_1 : decode cX5_dy 1 = .ok (.iconst 1, 1) := by decide +kernel
theorem dX5_dy_2 : decode cX5_dy 2 = .ok (.if_icmp .ne 7, 3) := by decide +kernel
theorem dX5_dy_5 : decode cX5_dy 5 = .ok (.iconst 1, 1) := by decide +kernel
theorem dX5_dy_6 : decode cX5_dy 6 = .ok (.goto 13, 3) := by decide +kernel
theorem dX5_dy_9 : decode cX5_dy 9 = .ok (.iload_n 0, 1) := by decide +kernel
theorem dX5_dy_10 : decode cX5_dy 10 = .ok (.iconst 3, 1) := by decide +kernel
theorem dX5_dy_11 : decode cX5_dy 11 = .ok (.if_icmp .ne 7, 3) := by decide +kernel
theorem dX5_dy_14 : decode cX5_dy 14 = .ok (.iconst (-1), 1) := by decide +kernel
theorem dX5_dy_15 : decode cX5_dy 15 = .ok (.goto 4, 3) := by decide +kernel
theorem dX5_dy_18 : decode cX5_dy 18 = .ok (.iconst 0, 1) := by decide +kernel
theorem dX5_dy_19 : decode cX5_dy 19 = .ok (.ireturn, 1) := by decide +kernel
theorem dX5_slide_0 : decode cX5_slide 0 = .ok (.aload_n 0, 1) := by decide +kernel
theorem dX5_slide_1 : decode cX5_slide 1 = .ok (.iload_n 1, 1) := by decide +kernel
theorem dX5_slide_2 : decode cX5_slide 2 = .ok (.invokevirtual 77, 3) := by decide +kernel
theorem dX5_slide_5 : decode cX5_slide 5 = .ok (.ifCond .eq 22, 3) := by decide +kernel
theorem dX5_slide_8 : decode cX5_slide 8 = .ok (.iload_n 2, 1) := by decide +kernel
theorem dX5_slide_9 : decode cX5_slide 9 = .ok (.iconst 0, 1) := by decide +kernel
theorem dX5_slide_10 : decode cX5_slide 10 = .ok (.iconst 3, 1) := by decide +kernel
theorem dX5_slide_11 : decode cX5_slide 11 = .ok (.invokestatic 63, 3) := by decide +kernel
theorem dX5_slide_14 : decode cX5_slide 14 = .ok (.ifCond .eq 13, 3) := by decide +kernel
theorem dX5_slide_17 : decode cX5_slide 17 = .ok (.iload_n 3, 1) := by decide +kernel
theorem dX5_slide_18 : decode cX5_slide 18 = .ok (.iconst 1, 1) := by decide +kernel
theorem dX5_slide_19 : decode cX5_slide 19 = .ok (.bipush 20, 2) := by decide +kernel
theorem dX5_slide_21 : decode cX5_slide 21 = .ok (.invokestatic 63, 3) := by decide +kernel
theorem dX5_slide_24 : decode cX5_slide 24 = .ok (.ifCond .ne 5, 3) := by decide +kernel
theorem dX5_slide_27 : decode cX5_slide 27 = .ok (.iconst (-1), 1) := by decide +kernel
theorem dX5_slide_28 : decode cX5_slide 28 = .ok (.ireturn, 1) := by decide +kernel
theorem dX5_slide_29 : decode cX5_slide 29 = .ok (.aload_n 0, 1) := by decide +kernel
theorem dX5_slide_30 : decode cX5_slide 30 = .ok (.getfield 29, 3) := by decide +kernel
theorem dX5_slide_33 : decode cX5_slide 33 = .ok (.iload_n 1, 1) := by decide +kernel
theorem dX5_slide_34 : decode cX5_slide 34 = .ok (.baload, 1) := by decide +kernel
theorem dX5_slide_35 : decode cX5_slide 35 = .ok (.ifCond .ne 6, 3) := by decide +kernel
theorem dX5_slide_38 : decode cX5_slide 38 = .ok (.bipush (-2), 2) := by decide +kernel
theorem dX5_slide_40 : decode cX5_slide 40 = .ok (.ireturn, 1) := by decide +kernel
theorem dX5_slide_41 : decode cX5_slide 41 = .ok (.iconst 0, 1) := by decide +kernel
theorem dX5_slide_42 : decode cX5_slide 42 = .ok (.istore 4, 2) := by decide +kernel
theorem dX5_slide_44 : decode cX5_slide 44 = .ok (.iconst 1, 1) := by decide +kernel
theorem dX5_slide_45 : decode cX5_slide 45 = .ok (.istore 5, 2) := by decide +kernel
theorem dX5_slide_47 : decode cX5_slide 47 = .ok (.iload 5, 2) := by decide +kernel
theorem dX5_slide_49 : decode cX5_slide 49 = .ok (.ifCond .eq 91, 3) := by decide +kernel
theorem dX5_slide_52 : decode cX5_slide 52 = .ok (.iload 4, 2) := by decide +kernel
theorem dX5_slide_54 : decode cX5_slide 54 = .ok (.iload_n 3, 1) := by decide +kernel
theorem dX5_slide_55 : decode cX5_slide 55 = .ok (.if_icmp .ge 85, 3) := by decide +kernel
theorem dX5_slide_58 : decode cX5_slide 58 = .ok (.aload_n 0, 1) := by decide +kernel
theorem dX5_slide_59 : decode cX5_slide 59 = .ok (.getfield 33, 3) := by decide +kernel
theorem dX5_slide_62 : decode cX5_slide 62 = .ok (.iload_n 1, 1) := by decide +kernel
theorem dX5_slide_63 : decode cX5_slide 63 = .ok (.iaload, 1) := by decide +kernel
theorem dX5_slide_64 : decode cX5_slide 64 = .ok (.iload_n 2, 1) := by decide +kernel
theorem dX5_slide_65 : decode cX5_slide 65 = .ok (.invokestatic 95, 3) := by decide +kernel
theorem dX5_slide_68 : decode cX5_slide 68 = .ok (.iadd, 1) := by decide +kernel
theorem dX5_slide_69 : decode cX5_slide 69 = .ok (.istore 6, 2) := by decide +kernel
theorem dX5_slide_71 : decode cX5_slide 71 = .ok (.aload_n 0, 1) := by decide +kernel
theorem dX5_slide_72 : decode cX5_slide 72 = .ok (.getfield 36, 3) := by decide +kernel
theorem dX5_slide_75 : decode cX5_slide 75 = .ok (.iload_n 1, 1) := by decide +kernel
theorem dX5_slide_76 : decode cX5_slide 76 = .ok (.iaload, 1) := by decide +kernel
theorem dX5_slide_77 : decode cX5_slide 77 = .ok (.iload_n 2, 1) := by decide +kernel
theorem dX5_slide_78 : decode cX5_slide 78 = .ok (.invokestatic 98, 3) := by decide +kernel
theorem dX5_slide_81 : decode cX5_slide 81 = .ok (.iadd, 1) := by decide +kernel
theorem dX5_slide_82 : decode cX5_slide 82 = .ok (.istore 7, 2) := by decide +kernel
theorem dX5_slide_84 : decode cX5_slide 84 = .ok (.iload 6, 2) := by decide +kernel
theorem dX5_slide_86 : decode cX5_slide 86 = .ok (.iload 7, 2) := by decide +kernel
theorem dX5_slide_88 : decode cX5_slide 88 = .ok (.invokestatic 89, 3) := by decide +kernel
theorem dX5_slide_91 : decode cX5_slide 91 = .ok (.ifCond .eq 19, 3) := by decide +kernel
theorem dX5_slide_94 : decode cX5_slide 94 = .ok (.aload_n 0, 1) := by decide +kernel
theorem dX5_slide_95 : decode cX5_slide 95 = .ok (.iload_n 1, 1) := by decide +kernel
theorem dX5_slide_96 : decode cX5_slide 96 = .ok (.iload 6, 2) := by decide +kernel
theorem dX5_slide_98 : decode cX5_slide 98 = .ok (.iload 7, 2) := by decide +kernel
theorem dX5_slide_100 : decode cX5_slide 100 = .ok (.invokevirtual 92, 3) := by decide +kernel
theorem dX5_slide_103 : decode cX5_slide 103 = .ok (.ifCond .eq 7, 3) := by decide +kernel
theorem dX5_slide_106 : decode cX5_slide 106 = .ok (.iconst 1, 1) := by decide +kernel
theorem dX5_slide_107 : decode cX5_slide 107 = .ok (.goto 4, 3) := by decide +kernel
theorem dX5_slide_110 : decode cX5_slide 110 = .ok (.iconst 0, 1) := by decide +kernel
theorem dX5_slide_111 : decode cX5_slide 111 = .ok (.istore 5, 2) := by decide +kernel
theorem dX5_slide_113 : decode cX5_slide 113 = .ok (.iload 5, 2) := by decide +kernel
theorem dX5_slide_115 : decode cX5_slide 115 = .ok (.ifCond .eq 22, 3) := by decide +kernel
theorem dX5_slide_118 : decode cX5_slide 118 = .ok (.aload_n 0, 1) := by decide +kernel
theorem dX5_slide_119 : decode cX5_slide 119 = .ok (.getfield 33, 3) := by decide +kernel
theorem dX5_slide_122 : decode cX5_slide 122 = .ok (.iload_n 1, 1) := by decide +kernel
theorem dX5_slide_123 : decode cX5_slide 123 = .ok (.iload 6, 2) := by decide +kernel
theorem dX5_slide_125 : decode cX5_slide 125 = .ok (.iastore, 1) := by decide +kernel
theorem dX5_slide_126 : decode cX5_slide 126 = .ok (.aload_n 0, 1) := by decide +kernel
theorem dX5_slide_127 : decode cX5_slide 127 = .ok (.getfield 36, 3) := by decide +kernel
theorem dX5_slide_130 : decode cX5_slide 130 = .ok (.iload_n 1, 1) := by decide +kernel
theorem dX5_slide_131 : decode cX5_slide 131 = .ok (.iload 7, 2) := by decide +kernel
theorem dX5_slide_133 : decode cX5_slide 133 = .ok (.iastore, 1) := by decide +kernel
theorem dX5_slide_134 : decode cX5_slide 134 = .ok (.iinc 4 1, 3) := by decide +kernel
theorem dX5_slide_137 : decode cX5_slide 137 = .ok (.goto (-90), 3) := by decide +kernel
theorem dX5_slide_140 : decode cX5_slide 140 = .ok (.iload 4, 2) := by decide +kernel
theorem dX5_slide_142 : decode cX5_slide 142 = .ok (.ireturn, 1) := by decide +kernel
theorem dX5_spot_0 : decode cX5_spot 0 = .ok (.bipush 20, 2) := by decide +kernel
theorem dX5_spot_2 : decode cX5_spot 2 = .ok (.iload_n 1, 1) := by decide +kernel
theorem dX5_spot_3 : decode cX5_spot 3 = .ok (.bipush 6, 2) := by decide +kernel
theorem dX5_spot_5 : decode cX5_spot 5 = .ok (.iadd, 1) := by decide +kernel
theorem dX5_spot_6 : decode cX5_spot 6 = .ok (.imul, 1) := by decide +kernel
theorem dX5_spot_7 : decode cX5_spot 7 = .ok (.iload_n 0, 1) := by decide +kernel
theorem dX5_spot_8 : decode cX5_spot 8 = .ok (.iadd, 1) := by decide +kernel
theorem dX5_spot_9 : decode cX5_spot 9 = .ok (.bipush 6, 2) := by decide +kernel
theorem dX5_spot_11 : decode cX5_spot 11 = .ok (.iadd, 1) := by decide +kernel
theorem dX5_spot_12 : decode cX5_spot 12 = .ok (.ireturn, 1) := by decide +kernel
theorem dX5_lays_0 : decode cX5_lays 0 = .ok (.iconst 0, 1) := by decide +kernel
theorem dX5_lays_1 : decode cX5_lays 1 = .ok (.istore_n 2, 1) := by decide +kernel
theorem dX5_lays_2 : decode cX5_lays 2 = .ok (.iload_n 2, 1) := by decide +kernel
theorem dX5_lays_3 : decode cX5_lays 3 = .ok (.sipush 400, 3) := by decide +kernel
theorem dX5_lays_6 : decode cX5_lays 6 = .ok (.if_icmp .ge 43, 3) := by decide +kernel
theorem dX5_lays_9 : decode cX5_lays 9 = .ok (.aload_n 0, 1) := by decide +kernel
theorem dX5_lays_10 : decode cX5_lays 10 = .ok (.getfield 45, 3) := by decide +kernel
theorem dX5_lays_13 : decode cX5_lays 13 = .ok (.iload_n 2, 1) := by decide +kernel
theorem dX5_lays_14 : decode cX5_lays 14 = .ok (.aload_n 0, 1) := by decide +kernel
theorem dX5_lays_15 : decode cX5_lays 15 = .ok (.iload_n 1, 1) := by decide +kernel
theorem dX5_lays_16 : decode cX5_lays 16 = .ok (.iload_n 2, 1) := by decide +kernel
theorem dX5_lays_17 : decode cX5_lays 17 = .ok (.bipush 20, 2) := by decide +kernel
theorem dX5_lays_19 : decode cX5_lays 19 = .ok (.irem, 1) := by decide +kernel
theorem dX5_lays_20 : decode cX5_lays 20 = .ok (.bipush 6, 2) := by decide +kernel
theorem dX5_lays_22 : decode cX5_lays 22 = .ok (.isub, 1) := by decide +kernel
theorem dX5_lays_23 : decode cX5_lays 23 = .ok (.iload_n 2, 1) := by decide +kernel
theorem dX5_lays_24 : decode cX5_lays 24 = .ok (.bipush 20, 2) := by decide +kernel
theorem dX5_lays_26 : decode cX5_lays 26 = .ok (.idiv, 1) := by decide +kernel
theorem dX5_lays_27 : decode cX5_lays 27 = .ok (.bipush 6, 2) := by decide +kernel
theorem dX5_lays_29 : decode cX5_lays 29 = .ok (.isub, 1) := by decide +kernel
theorem dX5_lays_30 : decode cX5_lays 30 = .ok (.invokevirtual 92, 3) := by decide +kernel
theorem dX5_lays_33 : decode cX5_lays 33 = .ok (.ifCond .eq 8, 3) := by decide +kernel
theorem dX5_lays_36 : decode cX5_lays 36 = .ok (.bipush (-2), 2) := by decide +kernel
theorem dX5_lays_38 : decode cX5_lays 38 = .ok (.goto 4, 3) := by decide +kernel
theorem dX5_lays_41 : decode cX5_lays 41 = .ok (.iconst (-1), 1) := by decide +kernel
theorem dX5_lays_42 : decode cX5_lays 42 = .ok (.iastore, 1) := by decide +kernel
theorem dX5_lays_43 : decode cX5_lays 43 = .ok (.iinc 2 1, 3) := by decide +kernel
theorem dX5_lays_46 : decode cX5_lays 46 = .ok (.goto (-44), 3) := by decide +kernel
theorem dX5_lays_49 : decode cX5_lays 49 = .ok (.return_, 1) := by decide +kernel
theorem dX5_spreads_0 : decode cX5_spreads 0 = .ok (.iconst 1, 1) := by decide +kernel
theorem dX5_spreads_1 : decode cX5_spreads 1 = .ok (.istore_n 2, 1) := by decide +kernel
theorem dX5_spreads_2 : decode cX5_spreads 2 = .ok (.aload_n 0, 1) := by decide +kernel
theorem dX5_spreads_3 : decode cX5_spreads 3 = .ok (.getfield 48, 3) := by decide +kernel
theorem dX5_spreads_6 : decode cX5_spreads 6 = .ok (.iconst 0, 1) := by decide +kernel
theorem dX5_spreads_7 : decode cX5_spreads 7 = .ok (.iload_n 1, 1) := by decide +kernel
theorem dX5_spreads_8 : decode cX5_spreads 8 = .ok (.iastore, 1) := by decide +kernel
theorem dX5_spreads_9 : decode cX5_spreads 9 = .ok (.aload_n 0, 1) := by decide +kernel
theorem dX5_spreads_10 : decode cX5_spreads 10 = .ok (.getfield 45, 3) := by decide +kernel
theorem dX5_spreads_13 : decode cX5_spreads 13 = .ok (.iload_n 1, 1) := by decide +kernel
theorem dX5_spreads_14 : decode cX5_spreads 14 = .ok (.iconst 0, 1) := by decide +kernel
theorem dX5_spreads_15 : decode cX5_spreads 15 = .ok (.iastore, 1) := by decide +kernel
theorem dX5_spreads_16 : decode cX5_spreads 16 = .ok (.iconst 0, 1) := by decide +kernel
theorem dX5_spreads_17 : decode cX5_spreads 17 = .ok (.istore_n 3, 1) := by decide +kernel
theorem dX5_spreads_18 : decode cX5_spreads 18 = .ok (.iload_n 3, 1) := by decide +kernel
theorem dX5_spreads_19 : decode cX5_spreads 19 = .ok (.iload_n 2, 1) := by decide +kernel
theorem dX5_spreads_20 : decode cX5_spreads 20 = .ok (.if_icmp .ge 128, 3) := by decide +kernel
theorem dX5_spreads_23 : decode cX5_spreads 23 = .ok (.aload_n 0, 1) := by decide +kernel
theorem dX5_spreads_24 : decode cX5_spreads 24 = .ok (.getfield 48, 3) := by decide +kernel
theorem dX5_spreads_27 : decode cX5_spreads 27 = .ok (.iload_n 3, 1) := by decide +kernel
theorem dX5_spreads_28 : decode cX5_spreads 28 = .ok (.iaload, 1) := by decide +kernel
theorem dX5_spreads_29 : decode cX5_spreads 29 = .ok (.istore 4, 2) := by decide +kernel
theorem dX5_spreads_31 : decode cX5_spreads 31 = .ok (.iconst 0, 1) := by decide +kernel
theorem dX5_spreads_32 : decode cX5_spreads 32 = .ok (.istore 5, 2) := by decide +kernel
theorem dX5_spreads_34 : decode cX5_spreads 34 = .ok (.iload 5, 2) := by decide +kernel
theorem dX5_spreads_36 : decode cX5_spreads 36 = .ok (.iconst 4, 1) := by decide +kernel
theorem dX5_spreads_37 : decode cX5_spreads 37 = .ok (.if_icmp .ge 105, 3) := by decide +kernel
theorem dX5_spreads_40 : decode cX5_spreads 40 = .ok (.iload 4, 2) := by decide +kernel
theorem dX5_spreads_42 : decode cX5_spreads 42 = .ok (.bipush 20, 2) := by decide +kernel
theorem dX5_spreads_44 : decode cX5_spreads 44 = .ok (.irem, 1) := by decide +kernel
theorem dX5_spreads_45 : decode cX5_spreads 45 = .ok (.bipush 6, 2) := by decide +kernel
theorem dX5_spreads_47 : decode cX5_spreads 47 = .ok (.isub, 1) := by decide +kernel
theorem dX5_spreads_48 : decode cX5_spreads 48 = .ok (.iload 5, 2) := by decide +kernel
theorem dX5_spreads_50 : decode cX5_spreads 50 = .ok (.invokestatic 95, 3) := by decide +kernel
theorem dX5_spreads_53 : decode cX5_spreads 53 = .ok (.iadd, 1) := by decide +kernel
theorem dX5_spreads_54 : decode cX5_spreads 54 = .ok (.istore 6, 2) := by decide +kernel
theorem dX5_spreads_56 : decode cX5_spreads 56 = .ok (.iload 4, 2) := by decide +kernel
theorem dX5_spreads_58 : decode cX5_spreads 58 = .ok (.bipush 20, 2) := by decide +kernel
theorem dX5_spreads_60 : decode cX5_spreads 60 = .ok (.idiv, 1) := by decide +kernel
theorem dX5_spreads_61 : decode cX5_spreads 61 = .ok (.bipush 6, 2) := by decide +kernel
theorem dX5_spreads_63 : decode cX5_spreads 63 = .ok (.isub, 1) := by decide +kernel
theorem dX5_spreads_64 : decode cX5_spreads 64 = .ok (.iload 5, 2) := by decide +kernel
theorem dX5_spreads_66 : decode cX5_spreads 66 = .ok (.invokestatic 98, 3) := by decide +kernel
theorem dX5_spreads_69 : decode cX5_spreads 69 = .ok (.iadd, 1) := by decide +kernel
theorem dX5_spreads_70 : decode cX5_spreads 70 = .ok (.istore 7, 2) := by decide +kernel
theorem dX5_spreads_72 : decode cX5_spreads 72 = .ok (.iload 6, 2) := by decide +kernel
theorem dX5_spreads_74 : decode cX5_spreads 74 = .ok (.iload 7, 2) := by decide +kernel
theorem dX5_spreads_76 : decode cX5_spreads 76 = .ok (.invokestatic 89, 3) := by decide +kernel
theorem dX5_spreads_79 : decode cX5_spreads 79 = .ok (.ifCond .eq 57, 3) := by decide +kernel
theorem dX5_spreads_82 : decode cX5_spreads 82 = .ok (.aload_n 0, 1) := by decide +kernel
theorem dX5_spreads_83 : decode cX5_spreads 83 = .ok (.getfield 45, 3) := by decide +kernel
theorem dX5_spreads_86 : decode cX5_spreads 86 = .ok (.iload 6, 2) := by decide +kernel
theorem dX5_spreads_88 : decode cX5_spreads 88 = .ok (.iload 7, 2) := by decide +kernel
theorem dX5_spreads_90 : decode cX5_spreads 90 = .ok (.invokestatic 101, 3) := by decide +kernel
theorem dX5_spreads_93 : decode cX5_spreads 93 = .ok (.iaload, 1) := by decide +kernel
theorem dX5_spreads_94 : decode cX5_spreads 94 = .ok (.bipush (-2), 2) := by decide +kernel
theorem dX5_spreads_96 : decode cX5_spreads 96 = .ok (.if_icmp .ne 40, 3) := by decide +kernel
theorem dX5_spreads_99 : decode cX5_spreads 99 = .ok (.aload_n 0, 1) := by decide +kernel
theorem dX5_spreads_100 : decode cX5_spreads 100 = .ok (.getfield 45, 3) := by decide +kernel
theorem dX5_spreads_103 : decode cX5_spreads 103 = .ok (.iload 6, 2) := by decide +kernel
theorem dX5_spreads_105 : decode cX5_spreads 105 = .ok (.iload 7, 2) := by decide +kernel
theorem dX5_spreads_107 : decode cX5_spreads 107 = .ok (.invokestatic 101, 3) := by decide +kernel
theorem dX5_spreads_110 : decode cX5_spreads 110 = .ok (.aload_n 0, 1) := by decide +kernel
theorem dX5_spreads_111 : decode cX5_spreads 111 = .ok (.getfield 45, 3) := by decide +kernel
theorem dX5_spreads_114 : decode cX5_spreads 114 = .ok (.iload 4, 2) := by decide +kernel
theorem dX5_spreads_116 : decode cX5_spreads 116 = .ok (.iaload, 1) := by decide +kernel
theorem dX5_spreads_117 : decode cX5_spreads 117 = .ok (.iconst 1, 1) := by decide +kernel
theorem dX5_spreads_118 : decode cX5_spreads 118 = .ok (.iadd, 1) := by decide +kernel
theorem dX5_spreads_119 : decode cX5_spreads 119 = .ok (.iastore, 1) := by decide +kernel
theorem dX5_spreads_120 : decode cX5_spreads 120 = .ok (.aload_n 0, 1) := by decide +kernel
theorem dX5_spreads_121 : decode cX5_spreads 121 = .ok (.getfield 48, 3) := by decide +kernel
theorem dX5_spreads_124 : decode cX5_spreads 124 = .ok (.iload_n 2, 1) := by decide +kernel
theorem dX5_spreads_125 : decode cX5_spreads 125 = .ok (.iload 6, 2) := by decide +kernel
theorem dX5_spreads_127 : decode cX5_spreads 127 = .ok (.iload 7, 2) := by decide +kernel
theorem dX5_spreads_129 : decode cX5_spreads 129 = .ok (.invokestatic 101, 3) := by decide +kernel
theorem dX5_spreads_132 : decode cX5_spreads 132 = .ok (.iastore, 1) := by decide +kernel
theorem dX5_spreads_133 : decode cX5_spreads 133 = .ok (.iinc 2 1, 3) := by decide +kernel
theorem dX5_spreads_136 : decode cX5_spreads 136 = .ok (.iinc 5 1, 3) := by decide +kernel
theorem dX5_spreads_139 : decode cX5_spreads 139 = .ok (.goto (-105), 3) := by decide +kernel
theorem dX5_spreads_142 : decode cX5_spreads 142 = .ok (.iinc 3 1, 3) := by decide +kernel
theorem dX5_spreads_145 : decode cX5_spreads 145 = .ok (.goto (-127), 3) := by decide +kernel
theorem dX5_spreads_148 : decode cX5_spreads 148 = .ok (.return_, 1) := by decide +kernel
theorem dX5_way_0 : decode cX5_way 0 = .ok (.aload_n 0, 1) := by decide +kernel
theorem dX5_way_1 : decode cX5_way 1 = .ok (.iload_n 1, 1) := by decide +kernel
theorem dX5_way_2 : decode cX5_way 2 = .ok (.invokevirtual 77, 3) := by decide +kernel
theorem dX5_way_5 : decode cX5_way 5 = .ok (.ifCond .eq 11, 3) := by decide +kernel
theorem dX5_way_8 : decode cX5_way 8 = .ok (.iload_n 2, 1) := by decide +kernel
theorem dX5_way_9 : decode cX5_way 9 = .ok (.iload_n 3, 1) := by decide +kernel
theorem dX5_way_10 : decode cX5_way 10 = .ok (.invokestatic 89, 3) := by decide +kernel
theorem dX5_way_13 : decode cX5_way 13 = .ok (.ifCond .ne 5, 3) := by decide +kernel
theorem dX5_way_16 : decode cX5_way 16 = .ok (.iconst (-1), 1) := by decide +kernel
theorem dX5_way_17 : decode cX5_way 17 = .ok (.ireturn, 1) := by decide +kernel
theorem dX5_way_18 : decode cX5_way 18 = .ok (.aload_n 0, 1) := by decide +kernel
theorem dX5_way_19 : decode cX5_way 19 = .ok (.getfield 29, 3) := by decide +kernel
theorem dX5_way_22 : decode cX5_way 22 = .ok (.iload_n 1, 1) := by decide +kernel
theorem dX5_way_23 : decode cX5_way 23 = .ok (.baload, 1) := by decide +kernel
theorem dX5_way_24 : decode cX5_way 24 = .ok (.ifCond .ne 6, 3) := by decide +kernel
theorem dX5_way_27 : decode cX5_way 27 = .ok (.bipush (-2), 2) := by decide +kernel
theorem dX5_way_29 : decode cX5_way 29 = .ok (.ireturn, 1) := by decide +kernel
theorem dX5_way_30 : decode cX5_way 30 = .ok (.aload_n 0, 1) := by decide +kernel
theorem dX5_way_31 : decode cX5_way 31 = .ok (.iload_n 1, 1) := by decide +kernel
theorem dX5_way_32 : decode cX5_way 32 = .ok (.invokevirtual 105, 3) := by decide +kernel
theorem dX5_way_35 : decode cX5_way 35 = .ok (.aload_n 0, 1) := by decide +kernel
theorem dX5_way_36 : decode cX5_way 36 = .ok (.getfield 45, 3) := by decide +kernel
theorem dX5_way_39 : decode cX5_way 39 = .ok (.iload_n 2, 1) := by decide +kernel
theorem dX5_way_40 : decode cX5_way 40 = .ok (.iload_n 3, 1) := by decide +kernel
theorem dX5_way_41 : decode cX5_way 41 = .ok (.invokestatic 101, 3) := by decide +kernel
theorem dX5_way_44 : decode cX5_way 44 = .ok (.iaload, 1) := by decide +kernel
theorem dX5_way_45 : decode cX5_way 45 = .ok (.iconst (-1), 1) := by decide +kernel
theorem dX5_way_46 : decode cX5_way 46 = .ok (.if_icmp .ne 6, 3) := by decide +kernel
theorem dX5_way_49 : decode cX5_way 49 = .ok (.bipush (-4), 2) := by decide +kernel
theorem dX5_way_51 : decode cX5_way 51 = .ok (.ireturn, 1) := by decide +kernel
theorem dX5_way_52 : decode cX5_way 52 = .ok (.aload_n 0, 1) := by decide +kernel
theorem dX5_way_53 : decode cX5_way 53 = .ok (.iload_n 2, 1) := by decide +kernel
theorem dX5_way_54 : decode cX5_way 54 = .ok (.iload_n 3, 1) := by decide +kernel
theorem dX5_way_55 : decode cX5_way 55 = .ok (.invokestatic 101, 3) := by decide +kernel
theorem dX5_way_58 : decode cX5_way 58 = .ok (.invokevirtual 109, 3) := by decide +kernel
theorem dX5_way_61 : decode cX5_way 61 = .ok (.aload_n 0, 1) := by decide +kernel
theorem dX5_way_62 : decode cX5_way 62 = .ok (.getfield 33, 3) := by decide +kernel
theorem dX5_way_65 : decode cX5_way 65 = .ok (.iload_n 1, 1) := by decide +kernel
theorem dX5_way_66 : decode cX5_way 66 = .ok (.iaload, 1) := by decide +kernel
theorem dX5_way_67 : decode cX5_way 67 = .ok (.aload_n 0, 1) := by decide +kernel
theorem dX5_way_68 : decode cX5_way 68 = .ok (.getfield 36, 3) := by decide +kernel
theorem dX5_way_71 : decode cX5_way 71 = .ok (.iload_n 1, 1) := by decide +kernel
theorem dX5_way_72 : decode cX5_way 72 = .ok (.iaload, 1) := by decide +kernel
theorem dX5_way_73 : decode cX5_way 73 = .ok (.invokestatic 101, 3) := by decide +kernel
theorem dX5_way_76 : decode cX5_way 76 = .ok (.istore 4, 2) := by decide +kernel
theorem dX5_way_78 : decode cX5_way 78 = .ok (.aload_n 0, 1) := by decide +kernel
theorem dX5_way_79 : decode cX5_way 79 = .ok (.getfield 45, 3) := by decide +kernel
theorem dX5_way_82 : decode cX5_way 82 = .ok (.iload 4, 2) := by decide +kernel
theorem dX5_way_84 : decode cX5_way 84 = .ok (.iaload, 1) := by decide +kernel
theorem dX5_way_85 : decode cX5_way 85 = .ok (.istore 5, 2) := by decide +kernel
theorem dX5_way_87 : decode cX5_way 87 = .ok (.iload 5, 2) := by decide +kernel
theorem dX5_way_89 : decode cX5_way 89 = .ok (.ifCond .ge 6, 3) := by decide +kernel
theorem dX5_way_92 : decode cX5_way 92 = .ok (.bipush (-4), 2) := by decide +kernel
theorem dX5_way_94 : decode cX5_way 94 = .ok (.ireturn, 1) := by decide +kernel
theorem dX5_way_95 : decode cX5_way 95 = .ok (.aload_n 0, 1) := by decide +kernel
theorem dX5_way_96 : decode cX5_way 96 = .ok (.iconst 0, 1) := by decide +kernel
theorem dX5_way_97 : decode cX5_way 97 = .ok (.putfield 39, 3) := by decide +kernel
theorem dX5_way_100 : decode cX5_way 100 = .ok (.aload_n 0, 1) := by decide +kernel
theorem dX5_way_101 : decode cX5_way 101 = .ok (.getfield 45, 3) := by decide +kernel
theorem dX5_way_104 : decode cX5_way 104 = .ok (.iload 4, 2) := by decide +kernel
theorem dX5_way_106 : decode cX5_way 106 = .ok (.iaload, 1) := by decide +kernel
theorem dX5_way_107 : decode cX5_way 107 = .ok (.ifCond .le 123, 3) := by decide +kernel
theorem dX5_way_110 : decode cX5_way 110 = .ok (.iconst (-1), 1) := by decide +kernel
theorem dX5_way_111 : decode cX5_way 111 = .ok (.istore 6, 2) := by decide +kernel
theorem dX5_way_113 : decode cX5_way 113 = .ok (.iconst 3, 1) := by decide +kernel
theorem dX5_way_114 : decode cX5_way 114 = .ok (.istore 7, 2) := by decide +kernel
theorem dX5_way_116 : decode cX5_way 116 = .ok (.iload 7, 2) := by decide +kernel
theorem dX5_way_118 : decode cX5_way 118 = .ok (.ifCond .lt 95, 3) := by decide +kernel
theorem dX5_way_121 : decode cX5_way 121 = .ok (.iload 4, 2) := by decide +kernel
theorem dX5_way_123 : decode cX5_way 123 = .ok (.bipush 20, 2) := by decide +kernel
theorem dX5_way_125 : decode cX5_way 125 = .ok (.irem, 1) := by decide +kernel
theorem dX5_way_126 : decode cX5_way 126 = .ok (.bipush 6, 2) := by decide +kernel
theorem dX5_way_128 : decode cX5_way 128 = .ok (.isub, 1) := by decide +kernel
theorem dX5_way_129 : decode cX5_way 129 = .ok (.iload 7, 2) := by decide +kernel
theorem dX5_way_131 : decode cX5_way 131 = .ok (.invokestatic 95, 3) := by decide +kernel
theorem dX5_way_134 : decode cX5_way 134 = .ok (.iadd, 1) := by decide +kernel
theorem dX5_way_135 : decode cX5_way 135 = .ok (.istore 8, 2) := by decide +kernel
theorem dX5_way_137 : decode cX5_way 137 = .ok (.iload 4, 2) := by decide +kernel
theorem dX5_way_139 : decode cX5_way 139 = .ok (.bipush 20, 2) := by decide +kernel
theorem dX5_way_141 : decode cX5_way 141 = .ok (.idiv, 1) := by decide +kernel
theorem dX5_way_142 : decode cX5_way 142 = .ok (.bipush 6, 2) := by decide +kernel
theorem dX5_way_144 : decode cX5_way 144 = .ok (.isub, 1) := by decide +kernel
theorem dX5_way_145 : decode cX5_way 145 = .ok (.iload 7, 2) := by decide +kernel
theorem dX5_way_147 : decode cX5_way 147 = .ok (.invokestatic 98, 3) := by decide +kernel
theorem dX5_way_150 : decode cX5_way 150 = .ok (.iadd, 1) := by decide +kernel
theorem dX5_way_151 : decode cX5_way 151 = .ok (.istore 9, 2) := by decide +kernel
theorem dX5_way_153 : decode cX5_way 153 = .ok (.iload 8, 2) := by decide +kernel
theorem dX5_way_155 : decode cX5_way 155 = .ok (.iload 9, 2) := by decide +kernel
theorem dX5_way_157 : decode cX5_way 157 = .ok (.invokestatic 89, 3) := by decide +kernel
theorem dX5_way_160 : decode cX5_way 160 = .ok (.ifCond .eq 47, 3) := by decide +kernel
theorem dX5_way_163 : decode cX5_way 163 = .ok (.aload_n 0, 1) := by decide +kernel
theorem dX5_way_164 : decode cX5_way 164 = .ok (.getfield 45, 3) := by decide +kernel
theorem dX5_way_167 : decode cX5_way 167 = .ok (.iload 8, 2) := by decide +kernel
theorem dX5_way_169 : decode cX5_way 169 = .ok (.iload 9, 2) := by decide +kernel
theorem dX5_way_171 : decode cX5_way 171 = .ok (.invokestatic 101, 3) := by decide +kernel
theorem dX5_way_174 : decode cX5_way 174 = .ok (.iaload, 1) := by decide +kernel
theorem dX5_way_175 : decode cX5_way 175 = .ok (.aload_n 0, 1) := by decide +kernel
theorem dX5_way_176 : decode cX5_way 176 = .ok (.getfield 45, 3) := by decide +kernel
theorem dX5_way_179 : decode cX5_way 179 = .ok (.iload 4, 2) := by decide +kernel
theorem dX5_way_181 : decode cX5_way 181 = .ok (.iaload, 1) := by decide +kernel
theorem dX5_way_182 : decode cX5_way 182 = .ok (.iconst 1, 1) := by decide +kernel
theorem dX5_way_183 : decode cX5_way 183 = .ok (.isub, 1) := by decide +kernel
theorem dX5_way_184 : decode cX5_way 184 = .ok (.if_icmp .ne 23, 3) := by decide +kernel
theorem dX5_way_187 : decode cX5_way 187 = .ok (.iload 8, 2) := by decide +kernel
theorem dX5_way_189 : decode cX5_way 189 = .ok (.iload 9, 2) := by decide +kernel
theorem dX5_way_191 : decode cX5_way 191 = .ok (.invokestatic 101, 3) := by decide +kernel
theorem dX5_way_194 : decode cX5_way 194 = .ok (.istore 6, 2) := by decide +kernel
theorem dX5_way_196 : decode cX5_way 196 = .ok (.aload_n 0, 1) := by decide +kernel
theorem dX5_way_197 : decode cX5_way 197 = .ok (.getfield 42, 3) := by decide +kernel
theorem dX5_way_200 : decode cX5_way 200 = .ok (.aload_n 0, 1) := by decide +kernel
theorem dX5_way_201 : decode cX5_way 201 = .ok (.getfield 39, 3) := by decide +kernel
theorem dX5_way_204 : decode cX5_way 204 = .ok (.iload 7, 2) := by decide +kernel
theorem dX5_way_206 : decode cX5_way 206 = .ok (.iastore, 1) := by decide +kernel
theorem dX5_way_207 : decode cX5_way 207 = .ok (.iinc 7 (-1), 3) := by decide +kernel
theorem dX5_way_210 : decode cX5_way 210 = .ok (.goto (-94), 3) := by decide +kernel
theorem dX5_way_213 : decode cX5_way 213 = .ok (.aload_n 0, 1) := by decide +kernel
theorem dX5_way_214 : decode cX5_way 214 = .ok (.dup, 1) := by decide +kernel
theorem dX5_way_215 : decode cX5_way 215 = .ok (.getfield 39, 3) := by decide +kernel
theorem dX5_way_218 : decode cX5_way 218 = .ok (.iconst 1, 1) := by decide +kernel
theorem dX5_way_219 : decode cX5_way 219 = .ok (.iadd, 1) := by decide +kernel
theorem dX5_way_220 : decode cX5_way 220 = .ok (.putfield 39, 3) := by decide +kernel
theorem dX5_way_223 : decode cX5_way 223 = .ok (.iload 6, 2) := by decide +kernel
theorem dX5_way_225 : decode cX5_way 225 = .ok (.istore 4, 2) := by decide +kernel
theorem dX5_way_227 : decode cX5_way 227 = .ok (.goto (-127), 3) := by decide +kernel
theorem dX5_way_230 : decode cX5_way 230 = .ok (.iload 5, 2) := by decide +kernel
theorem dX5_way_232 : decode cX5_way 232 = .ok (.ireturn, 1) := by decide +kernel
theorem dX5_stepOf_0 : decode cX5_stepOf 0 = .ok (.iload_n 1, 1) := by decide +kernel
theorem dX5_stepOf_1 : decode cX5_stepOf 1 = .ok (.ifCond .ge 7, 3) := by decide +kernel
theorem dX5_stepOf_4 : decode cX5_stepOf 4 = .ok (.iconst (-1), 1) := by decide +kernel
theorem dX5_stepOf_5 : decode cX5_stepOf 5 = .ok (.goto 22, 3) := by decide +kernel
theorem dX5_stepOf_8 : decode cX5_stepOf 8 = .ok (.iload_n 1, 1) := by decide +kernel
theorem dX5_stepOf_9 : decode cX5_stepOf 9 = .ok (.aload_n 0, 1) := by decide +kernel
theorem dX5_stepOf_10 : decode cX5_stepOf 10 = .ok (.getfield 39, 3) := by decide +kernel
theorem dX5_stepOf_13 : decode cX5_stepOf 13 = .ok (.if_icmp .ge 12, 3) := by decide +kernel
theorem dX5_stepOf_16 : decode cX5_stepOf 16 = .ok (.aload_n 0, 1) := by decide +kernel
theorem dX5_stepOf_17 : decode cX5_stepOf 17 = .ok (.getfield 42, 3) := by decide +kernel
theorem dX5_stepOf_20 : decode cX5_stepOf 20 = .ok (.iload_n 1, 1) := by decide +kernel
theorem dX5_stepOf_21 : decode cX5_stepOf 21 = .ok (.iaload, 1) := by decide +kernel
theorem dX5_stepOf_22 : decode cX5_stepOf 22 = .ok (.goto 5, 3) := by decide +kernel
theorem dX5_stepOf_25 : decode cX5_stepOf 25 = .ok (.bipush (-4), 2) := by decide +kernel
theorem dX5_stepOf_27 : decode cX5_stepOf 27 = .ok (.ireturn, 1) := by decide +kernel
theorem dX5_outOf_0 : decode cX5_outOf 0 = .ok (.aload_n 0, 1) := by decide +kernel
theorem dX5_outOf_1 : decode cX5_outOf 1 = .ok (.iload_n 1, 1) := by decide +kernel
theorem dX5_outOf_2 : decode cX5_outOf 2 = .ok (.invokevirtual 105, 3) := by decide +kernel
theorem dX5_outOf_5 : decode cX5_outOf 5 = .ok (.aload_n 0, 1) := by decide +kernel
theorem dX5_outOf_6 : decode cX5_outOf 6 = .ok (.aload_n 0, 1) := by decide +kernel
theorem dX5_outOf_7 : decode cX5_outOf 7 = .ok (.getfield 33, 3) := by decide +kernel
theorem dX5_outOf_10 : decode cX5_outOf 10 = .ok (.iload_n 1, 1) := by decide +kernel
theorem dX5_outOf_11 : decode cX5_outOf 11 = .ok (.iaload, 1) := by decide +kernel
theorem dX5_outOf_12 : decode cX5_outOf 12 = .ok (.aload_n 0, 1) := by decide +kernel
theorem dX5_outOf_13 : decode cX5_outOf 13 = .ok (.getfield 36, 3) := by decide +kernel
theorem dX5_outOf_16 : decode cX5_outOf 16 = .ok (.iload_n 1, 1) := by decide +kernel
theorem dX5_outOf_17 : decode cX5_outOf 17 = .ok (.iaload, 1) := by decide +kernel
theorem dX5_outOf_18 : decode cX5_outOf 18 = .ok (.invokestatic 101, 3) := by decide +kernel
theorem dX5_outOf_21 : decode cX5_outOf 21 = .ok (.invokevirtual 109, 3) := by decide +kernel
theorem dX5_outOf_24 : decode cX5_outOf 24 = .ok (.bipush (-4), 2) := by decide +kernel
theorem dX5_outOf_26 : decode cX5_outOf 26 = .ok (.istore_n 2, 1) := by decide +kernel
theorem dX5_outOf_27 : decode cX5_outOf 27 = .ok (.iconst 0, 1) := by decide +kernel
theorem dX5_outOf_28 : decode cX5_outOf 28 = .ok (.istore_n 3, 1) := by decide +kernel
theorem dX5_outOf_29 : decode cX5_outOf 29 = .ok (.iload_n 3, 1) := by decide +kernel
theorem dX5_outOf_30 : decode cX5_outOf 30 = .ok (.sipush 400, 3) := by decide +kernel
theorem dX5_outOf_33 : decode cX5_outOf 33 = .ok (.if_icmp .ge 77, 3) := by decide +kernel
theorem dX5_outOf_36 : decode cX5_outOf 36 = .ok (.aload_n 0, 1) := by decide +kernel
theorem dX5_outOf_37 : decode cX5_outOf 37 = .ok (.getfield 45, 3) := by decide +kernel
theorem dX5_outOf_40 : decode cX5_outOf 40 = .ok (.iload_n 3, 1) := by decide +kernel
theorem dX5_outOf_41 : decode cX5_outOf 41 = .ok (.iaload, 1) := by decide +kernel
theorem dX5_outOf_42 : decode cX5_outOf 42 = .ok (.ifCond .lt 21, 3) := by decide +kernel
theorem dX5_outOf_45 : decode cX5_outOf 45 = .ok (.iload_n 2, 1) := by decide +kernel
theorem dX5_outOf_46 : decode cX5_outOf 46 = .ok (.ifCond .lt 13, 3) := by decide +kernel
theorem dX5_outOf_49 : decode cX5_outOf 49 = .ok (.aload_n 0, 1) := by decide +kernel
theorem dX5_outOf_50 : decode cX5_outOf 50 = .ok (.getfield 45, 3) := by decide +kernel
theorem dX5_outOf_53 : decode cX5_outOf 53 = .ok (.iload_n 3, 1) := by decide +kernel
theorem dX5_outOf_54 : decode cX5_outOf 54 = .ok (.iaload, 1) := by decide +kernel
theorem dX5_outOf_55 : decode cX5_outOf 55 = .ok (.iload_n 2, 1) := by decide +kernel
theorem dX5_outOf_56 : decode cX5_outOf 56 = .ok (.if_icmp .ge 7, 3) := by decide +kernel
theorem dX5_outOf_59 : decode cX5_outOf 59 = .ok (.iconst 1, 1) := by decide +kernel
theorem dX5_outOf_60 : decode cX5_outOf 60 = .ok (.goto 4, 3) := by decide +kernel
theorem dX5_outOf_63 : decode cX5_outOf 63 = .ok (.iconst 0, 1) := by decide +kernel
theorem dX5_outOf_64 : decode cX5_outOf 64 = .ok (.istore 4, 2) := by decide +kernel
theorem dX5_outOf_66 : decode cX5_outOf 66 = .ok (.iload 4, 2) := by decide +kernel
theorem dX5_outOf_68 : decode cX5_outOf 68 = .ok (.ifCond .eq 34, 3) := by decide +kernel
theorem dX5_outOf_71 : decode cX5_outOf 71 = .ok (.aload_n 0, 1) := by decide +kernel
theorem dX5_outOf_72 : decode cX5_outOf 72 = .ok (.iload_n 1, 1) := by decide +kernel
theorem dX5_outOf_73 : decode cX5_outOf 73 = .ok (.iload_n 3, 1) := by decide +kernel
theorem dX5_outOf_74 : decode cX5_outOf 74 = .ok (.bipush 20, 2) := by decide +kernel
theorem dX5_outOf_76 : decode cX5_outOf 76 = .ok (.irem, 1) := by decide +kernel
theorem dX5_outOf_77 : decode cX5_outOf 77 = .ok (.bipush 6, 2) := by decide +kernel
theorem dX5_outOf_79 : decode cX5_outOf 79 = .ok (.isub, 1) := by decide +kernel
theorem dX5_outOf_80 : decode cX5_outOf 80 = .ok (.iload_n 3, 1) := by decide +kernel
theorem dX5_outOf_81 : decode cX5_outOf 81 = .ok (.bipush 20, 2) := by decide +kernel
theorem dX5_outOf_83 : decode cX5_outOf 83 = .ok (.idiv, 1) := by decide +kernel
theorem dX5_outOf_84 : decode cX5_outOf 84 = .ok (.bipush 6, 2) := by decide +kernel
theorem dX5_outOf_86 : decode cX5_outOf 86 = .ok (.isub, 1) := by decide +kernel
theorem dX5_outOf_87 : decode cX5_outOf 87 = .ok (.invokevirtual 85, 3) := by decide +kernel
theorem dX5_outOf_90 : decode cX5_outOf 90 = .ok (.ifCond .ne 12, 3) := by decide +kernel
theorem dX5_outOf_93 : decode cX5_outOf 93 = .ok (.aload_n 0, 1) := by decide +kernel
theorem dX5_outOf_94 : decode cX5_outOf 94 = .ok (.getfield 45, 3) := by decide +kernel
theorem dX5_outOf_97 : decode cX5_outOf 97 = .ok (.iload_n 3, 1) := by decide +kernel
theorem dX5_outOf_98 : decode cX5_outOf 98 = .ok (.iaload, 1) := by decide +kernel
theorem dX5_outOf_99 : decode cX5_outOf 99 = .ok (.goto 4, 3) := by decide +kernel
theorem dX5_outOf_102 : decode cX5_outOf 102 = .ok (.iload_n 2, 1) := by decide +kernel
theorem dX5_outOf_103 : decode cX5_outOf 103 = .ok (.istore_n 2, 1) := by decide +kernel
theorem dX5_outOf_104 : decode cX5_outOf 104 = .ok (.iinc 3 1, 3) := by decide +kernel
theorem dX5_outOf_107 : decode cX5_outOf 107 = .ok (.goto (-78), 3) := by decide +kernel
theorem dX5_outOf_110 : decode cX5_outOf 110 = .ok (.iload_n 2, 1) := by decide +kernel
theorem dX5_outOf_111 : decode cX5_outOf 111 = .ok (.ireturn, 1) := by decide +kernel
theorem dX5_out_0 : decode cX5_out 0 = .ok (.aload_n 0, 1) := by decide +kernel
theorem dX5_out_1 : decode cX5_out 1 = .ok (.iload_n 1, 1) := by decide +kernel
theorem dX5_out_2 : decode cX5_out 2 = .ok (.invokevirtual 77, 3) := by decide +kernel
theorem dX5_out_5 : decode cX5_out 5 = .ok (.ifCond .ne 5, 3) := by decide +kernel
theorem dX5_out_8 : decode cX5_out 8 = .ok (.iconst (-1), 1) := by decide +kernel
theorem dX5_out_9 : decode cX5_out 9 = .ok (.ireturn, 1) := by decide +kernel
theorem dX5_out_10 : decode cX5_out 10 = .ok (.aload_n 0, 1) := by decide +kernel
theorem dX5_out_11 : decode cX5_out 11 = .ok (.getfield 29, 3) := by decide +kernel
theorem dX5_out_14 : decode cX5_out 14 = .ok (.iload_n 1, 1) := by decide +kernel
theorem dX5_out_15 : decode cX5_out 15 = .ok (.baload, 1) := by decide +kernel
theorem dX5_out_16 : decode cX5_out 16 = .ok (.ifCond .eq 11, 3) := by decide +kernel
theorem dX5_out_19 : decode cX5_out 19 = .ok (.aload_n 0, 1) := by decide +kernel
theorem dX5_out_20 : decode cX5_out 20 = .ok (.iload_n 1, 1) := by decide +kernel
theorem dX5_out_21 : decode cX5_out 21 = .ok (.invokevirtual 112, 3) := by decide +kernel
theorem dX5_out_24 : decode cX5_out 24 = .ok (.goto 5, 3) := by decide +kernel
theorem dX5_out_27 : decode cX5_out 27 = .ok (.bipush (-2), 2) := by decide +kernel
theorem dX5_out_29 : decode cX5_out 29 = .ok (.ireturn, 1) := by decide +kernel
theorem dX5_places_0 : decode cX5_places 0 = .ok (.aload_n 0, 1) := by decide +kernel
theorem dX5_places_1 : decode cX5_places 1 = .ok (.iload_n 1, 1) := by decide +kernel
theorem dX5_places_2 : decode cX5_places 2 = .ok (.invokevirtual 77, 3) := by decide +kernel
theorem dX5_places_5 : decode cX5_places 5 = .ok (.ifCond .eq 12, 3) := by decide +kernel
theorem dX5_places_8 : decode cX5_places 8 = .ok (.iload_n 2, 1) := by decide +kernel
theorem dX5_places_9 : decode cX5_places 9 = .ok (.iconst 0, 1) := by decide +kernel
theorem dX5_places_10 : decode cX5_places 10 = .ok (.iconst 1, 1) := by decide +kernel
theorem dX5_places_11 : decode cX5_places 11 = .ok (.invokestatic 63, 3) := by decide +kernel
theorem dX5_places_14 : decode cX5_places 14 = .ok (.ifCond .ne 5, 3) := by decide +kernel
theorem dX5_places_17 : decode cX5_places 17 = .ok (.iconst (-1), 1) := by decide +kernel
theorem dX5_places_18 : decode cX5_places 18 = .ok (.ireturn, 1) := by decide +kernel
theorem dX5_places_19 : decode cX5_places 19 = .ok (.aload_n 0, 1) := by decide +kernel
theorem dX5_places_20 : decode cX5_places 20 = .ok (.iload_n 1, 1) := by decide +kernel
theorem dX5_places_21 : decode cX5_places 21 = .ok (.invokevirtual 105, 3) := by decide +kernel
theorem dX5_places_24 : decode cX5_places 24 = .ok (.iconst 0, 1) := by decide +kernel
theorem dX5_places_25 : decode cX5_places 25 = .ok (.istore_n 3, 1) := by decide +kernel
theorem dX5_places_26 : decode cX5_places 26 = .ok (.iload_n 2, 1) := by decide +kernel
theorem dX5_places_27 : decode cX5_places 27 = .ok (.ifCond .ne 79, 3) := by decide +kernel
theorem dX5_places_30 : decode cX5_places 30 = .ok (.aload_n 0, 1) := by decide +kernel
theorem dX5_places_31 : decode cX5_places 31 = .ok (.getfield 20, 3) := by decide +kernel
theorem dX5_places_34 : decode cX5_places 34 = .ok (.iload_n 1, 1) := by decide +kernel
theorem dX5_places_35 : decode cX5_places 35 = .ok (.iaload, 1) := by decide +kernel
theorem dX5_places_36 : decode cX5_places 36 = .ok (.invokestatic 81, 3) := by decide +kernel
theorem dX5_places_39 : decode cX5_places 39 = .ok (.istore 4, 2) := by decide +kernel
theorem dX5_places_41 : decode cX5_places 41 = .ok (.iconst 0, 1) := by decide +kernel
theorem dX5_places_42 : decode cX5_places 42 = .ok (.istore 5, 2) := by decide +kernel
theorem dX5_places_44 : decode cX5_places 44 = .ok (.iload 5, 2) := by decide +kernel
theorem dX5_places_46 : decode cX5_places 46 = .ok (.sipush 400, 3) := by decide +kernel
theorem dX5_places_49 : decode cX5_places 49 = .ok (.if_icmp .ge 55, 3) := by decide +kernel
theorem dX5_places_52 : decode cX5_places 52 = .ok (.iload_n 3, 1) := by decide +kernel
theorem dX5_places_53 : decode cX5_places 53 = .ok (.aload_n 0, 1) := by decide +kernel
theorem dX5_places_54 : decode cX5_places 54 = .ok (.getfield 45, 3) := by decide +kernel
theorem dX5_places_57 : decode cX5_places 57 = .ok (.iload 5, 2) := by decide +kernel
theorem dX5_places_59 : decode cX5_places 59 = .ok (.iaload, 1) := by decide +kernel
theorem dX5_places_60 : decode cX5_places 60 = .ok (.bipush (-2), 2) := by decide +kernel
theorem dX5_places_62 : decode cX5_places 62 = .ok (.if_icmp .ne 33, 3) := by decide +kernel
theorem dX5_places_65 : decode cX5_places 65 = .ok (.aload_n 0, 1) := by decide +kernel
theorem dX5_places_66 : decode cX5_places 66 = .ok (.iload_n 1, 1) := by decide +kernel
theorem dX5_places_67 : decode cX5_places 67 = .ok (.iload 5, 2) := by decide +kernel
theorem dX5_places_69 : decode cX5_places 69 = .ok (.bipush 20, 2) := by decide +kernel
theorem dX5_places_71 : decode cX5_places 71 = .ok (.irem, 1) := by decide +kernel
theorem dX5_places_72 : decode cX5_places 72 = .ok (.bipush 6, 2) := by decide +kernel
theorem dX5_places_74 : decode cX5_places 74 = .ok (.isub, 1) := by decide +kernel
theorem dX5_places_75 : decode cX5_places 75 = .ok (.iload 5, 2) := by decide +kernel
theorem dX5_places_77 : decode cX5_places 77 = .ok (.bipush 20, 2) := by decide +kernel
theorem dX5_places_79 : decode cX5_places 79 = .ok (.idiv, 1) := by decide +kernel
theorem dX5_places_80 : decode cX5_places 80 = .ok (.bipush 6, 2) := by decide +kernel
theorem dX5_places_82 : decode cX5_places 82 = .ok (.isub, 1) := by decide +kernel
theorem dX5_places_83 : decode cX5_places 83 = .ok (.invokevirtual 85, 3) := by decide +kernel
theorem dX5_places_86 : decode cX5_places 86 = .ok (.iload 4, 2) := by decide +kernel
theorem dX5_places_88 : decode cX5_places 88 = .ok (.if_icmp .ne 7, 3) := by decide +kernel
theorem dX5_places_91 : decode cX5_places 91 = .ok (.iconst 1, 1) := by decide +kernel
theorem dX5_places_92 : decode cX5_places 92 = .ok (.goto 4, 3) := by decide +kernel
theorem dX5_places_95 : decode cX5_places 95 = .ok (.iconst 0, 1) := by decide +kernel
theorem dX5_places_96 : decode cX5_places 96 = .ok (.iadd, 1) := by decide +kernel
theorem dX5_places_97 : decode cX5_places 97 = .ok (.istore_n 3, 1) := by decide +kernel
theorem dX5_places_98 : decode cX5_places 98 = .ok (.iinc 5 1, 3) := by decide +kernel
theorem dX5_places_101 : decode cX5_places 101 = .ok (.goto (-57), 3) := by decide +kernel
theorem dX5_places_104 : decode cX5_places 104 = .ok (.iload_n 3, 1) := by decide +kernel
theorem dX5_places_105 : decode cX5_places 105 = .ok (.ireturn, 1) := by decide +kernel
theorem dX5_places_106 : decode cX5_places 106 = .ok (.iconst 0, 1) := by decide +kernel
theorem dX5_places_107 : decode cX5_places 107 = .ok (.istore 4, 2) := by decide +kernel
theorem dX5_places_109 : decode cX5_places 109 = .ok (.iload 4, 2) := by decide +kernel
theorem dX5_places_111 : decode cX5_places 111 = .ok (.sipush 400, 3) := by decide +kernel
theorem dX5_places_114 : decode cX5_places 114 = .ok (.if_icmp .ge 51, 3) := by decide +kernel
theorem dX5_places_117 : decode cX5_places 117 = .ok (.aload_n 0, 1) := by decide +kernel
theorem dX5_places_118 : decode cX5_places 118 = .ok (.getfield 45, 3) := by decide +kernel
theorem dX5_places_121 : decode cX5_places 121 = .ok (.iload 4, 2) := by decide +kernel
theorem dX5_places_123 : decode cX5_places 123 = .ok (.iaload, 1) := by decide +kernel
theorem dX5_places_124 : decode cX5_places 124 = .ok (.bipush (-2), 2) := by decide +kernel
theorem dX5_places_126 : decode cX5_places 126 = .ok (.if_icmp .ne 33, 3) := by decide +kernel
theorem dX5_places_129 : decode cX5_places 129 = .ok (.aload_n 0, 1) := by decide +kernel
theorem dX5_places_130 : decode cX5_places 130 = .ok (.iload_n 1, 1) := by decide +kernel
theorem dX5_places_131 : decode cX5_places 131 = .ok (.iload 4, 2) := by decide +kernel
theorem dX5_places_133 : decode cX5_places 133 = .ok (.bipush 20, 2) := by decide +kernel
theorem dX5_places_135 : decode cX5_places 135 = .ok (.irem, 1) := by decide +kernel
theorem dX5_places_136 : decode cX5_places 136 = .ok (.bipush 6, 2) := by decide +kernel
theorem dX5_places_138 : decode cX5_places 138 = .ok (.isub, 1) := by decide +kernel
theorem dX5_places_139 : decode cX5_places 139 = .ok (.iload 4, 2) := by decide +kernel
theorem dX5_places_141 : decode cX5_places 141 = .ok (.bipush 20, 2) := by decide +kernel
theorem dX5_places_143 : decode cX5_places 143 = .ok (.idiv, 1) := by decide +kernel
theorem dX5_places_144 : decode cX5_places 144 = .ok (.bipush 6, 2) := by decide +kernel
theorem dX5_places_146 : decode cX5_places 146 = .ok (.isub, 1) := by decide +kernel
theorem dX5_places_147 : decode cX5_places 147 = .ok (.invokevirtual 85, 3) := by decide +kernel
theorem dX5_places_150 : decode cX5_places 150 = .ok (.ifCond .ne 9, 3) := by decide +kernel
theorem dX5_places_153 : decode cX5_places 153 = .ok (.aload_n 0, 1) := by decide +kernel
theorem dX5_places_154 : decode cX5_places 154 = .ok (.iload 4, 2) := by decide +kernel
theorem dX5_places_156 : decode cX5_places 156 = .ok (.invokevirtual 109, 3) := by decide +kernel
theorem dX5_places_159 : decode cX5_places 159 = .ok (.iinc 4 1, 3) := by decide +kernel
theorem dX5_places_162 : decode cX5_places 162 = .ok (.goto (-53), 3) := by decide +kernel
theorem dX5_places_165 : decode cX5_places 165 = .ok (.iconst 0, 1) := by decide +kernel
theorem dX5_places_166 : decode cX5_places 166 = .ok (.istore 4, 2) := by decide +kernel
theorem dX5_places_168 : decode cX5_places 168 = .ok (.iload 4, 2) := by decide +kernel
theorem dX5_places_170 : decode cX5_places 170 = .ok (.sipush 400, 3) := by decide +kernel
theorem dX5_places_173 : decode cX5_places 173 = .ok (.if_icmp .ge 30, 3) := by decide +kernel
theorem dX5_places_176 : decode cX5_places 176 = .ok (.aload_n 0, 1) := by decide +kernel
theorem dX5_places_177 : decode cX5_places 177 = .ok (.getfield 45, 3) := by decide +kernel
theorem dX5_places_180 : decode cX5_places 180 = .ok (.iload 4, 2) := by decide +kernel
theorem dX5_places_182 : decode cX5_places 182 = .ok (.iaload, 1) := by decide +kernel
theorem dX5_places_183 : decode cX5_places 183 = .ok (.bipush (-2), 2) := by decide +kernel
theorem dX5_places_185 : decode cX5_places 185 = .ok (.if_icmp .ne 12, 3) := by decide +kernel
theorem dX5_places_188 : decode cX5_places 188 = .ok (.aload_n 0, 1) := by decide +kernel
theorem dX5_places_189 : decode cX5_places 189 = .ok (.iload 4, 2) := by decide +kernel
theorem dX5_places_191 : decode cX5_places 191 = .ok (.invokevirtual 109, 3) := by decide +kernel
theorem dX5_places_194 : decode cX5_places 194 = .ok (.iinc 3 1, 3) := by decide +kernel
theorem dX5_places_197 : decode cX5_places 197 = .ok (.iinc 4 1, 3) := by decide +kernel
theorem dX5_places_200 : decode cX5_places 200 = .ok (.goto (-32), 3) := by decide +kernel
theorem dX5_places_203 : decode cX5_places 203 = .ok (.iload_n 3, 1) := by decide +kernel
theorem dX5_places_204 : decode cX5_places 204 = .ok (.ireturn, 1) := by decide +kernel
theorem dX5_blocks0_0 : decode cX5_blocks0 0 = .ok (.iconst 1, 1) := by decide +kernel
theorem dX5_blocks0_1 : decode cX5_blocks0 1 = .ok (.istore 4, 2) := by decide +kernel
theorem dX5_blocks0_3 : decode cX5_blocks0 3 = .ok (.iload 4, 2) := by decide +kernel
theorem dX5_blocks0_5 : decode cX5_blocks0 5 = .ok (.bipush 26, 2) := by decide +kernel
theorem dX5_blocks0_7 : decode cX5_blocks0 7 = .ok (.if_icmp .ge 108, 3) := by decide +kernel
theorem dX5_blocks0_10 : decode cX5_blocks0 10 = .ok (.aload_n 0, 1) := by decide +kernel
theorem dX5_blocks0_11 : decode cX5_blocks0 11 = .ok (.getfield 33, 3) := by decide +kernel
theorem dX5_blocks0_14 : decode cX5_blocks0 14 = .ok (.iload_n 2, 1) := by decide +kernel
theorem dX5_blocks0_15 : decode cX5_blocks0 15 = .ok (.iaload, 1) := by decide +kernel
theorem dX5_blocks0_16 : decode cX5_blocks0 16 = .ok (.iload 4, 2) := by decide +kernel
theorem dX5_blocks0_18 : decode cX5_blocks0 18 = .ok (.iload_n 3, 1) := by decide +kernel
theorem dX5_blocks0_19 : decode cX5_blocks0 19 = .ok (.invokestatic 95, 3) := by decide +kernel
theorem dX5_blocks0_22 : decode cX5_blocks0 22 = .ok (.imul, 1) := by decide +kernel
theorem dX5_blocks0_23 : decode cX5_blocks0 23 = .ok (.iadd, 1) := by decide +kernel
theorem dX5_blocks0_24 : decode cX5_blocks0 24 = .ok (.istore 5, 2) := by decide +kernel
theorem dX5_blocks0_26 : decode cX5_blocks0 26 = .ok (.aload_n 0, 1) := by decide +kernel
theorem dX5_blocks0_27 : decode cX5_blocks0 27 = .ok (.getfield 36, 3) := by decide +kernel
theorem dX5_blocks0_30 : decode cX5_blocks0 30 = .ok (.iload_n 2, 1) := by decide +kernel
theorem dX5_blocks0_31 : decode cX5_blocks0 31 = .ok (.iaload, 1) := by decide +kernel
theorem dX5_blocks0_32 : decode cX5_blocks0 32 = .ok (.iload 4, 2) := by decide +kernel
theorem dX5_blocks0_34 : decode cX5_blocks0 34 = .ok (.iload_n 3, 1) := by decide +kernel
theorem dX5_blocks0_35 : decode cX5_blocks0 35 = .ok (.invokestatic 98, 3) := by decide +kernel
theorem dX5_blocks0_38 : decode cX5_blocks0 38 = .ok (.imul, 1) := by decide +kernel
theorem dX5_blocks0_39 : decode cX5_blocks0 39 = .ok (.iadd, 1) := by decide +kernel
theorem dX5_blocks0_40 : decode cX5_blocks0 40 = .ok (.istore 6, 2) := by decide +kernel
theorem dX5_blocks0_42 : decode cX5_blocks0 42 = .ok (.iconst 0, 1) := by decide +kernel
theorem dX5_blocks0_43 : decode cX5_blocks0 43 = .ok (.istore 7, 2) := by decide +kernel
theorem dX5_blocks0_45 : decode cX5_blocks0 45 = .ok (.iload 7, 2) := by decide +kernel
theorem dX5_blocks0_47 : decode cX5_blocks0 47 = .ok (.bipush 25, 2) := by decide +kernel
theorem dX5_blocks0_49 : decode cX5_blocks0 49 = .ok (.if_icmp .ge 60, 3) := by decide +kernel
theorem dX5_blocks0_52 : decode cX5_blocks0 52 = .ok (.aload_n 0, 1) := by decide +kernel
theorem dX5_blocks0_53 : decode cX5_blocks0 53 = .ok (.getfield 20, 3) := by decide +kernel
theorem dX5_blocks0_56 : decode cX5_blocks0 56 = .ok (.iload_n 2, 1) := by decide +kernel
theorem dX5_blocks0_57 : decode cX5_blocks0 57 = .ok (.iaload, 1) := by decide +kernel
theorem dX5_blocks0_58 : decode cX5_blocks0 58 = .ok (.iload 7, 2) := by decide +kernel
theorem dX5_blocks0_60 : decode cX5_blocks0 60 = .ok (.ishr, 1) := by decide +kernel
theorem dX5_blocks0_61 : decode cX5_blocks0 61 = .ok (.iconst 1, 1) := by decide +kernel
theorem dX5_blocks0_62 : decode cX5_blocks0 62 = .ok (.iand, 1) := by decide +kernel
theorem dX5_blocks0_63 : decode cX5_blocks0 63 = .ok (.iconst 1, 1) := by decide +kernel
theorem dX5_blocks0_64 : decode cX5_blocks0 64 = .ok (.if_icmp .ne 39, 3) := by decide +kernel
theorem dX5_blocks0_67 : decode cX5_blocks0 67 = .ok (.aload_n 0, 1) := by decide +kernel
theorem dX5_blocks0_68 : decode cX5_blocks0 68 = .ok (.iload_n 1, 1) := by decide +kernel
theorem dX5_blocks0_69 : decode cX5_blocks0 69 = .ok (.aload_n 0, 1) := by decide +kernel
theorem dX5_blocks0_70 : decode cX5_blocks0 70 = .ok (.getfield 33, 3) := by decide +kernel
theorem dX5_blocks0_73 : decode cX5_blocks0 73 = .ok (.iload_n 1, 1) := by decide +kernel
theorem dX5_blocks0_74 : decode cX5_blocks0 74 = .ok (.iaload, 1) := by decide +kernel
theorem dX5_blocks0_75 : decode cX5_blocks0 75 = .ok (.aload_n 0, 1) := by decide +kernel
theorem dX5_blocks0_76 : decode cX5_blocks0 76 = .ok (.getfield 36, 3) := by decide +kernel
theorem dX5_blocks0_79 : decode cX5_blocks0 79 = .ok (.iload_n 1, 1) := by decide +kernel
theorem dX5_blocks0_80 : decode cX5_blocks0 80 = .ok (.iaload, 1) := by decide +kernel
theorem dX5_blocks0_81 : decode cX5_blocks0 81 = .ok (.iload 5, 2) := by decide +kernel
theorem dX5_blocks0_83 : decode cX5_blocks0 83 = .ok (.iload 7, 2) := by decide +kernel
theorem dX5_blocks0_85 : decode cX5_blocks0 85 = .ok (.iconst 5, 1) := by decide +kernel
theorem dX5_blocks0_86 : decode cX5_blocks0 86 = .ok (.irem, 1) := by decide +kernel
theorem dX5_blocks0_87 : decode cX5_blocks0 87 = .ok (.iadd, 1) := by decide +kernel
theorem dX5_blocks0_88 : decode cX5_blocks0 88 = .ok (.iload 6, 2) := by decide +kernel
theorem dX5_blocks0_90 : decode cX5_blocks0 90 = .ok (.iload 7, 2) := by decide +kernel
theorem dX5_blocks0_92 : decode cX5_blocks0 92 = .ok (.iconst 5, 1) := by decide +kernel
theorem dX5_blocks0_93 : decode cX5_blocks0 93 = .ok (.idiv, 1) := by decide +kernel
theorem dX5_blocks0_94 : decode cX5_blocks0 94 = .ok (.iadd, 1) := by decide +kernel
theorem dX5_blocks0_95 : decode cX5_blocks0 95 = .ok (.invokevirtual 67, 3) := by decide +kernel
theorem dX5_blocks0_98 : decode cX5_blocks0 98 = .ok (.ifCond .eq 5, 3) := by decide +kernel
theorem dX5_blocks0_101 : decode cX5_blocks0 101 = .ok (.iconst 1, 1) := by decide +kernel
theorem dX5_blocks0_102 : decode cX5_blocks0 102 = .ok (.ireturn, 1) := by decide +kernel
theorem dX5_blocks0_103 : decode cX5_blocks0 103 = .ok (.iinc 7 1, 3) := by decide +kernel
theorem dX5_blocks0_106 : decode cX5_blocks0 106 = .ok (.goto (-61), 3) := by decide +kernel
theorem dX5_blocks0_109 : decode cX5_blocks0 109 = .ok (.iinc 4 1, 3) := by decide +kernel
theorem dX5_blocks0_112 : decode cX5_blocks0 112 = .ok (.goto (-109), 3) := by decide +kernel
theorem dX5_blocks0_115 : decode cX5_blocks0 115 = .ok (.iconst 0, 1) := by decide +kernel
theorem dX5_blocks0_116 : decode cX5_blocks0 116 = .ok (.ireturn, 1) := by decide +kernel
theorem dX5_blockers_0 : decode cX5_blockers 0 = .ok (.iconst 0, 1) := by decide +kernel
theorem dX5_blockers_1 : decode cX5_blockers 1 = .ok (.istore 4, 2) := by decide +kernel
theorem dX5_blockers_3 : decode cX5_blockers 3 = .ok (.iconst 0, 1) := by decide +kernel
theorem dX5_blockers_4 : decode cX5_blockers 4 = .ok (.istore 5, 2) := by decide +kernel
theorem dX5_blockers_6 : decode cX5_blockers 6 = .ok (.iload 5, 2) := by decide +kernel
theorem dX5_blockers_8 : decode cX5_blockers 8 = .ok (.aload_n 0, 1) := by decide +kernel
theorem dX5_blockers_9 : decode cX5_blockers 9 = .ok (.getfield 60, 3) := by decide +kernel
theorem dX5_blockers_12 : decode cX5_blockers 12 = .ok (.if_icmp .ge 49, 3) := by decide +kernel
theorem dX5_blockers_15 : decode cX5_blockers 15 = .ok (.iload 4, 2) := by decide +kernel
theorem dX5_blockers_17 : decode cX5_blockers 17 = .ok (.iload 5, 2) := by decide +kernel
theorem dX5_blockers_19 : decode cX5_blockers 19 = .ok (.iload_n 1, 1) := by decide +kernel
theorem dX5_blockers_20 : decode cX5_blockers 20 = .ok (.if_icmp .eq 31, 3) := by decide +kernel
theorem dX5_blockers_23 : decode cX5_blockers 23 = .ok (.iload_n 3, 1) := by decide +kernel
theorem dX5_blockers_24 : decode cX5_blockers 24 = .ok (.iload 5, 2) := by decide +kernel
theorem dX5_blockers_26 : decode cX5_blockers 26 = .ok (.ishr, 1) := by decide +kernel
theorem dX5_blockers_27 : decode cX5_blockers 27 = .ok (.iconst 1, 1) := by decide +kernel
theorem dX5_blockers_28 : decode cX5_blockers 28 = .ok (.iand, 1) := by decide +kernel
theorem dX5_blockers_29 : decode cX5_blockers 29 = .ok (.iconst 1, 1) := by decide +kernel
theorem dX5_blockers_30 : decode cX5_blockers 30 = .ok (.if_icmp .ne 21, 3) := by decide +kernel
theorem dX5_blockers_33 : decode cX5_blockers 33 = .ok (.aload_n 0, 1) := by decide +kernel
theorem dX5_blockers_34 : decode cX5_blockers 34 = .ok (.iload 5, 2) := by decide +kernel
theorem dX5_blockers_36 : decode cX5_blockers 36 = .ok (.iload_n 1, 1) := by decide +kernel
theorem dX5_blockers_37 : decode cX5_blockers 37 = .ok (.iload_n 2, 1) := by decide +kernel
theorem dX5_blockers_38 : decode cX5_blockers 38 = .ok (.invokevirtual 115, 3) := by decide +kernel
theorem dX5_blockers_41 : decode cX5_blockers 41 = .ok (.ifCond .eq 10, 3) := by decide +kernel
theorem dX5_blockers_44 : decode cX5_blockers 44 = .ok (.iconst 1, 1) := by decide +kernel
theorem dX5_blockers_45 : decode cX5_blockers 45 = .ok (.iload 5, 2) := by decide +kernel
theorem dX5_blockers_47 : decode cX5_blockers 47 = .ok (.ishl, 1) := by decide +kernel
theorem dX5_blockers_48 : decode cX5_blockers 48 = .ok (.goto 4, 3) := by decide +kernel
theorem dX5_blockers_51 : decode cX5_blockers 51 = .ok (.iconst 0, 1) := by decide +kernel
theorem dX5_blockers_52 : decode cX5_blockers 52 = .ok (.ior, 1) := by decide +kernel
theorem dX5_blockers_53 : decode cX5_blockers 53 = .ok (.istore 4, 2) := by decide +kernel
theorem dX5_blockers_55 : decode cX5_blockers 55 = .ok (.iinc 5 1, 3) := by decide +kernel
theorem dX5_blockers_58 : decode cX5_blockers 58 = .ok (.goto (-52), 3) := by decide +kernel
theorem dX5_blockers_61 : decode cX5_blockers 61 = .ok (.iload 4, 2) := by decide +kernel
theorem dX5_blockers_63 : decode cX5_blockers 63 = .ok (.ireturn, 1) := by decide +kernel
theorem dX5_lying_0 : decode cX5_lying 0 = .ok (.iconst 0, 1) := by decide +kernel
theorem dX5_lying_1 : decode cX5_lying 1 = .ok (.istore_n 1, 1) := by decide +kernel
theorem dX5_lying_2 : decode cX5_lying 2 = .ok (.iconst 0, 1) := by decide +kernel
theorem dX5_lying_3 : decode cX5_lying 3 = .ok (.istore_n 2, 1) := by decide +kernel
theorem dX5_lying_4 : decode cX5_lying 4 = .ok (.iload_n 2, 1) := by decide +kernel
theorem dX5_lying_5 : decode cX5_lying 5 = .ok (.aload_n 0, 1) := by decide +kernel
theorem dX5_lying_6 : decode cX5_lying 6 = .ok (.getfield 60, 3) := by decide +kernel
theorem dX5_lying_9 : decode cX5_lying 9 = .ok (.if_icmp .ge 28, 3) := by decide +kernel
theorem dX5_lying_12 : decode cX5_lying 12 = .ok (.iload_n 1, 1) := by decide +kernel
theorem dX5_lying_13 : decode cX5_lying 13 = .ok (.aload_n 0, 1) := by decide +kernel
theorem dX5_lying_14 : decode cX5_lying 14 = .ok (.getfield 29, 3) := by decide +kernel
theorem dX5_lying_17 : decode cX5_lying 17 = .ok (.iload_n 2, 1) := by decide +kernel
theorem dX5_lying_18 : decode cX5_lying 18 = .ok (.baload, 1) := by decide +kernel
theorem dX5_lying_19 : decode cX5_lying 19 = .ok (.ifCond .eq 9, 3) := by decide +kernel
theorem dX5_lying_22 : decode cX5_lying 22 = .ok (.iconst 1, 1) := by decide +kernel
theorem dX5_lying_23 : decode cX5_lying 23 = .ok (.iload_n 2, 1) := by decide +kernel
theorem dX5_lying_24 : decode cX5_lying 24 = .ok (.ishl, 1) := by decide +kernel
theorem dX5_lying_25 : decode cX5_lying 25 = .ok (.goto 4, 3) := by decide +kernel
theorem dX5_lying_28 : decode cX5_lying 28 = .ok (.iconst 0, 1) := by decide +kernel
theorem dX5_lying_29 : decode cX5_lying 29 = .ok (.ior, 1) := by decide +kernel
theorem dX5_lying_30 : decode cX5_lying 30 = .ok (.istore_n 1, 1) := by decide +kernel
theorem dX5_lying_31 : decode cX5_lying 31 = .ok (.iinc 2 1, 3) := by decide +kernel
theorem dX5_lying_34 : decode cX5_lying 34 = .ok (.goto (-30), 3) := by decide +kernel
theorem dX5_lying_37 : decode cX5_lying 37 = .ok (.iload_n 1, 1) := by decide +kernel
theorem dX5_lying_38 : decode cX5_lying 38 = .ok (.ireturn, 1) := by decide +kernel
theorem dX5_blocks_0 : decode cX5_blocks 0 = .ok (.aload_n 0, 1) := by decide +kernel
theorem dX5_blocks_1 : decode cX5_blocks 1 = .ok (.iload_n 1, 1) := by decide +kernel
theorem dX5_blocks_2 : decode cX5_blocks 2 = .ok (.invokevirtual 77, 3) := by decide +kernel
theorem dX5_blocks_5 : decode cX5_blocks 5 = .ok (.ifCond .eq 12, 3) := by decide +kernel
theorem dX5_blocks_8 : decode cX5_blocks 8 = .ok (.iload_n 2, 1) := by decide +kernel
theorem dX5_blocks_9 : decode cX5_blocks 9 = .ok (.iconst 0, 1) := by decide +kernel
theorem dX5_blocks_10 : decode cX5_blocks 10 = .ok (.iconst 3, 1) := by decide +kernel
theorem dX5_blocks_11 : decode cX5_blocks 11 = .ok (.invokestatic 63, 3) := by decide +kernel
theorem dX5_blocks_14 : decode cX5_blocks 14 = .ok (.ifCond .ne 5, 3) := by decide +kernel
theorem dX5_blocks_17 : decode cX5_blocks 17 = .ok (.iconst (-1), 1) := by decide +kernel
theorem dX5_blocks_18 : decode cX5_blocks 18 = .ok (.ireturn, 1) := by decide +kernel
theorem dX5_blocks_19 : decode cX5_blocks 19 = .ok (.aload_n 0, 1) := by decide +kernel
theorem dX5_blocks_20 : decode cX5_blocks 20 = .ok (.getfield 29, 3) := by decide +kernel
theorem dX5_blocks_23 : decode cX5_blocks 23 = .ok (.iload_n 1, 1) := by decide +kernel
theorem dX5_blocks_24 : decode cX5_blocks 24 = .ok (.baload, 1) := by decide +kernel
theorem dX5_blocks_25 : decode cX5_blocks 25 = .ok (.ifCond .eq 16, 3) := by decide +kernel
theorem dX5_blocks_28 : decode cX5_blocks 28 = .ok (.aload_n 0, 1) := by decide +kernel
theorem dX5_blocks_29 : decode cX5_blocks 29 = .ok (.iload_n 1, 1) := by decide +kernel
theorem dX5_blocks_30 : decode cX5_blocks 30 = .ok (.iload_n 2, 1) := by decide +kernel
theorem dX5_blocks_31 : decode cX5_blocks 31 = .ok (.aload_n 0, 1) := by decide +kernel
theorem dX5_blocks_32 : decode cX5_blocks 32 = .ok (.invokevirtual 118, 3) := by decide +kernel
theorem dX5_blocks_35 : decode cX5_blocks 35 = .ok (.invokevirtual 122, 3) := by decide +kernel
theorem dX5_blocks_38 : decode cX5_blocks 38 = .ok (.goto 5, 3) := by decide +kernel
theorem dX5_blocks_41 : decode cX5_blocks 41 = .ok (.bipush (-2), 2) := by decide +kernel
theorem dX5_blocks_43 : decode cX5_blocks 43 = .ok (.ireturn, 1) := by decide +kernel
theorem dX5_lowest_0 : decode cX5_lowest 0 = .ok (.iconst 0, 1) := by decide +kernel
theorem dX5_lowest_1 : decode cX5_lowest 1 = .ok (.istore_n 1, 1) := by decide +kernel
theorem dX5_lowest_2 : decode cX5_lowest 2 = .ok (.iload_n 0, 1) := by decide +kernel
theorem dX5_lowest_3 : decode cX5_lowest 3 = .ok (.iload_n 1, 1) := by decide +kernel
theorem dX5_lowest_4 : decode cX5_lowest 4 = .ok (.ishr, 1) := by decide +kernel
theorem dX5_lowest_5 : decode cX5_lowest 5 = .ok (.iconst 1, 1) := by decide +kernel
theorem dX5_lowest_6 : decode cX5_lowest 6 = .ok (.iand, 1) := by decide +kernel
theorem dX5_lowest_7 : decode cX5_lowest 7 = .ok (.ifCond .ne 9, 3) := by decide +kernel
theorem dX5_lowest_10 : decode cX5_lowest 10 = .ok (.iinc 1 1, 3) := by decide +kernel
theorem dX5_lowest_13 : decode cX5_lowest 13 = .ok (.goto (-11), 3) := by decide +kernel
theorem dX5_lowest_16 : decode cX5_lowest 16 = .ok (.iload_n 1, 1) := by decide +kernel
theorem dX5_lowest_17 : decode cX5_lowest 17 = .ok (.ireturn, 1) := by decide +kernel
theorem dX5_order_0 : decode cX5_order 0 = .ok (.iload_n 1, 1) := by decide +kernel
theorem dX5_order_1 : decode cX5_order 1 = .ok (.iconst 0, 1) := by decide +kernel
theorem dX5_order_2 : decode cX5_order 2 = .ok (.iconst 3, 1) := by decide +kernel
theorem dX5_order_3 : decode cX5_order 3 = .ok (.invokestatic 63, 3) := by decide +kernel
theorem dX5_order_6 : decode cX5_order 6 = .ok (.ifCond .eq 8, 3) := by decide +kernel
theorem dX5_order_9 : decode cX5_order 9 = .ok (.iload_n 2, 1) := by decide +kernel
theorem dX5_order_10 : decode cX5_order 10 = .ok (.iconst (-1), 1) := by decide +kernel
theorem dX5_order_11 : decode cX5_order 11 = .ok (.if_icmp .ge 5, 3) := by decide +kernel
theorem dX5_order_14 : decode cX5_order 14 = .ok (.iconst (-1), 1) := by decide +kernel
theorem dX5_order_15 : decode cX5_order 15 = .ok (.ireturn, 1) := by decide +kernel
theorem dX5_order_16 : decode cX5_order 16 = .ok (.aload_n 0, 1) := by decide +kernel
theorem dX5_order_17 : decode cX5_order 17 = .ok (.invokevirtual 118, 3) := by decide +kernel
theorem dX5_order_20 : decode cX5_order 20 = .ok (.istore_n 3, 1) := by decide +kernel
theorem dX5_order_21 : decode cX5_order 21 = .ok (.iconst 0, 1) := by decide +kernel
theorem dX5_order_22 : decode cX5_order 22 = .ok (.istore 4, 2) := by decide +kernel
theorem dX5_order_24 : decode cX5_order 24 = .ok (.iconst 1, 1) := by decide +kernel
theorem dX5_order_25 : decode cX5_order 25 = .ok (.istore 5, 2) := by decide +kernel
theorem dX5_order_27 : decode cX5_order 27 = .ok (.iload 5, 2) := by decide +kernel
theorem dX5_order_29 : decode cX5_order 29 = .ok (.ifCond .eq 105, 3) := by decide +kernel
theorem dX5_order_32 : decode cX5_order 32 = .ok (.iconst 0, 1) := by decide +kernel
theorem dX5_order_33 : decode cX5_order 33 = .ok (.istore 6, 2) := by decide +kernel
theorem dX5_order_35 : decode cX5_order 35 = .ok (.iconst 0, 1) := by decide +kernel
theorem dX5_order_36 : decode cX5_order 36 = .ok (.istore 7, 2) := by decide +kernel
theorem dX5_order_38 : decode cX5_order 38 = .ok (.iload 7, 2) := by decide +kernel
theorem dX5_order_40 : decode cX5_order 40 = .ok (.aload_n 0, 1) := by decide +kernel
theorem dX5_order_41 : decode cX5_order 41 = .ok (.getfield 60, 3) := by decide +kernel
theorem dX5_order_44 : decode cX5_order 44 = .ok (.if_icmp .ge 43, 3) := by decide +kernel
theorem dX5_order_47 : decode cX5_order 47 = .ok (.iload 6, 2) := by decide +kernel
theorem dX5_order_49 : decode cX5_order 49 = .ok (.iload_n 3, 1) := by decide +kernel
theorem dX5_order_50 : decode cX5_order 50 = .ok (.iload 7, 2) := by decide +kernel
theorem dX5_order_52 : decode cX5_order 52 = .ok (.ishr, 1) := by decide +kernel
theorem dX5_order_53 : decode cX5_order 53 = .ok (.iconst 1, 1) := by decide +kernel
theorem dX5_order_54 : decode cX5_order 54 = .ok (.iand, 1) := by decide +kernel
theorem dX5_order_55 : decode cX5_order 55 = .ok (.iconst 1, 1) := by decide +kernel
theorem dX5_order_56 : decode cX5_order 56 = .ok (.if_icmp .ne 21, 3) := by decide +kernel
theorem dX5_order_59 : decode cX5_order 59 = .ok (.aload_n 0, 1) := by decide +kernel
theorem dX5_order_60 : decode cX5_order 60 = .ok (.iload 7, 2) := by decide +kernel
theorem dX5_order_62 : decode cX5_order 62 = .ok (.iload_n 1, 1) := by decide +kernel
theorem dX5_order_63 : decode cX5_order 63 = .ok (.iload_n 3, 1) := by decide +kernel
theorem dX5_order_64 : decode cX5_order 64 = .ok (.invokevirtual 122, 3) := by decide +kernel
theorem dX5_order_67 : decode cX5_order 67 = .ok (.ifCond .ne 10, 3) := by decide +kernel
theorem dX5_order_70 : decode cX5_order 70 = .ok (.iconst 1, 1) := by decide +kernel
theorem dX5_order_71 : decode cX5_order 71 = .ok (.iload 7, 2) := by decide +kernel
theorem dX5_order_73 : decode cX5_order 73 = .ok (.ishl, 1) := by decide +kernel
theorem dX5_order_74 : decode cX5_order 74 = .ok (.goto 4, 3) := by decide +kernel
theorem dX5_order_77 : decode cX5_order 77 = .ok (.iconst 0, 1) := by decide +kernel
theorem dX5_order_78 : decode cX5_order 78 = .ok (.ior, 1) := by decide +kernel
theorem dX5_order_79 : decode cX5_order 79 = .ok (.istore 6, 2) := by decide +kernel
theorem dX5_order_81 : decode cX5_order 81 = .ok (.iinc 7 1, 3) := by decide +kernel
theorem dX5_order_84 : decode cX5_order 84 = .ok (.goto (-46), 3) := by decide +kernel
theorem dX5_order_87 : decode cX5_order 87 = .ok (.iload 6, 2) := by decide +kernel
theorem dX5_order_89 : decode cX5_order 89 = .ok (.ifCond .eq 7, 3) := by decide +kernel
theorem dX5_order_92 : decode cX5_order 92 = .ok (.iconst 1, 1) := by decide +kernel
theorem dX5_order_93 : decode cX5_order 93 = .ok (.goto 4, 3) := by decide +kernel
theorem dX5_order_96 : decode cX5_order 96 = .ok (.iconst 0, 1) := by decide +kernel
theorem dX5_order_97 : decode cX5_order 97 = .ok (.istore 5, 2) := by decide +kernel
theorem dX5_order_99 : decode cX5_order 99 = .ok (.iload 5, 2) := by decide +kernel
theorem dX5_order_101 : decode cX5_order 101 = .ok (.ifCond .eq 30, 3) := by decide +kernel
theorem dX5_order_104 : decode cX5_order 104 = .ok (.iload 4, 2) := by decide +kernel
theorem dX5_order_106 : decode cX5_order 106 = .ok (.iload_n 2, 1) := by decide +kernel
theorem dX5_order_107 : decode cX5_order 107 = .ok (.if_icmp .ne 9, 3) := by decide +kernel
theorem dX5_order_110 : decode cX5_order 110 = .ok (.iload 6, 2) := by decide +kernel
theorem dX5_order_112 : decode cX5_order 112 = .ok (.invokestatic 125, 3) := by decide +kernel
theorem dX5_order_115 : decode cX5_order 115 = .ok (.ireturn, 1) := by decide +kernel
theorem dX5_order_116 : decode cX5_order 116 = .ok (.iload_n 3, 1) := by decide +kernel
theorem dX5_order_117 : decode cX5_order 117 = .ok (.iconst 1, 1) := by decide +kernel
theorem dX5_order_118 : decode cX5_order 118 = .ok (.iload 6, 2) := by decide +kernel
theorem dX5_order_120 : decode cX5_order 120 = .ok (.invokestatic 125, 3) := by decide +kernel
theorem dX5_order_123 : decode cX5_order 123 = .ok (.ishl, 1) := by decide +kernel
theorem dX5_order_124 : decode cX5_order 124 = .ok (.iconst (-1), 1) := by decide +kernel
theorem dX5_order_125 : decode cX5_order 125 = .ok (.ixor, 1) := by decide +kernel
theorem dX5_order_126 : decode cX5_order 126 = .ok (.iand, 1) := by decide +kernel
theorem dX5_order_127 : decode cX5_order 127 = .ok (.istore_n 3, 1) := by decide +kernel
theorem dX5_order_128 : decode cX5_order 128 = .ok (.iinc 4 1, 3) := by decide +kernel
theorem dX5_order_131 : decode cX5_order 131 = .ok (.goto (-104), 3) := by decide +kernel
theorem dX5_order_134 : decode cX5_order 134 = .ok (.iload_n 2, 1) := by decide +kernel
theorem dX5_order_135 : decode cX5_order 135 = .ok (.ifCond .ge 7, 3) := by decide +kernel
theorem dX5_order_138 : decode cX5_order 138 = .ok (.iload_n 3, 1) := by decide +kernel
theorem dX5_order_139 : decode cX5_order 139 = .ok (.goto 5, 3) := by decide +kernel
theorem dX5_order_142 : decode cX5_order 142 = .ok (.bipush (-4), 2) := by decide +kernel
theorem dX5_order_144 : decode cX5_order 144 = .ok (.ireturn, 1) := by decide +kernel
theorem dX5_apart_0 : decode cX5_apart 0 = .ok (.iload_n 1, 1) := by decide +kernel
theorem dX5_apart_1 : decode cX5_apart 1 = .ok (.iconst (-1), 1) := by decide +kernel
theorem dX5_apart_2 : decode cX5_apart 2 = .ok (.if_icmp .ge 5, 3) := by decide +kernel
theorem dX5_apart_5 : decode cX5_apart 5 = .ok (.iconst (-1), 1) := by decide +kernel
theorem dX5_apart_6 : decode cX5_apart 6 = .ok (.ireturn, 1) := by decide +kernel
theorem dX5_apart_7 : decode cX5_apart 7 = .ok (.aload_n 0, 1) := by decide +kernel
theorem dX5_apart_8 : decode cX5_apart 8 = .ok (.invokevirtual 118, 3) := by decide +kernel
theorem dX5_apart_11 : decode cX5_apart 11 = .ok (.istore_n 2, 1) := by decide +kernel
theorem dX5_apart_12 : decode cX5_apart 12 = .ok (.bipush (-4), 2) := by decide +kernel
theorem dX5_apart_14 : decode cX5_apart 14 = .ok (.istore_n 3, 1) := by decide +kernel
theorem dX5_apart_15 : decode cX5_apart 15 = .ok (.iconst 0, 1) := by decide +kernel
theorem dX5_apart_16 : decode cX5_apart 16 = .ok (.istore 4, 2) := by decide +kernel
theorem dX5_apart_18 : decode cX5_apart 18 = .ok (.iconst 1, 1) := by decide +kernel
theorem dX5_apart_19 : decode cX5_apart 19 = .ok (.istore 5, 2) := by decide +kernel
theorem dX5_apart_21 : decode cX5_apart 21 = .ok (.iload 5, 2) := by decide +kernel
theorem dX5_apart_23 : decode cX5_apart 23 = .ok (.ifCond .eq 97, 3) := by decide +kernel
theorem dX5_apart_26 : decode cX5_apart 26 = .ok (.iconst (-1), 1) := by decide +kernel
theorem dX5_apart_27 : decode cX5_apart 27 = .ok (.istore 6, 2) := by decide +kernel
theorem dX5_apart_29 : decode cX5_apart 29 = .ok (.aload_n 0, 1) := by decide +kernel
theorem dX5_apart_30 : decode cX5_apart 30 = .ok (.getfield 60, 3) := by decide +kernel
theorem dX5_apart_33 : decode cX5_apart 33 = .ok (.iconst 1, 1) := by decide +kernel
theorem dX5_apart_34 : decode cX5_apart 34 = .ok (.isub, 1) := by decide +kernel
theorem dX5_apart_35 : decode cX5_apart 35 = .ok (.istore 7, 2) := by decide +kernel
theorem dX5_apart_37 : decode cX5_apart 37 = .ok (.iload 7, 2) := by decide +kernel
theorem dX5_apart_39 : decode cX5_apart 39 = .ok (.ifCond .lt 37, 3) := by decide +kernel
theorem dX5_apart_42 : decode cX5_apart 42 = .ok (.aload_n 0, 1) := by decide +kernel
theorem dX5_apart_43 : decode cX5_apart 43 = .ok (.getfield 29, 3) := by decide +kernel
theorem dX5_apart_46 : decode cX5_apart 46 = .ok (.iload 7, 2) := by decide +kernel
theorem dX5_apart_48 : decode cX5_apart 48 = .ok (.baload, 1) := by decide +kernel
theorem dX5_apart_49 : decode cX5_apart 49 = .ok (.ifCond .eq 17, 3) := by decide +kernel
theorem dX5_apart_52 : decode cX5_apart 52 = .ok (.aload_n 0, 1) := by decide +kernel
theorem dX5_apart_53 : decode cX5_apart 53 = .ok (.iload 7, 2) := by decide +kernel
theorem dX5_apart_55 : decode cX5_apart 55 = .ok (.invokevirtual 112, 3) := by decide +kernel
theorem dX5_apart_58 : decode cX5_apart 58 = .ok (.ifCond .lt 8, 3) := by decide +kernel
theorem dX5_apart_61 : decode cX5_apart 61 = .ok (.iload 7, 2) := by decide +kernel
theorem dX5_apart_63 : decode cX5_apart 63 = .ok (.goto 5, 3) := by decide +kernel
theorem dX5_apart_66 : decode cX5_apart 66 = .ok (.iload 6, 2) := by decide +kernel
theorem dX5_apart_68 : decode cX5_apart 68 = .ok (.istore 6, 2) := by decide +kernel
theorem dX5_apart_70 : decode cX5_apart 70 = .ok (.iinc 7 (-1), 3) := by decide +kernel
theorem dX5_apart_73 : decode cX5_apart 73 = .ok (.goto (-36), 3) := by decide +kernel
theorem dX5_apart_76 : decode cX5_apart 76 = .ok (.iload 6, 2) := by decide +kernel
theorem dX5_apart_78 : decode cX5_apart 78 = .ok (.ifCond .lt 7, 3) := by decide +kernel
theorem dX5_apart_81 : decode cX5_apart 81 = .ok (.iconst 1, 1) := by decide +kernel
theorem dX5_apart_82 : decode cX5_apart 82 = .ok (.goto 4, 3) := by decide +kernel
theorem dX5_apart_85 : decode cX5_apart 85 = .ok (.iconst 0, 1) := by decide +kernel
theorem dX5_apart_86 : decode cX5_apart 86 = .ok (.istore 5, 2) := by decide +kernel
theorem dX5_apart_88 : decode cX5_apart 88 = .ok (.iload 5, 2) := by decide +kernel
theorem dX5_apart_90 : decode cX5_apart 90 = .ok (.ifCond .eq 27, 3) := by decide +kernel
theorem dX5_apart_93 : decode cX5_apart 93 = .ok (.iload 4, 2) := by decide +kernel
theorem dX5_apart_95 : decode cX5_apart 95 = .ok (.iload_n 1, 1) := by decide +kernel
theorem dX5_apart_96 : decode cX5_apart 96 = .ok (.if_icmp .ne 8, 3) := by decide +kernel
theorem dX5_apart_99 : decode cX5_apart 99 = .ok (.iload 6, 2) := by decide +kernel
theorem dX5_apart_101 : decode cX5_apart 101 = .ok (.goto 4, 3) := by decide +kernel
theorem dX5_apart_104 : decode cX5_apart 104 = .ok (.iload_n 3, 1) := by decide +kernel
theorem dX5_apart_105 : decode cX5_apart 105 = .ok (.istore_n 3, 1) := by decide +kernel
theorem dX5_apart_106 : decode cX5_apart 106 = .ok (.aload_n 0, 1) := by decide +kernel
theorem dX5_apart_107 : decode cX5_apart 107 = .ok (.getfield 29, 3) := by decide +kernel
theorem dX5_apart_110 : decode cX5_apart 110 = .ok (.iload 6, 2) := by decide +kernel
theorem dX5_apart_112 : decode cX5_apart 112 = .ok (.iconst 0, 1) := by decide +kernel
theorem dX5_apart_113 : decode cX5_apart 113 = .ok (.bastore, 1) := by decide +kernel
theorem dX5_apart_114 : decode cX5_apart 114 = .ok (.iinc 4 1, 3) := by decide +kernel
theorem dX5_apart_117 : decode cX5_apart 117 = .ok (.goto (-96), 3) := by decide +kernel
theorem dX5_apart_120 : decode cX5_apart 120 = .ok (.aload_n 0, 1) := by decide +kernel
theorem dX5_apart_121 : decode cX5_apart 121 = .ok (.invokevirtual 118, 3) := by decide +kernel
theorem dX5_apart_124 : decode cX5_apart 124 = .ok (.istore 6, 2) := by decide +kernel
theorem dX5_apart_126 : decode cX5_apart 126 = .ok (.iconst 0, 1) := by decide +kernel
theorem dX5_apart_127 : decode cX5_apart 127 = .ok (.istore 7, 2) := by decide +kernel
theorem dX5_apart_129 : decode cX5_apart 129 = .ok (.iload 7, 2) := by decide +kernel
theorem dX5_apart_131 : decode cX5_apart 131 = .ok (.aload_n 0, 1) := by decide +kernel
theorem dX5_apart_132 : decode cX5_apart 132 = .ok (.getfield 60, 3) := by decide +kernel
theorem dX5_apart_135 : decode cX5_apart 135 = .ok (.if_icmp .ge 31, 3) := by decide +kernel
theorem dX5_apart_138 : decode cX5_apart 138 = .ok (.aload_n 0, 1) := by decide +kernel
theorem dX5_apart_139 : decode cX5_apart 139 = .ok (.getfield 29, 3) := by decide +kernel
theorem dX5_apart_142 : decode cX5_apart 142 = .ok (.iload 7, 2) := by decide +kernel
theorem dX5_apart_144 : decode cX5_apart 144 = .ok (.iload_n 2, 1) := by decide +kernel
theorem dX5_apart_145 : decode cX5_apart 145 = .ok (.iload 7, 2) := by decide +kernel
theorem dX5_apart_147 : decode cX5_apart 147 = .ok (.ishr, 1) := by decide +kernel
theorem dX5_apart_148 : decode cX5_apart 148 = .ok (.iconst 1, 1) := by decide +kernel
theorem dX5_apart_149 : decode cX5_apart 149 = .ok (.iand, 1) := by decide +kernel
theorem dX5_apart_150 : decode cX5_apart 150 = .ok (.iconst 1, 1) := by decide +kernel
theorem dX5_apart_151 : decode cX5_apart 151 = .ok (.if_icmp .ne 7, 3) := by decide +kernel
theorem dX5_apart_154 : decode cX5_apart 154 = .ok (.iconst 1, 1) := by decide +kernel
theorem dX5_apart_155 : decode cX5_apart 155 = .ok (.goto 4, 3) := by decide +kernel
theorem dX5_apart_158 : decode cX5_apart 158 = .ok (.iconst 0, 1) := by decide +kernel
theorem dX5_apart_159 : decode cX5_apart 159 = .ok (.bastore, 1) := by decide +kernel
theorem dX5_apart_160 : decode cX5_apart 160 = .ok (.iinc 7 1, 3) := by decide +kernel
theorem dX5_apart_163 : decode cX5_apart 163 = .ok (.goto (-34), 3) := by decide +kernel
theorem dX5_apart_166 : decode cX5_apart 166 = .ok (.iload_n 1, 1) := by decide +kernel
theorem dX5_apart_167 : decode cX5_apart 167 = .ok (.ifCond .ge 8, 3) := by decide +kernel
theorem dX5_apart_170 : decode cX5_apart 170 = .ok (.iload 6, 2) := by decide +kernel
theorem dX5_apart_172 : decode cX5_apart 172 = .ok (.goto 4, 3) := by decide +kernel
theorem dX5_apart_175 : decode cX5_apart 175 = .ok (.iload_n 3, 1) := by decide +kernel
theorem dX5_apart_176 : decode cX5_apart 176 = .ok (.ireturn, 1) := by decide +kernel
theorem dX5_meet_0 : decode cX5_meet 0 = .ok (.iconst 0, 1) := by decide +kernel
theorem dX5_meet_1 : decode cX5_meet 1 = .ok (.istore 5, 2) := by decide +kernel
theorem dX5_meet_3 : decode cX5_meet 3 = .ok (.iconst 0, 1) := by decide +kernel
theorem dX5_meet_4 : decode cX5_meet 4 = .ok (.istore 6, 2) := by decide +kernel
theorem dX5_meet_6 : decode cX5_meet 6 = .ok (.iload 6, 2) := by decide +kernel
theorem dX5_meet_8 : decode cX5_meet 8 = .ok (.bipush 25, 2) := by decide +kernel
theorem dX5_meet_10 : decode cX5_meet 10 = .ok (.if_icmp .ge 59, 3) := by decide +kernel
theorem dX5_meet_13 : decode cX5_meet 13 = .ok (.iload 5, 2) := by decide +kernel
theorem dX5_meet_15 : decode cX5_meet 15 = .ok (.ifCond .ne 41, 3) := by decide +kernel
theorem dX5_meet_18 : decode cX5_meet 18 = .ok (.aload_n 0, 1) := by decide +kernel
theorem dX5_meet_19 : decode cX5_meet 19 = .ok (.getfield 20, 3) := by decide +kernel
theorem dX5_meet_22 : decode cX5_meet 22 = .ok (.iload_n 1, 1) := by decide +kernel
theorem dX5_meet_23 : decode cX5_meet 23 = .ok (.iaload, 1) := by decide +kernel
theorem dX5_meet_24 : decode cX5_meet 24 = .ok (.iload 6, 2) := by decide +kernel
theorem dX5_meet_26 : decode cX5_meet 26 = .ok (.ishr, 1) := by decide +kernel
theorem dX5_meet_27 : decode cX5_meet 27 = .ok (.iconst 1, 1) := by decide +kernel
theorem dX5_meet_28 : decode cX5_meet 28 = .ok (.iand, 1) := by decide +kernel
theorem dX5_meet_29 : decode cX5_meet 29 = .ok (.iconst 1, 1) := by decide +kernel
theorem dX5_meet_30 : decode cX5_meet 30 = .ok (.if_icmp .ne 30, 3) := by decide +kernel
theorem dX5_meet_33 : decode cX5_meet 33 = .ok (.aload_n 0, 1) := by decide +kernel
theorem dX5_meet_34 : decode cX5_meet 34 = .ok (.iload_n 2, 1) := by decide +kernel
theorem dX5_meet_35 : decode cX5_meet 35 = .ok (.iconst 0, 1) := by decide +kernel
theorem dX5_meet_36 : decode cX5_meet 36 = .ok (.iconst 0, 1) := by decide +kernel
theorem dX5_meet_37 : decode cX5_meet 37 = .ok (.iload_n 3, 1) := by decide +kernel
theorem dX5_meet_38 : decode cX5_meet 38 = .ok (.iload 6, 2) := by decide +kernel
theorem dX5_meet_40 : decode cX5_meet 40 = .ok (.iconst 5, 1) := by decide +kernel
theorem dX5_meet_41 : decode cX5_meet 41 = .ok (.irem, 1) := by decide +kernel
theorem dX5_meet_42 : decode cX5_meet 42 = .ok (.iadd, 1) := by decide +kernel
theorem dX5_meet_43 : decode cX5_meet 43 = .ok (.iload 4, 2) := by decide +kernel
theorem dX5_meet_45 : decode cX5_meet 45 = .ok (.iload 6, 2) := by decide +kernel
theorem dX5_meet_47 : decode cX5_meet 47 = .ok (.iconst 5, 1) := by decide +kernel
theorem dX5_meet_48 : decode cX5_meet 48 = .ok (.idiv, 1) := by decide +kernel
theorem dX5_meet_49 : decode cX5_meet 49 = .ok (.iadd, 1) := by decide +kernel
theorem dX5_meet_50 : decode cX5_meet 50 = .ok (.invokevirtual 67, 3) := by decide +kernel
theorem dX5_meet_53 : decode cX5_meet 53 = .ok (.ifCond .eq 7, 3) := by decide +kernel
theorem dX5_meet_56 : decode cX5_meet 56 = .ok (.iconst 1, 1) := by decide +kernel
theorem dX5_meet_57 : decode cX5_meet 57 = .ok (.goto 4, 3) := by decide +kernel
theorem dX5_meet_60 : decode cX5_meet 60 = .ok (.iconst 0, 1) := by decide +kernel
theorem dX5_meet_61 : decode cX5_meet 61 = .ok (.istore 5, 2) := by decide +kernel
theorem dX5_meet_63 : decode cX5_meet 63 = .ok (.iinc 6 1, 3) := by decide +kernel
theorem dX5_meet_66 : decode cX5_meet 66 = .ok (.goto (-60), 3) := by decide +kernel
theorem dX5_meet_69 : decode cX5_meet 69 = .ok (.iload 5, 2) := by decide +kernel
theorem dX5_meet_71 : decode cX5_meet 71 = .ok (.ireturn, 1) := by decide +kernel
theorem dX5_push_0 : decode cX5_push 0 = .ok (.aload_n 0, 1) := by decide +kernel
theorem dX5_push_1 : decode cX5_push 1 = .ok (.iload_n 1, 1) := by decide +kernel
theorem dX5_push_2 : decode cX5_push 2 = .ok (.invokevirtual 77, 3) := by decide +kernel
theorem dX5_push_5 : decode cX5_push 5 = .ok (.ifCond .eq 25, 3) := by decide +kernel
theorem dX5_push_8 : decode cX5_push 8 = .ok (.aload_n 0, 1) := by decide +kernel
theorem dX5_push_9 : decode cX5_push 9 = .ok (.iload_n 2, 1) := by decide +kernel
theorem dX5_push_10 : decode cX5_push 10 = .ok (.invokevirtual 77, 3) := by decide +kernel
theorem dX5_push_13 : decode cX5_push 13 = .ok (.ifCond .eq 17, 3) := by decide +kernel
theorem dX5_push_16 : decode cX5_push 16 = .ok (.iload_n 1, 1) := by decide +kernel
theorem dX5_push_17 : decode cX5_push 17 = .ok (.iload_n 2, 1) := by decide +kernel
theorem dX5_push_18 : decode cX5_push 18 = .ok (.if_icmp .eq 12, 3) := by decide +kernel
theorem dX5_push_21 : decode cX5_push 21 = .ok (.iload_n 3, 1) := by decide +kernel
theorem dX5_push_22 : decode cX5_push 22 = .ok (.iconst 0, 1) := by decide +kernel
theorem dX5_push_23 : decode cX5_push 23 = .ok (.iconst 1, 1) := by decide +kernel
theorem dX5_push_24 : decode cX5_push 24 = .ok (.invokestatic 63, 3) := by decide +kernel
theorem dX5_push_27 : decode cX5_push 27 = .ok (.ifCond .ne 7, 3) := by decide +kernel
theorem dX5_push_30 : decode cX5_push 30 = .ok (.sipush (-1000), 3) := by decide +kernel
theorem dX5_push_33 : decode cX5_push 33 = .ok (.ireturn, 1) := by decide +kernel
theorem dX5_push_34 : decode cX5_push 34 = .ok (.bipush 99, 2) := by decide +kernel
theorem dX5_push_36 : decode cX5_push 36 = .ok (.istore 4, 2) := by decide +kernel
theorem dX5_push_38 : decode cX5_push 38 = .ok (.bipush 99, 2) := by decide +kernel
theorem dX5_push_40 : decode cX5_push 40 = .ok (.istore 5, 2) := by decide +kernel
theorem dX5_push_42 : decode cX5_push 42 = .ok (.sipush 999, 3) := by decide +kernel
theorem dX5_push_45 : decode cX5_push 45 = .ok (.istore 6, 2) := by decide +kernel
theorem dX5_push_47 : decode cX5_push 47 = .ok (.bipush (-10), 2) := by decide +kernel
theorem dX5_push_49 : decode cX5_push 49 = .ok (.istore 7, 2) := by decide +kernel
theorem dX5_push_51 : decode cX5_push 51 = .ok (.iload 7, 2) := by decide +kernel
theorem dX5_push_53 : decode cX5_push 53 = .ok (.bipush 10, 2) := by decide +kernel
theorem dX5_push_55 : decode cX5_push 55 = .ok (.if_icmp .gt 87, 3) := by decide +kernel
theorem dX5_push_58 : decode cX5_push 58 = .ok (.bipush (-10), 2) := by decide +kernel
theorem dX5_push_60 : decode cX5_push 60 = .ok (.istore 8, 2) := by decide +kernel
theorem dX5_push_62 : decode cX5_push 62 = .ok (.iload 8, 2) := by decide +kernel
theorem dX5_push_64 : decode cX5_push 64 = .ok (.bipush 10, 2) := by decide +kernel
theorem dX5_push_66 : decode cX5_push 66 = .ok (.if_icmp .gt 70, 3) := by decide +kernel
theorem dX5_push_69 : decode cX5_push 69 = .ok (.iload 7, 2) := by decide +kernel
theorem dX5_push_71 : decode cX5_push 71 = .ok (.ifCond .ge 9, 3) := by decide +kernel
theorem dX5_push_74 : decode cX5_push 74 = .ok (.iload 7, 2) := by decide +kernel
theorem dX5_push_76 : decode cX5_push 76 = .ok (.ineg, 1) := by decide +kernel
theorem dX5_push_77 : decode cX5_push 77 = .ok (.goto 5, 3) := by decide +kernel
theorem dX5_push_80 : decode cX5_push 80 = .ok (.iload 7, 2) := by decide +kernel
theorem dX5_push_82 : decode cX5_push 82 = .ok (.iload 8, 2) := by decide +kernel
theorem dX5_push_84 : decode cX5_push 84 = .ok (.ifCond .ge 9, 3) := by decide +kernel
theorem dX5_push_87 : decode cX5_push 87 = .ok (.iload 8, 2) := by decide +kernel
theorem dX5_push_89 : decode cX5_push 89 = .ok (.ineg, 1) := by decide +kernel
theorem dX5_push_90 : decode cX5_push 90 = .ok (.goto 5, 3) := by decide +kernel
theorem dX5_push_93 : decode cX5_push 93 = .ok (.iload 8, 2) := by decide +kernel
theorem dX5_push_95 : decode cX5_push 95 = .ok (.iadd, 1) := by decide +kernel
theorem dX5_push_96 : decode cX5_push 96 = .ok (.istore 9, 2) := by decide +kernel
theorem dX5_push_98 : decode cX5_push 98 = .ok (.iload 9, 2) := by decide +kernel
theorem dX5_push_100 : decode cX5_push 100 = .ok (.iload 6, 2) := by decide +kernel
theorem dX5_push_102 : decode cX5_push 102 = .ok (.if_icmp .ge 28, 3) := by decide +kernel
theorem dX5_push_105 : decode cX5_push 105 = .ok (.aload_n 0, 1) := by decide +kernel
theorem dX5_push_106 : decode cX5_push 106 = .ok (.iload_n 1, 1) := by decide +kernel
theorem dX5_push_107 : decode cX5_push 107 = .ok (.iload_n 2, 1) := by decide +kernel
theorem dX5_push_108 : decode cX5_push 108 = .ok (.iload 7, 2) := by decide +kernel
theorem dX5_push_110 : decode cX5_push 110 = .ok (.iload 8, 2) := by decide +kernel
theorem dX5_push_112 : decode cX5_push 112 = .ok (.invokevirtual 128, 3) := by decide +kernel
theorem dX5_push_115 : decode cX5_push 115 = .ok (.ifCond .ne 15, 3) := by decide +kernel
theorem dX5_push_118 : decode cX5_push 118 = .ok (.iload 9, 2) := by decide +kernel
theorem dX5_push_120 : decode cX5_push 120 = .ok (.istore 6, 2) := by decide +kernel
theorem dX5_push_122 : decode cX5_push 122 = .ok (.iload 7, 2) := by decide +kernel
theorem dX5_push_124 : decode cX5_push 124 = .ok (.istore 4, 2) := by decide +kernel
theorem dX5_push_126 : decode cX5_push 126 = .ok (.iload 8, 2) := by decide +kernel
theorem dX5_push_128 : decode cX5_push 128 = .ok (.istore 5, 2) := by decide +kernel
theorem dX5_push_130 : decode cX5_push 130 = .ok (.iinc 8 1, 3) := by decide +kernel
theorem dX5_push_133 : decode cX5_push 133 = .ok (.goto (-71), 3) := by decide +kernel
theorem dX5_push_136 : decode cX5_push 136 = .ok (.iinc 7 1, 3) := by decide +kernel
theorem dX5_push_139 : decode cX5_push 139 = .ok (.goto (-88), 3) := by decide +kernel
theorem dX5_push_142 : decode cX5_push 142 = .ok (.iload_n 3, 1) := by decide +kernel
theorem dX5_push_143 : decode cX5_push 143 = .ok (.ifCond .ne 8, 3) := by decide +kernel
theorem dX5_push_146 : decode cX5_push 146 = .ok (.iload 4, 2) := by decide +kernel
theorem dX5_push_148 : decode cX5_push 148 = .ok (.goto 5, 3) := by decide +kernel
theorem dX5_push_151 : decode cX5_push 151 = .ok (.iload 5, 2) := by decide +kernel
theorem dX5_push_153 : decode cX5_push 153 = .ok (.ireturn, 1) := by decide +kernel
theorem dX5_rowOf_0 : decode cX5_rowOf 0 = .ok (.aload_n 0, 1) := by decide +kernel
theorem dX5_rowOf_1 : decode cX5_rowOf 1 = .ok (.getfield 20, 3) := by decide +kernel
theorem dX5_rowOf_4 : decode cX5_rowOf 4 = .ok (.iload_n 1, 1) := by decide +kernel
theorem dX5_rowOf_5 : decode cX5_rowOf 5 = .ok (.iaload, 1) := by decide +kernel
theorem dX5_rowOf_6 : decode cX5_rowOf 6 = .ok (.iconst 5, 1) := by decide +kernel
theorem dX5_rowOf_7 : decode cX5_rowOf 7 = .ok (.iload_n 2, 1) := by decide +kernel
theorem dX5_rowOf_8 : decode cX5_rowOf 8 = .ok (.imul, 1) := by decide +kernel
theorem dX5_rowOf_9 : decode cX5_rowOf 9 = .ok (.ishr, 1) := by decide +kernel
theorem dX5_rowOf_10 : decode cX5_rowOf 10 = .ok (.bipush 31, 2) := by decide +kernel
theorem dX5_rowOf_12 : decode cX5_rowOf 12 = .ok (.iand, 1) := by decide +kernel
theorem dX5_rowOf_13 : decode cX5_rowOf 13 = .ok (.ireturn, 1) := by decide +kernel
theorem dX5_isFree_0 : decode cX5_isFree 0 = .ok (.iconst 1, 1) := by decide +kernel
theorem dX5_isFree_1 : decode cX5_isFree 1 = .ok (.istore 4, 2) := by decide +kernel
theorem dX5_isFree_3 : decode cX5_isFree 3 = .ok (.iconst 0, 1) := by decide +kernel
theorem dX5_isFree_4 : decode cX5_isFree 4 = .ok (.istore 5, 2) := by decide +kernel
theorem dX5_isFree_6 : decode cX5_isFree 6 = .ok (.iload 5, 2) := by decide +kernel
theorem dX5_isFree_8 : decode cX5_isFree 8 = .ok (.iconst 5, 1) := by decide +kernel
theorem dX5_isFree_9 : decode cX5_isFree 9 = .ok (.if_icmp .ge 43, 3) := by decide +kernel
theorem dX5_isFree_12 : decode cX5_isFree 12 = .ok (.iload 4, 2) := by decide +kernel
theorem dX5_isFree_14 : decode cX5_isFree 14 = .ok (.ifCond .eq 29, 3) := by decide +kernel
theorem dX5_isFree_17 : decode cX5_isFree 17 = .ok (.aload_n 0, 1) := by decide +kernel
theorem dX5_isFree_18 : decode cX5_isFree 18 = .ok (.getfield 51, 3) := by decide +kernel
theorem dX5_isFree_21 : decode cX5_isFree 21 = .ok (.iload_n 3, 1) := by decide +kernel
theorem dX5_isFree_22 : decode cX5_isFree 22 = .ok (.iload 5, 2) := by decide +kernel
theorem dX5_isFree_24 : decode cX5_isFree 24 = .ok (.iadd, 1) := by decide +kernel
theorem dX5_isFree_25 : decode cX5_isFree 25 = .ok (.iaload, 1) := by decide +kernel
theorem dX5_isFree_26 : decode cX5_isFree 26 = .ok (.aload_n 0, 1) := by decide +kernel
theorem dX5_isFree_27 : decode cX5_isFree 27 = .ok (.iload_n 1, 1) := by decide +kernel
theorem dX5_isFree_28 : decode cX5_isFree 28 = .ok (.iload 5, 2) := by decide +kernel
theorem dX5_isFree_30 : decode cX5_isFree 30 = .ok (.invokevirtual 132, 3) := by decide +kernel
theorem dX5_isFree_33 : decode cX5_isFree 33 = .ok (.iload_n 2, 1) := by decide +kernel
theorem dX5_isFree_34 : decode cX5_isFree 34 = .ok (.ishl, 1) := by decide +kernel
theorem dX5_isFree_35 : decode cX5_isFree 35 = .ok (.iand, 1) := by decide +kernel
theorem dX5_isFree_36 : decode cX5_isFree 36 = .ok (.ifCond .ne 7, 3) := by decide +kernel
theorem dX5_isFree_39 : decode cX5_isFree 39 = .ok (.iconst 1, 1) := by decide +kernel
theorem dX5_isFree_40 : decode cX5_isFree 40 = .ok (.goto 4, 3) := by decide +kernel
theorem dX5_isFree_43 : decode cX5_isFree 43 = .ok (.iconst 0, 1) := by decide +kernel
theorem dX5_isFree_44 : decode cX5_isFree 44 = .ok (.istore 4, 2) := by decide +kernel
theorem dX5_isFree_46 : decode cX5_isFree 46 = .ok (.iinc 5 1, 3) := by decide +kernel
theorem dX5_isFree_49 : decode cX5_isFree 49 = .ok (.goto (-43), 3) := by decide +kernel
theorem dX5_isFree_52 : decode cX5_isFree 52 = .ok (.iload 4, 2) := by decide +kernel
theorem dX5_isFree_54 : decode cX5_isFree 54 = .ok (.ireturn, 1) := by decide +kernel
theorem dX5_fills_0 : decode cX5_fills 0 = .ok (.iconst 0, 1) := by decide +kernel
theorem dX5_fills_1 : decode cX5_fills 1 = .ok (.istore 4, 2) := by decide +kernel
theorem dX5_fills_3 : decode cX5_fills 3 = .ok (.iload 4, 2) := by decide +kernel
theorem dX5_fills_5 : decode cX5_fills 5 = .ok (.bipush 40, 2) := by decide +kernel
theorem dX5_fills_7 : decode cX5_fills 7 = .ok (.if_icmp .ge 17, 3) := by decide +kernel
theorem dX5_fills_10 : decode cX5_fills 10 = .ok (.aload_n 0, 1) := by decide +kernel
theorem dX5_fills_11 : decode cX5_fills 11 = .ok (.getfield 51, 3) := by decide +kernel
theorem dX5_fills_14 : decode cX5_fills 14 = .ok (.iload 4, 2) := by decide +kernel
theorem dX5_fills_16 : decode cX5_fills 16 = .ok (.iconst 0, 1) := by decide +kernel
theorem dX5_fills_17 : decode cX5_fills 17 = .ok (.iastore, 1) := by decide +kernel
theorem dX5_fills_18 : decode cX5_fills 18 = .ok (.iinc 4 1, 3) := by decide +kernel
theorem dX5_fills_21 : decode cX5_fills 21 = .ok (.goto (-18), 3) := by decide +kernel
theorem dX5_fills_24 : decode cX5_fills 24 = .ok (.iconst 0, 1) := by decide +kernel
theorem dX5_fills_25 : decode cX5_fills 25 = .ok (.istore 4, 2) := by decide +kernel
theorem dX5_fills_27 : decode cX5_fills 27 = .ok (.iconst 0, 1) := by decide +kernel
theorem dX5_fills_28 : decode cX5_fills 28 = .ok (.istore 5, 2) := by decide +kernel
theorem dX5_fills_30 : decode cX5_fills 30 = .ok (.iload 5, 2) := by decide +kernel
theorem dX5_fills_32 : decode cX5_fills 32 = .ok (.iload_n 2, 1) := by decide +kernel
theorem dX5_fills_33 : decode cX5_fills 33 = .ok (.if_icmp .ge 154, 3) := by decide +kernel
theorem dX5_fills_36 : decode cX5_fills 36 = .ok (.iload_n 3, 1) := by decide +kernel
theorem dX5_fills_37 : decode cX5_fills 37 = .ok (.iconst 3, 1) := by decide +kernel
theorem dX5_fills_38 : decode cX5_fills 38 = .ok (.iload 5, 2) := by decide +kernel
theorem dX5_fills_40 : decode cX5_fills 40 = .ok (.imul, 1) := by decide +kernel
theorem dX5_fills_41 : decode cX5_fills 41 = .ok (.ishr, 1) := by decide +kernel
theorem dX5_fills_42 : decode cX5_fills 42 = .ok (.bipush 7, 2) := by decide +kernel
theorem dX5_fills_44 : decode cX5_fills 44 = .ok (.iand, 1) := by decide +kernel
theorem dX5_fills_45 : decode cX5_fills 45 = .ok (.istore 6, 2) := by decide +kernel
theorem dX5_fills_47 : decode cX5_fills 47 = .ok (.iconst 0, 1) := by decide +kernel
theorem dX5_fills_48 : decode cX5_fills 48 = .ok (.istore 7, 2) := by decide +kernel
theorem dX5_fills_50 : decode cX5_fills 50 = .ok (.iconst 0, 1) := by decide +kernel
theorem dX5_fills_51 : decode cX5_fills 51 = .ok (.istore 8, 2) := by decide +kernel
theorem dX5_fills_53 : decode cX5_fills 53 = .ok (.aload_n 0, 1) := by decide +kernel
theorem dX5_fills_54 : decode cX5_fills 54 = .ok (.iload 6, 2) := by decide +kernel
theorem dX5_fills_56 : decode cX5_fills 56 = .ok (.iload 7, 2) := by decide +kernel
theorem dX5_fills_58 : decode cX5_fills 58 = .ok (.iload 8, 2) := by decide +kernel
theorem dX5_fills_60 : decode cX5_fills 60 = .ok (.invokevirtual 135, 3) := by decide +kernel
theorem dX5_fills_63 : decode cX5_fills 63 = .ok (.ifCond .ne 29, 3) := by decide +kernel
theorem dX5_fills_66 : decode cX5_fills 66 = .ok (.iinc 7 1, 3) := by decide +kernel
theorem dX5_fills_69 : decode cX5_fills 69 = .ok (.iload 7, 2) := by decide +kernel
theorem dX5_fills_71 : decode cX5_fills 71 = .ok (.iload_n 1, 1) := by decide +kernel
theorem dX5_fills_72 : decode cX5_fills 72 = .ok (.aload_n 0, 1) := by decide +kernel
theorem dX5_fills_73 : decode cX5_fills 73 = .ok (.getfield 23, 3) := by decide +kernel
theorem dX5_fills_76 : decode cX5_fills 76 = .ok (.iload 6, 2) := by decide +kernel
theorem dX5_fills_78 : decode cX5_fills 78 = .ok (.iaload, 1) := by decide +kernel
theorem dX5_fills_79 : decode cX5_fills 79 = .ok (.isub, 1) := by decide +kernel
theorem dX5_fills_80 : decode cX5_fills 80 = .ok (.if_icmp .le (-27), 3) := by decide +kernel
theorem dX5_fills_83 : decode cX5_fills 83 = .ok (.iconst 0, 1) := by decide +kernel
theorem dX5_fills_84 : decode cX5_fills 84 = .ok (.istore 7, 2) := by decide +kernel
theorem dX5_fills_86 : decode cX5_fills 86 = .ok (.iinc 8 1, 3) := by decide +kernel
theorem dX5_fills_89 : decode cX5_fills 89 = .ok (.goto (-36), 3) := by decide +kernel
theorem dX5_fills_92 : decode cX5_fills 92 = .ok (.iconst 0, 1) := by decide +kernel
theorem dX5_fills_93 : decode cX5_fills 93 = .ok (.istore 9, 2) := by decide +kernel
theorem dX5_fills_95 : decode cX5_fills 95 = .ok (.iload 9, 2) := by decide +kernel
theorem dX5_fills_97 : decode cX5_fills 97 = .ok (.iconst 5, 1) := by decide +kernel
theorem dX5_fills_98 : decode cX5_fills 98 = .ok (.if_icmp .ge 33, 3) := by decide +kernel
theorem dX5_fills_101 : decode cX5_fills 101 = .ok (.aload_n 0, 1) := by decide +kernel
theorem dX5_fills_102 : decode cX5_fills 102 = .ok (.getfield 51, 3) := by decide +kernel
theorem dX5_fills_105 : decode cX5_fills 105 = .ok (.iload 8, 2) := by decide +kernel
theorem dX5_fills_107 : decode cX5_fills 107 = .ok (.iload 9, 2) := by decide +kernel
theorem dX5_fills_109 : decode cX5_fills 109 = .ok (.iadd, 1) := by decide +kernel
theorem dX5_fills_110 : decode cX5_fills 110 = .ok (.dup2, 1) := by decide +kernel
theorem dX5_fills_111 : decode cX5_fills 111 = .ok (.iaload, 1) := by decide +kernel
theorem dX5_fills_112 : decode cX5_fills 112 = .ok (.aload_n 0, 1) := by decide +kernel
theorem dX5_fills_113 : decode cX5_fills 113 = .ok (.iload 6, 2) := by decide +kernel
theorem dX5_fills_115 : decode cX5_fills 115 = .ok (.iload 9, 2) := by decide +kernel
theorem dX5_fills_117 : decode cX5_fills 117 = .ok (.invokevirtual 132, 3) := by decide +kernel
theorem dX5_fills_120 : decode cX5_fills 120 = .ok (.iload 7, 2) := by decide +kernel
theorem dX5_fills_122 : decode cX5_fills 122 = .ok (.ishl, 1) := by decide +kernel
theorem dX5_fills_123 : decode cX5_fills 123 = .ok (.ior, 1) := by decide +kernel
theorem dX5_fills_124 : decode cX5_fills 124 = .ok (.iastore, 1) := by decide +kernel
theorem dX5_fills_125 : decode cX5_fills 125 = .ok (.iinc 9 1, 3) := by decide +kernel
theorem dX5_fills_128 : decode cX5_fills 128 = .ok (.goto (-33), 3) := by decide +kernel
theorem dX5_fills_131 : decode cX5_fills 131 = .ok (.aload_n 0, 1) := by decide +kernel
theorem dX5_fills_132 : decode cX5_fills 132 = .ok (.getfield 54, 3) := by decide +kernel
theorem dX5_fills_135 : decode cX5_fills 135 = .ok (.iload 5, 2) := by decide +kernel
theorem dX5_fills_137 : decode cX5_fills 137 = .ok (.iload 7, 2) := by decide +kernel
theorem dX5_fills_139 : decode cX5_fills 139 = .ok (.iastore, 1) := by decide +kernel
theorem dX5_fills_140 : decode cX5_fills 140 = .ok (.aload_n 0, 1) := by decide +kernel
theorem dX5_fills_141 : decode cX5_fills 141 = .ok (.getfield 57, 3) := by decide +kernel
theorem dX5_fills_144 : decode cX5_fills 144 = .ok (.iload 5, 2) := by decide +kernel
theorem dX5_fills_146 : decode cX5_fills 146 = .ok (.iload 8, 2) := by decide +kernel
theorem dX5_fills_148 : decode cX5_fills 148 = .ok (.iastore, 1) := by decide +kernel
theorem dX5_fills_149 : decode cX5_fills 149 = .ok (.iload 8, 2) := by decide +kernel
theorem dX5_fills_151 : decode cX5_fills 151 = .ok (.aload_n 0, 1) := by decide +kernel
theorem dX5_fills_152 : decode cX5_fills 152 = .ok (.getfield 26, 3) := by decide +kernel
theorem dX5_fills_155 : decode cX5_fills 155 = .ok (.iload 6, 2) := by decide +kernel
theorem dX5_fills_157 : decode cX5_fills 157 = .ok (.iaload, 1) := by decide +kernel
theorem dX5_fills_158 : decode cX5_fills 158 = .ok (.iadd, 1) := by decide +kernel
theorem dX5_fills_159 : decode cX5_fills 159 = .ok (.iload 4, 2) := by decide +kernel
theorem dX5_fills_161 : decode cX5_fills 161 = .ok (.if_icmp .le 16, 3) := by decide +kernel
theorem dX5_fills_164 : decode cX5_fills 164 = .ok (.iload 8, 2) := by decide +kernel
theorem dX5_fills_166 : decode cX5_fills 166 = .ok (.aload_n 0, 1) := by decide +kernel
theorem dX5_fills_167 : decode cX5_fills 167 = .ok (.getfield 26, 3) := by decide +kernel
theorem dX5_fills_170 : decode cX5_fills 170 = .ok (.iload 6, 2) := by decide +kernel
theorem dX5_fills_172 : decode cX5_fills 172 = .ok (.iaload, 1) := by decide +kernel
theorem dX5_fills_173 : decode cX5_fills 173 = .ok (.iadd, 1) := by decide +kernel
theorem dX5_fills_174 : decode cX5_fills 174 = .ok (.goto 5, 3) := by decide +kernel
theorem dX5_fills_177 : decode cX5_fills 177 = .ok (.iload 4, 2) := by decide +kernel
theorem dX5_fills_179 : decode cX5_fills 179 = .ok (.istore 4, 2) := by decide +kernel
theorem dX5_fills_181 : decode cX5_fills 181 = .ok (.iinc 5 1, 3) := by decide +kernel
theorem dX5_fills_184 : decode cX5_fills 184 = .ok (.goto (-154), 3) := by decide +kernel
theorem dX5_fills_187 : decode cX5_fills 187 = .ok (.iload 4, 2) := by decide +kernel
theorem dX5_fills_189 : decode cX5_fills 189 = .ok (.ireturn, 1) := by decide +kernel
theorem dX5_strip_0 : decode cX5_strip 0 = .ok (.iload_n 1, 1) := by decide +kernel
theorem dX5_strip_1 : decode cX5_strip 1 = .ok (.iconst 1, 1) := by decide +kernel
theorem dX5_strip_2 : decode cX5_strip 2 = .ok (.bipush 12, 2) := by decide +kernel
theorem dX5_strip_4 : decode cX5_strip 4 = .ok (.invokestatic 63, 3) := by decide +kernel
theorem dX5_strip_7 : decode cX5_strip 7 = .ok (.ifCond .eq 37, 3) := by decide +kernel
theorem dX5_strip_10 : decode cX5_strip 10 = .ok (.iload_n 2, 1) := by decide +kernel
theorem dX5_strip_11 : decode cX5_strip 11 = .ok (.iconst 1, 1) := by decide +kernel
theorem dX5_strip_12 : decode cX5_strip 12 = .ok (.iconst 5, 1) := by decide +kernel
theorem dX5_strip_13 : decode cX5_strip 13 = .ok (.invokestatic 63, 3) := by decide +kernel
theorem dX5_strip_16 : decode cX5_strip 16 = .ok (.ifCond .eq 28, 3) := by decide +kernel
theorem dX5_strip_19 : decode cX5_strip 19 = .ok (.iload_n 3, 1) := by decide +kernel
theorem dX5_strip_20 : decode cX5_strip 20 = .ok (.iconst 0, 1) := by decide +kernel
theorem dX5_strip_21 : decode cX5_strip 21 = .ok (.iconst 1, 1) := by decide +kernel
theorem dX5_strip_22 : decode cX5_strip 22 = .ok (.iconst 3, 1) := by decide +kernel
theorem dX5_strip_23 : decode cX5_strip 23 = .ok (.iload_n 2, 1) := by decide +kernel
theorem dX5_strip_24 : decode cX5_strip 24 = .ok (.imul, 1) := by decide +kernel
theorem dX5_strip_25 : decode cX5_strip 25 = .ok (.ishl, 1) := by decide +kernel
theorem dX5_strip_26 : decode cX5_strip 26 = .ok (.iconst 1, 1) := by decide +kernel
theorem dX5_strip_27 : decode cX5_strip 27 = .ok (.isub, 1) := by decide +kernel
theorem dX5_strip_28 : decode cX5_strip 28 = .ok (.invokestatic 63, 3) := by decide +kernel
theorem dX5_strip_31 : decode cX5_strip 31 = .ok (.ifCond .eq 13, 3) := by decide +kernel
theorem dX5_strip_34 : decode cX5_strip 34 = .ok (.iload 4, 2) := by decide +kernel
theorem dX5_strip_36 : decode cX5_strip 36 = .ok (.iconst 0, 1) := by decide +kernel
theorem dX5_strip_37 : decode cX5_strip 37 = .ok (.iload_n 2, 1) := by decide +kernel
theorem dX5_strip_38 : decode cX5_strip 38 = .ok (.invokestatic 63, 3) := by decide +kernel
theorem dX5_strip_41 : decode cX5_strip 41 = .ok (.ifCond .ne 5, 3) := by decide +kernel
theorem dX5_strip_44 : decode cX5_strip 44 = .ok (.iconst (-1), 1) := by decide +kernel
theorem dX5_strip_45 : decode cX5_strip 45 = .ok (.ireturn, 1) := by decide +kernel
theorem dX5_strip_46 : decode cX5_strip 46 = .ok (.iconst 0, 1) := by decide +kernel
theorem dX5_strip_47 : decode cX5_strip 47 = .ok (.istore 5, 2) := by decide +kernel
theorem dX5_strip_49 : decode cX5_strip 49 = .ok (.iconst 0, 1) := by decide +kernel
theorem dX5_strip_50 : decode cX5_strip 50 = .ok (.istore 6, 2) := by decide +kernel
theorem dX5_strip_52 : decode cX5_strip 52 = .ok (.iload 6, 2) := by decide +kernel
theorem dX5_strip_54 : decode cX5_strip 54 = .ok (.iload_n 2, 1) := by decide +kernel
theorem dX5_strip_55 : decode cX5_strip 55 = .ok (.if_icmp .ge 62, 3) := by decide +kernel
theorem dX5_strip_58 : decode cX5_strip 58 = .ok (.iload_n 3, 1) := by decide +kernel
theorem dX5_strip_59 : decode cX5_strip 59 = .ok (.iconst 3, 1) := by decide +kernel
theorem dX5_strip_60 : decode cX5_strip 60 = .ok (.iload 6, 2) := by decide +kernel
theorem dX5_strip_62 : decode cX5_strip 62 = .ok (.imul, 1) := by decide +kernel
theorem dX5_strip_63 : decode cX5_strip 63 = .ok (.ishr, 1) := by decide +kernel
theorem dX5_strip_64 : decode cX5_strip 64 = .ok (.bipush 7, 2) := by decide +kernel
theorem dX5_strip_66 : decode cX5_strip 66 = .ok (.iand, 1) := by decide +kernel
theorem dX5_strip_67 : decode cX5_strip 67 = .ok (.istore 7, 2) := by decide +kernel
theorem dX5_strip_69 : decode cX5_strip 69 = .ok (.aload_n 0, 1) := by decide +kernel
theorem dX5_strip_70 : decode cX5_strip 70 = .ok (.iload 7, 2) := by decide +kernel
theorem dX5_strip_72 : decode cX5_strip 72 = .ok (.invokevirtual 77, 3) := by decide +kernel
theorem dX5_strip_75 : decode cX5_strip 75 = .ok (.ifCond .eq 25, 3) := by decide +kernel
theorem dX5_strip_78 : decode cX5_strip 78 = .ok (.iload 5, 2) := by decide +kernel
theorem dX5_strip_80 : decode cX5_strip 80 = .ok (.iload 7, 2) := by decide +kernel
theorem dX5_strip_82 : decode cX5_strip 82 = .ok (.ishr, 1) := by decide +kernel
theorem dX5_strip_83 : decode cX5_strip 83 = .ok (.iconst 1, 1) := by decide +kernel
theorem dX5_strip_84 : decode cX5_strip 84 = .ok (.iand, 1) := by decide +kernel
theorem dX5_strip_85 : decode cX5_strip 85 = .ok (.iconst 1, 1) := by decide +kernel
theorem dX5_strip_86 : decode cX5_strip 86 = .ok (.if_icmp .eq 14, 3) := by decide +kernel
theorem dX5_strip_89 : decode cX5_strip 89 = .ok (.aload_n 0, 1) := by decide +kernel
theorem dX5_strip_90 : decode cX5_strip 90 = .ok (.getfield 23, 3) := by decide +kernel
theorem dX5_strip_93 : decode cX5_strip 93 = .ok (.iload 7, 2) := by decide +kernel
theorem dX5_strip_95 : decode cX5_strip 95 = .ok (.iaload, 1) := by decide +kernel
theorem dX5_strip_96 : decode cX5_strip 96 = .ok (.iload_n 1, 1) := by decide +kernel
theorem dX5_strip_97 : decode cX5_strip 97 = .ok (.if_icmp .le 5, 3) := by decide +kernel
theorem dX5_strip_100 : decode cX5_strip 100 = .ok (.iconst (-1), 1) := by decide +kernel
theorem dX5_strip_101 : decode cX5_strip 101 = .ok (.ireturn, 1) := by decide +kernel
theorem dX5_strip_102 : decode cX5_strip 102 = .ok (.iload 5, 2) := by decide +kernel
theorem dX5_strip_104 : decode cX5_strip 104 = .ok (.iconst 1, 1) := by decide +kernel
theorem dX5_strip_105 : decode cX5_strip 105 = .ok (.iload 7, 2) := by decide +kernel
theorem dX5_strip_107 : decode cX5_strip 107 = .ok (.ishl, 1) := by decide +kernel
theorem dX5_strip_108 : decode cX5_strip 108 = .ok (.ior, 1) := by decide +kernel
theorem dX5_strip_109 : decode cX5_strip 109 = .ok (.istore 5, 2) := by decide +kernel
theorem dX5_strip_111 : decode cX5_strip 111 = .ok (.iinc 6 1, 3) := by decide +kernel
theorem dX5_strip_114 : decode cX5_strip 114 = .ok (.goto (-62), 3) := by decide +kernel
theorem dX5_strip_117 : decode cX5_strip 117 = .ok (.aload_n 0, 1) := by decide +kernel
theorem dX5_strip_118 : decode cX5_strip 118 = .ok (.iload_n 1, 1) := by decide +kernel
theorem dX5_strip_119 : decode cX5_strip 119 = .ok (.iload_n 2, 1) := by decide +kernel
theorem dX5_strip_120 : decode cX5_strip 120 = .ok (.iload_n 3, 1) := by decide +kernel
theorem dX5_strip_121 : decode cX5_strip 121 = .ok (.invokevirtual 138, 3) := by decide +kernel
theorem dX5_strip_124 : decode cX5_strip 124 = .ok (.istore 6, 2) := by decide +kernel
theorem dX5_strip_126 : decode cX5_strip 126 = .ok (.iload 4, 2) := by decide +kernel
theorem dX5_strip_128 : decode cX5_strip 128 = .ok (.ifCond .ne 8, 3) := by decide +kernel
theorem dX5_strip_131 : decode cX5_strip 131 = .ok (.iload 6, 2) := by decide +kernel
theorem dX5_strip_133 : decode cX5_strip 133 = .ok (.goto 25, 3) := by decide +kernel
theorem dX5_strip_136 : decode cX5_strip 136 = .ok (.bipush 100, 2) := by decide +kernel
theorem dX5_strip_138 : decode cX5_strip 138 = .ok (.aload_n 0, 1) := by decide +kernel
theorem dX5_strip_139 : decode cX5_strip 139 = .ok (.getfield 57, 3) := by decide +kernel
theorem dX5_strip_142 : decode cX5_strip 142 = .ok (.iload 4, 2) := by decide +kernel
theorem dX5_strip_144 : decode cX5_strip 144 = .ok (.iconst 1, 1) := by decide +kernel
theorem dX5_strip_145 : decode cX5_strip 145 = .ok (.isub, 1) := by decide +kernel
theorem dX5_strip_146 : decode cX5_strip 146 = .ok (.iaload, 1) := by decide +kernel
theorem dX5_strip_147 : decode cX5_strip 147 = .ok (.imul, 1) := by decide +kernel
theorem dX5_strip_148 : decode cX5_strip 148 = .ok (.aload_n 0, 1) := by decide +kernel
theorem dX5_strip_149 : decode cX5_strip 149 = .ok (.getfield 54, 3) := by decide +kernel
theorem dX5_strip_152 : decode cX5_strip 152 = .ok (.iload 4, 2) := by decide +kernel
theorem dX5_strip_154 : decode cX5_strip 154 = .ok (.iconst 1, 1) := by decide +kernel
theorem dX5_strip_155 : decode cX5_strip 155 = .ok (.isub, 1) := by decide +kernel
theorem dX5_strip_156 : decode cX5_strip 156 = .ok (.iaload, 1) := by decide +kernel
theorem dX5_strip_157 : decode cX5_strip 157 = .ok (.iadd, 1) := by decide +kernel
theorem dX5_strip_158 : decode cX5_strip 158 = .ok (.ireturn, 1) := by decide +kernel
theorem dX5_bits_0 : decode cX5_bits 0 = .ok (.iconst 0, 1) := by decide +kernel
theorem dX5_bits_1 : decode cX5_bits 1 = .ok (.istore_n 1, 1) := by decide +kernel
theorem dX5_bits_2 : decode cX5_bits 2 = .ok (.iconst 0, 1) := by decide +kernel
theorem dX5_bits_3 : decode cX5_bits 3 = .ok (.istore_n 2, 1) := by decide +kernel
theorem dX5_bits_4 : decode cX5_bits 4 = .ok (.iload_n 2, 1) := by decide +kernel
theorem dX5_bits_5 : decode cX5_bits 5 = .ok (.bipush 8, 2) := by decide +kernel
theorem dX5_bits_7 : decode cX5_bits 7 = .ok (.if_icmp .ge 17, 3) := by decide +kernel
theorem dX5_bits_10 : decode cX5_bits 10 = .ok (.iload_n 1, 1) := by decide +kernel
theorem dX5_bits_11 : decode cX5_bits 11 = .ok (.iload_n 0, 1) := by decide +kernel
theorem dX5_bits_12 : decode cX5_bits 12 = .ok (.iload_n 2, 1) := by decide +kernel
theorem dX5_bits_13 : decode cX5_bits 13 = .ok (.ishr, 1) := by decide +kernel
theorem dX5_bits_14 : decode cX5_bits 14 = .ok (.iconst 1, 1) := by decide +kernel
theorem dX5_bits_15 : decode cX5_bits 15 = .ok (.iand, 1) := by decide +kernel
theorem dX5_bits_16 : decode cX5_bits 16 = .ok (.iadd, 1) := by decide +kernel
theorem dX5_bits_17 : decode cX5_bits 17 = .ok (.istore_n 1, 1) := by decide +kernel
theorem dX5_bits_18 : decode cX5_bits 18 = .ok (.iinc 2 1, 3) := by decide +kernel
theorem dX5_bits_21 : decode cX5_bits 21 = .ok (.goto (-17), 3) := by decide +kernel
theorem dX5_bits_24 : decode cX5_bits 24 = .ok (.iload_n 1, 1) := by decide +kernel
theorem dX5_bits_25 : decode cX5_bits 25 = .ok (.ireturn, 1) := by decide +kernel
theorem dX5_isOrder_0 : decode cX5_isOrder 0 = .ok (.iconst 0, 1) := by decide +kernel
theorem dX5_isOrder_1 : decode cX5_isOrder 1 = .ok (.istore_n 3, 1) := by decide +kernel
theorem dX5_isOrder_2 : decode cX5_isOrder 2 = .ok (.iconst 0, 1) := by decide +kernel
theorem dX5_isOrder_3 : decode cX5_isOrder 3 = .ok (.istore 4, 2) := by decide +kernel
theorem dX5_isOrder_5 : decode cX5_isOrder 5 = .ok (.iload 4, 2) := by decide +kernel
theorem dX5_isOrder_7 : decode cX5_isOrder 7 = .ok (.iload_n 1, 1) := by decide +kernel
theorem dX5_isOrder_8 : decode cX5_isOrder 8 = .ok (.if_icmp .ge 23, 3) := by decide +kernel
theorem dX5_isOrder_11 : decode cX5_isOrder 11 = .ok (.iload_n 3, 1) := by decide +kernel
theorem dX5_isOrder_12 : decode cX5_isOrder 12 = .ok (.iconst 1, 1) := by decide +kernel
theorem dX5_isOrder_13 : decode cX5_isOrder 13 = .ok (.iload_n 0, 1) := by decide +kernel
theorem dX5_isOrder_14 : decode cX5_isOrder 14 = .ok (.iconst 3, 1) := by decide +kernel
theorem dX5_isOrder_15 : decode cX5_isOrder 15 = .ok (.iload 4, 2) := by decide +kernel
theorem dX5_isOrder_17 : decode cX5_isOrder 17 = .ok (.imul, 1) := by decide +kernel
theorem dX5_isOrder_18 : decode cX5_isOrder 18 = .ok (.ishr, 1) := by decide +kernel
theorem dX5_isOrder_19 : decode cX5_isOrder 19 = .ok (.bipush 7, 2) := by decide +kernel
theorem dX5_isOrder_21 : decode cX5_isOrder 21 = .ok (.iand, 1) := by decide +kernel
theorem dX5_isOrder_22 : decode cX5_isOrder 22 = .ok (.ishl, 1) := by decide +kernel
theorem dX5_isOrder_23 : decode cX5_isOrder 23 = .ok (.ior, 1) := by decide +kernel
theorem dX5_isOrder_24 : decode cX5_isOrder 24 = .ok (.istore_n 3, 1) := by decide +kernel
theorem dX5_isOrder_25 : decode cX5_isOrder 25 = .ok (.iinc 4 1, 3) := by decide +kernel
theorem dX5_isOrder_28 : decode cX5_isOrder 28 = .ok (.goto (-23), 3) := by decide +kernel
theorem dX5_isOrder_31 : decode cX5_isOrder 31 = .ok (.iload_n 3, 1) := by decide +kernel
theorem dX5_isOrder_32 : decode cX5_isOrder 32 = .ok (.iload_n 2, 1) := by decide +kernel
theorem dX5_isOrder_33 : decode cX5_isOrder 33 = .ok (.if_icmp .ne 7, 3) := by decide +kernel
theorem dX5_isOrder_36 : decode cX5_isOrder 36 = .ok (.iconst 1, 1) := by decide +kernel
theorem dX5_isOrder_37 : decode cX5_isOrder 37 = .ok (.goto 4, 3) := by decide +kernel
theorem dX5_isOrder_40 : decode cX5_isOrder 40 = .ok (.iconst 0, 1) := by decide +kernel
theorem dX5_isOrder_41 : decode cX5_isOrder 41 = .ok (.ireturn, 1) := by decide +kernel
theorem dX5_isLower_0 : decode cX5_isLower 0 = .ok (.iconst 0, 1) := by decide +kernel
theorem dX5_isLower_1 : decode cX5_isLower 1 = .ok (.istore_n 2, 1) := by decide +kernel
theorem dX5_isLower_2 : decode cX5_isLower 2 = .ok (.iload_n 0, 1) := by decide +kernel
theorem dX5_isLower_3 : decode cX5_isLower 3 = .ok (.iconst 3, 1) := by decide +kernel
theorem dX5_isLower_4 : decode cX5_isLower 4 = .ok (.iload_n 2, 1) := by decide +kernel
theorem dX5_isLower_5 : decode cX5_isLower 5 = .ok (.imul, 1) := by decide +kernel
theorem dX5_isLower_6 : decode cX5_isLower 6 = .ok (.ishr, 1) := by decide +kernel
theorem dX5_isLower_7 : decode cX5_isLower 7 = .ok (.bipush 7, 2) := by decide +kernel
theorem dX5_isLower_9 : decode cX5_isLower 9 = .ok (.iand, 1) := by decide +kernel
theorem dX5_isLower_10 : decode cX5_isLower 10 = .ok (.iload_n 1, 1) := by decide +kernel
theorem dX5_isLower_11 : decode cX5_isLower 11 = .ok (.iconst 3, 1) := by decide +kernel
theorem dX5_isLower_12 : decode cX5_isLower 12 = .ok (.iload_n 2, 1) := by decide +kernel
theorem dX5_isLower_13 : decode cX5_isLower 13 = .ok (.imul, 1) := by decide +kernel
theorem dX5_isLower_14 : decode cX5_isLower 14 = .ok (.ishr, 1) := by decide +kernel
theorem dX5_isLower_15 : decode cX5_isLower 15 = .ok (.bipush 7, 2) := by decide +kernel
theorem dX5_isLower_17 : decode cX5_isLower 17 = .ok (.iand, 1) := by decide +kernel
theorem dX5_isLower_18 : decode cX5_isLower 18 = .ok (.if_icmp .ne 9, 3) := by decide +kernel
theorem dX5_isLower_21 : decode cX5_isLower 21 = .ok (.iinc 2 1, 3) := by decide +kernel
theorem dX5_isLower_24 : decode cX5_isLower 24 = .ok (.goto (-22), 3) := by decide +kernel
theorem dX5_isLower_27 : decode cX5_isLower 27 = .ok (.iload_n 0, 1) := by decide +kernel
theorem dX5_isLower_28 : decode cX5_isLower 28 = .ok (.iconst 3, 1) := by decide +kernel
theorem dX5_isLower_29 : decode cX5_isLower 29 = .ok (.iload_n 2, 1) := by decide +kernel
theorem dX5_isLower_30 : decode cX5_isLower 30 = .ok (.imul, 1) := by decide +kernel
theorem dX5_isLower_31 : decode cX5_isLower 31 = .ok (.ishr, 1) := by decide +kernel
theorem dX5_isLower_32 : decode cX5_isLower 32 = .ok (.bipush 7, 2) := by decide +kernel
theorem dX5_isLower_34 : decode cX5_isLower 34 = .ok (.iand, 1) := by decide +kernel
theorem dX5_isLower_35 : decode cX5_isLower 35 = .ok (.iload_n 1, 1) := by decide +kernel
theorem dX5_isLower_36 : decode cX5_isLower 36 = .ok (.iconst 3, 1) := by decide +kernel
theorem dX5_isLower_37 : decode cX5_isLower 37 = .ok (.iload_n 2, 1) := by decide +kernel
theorem dX5_isLower_38 : decode cX5_isLower 38 = .ok (.imul, 1) := by decide +kernel
theorem dX5_isLower_39 : decode cX5_isLower 39 = .ok (.ishr, 1) := by decide +kernel
theorem dX5_isLower_40 : decode cX5_isLower 40 = .ok (.bipush 7, 2) := by decide +kernel
theorem dX5_isLower_42 : decode cX5_isLower 42 = .ok (.iand, 1) := by decide +kernel
theorem dX5_isLower_43 : decode cX5_isLower 43 = .ok (.if_icmp .ge 7, 3) := by decide +kernel
theorem dX5_isLower_46 : decode cX5_isLower 46 = .ok (.iconst 1, 1) := by decide +kernel
theorem dX5_isLower_47 : decode cX5_isLower 47 = .ok (.goto 4, 3) := by decide +kernel
theorem dX5_isLower_50 : decode cX5_isLower 50 = .ok (.iconst 0, 1) := by decide +kernel
theorem dX5_isLower_51 : decode cX5_isLower 51 = .ok (.ireturn, 1) := by decide +kernel
theorem dX5_best_0 : decode cX5_best 0 = .ok (.iload_n 1, 1) := by decide +kernel
theorem dX5_best_1 : decode cX5_best 1 = .ok (.iconst 1, 1) := by decide +kernel
theorem dX5_best_2 : decode cX5_best 2 = .ok (.bipush 12, 2) := by decide +kernel
theorem dX5_best_4 : decode cX5_best 4 = .ok (.invokestatic 63, 3) := by decide +kernel
theorem dX5_best_7 : decode cX5_best 7 = .ok (.ifCond .eq 36, 3) := by decide +kernel
theorem dX5_best_10 : decode cX5_best 10 = .ok (.iload_n 2, 1) := by decide +kernel
theorem dX5_best_11 : decode cX5_best 11 = .ok (.iconst 1, 1) := by decide +kernel
theorem dX5_best_12 : decode cX5_best 12 = .ok (.iconst 1, 1) := by decide +kernel
theorem dX5_best_13 : decode cX5_best 13 = .ok (.aload_n 0, 1) := by decide +kernel
theorem dX5_best_14 : decode cX5_best 14 = .ok (.getfield 60, 3) := by decide +kernel
theorem dX5_best_17 : decode cX5_best 17 = .ok (.ishl, 1) := by decide +kernel
theorem dX5_best_18 : decode cX5_best 18 = .ok (.iconst 1, 1) := by decide +kernel
theorem dX5_best_19 : decode cX5_best 19 = .ok (.isub, 1) := by decide +kernel
theorem dX5_best_20 : decode cX5_best 20 = .ok (.invokestatic 63, 3) := by decide +kernel
theorem dX5_best_23 : decode cX5_best 23 = .ok (.ifCond .eq 20, 3) := by decide +kernel
theorem dX5_best_26 : decode cX5_best 26 = .ok (.iload_n 2, 1) := by decide +kernel
theorem dX5_best_27 : decode cX5_best 27 = .ok (.invokestatic 141, 3) := by decide +kernel
theorem dX5_best_30 : decode cX5_best 30 = .ok (.iconst 5, 1) := by decide +kernel
theorem dX5_best_31 : decode cX5_best 31 = .ok (.if_icmp .gt 12, 3) := by decide +kernel
theorem dX5_best_34 : decode cX5_best 34 = .ok (.iload_n 3, 1) := by decide +kernel
theorem dX5_best_35 : decode cX5_best 35 = .ok (.iconst 0, 1) := by decide +kernel
theorem dX5_best_36 : decode cX5_best 36 = .ok (.iconst 1, 1) := by decide +kernel
theorem dX5_best_37 : decode cX5_best 37 = .ok (.invokestatic 63, 3) := by decide +kernel
theorem dX5_best_40 : decode cX5_best 40 = .ok (.ifCond .ne 5, 3) := by decide +kernel
theorem dX5_best_43 : decode cX5_best 43 = .ok (.iconst (-1), 1) := by decide +kernel
theorem dX5_best_44 : decode cX5_best 44 = .ok (.ireturn, 1) := by decide +kernel
theorem dX5_best_45 : decode cX5_best 45 = .ok (.iconst 0, 1) := by decide +kernel
theorem dX5_best_46 : decode cX5_best 46 = .ok (.istore 4, 2) := by decide +kernel
theorem dX5_best_48 : decode cX5_best 48 = .ok (.iload 4, 2) := by decide +kernel
theorem dX5_best_50 : decode cX5_best 50 = .ok (.aload_n 0, 1) := by decide +kernel
theorem dX5_best_51 : decode cX5_best 51 = .ok (.getfield 60, 3) := by decide +kernel
theorem dX5_best_54 : decode cX5_best 54 = .ok (.if_icmp .ge 32, 3) := by decide +kernel
theorem dX5_best_57 : decode cX5_best 57 = .ok (.iload_n 2, 1) := by decide +kernel
theorem dX5_best_58 : decode cX5_best 58 = .ok (.iload 4, 2) := by decide +kernel
theorem dX5_best_60 : decode cX5_best 60 = .ok (.ishr, 1) := by decide +kernel
theorem dX5_best_61 : decode cX5_best 61 = .ok (.iconst 1, 1) := by decide +kernel
theorem dX5_best_62 : decode cX5_best 62 = .ok (.iand, 1) := by decide +kernel
theorem dX5_best_63 : decode cX5_best 63 = .ok (.iconst 1, 1) := by decide +kernel
theorem dX5_best_64 : decode cX5_best 64 = .ok (.if_icmp .ne 16, 3) := by decide +kernel
theorem dX5_best_67 : decode cX5_best 67 = .ok (.aload_n 0, 1) := by decide +kernel
theorem dX5_best_68 : decode cX5_best 68 = .ok (.getfield 23, 3) := by decide +kernel
theorem dX5_best_71 : decode cX5_best 71 = .ok (.iload 4, 2) := by decide +kernel
theorem dX5_best_73 : decode cX5_best 73 = .ok (.iaload, 1) := by decide +kernel
theorem dX5_best_74 : decode cX5_best 74 = .ok (.iload_n 1, 1) := by decide +kernel
theorem dX5_best_75 : decode cX5_best 75 = .ok (.if_icmp .le 5, 3) := by decide +kernel
theorem dX5_best_78 : decode cX5_best 78 = .ok (.iconst (-1), 1) := by decide +kernel
theorem dX5_best_79 : decode cX5_best 79 = .ok (.ireturn, 1) := by decide +kernel
theorem dX5_best_80 : decode cX5_best 80 = .ok (.iinc 4 1, 3) := by decide +kernel
theorem dX5_best_83 : decode cX5_best 83 = .ok (.goto (-35), 3) := by decide +kernel
theorem dX5_best_86 : decode cX5_best 86 = .ok (.iload_n 2, 1) := by decide +kernel
theorem dX5_best_87 : decode cX5_best 87 = .ok (.invokestatic 141, 3) := by decide +kernel
theorem dX5_best_90 : decode cX5_best 90 = .ok (.istore 4, 2) := by decide +kernel
theorem dX5_best_92 : decode cX5_best 92 = .ok (.sipush 999, 3) := by decide +kernel
theorem dX5_best_95 : decode cX5_best 95 = .ok (.istore 5, 2) := by decide +kernel
theorem dX5_best_97 : decode cX5_best 97 = .ok (.iconst 0, 1) := by decide +kernel
theorem dX5_best_98 : decode cX5_best 98 = .ok (.istore 6, 2) := by decide +kernel
theorem dX5_best_100 : decode cX5_best 100 = .ok (.iconst 0, 1) := by decide +kernel
theorem dX5_best_101 : decode cX5_best 101 = .ok (.istore 7, 2) := by decide +kernel
theorem dX5_best_103 : decode cX5_best 103 = .ok (.iload 7, 2) := by decide +kernel
theorem dX5_best_105 : decode cX5_best 105 = .ok (.iconst 1, 1) := by decide +kernel
theorem dX5_best_106 : decode cX5_best 106 = .ok (.iconst 3, 1) := by decide +kernel
theorem dX5_best_107 : decode cX5_best 107 = .ok (.iload 4, 2) := by decide +kernel
theorem dX5_best_109 : decode cX5_best 109 = .ok (.imul, 1) := by decide +kernel
theorem dX5_best_110 : decode cX5_best 110 = .ok (.ishl, 1) := by decide +kernel
theorem dX5_best_111 : decode cX5_best 111 = .ok (.if_icmp .ge 63, 3) := by decide +kernel
theorem dX5_best_114 : decode cX5_best 114 = .ok (.iload 7, 2) := by decide +kernel
theorem dX5_best_116 : decode cX5_best 116 = .ok (.iload 4, 2) := by decide +kernel
theorem dX5_best_118 : decode cX5_best 118 = .ok (.iload_n 2, 1) := by decide +kernel
theorem dX5_best_119 : decode cX5_best 119 = .ok (.invokestatic 144, 3) := by decide +kernel
theorem dX5_best_122 : decode cX5_best 122 = .ok (.ifCond .eq 46, 3) := by decide +kernel
theorem dX5_best_125 : decode cX5_best 125 = .ok (.aload_n 0, 1) := by decide +kernel
theorem dX5_best_126 : decode cX5_best 126 = .ok (.iload_n 1, 1) := by decide +kernel
theorem dX5_best_127 : decode cX5_best 127 = .ok (.iload 4, 2) := by decide +kernel
theorem dX5_best_129 : decode cX5_best 129 = .ok (.iload 7, 2) := by decide +kernel
theorem dX5_best_131 : decode cX5_best 131 = .ok (.invokevirtual 138, 3) := by decide +kernel
theorem dX5_best_134 : decode cX5_best 134 = .ok (.istore 8, 2) := by decide +kernel
theorem dX5_best_136 : decode cX5_best 136 = .ok (.iload 8, 2) := by decide +kernel
theorem dX5_best_138 : decode cX5_best 138 = .ok (.iload 5, 2) := by decide +kernel
theorem dX5_best_140 : decode cX5_best 140 = .ok (.if_icmp .lt 20, 3) := by decide +kernel
theorem dX5_best_143 : decode cX5_best 143 = .ok (.iload 8, 2) := by decide +kernel
theorem dX5_best_145 : decode cX5_best 145 = .ok (.iload 5, 2) := by decide +kernel
theorem dX5_best_147 : decode cX5_best 147 = .ok (.if_icmp .ne 21, 3) := by decide +kernel
theorem dX5_best_150 : decode cX5_best 150 = .ok (.iload 7, 2) := by decide +kernel
theorem dX5_best_152 : decode cX5_best 152 = .ok (.iload 6, 2) := by decide +kernel
theorem dX5_best_154 : decode cX5_best 154 = .ok (.invokestatic 147, 3) := by decide +kernel
theorem dX5_best_157 : decode cX5_best 157 = .ok (.ifCond .eq 11, 3) := by decide +kernel
theorem dX5_best_160 : decode cX5_best 160 = .ok (.iload 8, 2) := by decide +kernel
theorem dX5_best_162 : decode cX5_best 162 = .ok (.istore 5, 2) := by decide +kernel
theorem dX5_best_164 : decode cX5_best 164 = .ok (.iload 7, 2) := by decide +kernel
theorem dX5_best_166 : decode cX5_best 166 = .ok (.istore 6, 2) := by decide +kernel
theorem dX5_best_168 : decode cX5_best 168 = .ok (.iinc 7 1, 3) := by decide +kernel
theorem dX5_best_171 : decode cX5_best 171 = .ok (.goto (-68), 3) := by decide +kernel
theorem dX5_best_174 : decode cX5_best 174 = .ok (.iload_n 3, 1) := by decide +kernel
theorem dX5_best_175 : decode cX5_best 175 = .ok (.ifCond .ne 8, 3) := by decide +kernel
theorem dX5_best_178 : decode cX5_best 178 = .ok (.iload 5, 2) := by decide +kernel
theorem dX5_best_180 : decode cX5_best 180 = .ok (.goto 5, 3) := by decide +kernel
theorem dX5_best_183 : decode cX5_best 183 = .ok (.iload 6, 2) := by decide +kernel
theorem dX5_best_185 : decode cX5_best 185 = .ok (.ireturn, 1) := by decide +kernel
theorem dX5_count_0 : decode cX5_count 0 = .ok (.iconst 0, 1) := by decide +kernel
theorem dX5_count_1 : decode cX5_count 1 = .ok (.istore_n 2, 1) := by decide +kernel
theorem dX5_count_2 : decode cX5_count 2 = .ok (.iconst 0, 1) := by decide +kernel
theorem dX5_count_3 : decode cX5_count 3 = .ok (.istore_n 3, 1) := by decide +kernel
theorem dX5_count_4 : decode cX5_count 4 = .ok (.iload_n 3, 1) := by decide +kernel
theorem dX5_count_5 : decode cX5_count 5 = .ok (.aload_n 0, 1) := by decide +kernel
theorem dX5_count_6 : decode cX5_count 6 = .ok (.getfield 13, 3) := by decide +kernel
theorem dX5_count_9 : decode cX5_count 9 = .ok (.if_icmp .ge 41, 3) := by decide +kernel
theorem dX5_count_12 : decode cX5_count 12 = .ok (.iconst 0, 1) := by decide +kernel
theorem dX5_count_13 : decode cX5_count 13 = .ok (.istore 4, 2) := by decide +kernel
theorem dX5_count_15 : decode cX5_count 15 = .ok (.iload 4, 2) := by decide +kernel
theorem dX5_count_17 : decode cX5_count 17 = .ok (.aload_n 0, 1) := by decide +kernel
theorem dX5_count_18 : decode cX5_count 18 = .ok (.getfield 7, 3) := by decide +kernel
theorem dX5_count_21 : decode cX5_count 21 = .ok (.if_icmp .ge 23, 3) := by decide +kernel
theorem dX5_count_24 : decode cX5_count 24 = .ok (.iload_n 2, 1) := by decide +kernel
theorem dX5_count_25 : decode cX5_count 25 = .ok (.aload_n 0, 1) := by decide +kernel
theorem dX5_count_26 : decode cX5_count 26 = .ok (.getfield 16, 3) := by decide +kernel
theorem dX5_count_29 : decode cX5_count 29 = .ok (.iload_n 3, 1) := by decide +kernel
theorem dX5_count_30 : decode cX5_count 30 = .ok (.iaload, 1) := by decide +kernel
theorem dX5_count_31 : decode cX5_count 31 = .ok (.iload 4, 2) := by decide +kernel
theorem dX5_count_33 : decode cX5_count 33 = .ok (.ishr, 1) := by decide +kernel
theorem dX5_count_34 : decode cX5_count 34 = .ok (.iconst 1, 1) := by decide +kernel
theorem dX5_count_35 : decode cX5_count 35 = .ok (.iand, 1) := by decide +kernel
theorem dX5_count_36 : decode cX5_count 36 = .ok (.iadd, 1) := by decide +kernel
theorem dX5_count_37 : decode cX5_count 37 = .ok (.istore_n 2, 1) := by decide +kernel
theorem dX5_count_38 : decode cX5_count 38 = .ok (.iinc 4 1, 3) := by decide +kernel
theorem dX5_count_41 : decode cX5_count 41 = .ok (.goto (-26), 3) := by decide +kernel
theorem dX5_count_44 : decode cX5_count 44 = .ok (.iinc 3 1, 3) := by decide +kernel
theorem dX5_count_47 : decode cX5_count 47 = .ok (.goto (-43), 3) := by decide +kernel
theorem dX5_count_50 : decode cX5_count 50 = .ok (.iload_n 1, 1) := by decide +kernel
theorem dX5_count_51 : decode cX5_count 51 = .ok (.tableswitch 58 0 4 #[33, 38, 43, 48, 56], 33) := by decide +kernel
theorem dX5_count_84 : decode cX5_count 84 = .ok (.aload_n 0, 1) := by decide +kernel
theorem dX5_count_85 : decode cX5_count 85 = .ok (.getfield 7, 3) := by decide +kernel
theorem dX5_count_88 : decode cX5_count 88 = .ok (.ireturn, 1) := by decide +kernel
theorem dX5_count_89 : decode cX5_count 89 = .ok (.aload_n 0, 1) := by decide +kernel
theorem dX5_count_90 : decode cX5_count 90 = .ok (.getfield 13, 3) := by decide +kernel
theorem dX5_count_93 : decode cX5_count 93 = .ok (.ireturn, 1) := by decide +kernel
theorem dX5_count_94 : decode cX5_count 94 = .ok (.aload_n 0, 1) := by decide +kernel
theorem dX5_count_95 : decode cX5_count 95 = .ok (.getfield 60, 3) := by decide +kernel
theorem dX5_count_98 : decode cX5_count 98 = .ok (.ireturn, 1) := by decide +kernel
theorem dX5_count_99 : decode cX5_count 99 = .ok (.aload_n 0, 1) := by decide +kernel
theorem dX5_count_100 : decode cX5_count 100 = .ok (.invokevirtual 118, 3) := by decide +kernel
theorem dX5_count_103 : decode cX5_count 103 = .ok (.invokestatic 141, 3) := by decide +kernel
theorem dX5_count_106 : decode cX5_count 106 = .ok (.ireturn, 1) := by decide +kernel
theorem dX5_count_107 : decode cX5_count 107 = .ok (.iload_n 2, 1) := by decide +kernel
theorem dX5_count_108 : decode cX5_count 108 = .ok (.ireturn, 1) := by decide +kernel
theorem dX5_count_109 : decode cX5_count 109 = .ok (.iconst (-1), 1) := by decide +kernel
theorem dX5_count_110 : decode cX5_count 110 = .ok (.ireturn, 1) := by decide +kernel
