theorem dX4_init_0 : decode cX4_init 0 = .ok (.aload_n 0, 1) := by decide +kernel
theorem dX4_init_1 : decode cX4_init 1 = .ok (.invokespecial 3, 3) := by decide +kernel
theorem dX4_init_4 : decode cX4_init 4 = .ok (.aload_n 0, 1) := by decide +kernel
theorem dX4_init_5 : decode cX4_init 5 = .ok (.new 9, 3) := by decide +kernel
theorem dX4_init_8 : decode cX4_init 8 = .ok (.dup, 1) := by decide +kernel
theorem dX4_init_9 : decode cX4_init 9 = .ok (.invokespecial 11, 3) := by decide +kernel
theorem dX4_init_12 : decode cX4_init 12 = .ok (.putfield 12, 3) := by decide +kernel
theorem dX4_init_15 : decode cX4_init 15 = .ok (.aload_n 0, 1) := by decide +kernel
theorem dX4_init_16 : decode cX4_init 16 = .ok (.new 16, 3) := by decide +kernel
theorem dX4_init_19 : decode cX4_init 19 = .ok (.dup, 1) := by decide +kernel
theorem dX4_init_20 : decode cX4_init 20 = .ok (.aload_n 0, 1) := by decide +kernel
theorem dX4_init_21 : decode cX4_init 21 = .ok (.getfield 12, 3) := by decide +kernel
theorem dX4_init_24 : decode cX4_init 24 = .ok (.invokespecial 18, 3) := by decide +kernel
theorem dX4_init_27 : decode cX4_init 27 = .ok (.putfield 21, 3) := by decide +kernel
theorem dX4_init_30 : decode cX4_init 30 = .ok (.aload_n 0, 1) := by decide +kernel
theorem dX4_init_31 : decode cX4_init 31 = .ok (.new 25, 3) := by decide +kernel
theorem dX4_init_34 : decode cX4_init 34 = .ok (.dup, 1) := by decide +kernel
theorem dX4_init_35 : decode cX4_init 35 = .ok (.aload_n 0, 1) := by decide +kernel
theorem dX4_init_36 : decode cX4_init 36 = .ok (.getfield 12, 3) := by decide +kernel
theorem dX4_init_39 : decode cX4_init 39 = .ok (.aload_n 0, 1) := by decide +kernel
theorem dX4_init_40 : decode cX4_init 40 = .ok (.getfield 21, 3) := by decide +kernel
theorem dX4_init_43 : decode cX4_init 43 = .ok (.invokespecial 27, 3) := by decide +kernel
theorem dX4_init_46 : decode cX4_init 46 = .ok (.putfield 30, 3) := by decide +kernel
theorem dX4_init_49 : decode cX4_init 49 = .ok (.aload_n 0, 1) := by decide +kernel
theorem dX4_init_50 : decode cX4_init 50 = .ok (.new 34, 3) := by decide +kernel
theorem dX4_init_53 : decode cX4_init 53 = .ok (.dup, 1) := by decide +kernel
theorem dX4_init_54 : decode cX4_init 54 = .ok (.aload_n 0, 1) := by decide +kernel
theorem dX4_init_55 : decode cX4_init 55 = .ok (.getfield 12, 3) := by decide +kernel
theorem dX4_init_58 : decode cX4_init 58 = .ok (.invokespecial 36, 3) := by decide +kernel
theorem dX4_init_61 : decode cX4_init 61 = .ok (.putfield 37, 3) := by decide +kernel
theorem dX4_init_64 : decode cX4_init 64 = .ok (.return_, 1) := by decide +kernel
theorem dX4_board_0 : decode cX4_board 0 = .ok (.iload_n 1, 1) := by decide +kernel
theorem dX4_board_1 : decode cX4_board 1 = .ok (.iconst 1, 1) := by decide +kernel
theorem dX4_board_2 : decode cX4_board 2 = .ok (.if_icmp .lt 20, 3) := by decide +kernel
theorem dX4_board_5 : decode cX4_board 5 = .ok (.iload_n 1, 1) := by decide +kernel
theorem dX4_board_6 : decode cX4_board 6 = .ok (.bipush 12, 2) := by decide +kernel
theorem dX4_board_8 : decode cX4_board 8 = .ok (.if_icmp .gt 14, 3) := by decide +kernel
theorem dX4_board_11 : decode cX4_board 11 = .ok (.iload_n 2, 1) := by decide +kernel
theorem dX4_board_12 : decode cX4_board 12 = .ok (.iconst 1, 1) := by decide +kernel
theorem dX4_board_13 : decode cX4_board 13 = .ok (.if_icmp .lt 9, 3) := by decide +kernel
theorem dX4_board_16 : decode cX4_board 16 = .ok (.iload_n 2, 1) := by decide +kernel
theorem dX4_board_17 : decode cX4_board 17 = .ok (.bipush 10, 2) := by decide +kernel
theorem dX4_board_19 : decode cX4_board 19 = .ok (.if_icmp .le 5, 3) := by decide +kernel
theorem dX4_board_22 : decode cX4_board 22 = .ok (.iconst (-1), 1) := by decide +kernel
theorem dX4_board_23 : decode cX4_board 23 = .ok (.ireturn, 1) := by decide +kernel
theorem dX4_board_24 : decode cX4_board 24 = .ok (.aload_n 0, 1) := by decide +kernel
theorem dX4_board_25 : decode cX4_board 25 = .ok (.getfield 12, 3) := by decide +kernel
theorem dX4_board_28 : decode cX4_board 28 = .ok (.iload_n 1, 1) := by decide +kernel
theorem dX4_board_29 : decode cX4_board 29 = .ok (.iload_n 2, 1) := by decide +kernel
theorem dX4_board_30 : decode cX4_board 30 = .ok (.invokevirtual 41, 3) := by decide +kernel
theorem dX4_board_33 : decode cX4_board 33 = .ok (.aload_n 0, 1) := by decide +kernel
theorem dX4_board_34 : decode cX4_board 34 = .ok (.getfield 21, 3) := by decide +kernel
theorem dX4_board_37 : decode cX4_board 37 = .ok (.invokevirtual 45, 3) := by decide +kernel
theorem dX4_board_40 : decode cX4_board 40 = .ok (.iload_n 1, 1) := by decide +kernel
theorem dX4_board_41 : decode cX4_board 41 = .ok (.iload_n 2, 1) := by decide +kernel
theorem dX4_board_42 : decode cX4_board 42 = .ok (.imul, 1) := by decide +kernel
theorem dX4_board_43 : decode cX4_board 43 = .ok (.ireturn, 1) := by decide +kernel
theorem dX4_walls_0 : decode cX4_walls 0 = .ok (.aload_n 0, 1) := by decide +kernel
theorem dX4_walls_1 : decode cX4_walls 1 = .ok (.getfield 12, 3) := by decide +kernel
theorem dX4_walls_4 : decode cX4_walls 4 = .ok (.iload_n 1, 1) := by decide +kernel
theorem dX4_walls_5 : decode cX4_walls 5 = .ok (.invokevirtual 48, 3) := by decide +kernel
theorem dX4_walls_8 : decode cX4_walls 8 = .ok (.ifCond .eq 17, 3) := by decide +kernel
theorem dX4_walls_11 : decode cX4_walls 11 = .ok (.iload_n 2, 1) := by decide +kernel
theorem dX4_walls_12 : decode cX4_walls 12 = .ok (.aload_n 0, 1) := by decide +kernel
theorem dX4_walls_13 : decode cX4_walls 13 = .ok (.getfield 12, 3) := by decide +kernel
theorem dX4_walls_16 : decode cX4_walls 16 = .ok (.invokevirtual 52, 3) := by decide +kernel
theorem dX4_walls_19 : decode cX4_walls 19 = .ok (.iconst (-1), 1) := by decide +kernel
theorem dX4_walls_20 : decode cX4_walls 20 = .ok (.ixor, 1) := by decide +kernel
theorem dX4_walls_21 : decode cX4_walls 21 = .ok (.iand, 1) := by decide +kernel
theorem dX4_walls_22 : decode cX4_walls 22 = .ok (.ifCond .eq 5, 3) := by decide +kernel
theorem dX4_walls_25 : decode cX4_walls 25 = .ok (.iconst (-1), 1) := by decide +kernel
theorem dX4_walls_26 : decode cX4_walls 26 = .ok (.ireturn, 1) := by decide +kernel
theorem dX4_walls_27 : decode cX4_walls 27 = .ok (.aload_n 0, 1) := by decide +kernel
theorem dX4_walls_28 : decode cX4_walls 28 = .ok (.getfield 12, 3) := by decide +kernel
theorem dX4_walls_31 : decode cX4_walls 31 = .ok (.iload_n 1, 1) := by decide +kernel
theorem dX4_walls_32 : decode cX4_walls 32 = .ok (.iload_n 2, 1) := by decide +kernel
theorem dX4_walls_33 : decode cX4_walls 33 = .ok (.invokevirtual 56, 3) := by decide +kernel
theorem dX4_walls_36 : decode cX4_walls 36 = .ok (.ifCond .eq 6, 3) := by decide +kernel
theorem dX4_walls_39 : decode cX4_walls 39 = .ok (.bipush (-2), 2) := by decide +kernel
theorem dX4_walls_41 : decode cX4_walls 41 = .ok (.ireturn, 1) := by decide +kernel
theorem dX4_walls_42 : decode cX4_walls 42 = .ok (.aload_n 0, 1) := by decide +kernel
theorem dX4_walls_43 : decode cX4_walls 43 = .ok (.getfield 12, 3) := by decide +kernel
theorem dX4_walls_46 : decode cX4_walls 46 = .ok (.iload_n 1, 1) := by decide +kernel
theorem dX4_walls_47 : decode cX4_walls 47 = .ok (.iload_n 2, 1) := by decide +kernel
theorem dX4_walls_48 : decode cX4_walls 48 = .ok (.invokevirtual 60, 3) := by decide +kernel
theorem dX4_walls_51 : decode cX4_walls 51 = .ok (.iload_n 2, 1) := by decide +kernel
theorem dX4_walls_52 : decode cX4_walls 52 = .ok (.ireturn, 1) := by decide +kernel
theorem dX4_piece_0 : decode cX4_piece 0 = .ok (.iload_n 1, 1) := by decide +kernel
theorem dX4_piece_1 : decode cX4_piece 1 = .ok (.iconst 1, 1) := by decide +kernel
theorem dX4_piece_2 : decode cX4_piece 2 = .ok (.if_icmp .lt 9, 3) := by decide +kernel
theorem dX4_piece_5 : decode cX4_piece 5 = .ok (.iload_n 1, 1) := by decide +kernel
theorem dX4_piece_6 : decode cX4_piece 6 = .ok (.ldc 63, 2) := by decide +kernel
theorem dX4_piece_8 : decode cX4_piece 8 = .ok (.if_icmp .le 5, 3) := by decide +kernel
theorem dX4_piece_11 : decode cX4_piece 11 = .ok (.iconst (-1), 1) := by decide +kernel
theorem dX4_piece_12 : decode cX4_piece 12 = .ok (.ireturn, 1) := by decide +kernel
theorem dX4_piece_13 : decode cX4_piece 13 = .ok (.aload_n 0, 1) := by decide +kernel
theorem dX4_piece_14 : decode cX4_piece 14 = .ok (.getfield 12, 3) := by decide +kernel
theorem dX4_piece_17 : decode cX4_piece 17 = .ok (.iload_n 1, 1) := by decide +kernel
theorem dX4_piece_18 : decode cX4_piece 18 = .ok (.invokestatic 64, 3) := by decide +kernel
theorem dX4_piece_21 : decode cX4_piece 21 = .ok (.invokevirtual 68, 3) := by decide +kernel
theorem dX4_piece_24 : decode cX4_piece 24 = .ok (.ireturn, 1) := by decide +kernel
theorem dX4_about_0 : decode cX4_about 0 = .ok (.aload_n 0, 1) := by decide +kernel
theorem dX4_about_1 : decode cX4_about 1 = .ok (.getfield 12, 3) := by decide +kernel
theorem dX4_about_4 : decode cX4_about 4 = .ok (.iload_n 1, 1) := by decide +kernel
theorem dX4_about_5 : decode cX4_about 5 = .ok (.invokevirtual 71, 3) := by decide +kernel
theorem dX4_about_8 : decode cX4_about 8 = .ok (.ifCond .ne 5, 3) := by decide +kernel
theorem dX4_about_11 : decode cX4_about 11 = .ok (.iconst (-1), 1) := by decide +kernel
theorem dX4_about_12 : decode cX4_about 12 = .ok (.ireturn, 1) := by decide +kernel
theorem dX4_about_13 : decode cX4_about 13 = .ok (.aload_n 0, 1) := by decide +kernel
theorem dX4_about_14 : decode cX4_about 14 = .ok (.getfield 12, 3) := by decide +kernel
theorem dX4_about_17 : decode cX4_about 17 = .ok (.iload_n 1, 1) := by decide +kernel
theorem dX4_about_18 : decode cX4_about 18 = .ok (.invokevirtual 74, 3) := by decide +kernel
theorem dX4_about_21 : decode cX4_about 21 = .ok (.istore_n 3, 1) := by decide +kernel
theorem dX4_about_22 : decode cX4_about 22 = .ok (.aload_n 0, 1) := by decide +kernel
theorem dX4_about_23 : decode cX4_about 23 = .ok (.getfield 12, 3) := by decide +kernel
theorem dX4_about_26 : decode cX4_about 26 = .ok (.iload_n 1, 1) := by decide +kernel
theorem dX4_about_27 : decode cX4_about 27 = .ok (.invokevirtual 77, 3) := by decide +kernel
theorem dX4_about_30 : decode cX4_about 30 = .ok (.istore 4, 2) := by decide +kernel
theorem dX4_about_32 : decode cX4_about 32 = .ok (.iload_n 2, 1) := by decide +kernel
theorem dX4_about_33 : decode cX4_about 33 = .ok (.tableswitch 135 0 7 #[47, 52, 57, 62, 81, 100, 111, 113], 47) := by decide +kernel
theorem dX4_about_80 : decode cX4_about 80 = .ok (.iload_n 3, 1) := by decide +kernel
theorem dX4_about_81 : decode cX4_about 81 = .ok (.invokestatic 80, 3) := by decide +kernel
theorem dX4_about_84 : decode cX4_about 84 = .ok (.ireturn, 1) := by decide +kernel
theorem dX4_about_85 : decode cX4_about 85 = .ok (.iload_n 3, 1) := by decide +kernel
theorem dX4_about_86 : decode cX4_about 86 = .ok (.invokestatic 85, 3) := by decide +kernel
theorem dX4_about_89 : decode cX4_about 89 = .ok (.ireturn, 1) := by decide +kernel
theorem dX4_about_90 : decode cX4_about 90 = .ok (.iload_n 3, 1) := by decide +kernel
theorem dX4_about_91 : decode cX4_about 91 = .ok (.invokestatic 88, 3) := by decide +kernel
theorem dX4_about_94 : decode cX4_about 94 = .ok (.ireturn, 1) := by decide +kernel
theorem dX4_about_95 : decode cX4_about 95 = .ok (.iload 4, 2) := by decide +kernel
theorem dX4_about_97 : decode cX4_about 97 = .ok (.ifCond .eq 14, 3) := by decide +kernel
theorem dX4_about_100 : decode cX4_about 100 = .ok (.aload_n 0, 1) := by decide +kernel
theorem dX4_about_101 : decode cX4_about 101 = .ok (.getfield 12, 3) := by decide +kernel
theorem dX4_about_104 : decode cX4_about 104 = .ok (.iload_n 1, 1) := by decide +kernel
theorem dX4_about_105 : decode cX4_about 105 = .ok (.invokevirtual 91, 3) := by decide +kernel
theorem dX4_about_108 : decode cX4_about 108 = .ok (.goto 5, 3) := by decide +kernel
theorem dX4_about_111 : decode cX4_about 111 = .ok (.bipush (-100), 2) := by decide +kernel
theorem dX4_about_113 : decode cX4_about 113 = .ok (.ireturn, 1) := by decide +kernel
theorem dX4_about_114 : decode cX4_about 114 = .ok (.iload 4, 2) := by decide +kernel
theorem dX4_about_116 : decode cX4_about 116 = .ok (.ifCond .eq 14, 3) := by decide +kernel
theorem dX4_about_119 : decode cX4_about 119 = .ok (.aload_n 0, 1) := by decide +kernel
theorem dX4_about_120 : decode cX4_about 120 = .ok (.getfield 12, 3) := by decide +kernel
theorem dX4_about_123 : decode cX4_about 123 = .ok (.iload_n 1, 1) := by decide +kernel
theorem dX4_about_124 : decode cX4_about 124 = .ok (.invokevirtual 94, 3) := by decide +kernel
theorem dX4_about_127 : decode cX4_about 127 = .ok (.goto 5, 3) := by decide +kernel
theorem dX4_about_130 : decode cX4_about 130 = .ok (.bipush (-100), 2) := by decide +kernel
theorem dX4_about_132 : decode cX4_about 132 = .ok (.ireturn, 1) := by decide +kernel
theorem dX4_about_133 : decode cX4_about 133 = .ok (.iload 4, 2) := by decide +kernel
theorem dX4_about_135 : decode cX4_about 135 = .ok (.ifCond .eq 7, 3) := by decide +kernel
theorem dX4_about_138 : decode cX4_about 138 = .ok (.iconst 1, 1) := by decide +kernel
theorem dX4_about_139 : decode cX4_about 139 = .ok (.goto 4, 3) := by decide +kernel
theorem dX4_about_142 : decode cX4_about 142 = .ok (.iconst 0, 1) := by decide +kernel
theorem dX4_about_143 : decode cX4_about 143 = .ok (.ireturn, 1) := by decide +kernel
theorem dX4_about_144 : decode cX4_about 144 = .ok (.iload_n 3, 1) := by decide +kernel
theorem dX4_about_145 : decode cX4_about 145 = .ok (.ireturn, 1) := by decide +kernel
theorem dX4_about_146 : decode cX4_about 146 = .ok (.iload 4, 2) := by decide +kernel
theorem dX4_about_148 : decode cX4_about 148 = .ok (.ifCond .eq 18, 3) := by decide +kernel
theorem dX4_about_151 : decode cX4_about 151 = .ok (.aload_n 0, 1) := by decide +kernel
theorem dX4_about_152 : decode cX4_about 152 = .ok (.getfield 21, 3) := by decide +kernel
theorem dX4_about_155 : decode cX4_about 155 = .ok (.iload_n 1, 1) := by decide +kernel
theorem dX4_about_156 : decode cX4_about 156 = .ok (.invokevirtual 97, 3) := by decide +kernel
theorem dX4_about_159 : decode cX4_about 159 = .ok (.ifCond .eq 7, 3) := by decide +kernel
theorem dX4_about_162 : decode cX4_about 162 = .ok (.iconst 1, 1) := by decide +kernel
theorem dX4_about_163 : decode cX4_about 163 = .ok (.goto 4, 3) := by decide +kernel
theorem dX4_about_166 : decode cX4_about 166 = .ok (.iconst 0, 1) := by decide +kernel
theorem dX4_about_167 : decode cX4_about 167 = .ok (.ireturn, 1) := by decide +kernel
theorem dX4_about_168 : decode cX4_about 168 = .ok (.iconst (-1), 1) := by decide +kernel
theorem dX4_about_169 : decode cX4_about 169 = .ok (.ireturn, 1) := by decide +kernel
theorem dX4_put_0 : decode cX4_put 0 = .ok (.aload_n 0, 1) := by decide +kernel
theorem dX4_put_1 : decode cX4_put 1 = .ok (.getfield 12, 3) := by decide +kernel
theorem dX4_put_4 : decode cX4_put 4 = .ok (.iload_n 1, 1) := by decide +kernel
theorem dX4_put_5 : decode cX4_put 5 = .ok (.invokevirtual 71, 3) := by decide +kernel
theorem dX4_put_8 : decode cX4_put 8 = .ok (.ifCond .eq 11, 3) := by decide +kernel
theorem dX4_put_11 : decode cX4_put 11 = .ok (.iload_n 2, 1) := by decide +kernel
theorem dX4_put_12 : decode cX4_put 12 = .ok (.iload_n 3, 1) := by decide +kernel
theorem dX4_put_13 : decode cX4_put 13 = .ok (.invokestatic 100, 3) := by decide +kernel
theorem dX4_put_16 : decode cX4_put 16 = .ok (.ifCond .ne 5, 3) := by decide +kernel
theorem dX4_put_19 : decode cX4_put 19 = .ok (.iconst (-1), 1) := by decide +kernel
theorem dX4_put_20 : decode cX4_put 20 = .ok (.ireturn, 1) := by decide +kernel
theorem dX4_put_21 : decode cX4_put 21 = .ok (.aload_n 0, 1) := by decide +kernel
theorem dX4_put_22 : decode cX4_put 22 = .ok (.getfield 21, 3) := by decide +kernel
theorem dX4_put_25 : decode cX4_put 25 = .ok (.iload_n 1, 1) := by decide +kernel
theorem dX4_put_26 : decode cX4_put 26 = .ok (.iload_n 2, 1) := by decide +kernel
theorem dX4_put_27 : decode cX4_put 27 = .ok (.iload_n 3, 1) := by decide +kernel
theorem dX4_put_28 : decode cX4_put 28 = .ok (.invokevirtual 103, 3) := by decide +kernel
theorem dX4_put_31 : decode cX4_put 31 = .ok (.ifCond .ne 6, 3) := by decide +kernel
theorem dX4_put_34 : decode cX4_put 34 = .ok (.bipush (-2), 2) := by decide +kernel
theorem dX4_put_36 : decode cX4_put 36 = .ok (.ireturn, 1) := by decide +kernel
theorem dX4_put_37 : decode cX4_put 37 = .ok (.aload_n 0, 1) := by decide +kernel
theorem dX4_put_38 : decode cX4_put 38 = .ok (.getfield 12, 3) := by decide +kernel
theorem dX4_put_41 : decode cX4_put 41 = .ok (.iload_n 1, 1) := by decide +kernel
theorem dX4_put_42 : decode cX4_put 42 = .ok (.iload_n 2, 1) := by decide +kernel
theorem dX4_put_43 : decode cX4_put 43 = .ok (.iload_n 3, 1) := by decide +kernel
theorem dX4_put_44 : decode cX4_put 44 = .ok (.invokevirtual 107, 3) := by decide +kernel
theorem dX4_put_47 : decode cX4_put 47 = .ok (.iconst 1, 1) := by decide +kernel
theorem dX4_put_48 : decode cX4_put 48 = .ok (.ireturn, 1) := by decide +kernel
theorem dX4_away_0 : decode cX4_away 0 = .ok (.aload_n 0, 1) := by decide +kernel
theorem dX4_away_1 : decode cX4_away 1 = .ok (.getfield 12, 3) := by decide +kernel
theorem dX4_away_4 : decode cX4_away 4 = .ok (.iload_n 1, 1) := by decide +kernel
theorem dX4_away_5 : decode cX4_away 5 = .ok (.invokevirtual 71, 3) := by decide +kernel
theorem dX4_away_8 : decode cX4_away 8 = .ok (.ifCond .ne 5, 3) := by decide +kernel
theorem dX4_away_11 : decode cX4_away 11 = .ok (.iconst (-1), 1) := by decide +kernel
theorem dX4_away_12 : decode cX4_away 12 = .ok (.ireturn, 1) := by decide +kernel
theorem dX4_away_13 : decode cX4_away 13 = .ok (.aload_n 0, 1) := by decide +kernel
theorem dX4_away_14 : decode cX4_away 14 = .ok (.getfield 12, 3) := by decide +kernel
theorem dX4_away_17 : decode cX4_away 17 = .ok (.iload_n 1, 1) := by decide +kernel
theorem dX4_away_18 : decode cX4_away 18 = .ok (.invokevirtual 77, 3) := by decide +kernel
theorem dX4_away_21 : decode cX4_away 21 = .ok (.ifCond .ne 5, 3) := by decide +kernel
theorem dX4_away_24 : decode cX4_away 24 = .ok (.iconst 0, 1) := by decide +kernel
theorem dX4_away_25 : decode cX4_away 25 = .ok (.ireturn, 1) := by decide +kernel
theorem dX4_away_26 : decode cX4_away 26 = .ok (.aload_n 0, 1) := by decide +kernel
theorem dX4_away_27 : decode cX4_away 27 = .ok (.getfield 12, 3) := by decide +kernel
theorem dX4_away_30 : decode cX4_away 30 = .ok (.iload_n 1, 1) := by decide +kernel
theorem dX4_away_31 : decode cX4_away 31 = .ok (.invokevirtual 111, 3) := by decide +kernel
theorem dX4_away_34 : decode cX4_away 34 = .ok (.iconst 1, 1) := by decide +kernel
theorem dX4_away_35 : decode cX4_away 35 = .ok (.ireturn, 1) := by decide +kernel
theorem dX4_stands_0 : decode cX4_stands 0 = .ok (.aload_n 0, 1) := by decide +kernel
theorem dX4_stands_1 : decode cX4_stands 1 = .ok (.getfield 12, 3) := by decide +kernel
theorem dX4_stands_4 : decode cX4_stands 4 = .ok (.iload_n 1, 1) := by decide +kernel
theorem dX4_stands_5 : decode cX4_stands 5 = .ok (.invokevirtual 71, 3) := by decide +kernel
theorem dX4_stands_8 : decode cX4_stands 8 = .ok (.ifCond .eq 11, 3) := by decide +kernel
theorem dX4_stands_11 : decode cX4_stands 11 = .ok (.iload_n 2, 1) := by decide +kernel
theorem dX4_stands_12 : decode cX4_stands 12 = .ok (.iload_n 3, 1) := by decide +kernel
theorem dX4_stands_13 : decode cX4_stands 13 = .ok (.invokestatic 100, 3) := by decide +kernel
theorem dX4_stands_16 : decode cX4_stands 16 = .ok (.ifCond .ne 5, 3) := by decide +kernel
theorem dX4_stands_19 : decode cX4_stands 19 = .ok (.iconst (-1), 1) := by decide +kernel
theorem dX4_stands_20 : decode cX4_stands 20 = .ok (.ireturn, 1) := by decide +kernel
theorem dX4_stands_21 : decode cX4_stands 21 = .ok (.aload_n 0, 1) := by decide +kernel
theorem dX4_stands_22 : decode cX4_stands 22 = .ok (.getfield 21, 3) := by decide +kernel
theorem dX4_stands_25 : decode cX4_stands 25 = .ok (.iload_n 1, 1) := by decide +kernel
theorem dX4_stands_26 : decode cX4_stands 26 = .ok (.iload_n 2, 1) := by decide +kernel
theorem dX4_stands_27 : decode cX4_stands 27 = .ok (.iload_n 3, 1) := by decide +kernel
theorem dX4_stands_28 : decode cX4_stands 28 = .ok (.invokevirtual 103, 3) := by decide +kernel
theorem dX4_stands_31 : decode cX4_stands 31 = .ok (.ifCond .eq 7, 3) := by decide +kernel
theorem dX4_stands_34 : decode cX4_stands 34 = .ok (.iconst 1, 1) := by decide +kernel
theorem dX4_stands_35 : decode cX4_stands 35 = .ok (.goto 4, 3) := by decide +kernel
theorem dX4_stands_38 : decode cX4_stands 38 = .ok (.iconst 0, 1) := by decide +kernel
theorem dX4_stands_39 : decode cX4_stands 39 = .ok (.ireturn, 1) := by decide +kernel
theorem dX4_slide_0 : decode cX4_slide 0 = .ok (.aload_n 0, 1) := by decide +kernel
theorem dX4_slide_1 : decode cX4_slide 1 = .ok (.getfield 12, 3) := by decide +kernel
theorem dX4_slide_4 : decode cX4_slide 4 = .ok (.iload_n 1, 1) := by decide +kernel
theorem dX4_slide_5 : decode cX4_slide 5 = .ok (.invokevirtual 71, 3) := by decide +kernel
theorem dX4_slide_8 : decode cX4_slide 8 = .ok (.ifCond .eq 21, 3) := by decide +kernel
theorem dX4_slide_11 : decode cX4_slide 11 = .ok (.iload_n 2, 1) := by decide +kernel
theorem dX4_slide_12 : decode cX4_slide 12 = .ok (.invokestatic 115, 3) := by decide +kernel
theorem dX4_slide_15 : decode cX4_slide 15 = .ok (.ifCond .eq 14, 3) := by decide +kernel
theorem dX4_slide_18 : decode cX4_slide 18 = .ok (.iload_n 3, 1) := by decide +kernel
theorem dX4_slide_19 : decode cX4_slide 19 = .ok (.iconst 1, 1) := by decide +kernel
theorem dX4_slide_20 : decode cX4_slide 20 = .ok (.if_icmp .lt 9, 3) := by decide +kernel
theorem dX4_slide_23 : decode cX4_slide 23 = .ok (.iload_n 3, 1) := by decide +kernel
theorem dX4_slide_24 : decode cX4_slide 24 = .ok (.bipush 20, 2) := by decide +kernel
theorem dX4_slide_26 : decode cX4_slide 26 = .ok (.if_icmp .le 5, 3) := by decide +kernel
theorem dX4_slide_29 : decode cX4_slide 29 = .ok (.iconst (-1), 1) := by decide +kernel
theorem dX4_slide_30 : decode cX4_slide 30 = .ok (.ireturn, 1) := by decide +kernel
theorem dX4_slide_31 : decode cX4_slide 31 = .ok (.aload_n 0, 1) := by decide +kernel
theorem dX4_slide_32 : decode cX4_slide 32 = .ok (.getfield 12, 3) := by decide +kernel
theorem dX4_slide_35 : decode cX4_slide 35 = .ok (.iload_n 1, 1) := by decide +kernel
theorem dX4_slide_36 : decode cX4_slide 36 = .ok (.invokevirtual 77, 3) := by decide +kernel
theorem dX4_slide_39 : decode cX4_slide 39 = .ok (.ifCond .ne 6, 3) := by decide +kernel
theorem dX4_slide_42 : decode cX4_slide 42 = .ok (.bipush (-2), 2) := by decide +kernel
theorem dX4_slide_44 : decode cX4_slide 44 = .ok (.ireturn, 1) := by decide +kernel
theorem dX4_slide_45 : decode cX4_slide 45 = .ok (.aload_n 0, 1) := by decide +kernel
theorem dX4_slide_46 : decode cX4_slide 46 = .ok (.getfield 21, 3) := by decide +kernel
theorem dX4_slide_49 : decode cX4_slide 49 = .ok (.iload_n 1, 1) := by decide +kernel
theorem dX4_slide_50 : decode cX4_slide 50 = .ok (.iload_n 2, 1) := by decide +kernel
theorem dX4_slide_51 : decode cX4_slide 51 = .ok (.iload_n 3, 1) := by decide +kernel
theorem dX4_slide_52 : decode cX4_slide 52 = .ok (.invokevirtual 118, 3) := by decide +kernel
theorem dX4_slide_55 : decode cX4_slide 55 = .ok (.istore 4, 2) := by decide +kernel
theorem dX4_slide_57 : decode cX4_slide 57 = .ok (.aload_n 0, 1) := by decide +kernel
theorem dX4_slide_58 : decode cX4_slide 58 = .ok (.getfield 12, 3) := by decide +kernel
theorem dX4_slide_61 : decode cX4_slide 61 = .ok (.iload_n 1, 1) := by decide +kernel
theorem dX4_slide_62 : decode cX4_slide 62 = .ok (.aload_n 0, 1) := by decide +kernel
theorem dX4_slide_63 : decode cX4_slide 63 = .ok (.getfield 12, 3) := by decide +kernel
theorem dX4_slide_66 : decode cX4_slide 66 = .ok (.iload_n 1, 1) := by decide +kernel
theorem dX4_slide_67 : decode cX4_slide 67 = .ok (.invokevirtual 91, 3) := by decide +kernel
theorem dX4_slide_70 : decode cX4_slide 70 = .ok (.iload 4, 2) := by decide +kernel
theorem dX4_slide_72 : decode cX4_slide 72 = .ok (.iload_n 2, 1) := by decide +kernel
theorem dX4_slide_73 : decode cX4_slide 73 = .ok (.invokestatic 122, 3) := by decide +kernel
theorem dX4_slide_76 : decode cX4_slide 76 = .ok (.imul, 1) := by decide +kernel
theorem dX4_slide_77 : decode cX4_slide 77 = .ok (.iadd, 1) := by decide +kernel
theorem dX4_slide_78 : decode cX4_slide 78 = .ok (.aload_n 0, 1) := by decide +kernel
theorem dX4_slide_79 : decode cX4_slide 79 = .ok (.getfield 12, 3) := by decide +kernel
theorem dX4_slide_82 : decode cX4_slide 82 = .ok (.iload_n 1, 1) := by decide +kernel
theorem dX4_slide_83 : decode cX4_slide 83 = .ok (.invokevirtual 94, 3) := by decide +kernel
theorem dX4_slide_86 : decode cX4_slide 86 = .ok (.iload 4, 2) := by decide +kernel
theorem dX4_slide_88 : decode cX4_slide 88 = .ok (.iload_n 2, 1) := by decide +kernel
theorem dX4_slide_89 : decode cX4_slide 89 = .ok (.invokestatic 125, 3) := by decide +kernel
theorem dX4_slide_92 : decode cX4_slide 92 = .ok (.imul, 1) := by decide +kernel
theorem dX4_slide_93 : decode cX4_slide 93 = .ok (.iadd, 1) := by decide +kernel
theorem dX4_slide_94 : decode cX4_slide 94 = .ok (.invokevirtual 107, 3) := by decide +kernel
theorem dX4_slide_97 : decode cX4_slide 97 = .ok (.iload 4, 2) := by decide +kernel
theorem dX4_slide_99 : decode cX4_slide 99 = .ok (.ireturn, 1) := by decide +kernel
theorem dX4_way_0 : decode cX4_way 0 = .ok (.aload_n 0, 1) := by decide +kernel
theorem dX4_way_1 : decode cX4_way 1 = .ok (.getfield 12, 3) := by decide +kernel
theorem dX4_way_4 : decode cX4_way 4 = .ok (.iload_n 1, 1) := by decide +kernel
theorem dX4_way_5 : decode cX4_way 5 = .ok (.invokevirtual 71, 3) := by decide +kernel
theorem dX4_way_8 : decode cX4_way 8 = .ok (.ifCond .eq 11, 3) := by decide +kernel
theorem dX4_way_11 : decode cX4_way 11 = .ok (.iload_n 2, 1) := by decide +kernel
theorem dX4_way_12 : decode cX4_way 12 = .ok (.iload_n 3, 1) := by decide +kernel
theorem dX4_way_13 : decode cX4_way 13 = .ok (.invokestatic 100, 3) := by decide +kernel
theorem dX4_way_16 : decode cX4_way 16 = .ok (.ifCond .ne 5, 3) := by decide +kernel
theorem dX4_way_19 : decode cX4_way 19 = .ok (.iconst (-1), 1) := by decide +kernel
theorem dX4_way_20 : decode cX4_way 20 = .ok (.ireturn, 1) := by decide +kernel
theorem dX4_way_21 : decode cX4_way 21 = .ok (.aload_n 0, 1) := by decide +kernel
theorem dX4_way_22 : decode cX4_way 22 = .ok (.getfield 12, 3) := by decide +kernel
theorem dX4_way_25 : decode cX4_way 25 = .ok (.iload_n 1, 1) := by decide +kernel
theorem dX4_way_26 : decode cX4_way 26 = .ok (.invokevirtual 77, 3) := by decide +kernel
theorem dX4_way_29 : decode cX4_way 29 = .ok (.ifCond .ne 6, 3) := by decide +kernel
theorem dX4_way_32 : decode cX4_way 32 = .ok (.bipush (-2), 2) := by decide +kernel
theorem dX4_way_34 : decode cX4_way 34 = .ok (.ireturn, 1) := by decide +kernel
theorem dX4_way_35 : decode cX4_way 35 = .ok (.aload_n 0, 1) := by decide +kernel
theorem dX4_way_36 : decode cX4_way 36 = .ok (.getfield 21, 3) := by decide +kernel
theorem dX4_way_39 : decode cX4_way 39 = .ok (.iload_n 1, 1) := by decide +kernel
theorem dX4_way_40 : decode cX4_way 40 = .ok (.iload_n 2, 1) := by decide +kernel
theorem dX4_way_41 : decode cX4_way 41 = .ok (.iload_n 3, 1) := by decide +kernel
theorem dX4_way_42 : decode cX4_way 42 = .ok (.invokevirtual 128, 3) := by decide +kernel
theorem dX4_way_45 : decode cX4_way 45 = .ok (.ireturn, 1) := by decide +kernel
theorem dX4_stepOf_0 : decode cX4_stepOf 0 = .ok (.iload_n 1, 1) := by decide +kernel
theorem dX4_stepOf_1 : decode cX4_stepOf 1 = .ok (.ifCond .ge 7, 3) := by decide +kernel
theorem dX4_stepOf_4 : decode cX4_stepOf 4 = .ok (.iconst (-1), 1) := by decide +kernel
theorem dX4_stepOf_5 : decode cX4_stepOf 5 = .ok (.goto 11, 3) := by decide +kernel
theorem dX4_stepOf_8 : decode cX4_stepOf 8 = .ok (.aload_n 0, 1) := by decide +kernel
theorem dX4_stepOf_9 : decode cX4_stepOf 9 = .ok (.getfield 21, 3) := by decide +kernel
theorem dX4_stepOf_12 : decode cX4_stepOf 12 = .ok (.iload_n 1, 1) := by decide +kernel
theorem dX4_stepOf_13 : decode cX4_stepOf 13 = .ok (.invokevirtual 131, 3) := by decide +kernel
theorem dX4_stepOf_16 : decode cX4_stepOf 16 = .ok (.ireturn, 1) := by decide +kernel
theorem dX4_out_0 : decode cX4_out 0 = .ok (.aload_n 0, 1) := by decide +kernel
theorem dX4_out_1 : decode cX4_out 1 = .ok (.getfield 12, 3) := by decide +kernel
theorem dX4_out_4 : decode cX4_out 4 = .ok (.iload_n 1, 1) := by decide +kernel
theorem dX4_out_5 : decode cX4_out 5 = .ok (.invokevirtual 71, 3) := by decide +kernel
theorem dX4_out_8 : decode cX4_out 8 = .ok (.ifCond .ne 5, 3) := by decide +kernel
theorem dX4_out_11 : decode cX4_out 11 = .ok (.iconst (-1), 1) := by decide +kernel
theorem dX4_out_12 : decode cX4_out 12 = .ok (.ireturn, 1) := by decide +kernel
theorem dX4_out_13 : decode cX4_out 13 = .ok (.aload_n 0, 1) := by decide +kernel
theorem dX4_out_14 : decode cX4_out 14 = .ok (.getfield 12, 3) := by decide +kernel
theorem dX4_out_17 : decode cX4_out 17 = .ok (.iload_n 1, 1) := by decide +kernel
theorem dX4_out_18 : decode cX4_out 18 = .ok (.invokevirtual 77, 3) := by decide +kernel
theorem dX4_out_21 : decode cX4_out 21 = .ok (.ifCond .ne 6, 3) := by decide +kernel
theorem dX4_out_24 : decode cX4_out 24 = .ok (.bipush (-2), 2) := by decide +kernel
theorem dX4_out_26 : decode cX4_out 26 = .ok (.ireturn, 1) := by decide +kernel
theorem dX4_out_27 : decode cX4_out 27 = .ok (.aload_n 0, 1) := by decide +kernel
theorem dX4_out_28 : decode cX4_out 28 = .ok (.getfield 21, 3) := by decide +kernel
theorem dX4_out_31 : decode cX4_out 31 = .ok (.iload_n 1, 1) := by decide +kernel
theorem dX4_out_32 : decode cX4_out 32 = .ok (.aload_n 0, 1) := by decide +kernel
theorem dX4_out_33 : decode cX4_out 33 = .ok (.getfield 12, 3) := by decide +kernel
theorem dX4_out_36 : decode cX4_out 36 = .ok (.iload_n 1, 1) := by decide +kernel
theorem dX4_out_37 : decode cX4_out 37 = .ok (.invokevirtual 134, 3) := by decide +kernel
theorem dX4_out_40 : decode cX4_out 40 = .ok (.invokevirtual 137, 3) := by decide +kernel
theorem dX4_out_43 : decode cX4_out 43 = .ok (.ireturn, 1) := by decide +kernel
theorem dX4_places_0 : decode cX4_places 0 = .ok (.aload_n 0, 1) := by decide +kernel
theorem dX4_places_1 : decode cX4_places 1 = .ok (.getfield 12, 3) := by decide +kernel
theorem dX4_places_4 : decode cX4_places 4 = .ok (.iload_n 1, 1) := by decide +kernel
theorem dX4_places_5 : decode cX4_places 5 = .ok (.invokevirtual 71, 3) := by decide +kernel
theorem dX4_places_8 : decode cX4_places 8 = .ok (.ifCond .eq 12, 3) := by decide +kernel
theorem dX4_places_11 : decode cX4_places 11 = .ok (.iload_n 2, 1) := by decide +kernel
theorem dX4_places_12 : decode cX4_places 12 = .ok (.ifCond .lt 8, 3) := by decide +kernel
theorem dX4_places_15 : decode cX4_places 15 = .ok (.iload_n 2, 1) := by decide +kernel
theorem dX4_places_16 : decode cX4_places 16 = .ok (.iconst 1, 1) := by decide +kernel
theorem dX4_places_17 : decode cX4_places 17 = .ok (.if_icmp .le 5, 3) := by decide +kernel
theorem dX4_places_20 : decode cX4_places 20 = .ok (.iconst (-1), 1) := by decide +kernel
theorem dX4_places_21 : decode cX4_places 21 = .ok (.ireturn, 1) := by decide +kernel
theorem dX4_places_22 : decode cX4_places 22 = .ok (.iload_n 2, 1) := by decide +kernel
theorem dX4_places_23 : decode cX4_places 23 = .ok (.ifCond .ne 14, 3) := by decide +kernel
theorem dX4_places_26 : decode cX4_places 26 = .ok (.aload_n 0, 1) := by decide +kernel
theorem dX4_places_27 : decode cX4_places 27 = .ok (.getfield 21, 3) := by decide +kernel
theorem dX4_places_30 : decode cX4_places 30 = .ok (.iload_n 1, 1) := by decide +kernel
theorem dX4_places_31 : decode cX4_places 31 = .ok (.invokevirtual 141, 3) := by decide +kernel
theorem dX4_places_34 : decode cX4_places 34 = .ok (.goto 11, 3) := by decide +kernel
theorem dX4_places_37 : decode cX4_places 37 = .ok (.aload_n 0, 1) := by decide +kernel
theorem dX4_places_38 : decode cX4_places 38 = .ok (.getfield 21, 3) := by decide +kernel
theorem dX4_places_41 : decode cX4_places 41 = .ok (.iload_n 1, 1) := by decide +kernel
theorem dX4_places_42 : decode cX4_places 42 = .ok (.invokevirtual 144, 3) := by decide +kernel
theorem dX4_places_45 : decode cX4_places 45 = .ok (.ireturn, 1) := by decide +kernel
theorem dX4_blocks_0 : decode cX4_blocks 0 = .ok (.aload_n 0, 1) := by decide +kernel
theorem dX4_blocks_1 : decode cX4_blocks 1 = .ok (.getfield 12, 3) := by decide +kernel
theorem dX4_blocks_4 : decode cX4_blocks 4 = .ok (.iload_n 1, 1) := by decide +kernel
theorem dX4_blocks_5 : decode cX4_blocks 5 = .ok (.invokevirtual 71, 3) := by decide +kernel
theorem dX4_blocks_8 : decode cX4_blocks 8 = .ok (.ifCond .eq 10, 3) := by decide +kernel
theorem dX4_blocks_11 : decode cX4_blocks 11 = .ok (.iload_n 2, 1) := by decide +kernel
theorem dX4_blocks_12 : decode cX4_blocks 12 = .ok (.invokestatic 115, 3) := by decide +kernel
theorem dX4_blocks_15 : decode cX4_blocks 15 = .ok (.ifCond .ne 5, 3) := by decide +kernel
theorem dX4_blocks_18 : decode cX4_blocks 18 = .ok (.iconst (-1), 1) := by decide +kernel
theorem dX4_blocks_19 : decode cX4_blocks 19 = .ok (.ireturn, 1) := by decide +kernel
theorem dX4_blocks_20 : decode cX4_blocks 20 = .ok (.aload_n 0, 1) := by decide +kernel
theorem dX4_blocks_21 : decode cX4_blocks 21 = .ok (.getfield 12, 3) := by decide +kernel
theorem dX4_blocks_24 : decode cX4_blocks 24 = .ok (.iload_n 1, 1) := by decide +kernel
theorem dX4_blocks_25 : decode cX4_blocks 25 = .ok (.invokevirtual 77, 3) := by decide +kernel
theorem dX4_blocks_28 : decode cX4_blocks 28 = .ok (.ifCond .ne 6, 3) := by decide +kernel
theorem dX4_blocks_31 : decode cX4_blocks 31 = .ok (.bipush (-2), 2) := by decide +kernel
theorem dX4_blocks_33 : decode cX4_blocks 33 = .ok (.ireturn, 1) := by decide +kernel
theorem dX4_blocks_34 : decode cX4_blocks 34 = .ok (.aload_n 0, 1) := by decide +kernel
theorem dX4_blocks_35 : decode cX4_blocks 35 = .ok (.getfield 12, 3) := by decide +kernel
theorem dX4_blocks_38 : decode cX4_blocks 38 = .ok (.iload_n 1, 1) := by decide +kernel
theorem dX4_blocks_39 : decode cX4_blocks 39 = .ok (.iload_n 2, 1) := by decide +kernel
theorem dX4_blocks_40 : decode cX4_blocks 40 = .ok (.invokevirtual 147, 3) := by decide +kernel
theorem dX4_blocks_43 : decode cX4_blocks 43 = .ok (.ireturn, 1) := by decide +kernel
theorem dX4_order_0 : decode cX4_order 0 = .ok (.iload_n 1, 1) := by decide +kernel
theorem dX4_order_1 : decode cX4_order 1 = .ok (.invokestatic 115, 3) := by decide +kernel
theorem dX4_order_4 : decode cX4_order 4 = .ok (.ifCond .eq 8, 3) := by decide +kernel
theorem dX4_order_7 : decode cX4_order 7 = .ok (.iload_n 2, 1) := by decide +kernel
theorem dX4_order_8 : decode cX4_order 8 = .ok (.iconst (-1), 1) := by decide +kernel
theorem dX4_order_9 : decode cX4_order 9 = .ok (.if_icmp .ge 5, 3) := by decide +kernel
theorem dX4_order_12 : decode cX4_order 12 = .ok (.iconst (-1), 1) := by decide +kernel
theorem dX4_order_13 : decode cX4_order 13 = .ok (.ireturn, 1) := by decide +kernel
theorem dX4_order_14 : decode cX4_order 14 = .ok (.aload_n 0, 1) := by decide +kernel
theorem dX4_order_15 : decode cX4_order 15 = .ok (.getfield 30, 3) := by decide +kernel
theorem dX4_order_18 : decode cX4_order 18 = .ok (.iload_n 1, 1) := by decide +kernel
theorem dX4_order_19 : decode cX4_order 19 = .ok (.invokevirtual 150, 3) := by decide +kernel
theorem dX4_order_22 : decode cX4_order 22 = .ok (.aload_n 0, 1) := by decide +kernel
theorem dX4_order_23 : decode cX4_order 23 = .ok (.getfield 30, 3) := by decide +kernel
theorem dX4_order_26 : decode cX4_order 26 = .ok (.iload_n 2, 1) := by decide +kernel
theorem dX4_order_27 : decode cX4_order 27 = .ok (.invokevirtual 153, 3) := by decide +kernel
theorem dX4_order_30 : decode cX4_order 30 = .ok (.ireturn, 1) := by decide +kernel
theorem dX4_apart_0 : decode cX4_apart 0 = .ok (.iload_n 1, 1) := by decide +kernel
theorem dX4_apart_1 : decode cX4_apart 1 = .ok (.iconst (-1), 1) := by decide +kernel
theorem dX4_apart_2 : decode cX4_apart 2 = .ok (.if_icmp .ge 5, 3) := by decide +kernel
theorem dX4_apart_5 : decode cX4_apart 5 = .ok (.iconst (-1), 1) := by decide +kernel
theorem dX4_apart_6 : decode cX4_apart 6 = .ok (.ireturn, 1) := by decide +kernel
theorem dX4_apart_7 : decode cX4_apart 7 = .ok (.aload_n 0, 1) := by decide +kernel
theorem dX4_apart_8 : decode cX4_apart 8 = .ok (.getfield 30, 3) := by decide +kernel
theorem dX4_apart_11 : decode cX4_apart 11 = .ok (.iconst (-1), 1) := by decide +kernel
theorem dX4_apart_12 : decode cX4_apart 12 = .ok (.invokevirtual 150, 3) := by decide +kernel
theorem dX4_apart_15 : decode cX4_apart 15 = .ok (.aload_n 0, 1) := by decide +kernel
theorem dX4_apart_16 : decode cX4_apart 16 = .ok (.getfield 30, 3) := by decide +kernel
theorem dX4_apart_19 : decode cX4_apart 19 = .ok (.iload_n 1, 1) := by decide +kernel
theorem dX4_apart_20 : decode cX4_apart 20 = .ok (.invokevirtual 153, 3) := by decide +kernel
theorem dX4_apart_23 : decode cX4_apart 23 = .ok (.ireturn, 1) := by decide +kernel
theorem dX4_push_0 : decode cX4_push 0 = .ok (.aload_n 0, 1) := by decide +kernel
theorem dX4_push_1 : decode cX4_push 1 = .ok (.getfield 12, 3) := by decide +kernel
theorem dX4_push_4 : decode cX4_push 4 = .ok (.iload_n 1, 1) := by decide +kernel
theorem dX4_push_5 : decode cX4_push 5 = .ok (.invokevirtual 71, 3) := by decide +kernel
theorem dX4_push_8 : decode cX4_push 8 = .ok (.ifCond .eq 28, 3) := by decide +kernel
theorem dX4_push_11 : decode cX4_push 11 = .ok (.aload_n 0, 1) := by decide +kernel
theorem dX4_push_12 : decode cX4_push 12 = .ok (.getfield 12, 3) := by decide +kernel
theorem dX4_push_15 : decode cX4_push 15 = .ok (.iload_n 2, 1) := by decide +kernel
theorem dX4_push_16 : decode cX4_push 16 = .ok (.invokevirtual 71, 3) := by decide +kernel
theorem dX4_push_19 : decode cX4_push 19 = .ok (.ifCond .eq 17, 3) := by decide +kernel
theorem dX4_push_22 : decode cX4_push 22 = .ok (.iload_n 1, 1) := by decide +kernel
theorem dX4_push_23 : decode cX4_push 23 = .ok (.iload_n 2, 1) := by decide +kernel
theorem dX4_push_24 : decode cX4_push 24 = .ok (.if_icmp .eq 12, 3) := by decide +kernel
theorem dX4_push_27 : decode cX4_push 27 = .ok (.iload_n 3, 1) := by decide +kernel
theorem dX4_push_28 : decode cX4_push 28 = .ok (.ifCond .lt 8, 3) := by decide +kernel
theorem dX4_push_31 : decode cX4_push 31 = .ok (.iload_n 3, 1) := by decide +kernel
theorem dX4_push_32 : decode cX4_push 32 = .ok (.iconst 1, 1) := by decide +kernel
theorem dX4_push_33 : decode cX4_push 33 = .ok (.if_icmp .le 7, 3) := by decide +kernel
theorem dX4_push_36 : decode cX4_push 36 = .ok (.sipush (-1000), 3) := by decide +kernel
theorem dX4_push_39 : decode cX4_push 39 = .ok (.ireturn, 1) := by decide +kernel
theorem dX4_push_40 : decode cX4_push 40 = .ok (.aload_n 0, 1) := by decide +kernel
theorem dX4_push_41 : decode cX4_push 41 = .ok (.getfield 12, 3) := by decide +kernel
theorem dX4_push_44 : decode cX4_push 44 = .ok (.iload_n 1, 1) := by decide +kernel
theorem dX4_push_45 : decode cX4_push 45 = .ok (.invokevirtual 74, 3) := by decide +kernel
theorem dX4_push_48 : decode cX4_push 48 = .ok (.aload_n 0, 1) := by decide +kernel
theorem dX4_push_49 : decode cX4_push 49 = .ok (.getfield 12, 3) := by decide +kernel
theorem dX4_push_52 : decode cX4_push 52 = .ok (.iload_n 2, 1) := by decide +kernel
theorem dX4_push_53 : decode cX4_push 53 = .ok (.invokevirtual 74, 3) := by decide +kernel
theorem dX4_push_56 : decode cX4_push 56 = .ok (.iload_n 3, 1) := by decide +kernel
theorem dX4_push_57 : decode cX4_push 57 = .ok (.invokestatic 156, 3) := by decide +kernel
theorem dX4_push_60 : decode cX4_push 60 = .ok (.ireturn, 1) := by decide +kernel
theorem dX4_strip_0 : decode cX4_strip 0 = .ok (.iload_n 2, 1) := by decide +kernel
theorem dX4_strip_1 : decode cX4_strip 1 = .ok (.iconst 1, 1) := by decide +kernel
theorem dX4_strip_2 : decode cX4_strip 2 = .ok (.if_icmp .lt 27, 3) := by decide +kernel
theorem dX4_strip_5 : decode cX4_strip 5 = .ok (.iload_n 2, 1) := by decide +kernel
theorem dX4_strip_6 : decode cX4_strip 6 = .ok (.iconst 5, 1) := by decide +kernel
theorem dX4_strip_7 : decode cX4_strip 7 = .ok (.if_icmp .gt 22, 3) := by decide +kernel
theorem dX4_strip_10 : decode cX4_strip 10 = .ok (.iload_n 3, 1) := by decide +kernel
theorem dX4_strip_11 : decode cX4_strip 11 = .ok (.iconst 3, 1) := by decide +kernel
theorem dX4_strip_12 : decode cX4_strip 12 = .ok (.iload_n 2, 1) := by decide +kernel
theorem dX4_strip_13 : decode cX4_strip 13 = .ok (.imul, 1) := by decide +kernel
theorem dX4_strip_14 : decode cX4_strip 14 = .ok (.iushr, 1) := by decide +kernel
theorem dX4_strip_15 : decode cX4_strip 15 = .ok (.ifCond .ne 14, 3) := by decide +kernel
theorem dX4_strip_18 : decode cX4_strip 18 = .ok (.iload 4, 2) := by decide +kernel
theorem dX4_strip_20 : decode cX4_strip 20 = .ok (.ifCond .lt 9, 3) := by decide +kernel
theorem dX4_strip_23 : decode cX4_strip 23 = .ok (.iload 4, 2) := by decide +kernel
theorem dX4_strip_25 : decode cX4_strip 25 = .ok (.iload_n 2, 1) := by decide +kernel
theorem dX4_strip_26 : decode cX4_strip 26 = .ok (.if_icmp .le 5, 3) := by decide +kernel
theorem dX4_strip_29 : decode cX4_strip 29 = .ok (.iconst (-1), 1) := by decide +kernel
theorem dX4_strip_30 : decode cX4_strip 30 = .ok (.ireturn, 1) := by decide +kernel
theorem dX4_strip_31 : decode cX4_strip 31 = .ok (.iload_n 2, 1) := by decide +kernel
theorem dX4_strip_32 : decode cX4_strip 32 = .ok (.iload_n 3, 1) := by decide +kernel
theorem dX4_strip_33 : decode cX4_strip 33 = .ok (.invokestatic 159, 3) := by decide +kernel
theorem dX4_strip_36 : decode cX4_strip 36 = .ok (.istore 5, 2) := by decide +kernel
theorem dX4_strip_38 : decode cX4_strip 38 = .ok (.iload 5, 2) := by decide +kernel
theorem dX4_strip_40 : decode cX4_strip 40 = .ok (.invokestatic 80, 3) := by decide +kernel
theorem dX4_strip_43 : decode cX4_strip 43 = .ok (.iload_n 2, 1) := by decide +kernel
theorem dX4_strip_44 : decode cX4_strip 44 = .ok (.if_icmp .ne 16, 3) := by decide +kernel
theorem dX4_strip_47 : decode cX4_strip 47 = .ok (.aload_n 0, 1) := by decide +kernel
theorem dX4_strip_48 : decode cX4_strip 48 = .ok (.getfield 37, 3) := by decide +kernel
theorem dX4_strip_51 : decode cX4_strip 51 = .ok (.iload_n 1, 1) := by decide +kernel
theorem dX4_strip_52 : decode cX4_strip 52 = .ok (.iload 5, 2) := by decide +kernel
theorem dX4_strip_54 : decode cX4_strip 54 = .ok (.invokevirtual 162, 3) := by decide +kernel
theorem dX4_strip_57 : decode cX4_strip 57 = .ok (.ifCond .ne 5, 3) := by decide +kernel
theorem dX4_strip_60 : decode cX4_strip 60 = .ok (.iconst (-1), 1) := by decide +kernel
theorem dX4_strip_61 : decode cX4_strip 61 = .ok (.ireturn, 1) := by decide +kernel
theorem dX4_strip_62 : decode cX4_strip 62 = .ok (.aload_n 0, 1) := by decide +kernel
theorem dX4_strip_63 : decode cX4_strip 63 = .ok (.getfield 37, 3) := by decide +kernel
theorem dX4_strip_66 : decode cX4_strip 66 = .ok (.iload_n 1, 1) := by decide +kernel
theorem dX4_strip_67 : decode cX4_strip 67 = .ok (.iload_n 2, 1) := by decide +kernel
theorem dX4_strip_68 : decode cX4_strip 68 = .ok (.iload_n 3, 1) := by decide +kernel
theorem dX4_strip_69 : decode cX4_strip 69 = .ok (.invokevirtual 165, 3) := by decide +kernel
theorem dX4_strip_72 : decode cX4_strip 72 = .ok (.istore 6, 2) := by decide +kernel
theorem dX4_strip_74 : decode cX4_strip 74 = .ok (.iload 4, 2) := by decide +kernel
theorem dX4_strip_76 : decode cX4_strip 76 = .ok (.ifCond .ne 8, 3) := by decide +kernel
theorem dX4_strip_79 : decode cX4_strip 79 = .ok (.iload 6, 2) := by decide +kernel
theorem dX4_strip_81 : decode cX4_strip 81 = .ok (.goto 14, 3) := by decide +kernel
theorem dX4_strip_84 : decode cX4_strip 84 = .ok (.aload_n 0, 1) := by decide +kernel
theorem dX4_strip_85 : decode cX4_strip 85 = .ok (.getfield 37, 3) := by decide +kernel
theorem dX4_strip_88 : decode cX4_strip 88 = .ok (.iload 4, 2) := by decide +kernel
theorem dX4_strip_90 : decode cX4_strip 90 = .ok (.iconst 1, 1) := by decide +kernel
theorem dX4_strip_91 : decode cX4_strip 91 = .ok (.isub, 1) := by decide +kernel
theorem dX4_strip_92 : decode cX4_strip 92 = .ok (.invokevirtual 168, 3) := by decide +kernel
theorem dX4_strip_95 : decode cX4_strip 95 = .ok (.ireturn, 1) := by decide +kernel
theorem dX4_best_0 : decode cX4_best 0 = .ok (.iload_n 2, 1) := by decide +kernel
theorem dX4_best_1 : decode cX4_best 1 = .ok (.iconst 1, 1) := by decide +kernel
theorem dX4_best_2 : decode cX4_best 2 = .ok (.if_icmp .lt 20, 3) := by decide +kernel
theorem dX4_best_5 : decode cX4_best 5 = .ok (.iload_n 2, 1) := by decide +kernel
theorem dX4_best_6 : decode cX4_best 6 = .ok (.invokestatic 80, 3) := by decide +kernel
theorem dX4_best_9 : decode cX4_best 9 = .ok (.iconst 5, 1) := by decide +kernel
theorem dX4_best_10 : decode cX4_best 10 = .ok (.if_icmp .gt 12, 3) := by decide +kernel
theorem dX4_best_13 : decode cX4_best 13 = .ok (.iload_n 3, 1) := by decide +kernel
theorem dX4_best_14 : decode cX4_best 14 = .ok (.ifCond .lt 8, 3) := by decide +kernel
theorem dX4_best_17 : decode cX4_best 17 = .ok (.iload_n 3, 1) := by decide +kernel
theorem dX4_best_18 : decode cX4_best 18 = .ok (.iconst 1, 1) := by decide +kernel
theorem dX4_best_19 : decode cX4_best 19 = .ok (.if_icmp .le 5, 3) := by decide +kernel
theorem dX4_best_22 : decode cX4_best 22 = .ok (.iconst (-1), 1) := by decide +kernel
theorem dX4_best_23 : decode cX4_best 23 = .ok (.ireturn, 1) := by decide +kernel
theorem dX4_best_24 : decode cX4_best 24 = .ok (.aload_n 0, 1) := by decide +kernel
theorem dX4_best_25 : decode cX4_best 25 = .ok (.getfield 37, 3) := by decide +kernel
theorem dX4_best_28 : decode cX4_best 28 = .ok (.iload_n 1, 1) := by decide +kernel
theorem dX4_best_29 : decode cX4_best 29 = .ok (.iload_n 2, 1) := by decide +kernel
theorem dX4_best_30 : decode cX4_best 30 = .ok (.invokevirtual 162, 3) := by decide +kernel
theorem dX4_best_33 : decode cX4_best 33 = .ok (.ifCond .ne 5, 3) := by decide +kernel
theorem dX4_best_36 : decode cX4_best 36 = .ok (.iconst (-1), 1) := by decide +kernel
theorem dX4_best_37 : decode cX4_best 37 = .ok (.ireturn, 1) := by decide +kernel
theorem dX4_best_38 : decode cX4_best 38 = .ok (.aload_n 0, 1) := by decide +kernel
theorem dX4_best_39 : decode cX4_best 39 = .ok (.getfield 37, 3) := by decide +kernel
theorem dX4_best_42 : decode cX4_best 42 = .ok (.iload_n 1, 1) := by decide +kernel
theorem dX4_best_43 : decode cX4_best 43 = .ok (.iload_n 2, 1) := by decide +kernel
theorem dX4_best_44 : decode cX4_best 44 = .ok (.invokevirtual 171, 3) := by decide +kernel
theorem dX4_best_47 : decode cX4_best 47 = .ok (.iload_n 3, 1) := by decide +kernel
theorem dX4_best_48 : decode cX4_best 48 = .ok (.ifCond .ne 13, 3) := by decide +kernel
theorem dX4_best_51 : decode cX4_best 51 = .ok (.aload_n 0, 1) := by decide +kernel
theorem dX4_best_52 : decode cX4_best 52 = .ok (.getfield 37, 3) := by decide +kernel
theorem dX4_best_55 : decode cX4_best 55 = .ok (.invokevirtual 174, 3) := by decide +kernel
theorem dX4_best_58 : decode cX4_best 58 = .ok (.goto 10, 3) := by decide +kernel
theorem dX4_best_61 : decode cX4_best 61 = .ok (.aload_n 0, 1) := by decide +kernel
theorem dX4_best_62 : decode cX4_best 62 = .ok (.getfield 37, 3) := by decide +kernel
theorem dX4_best_65 : decode cX4_best 65 = .ok (.invokevirtual 177, 3) := by decide +kernel
theorem dX4_best_68 : decode cX4_best 68 = .ok (.ireturn, 1) := by decide +kernel
theorem dX4_count_0 : decode cX4_count 0 = .ok (.iload_n 1, 1) := by decide +kernel
theorem dX4_count_1 : decode cX4_count 1 = .ok (.tableswitch 78 0 4 #[35, 43, 51, 59, 70], 35) := by decide +kernel
theorem dX4_count_36 : decode cX4_count 36 = .ok (.aload_n 0, 1) := by decide +kernel
theorem dX4_count_37 : decode cX4_count 37 = .ok (.getfield 12, 3) := by decide +kernel
theorem dX4_count_40 : decode cX4_count 40 = .ok (.invokevirtual 180, 3) := by decide +kernel
theorem dX4_count_43 : decode cX4_count 43 = .ok (.ireturn, 1) := by decide +kernel
theorem dX4_count_44 : decode cX4_count 44 = .ok (.aload_n 0, 1) := by decide +kernel
theorem dX4_count_45 : decode cX4_count 45 = .ok (.getfield 12, 3) := by decide +kernel
theorem dX4_count_48 : decode cX4_count 48 = .ok (.invokevirtual 183, 3) := by decide +kernel
theorem dX4_count_51 : decode cX4_count 51 = .ok (.ireturn, 1) := by decide +kernel
theorem dX4_count_52 : decode cX4_count 52 = .ok (.aload_n 0, 1) := by decide +kernel
theorem dX4_count_53 : decode cX4_count 53 = .ok (.getfield 12, 3) := by decide +kernel
theorem dX4_count_56 : decode cX4_count 56 = .ok (.invokevirtual 186, 3) := by decide +kernel
theorem dX4_count_59 : decode cX4_count 59 = .ok (.ireturn, 1) := by decide +kernel
theorem dX4_count_60 : decode cX4_count 60 = .ok (.aload_n 0, 1) := by decide +kernel
theorem dX4_count_61 : decode cX4_count 61 = .ok (.getfield 12, 3) := by decide +kernel
theorem dX4_count_64 : decode cX4_count 64 = .ok (.invokevirtual 189, 3) := by decide +kernel
theorem dX4_count_67 : decode cX4_count 67 = .ok (.invokestatic 80, 3) := by decide +kernel
theorem dX4_count_70 : decode cX4_count 70 = .ok (.ireturn, 1) := by decide +kernel
theorem dX4_count_71 : decode cX4_count 71 = .ok (.aload_n 0, 1) := by decide +kernel
theorem dX4_count_72 : decode cX4_count 72 = .ok (.getfield 12, 3) := by decide +kernel
theorem dX4_count_75 : decode cX4_count 75 = .ok (.invokevirtual 192, 3) := by decide +kernel
theorem dX4_count_78 : decode cX4_count 78 = .ok (.ireturn, 1) := by decide +kernel
theorem dX4_count_79 : decode cX4_count 79 = .ok (.iconst (-1), 1) := by decide +kernel
theorem dX4_count_80 : decode cX4_count 80 = .ok (.ireturn, 1) := by decide +kernel
theorem dX4_isPlace_0 : decode cX4_isPlace 0 = .ok (.iload_n 0, 1) := by decide +kernel
theorem dX4_isPlace_1 : decode cX4_isPlace 1 = .ok (.bipush (-6), 2) := by decide +kernel
theorem dX4_isPlace_3 : decode cX4_isPlace 3 = .ok (.if_icmp .lt 25, 3) := by decide +kernel
theorem dX4_isPlace_6 : decode cX4_isPlace 6 = .ok (.iload_n 0, 1) := by decide +kernel
theorem dX4_isPlace_7 : decode cX4_isPlace 7 = .ok (.bipush 13, 2) := by decide +kernel
theorem dX4_isPlace_9 : decode cX4_isPlace 9 = .ok (.if_icmp .gt 19, 3) := by decide +kernel
theorem dX4_isPlace_12 : decode cX4_isPlace 12 = .ok (.iload_n 1, 1) := by decide +kernel
theorem dX4_isPlace_13 : decode cX4_isPlace 13 = .ok (.bipush (-6), 2) := by decide +kernel
theorem dX4_isPlace_15 : decode cX4_isPlace 15 = .ok (.if_icmp .lt 13, 3) := by decide +kernel
theorem dX4_isPlace_18 : decode cX4_isPlace 18 = .ok (.iload_n 1, 1) := by decide +kernel
theorem dX4_isPlace_19 : decode cX4_isPlace 19 = .ok (.bipush 13, 2) := by decide +kernel
theorem dX4_isPlace_21 : decode cX4_isPlace 21 = .ok (.if_icmp .gt 7, 3) := by decide +kernel
theorem dX4_isPlace_24 : decode cX4_isPlace 24 = .ok (.iconst 1, 1) := by decide +kernel
theorem dX4_isPlace_25 : decode cX4_isPlace 25 = .ok (.goto 4, 3) := by decide +kernel
theorem dX4_isPlace_28 : decode cX4_isPlace 28 = .ok (.iconst 0, 1) := by decide +kernel
theorem dX4_isPlace_29 : decode cX4_isPlace 29 = .ok (.ireturn, 1) := by decide +kernel
theorem dX4_isDirection_0 : decode cX4_isDirection 0 = .ok (.iload_n 0, 1) := by decide +kernel
theorem dX4_isDirection_1 : decode cX4_isDirection 1 = .ok (.ifCond .lt 12, 3) := by decide +kernel
theorem dX4_isDirection_4 : decode cX4_isDirection 4 = .ok (.iload_n 0, 1) := by decide +kernel
theorem dX4_isDirection_5 : decode cX4_isDirection 5 = .ok (.iconst 3, 1) := by decide +kernel
theorem dX4_isDirection_6 : decode cX4_isDirection 6 = .ok (.if_icmp .gt 7, 3) := by decide +kernel
theorem dX4_isDirection_9 : decode cX4_isDirection 9 = .ok (.iconst 1, 1) := by decide +kernel
theorem dX4_isDirection_10 : decode cX4_isDirection 10 = .ok (.goto 4, 3) := by decide +kernel
theorem dX4_isDirection_13 : decode cX4_isDirection 13 = .ok (.iconst 0, 1) := by decide +kernel
theorem dX4_isDirection_14 : decode cX4_isDirection 14 = .ok (.ireturn, 1) := by decide +kernel
theorem dX4_stepX_0 : decode cX4_stepX 0 = .ok (.iload_n 0, 1) := by decide +kernel
theorem dX4_stepX_1 : decode cX4_stepX 1 = .ok (.ifCond .ne 7, 3) := by decide +kernel
theorem dX4_stepX_4 : decode cX4_stepX 4 = .ok (.iconst 1, 1) := by decide +kernel
theorem dX4_stepX_5 : decode cX4_stepX 5 = .ok (.goto 13, 3) := by decide +kernel
theorem dX4_stepX_8 : decode cX4_stepX 8 = .ok (.iload_n 0, 1) := by decide +kernel
theorem dX4_stepX_9 : decode cX4_stepX 9 = .ok (.iconst 2, 1) := by decide +kernel
theorem dX4_stepX_10 : decode cX4_stepX 10 = .ok (.if_icmp .ne 7, 3) := by decide +kernel
theorem dX4_stepX_13 : decode cX4_stepX 13 = .ok (.iconst (-1), 1) := by decide +kernel
theorem dX4_stepX_14 : decode cX4_stepX 14 = .ok (.goto 4, 3) := by decide +kernel
theorem dX4_stepX_17 : decode cX4_stepX 17 = .ok (.iconst 0, 1) := by decide +kernel
theorem dX4_stepX_18 : decode cX4_stepX 18 = .ok (.ireturn, 1) := by decide +kernel
theorem dX4_stepY_0 : decode cX4_stepY 0 = .ok (.iload_n 0, 1) := by decide +kernel
theorem dX4_stepY_1 : decode cX4_stepY 1 = .ok (.iconst 1, 1) := by decide +kernel
theorem dX4_stepY_2 : decode cX4_stepY 2 = .ok (.if_icmp .ne 7, 3) := by decide +kernel
theorem dX4_stepY_5 : decode cX4_stepY 5 = .ok (.iconst 1, 1) := by decide +kernel
theorem dX4_stepY_6 : decode cX4_stepY 6 = .ok (.goto 13, 3) := by decide +kernel
theorem dX4_stepY_9 : decode cX4_stepY 9 = .ok (.iload_n 0, 1) := by decide +kernel
theorem dX4_stepY_10 : decode cX4_stepY 10 = .ok (.iconst 3, 1) := by decide +kernel
theorem dX4_stepY_11 : decode cX4_stepY 11 = .ok (.if_icmp .ne 7, 3) := by decide +kernel
theorem dX4_stepY_14 : decode cX4_stepY 14 = .ok (.iconst (-1), 1) := by decide +kernel
theorem dX4_stepY_15 : decode cX4_stepY 15 = .ok (.goto 4, 3) := by decide +kernel
theorem dX4_stepY_18 : decode cX4_stepY 18 = .ok (.iconst 0, 1) := by decide +kernel
theorem dX4_stepY_19 : decode cX4_stepY 19 = .ok (.ireturn, 1) := by decide +kernel
theorem dX4_isIn_0 : decode cX4_isIn 0 = .ok (.iload_n 0, 1) := by decide +kernel
theorem dX4_isIn_1 : decode cX4_isIn 1 = .ok (.iload_n 1, 1) := by decide +kernel
theorem dX4_isIn_2 : decode cX4_isIn 2 = .ok (.ishr, 1) := by decide +kernel
theorem dX4_isIn_3 : decode cX4_isIn 3 = .ok (.iconst 1, 1) := by decide +kernel
theorem dX4_isIn_4 : decode cX4_isIn 4 = .ok (.iand, 1) := by decide +kernel
theorem dX4_isIn_5 : decode cX4_isIn 5 = .ok (.iconst 1, 1) := by decide +kernel
theorem dX4_isIn_6 : decode cX4_isIn 6 = .ok (.if_icmp .ne 7, 3) := by decide +kernel
theorem dX4_isIn_9 : decode cX4_isIn 9 = .ok (.iconst 1, 1) := by decide +kernel
theorem dX4_isIn_10 : decode cX4_isIn 10 = .ok (.goto 4, 3) := by decide +kernel
theorem dX4_isIn_13 : decode cX4_isIn 13 = .ok (.iconst 0, 1) := by decide +kernel
theorem dX4_isIn_14 : decode cX4_isIn 14 = .ok (.ireturn, 1) := by decide +kernel
theorem dX4_movedToCorner_0 : decode cX4_movedToCorner 0 = .ok (.iload_n 0, 1) := by decide +kernel
theorem dX4_movedToCorner_1 : decode cX4_movedToCorner 1 = .ok (.istore_n 1, 1) := by decide +kernel
theorem dX4_movedToCorner_2 : decode cX4_movedToCorner 2 = .ok (.iconst 1, 1) := by decide +kernel
theorem dX4_movedToCorner_3 : decode cX4_movedToCorner 3 = .ok (.istore_n 2, 1) := by decide +kernel
theorem dX4_movedToCorner_4 : decode cX4_movedToCorner 4 = .ok (.iload_n 2, 1) := by decide +kernel
theorem dX4_movedToCorner_5 : decode cX4_movedToCorner 5 = .ok (.iconst 5, 1) := by decide +kernel
theorem dX4_movedToCorner_6 : decode cX4_movedToCorner 6 = .ok (.if_icmp .ge 20, 3) := by decide +kernel
theorem dX4_movedToCorner_9 : decode cX4_movedToCorner 9 = .ok (.iload_n 1, 1) := by decide +kernel
theorem dX4_movedToCorner_10 : decode cX4_movedToCorner 10 = .ok (.bipush 31, 2) := by decide +kernel
theorem dX4_movedToCorner_12 : decode cX4_movedToCorner 12 = .ok (.iand, 1) := by decide +kernel
theorem dX4_movedToCorner_13 : decode cX4_movedToCorner 13 = .ok (.ifCond .ne 13, 3) := by decide +kernel
theorem dX4_movedToCorner_16 : decode cX4_movedToCorner 16 = .ok (.iload_n 1, 1) := by decide +kernel
theorem dX4_movedToCorner_17 : decode cX4_movedToCorner 17 = .ok (.iconst 5, 1) := by decide +kernel
theorem dX4_movedToCorner_18 : decode cX4_movedToCorner 18 = .ok (.ishr, 1) := by decide +kernel
theorem dX4_movedToCorner_19 : decode cX4_movedToCorner 19 = .ok (.istore_n 1, 1) := by decide +kernel
theorem dX4_movedToCorner_20 : decode cX4_movedToCorner 20 = .ok (.iinc 2 1, 3) := by decide +kernel
theorem dX4_movedToCorner_23 : decode cX4_movedToCorner 23 = .ok (.goto (-19), 3) := by decide +kernel
theorem dX4_movedToCorner_26 : decode cX4_movedToCorner 26 = .ok (.iconst 1, 1) := by decide +kernel
theorem dX4_movedToCorner_27 : decode cX4_movedToCorner 27 = .ok (.istore_n 2, 1) := by decide +kernel
theorem dX4_movedToCorner_28 : decode cX4_movedToCorner 28 = .ok (.iload_n 2, 1) := by decide +kernel
theorem dX4_movedToCorner_29 : decode cX4_movedToCorner 29 = .ok (.iconst 5, 1) := by decide +kernel
theorem dX4_movedToCorner_30 : decode cX4_movedToCorner 30 = .ok (.if_icmp .ge 20, 3) := by decide +kernel
theorem dX4_movedToCorner_33 : decode cX4_movedToCorner 33 = .ok (.iload_n 1, 1) := by decide +kernel
theorem dX4_movedToCorner_34 : decode cX4_movedToCorner 34 = .ok (.ldc 195, 2) := by decide +kernel
theorem dX4_movedToCorner_36 : decode cX4_movedToCorner 36 = .ok (.iand, 1) := by decide +kernel
theorem dX4_movedToCorner_37 : decode cX4_movedToCorner 37 = .ok (.ifCond .ne 13, 3) := by decide +kernel
theorem dX4_movedToCorner_40 : decode cX4_movedToCorner 40 = .ok (.iload_n 1, 1) := by decide +kernel
theorem dX4_movedToCorner_41 : decode cX4_movedToCorner 41 = .ok (.iconst 1, 1) := by decide +kernel
theorem dX4_movedToCorner_42 : decode cX4_movedToCorner 42 = .ok (.ishr, 1) := by decide +kernel
theorem dX4_movedToCorner_43 : decode cX4_movedToCorner 43 = .ok (.istore_n 1, 1) := by decide +kernel
theorem dX4_movedToCorner_44 : decode cX4_movedToCorner 44 = .ok (.iinc 2 1, 3) := by decide +kernel
theorem dX4_movedToCorner_47 : decode cX4_movedToCorner 47 = .ok (.goto (-19), 3) := by decide +kernel
theorem dX4_movedToCorner_50 : decode cX4_movedToCorner 50 = .ok (.iload_n 1, 1) := by decide +kernel
theorem dX4_movedToCorner_51 : decode cX4_movedToCorner 51 = .ok (.ireturn, 1) := by decide +kernel
theorem dX4_rowOf_0 : decode cX4_rowOf 0 = .ok (.iload_n 1, 1) := by decide +kernel
theorem dX4_rowOf_1 : decode cX4_rowOf 1 = .ok (.ifCond .lt 8, 3) := by decide +kernel
theorem dX4_rowOf_4 : decode cX4_rowOf 4 = .ok (.iload_n 1, 1) := by decide +kernel
theorem dX4_rowOf_5 : decode cX4_rowOf 5 = .ok (.iconst 5, 1) := by decide +kernel
theorem dX4_rowOf_6 : decode cX4_rowOf 6 = .ok (.if_icmp .lt 7, 3) := by decide +kernel
theorem dX4_rowOf_9 : decode cX4_rowOf 9 = .ok (.iconst 0, 1) := by decide +kernel
theorem dX4_rowOf_10 : decode cX4_rowOf 10 = .ok (.goto 11, 3) := by decide +kernel
theorem dX4_rowOf_13 : decode cX4_rowOf 13 = .ok (.iload_n 0, 1) := by decide +kernel
theorem dX4_rowOf_14 : decode cX4_rowOf 14 = .ok (.iconst 5, 1) := by decide +kernel
theorem dX4_rowOf_15 : decode cX4_rowOf 15 = .ok (.iload_n 1, 1) := by decide +kernel
theorem dX4_rowOf_16 : decode cX4_rowOf 16 = .ok (.imul, 1) := by decide +kernel
theorem dX4_rowOf_17 : decode cX4_rowOf 17 = .ok (.ishr, 1) := by decide +kernel
theorem dX4_rowOf_18 : decode cX4_rowOf 18 = .ok (.bipush 31, 2) := by decide +kernel
theorem dX4_rowOf_20 : decode cX4_rowOf 20 = .ok (.iand, 1) := by decide +kernel
theorem dX4_rowOf_21 : decode cX4_rowOf 21 = .ok (.ireturn, 1) := by decide +kernel
theorem dX4_columnsOf_0 : decode cX4_columnsOf 0 = .ok (.iconst 0, 1) := by decide +kernel
theorem dX4_columnsOf_1 : decode cX4_columnsOf 1 = .ok (.istore_n 1, 1) := by decide +kernel
theorem dX4_columnsOf_2 : decode cX4_columnsOf 2 = .ok (.iconst 0, 1) := by decide +kernel
theorem dX4_columnsOf_3 : decode cX4_columnsOf 3 = .ok (.istore_n 2, 1) := by decide +kernel
theorem dX4_columnsOf_4 : decode cX4_columnsOf 4 = .ok (.iload_n 2, 1) := by decide +kernel
theorem dX4_columnsOf_5 : decode cX4_columnsOf 5 = .ok (.iconst 5, 1) := by decide +kernel
theorem dX4_columnsOf_6 : decode cX4_columnsOf 6 = .ok (.if_icmp .ge 22, 3) := by decide +kernel
theorem dX4_columnsOf_9 : decode cX4_columnsOf 9 = .ok (.iload_n 0, 1) := by decide +kernel
theorem dX4_columnsOf_10 : decode cX4_columnsOf 10 = .ok (.iload_n 2, 1) := by decide +kernel
theorem dX4_columnsOf_11 : decode cX4_columnsOf 11 = .ok (.ishr, 1) := by decide +kernel
theorem dX4_columnsOf_12 : decode cX4_columnsOf 12 = .ok (.ldc 195, 2) := by decide +kernel
theorem dX4_columnsOf_14 : decode cX4_columnsOf 14 = .ok (.iand, 1) := by decide +kernel
theorem dX4_columnsOf_15 : decode cX4_columnsOf 15 = .ok (.ifCond .eq 7, 3) := by decide +kernel
theorem dX4_columnsOf_18 : decode cX4_columnsOf 18 = .ok (.iload_n 2, 1) := by decide +kernel
theorem dX4_columnsOf_19 : decode cX4_columnsOf 19 = .ok (.iconst 1, 1) := by decide +kernel
theorem dX4_columnsOf_20 : decode cX4_columnsOf 20 = .ok (.iadd, 1) := by decide +kernel
theorem dX4_columnsOf_21 : decode cX4_columnsOf 21 = .ok (.istore_n 1, 1) := by decide +kernel
theorem dX4_columnsOf_22 : decode cX4_columnsOf 22 = .ok (.iinc 2 1, 3) := by decide +kernel
theorem dX4_columnsOf_25 : decode cX4_columnsOf 25 = .ok (.goto (-21), 3) := by decide +kernel
theorem dX4_columnsOf_28 : decode cX4_columnsOf 28 = .ok (.iload_n 1, 1) := by decide +kernel
theorem dX4_columnsOf_29 : decode cX4_columnsOf 29 = .ok (.ireturn, 1) := by decide +kernel
theorem dX4_rowsOf_0 : decode cX4_rowsOf 0 = .ok (.iconst 0, 1) := by decide +kernel
theorem dX4_rowsOf_1 : decode cX4_rowsOf 1 = .ok (.istore_n 1, 1) := by decide +kernel
theorem dX4_rowsOf_2 : decode cX4_rowsOf 2 = .ok (.iconst 0, 1) := by decide +kernel
theorem dX4_rowsOf_3 : decode cX4_rowsOf 3 = .ok (.istore_n 2, 1) := by decide +kernel
theorem dX4_rowsOf_4 : decode cX4_rowsOf 4 = .ok (.iload_n 2, 1) := by decide +kernel
theorem dX4_rowsOf_5 : decode cX4_rowsOf 5 = .ok (.iconst 5, 1) := by decide +kernel
theorem dX4_rowsOf_6 : decode cX4_rowsOf 6 = .ok (.if_icmp .ge 21, 3) := by decide +kernel
theorem dX4_rowsOf_9 : decode cX4_rowsOf 9 = .ok (.iload_n 0, 1) := by decide +kernel
theorem dX4_rowsOf_10 : decode cX4_rowsOf 10 = .ok (.iload_n 2, 1) := by decide +kernel
theorem dX4_rowsOf_11 : decode cX4_rowsOf 11 = .ok (.invokestatic 196, 3) := by decide +kernel
theorem dX4_rowsOf_14 : decode cX4_rowsOf 14 = .ok (.ifCond .eq 7, 3) := by decide +kernel
theorem dX4_rowsOf_17 : decode cX4_rowsOf 17 = .ok (.iload_n 2, 1) := by decide +kernel
theorem dX4_rowsOf_18 : decode cX4_rowsOf 18 = .ok (.iconst 1, 1) := by decide +kernel
theorem dX4_rowsOf_19 : decode cX4_rowsOf 19 = .ok (.iadd, 1) := by decide +kernel
theorem dX4_rowsOf_20 : decode cX4_rowsOf 20 = .ok (.istore_n 1, 1) := by decide +kernel
theorem dX4_rowsOf_21 : decode cX4_rowsOf 21 = .ok (.iinc 2 1, 3) := by decide +kernel
theorem dX4_rowsOf_24 : decode cX4_rowsOf 24 = .ok (.goto (-20), 3) := by decide +kernel
theorem dX4_rowsOf_27 : decode cX4_rowsOf 27 = .ok (.iload_n 1, 1) := by decide +kernel
theorem dX4_rowsOf_28 : decode cX4_rowsOf 28 = .ok (.ireturn, 1) := by decide +kernel
theorem dX4_leastPush_0 : decode cX4_leastPush 0 = .ok (.bipush 21, 2) := by decide +kernel
theorem dX4_leastPush_2 : decode cX4_leastPush 2 = .ok (.istore_n 3, 1) := by decide +kernel
theorem dX4_leastPush_3 : decode cX4_leastPush 3 = .ok (.iconst 0, 1) := by decide +kernel
theorem dX4_leastPush_4 : decode cX4_leastPush 4 = .ok (.istore 4, 2) := by decide +kernel
theorem dX4_leastPush_6 : decode cX4_leastPush 6 = .ok (.bipush (-10), 2) := by decide +kernel
theorem dX4_leastPush_8 : decode cX4_leastPush 8 = .ok (.istore 5, 2) := by decide +kernel
theorem dX4_leastPush_10 : decode cX4_leastPush 10 = .ok (.iload 5, 2) := by decide +kernel
theorem dX4_leastPush_12 : decode cX4_leastPush 12 = .ok (.bipush 10, 2) := by decide +kernel
theorem dX4_leastPush_14 : decode cX4_leastPush 14 = .ok (.if_icmp .gt 73, 3) := by decide +kernel
theorem dX4_leastPush_17 : decode cX4_leastPush 17 = .ok (.bipush (-10), 2) := by decide +kernel
theorem dX4_leastPush_19 : decode cX4_leastPush 19 = .ok (.istore 6, 2) := by decide +kernel
theorem dX4_leastPush_21 : decode cX4_leastPush 21 = .ok (.iload 6, 2) := by decide +kernel
theorem dX4_leastPush_23 : decode cX4_leastPush 23 = .ok (.bipush 10, 2) := by decide +kernel
theorem dX4_leastPush_25 : decode cX4_leastPush 25 = .ok (.if_icmp .gt 56, 3) := by decide +kernel
theorem dX4_leastPush_28 : decode cX4_leastPush 28 = .ok (.iload 5, 2) := by decide +kernel
theorem dX4_leastPush_30 : decode cX4_leastPush 30 = .ok (.invokestatic 199, 3) := by decide +kernel
theorem dX4_leastPush_33 : decode cX4_leastPush 33 = .ok (.iload 6, 2) := by decide +kernel
theorem dX4_leastPush_35 : decode cX4_leastPush 35 = .ok (.invokestatic 199, 3) := by decide +kernel
theorem dX4_leastPush_38 : decode cX4_leastPush 38 = .ok (.iadd, 1) := by decide +kernel
theorem dX4_leastPush_39 : decode cX4_leastPush 39 = .ok (.istore 7, 2) := by decide +kernel
theorem dX4_leastPush_41 : decode cX4_leastPush 41 = .ok (.iload 7, 2) := by decide +kernel
theorem dX4_leastPush_43 : decode cX4_leastPush 43 = .ok (.iload_n 3, 1) := by decide +kernel
theorem dX4_leastPush_44 : decode cX4_leastPush 44 = .ok (.if_icmp .ge 31, 3) := by decide +kernel
theorem dX4_leastPush_47 : decode cX4_leastPush 47 = .ok (.iload_n 0, 1) := by decide +kernel
theorem dX4_leastPush_48 : decode cX4_leastPush 48 = .ok (.iload_n 1, 1) := by decide +kernel
theorem dX4_leastPush_49 : decode cX4_leastPush 49 = .ok (.iload 5, 2) := by decide +kernel
theorem dX4_leastPush_51 : decode cX4_leastPush 51 = .ok (.iload 6, 2) := by decide +kernel
theorem dX4_leastPush_53 : decode cX4_leastPush 53 = .ok (.invokestatic 204, 3) := by decide +kernel
theorem dX4_leastPush_56 : decode cX4_leastPush 56 = .ok (.ifCond .ne 19, 3) := by decide +kernel
theorem dX4_leastPush_59 : decode cX4_leastPush 59 = .ok (.iload 7, 2) := by decide +kernel
theorem dX4_leastPush_61 : decode cX4_leastPush 61 = .ok (.istore_n 3, 1) := by decide +kernel
theorem dX4_leastPush_62 : decode cX4_leastPush 62 = .ok (.iload_n 2, 1) := by decide +kernel
theorem dX4_leastPush_63 : decode cX4_leastPush 63 = .ok (.ifCond .ne 8, 3) := by decide +kernel
theorem dX4_leastPush_66 : decode cX4_leastPush 66 = .ok (.iload 5, 2) := by decide +kernel
theorem dX4_leastPush_68 : decode cX4_leastPush 68 = .ok (.goto 5, 3) := by decide +kernel
theorem dX4_leastPush_71 : decode cX4_leastPush 71 = .ok (.iload 6, 2) := by decide +kernel
theorem dX4_leastPush_73 : decode cX4_leastPush 73 = .ok (.istore 4, 2) := by decide +kernel
theorem dX4_leastPush_75 : decode cX4_leastPush 75 = .ok (.iinc 6 1, 3) := by decide +kernel
theorem dX4_leastPush_78 : decode cX4_leastPush 78 = .ok (.goto (-57), 3) := by decide +kernel
theorem dX4_leastPush_81 : decode cX4_leastPush 81 = .ok (.iinc 5 1, 3) := by decide +kernel
theorem dX4_leastPush_84 : decode cX4_leastPush 84 = .ok (.goto (-74), 3) := by decide +kernel
theorem dX4_leastPush_87 : decode cX4_leastPush 87 = .ok (.iload 4, 2) := by decide +kernel
theorem dX4_leastPush_89 : decode cX4_leastPush 89 = .ok (.ireturn, 1) := by decide +kernel
theorem dX4_meet_0 : decode cX4_meet 0 = .ok (.iconst 0, 1) := by decide +kernel
theorem dX4_meet_1 : decode cX4_meet 1 = .ok (.istore 4, 2) := by decide +kernel
theorem dX4_meet_3 : decode cX4_meet 3 = .ok (.iload 4, 2) := by decide +kernel
theorem dX4_meet_5 : decode cX4_meet 5 = .ok (.iconst 5, 1) := by decide +kernel
theorem dX4_meet_6 : decode cX4_meet 6 = .ok (.if_icmp .ge 51, 3) := by decide +kernel
theorem dX4_meet_9 : decode cX4_meet 9 = .ok (.iload_n 0, 1) := by decide +kernel
theorem dX4_meet_10 : decode cX4_meet 10 = .ok (.iload 4, 2) := by decide +kernel
theorem dX4_meet_12 : decode cX4_meet 12 = .ok (.invokestatic 196, 3) := by decide +kernel
theorem dX4_meet_15 : decode cX4_meet 15 = .ok (.istore 5, 2) := by decide +kernel
theorem dX4_meet_17 : decode cX4_meet 17 = .ok (.iload_n 2, 1) := by decide +kernel
theorem dX4_meet_18 : decode cX4_meet 18 = .ok (.ifCond .ge 11, 3) := by decide +kernel
theorem dX4_meet_21 : decode cX4_meet 21 = .ok (.iload 5, 2) := by decide +kernel
theorem dX4_meet_23 : decode cX4_meet 23 = .ok (.iload_n 2, 1) := by decide +kernel
theorem dX4_meet_24 : decode cX4_meet 24 = .ok (.ineg, 1) := by decide +kernel
theorem dX4_meet_25 : decode cX4_meet 25 = .ok (.ishr, 1) := by decide +kernel
theorem dX4_meet_26 : decode cX4_meet 26 = .ok (.goto 7, 3) := by decide +kernel
theorem dX4_meet_29 : decode cX4_meet 29 = .ok (.iload 5, 2) := by decide +kernel
theorem dX4_meet_31 : decode cX4_meet 31 = .ok (.iload_n 2, 1) := by decide +kernel
theorem dX4_meet_32 : decode cX4_meet 32 = .ok (.ishl, 1) := by decide +kernel
theorem dX4_meet_33 : decode cX4_meet 33 = .ok (.istore 6, 2) := by decide +kernel
theorem dX4_meet_35 : decode cX4_meet 35 = .ok (.iload 6, 2) := by decide +kernel
theorem dX4_meet_37 : decode cX4_meet 37 = .ok (.iload_n 1, 1) := by decide +kernel
theorem dX4_meet_38 : decode cX4_meet 38 = .ok (.iload 4, 2) := by decide +kernel
theorem dX4_meet_40 : decode cX4_meet 40 = .ok (.iload_n 3, 1) := by decide +kernel
theorem dX4_meet_41 : decode cX4_meet 41 = .ok (.iadd, 1) := by decide +kernel
theorem dX4_meet_42 : decode cX4_meet 42 = .ok (.invokestatic 196, 3) := by decide +kernel
theorem dX4_meet_45 : decode cX4_meet 45 = .ok (.iand, 1) := by decide +kernel
theorem dX4_meet_46 : decode cX4_meet 46 = .ok (.ifCond .eq 5, 3) := by decide +kernel
theorem dX4_meet_49 : decode cX4_meet 49 = .ok (.iconst 1, 1) := by decide +kernel
theorem dX4_meet_50 : decode cX4_meet 50 = .ok (.ireturn, 1) := by decide +kernel
theorem dX4_meet_51 : decode cX4_meet 51 = .ok (.iinc 4 1, 3) := by decide +kernel
theorem dX4_meet_54 : decode cX4_meet 54 = .ok (.goto (-51), 3) := by decide +kernel
theorem dX4_meet_57 : decode cX4_meet 57 = .ok (.iconst 0, 1) := by decide +kernel
theorem dX4_meet_58 : decode cX4_meet 58 = .ok (.ireturn, 1) := by decide +kernel
theorem dX4_pieceInOrder_0 : decode cX4_pieceInOrder 0 = .ok (.iload_n 0, 1) := by decide +kernel
theorem dX4_pieceInOrder_1 : decode cX4_pieceInOrder 1 = .ok (.iconst 3, 1) := by decide +kernel
theorem dX4_pieceInOrder_2 : decode cX4_pieceInOrder 2 = .ok (.iload_n 1, 1) := by decide +kernel
theorem dX4_pieceInOrder_3 : decode cX4_pieceInOrder 3 = .ok (.imul, 1) := by decide +kernel
theorem dX4_pieceInOrder_4 : decode cX4_pieceInOrder 4 = .ok (.ishr, 1) := by decide +kernel
theorem dX4_pieceInOrder_5 : decode cX4_pieceInOrder 5 = .ok (.bipush 7, 2) := by decide +kernel
theorem dX4_pieceInOrder_7 : decode cX4_pieceInOrder 7 = .ok (.iand, 1) := by decide +kernel
theorem dX4_pieceInOrder_8 : decode cX4_pieceInOrder 8 = .ok (.ireturn, 1) := by decide +kernel
theorem dX4_setOf_0 : decode cX4_setOf 0 = .ok (.iconst 0, 1) := by decide +kernel
theorem dX4_setOf_1 : decode cX4_setOf 1 = .ok (.istore_n 2, 1) := by decide +kernel
theorem dX4_setOf_2 : decode cX4_setOf 2 = .ok (.iconst 0, 1) := by decide +kernel
theorem dX4_setOf_3 : decode cX4_setOf 3 = .ok (.istore_n 3, 1) := by decide +kernel
theorem dX4_setOf_4 : decode cX4_setOf 4 = .ok (.iload_n 3, 1) := by decide +kernel
theorem dX4_setOf_5 : decode cX4_setOf 5 = .ok (.iload_n 0, 1) := by decide +kernel
theorem dX4_setOf_6 : decode cX4_setOf 6 = .ok (.if_icmp .ge 19, 3) := by decide +kernel
theorem dX4_setOf_9 : decode cX4_setOf 9 = .ok (.iload_n 2, 1) := by decide +kernel
theorem dX4_setOf_10 : decode cX4_setOf 10 = .ok (.iconst 1, 1) := by decide +kernel
theorem dX4_setOf_11 : decode cX4_setOf 11 = .ok (.iload_n 1, 1) := by decide +kernel
theorem dX4_setOf_12 : decode cX4_setOf 12 = .ok (.iload_n 3, 1) := by decide +kernel
theorem dX4_setOf_13 : decode cX4_setOf 13 = .ok (.invokestatic 208, 3) := by decide +kernel
theorem dX4_setOf_16 : decode cX4_setOf 16 = .ok (.ishl, 1) := by decide +kernel
theorem dX4_setOf_17 : decode cX4_setOf 17 = .ok (.ior, 1) := by decide +kernel
theorem dX4_setOf_18 : decode cX4_setOf 18 = .ok (.istore_n 2, 1) := by decide +kernel
theorem dX4_setOf_19 : decode cX4_setOf 19 = .ok (.iinc 3 1, 3) := by decide +kernel
theorem dX4_setOf_22 : decode cX4_setOf 22 = .ok (.goto (-18), 3) := by decide +kernel
theorem dX4_setOf_25 : decode cX4_setOf 25 = .ok (.iload_n 2, 1) := by decide +kernel
theorem dX4_setOf_26 : decode cX4_setOf 26 = .ok (.ireturn, 1) := by decide +kernel
theorem dJ6_bitCount_0f7a4_0 : decode cJ6_bitCount_0f7a4 0 = .ok (.iload_n 0, 1) := by decide +kernel
theorem dJ6_bitCount_0f7a4_1 : decode cJ6_bitCount_0f7a4 1 = .ok (.iload_n 0, 1) := by decide +kernel
theorem dJ6_bitCount_0f7a4_2 : decode cJ6_bitCount_0f7a4 2 = .ok (.iconst 1, 1) := by decide +kernel
theorem dJ6_bitCount_0f7a4_3 : decode cJ6_bitCount_0f7a4 3 = .ok (.iushr, 1) := by decide +kernel
theorem dJ6_bitCount_0f7a4_4 : decode cJ6_bitCount_0f7a4 4 = .ok (.ldc_w 265, 3) := by decide +kernel
theorem dJ6_bitCount_0f7a4_7 : decode cJ6_bitCount_0f7a4 7 = .ok (.iand, 1) := by decide +kernel
theorem dJ6_bitCount_0f7a4_8 : decode cJ6_bitCount_0f7a4 8 = .ok (.isub, 1) := by decide +kernel
theorem dJ6_bitCount_0f7a4_9 : decode cJ6_bitCount_0f7a4 9 = .ok (.istore_n 0, 1) := by decide +kernel
theorem dJ6_bitCount_0f7a4_10 : decode cJ6_bitCount_0f7a4 10 = .ok (.iload_n 0, 1) := by decide +kernel
theorem dJ6_bitCount_0f7a4_11 : decode cJ6_bitCount_0f7a4 11 = .ok (.ldc_w 266, 3) := by decide +kernel
theorem dJ6_bitCount_0f7a4_14 : decode cJ6_bitCount_0f7a4 14 = .ok (.iand, 1) := by decide +kernel
theorem dJ6_bitCount_0f7a4_15 : decode cJ6_bitCount_0f7a4 15 = .ok (.iload_n 0, 1) := by decide +kernel
theorem dJ6_bitCount_0f7a4_16 : decode cJ6_bitCount_0f7a4 16 = .ok (.iconst 2, 1) := by decide +kernel
theorem dJ6_bitCount_0f7a4_17 : decode cJ6_bitCount_0f7a4 17 = .ok (.iushr, 1) := by decide +kernel
theorem dJ6_bitCount_0f7a4_18 : decode cJ6_bitCount_0f7a4 18 = .ok (.ldc_w 266, 3) := by decide +kernel
theorem dJ6_bitCount_0f7a4_21 : decode cJ6_bitCount_0f7a4 21 = .ok (.iand, 1) := by decide +kernel
theorem dJ6_bitCount_0f7a4_22 : decode cJ6_bitCount_0f7a4 22 = .ok (.iadd, 1) := by decide +kernel
theorem dJ6_bitCount_0f7a4_23 : decode cJ6_bitCount_0f7a4 23 = .ok (.istore_n 0, 1) := by decide +kernel
theorem dJ6_bitCount_0f7a4_24 : decode cJ6_bitCount_0f7a4 24 = .ok (.iload_n 0, 1) := by decide +kernel
theorem dJ6_bitCount_0f7a4_25 : decode cJ6_bitCount_0f7a4 25 = .ok (.iload_n 0, 1) := by decide +kernel
theorem dJ6_bitCount_0f7a4_26 : decode cJ6_bitCount_0f7a4 26 = .ok (.iconst 4, 1) := by decide +kernel
theorem dJ6_bitCount_0f7a4_27 : decode cJ6_bitCount_0f7a4 27 = .ok (.iushr, 1) := by decide +kernel
theorem dJ6_bitCount_0f7a4_28 : decode cJ6_bitCount_0f7a4 28 = .ok (.iadd, 1) := by decide +kernel
theorem dJ6_bitCount_0f7a4_29 : decode cJ6_bitCount_0f7a4 29 = .ok (.ldc_w 267, 3) := by decide +kernel
theorem dJ6_bitCount_0f7a4_32 : decode cJ6_bitCount_0f7a4 32 = .ok (.iand, 1) := by decide +kernel
theorem dJ6_bitCount_0f7a4_33 : decode cJ6_bitCount_0f7a4 33 = .ok (.istore_n 0, 1) := by decide +kernel
theorem dJ6_bitCount_0f7a4_34 : decode cJ6_bitCount_0f7a4 34 = .ok (.iload_n 0, 1) := by decide +kernel
theorem dJ6_bitCount_0f7a4_35 : decode cJ6_bitCount_0f7a4 35 = .ok (.iload_n 0, 1) := by decide +kernel
theorem dJ6_bitCount_0f7a4_36 : decode cJ6_bitCount_0f7a4 36 = .ok (.bipush 8, 2) := by decide +kernel
theorem dJ6_bitCount_0f7a4_38 : decode cJ6_bitCount_0f7a4 38 = .ok (.iushr, 1) := by decide +kernel
theorem dJ6_bitCount_0f7a4_39 : decode cJ6_bitCount_0f7a4 39 = .ok (.iadd, 1) := by decide +kernel
theorem dJ6_bitCount_0f7a4_40 : decode cJ6_bitCount_0f7a4 40 = .ok (.istore_n 0, 1) := by decide +kernel
theorem dJ6_bitCount_0f7a4_41 : decode cJ6_bitCount_0f7a4 41 = .ok (.iload_n 0, 1) := by decide +kernel
theorem dJ6_bitCount_0f7a4_42 : decode cJ6_bitCount_0f7a4 42 = .ok (.iload_n 0, 1) := by decide +kernel
theorem dJ6_bitCount_0f7a4_43 : decode cJ6_bitCount_0f7a4 43 = .ok (.bipush 16, 2) := by decide +kernel
theorem dJ6_bitCount_0f7a4_45 : decode cJ6_bitCount_0f7a4 45 = .ok (.iushr, 1) := by decide +kernel
theorem dJ6_bitCount_0f7a4_46 : decode cJ6_bitCount_0f7a4 46 = .ok (.iadd, 1) := by decide +kernel
theorem dJ6_bitCount_0f7a4_47 : decode cJ6_bitCount_0f7a4 47 = .ok (.istore_n 0, 1) := by decide +kernel
theorem dJ6_bitCount_0f7a4_48 : decode cJ6_bitCount_0f7a4 48 = .ok (.iload_n 0, 1) := by decide +kernel
theorem dJ6_bitCount_0f7a4_49 : decode cJ6_bitCount_0f7a4 49 = .ok (.bipush 63, 2) := by decide +kernel
theorem dJ6_bitCount_0f7a4_51 : decode cJ6_bitCount_0f7a4 51 = .ok (.iand, 1) := by decide +kernel
theorem dJ6_bitCount_0f7a4_52 : decode cJ6_bitCount_0f7a4 52 = .ok (.ireturn, 1) := by decide +kernel
theorem dJ9_abs_0f7a4_0 : decode cJ9_abs_0f7a4 0 = .ok (.iload_n 0, 1) := by decide +kernel
theorem dJ9_abs_0f7a4_1 : decode cJ9_abs_0f7a4 1 = .ok (.ifCond .ge 8, 3) := by decide +kernel
theorem dJ9_abs_0f7a4_4 : decode cJ9_abs_0f7a4 4 = .ok (.iload_n 0, 1) := by decide +kernel
theorem dJ9_abs_0f7a4_5 : decode cJ9_abs_0f7a4 5 = .ok (.ineg, 1) := by decide +kernel
theorem dJ9_abs_0f7a4_6 : decode cJ9_abs_0f7a4 6 = .ok (.goto 4, 3) := by decide +kernel
theorem dJ9_abs_0f7a4_9 : decode cJ9_abs_0f7a4 9 = .ok (.iload_n 0, 1) := by decide +kernel
theorem dJ9_abs_0f7a4_10 : decode cJ9_abs_0f7a4 10 = .ok (.ireturn, 1) := by decide +kernel
theorem dJ9_max_7cf53_0 : decode cJ9_max_7cf53 0 = .ok (.iload_n 0, 1) := by decide +kernel
theorem dJ9_max_7cf53_1 : decode cJ9_max_7cf53 1 = .ok (.iload_n 1, 1) := by decide +kernel
theorem dJ9_max_7cf53_2 : decode cJ9_max_7cf53 2 = .ok (.if_icmp .lt 7, 3) := by decide +kernel
theorem dJ9_max_7cf53_5 : decode cJ9_max_7cf53 5 = .ok (.iload_n 0, 1) := by decide +kernel
theorem dJ9_max_7cf53_6 : decode cJ9_max_7cf53 6 = .ok (.goto 4, 3) := by decide +kernel
theorem dJ9_max_7cf53_9 : decode cJ9_max_7cf53 9 = .ok (.iload_n 1, 1) := by decide +kernel
theorem dJ9_max_7cf53_10 : decode cJ9_max_7cf53 10 = .ok (.ireturn, 1) := by decide +kernel
