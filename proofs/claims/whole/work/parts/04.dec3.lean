theorem dX6_differ_45 : decode cX6_differ 45 = .ok (.ireturn, 1) := by decide +kernel
theorem dX6_nodes_0 : decode cX6_nodes 0 = .ok (.aload_n 0, 1) := by decide +kernel
theorem dX6_nodes_1 : decode cX6_nodes 1 = .ok (.getfield 16, 3) := by decide +kernel
theorem dX6_nodes_4 : decode cX6_nodes 4 = .ok (.getfield 112, 3) := by decide +kernel
theorem dX6_nodes_7 : decode cX6_nodes 7 = .ok (.ireturn, 1) := by decide +kernel
theorem dX6_node_0 : decode cX6_node 0 = .ok (.aload_n 0, 1) := by decide +kernel
theorem dX6_node_1 : decode cX6_node 1 = .ok (.iload_n 1, 1) := by decide +kernel
theorem dX6_node_2 : decode cX6_node 2 = .ok (.invokevirtual 115, 3) := by decide +kernel
theorem dX6_node_5 : decode cX6_node 5 = .ok (.ifCond .ne 5, 3) := by decide +kernel
theorem dX6_node_8 : decode cX6_node 8 = .ok (.iconst (-1), 1) := by decide +kernel
theorem dX6_node_9 : decode cX6_node 9 = .ok (.ireturn, 1) := by decide +kernel
theorem dX6_node_10 : decode cX6_node 10 = .ok (.iload_n 2, 1) := by decide +kernel
theorem dX6_node_11 : decode cX6_node 11 = .ok (.tableswitch 73 0 3 #[29, 39, 49, 63], 29) := by decide +kernel
theorem dX6_node_40 : decode cX6_node 40 = .ok (.aload_n 0, 1) := by decide +kernel
theorem dX6_node_41 : decode cX6_node 41 = .ok (.getfield 16, 3) := by decide +kernel
theorem dX6_node_44 : decode cX6_node 44 = .ok (.getfield 118, 3) := by decide +kernel
theorem dX6_node_47 : decode cX6_node 47 = .ok (.iload_n 1, 1) := by decide +kernel
theorem dX6_node_48 : decode cX6_node 48 = .ok (.iaload, 1) := by decide +kernel
theorem dX6_node_49 : decode cX6_node 49 = .ok (.ireturn, 1) := by decide +kernel
theorem dX6_node_50 : decode cX6_node 50 = .ok (.aload_n 0, 1) := by decide +kernel
theorem dX6_node_51 : decode cX6_node 51 = .ok (.getfield 16, 3) := by decide +kernel
theorem dX6_node_54 : decode cX6_node 54 = .ok (.getfield 121, 3) := by decide +kernel
theorem dX6_node_57 : decode cX6_node 57 = .ok (.iload_n 1, 1) := by decide +kernel
theorem dX6_node_58 : decode cX6_node 58 = .ok (.iaload, 1) := by decide +kernel
theorem dX6_node_59 : decode cX6_node 59 = .ok (.ireturn, 1) := by decide +kernel
theorem dX6_node_60 : decode cX6_node 60 = .ok (.iconst 0, 1) := by decide +kernel
theorem dX6_node_61 : decode cX6_node 61 = .ok (.aload_n 0, 1) := by decide +kernel
theorem dX6_node_62 : decode cX6_node 62 = .ok (.getfield 16, 3) := by decide +kernel
theorem dX6_node_65 : decode cX6_node 65 = .ok (.getfield 124, 3) := by decide +kernel
theorem dX6_node_68 : decode cX6_node 68 = .ok (.iload_n 1, 1) := by decide +kernel
theorem dX6_node_69 : decode cX6_node 69 = .ok (.iaload, 1) := by decide +kernel
theorem dX6_node_70 : decode cX6_node 70 = .ok (.invokestatic 127, 3) := by decide +kernel
theorem dX6_node_73 : decode cX6_node 73 = .ok (.ireturn, 1) := by decide +kernel
theorem dX6_node_74 : decode cX6_node 74 = .ok (.aload_n 0, 1) := by decide +kernel
theorem dX6_node_75 : decode cX6_node 75 = .ok (.getfield 16, 3) := by decide +kernel
theorem dX6_node_78 : decode cX6_node 78 = .ok (.getfield 132, 3) := by decide +kernel
theorem dX6_node_81 : decode cX6_node 81 = .ok (.iload_n 1, 1) := by decide +kernel
theorem dX6_node_82 : decode cX6_node 82 = .ok (.iaload, 1) := by decide +kernel
theorem dX6_node_83 : decode cX6_node 83 = .ok (.ireturn, 1) := by decide +kernel
theorem dX6_node_84 : decode cX6_node 84 = .ok (.iconst (-1), 1) := by decide +kernel
theorem dX6_node_85 : decode cX6_node 85 = .ok (.ireturn, 1) := by decide +kernel
theorem dX6_alike_0 : decode cX6_alike 0 = .ok (.aload_n 0, 1) := by decide +kernel
theorem dX6_alike_1 : decode cX6_alike 1 = .ok (.iload_n 1, 1) := by decide +kernel
theorem dX6_alike_2 : decode cX6_alike 2 = .ok (.invokevirtual 115, 3) := by decide +kernel
theorem dX6_alike_5 : decode cX6_alike 5 = .ok (.ifCond .eq 36, 3) := by decide +kernel
theorem dX6_alike_8 : decode cX6_alike 8 = .ok (.aload_n 0, 1) := by decide +kernel
theorem dX6_alike_9 : decode cX6_alike 9 = .ok (.iload_n 2, 1) := by decide +kernel
theorem dX6_alike_10 : decode cX6_alike 10 = .ok (.invokevirtual 115, 3) := by decide +kernel
theorem dX6_alike_13 : decode cX6_alike 13 = .ok (.ifCond .eq 28, 3) := by decide +kernel
theorem dX6_alike_16 : decode cX6_alike 16 = .ok (.aload_n 0, 1) := by decide +kernel
theorem dX6_alike_17 : decode cX6_alike 17 = .ok (.getfield 16, 3) := by decide +kernel
theorem dX6_alike_20 : decode cX6_alike 20 = .ok (.getfield 135, 3) := by decide +kernel
theorem dX6_alike_23 : decode cX6_alike 23 = .ok (.iload_n 1, 1) := by decide +kernel
theorem dX6_alike_24 : decode cX6_alike 24 = .ok (.iaload, 1) := by decide +kernel
theorem dX6_alike_25 : decode cX6_alike 25 = .ok (.aload_n 0, 1) := by decide +kernel
theorem dX6_alike_26 : decode cX6_alike 26 = .ok (.getfield 16, 3) := by decide +kernel
theorem dX6_alike_29 : decode cX6_alike 29 = .ok (.getfield 135, 3) := by decide +kernel
theorem dX6_alike_32 : decode cX6_alike 32 = .ok (.iload_n 2, 1) := by decide +kernel
theorem dX6_alike_33 : decode cX6_alike 33 = .ok (.iaload, 1) := by decide +kernel
theorem dX6_alike_34 : decode cX6_alike 34 = .ok (.if_icmp .ne 7, 3) := by decide +kernel
theorem dX6_alike_37 : decode cX6_alike 37 = .ok (.iconst 1, 1) := by decide +kernel
theorem dX6_alike_38 : decode cX6_alike 38 = .ok (.goto 4, 3) := by decide +kernel
theorem dX6_alike_41 : decode cX6_alike 41 = .ok (.iconst 0, 1) := by decide +kernel
theorem dX6_alike_42 : decode cX6_alike 42 = .ok (.ireturn, 1) := by decide +kernel
theorem dX6_matches_0 : decode cX6_matches 0 = .ok (.aload_n 0, 1) := by decide +kernel
theorem dX6_matches_1 : decode cX6_matches 1 = .ok (.getfield 41, 3) := by decide +kernel
theorem dX6_matches_4 : decode cX6_matches 4 = .ok (.invokevirtual 138, 3) := by decide +kernel
theorem dX6_matches_7 : decode cX6_matches 7 = .ok (.ireturn, 1) := by decide +kernel
theorem dX6_match_0 : decode cX6_match 0 = .ok (.aload_n 0, 1) := by decide +kernel
theorem dX6_match_1 : decode cX6_match 1 = .ok (.getfield 41, 3) := by decide +kernel
theorem dX6_match_4 : decode cX6_match 4 = .ok (.iload_n 1, 1) := by decide +kernel
theorem dX6_match_5 : decode cX6_match 5 = .ok (.invokevirtual 142, 3) := by decide +kernel
theorem dX6_match_8 : decode cX6_match 8 = .ok (.ireturn, 1) := by decide +kernel
theorem dX6_hole_0 : decode cX6_hole 0 = .ok (.aload_n 0, 1) := by decide +kernel
theorem dX6_hole_1 : decode cX6_hole 1 = .ok (.iload_n 1, 1) := by decide +kernel
theorem dX6_hole_2 : decode cX6_hole 2 = .ok (.iload_n 2, 1) := by decide +kernel
theorem dX6_hole_3 : decode cX6_hole 3 = .ok (.invokevirtual 145, 3) := by decide +kernel
theorem dX6_hole_6 : decode cX6_hole 6 = .ok (.ifCond .eq 14, 3) := by decide +kernel
theorem dX6_hole_9 : decode cX6_hole 9 = .ok (.aload_n 0, 1) := by decide +kernel
theorem dX6_hole_10 : decode cX6_hole 10 = .ok (.getfield 41, 3) := by decide +kernel
theorem dX6_hole_13 : decode cX6_hole 13 = .ok (.iload_n 2, 1) := by decide +kernel
theorem dX6_hole_14 : decode cX6_hole 14 = .ok (.invokevirtual 148, 3) := by decide +kernel
theorem dX6_hole_17 : decode cX6_hole 17 = .ok (.goto 4, 3) := by decide +kernel
theorem dX6_hole_20 : decode cX6_hole 20 = .ok (.iconst (-1), 1) := by decide +kernel
theorem dX6_hole_21 : decode cX6_hole 21 = .ok (.ireturn, 1) := by decide +kernel
theorem dX6_row_0 : decode cX6_row 0 = .ok (.aload_n 0, 1) := by decide +kernel
theorem dX6_row_1 : decode cX6_row 1 = .ok (.iload_n 1, 1) := by decide +kernel
theorem dX6_row_2 : decode cX6_row 2 = .ok (.iload_n 2, 1) := by decide +kernel
theorem dX6_row_3 : decode cX6_row 3 = .ok (.invokevirtual 145, 3) := by decide +kernel
theorem dX6_row_6 : decode cX6_row 6 = .ok (.ifCond .eq 14, 3) := by decide +kernel
theorem dX6_row_9 : decode cX6_row 9 = .ok (.aload_n 0, 1) := by decide +kernel
theorem dX6_row_10 : decode cX6_row 10 = .ok (.getfield 41, 3) := by decide +kernel
theorem dX6_row_13 : decode cX6_row 13 = .ok (.iload_n 2, 1) := by decide +kernel
theorem dX6_row_14 : decode cX6_row 14 = .ok (.invokevirtual 151, 3) := by decide +kernel
theorem dX6_row_17 : decode cX6_row 17 = .ok (.goto 4, 3) := by decide +kernel
theorem dX6_row_20 : decode cX6_row 20 = .ok (.iconst (-1), 1) := by decide +kernel
theorem dX6_row_21 : decode cX6_row 21 = .ok (.ireturn, 1) := by decide +kernel
theorem dX6_taken_0 : decode cX6_taken 0 = .ok (.iload_n 1, 1) := by decide +kernel
theorem dX6_taken_1 : decode cX6_taken 1 = .ok (.invokestatic 154, 3) := by decide +kernel
theorem dX6_taken_4 : decode cX6_taken 4 = .ok (.ifCond .ne 5, 3) := by decide +kernel
theorem dX6_taken_7 : decode cX6_taken 7 = .ok (.iconst (-1), 1) := by decide +kernel
theorem dX6_taken_8 : decode cX6_taken 8 = .ok (.ireturn, 1) := by decide +kernel
theorem dX6_taken_9 : decode cX6_taken 9 = .ok (.aload_n 0, 1) := by decide +kernel
theorem dX6_taken_10 : decode cX6_taken 10 = .ok (.getfield 41, 3) := by decide +kernel
theorem dX6_taken_13 : decode cX6_taken 13 = .ok (.invokevirtual 157, 3) := by decide +kernel
theorem dX6_taken_16 : decode cX6_taken 16 = .ok (.aload_n 0, 1) := by decide +kernel
theorem dX6_taken_17 : decode cX6_taken 17 = .ok (.getfield 50, 3) := by decide +kernel
theorem dX6_taken_20 : decode cX6_taken 20 = .ok (.iload_n 1, 1) := by decide +kernel
theorem dX6_taken_21 : decode cX6_taken 21 = .ok (.invokevirtual 160, 3) := by decide +kernel
theorem dX6_taken_24 : decode cX6_taken 24 = .ok (.aload_n 0, 1) := by decide +kernel
theorem dX6_taken_25 : decode cX6_taken 25 = .ok (.getfield 50, 3) := by decide +kernel
theorem dX6_taken_28 : decode cX6_taken 28 = .ok (.getfield 163, 3) := by decide +kernel
theorem dX6_taken_31 : decode cX6_taken 31 = .ok (.ireturn, 1) := by decide +kernel
theorem dX6_takes_0 : decode cX6_takes 0 = .ok (.iload_n 1, 1) := by decide +kernel
theorem dX6_takes_1 : decode cX6_takes 1 = .ok (.invokestatic 154, 3) := by decide +kernel
theorem dX6_takes_4 : decode cX6_takes 4 = .ok (.ifCond .ne 5, 3) := by decide +kernel
theorem dX6_takes_7 : decode cX6_takes 7 = .ok (.iconst (-1), 1) := by decide +kernel
theorem dX6_takes_8 : decode cX6_takes 8 = .ok (.ireturn, 1) := by decide +kernel
theorem dX6_takes_9 : decode cX6_takes 9 = .ok (.aload_n 0, 1) := by decide +kernel
theorem dX6_takes_10 : decode cX6_takes 10 = .ok (.getfield 41, 3) := by decide +kernel
theorem dX6_takes_13 : decode cX6_takes 13 = .ok (.invokevirtual 157, 3) := by decide +kernel
theorem dX6_takes_16 : decode cX6_takes 16 = .ok (.aload_n 0, 1) := by decide +kernel
theorem dX6_takes_17 : decode cX6_takes 17 = .ok (.getfield 50, 3) := by decide +kernel
theorem dX6_takes_20 : decode cX6_takes 20 = .ok (.iload_n 1, 1) := by decide +kernel
theorem dX6_takes_21 : decode cX6_takes 21 = .ok (.invokevirtual 160, 3) := by decide +kernel
theorem dX6_takes_24 : decode cX6_takes 24 = .ok (.iload_n 2, 1) := by decide +kernel
theorem dX6_takes_25 : decode cX6_takes 25 = .ok (.ifCond .lt 26, 3) := by decide +kernel
theorem dX6_takes_28 : decode cX6_takes 28 = .ok (.iload_n 2, 1) := by decide +kernel
theorem dX6_takes_29 : decode cX6_takes 29 = .ok (.aload_n 0, 1) := by decide +kernel
theorem dX6_takes_30 : decode cX6_takes 30 = .ok (.getfield 50, 3) := by decide +kernel
theorem dX6_takes_33 : decode cX6_takes 33 = .ok (.getfield 163, 3) := by decide +kernel
theorem dX6_takes_36 : decode cX6_takes 36 = .ok (.if_icmp .ge 15, 3) := by decide +kernel
theorem dX6_takes_39 : decode cX6_takes 39 = .ok (.aload_n 0, 1) := by decide +kernel
theorem dX6_takes_40 : decode cX6_takes 40 = .ok (.getfield 50, 3) := by decide +kernel
theorem dX6_takes_43 : decode cX6_takes 43 = .ok (.getfield 166, 3) := by decide +kernel
theorem dX6_takes_46 : decode cX6_takes 46 = .ok (.iload_n 2, 1) := by decide +kernel
theorem dX6_takes_47 : decode cX6_takes 47 = .ok (.iaload, 1) := by decide +kernel
theorem dX6_takes_48 : decode cX6_takes 48 = .ok (.goto 4, 3) := by decide +kernel
theorem dX6_takes_51 : decode cX6_takes 51 = .ok (.iconst (-1), 1) := by decide +kernel
theorem dX6_takes_52 : decode cX6_takes 52 = .ok (.ireturn, 1) := by decide +kernel
theorem dX6_put_0 : decode cX6_put 0 = .ok (.aload_n 0, 1) := by decide +kernel
theorem dX6_put_1 : decode cX6_put 1 = .ok (.iload_n 1, 1) := by decide +kernel
theorem dX6_put_2 : decode cX6_put 2 = .ok (.invokevirtual 169, 3) := by decide +kernel
theorem dX6_put_5 : decode cX6_put 5 = .ok (.ifCond .ne 6, 3) := by decide +kernel
theorem dX6_put_8 : decode cX6_put 8 = .ok (.bipush (-2), 2) := by decide +kernel
theorem dX6_put_10 : decode cX6_put 10 = .ok (.ireturn, 1) := by decide +kernel
theorem dX6_put_11 : decode cX6_put 11 = .ok (.aload_n 0, 1) := by decide +kernel
theorem dX6_put_12 : decode cX6_put 12 = .ok (.getfield 66, 3) := by decide +kernel
theorem dX6_put_15 : decode cX6_put 15 = .ok (.aload_n 0, 1) := by decide +kernel
theorem dX6_put_16 : decode cX6_put 16 = .ok (.getfield 16, 3) := by decide +kernel
theorem dX6_put_19 : decode cX6_put 19 = .ok (.invokevirtual 172, 3) := by decide +kernel
theorem dX6_put_22 : decode cX6_put 22 = .ok (.aload_n 0, 1) := by decide +kernel
theorem dX6_put_23 : decode cX6_put 23 = .ok (.iload_n 1, 1) := by decide +kernel
theorem dX6_put_24 : decode cX6_put 24 = .ok (.invokevirtual 176, 3) := by decide +kernel
theorem dX6_put_27 : decode cX6_put 27 = .ok (.istore_n 2, 1) := by decide +kernel
theorem dX6_put_28 : decode cX6_put 28 = .ok (.iload_n 2, 1) := by decide +kernel
theorem dX6_put_29 : decode cX6_put 29 = .ok (.bipush (-2), 2) := by decide +kernel
theorem dX6_put_31 : decode cX6_put 31 = .ok (.if_icmp .eq 10, 3) := by decide +kernel
theorem dX6_put_34 : decode cX6_put 34 = .ok (.aload_n 0, 1) := by decide +kernel
theorem dX6_put_35 : decode cX6_put 35 = .ok (.getfield 66, 3) := by decide +kernel
theorem dX6_put_38 : decode cX6_put 38 = .ok (.invokevirtual 179, 3) := by decide +kernel
theorem dX6_put_41 : decode cX6_put 41 = .ok (.iload_n 2, 1) := by decide +kernel
theorem dX6_put_42 : decode cX6_put 42 = .ok (.ireturn, 1) := by decide +kernel
theorem dX6_putAll_0 : decode cX6_putAll 0 = .ok (.aload_n 0, 1) := by decide +kernel
theorem dX6_putAll_1 : decode cX6_putAll 1 = .ok (.iload_n 1, 1) := by decide +kernel
theorem dX6_putAll_2 : decode cX6_putAll 2 = .ok (.invokevirtual 169, 3) := by decide +kernel
theorem dX6_putAll_5 : decode cX6_putAll 5 = .ok (.ifCond .ne 6, 3) := by decide +kernel
theorem dX6_putAll_8 : decode cX6_putAll 8 = .ok (.bipush (-2), 2) := by decide +kernel
theorem dX6_putAll_10 : decode cX6_putAll 10 = .ok (.ireturn, 1) := by decide +kernel
theorem dX6_putAll_11 : decode cX6_putAll 11 = .ok (.aload_n 0, 1) := by decide +kernel
theorem dX6_putAll_12 : decode cX6_putAll 12 = .ok (.getfield 66, 3) := by decide +kernel
theorem dX6_putAll_15 : decode cX6_putAll 15 = .ok (.aload_n 0, 1) := by decide +kernel
theorem dX6_putAll_16 : decode cX6_putAll 16 = .ok (.getfield 16, 3) := by decide +kernel
theorem dX6_putAll_19 : decode cX6_putAll 19 = .ok (.invokevirtual 172, 3) := by decide +kernel
theorem dX6_putAll_22 : decode cX6_putAll 22 = .ok (.iconst 0, 1) := by decide +kernel
theorem dX6_putAll_23 : decode cX6_putAll 23 = .ok (.istore_n 2, 1) := by decide +kernel
theorem dX6_putAll_24 : decode cX6_putAll 24 = .ok (.iload_n 2, 1) := by decide +kernel
theorem dX6_putAll_25 : decode cX6_putAll 25 = .ok (.bipush 20, 2) := by decide +kernel
theorem dX6_putAll_27 : decode cX6_putAll 27 = .ok (.if_icmp .gt 50, 3) := by decide +kernel
theorem dX6_putAll_30 : decode cX6_putAll 30 = .ok (.aload_n 0, 1) := by decide +kernel
theorem dX6_putAll_31 : decode cX6_putAll 31 = .ok (.iload_n 1, 1) := by decide +kernel
theorem dX6_putAll_32 : decode cX6_putAll 32 = .ok (.invokevirtual 176, 3) := by decide +kernel
theorem dX6_putAll_35 : decode cX6_putAll 35 = .ok (.istore_n 3, 1) := by decide +kernel
theorem dX6_putAll_36 : decode cX6_putAll 36 = .ok (.iload_n 3, 1) := by decide +kernel
theorem dX6_putAll_37 : decode cX6_putAll 37 = .ok (.ifCond .ne 12, 3) := by decide +kernel
theorem dX6_putAll_40 : decode cX6_putAll 40 = .ok (.aload_n 0, 1) := by decide +kernel
theorem dX6_putAll_41 : decode cX6_putAll 41 = .ok (.getfield 66, 3) := by decide +kernel
theorem dX6_putAll_44 : decode cX6_putAll 44 = .ok (.invokevirtual 179, 3) := by decide +kernel
theorem dX6_putAll_47 : decode cX6_putAll 47 = .ok (.iload_n 2, 1) := by decide +kernel
theorem dX6_putAll_48 : decode cX6_putAll 48 = .ok (.ireturn, 1) := by decide +kernel
theorem dX6_putAll_49 : decode cX6_putAll 49 = .ok (.iload_n 3, 1) := by decide +kernel
theorem dX6_putAll_50 : decode cX6_putAll 50 = .ok (.bipush (-2), 2) := by decide +kernel
theorem dX6_putAll_52 : decode cX6_putAll 52 = .ok (.if_icmp .ne 10, 3) := by decide +kernel
theorem dX6_putAll_55 : decode cX6_putAll 55 = .ok (.iload_n 2, 1) := by decide +kernel
theorem dX6_putAll_56 : decode cX6_putAll 56 = .ok (.ifCond .ne 6, 3) := by decide +kernel
theorem dX6_putAll_59 : decode cX6_putAll 59 = .ok (.bipush (-2), 2) := by decide +kernel
theorem dX6_putAll_61 : decode cX6_putAll 61 = .ok (.ireturn, 1) := by decide +kernel
theorem dX6_putAll_62 : decode cX6_putAll 62 = .ok (.iload_n 3, 1) := by decide +kernel
theorem dX6_putAll_63 : decode cX6_putAll 63 = .ok (.bipush (-2), 2) := by decide +kernel
theorem dX6_putAll_65 : decode cX6_putAll 65 = .ok (.if_icmp .ne 6, 3) := by decide +kernel
theorem dX6_putAll_68 : decode cX6_putAll 68 = .ok (.goto 9, 3) := by decide +kernel
theorem dX6_putAll_71 : decode cX6_putAll 71 = .ok (.iinc 2 1, 3) := by decide +kernel
theorem dX6_putAll_74 : decode cX6_putAll 74 = .ok (.goto (-50), 3) := by decide +kernel
theorem dX6_putAll_77 : decode cX6_putAll 77 = .ok (.aload_n 0, 1) := by decide +kernel
theorem dX6_putAll_78 : decode cX6_putAll 78 = .ok (.invokevirtual 182, 3) := by decide +kernel
theorem dX6_putAll_81 : decode cX6_putAll 81 = .ok (.iconst (-1), 1) := by decide +kernel
theorem dX6_putAll_82 : decode cX6_putAll 82 = .ok (.ireturn, 1) := by decide +kernel
theorem dX6_back_0 : decode cX6_back 0 = .ok (.aload_n 0, 1) := by decide +kernel
theorem dX6_back_1 : decode cX6_back 1 = .ok (.getfield 66, 3) := by decide +kernel
theorem dX6_back_4 : decode cX6_back 4 = .ok (.invokevirtual 185, 3) := by decide +kernel
theorem dX6_back_7 : decode cX6_back 7 = .ok (.ifCond .ne 5, 3) := by decide +kernel
theorem dX6_back_10 : decode cX6_back 10 = .ok (.iconst 0, 1) := by decide +kernel
theorem dX6_back_11 : decode cX6_back 11 = .ok (.ireturn, 1) := by decide +kernel
theorem dX6_back_12 : decode cX6_back 12 = .ok (.aload_n 0, 1) := by decide +kernel
theorem dX6_back_13 : decode cX6_back 13 = .ok (.invokevirtual 182, 3) := by decide +kernel
theorem dX6_back_16 : decode cX6_back 16 = .ok (.iconst 1, 1) := by decide +kernel
theorem dX6_back_17 : decode cX6_back 17 = .ok (.ireturn, 1) := by decide +kernel
theorem dX6_at_0 : decode cX6_at 0 = .ok (.iload_n 1, 1) := by decide +kernel
theorem dX6_at_1 : decode cX6_at 1 = .ok (.ifCond .lt 14, 3) := by decide +kernel
theorem dX6_at_4 : decode cX6_at 4 = .ok (.iload_n 1, 1) := by decide +kernel
theorem dX6_at_5 : decode cX6_at 5 = .ok (.aload_n 0, 1) := by decide +kernel
theorem dX6_at_6 : decode cX6_at 6 = .ok (.getfield 16, 3) := by decide +kernel
theorem dX6_at_9 : decode cX6_at 9 = .ok (.getfield 189, 3) := by decide +kernel
theorem dX6_at_12 : decode cX6_at 12 = .ok (.if_icmp .lt 13, 3) := by decide +kernel
theorem dX6_at_15 : decode cX6_at 15 = .ok (.new 192, 3) := by decide +kernel
theorem dX6_at_18 : decode cX6_at 18 = .ok (.dup, 1) := by decide +kernel
theorem dX6_at_19 : decode cX6_at 19 = .ok (.ldc 194, 2) := by decide +kernel
theorem dX6_at_21 : decode cX6_at 21 = .ok (.invokespecial 196, 3) := by decide +kernel
theorem dX6_at_24 : decode cX6_at 24 = .ok (.athrow, 1) := by decide +kernel
theorem dX6_at_25 : decode cX6_at 25 = .ok (.aload_n 0, 1) := by decide +kernel
theorem dX6_at_26 : decode cX6_at 26 = .ok (.getfield 16, 3) := by decide +kernel
theorem dX6_at_29 : decode cX6_at 29 = .ok (.getfield 199, 3) := by decide +kernel
theorem dX6_at_32 : decode cX6_at 32 = .ok (.iload_n 1, 1) := by decide +kernel
theorem dX6_at_33 : decode cX6_at 33 = .ok (.iaload, 1) := by decide +kernel
theorem dX6_at_34 : decode cX6_at 34 = .ok (.ireturn, 1) := by decide +kernel
theorem dX6_count_0 : decode cX6_count 0 = .ok (.iload_n 1, 1) := by decide +kernel
theorem dX6_count_1 : decode cX6_count 1 = .ok (.tableswitch 72 0 4 #[35, 43, 51, 59, 64], 35) := by decide +kernel
theorem dX6_count_36 : decode cX6_count 36 = .ok (.aload_n 0, 1) := by decide +kernel
theorem dX6_count_37 : decode cX6_count 37 = .ok (.getfield 16, 3) := by decide +kernel
theorem dX6_count_40 : decode cX6_count 40 = .ok (.getfield 189, 3) := by decide +kernel
theorem dX6_count_43 : decode cX6_count 43 = .ok (.ireturn, 1) := by decide +kernel
theorem dX6_count_44 : decode cX6_count 44 = .ok (.aload_n 0, 1) := by decide +kernel
theorem dX6_count_45 : decode cX6_count 45 = .ok (.getfield 20, 3) := by decide +kernel
theorem dX6_count_48 : decode cX6_count 48 = .ok (.getfield 189, 3) := by decide +kernel
theorem dX6_count_51 : decode cX6_count 51 = .ok (.ireturn, 1) := by decide +kernel
theorem dX6_count_52 : decode cX6_count 52 = .ok (.aload_n 0, 1) := by decide +kernel
theorem dX6_count_53 : decode cX6_count 53 = .ok (.getfield 23, 3) := by decide +kernel
theorem dX6_count_56 : decode cX6_count 56 = .ok (.getfield 189, 3) := by decide +kernel
theorem dX6_count_59 : decode cX6_count 59 = .ok (.ireturn, 1) := by decide +kernel
theorem dX6_count_60 : decode cX6_count 60 = .ok (.aload_n 0, 1) := by decide +kernel
theorem dX6_count_61 : decode cX6_count 61 = .ok (.getfield 82, 3) := by decide +kernel
theorem dX6_count_64 : decode cX6_count 64 = .ok (.ireturn, 1) := by decide +kernel
theorem dX6_count_65 : decode cX6_count 65 = .ok (.aload_n 0, 1) := by decide +kernel
theorem dX6_count_66 : decode cX6_count 66 = .ok (.getfield 66, 3) := by decide +kernel
theorem dX6_count_69 : decode cX6_count 69 = .ok (.getfield 202, 3) := by decide +kernel
theorem dX6_count_72 : decode cX6_count 72 = .ok (.ireturn, 1) := by decide +kernel
theorem dX6_count_73 : decode cX6_count 73 = .ok (.iconst (-1), 1) := by decide +kernel
theorem dX6_count_74 : decode cX6_count 74 = .ok (.ireturn, 1) := by decide +kernel
theorem dX6_writeFed_0 : decode cX6_writeFed 0 = .ok (.iload_n 2, 1) := by decide +kernel
theorem dX6_writeFed_1 : decode cX6_writeFed 1 = .ok (.istore_n 3, 1) := by decide +kernel
theorem dX6_writeFed_2 : decode cX6_writeFed 2 = .ok (.bipush 24, 2) := by decide +kernel
theorem dX6_writeFed_4 : decode cX6_writeFed 4 = .ok (.istore 4, 2) := by decide +kernel
theorem dX6_writeFed_6 : decode cX6_writeFed 6 = .ok (.iload 4, 2) := by decide +kernel
theorem dX6_writeFed_8 : decode cX6_writeFed 8 = .ok (.ifCond .lt 44, 3) := by decide +kernel
theorem dX6_writeFed_11 : decode cX6_writeFed 11 = .ok (.iload_n 1, 1) := by decide +kernel
theorem dX6_writeFed_12 : decode cX6_writeFed 12 = .ok (.iload 4, 2) := by decide +kernel
theorem dX6_writeFed_14 : decode cX6_writeFed 14 = .ok (.iushr, 1) := by decide +kernel
theorem dX6_writeFed_15 : decode cX6_writeFed 15 = .ok (.sipush 255, 3) := by decide +kernel
theorem dX6_writeFed_18 : decode cX6_writeFed 18 = .ok (.iand, 1) := by decide +kernel
theorem dX6_writeFed_19 : decode cX6_writeFed 19 = .ok (.istore 5, 2) := by decide +kernel
theorem dX6_writeFed_21 : decode cX6_writeFed 21 = .ok (.iload 5, 2) := by decide +kernel
theorem dX6_writeFed_23 : decode cX6_writeFed 23 = .ok (.ifCond .eq 23, 3) := by decide +kernel
theorem dX6_writeFed_26 : decode cX6_writeFed 26 = .ok (.iload_n 3, 1) := by decide +kernel
theorem dX6_writeFed_27 : decode cX6_writeFed 27 = .ok (.aload_n 0, 1) := by decide +kernel
theorem dX6_writeFed_28 : decode cX6_writeFed 28 = .ok (.getfield 9, 3) := by decide +kernel
theorem dX6_writeFed_31 : decode cX6_writeFed 31 = .ok (.arraylength, 1) := by decide +kernel
theorem dX6_writeFed_32 : decode cX6_writeFed 32 = .ok (.if_icmp .ge 14, 3) := by decide +kernel
theorem dX6_writeFed_35 : decode cX6_writeFed 35 = .ok (.aload_n 0, 1) := by decide +kernel
theorem dX6_writeFed_36 : decode cX6_writeFed 36 = .ok (.getfield 9, 3) := by decide +kernel
theorem dX6_writeFed_39 : decode cX6_writeFed 39 = .ok (.iload_n 3, 1) := by decide +kernel
theorem dX6_writeFed_40 : decode cX6_writeFed 40 = .ok (.iload 5, 2) := by decide +kernel
theorem dX6_writeFed_42 : decode cX6_writeFed 42 = .ok (.iastore, 1) := by decide +kernel
theorem dX6_writeFed_43 : decode cX6_writeFed 43 = .ok (.iinc 3 1, 3) := by decide +kernel
theorem dX6_writeFed_46 : decode cX6_writeFed 46 = .ok (.iinc 4 (-8), 3) := by decide +kernel
theorem dX6_writeFed_49 : decode cX6_writeFed 49 = .ok (.goto (-43), 3) := by decide +kernel
theorem dX6_writeFed_52 : decode cX6_writeFed 52 = .ok (.iload_n 3, 1) := by decide +kernel
theorem dX6_writeFed_53 : decode cX6_writeFed 53 = .ok (.ireturn, 1) := by decide +kernel
theorem dX6_readTape_0 : decode cX6_readTape 0 = .ok (.iload_n 1, 1) := by decide +kernel
theorem dX6_readTape_1 : decode cX6_readTape 1 = .ok (.ifCond .lt 21, 3) := by decide +kernel
theorem dX6_readTape_4 : decode cX6_readTape 4 = .ok (.iload_n 1, 1) := by decide +kernel
theorem dX6_readTape_5 : decode cX6_readTape 5 = .ok (.iconst 2, 1) := by decide +kernel
theorem dX6_readTape_6 : decode cX6_readTape 6 = .ok (.if_icmp .gt 16, 3) := by decide +kernel
theorem dX6_readTape_9 : decode cX6_readTape 9 = .ok (.iload_n 1, 1) := by decide +kernel
theorem dX6_readTape_10 : decode cX6_readTape 10 = .ok (.ifCond .eq 15, 3) := by decide +kernel
theorem dX6_readTape_13 : decode cX6_readTape 13 = .ok (.aload_n 0, 1) := by decide +kernel
theorem dX6_readTape_14 : decode cX6_readTape 14 = .ok (.getfield 82, 3) := by decide +kernel
theorem dX6_readTape_17 : decode cX6_readTape 17 = .ok (.bipush 80, 2) := by decide +kernel
theorem dX6_readTape_19 : decode cX6_readTape 19 = .ok (.if_icmp .le 6, 3) := by decide +kernel
theorem dX6_readTape_22 : decode cX6_readTape 22 = .ok (.bipush (-2), 2) := by decide +kernel
theorem dX6_readTape_24 : decode cX6_readTape 24 = .ok (.ireturn, 1) := by decide +kernel
theorem dX6_readTape_25 : decode cX6_readTape 25 = .ok (.aload_n 0, 1) := by decide +kernel
theorem dX6_readTape_26 : decode cX6_readTape 26 = .ok (.getfield 26, 3) := by decide +kernel
theorem dX6_readTape_29 : decode cX6_readTape 29 = .ok (.aload_n 0, 1) := by decide +kernel
theorem dX6_readTape_30 : decode cX6_readTape 30 = .ok (.getfield 9, 3) := by decide +kernel
theorem dX6_readTape_33 : decode cX6_readTape 33 = .ok (.aload_n 0, 1) := by decide +kernel
theorem dX6_readTape_34 : decode cX6_readTape 34 = .ok (.getfield 82, 3) := by decide +kernel
theorem dX6_readTape_37 : decode cX6_readTape 37 = .ok (.invokevirtual 70, 3) := by decide +kernel
theorem dX6_readTape_40 : decode cX6_readTape 40 = .ok (.aload_n 0, 1) := by decide +kernel
theorem dX6_readTape_41 : decode cX6_readTape 41 = .ok (.getfield 32, 3) := by decide +kernel
theorem dX6_readTape_44 : decode cX6_readTape 44 = .ok (.aload_n 0, 1) := by decide +kernel
theorem dX6_readTape_45 : decode cX6_readTape 45 = .ok (.getfield 26, 3) := by decide +kernel
theorem dX6_readTape_48 : decode cX6_readTape 48 = .ok (.iload_n 1, 1) := by decide +kernel
theorem dX6_readTape_49 : decode cX6_readTape 49 = .ok (.invokevirtual 74, 3) := by decide +kernel
theorem dX6_readTape_52 : decode cX6_readTape 52 = .ok (.ireturn, 1) := by decide +kernel
theorem dX6_adoptSpare_0 : decode cX6_adoptSpare 0 = .ok (.iload_n 1, 1) := by decide +kernel
theorem dX6_adoptSpare_1 : decode cX6_adoptSpare 1 = .ok (.ifCond .ne 10, 3) := by decide +kernel
theorem dX6_adoptSpare_4 : decode cX6_adoptSpare 4 = .ok (.aload_n 0, 1) := by decide +kernel
theorem dX6_adoptSpare_5 : decode cX6_adoptSpare 5 = .ok (.getfield 16, 3) := by decide +kernel
theorem dX6_adoptSpare_8 : decode cX6_adoptSpare 8 = .ok (.goto 19, 3) := by decide +kernel
theorem dX6_adoptSpare_11 : decode cX6_adoptSpare 11 = .ok (.iload_n 1, 1) := by decide +kernel
theorem dX6_adoptSpare_12 : decode cX6_adoptSpare 12 = .ok (.iconst 1, 1) := by decide +kernel
theorem dX6_adoptSpare_13 : decode cX6_adoptSpare 13 = .ok (.if_icmp .ne 10, 3) := by decide +kernel
theorem dX6_adoptSpare_16 : decode cX6_adoptSpare 16 = .ok (.aload_n 0, 1) := by decide +kernel
theorem dX6_adoptSpare_17 : decode cX6_adoptSpare 17 = .ok (.getfield 20, 3) := by decide +kernel
theorem dX6_adoptSpare_20 : decode cX6_adoptSpare 20 = .ok (.goto 7, 3) := by decide +kernel
theorem dX6_adoptSpare_23 : decode cX6_adoptSpare 23 = .ok (.aload_n 0, 1) := by decide +kernel
theorem dX6_adoptSpare_24 : decode cX6_adoptSpare 24 = .ok (.getfield 23, 3) := by decide +kernel
theorem dX6_adoptSpare_27 : decode cX6_adoptSpare 27 = .ok (.astore_n 2, 1) := by decide +kernel
theorem dX6_adoptSpare_28 : decode cX6_adoptSpare 28 = .ok (.aload_n 2, 1) := by decide +kernel
theorem dX6_adoptSpare_29 : decode cX6_adoptSpare 29 = .ok (.aload_n 0, 1) := by decide +kernel
theorem dX6_adoptSpare_30 : decode cX6_adoptSpare 30 = .ok (.getfield 26, 3) := by decide +kernel
theorem dX6_adoptSpare_33 : decode cX6_adoptSpare 33 = .ok (.invokevirtual 205, 3) := by decide +kernel
theorem dX6_adoptSpare_36 : decode cX6_adoptSpare 36 = .ok (.iload_n 1, 1) := by decide +kernel
theorem dX6_adoptSpare_37 : decode cX6_adoptSpare 37 = .ok (.ifCond .ne 13, 3) := by decide +kernel
theorem dX6_adoptSpare_40 : decode cX6_adoptSpare 40 = .ok (.aload_n 0, 1) := by decide +kernel
theorem dX6_adoptSpare_41 : decode cX6_adoptSpare 41 = .ok (.getfield 16, 3) := by decide +kernel
theorem dX6_adoptSpare_44 : decode cX6_adoptSpare 44 = .ok (.invokevirtual 208, 3) := by decide +kernel
theorem dX6_adoptSpare_47 : decode cX6_adoptSpare 47 = .ok (.goto 15, 3) := by decide +kernel
theorem dX6_adoptSpare_50 : decode cX6_adoptSpare 50 = .ok (.iload_n 1, 1) := by decide +kernel
theorem dX6_adoptSpare_51 : decode cX6_adoptSpare 51 = .ok (.iconst 1, 1) := by decide +kernel
theorem dX6_adoptSpare_52 : decode cX6_adoptSpare 52 = .ok (.if_icmp .ne 10, 3) := by decide +kernel
theorem dX6_adoptSpare_55 : decode cX6_adoptSpare 55 = .ok (.aload_n 0, 1) := by decide +kernel
theorem dX6_adoptSpare_56 : decode cX6_adoptSpare 56 = .ok (.getfield 41, 3) := by decide +kernel
theorem dX6_adoptSpare_59 : decode cX6_adoptSpare 59 = .ok (.invokevirtual 211, 3) := by decide +kernel
theorem dX6_adoptSpare_62 : decode cX6_adoptSpare 62 = .ok (.iload_n 1, 1) := by decide +kernel
theorem dX6_adoptSpare_63 : decode cX6_adoptSpare 63 = .ok (.iconst 2, 1) := by decide +kernel
theorem dX6_adoptSpare_64 : decode cX6_adoptSpare 64 = .ok (.if_icmp .eq 10, 3) := by decide +kernel
theorem dX6_adoptSpare_67 : decode cX6_adoptSpare 67 = .ok (.aload_n 0, 1) := by decide +kernel
theorem dX6_adoptSpare_68 : decode cX6_adoptSpare 68 = .ok (.getfield 41, 3) := by decide +kernel
theorem dX6_adoptSpare_71 : decode cX6_adoptSpare 71 = .ok (.invokevirtual 214, 3) := by decide +kernel
theorem dX6_adoptSpare_74 : decode cX6_adoptSpare 74 = .ok (.return_, 1) := by decide +kernel
theorem dX6_restoreWritten_0 : decode cX6_restoreWritten 0 = .ok (.aload_n 0, 1) := by decide +kernel
theorem dX6_restoreWritten_1 : decode cX6_restoreWritten 1 = .ok (.getfield 66, 3) := by decide +kernel
theorem dX6_restoreWritten_4 : decode cX6_restoreWritten 4 = .ok (.aload_n 0, 1) := by decide +kernel
theorem dX6_restoreWritten_5 : decode cX6_restoreWritten 5 = .ok (.getfield 26, 3) := by decide +kernel
theorem dX6_restoreWritten_8 : decode cX6_restoreWritten 8 = .ok (.invokevirtual 217, 3) := by decide +kernel
theorem dX6_restoreWritten_11 : decode cX6_restoreWritten 11 = .ok (.aload_n 0, 1) := by decide +kernel
theorem dX6_restoreWritten_12 : decode cX6_restoreWritten 12 = .ok (.getfield 32, 3) := by decide +kernel
theorem dX6_restoreWritten_15 : decode cX6_restoreWritten 15 = .ok (.aload_n 0, 1) := by decide +kernel
theorem dX6_restoreWritten_16 : decode cX6_restoreWritten 16 = .ok (.getfield 26, 3) := by decide +kernel
theorem dX6_restoreWritten_19 : decode cX6_restoreWritten 19 = .ok (.iconst 0, 1) := by decide +kernel
theorem dX6_restoreWritten_20 : decode cX6_restoreWritten 20 = .ok (.invokevirtual 74, 3) := by decide +kernel
theorem dX6_restoreWritten_23 : decode cX6_restoreWritten 23 = .ok (.pop, 1) := by decide +kernel
theorem dX6_restoreWritten_24 : decode cX6_restoreWritten 24 = .ok (.aload_n 0, 1) := by decide +kernel
theorem dX6_restoreWritten_25 : decode cX6_restoreWritten 25 = .ok (.iconst 0, 1) := by decide +kernel
theorem dX6_restoreWritten_26 : decode cX6_restoreWritten 26 = .ok (.invokevirtual 78, 3) := by decide +kernel
theorem dX6_restoreWritten_29 : decode cX6_restoreWritten 29 = .ok (.return_, 1) := by decide +kernel
theorem dX6_putOnce_0 : decode cX6_putOnce 0 = .ok (.aload_n 0, 1) := by decide +kernel
theorem dX6_putOnce_1 : decode cX6_putOnce 1 = .ok (.getfield 41, 3) := by decide +kernel
theorem dX6_putOnce_4 : decode cX6_putOnce 4 = .ok (.invokevirtual 157, 3) := by decide +kernel
theorem dX6_putOnce_7 : decode cX6_putOnce 7 = .ok (.aload_n 0, 1) := by decide +kernel
theorem dX6_putOnce_8 : decode cX6_putOnce 8 = .ok (.getfield 50, 3) := by decide +kernel
theorem dX6_putOnce_11 : decode cX6_putOnce 11 = .ok (.iload_n 1, 1) := by decide +kernel
theorem dX6_putOnce_12 : decode cX6_putOnce 12 = .ok (.invokevirtual 160, 3) := by decide +kernel
theorem dX6_putOnce_15 : decode cX6_putOnce 15 = .ok (.aload_n 0, 1) := by decide +kernel
theorem dX6_putOnce_16 : decode cX6_putOnce 16 = .ok (.getfield 50, 3) := by decide +kernel
theorem dX6_putOnce_19 : decode cX6_putOnce 19 = .ok (.getfield 163, 3) := by decide +kernel
theorem dX6_putOnce_22 : decode cX6_putOnce 22 = .ok (.ifCond .ne 5, 3) := by decide +kernel
theorem dX6_putOnce_25 : decode cX6_putOnce 25 = .ok (.iconst 0, 1) := by decide +kernel
theorem dX6_putOnce_26 : decode cX6_putOnce 26 = .ok (.ireturn, 1) := by decide +kernel
theorem dX6_putOnce_27 : decode cX6_putOnce 27 = .ok (.aload_n 0, 1) := by decide +kernel
theorem dX6_putOnce_28 : decode cX6_putOnce 28 = .ok (.getfield 59, 3) := by decide +kernel
theorem dX6_putOnce_31 : decode cX6_putOnce 31 = .ok (.aload_n 0, 1) := by decide +kernel
theorem dX6_putOnce_32 : decode cX6_putOnce 32 = .ok (.getfield 26, 3) := by decide +kernel
theorem dX6_putOnce_35 : decode cX6_putOnce 35 = .ok (.aload_n 0, 1) := by decide +kernel
theorem dX6_putOnce_36 : decode cX6_putOnce 36 = .ok (.getfield 50, 3) := by decide +kernel
theorem dX6_putOnce_39 : decode cX6_putOnce 39 = .ok (.invokevirtual 220, 3) := by decide +kernel
theorem dX6_putOnce_42 : decode cX6_putOnce 42 = .ok (.ifCond .eq 19, 3) := by decide +kernel
theorem dX6_putOnce_45 : decode cX6_putOnce 45 = .ok (.aload_n 0, 1) := by decide +kernel
theorem dX6_putOnce_46 : decode cX6_putOnce 46 = .ok (.getfield 32, 3) := by decide +kernel
theorem dX6_putOnce_49 : decode cX6_putOnce 49 = .ok (.aload_n 0, 1) := by decide +kernel
theorem dX6_putOnce_50 : decode cX6_putOnce 50 = .ok (.getfield 26, 3) := by decide +kernel
theorem dX6_putOnce_53 : decode cX6_putOnce 53 = .ok (.iconst 0, 1) := by decide +kernel
theorem dX6_putOnce_54 : decode cX6_putOnce 54 = .ok (.invokevirtual 74, 3) := by decide +kernel
theorem dX6_putOnce_57 : decode cX6_putOnce 57 = .ok (.iconst (-1), 1) := by decide +kernel
theorem dX6_putOnce_58 : decode cX6_putOnce 58 = .ok (.if_icmp .eq 6, 3) := by decide +kernel
theorem dX6_putOnce_61 : decode cX6_putOnce 61 = .ok (.bipush (-2), 2) := by decide +kernel
theorem dX6_putOnce_63 : decode cX6_putOnce 63 = .ok (.ireturn, 1) := by decide +kernel
theorem dX6_putOnce_64 : decode cX6_putOnce 64 = .ok (.aload_n 0, 1) := by decide +kernel
theorem dX6_putOnce_65 : decode cX6_putOnce 65 = .ok (.iconst 0, 1) := by decide +kernel
theorem dX6_putOnce_66 : decode cX6_putOnce 66 = .ok (.invokevirtual 78, 3) := by decide +kernel
theorem dX6_putOnce_69 : decode cX6_putOnce 69 = .ok (.aload_n 0, 1) := by decide +kernel
theorem dX6_putOnce_70 : decode cX6_putOnce 70 = .ok (.getfield 50, 3) := by decide +kernel
theorem dX6_putOnce_73 : decode cX6_putOnce 73 = .ok (.getfield 163, 3) := by decide +kernel
theorem dX6_putOnce_76 : decode cX6_putOnce 76 = .ok (.ireturn, 1) := by decide +kernel
theorem dX6_mayPut_0 : decode cX6_mayPut 0 = .ok (.iload_n 1, 1) := by decide +kernel
theorem dX6_mayPut_1 : decode cX6_mayPut 1 = .ok (.invokestatic 154, 3) := by decide +kernel
theorem dX6_mayPut_4 : decode cX6_mayPut 4 = .ok (.ifCond .ne 5, 3) := by decide +kernel
theorem dX6_mayPut_7 : decode cX6_mayPut 7 = .ok (.iconst 0, 1) := by decide +kernel
theorem dX6_mayPut_8 : decode cX6_mayPut 8 = .ok (.ireturn, 1) := by decide +kernel
theorem dX6_mayPut_9 : decode cX6_mayPut 9 = .ok (.iconst 0, 1) := by decide +kernel
theorem dX6_mayPut_10 : decode cX6_mayPut 10 = .ok (.istore_n 2, 1) := by decide +kernel
theorem dX6_mayPut_11 : decode cX6_mayPut 11 = .ok (.iload_n 2, 1) := by decide +kernel
theorem dX6_mayPut_12 : decode cX6_mayPut 12 = .ok (.bipush 26, 2) := by decide +kernel
theorem dX6_mayPut_14 : decode cX6_mayPut 14 = .ok (.if_icmp .ge 37, 3) := by decide +kernel
theorem dX6_mayPut_17 : decode cX6_mayPut 17 = .ok (.aload_n 0, 1) := by decide +kernel
theorem dX6_mayPut_18 : decode cX6_mayPut 18 = .ok (.getfield 23, 3) := by decide +kernel
theorem dX6_mayPut_21 : decode cX6_mayPut 21 = .ok (.iload_n 2, 1) := by decide +kernel
theorem dX6_mayPut_22 : decode cX6_mayPut 22 = .ok (.invokevirtual 224, 3) := by decide +kernel
theorem dX6_mayPut_25 : decode cX6_mayPut 25 = .ok (.istore_n 3, 1) := by decide +kernel
theorem dX6_mayPut_26 : decode cX6_mayPut 26 = .ok (.iload_n 3, 1) := by decide +kernel
theorem dX6_mayPut_27 : decode cX6_mayPut 27 = .ok (.iconst (-1), 1) := by decide +kernel
theorem dX6_mayPut_28 : decode cX6_mayPut 28 = .ok (.if_icmp .eq 17, 3) := by decide +kernel
theorem dX6_mayPut_31 : decode cX6_mayPut 31 = .ok (.iload_n 3, 1) := by decide +kernel
theorem dX6_mayPut_32 : decode cX6_mayPut 32 = .ok (.aload_n 0, 1) := by decide +kernel
theorem dX6_mayPut_33 : decode cX6_mayPut 33 = .ok (.getfield 20, 3) := by decide +kernel
theorem dX6_mayPut_36 : decode cX6_mayPut 36 = .ok (.iload_n 2, 1) := by decide +kernel
theorem dX6_mayPut_37 : decode cX6_mayPut 37 = .ok (.invokevirtual 224, 3) := by decide +kernel
theorem dX6_mayPut_40 : decode cX6_mayPut 40 = .ok (.if_icmp .eq 5, 3) := by decide +kernel
theorem dX6_mayPut_43 : decode cX6_mayPut 43 = .ok (.iconst 0, 1) := by decide +kernel
theorem dX6_mayPut_44 : decode cX6_mayPut 44 = .ok (.ireturn, 1) := by decide +kernel
theorem dX6_mayPut_45 : decode cX6_mayPut 45 = .ok (.iinc 2 1, 3) := by decide +kernel
theorem dX6_mayPut_48 : decode cX6_mayPut 48 = .ok (.goto (-37), 3) := by decide +kernel
theorem dX6_mayPut_51 : decode cX6_mayPut 51 = .ok (.iconst 1, 1) := by decide +kernel
theorem dX6_mayPut_52 : decode cX6_mayPut 52 = .ok (.ireturn, 1) := by decide +kernel
theorem dX6_isBound_0 : decode cX6_isBound 0 = .ok (.aload_n 0, 1) := by decide +kernel
theorem dX6_isBound_1 : decode cX6_isBound 1 = .ok (.iload_n 1, 1) := by decide +kernel
theorem dX6_isBound_2 : decode cX6_isBound 2 = .ok (.invokevirtual 115, 3) := by decide +kernel
theorem dX6_isBound_5 : decode cX6_isBound 5 = .ok (.ifCond .eq 37, 3) := by decide +kernel
theorem dX6_isBound_8 : decode cX6_isBound 8 = .ok (.iload_n 2, 1) := by decide +kernel
theorem dX6_isBound_9 : decode cX6_isBound 9 = .ok (.invokestatic 100, 3) := by decide +kernel
theorem dX6_isBound_12 : decode cX6_isBound 12 = .ok (.ifCond .eq 30, 3) := by decide +kernel
theorem dX6_isBound_15 : decode cX6_isBound 15 = .ok (.aload_n 0, 1) := by decide +kernel
theorem dX6_isBound_16 : decode cX6_isBound 16 = .ok (.getfield 20, 3) := by decide +kernel
theorem dX6_isBound_19 : decode cX6_isBound 19 = .ok (.iload_n 2, 1) := by decide +kernel
theorem dX6_isBound_20 : decode cX6_isBound 20 = .ok (.invokevirtual 224, 3) := by decide +kernel
theorem dX6_isBound_23 : decode cX6_isBound 23 = .ok (.iconst (-1), 1) := by decide +kernel
theorem dX6_isBound_24 : decode cX6_isBound 24 = .ok (.if_icmp .eq 18, 3) := by decide +kernel
theorem dX6_isBound_27 : decode cX6_isBound 27 = .ok (.aload_n 0, 1) := by decide +kernel
theorem dX6_isBound_28 : decode cX6_isBound 28 = .ok (.getfield 41, 3) := by decide +kernel
theorem dX6_isBound_31 : decode cX6_isBound 31 = .ok (.iload_n 1, 1) := by decide +kernel
theorem dX6_isBound_32 : decode cX6_isBound 32 = .ok (.invokevirtual 227, 3) := by decide +kernel
theorem dX6_isBound_35 : decode cX6_isBound 35 = .ok (.ifCond .eq 7, 3) := by decide +kernel
theorem dX6_isBound_38 : decode cX6_isBound 38 = .ok (.iconst 1, 1) := by decide +kernel
theorem dX6_isBound_39 : decode cX6_isBound 39 = .ok (.goto 4, 3) := by decide +kernel
theorem dX6_isBound_42 : decode cX6_isBound 42 = .ok (.iconst 0, 1) := by decide +kernel
theorem dX6_isBound_43 : decode cX6_isBound 43 = .ok (.ireturn, 1) := by decide +kernel
theorem dX6_isNode_0 : decode cX6_isNode 0 = .ok (.iload_n 1, 1) := by decide +kernel
theorem dX6_isNode_1 : decode cX6_isNode 1 = .ok (.ifCond .lt 18, 3) := by decide +kernel
theorem dX6_isNode_4 : decode cX6_isNode 4 = .ok (.iload_n 1, 1) := by decide +kernel
theorem dX6_isNode_5 : decode cX6_isNode 5 = .ok (.aload_n 0, 1) := by decide +kernel
theorem dX6_isNode_6 : decode cX6_isNode 6 = .ok (.getfield 16, 3) := by decide +kernel
theorem dX6_isNode_9 : decode cX6_isNode 9 = .ok (.getfield 112, 3) := by decide +kernel
theorem dX6_isNode_12 : decode cX6_isNode 12 = .ok (.if_icmp .ge 7, 3) := by decide +kernel
theorem dX6_isNode_15 : decode cX6_isNode 15 = .ok (.iconst 1, 1) := by decide +kernel
theorem dX6_isNode_16 : decode cX6_isNode 16 = .ok (.goto 4, 3) := by decide +kernel
theorem dX6_isNode_19 : decode cX6_isNode 19 = .ok (.iconst 0, 1) := by decide +kernel
theorem dX6_isNode_20 : decode cX6_isNode 20 = .ok (.ireturn, 1) := by decide +kernel
theorem dX6_isLetter_0 : decode cX6_isLetter 0 = .ok (.iload_n 0, 1) := by decide +kernel
theorem dX6_isLetter_1 : decode cX6_isLetter 1 = .ok (.ifCond .lt 13, 3) := by decide +kernel
theorem dX6_isLetter_4 : decode cX6_isLetter 4 = .ok (.iload_n 0, 1) := by decide +kernel
theorem dX6_isLetter_5 : decode cX6_isLetter 5 = .ok (.bipush 26, 2) := by decide +kernel
theorem dX6_isLetter_7 : decode cX6_isLetter 7 = .ok (.if_icmp .ge 7, 3) := by decide +kernel
theorem dX6_isLetter_10 : decode cX6_isLetter 10 = .ok (.iconst 1, 1) := by decide +kernel
theorem dX6_isLetter_11 : decode cX6_isLetter 11 = .ok (.goto 4, 3) := by decide +kernel
theorem dX6_isLetter_14 : decode cX6_isLetter 14 = .ok (.iconst 0, 1) := by decide +kernel
theorem dX6_isLetter_15 : decode cX6_isLetter 15 = .ok (.ireturn, 1) := by decide +kernel
theorem dX6_isRule_0 : decode cX6_isRule 0 = .ok (.iload_n 0, 1) := by decide +kernel
theorem dX6_isRule_1 : decode cX6_isRule 1 = .ok (.ifCond .lt 12, 3) := by decide +kernel
theorem dX6_isRule_4 : decode cX6_isRule 4 = .ok (.iload_n 0, 1) := by decide +kernel
theorem dX6_isRule_5 : decode cX6_isRule 5 = .ok (.iconst 2, 1) := by decide +kernel
theorem dX6_isRule_6 : decode cX6_isRule 6 = .ok (.if_icmp .gt 7, 3) := by decide +kernel
theorem dX6_isRule_9 : decode cX6_isRule 9 = .ok (.iconst 1, 1) := by decide +kernel
theorem dX6_isRule_10 : decode cX6_isRule 10 = .ok (.goto 4, 3) := by decide +kernel
theorem dX6_isRule_13 : decode cX6_isRule 13 = .ok (.iconst 0, 1) := by decide +kernel
theorem dX6_isRule_14 : decode cX6_isRule 14 = .ok (.ireturn, 1) := by decide +kernel
theorem dX6_isSmall_0 : decode cX6_isSmall 0 = .ok (.iload_n 0, 1) := by decide +kernel
theorem dX6_isSmall_1 : decode cX6_isSmall 1 = .ok (.bipush 97, 2) := by decide +kernel
theorem dX6_isSmall_3 : decode cX6_isSmall 3 = .ok (.if_icmp .lt 13, 3) := by decide +kernel
theorem dX6_isSmall_6 : decode cX6_isSmall 6 = .ok (.iload_n 0, 1) := by decide +kernel
theorem dX6_isSmall_7 : decode cX6_isSmall 7 = .ok (.bipush 122, 2) := by decide +kernel
theorem dX6_isSmall_9 : decode cX6_isSmall 9 = .ok (.if_icmp .gt 7, 3) := by decide +kernel
theorem dX6_isSmall_12 : decode cX6_isSmall 12 = .ok (.iconst 1, 1) := by decide +kernel
theorem dX6_isSmall_13 : decode cX6_isSmall 13 = .ok (.goto 4, 3) := by decide +kernel
theorem dX6_isSmall_16 : decode cX6_isSmall 16 = .ok (.iconst 0, 1) := by decide +kernel
theorem dX6_isSmall_17 : decode cX6_isSmall 17 = .ok (.ireturn, 1) := by decide +kernel
theorem dX6_isAtomByte_0 : decode cX6_isAtomByte 0 = .ok (.iload_n 0, 1) := by decide +kernel
theorem dX6_isAtomByte_1 : decode cX6_isAtomByte 1 = .ok (.bipush 97, 2) := by decide +kernel
theorem dX6_isAtomByte_3 : decode cX6_isAtomByte 3 = .ok (.if_icmp .lt 9, 3) := by decide +kernel
theorem dX6_isAtomByte_6 : decode cX6_isAtomByte 6 = .ok (.iload_n 0, 1) := by decide +kernel
theorem dX6_isAtomByte_7 : decode cX6_isAtomByte 7 = .ok (.bipush 122, 2) := by decide +kernel
theorem dX6_isAtomByte_9 : decode cX6_isAtomByte 9 = .ok (.if_icmp .le 15, 3) := by decide +kernel
theorem dX6_isAtomByte_12 : decode cX6_isAtomByte 12 = .ok (.iload_n 0, 1) := by decide +kernel
theorem dX6_isAtomByte_13 : decode cX6_isAtomByte 13 = .ok (.bipush 48, 2) := by decide +kernel
theorem dX6_isAtomByte_15 : decode cX6_isAtomByte 15 = .ok (.if_icmp .lt 13, 3) := by decide +kernel
theorem dX6_isAtomByte_18 : decode cX6_isAtomByte 18 = .ok (.iload_n 0, 1) := by decide +kernel
theorem dX6_isAtomByte_19 : decode cX6_isAtomByte 19 = .ok (.bipush 57, 2) := by decide +kernel
theorem dX6_isAtomByte_21 : decode cX6_isAtomByte 21 = .ok (.if_icmp .gt 7, 3) := by decide +kernel
theorem dX6_isAtomByte_24 : decode cX6_isAtomByte 24 = .ok (.iconst 1, 1) := by decide +kernel
theorem dX6_isAtomByte_25 : decode cX6_isAtomByte 25 = .ok (.goto 4, 3) := by decide +kernel
theorem dX6_isAtomByte_28 : decode cX6_isAtomByte 28 = .ok (.iconst 0, 1) := by decide +kernel
theorem dX6_isAtomByte_29 : decode cX6_isAtomByte 29 = .ok (.ireturn, 1) := by decide +kernel
theorem dX6_isBlank_0 : decode cX6_isBlank 0 = .ok (.iload_n 0, 1) := by decide +kernel
theorem dX6_isBlank_1 : decode cX6_isBlank 1 = .ok (.bipush 32, 2) := by decide +kernel
theorem dX6_isBlank_3 : decode cX6_isBlank 3 = .ok (.if_icmp .eq 9, 3) := by decide +kernel
theorem dX6_isBlank_6 : decode cX6_isBlank 6 = .ok (.iload_n 0, 1) := by decide +kernel
theorem dX6_isBlank_7 : decode cX6_isBlank 7 = .ok (.bipush 10, 2) := by decide +kernel
theorem dX6_isBlank_9 : decode cX6_isBlank 9 = .ok (.if_icmp .ne 7, 3) := by decide +kernel
theorem dX6_isBlank_12 : decode cX6_isBlank 12 = .ok (.iconst 1, 1) := by decide +kernel
theorem dX6_isBlank_13 : decode cX6_isBlank 13 = .ok (.goto 4, 3) := by decide +kernel
theorem dX6_isBlank_16 : decode cX6_isBlank 16 = .ok (.iconst 0, 1) := by decide +kernel
theorem dX6_isBlank_17 : decode cX6_isBlank 17 = .ok (.ireturn, 1) := by decide +kernel
theorem dX7_init_0 : decode cX7_init 0 = .ok (.aload_n 0, 1) := by decide +kernel
theorem dX7_init_1 : decode cX7_init 1 = .ok (.invokespecial 3, 3) := by decide +kernel
theorem dX7_init_4 : decode cX7_init 4 = .ok (.aload_n 0, 1) := by decide +kernel
theorem dX7_init_5 : decode cX7_init 5 = .ok (.sipush 240, 3) := by decide +kernel
theorem dX7_init_8 : decode cX7_init 8 = .ok (.newarray .byte, 2) := by decide +kernel
theorem dX7_init_10 : decode cX7_init 10 = .ok (.putfield 9, 3) := by decide +kernel
theorem dX7_init_13 : decode cX7_init 13 = .ok (.aload_n 0, 1) := by decide +kernel
theorem dX7_init_14 : decode cX7_init 14 = .ok (.sipush 240, 3) := by decide +kernel
theorem dX7_init_17 : decode cX7_init 17 = .ok (.newarray .int, 2) := by decide +kernel
theorem dX7_init_19 : decode cX7_init 19 = .ok (.putfield 15, 3) := by decide +kernel
theorem dX7_init_22 : decode cX7_init 22 = .ok (.aload_n 0, 1) := by decide +kernel
theorem dX7_init_23 : decode cX7_init 23 = .ok (.sipush 240, 3) := by decide +kernel
theorem dX7_init_26 : decode cX7_init 26 = .ok (.newarray .int, 2) := by decide +kernel
theorem dX7_init_28 : decode cX7_init 28 = .ok (.putfield 19, 3) := by decide +kernel
theorem dX7_init_31 : decode cX7_init 31 = .ok (.aload_n 0, 1) := by decide +kernel
theorem dX7_init_32 : decode cX7_init 32 = .ok (.sipush 240, 3) := by decide +kernel
theorem dX7_init_35 : decode cX7_init 35 = .ok (.newarray .int, 2) := by decide +kernel
theorem dX7_init_37 : decode cX7_init 37 = .ok (.putfield 22, 3) := by decide +kernel
theorem dX7_init_40 : decode cX7_init 40 = .ok (.aload_n 0, 1) := by decide +kernel
theorem dX7_init_41 : decode cX7_init 41 = .ok (.sipush 240, 3) := by decide +kernel
theorem dX7_init_44 : decode cX7_init 44 = .ok (.newarray .int, 2) := by decide +kernel
theorem dX7_init_46 : decode cX7_init 46 = .ok (.putfield 25, 3) := by decide +kernel
theorem dX7_init_49 : decode cX7_init 49 = .ok (.aload_n 0, 1) := by decide +kernel
theorem dX7_init_50 : decode cX7_init 50 = .ok (.sipush 240, 3) := by decide +kernel
theorem dX7_init_53 : decode cX7_init 53 = .ok (.newarray .int, 2) := by decide +kernel
theorem dX7_init_55 : decode cX7_init 55 = .ok (.putfield 28, 3) := by decide +kernel
theorem dX7_init_58 : decode cX7_init 58 = .ok (.aload_n 0, 1) := by decide +kernel
theorem dX7_init_59 : decode cX7_init 59 = .ok (.sipush 240, 3) := by decide +kernel
theorem dX7_init_62 : decode cX7_init 62 = .ok (.newarray .int, 2) := by decide +kernel
theorem dX7_init_64 : decode cX7_init 64 = .ok (.putfield 31, 3) := by decide +kernel
theorem dX7_init_67 : decode cX7_init 67 = .ok (.aload_n 0, 1) := by decide +kernel
theorem dX7_init_68 : decode cX7_init 68 = .ok (.sipush 240, 3) := by decide +kernel
theorem dX7_init_71 : decode cX7_init 71 = .ok (.newarray .int, 2) := by decide +kernel
theorem dX7_init_73 : decode cX7_init 73 = .ok (.putfield 34, 3) := by decide +kernel
theorem dX7_init_76 : decode cX7_init 76 = .ok (.aload_n 0, 1) := by decide +kernel
theorem dX7_init_77 : decode cX7_init 77 = .ok (.sipush 240, 3) := by decide +kernel
theorem dX7_init_80 : decode cX7_init 80 = .ok (.newarray .boolean, 2) := by decide +kernel
theorem dX7_init_82 : decode cX7_init 82 = .ok (.putfield 37, 3) := by decide +kernel
theorem dX7_init_85 : decode cX7_init 85 = .ok (.return_, 1) := by decide +kernel
theorem dX7_term_0 : decode cX7_term 0 = .ok (.iload_n 2, 1) := by decide +kernel
theorem dX7_term_1 : decode cX7_term 1 = .ok (.istore_n 3, 1) := by decide +kernel
theorem dX7_term_2 : decode cX7_term 2 = .ok (.iload_n 1, 1) := by decide +kernel
theorem dX7_term_3 : decode cX7_term 3 = .ok (.iconst 1, 1) := by decide +kernel
theorem dX7_term_4 : decode cX7_term 4 = .ok (.iadd, 1) := by decide +kernel
theorem dX7_term_5 : decode cX7_term 5 = .ok (.istore 4, 2) := by decide +kernel
theorem dX7_term_7 : decode cX7_term 7 = .ok (.aload_n 0, 1) := by decide +kernel
theorem dX7_term_8 : decode cX7_term 8 = .ok (.getfield 31, 3) := by decide +kernel
theorem dX7_term_11 : decode cX7_term 11 = .ok (.iload 4, 2) := by decide +kernel
theorem dX7_term_13 : decode cX7_term 13 = .ok (.iaload, 1) := by decide +kernel
theorem dX7_term_14 : decode cX7_term 14 = .ok (.iload_n 1, 1) := by decide +kernel
theorem dX7_term_15 : decode cX7_term 15 = .ok (.if_icmp .ne 7, 3) := by decide +kernel
theorem dX7_term_18 : decode cX7_term 18 = .ok (.iload_n 3, 1) := by decide +kernel
theorem dX7_term_19 : decode cX7_term 19 = .ok (.ifCond .le 23, 3) := by decide +kernel
theorem dX7_term_22 : decode cX7_term 22 = .ok (.aload_n 0, 1) := by decide +kernel
theorem dX7_term_23 : decode cX7_term 23 = .ok (.getfield 31, 3) := by decide +kernel
theorem dX7_term_26 : decode cX7_term 26 = .ok (.iload 4, 2) := by decide +kernel
theorem dX7_term_28 : decode cX7_term 28 = .ok (.iaload, 1) := by decide +kernel
theorem dX7_term_29 : decode cX7_term 29 = .ok (.iload_n 1, 1) := by decide +kernel
theorem dX7_term_30 : decode cX7_term 30 = .ok (.if_icmp .ne 6, 3) := by decide +kernel
theorem dX7_term_33 : decode cX7_term 33 = .ok (.iinc 3 (-1), 3) := by decide +kernel
theorem dX7_term_36 : decode cX7_term 36 = .ok (.iinc 4 1, 3) := by decide +kernel
theorem dX7_term_39 : decode cX7_term 39 = .ok (.goto (-32), 3) := by decide +kernel
theorem dX7_term_42 : decode cX7_term 42 = .ok (.iload 4, 2) := by decide +kernel
theorem dX7_term_44 : decode cX7_term 44 = .ok (.ireturn, 1) := by decide +kernel
theorem dX8_init_0 : decode cX8_init 0 = .ok (.aload_n 0, 1) := by decide +kernel
theorem dX8_init_1 : decode cX8_init 1 = .ok (.invokespecial 1, 3) := by decide +kernel
theorem dX8_init_4 : decode cX8_init 4 = .ok (.aload_n 0, 1) := by decide +kernel
theorem dX8_init_5 : decode cX8_init 5 = .ok (.sipush 240, 3) := by decide +kernel
theorem dX8_init_8 : decode cX8_init 8 = .ok (.newarray .byte, 2) := by decide +kernel
theorem dX8_init_10 : decode cX8_init 10 = .ok (.putfield 9, 3) := by decide +kernel
theorem dX8_init_13 : decode cX8_init 13 = .ok (.aload_n 0, 1) := by decide +kernel
theorem dX8_init_14 : decode cX8_init 14 = .ok (.new 13, 3) := by decide +kernel
theorem dX8_init_17 : decode cX8_init 17 = .ok (.dup, 1) := by decide +kernel
theorem dX8_init_18 : decode cX8_init 18 = .ok (.invokespecial 15, 3) := by decide +kernel
theorem dX8_init_21 : decode cX8_init 21 = .ok (.putfield 16, 3) := by decide +kernel
theorem dX8_init_24 : decode cX8_init 24 = .ok (.aload_n 0, 1) := by decide +kernel
theorem dX8_init_25 : decode cX8_init 25 = .ok (.new 13, 3) := by decide +kernel
theorem dX8_init_28 : decode cX8_init 28 = .ok (.dup, 1) := by decide +kernel
theorem dX8_init_29 : decode cX8_init 29 = .ok (.invokespecial 15, 3) := by decide +kernel
theorem dX8_init_32 : decode cX8_init 32 = .ok (.putfield 20, 3) := by decide +kernel
theorem dX8_init_35 : decode cX8_init 35 = .ok (.aload_n 0, 1) := by decide +kernel
theorem dX8_init_36 : decode cX8_init 36 = .ok (.new 13, 3) := by decide +kernel
theorem dX8_init_39 : decode cX8_init 39 = .ok (.dup, 1) := by decide +kernel
theorem dX8_init_40 : decode cX8_init 40 = .ok (.invokespecial 15, 3) := by decide +kernel
theorem dX8_init_43 : decode cX8_init 43 = .ok (.putfield 23, 3) := by decide +kernel
theorem dX8_init_46 : decode cX8_init 46 = .ok (.aload_n 0, 1) := by decide +kernel
theorem dX8_init_47 : decode cX8_init 47 = .ok (.new 13, 3) := by decide +kernel
theorem dX8_init_50 : decode cX8_init 50 = .ok (.dup, 1) := by decide +kernel
theorem dX8_init_51 : decode cX8_init 51 = .ok (.invokespecial 15, 3) := by decide +kernel
theorem dX8_init_54 : decode cX8_init 54 = .ok (.putfield 26, 3) := by decide +kernel
theorem dX8_init_57 : decode cX8_init 57 = .ok (.aload_n 0, 1) := by decide +kernel
theorem dX8_init_58 : decode cX8_init 58 = .ok (.new 13, 3) := by decide +kernel
theorem dX8_init_61 : decode cX8_init 61 = .ok (.dup, 1) := by decide +kernel
theorem dX8_init_62 : decode cX8_init 62 = .ok (.invokespecial 15, 3) := by decide +kernel
theorem dX8_init_65 : decode cX8_init 65 = .ok (.putfield 29, 3) := by decide +kernel
theorem dX8_init_68 : decode cX8_init 68 = .ok (.aload_n 0, 1) := by decide +kernel
theorem dX8_init_69 : decode cX8_init 69 = .ok (.sipush 2400, 3) := by decide +kernel
theorem dX8_init_72 : decode cX8_init 72 = .ok (.newarray .byte, 2) := by decide +kernel
theorem dX8_init_74 : decode cX8_init 74 = .ok (.putfield 32, 3) := by decide +kernel
theorem dX8_init_77 : decode cX8_init 77 = .ok (.aload_n 0, 1) := by decide +kernel
theorem dX8_init_78 : decode cX8_init 78 = .ok (.bipush 10, 2) := by decide +kernel
theorem dX8_init_80 : decode cX8_init 80 = .ok (.newarray .int, 2) := by decide +kernel
theorem dX8_init_82 : decode cX8_init 82 = .ok (.putfield 35, 3) := by decide +kernel
theorem dX8_init_85 : decode cX8_init 85 = .ok (.aload_n 0, 1) := by decide +kernel
theorem dX8_init_86 : decode cX8_init 86 = .ok (.sipush 676, 3) := by decide +kernel
theorem dX8_init_89 : decode cX8_init 89 = .ok (.newarray .boolean, 2) := by decide +kernel
theorem dX8_init_91 : decode cX8_init 91 = .ok (.putfield 39, 3) := by decide +kernel
theorem dX8_init_94 : decode cX8_init 94 = .ok (.aload_n 0, 1) := by decide +kernel
theorem dX8_init_95 : decode cX8_init 95 = .ok (.bipush 26, 2) := by decide +kernel
theorem dX8_init_97 : decode cX8_init 97 = .ok (.newarray .int, 2) := by decide +kernel
theorem dX8_init_99 : decode cX8_init 99 = .ok (.putfield 43, 3) := by decide +kernel
theorem dX8_init_102 : decode cX8_init 102 = .ok (.aload_n 0, 1) := by decide +kernel
theorem dX8_init_103 : decode cX8_init 103 = .ok (.sipush 4000, 3) := by decide +kernel
theorem dX8_init_106 : decode cX8_init 106 = .ok (.newarray .int, 2) := by decide +kernel
theorem dX8_init_108 : decode cX8_init 108 = .ok (.putfield 46, 3) := by decide +kernel
theorem dX8_init_111 : decode cX8_init 111 = .ok (.aload_n 0, 1) := by decide +kernel
theorem dX8_init_112 : decode cX8_init 112 = .ok (.sipush 4000, 3) := by decide +kernel
theorem dX8_init_115 : decode cX8_init 115 = .ok (.newarray .int, 2) := by decide +kernel
theorem dX8_init_117 : decode cX8_init 117 = .ok (.putfield 49, 3) := by decide +kernel
theorem dX8_init_120 : decode cX8_init 120 = .ok (.aload_n 0, 1) := by decide +kernel
theorem dX8_init_121 : decode cX8_init 121 = .ok (.sipush 4000, 3) := by decide +kernel
theorem dX8_init_124 : decode cX8_init 124 = .ok (.newarray .int, 2) := by decide +kernel
theorem dX8_init_126 : decode cX8_init 126 = .ok (.putfield 52, 3) := by decide +kernel
theorem dX8_init_129 : decode cX8_init 129 = .ok (.aload_n 0, 1) := by decide +kernel
theorem dX8_init_130 : decode cX8_init 130 = .ok (.sipush 4000, 3) := by decide +kernel
theorem dX8_init_133 : decode cX8_init 133 = .ok (.newarray .int, 2) := by decide +kernel
theorem dX8_init_135 : decode cX8_init 135 = .ok (.putfield 55, 3) := by decide +kernel
theorem dX8_init_138 : decode cX8_init 138 = .ok (.aload_n 0, 1) := by decide +kernel
theorem dX8_init_139 : decode cX8_init 139 = .ok (.sipush 4000, 3) := by decide +kernel
theorem dX8_init_142 : decode cX8_init 142 = .ok (.newarray .int, 2) := by decide +kernel
theorem dX8_init_144 : decode cX8_init 144 = .ok (.putfield 58, 3) := by decide +kernel
theorem dX8_init_147 : decode cX8_init 147 = .ok (.aload_n 0, 1) := by decide +kernel
theorem dX8_init_148 : decode cX8_init 148 = .ok (.bipush 26, 2) := by decide +kernel
theorem dX8_init_150 : decode cX8_init 150 = .ok (.newarray .int, 2) := by decide +kernel
theorem dX8_init_152 : decode cX8_init 152 = .ok (.putfield 61, 3) := by decide +kernel
theorem dX8_init_155 : decode cX8_init 155 = .ok (.aload_n 0, 1) := by decide +kernel
theorem dX8_init_156 : decode cX8_init 156 = .ok (.bipush 26, 2) := by decide +kernel
theorem dX8_init_158 : decode cX8_init 158 = .ok (.newarray .int, 2) := by decide +kernel
theorem dX8_init_160 : decode cX8_init 160 = .ok (.putfield 64, 3) := by decide +kernel
theorem dX8_init_163 : decode cX8_init 163 = .ok (.aload_n 0, 1) := by decide +kernel
theorem dX8_init_164 : decode cX8_init 164 = .ok (.bipush 26, 2) := by decide +kernel
theorem dX8_init_166 : decode cX8_init 166 = .ok (.newarray .int, 2) := by decide +kernel
theorem dX8_init_168 : decode cX8_init 168 = .ok (.putfield 67, 3) := by decide +kernel
theorem dX8_init_171 : decode cX8_init 171 = .ok (.aload_n 0, 1) := by decide +kernel
theorem dX8_init_172 : decode cX8_init 172 = .ok (.bipush 26, 2) := by decide +kernel
theorem dX8_init_174 : decode cX8_init 174 = .ok (.newarray .int, 2) := by decide +kernel
theorem dX8_init_176 : decode cX8_init 176 = .ok (.putfield 70, 3) := by decide +kernel
theorem dX8_init_179 : decode cX8_init 179 = .ok (.aload_n 0, 1) := by decide +kernel
theorem dX8_init_180 : decode cX8_init 180 = .ok (.bipush 26, 2) := by decide +kernel
theorem dX8_init_182 : decode cX8_init 182 = .ok (.newarray .int, 2) := by decide +kernel
theorem dX8_init_184 : decode cX8_init 184 = .ok (.putfield 73, 3) := by decide +kernel
theorem dX8_init_187 : decode cX8_init 187 = .ok (.aload_n 0, 1) := by decide +kernel
theorem dX8_init_188 : decode cX8_init 188 = .ok (.sipush 240, 3) := by decide +kernel
theorem dX8_init_191 : decode cX8_init 191 = .ok (.newarray .boolean, 2) := by decide +kernel
theorem dX8_init_193 : decode cX8_init 193 = .ok (.putfield 76, 3) := by decide +kernel
theorem dX8_init_196 : decode cX8_init 196 = .ok (.aload_n 0, 1) := by decide +kernel
theorem dX8_init_197 : decode cX8_init 197 = .ok (.sipush 240, 3) := by decide +kernel
theorem dX8_init_200 : decode cX8_init 200 = .ok (.newarray .boolean, 2) := by decide +kernel
theorem dX8_init_202 : decode cX8_init 202 = .ok (.putfield 79, 3) := by decide +kernel
theorem dX8_init_205 : decode cX8_init 205 = .ok (.aload_n 0, 1) := by decide +kernel
theorem dX8_init_206 : decode cX8_init 206 = .ok (.sipush 240, 3) := by decide +kernel
theorem dX8_init_209 : decode cX8_init 209 = .ok (.newarray .int, 2) := by decide +kernel
theorem dX8_init_211 : decode cX8_init 211 = .ok (.putfield 82, 3) := by decide +kernel
theorem dX8_init_214 : decode cX8_init 214 = .ok (.aload_n 0, 1) := by decide +kernel
theorem dX8_init_215 : decode cX8_init 215 = .ok (.ldc 85, 2) := by decide +kernel
theorem dX8_init_217 : decode cX8_init 217 = .ok (.newarray .byte, 2) := by decide +kernel
theorem dX8_init_219 : decode cX8_init 219 = .ok (.putfield 86, 3) := by decide +kernel
theorem dX8_init_222 : decode cX8_init 222 = .ok (.aload_n 0, 1) := by decide +kernel
theorem dX8_init_223 : decode cX8_init 223 = .ok (.sipush 240, 3) := by decide +kernel
theorem dX8_init_226 : decode cX8_init 226 = .ok (.newarray .boolean, 2) := by decide +kernel
theorem dX8_init_228 : decode cX8_init 228 = .ok (.putfield 89, 3) := by decide +kernel
theorem dX8_init_231 : decode cX8_init 231 = .ok (.aload_n 0, 1) := by decide +kernel
theorem dX8_init_232 : decode cX8_init 232 = .ok (.sipush 240, 3) := by decide +kernel
theorem dX8_init_235 : decode cX8_init 235 = .ok (.newarray .boolean, 2) := by decide +kernel
theorem dX8_init_237 : decode cX8_init 237 = .ok (.putfield 92, 3) := by decide +kernel
theorem dX8_init_240 : decode cX8_init 240 = .ok (.iconst 0, 1) := by decide +kernel
theorem dX8_init_241 : decode cX8_init 241 = .ok (.istore_n 1, 1) := by decide +kernel
theorem dX8_init_242 : decode cX8_init 242 = .ok (.iload_n 1, 1) := by decide +kernel
theorem dX8_init_243 : decode cX8_init 243 = .ok (.iconst 3, 1) := by decide +kernel
theorem dX8_init_244 : decode cX8_init 244 = .ok (.if_icmp .ge 28, 3) := by decide +kernel
theorem dX8_init_247 : decode cX8_init 247 = .ok (.aload_n 0, 1) := by decide +kernel
theorem dX8_init_248 : decode cX8_init 248 = .ok (.getfield 9, 3) := by decide +kernel
theorem dX8_init_251 : decode cX8_init 251 = .ok (.iconst 0, 1) := by decide +kernel
theorem dX8_init_252 : decode cX8_init 252 = .ok (.bipush 97, 2) := by decide +kernel
theorem dX8_init_254 : decode cX8_init 254 = .ok (.bastore, 1) := by decide +kernel
theorem dX8_init_255 : decode cX8_init 255 = .ok (.aload_n 0, 1) := by decide +kernel
theorem dX8_init_256 : decode cX8_init 256 = .ok (.iconst 1, 1) := by decide +kernel
theorem dX8_init_257 : decode cX8_init 257 = .ok (.putfield 95, 3) := by decide +kernel
theorem dX8_init_260 : decode cX8_init 260 = .ok (.aload_n 0, 1) := by decide +kernel
theorem dX8_init_261 : decode cX8_init 261 = .ok (.iload_n 1, 1) := by decide +kernel
theorem dX8_init_262 : decode cX8_init 262 = .ok (.invokevirtual 99, 3) := by decide +kernel
theorem dX8_init_265 : decode cX8_init 265 = .ok (.istore_n 2, 1) := by decide +kernel
theorem dX8_init_266 : decode cX8_init 266 = .ok (.iinc 1 1, 3) := by decide +kernel
theorem dX8_init_269 : decode cX8_init 269 = .ok (.goto (-27), 3) := by decide +kernel
theorem dX8_init_272 : decode cX8_init 272 = .ok (.return_, 1) := by decide +kernel
theorem dX8_thrown_0 : decode cX8_thrown 0 = .ok (.aload_n 0, 1) := by decide +kernel
theorem dX8_thrown_1 : decode cX8_thrown 1 = .ok (.getfield 103, 3) := by decide +kernel
theorem dX8_thrown_4 : decode cX8_thrown 4 = .ok (.ireturn, 1) := by decide +kernel
theorem dX8_isIn_0 : decode cX8_isIn 0 = .ok (.iload_n 0, 1) := by decide +kernel
theorem dX8_isIn_1 : decode cX8_isIn 1 = .ok (.iload_n 1, 1) := by decide +kernel
theorem dX8_isIn_2 : decode cX8_isIn 2 = .ok (.if_icmp .lt 12, 3) := by decide +kernel
theorem dX8_isIn_5 : decode cX8_isIn 5 = .ok (.iload_n 0, 1) := by decide +kernel
theorem dX8_isIn_6 : decode cX8_isIn 6 = .ok (.iload_n 2, 1) := by decide +kernel
theorem dX8_isIn_7 : decode cX8_isIn 7 = .ok (.if_icmp .gt 7, 3) := by decide +kernel
theorem dX8_isIn_10 : decode cX8_isIn 10 = .ok (.iconst 1, 1) := by decide +kernel
theorem dX8_isIn_11 : decode cX8_isIn 11 = .ok (.goto 4, 3) := by decide +kernel
theorem dX8_isIn_14 : decode cX8_isIn 14 = .ok (.iconst 0, 1) := by decide +kernel
theorem dX8_isIn_15 : decode cX8_isIn 15 = .ok (.ireturn, 1) := by decide +kernel
theorem dX8_look_0 : decode cX8_look 0 = .ok (.aload_n 0, 1) := by decide +kernel
theorem dX8_look_1 : decode cX8_look 1 = .ok (.getfield 106, 3) := by decide +kernel
theorem dX8_look_4 : decode cX8_look 4 = .ok (.aload_n 0, 1) := by decide +kernel
theorem dX8_look_5 : decode cX8_look 5 = .ok (.getfield 109, 3) := by decide +kernel
theorem dX8_look_8 : decode cX8_look 8 = .ok (.getfield 112, 3) := by decide +kernel
theorem dX8_look_11 : decode cX8_look 11 = .ok (.if_icmp .ge 50, 3) := by decide +kernel
theorem dX8_look_14 : decode cX8_look 14 = .ok (.aload_n 0, 1) := by decide +kernel
theorem dX8_look_15 : decode cX8_look 15 = .ok (.getfield 109, 3) := by decide +kernel
theorem dX8_look_18 : decode cX8_look 18 = .ok (.getfield 113, 3) := by decide +kernel
theorem dX8_look_21 : decode cX8_look 21 = .ok (.aload_n 0, 1) := by decide +kernel
theorem dX8_look_22 : decode cX8_look 22 = .ok (.getfield 106, 3) := by decide +kernel
theorem dX8_look_25 : decode cX8_look 25 = .ok (.baload, 1) := by decide +kernel
theorem dX8_look_26 : decode cX8_look 26 = .ok (.bipush 32, 2) := by decide +kernel
theorem dX8_look_28 : decode cX8_look 28 = .ok (.if_icmp .eq 20, 3) := by decide +kernel
theorem dX8_look_31 : decode cX8_look 31 = .ok (.aload_n 0, 1) := by decide +kernel
theorem dX8_look_32 : decode cX8_look 32 = .ok (.getfield 109, 3) := by decide +kernel
theorem dX8_look_35 : decode cX8_look 35 = .ok (.getfield 113, 3) := by decide +kernel
theorem dX8_look_38 : decode cX8_look 38 = .ok (.aload_n 0, 1) := by decide +kernel
theorem dX8_look_39 : decode cX8_look 39 = .ok (.getfield 106, 3) := by decide +kernel
theorem dX8_look_42 : decode cX8_look 42 = .ok (.baload, 1) := by decide +kernel
theorem dX8_look_43 : decode cX8_look 43 = .ok (.bipush 10, 2) := by decide +kernel
theorem dX8_look_45 : decode cX8_look 45 = .ok (.if_icmp .ne 16, 3) := by decide +kernel
theorem dX8_look_48 : decode cX8_look 48 = .ok (.aload_n 0, 1) := by decide +kernel
theorem dX8_look_49 : decode cX8_look 49 = .ok (.dup, 1) := by decide +kernel
theorem dX8_look_50 : decode cX8_look 50 = .ok (.getfield 106, 3) := by decide +kernel
theorem dX8_look_53 : decode cX8_look 53 = .ok (.iconst 1, 1) := by decide +kernel
theorem dX8_look_54 : decode cX8_look 54 = .ok (.iadd, 1) := by decide +kernel
theorem dX8_look_55 : decode cX8_look 55 = .ok (.putfield 106, 3) := by decide +kernel
theorem dX8_look_58 : decode cX8_look 58 = .ok (.goto (-58), 3) := by decide +kernel
theorem dX8_look_61 : decode cX8_look 61 = .ok (.aload_n 0, 1) := by decide +kernel
theorem dX8_look_62 : decode cX8_look 62 = .ok (.getfield 106, 3) := by decide +kernel
theorem dX8_look_65 : decode cX8_look 65 = .ok (.aload_n 0, 1) := by decide +kernel
theorem dX8_look_66 : decode cX8_look 66 = .ok (.getfield 109, 3) := by decide +kernel
theorem dX8_look_69 : decode cX8_look 69 = .ok (.getfield 112, 3) := by decide +kernel
theorem dX8_look_72 : decode cX8_look 72 = .ok (.if_icmp .ge 22, 3) := by decide +kernel
theorem dX8_look_75 : decode cX8_look 75 = .ok (.aload_n 0, 1) := by decide +kernel
theorem dX8_look_76 : decode cX8_look 76 = .ok (.getfield 109, 3) := by decide +kernel
theorem dX8_look_79 : decode cX8_look 79 = .ok (.getfield 113, 3) := by decide +kernel
theorem dX8_look_82 : decode cX8_look 82 = .ok (.aload_n 0, 1) := by decide +kernel
theorem dX8_look_83 : decode cX8_look 83 = .ok (.getfield 106, 3) := by decide +kernel
theorem dX8_look_86 : decode cX8_look 86 = .ok (.baload, 1) := by decide +kernel
theorem dX8_look_87 : decode cX8_look 87 = .ok (.sipush 255, 3) := by decide +kernel
theorem dX8_look_90 : decode cX8_look 90 = .ok (.iand, 1) := by decide +kernel
theorem dX8_look_91 : decode cX8_look 91 = .ok (.goto 4, 3) := by decide +kernel
theorem dX8_look_94 : decode cX8_look 94 = .ok (.iconst (-1), 1) := by decide +kernel
theorem dX8_look_95 : decode cX8_look 95 = .ok (.ireturn, 1) := by decide +kernel
theorem dX8_isSmall_0 : decode cX8_isSmall 0 = .ok (.iload_n 0, 1) := by decide +kernel
theorem dX8_isSmall_1 : decode cX8_isSmall 1 = .ok (.bipush 97, 2) := by decide +kernel
theorem dX8_isSmall_3 : decode cX8_isSmall 3 = .ok (.if_icmp .lt 13, 3) := by decide +kernel
theorem dX8_isSmall_6 : decode cX8_isSmall 6 = .ok (.iload_n 0, 1) := by decide +kernel
theorem dX8_isSmall_7 : decode cX8_isSmall 7 = .ok (.bipush 122, 2) := by decide +kernel
theorem dX8_isSmall_9 : decode cX8_isSmall 9 = .ok (.if_icmp .gt 7, 3) := by decide +kernel
theorem dX8_isSmall_12 : decode cX8_isSmall 12 = .ok (.iconst 1, 1) := by decide +kernel
theorem dX8_isSmall_13 : decode cX8_isSmall 13 = .ok (.goto 4, 3) := by decide +kernel
theorem dX8_isSmall_16 : decode cX8_isSmall 16 = .ok (.iconst 0, 1) := by decide +kernel
theorem dX8_isSmall_17 : decode cX8_isSmall 17 = .ok (.ireturn, 1) := by decide +kernel
theorem dX8_isAtom_0 : decode cX8_isAtom 0 = .ok (.iload_n 0, 1) := by decide +kernel
theorem dX8_isAtom_1 : decode cX8_isAtom 1 = .ok (.invokestatic 116, 3) := by decide +kernel
theorem dX8_isAtom_4 : decode cX8_isAtom 4 = .ok (.ifCond .ne 15, 3) := by decide +kernel
theorem dX8_isAtom_7 : decode cX8_isAtom 7 = .ok (.iload_n 0, 1) := by decide +kernel
theorem dX8_isAtom_8 : decode cX8_isAtom 8 = .ok (.bipush 48, 2) := by decide +kernel
theorem dX8_isAtom_10 : decode cX8_isAtom 10 = .ok (.if_icmp .lt 13, 3) := by decide +kernel
theorem dX8_isAtom_13 : decode cX8_isAtom 13 = .ok (.iload_n 0, 1) := by decide +kernel
theorem dX8_isAtom_14 : decode cX8_isAtom 14 = .ok (.bipush 57, 2) := by decide +kernel
theorem dX8_isAtom_16 : decode cX8_isAtom 16 = .ok (.if_icmp .gt 7, 3) := by decide +kernel
theorem dX8_isAtom_19 : decode cX8_isAtom 19 = .ok (.iconst 1, 1) := by decide +kernel
theorem dX8_isAtom_20 : decode cX8_isAtom 20 = .ok (.goto 4, 3) := by decide +kernel
theorem dX8_isAtom_23 : decode cX8_isAtom 23 = .ok (.iconst 0, 1) := by decide +kernel
theorem dX8_isAtom_24 : decode cX8_isAtom 24 = .ok (.ireturn, 1) := by decide +kernel
theorem dX8_wrong_0 : decode cX8_wrong 0 = .ok (.aload_n 0, 1) := by decide +kernel
theorem dX8_wrong_1 : decode cX8_wrong 1 = .ok (.getfield 119, 3) := by decide +kernel
theorem dX8_wrong_4 : decode cX8_wrong 4 = .ok (.iconst (-1), 1) := by decide +kernel
theorem dX8_wrong_5 : decode cX8_wrong 5 = .ok (.if_icmp .ne 11, 3) := by decide +kernel
theorem dX8_wrong_8 : decode cX8_wrong 8 = .ok (.aload_n 0, 1) := by decide +kernel
theorem dX8_wrong_9 : decode cX8_wrong 9 = .ok (.aload_n 0, 1) := by decide +kernel
theorem dX8_wrong_10 : decode cX8_wrong 10 = .ok (.getfield 106, 3) := by decide +kernel
theorem dX8_wrong_13 : decode cX8_wrong 13 = .ok (.putfield 119, 3) := by decide +kernel
theorem dX8_wrong_16 : decode cX8_wrong 16 = .ok (.iconst 0, 1) := by decide +kernel
theorem dX8_wrong_17 : decode cX8_wrong 17 = .ok (.ireturn, 1) := by decide +kernel
theorem dX8_adds_0 : decode cX8_adds 0 = .ok (.aload_n 0, 1) := by decide +kernel
theorem dX8_adds_1 : decode cX8_adds 1 = .ok (.getfield 109, 3) := by decide +kernel
theorem dX8_adds_4 : decode cX8_adds 4 = .ok (.getfield 122, 3) := by decide +kernel
theorem dX8_adds_7 : decode cX8_adds 7 = .ok (.istore_n 3, 1) := by decide +kernel
theorem dX8_adds_8 : decode cX8_adds 8 = .ok (.aload_n 0, 1) := by decide +kernel
theorem dX8_adds_9 : decode cX8_adds 9 = .ok (.getfield 109, 3) := by decide +kernel
theorem dX8_adds_12 : decode cX8_adds 12 = .ok (.dup, 1) := by decide +kernel
theorem dX8_adds_13 : decode cX8_adds 13 = .ok (.getfield 122, 3) := by decide +kernel
theorem dX8_adds_16 : decode cX8_adds 16 = .ok (.iconst 1, 1) := by decide +kernel
theorem dX8_adds_17 : decode cX8_adds 17 = .ok (.iadd, 1) := by decide +kernel
theorem dX8_adds_18 : decode cX8_adds 18 = .ok (.putfield 122, 3) := by decide +kernel
theorem dX8_adds_21 : decode cX8_adds 21 = .ok (.aload_n 0, 1) := by decide +kernel
theorem dX8_adds_22 : decode cX8_adds 22 = .ok (.getfield 109, 3) := by decide +kernel
theorem dX8_adds_25 : decode cX8_adds 25 = .ok (.getfield 125, 3) := by decide +kernel
theorem dX8_adds_28 : decode cX8_adds 28 = .ok (.iload_n 3, 1) := by decide +kernel
theorem dX8_adds_29 : decode cX8_adds 29 = .ok (.iload_n 1, 1) := by decide +kernel
theorem dX8_adds_30 : decode cX8_adds 30 = .ok (.iastore, 1) := by decide +kernel
theorem dX8_adds_31 : decode cX8_adds 31 = .ok (.aload_n 0, 1) := by decide +kernel
theorem dX8_adds_32 : decode cX8_adds 32 = .ok (.getfield 109, 3) := by decide +kernel
theorem dX8_adds_35 : decode cX8_adds 35 = .ok (.getfield 128, 3) := by decide +kernel
theorem dX8_adds_38 : decode cX8_adds 38 = .ok (.iload_n 3, 1) := by decide +kernel
theorem dX8_adds_39 : decode cX8_adds 39 = .ok (.aload_n 0, 1) := by decide +kernel
theorem dX8_adds_40 : decode cX8_adds 40 = .ok (.getfield 106, 3) := by decide +kernel
theorem dX8_adds_43 : decode cX8_adds 43 = .ok (.iastore, 1) := by decide +kernel
theorem dX8_adds_44 : decode cX8_adds 44 = .ok (.aload_n 0, 1) := by decide +kernel
theorem dX8_adds_45 : decode cX8_adds 45 = .ok (.getfield 109, 3) := by decide +kernel
theorem dX8_adds_48 : decode cX8_adds 48 = .ok (.getfield 131, 3) := by decide +kernel
theorem dX8_adds_51 : decode cX8_adds 51 = .ok (.iload_n 3, 1) := by decide +kernel
theorem dX8_adds_52 : decode cX8_adds 52 = .ok (.iload_n 2, 1) := by decide +kernel
theorem dX8_adds_53 : decode cX8_adds 53 = .ok (.iastore, 1) := by decide +kernel
theorem dX8_adds_54 : decode cX8_adds 54 = .ok (.aload_n 0, 1) := by decide +kernel
theorem dX8_adds_55 : decode cX8_adds 55 = .ok (.getfield 109, 3) := by decide +kernel
theorem dX8_adds_58 : decode cX8_adds 58 = .ok (.getfield 134, 3) := by decide +kernel
theorem dX8_adds_61 : decode cX8_adds 61 = .ok (.iload_n 3, 1) := by decide +kernel
theorem dX8_adds_62 : decode cX8_adds 62 = .ok (.iconst 0, 1) := by decide +kernel
theorem dX8_adds_63 : decode cX8_adds 63 = .ok (.iastore, 1) := by decide +kernel
theorem dX8_adds_64 : decode cX8_adds 64 = .ok (.aload_n 0, 1) := by decide +kernel
theorem dX8_adds_65 : decode cX8_adds 65 = .ok (.getfield 109, 3) := by decide +kernel
theorem dX8_adds_68 : decode cX8_adds 68 = .ok (.getfield 137, 3) := by decide +kernel
theorem dX8_adds_71 : decode cX8_adds 71 = .ok (.iload_n 3, 1) := by decide +kernel
theorem dX8_adds_72 : decode cX8_adds 72 = .ok (.iconst 0, 1) := by decide +kernel
theorem dX8_adds_73 : decode cX8_adds 73 = .ok (.bastore, 1) := by decide +kernel
theorem dX8_adds_74 : decode cX8_adds 74 = .ok (.aload_n 0, 1) := by decide +kernel
theorem dX8_adds_75 : decode cX8_adds 75 = .ok (.getfield 109, 3) := by decide +kernel
theorem dX8_adds_78 : decode cX8_adds 78 = .ok (.getfield 140, 3) := by decide +kernel
theorem dX8_adds_81 : decode cX8_adds 81 = .ok (.iload_n 3, 1) := by decide +kernel
theorem dX8_adds_82 : decode cX8_adds 82 = .ok (.iconst (-1), 1) := by decide +kernel
theorem dX8_adds_83 : decode cX8_adds 83 = .ok (.iastore, 1) := by decide +kernel
theorem dX8_adds_84 : decode cX8_adds 84 = .ok (.iload_n 2, 1) := by decide +kernel
theorem dX8_adds_85 : decode cX8_adds 85 = .ok (.iconst (-1), 1) := by decide +kernel
theorem dX8_adds_86 : decode cX8_adds 86 = .ok (.if_icmp .eq 16, 3) := by decide +kernel
theorem dX8_adds_89 : decode cX8_adds 89 = .ok (.aload_n 0, 1) := by decide +kernel
theorem dX8_adds_90 : decode cX8_adds 90 = .ok (.getfield 109, 3) := by decide +kernel
theorem dX8_adds_93 : decode cX8_adds 93 = .ok (.getfield 134, 3) := by decide +kernel
theorem dX8_adds_96 : decode cX8_adds 96 = .ok (.iload_n 2, 1) := by decide +kernel
theorem dX8_adds_97 : decode cX8_adds 97 = .ok (.dup2, 1) := by decide +kernel
theorem dX8_adds_98 : decode cX8_adds 98 = .ok (.iaload, 1) := by decide +kernel
theorem dX8_adds_99 : decode cX8_adds 99 = .ok (.iconst 1, 1) := by decide +kernel
theorem dX8_adds_100 : decode cX8_adds 100 = .ok (.iadd, 1) := by decide +kernel
theorem dX8_adds_101 : decode cX8_adds 101 = .ok (.iastore, 1) := by decide +kernel
theorem dX8_adds_102 : decode cX8_adds 102 = .ok (.iload_n 3, 1) := by decide +kernel
theorem dX8_adds_103 : decode cX8_adds 103 = .ok (.ireturn, 1) := by decide +kernel
theorem dX8_opens_0 : decode cX8_opens 0 = .ok (.aload_n 0, 1) := by decide +kernel
theorem dX8_opens_1 : decode cX8_opens 1 = .ok (.getfield 143, 3) := by decide +kernel
theorem dX8_opens_4 : decode cX8_opens 4 = .ok (.bipush 12, 2) := by decide +kernel
theorem dX8_opens_6 : decode cX8_opens 6 = .ok (.if_icmp .ne 8, 3) := by decide +kernel
theorem dX8_opens_9 : decode cX8_opens 9 = .ok (.aload_n 0, 1) := by decide +kernel
theorem dX8_opens_10 : decode cX8_opens 10 = .ok (.invokevirtual 146, 3) := by decide +kernel
theorem dX8_opens_13 : decode cX8_opens 13 = .ok (.ireturn, 1) := by decide +kernel
theorem dX8_opens_14 : decode cX8_opens 14 = .ok (.aload_n 0, 1) := by decide +kernel
theorem dX8_opens_15 : decode cX8_opens 15 = .ok (.dup, 1) := by decide +kernel
theorem dX8_opens_16 : decode cX8_opens 16 = .ok (.getfield 143, 3) := by decide +kernel
theorem dX8_opens_19 : decode cX8_opens 19 = .ok (.iconst 1, 1) := by decide +kernel
theorem dX8_opens_20 : decode cX8_opens 20 = .ok (.iadd, 1) := by decide +kernel
theorem dX8_opens_21 : decode cX8_opens 21 = .ok (.putfield 143, 3) := by decide +kernel
theorem dX8_opens_24 : decode cX8_opens 24 = .ok (.aload_n 0, 1) := by decide +kernel
theorem dX8_opens_25 : decode cX8_opens 25 = .ok (.dup, 1) := by decide +kernel
theorem dX8_opens_26 : decode cX8_opens 26 = .ok (.getfield 106, 3) := by decide +kernel
theorem dX8_opens_29 : decode cX8_opens 29 = .ok (.iconst 1, 1) := by decide +kernel
theorem dX8_opens_30 : decode cX8_opens 30 = .ok (.iadd, 1) := by decide +kernel
theorem dX8_opens_31 : decode cX8_opens 31 = .ok (.putfield 106, 3) := by decide +kernel
theorem dX8_opens_34 : decode cX8_opens 34 = .ok (.iconst 1, 1) := by decide +kernel
theorem dX8_opens_35 : decode cX8_opens 35 = .ok (.ireturn, 1) := by decide +kernel
theorem dX8_lettered_0 : decode cX8_lettered 0 = .ok (.aload_n 0, 1) := by decide +kernel
theorem dX8_lettered_1 : decode cX8_lettered 1 = .ok (.getfield 106, 3) := by decide +kernel
theorem dX8_lettered_4 : decode cX8_lettered 4 = .ok (.istore_n 3, 1) := by decide +kernel
theorem dX8_lettered_5 : decode cX8_lettered 5 = .ok (.aload_n 0, 1) := by decide +kernel
theorem dX8_lettered_6 : decode cX8_lettered 6 = .ok (.dup, 1) := by decide +kernel
theorem dX8_lettered_7 : decode cX8_lettered 7 = .ok (.getfield 106, 3) := by decide +kernel
theorem dX8_lettered_10 : decode cX8_lettered 10 = .ok (.iconst 1, 1) := by decide +kernel
theorem dX8_lettered_11 : decode cX8_lettered 11 = .ok (.iadd, 1) := by decide +kernel
