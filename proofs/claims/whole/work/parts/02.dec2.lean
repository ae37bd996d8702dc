theorem dX11_as_13 : decode cX11_as 13 = .ok (.iload_n 2, 1) := by decide +kernel
theorem dX11_as_14 : decode cX11_as 14 = .ok (.ifCond .lt 8, 3) := by decide +kernel
theorem dX11_as_17 : decode cX11_as 17 = .ok (.iload_n 2, 1) := by decide +kernel
theorem dX11_as_18 : decode cX11_as 18 = .ok (.iconst 5, 1) := by decide +kernel
theorem dX11_as_19 : decode cX11_as 19 = .ok (.if_icmp .lt 6, 3) := by decide +kernel
theorem dX11_as_22 : decode cX11_as 22 = .ok (.bipush (-102), 2) := by decide +kernel
theorem dX11_as_24 : decode cX11_as 24 = .ok (.ireturn, 1) := by decide +kernel
theorem dX11_as_25 : decode cX11_as 25 = .ok (.aload_n 3, 1) := by decide +kernel
theorem dX11_as_26 : decode cX11_as 26 = .ok (.iload_n 2, 1) := by decide +kernel
theorem dX11_as_27 : decode cX11_as 27 = .ok (.invokevirtual 150, 3) := by decide +kernel
theorem dX11_as_30 : decode cX11_as 30 = .ok (.ifCond .eq 7, 3) := by decide +kernel
theorem dX11_as_33 : decode cX11_as 33 = .ok (.iload_n 1, 1) := by decide +kernel
theorem dX11_as_34 : decode cX11_as 34 = .ok (.goto 4, 3) := by decide +kernel
theorem dX11_as_37 : decode cX11_as 37 = .ok (.iconst (-1), 1) := by decide +kernel
theorem dX11_as_38 : decode cX11_as 38 = .ok (.ireturn, 1) := by decide +kernel
theorem dX11_heard_0 : decode cX11_heard 0 = .ok (.aload_n 0, 1) := by decide +kernel
theorem dX11_heard_1 : decode cX11_heard 1 = .ok (.iload_n 1, 1) := by decide +kernel
theorem dX11_heard_2 : decode cX11_heard 2 = .ok (.iconst 1, 1) := by decide +kernel
theorem dX11_heard_3 : decode cX11_heard 3 = .ok (.iload_n 2, 1) := by decide +kernel
theorem dX11_heard_4 : decode cX11_heard 4 = .ok (.invokestatic 153, 3) := by decide +kernel
theorem dX11_heard_7 : decode cX11_heard 7 = .ok (.ifCond .eq 14, 3) := by decide +kernel
theorem dX11_heard_10 : decode cX11_heard 10 = .ok (.iload_n 3, 1) := by decide +kernel
theorem dX11_heard_11 : decode cX11_heard 11 = .ok (.invokestatic 156, 3) := by decide +kernel
theorem dX11_heard_14 : decode cX11_heard 14 = .ok (.ifCond .eq 7, 3) := by decide +kernel
theorem dX11_heard_17 : decode cX11_heard 17 = .ok (.iconst 1, 1) := by decide +kernel
theorem dX11_heard_18 : decode cX11_heard 18 = .ok (.goto 4, 3) := by decide +kernel
theorem dX11_heard_21 : decode cX11_heard 21 = .ok (.iconst 0, 1) := by decide +kernel
theorem dX11_heard_22 : decode cX11_heard 22 = .ok (.invokevirtual 159, 3) := by decide +kernel
theorem dX11_heard_25 : decode cX11_heard 25 = .ok (.istore 4, 2) := by decide +kernel
theorem dX11_heard_27 : decode cX11_heard 27 = .ok (.iload 4, 2) := by decide +kernel
theorem dX11_heard_29 : decode cX11_heard 29 = .ok (.ifCond .eq 9, 3) := by decide +kernel
theorem dX11_heard_32 : decode cX11_heard 32 = .ok (.iload 4, 2) := by decide +kernel
theorem dX11_heard_34 : decode cX11_heard 34 = .ok (.invokestatic 163, 3) := by decide +kernel
theorem dX11_heard_37 : decode cX11_heard 37 = .ok (.lreturn, 1) := by decide +kernel
theorem dX11_heard_38 : decode cX11_heard 38 = .ok (.aload_n 0, 1) := by decide +kernel
theorem dX11_heard_39 : decode cX11_heard 39 = .ok (.getfield 35, 3) := by decide +kernel
theorem dX11_heard_42 : decode cX11_heard 42 = .ok (.aload_n 0, 1) := by decide +kernel
theorem dX11_heard_43 : decode cX11_heard 43 = .ok (.getfield 19, 3) := by decide +kernel
theorem dX11_heard_46 : decode cX11_heard 46 = .ok (.aload_n 0, 1) := by decide +kernel
theorem dX11_heard_47 : decode cX11_heard 47 = .ok (.iload_n 1, 1) := by decide +kernel
theorem dX11_heard_48 : decode cX11_heard 48 = .ok (.invokevirtual 146, 3) := by decide +kernel
theorem dX11_heard_51 : decode cX11_heard 51 = .ok (.iload_n 2, 1) := by decide +kernel
theorem dX11_heard_52 : decode cX11_heard 52 = .ok (.invokevirtual 167, 3) := by decide +kernel
theorem dX11_heard_55 : decode cX11_heard 55 = .ok (.aload_n 0, 1) := by decide +kernel
theorem dX11_heard_56 : decode cX11_heard 56 = .ok (.getfield 35, 3) := by decide +kernel
theorem dX11_heard_59 : decode cX11_heard 59 = .ok (.getfield 171, 3) := by decide +kernel
theorem dX11_heard_62 : decode cX11_heard 62 = .ok (.aload_n 0, 1) := by decide +kernel
theorem dX11_heard_63 : decode cX11_heard 63 = .ok (.getfield 19, 3) := by decide +kernel
theorem dX11_heard_66 : decode cX11_heard 66 = .ok (.invokevirtual 175, 3) := by decide +kernel
theorem dX11_heard_69 : decode cX11_heard 69 = .ok (.iload_n 3, 1) := by decide +kernel
theorem dX11_heard_70 : decode cX11_heard 70 = .ok (.invokestatic 179, 3) := by decide +kernel
theorem dX11_heard_73 : decode cX11_heard 73 = .ok (.lreturn, 1) := by decide +kernel
theorem dX11_edge_0 : decode cX11_edge 0 = .ok (.aload_n 0, 1) := by decide +kernel
theorem dX11_edge_1 : decode cX11_edge 1 = .ok (.iload_n 1, 1) := by decide +kernel
theorem dX11_edge_2 : decode cX11_edge 2 = .ok (.iconst 1, 1) := by decide +kernel
theorem dX11_edge_3 : decode cX11_edge 3 = .ok (.iload_n 2, 1) := by decide +kernel
theorem dX11_edge_4 : decode cX11_edge 4 = .ok (.invokestatic 153, 3) := by decide +kernel
theorem dX11_edge_7 : decode cX11_edge 7 = .ok (.ifCond .eq 14, 3) := by decide +kernel
theorem dX11_edge_10 : decode cX11_edge 10 = .ok (.iload_n 3, 1) := by decide +kernel
theorem dX11_edge_11 : decode cX11_edge 11 = .ok (.invokestatic 156, 3) := by decide +kernel
theorem dX11_edge_14 : decode cX11_edge 14 = .ok (.ifCond .eq 7, 3) := by decide +kernel
theorem dX11_edge_17 : decode cX11_edge 17 = .ok (.iconst 1, 1) := by decide +kernel
theorem dX11_edge_18 : decode cX11_edge 18 = .ok (.goto 4, 3) := by decide +kernel
theorem dX11_edge_21 : decode cX11_edge 21 = .ok (.iconst 0, 1) := by decide +kernel
theorem dX11_edge_22 : decode cX11_edge 22 = .ok (.invokevirtual 159, 3) := by decide +kernel
theorem dX11_edge_25 : decode cX11_edge 25 = .ok (.istore 4, 2) := by decide +kernel
theorem dX11_edge_27 : decode cX11_edge 27 = .ok (.iload 4, 2) := by decide +kernel
theorem dX11_edge_29 : decode cX11_edge 29 = .ok (.ifCond .eq 9, 3) := by decide +kernel
theorem dX11_edge_32 : decode cX11_edge 32 = .ok (.iload 4, 2) := by decide +kernel
theorem dX11_edge_34 : decode cX11_edge 34 = .ok (.invokestatic 163, 3) := by decide +kernel
theorem dX11_edge_37 : decode cX11_edge 37 = .ok (.lreturn, 1) := by decide +kernel
theorem dX11_edge_38 : decode cX11_edge 38 = .ok (.aload_n 0, 1) := by decide +kernel
theorem dX11_edge_39 : decode cX11_edge 39 = .ok (.getfield 35, 3) := by decide +kernel
theorem dX11_edge_42 : decode cX11_edge 42 = .ok (.aload_n 0, 1) := by decide +kernel
theorem dX11_edge_43 : decode cX11_edge 43 = .ok (.getfield 19, 3) := by decide +kernel
theorem dX11_edge_46 : decode cX11_edge 46 = .ok (.aload_n 0, 1) := by decide +kernel
theorem dX11_edge_47 : decode cX11_edge 47 = .ok (.iload_n 1, 1) := by decide +kernel
theorem dX11_edge_48 : decode cX11_edge 48 = .ok (.invokevirtual 146, 3) := by decide +kernel
theorem dX11_edge_51 : decode cX11_edge 51 = .ok (.iload_n 2, 1) := by decide +kernel
theorem dX11_edge_52 : decode cX11_edge 52 = .ok (.invokevirtual 167, 3) := by decide +kernel
theorem dX11_edge_55 : decode cX11_edge 55 = .ok (.aload_n 0, 1) := by decide +kernel
theorem dX11_edge_56 : decode cX11_edge 56 = .ok (.getfield 35, 3) := by decide +kernel
theorem dX11_edge_59 : decode cX11_edge 59 = .ok (.invokevirtual 183, 3) := by decide +kernel
theorem dX11_edge_62 : decode cX11_edge 62 = .ok (.ifCond .eq 9, 3) := by decide +kernel
theorem dX11_edge_65 : decode cX11_edge 65 = .ok (.ldc2_w 187, 3) := by decide +kernel
theorem dX11_edge_68 : decode cX11_edge 68 = .ok (.goto 21, 3) := by decide +kernel
theorem dX11_edge_71 : decode cX11_edge 71 = .ok (.aload_n 0, 1) := by decide +kernel
theorem dX11_edge_72 : decode cX11_edge 72 = .ok (.getfield 35, 3) := by decide +kernel
theorem dX11_edge_75 : decode cX11_edge 75 = .ok (.getfield 189, 3) := by decide +kernel
theorem dX11_edge_78 : decode cX11_edge 78 = .ok (.aload_n 0, 1) := by decide +kernel
theorem dX11_edge_79 : decode cX11_edge 79 = .ok (.getfield 35, 3) := by decide +kernel
theorem dX11_edge_82 : decode cX11_edge 82 = .ok (.getfield 171, 3) := by decide +kernel
theorem dX11_edge_85 : decode cX11_edge 85 = .ok (.iload_n 3, 1) := by decide +kernel
theorem dX11_edge_86 : decode cX11_edge 86 = .ok (.invokestatic 179, 3) := by decide +kernel
theorem dX11_edge_89 : decode cX11_edge 89 = .ok (.lreturn, 1) := by decide +kernel
theorem dX11_rests_0 : decode cX11_rests 0 = .ok (.iload 4, 2) := by decide +kernel
theorem dX11_rests_2 : decode cX11_rests 2 = .ok (.ifCond .eq 23, 3) := by decide +kernel
theorem dX11_rests_5 : decode cX11_rests 5 = .ok (.iload 4, 2) := by decide +kernel
theorem dX11_rests_7 : decode cX11_rests 7 = .ok (.iconst 1, 1) := by decide +kernel
theorem dX11_rests_8 : decode cX11_rests 8 = .ok (.if_icmp .eq 17, 3) := by decide +kernel
theorem dX11_rests_11 : decode cX11_rests 11 = .ok (.iload 4, 2) := by decide +kernel
theorem dX11_rests_13 : decode cX11_rests 13 = .ok (.bipush 10, 2) := by decide +kernel
theorem dX11_rests_15 : decode cX11_rests 15 = .ok (.if_icmp .lt 14, 3) := by decide +kernel
theorem dX11_rests_18 : decode cX11_rests 18 = .ok (.iload 4, 2) := by decide +kernel
theorem dX11_rests_20 : decode cX11_rests 20 = .ok (.bipush 99, 2) := by decide +kernel
theorem dX11_rests_22 : decode cX11_rests 22 = .ok (.if_icmp .gt 7, 3) := by decide +kernel
theorem dX11_rests_25 : decode cX11_rests 25 = .ok (.iconst 1, 1) := by decide +kernel
theorem dX11_rests_26 : decode cX11_rests 26 = .ok (.goto 4, 3) := by decide +kernel
theorem dX11_rests_29 : decode cX11_rests 29 = .ok (.iconst 0, 1) := by decide +kernel
theorem dX11_rests_30 : decode cX11_rests 30 = .ok (.istore 5, 2) := by decide +kernel
theorem dX11_rests_32 : decode cX11_rests 32 = .ok (.aload_n 0, 1) := by decide +kernel
theorem dX11_rests_33 : decode cX11_rests 33 = .ok (.iload_n 1, 1) := by decide +kernel
theorem dX11_rests_34 : decode cX11_rests 34 = .ok (.iconst 1, 1) := by decide +kernel
theorem dX11_rests_35 : decode cX11_rests 35 = .ok (.aload_n 0, 1) := by decide +kernel
theorem dX11_rests_36 : decode cX11_rests 36 = .ok (.iload_n 2, 1) := by decide +kernel
theorem dX11_rests_37 : decode cX11_rests 37 = .ok (.invokevirtual 192, 3) := by decide +kernel
theorem dX11_rests_40 : decode cX11_rests 40 = .ok (.ifCond .eq 19, 3) := by decide +kernel
theorem dX11_rests_43 : decode cX11_rests 43 = .ok (.iload_n 3, 1) := by decide +kernel
theorem dX11_rests_44 : decode cX11_rests 44 = .ok (.invokestatic 153, 3) := by decide +kernel
theorem dX11_rests_47 : decode cX11_rests 47 = .ok (.ifCond .eq 12, 3) := by decide +kernel
theorem dX11_rests_50 : decode cX11_rests 50 = .ok (.iload 5, 2) := by decide +kernel
theorem dX11_rests_52 : decode cX11_rests 52 = .ok (.ifCond .eq 7, 3) := by decide +kernel
theorem dX11_rests_55 : decode cX11_rests 55 = .ok (.iconst 1, 1) := by decide +kernel
theorem dX11_rests_56 : decode cX11_rests 56 = .ok (.goto 4, 3) := by decide +kernel
theorem dX11_rests_59 : decode cX11_rests 59 = .ok (.iconst 0, 1) := by decide +kernel
theorem dX11_rests_60 : decode cX11_rests 60 = .ok (.invokevirtual 159, 3) := by decide +kernel
theorem dX11_rests_63 : decode cX11_rests 63 = .ok (.istore 6, 2) := by decide +kernel
theorem dX11_rests_65 : decode cX11_rests 65 = .ok (.iload 6, 2) := by decide +kernel
theorem dX11_rests_67 : decode cX11_rests 67 = .ok (.ifCond .eq 6, 3) := by decide +kernel
theorem dX11_rests_70 : decode cX11_rests 70 = .ok (.iload 6, 2) := by decide +kernel
theorem dX11_rests_72 : decode cX11_rests 72 = .ok (.ireturn, 1) := by decide +kernel
theorem dX11_rests_73 : decode cX11_rests 73 = .ok (.iload 4, 2) := by decide +kernel
theorem dX11_rests_75 : decode cX11_rests 75 = .ok (.iconst 1, 1) := by decide +kernel
theorem dX11_rests_76 : decode cX11_rests 76 = .ok (.if_icmp .ne 17, 3) := by decide +kernel
theorem dX11_rests_79 : decode cX11_rests 79 = .ok (.aload_n 0, 1) := by decide +kernel
theorem dX11_rests_80 : decode cX11_rests 80 = .ok (.iload_n 1, 1) := by decide +kernel
theorem dX11_rests_81 : decode cX11_rests 81 = .ok (.iload_n 2, 1) := by decide +kernel
theorem dX11_rests_82 : decode cX11_rests 82 = .ok (.invokevirtual 195, 3) := by decide +kernel
theorem dX11_rests_85 : decode cX11_rests 85 = .ok (.aload_n 0, 1) := by decide +kernel
theorem dX11_rests_86 : decode cX11_rests 86 = .ok (.iload_n 1, 1) := by decide +kernel
theorem dX11_rests_87 : decode cX11_rests 87 = .ok (.iload_n 2, 1) := by decide +kernel
theorem dX11_rests_88 : decode cX11_rests 88 = .ok (.iload_n 3, 1) := by decide +kernel
theorem dX11_rests_89 : decode cX11_rests 89 = .ok (.invokevirtual 199, 3) := by decide +kernel
theorem dX11_rests_92 : decode cX11_rests 92 = .ok (.ireturn, 1) := by decide +kernel
theorem dX11_rests_93 : decode cX11_rests 93 = .ok (.aload_n 0, 1) := by decide +kernel
theorem dX11_rests_94 : decode cX11_rests 94 = .ok (.getfield 35, 3) := by decide +kernel
theorem dX11_rests_97 : decode cX11_rests 97 = .ok (.aload_n 0, 1) := by decide +kernel
theorem dX11_rests_98 : decode cX11_rests 98 = .ok (.getfield 19, 3) := by decide +kernel
theorem dX11_rests_101 : decode cX11_rests 101 = .ok (.aload_n 0, 1) := by decide +kernel
theorem dX11_rests_102 : decode cX11_rests 102 = .ok (.iload_n 1, 1) := by decide +kernel
theorem dX11_rests_103 : decode cX11_rests 103 = .ok (.invokevirtual 146, 3) := by decide +kernel
theorem dX11_rests_106 : decode cX11_rests 106 = .ok (.iload_n 3, 1) := by decide +kernel
theorem dX11_rests_107 : decode cX11_rests 107 = .ok (.invokevirtual 167, 3) := by decide +kernel
theorem dX11_rests_110 : decode cX11_rests 110 = .ok (.aload_n 0, 1) := by decide +kernel
theorem dX11_rests_111 : decode cX11_rests 111 = .ok (.getfield 35, 3) := by decide +kernel
theorem dX11_rests_114 : decode cX11_rests 114 = .ok (.invokevirtual 183, 3) := by decide +kernel
theorem dX11_rests_117 : decode cX11_rests 117 = .ok (.ifCond .eq 5, 3) := by decide +kernel
theorem dX11_rests_120 : decode cX11_rests 120 = .ok (.iconst (-1), 1) := by decide +kernel
theorem dX11_rests_121 : decode cX11_rests 121 = .ok (.ireturn, 1) := by decide +kernel
theorem dX11_rests_122 : decode cX11_rests 122 = .ok (.aload_n 0, 1) := by decide +kernel
theorem dX11_rests_123 : decode cX11_rests 123 = .ok (.getfield 42, 3) := by decide +kernel
theorem dX11_rests_126 : decode cX11_rests 126 = .ok (.aload_n 0, 1) := by decide +kernel
theorem dX11_rests_127 : decode cX11_rests 127 = .ok (.getfield 35, 3) := by decide +kernel
theorem dX11_rests_130 : decode cX11_rests 130 = .ok (.aload_n 0, 1) := by decide +kernel
theorem dX11_rests_131 : decode cX11_rests 131 = .ok (.getfield 19, 3) := by decide +kernel
theorem dX11_rests_134 : decode cX11_rests 134 = .ok (.getfield 106, 3) := by decide +kernel
theorem dX11_rests_137 : decode cX11_rests 137 = .ok (.iload_n 2, 1) := by decide +kernel
theorem dX11_rests_138 : decode cX11_rests 138 = .ok (.invokevirtual 203, 3) := by decide +kernel
theorem dX11_rests_141 : decode cX11_rests 141 = .ok (.aload_n 0, 1) := by decide +kernel
theorem dX11_rests_142 : decode cX11_rests 142 = .ok (.getfield 42, 3) := by decide +kernel
theorem dX11_rests_145 : decode cX11_rests 145 = .ok (.iload 4, 2) := by decide +kernel
theorem dX11_rests_147 : decode cX11_rests 147 = .ok (.invokevirtual 207, 3) := by decide +kernel
theorem dX11_rests_150 : decode cX11_rests 150 = .ok (.ireturn, 1) := by decide +kernel
theorem dX11_makes_0 : decode cX11_makes 0 = .ok (.iload_n 2, 1) := by decide +kernel
theorem dX11_makes_1 : decode cX11_makes 1 = .ok (.invokestatic 153, 3) := by decide +kernel
theorem dX11_makes_4 : decode cX11_makes 4 = .ok (.ifCond .eq 26, 3) := by decide +kernel
theorem dX11_makes_7 : decode cX11_makes 7 = .ok (.aload_n 0, 1) := by decide +kernel
theorem dX11_makes_8 : decode cX11_makes 8 = .ok (.getfield 50, 3) := by decide +kernel
theorem dX11_makes_11 : decode cX11_makes 11 = .ok (.iload_n 3, 1) := by decide +kernel
theorem dX11_makes_12 : decode cX11_makes 12 = .ok (.invokevirtual 210, 3) := by decide +kernel
theorem dX11_makes_15 : decode cX11_makes 15 = .ok (.ifCond .eq 15, 3) := by decide +kernel
theorem dX11_makes_18 : decode cX11_makes 18 = .ok (.iload 5, 2) := by decide +kernel
theorem dX11_makes_20 : decode cX11_makes 20 = .ok (.invokestatic 156, 3) := by decide +kernel
theorem dX11_makes_23 : decode cX11_makes 23 = .ok (.ifCond .eq 7, 3) := by decide +kernel
theorem dX11_makes_26 : decode cX11_makes 26 = .ok (.iconst 1, 1) := by decide +kernel
theorem dX11_makes_27 : decode cX11_makes 27 = .ok (.goto 4, 3) := by decide +kernel
theorem dX11_makes_30 : decode cX11_makes 30 = .ok (.iconst 0, 1) := by decide +kernel
theorem dX11_makes_31 : decode cX11_makes 31 = .ok (.istore 6, 2) := by decide +kernel
theorem dX11_makes_33 : decode cX11_makes 33 = .ok (.aload_n 0, 1) := by decide +kernel
theorem dX11_makes_34 : decode cX11_makes 34 = .ok (.iload_n 1, 1) := by decide +kernel
theorem dX11_makes_35 : decode cX11_makes 35 = .ok (.aload_n 0, 1) := by decide +kernel
theorem dX11_makes_36 : decode cX11_makes 36 = .ok (.getfield 50, 3) := by decide +kernel
theorem dX11_makes_39 : decode cX11_makes 39 = .ok (.iload 4, 2) := by decide +kernel
theorem dX11_makes_41 : decode cX11_makes 41 = .ok (.invokevirtual 127, 3) := by decide +kernel
theorem dX11_makes_44 : decode cX11_makes 44 = .ok (.iload 6, 2) := by decide +kernel
theorem dX11_makes_46 : decode cX11_makes 46 = .ok (.invokevirtual 159, 3) := by decide +kernel
theorem dX11_makes_49 : decode cX11_makes 49 = .ok (.istore 7, 2) := by decide +kernel
theorem dX11_makes_51 : decode cX11_makes 51 = .ok (.iload 7, 2) := by decide +kernel
theorem dX11_makes_53 : decode cX11_makes 53 = .ok (.ifCond .eq 9, 3) := by decide +kernel
theorem dX11_makes_56 : decode cX11_makes 56 = .ok (.iload 7, 2) := by decide +kernel
theorem dX11_makes_58 : decode cX11_makes 58 = .ok (.invokestatic 163, 3) := by decide +kernel
theorem dX11_makes_61 : decode cX11_makes 61 = .ok (.lreturn, 1) := by decide +kernel
theorem dX11_makes_62 : decode cX11_makes 62 = .ok (.aload_n 0, 1) := by decide +kernel
theorem dX11_makes_63 : decode cX11_makes 63 = .ok (.getfield 35, 3) := by decide +kernel
theorem dX11_makes_66 : decode cX11_makes 66 = .ok (.aload_n 0, 1) := by decide +kernel
theorem dX11_makes_67 : decode cX11_makes 67 = .ok (.getfield 19, 3) := by decide +kernel
theorem dX11_makes_70 : decode cX11_makes 70 = .ok (.aload_n 0, 1) := by decide +kernel
theorem dX11_makes_71 : decode cX11_makes 71 = .ok (.iload_n 1, 1) := by decide +kernel
theorem dX11_makes_72 : decode cX11_makes 72 = .ok (.invokevirtual 146, 3) := by decide +kernel
theorem dX11_makes_75 : decode cX11_makes 75 = .ok (.iload_n 2, 1) := by decide +kernel
theorem dX11_makes_76 : decode cX11_makes 76 = .ok (.invokevirtual 167, 3) := by decide +kernel
theorem dX11_makes_79 : decode cX11_makes 79 = .ok (.aload_n 0, 1) := by decide +kernel
theorem dX11_makes_80 : decode cX11_makes 80 = .ok (.getfield 35, 3) := by decide +kernel
theorem dX11_makes_83 : decode cX11_makes 83 = .ok (.invokevirtual 183, 3) := by decide +kernel
theorem dX11_makes_86 : decode cX11_makes 86 = .ok (.ifCond .eq 7, 3) := by decide +kernel
theorem dX11_makes_89 : decode cX11_makes 89 = .ok (.ldc2_w 187, 3) := by decide +kernel
theorem dX11_makes_92 : decode cX11_makes 92 = .ok (.lreturn, 1) := by decide +kernel
theorem dX11_makes_93 : decode cX11_makes 93 = .ok (.aload_n 0, 1) := by decide +kernel
theorem dX11_makes_94 : decode cX11_makes 94 = .ok (.getfield 42, 3) := by decide +kernel
theorem dX11_makes_97 : decode cX11_makes 97 = .ok (.aload_n 0, 1) := by decide +kernel
theorem dX11_makes_98 : decode cX11_makes 98 = .ok (.getfield 35, 3) := by decide +kernel
theorem dX11_makes_101 : decode cX11_makes 101 = .ok (.aload_n 0, 1) := by decide +kernel
theorem dX11_makes_102 : decode cX11_makes 102 = .ok (.getfield 19, 3) := by decide +kernel
theorem dX11_makes_105 : decode cX11_makes 105 = .ok (.getfield 106, 3) := by decide +kernel
theorem dX11_makes_108 : decode cX11_makes 108 = .ok (.iconst 0, 1) := by decide +kernel
theorem dX11_makes_109 : decode cX11_makes 109 = .ok (.invokevirtual 203, 3) := by decide +kernel
theorem dX11_makes_112 : decode cX11_makes 112 = .ok (.aload_n 0, 1) := by decide +kernel
theorem dX11_makes_113 : decode cX11_makes 113 = .ok (.getfield 42, 3) := by decide +kernel
theorem dX11_makes_116 : decode cX11_makes 116 = .ok (.iload_n 3, 1) := by decide +kernel
theorem dX11_makes_117 : decode cX11_makes 117 = .ok (.iload 4, 2) := by decide +kernel
theorem dX11_makes_119 : decode cX11_makes 119 = .ok (.invokevirtual 213, 3) := by decide +kernel
theorem dX11_makes_122 : decode cX11_makes 122 = .ok (.aload_n 0, 1) := by decide +kernel
theorem dX11_makes_123 : decode cX11_makes 123 = .ok (.getfield 35, 3) := by decide +kernel
theorem dX11_makes_126 : decode cX11_makes 126 = .ok (.getfield 171, 3) := by decide +kernel
theorem dX11_makes_129 : decode cX11_makes 129 = .ok (.iload 5, 2) := by decide +kernel
theorem dX11_makes_131 : decode cX11_makes 131 = .ok (.invokestatic 179, 3) := by decide +kernel
theorem dX11_makes_134 : decode cX11_makes 134 = .ok (.lreturn, 1) := by decide +kernel
theorem dX11_worth_0 : decode cX11_worth 0 = .ok (.aload_n 0, 1) := by decide +kernel
theorem dX11_worth_1 : decode cX11_worth 1 = .ok (.iload_n 1, 1) := by decide +kernel
theorem dX11_worth_2 : decode cX11_worth 2 = .ok (.aload_n 0, 1) := by decide +kernel
theorem dX11_worth_3 : decode cX11_worth 3 = .ok (.getfield 50, 3) := by decide +kernel
theorem dX11_worth_6 : decode cX11_worth 6 = .ok (.iload_n 3, 1) := by decide +kernel
theorem dX11_worth_7 : decode cX11_worth 7 = .ok (.invokevirtual 127, 3) := by decide +kernel
theorem dX11_worth_10 : decode cX11_worth 10 = .ok (.aload_n 0, 1) := by decide +kernel
theorem dX11_worth_11 : decode cX11_worth 11 = .ok (.iload_n 2, 1) := by decide +kernel
theorem dX11_worth_12 : decode cX11_worth 12 = .ok (.invokevirtual 192, 3) := by decide +kernel
theorem dX11_worth_15 : decode cX11_worth 15 = .ok (.ifCond .eq 15, 3) := by decide +kernel
theorem dX11_worth_18 : decode cX11_worth 18 = .ok (.iload 4, 2) := by decide +kernel
theorem dX11_worth_20 : decode cX11_worth 20 = .ok (.invokestatic 156, 3) := by decide +kernel
theorem dX11_worth_23 : decode cX11_worth 23 = .ok (.ifCond .eq 7, 3) := by decide +kernel
theorem dX11_worth_26 : decode cX11_worth 26 = .ok (.iconst 1, 1) := by decide +kernel
theorem dX11_worth_27 : decode cX11_worth 27 = .ok (.goto 4, 3) := by decide +kernel
theorem dX11_worth_30 : decode cX11_worth 30 = .ok (.iconst 0, 1) := by decide +kernel
theorem dX11_worth_31 : decode cX11_worth 31 = .ok (.invokevirtual 159, 3) := by decide +kernel
theorem dX11_worth_34 : decode cX11_worth 34 = .ok (.istore 5, 2) := by decide +kernel
theorem dX11_worth_36 : decode cX11_worth 36 = .ok (.iload 5, 2) := by decide +kernel
theorem dX11_worth_38 : decode cX11_worth 38 = .ok (.ifCond .eq 9, 3) := by decide +kernel
theorem dX11_worth_41 : decode cX11_worth 41 = .ok (.iload 5, 2) := by decide +kernel
theorem dX11_worth_43 : decode cX11_worth 43 = .ok (.invokestatic 163, 3) := by decide +kernel
theorem dX11_worth_46 : decode cX11_worth 46 = .ok (.lreturn, 1) := by decide +kernel
theorem dX11_worth_47 : decode cX11_worth 47 = .ok (.aload_n 0, 1) := by decide +kernel
theorem dX11_worth_48 : decode cX11_worth 48 = .ok (.iload_n 1, 1) := by decide +kernel
theorem dX11_worth_49 : decode cX11_worth 49 = .ok (.iload_n 2, 1) := by decide +kernel
theorem dX11_worth_50 : decode cX11_worth 50 = .ok (.invokevirtual 195, 3) := by decide +kernel
theorem dX11_worth_53 : decode cX11_worth 53 = .ok (.aload_n 0, 1) := by decide +kernel
theorem dX11_worth_54 : decode cX11_worth 54 = .ok (.iload_n 1, 1) := by decide +kernel
theorem dX11_worth_55 : decode cX11_worth 55 = .ok (.iload_n 2, 1) := by decide +kernel
theorem dX11_worth_56 : decode cX11_worth 56 = .ok (.iload_n 3, 1) := by decide +kernel
theorem dX11_worth_57 : decode cX11_worth 57 = .ok (.invokevirtual 217, 3) := by decide +kernel
theorem dX11_worth_60 : decode cX11_worth 60 = .ok (.aload_n 0, 1) := by decide +kernel
theorem dX11_worth_61 : decode cX11_worth 61 = .ok (.getfield 19, 3) := by decide +kernel
theorem dX11_worth_64 : decode cX11_worth 64 = .ok (.invokevirtual 175, 3) := by decide +kernel
theorem dX11_worth_67 : decode cX11_worth 67 = .ok (.iload 4, 2) := by decide +kernel
theorem dX11_worth_69 : decode cX11_worth 69 = .ok (.invokestatic 179, 3) := by decide +kernel
theorem dX11_worth_72 : decode cX11_worth 72 = .ok (.lreturn, 1) := by decide +kernel
theorem dX11_whom_0 : decode cX11_whom 0 = .ok (.aload_n 0, 1) := by decide +kernel
theorem dX11_whom_1 : decode cX11_whom 1 = .ok (.iload_n 1, 1) := by decide +kernel
theorem dX11_whom_2 : decode cX11_whom 2 = .ok (.iconst 1, 1) := by decide +kernel
theorem dX11_whom_3 : decode cX11_whom 3 = .ok (.iload_n 2, 1) := by decide +kernel
theorem dX11_whom_4 : decode cX11_whom 4 = .ok (.invokestatic 221, 3) := by decide +kernel
theorem dX11_whom_7 : decode cX11_whom 7 = .ok (.invokevirtual 159, 3) := by decide +kernel
theorem dX11_whom_10 : decode cX11_whom 10 = .ok (.istore_n 3, 1) := by decide +kernel
theorem dX11_whom_11 : decode cX11_whom 11 = .ok (.iload_n 3, 1) := by decide +kernel
theorem dX11_whom_12 : decode cX11_whom 12 = .ok (.ifCond .eq 5, 3) := by decide +kernel
theorem dX11_whom_15 : decode cX11_whom 15 = .ok (.iload_n 3, 1) := by decide +kernel
theorem dX11_whom_16 : decode cX11_whom 16 = .ok (.ireturn, 1) := by decide +kernel
theorem dX11_whom_17 : decode cX11_whom 17 = .ok (.aload_n 0, 1) := by decide +kernel
theorem dX11_whom_18 : decode cX11_whom 18 = .ok (.getfield 224, 3) := by decide +kernel
theorem dX11_whom_21 : decode cX11_whom 21 = .ok (.bipush 40, 2) := by decide +kernel
theorem dX11_whom_23 : decode cX11_whom 23 = .ok (.if_icmp .lt 6, 3) := by decide +kernel
theorem dX11_whom_26 : decode cX11_whom 26 = .ok (.bipush (-103), 2) := by decide +kernel
theorem dX11_whom_28 : decode cX11_whom 28 = .ok (.ireturn, 1) := by decide +kernel
theorem dX11_whom_29 : decode cX11_whom 29 = .ok (.aload_n 0, 1) := by decide +kernel
theorem dX11_whom_30 : decode cX11_whom 30 = .ok (.dup, 1) := by decide +kernel
theorem dX11_whom_31 : decode cX11_whom 31 = .ok (.getfield 224, 3) := by decide +kernel
theorem dX11_whom_34 : decode cX11_whom 34 = .ok (.iconst 1, 1) := by decide +kernel
theorem dX11_whom_35 : decode cX11_whom 35 = .ok (.iadd, 1) := by decide +kernel
theorem dX11_whom_36 : decode cX11_whom 36 = .ok (.putfield 224, 3) := by decide +kernel
theorem dX11_whom_39 : decode cX11_whom 39 = .ok (.aload_n 0, 1) := by decide +kernel
theorem dX11_whom_40 : decode cX11_whom 40 = .ok (.iload_n 1, 1) := by decide +kernel
theorem dX11_whom_41 : decode cX11_whom 41 = .ok (.invokevirtual 227, 3) := by decide +kernel
theorem dX11_whom_44 : decode cX11_whom 44 = .ok (.aload_n 0, 1) := by decide +kernel
theorem dX11_whom_45 : decode cX11_whom 45 = .ok (.iload_n 1, 1) := by decide +kernel
theorem dX11_whom_46 : decode cX11_whom 46 = .ok (.iload_n 2, 1) := by decide +kernel
theorem dX11_whom_47 : decode cX11_whom 47 = .ok (.invokevirtual 231, 3) := by decide +kernel
theorem dX11_whom_50 : decode cX11_whom 50 = .ok (.ireturn, 1) := by decide +kernel
theorem dX11_plainly_0 : decode cX11_plainly 0 = .ok (.aload_n 0, 1) := by decide +kernel
theorem dX11_plainly_1 : decode cX11_plainly 1 = .ok (.getfield 89, 3) := by decide +kernel
theorem dX11_plainly_4 : decode cX11_plainly 4 = .ok (.ifCond .ne 6, 3) := by decide +kernel
theorem dX11_plainly_7 : decode cX11_plainly 7 = .ok (.bipush (-103), 2) := by decide +kernel
theorem dX11_plainly_9 : decode cX11_plainly 9 = .ok (.ireturn, 1) := by decide +kernel
theorem dX11_plainly_10 : decode cX11_plainly 10 = .ok (.iload_n 1, 1) := by decide +kernel
theorem dX11_plainly_11 : decode cX11_plainly 11 = .ok (.invokestatic 221, 3) := by decide +kernel
theorem dX11_plainly_14 : decode cX11_plainly 14 = .ok (.ifCond .ne 6, 3) := by decide +kernel
theorem dX11_plainly_17 : decode cX11_plainly 17 = .ok (.bipush (-102), 2) := by decide +kernel
theorem dX11_plainly_19 : decode cX11_plainly 19 = .ok (.ireturn, 1) := by decide +kernel
theorem dX11_plainly_20 : decode cX11_plainly 20 = .ok (.aload_n 0, 1) := by decide +kernel
theorem dX11_plainly_21 : decode cX11_plainly 21 = .ok (.getfield 224, 3) := by decide +kernel
theorem dX11_plainly_24 : decode cX11_plainly 24 = .ok (.bipush 40, 2) := by decide +kernel
theorem dX11_plainly_26 : decode cX11_plainly 26 = .ok (.if_icmp .lt 6, 3) := by decide +kernel
theorem dX11_plainly_29 : decode cX11_plainly 29 = .ok (.bipush (-103), 2) := by decide +kernel
theorem dX11_plainly_31 : decode cX11_plainly 31 = .ok (.ireturn, 1) := by decide +kernel
theorem dX11_plainly_32 : decode cX11_plainly 32 = .ok (.aload_n 0, 1) := by decide +kernel
theorem dX11_plainly_33 : decode cX11_plainly 33 = .ok (.dup, 1) := by decide +kernel
theorem dX11_plainly_34 : decode cX11_plainly 34 = .ok (.getfield 224, 3) := by decide +kernel
theorem dX11_plainly_37 : decode cX11_plainly 37 = .ok (.iconst 1, 1) := by decide +kernel
theorem dX11_plainly_38 : decode cX11_plainly 38 = .ok (.iadd, 1) := by decide +kernel
theorem dX11_plainly_39 : decode cX11_plainly 39 = .ok (.putfield 224, 3) := by decide +kernel
theorem dX11_plainly_42 : decode cX11_plainly 42 = .ok (.iconst (-1), 1) := by decide +kernel
theorem dX11_plainly_43 : decode cX11_plainly 43 = .ok (.istore_n 2, 1) := by decide +kernel
theorem dX11_plainly_44 : decode cX11_plainly 44 = .ok (.lconst 0, 1) := by decide +kernel
theorem dX11_plainly_45 : decode cX11_plainly 45 = .ok (.lstore_n 3, 1) := by decide +kernel
theorem dX11_plainly_46 : decode cX11_plainly 46 = .ok (.iconst 0, 1) := by decide +kernel
theorem dX11_plainly_47 : decode cX11_plainly 47 = .ok (.istore 5, 2) := by decide +kernel
theorem dX11_plainly_49 : decode cX11_plainly 49 = .ok (.iload 5, 2) := by decide +kernel
theorem dX11_plainly_51 : decode cX11_plainly 51 = .ok (.aload_n 0, 1) := by decide +kernel
theorem dX11_plainly_52 : decode cX11_plainly 52 = .ok (.getfield 139, 3) := by decide +kernel
theorem dX11_plainly_55 : decode cX11_plainly 55 = .ok (.if_icmp .ge 49, 3) := by decide +kernel
theorem dX11_plainly_58 : decode cX11_plainly 58 = .ok (.aload_n 0, 1) := by decide +kernel
theorem dX11_plainly_59 : decode cX11_plainly 59 = .ok (.iload 5, 2) := by decide +kernel
theorem dX11_plainly_61 : decode cX11_plainly 61 = .ok (.invokevirtual 227, 3) := by decide +kernel
theorem dX11_plainly_64 : decode cX11_plainly 64 = .ok (.aload_n 0, 1) := by decide +kernel
theorem dX11_plainly_65 : decode cX11_plainly 65 = .ok (.iload 5, 2) := by decide +kernel
theorem dX11_plainly_67 : decode cX11_plainly 67 = .ok (.aload_n 0, 1) := by decide +kernel
theorem dX11_plainly_68 : decode cX11_plainly 68 = .ok (.iload 5, 2) := by decide +kernel
theorem dX11_plainly_70 : decode cX11_plainly 70 = .ok (.iload_n 1, 1) := by decide +kernel
theorem dX11_plainly_71 : decode cX11_plainly 71 = .ok (.invokevirtual 231, 3) := by decide +kernel
theorem dX11_plainly_74 : decode cX11_plainly 74 = .ok (.iload_n 1, 1) := by decide +kernel
theorem dX11_plainly_75 : decode cX11_plainly 75 = .ok (.invokevirtual 234, 3) := by decide +kernel
theorem dX11_plainly_78 : decode cX11_plainly 78 = .ok (.lstore 6, 2) := by decide +kernel
theorem dX11_plainly_80 : decode cX11_plainly 80 = .ok (.iload_n 2, 1) := by decide +kernel
theorem dX11_plainly_81 : decode cX11_plainly 81 = .ok (.iconst (-1), 1) := by decide +kernel
theorem dX11_plainly_82 : decode cX11_plainly 82 = .ok (.if_icmp .eq 10, 3) := by decide +kernel
theorem dX11_plainly_85 : decode cX11_plainly 85 = .ok (.lload 6, 2) := by decide +kernel
theorem dX11_plainly_87 : decode cX11_plainly 87 = .ok (.lload_n 3, 1) := by decide +kernel
theorem dX11_plainly_88 : decode cX11_plainly 88 = .ok (.lcmp, 1) := by decide +kernel
theorem dX11_plainly_89 : decode cX11_plainly 89 = .ok (.ifCond .le 9, 3) := by decide +kernel
theorem dX11_plainly_92 : decode cX11_plainly 92 = .ok (.iload 5, 2) := by decide +kernel
theorem dX11_plainly_94 : decode cX11_plainly 94 = .ok (.istore_n 2, 1) := by decide +kernel
theorem dX11_plainly_95 : decode cX11_plainly 95 = .ok (.lload 6, 2) := by decide +kernel
theorem dX11_plainly_97 : decode cX11_plainly 97 = .ok (.lstore_n 3, 1) := by decide +kernel
theorem dX11_plainly_98 : decode cX11_plainly 98 = .ok (.iinc 5 1, 3) := by decide +kernel
theorem dX11_plainly_101 : decode cX11_plainly 101 = .ok (.goto (-52), 3) := by decide +kernel
theorem dX11_plainly_104 : decode cX11_plainly 104 = .ok (.iload_n 2, 1) := by decide +kernel
theorem dX11_plainly_105 : decode cX11_plainly 105 = .ok (.ireturn, 1) := by decide +kernel
theorem dX11_more_0 : decode cX11_more 0 = .ok (.aload_n 0, 1) := by decide +kernel
theorem dX11_more_1 : decode cX11_more 1 = .ok (.iload_n 1, 1) := by decide +kernel
theorem dX11_more_2 : decode cX11_more 2 = .ok (.iconst 1, 1) := by decide +kernel
theorem dX11_more_3 : decode cX11_more 3 = .ok (.aload_n 0, 1) := by decide +kernel
theorem dX11_more_4 : decode cX11_more 4 = .ok (.iload_n 2, 1) := by decide +kernel
theorem dX11_more_5 : decode cX11_more 5 = .ok (.invokevirtual 192, 3) := by decide +kernel
theorem dX11_more_8 : decode cX11_more 8 = .ok (.invokevirtual 159, 3) := by decide +kernel
theorem dX11_more_11 : decode cX11_more 11 = .ok (.istore_n 3, 1) := by decide +kernel
theorem dX11_more_12 : decode cX11_more 12 = .ok (.iload_n 3, 1) := by decide +kernel
theorem dX11_more_13 : decode cX11_more 13 = .ok (.ifCond .eq 5, 3) := by decide +kernel
theorem dX11_more_16 : decode cX11_more 16 = .ok (.iload_n 3, 1) := by decide +kernel
theorem dX11_more_17 : decode cX11_more 17 = .ok (.ireturn, 1) := by decide +kernel
theorem dX11_more_18 : decode cX11_more 18 = .ok (.aload_n 0, 1) := by decide +kernel
theorem dX11_more_19 : decode cX11_more 19 = .ok (.iload_n 1, 1) := by decide +kernel
theorem dX11_more_20 : decode cX11_more 20 = .ok (.invokevirtual 227, 3) := by decide +kernel
theorem dX11_more_23 : decode cX11_more 23 = .ok (.aload_n 0, 1) := by decide +kernel
theorem dX11_more_24 : decode cX11_more 24 = .ok (.iload_n 1, 1) := by decide +kernel
theorem dX11_more_25 : decode cX11_more 25 = .ok (.iload_n 2, 1) := by decide +kernel
theorem dX11_more_26 : decode cX11_more 26 = .ok (.invokevirtual 237, 3) := by decide +kernel
theorem dX11_more_29 : decode cX11_more 29 = .ok (.ireturn, 1) := by decide +kernel
theorem dX11_pledge_0 : decode cX11_pledge 0 = .ok (.aload_n 0, 1) := by decide +kernel
theorem dX11_pledge_1 : decode cX11_pledge 1 = .ok (.iload_n 1, 1) := by decide +kernel
theorem dX11_pledge_2 : decode cX11_pledge 2 = .ok (.iconst 1, 1) := by decide +kernel
theorem dX11_pledge_3 : decode cX11_pledge 3 = .ok (.aload_n 0, 1) := by decide +kernel
theorem dX11_pledge_4 : decode cX11_pledge 4 = .ok (.iload_n 2, 1) := by decide +kernel
theorem dX11_pledge_5 : decode cX11_pledge 5 = .ok (.invokevirtual 192, 3) := by decide +kernel
theorem dX11_pledge_8 : decode cX11_pledge 8 = .ok (.ifCond .eq 14, 3) := by decide +kernel
theorem dX11_pledge_11 : decode cX11_pledge 11 = .ok (.iload_n 3, 1) := by decide +kernel
theorem dX11_pledge_12 : decode cX11_pledge 12 = .ok (.invokestatic 156, 3) := by decide +kernel
theorem dX11_pledge_15 : decode cX11_pledge 15 = .ok (.ifCond .eq 7, 3) := by decide +kernel
theorem dX11_pledge_18 : decode cX11_pledge 18 = .ok (.iconst 1, 1) := by decide +kernel
theorem dX11_pledge_19 : decode cX11_pledge 19 = .ok (.goto 4, 3) := by decide +kernel
theorem dX11_pledge_22 : decode cX11_pledge 22 = .ok (.iconst 0, 1) := by decide +kernel
theorem dX11_pledge_23 : decode cX11_pledge 23 = .ok (.invokevirtual 159, 3) := by decide +kernel
theorem dX11_pledge_26 : decode cX11_pledge 26 = .ok (.istore 4, 2) := by decide +kernel
theorem dX11_pledge_28 : decode cX11_pledge 28 = .ok (.iload 4, 2) := by decide +kernel
theorem dX11_pledge_30 : decode cX11_pledge 30 = .ok (.ifCond .eq 9, 3) := by decide +kernel
theorem dX11_pledge_33 : decode cX11_pledge 33 = .ok (.iload 4, 2) := by decide +kernel
theorem dX11_pledge_35 : decode cX11_pledge 35 = .ok (.invokestatic 163, 3) := by decide +kernel
theorem dX11_pledge_38 : decode cX11_pledge 38 = .ok (.lreturn, 1) := by decide +kernel
theorem dX11_pledge_39 : decode cX11_pledge 39 = .ok (.aload_n 0, 1) := by decide +kernel
theorem dX11_pledge_40 : decode cX11_pledge 40 = .ok (.iload_n 1, 1) := by decide +kernel
theorem dX11_pledge_41 : decode cX11_pledge 41 = .ok (.invokevirtual 227, 3) := by decide +kernel
theorem dX11_pledge_44 : decode cX11_pledge 44 = .ok (.aload_n 0, 1) := by decide +kernel
theorem dX11_pledge_45 : decode cX11_pledge 45 = .ok (.iload_n 1, 1) := by decide +kernel
theorem dX11_pledge_46 : decode cX11_pledge 46 = .ok (.iload_n 2, 1) := by decide +kernel
theorem dX11_pledge_47 : decode cX11_pledge 47 = .ok (.invokevirtual 237, 3) := by decide +kernel
theorem dX11_pledge_50 : decode cX11_pledge 50 = .ok (.istore 5, 2) := by decide +kernel
theorem dX11_pledge_52 : decode cX11_pledge 52 = .ok (.iload 5, 2) := by decide +kernel
theorem dX11_pledge_54 : decode cX11_pledge 54 = .ok (.iconst (-1), 1) := by decide +kernel
theorem dX11_pledge_55 : decode cX11_pledge 55 = .ok (.if_icmp .ne 7, 3) := by decide +kernel
theorem dX11_pledge_58 : decode cX11_pledge 58 = .ok (.lconst 0, 1) := by decide +kernel
theorem dX11_pledge_59 : decode cX11_pledge 59 = .ok (.goto 17, 3) := by decide +kernel
theorem dX11_pledge_62 : decode cX11_pledge 62 = .ok (.aload_n 0, 1) := by decide +kernel
theorem dX11_pledge_63 : decode cX11_pledge 63 = .ok (.iload_n 1, 1) := by decide +kernel
theorem dX11_pledge_64 : decode cX11_pledge 64 = .ok (.iload_n 2, 1) := by decide +kernel
theorem dX11_pledge_65 : decode cX11_pledge 65 = .ok (.iload 5, 2) := by decide +kernel
theorem dX11_pledge_67 : decode cX11_pledge 67 = .ok (.invokestatic 240, 3) := by decide +kernel
theorem dX11_pledge_70 : decode cX11_pledge 70 = .ok (.ior, 1) := by decide +kernel
theorem dX11_pledge_71 : decode cX11_pledge 71 = .ok (.iload 5, 2) := by decide +kernel
theorem dX11_pledge_73 : decode cX11_pledge 73 = .ok (.invokevirtual 217, 3) := by decide +kernel
theorem dX11_pledge_76 : decode cX11_pledge 76 = .ok (.lstore 6, 2) := by decide +kernel
theorem dX11_pledge_78 : decode cX11_pledge 78 = .ok (.lload 6, 2) := by decide +kernel
theorem dX11_pledge_80 : decode cX11_pledge 80 = .ok (.aload_n 0, 1) := by decide +kernel
theorem dX11_pledge_81 : decode cX11_pledge 81 = .ok (.getfield 19, 3) := by decide +kernel
theorem dX11_pledge_84 : decode cX11_pledge 84 = .ok (.invokevirtual 175, 3) := by decide +kernel
theorem dX11_pledge_87 : decode cX11_pledge 87 = .ok (.iload_n 3, 1) := by decide +kernel
theorem dX11_pledge_88 : decode cX11_pledge 88 = .ok (.invokestatic 179, 3) := by decide +kernel
theorem dX11_pledge_91 : decode cX11_pledge 91 = .ok (.lreturn, 1) := by decide +kernel
theorem dX11_on_0 : decode cX11_on 0 = .ok (.aload_n 0, 1) := by decide +kernel
theorem dX11_on_1 : decode cX11_on 1 = .ok (.iload_n 1, 1) := by decide +kernel
theorem dX11_on_2 : decode cX11_on 2 = .ok (.iconst 1, 1) := by decide +kernel
theorem dX11_on_3 : decode cX11_on 3 = .ok (.aload_n 0, 1) := by decide +kernel
theorem dX11_on_4 : decode cX11_on 4 = .ok (.iload_n 2, 1) := by decide +kernel
theorem dX11_on_5 : decode cX11_on 5 = .ok (.invokevirtual 192, 3) := by decide +kernel
theorem dX11_on_8 : decode cX11_on 8 = .ok (.ifCond .eq 16, 3) := by decide +kernel
theorem dX11_on_11 : decode cX11_on 11 = .ok (.iload_n 3, 1) := by decide +kernel
theorem dX11_on_12 : decode cX11_on 12 = .ok (.ifCond .eq 8, 3) := by decide +kernel
theorem dX11_on_15 : decode cX11_on 15 = .ok (.iload_n 3, 1) := by decide +kernel
theorem dX11_on_16 : decode cX11_on 16 = .ok (.iconst 1, 1) := by decide +kernel
theorem dX11_on_17 : decode cX11_on 17 = .ok (.if_icmp .ne 7, 3) := by decide +kernel
theorem dX11_on_20 : decode cX11_on 20 = .ok (.iconst 1, 1) := by decide +kernel
theorem dX11_on_21 : decode cX11_on 21 = .ok (.goto 4, 3) := by decide +kernel
theorem dX11_on_24 : decode cX11_on 24 = .ok (.iconst 0, 1) := by decide +kernel
theorem dX11_on_25 : decode cX11_on 25 = .ok (.invokevirtual 159, 3) := by decide +kernel
theorem dX11_on_28 : decode cX11_on 28 = .ok (.istore 4, 2) := by decide +kernel
theorem dX11_on_30 : decode cX11_on 30 = .ok (.iload 4, 2) := by decide +kernel
theorem dX11_on_32 : decode cX11_on 32 = .ok (.ifCond .eq 6, 3) := by decide +kernel
theorem dX11_on_35 : decode cX11_on 35 = .ok (.iload 4, 2) := by decide +kernel
theorem dX11_on_37 : decode cX11_on 37 = .ok (.ireturn, 1) := by decide +kernel
theorem dX11_on_38 : decode cX11_on 38 = .ok (.aload_n 0, 1) := by decide +kernel
theorem dX11_on_39 : decode cX11_on 39 = .ok (.iload_n 1, 1) := by decide +kernel
theorem dX11_on_40 : decode cX11_on 40 = .ok (.invokevirtual 227, 3) := by decide +kernel
theorem dX11_on_43 : decode cX11_on 43 = .ok (.iconst 0, 1) := by decide +kernel
theorem dX11_on_44 : decode cX11_on 44 = .ok (.istore 5, 2) := by decide +kernel
theorem dX11_on_46 : decode cX11_on 46 = .ok (.iload 5, 2) := by decide +kernel
theorem dX11_on_48 : decode cX11_on 48 = .ok (.aload_n 0, 1) := by decide +kernel
theorem dX11_on_49 : decode cX11_on 49 = .ok (.getfield 50, 3) := by decide +kernel
theorem dX11_on_52 : decode cX11_on 52 = .ok (.getfield 243, 3) := by decide +kernel
theorem dX11_on_55 : decode cX11_on 55 = .ok (.if_icmp .ge 50, 3) := by decide +kernel
theorem dX11_on_58 : decode cX11_on 58 = .ok (.iload_n 2, 1) := by decide +kernel
theorem dX11_on_59 : decode cX11_on 59 = .ok (.iload 5, 2) := by decide +kernel
theorem dX11_on_61 : decode cX11_on 61 = .ok (.invokestatic 246, 3) := by decide +kernel
theorem dX11_on_64 : decode cX11_on 64 = .ok (.ifCond .eq 14, 3) := by decide +kernel
theorem dX11_on_67 : decode cX11_on 67 = .ok (.aload_n 0, 1) := by decide +kernel
theorem dX11_on_68 : decode cX11_on 68 = .ok (.iload_n 1, 1) := by decide +kernel
theorem dX11_on_69 : decode cX11_on 69 = .ok (.iload_n 2, 1) := by decide +kernel
theorem dX11_on_70 : decode cX11_on 70 = .ok (.iload 5, 2) := by decide +kernel
theorem dX11_on_72 : decode cX11_on 72 = .ok (.invokevirtual 250, 3) := by decide +kernel
theorem dX11_on_75 : decode cX11_on 75 = .ok (.goto 4, 3) := by decide +kernel
theorem dX11_on_78 : decode cX11_on 78 = .ok (.iconst (-1), 1) := by decide +kernel
theorem dX11_on_79 : decode cX11_on 79 = .ok (.istore 6, 2) := by decide +kernel
theorem dX11_on_81 : decode cX11_on 81 = .ok (.iload 6, 2) := by decide +kernel
theorem dX11_on_83 : decode cX11_on 83 = .ok (.iconst (-1), 1) := by decide +kernel
theorem dX11_on_84 : decode cX11_on 84 = .ok (.if_icmp .eq 15, 3) := by decide +kernel
theorem dX11_on_87 : decode cX11_on 87 = .ok (.iload_n 3, 1) := by decide +kernel
theorem dX11_on_88 : decode cX11_on 88 = .ok (.ifCond .ne 8, 3) := by decide +kernel
theorem dX11_on_91 : decode cX11_on 91 = .ok (.iload 5, 2) := by decide +kernel
theorem dX11_on_93 : decode cX11_on 93 = .ok (.goto 5, 3) := by decide +kernel
theorem dX11_on_96 : decode cX11_on 96 = .ok (.iload 6, 2) := by decide +kernel
theorem dX11_on_98 : decode cX11_on 98 = .ok (.ireturn, 1) := by decide +kernel
theorem dX11_on_99 : decode cX11_on 99 = .ok (.iinc 5 1, 3) := by decide +kernel
theorem dX11_on_102 : decode cX11_on 102 = .ok (.goto (-56), 3) := by decide +kernel
theorem dX11_on_105 : decode cX11_on 105 = .ok (.iconst (-1), 1) := by decide +kernel
theorem dX11_on_106 : decode cX11_on 106 = .ok (.ireturn, 1) := by decide +kernel
theorem dX11_shut_0 : decode cX11_shut 0 = .ok (.aload_n 0, 1) := by decide +kernel
theorem dX11_shut_1 : decode cX11_shut 1 = .ok (.iload_n 1, 1) := by decide +kernel
theorem dX11_shut_2 : decode cX11_shut 2 = .ok (.aload_n 0, 1) := by decide +kernel
theorem dX11_shut_3 : decode cX11_shut 3 = .ok (.getfield 50, 3) := by decide +kernel
theorem dX11_shut_6 : decode cX11_shut 6 = .ok (.iload_n 2, 1) := by decide +kernel
theorem dX11_shut_7 : decode cX11_shut 7 = .ok (.invokevirtual 127, 3) := by decide +kernel
theorem dX11_shut_10 : decode cX11_shut 10 = .ok (.iload_n 3, 1) := by decide +kernel
theorem dX11_shut_11 : decode cX11_shut 11 = .ok (.invokestatic 156, 3) := by decide +kernel
theorem dX11_shut_14 : decode cX11_shut 14 = .ok (.invokevirtual 159, 3) := by decide +kernel
theorem dX11_shut_17 : decode cX11_shut 17 = .ok (.istore 4, 2) := by decide +kernel
theorem dX11_shut_19 : decode cX11_shut 19 = .ok (.iload 4, 2) := by decide +kernel
theorem dX11_shut_21 : decode cX11_shut 21 = .ok (.ifCond .eq 9, 3) := by decide +kernel
theorem dX11_shut_24 : decode cX11_shut 24 = .ok (.iload 4, 2) := by decide +kernel
theorem dX11_shut_26 : decode cX11_shut 26 = .ok (.invokestatic 163, 3) := by decide +kernel
theorem dX11_shut_29 : decode cX11_shut 29 = .ok (.lreturn, 1) := by decide +kernel
theorem dX11_shut_30 : decode cX11_shut 30 = .ok (.aload_n 0, 1) := by decide +kernel
theorem dX11_shut_31 : decode cX11_shut 31 = .ok (.iload_n 1, 1) := by decide +kernel
theorem dX11_shut_32 : decode cX11_shut 32 = .ok (.iload_n 2, 1) := by decide +kernel
theorem dX11_shut_33 : decode cX11_shut 33 = .ok (.invokestatic 240, 3) := by decide +kernel
theorem dX11_shut_36 : decode cX11_shut 36 = .ok (.invokevirtual 195, 3) := by decide +kernel
theorem dX11_shut_39 : decode cX11_shut 39 = .ok (.aload_n 0, 1) := by decide +kernel
theorem dX11_shut_40 : decode cX11_shut 40 = .ok (.iload_n 1, 1) := by decide +kernel
theorem dX11_shut_41 : decode cX11_shut 41 = .ok (.aload_n 0, 1) := by decide +kernel
theorem dX11_shut_42 : decode cX11_shut 42 = .ok (.getfield 50, 3) := by decide +kernel
theorem dX11_shut_45 : decode cX11_shut 45 = .ok (.invokevirtual 253, 3) := by decide +kernel
theorem dX11_shut_48 : decode cX11_shut 48 = .ok (.invokevirtual 195, 3) := by decide +kernel
theorem dX11_shut_51 : decode cX11_shut 51 = .ok (.aload_n 0, 1) := by decide +kernel
theorem dX11_shut_52 : decode cX11_shut 52 = .ok (.iload_n 1, 1) := by decide +kernel
theorem dX11_shut_53 : decode cX11_shut 53 = .ok (.iload_n 2, 1) := by decide +kernel
theorem dX11_shut_54 : decode cX11_shut 54 = .ok (.invokestatic 240, 3) := by decide +kernel
theorem dX11_shut_57 : decode cX11_shut 57 = .ok (.iload_n 2, 1) := by decide +kernel
theorem dX11_shut_58 : decode cX11_shut 58 = .ok (.invokevirtual 217, 3) := by decide +kernel
theorem dX11_shut_61 : decode cX11_shut 61 = .ok (.lstore 5, 2) := by decide +kernel
theorem dX11_shut_63 : decode cX11_shut 63 = .ok (.aload_n 0, 1) := by decide +kernel
theorem dX11_shut_64 : decode cX11_shut 64 = .ok (.iload_n 1, 1) := by decide +kernel
theorem dX11_shut_65 : decode cX11_shut 65 = .ok (.aload_n 0, 1) := by decide +kernel
theorem dX11_shut_66 : decode cX11_shut 66 = .ok (.getfield 50, 3) := by decide +kernel
theorem dX11_shut_69 : decode cX11_shut 69 = .ok (.invokevirtual 253, 3) := by decide +kernel
theorem dX11_shut_72 : decode cX11_shut 72 = .ok (.iload_n 2, 1) := by decide +kernel
theorem dX11_shut_73 : decode cX11_shut 73 = .ok (.invokevirtual 217, 3) := by decide +kernel
theorem dX11_shut_76 : decode cX11_shut 76 = .ok (.lstore 7, 2) := by decide +kernel
theorem dX11_shut_78 : decode cX11_shut 78 = .ok (.lload 5, 2) := by decide +kernel
theorem dX11_shut_80 : decode cX11_shut 80 = .ok (.lload 7, 2) := by decide +kernel
theorem dX11_shut_82 : decode cX11_shut 82 = .ok (.lsub, 1) := by decide +kernel
theorem dX11_shut_83 : decode cX11_shut 83 = .ok (.aload_n 0, 1) := by decide +kernel
theorem dX11_shut_84 : decode cX11_shut 84 = .ok (.getfield 19, 3) := by decide +kernel
theorem dX11_shut_87 : decode cX11_shut 87 = .ok (.invokevirtual 175, 3) := by decide +kernel
theorem dX11_shut_90 : decode cX11_shut 90 = .ok (.iload_n 3, 1) := by decide +kernel
theorem dX11_shut_91 : decode cX11_shut 91 = .ok (.invokestatic 179, 3) := by decide +kernel
theorem dX11_shut_94 : decode cX11_shut 94 = .ok (.lreturn, 1) := by decide +kernel
theorem dX11_wrongly_0 : decode cX11_wrongly 0 = .ok (.aload_n 0, 1) := by decide +kernel
theorem dX11_wrongly_1 : decode cX11_wrongly 1 = .ok (.iload_n 2, 1) := by decide +kernel
theorem dX11_wrongly_2 : decode cX11_wrongly 2 = .ok (.invokevirtual 192, 3) := by decide +kernel
theorem dX11_wrongly_5 : decode cX11_wrongly 5 = .ok (.ifCond .eq 22, 3) := by decide +kernel
theorem dX11_wrongly_8 : decode cX11_wrongly 8 = .ok (.iload_n 3, 1) := by decide +kernel
theorem dX11_wrongly_9 : decode cX11_wrongly 9 = .ok (.invokestatic 153, 3) := by decide +kernel
theorem dX11_wrongly_12 : decode cX11_wrongly 12 = .ok (.ifCond .eq 15, 3) := by decide +kernel
theorem dX11_wrongly_15 : decode cX11_wrongly 15 = .ok (.iload 6, 2) := by decide +kernel
theorem dX11_wrongly_17 : decode cX11_wrongly 17 = .ok (.invokestatic 156, 3) := by decide +kernel
theorem dX11_wrongly_20 : decode cX11_wrongly 20 = .ok (.ifCond .eq 7, 3) := by decide +kernel
theorem dX11_wrongly_23 : decode cX11_wrongly 23 = .ok (.iconst 1, 1) := by decide +kernel
theorem dX11_wrongly_24 : decode cX11_wrongly 24 = .ok (.goto 4, 3) := by decide +kernel
theorem dX11_wrongly_27 : decode cX11_wrongly 27 = .ok (.iconst 0, 1) := by decide +kernel
theorem dX11_wrongly_28 : decode cX11_wrongly 28 = .ok (.istore 7, 2) := by decide +kernel
theorem dX11_wrongly_30 : decode cX11_wrongly 30 = .ok (.aload_n 0, 1) := by decide +kernel
theorem dX11_wrongly_31 : decode cX11_wrongly 31 = .ok (.iload_n 1, 1) := by decide +kernel
theorem dX11_wrongly_32 : decode cX11_wrongly 32 = .ok (.aload_n 0, 1) := by decide +kernel
theorem dX11_wrongly_33 : decode cX11_wrongly 33 = .ok (.getfield 50, 3) := by decide +kernel
theorem dX11_wrongly_36 : decode cX11_wrongly 36 = .ok (.iload 5, 2) := by decide +kernel
theorem dX11_wrongly_38 : decode cX11_wrongly 38 = .ok (.invokevirtual 127, 3) := by decide +kernel
theorem dX11_wrongly_41 : decode cX11_wrongly 41 = .ok (.ifCond .eq 16, 3) := by decide +kernel
theorem dX11_wrongly_44 : decode cX11_wrongly 44 = .ok (.aload_n 0, 1) := by decide +kernel
theorem dX11_wrongly_45 : decode cX11_wrongly 45 = .ok (.iload 4, 2) := by decide +kernel
theorem dX11_wrongly_47 : decode cX11_wrongly 47 = .ok (.invokevirtual 99, 3) := by decide +kernel
theorem dX11_wrongly_50 : decode cX11_wrongly 50 = .ok (.ifCond .eq 7, 3) := by decide +kernel
theorem dX11_wrongly_53 : decode cX11_wrongly 53 = .ok (.iconst 1, 1) := by decide +kernel
theorem dX11_wrongly_54 : decode cX11_wrongly 54 = .ok (.goto 4, 3) := by decide +kernel
theorem dX11_wrongly_57 : decode cX11_wrongly 57 = .ok (.iconst 0, 1) := by decide +kernel
theorem dX11_wrongly_58 : decode cX11_wrongly 58 = .ok (.iload 7, 2) := by decide +kernel
theorem dX11_wrongly_60 : decode cX11_wrongly 60 = .ok (.invokevirtual 159, 3) := by decide +kernel
theorem dX11_wrongly_63 : decode cX11_wrongly 63 = .ok (.istore 8, 2) := by decide +kernel
theorem dX11_wrongly_65 : decode cX11_wrongly 65 = .ok (.iload 8, 2) := by decide +kernel
theorem dX11_wrongly_67 : decode cX11_wrongly 67 = .ok (.ifCond .eq 9, 3) := by decide +kernel
theorem dX11_wrongly_70 : decode cX11_wrongly 70 = .ok (.iload 8, 2) := by decide +kernel
theorem dX11_wrongly_72 : decode cX11_wrongly 72 = .ok (.invokestatic 163, 3) := by decide +kernel
theorem dX11_wrongly_75 : decode cX11_wrongly 75 = .ok (.lreturn, 1) := by decide +kernel
theorem dX11_wrongly_76 : decode cX11_wrongly 76 = .ok (.aload_n 0, 1) := by decide +kernel
theorem dX11_wrongly_77 : decode cX11_wrongly 77 = .ok (.iload_n 1, 1) := by decide +kernel
theorem dX11_wrongly_78 : decode cX11_wrongly 78 = .ok (.iload_n 2, 1) := by decide +kernel
theorem dX11_wrongly_79 : decode cX11_wrongly 79 = .ok (.invokevirtual 195, 3) := by decide +kernel
theorem dX11_wrongly_82 : decode cX11_wrongly 82 = .ok (.aload_n 0, 1) := by decide +kernel
theorem dX11_wrongly_83 : decode cX11_wrongly 83 = .ok (.iload_n 1, 1) := by decide +kernel
theorem dX11_wrongly_84 : decode cX11_wrongly 84 = .ok (.iload_n 2, 1) := by decide +kernel
theorem dX11_wrongly_85 : decode cX11_wrongly 85 = .ok (.iload_n 3, 1) := by decide +kernel
theorem dX11_wrongly_86 : decode cX11_wrongly 86 = .ok (.invokevirtual 199, 3) := by decide +kernel
theorem dX11_wrongly_89 : decode cX11_wrongly 89 = .ok (.istore 9, 2) := by decide +kernel
theorem dX11_wrongly_91 : decode cX11_wrongly 91 = .ok (.iload 9, 2) := by decide +kernel
theorem dX11_wrongly_93 : decode cX11_wrongly 93 = .ok (.iconst (-1), 1) := by decide +kernel
theorem dX11_wrongly_94 : decode cX11_wrongly 94 = .ok (.if_icmp .ne 7, 3) := by decide +kernel
theorem dX11_wrongly_97 : decode cX11_wrongly 97 = .ok (.ldc2_w 187, 3) := by decide +kernel
theorem dX11_wrongly_100 : decode cX11_wrongly 100 = .ok (.lreturn, 1) := by decide +kernel
theorem dX11_wrongly_101 : decode cX11_wrongly 101 = .ok (.aload_n 0, 1) := by decide +kernel
theorem dX11_wrongly_102 : decode cX11_wrongly 102 = .ok (.getfield 35, 3) := by decide +kernel
theorem dX11_wrongly_105 : decode cX11_wrongly 105 = .ok (.aload_n 0, 1) := by decide +kernel
theorem dX11_wrongly_106 : decode cX11_wrongly 106 = .ok (.getfield 19, 3) := by decide +kernel
theorem dX11_wrongly_109 : decode cX11_wrongly 109 = .ok (.aload_n 0, 1) := by decide +kernel
theorem dX11_wrongly_110 : decode cX11_wrongly 110 = .ok (.iload_n 1, 1) := by decide +kernel
theorem dX11_wrongly_111 : decode cX11_wrongly 111 = .ok (.invokevirtual 146, 3) := by decide +kernel
theorem dX11_wrongly_114 : decode cX11_wrongly 114 = .ok (.iload 4, 2) := by decide +kernel
theorem dX11_wrongly_116 : decode cX11_wrongly 116 = .ok (.invokevirtual 257, 3) := by decide +kernel
theorem dX11_wrongly_119 : decode cX11_wrongly 119 = .ok (.aload_n 0, 1) := by decide +kernel
theorem dX11_wrongly_120 : decode cX11_wrongly 120 = .ok (.getfield 42, 3) := by decide +kernel
theorem dX11_wrongly_123 : decode cX11_wrongly 123 = .ok (.aload_n 0, 1) := by decide +kernel
theorem dX11_wrongly_124 : decode cX11_wrongly 124 = .ok (.getfield 35, 3) := by decide +kernel
theorem dX11_wrongly_127 : decode cX11_wrongly 127 = .ok (.aload_n 0, 1) := by decide +kernel
theorem dX11_wrongly_128 : decode cX11_wrongly 128 = .ok (.getfield 19, 3) := by decide +kernel
theorem dX11_wrongly_131 : decode cX11_wrongly 131 = .ok (.getfield 106, 3) := by decide +kernel
theorem dX11_wrongly_134 : decode cX11_wrongly 134 = .ok (.iload_n 2, 1) := by decide +kernel
theorem dX11_wrongly_135 : decode cX11_wrongly 135 = .ok (.invokevirtual 203, 3) := by decide +kernel
theorem dX11_wrongly_138 : decode cX11_wrongly 138 = .ok (.aload_n 0, 1) := by decide +kernel
theorem dX11_wrongly_139 : decode cX11_wrongly 139 = .ok (.getfield 42, 3) := by decide +kernel
theorem dX11_wrongly_142 : decode cX11_wrongly 142 = .ok (.iload 9, 2) := by decide +kernel
theorem dX11_wrongly_144 : decode cX11_wrongly 144 = .ok (.iload 5, 2) := by decide +kernel
theorem dX11_wrongly_146 : decode cX11_wrongly 146 = .ok (.invokevirtual 213, 3) := by decide +kernel
theorem dX11_wrongly_149 : decode cX11_wrongly 149 = .ok (.aload_n 0, 1) := by decide +kernel
theorem dX11_wrongly_150 : decode cX11_wrongly 150 = .ok (.getfield 35, 3) := by decide +kernel
theorem dX11_wrongly_153 : decode cX11_wrongly 153 = .ok (.getfield 171, 3) := by decide +kernel
theorem dX11_wrongly_156 : decode cX11_wrongly 156 = .ok (.iload 6, 2) := by decide +kernel
theorem dX11_wrongly_158 : decode cX11_wrongly 158 = .ok (.invokestatic 179, 3) := by decide +kernel
theorem dX11_wrongly_161 : decode cX11_wrongly 161 = .ok (.lreturn, 1) := by decide +kernel
theorem dX11_shown_0 : decode cX11_shown 0 = .ok (.aload_n 0, 1) := by decide +kernel
theorem dX11_shown_1 : decode cX11_shown 1 = .ok (.iload_n 1, 1) := by decide +kernel
theorem dX11_shown_2 : decode cX11_shown 2 = .ok (.iconst 1, 1) := by decide +kernel
theorem dX11_shown_3 : decode cX11_shown 3 = .ok (.aload_n 0, 1) := by decide +kernel
theorem dX11_shown_4 : decode cX11_shown 4 = .ok (.iload_n 2, 1) := by decide +kernel
theorem dX11_shown_5 : decode cX11_shown 5 = .ok (.invokevirtual 192, 3) := by decide +kernel
theorem dX11_shown_8 : decode cX11_shown 8 = .ok (.invokevirtual 159, 3) := by decide +kernel
theorem dX11_shown_11 : decode cX11_shown 11 = .ok (.istore_n 3, 1) := by decide +kernel
theorem dX11_shown_12 : decode cX11_shown 12 = .ok (.iload_n 3, 1) := by decide +kernel
theorem dX11_shown_13 : decode cX11_shown 13 = .ok (.ifCond .eq 5, 3) := by decide +kernel
theorem dX11_shown_16 : decode cX11_shown 16 = .ok (.iload_n 3, 1) := by decide +kernel
theorem dX11_shown_17 : decode cX11_shown 17 = .ok (.ireturn, 1) := by decide +kernel
theorem dX11_shown_18 : decode cX11_shown 18 = .ok (.aload_n 0, 1) := by decide +kernel
theorem dX11_shown_19 : decode cX11_shown 19 = .ok (.iload_n 1, 1) := by decide +kernel
theorem dX11_shown_20 : decode cX11_shown 20 = .ok (.iload_n 2, 1) := by decide +kernel
theorem dX11_shown_21 : decode cX11_shown 21 = .ok (.invokevirtual 195, 3) := by decide +kernel
theorem dX11_shown_24 : decode cX11_shown 24 = .ok (.iconst 0, 1) := by decide +kernel
theorem dX11_shown_25 : decode cX11_shown 25 = .ok (.istore 4, 2) := by decide +kernel
theorem dX11_shown_27 : decode cX11_shown 27 = .ok (.iconst 0, 1) := by decide +kernel
theorem dX11_shown_28 : decode cX11_shown 28 = .ok (.istore 5, 2) := by decide +kernel
theorem dX11_shown_30 : decode cX11_shown 30 = .ok (.iload 5, 2) := by decide +kernel
theorem dX11_shown_32 : decode cX11_shown 32 = .ok (.iconst 4, 1) := by decide +kernel
theorem dX11_shown_33 : decode cX11_shown 33 = .ok (.if_icmp .ge 35, 3) := by decide +kernel
theorem dX11_shown_36 : decode cX11_shown 36 = .ok (.aload_n 0, 1) := by decide +kernel
theorem dX11_shown_37 : decode cX11_shown 37 = .ok (.iload_n 1, 1) := by decide +kernel
theorem dX11_shown_38 : decode cX11_shown 38 = .ok (.iload_n 2, 1) := by decide +kernel
theorem dX11_shown_39 : decode cX11_shown 39 = .ok (.iload 5, 2) := by decide +kernel
theorem dX11_shown_41 : decode cX11_shown 41 = .ok (.invokevirtual 199, 3) := by decide +kernel
theorem dX11_shown_44 : decode cX11_shown 44 = .ok (.iconst (-1), 1) := by decide +kernel
theorem dX11_shown_45 : decode cX11_shown 45 = .ok (.if_icmp .eq 17, 3) := by decide +kernel
theorem dX11_shown_48 : decode cX11_shown 48 = .ok (.aload_n 0, 1) := by decide +kernel
theorem dX11_shown_49 : decode cX11_shown 49 = .ok (.iload_n 1, 1) := by decide +kernel
theorem dX11_shown_50 : decode cX11_shown 50 = .ok (.iload_n 2, 1) := by decide +kernel
theorem dX11_shown_51 : decode cX11_shown 51 = .ok (.iload 5, 2) := by decide +kernel
theorem dX11_shown_53 : decode cX11_shown 53 = .ok (.invokevirtual 260, 3) := by decide +kernel
theorem dX11_shown_56 : decode cX11_shown 56 = .ok (.ifCond .ne 6, 3) := by decide +kernel
theorem dX11_shown_59 : decode cX11_shown 59 = .ok (.iinc 4 1, 3) := by decide +kernel
theorem dX11_shown_62 : decode cX11_shown 62 = .ok (.iinc 5 1, 3) := by decide +kernel
theorem dX11_shown_65 : decode cX11_shown 65 = .ok (.goto (-35), 3) := by decide +kernel
theorem dX11_shown_68 : decode cX11_shown 68 = .ok (.iload 4, 2) := by decide +kernel
theorem dX11_shown_70 : decode cX11_shown 70 = .ok (.ireturn, 1) := by decide +kernel
theorem dX11_thought_0 : decode cX11_thought 0 = .ok (.aload_n 0, 1) := by decide +kernel
theorem dX11_thought_1 : decode cX11_thought 1 = .ok (.iload_n 1, 1) := by decide +kernel
theorem dX11_thought_2 : decode cX11_thought 2 = .ok (.iconst 1, 1) := by decide +kernel
theorem dX11_thought_3 : decode cX11_thought 3 = .ok (.aload_n 0, 1) := by decide +kernel
theorem dX11_thought_4 : decode cX11_thought 4 = .ok (.iload_n 2, 1) := by decide +kernel
theorem dX11_thought_5 : decode cX11_thought 5 = .ok (.invokevirtual 192, 3) := by decide +kernel
theorem dX11_thought_8 : decode cX11_thought 8 = .ok (.ifCond .eq 22, 3) := by decide +kernel
theorem dX11_thought_11 : decode cX11_thought 11 = .ok (.iload_n 3, 1) := by decide +kernel
theorem dX11_thought_12 : decode cX11_thought 12 = .ok (.invokestatic 153, 3) := by decide +kernel
theorem dX11_thought_15 : decode cX11_thought 15 = .ok (.ifCond .eq 15, 3) := by decide +kernel
theorem dX11_thought_18 : decode cX11_thought 18 = .ok (.iload 4, 2) := by decide +kernel
theorem dX11_thought_20 : decode cX11_thought 20 = .ok (.invokestatic 156, 3) := by decide +kernel
theorem dX11_thought_23 : decode cX11_thought 23 = .ok (.ifCond .eq 7, 3) := by decide +kernel
theorem dX11_thought_26 : decode cX11_thought 26 = .ok (.iconst 1, 1) := by decide +kernel
theorem dX11_thought_27 : decode cX11_thought 27 = .ok (.goto 4, 3) := by decide +kernel
theorem dX11_thought_30 : decode cX11_thought 30 = .ok (.iconst 0, 1) := by decide +kernel
theorem dX11_thought_31 : decode cX11_thought 31 = .ok (.invokevirtual 159, 3) := by decide +kernel
theorem dX11_thought_34 : decode cX11_thought 34 = .ok (.istore 5, 2) := by decide +kernel
theorem dX11_thought_36 : decode cX11_thought 36 = .ok (.iload 5, 2) := by decide +kernel
theorem dX11_thought_38 : decode cX11_thought 38 = .ok (.ifCond .eq 9, 3) := by decide +kernel
theorem dX11_thought_41 : decode cX11_thought 41 = .ok (.iload 5, 2) := by decide +kernel
theorem dX11_thought_43 : decode cX11_thought 43 = .ok (.invokestatic 163, 3) := by decide +kernel
theorem dX11_thought_46 : decode cX11_thought 46 = .ok (.lreturn, 1) := by decide +kernel
theorem dX11_thought_47 : decode cX11_thought 47 = .ok (.aload_n 0, 1) := by decide +kernel
theorem dX11_thought_48 : decode cX11_thought 48 = .ok (.iload_n 1, 1) := by decide +kernel
theorem dX11_thought_49 : decode cX11_thought 49 = .ok (.iload_n 2, 1) := by decide +kernel
theorem dX11_thought_50 : decode cX11_thought 50 = .ok (.invokevirtual 195, 3) := by decide +kernel
theorem dX11_thought_53 : decode cX11_thought 53 = .ok (.aload_n 0, 1) := by decide +kernel
theorem dX11_thought_54 : decode cX11_thought 54 = .ok (.iload_n 1, 1) := by decide +kernel
theorem dX11_thought_55 : decode cX11_thought 55 = .ok (.iload_n 2, 1) := by decide +kernel
theorem dX11_thought_56 : decode cX11_thought 56 = .ok (.iload_n 3, 1) := by decide +kernel
theorem dX11_thought_57 : decode cX11_thought 57 = .ok (.invokevirtual 199, 3) := by decide +kernel
theorem dX11_thought_60 : decode cX11_thought 60 = .ok (.iconst (-1), 1) := by decide +kernel
theorem dX11_thought_61 : decode cX11_thought 61 = .ok (.if_icmp .ne 7, 3) := by decide +kernel
theorem dX11_thought_64 : decode cX11_thought 64 = .ok (.ldc2_w 187, 3) := by decide +kernel
theorem dX11_thought_67 : decode cX11_thought 67 = .ok (.lreturn, 1) := by decide +kernel
theorem dX11_thought_68 : decode cX11_thought 68 = .ok (.lconst 0, 1) := by decide +kernel
theorem dX11_thought_69 : decode cX11_thought 69 = .ok (.lstore 6, 2) := by decide +kernel
theorem dX11_thought_71 : decode cX11_thought 71 = .ok (.lconst 0, 1) := by decide +kernel
theorem dX11_thought_72 : decode cX11_thought 72 = .ok (.lstore 8, 2) := by decide +kernel
theorem dX11_thought_74 : decode cX11_thought 74 = .ok (.iconst 0, 1) := by decide +kernel
theorem dX11_thought_75 : decode cX11_thought 75 = .ok (.istore 10, 2) := by decide +kernel
theorem dX11_thought_77 : decode cX11_thought 77 = .ok (.iload 10, 2) := by decide +kernel
theorem dX11_thought_79 : decode cX11_thought 79 = .ok (.iconst 4, 1) := by decide +kernel
theorem dX11_thought_80 : decode cX11_thought 80 = .ok (.if_icmp .ge 63, 3) := by decide +kernel
theorem dX11_thought_83 : decode cX11_thought 83 = .ok (.aload_n 0, 1) := by decide +kernel
theorem dX11_thought_84 : decode cX11_thought 84 = .ok (.iload_n 1, 1) := by decide +kernel
theorem dX11_thought_85 : decode cX11_thought 85 = .ok (.iload_n 2, 1) := by decide +kernel
theorem dX11_thought_86 : decode cX11_thought 86 = .ok (.iload_n 3, 1) := by decide +kernel
theorem dX11_thought_87 : decode cX11_thought 87 = .ok (.iload 10, 2) := by decide +kernel
theorem dX11_thought_89 : decode cX11_thought 89 = .ok (.invokevirtual 264, 3) := by decide +kernel
theorem dX11_thought_92 : decode cX11_thought 92 = .ok (.ifCond .eq 45, 3) := by decide +kernel
theorem dX11_thought_95 : decode cX11_thought 95 = .ok (.aload_n 0, 1) := by decide +kernel
theorem dX11_thought_96 : decode cX11_thought 96 = .ok (.getfield 35, 3) := by decide +kernel
theorem dX11_thought_99 : decode cX11_thought 99 = .ok (.aload_n 0, 1) := by decide +kernel
theorem dX11_thought_100 : decode cX11_thought 100 = .ok (.getfield 19, 3) := by decide +kernel
theorem dX11_thought_103 : decode cX11_thought 103 = .ok (.aload_n 0, 1) := by decide +kernel
theorem dX11_thought_104 : decode cX11_thought 104 = .ok (.iload_n 1, 1) := by decide +kernel
theorem dX11_thought_105 : decode cX11_thought 105 = .ok (.invokevirtual 146, 3) := by decide +kernel
theorem dX11_thought_108 : decode cX11_thought 108 = .ok (.iload 10, 2) := by decide +kernel
theorem dX11_thought_110 : decode cX11_thought 110 = .ok (.invokevirtual 167, 3) := by decide +kernel
theorem dX11_thought_113 : decode cX11_thought 113 = .ok (.lload 6, 2) := by decide +kernel
theorem dX11_thought_115 : decode cX11_thought 115 = .ok (.aload_n 0, 1) := by decide +kernel
theorem dX11_thought_116 : decode cX11_thought 116 = .ok (.getfield 35, 3) := by decide +kernel
theorem dX11_thought_119 : decode cX11_thought 119 = .ok (.getfield 268, 3) := by decide +kernel
theorem dX11_thought_122 : decode cX11_thought 122 = .ok (.ladd, 1) := by decide +kernel
theorem dX11_thought_123 : decode cX11_thought 123 = .ok (.lstore 6, 2) := by decide +kernel
theorem dX11_thought_125 : decode cX11_thought 125 = .ok (.lload 8, 2) := by decide +kernel
theorem dX11_thought_127 : decode cX11_thought 127 = .ok (.aload_n 0, 1) := by decide +kernel
theorem dX11_thought_128 : decode cX11_thought 128 = .ok (.getfield 35, 3) := by decide +kernel
theorem dX11_thought_131 : decode cX11_thought 131 = .ok (.getfield 171, 3) := by decide +kernel
theorem dX11_thought_134 : decode cX11_thought 134 = .ok (.ladd, 1) := by decide +kernel
theorem dX11_thought_135 : decode cX11_thought 135 = .ok (.lstore 8, 2) := by decide +kernel
theorem dX11_thought_137 : decode cX11_thought 137 = .ok (.iinc 10 1, 3) := by decide +kernel
theorem dX11_thought_140 : decode cX11_thought 140 = .ok (.goto (-63), 3) := by decide +kernel
theorem dX11_thought_143 : decode cX11_thought 143 = .ok (.lload 6, 2) := by decide +kernel
theorem dX11_thought_145 : decode cX11_thought 145 = .ok (.lload 8, 2) := by decide +kernel
theorem dX11_thought_147 : decode cX11_thought 147 = .ok (.iload 4, 2) := by decide +kernel
theorem dX11_thought_149 : decode cX11_thought 149 = .ok (.invokestatic 179, 3) := by decide +kernel
theorem dX11_thought_152 : decode cX11_thought 152 = .ok (.lreturn, 1) := by decide +kernel
theorem dX11_bound_0 : decode cX11_bound 0 = .ok (.aload_n 0, 1) := by decide +kernel
theorem dX11_bound_1 : decode cX11_bound 1 = .ok (.getfield 89, 3) := by decide +kernel
theorem dX11_bound_4 : decode cX11_bound 4 = .ok (.ifCond .ne 7, 3) := by decide +kernel
theorem dX11_bound_7 : decode cX11_bound 7 = .ok (.ldc2_w 271, 3) := by decide +kernel
theorem dX11_bound_10 : decode cX11_bound 10 = .ok (.lreturn, 1) := by decide +kernel
theorem dX11_bound_11 : decode cX11_bound 11 = .ok (.iload_n 1, 1) := by decide +kernel
theorem dX11_bound_12 : decode cX11_bound 12 = .ok (.invokestatic 156, 3) := by decide +kernel
theorem dX11_bound_15 : decode cX11_bound 15 = .ok (.ifCond .ne 7, 3) := by decide +kernel
theorem dX11_bound_18 : decode cX11_bound 18 = .ok (.ldc2_w 273, 3) := by decide +kernel
theorem dX11_bound_21 : decode cX11_bound 21 = .ok (.lreturn, 1) := by decide +kernel
theorem dX11_bound_22 : decode cX11_bound 22 = .ok (.aload_n 0, 1) := by decide +kernel
theorem dX11_bound_23 : decode cX11_bound 23 = .ok (.getfield 19, 3) := by decide +kernel
theorem dX11_bound_26 : decode cX11_bound 26 = .ok (.aload_n 0, 1) := by decide +kernel
theorem dX11_bound_27 : decode cX11_bound 27 = .ok (.getfield 50, 3) := by decide +kernel
theorem dX11_bound_30 : decode cX11_bound 30 = .ok (.invokevirtual 275, 3) := by decide +kernel
theorem dX11_bound_33 : decode cX11_bound 33 = .ok (.invokevirtual 278, 3) := by decide +kernel
theorem dX11_bound_36 : decode cX11_bound 36 = .ok (.aload_n 0, 1) := by decide +kernel
theorem dX11_bound_37 : decode cX11_bound 37 = .ok (.getfield 19, 3) := by decide +kernel
theorem dX11_bound_40 : decode cX11_bound 40 = .ok (.getfield 281, 3) := by decide +kernel
theorem dX11_bound_43 : decode cX11_bound 43 = .ok (.i2l, 1) := by decide +kernel
theorem dX11_bound_44 : decode cX11_bound 44 = .ok (.iload_n 1, 1) := by decide +kernel
theorem dX11_bound_45 : decode cX11_bound 45 = .ok (.invokestatic 179, 3) := by decide +kernel
theorem dX11_bound_48 : decode cX11_bound 48 = .ok (.lreturn, 1) := by decide +kernel
theorem dX11_run_0 : decode cX11_run 0 = .ok (.aload_n 0, 1) := by decide +kernel
theorem dX11_run_1 : decode cX11_run 1 = .ok (.iload_n 2, 1) := by decide +kernel
theorem dX11_run_2 : decode cX11_run 2 = .ok (.invokevirtual 192, 3) := by decide +kernel
theorem dX11_run_5 : decode cX11_run 5 = .ok (.ifCond .eq 35, 3) := by decide +kernel
theorem dX11_run_8 : decode cX11_run 8 = .ok (.iload_n 3, 1) := by decide +kernel
theorem dX11_run_9 : decode cX11_run 9 = .ok (.ifCond .lt 31, 3) := by decide +kernel
theorem dX11_run_12 : decode cX11_run 12 = .ok (.iload 4, 2) := by decide +kernel
theorem dX11_run_14 : decode cX11_run 14 = .ok (.iconst 1, 1) := by decide +kernel
theorem dX11_run_15 : decode cX11_run 15 = .ok (.if_icmp .lt 25, 3) := by decide +kernel
theorem dX11_run_18 : decode cX11_run 18 = .ok (.iload 4, 2) := by decide +kernel
theorem dX11_run_20 : decode cX11_run 20 = .ok (.bipush 100, 2) := by decide +kernel
theorem dX11_run_22 : decode cX11_run 22 = .ok (.if_icmp .gt 18, 3) := by decide +kernel
theorem dX11_run_25 : decode cX11_run 25 = .ok (.iload 5, 2) := by decide +kernel
theorem dX11_run_27 : decode cX11_run 27 = .ok (.ifCond .lt 13, 3) := by decide +kernel
theorem dX11_run_30 : decode cX11_run 30 = .ok (.iload 5, 2) := by decide +kernel
theorem dX11_run_32 : decode cX11_run 32 = .ok (.iconst 2, 1) := by decide +kernel
theorem dX11_run_33 : decode cX11_run 33 = .ok (.if_icmp .gt 7, 3) := by decide +kernel
theorem dX11_run_36 : decode cX11_run 36 = .ok (.iconst 1, 1) := by decide +kernel
theorem dX11_run_37 : decode cX11_run 37 = .ok (.goto 4, 3) := by decide +kernel
theorem dX11_run_40 : decode cX11_run 40 = .ok (.iconst 0, 1) := by decide +kernel
theorem dX11_run_41 : decode cX11_run 41 = .ok (.istore 6, 2) := by decide +kernel
theorem dX11_run_43 : decode cX11_run 43 = .ok (.aload_n 0, 1) := by decide +kernel
theorem dX11_run_44 : decode cX11_run 44 = .ok (.iload_n 1, 1) := by decide +kernel
theorem dX11_run_45 : decode cX11_run 45 = .ok (.iconst 1, 1) := by decide +kernel
theorem dX11_run_46 : decode cX11_run 46 = .ok (.iload 6, 2) := by decide +kernel
theorem dX11_run_48 : decode cX11_run 48 = .ok (.invokevirtual 159, 3) := by decide +kernel
theorem dX11_run_51 : decode cX11_run 51 = .ok (.istore 7, 2) := by decide +kernel
theorem dX11_run_53 : decode cX11_run 53 = .ok (.iload 7, 2) := by decide +kernel
theorem dX11_run_55 : decode cX11_run 55 = .ok (.ifCond .eq 6, 3) := by decide +kernel
theorem dX11_run_58 : decode cX11_run 58 = .ok (.iload 7, 2) := by decide +kernel
theorem dX11_run_60 : decode cX11_run 60 = .ok (.ireturn, 1) := by decide +kernel
theorem dX11_run_61 : decode cX11_run 61 = .ok (.aload_n 0, 1) := by decide +kernel
theorem dX11_run_62 : decode cX11_run 62 = .ok (.iload_n 1, 1) := by decide +kernel
theorem dX11_run_63 : decode cX11_run 63 = .ok (.invokevirtual 146, 3) := by decide +kernel
theorem dX11_run_66 : decode cX11_run 66 = .ok (.astore 8, 2) := by decide +kernel
theorem dX11_run_68 : decode cX11_run 68 = .ok (.aload 8, 2) := by decide +kernel
theorem dX11_run_70 : decode cX11_run 70 = .ok (.ifnonnull 6, 3) := by decide +kernel
theorem dX11_run_73 : decode cX11_run 73 = .ok (.bipush (-101), 2) := by decide +kernel
theorem dX11_run_75 : decode cX11_run 75 = .ok (.ireturn, 1) := by decide +kernel
theorem dX11_run_76 : decode cX11_run 76 = .ok (.aload_n 0, 1) := by decide +kernel
theorem dX11_run_77 : decode cX11_run 77 = .ok (.iload_n 1, 1) := by decide +kernel
theorem dX11_run_78 : decode cX11_run 78 = .ok (.iload_n 2, 1) := by decide +kernel
theorem dX11_run_79 : decode cX11_run 79 = .ok (.invokevirtual 195, 3) := by decide +kernel
theorem dX11_run_82 : decode cX11_run 82 = .ok (.aload_n 0, 1) := by decide +kernel
theorem dX11_run_83 : decode cX11_run 83 = .ok (.getfield 54, 3) := by decide +kernel
theorem dX11_run_86 : decode cX11_run 86 = .ok (.iload_n 3, 1) := by decide +kernel
theorem dX11_run_87 : decode cX11_run 87 = .ok (.i2l, 1) := by decide +kernel
theorem dX11_run_88 : decode cX11_run 88 = .ok (.putfield 284, 3) := by decide +kernel
theorem dX11_run_91 : decode cX11_run 91 = .ok (.iconst 0, 1) := by decide +kernel
theorem dX11_run_92 : decode cX11_run 92 = .ok (.istore 9, 2) := by decide +kernel
theorem dX11_run_94 : decode cX11_run 94 = .ok (.iconst 0, 1) := by decide +kernel
theorem dX11_run_95 : decode cX11_run 95 = .ok (.istore 10, 2) := by decide +kernel
theorem dX11_run_97 : decode cX11_run 97 = .ok (.iconst 0, 1) := by decide +kernel
theorem dX11_run_98 : decode cX11_run 98 = .ok (.istore 11, 2) := by decide +kernel
theorem dX11_run_100 : decode cX11_run 100 = .ok (.iload 11, 2) := by decide +kernel
theorem dX11_run_102 : decode cX11_run 102 = .ok (.iload 4, 2) := by decide +kernel
theorem dX11_run_104 : decode cX11_run 104 = .ok (.if_icmp .ge 91, 3) := by decide +kernel
theorem dX11_run_107 : decode cX11_run 107 = .ok (.aload_n 0, 1) := by decide +kernel
theorem dX11_run_108 : decode cX11_run 108 = .ok (.getfield 19, 3) := by decide +kernel
theorem dX11_run_111 : decode cX11_run 111 = .ok (.aload_n 0, 1) := by decide +kernel
theorem dX11_run_112 : decode cX11_run 112 = .ok (.getfield 54, 3) := by decide +kernel
theorem dX11_run_115 : decode cX11_run 115 = .ok (.aload_n 0, 1) := by decide +kernel
theorem dX11_run_116 : decode cX11_run 116 = .ok (.getfield 19, 3) := by decide +kernel
theorem dX11_run_119 : decode cX11_run 119 = .ok (.getfield 281, 3) := by decide +kernel
theorem dX11_run_122 : decode cX11_run 122 = .ok (.invokevirtual 287, 3) := by decide +kernel
theorem dX11_run_125 : decode cX11_run 125 = .ok (.invokevirtual 290, 3) := by decide +kernel
theorem dX11_run_128 : decode cX11_run 128 = .ok (.istore 12, 2) := by decide +kernel
theorem dX11_run_130 : decode cX11_run 130 = .ok (.aload 8, 2) := by decide +kernel
theorem dX11_run_132 : decode cX11_run 132 = .ok (.iload 12, 2) := by decide +kernel
theorem dX11_run_134 : decode cX11_run 134 = .ok (.aload_n 0, 1) := by decide +kernel
theorem dX11_run_135 : decode cX11_run 135 = .ok (.getfield 19, 3) := by decide +kernel
theorem dX11_run_138 : decode cX11_run 138 = .ok (.getfield 96, 3) := by decide +kernel
theorem dX11_run_141 : decode cX11_run 141 = .ok (.aload_n 0, 1) := by decide +kernel
theorem dX11_run_142 : decode cX11_run 142 = .ok (.getfield 54, 3) := by decide +kernel
theorem dX11_run_145 : decode cX11_run 145 = .ok (.invokevirtual 293, 3) := by decide +kernel
theorem dX11_run_148 : decode cX11_run 148 = .ok (.istore 13, 2) := by decide +kernel
theorem dX11_run_150 : decode cX11_run 150 = .ok (.aload_n 0, 1) := by decide +kernel
theorem dX11_run_151 : decode cX11_run 151 = .ok (.getfield 50, 3) := by decide +kernel
theorem dX11_run_154 : decode cX11_run 154 = .ok (.aload_n 0, 1) := by decide +kernel
theorem dX11_run_155 : decode cX11_run 155 = .ok (.iload_n 1, 1) := by decide +kernel
theorem dX11_run_156 : decode cX11_run 156 = .ok (.iload_n 2, 1) := by decide +kernel
theorem dX11_run_157 : decode cX11_run 157 = .ok (.iload 13, 2) := by decide +kernel
theorem dX11_run_159 : decode cX11_run 159 = .ok (.invokevirtual 199, 3) := by decide +kernel
theorem dX11_run_162 : decode cX11_run 162 = .ok (.invokevirtual 297, 3) := by decide +kernel
theorem dX11_run_165 : decode cX11_run 165 = .ok (.istore 14, 2) := by decide +kernel
theorem dX11_run_167 : decode cX11_run 167 = .ok (.iload 9, 2) := by decide +kernel
theorem dX11_run_169 : decode cX11_run 169 = .ok (.iload 14, 2) := by decide +kernel
theorem dX11_run_171 : decode cX11_run 171 = .ok (.iadd, 1) := by decide +kernel
theorem dX11_run_172 : decode cX11_run 172 = .ok (.istore 9, 2) := by decide +kernel
theorem dX11_run_174 : decode cX11_run 174 = .ok (.iload 10, 2) := by decide +kernel
theorem dX11_run_176 : decode cX11_run 176 = .ok (.iload 14, 2) := by decide +kernel
theorem dX11_run_178 : decode cX11_run 178 = .ok (.ifCond .ne 7, 3) := by decide +kernel
theorem dX11_run_181 : decode cX11_run 181 = .ok (.iconst 1, 1) := by decide +kernel
theorem dX11_run_182 : decode cX11_run 182 = .ok (.goto 4, 3) := by decide +kernel
theorem dX11_run_185 : decode cX11_run 185 = .ok (.iconst 0, 1) := by decide +kernel
theorem dX11_run_186 : decode cX11_run 186 = .ok (.iadd, 1) := by decide +kernel
theorem dX11_run_187 : decode cX11_run 187 = .ok (.istore 10, 2) := by decide +kernel
theorem dX11_run_189 : decode cX11_run 189 = .ok (.iinc 11 1, 3) := by decide +kernel
theorem dX11_run_192 : decode cX11_run 192 = .ok (.goto (-92), 3) := by decide +kernel
theorem dX11_run_195 : decode cX11_run 195 = .ok (.iload 5, 2) := by decide +kernel
theorem dX11_run_197 : decode cX11_run 197 = .ok (.ifCond .ne 14, 3) := by decide +kernel
theorem dX11_run_200 : decode cX11_run 200 = .ok (.aload_n 0, 1) := by decide +kernel
theorem dX11_run_201 : decode cX11_run 201 = .ok (.getfield 54, 3) := by decide +kernel
theorem dX11_run_204 : decode cX11_run 204 = .ok (.getfield 284, 3) := by decide +kernel
theorem dX11_run_207 : decode cX11_run 207 = .ok (.l2i, 1) := by decide +kernel
theorem dX11_run_208 : decode cX11_run 208 = .ok (.goto 16, 3) := by decide +kernel
theorem dX11_run_211 : decode cX11_run 211 = .ok (.iload 5, 2) := by decide +kernel
theorem dX11_run_213 : decode cX11_run 213 = .ok (.iconst 1, 1) := by decide +kernel
theorem dX11_run_214 : decode cX11_run 214 = .ok (.if_icmp .ne 8, 3) := by decide +kernel
theorem dX11_run_217 : decode cX11_run 217 = .ok (.iload 9, 2) := by decide +kernel
theorem dX11_run_219 : decode cX11_run 219 = .ok (.goto 5, 3) := by decide +kernel
theorem dX11_run_222 : decode cX11_run 222 = .ok (.iload 10, 2) := by decide +kernel
theorem dX11_run_224 : decode cX11_run 224 = .ok (.ireturn, 1) := by decide +kernel
theorem dX11_count_0 : decode cX11_count 0 = .ok (.iload_n 1, 1) := by decide +kernel
theorem dX11_count_1 : decode cX11_count 1 = .ok (.tableswitch 80 0 4 #[35, 54, 62, 67, 75], 35) := by decide +kernel
theorem dX11_count_36 : decode cX11_count 36 = .ok (.aload_n 0, 1) := by decide +kernel
theorem dX11_count_37 : decode cX11_count 37 = .ok (.getfield 89, 3) := by decide +kernel
theorem dX11_count_40 : decode cX11_count 40 = .ok (.ifCond .eq 13, 3) := by decide +kernel
theorem dX11_count_43 : decode cX11_count 43 = .ok (.aload_n 0, 1) := by decide +kernel
theorem dX11_count_44 : decode cX11_count 44 = .ok (.getfield 19, 3) := by decide +kernel
theorem dX11_count_47 : decode cX11_count 47 = .ok (.getfield 96, 3) := by decide +kernel
theorem dX11_count_50 : decode cX11_count 50 = .ok (.goto 4, 3) := by decide +kernel
theorem dX11_count_53 : decode cX11_count 53 = .ok (.iconst 0, 1) := by decide +kernel
theorem dX11_count_54 : decode cX11_count 54 = .ok (.ireturn, 1) := by decide +kernel
theorem dX11_count_55 : decode cX11_count 55 = .ok (.aload_n 0, 1) := by decide +kernel
theorem dX11_count_56 : decode cX11_count 56 = .ok (.getfield 50, 3) := by decide +kernel
theorem dX11_count_59 : decode cX11_count 59 = .ok (.getfield 243, 3) := by decide +kernel
theorem dX11_count_62 : decode cX11_count 62 = .ok (.ireturn, 1) := by decide +kernel
theorem dX11_count_63 : decode cX11_count 63 = .ok (.aload_n 0, 1) := by decide +kernel
theorem dX11_count_64 : decode cX11_count 64 = .ok (.getfield 139, 3) := by decide +kernel
theorem dX11_count_67 : decode cX11_count 67 = .ok (.ireturn, 1) := by decide +kernel
theorem dX11_count_68 : decode cX11_count 68 = .ok (.aload_n 0, 1) := by decide +kernel
theorem dX11_count_69 : decode cX11_count 69 = .ok (.getfield 10, 3) := by decide +kernel
theorem dX11_count_72 : decode cX11_count 72 = .ok (.getfield 78, 3) := by decide +kernel
theorem dX11_count_75 : decode cX11_count 75 = .ok (.ireturn, 1) := by decide +kernel
theorem dX11_count_76 : decode cX11_count 76 = .ok (.aload_n 0, 1) := by decide +kernel
theorem dX11_count_77 : decode cX11_count 77 = .ok (.getfield 224, 3) := by decide +kernel
theorem dX11_count_80 : decode cX11_count 80 = .ok (.ireturn, 1) := by decide +kernel
theorem dX11_count_81 : decode cX11_count 81 = .ok (.bipush (-102), 2) := by decide +kernel
theorem dX11_count_83 : decode cX11_count 83 = .ok (.ireturn, 1) := by decide +kernel
theorem dX11_digest_0 : decode cX11_digest 0 = .ok (.ldc2_w 300, 3) := by decide +kernel
theorem dX11_digest_3 : decode cX11_digest 3 = .ok (.lstore_n 1, 1) := by decide +kernel
theorem dX11_digest_4 : decode cX11_digest 4 = .ok (.aload_n 0, 1) := by decide +kernel
theorem dX11_digest_5 : decode cX11_digest 5 = .ok (.getfield 89, 3) := by decide +kernel
theorem dX11_digest_8 : decode cX11_digest 8 = .ok (.ifCond .eq 12, 3) := by decide +kernel
theorem dX11_digest_11 : decode cX11_digest 11 = .ok (.aload_n 0, 1) := by decide +kernel
theorem dX11_digest_12 : decode cX11_digest 12 = .ok (.getfield 19, 3) := by decide +kernel
theorem dX11_digest_15 : decode cX11_digest 15 = .ok (.lload_n 1, 1) := by decide +kernel
theorem dX11_digest_16 : decode cX11_digest 16 = .ok (.invokevirtual 302, 3) := by decide +kernel
theorem dX11_digest_19 : decode cX11_digest 19 = .ok (.lstore_n 1, 1) := by decide +kernel
theorem dX11_digest_20 : decode cX11_digest 20 = .ok (.aload_n 0, 1) := by decide +kernel
theorem dX11_digest_21 : decode cX11_digest 21 = .ok (.getfield 50, 3) := by decide +kernel
theorem dX11_digest_24 : decode cX11_digest 24 = .ok (.lload_n 1, 1) := by decide +kernel
theorem dX11_digest_25 : decode cX11_digest 25 = .ok (.invokevirtual 306, 3) := by decide +kernel
theorem dX11_digest_28 : decode cX11_digest 28 = .ok (.lstore_n 1, 1) := by decide +kernel
theorem dX11_digest_29 : decode cX11_digest 29 = .ok (.iconst 0, 1) := by decide +kernel
theorem dX11_digest_30 : decode cX11_digest 30 = .ok (.istore_n 3, 1) := by decide +kernel
theorem dX11_digest_31 : decode cX11_digest 31 = .ok (.iload_n 3, 1) := by decide +kernel
theorem dX11_digest_32 : decode cX11_digest 32 = .ok (.aload_n 0, 1) := by decide +kernel
theorem dX11_digest_33 : decode cX11_digest 33 = .ok (.getfield 139, 3) := by decide +kernel
theorem dX11_digest_36 : decode cX11_digest 36 = .ok (.if_icmp .ge 16, 3) := by decide +kernel
theorem dX11_digest_39 : decode cX11_digest 39 = .ok (.aload_n 0, 1) := by decide +kernel
theorem dX11_digest_40 : decode cX11_digest 40 = .ok (.lload_n 1, 1) := by decide +kernel
theorem dX11_digest_41 : decode cX11_digest 41 = .ok (.iload_n 3, 1) := by decide +kernel
theorem dX11_digest_42 : decode cX11_digest 42 = .ok (.invokevirtual 307, 3) := by decide +kernel
theorem dX11_digest_45 : decode cX11_digest 45 = .ok (.lstore_n 1, 1) := by decide +kernel
theorem dX11_digest_46 : decode cX11_digest 46 = .ok (.iinc 3 1, 3) := by decide +kernel
theorem dX11_digest_49 : decode cX11_digest 49 = .ok (.goto (-18), 3) := by decide +kernel
theorem dX11_digest_52 : decode cX11_digest 52 = .ok (.aload_n 0, 1) := by decide +kernel
theorem dX11_digest_53 : decode cX11_digest 53 = .ok (.getfield 89, 3) := by decide +kernel
theorem dX11_digest_56 : decode cX11_digest 56 = .ok (.ifCond .eq 21, 3) := by decide +kernel
theorem dX11_digest_59 : decode cX11_digest 59 = .ok (.lload_n 1, 1) := by decide +kernel
theorem dX11_digest_60 : decode cX11_digest 60 = .ok (.aload_n 0, 1) := by decide +kernel
theorem dX11_digest_61 : decode cX11_digest 61 = .ok (.iconst 0, 1) := by decide +kernel
theorem dX11_digest_62 : decode cX11_digest 62 = .ok (.invokevirtual 311, 3) := by decide +kernel
theorem dX11_digest_65 : decode cX11_digest 65 = .ok (.invokestatic 314, 3) := by decide +kernel
theorem dX11_digest_68 : decode cX11_digest 68 = .ok (.aload_n 0, 1) := by decide +kernel
theorem dX11_digest_69 : decode cX11_digest 69 = .ok (.iconst 1, 1) := by decide +kernel
theorem dX11_digest_70 : decode cX11_digest 70 = .ok (.invokevirtual 311, 3) := by decide +kernel
theorem dX11_digest_73 : decode cX11_digest 73 = .ok (.invokestatic 314, 3) := by decide +kernel
theorem dX11_digest_76 : decode cX11_digest 76 = .ok (.lstore_n 1, 1) := by decide +kernel
theorem dX11_digest_77 : decode cX11_digest 77 = .ok (.aload_n 0, 1) := by decide +kernel
theorem dX11_digest_78 : decode cX11_digest 78 = .ok (.getfield 10, 3) := by decide +kernel
theorem dX11_digest_81 : decode cX11_digest 81 = .ok (.lload_n 1, 1) := by decide +kernel
theorem dX11_digest_82 : decode cX11_digest 82 = .ok (.invokevirtual 318, 3) := by decide +kernel
theorem dX11_digest_85 : decode cX11_digest 85 = .ok (.lstore_n 1, 1) := by decide +kernel
theorem dX11_digest_86 : decode cX11_digest 86 = .ok (.iconst 0, 1) := by decide +kernel
theorem dX11_digest_87 : decode cX11_digest 87 = .ok (.istore_n 3, 1) := by decide +kernel
theorem dX11_digest_88 : decode cX11_digest 88 = .ok (.iload_n 3, 1) := by decide +kernel
theorem dX11_digest_89 : decode cX11_digest 89 = .ok (.iconst 5, 1) := by decide +kernel
theorem dX11_digest_90 : decode cX11_digest 90 = .ok (.if_icmp .ge 20, 3) := by decide +kernel
theorem dX11_digest_93 : decode cX11_digest 93 = .ok (.lload_n 1, 1) := by decide +kernel
theorem dX11_digest_94 : decode cX11_digest 94 = .ok (.aload_n 0, 1) := by decide +kernel
theorem dX11_digest_95 : decode cX11_digest 95 = .ok (.iload_n 3, 1) := by decide +kernel
theorem dX11_digest_96 : decode cX11_digest 96 = .ok (.invokevirtual 319, 3) := by decide +kernel
theorem dX11_digest_99 : decode cX11_digest 99 = .ok (.i2l, 1) := by decide +kernel
theorem dX11_digest_100 : decode cX11_digest 100 = .ok (.invokestatic 314, 3) := by decide +kernel
theorem dX11_digest_103 : decode cX11_digest 103 = .ok (.lstore_n 1, 1) := by decide +kernel
theorem dX11_digest_104 : decode cX11_digest 104 = .ok (.iinc 3 1, 3) := by decide +kernel
theorem dX11_digest_107 : decode cX11_digest 107 = .ok (.goto (-19), 3) := by decide +kernel
theorem dX11_digest_110 : decode cX11_digest 110 = .ok (.lload_n 1, 1) := by decide +kernel
theorem dX11_digest_111 : decode cX11_digest 111 = .ok (.lreturn, 1) := by decide +kernel
theorem dX11_newsMixedInto_0 : decode cX11_newsMixedInto 0 = .ok (.aload_n 0, 1) := by decide +kernel
theorem dX11_newsMixedInto_1 : decode cX11_newsMixedInto 1 = .ok (.iload_n 3, 1) := by decide +kernel
theorem dX11_newsMixedInto_2 : decode cX11_newsMixedInto 2 = .ok (.invokevirtual 146, 3) := by decide +kernel
theorem dX11_newsMixedInto_5 : decode cX11_newsMixedInto 5 = .ok (.astore 4, 2) := by decide +kernel
theorem dX11_newsMixedInto_7 : decode cX11_newsMixedInto 7 = .ok (.aload 4, 2) := by decide +kernel
theorem dX11_newsMixedInto_9 : decode cX11_newsMixedInto 9 = .ok (.ifnonnull 5, 3) := by decide +kernel
theorem dX11_newsMixedInto_12 : decode cX11_newsMixedInto 12 = .ok (.lload_n 1, 1) := by decide +kernel
theorem dX11_newsMixedInto_13 : decode cX11_newsMixedInto 13 = .ok (.lreturn, 1) := by decide +kernel
theorem dX11_newsMixedInto_14 : decode cX11_newsMixedInto 14 = .ok (.lload_n 1, 1) := by decide +kernel
theorem dX11_newsMixedInto_15 : decode cX11_newsMixedInto 15 = .ok (.aload 4, 2) := by decide +kernel
theorem dX11_newsMixedInto_17 : decode cX11_newsMixedInto 17 = .ok (.getfield 321, 3) := by decide +kernel
theorem dX11_newsMixedInto_20 : decode cX11_newsMixedInto 20 = .ok (.i2l, 1) := by decide +kernel
theorem dX11_newsMixedInto_21 : decode cX11_newsMixedInto 21 = .ok (.invokestatic 314, 3) := by decide +kernel
theorem dX11_newsMixedInto_24 : decode cX11_newsMixedInto 24 = .ok (.aload 4, 2) := by decide +kernel
theorem dX11_newsMixedInto_26 : decode cX11_newsMixedInto 26 = .ok (.getfield 324, 3) := by decide +kernel
theorem dX11_newsMixedInto_29 : decode cX11_newsMixedInto 29 = .ok (.i2l, 1) := by decide +kernel
theorem dX11_newsMixedInto_30 : decode cX11_newsMixedInto 30 = .ok (.invokestatic 314, 3) := by decide +kernel
theorem dX11_newsMixedInto_33 : decode cX11_newsMixedInto 33 = .ok (.lstore 5, 2) := by decide +kernel
theorem dX11_newsMixedInto_35 : decode cX11_newsMixedInto 35 = .ok (.aload_n 0, 1) := by decide +kernel
theorem dX11_newsMixedInto_36 : decode cX11_newsMixedInto 36 = .ok (.getfield 89, 3) := by decide +kernel
theorem dX11_newsMixedInto_39 : decode cX11_newsMixedInto 39 = .ok (.ifCond .ne 6, 3) := by decide +kernel
theorem dX11_newsMixedInto_42 : decode cX11_newsMixedInto 42 = .ok (.lload 5, 2) := by decide +kernel
theorem dX11_newsMixedInto_44 : decode cX11_newsMixedInto 44 = .ok (.lreturn, 1) := by decide +kernel
theorem dX11_newsMixedInto_45 : decode cX11_newsMixedInto 45 = .ok (.aload_n 0, 1) := by decide +kernel
theorem dX11_newsMixedInto_46 : decode cX11_newsMixedInto 46 = .ok (.iload_n 3, 1) := by decide +kernel
theorem dX11_newsMixedInto_47 : decode cX11_newsMixedInto 47 = .ok (.aload_n 0, 1) := by decide +kernel
theorem dX11_newsMixedInto_48 : decode cX11_newsMixedInto 48 = .ok (.getfield 50, 3) := by decide +kernel
theorem dX11_newsMixedInto_51 : decode cX11_newsMixedInto 51 = .ok (.invokevirtual 253, 3) := by decide +kernel
theorem dX11_newsMixedInto_54 : decode cX11_newsMixedInto 54 = .ok (.invokevirtual 195, 3) := by decide +kernel
theorem dX11_newsMixedInto_57 : decode cX11_newsMixedInto 57 = .ok (.iconst 0, 1) := by decide +kernel
theorem dX11_newsMixedInto_58 : decode cX11_newsMixedInto 58 = .ok (.istore 7, 2) := by decide +kernel
theorem dX11_newsMixedInto_60 : decode cX11_newsMixedInto 60 = .ok (.iload 7, 2) := by decide +kernel
theorem dX11_newsMixedInto_62 : decode cX11_newsMixedInto 62 = .ok (.iconst 4, 1) := by decide +kernel
theorem dX11_newsMixedInto_63 : decode cX11_newsMixedInto 63 = .ok (.if_icmp .ge 31, 3) := by decide +kernel
theorem dX11_newsMixedInto_66 : decode cX11_newsMixedInto 66 = .ok (.lload 5, 2) := by decide +kernel
theorem dX11_newsMixedInto_68 : decode cX11_newsMixedInto 68 = .ok (.aload_n 0, 1) := by decide +kernel
theorem dX11_newsMixedInto_69 : decode cX11_newsMixedInto 69 = .ok (.iload_n 3, 1) := by decide +kernel
theorem dX11_newsMixedInto_70 : decode cX11_newsMixedInto 70 = .ok (.aload_n 0, 1) := by decide +kernel
theorem dX11_newsMixedInto_71 : decode cX11_newsMixedInto 71 = .ok (.getfield 50, 3) := by decide +kernel
theorem dX11_newsMixedInto_74 : decode cX11_newsMixedInto 74 = .ok (.invokevirtual 253, 3) := by decide +kernel
theorem dX11_newsMixedInto_77 : decode cX11_newsMixedInto 77 = .ok (.iload 7, 2) := by decide +kernel
theorem dX11_newsMixedInto_79 : decode cX11_newsMixedInto 79 = .ok (.invokevirtual 199, 3) := by decide +kernel
theorem dX11_newsMixedInto_82 : decode cX11_newsMixedInto 82 = .ok (.i2l, 1) := by decide +kernel
theorem dX11_newsMixedInto_83 : decode cX11_newsMixedInto 83 = .ok (.invokestatic 314, 3) := by decide +kernel
theorem dX11_newsMixedInto_86 : decode cX11_newsMixedInto 86 = .ok (.lstore 5, 2) := by decide +kernel
theorem dX11_newsMixedInto_88 : decode cX11_newsMixedInto 88 = .ok (.iinc 7 1, 3) := by decide +kernel
theorem dX11_newsMixedInto_91 : decode cX11_newsMixedInto 91 = .ok (.goto (-31), 3) := by decide +kernel
theorem dX11_newsMixedInto_94 : decode cX11_newsMixedInto 94 = .ok (.lload 5, 2) := by decide +kernel
theorem dX11_newsMixedInto_96 : decode cX11_newsMixedInto 96 = .ok (.lreturn, 1) := by decide +kernel
theorem dX11_mixed_0 : decode cX11_mixed 0 = .ok (.ldc2_w 327, 3) := by decide +kernel
theorem dX11_mixed_3 : decode cX11_mixed 3 = .ok (.lload_n 0, 1) := by decide +kernel
theorem dX11_mixed_4 : decode cX11_mixed 4 = .ok (.lmul, 1) := by decide +kernel
theorem dX11_mixed_5 : decode cX11_mixed 5 = .ok (.lload_n 2, 1) := by decide +kernel
theorem dX11_mixed_6 : decode cX11_mixed 6 = .ok (.ladd, 1) := by decide +kernel
theorem dX11_mixed_7 : decode cX11_mixed 7 = .ok (.lreturn, 1) := by decide +kernel
theorem dX11_refusal_0 : decode cX11_refusal 0 = .ok (.aload_n 0, 1) := by decide +kernel
theorem dX11_refusal_1 : decode cX11_refusal 1 = .ok (.iload_n 1, 1) := by decide +kernel
theorem dX11_refusal_2 : decode cX11_refusal 2 = .ok (.invokevirtual 146, 3) := by decide +kernel
theorem dX11_refusal_5 : decode cX11_refusal 5 = .ok (.ifnonnull 6, 3) := by decide +kernel
theorem dX11_refusal_8 : decode cX11_refusal 8 = .ok (.bipush (-101), 2) := by decide +kernel
theorem dX11_refusal_10 : decode cX11_refusal 10 = .ok (.ireturn, 1) := by decide +kernel
theorem dX11_refusal_11 : decode cX11_refusal 11 = .ok (.aload_n 0, 1) := by decide +kernel
theorem dX11_refusal_12 : decode cX11_refusal 12 = .ok (.getfield 89, 3) := by decide +kernel
theorem dX11_refusal_15 : decode cX11_refusal 15 = .ok (.ifCond .ne 6, 3) := by decide +kernel
theorem dX11_refusal_18 : decode cX11_refusal 18 = .ok (.bipush (-103), 2) := by decide +kernel
theorem dX11_refusal_20 : decode cX11_refusal 20 = .ok (.ireturn, 1) := by decide +kernel
theorem dX11_refusal_21 : decode cX11_refusal 21 = .ok (.iload_n 2, 1) := by decide +kernel
theorem dX11_refusal_22 : decode cX11_refusal 22 = .ok (.ifCond .ne 6, 3) := by decide +kernel
theorem dX11_refusal_25 : decode cX11_refusal 25 = .ok (.bipush (-101), 2) := by decide +kernel
theorem dX11_refusal_27 : decode cX11_refusal 27 = .ok (.ireturn, 1) := by decide +kernel
theorem dX11_refusal_28 : decode cX11_refusal 28 = .ok (.iload_n 3, 1) := by decide +kernel
theorem dX11_refusal_29 : decode cX11_refusal 29 = .ok (.ifCond .eq 7, 3) := by decide +kernel
theorem dX11_refusal_32 : decode cX11_refusal 32 = .ok (.iconst 0, 1) := by decide +kernel
theorem dX11_refusal_33 : decode cX11_refusal 33 = .ok (.goto 5, 3) := by decide +kernel
theorem dX11_refusal_36 : decode cX11_refusal 36 = .ok (.bipush (-102), 2) := by decide +kernel
theorem dX11_refusal_38 : decode cX11_refusal 38 = .ok (.ireturn, 1) := by decide +kernel
theorem dX11_refusedPart_0 : decode cX11_refusedPart 0 = .ok (.iload_n 0, 1) := by decide +kernel
theorem dX11_refusedPart_1 : decode cX11_refusedPart 1 = .ok (.bipush (-101), 2) := by decide +kernel
theorem dX11_refusedPart_3 : decode cX11_refusedPart 3 = .ok (.if_icmp .ne 7, 3) := by decide +kernel
theorem dX11_refusedPart_6 : decode cX11_refusedPart 6 = .ok (.ldc2_w 329, 3) := by decide +kernel
theorem dX11_refusedPart_9 : decode cX11_refusedPart 9 = .ok (.lreturn, 1) := by decide +kernel
theorem dX11_refusedPart_10 : decode cX11_refusedPart 10 = .ok (.iload_n 0, 1) := by decide +kernel
theorem dX11_refusedPart_11 : decode cX11_refusedPart 11 = .ok (.bipush (-103), 2) := by decide +kernel
theorem dX11_refusedPart_13 : decode cX11_refusedPart 13 = .ok (.if_icmp .ne 9, 3) := by decide +kernel
theorem dX11_refusedPart_16 : decode cX11_refusedPart 16 = .ok (.ldc2_w 271, 3) := by decide +kernel
theorem dX11_refusedPart_19 : decode cX11_refusedPart 19 = .ok (.goto 6, 3) := by decide +kernel
theorem dX11_refusedPart_22 : decode cX11_refusedPart 22 = .ok (.ldc2_w 273, 3) := by decide +kernel
theorem dX11_refusedPart_25 : decode cX11_refusedPart 25 = .ok (.lreturn, 1) := by decide +kernel
theorem dX11_newsAt_0 : decode cX11_newsAt 0 = .ok (.iload_n 1, 1) := by decide +kernel
theorem dX11_newsAt_1 : decode cX11_newsAt 1 = .ok (.ifCond .lt 29, 3) := by decide +kernel
theorem dX11_newsAt_4 : decode cX11_newsAt 4 = .ok (.iload_n 1, 1) := by decide +kernel
theorem dX11_newsAt_5 : decode cX11_newsAt 5 = .ok (.aload_n 0, 1) := by decide +kernel
theorem dX11_newsAt_6 : decode cX11_newsAt 6 = .ok (.getfield 139, 3) := by decide +kernel
theorem dX11_newsAt_9 : decode cX11_newsAt 9 = .ok (.if_icmp .ge 21, 3) := by decide +kernel
theorem dX11_newsAt_12 : decode cX11_newsAt 12 = .ok (.iload_n 1, 1) := by decide +kernel
theorem dX11_newsAt_13 : decode cX11_newsAt 13 = .ok (.aload_n 0, 1) := by decide +kernel
theorem dX11_newsAt_14 : decode cX11_newsAt 14 = .ok (.getfield 28, 3) := by decide +kernel
theorem dX11_newsAt_17 : decode cX11_newsAt 17 = .ok (.arraylength, 1) := by decide +kernel
theorem dX11_newsAt_18 : decode cX11_newsAt 18 = .ok (.if_icmp .ge 12, 3) := by decide +kernel
theorem dX11_newsAt_21 : decode cX11_newsAt 21 = .ok (.aload_n 0, 1) := by decide +kernel
theorem dX11_newsAt_22 : decode cX11_newsAt 22 = .ok (.getfield 28, 3) := by decide +kernel
theorem dX11_newsAt_25 : decode cX11_newsAt 25 = .ok (.iload_n 1, 1) := by decide +kernel
theorem dX11_newsAt_26 : decode cX11_newsAt 26 = .ok (.aaload, 1) := by decide +kernel
theorem dX11_newsAt_27 : decode cX11_newsAt 27 = .ok (.goto 4, 3) := by decide +kernel
theorem dX11_newsAt_30 : decode cX11_newsAt 30 = .ok (.aconst_null, 1) := by decide +kernel
theorem dX11_newsAt_31 : decode cX11_newsAt 31 = .ok (.areturn, 1) := by decide +kernel
theorem dX11_isCase_0 : decode cX11_isCase 0 = .ok (.iload_n 1, 1) := by decide +kernel
theorem dX11_isCase_1 : decode cX11_isCase 1 = .ok (.ifCond .lt 18, 3) := by decide +kernel
theorem dX11_isCase_4 : decode cX11_isCase 4 = .ok (.iload_n 1, 1) := by decide +kernel
theorem dX11_isCase_5 : decode cX11_isCase 5 = .ok (.aload_n 0, 1) := by decide +kernel
theorem dX11_isCase_6 : decode cX11_isCase 6 = .ok (.getfield 19, 3) := by decide +kernel
theorem dX11_isCase_9 : decode cX11_isCase 9 = .ok (.getfield 96, 3) := by decide +kernel
theorem dX11_isCase_12 : decode cX11_isCase 12 = .ok (.if_icmp .ge 7, 3) := by decide +kernel
theorem dX11_isCase_15 : decode cX11_isCase 15 = .ok (.iconst 1, 1) := by decide +kernel
theorem dX11_isCase_16 : decode cX11_isCase 16 = .ok (.goto 4, 3) := by decide +kernel
theorem dX11_isCase_19 : decode cX11_isCase 19 = .ok (.iconst 0, 1) := by decide +kernel
theorem dX11_isCase_20 : decode cX11_isCase 20 = .ok (.ireturn, 1) := by decide +kernel
theorem dX11_isSet_0 : decode cX11_isSet 0 = .ok (.iload_n 1, 1) := by decide +kernel
theorem dX11_isSet_1 : decode cX11_isSet 1 = .ok (.ifCond .lt 18, 3) := by decide +kernel
theorem dX11_isSet_4 : decode cX11_isSet 4 = .ok (.iload_n 1, 1) := by decide +kernel
theorem dX11_isSet_5 : decode cX11_isSet 5 = .ok (.aload_n 0, 1) := by decide +kernel
theorem dX11_isSet_6 : decode cX11_isSet 6 = .ok (.getfield 50, 3) := by decide +kernel
theorem dX11_isSet_9 : decode cX11_isSet 9 = .ok (.invokevirtual 253, 3) := by decide +kernel
theorem dX11_isSet_12 : decode cX11_isSet 12 = .ok (.if_icmp .gt 7, 3) := by decide +kernel
theorem dX11_isSet_15 : decode cX11_isSet 15 = .ok (.iconst 1, 1) := by decide +kernel
theorem dX11_isSet_16 : decode cX11_isSet 16 = .ok (.goto 4, 3) := by decide +kernel
theorem dX11_isSet_19 : decode cX11_isSet 19 = .ok (.iconst 0, 1) := by decide +kernel
theorem dX11_isSet_20 : decode cX11_isSet 20 = .ok (.ireturn, 1) := by decide +kernel
theorem dX11_isSign_0 : decode cX11_isSign 0 = .ok (.iload_n 0, 1) := by decide +kernel
theorem dX11_isSign_1 : decode cX11_isSign 1 = .ok (.ifCond .lt 12, 3) := by decide +kernel
theorem dX11_isSign_4 : decode cX11_isSign 4 = .ok (.iload_n 0, 1) := by decide +kernel
theorem dX11_isSign_5 : decode cX11_isSign 5 = .ok (.iconst 4, 1) := by decide +kernel
theorem dX11_isSign_6 : decode cX11_isSign 6 = .ok (.if_icmp .ge 7, 3) := by decide +kernel
theorem dX11_isSign_9 : decode cX11_isSign 9 = .ok (.iconst 1, 1) := by decide +kernel
theorem dX11_isSign_10 : decode cX11_isSign 10 = .ok (.goto 4, 3) := by decide +kernel
theorem dX11_isSign_13 : decode cX11_isSign 13 = .ok (.iconst 0, 1) := by decide +kernel
theorem dX11_isSign_14 : decode cX11_isSign 14 = .ok (.ireturn, 1) := by decide +kernel
theorem dX11_isPart_0 : decode cX11_isPart 0 = .ok (.iload_n 0, 1) := by decide +kernel
theorem dX11_isPart_1 : decode cX11_isPart 1 = .ok (.ifCond .eq 8, 3) := by decide +kernel
theorem dX11_isPart_4 : decode cX11_isPart 4 = .ok (.iload_n 0, 1) := by decide +kernel
theorem dX11_isPart_5 : decode cX11_isPart 5 = .ok (.iconst 1, 1) := by decide +kernel
theorem dX11_isPart_6 : decode cX11_isPart 6 = .ok (.if_icmp .ne 7, 3) := by decide +kernel
theorem dX11_isPart_9 : decode cX11_isPart 9 = .ok (.iconst 1, 1) := by decide +kernel
theorem dX11_isPart_10 : decode cX11_isPart 10 = .ok (.goto 4, 3) := by decide +kernel
theorem dX11_isPart_13 : decode cX11_isPart 13 = .ok (.iconst 0, 1) := by decide +kernel
theorem dX11_isPart_14 : decode cX11_isPart 14 = .ok (.ireturn, 1) := by decide +kernel
theorem dX11_isHow_0 : decode cX11_isHow 0 = .ok (.iload_n 0, 1) := by decide +kernel
theorem dX11_isHow_1 : decode cX11_isHow 1 = .ok (.ifCond .eq 8, 3) := by decide +kernel
theorem dX11_isHow_4 : decode cX11_isHow 4 = .ok (.iload_n 0, 1) := by decide +kernel
theorem dX11_isHow_5 : decode cX11_isHow 5 = .ok (.iconst 1, 1) := by decide +kernel
theorem dX11_isHow_6 : decode cX11_isHow 6 = .ok (.if_icmp .ne 7, 3) := by decide +kernel
theorem dX11_isHow_9 : decode cX11_isHow 9 = .ok (.iconst 1, 1) := by decide +kernel
theorem dX11_isHow_10 : decode cX11_isHow 10 = .ok (.goto 4, 3) := by decide +kernel
theorem dX11_isHow_13 : decode cX11_isHow 13 = .ok (.iconst 0, 1) := by decide +kernel
theorem dX11_isHow_14 : decode cX11_isHow 14 = .ok (.ireturn, 1) := by decide +kernel
theorem dX11_isIn_0 : decode cX11_isIn 0 = .ok (.iload_n 0, 1) := by decide +kernel
theorem dX11_isIn_1 : decode cX11_isIn 1 = .ok (.iload_n 1, 1) := by decide +kernel
theorem dX11_isIn_2 : decode cX11_isIn 2 = .ok (.ishr, 1) := by decide +kernel
theorem dX11_isIn_3 : decode cX11_isIn 3 = .ok (.iconst 1, 1) := by decide +kernel
theorem dX11_isIn_4 : decode cX11_isIn 4 = .ok (.iand, 1) := by decide +kernel
theorem dX11_isIn_5 : decode cX11_isIn 5 = .ok (.iconst 1, 1) := by decide +kernel
theorem dX11_isIn_6 : decode cX11_isIn 6 = .ok (.if_icmp .ne 7, 3) := by decide +kernel
theorem dX11_isIn_9 : decode cX11_isIn 9 = .ok (.iconst 1, 1) := by decide +kernel
theorem dX11_isIn_10 : decode cX11_isIn 10 = .ok (.goto 4, 3) := by decide +kernel
theorem dX11_isIn_13 : decode cX11_isIn 13 = .ok (.iconst 0, 1) := by decide +kernel
theorem dX11_isIn_14 : decode cX11_isIn 14 = .ok (.ireturn, 1) := by decide +kernel
theorem dX11_bit_0 : decode cX11_bit 0 = .ok (.iconst 1, 1) := by decide +kernel
theorem dX11_bit_1 : decode cX11_bit 1 = .ok (.iload_n 0, 1) := by decide +kernel
theorem dX11_bit_2 : decode cX11_bit 2 = .ok (.ishl, 1) := by decide +kernel
theorem dX11_bit_3 : decode cX11_bit 3 = .ok (.ireturn, 1) := by decide +kernel
theorem dX11_partOf_0 : decode cX11_partOf 0 = .ok (.lload_n 0, 1) := by decide +kernel
theorem dX11_partOf_1 : decode cX11_partOf 1 = .ok (.invokestatic 331, 3) := by decide +kernel
theorem dX11_partOf_4 : decode cX11_partOf 4 = .ok (.lload_n 2, 1) := by decide +kernel
theorem dX11_partOf_5 : decode cX11_partOf 5 = .ok (.invokestatic 336, 3) := by decide +kernel
theorem dX11_partOf_8 : decode cX11_partOf 8 = .ok (.lstore 5, 2) := by decide +kernel
theorem dX11_partOf_10 : decode cX11_partOf 10 = .ok (.lload 5, 2) := by decide +kernel
theorem dX11_partOf_12 : decode cX11_partOf 12 = .ok (.lconst 1, 1) := by decide +kernel
theorem dX11_partOf_13 : decode cX11_partOf 13 = .ok (.lcmp, 1) := by decide +kernel
theorem dX11_partOf_14 : decode cX11_partOf 14 = .ok (.ifCond .ge 7, 3) := by decide +kernel
theorem dX11_partOf_17 : decode cX11_partOf 17 = .ok (.ldc2_w 187, 3) := by decide +kernel
theorem dX11_partOf_20 : decode cX11_partOf 20 = .ok (.lreturn, 1) := by decide +kernel
theorem dX11_partOf_21 : decode cX11_partOf 21 = .ok (.iload 4, 2) := by decide +kernel
theorem dX11_partOf_23 : decode cX11_partOf 23 = .ok (.ifCond .ne 7, 3) := by decide +kernel
theorem dX11_partOf_26 : decode cX11_partOf 26 = .ok (.lload_n 0, 1) := by decide +kernel
theorem dX11_partOf_27 : decode cX11_partOf 27 = .ok (.goto 4, 3) := by decide +kernel
theorem dX11_partOf_30 : decode cX11_partOf 30 = .ok (.lload_n 2, 1) := by decide +kernel
theorem dX11_partOf_31 : decode cX11_partOf 31 = .ok (.lload 5, 2) := by decide +kernel
theorem dX11_partOf_33 : decode cX11_partOf 33 = .ok (.ldiv, 1) := by decide +kernel
theorem dX11_partOf_34 : decode cX11_partOf 34 = .ok (.lreturn, 1) := by decide +kernel
theorem dX11_commonDivisor_0 : decode cX11_commonDivisor 0 = .ok (.lload_n 0, 1) := by decide +kernel
theorem dX11_commonDivisor_1 : decode cX11_commonDivisor 1 = .ok (.lstore 4, 2) := by decide +kernel
theorem dX11_commonDivisor_3 : decode cX11_commonDivisor 3 = .ok (.lload_n 2, 1) := by decide +kernel
theorem dX11_commonDivisor_4 : decode cX11_commonDivisor 4 = .ok (.lstore 6, 2) := by decide +kernel
theorem dX11_commonDivisor_6 : decode cX11_commonDivisor 6 = .ok (.iconst 0, 1) := by decide +kernel
theorem dX11_commonDivisor_7 : decode cX11_commonDivisor 7 = .ok (.istore 8, 2) := by decide +kernel
theorem dX11_commonDivisor_9 : decode cX11_commonDivisor 9 = .ok (.iload 8, 2) := by decide +kernel
theorem dX11_commonDivisor_11 : decode cX11_commonDivisor 11 = .ok (.sipush 200, 3) := by decide +kernel
theorem dX11_commonDivisor_14 : decode cX11_commonDivisor 14 = .ok (.if_icmp .ge 31, 3) := by decide +kernel
theorem dX11_commonDivisor_17 : decode cX11_commonDivisor 17 = .ok (.lload 6, 2) := by decide +kernel
theorem dX11_commonDivisor_19 : decode cX11_commonDivisor 19 = .ok (.lconst 0, 1) := by decide +kernel
theorem dX11_commonDivisor_20 : decode cX11_commonDivisor 20 = .ok (.lcmp, 1) := by decide +kernel
theorem dX11_commonDivisor_21 : decode cX11_commonDivisor 21 = .ok (.ifCond .eq 24, 3) := by decide +kernel
theorem dX11_commonDivisor_24 : decode cX11_commonDivisor 24 = .ok (.lload 4, 2) := by decide +kernel
theorem dX11_commonDivisor_26 : decode cX11_commonDivisor 26 = .ok (.lload 6, 2) := by decide +kernel
theorem dX11_commonDivisor_28 : decode cX11_commonDivisor 28 = .ok (.lrem, 1) := by decide +kernel
theorem dX11_commonDivisor_29 : decode cX11_commonDivisor 29 = .ok (.lstore 9, 2) := by decide +kernel
theorem dX11_commonDivisor_31 : decode cX11_commonDivisor 31 = .ok (.lload 6, 2) := by decide +kernel
theorem dX11_commonDivisor_33 : decode cX11_commonDivisor 33 = .ok (.lstore 4, 2) := by decide +kernel
theorem dX11_commonDivisor_35 : decode cX11_commonDivisor 35 = .ok (.lload 9, 2) := by decide +kernel
theorem dX11_commonDivisor_37 : decode cX11_commonDivisor 37 = .ok (.lstore 6, 2) := by decide +kernel
theorem dX11_commonDivisor_39 : decode cX11_commonDivisor 39 = .ok (.iinc 8 1, 3) := by decide +kernel
theorem dX11_commonDivisor_42 : decode cX11_commonDivisor 42 = .ok (.goto (-33), 3) := by decide +kernel
theorem dX11_commonDivisor_45 : decode cX11_commonDivisor 45 = .ok (.lload 4, 2) := by decide +kernel
theorem dX11_commonDivisor_47 : decode cX11_commonDivisor 47 = .ok (.lreturn, 1) := by decide +kernel
theorem dX11_unsettle_0 : decode cX11_unsettle 0 = .ok (.iconst 0, 1) := by decide +kernel
theorem dX11_unsettle_1 : decode cX11_unsettle 1 = .ok (.istore_n 1, 1) := by decide +kernel
theorem dX11_unsettle_2 : decode cX11_unsettle 2 = .ok (.iload_n 1, 1) := by decide +kernel
theorem dX11_unsettle_3 : decode cX11_unsettle 3 = .ok (.aload_n 0, 1) := by decide +kernel
theorem dX11_unsettle_4 : decode cX11_unsettle 4 = .ok (.getfield 58, 3) := by decide +kernel
theorem dX11_unsettle_7 : decode cX11_unsettle 7 = .ok (.arraylength, 1) := by decide +kernel
theorem dX11_unsettle_8 : decode cX11_unsettle 8 = .ok (.if_icmp .ge 16, 3) := by decide +kernel
theorem dX11_unsettle_11 : decode cX11_unsettle 11 = .ok (.aload_n 0, 1) := by decide +kernel
theorem dX11_unsettle_12 : decode cX11_unsettle 12 = .ok (.getfield 58, 3) := by decide +kernel
theorem dX11_unsettle_15 : decode cX11_unsettle 15 = .ok (.iload_n 1, 1) := by decide +kernel
theorem dX11_unsettle_16 : decode cX11_unsettle 16 = .ok (.iconst 0, 1) := by decide +kernel
theorem dX11_unsettle_17 : decode cX11_unsettle 17 = .ok (.bastore, 1) := by decide +kernel
theorem dX11_unsettle_18 : decode cX11_unsettle 18 = .ok (.iinc 1 1, 3) := by decide +kernel
theorem dX11_unsettle_21 : decode cX11_unsettle 21 = .ok (.goto (-19), 3) := by decide +kernel
theorem dX11_unsettle_24 : decode cX11_unsettle 24 = .ok (.return_, 1) := by decide +kernel
theorem dX11_settleAll_0 : decode cX11_settleAll 0 = .ok (.iconst 0, 1) := by decide +kernel
theorem dX11_settleAll_1 : decode cX11_settleAll 1 = .ok (.istore_n 2, 1) := by decide +kernel
theorem dX11_settleAll_2 : decode cX11_settleAll 2 = .ok (.iload_n 2, 1) := by decide +kernel
theorem dX11_settleAll_3 : decode cX11_settleAll 3 = .ok (.aload_n 0, 1) := by decide +kernel
theorem dX11_settleAll_4 : decode cX11_settleAll 4 = .ok (.getfield 50, 3) := by decide +kernel
theorem dX11_settleAll_7 : decode cX11_settleAll 7 = .ok (.invokevirtual 253, 3) := by decide +kernel
theorem dX11_settleAll_10 : decode cX11_settleAll 10 = .ok (.if_icmp .gt 21, 3) := by decide +kernel
theorem dX11_settleAll_13 : decode cX11_settleAll 13 = .ok (.iload_n 2, 1) := by decide +kernel
theorem dX11_settleAll_14 : decode cX11_settleAll 14 = .ok (.bipush 16, 2) := by decide +kernel
theorem dX11_settleAll_16 : decode cX11_settleAll 16 = .ok (.if_icmp .ge 15, 3) := by decide +kernel
theorem dX11_settleAll_19 : decode cX11_settleAll 19 = .ok (.aload_n 0, 1) := by decide +kernel
theorem dX11_settleAll_20 : decode cX11_settleAll 20 = .ok (.iload_n 1, 1) := by decide +kernel
theorem dX11_settleAll_21 : decode cX11_settleAll 21 = .ok (.iload_n 2, 1) := by decide +kernel
theorem dX11_settleAll_22 : decode cX11_settleAll 22 = .ok (.invokevirtual 195, 3) := by decide +kernel
theorem dX11_settleAll_25 : decode cX11_settleAll 25 = .ok (.iinc 2 1, 3) := by decide +kernel
theorem dX11_settleAll_28 : decode cX11_settleAll 28 = .ok (.goto (-26), 3) := by decide +kernel
theorem dX11_settleAll_31 : decode cX11_settleAll 31 = .ok (.return_, 1) := by decide +kernel
theorem dX11_settle_0 : decode cX11_settle 0 = .ok (.aload_n 0, 1) := by decide +kernel
theorem dX11_settle_1 : decode cX11_settle 1 = .ok (.iload_n 1, 1) := by decide +kernel
theorem dX11_settle_2 : decode cX11_settle 2 = .ok (.invokevirtual 146, 3) := by decide +kernel
theorem dX11_settle_5 : decode cX11_settle 5 = .ok (.astore_n 3, 1) := by decide +kernel
theorem dX11_settle_6 : decode cX11_settle 6 = .ok (.iload_n 1, 1) := by decide +kernel
theorem dX11_settle_7 : decode cX11_settle 7 = .ok (.bipush 16, 2) := by decide +kernel
theorem dX11_settle_9 : decode cX11_settle 9 = .ok (.imul, 1) := by decide +kernel
theorem dX11_settle_10 : decode cX11_settle 10 = .ok (.iload_n 2, 1) := by decide +kernel
theorem dX11_settle_11 : decode cX11_settle 11 = .ok (.iadd, 1) := by decide +kernel
theorem dX11_settle_12 : decode cX11_settle 12 = .ok (.istore 4, 2) := by decide +kernel
theorem dX11_settle_14 : decode cX11_settle 14 = .ok (.aload_n 3, 1) := by decide +kernel
theorem dX11_settle_15 : decode cX11_settle 15 = .ok (.ifnull 36, 3) := by decide +kernel
theorem dX11_settle_18 : decode cX11_settle 18 = .ok (.aload_n 0, 1) := by decide +kernel
theorem dX11_settle_19 : decode cX11_settle 19 = .ok (.iload_n 2, 1) := by decide +kernel
theorem dX11_settle_20 : decode cX11_settle 20 = .ok (.invokevirtual 192, 3) := by decide +kernel
theorem dX11_settle_23 : decode cX11_settle 23 = .ok (.ifCond .eq 28, 3) := by decide +kernel
theorem dX11_settle_26 : decode cX11_settle 26 = .ok (.iload 4, 2) := by decide +kernel
theorem dX11_settle_28 : decode cX11_settle 28 = .ok (.ifCond .lt 23, 3) := by decide +kernel
theorem dX11_settle_31 : decode cX11_settle 31 = .ok (.iload 4, 2) := by decide +kernel
theorem dX11_settle_33 : decode cX11_settle 33 = .ok (.aload_n 0, 1) := by decide +kernel
theorem dX11_settle_34 : decode cX11_settle 34 = .ok (.getfield 58, 3) := by decide +kernel
theorem dX11_settle_37 : decode cX11_settle 37 = .ok (.arraylength, 1) := by decide +kernel
theorem dX11_settle_38 : decode cX11_settle 38 = .ok (.if_icmp .ge 13, 3) := by decide +kernel
theorem dX11_settle_41 : decode cX11_settle 41 = .ok (.aload_n 0, 1) := by decide +kernel
theorem dX11_settle_42 : decode cX11_settle 42 = .ok (.getfield 58, 3) := by decide +kernel
theorem dX11_settle_45 : decode cX11_settle 45 = .ok (.iload 4, 2) := by decide +kernel
theorem dX11_settle_47 : decode cX11_settle 47 = .ok (.baload, 1) := by decide +kernel
theorem dX11_settle_48 : decode cX11_settle 48 = .ok (.ifCond .eq 4, 3) := by decide +kernel
theorem dX11_settle_51 : decode cX11_settle 51 = .ok (.return_, 1) := by decide +kernel
theorem dX11_settle_52 : decode cX11_settle 52 = .ok (.aload_n 0, 1) := by decide +kernel
theorem dX11_settle_53 : decode cX11_settle 53 = .ok (.getfield 58, 3) := by decide +kernel
theorem dX11_settle_56 : decode cX11_settle 56 = .ok (.iload 4, 2) := by decide +kernel
theorem dX11_settle_58 : decode cX11_settle 58 = .ok (.iconst 1, 1) := by decide +kernel
theorem dX11_settle_59 : decode cX11_settle 59 = .ok (.bastore, 1) := by decide +kernel
theorem dX11_settle_60 : decode cX11_settle 60 = .ok (.aload_n 0, 1) := by decide +kernel
theorem dX11_settle_61 : decode cX11_settle 61 = .ok (.iload 4, 2) := by decide +kernel
theorem dX11_settle_63 : decode cX11_settle 63 = .ok (.iconst 1, 1) := by decide +kernel
theorem dX11_settle_64 : decode cX11_settle 64 = .ok (.invokevirtual 339, 3) := by decide +kernel
theorem dX11_settle_67 : decode cX11_settle 67 = .ok (.iconst 0, 1) := by decide +kernel
theorem dX11_settle_68 : decode cX11_settle 68 = .ok (.istore 5, 2) := by decide +kernel
theorem dX11_settle_70 : decode cX11_settle 70 = .ok (.iload 5, 2) := by decide +kernel
theorem dX11_settle_72 : decode cX11_settle 72 = .ok (.iconst 4, 1) := by decide +kernel
theorem dX11_settle_73 : decode cX11_settle 73 = .ok (.if_icmp .ge 114, 3) := by decide +kernel
theorem dX11_settle_76 : decode cX11_settle 76 = .ok (.iload 4, 2) := by decide +kernel
theorem dX11_settle_78 : decode cX11_settle 78 = .ok (.iconst 4, 1) := by decide +kernel
theorem dX11_settle_79 : decode cX11_settle 79 = .ok (.imul, 1) := by decide +kernel
theorem dX11_settle_80 : decode cX11_settle 80 = .ok (.iload 5, 2) := by decide +kernel
theorem dX11_settle_82 : decode cX11_settle 82 = .ok (.iadd, 1) := by decide +kernel
theorem dX11_settle_83 : decode cX11_settle 83 = .ok (.istore 6, 2) := by decide +kernel
theorem dX11_settle_85 : decode cX11_settle 85 = .ok (.aload_n 0, 1) := by decide +kernel
theorem dX11_settle_86 : decode cX11_settle 86 = .ok (.getfield 35, 3) := by decide +kernel
theorem dX11_settle_89 : decode cX11_settle 89 = .ok (.aload_n 0, 1) := by decide +kernel
theorem dX11_settle_90 : decode cX11_settle 90 = .ok (.getfield 19, 3) := by decide +kernel
theorem dX11_settle_93 : decode cX11_settle 93 = .ok (.aload_n 3, 1) := by decide +kernel
theorem dX11_settle_94 : decode cX11_settle 94 = .ok (.iload 5, 2) := by decide +kernel
theorem dX11_settle_96 : decode cX11_settle 96 = .ok (.invokevirtual 167, 3) := by decide +kernel
theorem dX11_settle_99 : decode cX11_settle 99 = .ok (.iconst (-1), 1) := by decide +kernel
theorem dX11_settle_100 : decode cX11_settle 100 = .ok (.istore 7, 2) := by decide +kernel
theorem dX11_settle_102 : decode cX11_settle 102 = .ok (.aload_n 0, 1) := by decide +kernel
theorem dX11_settle_103 : decode cX11_settle 103 = .ok (.getfield 35, 3) := by decide +kernel
theorem dX11_settle_106 : decode cX11_settle 106 = .ok (.invokevirtual 183, 3) := by decide +kernel
theorem dX11_settle_109 : decode cX11_settle 109 = .ok (.ifCond .ne 48, 3) := by decide +kernel
theorem dX11_settle_112 : decode cX11_settle 112 = .ok (.aload_n 0, 1) := by decide +kernel
theorem dX11_settle_113 : decode cX11_settle 113 = .ok (.getfield 42, 3) := by decide +kernel
theorem dX11_settle_116 : decode cX11_settle 116 = .ok (.aload_n 0, 1) := by decide +kernel
theorem dX11_settle_117 : decode cX11_settle 117 = .ok (.getfield 35, 3) := by decide +kernel
theorem dX11_settle_120 : decode cX11_settle 120 = .ok (.aload_n 0, 1) := by decide +kernel
theorem dX11_settle_121 : decode cX11_settle 121 = .ok (.getfield 19, 3) := by decide +kernel
theorem dX11_settle_124 : decode cX11_settle 124 = .ok (.getfield 106, 3) := by decide +kernel
theorem dX11_settle_127 : decode cX11_settle 127 = .ok (.iload_n 2, 1) := by decide +kernel
theorem dX11_settle_128 : decode cX11_settle 128 = .ok (.invokevirtual 203, 3) := by decide +kernel
theorem dX11_settle_131 : decode cX11_settle 131 = .ok (.aload_n 0, 1) := by decide +kernel
theorem dX11_settle_132 : decode cX11_settle 132 = .ok (.getfield 42, 3) := by decide +kernel
theorem dX11_settle_135 : decode cX11_settle 135 = .ok (.iconst 1, 1) := by decide +kernel
theorem dX11_settle_136 : decode cX11_settle 136 = .ok (.invokevirtual 207, 3) := by decide +kernel
theorem dX11_settle_139 : decode cX11_settle 139 = .ok (.istore 7, 2) := by decide +kernel
theorem dX11_settle_141 : decode cX11_settle 141 = .ok (.aload_n 0, 1) := by decide +kernel
theorem dX11_settle_142 : decode cX11_settle 142 = .ok (.getfield 42, 3) := by decide +kernel
theorem dX11_settle_145 : decode cX11_settle 145 = .ok (.iload 7, 2) := by decide +kernel
theorem dX11_settle_147 : decode cX11_settle 147 = .ok (.invokevirtual 343, 3) := by decide +kernel
theorem dX11_settle_150 : decode cX11_settle 150 = .ok (.aload_n 0, 1) := by decide +kernel
theorem dX11_settle_151 : decode cX11_settle 151 = .ok (.iload 4, 2) := by decide +kernel
theorem dX11_settle_153 : decode cX11_settle 153 = .ok (.iconst 0, 1) := by decide +kernel
theorem dX11_settle_154 : decode cX11_settle 154 = .ok (.invokevirtual 339, 3) := by decide +kernel
theorem dX11_settle_157 : decode cX11_settle 157 = .ok (.iload 6, 2) := by decide +kernel
theorem dX11_settle_159 : decode cX11_settle 159 = .ok (.ifCond .lt 22, 3) := by decide +kernel
theorem dX11_settle_162 : decode cX11_settle 162 = .ok (.iload 6, 2) := by decide +kernel
theorem dX11_settle_164 : decode cX11_settle 164 = .ok (.aload_n 0, 1) := by decide +kernel
theorem dX11_settle_165 : decode cX11_settle 165 = .ok (.getfield 62, 3) := by decide +kernel
theorem dX11_settle_168 : decode cX11_settle 168 = .ok (.arraylength, 1) := by decide +kernel
theorem dX11_settle_169 : decode cX11_settle 169 = .ok (.if_icmp .ge 12, 3) := by decide +kernel
theorem dX11_settle_172 : decode cX11_settle 172 = .ok (.aload_n 0, 1) := by decide +kernel
theorem dX11_settle_173 : decode cX11_settle 173 = .ok (.getfield 62, 3) := by decide +kernel
theorem dX11_settle_176 : decode cX11_settle 176 = .ok (.iload 6, 2) := by decide +kernel
theorem dX11_settle_178 : decode cX11_settle 178 = .ok (.iload 7, 2) := by decide +kernel
theorem dX11_settle_180 : decode cX11_settle 180 = .ok (.iastore, 1) := by decide +kernel
theorem dX11_settle_181 : decode cX11_settle 181 = .ok (.iinc 5 1, 3) := by decide +kernel
theorem dX11_settle_184 : decode cX11_settle 184 = .ok (.goto (-114), 3) := by decide +kernel
theorem dX11_settle_187 : decode cX11_settle 187 = .ok (.return_, 1) := by decide +kernel
theorem dX11_keepWorths_0 : decode cX11_keepWorths 0 = .ok (.iconst 0, 1) := by decide +kernel
theorem dX11_keepWorths_1 : decode cX11_keepWorths 1 = .ok (.istore_n 3, 1) := by decide +kernel
theorem dX11_keepWorths_2 : decode cX11_keepWorths 2 = .ok (.iload_n 3, 1) := by decide +kernel
theorem dX11_keepWorths_3 : decode cX11_keepWorths 3 = .ok (.iconst 4, 1) := by decide +kernel
theorem dX11_keepWorths_4 : decode cX11_keepWorths 4 = .ok (.if_icmp .ge 63, 3) := by decide +kernel
theorem dX11_keepWorths_7 : decode cX11_keepWorths 7 = .ok (.iload_n 1, 1) := by decide +kernel
theorem dX11_keepWorths_8 : decode cX11_keepWorths 8 = .ok (.iconst 4, 1) := by decide +kernel
theorem dX11_keepWorths_9 : decode cX11_keepWorths 9 = .ok (.imul, 1) := by decide +kernel
theorem dX11_keepWorths_10 : decode cX11_keepWorths 10 = .ok (.iload_n 3, 1) := by decide +kernel
theorem dX11_keepWorths_11 : decode cX11_keepWorths 11 = .ok (.iadd, 1) := by decide +kernel
theorem dX11_keepWorths_12 : decode cX11_keepWorths 12 = .ok (.istore 4, 2) := by decide +kernel
theorem dX11_keepWorths_14 : decode cX11_keepWorths 14 = .ok (.iload 4, 2) := by decide +kernel
theorem dX11_keepWorths_16 : decode cX11_keepWorths 16 = .ok (.ifCond .lt 45, 3) := by decide +kernel
theorem dX11_keepWorths_19 : decode cX11_keepWorths 19 = .ok (.iload 4, 2) := by decide +kernel
theorem dX11_keepWorths_21 : decode cX11_keepWorths 21 = .ok (.aload_n 0, 1) := by decide +kernel
theorem dX11_keepWorths_22 : decode cX11_keepWorths 22 = .ok (.getfield 66, 3) := by decide +kernel
theorem dX11_keepWorths_25 : decode cX11_keepWorths 25 = .ok (.arraylength, 1) := by decide +kernel
theorem dX11_keepWorths_26 : decode cX11_keepWorths 26 = .ok (.if_icmp .ge 35, 3) := by decide +kernel
theorem dX11_keepWorths_29 : decode cX11_keepWorths 29 = .ok (.aload_n 0, 1) := by decide +kernel
theorem dX11_keepWorths_30 : decode cX11_keepWorths 30 = .ok (.getfield 66, 3) := by decide +kernel
theorem dX11_keepWorths_33 : decode cX11_keepWorths 33 = .ok (.iload 4, 2) := by decide +kernel
theorem dX11_keepWorths_35 : decode cX11_keepWorths 35 = .ok (.iload_n 2, 1) := by decide +kernel
theorem dX11_keepWorths_36 : decode cX11_keepWorths 36 = .ok (.ifCond .eq 7, 3) := by decide +kernel
theorem dX11_keepWorths_39 : decode cX11_keepWorths 39 = .ok (.lconst 0, 1) := by decide +kernel
theorem dX11_keepWorths_40 : decode cX11_keepWorths 40 = .ok (.goto 20, 3) := by decide +kernel
theorem dX11_keepWorths_43 : decode cX11_keepWorths 43 = .ok (.aload_n 0, 1) := by decide +kernel
theorem dX11_keepWorths_44 : decode cX11_keepWorths 44 = .ok (.getfield 66, 3) := by decide +kernel
theorem dX11_keepWorths_47 : decode cX11_keepWorths 47 = .ok (.iload 4, 2) := by decide +kernel
theorem dX11_keepWorths_49 : decode cX11_keepWorths 49 = .ok (.laload, 1) := by decide +kernel
theorem dX11_keepWorths_50 : decode cX11_keepWorths 50 = .ok (.aload_n 0, 1) := by decide +kernel
theorem dX11_keepWorths_51 : decode cX11_keepWorths 51 = .ok (.getfield 42, 3) := by decide +kernel
theorem dX11_keepWorths_54 : decode cX11_keepWorths 54 = .ok (.iload_n 3, 1) := by decide +kernel
theorem dX11_keepWorths_55 : decode cX11_keepWorths 55 = .ok (.iconst 0, 1) := by decide +kernel
theorem dX11_keepWorths_56 : decode cX11_keepWorths 56 = .ok (.invokevirtual 346, 3) := by decide +kernel
theorem dX11_keepWorths_59 : decode cX11_keepWorths 59 = .ok (.ladd, 1) := by decide +kernel
theorem dX11_keepWorths_60 : decode cX11_keepWorths 60 = .ok (.lastore, 1) := by decide +kernel
theorem dX11_keepWorths_61 : decode cX11_keepWorths 61 = .ok (.iinc 3 1, 3) := by decide +kernel
theorem dX11_keepWorths_64 : decode cX11_keepWorths 64 = .ok (.goto (-62), 3) := by decide +kernel
theorem dX11_keepWorths_67 : decode cX11_keepWorths 67 = .ok (.return_, 1) := by decide +kernel
theorem dX11_dealtFor_0 : decode cX11_dealtFor 0 = .ok (.iload_n 1, 1) := by decide +kernel
theorem dX11_dealtFor_1 : decode cX11_dealtFor 1 = .ok (.bipush 16, 2) := by decide +kernel
theorem dX11_dealtFor_3 : decode cX11_dealtFor 3 = .ok (.imul, 1) := by decide +kernel
theorem dX11_dealtFor_4 : decode cX11_dealtFor 4 = .ok (.iload_n 2, 1) := by decide +kernel
theorem dX11_dealtFor_5 : decode cX11_dealtFor 5 = .ok (.iadd, 1) := by decide +kernel
theorem dX11_dealtFor_6 : decode cX11_dealtFor 6 = .ok (.iconst 4, 1) := by decide +kernel
theorem dX11_dealtFor_7 : decode cX11_dealtFor 7 = .ok (.imul, 1) := by decide +kernel
theorem dX11_dealtFor_8 : decode cX11_dealtFor 8 = .ok (.iload_n 3, 1) := by decide +kernel
theorem dX11_dealtFor_9 : decode cX11_dealtFor 9 = .ok (.iadd, 1) := by decide +kernel
theorem dX11_dealtFor_10 : decode cX11_dealtFor 10 = .ok (.istore 4, 2) := by decide +kernel
theorem dX11_dealtFor_12 : decode cX11_dealtFor 12 = .ok (.iload 4, 2) := by decide +kernel
theorem dX11_dealtFor_14 : decode cX11_dealtFor 14 = .ok (.ifCond .lt 23, 3) := by decide +kernel
theorem dX11_dealtFor_17 : decode cX11_dealtFor 17 = .ok (.iload 4, 2) := by decide +kernel
theorem dX11_dealtFor_19 : decode cX11_dealtFor 19 = .ok (.aload_n 0, 1) := by decide +kernel
theorem dX11_dealtFor_20 : decode cX11_dealtFor 20 = .ok (.getfield 62, 3) := by decide +kernel
theorem dX11_dealtFor_23 : decode cX11_dealtFor 23 = .ok (.arraylength, 1) := by decide +kernel
theorem dX11_dealtFor_24 : decode cX11_dealtFor 24 = .ok (.if_icmp .ge 13, 3) := by decide +kernel
theorem dX11_dealtFor_27 : decode cX11_dealtFor 27 = .ok (.aload_n 0, 1) := by decide +kernel
theorem dX11_dealtFor_28 : decode cX11_dealtFor 28 = .ok (.getfield 62, 3) := by decide +kernel
theorem dX11_dealtFor_31 : decode cX11_dealtFor 31 = .ok (.iload 4, 2) := by decide +kernel
theorem dX11_dealtFor_33 : decode cX11_dealtFor 33 = .ok (.iaload, 1) := by decide +kernel
theorem dX11_dealtFor_34 : decode cX11_dealtFor 34 = .ok (.goto 4, 3) := by decide +kernel
theorem dX11_dealtFor_37 : decode cX11_dealtFor 37 = .ok (.iconst (-1), 1) := by decide +kernel
theorem dX11_dealtFor_38 : decode cX11_dealtFor 38 = .ok (.ireturn, 1) := by decide +kernel
theorem dX11_worthOf_0 : decode cX11_worthOf 0 = .ok (.iload_n 1, 1) := by decide +kernel
theorem dX11_worthOf_1 : decode cX11_worthOf 1 = .ok (.bipush 16, 2) := by decide +kernel
theorem dX11_worthOf_3 : decode cX11_worthOf 3 = .ok (.imul, 1) := by decide +kernel
theorem dX11_worthOf_4 : decode cX11_worthOf 4 = .ok (.iload_n 2, 1) := by decide +kernel
theorem dX11_worthOf_5 : decode cX11_worthOf 5 = .ok (.iadd, 1) := by decide +kernel
theorem dX11_worthOf_6 : decode cX11_worthOf 6 = .ok (.iconst 4, 1) := by decide +kernel
theorem dX11_worthOf_7 : decode cX11_worthOf 7 = .ok (.imul, 1) := by decide +kernel
theorem dX11_worthOf_8 : decode cX11_worthOf 8 = .ok (.iload_n 3, 1) := by decide +kernel
theorem dX11_worthOf_9 : decode cX11_worthOf 9 = .ok (.iadd, 1) := by decide +kernel
theorem dX11_worthOf_10 : decode cX11_worthOf 10 = .ok (.istore 4, 2) := by decide +kernel
theorem dX11_worthOf_12 : decode cX11_worthOf 12 = .ok (.iload 4, 2) := by decide +kernel
theorem dX11_worthOf_14 : decode cX11_worthOf 14 = .ok (.ifCond .lt 23, 3) := by decide +kernel
theorem dX11_worthOf_17 : decode cX11_worthOf 17 = .ok (.iload 4, 2) := by decide +kernel
theorem dX11_worthOf_19 : decode cX11_worthOf 19 = .ok (.aload_n 0, 1) := by decide +kernel
theorem dX11_worthOf_20 : decode cX11_worthOf 20 = .ok (.getfield 66, 3) := by decide +kernel
theorem dX11_worthOf_23 : decode cX11_worthOf 23 = .ok (.arraylength, 1) := by decide +kernel
theorem dX11_worthOf_24 : decode cX11_worthOf 24 = .ok (.if_icmp .ge 13, 3) := by decide +kernel
theorem dX11_worthOf_27 : decode cX11_worthOf 27 = .ok (.aload_n 0, 1) := by decide +kernel
theorem dX11_worthOf_28 : decode cX11_worthOf 28 = .ok (.getfield 66, 3) := by decide +kernel
theorem dX11_worthOf_31 : decode cX11_worthOf 31 = .ok (.iload 4, 2) := by decide +kernel
theorem dX11_worthOf_33 : decode cX11_worthOf 33 = .ok (.laload, 1) := by decide +kernel
theorem dX11_worthOf_34 : decode cX11_worthOf 34 = .ok (.goto 4, 3) := by decide +kernel
theorem dX11_worthOf_37 : decode cX11_worthOf 37 = .ok (.lconst 0, 1) := by decide +kernel
theorem dX11_worthOf_38 : decode cX11_worthOf 38 = .ok (.lreturn, 1) := by decide +kernel
theorem dX11_bestSet_0 : decode cX11_bestSet 0 = .ok (.iconst 0, 1) := by decide +kernel
theorem dX11_bestSet_1 : decode cX11_bestSet 1 = .ok (.istore_n 3, 1) := by decide +kernel
theorem dX11_bestSet_2 : decode cX11_bestSet 2 = .ok (.lconst 0, 1) := by decide +kernel
theorem dX11_bestSet_3 : decode cX11_bestSet 3 = .ok (.lstore 4, 2) := by decide +kernel
theorem dX11_bestSet_5 : decode cX11_bestSet 5 = .ok (.iconst 1, 1) := by decide +kernel
theorem dX11_bestSet_6 : decode cX11_bestSet 6 = .ok (.istore 6, 2) := by decide +kernel
theorem dX11_bestSet_8 : decode cX11_bestSet 8 = .ok (.iload 6, 2) := by decide +kernel
theorem dX11_bestSet_10 : decode cX11_bestSet 10 = .ok (.aload_n 0, 1) := by decide +kernel
theorem dX11_bestSet_11 : decode cX11_bestSet 11 = .ok (.getfield 50, 3) := by decide +kernel
theorem dX11_bestSet_14 : decode cX11_bestSet 14 = .ok (.invokevirtual 253, 3) := by decide +kernel
theorem dX11_bestSet_17 : decode cX11_bestSet 17 = .ok (.if_icmp .gt 41, 3) := by decide +kernel
theorem dX11_bestSet_20 : decode cX11_bestSet 20 = .ok (.iload 6, 2) := by decide +kernel
theorem dX11_bestSet_22 : decode cX11_bestSet 22 = .ok (.bipush 16, 2) := by decide +kernel
theorem dX11_bestSet_24 : decode cX11_bestSet 24 = .ok (.if_icmp .ge 34, 3) := by decide +kernel
theorem dX11_bestSet_27 : decode cX11_bestSet 27 = .ok (.aload_n 0, 1) := by decide +kernel
theorem dX11_bestSet_28 : decode cX11_bestSet 28 = .ok (.iload_n 1, 1) := by decide +kernel
theorem dX11_bestSet_29 : decode cX11_bestSet 29 = .ok (.iload 6, 2) := by decide +kernel
theorem dX11_bestSet_31 : decode cX11_bestSet 31 = .ok (.iload_n 2, 1) := by decide +kernel
theorem dX11_bestSet_32 : decode cX11_bestSet 32 = .ok (.invokevirtual 234, 3) := by decide +kernel
theorem dX11_bestSet_35 : decode cX11_bestSet 35 = .ok (.lstore 7, 2) := by decide +kernel
theorem dX11_bestSet_37 : decode cX11_bestSet 37 = .ok (.lload 7, 2) := by decide +kernel
theorem dX11_bestSet_39 : decode cX11_bestSet 39 = .ok (.lload 4, 2) := by decide +kernel
theorem dX11_bestSet_41 : decode cX11_bestSet 41 = .ok (.lcmp, 1) := by decide +kernel
theorem dX11_bestSet_42 : decode cX11_bestSet 42 = .ok (.ifCond .le 10, 3) := by decide +kernel
theorem dX11_bestSet_45 : decode cX11_bestSet 45 = .ok (.iload 6, 2) := by decide +kernel
theorem dX11_bestSet_47 : decode cX11_bestSet 47 = .ok (.istore_n 3, 1) := by decide +kernel
theorem dX11_bestSet_48 : decode cX11_bestSet 48 = .ok (.lload 7, 2) := by decide +kernel
theorem dX11_bestSet_50 : decode cX11_bestSet 50 = .ok (.lstore 4, 2) := by decide +kernel
theorem dX11_bestSet_52 : decode cX11_bestSet 52 = .ok (.iinc 6 1, 3) := by decide +kernel
theorem dX11_bestSet_55 : decode cX11_bestSet 55 = .ok (.goto (-47), 3) := by decide +kernel
theorem dX11_bestSet_58 : decode cX11_bestSet 58 = .ok (.iload_n 3, 1) := by decide +kernel
theorem dX11_bestSet_59 : decode cX11_bestSet 59 = .ok (.ireturn, 1) := by decide +kernel
theorem dX11_takings_0 : decode cX11_takings 0 = .ok (.lconst 0, 1) := by decide +kernel
theorem dX11_takings_1 : decode cX11_takings 1 = .ok (.lstore 4, 2) := by decide +kernel
theorem dX11_takings_3 : decode cX11_takings 3 = .ok (.lconst 0, 1) := by decide +kernel
theorem dX11_takings_4 : decode cX11_takings 4 = .ok (.lstore 6, 2) := by decide +kernel
theorem dX11_takings_6 : decode cX11_takings 6 = .ok (.iconst 0, 1) := by decide +kernel
theorem dX11_takings_7 : decode cX11_takings 7 = .ok (.istore 8, 2) := by decide +kernel
theorem dX11_takings_9 : decode cX11_takings 9 = .ok (.iconst 0, 1) := by decide +kernel
theorem dX11_takings_10 : decode cX11_takings 10 = .ok (.istore 9, 2) := by decide +kernel
theorem dX11_takings_12 : decode cX11_takings 12 = .ok (.iload 9, 2) := by decide +kernel
theorem dX11_takings_14 : decode cX11_takings 14 = .ok (.aload_n 0, 1) := by decide +kernel
theorem dX11_takings_15 : decode cX11_takings 15 = .ok (.getfield 50, 3) := by decide +kernel
theorem dX11_takings_18 : decode cX11_takings 18 = .ok (.getfield 243, 3) := by decide +kernel
theorem dX11_takings_21 : decode cX11_takings 21 = .ok (.if_icmp .ge 57, 3) := by decide +kernel
theorem dX11_takings_24 : decode cX11_takings 24 = .ok (.iload_n 2, 1) := by decide +kernel
theorem dX11_takings_25 : decode cX11_takings 25 = .ok (.iload 9, 2) := by decide +kernel
theorem dX11_takings_27 : decode cX11_takings 27 = .ok (.invokestatic 246, 3) := by decide +kernel
theorem dX11_takings_30 : decode cX11_takings 30 = .ok (.ifCond .eq 42, 3) := by decide +kernel
theorem dX11_takings_33 : decode cX11_takings 33 = .ok (.aload_n 0, 1) := by decide +kernel
theorem dX11_takings_34 : decode cX11_takings 34 = .ok (.iload_n 1, 1) := by decide +kernel
theorem dX11_takings_35 : decode cX11_takings 35 = .ok (.iload_n 2, 1) := by decide +kernel
theorem dX11_takings_36 : decode cX11_takings 36 = .ok (.iload 9, 2) := by decide +kernel
theorem dX11_takings_38 : decode cX11_takings 38 = .ok (.invokevirtual 217, 3) := by decide +kernel
theorem dX11_takings_41 : decode cX11_takings 41 = .ok (.lstore 10, 2) := by decide +kernel
theorem dX11_takings_43 : decode cX11_takings 43 = .ok (.iload 8, 2) := by decide +kernel
theorem dX11_takings_45 : decode cX11_takings 45 = .ok (.ifCond .ne 8, 3) := by decide +kernel
theorem dX11_takings_48 : decode cX11_takings 48 = .ok (.lload 10, 2) := by decide +kernel
theorem dX11_takings_50 : decode cX11_takings 50 = .ok (.goto 10, 3) := by decide +kernel
theorem dX11_takings_53 : decode cX11_takings 53 = .ok (.lload 6, 2) := by decide +kernel
theorem dX11_takings_55 : decode cX11_takings 55 = .ok (.lload 10, 2) := by decide +kernel
theorem dX11_takings_57 : decode cX11_takings 57 = .ok (.invokestatic 349, 3) := by decide +kernel
theorem dX11_takings_60 : decode cX11_takings 60 = .ok (.lstore 6, 2) := by decide +kernel
theorem dX11_takings_62 : decode cX11_takings 62 = .ok (.lload 4, 2) := by decide +kernel
theorem dX11_takings_64 : decode cX11_takings 64 = .ok (.lload 10, 2) := by decide +kernel
theorem dX11_takings_66 : decode cX11_takings 66 = .ok (.ladd, 1) := by decide +kernel
theorem dX11_takings_67 : decode cX11_takings 67 = .ok (.lstore 4, 2) := by decide +kernel
theorem dX11_takings_69 : decode cX11_takings 69 = .ok (.iinc 8 1, 3) := by decide +kernel
theorem dX11_takings_72 : decode cX11_takings 72 = .ok (.iinc 9 1, 3) := by decide +kernel
theorem dX11_takings_75 : decode cX11_takings 75 = .ok (.goto (-63), 3) := by decide +kernel
theorem dX11_takings_78 : decode cX11_takings 78 = .ok (.iload_n 3, 1) := by decide +kernel
theorem dX11_takings_79 : decode cX11_takings 79 = .ok (.ifCond .ne 8, 3) := by decide +kernel
theorem dX11_takings_82 : decode cX11_takings 82 = .ok (.lload 4, 2) := by decide +kernel
theorem dX11_takings_84 : decode cX11_takings 84 = .ok (.goto 9, 3) := by decide +kernel
theorem dX11_takings_87 : decode cX11_takings 87 = .ok (.lload 6, 2) := by decide +kernel
theorem dX11_takings_89 : decode cX11_takings 89 = .ok (.iload 8, 2) := by decide +kernel
theorem dX11_takings_91 : decode cX11_takings 91 = .ok (.i2l, 1) := by decide +kernel
theorem dX11_takings_92 : decode cX11_takings 92 = .ok (.lmul, 1) := by decide +kernel
theorem dX11_takings_93 : decode cX11_takings 93 = .ok (.lreturn, 1) := by decide +kernel
theorem dX11_oneMore_0 : decode cX11_oneMore 0 = .ok (.iconst (-1), 1) := by decide +kernel
theorem dX11_oneMore_1 : decode cX11_oneMore 1 = .ok (.istore_n 3, 1) := by decide +kernel
theorem dX11_oneMore_2 : decode cX11_oneMore 2 = .ok (.lconst 0, 1) := by decide +kernel
theorem dX11_oneMore_3 : decode cX11_oneMore 3 = .ok (.lstore 4, 2) := by decide +kernel
theorem dX11_oneMore_5 : decode cX11_oneMore 5 = .ok (.iconst 0, 1) := by decide +kernel
theorem dX11_oneMore_6 : decode cX11_oneMore 6 = .ok (.istore 6, 2) := by decide +kernel
theorem dX11_oneMore_8 : decode cX11_oneMore 8 = .ok (.iload 6, 2) := by decide +kernel
theorem dX11_oneMore_10 : decode cX11_oneMore 10 = .ok (.aload_n 0, 1) := by decide +kernel
theorem dX11_oneMore_11 : decode cX11_oneMore 11 = .ok (.getfield 50, 3) := by decide +kernel
theorem dX11_oneMore_14 : decode cX11_oneMore 14 = .ok (.getfield 243, 3) := by decide +kernel
theorem dX11_oneMore_17 : decode cX11_oneMore 17 = .ok (.if_icmp .ge 53, 3) := by decide +kernel
theorem dX11_oneMore_20 : decode cX11_oneMore 20 = .ok (.iload_n 2, 1) := by decide +kernel
theorem dX11_oneMore_21 : decode cX11_oneMore 21 = .ok (.iload 6, 2) := by decide +kernel
theorem dX11_oneMore_23 : decode cX11_oneMore 23 = .ok (.invokestatic 246, 3) := by decide +kernel
theorem dX11_oneMore_26 : decode cX11_oneMore 26 = .ok (.ifCond .eq 7, 3) := by decide +kernel
theorem dX11_oneMore_29 : decode cX11_oneMore 29 = .ok (.lconst 0, 1) := by decide +kernel
theorem dX11_oneMore_30 : decode cX11_oneMore 30 = .ok (.goto 17, 3) := by decide +kernel
theorem dX11_oneMore_33 : decode cX11_oneMore 33 = .ok (.aload_n 0, 1) := by decide +kernel
theorem dX11_oneMore_34 : decode cX11_oneMore 34 = .ok (.iload_n 1, 1) := by decide +kernel
theorem dX11_oneMore_35 : decode cX11_oneMore 35 = .ok (.iload_n 2, 1) := by decide +kernel
theorem dX11_oneMore_36 : decode cX11_oneMore 36 = .ok (.iload 6, 2) := by decide +kernel
theorem dX11_oneMore_38 : decode cX11_oneMore 38 = .ok (.invokestatic 240, 3) := by decide +kernel
theorem dX11_oneMore_41 : decode cX11_oneMore 41 = .ok (.ior, 1) := by decide +kernel
theorem dX11_oneMore_42 : decode cX11_oneMore 42 = .ok (.iload 6, 2) := by decide +kernel
theorem dX11_oneMore_44 : decode cX11_oneMore 44 = .ok (.invokevirtual 217, 3) := by decide +kernel
theorem dX11_oneMore_47 : decode cX11_oneMore 47 = .ok (.lstore 7, 2) := by decide +kernel
theorem dX11_oneMore_49 : decode cX11_oneMore 49 = .ok (.lload 7, 2) := by decide +kernel
theorem dX11_oneMore_51 : decode cX11_oneMore 51 = .ok (.lload 4, 2) := by decide +kernel
theorem dX11_oneMore_53 : decode cX11_oneMore 53 = .ok (.lcmp, 1) := by decide +kernel
theorem dX11_oneMore_54 : decode cX11_oneMore 54 = .ok (.ifCond .le 10, 3) := by decide +kernel
theorem dX11_oneMore_57 : decode cX11_oneMore 57 = .ok (.iload 6, 2) := by decide +kernel
theorem dX11_oneMore_59 : decode cX11_oneMore 59 = .ok (.istore_n 3, 1) := by decide +kernel
theorem dX11_oneMore_60 : decode cX11_oneMore 60 = .ok (.lload 7, 2) := by decide +kernel
theorem dX11_oneMore_62 : decode cX11_oneMore 62 = .ok (.lstore 4, 2) := by decide +kernel
theorem dX11_oneMore_64 : decode cX11_oneMore 64 = .ok (.iinc 6 1, 3) := by decide +kernel
theorem dX11_oneMore_67 : decode cX11_oneMore 67 = .ok (.goto (-59), 3) := by decide +kernel
theorem dX11_oneMore_70 : decode cX11_oneMore 70 = .ok (.iload_n 3, 1) := by decide +kernel
theorem dX11_oneMore_71 : decode cX11_oneMore 71 = .ok (.ireturn, 1) := by decide +kernel
theorem dX11_toldBy_0 : decode cX11_toldBy 0 = .ok (.aload_n 0, 1) := by decide +kernel
theorem dX11_toldBy_1 : decode cX11_toldBy 1 = .ok (.iload_n 1, 1) := by decide +kernel
theorem dX11_toldBy_2 : decode cX11_toldBy 2 = .ok (.iload_n 2, 1) := by decide +kernel
theorem dX11_toldBy_3 : decode cX11_toldBy 3 = .ok (.iload_n 3, 1) := by decide +kernel
theorem dX11_toldBy_4 : decode cX11_toldBy 4 = .ok (.invokevirtual 217, 3) := by decide +kernel
theorem dX11_toldBy_7 : decode cX11_toldBy 7 = .ok (.lstore 4, 2) := by decide +kernel
theorem dX11_toldBy_9 : decode cX11_toldBy 9 = .ok (.iconst 0, 1) := by decide +kernel
theorem dX11_toldBy_10 : decode cX11_toldBy 10 = .ok (.istore 6, 2) := by decide +kernel
theorem dX11_toldBy_12 : decode cX11_toldBy 12 = .ok (.iload 6, 2) := by decide +kernel
theorem dX11_toldBy_14 : decode cX11_toldBy 14 = .ok (.aload_n 0, 1) := by decide +kernel
theorem dX11_toldBy_15 : decode cX11_toldBy 15 = .ok (.getfield 50, 3) := by decide +kernel
theorem dX11_toldBy_18 : decode cX11_toldBy 18 = .ok (.getfield 243, 3) := by decide +kernel
theorem dX11_toldBy_21 : decode cX11_toldBy 21 = .ok (.if_icmp .ge 51, 3) := by decide +kernel
theorem dX11_toldBy_24 : decode cX11_toldBy 24 = .ok (.iload_n 2, 1) := by decide +kernel
theorem dX11_toldBy_25 : decode cX11_toldBy 25 = .ok (.iload 6, 2) := by decide +kernel
theorem dX11_toldBy_27 : decode cX11_toldBy 27 = .ok (.invokestatic 240, 3) := by decide +kernel
theorem dX11_toldBy_30 : decode cX11_toldBy 30 = .ok (.ior, 1) := by decide +kernel
theorem dX11_toldBy_31 : decode cX11_toldBy 31 = .ok (.istore 7, 2) := by decide +kernel
theorem dX11_toldBy_33 : decode cX11_toldBy 33 = .ok (.iload 7, 2) := by decide +kernel
theorem dX11_toldBy_35 : decode cX11_toldBy 35 = .ok (.iload_n 2, 1) := by decide +kernel
theorem dX11_toldBy_36 : decode cX11_toldBy 36 = .ok (.if_icmp .eq 30, 3) := by decide +kernel
theorem dX11_toldBy_39 : decode cX11_toldBy 39 = .ok (.aload_n 0, 1) := by decide +kernel
theorem dX11_toldBy_40 : decode cX11_toldBy 40 = .ok (.iload_n 1, 1) := by decide +kernel
theorem dX11_toldBy_41 : decode cX11_toldBy 41 = .ok (.iload 7, 2) := by decide +kernel
theorem dX11_toldBy_43 : decode cX11_toldBy 43 = .ok (.iload_n 3, 1) := by decide +kernel
theorem dX11_toldBy_44 : decode cX11_toldBy 44 = .ok (.invokevirtual 217, 3) := by decide +kernel
theorem dX11_toldBy_47 : decode cX11_toldBy 47 = .ok (.aload_n 0, 1) := by decide +kernel
theorem dX11_toldBy_48 : decode cX11_toldBy 48 = .ok (.iload_n 1, 1) := by decide +kernel
theorem dX11_toldBy_49 : decode cX11_toldBy 49 = .ok (.iload 7, 2) := by decide +kernel
theorem dX11_toldBy_51 : decode cX11_toldBy 51 = .ok (.iload 6, 2) := by decide +kernel
theorem dX11_toldBy_53 : decode cX11_toldBy 53 = .ok (.invokevirtual 217, 3) := by decide +kernel
theorem dX11_toldBy_56 : decode cX11_toldBy 56 = .ok (.ladd, 1) := by decide +kernel
theorem dX11_toldBy_57 : decode cX11_toldBy 57 = .ok (.lload 4, 2) := by decide +kernel
theorem dX11_toldBy_59 : decode cX11_toldBy 59 = .ok (.lcmp, 1) := by decide +kernel
theorem dX11_toldBy_60 : decode cX11_toldBy 60 = .ok (.ifCond .le 6, 3) := by decide +kernel
theorem dX11_toldBy_63 : decode cX11_toldBy 63 = .ok (.iload 6, 2) := by decide +kernel
theorem dX11_toldBy_65 : decode cX11_toldBy 65 = .ok (.ireturn, 1) := by decide +kernel
theorem dX11_toldBy_66 : decode cX11_toldBy 66 = .ok (.iinc 6 1, 3) := by decide +kernel
theorem dX11_toldBy_69 : decode cX11_toldBy 69 = .ok (.goto (-57), 3) := by decide +kernel
theorem dX11_toldBy_72 : decode cX11_toldBy 72 = .ok (.iconst (-1), 1) := by decide +kernel
theorem dX11_toldBy_73 : decode cX11_toldBy 73 = .ok (.ireturn, 1) := by decide +kernel
theorem dX11_looksLikeEarlier_0 : decode cX11_looksLikeEarlier 0 = .ok (.iconst 0, 1) := by decide +kernel
theorem dX11_looksLikeEarlier_1 : decode cX11_looksLikeEarlier 1 = .ok (.istore 4, 2) := by decide +kernel
theorem dX11_looksLikeEarlier_3 : decode cX11_looksLikeEarlier 3 = .ok (.iload 4, 2) := by decide +kernel
theorem dX11_looksLikeEarlier_5 : decode cX11_looksLikeEarlier 5 = .ok (.iload_n 3, 1) := by decide +kernel
theorem dX11_looksLikeEarlier_6 : decode cX11_looksLikeEarlier 6 = .ok (.if_icmp .ge 23, 3) := by decide +kernel
theorem dX11_looksLikeEarlier_9 : decode cX11_looksLikeEarlier 9 = .ok (.aload_n 0, 1) := by decide +kernel
theorem dX11_looksLikeEarlier_10 : decode cX11_looksLikeEarlier 10 = .ok (.iload_n 1, 1) := by decide +kernel
theorem dX11_looksLikeEarlier_11 : decode cX11_looksLikeEarlier 11 = .ok (.iload_n 2, 1) := by decide +kernel
theorem dX11_looksLikeEarlier_12 : decode cX11_looksLikeEarlier 12 = .ok (.iload_n 3, 1) := by decide +kernel
theorem dX11_looksLikeEarlier_13 : decode cX11_looksLikeEarlier 13 = .ok (.iload 4, 2) := by decide +kernel
theorem dX11_looksLikeEarlier_15 : decode cX11_looksLikeEarlier 15 = .ok (.invokevirtual 264, 3) := by decide +kernel
theorem dX11_looksLikeEarlier_18 : decode cX11_looksLikeEarlier 18 = .ok (.ifCond .eq 5, 3) := by decide +kernel
theorem dX11_looksLikeEarlier_21 : decode cX11_looksLikeEarlier 21 = .ok (.iconst 1, 1) := by decide +kernel
theorem dX11_looksLikeEarlier_22 : decode cX11_looksLikeEarlier 22 = .ok (.ireturn, 1) := by decide +kernel
theorem dX11_looksLikeEarlier_23 : decode cX11_looksLikeEarlier 23 = .ok (.iinc 4 1, 3) := by decide +kernel
theorem dX11_looksLikeEarlier_26 : decode cX11_looksLikeEarlier 26 = .ok (.goto (-23), 3) := by decide +kernel
theorem dX11_looksLikeEarlier_29 : decode cX11_looksLikeEarlier 29 = .ok (.iconst 0, 1) := by decide +kernel
theorem dX11_looksLikeEarlier_30 : decode cX11_looksLikeEarlier 30 = .ok (.ireturn, 1) := by decide +kernel
theorem dX11_lookAlike_0 : decode cX11_lookAlike 0 = .ok (.aload_n 0, 1) := by decide +kernel
theorem dX11_lookAlike_1 : decode cX11_lookAlike 1 = .ok (.iload_n 1, 1) := by decide +kernel
theorem dX11_lookAlike_2 : decode cX11_lookAlike 2 = .ok (.iload_n 2, 1) := by decide +kernel
theorem dX11_lookAlike_3 : decode cX11_lookAlike 3 = .ok (.iload_n 3, 1) := by decide +kernel
theorem dX11_lookAlike_4 : decode cX11_lookAlike 4 = .ok (.invokevirtual 199, 3) := by decide +kernel
theorem dX11_lookAlike_7 : decode cX11_lookAlike 7 = .ok (.istore 5, 2) := by decide +kernel
theorem dX11_lookAlike_9 : decode cX11_lookAlike 9 = .ok (.aload_n 0, 1) := by decide +kernel
theorem dX11_lookAlike_10 : decode cX11_lookAlike 10 = .ok (.iload_n 1, 1) := by decide +kernel
theorem dX11_lookAlike_11 : decode cX11_lookAlike 11 = .ok (.iload_n 2, 1) := by decide +kernel
theorem dX11_lookAlike_12 : decode cX11_lookAlike 12 = .ok (.iload 4, 2) := by decide +kernel
theorem dX11_lookAlike_14 : decode cX11_lookAlike 14 = .ok (.invokevirtual 199, 3) := by decide +kernel
theorem dX11_lookAlike_17 : decode cX11_lookAlike 17 = .ok (.istore 6, 2) := by decide +kernel
theorem dX11_lookAlike_19 : decode cX11_lookAlike 19 = .ok (.iload 5, 2) := by decide +kernel
theorem dX11_lookAlike_21 : decode cX11_lookAlike 21 = .ok (.iconst (-1), 1) := by decide +kernel
theorem dX11_lookAlike_22 : decode cX11_lookAlike 22 = .ok (.if_icmp .eq 34, 3) := by decide +kernel
theorem dX11_lookAlike_25 : decode cX11_lookAlike 25 = .ok (.iload 6, 2) := by decide +kernel
theorem dX11_lookAlike_27 : decode cX11_lookAlike 27 = .ok (.iconst (-1), 1) := by decide +kernel
theorem dX11_lookAlike_28 : decode cX11_lookAlike 28 = .ok (.if_icmp .eq 28, 3) := by decide +kernel
theorem dX11_lookAlike_31 : decode cX11_lookAlike 31 = .ok (.aload_n 0, 1) := by decide +kernel
theorem dX11_lookAlike_32 : decode cX11_lookAlike 32 = .ok (.getfield 50, 3) := by decide +kernel
theorem dX11_lookAlike_35 : decode cX11_lookAlike 35 = .ok (.iload 5, 2) := by decide +kernel
theorem dX11_lookAlike_37 : decode cX11_lookAlike 37 = .ok (.invokevirtual 352, 3) := by decide +kernel
theorem dX11_lookAlike_40 : decode cX11_lookAlike 40 = .ok (.aload_n 0, 1) := by decide +kernel
theorem dX11_lookAlike_41 : decode cX11_lookAlike 41 = .ok (.getfield 50, 3) := by decide +kernel
theorem dX11_lookAlike_44 : decode cX11_lookAlike 44 = .ok (.iload 6, 2) := by decide +kernel
theorem dX11_lookAlike_46 : decode cX11_lookAlike 46 = .ok (.invokevirtual 352, 3) := by decide +kernel
theorem dX11_lookAlike_49 : decode cX11_lookAlike 49 = .ok (.if_icmp .ne 7, 3) := by decide +kernel
theorem dX11_lookAlike_52 : decode cX11_lookAlike 52 = .ok (.iconst 1, 1) := by decide +kernel
theorem dX11_lookAlike_53 : decode cX11_lookAlike 53 = .ok (.goto 4, 3) := by decide +kernel
theorem dX11_lookAlike_56 : decode cX11_lookAlike 56 = .ok (.iconst 0, 1) := by decide +kernel
theorem dX11_lookAlike_57 : decode cX11_lookAlike 57 = .ok (.ireturn, 1) := by decide +kernel
theorem dX12_init_0 : decode cX12_init 0 = .ok (.aload_n 0, 1) := by decide +kernel
theorem dX12_init_1 : decode cX12_init 1 = .ok (.invokespecial 1, 3) := by decide +kernel
theorem dX12_init_4 : decode cX12_init 4 = .ok (.aload_n 0, 1) := by decide +kernel
theorem dX12_init_5 : decode cX12_init 5 = .ok (.bipush 60, 2) := by decide +kernel
theorem dX12_init_7 : decode cX12_init 7 = .ok (.newarray .int, 2) := by decide +kernel
theorem dX12_init_9 : decode cX12_init 9 = .ok (.putfield 7, 3) := by decide +kernel
theorem dX12_init_12 : decode cX12_init 12 = .ok (.aload_n 0, 1) := by decide +kernel
theorem dX12_init_13 : decode cX12_init 13 = .ok (.iconst 4, 1) := by decide +kernel
theorem dX12_init_14 : decode cX12_init 14 = .ok (.newarray .int, 2) := by decide +kernel
theorem dX12_init_16 : decode cX12_init 16 = .ok (.putfield 13, 3) := by decide +kernel
theorem dX12_init_19 : decode cX12_init 19 = .ok (.aload_n 0, 1) := by decide +kernel
theorem dX12_init_20 : decode cX12_init 20 = .ok (.iconst 4, 1) := by decide +kernel
theorem dX12_init_21 : decode cX12_init 21 = .ok (.newarray .int, 2) := by decide +kernel
theorem dX12_init_23 : decode cX12_init 23 = .ok (.putfield 16, 3) := by decide +kernel
theorem dX12_init_26 : decode cX12_init 26 = .ok (.aload_n 0, 1) := by decide +kernel
theorem dX12_init_27 : decode cX12_init 27 = .ok (.iconst 4, 1) := by decide +kernel
theorem dX12_init_28 : decode cX12_init 28 = .ok (.newarray .int, 2) := by decide +kernel
theorem dX12_init_30 : decode cX12_init 30 = .ok (.putfield 19, 3) := by decide +kernel
theorem dX12_init_33 : decode cX12_init 33 = .ok (.aload_n 0, 1) := by decide +kernel
theorem dX12_init_34 : decode cX12_init 34 = .ok (.iconst 4, 1) := by decide +kernel
theorem dX12_init_35 : decode cX12_init 35 = .ok (.newarray .int, 2) := by decide +kernel
theorem dX12_init_37 : decode cX12_init 37 = .ok (.putfield 22, 3) := by decide +kernel
theorem dX12_init_40 : decode cX12_init 40 = .ok (.aload_n 0, 1) := by decide +kernel
theorem dX12_init_41 : decode cX12_init 41 = .ok (.iconst 4, 1) := by decide +kernel
theorem dX12_init_42 : decode cX12_init 42 = .ok (.newarray .int, 2) := by decide +kernel
theorem dX12_init_44 : decode cX12_init 44 = .ok (.putfield 25, 3) := by decide +kernel
theorem dX12_init_47 : decode cX12_init 47 = .ok (.aload_n 0, 1) := by decide +kernel
theorem dX12_init_48 : decode cX12_init 48 = .ok (.iconst 4, 1) := by decide +kernel
theorem dX12_init_49 : decode cX12_init 49 = .ok (.newarray .int, 2) := by decide +kernel
theorem dX12_init_51 : decode cX12_init 51 = .ok (.putfield 28, 3) := by decide +kernel
theorem dX12_init_54 : decode cX12_init 54 = .ok (.aload_n 0, 1) := by decide +kernel
theorem dX12_init_55 : decode cX12_init 55 = .ok (.bipush 8, 2) := by decide +kernel
theorem dX12_init_57 : decode cX12_init 57 = .ok (.newarray .int, 2) := by decide +kernel
theorem dX12_init_59 : decode cX12_init 59 = .ok (.putfield 31, 3) := by decide +kernel
theorem dX12_init_62 : decode cX12_init 62 = .ok (.aload_n 0, 1) := by decide +kernel
theorem dX12_init_63 : decode cX12_init 63 = .ok (.bipush 8, 2) := by decide +kernel
theorem dX12_init_65 : decode cX12_init 65 = .ok (.newarray .int, 2) := by decide +kernel
theorem dX12_init_67 : decode cX12_init 67 = .ok (.putfield 34, 3) := by decide +kernel
theorem dX12_init_70 : decode cX12_init 70 = .ok (.aload_n 0, 1) := by decide +kernel
theorem dX12_init_71 : decode cX12_init 71 = .ok (.bipush 64, 2) := by decide +kernel
theorem dX12_init_73 : decode cX12_init 73 = .ok (.newarray .long, 2) := by decide +kernel
theorem dX12_init_75 : decode cX12_init 75 = .ok (.putfield 37, 3) := by decide +kernel
theorem dX12_init_78 : decode cX12_init 78 = .ok (.aload_n 0, 1) := by decide +kernel
theorem dX12_init_79 : decode cX12_init 79 = .ok (.iconst 4, 1) := by decide +kernel
theorem dX12_init_80 : decode cX12_init 80 = .ok (.newarray .int, 2) := by decide +kernel
theorem dX12_init_82 : decode cX12_init 82 = .ok (.putfield 41, 3) := by decide +kernel
theorem dX12_init_85 : decode cX12_init 85 = .ok (.aload_n 0, 1) := by decide +kernel
theorem dX12_init_86 : decode cX12_init 86 = .ok (.iconst 0, 1) := by decide +kernel
theorem dX12_init_87 : decode cX12_init 87 = .ok (.putfield 44, 3) := by decide +kernel
theorem dX12_init_90 : decode cX12_init 90 = .ok (.return_, 1) := by decide +kernel
theorem dX12_in_0 : decode cX12_in 0 = .ok (.lload_n 0, 1) := by decide +kernel
theorem dX12_in_1 : decode cX12_in 1 = .ok (.lload_n 2, 1) := by decide +kernel
theorem dX12_in_2 : decode cX12_in 2 = .ok (.lcmp, 1) := by decide +kernel
theorem dX12_in_3 : decode cX12_in 3 = .ok (.ifCond .lt 14, 3) := by decide +kernel
theorem dX12_in_6 : decode cX12_in 6 = .ok (.lload_n 0, 1) := by decide +kernel
theorem dX12_in_7 : decode cX12_in 7 = .ok (.lload 4, 2) := by decide +kernel
theorem dX12_in_9 : decode cX12_in 9 = .ok (.lcmp, 1) := by decide +kernel
theorem dX12_in_10 : decode cX12_in 10 = .ok (.ifCond .gt 7, 3) := by decide +kernel
theorem dX12_in_13 : decode cX12_in 13 = .ok (.iconst 1, 1) := by decide +kernel
theorem dX12_in_14 : decode cX12_in 14 = .ok (.goto 4, 3) := by decide +kernel
theorem dX12_in_17 : decode cX12_in 17 = .ok (.iconst 0, 1) := by decide +kernel
theorem dX12_in_18 : decode cX12_in 18 = .ok (.ireturn, 1) := by decide +kernel
theorem dX12_letters_0 : decode cX12_letters 0 = .ok (.iconst 0, 1) := by decide +kernel
theorem dX12_letters_1 : decode cX12_letters 1 = .ok (.istore_n 3, 1) := by decide +kernel
theorem dX12_letters_2 : decode cX12_letters 2 = .ok (.iconst 1, 1) := by decide +kernel
theorem dX12_letters_3 : decode cX12_letters 3 = .ok (.istore 4, 2) := by decide +kernel
theorem dX12_letters_5 : decode cX12_letters 5 = .ok (.lload_n 1, 1) := by decide +kernel
theorem dX12_letters_6 : decode cX12_letters 6 = .ok (.lstore 5, 2) := by decide +kernel
theorem dX12_letters_8 : decode cX12_letters 8 = .ok (.iconst 0, 1) := by decide +kernel
theorem dX12_letters_9 : decode cX12_letters 9 = .ok (.istore 7, 2) := by decide +kernel
theorem dX12_letters_11 : decode cX12_letters 11 = .ok (.iload 7, 2) := by decide +kernel
theorem dX12_letters_13 : decode cX12_letters 13 = .ok (.bipush 8, 2) := by decide +kernel
theorem dX12_letters_15 : decode cX12_letters 15 = .ok (.if_icmp .ge 68, 3) := by decide +kernel
theorem dX12_letters_18 : decode cX12_letters 18 = .ok (.lload 5, 2) := by decide +kernel
theorem dX12_letters_20 : decode cX12_letters 20 = .ok (.ldc2_w 48, 3) := by decide +kernel
theorem dX12_letters_23 : decode cX12_letters 23 = .ok (.land, 1) := by decide +kernel
theorem dX12_letters_24 : decode cX12_letters 24 = .ok (.l2i, 1) := by decide +kernel
theorem dX12_letters_25 : decode cX12_letters 25 = .ok (.istore 8, 2) := by decide +kernel
theorem dX12_letters_27 : decode cX12_letters 27 = .ok (.lload 5, 2) := by decide +kernel
theorem dX12_letters_29 : decode cX12_letters 29 = .ok (.bipush 8, 2) := by decide +kernel
theorem dX12_letters_31 : decode cX12_letters 31 = .ok (.lushr, 1) := by decide +kernel
theorem dX12_letters_32 : decode cX12_letters 32 = .ok (.lstore 5, 2) := by decide +kernel
theorem dX12_letters_34 : decode cX12_letters 34 = .ok (.iload 4, 2) := by decide +kernel
theorem dX12_letters_36 : decode cX12_letters 36 = .ok (.ifCond .eq 25, 3) := by decide +kernel
theorem dX12_letters_39 : decode cX12_letters 39 = .ok (.iload 8, 2) := by decide +kernel
theorem dX12_letters_41 : decode cX12_letters 41 = .ok (.bipush 126, 2) := by decide +kernel
theorem dX12_letters_43 : decode cX12_letters 43 = .ok (.if_icmp .gt 18, 3) := by decide +kernel
theorem dX12_letters_46 : decode cX12_letters 46 = .ok (.iload 8, 2) := by decide +kernel
theorem dX12_letters_48 : decode cX12_letters 48 = .ok (.ifCond .eq 9, 3) := by decide +kernel
theorem dX12_letters_51 : decode cX12_letters 51 = .ok (.iload_n 3, 1) := by decide +kernel
theorem dX12_letters_52 : decode cX12_letters 52 = .ok (.iload 7, 2) := by decide +kernel
theorem dX12_letters_54 : decode cX12_letters 54 = .ok (.if_icmp .ne 7, 3) := by decide +kernel
theorem dX12_letters_57 : decode cX12_letters 57 = .ok (.iconst 1, 1) := by decide +kernel
theorem dX12_letters_58 : decode cX12_letters 58 = .ok (.goto 4, 3) := by decide +kernel
theorem dX12_letters_61 : decode cX12_letters 61 = .ok (.iconst 0, 1) := by decide +kernel
theorem dX12_letters_62 : decode cX12_letters 62 = .ok (.istore 4, 2) := by decide +kernel
theorem dX12_letters_64 : decode cX12_letters 64 = .ok (.iload_n 3, 1) := by decide +kernel
theorem dX12_letters_65 : decode cX12_letters 65 = .ok (.iload 8, 2) := by decide +kernel
theorem dX12_letters_67 : decode cX12_letters 67 = .ok (.ifCond .le 7, 3) := by decide +kernel
theorem dX12_letters_70 : decode cX12_letters 70 = .ok (.iconst 1, 1) := by decide +kernel
theorem dX12_letters_71 : decode cX12_letters 71 = .ok (.goto 4, 3) := by decide +kernel
theorem dX12_letters_74 : decode cX12_letters 74 = .ok (.iconst 0, 1) := by decide +kernel
theorem dX12_letters_75 : decode cX12_letters 75 = .ok (.iadd, 1) := by decide +kernel
theorem dX12_letters_76 : decode cX12_letters 76 = .ok (.istore_n 3, 1) := by decide +kernel
theorem dX12_letters_77 : decode cX12_letters 77 = .ok (.iinc 7 1, 3) := by decide +kernel
theorem dX12_letters_80 : decode cX12_letters 80 = .ok (.goto (-69), 3) := by decide +kernel
theorem dX12_letters_83 : decode cX12_letters 83 = .ok (.iload 4, 2) := by decide +kernel
theorem dX12_letters_85 : decode cX12_letters 85 = .ok (.ifCond .ne 6, 3) := by decide +kernel
theorem dX12_letters_88 : decode cX12_letters 88 = .ok (.bipush (-102), 2) := by decide +kernel
theorem dX12_letters_90 : decode cX12_letters 90 = .ok (.ireturn, 1) := by decide +kernel
theorem dX12_letters_91 : decode cX12_letters 91 = .ok (.aload_n 0, 1) := by decide +kernel
theorem dX12_letters_92 : decode cX12_letters 92 = .ok (.getfield 50, 3) := by decide +kernel
theorem dX12_letters_95 : decode cX12_letters 95 = .ok (.iload_n 3, 1) := by decide +kernel
theorem dX12_letters_96 : decode cX12_letters 96 = .ok (.iadd, 1) := by decide +kernel
theorem dX12_letters_97 : decode cX12_letters 97 = .ok (.bipush 60, 2) := by decide +kernel
theorem dX12_letters_99 : decode cX12_letters 99 = .ok (.if_icmp .le 6, 3) := by decide +kernel
theorem dX12_letters_102 : decode cX12_letters 102 = .ok (.bipush (-104), 2) := by decide +kernel
theorem dX12_letters_104 : decode cX12_letters 104 = .ok (.ireturn, 1) := by decide +kernel
theorem dX12_letters_105 : decode cX12_letters 105 = .ok (.iconst 0, 1) := by decide +kernel
theorem dX12_letters_106 : decode cX12_letters 106 = .ok (.istore 7, 2) := by decide +kernel
theorem dX12_letters_108 : decode cX12_letters 108 = .ok (.iload 7, 2) := by decide +kernel
theorem dX12_letters_110 : decode cX12_letters 110 = .ok (.iload_n 3, 1) := by decide +kernel
theorem dX12_letters_111 : decode cX12_letters 111 = .ok (.if_icmp .ge 40, 3) := by decide +kernel
theorem dX12_letters_114 : decode cX12_letters 114 = .ok (.aload_n 0, 1) := by decide +kernel
theorem dX12_letters_115 : decode cX12_letters 115 = .ok (.getfield 7, 3) := by decide +kernel
theorem dX12_letters_118 : decode cX12_letters 118 = .ok (.aload_n 0, 1) := by decide +kernel
theorem dX12_letters_119 : decode cX12_letters 119 = .ok (.getfield 50, 3) := by decide +kernel
theorem dX12_letters_122 : decode cX12_letters 122 = .ok (.lload_n 1, 1) := by decide +kernel
theorem dX12_letters_123 : decode cX12_letters 123 = .ok (.bipush 8, 2) := by decide +kernel
theorem dX12_letters_125 : decode cX12_letters 125 = .ok (.iload 7, 2) := by decide +kernel
theorem dX12_letters_127 : decode cX12_letters 127 = .ok (.imul, 1) := by decide +kernel
theorem dX12_letters_128 : decode cX12_letters 128 = .ok (.lushr, 1) := by decide +kernel
theorem dX12_letters_129 : decode cX12_letters 129 = .ok (.ldc2_w 48, 3) := by decide +kernel
theorem dX12_letters_132 : decode cX12_letters 132 = .ok (.land, 1) := by decide +kernel
theorem dX12_letters_133 : decode cX12_letters 133 = .ok (.l2i, 1) := by decide +kernel
theorem dX12_letters_134 : decode cX12_letters 134 = .ok (.iastore, 1) := by decide +kernel
theorem dX12_letters_135 : decode cX12_letters 135 = .ok (.aload_n 0, 1) := by decide +kernel
theorem dX12_letters_136 : decode cX12_letters 136 = .ok (.dup, 1) := by decide +kernel
theorem dX12_letters_137 : decode cX12_letters 137 = .ok (.getfield 50, 3) := by decide +kernel
theorem dX12_letters_140 : decode cX12_letters 140 = .ok (.iconst 1, 1) := by decide +kernel
theorem dX12_letters_141 : decode cX12_letters 141 = .ok (.iadd, 1) := by decide +kernel
theorem dX12_letters_142 : decode cX12_letters 142 = .ok (.putfield 50, 3) := by decide +kernel
theorem dX12_letters_145 : decode cX12_letters 145 = .ok (.iinc 7 1, 3) := by decide +kernel
theorem dX12_letters_148 : decode cX12_letters 148 = .ok (.goto (-40), 3) := by decide +kernel
theorem dX12_letters_151 : decode cX12_letters 151 = .ok (.aload_n 0, 1) := by decide +kernel
theorem dX12_letters_152 : decode cX12_letters 152 = .ok (.getfield 50, 3) := by decide +kernel
theorem dX12_letters_155 : decode cX12_letters 155 = .ok (.ireturn, 1) := by decide +kernel
theorem dX12_blank_0 : decode cX12_blank 0 = .ok (.aload_n 0, 1) := by decide +kernel
theorem dX12_blank_1 : decode cX12_blank 1 = .ok (.getfield 50, 3) := by decide +kernel
theorem dX12_blank_4 : decode cX12_blank 4 = .ok (.istore_n 1, 1) := by decide +kernel
theorem dX12_blank_5 : decode cX12_blank 5 = .ok (.aload_n 0, 1) := by decide +kernel
theorem dX12_blank_6 : decode cX12_blank 6 = .ok (.iconst 0, 1) := by decide +kernel
theorem dX12_blank_7 : decode cX12_blank 7 = .ok (.putfield 50, 3) := by decide +kernel
theorem dX12_blank_10 : decode cX12_blank 10 = .ok (.iload_n 1, 1) := by decide +kernel
theorem dX12_blank_11 : decode cX12_blank 11 = .ok (.ireturn, 1) := by decide +kernel
theorem dX12_next_0 : decode cX12_next 0 = .ok (.aload_n 0, 1) := by decide +kernel
theorem dX12_next_1 : decode cX12_next 1 = .ok (.iload_n 1, 1) := by decide +kernel
theorem dX12_next_2 : decode cX12_next 2 = .ok (.putfield 53, 3) := by decide +kernel
theorem dX12_next_5 : decode cX12_next 5 = .ok (.aload_n 0, 1) := by decide +kernel
theorem dX12_next_6 : decode cX12_next 6 = .ok (.iconst 0, 1) := by decide +kernel
theorem dX12_next_7 : decode cX12_next 7 = .ok (.putfield 56, 3) := by decide +kernel
theorem dX12_next_10 : decode cX12_next 10 = .ok (.aload_n 0, 1) := by decide +kernel
theorem dX12_next_11 : decode cX12_next 11 = .ok (.iconst 0, 1) := by decide +kernel
theorem dX12_next_12 : decode cX12_next 12 = .ok (.putfield 59, 3) := by decide +kernel
theorem dX12_next_15 : decode cX12_next 15 = .ok (.return_, 1) := by decide +kernel
theorem dX12_digit_0 : decode cX12_digit 0 = .ok (.aload_n 0, 1) := by decide +kernel
theorem dX12_digit_1 : decode cX12_digit 1 = .ok (.bipush 10, 2) := by decide +kernel
theorem dX12_digit_3 : decode cX12_digit 3 = .ok (.aload_n 0, 1) := by decide +kernel
theorem dX12_digit_4 : decode cX12_digit 4 = .ok (.getfield 59, 3) := by decide +kernel
theorem dX12_digit_7 : decode cX12_digit 7 = .ok (.imul, 1) := by decide +kernel
theorem dX12_digit_8 : decode cX12_digit 8 = .ok (.iload_n 1, 1) := by decide +kernel
theorem dX12_digit_9 : decode cX12_digit 9 = .ok (.iadd, 1) := by decide +kernel
theorem dX12_digit_10 : decode cX12_digit 10 = .ok (.bipush 48, 2) := by decide +kernel
theorem dX12_digit_12 : decode cX12_digit 12 = .ok (.isub, 1) := by decide +kernel
theorem dX12_digit_13 : decode cX12_digit 13 = .ok (.putfield 59, 3) := by decide +kernel
theorem dX12_digit_16 : decode cX12_digit 16 = .ok (.aload_n 0, 1) := by decide +kernel
theorem dX12_digit_17 : decode cX12_digit 17 = .ok (.dup, 1) := by decide +kernel
theorem dX12_digit_18 : decode cX12_digit 18 = .ok (.getfield 56, 3) := by decide +kernel
theorem dX12_digit_21 : decode cX12_digit 21 = .ok (.iconst 1, 1) := by decide +kernel
theorem dX12_digit_22 : decode cX12_digit 22 = .ok (.iadd, 1) := by decide +kernel
theorem dX12_digit_23 : decode cX12_digit 23 = .ok (.putfield 56, 3) := by decide +kernel
theorem dX12_digit_26 : decode cX12_digit 26 = .ok (.aload_n 0, 1) := by decide +kernel
theorem dX12_digit_27 : decode cX12_digit 27 = .ok (.getfield 56, 3) := by decide +kernel
theorem dX12_digit_30 : decode cX12_digit 30 = .ok (.iload_n 2, 1) := by decide +kernel
theorem dX12_digit_31 : decode cX12_digit 31 = .ok (.if_icmp .gt 7, 3) := by decide +kernel
theorem dX12_digit_34 : decode cX12_digit 34 = .ok (.iconst 1, 1) := by decide +kernel
theorem dX12_digit_35 : decode cX12_digit 35 = .ok (.goto 4, 3) := by decide +kernel
theorem dX12_digit_38 : decode cX12_digit 38 = .ok (.iconst 0, 1) := by decide +kernel
theorem dX12_digit_39 : decode cX12_digit 39 = .ok (.ireturn, 1) := by decide +kernel
theorem dX12_beginCase_0 : decode cX12_beginCase 0 = .ok (.aload_n 0, 1) := by decide +kernel
theorem dX12_beginCase_1 : decode cX12_beginCase 1 = .ok (.dup, 1) := by decide +kernel
theorem dX12_beginCase_2 : decode cX12_beginCase 2 = .ok (.getfield 62, 3) := by decide +kernel
theorem dX12_beginCase_5 : decode cX12_beginCase 5 = .ok (.iconst 1, 1) := by decide +kernel
theorem dX12_beginCase_6 : decode cX12_beginCase 6 = .ok (.iadd, 1) := by decide +kernel
theorem dX12_beginCase_7 : decode cX12_beginCase 7 = .ok (.putfield 62, 3) := by decide +kernel
theorem dX12_beginCase_10 : decode cX12_beginCase 10 = .ok (.aload_n 0, 1) := by decide +kernel
theorem dX12_beginCase_11 : decode cX12_beginCase 11 = .ok (.iconst 4, 1) := by decide +kernel
theorem dX12_beginCase_12 : decode cX12_beginCase 12 = .ok (.invokevirtual 65, 3) := by decide +kernel
theorem dX12_beginCase_15 : decode cX12_beginCase 15 = .ok (.aload_n 0, 1) := by decide +kernel
theorem dX12_beginCase_16 : decode cX12_beginCase 16 = .ok (.getfield 62, 3) := by decide +kernel
theorem dX12_beginCase_19 : decode cX12_beginCase 19 = .ok (.iconst 4, 1) := by decide +kernel
theorem dX12_beginCase_20 : decode cX12_beginCase 20 = .ok (.if_icmp .gt 7, 3) := by decide +kernel
theorem dX12_beginCase_23 : decode cX12_beginCase 23 = .ok (.iconst 1, 1) := by decide +kernel
theorem dX12_beginCase_24 : decode cX12_beginCase 24 = .ok (.goto 4, 3) := by decide +kernel
theorem dX12_beginCase_27 : decode cX12_beginCase 27 = .ok (.iconst 0, 1) := by decide +kernel
theorem dX12_beginCase_28 : decode cX12_beginCase 28 = .ok (.ireturn, 1) := by decide +kernel
theorem dX12_go_0 : decode cX12_go 0 = .ok (.iload_n 1, 1) := by decide +kernel
