theorem dX8_slide_39 : decode cX8_slide 39 = .ok (.aload_n 0, 1) := by decide +kernel
theorem dX8_slide_40 : decode cX8_slide 40 = .ok (.getfield 32, 3) := by decide +kernel
theorem dX8_slide_43 : decode cX8_slide 43 = .ok (.iload_n 2, 1) := by decide +kernel
theorem dX8_slide_44 : decode cX8_slide 44 = .ok (.iaload, 1) := by decide +kernel
theorem dX8_slide_45 : decode cX8_slide 45 = .ok (.iconst 1, 1) := by decide +kernel
theorem dX8_slide_46 : decode cX8_slide 46 = .ok (.if_icmp .ge 6, 3) := by decide +kernel
theorem dX8_slide_49 : decode cX8_slide 49 = .ok (.bipush (-2), 2) := by decide +kernel
theorem dX8_slide_51 : decode cX8_slide 51 = .ok (.ireturn, 1) := by decide +kernel
theorem dX8_slide_52 : decode cX8_slide 52 = .ok (.aload_n 0, 1) := by decide +kernel
theorem dX8_slide_53 : decode cX8_slide 53 = .ok (.invokevirtual 91, 3) := by decide +kernel
theorem dX8_slide_56 : decode cX8_slide 56 = .ok (.aload_n 0, 1) := by decide +kernel
theorem dX8_slide_57 : decode cX8_slide 57 = .ok (.iload_n 1, 1) := by decide +kernel
theorem dX8_slide_58 : decode cX8_slide 58 = .ok (.iload_n 2, 1) := by decide +kernel
theorem dX8_slide_59 : decode cX8_slide 59 = .ok (.aload_n 0, 1) := by decide +kernel
theorem dX8_slide_60 : decode cX8_slide 60 = .ok (.getfield 32, 3) := by decide +kernel
theorem dX8_slide_63 : decode cX8_slide 63 = .ok (.iload_n 2, 1) := by decide +kernel
theorem dX8_slide_64 : decode cX8_slide 64 = .ok (.iaload, 1) := by decide +kernel
theorem dX8_slide_65 : decode cX8_slide 65 = .ok (.iconst 1, 1) := by decide +kernel
theorem dX8_slide_66 : decode cX8_slide 66 = .ok (.invokevirtual 183, 3) := by decide +kernel
theorem dX8_slide_69 : decode cX8_slide 69 = .ok (.aload_n 0, 1) := by decide +kernel
theorem dX8_slide_70 : decode cX8_slide 70 = .ok (.getfield 32, 3) := by decide +kernel
theorem dX8_slide_73 : decode cX8_slide 73 = .ok (.iload_n 2, 1) := by decide +kernel
theorem dX8_slide_74 : decode cX8_slide 74 = .ok (.iaload, 1) := by decide +kernel
theorem dX8_slide_75 : decode cX8_slide 75 = .ok (.ireturn, 1) := by decide +kernel
theorem dX8_goal_0 : decode cX8_goal 0 = .ok (.aload_n 0, 1) := by decide +kernel
theorem dX8_goal_1 : decode cX8_goal 1 = .ok (.iload_n 1, 1) := by decide +kernel
theorem dX8_goal_2 : decode cX8_goal 2 = .ok (.invokevirtual 176, 3) := by decide +kernel
theorem dX8_goal_5 : decode cX8_goal 5 = .ok (.ifCond .eq 12, 3) := by decide +kernel
theorem dX8_goal_8 : decode cX8_goal 8 = .ok (.aload_n 0, 1) := by decide +kernel
theorem dX8_goal_9 : decode cX8_goal 9 = .ok (.iload_n 1, 1) := by decide +kernel
theorem dX8_goal_10 : decode cX8_goal 10 = .ok (.iload_n 2, 1) := by decide +kernel
theorem dX8_goal_11 : decode cX8_goal 11 = .ok (.invokevirtual 187, 3) := by decide +kernel
theorem dX8_goal_14 : decode cX8_goal 14 = .ok (.ifCond .ne 5, 3) := by decide +kernel
theorem dX8_goal_17 : decode cX8_goal 17 = .ok (.iconst (-1), 1) := by decide +kernel
theorem dX8_goal_18 : decode cX8_goal 18 = .ok (.ireturn, 1) := by decide +kernel
theorem dX8_goal_19 : decode cX8_goal 19 = .ok (.aload_n 0, 1) := by decide +kernel
theorem dX8_goal_20 : decode cX8_goal 20 = .ok (.invokevirtual 91, 3) := by decide +kernel
theorem dX8_goal_23 : decode cX8_goal 23 = .ok (.aload_n 0, 1) := by decide +kernel
theorem dX8_goal_24 : decode cX8_goal 24 = .ok (.getfield 7, 3) := by decide +kernel
theorem dX8_goal_27 : decode cX8_goal 27 = .ok (.bipush 6, 2) := by decide +kernel
theorem dX8_goal_29 : decode cX8_goal 29 = .ok (.iload_n 1, 1) := by decide +kernel
theorem dX8_goal_30 : decode cX8_goal 30 = .ok (.iastore, 1) := by decide +kernel
theorem dX8_goal_31 : decode cX8_goal 31 = .ok (.aload_n 0, 1) := by decide +kernel
theorem dX8_goal_32 : decode cX8_goal 32 = .ok (.getfield 7, 3) := by decide +kernel
theorem dX8_goal_35 : decode cX8_goal 35 = .ok (.bipush 7, 2) := by decide +kernel
theorem dX8_goal_37 : decode cX8_goal 37 = .ok (.iload_n 2, 1) := by decide +kernel
theorem dX8_goal_38 : decode cX8_goal 38 = .ok (.iastore, 1) := by decide +kernel
theorem dX8_goal_39 : decode cX8_goal 39 = .ok (.aload_n 0, 1) := by decide +kernel
theorem dX8_goal_40 : decode cX8_goal 40 = .ok (.invokevirtual 166, 3) := by decide +kernel
theorem dX8_goal_43 : decode cX8_goal 43 = .ok (.ifCond .eq 7, 3) := by decide +kernel
theorem dX8_goal_46 : decode cX8_goal 46 = .ok (.iconst 1, 1) := by decide +kernel
theorem dX8_goal_47 : decode cX8_goal 47 = .ok (.goto 4, 3) := by decide +kernel
theorem dX8_goal_50 : decode cX8_goal 50 = .ok (.iconst 0, 1) := by decide +kernel
theorem dX8_goal_51 : decode cX8_goal 51 = .ok (.ireturn, 1) := by decide +kernel
theorem dX8_stateMany_0 : decode cX8_stateMany 0 = .ok (.aload_n 0, 1) := by decide +kernel
theorem dX8_stateMany_1 : decode cX8_stateMany 1 = .ok (.bipush (-9), 2) := by decide +kernel
theorem dX8_stateMany_3 : decode cX8_stateMany 3 = .ok (.invokevirtual 154, 3) := by decide +kernel
theorem dX8_stateMany_6 : decode cX8_stateMany 6 = .ok (.aload_n 0, 1) := by decide +kernel
theorem dX8_stateMany_7 : decode cX8_stateMany 7 = .ok (.getfield 128, 3) := by decide +kernel
theorem dX8_stateMany_10 : decode cX8_stateMany 10 = .ok (.ifCond .eq 8, 3) := by decide +kernel
theorem dX8_stateMany_13 : decode cX8_stateMany 13 = .ok (.bipush (-3), 2) := by decide +kernel
theorem dX8_stateMany_15 : decode cX8_stateMany 15 = .ok (.goto 7, 3) := by decide +kernel
theorem dX8_stateMany_18 : decode cX8_stateMany 18 = .ok (.aload_n 0, 1) := by decide +kernel
theorem dX8_stateMany_19 : decode cX8_stateMany 19 = .ok (.getfield 125, 3) := by decide +kernel
theorem dX8_stateMany_22 : decode cX8_stateMany 22 = .ok (.ireturn, 1) := by decide +kernel
theorem dX8_states_0 : decode cX8_states 0 = .ok (.aload_n 0, 1) := by decide +kernel
theorem dX8_states_1 : decode cX8_states 1 = .ok (.invokevirtual 191, 3) := by decide +kernel
theorem dX8_states_4 : decode cX8_states 4 = .ok (.ireturn, 1) := by decide +kernel
theorem dX8_solved_0 : decode cX8_solved 0 = .ok (.aload_n 0, 1) := by decide +kernel
theorem dX8_solved_1 : decode cX8_solved 1 = .ok (.getfield 7, 3) := by decide +kernel
theorem dX8_solved_4 : decode cX8_solved 4 = .ok (.bipush 6, 2) := by decide +kernel
theorem dX8_solved_6 : decode cX8_solved 6 = .ok (.iaload, 1) := by decide +kernel
theorem dX8_solved_7 : decode cX8_solved 7 = .ok (.ifCond .ge 6, 3) := by decide +kernel
theorem dX8_solved_10 : decode cX8_solved 10 = .ok (.bipush (-2), 2) := by decide +kernel
theorem dX8_solved_12 : decode cX8_solved 12 = .ok (.ireturn, 1) := by decide +kernel
theorem dX8_solved_13 : decode cX8_solved 13 = .ok (.aload_n 0, 1) := by decide +kernel
theorem dX8_solved_14 : decode cX8_solved 14 = .ok (.bipush (-9), 2) := by decide +kernel
theorem dX8_solved_16 : decode cX8_solved 16 = .ok (.invokevirtual 154, 3) := by decide +kernel
theorem dX8_solved_19 : decode cX8_solved 19 = .ok (.aload_n 0, 1) := by decide +kernel
theorem dX8_solved_20 : decode cX8_solved 20 = .ok (.getfield 128, 3) := by decide +kernel
theorem dX8_solved_23 : decode cX8_solved 23 = .ok (.ifCond .eq 6, 3) := by decide +kernel
theorem dX8_solved_26 : decode cX8_solved 26 = .ok (.bipush (-3), 2) := by decide +kernel
theorem dX8_solved_28 : decode cX8_solved 28 = .ok (.ireturn, 1) := by decide +kernel
theorem dX8_solved_29 : decode cX8_solved 29 = .ok (.iconst 0, 1) := by decide +kernel
theorem dX8_solved_30 : decode cX8_solved 30 = .ok (.istore_n 1, 1) := by decide +kernel
theorem dX8_solved_31 : decode cX8_solved 31 = .ok (.iconst 0, 1) := by decide +kernel
theorem dX8_solved_32 : decode cX8_solved 32 = .ok (.istore_n 2, 1) := by decide +kernel
theorem dX8_solved_33 : decode cX8_solved 33 = .ok (.iload_n 2, 1) := by decide +kernel
theorem dX8_solved_34 : decode cX8_solved 34 = .ok (.aload_n 0, 1) := by decide +kernel
theorem dX8_solved_35 : decode cX8_solved 35 = .ok (.getfield 125, 3) := by decide +kernel
theorem dX8_solved_38 : decode cX8_solved 38 = .ok (.if_icmp .ge 43, 3) := by decide +kernel
theorem dX8_solved_41 : decode cX8_solved 41 = .ok (.iload_n 1, 1) := by decide +kernel
theorem dX8_solved_42 : decode cX8_solved 42 = .ok (.aload_n 0, 1) := by decide +kernel
theorem dX8_solved_43 : decode cX8_solved 43 = .ok (.getfield 38, 3) := by decide +kernel
theorem dX8_solved_46 : decode cX8_solved 46 = .ok (.iload_n 2, 1) := by decide +kernel
theorem dX8_solved_47 : decode cX8_solved 47 = .ok (.laload, 1) := by decide +kernel
theorem dX8_solved_48 : decode cX8_solved 48 = .ok (.aload_n 0, 1) := by decide +kernel
theorem dX8_solved_49 : decode cX8_solved 49 = .ok (.getfield 7, 3) := by decide +kernel
theorem dX8_solved_52 : decode cX8_solved 52 = .ok (.bipush 6, 2) := by decide +kernel
theorem dX8_solved_54 : decode cX8_solved 54 = .ok (.iaload, 1) := by decide +kernel
theorem dX8_solved_55 : decode cX8_solved 55 = .ok (.invokestatic 109, 3) := by decide +kernel
theorem dX8_solved_58 : decode cX8_solved 58 = .ok (.aload_n 0, 1) := by decide +kernel
theorem dX8_solved_59 : decode cX8_solved 59 = .ok (.getfield 7, 3) := by decide +kernel
theorem dX8_solved_62 : decode cX8_solved 62 = .ok (.bipush 7, 2) := by decide +kernel
theorem dX8_solved_64 : decode cX8_solved 64 = .ok (.iaload, 1) := by decide +kernel
theorem dX8_solved_65 : decode cX8_solved 65 = .ok (.if_icmp .ne 7, 3) := by decide +kernel
theorem dX8_solved_68 : decode cX8_solved 68 = .ok (.iconst 1, 1) := by decide +kernel
theorem dX8_solved_69 : decode cX8_solved 69 = .ok (.goto 4, 3) := by decide +kernel
theorem dX8_solved_72 : decode cX8_solved 72 = .ok (.iconst 0, 1) := by decide +kernel
theorem dX8_solved_73 : decode cX8_solved 73 = .ok (.iadd, 1) := by decide +kernel
theorem dX8_solved_74 : decode cX8_solved 74 = .ok (.istore_n 1, 1) := by decide +kernel
theorem dX8_solved_75 : decode cX8_solved 75 = .ok (.iinc 2 1, 3) := by decide +kernel
theorem dX8_solved_78 : decode cX8_solved 78 = .ok (.goto (-45), 3) := by decide +kernel
theorem dX8_solved_81 : decode cX8_solved 81 = .ok (.iload_n 1, 1) := by decide +kernel
theorem dX8_solved_82 : decode cX8_solved 82 = .ok (.ireturn, 1) := by decide +kernel
theorem dX8_distanceOf_0 : decode cX8_distanceOf 0 = .ok (.aload_n 0, 1) := by decide +kernel
theorem dX8_distanceOf_1 : decode cX8_distanceOf 1 = .ok (.iload_n 1, 1) := by decide +kernel
theorem dX8_distanceOf_2 : decode cX8_distanceOf 2 = .ok (.bipush (-9), 2) := by decide +kernel
theorem dX8_distanceOf_4 : decode cX8_distanceOf 4 = .ok (.invokevirtual 194, 3) := by decide +kernel
theorem dX8_distanceOf_7 : decode cX8_distanceOf 7 = .ok (.istore_n 2, 1) := by decide +kernel
theorem dX8_distanceOf_8 : decode cX8_distanceOf 8 = .ok (.iload_n 2, 1) := by decide +kernel
theorem dX8_distanceOf_9 : decode cX8_distanceOf 9 = .ok (.ifCond .ne 12, 3) := by decide +kernel
theorem dX8_distanceOf_12 : decode cX8_distanceOf 12 = .ok (.aload_n 0, 1) := by decide +kernel
theorem dX8_distanceOf_13 : decode cX8_distanceOf 13 = .ok (.getfield 45, 3) := by decide +kernel
theorem dX8_distanceOf_16 : decode cX8_distanceOf 16 = .ok (.iconst 0, 1) := by decide +kernel
theorem dX8_distanceOf_17 : decode cX8_distanceOf 17 = .ok (.iaload, 1) := by decide +kernel
theorem dX8_distanceOf_18 : decode cX8_distanceOf 18 = .ok (.goto 4, 3) := by decide +kernel
theorem dX8_distanceOf_21 : decode cX8_distanceOf 21 = .ok (.iload_n 2, 1) := by decide +kernel
theorem dX8_distanceOf_22 : decode cX8_distanceOf 22 = .ok (.ireturn, 1) := by decide +kernel
theorem dX8_distance_0 : decode cX8_distance 0 = .ok (.aload_n 0, 1) := by decide +kernel
theorem dX8_distance_1 : decode cX8_distance 1 = .ok (.iload_n 1, 1) := by decide +kernel
theorem dX8_distance_2 : decode cX8_distance 2 = .ok (.invokevirtual 198, 3) := by decide +kernel
theorem dX8_distance_5 : decode cX8_distance 5 = .ok (.ireturn, 1) := by decide +kernel
theorem dX8_hinted_0 : decode cX8_hinted 0 = .ok (.aload_n 0, 1) := by decide +kernel
theorem dX8_hinted_1 : decode cX8_hinted 1 = .ok (.iload_n 1, 1) := by decide +kernel
theorem dX8_hinted_2 : decode cX8_hinted 2 = .ok (.bipush (-9), 2) := by decide +kernel
theorem dX8_hinted_4 : decode cX8_hinted 4 = .ok (.invokevirtual 194, 3) := by decide +kernel
theorem dX8_hinted_7 : decode cX8_hinted 7 = .ok (.istore_n 2, 1) := by decide +kernel
theorem dX8_hinted_8 : decode cX8_hinted 8 = .ok (.iload_n 2, 1) := by decide +kernel
theorem dX8_hinted_9 : decode cX8_hinted 9 = .ok (.ifCond .eq 5, 3) := by decide +kernel
theorem dX8_hinted_12 : decode cX8_hinted 12 = .ok (.iload_n 2, 1) := by decide +kernel
theorem dX8_hinted_13 : decode cX8_hinted 13 = .ok (.ireturn, 1) := by decide +kernel
theorem dX8_hinted_14 : decode cX8_hinted 14 = .ok (.iconst 0, 1) := by decide +kernel
theorem dX8_hinted_15 : decode cX8_hinted 15 = .ok (.istore_n 3, 1) := by decide +kernel
theorem dX8_hinted_16 : decode cX8_hinted 16 = .ok (.iload_n 3, 1) := by decide +kernel
theorem dX8_hinted_17 : decode cX8_hinted 17 = .ok (.aload_n 0, 1) := by decide +kernel
theorem dX8_hinted_18 : decode cX8_hinted 18 = .ok (.getfield 7, 3) := by decide +kernel
theorem dX8_hinted_21 : decode cX8_hinted 21 = .ok (.iconst 2, 1) := by decide +kernel
theorem dX8_hinted_22 : decode cX8_hinted 22 = .ok (.iaload, 1) := by decide +kernel
theorem dX8_hinted_23 : decode cX8_hinted 23 = .ok (.if_icmp .ge 95, 3) := by decide +kernel
theorem dX8_hinted_26 : decode cX8_hinted 26 = .ok (.aload_n 0, 1) := by decide +kernel
theorem dX8_hinted_27 : decode cX8_hinted 27 = .ok (.aload_n 0, 1) := by decide +kernel
theorem dX8_hinted_28 : decode cX8_hinted 28 = .ok (.getfield 38, 3) := by decide +kernel
theorem dX8_hinted_31 : decode cX8_hinted 31 = .ok (.iconst 0, 1) := by decide +kernel
theorem dX8_hinted_32 : decode cX8_hinted 32 = .ok (.laload, 1) := by decide +kernel
theorem dX8_hinted_33 : decode cX8_hinted 33 = .ok (.iload_n 3, 1) := by decide +kernel
theorem dX8_hinted_34 : decode cX8_hinted 34 = .ok (.invokevirtual 143, 3) := by decide +kernel
theorem dX8_hinted_37 : decode cX8_hinted 37 = .ok (.iconst 0, 1) := by decide +kernel
theorem dX8_hinted_38 : decode cX8_hinted 38 = .ok (.istore 4, 2) := by decide +kernel
theorem dX8_hinted_40 : decode cX8_hinted 40 = .ok (.iload 4, 2) := by decide +kernel
theorem dX8_hinted_42 : decode cX8_hinted 42 = .ok (.aload_n 0, 1) := by decide +kernel
theorem dX8_hinted_43 : decode cX8_hinted 43 = .ok (.invokevirtual 98, 3) := by decide +kernel
theorem dX8_hinted_46 : decode cX8_hinted 46 = .ok (.if_icmp .ge 66, 3) := by decide +kernel
theorem dX8_hinted_49 : decode cX8_hinted 49 = .ok (.aload_n 0, 1) := by decide +kernel
theorem dX8_hinted_50 : decode cX8_hinted 50 = .ok (.iload 4, 2) := by decide +kernel
theorem dX8_hinted_52 : decode cX8_hinted 52 = .ok (.iload_n 1, 1) := by decide +kernel
theorem dX8_hinted_53 : decode cX8_hinted 53 = .ok (.invokevirtual 147, 3) := by decide +kernel
theorem dX8_hinted_56 : decode cX8_hinted 56 = .ok (.ifCond .eq 50, 3) := by decide +kernel
theorem dX8_hinted_59 : decode cX8_hinted 59 = .ok (.aload_n 0, 1) := by decide +kernel
theorem dX8_hinted_60 : decode cX8_hinted 60 = .ok (.getfield 45, 3) := by decide +kernel
theorem dX8_hinted_63 : decode cX8_hinted 63 = .ok (.aload_n 0, 1) := by decide +kernel
theorem dX8_hinted_64 : decode cX8_hinted 64 = .ok (.getfield 42, 3) := by decide +kernel
theorem dX8_hinted_67 : decode cX8_hinted 67 = .ok (.aload_n 0, 1) := by decide +kernel
theorem dX8_hinted_68 : decode cX8_hinted 68 = .ok (.aload_n 0, 1) := by decide +kernel
theorem dX8_hinted_69 : decode cX8_hinted 69 = .ok (.getfield 38, 3) := by decide +kernel
theorem dX8_hinted_72 : decode cX8_hinted 72 = .ok (.iconst 0, 1) := by decide +kernel
theorem dX8_hinted_73 : decode cX8_hinted 73 = .ok (.laload, 1) := by decide +kernel
theorem dX8_hinted_74 : decode cX8_hinted 74 = .ok (.iload_n 3, 1) := by decide +kernel
theorem dX8_hinted_75 : decode cX8_hinted 75 = .ok (.iload 4, 2) := by decide +kernel
theorem dX8_hinted_77 : decode cX8_hinted 77 = .ok (.invokestatic 105, 3) := by decide +kernel
theorem dX8_hinted_80 : decode cX8_hinted 80 = .ok (.invokevirtual 121, 3) := by decide +kernel
theorem dX8_hinted_83 : decode cX8_hinted 83 = .ok (.iaload, 1) := by decide +kernel
theorem dX8_hinted_84 : decode cX8_hinted 84 = .ok (.iconst 1, 1) := by decide +kernel
theorem dX8_hinted_85 : decode cX8_hinted 85 = .ok (.isub, 1) := by decide +kernel
theorem dX8_hinted_86 : decode cX8_hinted 86 = .ok (.iaload, 1) := by decide +kernel
theorem dX8_hinted_87 : decode cX8_hinted 87 = .ok (.aload_n 0, 1) := by decide +kernel
theorem dX8_hinted_88 : decode cX8_hinted 88 = .ok (.getfield 45, 3) := by decide +kernel
theorem dX8_hinted_91 : decode cX8_hinted 91 = .ok (.iconst 0, 1) := by decide +kernel
theorem dX8_hinted_92 : decode cX8_hinted 92 = .ok (.iaload, 1) := by decide +kernel
theorem dX8_hinted_93 : decode cX8_hinted 93 = .ok (.iconst 1, 1) := by decide +kernel
theorem dX8_hinted_94 : decode cX8_hinted 94 = .ok (.isub, 1) := by decide +kernel
theorem dX8_hinted_95 : decode cX8_hinted 95 = .ok (.if_icmp .ne 11, 3) := by decide +kernel
theorem dX8_hinted_98 : decode cX8_hinted 98 = .ok (.bipush 100, 2) := by decide +kernel
theorem dX8_hinted_100 : decode cX8_hinted 100 = .ok (.iload_n 3, 1) := by decide +kernel
theorem dX8_hinted_101 : decode cX8_hinted 101 = .ok (.imul, 1) := by decide +kernel
theorem dX8_hinted_102 : decode cX8_hinted 102 = .ok (.iload 4, 2) := by decide +kernel
theorem dX8_hinted_104 : decode cX8_hinted 104 = .ok (.iadd, 1) := by decide +kernel
theorem dX8_hinted_105 : decode cX8_hinted 105 = .ok (.ireturn, 1) := by decide +kernel
theorem dX8_hinted_106 : decode cX8_hinted 106 = .ok (.iinc 4 1, 3) := by decide +kernel
theorem dX8_hinted_109 : decode cX8_hinted 109 = .ok (.goto (-69), 3) := by decide +kernel
theorem dX8_hinted_112 : decode cX8_hinted 112 = .ok (.iinc 3 1, 3) := by decide +kernel
theorem dX8_hinted_115 : decode cX8_hinted 115 = .ok (.goto (-99), 3) := by decide +kernel
theorem dX8_hinted_118 : decode cX8_hinted 118 = .ok (.bipush (-9), 2) := by decide +kernel
theorem dX8_hinted_120 : decode cX8_hinted 120 = .ok (.ireturn, 1) := by decide +kernel
theorem dX8_hint_0 : decode cX8_hint 0 = .ok (.aload_n 0, 1) := by decide +kernel
theorem dX8_hint_1 : decode cX8_hint 1 = .ok (.iload_n 1, 1) := by decide +kernel
theorem dX8_hint_2 : decode cX8_hint 2 = .ok (.invokevirtual 202, 3) := by decide +kernel
theorem dX8_hint_5 : decode cX8_hint 5 = .ok (.ireturn, 1) := by decide +kernel
theorem dX8_follow_0 : decode cX8_follow 0 = .ok (.aload_n 0, 1) := by decide +kernel
theorem dX8_follow_1 : decode cX8_follow 1 = .ok (.iload_n 1, 1) := by decide +kernel
theorem dX8_follow_2 : decode cX8_follow 2 = .ok (.invokevirtual 202, 3) := by decide +kernel
theorem dX8_follow_5 : decode cX8_follow 5 = .ok (.istore_n 2, 1) := by decide +kernel
theorem dX8_follow_6 : decode cX8_follow 6 = .ok (.iload_n 2, 1) := by decide +kernel
theorem dX8_follow_7 : decode cX8_follow 7 = .ok (.ifCond .ge 6, 3) := by decide +kernel
theorem dX8_follow_10 : decode cX8_follow 10 = .ok (.bipush (-2), 2) := by decide +kernel
theorem dX8_follow_12 : decode cX8_follow 12 = .ok (.ireturn, 1) := by decide +kernel
theorem dX8_follow_13 : decode cX8_follow 13 = .ok (.aload_n 0, 1) := by decide +kernel
theorem dX8_follow_14 : decode cX8_follow 14 = .ok (.getfield 45, 3) := by decide +kernel
theorem dX8_follow_17 : decode cX8_follow 17 = .ok (.iconst 0, 1) := by decide +kernel
theorem dX8_follow_18 : decode cX8_follow 18 = .ok (.iaload, 1) := by decide +kernel
theorem dX8_follow_19 : decode cX8_follow 19 = .ok (.iconst 1, 1) := by decide +kernel
theorem dX8_follow_20 : decode cX8_follow 20 = .ok (.isub, 1) := by decide +kernel
theorem dX8_follow_21 : decode cX8_follow 21 = .ok (.istore_n 3, 1) := by decide +kernel
theorem dX8_follow_22 : decode cX8_follow 22 = .ok (.aload_n 0, 1) := by decide +kernel
theorem dX8_follow_23 : decode cX8_follow 23 = .ok (.invokevirtual 91, 3) := by decide +kernel
theorem dX8_follow_26 : decode cX8_follow 26 = .ok (.aload_n 0, 1) := by decide +kernel
theorem dX8_follow_27 : decode cX8_follow 27 = .ok (.iload_n 2, 1) := by decide +kernel
theorem dX8_follow_28 : decode cX8_follow 28 = .ok (.bipush 100, 2) := by decide +kernel
theorem dX8_follow_30 : decode cX8_follow 30 = .ok (.idiv, 1) := by decide +kernel
theorem dX8_follow_31 : decode cX8_follow 31 = .ok (.iload_n 2, 1) := by decide +kernel
theorem dX8_follow_32 : decode cX8_follow 32 = .ok (.bipush 100, 2) := by decide +kernel
theorem dX8_follow_34 : decode cX8_follow 34 = .ok (.irem, 1) := by decide +kernel
theorem dX8_follow_35 : decode cX8_follow 35 = .ok (.aload_n 0, 1) := by decide +kernel
theorem dX8_follow_36 : decode cX8_follow 36 = .ok (.getfield 32, 3) := by decide +kernel
theorem dX8_follow_39 : decode cX8_follow 39 = .ok (.iload_n 2, 1) := by decide +kernel
theorem dX8_follow_40 : decode cX8_follow 40 = .ok (.bipush 100, 2) := by decide +kernel
theorem dX8_follow_42 : decode cX8_follow 42 = .ok (.irem, 1) := by decide +kernel
theorem dX8_follow_43 : decode cX8_follow 43 = .ok (.iaload, 1) := by decide +kernel
theorem dX8_follow_44 : decode cX8_follow 44 = .ok (.iload_n 1, 1) := by decide +kernel
theorem dX8_follow_45 : decode cX8_follow 45 = .ok (.invokevirtual 183, 3) := by decide +kernel
theorem dX8_follow_48 : decode cX8_follow 48 = .ok (.iload_n 3, 1) := by decide +kernel
theorem dX8_follow_49 : decode cX8_follow 49 = .ok (.ireturn, 1) := by decide +kernel
theorem dX8_farthest_0 : decode cX8_farthest 0 = .ok (.iconst 0, 1) := by decide +kernel
theorem dX8_farthest_1 : decode cX8_farthest 1 = .ok (.istore_n 1, 1) := by decide +kernel
theorem dX8_farthest_2 : decode cX8_farthest 2 = .ok (.iconst 0, 1) := by decide +kernel
theorem dX8_farthest_3 : decode cX8_farthest 3 = .ok (.istore_n 2, 1) := by decide +kernel
theorem dX8_farthest_4 : decode cX8_farthest 4 = .ok (.iload_n 2, 1) := by decide +kernel
theorem dX8_farthest_5 : decode cX8_farthest 5 = .ok (.aload_n 0, 1) := by decide +kernel
theorem dX8_farthest_6 : decode cX8_farthest 6 = .ok (.getfield 125, 3) := by decide +kernel
theorem dX8_farthest_9 : decode cX8_farthest 9 = .ok (.if_icmp .ge 30, 3) := by decide +kernel
theorem dX8_farthest_12 : decode cX8_farthest 12 = .ok (.aload_n 0, 1) := by decide +kernel
theorem dX8_farthest_13 : decode cX8_farthest 13 = .ok (.getfield 45, 3) := by decide +kernel
theorem dX8_farthest_16 : decode cX8_farthest 16 = .ok (.iload_n 2, 1) := by decide +kernel
theorem dX8_farthest_17 : decode cX8_farthest 17 = .ok (.iaload, 1) := by decide +kernel
theorem dX8_farthest_18 : decode cX8_farthest 18 = .ok (.iload_n 1, 1) := by decide +kernel
theorem dX8_farthest_19 : decode cX8_farthest 19 = .ok (.if_icmp .le 12, 3) := by decide +kernel
theorem dX8_farthest_22 : decode cX8_farthest 22 = .ok (.aload_n 0, 1) := by decide +kernel
theorem dX8_farthest_23 : decode cX8_farthest 23 = .ok (.getfield 45, 3) := by decide +kernel
theorem dX8_farthest_26 : decode cX8_farthest 26 = .ok (.iload_n 2, 1) := by decide +kernel
theorem dX8_farthest_27 : decode cX8_farthest 27 = .ok (.iaload, 1) := by decide +kernel
theorem dX8_farthest_28 : decode cX8_farthest 28 = .ok (.goto 4, 3) := by decide +kernel
theorem dX8_farthest_31 : decode cX8_farthest 31 = .ok (.iload_n 1, 1) := by decide +kernel
theorem dX8_farthest_32 : decode cX8_farthest 32 = .ok (.istore_n 1, 1) := by decide +kernel
theorem dX8_farthest_33 : decode cX8_farthest 33 = .ok (.iinc 2 1, 3) := by decide +kernel
theorem dX8_farthest_36 : decode cX8_farthest 36 = .ok (.goto (-32), 3) := by decide +kernel
theorem dX8_farthest_39 : decode cX8_farthest 39 = .ok (.iload_n 1, 1) := by decide +kernel
theorem dX8_farthest_40 : decode cX8_farthest 40 = .ok (.ireturn, 1) := by decide +kernel
theorem dX8_worst_0 : decode cX8_worst 0 = .ok (.aload_n 0, 1) := by decide +kernel
theorem dX8_worst_1 : decode cX8_worst 1 = .ok (.iload_n 1, 1) := by decide +kernel
theorem dX8_worst_2 : decode cX8_worst 2 = .ok (.bipush (-9), 2) := by decide +kernel
theorem dX8_worst_4 : decode cX8_worst 4 = .ok (.invokevirtual 194, 3) := by decide +kernel
theorem dX8_worst_7 : decode cX8_worst 7 = .ok (.istore_n 2, 1) := by decide +kernel
theorem dX8_worst_8 : decode cX8_worst 8 = .ok (.iload_n 2, 1) := by decide +kernel
theorem dX8_worst_9 : decode cX8_worst 9 = .ok (.ifCond .ne 10, 3) := by decide +kernel
theorem dX8_worst_12 : decode cX8_worst 12 = .ok (.aload_n 0, 1) := by decide +kernel
theorem dX8_worst_13 : decode cX8_worst 13 = .ok (.invokevirtual 205, 3) := by decide +kernel
theorem dX8_worst_16 : decode cX8_worst 16 = .ok (.goto 4, 3) := by decide +kernel
theorem dX8_worst_19 : decode cX8_worst 19 = .ok (.iload_n 2, 1) := by decide +kernel
theorem dX8_worst_20 : decode cX8_worst 20 = .ok (.ireturn, 1) := by decide +kernel
theorem dX8_hardest_0 : decode cX8_hardest 0 = .ok (.aload_n 0, 1) := by decide +kernel
theorem dX8_hardest_1 : decode cX8_hardest 1 = .ok (.iload_n 1, 1) := by decide +kernel
theorem dX8_hardest_2 : decode cX8_hardest 2 = .ok (.bipush (-9), 2) := by decide +kernel
theorem dX8_hardest_4 : decode cX8_hardest 4 = .ok (.invokevirtual 194, 3) := by decide +kernel
theorem dX8_hardest_7 : decode cX8_hardest 7 = .ok (.ifCond .eq 6, 3) := by decide +kernel
theorem dX8_hardest_10 : decode cX8_hardest 10 = .ok (.bipush (-2), 2) := by decide +kernel
theorem dX8_hardest_12 : decode cX8_hardest 12 = .ok (.ireturn, 1) := by decide +kernel
theorem dX8_hardest_13 : decode cX8_hardest 13 = .ok (.aload_n 0, 1) := by decide +kernel
theorem dX8_hardest_14 : decode cX8_hardest 14 = .ok (.invokevirtual 91, 3) := by decide +kernel
theorem dX8_hardest_17 : decode cX8_hardest 17 = .ok (.aload_n 0, 1) := by decide +kernel
theorem dX8_hardest_18 : decode cX8_hardest 18 = .ok (.invokevirtual 205, 3) := by decide +kernel
theorem dX8_hardest_21 : decode cX8_hardest 21 = .ok (.istore_n 2, 1) := by decide +kernel
theorem dX8_hardest_22 : decode cX8_hardest 22 = .ok (.bipush (-9), 2) := by decide +kernel
theorem dX8_hardest_24 : decode cX8_hardest 24 = .ok (.istore_n 3, 1) := by decide +kernel
theorem dX8_hardest_25 : decode cX8_hardest 25 = .ok (.iconst 0, 1) := by decide +kernel
theorem dX8_hardest_26 : decode cX8_hardest 26 = .ok (.istore 4, 2) := by decide +kernel
theorem dX8_hardest_28 : decode cX8_hardest 28 = .ok (.iload 4, 2) := by decide +kernel
theorem dX8_hardest_30 : decode cX8_hardest 30 = .ok (.aload_n 0, 1) := by decide +kernel
theorem dX8_hardest_31 : decode cX8_hardest 31 = .ok (.getfield 125, 3) := by decide +kernel
theorem dX8_hardest_34 : decode cX8_hardest 34 = .ok (.if_icmp .ge 48, 3) := by decide +kernel
theorem dX8_hardest_37 : decode cX8_hardest 37 = .ok (.aload_n 0, 1) := by decide +kernel
theorem dX8_hardest_38 : decode cX8_hardest 38 = .ok (.getfield 45, 3) := by decide +kernel
theorem dX8_hardest_41 : decode cX8_hardest 41 = .ok (.iload 4, 2) := by decide +kernel
theorem dX8_hardest_43 : decode cX8_hardest 43 = .ok (.iaload, 1) := by decide +kernel
theorem dX8_hardest_44 : decode cX8_hardest 44 = .ok (.iload_n 2, 1) := by decide +kernel
theorem dX8_hardest_45 : decode cX8_hardest 45 = .ok (.if_icmp .ne 29, 3) := by decide +kernel
theorem dX8_hardest_48 : decode cX8_hardest 48 = .ok (.iload_n 3, 1) := by decide +kernel
theorem dX8_hardest_49 : decode cX8_hardest 49 = .ok (.ifCond .lt 20, 3) := by decide +kernel
theorem dX8_hardest_52 : decode cX8_hardest 52 = .ok (.aload_n 0, 1) := by decide +kernel
theorem dX8_hardest_53 : decode cX8_hardest 53 = .ok (.getfield 38, 3) := by decide +kernel
theorem dX8_hardest_56 : decode cX8_hardest 56 = .ok (.iload 4, 2) := by decide +kernel
theorem dX8_hardest_58 : decode cX8_hardest 58 = .ok (.laload, 1) := by decide +kernel
theorem dX8_hardest_59 : decode cX8_hardest 59 = .ok (.aload_n 0, 1) := by decide +kernel
theorem dX8_hardest_60 : decode cX8_hardest 60 = .ok (.getfield 38, 3) := by decide +kernel
theorem dX8_hardest_63 : decode cX8_hardest 63 = .ok (.iload_n 3, 1) := by decide +kernel
theorem dX8_hardest_64 : decode cX8_hardest 64 = .ok (.laload, 1) := by decide +kernel
theorem dX8_hardest_65 : decode cX8_hardest 65 = .ok (.lcmp, 1) := by decide +kernel
theorem dX8_hardest_66 : decode cX8_hardest 66 = .ok (.ifCond .ge 8, 3) := by decide +kernel
theorem dX8_hardest_69 : decode cX8_hardest 69 = .ok (.iload 4, 2) := by decide +kernel
theorem dX8_hardest_71 : decode cX8_hardest 71 = .ok (.goto 4, 3) := by decide +kernel
theorem dX8_hardest_74 : decode cX8_hardest 74 = .ok (.iload_n 3, 1) := by decide +kernel
theorem dX8_hardest_75 : decode cX8_hardest 75 = .ok (.istore_n 3, 1) := by decide +kernel
theorem dX8_hardest_76 : decode cX8_hardest 76 = .ok (.iinc 4 1, 3) := by decide +kernel
theorem dX8_hardest_79 : decode cX8_hardest 79 = .ok (.goto (-51), 3) := by decide +kernel
theorem dX8_hardest_82 : decode cX8_hardest 82 = .ok (.iconst 0, 1) := by decide +kernel
theorem dX8_hardest_83 : decode cX8_hardest 83 = .ok (.istore 4, 2) := by decide +kernel
theorem dX8_hardest_85 : decode cX8_hardest 85 = .ok (.iload 4, 2) := by decide +kernel
theorem dX8_hardest_87 : decode cX8_hardest 87 = .ok (.aload_n 0, 1) := by decide +kernel
theorem dX8_hardest_88 : decode cX8_hardest 88 = .ok (.getfield 7, 3) := by decide +kernel
theorem dX8_hardest_91 : decode cX8_hardest 91 = .ok (.iconst 2, 1) := by decide +kernel
theorem dX8_hardest_92 : decode cX8_hardest 92 = .ok (.iaload, 1) := by decide +kernel
theorem dX8_hardest_93 : decode cX8_hardest 93 = .ok (.if_icmp .ge 30, 3) := by decide +kernel
theorem dX8_hardest_96 : decode cX8_hardest 96 = .ok (.aload_n 0, 1) := by decide +kernel
theorem dX8_hardest_97 : decode cX8_hardest 97 = .ok (.getfield 7, 3) := by decide +kernel
theorem dX8_hardest_100 : decode cX8_hardest 100 = .ok (.bipush 31, 2) := by decide +kernel
theorem dX8_hardest_102 : decode cX8_hardest 102 = .ok (.iload 4, 2) := by decide +kernel
theorem dX8_hardest_104 : decode cX8_hardest 104 = .ok (.iadd, 1) := by decide +kernel
theorem dX8_hardest_105 : decode cX8_hardest 105 = .ok (.aload_n 0, 1) := by decide +kernel
theorem dX8_hardest_106 : decode cX8_hardest 106 = .ok (.getfield 38, 3) := by decide +kernel
theorem dX8_hardest_109 : decode cX8_hardest 109 = .ok (.iload_n 3, 1) := by decide +kernel
theorem dX8_hardest_110 : decode cX8_hardest 110 = .ok (.laload, 1) := by decide +kernel
theorem dX8_hardest_111 : decode cX8_hardest 111 = .ok (.iload 4, 2) := by decide +kernel
theorem dX8_hardest_113 : decode cX8_hardest 113 = .ok (.invokestatic 109, 3) := by decide +kernel
theorem dX8_hardest_116 : decode cX8_hardest 116 = .ok (.iastore, 1) := by decide +kernel
theorem dX8_hardest_117 : decode cX8_hardest 117 = .ok (.iinc 4 1, 3) := by decide +kernel
theorem dX8_hardest_120 : decode cX8_hardest 120 = .ok (.goto (-35), 3) := by decide +kernel
theorem dX8_hardest_123 : decode cX8_hardest 123 = .ok (.aload_n 0, 1) := by decide +kernel
theorem dX8_hardest_124 : decode cX8_hardest 124 = .ok (.getfield 7, 3) := by decide +kernel
theorem dX8_hardest_127 : decode cX8_hardest 127 = .ok (.iconst 4, 1) := by decide +kernel
theorem dX8_hardest_128 : decode cX8_hardest 128 = .ok (.iconst 0, 1) := by decide +kernel
theorem dX8_hardest_129 : decode cX8_hardest 129 = .ok (.iastore, 1) := by decide +kernel
theorem dX8_hardest_130 : decode cX8_hardest 130 = .ok (.aload_n 0, 1) := by decide +kernel
theorem dX8_hardest_131 : decode cX8_hardest 131 = .ok (.getfield 7, 3) := by decide +kernel
theorem dX8_hardest_134 : decode cX8_hardest 134 = .ok (.iconst 5, 1) := by decide +kernel
theorem dX8_hardest_135 : decode cX8_hardest 135 = .ok (.iconst 0, 1) := by decide +kernel
theorem dX8_hardest_136 : decode cX8_hardest 136 = .ok (.iastore, 1) := by decide +kernel
theorem dX8_hardest_137 : decode cX8_hardest 137 = .ok (.aload_n 0, 1) := by decide +kernel
theorem dX8_hardest_138 : decode cX8_hardest 138 = .ok (.getfield 7, 3) := by decide +kernel
theorem dX8_hardest_141 : decode cX8_hardest 141 = .ok (.bipush 8, 2) := by decide +kernel
theorem dX8_hardest_143 : decode cX8_hardest 143 = .ok (.bipush (-9), 2) := by decide +kernel
theorem dX8_hardest_145 : decode cX8_hardest 145 = .ok (.iastore, 1) := by decide +kernel
theorem dX8_hardest_146 : decode cX8_hardest 146 = .ok (.iload_n 2, 1) := by decide +kernel
theorem dX8_hardest_147 : decode cX8_hardest 147 = .ok (.ireturn, 1) := by decide +kernel
theorem dX8_mean_0 : decode cX8_mean 0 = .ok (.aload_n 0, 1) := by decide +kernel
theorem dX8_mean_1 : decode cX8_mean 1 = .ok (.iload_n 1, 1) := by decide +kernel
theorem dX8_mean_2 : decode cX8_mean 2 = .ok (.bipush (-9), 2) := by decide +kernel
theorem dX8_mean_4 : decode cX8_mean 4 = .ok (.invokevirtual 194, 3) := by decide +kernel
theorem dX8_mean_7 : decode cX8_mean 7 = .ok (.ifCond .eq 6, 3) := by decide +kernel
theorem dX8_mean_10 : decode cX8_mean 10 = .ok (.ldc 208, 2) := by decide +kernel
theorem dX8_mean_12 : decode cX8_mean 12 = .ok (.freturn, 1) := by decide +kernel
theorem dX8_mean_13 : decode cX8_mean 13 = .ok (.iconst 0, 1) := by decide +kernel
theorem dX8_mean_14 : decode cX8_mean 14 = .ok (.istore_n 2, 1) := by decide +kernel
theorem dX8_mean_15 : decode cX8_mean 15 = .ok (.iconst 0, 1) := by decide +kernel
theorem dX8_mean_16 : decode cX8_mean 16 = .ok (.istore_n 3, 1) := by decide +kernel
theorem dX8_mean_17 : decode cX8_mean 17 = .ok (.iload_n 3, 1) := by decide +kernel
theorem dX8_mean_18 : decode cX8_mean 18 = .ok (.aload_n 0, 1) := by decide +kernel
theorem dX8_mean_19 : decode cX8_mean 19 = .ok (.getfield 125, 3) := by decide +kernel
theorem dX8_mean_22 : decode cX8_mean 22 = .ok (.if_icmp .ge 18, 3) := by decide +kernel
theorem dX8_mean_25 : decode cX8_mean 25 = .ok (.iload_n 2, 1) := by decide +kernel
theorem dX8_mean_26 : decode cX8_mean 26 = .ok (.aload_n 0, 1) := by decide +kernel
theorem dX8_mean_27 : decode cX8_mean 27 = .ok (.getfield 45, 3) := by decide +kernel
theorem dX8_mean_30 : decode cX8_mean 30 = .ok (.iload_n 3, 1) := by decide +kernel
theorem dX8_mean_31 : decode cX8_mean 31 = .ok (.iaload, 1) := by decide +kernel
theorem dX8_mean_32 : decode cX8_mean 32 = .ok (.iadd, 1) := by decide +kernel
theorem dX8_mean_33 : decode cX8_mean 33 = .ok (.istore_n 2, 1) := by decide +kernel
theorem dX8_mean_34 : decode cX8_mean 34 = .ok (.iinc 3 1, 3) := by decide +kernel
theorem dX8_mean_37 : decode cX8_mean 37 = .ok (.goto (-20), 3) := by decide +kernel
theorem dX8_mean_40 : decode cX8_mean 40 = .ok (.iload_n 2, 1) := by decide +kernel
theorem dX8_mean_41 : decode cX8_mean 41 = .ok (.i2f, 1) := by decide +kernel
theorem dX8_mean_42 : decode cX8_mean 42 = .ok (.aload_n 0, 1) := by decide +kernel
theorem dX8_mean_43 : decode cX8_mean 43 = .ok (.getfield 125, 3) := by decide +kernel
theorem dX8_mean_46 : decode cX8_mean 46 = .ok (.i2f, 1) := by decide +kernel
theorem dX8_mean_47 : decode cX8_mean 47 = .ok (.fdiv, 1) := by decide +kernel
theorem dX8_mean_48 : decode cX8_mean 48 = .ok (.freturn, 1) := by decide +kernel
theorem dX8_places__0 : decode cX8_places_ 0 = .ok (.aload_n 0, 1) := by decide +kernel
theorem dX8_places__1 : decode cX8_places_ 1 = .ok (.iload_n 1, 1) := by decide +kernel
theorem dX8_places__2 : decode cX8_places_ 2 = .ok (.invokevirtual 176, 3) := by decide +kernel
theorem dX8_places__5 : decode cX8_places_ 5 = .ok (.ifCond .ne 5, 3) := by decide +kernel
theorem dX8_places__8 : decode cX8_places_ 8 = .ok (.iconst (-1), 1) := by decide +kernel
theorem dX8_places__9 : decode cX8_places_ 9 = .ok (.ireturn, 1) := by decide +kernel
theorem dX8_places__10 : decode cX8_places_ 10 = .ok (.aload_n 0, 1) := by decide +kernel
theorem dX8_places__11 : decode cX8_places_ 11 = .ok (.bipush (-9), 2) := by decide +kernel
theorem dX8_places__13 : decode cX8_places_ 13 = .ok (.invokevirtual 154, 3) := by decide +kernel
theorem dX8_places__16 : decode cX8_places_ 16 = .ok (.iconst 0, 1) := by decide +kernel
theorem dX8_places__17 : decode cX8_places_ 17 = .ok (.istore_n 2, 1) := by decide +kernel
theorem dX8_places__18 : decode cX8_places_ 18 = .ok (.iconst 0, 1) := by decide +kernel
theorem dX8_places__19 : decode cX8_places_ 19 = .ok (.istore_n 3, 1) := by decide +kernel
theorem dX8_places__20 : decode cX8_places_ 20 = .ok (.iload_n 3, 1) := by decide +kernel
theorem dX8_places__21 : decode cX8_places_ 21 = .ok (.aload_n 0, 1) := by decide +kernel
theorem dX8_places__22 : decode cX8_places_ 22 = .ok (.getfield 125, 3) := by decide +kernel
theorem dX8_places__25 : decode cX8_places_ 25 = .ok (.if_icmp .ge 24, 3) := by decide +kernel
theorem dX8_places__28 : decode cX8_places_ 28 = .ok (.iload_n 2, 1) := by decide +kernel
theorem dX8_places__29 : decode cX8_places_ 29 = .ok (.iconst 1, 1) := by decide +kernel
theorem dX8_places__30 : decode cX8_places_ 30 = .ok (.aload_n 0, 1) := by decide +kernel
theorem dX8_places__31 : decode cX8_places_ 31 = .ok (.getfield 38, 3) := by decide +kernel
theorem dX8_places__34 : decode cX8_places_ 34 = .ok (.iload_n 3, 1) := by decide +kernel
theorem dX8_places__35 : decode cX8_places_ 35 = .ok (.laload, 1) := by decide +kernel
theorem dX8_places__36 : decode cX8_places_ 36 = .ok (.iload_n 1, 1) := by decide +kernel
theorem dX8_places__37 : decode cX8_places_ 37 = .ok (.invokestatic 109, 3) := by decide +kernel
theorem dX8_places__40 : decode cX8_places_ 40 = .ok (.ishl, 1) := by decide +kernel
theorem dX8_places__41 : decode cX8_places_ 41 = .ok (.ior, 1) := by decide +kernel
theorem dX8_places__42 : decode cX8_places_ 42 = .ok (.istore_n 2, 1) := by decide +kernel
theorem dX8_places__43 : decode cX8_places_ 43 = .ok (.iinc 3 1, 3) := by decide +kernel
theorem dX8_places__46 : decode cX8_places_ 46 = .ok (.goto (-26), 3) := by decide +kernel
theorem dX8_places__49 : decode cX8_places_ 49 = .ok (.aload_n 0, 1) := by decide +kernel
theorem dX8_places__50 : decode cX8_places_ 50 = .ok (.getfield 128, 3) := by decide +kernel
theorem dX8_places__53 : decode cX8_places_ 53 = .ok (.ifCond .eq 8, 3) := by decide +kernel
theorem dX8_places__56 : decode cX8_places_ 56 = .ok (.bipush (-3), 2) := by decide +kernel
theorem dX8_places__58 : decode cX8_places_ 58 = .ok (.goto 4, 3) := by decide +kernel
theorem dX8_places__61 : decode cX8_places_ 61 = .ok (.iload_n 2, 1) := by decide +kernel
theorem dX8_places__62 : decode cX8_places_ 62 = .ok (.ireturn, 1) := by decide +kernel
theorem dX8_without_0 : decode cX8_without 0 = .ok (.aload_n 0, 1) := by decide +kernel
theorem dX8_without_1 : decode cX8_without 1 = .ok (.iload_n 1, 1) := by decide +kernel
theorem dX8_without_2 : decode cX8_without 2 = .ok (.invokevirtual 176, 3) := by decide +kernel
theorem dX8_without_5 : decode cX8_without 5 = .ok (.ifCond .ne 5, 3) := by decide +kernel
theorem dX8_without_8 : decode cX8_without 8 = .ok (.iconst (-1), 1) := by decide +kernel
theorem dX8_without_9 : decode cX8_without 9 = .ok (.ireturn, 1) := by decide +kernel
theorem dX8_without_10 : decode cX8_without 10 = .ok (.aload_n 0, 1) := by decide +kernel
theorem dX8_without_11 : decode cX8_without 11 = .ok (.getfield 7, 3) := by decide +kernel
theorem dX8_without_14 : decode cX8_without 14 = .ok (.bipush 6, 2) := by decide +kernel
theorem dX8_without_16 : decode cX8_without 16 = .ok (.iaload, 1) := by decide +kernel
theorem dX8_without_17 : decode cX8_without 17 = .ok (.ifCond .lt 14, 3) := by decide +kernel
theorem dX8_without_20 : decode cX8_without 20 = .ok (.aload_n 0, 1) := by decide +kernel
theorem dX8_without_21 : decode cX8_without 21 = .ok (.getfield 7, 3) := by decide +kernel
theorem dX8_without_24 : decode cX8_without 24 = .ok (.bipush 6, 2) := by decide +kernel
theorem dX8_without_26 : decode cX8_without 26 = .ok (.iaload, 1) := by decide +kernel
theorem dX8_without_27 : decode cX8_without 27 = .ok (.iload_n 1, 1) := by decide +kernel
theorem dX8_without_28 : decode cX8_without 28 = .ok (.if_icmp .ne 6, 3) := by decide +kernel
theorem dX8_without_31 : decode cX8_without 31 = .ok (.bipush (-2), 2) := by decide +kernel
theorem dX8_without_33 : decode cX8_without 33 = .ok (.ireturn, 1) := by decide +kernel
theorem dX8_without_34 : decode cX8_without 34 = .ok (.aload_n 0, 1) := by decide +kernel
theorem dX8_without_35 : decode cX8_without 35 = .ok (.iload_n 2, 1) := by decide +kernel
theorem dX8_without_36 : decode cX8_without 36 = .ok (.iload_n 1, 1) := by decide +kernel
theorem dX8_without_37 : decode cX8_without 37 = .ok (.invokevirtual 194, 3) := by decide +kernel
theorem dX8_without_40 : decode cX8_without 40 = .ok (.istore_n 3, 1) := by decide +kernel
theorem dX8_without_41 : decode cX8_without 41 = .ok (.iload_n 3, 1) := by decide +kernel
theorem dX8_without_42 : decode cX8_without 42 = .ok (.ifCond .ne 12, 3) := by decide +kernel
theorem dX8_without_45 : decode cX8_without 45 = .ok (.aload_n 0, 1) := by decide +kernel
theorem dX8_without_46 : decode cX8_without 46 = .ok (.getfield 45, 3) := by decide +kernel
theorem dX8_without_49 : decode cX8_without 49 = .ok (.iconst 0, 1) := by decide +kernel
theorem dX8_without_50 : decode cX8_without 50 = .ok (.iaload, 1) := by decide +kernel
theorem dX8_without_51 : decode cX8_without 51 = .ok (.goto 4, 3) := by decide +kernel
theorem dX8_without_54 : decode cX8_without 54 = .ok (.iload_n 3, 1) := by decide +kernel
theorem dX8_without_55 : decode cX8_without 55 = .ok (.ireturn, 1) := by decide +kernel
theorem dX8_undo_0 : decode cX8_undo 0 = .ok (.aload_n 0, 1) := by decide +kernel
theorem dX8_undo_1 : decode cX8_undo 1 = .ok (.getfield 51, 3) := by decide +kernel
theorem dX8_undo_4 : decode cX8_undo 4 = .ok (.ifCond .ne 6, 3) := by decide +kernel
theorem dX8_undo_7 : decode cX8_undo 7 = .ok (.bipush (-9), 2) := by decide +kernel
theorem dX8_undo_9 : decode cX8_undo 9 = .ok (.ireturn, 1) := by decide +kernel
theorem dX8_undo_10 : decode cX8_undo 10 = .ok (.aload_n 0, 1) := by decide +kernel
theorem dX8_undo_11 : decode cX8_undo 11 = .ok (.dup, 1) := by decide +kernel
theorem dX8_undo_12 : decode cX8_undo 12 = .ok (.getfield 51, 3) := by decide +kernel
theorem dX8_undo_15 : decode cX8_undo 15 = .ok (.iconst 1, 1) := by decide +kernel
theorem dX8_undo_16 : decode cX8_undo 16 = .ok (.isub, 1) := by decide +kernel
theorem dX8_undo_17 : decode cX8_undo 17 = .ok (.putfield 51, 3) := by decide +kernel
theorem dX8_undo_20 : decode cX8_undo 20 = .ok (.iconst 0, 1) := by decide +kernel
theorem dX8_undo_21 : decode cX8_undo 21 = .ok (.istore_n 1, 1) := by decide +kernel
theorem dX8_undo_22 : decode cX8_undo 22 = .ok (.iload_n 1, 1) := by decide +kernel
theorem dX8_undo_23 : decode cX8_undo 23 = .ok (.bipush 44, 2) := by decide +kernel
theorem dX8_undo_25 : decode cX8_undo 25 = .ok (.if_icmp .ge 29, 3) := by decide +kernel
theorem dX8_undo_28 : decode cX8_undo 28 = .ok (.aload_n 0, 1) := by decide +kernel
theorem dX8_undo_29 : decode cX8_undo 29 = .ok (.getfield 7, 3) := by decide +kernel
theorem dX8_undo_32 : decode cX8_undo 32 = .ok (.iload_n 1, 1) := by decide +kernel
theorem dX8_undo_33 : decode cX8_undo 33 = .ok (.aload_n 0, 1) := by decide +kernel
theorem dX8_undo_34 : decode cX8_undo 34 = .ok (.getfield 13, 3) := by decide +kernel
theorem dX8_undo_37 : decode cX8_undo 37 = .ok (.bipush 44, 2) := by decide +kernel
theorem dX8_undo_39 : decode cX8_undo 39 = .ok (.aload_n 0, 1) := by decide +kernel
theorem dX8_undo_40 : decode cX8_undo 40 = .ok (.getfield 51, 3) := by decide +kernel
theorem dX8_undo_43 : decode cX8_undo 43 = .ok (.imul, 1) := by decide +kernel
theorem dX8_undo_44 : decode cX8_undo 44 = .ok (.iload_n 1, 1) := by decide +kernel
theorem dX8_undo_45 : decode cX8_undo 45 = .ok (.iadd, 1) := by decide +kernel
theorem dX8_undo_46 : decode cX8_undo 46 = .ok (.iaload, 1) := by decide +kernel
theorem dX8_undo_47 : decode cX8_undo 47 = .ok (.iastore, 1) := by decide +kernel
theorem dX8_undo_48 : decode cX8_undo 48 = .ok (.iinc 1 1, 3) := by decide +kernel
theorem dX8_undo_51 : decode cX8_undo 51 = .ok (.goto (-29), 3) := by decide +kernel
theorem dX8_undo_54 : decode cX8_undo 54 = .ok (.aload_n 0, 1) := by decide +kernel
theorem dX8_undo_55 : decode cX8_undo 55 = .ok (.getfield 51, 3) := by decide +kernel
theorem dX8_undo_58 : decode cX8_undo 58 = .ok (.ireturn, 1) := by decide +kernel
theorem dX8_fingerprint_0 : decode cX8_fingerprint 0 = .ok (.ldc2_w 209, 3) := by decide +kernel
theorem dX8_fingerprint_3 : decode cX8_fingerprint 3 = .ok (.lstore_n 1, 1) := by decide +kernel
theorem dX8_fingerprint_4 : decode cX8_fingerprint 4 = .ok (.iconst 0, 1) := by decide +kernel
theorem dX8_fingerprint_5 : decode cX8_fingerprint 5 = .ok (.istore_n 3, 1) := by decide +kernel
theorem dX8_fingerprint_6 : decode cX8_fingerprint 6 = .ok (.iload_n 3, 1) := by decide +kernel
theorem dX8_fingerprint_7 : decode cX8_fingerprint 7 = .ok (.bipush 9, 2) := by decide +kernel
theorem dX8_fingerprint_9 : decode cX8_fingerprint 9 = .ok (.if_icmp .ge 22, 3) := by decide +kernel
theorem dX8_fingerprint_12 : decode cX8_fingerprint 12 = .ok (.ldc2_w 101, 3) := by decide +kernel
theorem dX8_fingerprint_15 : decode cX8_fingerprint 15 = .ok (.lload_n 1, 1) := by decide +kernel
theorem dX8_fingerprint_16 : decode cX8_fingerprint 16 = .ok (.lmul, 1) := by decide +kernel
theorem dX8_fingerprint_17 : decode cX8_fingerprint 17 = .ok (.aload_n 0, 1) := by decide +kernel
theorem dX8_fingerprint_18 : decode cX8_fingerprint 18 = .ok (.iload_n 3, 1) := by decide +kernel
theorem dX8_fingerprint_19 : decode cX8_fingerprint 19 = .ok (.invokevirtual 170, 3) := by decide +kernel
theorem dX8_fingerprint_22 : decode cX8_fingerprint 22 = .ok (.i2l, 1) := by decide +kernel
theorem dX8_fingerprint_23 : decode cX8_fingerprint 23 = .ok (.ladd, 1) := by decide +kernel
theorem dX8_fingerprint_24 : decode cX8_fingerprint 24 = .ok (.lstore_n 1, 1) := by decide +kernel
theorem dX8_fingerprint_25 : decode cX8_fingerprint 25 = .ok (.iinc 3 1, 3) := by decide +kernel
theorem dX8_fingerprint_28 : decode cX8_fingerprint 28 = .ok (.goto (-22), 3) := by decide +kernel
theorem dX8_fingerprint_31 : decode cX8_fingerprint 31 = .ok (.iconst 0, 1) := by decide +kernel
theorem dX8_fingerprint_32 : decode cX8_fingerprint 32 = .ok (.istore_n 3, 1) := by decide +kernel
theorem dX8_fingerprint_33 : decode cX8_fingerprint 33 = .ok (.iload_n 3, 1) := by decide +kernel
theorem dX8_fingerprint_34 : decode cX8_fingerprint 34 = .ok (.aload_n 0, 1) := by decide +kernel
theorem dX8_fingerprint_35 : decode cX8_fingerprint 35 = .ok (.invokevirtual 98, 3) := by decide +kernel
theorem dX8_fingerprint_38 : decode cX8_fingerprint 38 = .ok (.if_icmp .ge 22, 3) := by decide +kernel
theorem dX8_fingerprint_41 : decode cX8_fingerprint 41 = .ok (.ldc2_w 101, 3) := by decide +kernel
theorem dX8_fingerprint_44 : decode cX8_fingerprint 44 = .ok (.lload_n 1, 1) := by decide +kernel
theorem dX8_fingerprint_45 : decode cX8_fingerprint 45 = .ok (.lmul, 1) := by decide +kernel
theorem dX8_fingerprint_46 : decode cX8_fingerprint 46 = .ok (.aload_n 0, 1) := by decide +kernel
theorem dX8_fingerprint_47 : decode cX8_fingerprint 47 = .ok (.iload_n 3, 1) := by decide +kernel
theorem dX8_fingerprint_48 : decode cX8_fingerprint 48 = .ok (.invokevirtual 173, 3) := by decide +kernel
theorem dX8_fingerprint_51 : decode cX8_fingerprint 51 = .ok (.i2l, 1) := by decide +kernel
theorem dX8_fingerprint_52 : decode cX8_fingerprint 52 = .ok (.ladd, 1) := by decide +kernel
theorem dX8_fingerprint_53 : decode cX8_fingerprint 53 = .ok (.lstore_n 1, 1) := by decide +kernel
theorem dX8_fingerprint_54 : decode cX8_fingerprint 54 = .ok (.iinc 3 1, 3) := by decide +kernel
theorem dX8_fingerprint_57 : decode cX8_fingerprint 57 = .ok (.goto (-24), 3) := by decide +kernel
theorem dX8_fingerprint_60 : decode cX8_fingerprint 60 = .ok (.iconst 0, 1) := by decide +kernel
theorem dX8_fingerprint_61 : decode cX8_fingerprint 61 = .ok (.istore_n 3, 1) := by decide +kernel
theorem dX8_fingerprint_62 : decode cX8_fingerprint 62 = .ok (.iload_n 3, 1) := by decide +kernel
theorem dX8_fingerprint_63 : decode cX8_fingerprint 63 = .ok (.aload_n 0, 1) := by decide +kernel
theorem dX8_fingerprint_64 : decode cX8_fingerprint 64 = .ok (.getfield 7, 3) := by decide +kernel
theorem dX8_fingerprint_67 : decode cX8_fingerprint 67 = .ok (.iconst 2, 1) := by decide +kernel
theorem dX8_fingerprint_68 : decode cX8_fingerprint 68 = .ok (.iaload, 1) := by decide +kernel
theorem dX8_fingerprint_69 : decode cX8_fingerprint 69 = .ok (.if_icmp .ge 40, 3) := by decide +kernel
theorem dX8_fingerprint_72 : decode cX8_fingerprint 72 = .ok (.iconst 0, 1) := by decide +kernel
theorem dX8_fingerprint_73 : decode cX8_fingerprint 73 = .ok (.istore 4, 2) := by decide +kernel
theorem dX8_fingerprint_75 : decode cX8_fingerprint 75 = .ok (.iload 4, 2) := by decide +kernel
theorem dX8_fingerprint_77 : decode cX8_fingerprint 77 = .ok (.bipush 7, 2) := by decide +kernel
theorem dX8_fingerprint_79 : decode cX8_fingerprint 79 = .ok (.if_icmp .ge 24, 3) := by decide +kernel
theorem dX8_fingerprint_82 : decode cX8_fingerprint 82 = .ok (.ldc2_w 101, 3) := by decide +kernel
theorem dX8_fingerprint_85 : decode cX8_fingerprint 85 = .ok (.lload_n 1, 1) := by decide +kernel
theorem dX8_fingerprint_86 : decode cX8_fingerprint 86 = .ok (.lmul, 1) := by decide +kernel
theorem dX8_fingerprint_87 : decode cX8_fingerprint 87 = .ok (.aload_n 0, 1) := by decide +kernel
theorem dX8_fingerprint_88 : decode cX8_fingerprint 88 = .ok (.iload_n 3, 1) := by decide +kernel
theorem dX8_fingerprint_89 : decode cX8_fingerprint 89 = .ok (.iload 4, 2) := by decide +kernel
theorem dX8_fingerprint_91 : decode cX8_fingerprint 91 = .ok (.invokevirtual 179, 3) := by decide +kernel
theorem dX8_fingerprint_94 : decode cX8_fingerprint 94 = .ok (.i2l, 1) := by decide +kernel
theorem dX8_fingerprint_95 : decode cX8_fingerprint 95 = .ok (.ladd, 1) := by decide +kernel
theorem dX8_fingerprint_96 : decode cX8_fingerprint 96 = .ok (.lstore_n 1, 1) := by decide +kernel
theorem dX8_fingerprint_97 : decode cX8_fingerprint 97 = .ok (.iinc 4 1, 3) := by decide +kernel
theorem dX8_fingerprint_100 : decode cX8_fingerprint 100 = .ok (.goto (-25), 3) := by decide +kernel
theorem dX8_fingerprint_103 : decode cX8_fingerprint 103 = .ok (.iinc 3 1, 3) := by decide +kernel
theorem dX8_fingerprint_106 : decode cX8_fingerprint 106 = .ok (.goto (-44), 3) := by decide +kernel
theorem dX8_fingerprint_109 : decode cX8_fingerprint 109 = .ok (.ldc2_w 101, 3) := by decide +kernel
theorem dX8_fingerprint_112 : decode cX8_fingerprint 112 = .ok (.lload_n 1, 1) := by decide +kernel
theorem dX8_fingerprint_113 : decode cX8_fingerprint 113 = .ok (.lmul, 1) := by decide +kernel
theorem dX8_fingerprint_114 : decode cX8_fingerprint 114 = .ok (.aload_n 0, 1) := by decide +kernel
theorem dX8_fingerprint_115 : decode cX8_fingerprint 115 = .ok (.invokevirtual 191, 3) := by decide +kernel
theorem dX8_fingerprint_118 : decode cX8_fingerprint 118 = .ok (.i2l, 1) := by decide +kernel
theorem dX8_fingerprint_119 : decode cX8_fingerprint 119 = .ok (.ladd, 1) := by decide +kernel
theorem dX8_fingerprint_120 : decode cX8_fingerprint 120 = .ok (.lstore_n 1, 1) := by decide +kernel
theorem dX8_fingerprint_121 : decode cX8_fingerprint 121 = .ok (.ldc2_w 101, 3) := by decide +kernel
theorem dX8_fingerprint_124 : decode cX8_fingerprint 124 = .ok (.lload_n 1, 1) := by decide +kernel
theorem dX8_fingerprint_125 : decode cX8_fingerprint 125 = .ok (.lmul, 1) := by decide +kernel
theorem dX8_fingerprint_126 : decode cX8_fingerprint 126 = .ok (.aload_n 0, 1) := by decide +kernel
theorem dX8_fingerprint_127 : decode cX8_fingerprint 127 = .ok (.iconst 0, 1) := by decide +kernel
theorem dX8_fingerprint_128 : decode cX8_fingerprint 128 = .ok (.invokevirtual 198, 3) := by decide +kernel
theorem dX8_fingerprint_131 : decode cX8_fingerprint 131 = .ok (.i2l, 1) := by decide +kernel
theorem dX8_fingerprint_132 : decode cX8_fingerprint 132 = .ok (.ladd, 1) := by decide +kernel
theorem dX8_fingerprint_133 : decode cX8_fingerprint 133 = .ok (.lstore_n 1, 1) := by decide +kernel
theorem dX8_fingerprint_134 : decode cX8_fingerprint 134 = .ok (.ldc2_w 101, 3) := by decide +kernel
theorem dX8_fingerprint_137 : decode cX8_fingerprint 137 = .ok (.lload_n 1, 1) := by decide +kernel
theorem dX8_fingerprint_138 : decode cX8_fingerprint 138 = .ok (.lmul, 1) := by decide +kernel
theorem dX8_fingerprint_139 : decode cX8_fingerprint 139 = .ok (.aload_n 0, 1) := by decide +kernel
theorem dX8_fingerprint_140 : decode cX8_fingerprint 140 = .ok (.iconst 1, 1) := by decide +kernel
theorem dX8_fingerprint_141 : decode cX8_fingerprint 141 = .ok (.invokevirtual 198, 3) := by decide +kernel
theorem dX8_fingerprint_144 : decode cX8_fingerprint 144 = .ok (.i2l, 1) := by decide +kernel
theorem dX8_fingerprint_145 : decode cX8_fingerprint 145 = .ok (.ladd, 1) := by decide +kernel
theorem dX8_fingerprint_146 : decode cX8_fingerprint 146 = .ok (.lreturn, 1) := by decide +kernel
theorem dJ6_bitCount_0f7a4_0 : decode cJ6_bitCount_0f7a4 0 = .ok (.iload_n 0, 1) := by decide +kernel
theorem dJ6_bitCount_0f7a4_1 : decode cJ6_bitCount_0f7a4 1 = .ok (.iload_n 0, 1) := by decide +kernel
theorem dJ6_bitCount_0f7a4_2 : decode cJ6_bitCount_0f7a4 2 = .ok (.iconst 1, 1) := by decide +kernel
theorem dJ6_bitCount_0f7a4_3 : decode cJ6_bitCount_0f7a4 3 = .ok (.iushr, 1) := by decide +kernel
theorem dJ6_bitCount_0f7a4_4 : decode cJ6_bitCount_0f7a4 4 = .ok (.ldc_w 265, 3) := by decide +kernel
theorem dJ6_bitCount_0f7a4_7 : decode cJ6_bitCount_0f7a4 7 = .ok (.iand, 1) := by decide +kernel
theorem dJ6_bitCount_0f7a4_8 : decode cJ6_bitCount_0f7a4 8 = .ok (.isub, 1) := by decide +kernel
theorem dJ6_bitCount_0f7a4_9 : decode cJ6_bitCount_0f7a4 9 = .ok (.istore_n 0, 1) := by decide +kernel
theorem dJ6_bitCount_0f7a4_10 : decode cJ6_bitCount_0f7a4 10 = .ok (.iload_n 0, 1) := by decide +kernel
theorem dJ6_bitCount_0f7a4_11 : decode cJ6_bitCount_0f7a4 11 = .ok (.ldc_w 266, 3) := by decide +kernel
theorem dJ6_bitCount_0f7a4_14 : decode cJ6_bitCount_0f7a4 14 = .ok (.iand, 1) := by decide +kernel
theorem dJ6_bitCount_0f7a4_15 : decode cJ6_bitCount_0f7a4 15 = .ok (.iload_n 0, 1) := by decide +kernel
theorem dJ6_bitCount_0f7a4_16 : decode cJ6_bitCount_0f7a4 16 = .ok (.iconst 2, 1) := by decide +kernel
theorem dJ6_bitCount_0f7a4_17 : decode cJ6_bitCount_0f7a4 17 = .ok (.iushr, 1) := by decide +kernel
theorem dJ6_bitCount_0f7a4_18 : decode cJ6_bitCount_0f7a4 18 = .ok (.ldc_w 266, 3) := by decide +kernel
theorem dJ6_bitCount_0f7a4_21 : decode cJ6_bitCount_0f7a4 21 = .ok (.iand, 1) := by decide +kernel
theorem dJ6_bitCount_0f7a4_22 : decode cJ6_bitCount_0f7a4 22 = .ok (.iadd, 1) := by decide +kernel
theorem dJ6_bitCount_0f7a4_23 : decode cJ6_bitCount_0f7a4 23 = .ok (.istore_n 0, 1) := by decide +kernel
theorem dJ6_bitCount_0f7a4_24 : decode cJ6_bitCount_0f7a4 24 = .ok (.iload_n 0, 1) := by decide +kernel
theorem dJ6_bitCount_0f7a4_25 : decode cJ6_bitCount_0f7a4 25 = .ok (.iload_n 0, 1) := by decide +kernel
theorem dJ6_bitCount_0f7a4_26 : decode cJ6_bitCount_0f7a4 26 = .ok (.iconst 4, 1) := by decide +kernel
theorem dJ6_bitCount_0f7a4_27 : decode cJ6_bitCount_0f7a4 27 = .ok (.iushr, 1) := by decide +kernel
theorem dJ6_bitCount_0f7a4_28 : decode cJ6_bitCount_0f7a4 28 = .ok (.iadd, 1) := by decide +kernel
theorem dJ6_bitCount_0f7a4_29 : decode cJ6_bitCount_0f7a4 29 = .ok (.ldc_w 267, 3) := by decide +kernel
theorem dJ6_bitCount_0f7a4_32 : decode cJ6_bitCount_0f7a4 32 = .ok (.iand, 1) := by decide +kernel
theorem dJ6_bitCount_0f7a4_33 : decode cJ6_bitCount_0f7a4 33 = .ok (.istore_n 0, 1) := by decide +kernel
theorem dJ6_bitCount_0f7a4_34 : decode cJ6_bitCount_0f7a4 34 = .ok (.iload_n 0, 1) := by decide +kernel
theorem dJ6_bitCount_0f7a4_35 : decode cJ6_bitCount_0f7a4 35 = .ok (.iload_n 0, 1) := by decide +kernel
theorem dJ6_bitCount_0f7a4_36 : decode cJ6_bitCount_0f7a4 36 = .ok (.bipush 8, 2) := by decide +kernel
theorem dJ6_bitCount_0f7a4_38 : decode cJ6_bitCount_0f7a4 38 = .ok (.iushr, 1) := by decide +kernel
theorem dJ6_bitCount_0f7a4_39 : decode cJ6_bitCount_0f7a4 39 = .ok (.iadd, 1) := by decide +kernel
theorem dJ6_bitCount_0f7a4_40 : decode cJ6_bitCount_0f7a4 40 = .ok (.istore_n 0, 1) := by decide +kernel
theorem dJ6_bitCount_0f7a4_41 : decode cJ6_bitCount_0f7a4 41 = .ok (.iload_n 0, 1) := by decide +kernel
theorem dJ6_bitCount_0f7a4_42 : decode cJ6_bitCount_0f7a4 42 = .ok (.iload_n 0, 1) := by decide +kernel
theorem dJ6_bitCount_0f7a4_43 : decode cJ6_bitCount_0f7a4 43 = .ok (.bipush 16, 2) := by decide +kernel
theorem dJ6_bitCount_0f7a4_45 : decode cJ6_bitCount_0f7a4 45 = .ok (.iushr, 1) := by decide +kernel
theorem dJ6_bitCount_0f7a4_46 : decode cJ6_bitCount_0f7a4 46 = .ok (.iadd, 1) := by decide +kernel
theorem dJ6_bitCount_0f7a4_47 : decode cJ6_bitCount_0f7a4 47 = .ok (.istore_n 0, 1) := by decide +kernel
theorem dJ6_bitCount_0f7a4_48 : decode cJ6_bitCount_0f7a4 48 = .ok (.iload_n 0, 1) := by decide +kernel
theorem dJ6_bitCount_0f7a4_49 : decode cJ6_bitCount_0f7a4 49 = .ok (.bipush 63, 2) := by decide +kernel
theorem dJ6_bitCount_0f7a4_51 : decode cJ6_bitCount_0f7a4 51 = .ok (.iand, 1) := by decide +kernel
theorem dJ6_bitCount_0f7a4_52 : decode cJ6_bitCount_0f7a4 52 = .ok (.ireturn, 1) := by decide +kernel
theorem dJ9_max_7cf53_0 : decode cJ9_max_7cf53 0 = .ok (.iload_n 0, 1) := by decide +kernel
theorem dJ9_max_7cf53_1 : decode cJ9_max_7cf53 1 = .ok (.iload_n 1, 1) := by decide +kernel
theorem dJ9_max_7cf53_2 : decode cJ9_max_7cf53 2 = .ok (.if_icmp .lt 7, 3) := by decide +kernel
theorem dJ9_max_7cf53_5 : decode cJ9_max_7cf53 5 = .ok (.iload_n 0, 1) := by decide +kernel
theorem dJ9_max_7cf53_6 : decode cJ9_max_7cf53 6 = .ok (.goto 4, 3) := by decide +kernel
theorem dJ9_max_7cf53_9 : decode cJ9_max_7cf53 9 = .ok (.iload_n 1, 1) := by decide +kernel
theorem dJ9_max_7cf53_10 : decode cJ9_max_7cf53 10 = .ok (.ireturn, 1) := by decide +kernel
theorem dJ9_min_7cf53_0 : decode cJ9_min_7cf53 0 = .ok (.iload_n 0, 1) := by decide +kernel
theorem dJ9_min_7cf53_1 : decode cJ9_min_7cf53 1 = .ok (.iload_n 1, 1) := by decide +kernel
theorem dJ9_min_7cf53_2 : decode cJ9_min_7cf53 2 = .ok (.if_icmp .gt 7, 3) := by decide +kernel
theorem dJ9_min_7cf53_5 : decode cJ9_min_7cf53 5 = .ok (.iload_n 0, 1) := by decide +kernel
theorem dJ9_min_7cf53_6 : decode cJ9_min_7cf53 6 = .ok (.goto 4, 3) := by decide +kernel
theorem dJ9_min_7cf53_9 : decode cJ9_min_7cf53 9 = .ok (.iload_n 1, 1) := by decide +kernel
theorem dJ9_min_7cf53_10 : decode cJ9_min_7cf53 10 = .ok (.ireturn, 1) := by decide +kernel
theorem dJ7_fill_53178_0 : decode cJ7_fill_53178 0 = .ok (.iconst 0, 1) := by decide +kernel
theorem dJ7_fill_53178_1 : decode cJ7_fill_53178 1 = .ok (.istore_n 2, 1) := by decide +kernel
theorem dJ7_fill_53178_2 : decode cJ7_fill_53178 2 = .ok (.aload_n 0, 1) := by decide +kernel
theorem dJ7_fill_53178_3 : decode cJ7_fill_53178 3 = .ok (.arraylength, 1) := by decide +kernel
theorem dJ7_fill_53178_4 : decode cJ7_fill_53178 4 = .ok (.istore_n 3, 1) := by decide +kernel
theorem dJ7_fill_53178_5 : decode cJ7_fill_53178 5 = .ok (.iload_n 2, 1) := by decide +kernel
theorem dJ7_fill_53178_6 : decode cJ7_fill_53178 6 = .ok (.iload_n 3, 1) := by decide +kernel
theorem dJ7_fill_53178_7 : decode cJ7_fill_53178 7 = .ok (.if_icmp .ge 13, 3) := by decide +kernel
theorem dJ7_fill_53178_10 : decode cJ7_fill_53178 10 = .ok (.aload_n 0, 1) := by decide +kernel
theorem dJ7_fill_53178_11 : decode cJ7_fill_53178 11 = .ok (.iload_n 2, 1) := by decide +kernel
theorem dJ7_fill_53178_12 : decode cJ7_fill_53178 12 = .ok (.iload_n 1, 1) := by decide +kernel
theorem dJ7_fill_53178_13 : decode cJ7_fill_53178 13 = .ok (.iastore, 1) := by decide +kernel
theorem dJ7_fill_53178_14 : decode cJ7_fill_53178 14 = .ok (.iinc 2 1, 3) := by decide +kernel
theorem dJ7_fill_53178_17 : decode cJ7_fill_53178 17 = .ok (.goto (-12), 3) := by decide +kernel
theorem dJ7_fill_53178_20 : decode cJ7_fill_53178 20 = .ok (.return_, 1) := by decide +kernel
theorem dL_law_0 : decode cL_law 0 = .ok (.new 7, 3) := by decide +kernel
theorem dL_law_3 : decode cL_law 3 = .ok (.dup, 1) := by decide +kernel
theorem dL_law_4 : decode cL_law 4 = .ok (.invokespecial 9, 3) := by decide +kernel
theorem dL_law_7 : decode cL_law 7 = .ok (.astore_n 1, 1) := by decide +kernel
theorem dL_law_8 : decode cL_law 8 = .ok (.new 10, 3) := by decide +kernel
theorem dL_law_11 : decode cL_law 11 = .ok (.dup, 1) := by decide +kernel
theorem dL_law_12 : decode cL_law 12 = .ok (.invokespecial 12, 3) := by decide +kernel
theorem dL_law_15 : decode cL_law 15 = .ok (.astore_n 2, 1) := by decide +kernel
theorem dL_law_16 : decode cL_law 16 = .ok (.iconst 0, 1) := by decide +kernel
theorem dL_law_17 : decode cL_law 17 = .ok (.istore_n 3, 1) := by decide +kernel
theorem dL_law_18 : decode cL_law 18 = .ok (.iload_n 3, 1) := by decide +kernel
theorem dL_law_19 : decode cL_law 19 = .ok (.aload_n 0, 1) := by decide +kernel
theorem dL_law_20 : decode cL_law 20 = .ok (.arraylength, 1) := by decide +kernel
theorem dL_law_21 : decode cL_law 21 = .ok (.iconst 3, 1) := by decide +kernel
theorem dL_law_22 : decode cL_law 22 = .ok (.isub, 1) := by decide +kernel
theorem dL_law_23 : decode cL_law 23 = .ok (.if_icmp .gt 731, 3) := by decide +kernel
theorem dL_law_26 : decode cL_law 26 = .ok (.aload_n 0, 1) := by decide +kernel
theorem dL_law_27 : decode cL_law 27 = .ok (.iload_n 3, 1) := by decide +kernel
theorem dL_law_28 : decode cL_law 28 = .ok (.iaload, 1) := by decide +kernel
theorem dL_law_29 : decode cL_law 29 = .ok (.bipush 31, 2) := by decide +kernel
theorem dL_law_31 : decode cL_law 31 = .ok (.iand, 1) := by decide +kernel
theorem dL_law_32 : decode cL_law 32 = .ok (.tableswitch 716 0 20 #[100, 123, 136, 149, 172, 195, 228, 261, 294, 327, 340, 353, 392, 431, 470, 509, 548, 617, 640, 689, 702], 100) := by decide +kernel
theorem dL_law_132 : decode cL_law 132 = .ok (.aload_n 1, 1) := by decide +kernel
theorem dL_law_133 : decode cL_law 133 = .ok (.aload_n 0, 1) := by decide +kernel
theorem dL_law_134 : decode cL_law 134 = .ok (.iload_n 3, 1) := by decide +kernel
theorem dL_law_135 : decode cL_law 135 = .ok (.iconst 1, 1) := by decide +kernel
theorem dL_law_136 : decode cL_law 136 = .ok (.iadd, 1) := by decide +kernel
theorem dL_law_137 : decode cL_law 137 = .ok (.iaload, 1) := by decide +kernel
theorem dL_law_138 : decode cL_law 138 = .ok (.invokevirtual 13, 3) := by decide +kernel
theorem dL_law_141 : decode cL_law 141 = .ok (.aload_n 2, 1) := by decide +kernel
theorem dL_law_142 : decode cL_law 142 = .ok (.aload_n 0, 1) := by decide +kernel
theorem dL_law_143 : decode cL_law 143 = .ok (.iload_n 3, 1) := by decide +kernel
theorem dL_law_144 : decode cL_law 144 = .ok (.iconst 1, 1) := by decide +kernel
theorem dL_law_145 : decode cL_law 145 = .ok (.iadd, 1) := by decide +kernel
theorem dL_law_146 : decode cL_law 146 = .ok (.iaload, 1) := by decide +kernel
theorem dL_law_147 : decode cL_law 147 = .ok (.invokevirtual 17, 3) := by decide +kernel
theorem dL_law_150 : decode cL_law 150 = .ok (.if_icmp .eq 598, 3) := by decide +kernel
theorem dL_law_153 : decode cL_law 153 = .ok (.iconst 0, 1) := by decide +kernel
theorem dL_law_154 : decode cL_law 154 = .ok (.ireturn, 1) := by decide +kernel
theorem dL_law_155 : decode cL_law 155 = .ok (.aload_n 1, 1) := by decide +kernel
theorem dL_law_156 : decode cL_law 156 = .ok (.invokevirtual 18, 3) := by decide +kernel
theorem dL_law_159 : decode cL_law 159 = .ok (.aload_n 2, 1) := by decide +kernel
theorem dL_law_160 : decode cL_law 160 = .ok (.invokevirtual 22, 3) := by decide +kernel
theorem dL_law_163 : decode cL_law 163 = .ok (.if_icmp .eq 585, 3) := by decide +kernel
theorem dL_law_166 : decode cL_law 166 = .ok (.iconst 0, 1) := by decide +kernel
theorem dL_law_167 : decode cL_law 167 = .ok (.ireturn, 1) := by decide +kernel
theorem dL_law_168 : decode cL_law 168 = .ok (.aload_n 1, 1) := by decide +kernel
theorem dL_law_169 : decode cL_law 169 = .ok (.invokevirtual 23, 3) := by decide +kernel
theorem dL_law_172 : decode cL_law 172 = .ok (.aload_n 2, 1) := by decide +kernel
theorem dL_law_173 : decode cL_law 173 = .ok (.invokevirtual 26, 3) := by decide +kernel
theorem dL_law_176 : decode cL_law 176 = .ok (.if_icmp .eq 572, 3) := by decide +kernel
theorem dL_law_179 : decode cL_law 179 = .ok (.iconst 0, 1) := by decide +kernel
theorem dL_law_180 : decode cL_law 180 = .ok (.ireturn, 1) := by decide +kernel
theorem dL_law_181 : decode cL_law 181 = .ok (.aload_n 1, 1) := by decide +kernel
theorem dL_law_182 : decode cL_law 182 = .ok (.aload_n 0, 1) := by decide +kernel
theorem dL_law_183 : decode cL_law 183 = .ok (.iload_n 3, 1) := by decide +kernel
theorem dL_law_184 : decode cL_law 184 = .ok (.iconst 1, 1) := by decide +kernel
theorem dL_law_185 : decode cL_law 185 = .ok (.iadd, 1) := by decide +kernel
theorem dL_law_186 : decode cL_law 186 = .ok (.iaload, 1) := by decide +kernel
theorem dL_law_187 : decode cL_law 187 = .ok (.invokevirtual 27, 3) := by decide +kernel
theorem dL_law_190 : decode cL_law 190 = .ok (.aload_n 2, 1) := by decide +kernel
theorem dL_law_191 : decode cL_law 191 = .ok (.aload_n 0, 1) := by decide +kernel
theorem dL_law_192 : decode cL_law 192 = .ok (.iload_n 3, 1) := by decide +kernel
theorem dL_law_193 : decode cL_law 193 = .ok (.iconst 1, 1) := by decide +kernel
theorem dL_law_194 : decode cL_law 194 = .ok (.iadd, 1) := by decide +kernel
theorem dL_law_195 : decode cL_law 195 = .ok (.iaload, 1) := by decide +kernel
theorem dL_law_196 : decode cL_law 196 = .ok (.invokevirtual 30, 3) := by decide +kernel
theorem dL_law_199 : decode cL_law 199 = .ok (.if_icmp .eq 549, 3) := by decide +kernel
theorem dL_law_202 : decode cL_law 202 = .ok (.iconst 0, 1) := by decide +kernel
theorem dL_law_203 : decode cL_law 203 = .ok (.ireturn, 1) := by decide +kernel
theorem dL_law_204 : decode cL_law 204 = .ok (.aload_n 1, 1) := by decide +kernel
theorem dL_law_205 : decode cL_law 205 = .ok (.aload_n 0, 1) := by decide +kernel
theorem dL_law_206 : decode cL_law 206 = .ok (.iload_n 3, 1) := by decide +kernel
theorem dL_law_207 : decode cL_law 207 = .ok (.iconst 1, 1) := by decide +kernel
theorem dL_law_208 : decode cL_law 208 = .ok (.iadd, 1) := by decide +kernel
theorem dL_law_209 : decode cL_law 209 = .ok (.iaload, 1) := by decide +kernel
theorem dL_law_210 : decode cL_law 210 = .ok (.invokevirtual 31, 3) := by decide +kernel
theorem dL_law_213 : decode cL_law 213 = .ok (.aload_n 2, 1) := by decide +kernel
theorem dL_law_214 : decode cL_law 214 = .ok (.aload_n 0, 1) := by decide +kernel
theorem dL_law_215 : decode cL_law 215 = .ok (.iload_n 3, 1) := by decide +kernel
theorem dL_law_216 : decode cL_law 216 = .ok (.iconst 1, 1) := by decide +kernel
theorem dL_law_217 : decode cL_law 217 = .ok (.iadd, 1) := by decide +kernel
theorem dL_law_218 : decode cL_law 218 = .ok (.iaload, 1) := by decide +kernel
theorem dL_law_219 : decode cL_law 219 = .ok (.invokevirtual 34, 3) := by decide +kernel
theorem dL_law_222 : decode cL_law 222 = .ok (.if_icmp .eq 526, 3) := by decide +kernel
theorem dL_law_225 : decode cL_law 225 = .ok (.iconst 0, 1) := by decide +kernel
theorem dL_law_226 : decode cL_law 226 = .ok (.ireturn, 1) := by decide +kernel
theorem dL_law_227 : decode cL_law 227 = .ok (.aload_n 1, 1) := by decide +kernel
theorem dL_law_228 : decode cL_law 228 = .ok (.aload_n 0, 1) := by decide +kernel
theorem dL_law_229 : decode cL_law 229 = .ok (.iload_n 3, 1) := by decide +kernel
theorem dL_law_230 : decode cL_law 230 = .ok (.iconst 1, 1) := by decide +kernel
theorem dL_law_231 : decode cL_law 231 = .ok (.iadd, 1) := by decide +kernel
theorem dL_law_232 : decode cL_law 232 = .ok (.iaload, 1) := by decide +kernel
theorem dL_law_233 : decode cL_law 233 = .ok (.aload_n 0, 1) := by decide +kernel
theorem dL_law_234 : decode cL_law 234 = .ok (.iload_n 3, 1) := by decide +kernel
theorem dL_law_235 : decode cL_law 235 = .ok (.iconst 2, 1) := by decide +kernel
theorem dL_law_236 : decode cL_law 236 = .ok (.iadd, 1) := by decide +kernel
theorem dL_law_237 : decode cL_law 237 = .ok (.iaload, 1) := by decide +kernel
theorem dL_law_238 : decode cL_law 238 = .ok (.invokevirtual 35, 3) := by decide +kernel
theorem dL_law_241 : decode cL_law 241 = .ok (.aload_n 2, 1) := by decide +kernel
theorem dL_law_242 : decode cL_law 242 = .ok (.aload_n 0, 1) := by decide +kernel
theorem dL_law_243 : decode cL_law 243 = .ok (.iload_n 3, 1) := by decide +kernel
theorem dL_law_244 : decode cL_law 244 = .ok (.iconst 1, 1) := by decide +kernel
theorem dL_law_245 : decode cL_law 245 = .ok (.iadd, 1) := by decide +kernel
theorem dL_law_246 : decode cL_law 246 = .ok (.iaload, 1) := by decide +kernel
theorem dL_law_247 : decode cL_law 247 = .ok (.aload_n 0, 1) := by decide +kernel
theorem dL_law_248 : decode cL_law 248 = .ok (.iload_n 3, 1) := by decide +kernel
theorem dL_law_249 : decode cL_law 249 = .ok (.iconst 2, 1) := by decide +kernel
theorem dL_law_250 : decode cL_law 250 = .ok (.iadd, 1) := by decide +kernel
theorem dL_law_251 : decode cL_law 251 = .ok (.iaload, 1) := by decide +kernel
theorem dL_law_252 : decode cL_law 252 = .ok (.invokevirtual 39, 3) := by decide +kernel
theorem dL_law_255 : decode cL_law 255 = .ok (.if_icmp .eq 493, 3) := by decide +kernel
theorem dL_law_258 : decode cL_law 258 = .ok (.iconst 0, 1) := by decide +kernel
theorem dL_law_259 : decode cL_law 259 = .ok (.ireturn, 1) := by decide +kernel
theorem dL_law_260 : decode cL_law 260 = .ok (.aload_n 1, 1) := by decide +kernel
theorem dL_law_261 : decode cL_law 261 = .ok (.aload_n 0, 1) := by decide +kernel
theorem dL_law_262 : decode cL_law 262 = .ok (.iload_n 3, 1) := by decide +kernel
theorem dL_law_263 : decode cL_law 263 = .ok (.iconst 1, 1) := by decide +kernel
theorem dL_law_264 : decode cL_law 264 = .ok (.iadd, 1) := by decide +kernel
theorem dL_law_265 : decode cL_law 265 = .ok (.iaload, 1) := by decide +kernel
theorem dL_law_266 : decode cL_law 266 = .ok (.aload_n 0, 1) := by decide +kernel
theorem dL_law_267 : decode cL_law 267 = .ok (.iload_n 3, 1) := by decide +kernel
theorem dL_law_268 : decode cL_law 268 = .ok (.iconst 2, 1) := by decide +kernel
theorem dL_law_269 : decode cL_law 269 = .ok (.iadd, 1) := by decide +kernel
theorem dL_law_270 : decode cL_law 270 = .ok (.iaload, 1) := by decide +kernel
theorem dL_law_271 : decode cL_law 271 = .ok (.invokevirtual 40, 3) := by decide +kernel
theorem dL_law_274 : decode cL_law 274 = .ok (.aload_n 2, 1) := by decide +kernel
theorem dL_law_275 : decode cL_law 275 = .ok (.aload_n 0, 1) := by decide +kernel
theorem dL_law_276 : decode cL_law 276 = .ok (.iload_n 3, 1) := by decide +kernel
theorem dL_law_277 : decode cL_law 277 = .ok (.iconst 1, 1) := by decide +kernel
theorem dL_law_278 : decode cL_law 278 = .ok (.iadd, 1) := by decide +kernel
theorem dL_law_279 : decode cL_law 279 = .ok (.iaload, 1) := by decide +kernel
theorem dL_law_280 : decode cL_law 280 = .ok (.aload_n 0, 1) := by decide +kernel
theorem dL_law_281 : decode cL_law 281 = .ok (.iload_n 3, 1) := by decide +kernel
theorem dL_law_282 : decode cL_law 282 = .ok (.iconst 2, 1) := by decide +kernel
theorem dL_law_283 : decode cL_law 283 = .ok (.iadd, 1) := by decide +kernel
theorem dL_law_284 : decode cL_law 284 = .ok (.iaload, 1) := by decide +kernel
theorem dL_law_285 : decode cL_law 285 = .ok (.invokevirtual 43, 3) := by decide +kernel
theorem dL_law_288 : decode cL_law 288 = .ok (.if_icmp .eq 460, 3) := by decide +kernel
theorem dL_law_291 : decode cL_law 291 = .ok (.iconst 0, 1) := by decide +kernel
theorem dL_law_292 : decode cL_law 292 = .ok (.ireturn, 1) := by decide +kernel
theorem dL_law_293 : decode cL_law 293 = .ok (.aload_n 1, 1) := by decide +kernel
theorem dL_law_294 : decode cL_law 294 = .ok (.aload_n 0, 1) := by decide +kernel
theorem dL_law_295 : decode cL_law 295 = .ok (.iload_n 3, 1) := by decide +kernel
theorem dL_law_296 : decode cL_law 296 = .ok (.iconst 1, 1) := by decide +kernel
theorem dL_law_297 : decode cL_law 297 = .ok (.iadd, 1) := by decide +kernel
theorem dL_law_298 : decode cL_law 298 = .ok (.iaload, 1) := by decide +kernel
theorem dL_law_299 : decode cL_law 299 = .ok (.aload_n 0, 1) := by decide +kernel
theorem dL_law_300 : decode cL_law 300 = .ok (.iload_n 3, 1) := by decide +kernel
theorem dL_law_301 : decode cL_law 301 = .ok (.iconst 2, 1) := by decide +kernel
theorem dL_law_302 : decode cL_law 302 = .ok (.iadd, 1) := by decide +kernel
theorem dL_law_303 : decode cL_law 303 = .ok (.iaload, 1) := by decide +kernel
theorem dL_law_304 : decode cL_law 304 = .ok (.invokevirtual 44, 3) := by decide +kernel
theorem dL_law_307 : decode cL_law 307 = .ok (.aload_n 2, 1) := by decide +kernel
theorem dL_law_308 : decode cL_law 308 = .ok (.aload_n 0, 1) := by decide +kernel
theorem dL_law_309 : decode cL_law 309 = .ok (.iload_n 3, 1) := by decide +kernel
theorem dL_law_310 : decode cL_law 310 = .ok (.iconst 1, 1) := by decide +kernel
theorem dL_law_311 : decode cL_law 311 = .ok (.iadd, 1) := by decide +kernel
theorem dL_law_312 : decode cL_law 312 = .ok (.iaload, 1) := by decide +kernel
theorem dL_law_313 : decode cL_law 313 = .ok (.aload_n 0, 1) := by decide +kernel
theorem dL_law_314 : decode cL_law 314 = .ok (.iload_n 3, 1) := by decide +kernel
theorem dL_law_315 : decode cL_law 315 = .ok (.iconst 2, 1) := by decide +kernel
theorem dL_law_316 : decode cL_law 316 = .ok (.iadd, 1) := by decide +kernel
theorem dL_law_317 : decode cL_law 317 = .ok (.iaload, 1) := by decide +kernel
theorem dL_law_318 : decode cL_law 318 = .ok (.invokevirtual 47, 3) := by decide +kernel
theorem dL_law_321 : decode cL_law 321 = .ok (.if_icmp .eq 427, 3) := by decide +kernel
theorem dL_law_324 : decode cL_law 324 = .ok (.iconst 0, 1) := by decide +kernel
theorem dL_law_325 : decode cL_law 325 = .ok (.ireturn, 1) := by decide +kernel
theorem dL_law_326 : decode cL_law 326 = .ok (.aload_n 1, 1) := by decide +kernel
theorem dL_law_327 : decode cL_law 327 = .ok (.aload_n 0, 1) := by decide +kernel
theorem dL_law_328 : decode cL_law 328 = .ok (.iload_n 3, 1) := by decide +kernel
theorem dL_law_329 : decode cL_law 329 = .ok (.iconst 1, 1) := by decide +kernel
theorem dL_law_330 : decode cL_law 330 = .ok (.iadd, 1) := by decide +kernel
theorem dL_law_331 : decode cL_law 331 = .ok (.iaload, 1) := by decide +kernel
theorem dL_law_332 : decode cL_law 332 = .ok (.aload_n 0, 1) := by decide +kernel
theorem dL_law_333 : decode cL_law 333 = .ok (.iload_n 3, 1) := by decide +kernel
theorem dL_law_334 : decode cL_law 334 = .ok (.iconst 2, 1) := by decide +kernel
theorem dL_law_335 : decode cL_law 335 = .ok (.iadd, 1) := by decide +kernel
theorem dL_law_336 : decode cL_law 336 = .ok (.iaload, 1) := by decide +kernel
theorem dL_law_337 : decode cL_law 337 = .ok (.invokevirtual 48, 3) := by decide +kernel
theorem dL_law_340 : decode cL_law 340 = .ok (.aload_n 2, 1) := by decide +kernel
theorem dL_law_341 : decode cL_law 341 = .ok (.aload_n 0, 1) := by decide +kernel
theorem dL_law_342 : decode cL_law 342 = .ok (.iload_n 3, 1) := by decide +kernel
theorem dL_law_343 : decode cL_law 343 = .ok (.iconst 1, 1) := by decide +kernel
theorem dL_law_344 : decode cL_law 344 = .ok (.iadd, 1) := by decide +kernel
theorem dL_law_345 : decode cL_law 345 = .ok (.iaload, 1) := by decide +kernel
theorem dL_law_346 : decode cL_law 346 = .ok (.aload_n 0, 1) := by decide +kernel
theorem dL_law_347 : decode cL_law 347 = .ok (.iload_n 3, 1) := by decide +kernel
theorem dL_law_348 : decode cL_law 348 = .ok (.iconst 2, 1) := by decide +kernel
theorem dL_law_349 : decode cL_law 349 = .ok (.iadd, 1) := by decide +kernel
theorem dL_law_350 : decode cL_law 350 = .ok (.iaload, 1) := by decide +kernel
theorem dL_law_351 : decode cL_law 351 = .ok (.invokevirtual 51, 3) := by decide +kernel
theorem dL_law_354 : decode cL_law 354 = .ok (.if_icmp .eq 394, 3) := by decide +kernel
theorem dL_law_357 : decode cL_law 357 = .ok (.iconst 0, 1) := by decide +kernel
theorem dL_law_358 : decode cL_law 358 = .ok (.ireturn, 1) := by decide +kernel
theorem dL_law_359 : decode cL_law 359 = .ok (.aload_n 1, 1) := by decide +kernel
theorem dL_law_360 : decode cL_law 360 = .ok (.invokevirtual 52, 3) := by decide +kernel
theorem dL_law_363 : decode cL_law 363 = .ok (.aload_n 2, 1) := by decide +kernel
theorem dL_law_364 : decode cL_law 364 = .ok (.invokevirtual 55, 3) := by decide +kernel
theorem dL_law_367 : decode cL_law 367 = .ok (.if_icmp .eq 381, 3) := by decide +kernel
theorem dL_law_370 : decode cL_law 370 = .ok (.iconst 0, 1) := by decide +kernel
theorem dL_law_371 : decode cL_law 371 = .ok (.ireturn, 1) := by decide +kernel
theorem dL_law_372 : decode cL_law 372 = .ok (.aload_n 1, 1) := by decide +kernel
theorem dL_law_373 : decode cL_law 373 = .ok (.invokevirtual 56, 3) := by decide +kernel
theorem dL_law_376 : decode cL_law 376 = .ok (.aload_n 2, 1) := by decide +kernel
theorem dL_law_377 : decode cL_law 377 = .ok (.invokevirtual 59, 3) := by decide +kernel
theorem dL_law_380 : decode cL_law 380 = .ok (.if_icmp .eq 368, 3) := by decide +kernel
theorem dL_law_383 : decode cL_law 383 = .ok (.iconst 0, 1) := by decide +kernel
theorem dL_law_384 : decode cL_law 384 = .ok (.ireturn, 1) := by decide +kernel
theorem dL_law_385 : decode cL_law 385 = .ok (.aload_n 1, 1) := by decide +kernel
theorem dL_law_386 : decode cL_law 386 = .ok (.aload_n 0, 1) := by decide +kernel
theorem dL_law_387 : decode cL_law 387 = .ok (.iload_n 3, 1) := by decide +kernel
theorem dL_law_388 : decode cL_law 388 = .ok (.iconst 1, 1) := by decide +kernel
theorem dL_law_389 : decode cL_law 389 = .ok (.iadd, 1) := by decide +kernel
theorem dL_law_390 : decode cL_law 390 = .ok (.iaload, 1) := by decide +kernel
theorem dL_law_391 : decode cL_law 391 = .ok (.ifCond .eq 7, 3) := by decide +kernel
theorem dL_law_394 : decode cL_law 394 = .ok (.iconst 1, 1) := by decide +kernel
theorem dL_law_395 : decode cL_law 395 = .ok (.goto 4, 3) := by decide +kernel
theorem dL_law_398 : decode cL_law 398 = .ok (.iconst 0, 1) := by decide +kernel
theorem dL_law_399 : decode cL_law 399 = .ok (.invokevirtual 60, 3) := by decide +kernel
theorem dL_law_402 : decode cL_law 402 = .ok (.aload_n 2, 1) := by decide +kernel
theorem dL_law_403 : decode cL_law 403 = .ok (.aload_n 0, 1) := by decide +kernel
theorem dL_law_404 : decode cL_law 404 = .ok (.iload_n 3, 1) := by decide +kernel
theorem dL_law_405 : decode cL_law 405 = .ok (.iconst 1, 1) := by decide +kernel
theorem dL_law_406 : decode cL_law 406 = .ok (.iadd, 1) := by decide +kernel
theorem dL_law_407 : decode cL_law 407 = .ok (.iaload, 1) := by decide +kernel
theorem dL_law_408 : decode cL_law 408 = .ok (.ifCond .eq 7, 3) := by decide +kernel
theorem dL_law_411 : decode cL_law 411 = .ok (.iconst 1, 1) := by decide +kernel
theorem dL_law_412 : decode cL_law 412 = .ok (.goto 4, 3) := by decide +kernel
theorem dL_law_415 : decode cL_law 415 = .ok (.iconst 0, 1) := by decide +kernel
theorem dL_law_416 : decode cL_law 416 = .ok (.invokevirtual 64, 3) := by decide +kernel
theorem dL_law_419 : decode cL_law 419 = .ok (.if_icmp .eq 329, 3) := by decide +kernel
theorem dL_law_422 : decode cL_law 422 = .ok (.iconst 0, 1) := by decide +kernel
theorem dL_law_423 : decode cL_law 423 = .ok (.ireturn, 1) := by decide +kernel
theorem dL_law_424 : decode cL_law 424 = .ok (.aload_n 1, 1) := by decide +kernel
theorem dL_law_425 : decode cL_law 425 = .ok (.aload_n 0, 1) := by decide +kernel
theorem dL_law_426 : decode cL_law 426 = .ok (.iload_n 3, 1) := by decide +kernel
theorem dL_law_427 : decode cL_law 427 = .ok (.iconst 1, 1) := by decide +kernel
theorem dL_law_428 : decode cL_law 428 = .ok (.iadd, 1) := by decide +kernel
theorem dL_law_429 : decode cL_law 429 = .ok (.iaload, 1) := by decide +kernel
theorem dL_law_430 : decode cL_law 430 = .ok (.ifCond .eq 7, 3) := by decide +kernel
theorem dL_law_433 : decode cL_law 433 = .ok (.iconst 1, 1) := by decide +kernel
theorem dL_law_434 : decode cL_law 434 = .ok (.goto 4, 3) := by decide +kernel
theorem dL_law_437 : decode cL_law 437 = .ok (.iconst 0, 1) := by decide +kernel
theorem dL_law_438 : decode cL_law 438 = .ok (.invokevirtual 65, 3) := by decide +kernel
theorem dL_law_441 : decode cL_law 441 = .ok (.aload_n 2, 1) := by decide +kernel
theorem dL_law_442 : decode cL_law 442 = .ok (.aload_n 0, 1) := by decide +kernel
theorem dL_law_443 : decode cL_law 443 = .ok (.iload_n 3, 1) := by decide +kernel
theorem dL_law_444 : decode cL_law 444 = .ok (.iconst 1, 1) := by decide +kernel
theorem dL_law_445 : decode cL_law 445 = .ok (.iadd, 1) := by decide +kernel
theorem dL_law_446 : decode cL_law 446 = .ok (.iaload, 1) := by decide +kernel
theorem dL_law_447 : decode cL_law 447 = .ok (.ifCond .eq 7, 3) := by decide +kernel
theorem dL_law_450 : decode cL_law 450 = .ok (.iconst 1, 1) := by decide +kernel
theorem dL_law_451 : decode cL_law 451 = .ok (.goto 4, 3) := by decide +kernel
theorem dL_law_454 : decode cL_law 454 = .ok (.iconst 0, 1) := by decide +kernel
theorem dL_law_455 : decode cL_law 455 = .ok (.invokevirtual 68, 3) := by decide +kernel
theorem dL_law_458 : decode cL_law 458 = .ok (.if_icmp .eq 290, 3) := by decide +kernel
theorem dL_law_461 : decode cL_law 461 = .ok (.iconst 0, 1) := by decide +kernel
theorem dL_law_462 : decode cL_law 462 = .ok (.ireturn, 1) := by decide +kernel
theorem dL_law_463 : decode cL_law 463 = .ok (.aload_n 1, 1) := by decide +kernel
theorem dL_law_464 : decode cL_law 464 = .ok (.aload_n 0, 1) := by decide +kernel
theorem dL_law_465 : decode cL_law 465 = .ok (.iload_n 3, 1) := by decide +kernel
theorem dL_law_466 : decode cL_law 466 = .ok (.iconst 1, 1) := by decide +kernel
theorem dL_law_467 : decode cL_law 467 = .ok (.iadd, 1) := by decide +kernel
theorem dL_law_468 : decode cL_law 468 = .ok (.iaload, 1) := by decide +kernel
theorem dL_law_469 : decode cL_law 469 = .ok (.ifCond .eq 7, 3) := by decide +kernel
theorem dL_law_472 : decode cL_law 472 = .ok (.iconst 1, 1) := by decide +kernel
theorem dL_law_473 : decode cL_law 473 = .ok (.goto 4, 3) := by decide +kernel
theorem dL_law_476 : decode cL_law 476 = .ok (.iconst 0, 1) := by decide +kernel
theorem dL_law_477 : decode cL_law 477 = .ok (.invokevirtual 69, 3) := by decide +kernel
theorem dL_law_480 : decode cL_law 480 = .ok (.aload_n 2, 1) := by decide +kernel
theorem dL_law_481 : decode cL_law 481 = .ok (.aload_n 0, 1) := by decide +kernel
theorem dL_law_482 : decode cL_law 482 = .ok (.iload_n 3, 1) := by decide +kernel
theorem dL_law_483 : decode cL_law 483 = .ok (.iconst 1, 1) := by decide +kernel
theorem dL_law_484 : decode cL_law 484 = .ok (.iadd, 1) := by decide +kernel
theorem dL_law_485 : decode cL_law 485 = .ok (.iaload, 1) := by decide +kernel
theorem dL_law_486 : decode cL_law 486 = .ok (.ifCond .eq 7, 3) := by decide +kernel
theorem dL_law_489 : decode cL_law 489 = .ok (.iconst 1, 1) := by decide +kernel
theorem dL_law_490 : decode cL_law 490 = .ok (.goto 4, 3) := by decide +kernel
theorem dL_law_493 : decode cL_law 493 = .ok (.iconst 0, 1) := by decide +kernel
theorem dL_law_494 : decode cL_law 494 = .ok (.invokevirtual 72, 3) := by decide +kernel
theorem dL_law_497 : decode cL_law 497 = .ok (.if_icmp .eq 251, 3) := by decide +kernel
theorem dL_law_500 : decode cL_law 500 = .ok (.iconst 0, 1) := by decide +kernel
theorem dL_law_501 : decode cL_law 501 = .ok (.ireturn, 1) := by decide +kernel
theorem dL_law_502 : decode cL_law 502 = .ok (.aload_n 1, 1) := by decide +kernel
theorem dL_law_503 : decode cL_law 503 = .ok (.aload_n 0, 1) := by decide +kernel
theorem dL_law_504 : decode cL_law 504 = .ok (.iload_n 3, 1) := by decide +kernel
theorem dL_law_505 : decode cL_law 505 = .ok (.iconst 1, 1) := by decide +kernel
theorem dL_law_506 : decode cL_law 506 = .ok (.iadd, 1) := by decide +kernel
theorem dL_law_507 : decode cL_law 507 = .ok (.iaload, 1) := by decide +kernel
theorem dL_law_508 : decode cL_law 508 = .ok (.ifCond .eq 7, 3) := by decide +kernel
theorem dL_law_511 : decode cL_law 511 = .ok (.iconst 1, 1) := by decide +kernel
theorem dL_law_512 : decode cL_law 512 = .ok (.goto 4, 3) := by decide +kernel
theorem dL_law_515 : decode cL_law 515 = .ok (.iconst 0, 1) := by decide +kernel
theorem dL_law_516 : decode cL_law 516 = .ok (.invokevirtual 73, 3) := by decide +kernel
theorem dL_law_519 : decode cL_law 519 = .ok (.aload_n 2, 1) := by decide +kernel
theorem dL_law_520 : decode cL_law 520 = .ok (.aload_n 0, 1) := by decide +kernel
theorem dL_law_521 : decode cL_law 521 = .ok (.iload_n 3, 1) := by decide +kernel
theorem dL_law_522 : decode cL_law 522 = .ok (.iconst 1, 1) := by decide +kernel
theorem dL_law_523 : decode cL_law 523 = .ok (.iadd, 1) := by decide +kernel
theorem dL_law_524 : decode cL_law 524 = .ok (.iaload, 1) := by decide +kernel
theorem dL_law_525 : decode cL_law 525 = .ok (.ifCond .eq 7, 3) := by decide +kernel
theorem dL_law_528 : decode cL_law 528 = .ok (.iconst 1, 1) := by decide +kernel
theorem dL_law_529 : decode cL_law 529 = .ok (.goto 4, 3) := by decide +kernel
theorem dL_law_532 : decode cL_law 532 = .ok (.iconst 0, 1) := by decide +kernel
theorem dL_law_533 : decode cL_law 533 = .ok (.invokevirtual 76, 3) := by decide +kernel
theorem dL_law_536 : decode cL_law 536 = .ok (.if_icmp .eq 212, 3) := by decide +kernel
theorem dL_law_539 : decode cL_law 539 = .ok (.iconst 0, 1) := by decide +kernel
theorem dL_law_540 : decode cL_law 540 = .ok (.ireturn, 1) := by decide +kernel
theorem dL_law_541 : decode cL_law 541 = .ok (.aload_n 1, 1) := by decide +kernel
theorem dL_law_542 : decode cL_law 542 = .ok (.aload_n 0, 1) := by decide +kernel
theorem dL_law_543 : decode cL_law 543 = .ok (.iload_n 3, 1) := by decide +kernel
theorem dL_law_544 : decode cL_law 544 = .ok (.iconst 1, 1) := by decide +kernel
theorem dL_law_545 : decode cL_law 545 = .ok (.iadd, 1) := by decide +kernel
theorem dL_law_546 : decode cL_law 546 = .ok (.iaload, 1) := by decide +kernel
theorem dL_law_547 : decode cL_law 547 = .ok (.ifCond .eq 7, 3) := by decide +kernel
theorem dL_law_550 : decode cL_law 550 = .ok (.iconst 1, 1) := by decide +kernel
theorem dL_law_551 : decode cL_law 551 = .ok (.goto 4, 3) := by decide +kernel
theorem dL_law_554 : decode cL_law 554 = .ok (.iconst 0, 1) := by decide +kernel
theorem dL_law_555 : decode cL_law 555 = .ok (.invokevirtual 77, 3) := by decide +kernel
theorem dL_law_558 : decode cL_law 558 = .ok (.aload_n 2, 1) := by decide +kernel
theorem dL_law_559 : decode cL_law 559 = .ok (.aload_n 0, 1) := by decide +kernel
theorem dL_law_560 : decode cL_law 560 = .ok (.iload_n 3, 1) := by decide +kernel
theorem dL_law_561 : decode cL_law 561 = .ok (.iconst 1, 1) := by decide +kernel
theorem dL_law_562 : decode cL_law 562 = .ok (.iadd, 1) := by decide +kernel
theorem dL_law_563 : decode cL_law 563 = .ok (.iaload, 1) := by decide +kernel
theorem dL_law_564 : decode cL_law 564 = .ok (.ifCond .eq 7, 3) := by decide +kernel
theorem dL_law_567 : decode cL_law 567 = .ok (.iconst 1, 1) := by decide +kernel
theorem dL_law_568 : decode cL_law 568 = .ok (.goto 4, 3) := by decide +kernel
theorem dL_law_571 : decode cL_law 571 = .ok (.iconst 0, 1) := by decide +kernel
theorem dL_law_572 : decode cL_law 572 = .ok (.invokevirtual 80, 3) := by decide +kernel
theorem dL_law_575 : decode cL_law 575 = .ok (.if_icmp .eq 173, 3) := by decide +kernel
theorem dL_law_578 : decode cL_law 578 = .ok (.iconst 0, 1) := by decide +kernel
theorem dL_law_579 : decode cL_law 579 = .ok (.ireturn, 1) := by decide +kernel
theorem dL_law_580 : decode cL_law 580 = .ok (.aload_n 1, 1) := by decide +kernel
theorem dL_law_581 : decode cL_law 581 = .ok (.aload_n 0, 1) := by decide +kernel
theorem dL_law_582 : decode cL_law 582 = .ok (.iload_n 3, 1) := by decide +kernel
theorem dL_law_583 : decode cL_law 583 = .ok (.iconst 1, 1) := by decide +kernel
theorem dL_law_584 : decode cL_law 584 = .ok (.iadd, 1) := by decide +kernel
theorem dL_law_585 : decode cL_law 585 = .ok (.iaload, 1) := by decide +kernel
theorem dL_law_586 : decode cL_law 586 = .ok (.ifCond .eq 7, 3) := by decide +kernel
theorem dL_law_589 : decode cL_law 589 = .ok (.iconst 1, 1) := by decide +kernel
theorem dL_law_590 : decode cL_law 590 = .ok (.goto 4, 3) := by decide +kernel
theorem dL_law_593 : decode cL_law 593 = .ok (.iconst 0, 1) := by decide +kernel
theorem dL_law_594 : decode cL_law 594 = .ok (.invokevirtual 81, 3) := by decide +kernel
theorem dL_law_597 : decode cL_law 597 = .ok (.f2d, 1) := by decide +kernel
theorem dL_law_598 : decode cL_law 598 = .ok (.dstore 4, 2) := by decide +kernel
theorem dL_law_600 : decode cL_law 600 = .ok (.aload_n 2, 1) := by decide +kernel
theorem dL_law_601 : decode cL_law 601 = .ok (.aload_n 0, 1) := by decide +kernel
theorem dL_law_602 : decode cL_law 602 = .ok (.iload_n 3, 1) := by decide +kernel
theorem dL_law_603 : decode cL_law 603 = .ok (.iconst 1, 1) := by decide +kernel
theorem dL_law_604 : decode cL_law 604 = .ok (.iadd, 1) := by decide +kernel
theorem dL_law_605 : decode cL_law 605 = .ok (.iaload, 1) := by decide +kernel
theorem dL_law_606 : decode cL_law 606 = .ok (.ifCond .eq 7, 3) := by decide +kernel
theorem dL_law_609 : decode cL_law 609 = .ok (.iconst 1, 1) := by decide +kernel
theorem dL_law_610 : decode cL_law 610 = .ok (.goto 4, 3) := by decide +kernel
theorem dL_law_613 : decode cL_law 613 = .ok (.iconst 0, 1) := by decide +kernel
theorem dL_law_614 : decode cL_law 614 = .ok (.invokevirtual 85, 3) := by decide +kernel
theorem dL_law_617 : decode cL_law 617 = .ok (.f2d, 1) := by decide +kernel
theorem dL_law_618 : decode cL_law 618 = .ok (.dstore 6, 2) := by decide +kernel
theorem dL_law_620 : decode cL_law 620 = .ok (.dload 4, 2) := by decide +kernel
theorem dL_law_622 : decode cL_law 622 = .ok (.dload 6, 2) := by decide +kernel
theorem dL_law_624 : decode cL_law 624 = .ok (.dcmp .l, 1) := by decide +kernel
theorem dL_law_625 : decode cL_law 625 = .ok (.ifCond .eq 21, 3) := by decide +kernel
theorem dL_law_628 : decode cL_law 628 = .ok (.dload 4, 2) := by decide +kernel
theorem dL_law_630 : decode cL_law 630 = .ok (.dload 4, 2) := by decide +kernel
theorem dL_law_632 : decode cL_law 632 = .ok (.dcmp .l, 1) := by decide +kernel
theorem dL_law_633 : decode cL_law 633 = .ok (.ifCond .eq 11, 3) := by decide +kernel
theorem dL_law_636 : decode cL_law 636 = .ok (.dload 6, 2) := by decide +kernel
theorem dL_law_638 : decode cL_law 638 = .ok (.dload 6, 2) := by decide +kernel
theorem dL_law_640 : decode cL_law 640 = .ok (.dcmp .l, 1) := by decide +kernel
theorem dL_law_641 : decode cL_law 641 = .ok (.ifCond .ne 5, 3) := by decide +kernel
theorem dL_law_644 : decode cL_law 644 = .ok (.iconst 0, 1) := by decide +kernel
theorem dL_law_645 : decode cL_law 645 = .ok (.ireturn, 1) := by decide +kernel
theorem dL_law_646 : decode cL_law 646 = .ok (.goto 102, 3) := by decide +kernel
theorem dL_law_649 : decode cL_law 649 = .ok (.aload_n 1, 1) := by decide +kernel
theorem dL_law_650 : decode cL_law 650 = .ok (.aload_n 0, 1) := by decide +kernel
theorem dL_law_651 : decode cL_law 651 = .ok (.iload_n 3, 1) := by decide +kernel
theorem dL_law_652 : decode cL_law 652 = .ok (.iconst 1, 1) := by decide +kernel
theorem dL_law_653 : decode cL_law 653 = .ok (.iadd, 1) := by decide +kernel
theorem dL_law_654 : decode cL_law 654 = .ok (.iaload, 1) := by decide +kernel
theorem dL_law_655 : decode cL_law 655 = .ok (.invokevirtual 86, 3) := by decide +kernel
theorem dL_law_658 : decode cL_law 658 = .ok (.aload_n 2, 1) := by decide +kernel
theorem dL_law_659 : decode cL_law 659 = .ok (.aload_n 0, 1) := by decide +kernel
theorem dL_law_660 : decode cL_law 660 = .ok (.iload_n 3, 1) := by decide +kernel
theorem dL_law_661 : decode cL_law 661 = .ok (.iconst 1, 1) := by decide +kernel
theorem dL_law_662 : decode cL_law 662 = .ok (.iadd, 1) := by decide +kernel
theorem dL_law_663 : decode cL_law 663 = .ok (.iaload, 1) := by decide +kernel
theorem dL_law_664 : decode cL_law 664 = .ok (.invokevirtual 89, 3) := by decide +kernel
theorem dL_law_667 : decode cL_law 667 = .ok (.if_icmp .eq 81, 3) := by decide +kernel
theorem dL_law_670 : decode cL_law 670 = .ok (.iconst 0, 1) := by decide +kernel
theorem dL_law_671 : decode cL_law 671 = .ok (.ireturn, 1) := by decide +kernel
theorem dL_law_672 : decode cL_law 672 = .ok (.aload_n 1, 1) := by decide +kernel
theorem dL_law_673 : decode cL_law 673 = .ok (.aload_n 0, 1) := by decide +kernel
theorem dL_law_674 : decode cL_law 674 = .ok (.iload_n 3, 1) := by decide +kernel
theorem dL_law_675 : decode cL_law 675 = .ok (.iconst 1, 1) := by decide +kernel
theorem dL_law_676 : decode cL_law 676 = .ok (.iadd, 1) := by decide +kernel
theorem dL_law_677 : decode cL_law 677 = .ok (.iaload, 1) := by decide +kernel
theorem dL_law_678 : decode cL_law 678 = .ok (.aload_n 0, 1) := by decide +kernel
theorem dL_law_679 : decode cL_law 679 = .ok (.iload_n 3, 1) := by decide +kernel
theorem dL_law_680 : decode cL_law 680 = .ok (.iconst 2, 1) := by decide +kernel
theorem dL_law_681 : decode cL_law 681 = .ok (.iadd, 1) := by decide +kernel
theorem dL_law_682 : decode cL_law 682 = .ok (.iaload, 1) := by decide +kernel
theorem dL_law_683 : decode cL_law 683 = .ok (.ifCond .eq 7, 3) := by decide +kernel
theorem dL_law_686 : decode cL_law 686 = .ok (.iconst 1, 1) := by decide +kernel
theorem dL_law_687 : decode cL_law 687 = .ok (.goto 4, 3) := by decide +kernel
theorem dL_law_690 : decode cL_law 690 = .ok (.iconst 0, 1) := by decide +kernel
theorem dL_law_691 : decode cL_law 691 = .ok (.invokevirtual 90, 3) := by decide +kernel
theorem dL_law_694 : decode cL_law 694 = .ok (.aload_n 2, 1) := by decide +kernel
theorem dL_law_695 : decode cL_law 695 = .ok (.aload_n 0, 1) := by decide +kernel
theorem dL_law_696 : decode cL_law 696 = .ok (.iload_n 3, 1) := by decide +kernel
theorem dL_law_697 : decode cL_law 697 = .ok (.iconst 1, 1) := by decide +kernel
theorem dL_law_698 : decode cL_law 698 = .ok (.iadd, 1) := by decide +kernel
theorem dL_law_699 : decode cL_law 699 = .ok (.iaload, 1) := by decide +kernel
theorem dL_law_700 : decode cL_law 700 = .ok (.aload_n 0, 1) := by decide +kernel
theorem dL_law_701 : decode cL_law 701 = .ok (.iload_n 3, 1) := by decide +kernel
theorem dL_law_702 : decode cL_law 702 = .ok (.iconst 2, 1) := by decide +kernel
theorem dL_law_703 : decode cL_law 703 = .ok (.iadd, 1) := by decide +kernel
theorem dL_law_704 : decode cL_law 704 = .ok (.iaload, 1) := by decide +kernel
theorem dL_law_705 : decode cL_law 705 = .ok (.ifCond .eq 7, 3) := by decide +kernel
theorem dL_law_708 : decode cL_law 708 = .ok (.iconst 1, 1) := by decide +kernel
theorem dL_law_709 : decode cL_law 709 = .ok (.goto 4, 3) := by decide +kernel
theorem dL_law_712 : decode cL_law 712 = .ok (.iconst 0, 1) := by decide +kernel
theorem dL_law_713 : decode cL_law 713 = .ok (.invokevirtual 94, 3) := by decide +kernel
theorem dL_law_716 : decode cL_law 716 = .ok (.if_icmp .eq 32, 3) := by decide +kernel
theorem dL_law_719 : decode cL_law 719 = .ok (.iconst 0, 1) := by decide +kernel
theorem dL_law_720 : decode cL_law 720 = .ok (.ireturn, 1) := by decide +kernel
theorem dL_law_721 : decode cL_law 721 = .ok (.aload_n 1, 1) := by decide +kernel
theorem dL_law_722 : decode cL_law 722 = .ok (.invokevirtual 95, 3) := by decide +kernel
theorem dL_law_725 : decode cL_law 725 = .ok (.aload_n 2, 1) := by decide +kernel
theorem dL_law_726 : decode cL_law 726 = .ok (.invokevirtual 98, 3) := by decide +kernel
theorem dL_law_729 : decode cL_law 729 = .ok (.if_icmp .eq 19, 3) := by decide +kernel
theorem dL_law_732 : decode cL_law 732 = .ok (.iconst 0, 1) := by decide +kernel
theorem dL_law_733 : decode cL_law 733 = .ok (.ireturn, 1) := by decide +kernel
theorem dL_law_734 : decode cL_law 734 = .ok (.aload_n 1, 1) := by decide +kernel
theorem dL_law_735 : decode cL_law 735 = .ok (.invokevirtual 99, 3) := by decide +kernel
theorem dL_law_738 : decode cL_law 738 = .ok (.aload_n 2, 1) := by decide +kernel
theorem dL_law_739 : decode cL_law 739 = .ok (.invokevirtual 103, 3) := by decide +kernel
theorem dL_law_742 : decode cL_law 742 = .ok (.lcmp, 1) := by decide +kernel
theorem dL_law_743 : decode cL_law 743 = .ok (.ifCond .eq 5, 3) := by decide +kernel
theorem dL_law_746 : decode cL_law 746 = .ok (.iconst 0, 1) := by decide +kernel
theorem dL_law_747 : decode cL_law 747 = .ok (.ireturn, 1) := by decide +kernel
theorem dL_law_748 : decode cL_law 748 = .ok (.iinc 3 3, 3) := by decide +kernel
theorem dL_law_751 : decode cL_law 751 = .ok (.goto (-733), 3) := by decide +kernel
theorem dL_law_754 : decode cL_law 754 = .ok (.iconst 1, 1) := by decide +kernel
theorem dL_law_755 : decode cL_law 755 = .ok (.ireturn, 1) := by decide +kernel
