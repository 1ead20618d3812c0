theorem dX7_goal_48 : decode cX7_goal 48 = .ok (.iload_n 2, 1) := by decide +kernel
theorem dX7_goal_49 : decode cX7_goal 49 = .ok (.putfield 108, 3) := by decide +kernel
theorem dX7_goal_52 : decode cX7_goal 52 = .ok (.aload_n 0, 1) := by decide +kernel
theorem dX7_goal_53 : decode cX7_goal 53 = .ok (.getfield 19, 3) := by decide +kernel
theorem dX7_goal_56 : decode cX7_goal 56 = .ok (.invokevirtual 111, 3) := by decide +kernel
theorem dX7_goal_59 : decode cX7_goal 59 = .ok (.ifCond .eq 7, 3) := by decide +kernel
theorem dX7_goal_62 : decode cX7_goal 62 = .ok (.iconst 1, 1) := by decide +kernel
theorem dX7_goal_63 : decode cX7_goal 63 = .ok (.goto 4, 3) := by decide +kernel
theorem dX7_goal_66 : decode cX7_goal 66 = .ok (.iconst 0, 1) := by decide +kernel
theorem dX7_goal_67 : decode cX7_goal 67 = .ok (.ireturn, 1) := by decide +kernel
theorem dX7_states_0 : decode cX7_states 0 = .ok (.aload_n 0, 1) := by decide +kernel
theorem dX7_states_1 : decode cX7_states 1 = .ok (.getfield 48, 3) := by decide +kernel
theorem dX7_states_4 : decode cX7_states 4 = .ok (.aload_n 0, 1) := by decide +kernel
theorem dX7_states_5 : decode cX7_states 5 = .ok (.getfield 19, 3) := by decide +kernel
theorem dX7_states_8 : decode cX7_states 8 = .ok (.bipush (-9), 2) := by decide +kernel
theorem dX7_states_10 : decode cX7_states 10 = .ok (.invokevirtual 168, 3) := by decide +kernel
theorem dX7_states_13 : decode cX7_states 13 = .ok (.aload_n 0, 1) := by decide +kernel
theorem dX7_states_14 : decode cX7_states 14 = .ok (.getfield 48, 3) := by decide +kernel
theorem dX7_states_17 : decode cX7_states 17 = .ok (.getfield 172, 3) := by decide +kernel
theorem dX7_states_20 : decode cX7_states 20 = .ok (.ifCond .eq 8, 3) := by decide +kernel
theorem dX7_states_23 : decode cX7_states 23 = .ok (.bipush (-3), 2) := by decide +kernel
theorem dX7_states_25 : decode cX7_states 25 = .ok (.goto 10, 3) := by decide +kernel
theorem dX7_states_28 : decode cX7_states 28 = .ok (.aload_n 0, 1) := by decide +kernel
theorem dX7_states_29 : decode cX7_states 29 = .ok (.getfield 48, 3) := by decide +kernel
theorem dX7_states_32 : decode cX7_states 32 = .ok (.getfield 176, 3) := by decide +kernel
theorem dX7_states_35 : decode cX7_states 35 = .ok (.ireturn, 1) := by decide +kernel
theorem dX7_solved_0 : decode cX7_solved 0 = .ok (.aload_n 0, 1) := by decide +kernel
theorem dX7_solved_1 : decode cX7_solved 1 = .ok (.getfield 19, 3) := by decide +kernel
theorem dX7_solved_4 : decode cX7_solved 4 = .ok (.getfield 105, 3) := by decide +kernel
theorem dX7_solved_7 : decode cX7_solved 7 = .ok (.bipush (-9), 2) := by decide +kernel
theorem dX7_solved_9 : decode cX7_solved 9 = .ok (.if_icmp .ne 6, 3) := by decide +kernel
theorem dX7_solved_12 : decode cX7_solved 12 = .ok (.bipush (-2), 2) := by decide +kernel
theorem dX7_solved_14 : decode cX7_solved 14 = .ok (.ireturn, 1) := by decide +kernel
theorem dX7_solved_15 : decode cX7_solved 15 = .ok (.aload_n 0, 1) := by decide +kernel
theorem dX7_solved_16 : decode cX7_solved 16 = .ok (.getfield 48, 3) := by decide +kernel
theorem dX7_solved_19 : decode cX7_solved 19 = .ok (.aload_n 0, 1) := by decide +kernel
theorem dX7_solved_20 : decode cX7_solved 20 = .ok (.getfield 19, 3) := by decide +kernel
theorem dX7_solved_23 : decode cX7_solved 23 = .ok (.bipush (-9), 2) := by decide +kernel
theorem dX7_solved_25 : decode cX7_solved 25 = .ok (.invokevirtual 168, 3) := by decide +kernel
theorem dX7_solved_28 : decode cX7_solved 28 = .ok (.aload_n 0, 1) := by decide +kernel
theorem dX7_solved_29 : decode cX7_solved 29 = .ok (.getfield 48, 3) := by decide +kernel
theorem dX7_solved_32 : decode cX7_solved 32 = .ok (.getfield 172, 3) := by decide +kernel
theorem dX7_solved_35 : decode cX7_solved 35 = .ok (.ifCond .eq 8, 3) := by decide +kernel
theorem dX7_solved_38 : decode cX7_solved 38 = .ok (.bipush (-3), 2) := by decide +kernel
theorem dX7_solved_40 : decode cX7_solved 40 = .ok (.goto 24, 3) := by decide +kernel
theorem dX7_solved_43 : decode cX7_solved 43 = .ok (.aload_n 0, 1) := by decide +kernel
theorem dX7_solved_44 : decode cX7_solved 44 = .ok (.getfield 48, 3) := by decide +kernel
theorem dX7_solved_47 : decode cX7_solved 47 = .ok (.aload_n 0, 1) := by decide +kernel
theorem dX7_solved_48 : decode cX7_solved 48 = .ok (.getfield 19, 3) := by decide +kernel
theorem dX7_solved_51 : decode cX7_solved 51 = .ok (.getfield 105, 3) := by decide +kernel
theorem dX7_solved_54 : decode cX7_solved 54 = .ok (.aload_n 0, 1) := by decide +kernel
theorem dX7_solved_55 : decode cX7_solved 55 = .ok (.getfield 19, 3) := by decide +kernel
theorem dX7_solved_58 : decode cX7_solved 58 = .ok (.getfield 108, 3) := by decide +kernel
theorem dX7_solved_61 : decode cX7_solved 61 = .ok (.invokevirtual 179, 3) := by decide +kernel
theorem dX7_solved_64 : decode cX7_solved 64 = .ok (.ireturn, 1) := by decide +kernel
theorem dX7_distance_0 : decode cX7_distance 0 = .ok (.aload_n 0, 1) := by decide +kernel
theorem dX7_distance_1 : decode cX7_distance 1 = .ok (.aload_n 0, 1) := by decide +kernel
theorem dX7_distance_2 : decode cX7_distance 2 = .ok (.getfield 48, 3) := by decide +kernel
theorem dX7_distance_5 : decode cX7_distance 5 = .ok (.bipush (-9), 2) := by decide +kernel
theorem dX7_distance_7 : decode cX7_distance 7 = .ok (.iload_n 1, 1) := by decide +kernel
theorem dX7_distance_8 : decode cX7_distance 8 = .ok (.invokevirtual 183, 3) := by decide +kernel
theorem dX7_distance_11 : decode cX7_distance 11 = .ok (.istore_n 2, 1) := by decide +kernel
theorem dX7_distance_12 : decode cX7_distance 12 = .ok (.iload_n 2, 1) := by decide +kernel
theorem dX7_distance_13 : decode cX7_distance 13 = .ok (.ifCond .ge 7, 3) := by decide +kernel
theorem dX7_distance_16 : decode cX7_distance 16 = .ok (.iload_n 2, 1) := by decide +kernel
theorem dX7_distance_17 : decode cX7_distance 17 = .ok (.goto 20, 3) := by decide +kernel
theorem dX7_distance_20 : decode cX7_distance 20 = .ok (.aload_n 0, 1) := by decide +kernel
theorem dX7_distance_21 : decode cX7_distance 21 = .ok (.getfield 48, 3) := by decide +kernel
theorem dX7_distance_24 : decode cX7_distance 24 = .ok (.aload_n 0, 1) := by decide +kernel
theorem dX7_distance_25 : decode cX7_distance 25 = .ok (.getfield 19, 3) := by decide +kernel
theorem dX7_distance_28 : decode cX7_distance 28 = .ok (.bipush (-9), 2) := by decide +kernel
theorem dX7_distance_30 : decode cX7_distance 30 = .ok (.invokevirtual 187, 3) := by decide +kernel
theorem dX7_distance_33 : decode cX7_distance 33 = .ok (.iload_n 1, 1) := by decide +kernel
theorem dX7_distance_34 : decode cX7_distance 34 = .ok (.invokevirtual 191, 3) := by decide +kernel
theorem dX7_distance_37 : decode cX7_distance 37 = .ok (.ireturn, 1) := by decide +kernel
theorem dX7_hint_0 : decode cX7_hint 0 = .ok (.aload_n 0, 1) := by decide +kernel
theorem dX7_hint_1 : decode cX7_hint 1 = .ok (.aload_n 0, 1) := by decide +kernel
theorem dX7_hint_2 : decode cX7_hint 2 = .ok (.getfield 48, 3) := by decide +kernel
theorem dX7_hint_5 : decode cX7_hint 5 = .ok (.bipush (-9), 2) := by decide +kernel
theorem dX7_hint_7 : decode cX7_hint 7 = .ok (.iload_n 1, 1) := by decide +kernel
theorem dX7_hint_8 : decode cX7_hint 8 = .ok (.invokevirtual 183, 3) := by decide +kernel
theorem dX7_hint_11 : decode cX7_hint 11 = .ok (.istore_n 2, 1) := by decide +kernel
theorem dX7_hint_12 : decode cX7_hint 12 = .ok (.iload_n 2, 1) := by decide +kernel
theorem dX7_hint_13 : decode cX7_hint 13 = .ok (.ifCond .ge 5, 3) := by decide +kernel
theorem dX7_hint_16 : decode cX7_hint 16 = .ok (.iload_n 2, 1) := by decide +kernel
theorem dX7_hint_17 : decode cX7_hint 17 = .ok (.ireturn, 1) := by decide +kernel
theorem dX7_hint_18 : decode cX7_hint 18 = .ok (.aload_n 0, 1) := by decide +kernel
theorem dX7_hint_19 : decode cX7_hint 19 = .ok (.getfield 48, 3) := by decide +kernel
theorem dX7_hint_22 : decode cX7_hint 22 = .ok (.aload_n 0, 1) := by decide +kernel
theorem dX7_hint_23 : decode cX7_hint 23 = .ok (.getfield 19, 3) := by decide +kernel
theorem dX7_hint_26 : decode cX7_hint 26 = .ok (.bipush (-9), 2) := by decide +kernel
theorem dX7_hint_28 : decode cX7_hint 28 = .ok (.invokevirtual 187, 3) := by decide +kernel
theorem dX7_hint_31 : decode cX7_hint 31 = .ok (.iload_n 1, 1) := by decide +kernel
theorem dX7_hint_32 : decode cX7_hint 32 = .ok (.invokevirtual 191, 3) := by decide +kernel
theorem dX7_hint_35 : decode cX7_hint 35 = .ok (.istore_n 3, 1) := by decide +kernel
theorem dX7_hint_36 : decode cX7_hint 36 = .ok (.iconst 0, 1) := by decide +kernel
theorem dX7_hint_37 : decode cX7_hint 37 = .ok (.istore 4, 2) := by decide +kernel
theorem dX7_hint_39 : decode cX7_hint 39 = .ok (.iload_n 3, 1) := by decide +kernel
theorem dX7_hint_40 : decode cX7_hint 40 = .ok (.ifCond .le 47, 3) := by decide +kernel
theorem dX7_hint_43 : decode cX7_hint 43 = .ok (.iload 4, 2) := by decide +kernel
theorem dX7_hint_45 : decode cX7_hint 45 = .ok (.aload_n 0, 1) := by decide +kernel
theorem dX7_hint_46 : decode cX7_hint 46 = .ok (.getfield 19, 3) := by decide +kernel
theorem dX7_hint_49 : decode cX7_hint 49 = .ok (.getfield 80, 3) := by decide +kernel
theorem dX7_hint_52 : decode cX7_hint 52 = .ok (.if_icmp .ge 35, 3) := by decide +kernel
theorem dX7_hint_55 : decode cX7_hint 55 = .ok (.aload_n 0, 1) := by decide +kernel
theorem dX7_hint_56 : decode cX7_hint 56 = .ok (.iload 4, 2) := by decide +kernel
theorem dX7_hint_58 : decode cX7_hint 58 = .ok (.iload_n 1, 1) := by decide +kernel
theorem dX7_hint_59 : decode cX7_hint 59 = .ok (.iload_n 3, 1) := by decide +kernel
theorem dX7_hint_60 : decode cX7_hint 60 = .ok (.iconst 1, 1) := by decide +kernel
theorem dX7_hint_61 : decode cX7_hint 61 = .ok (.isub, 1) := by decide +kernel
theorem dX7_hint_62 : decode cX7_hint 62 = .ok (.invokevirtual 195, 3) := by decide +kernel
theorem dX7_hint_65 : decode cX7_hint 65 = .ok (.istore 5, 2) := by decide +kernel
theorem dX7_hint_67 : decode cX7_hint 67 = .ok (.iload 5, 2) := by decide +kernel
theorem dX7_hint_69 : decode cX7_hint 69 = .ok (.ifCond .lt 12, 3) := by decide +kernel
theorem dX7_hint_72 : decode cX7_hint 72 = .ok (.bipush 100, 2) := by decide +kernel
theorem dX7_hint_74 : decode cX7_hint 74 = .ok (.iload 4, 2) := by decide +kernel
theorem dX7_hint_76 : decode cX7_hint 76 = .ok (.imul, 1) := by decide +kernel
theorem dX7_hint_77 : decode cX7_hint 77 = .ok (.iload 5, 2) := by decide +kernel
theorem dX7_hint_79 : decode cX7_hint 79 = .ok (.iadd, 1) := by decide +kernel
theorem dX7_hint_80 : decode cX7_hint 80 = .ok (.ireturn, 1) := by decide +kernel
theorem dX7_hint_81 : decode cX7_hint 81 = .ok (.iinc 4 1, 3) := by decide +kernel
theorem dX7_hint_84 : decode cX7_hint 84 = .ok (.goto (-45), 3) := by decide +kernel
theorem dX7_hint_87 : decode cX7_hint 87 = .ok (.bipush (-9), 2) := by decide +kernel
theorem dX7_hint_89 : decode cX7_hint 89 = .ok (.ireturn, 1) := by decide +kernel
theorem dX7_follow_0 : decode cX7_follow 0 = .ok (.aload_n 0, 1) := by decide +kernel
theorem dX7_follow_1 : decode cX7_follow 1 = .ok (.iload_n 1, 1) := by decide +kernel
theorem dX7_follow_2 : decode cX7_follow 2 = .ok (.invokevirtual 199, 3) := by decide +kernel
theorem dX7_follow_5 : decode cX7_follow 5 = .ok (.istore_n 2, 1) := by decide +kernel
theorem dX7_follow_6 : decode cX7_follow 6 = .ok (.iload_n 2, 1) := by decide +kernel
theorem dX7_follow_7 : decode cX7_follow 7 = .ok (.ifCond .ge 6, 3) := by decide +kernel
theorem dX7_follow_10 : decode cX7_follow 10 = .ok (.bipush (-2), 2) := by decide +kernel
theorem dX7_follow_12 : decode cX7_follow 12 = .ok (.ireturn, 1) := by decide +kernel
theorem dX7_follow_13 : decode cX7_follow 13 = .ok (.iload_n 2, 1) := by decide +kernel
theorem dX7_follow_14 : decode cX7_follow 14 = .ok (.bipush 100, 2) := by decide +kernel
theorem dX7_follow_16 : decode cX7_follow 16 = .ok (.idiv, 1) := by decide +kernel
theorem dX7_follow_17 : decode cX7_follow 17 = .ok (.istore_n 3, 1) := by decide +kernel
theorem dX7_follow_18 : decode cX7_follow 18 = .ok (.iload_n 2, 1) := by decide +kernel
theorem dX7_follow_19 : decode cX7_follow 19 = .ok (.bipush 100, 2) := by decide +kernel
theorem dX7_follow_21 : decode cX7_follow 21 = .ok (.irem, 1) := by decide +kernel
theorem dX7_follow_22 : decode cX7_follow 22 = .ok (.istore 4, 2) := by decide +kernel
theorem dX7_follow_24 : decode cX7_follow 24 = .ok (.aload_n 0, 1) := by decide +kernel
theorem dX7_follow_25 : decode cX7_follow 25 = .ok (.getfield 36, 3) := by decide +kernel
theorem dX7_follow_28 : decode cX7_follow 28 = .ok (.aload_n 0, 1) := by decide +kernel
theorem dX7_follow_29 : decode cX7_follow 29 = .ok (.getfield 19, 3) := by decide +kernel
theorem dX7_follow_32 : decode cX7_follow 32 = .ok (.iload_n 3, 1) := by decide +kernel
theorem dX7_follow_33 : decode cX7_follow 33 = .ok (.invokevirtual 147, 3) := by decide +kernel
theorem dX7_follow_36 : decode cX7_follow 36 = .ok (.pop, 1) := by decide +kernel
theorem dX7_follow_37 : decode cX7_follow 37 = .ok (.aload_n 0, 1) := by decide +kernel
theorem dX7_follow_38 : decode cX7_follow 38 = .ok (.getfield 29, 3) := by decide +kernel
theorem dX7_follow_41 : decode cX7_follow 41 = .ok (.aload_n 0, 1) := by decide +kernel
theorem dX7_follow_42 : decode cX7_follow 42 = .ok (.getfield 19, 3) := by decide +kernel
theorem dX7_follow_45 : decode cX7_follow 45 = .ok (.invokevirtual 70, 3) := by decide +kernel
theorem dX7_follow_48 : decode cX7_follow 48 = .ok (.aload_n 0, 1) := by decide +kernel
theorem dX7_follow_49 : decode cX7_follow 49 = .ok (.getfield 19, 3) := by decide +kernel
theorem dX7_follow_52 : decode cX7_follow 52 = .ok (.iload_n 3, 1) := by decide +kernel
theorem dX7_follow_53 : decode cX7_follow 53 = .ok (.iload 4, 2) := by decide +kernel
theorem dX7_follow_55 : decode cX7_follow 55 = .ok (.aload_n 0, 1) := by decide +kernel
theorem dX7_follow_56 : decode cX7_follow 56 = .ok (.getfield 36, 3) := by decide +kernel
theorem dX7_follow_59 : decode cX7_follow 59 = .ok (.getfield 161, 3) := by decide +kernel
theorem dX7_follow_62 : decode cX7_follow 62 = .ok (.iload 4, 2) := by decide +kernel
theorem dX7_follow_64 : decode cX7_follow 64 = .ok (.invokestatic 131, 3) := by decide +kernel
theorem dX7_follow_67 : decode cX7_follow 67 = .ok (.iload_n 1, 1) := by decide +kernel
theorem dX7_follow_68 : decode cX7_follow 68 = .ok (.invokevirtual 157, 3) := by decide +kernel
theorem dX7_follow_71 : decode cX7_follow 71 = .ok (.aload_n 0, 1) := by decide +kernel
theorem dX7_follow_72 : decode cX7_follow 72 = .ok (.iload_n 1, 1) := by decide +kernel
theorem dX7_follow_73 : decode cX7_follow 73 = .ok (.invokevirtual 203, 3) := by decide +kernel
theorem dX7_follow_76 : decode cX7_follow 76 = .ok (.ireturn, 1) := by decide +kernel
theorem dX7_worst_0 : decode cX7_worst 0 = .ok (.aload_n 0, 1) := by decide +kernel
theorem dX7_worst_1 : decode cX7_worst 1 = .ok (.aload_n 0, 1) := by decide +kernel
theorem dX7_worst_2 : decode cX7_worst 2 = .ok (.getfield 48, 3) := by decide +kernel
theorem dX7_worst_5 : decode cX7_worst 5 = .ok (.bipush (-9), 2) := by decide +kernel
theorem dX7_worst_7 : decode cX7_worst 7 = .ok (.iload_n 1, 1) := by decide +kernel
theorem dX7_worst_8 : decode cX7_worst 8 = .ok (.invokevirtual 183, 3) := by decide +kernel
theorem dX7_worst_11 : decode cX7_worst 11 = .ok (.ireturn, 1) := by decide +kernel
theorem dX7_hardest_0 : decode cX7_hardest 0 = .ok (.aload_n 0, 1) := by decide +kernel
theorem dX7_hardest_1 : decode cX7_hardest 1 = .ok (.aload_n 0, 1) := by decide +kernel
theorem dX7_hardest_2 : decode cX7_hardest 2 = .ok (.getfield 48, 3) := by decide +kernel
theorem dX7_hardest_5 : decode cX7_hardest 5 = .ok (.bipush (-9), 2) := by decide +kernel
theorem dX7_hardest_7 : decode cX7_hardest 7 = .ok (.iload_n 1, 1) := by decide +kernel
theorem dX7_hardest_8 : decode cX7_hardest 8 = .ok (.invokevirtual 183, 3) := by decide +kernel
theorem dX7_hardest_11 : decode cX7_hardest 11 = .ok (.istore_n 2, 1) := by decide +kernel
theorem dX7_hardest_12 : decode cX7_hardest 12 = .ok (.iload_n 2, 1) := by decide +kernel
theorem dX7_hardest_13 : decode cX7_hardest 13 = .ok (.ifCond .ge 6, 3) := by decide +kernel
theorem dX7_hardest_16 : decode cX7_hardest 16 = .ok (.bipush (-2), 2) := by decide +kernel
theorem dX7_hardest_18 : decode cX7_hardest 18 = .ok (.ireturn, 1) := by decide +kernel
theorem dX7_hardest_19 : decode cX7_hardest 19 = .ok (.aload_n 0, 1) := by decide +kernel
theorem dX7_hardest_20 : decode cX7_hardest 20 = .ok (.getfield 29, 3) := by decide +kernel
theorem dX7_hardest_23 : decode cX7_hardest 23 = .ok (.aload_n 0, 1) := by decide +kernel
theorem dX7_hardest_24 : decode cX7_hardest 24 = .ok (.getfield 19, 3) := by decide +kernel
theorem dX7_hardest_27 : decode cX7_hardest 27 = .ok (.invokevirtual 70, 3) := by decide +kernel
theorem dX7_hardest_30 : decode cX7_hardest 30 = .ok (.aload_n 0, 1) := by decide +kernel
theorem dX7_hardest_31 : decode cX7_hardest 31 = .ok (.getfield 19, 3) := by decide +kernel
theorem dX7_hardest_34 : decode cX7_hardest 34 = .ok (.aload_n 0, 1) := by decide +kernel
theorem dX7_hardest_35 : decode cX7_hardest 35 = .ok (.getfield 48, 3) := by decide +kernel
theorem dX7_hardest_38 : decode cX7_hardest 38 = .ok (.iload_n 1, 1) := by decide +kernel
theorem dX7_hardest_39 : decode cX7_hardest 39 = .ok (.iload_n 2, 1) := by decide +kernel
theorem dX7_hardest_40 : decode cX7_hardest 40 = .ok (.invokevirtual 206, 3) := by decide +kernel
theorem dX7_hardest_43 : decode cX7_hardest 43 = .ok (.invokevirtual 210, 3) := by decide +kernel
theorem dX7_hardest_46 : decode cX7_hardest 46 = .ok (.aload_n 0, 1) := by decide +kernel
theorem dX7_hardest_47 : decode cX7_hardest 47 = .ok (.getfield 19, 3) := by decide +kernel
theorem dX7_hardest_50 : decode cX7_hardest 50 = .ok (.invokevirtual 214, 3) := by decide +kernel
theorem dX7_hardest_53 : decode cX7_hardest 53 = .ok (.iload_n 2, 1) := by decide +kernel
theorem dX7_hardest_54 : decode cX7_hardest 54 = .ok (.ireturn, 1) := by decide +kernel
theorem dX7_mean_0 : decode cX7_mean 0 = .ok (.aload_n 0, 1) := by decide +kernel
theorem dX7_mean_1 : decode cX7_mean 1 = .ok (.aload_n 0, 1) := by decide +kernel
theorem dX7_mean_2 : decode cX7_mean 2 = .ok (.getfield 48, 3) := by decide +kernel
theorem dX7_mean_5 : decode cX7_mean 5 = .ok (.bipush (-9), 2) := by decide +kernel
theorem dX7_mean_7 : decode cX7_mean 7 = .ok (.iload_n 1, 1) := by decide +kernel
theorem dX7_mean_8 : decode cX7_mean 8 = .ok (.invokevirtual 183, 3) := by decide +kernel
theorem dX7_mean_11 : decode cX7_mean 11 = .ok (.ifCond .lt 14, 3) := by decide +kernel
theorem dX7_mean_14 : decode cX7_mean 14 = .ok (.aload_n 0, 1) := by decide +kernel
theorem dX7_mean_15 : decode cX7_mean 15 = .ok (.getfield 48, 3) := by decide +kernel
theorem dX7_mean_18 : decode cX7_mean 18 = .ok (.getfield 176, 3) := by decide +kernel
theorem dX7_mean_21 : decode cX7_mean 21 = .ok (.iconst 1, 1) := by decide +kernel
theorem dX7_mean_22 : decode cX7_mean 22 = .ok (.if_icmp .ge 6, 3) := by decide +kernel
theorem dX7_mean_25 : decode cX7_mean 25 = .ok (.ldc 217, 2) := by decide +kernel
theorem dX7_mean_27 : decode cX7_mean 27 = .ok (.freturn, 1) := by decide +kernel
theorem dX7_mean_28 : decode cX7_mean 28 = .ok (.aload_n 0, 1) := by decide +kernel
theorem dX7_mean_29 : decode cX7_mean 29 = .ok (.getfield 48, 3) := by decide +kernel
theorem dX7_mean_32 : decode cX7_mean 32 = .ok (.iload_n 1, 1) := by decide +kernel
theorem dX7_mean_33 : decode cX7_mean 33 = .ok (.invokevirtual 218, 3) := by decide +kernel
theorem dX7_mean_36 : decode cX7_mean 36 = .ok (.getfield 222, 3) := by decide +kernel
theorem dX7_mean_39 : decode cX7_mean 39 = .ok (.i2f, 1) := by decide +kernel
theorem dX7_mean_40 : decode cX7_mean 40 = .ok (.aload_n 0, 1) := by decide +kernel
theorem dX7_mean_41 : decode cX7_mean 41 = .ok (.getfield 48, 3) := by decide +kernel
theorem dX7_mean_44 : decode cX7_mean 44 = .ok (.getfield 176, 3) := by decide +kernel
theorem dX7_mean_47 : decode cX7_mean 47 = .ok (.i2f, 1) := by decide +kernel
theorem dX7_mean_48 : decode cX7_mean 48 = .ok (.fdiv, 1) := by decide +kernel
theorem dX7_mean_49 : decode cX7_mean 49 = .ok (.freturn, 1) := by decide +kernel
theorem dX7_places_0 : decode cX7_places 0 = .ok (.aload_n 0, 1) := by decide +kernel
theorem dX7_places_1 : decode cX7_places 1 = .ok (.getfield 19, 3) := by decide +kernel
theorem dX7_places_4 : decode cX7_places 4 = .ok (.iload_n 1, 1) := by decide +kernel
theorem dX7_places_5 : decode cX7_places 5 = .ok (.invokevirtual 124, 3) := by decide +kernel
theorem dX7_places_8 : decode cX7_places 8 = .ok (.ifCond .ne 5, 3) := by decide +kernel
theorem dX7_places_11 : decode cX7_places 11 = .ok (.iconst (-1), 1) := by decide +kernel
theorem dX7_places_12 : decode cX7_places 12 = .ok (.ireturn, 1) := by decide +kernel
theorem dX7_places_13 : decode cX7_places 13 = .ok (.aload_n 0, 1) := by decide +kernel
theorem dX7_places_14 : decode cX7_places 14 = .ok (.getfield 48, 3) := by decide +kernel
theorem dX7_places_17 : decode cX7_places 17 = .ok (.aload_n 0, 1) := by decide +kernel
theorem dX7_places_18 : decode cX7_places 18 = .ok (.getfield 19, 3) := by decide +kernel
theorem dX7_places_21 : decode cX7_places 21 = .ok (.bipush (-9), 2) := by decide +kernel
theorem dX7_places_23 : decode cX7_places 23 = .ok (.invokevirtual 168, 3) := by decide +kernel
theorem dX7_places_26 : decode cX7_places 26 = .ok (.aload_n 0, 1) := by decide +kernel
theorem dX7_places_27 : decode cX7_places 27 = .ok (.getfield 48, 3) := by decide +kernel
theorem dX7_places_30 : decode cX7_places 30 = .ok (.getfield 172, 3) := by decide +kernel
theorem dX7_places_33 : decode cX7_places 33 = .ok (.ifCond .eq 8, 3) := by decide +kernel
theorem dX7_places_36 : decode cX7_places 36 = .ok (.bipush (-3), 2) := by decide +kernel
theorem dX7_places_38 : decode cX7_places 38 = .ok (.goto 11, 3) := by decide +kernel
theorem dX7_places_41 : decode cX7_places 41 = .ok (.aload_n 0, 1) := by decide +kernel
theorem dX7_places_42 : decode cX7_places 42 = .ok (.getfield 48, 3) := by decide +kernel
theorem dX7_places_45 : decode cX7_places 45 = .ok (.iload_n 1, 1) := by decide +kernel
theorem dX7_places_46 : decode cX7_places 46 = .ok (.invokevirtual 227, 3) := by decide +kernel
theorem dX7_places_49 : decode cX7_places 49 = .ok (.ireturn, 1) := by decide +kernel
theorem dX7_without_0 : decode cX7_without 0 = .ok (.aload_n 0, 1) := by decide +kernel
theorem dX7_without_1 : decode cX7_without 1 = .ok (.getfield 19, 3) := by decide +kernel
theorem dX7_without_4 : decode cX7_without 4 = .ok (.iload_n 1, 1) := by decide +kernel
theorem dX7_without_5 : decode cX7_without 5 = .ok (.invokevirtual 124, 3) := by decide +kernel
theorem dX7_without_8 : decode cX7_without 8 = .ok (.ifCond .ne 5, 3) := by decide +kernel
theorem dX7_without_11 : decode cX7_without 11 = .ok (.iconst (-1), 1) := by decide +kernel
theorem dX7_without_12 : decode cX7_without 12 = .ok (.ireturn, 1) := by decide +kernel
theorem dX7_without_13 : decode cX7_without 13 = .ok (.aload_n 0, 1) := by decide +kernel
theorem dX7_without_14 : decode cX7_without 14 = .ok (.getfield 19, 3) := by decide +kernel
theorem dX7_without_17 : decode cX7_without 17 = .ok (.getfield 105, 3) := by decide +kernel
theorem dX7_without_20 : decode cX7_without 20 = .ok (.iload_n 1, 1) := by decide +kernel
theorem dX7_without_21 : decode cX7_without 21 = .ok (.if_icmp .ne 6, 3) := by decide +kernel
theorem dX7_without_24 : decode cX7_without 24 = .ok (.bipush (-2), 2) := by decide +kernel
theorem dX7_without_26 : decode cX7_without 26 = .ok (.ireturn, 1) := by decide +kernel
theorem dX7_without_27 : decode cX7_without 27 = .ok (.aload_n 0, 1) := by decide +kernel
theorem dX7_without_28 : decode cX7_without 28 = .ok (.aload_n 0, 1) := by decide +kernel
theorem dX7_without_29 : decode cX7_without 29 = .ok (.getfield 52, 3) := by decide +kernel
theorem dX7_without_32 : decode cX7_without 32 = .ok (.iload_n 1, 1) := by decide +kernel
theorem dX7_without_33 : decode cX7_without 33 = .ok (.iload_n 2, 1) := by decide +kernel
theorem dX7_without_34 : decode cX7_without 34 = .ok (.invokevirtual 183, 3) := by decide +kernel
theorem dX7_without_37 : decode cX7_without 37 = .ok (.istore_n 3, 1) := by decide +kernel
theorem dX7_without_38 : decode cX7_without 38 = .ok (.iload_n 3, 1) := by decide +kernel
theorem dX7_without_39 : decode cX7_without 39 = .ok (.ifCond .ge 7, 3) := by decide +kernel
theorem dX7_without_42 : decode cX7_without 42 = .ok (.iload_n 3, 1) := by decide +kernel
theorem dX7_without_43 : decode cX7_without 43 = .ok (.goto 19, 3) := by decide +kernel
theorem dX7_without_46 : decode cX7_without 46 = .ok (.aload_n 0, 1) := by decide +kernel
theorem dX7_without_47 : decode cX7_without 47 = .ok (.getfield 52, 3) := by decide +kernel
theorem dX7_without_50 : decode cX7_without 50 = .ok (.aload_n 0, 1) := by decide +kernel
theorem dX7_without_51 : decode cX7_without 51 = .ok (.getfield 19, 3) := by decide +kernel
theorem dX7_without_54 : decode cX7_without 54 = .ok (.iload_n 1, 1) := by decide +kernel
theorem dX7_without_55 : decode cX7_without 55 = .ok (.invokevirtual 187, 3) := by decide +kernel
theorem dX7_without_58 : decode cX7_without 58 = .ok (.iload_n 2, 1) := by decide +kernel
theorem dX7_without_59 : decode cX7_without 59 = .ok (.invokevirtual 191, 3) := by decide +kernel
theorem dX7_without_62 : decode cX7_without 62 = .ok (.ireturn, 1) := by decide +kernel
theorem dX7_undo_0 : decode cX7_undo 0 = .ok (.aload_n 0, 1) := by decide +kernel
theorem dX7_undo_1 : decode cX7_undo 1 = .ok (.getfield 29, 3) := by decide +kernel
theorem dX7_undo_4 : decode cX7_undo 4 = .ok (.aload_n 0, 1) := by decide +kernel
theorem dX7_undo_5 : decode cX7_undo 5 = .ok (.getfield 19, 3) := by decide +kernel
theorem dX7_undo_8 : decode cX7_undo 8 = .ok (.invokevirtual 230, 3) := by decide +kernel
theorem dX7_undo_11 : decode cX7_undo 11 = .ok (.ireturn, 1) := by decide +kernel
theorem dX7_fingerprint_0 : decode cX7_fingerprint 0 = .ok (.ldc2_w 233, 3) := by decide +kernel
theorem dX7_fingerprint_3 : decode cX7_fingerprint 3 = .ok (.lstore_n 1, 1) := by decide +kernel
theorem dX7_fingerprint_4 : decode cX7_fingerprint 4 = .ok (.iconst 0, 1) := by decide +kernel
theorem dX7_fingerprint_5 : decode cX7_fingerprint 5 = .ok (.istore_n 3, 1) := by decide +kernel
theorem dX7_fingerprint_6 : decode cX7_fingerprint 6 = .ok (.iload_n 3, 1) := by decide +kernel
theorem dX7_fingerprint_7 : decode cX7_fingerprint 7 = .ok (.bipush 8, 2) := by decide +kernel
theorem dX7_fingerprint_9 : decode cX7_fingerprint 9 = .ok (.if_icmp .gt 22, 3) := by decide +kernel
theorem dX7_fingerprint_12 : decode cX7_fingerprint 12 = .ok (.ldc2_w 235, 3) := by decide +kernel
theorem dX7_fingerprint_15 : decode cX7_fingerprint 15 = .ok (.lload_n 1, 1) := by decide +kernel
theorem dX7_fingerprint_16 : decode cX7_fingerprint 16 = .ok (.lmul, 1) := by decide +kernel
theorem dX7_fingerprint_17 : decode cX7_fingerprint 17 = .ok (.aload_n 0, 1) := by decide +kernel
theorem dX7_fingerprint_18 : decode cX7_fingerprint 18 = .ok (.iload_n 3, 1) := by decide +kernel
theorem dX7_fingerprint_19 : decode cX7_fingerprint 19 = .ok (.invokevirtual 237, 3) := by decide +kernel
theorem dX7_fingerprint_22 : decode cX7_fingerprint 22 = .ok (.i2l, 1) := by decide +kernel
theorem dX7_fingerprint_23 : decode cX7_fingerprint 23 = .ok (.ladd, 1) := by decide +kernel
theorem dX7_fingerprint_24 : decode cX7_fingerprint 24 = .ok (.lstore_n 1, 1) := by decide +kernel
theorem dX7_fingerprint_25 : decode cX7_fingerprint 25 = .ok (.iinc 3 1, 3) := by decide +kernel
theorem dX7_fingerprint_28 : decode cX7_fingerprint 28 = .ok (.goto (-22), 3) := by decide +kernel
theorem dX7_fingerprint_31 : decode cX7_fingerprint 31 = .ok (.iconst 0, 1) := by decide +kernel
theorem dX7_fingerprint_32 : decode cX7_fingerprint 32 = .ok (.istore_n 3, 1) := by decide +kernel
theorem dX7_fingerprint_33 : decode cX7_fingerprint 33 = .ok (.iload_n 3, 1) := by decide +kernel
theorem dX7_fingerprint_34 : decode cX7_fingerprint 34 = .ok (.aload_n 0, 1) := by decide +kernel
theorem dX7_fingerprint_35 : decode cX7_fingerprint 35 = .ok (.getfield 19, 3) := by decide +kernel
theorem dX7_fingerprint_38 : decode cX7_fingerprint 38 = .ok (.getfield 83, 3) := by decide +kernel
theorem dX7_fingerprint_41 : decode cX7_fingerprint 41 = .ok (.aload_n 0, 1) := by decide +kernel
theorem dX7_fingerprint_42 : decode cX7_fingerprint 42 = .ok (.getfield 19, 3) := by decide +kernel
theorem dX7_fingerprint_45 : decode cX7_fingerprint 45 = .ok (.getfield 86, 3) := by decide +kernel
theorem dX7_fingerprint_48 : decode cX7_fingerprint 48 = .ok (.imul, 1) := by decide +kernel
theorem dX7_fingerprint_49 : decode cX7_fingerprint 49 = .ok (.if_icmp .ge 22, 3) := by decide +kernel
theorem dX7_fingerprint_52 : decode cX7_fingerprint 52 = .ok (.ldc2_w 235, 3) := by decide +kernel
theorem dX7_fingerprint_55 : decode cX7_fingerprint 55 = .ok (.lload_n 1, 1) := by decide +kernel
theorem dX7_fingerprint_56 : decode cX7_fingerprint 56 = .ok (.lmul, 1) := by decide +kernel
theorem dX7_fingerprint_57 : decode cX7_fingerprint 57 = .ok (.aload_n 0, 1) := by decide +kernel
theorem dX7_fingerprint_58 : decode cX7_fingerprint 58 = .ok (.iload_n 3, 1) := by decide +kernel
theorem dX7_fingerprint_59 : decode cX7_fingerprint 59 = .ok (.invokevirtual 240, 3) := by decide +kernel
theorem dX7_fingerprint_62 : decode cX7_fingerprint 62 = .ok (.i2l, 1) := by decide +kernel
theorem dX7_fingerprint_63 : decode cX7_fingerprint 63 = .ok (.ladd, 1) := by decide +kernel
theorem dX7_fingerprint_64 : decode cX7_fingerprint 64 = .ok (.lstore_n 1, 1) := by decide +kernel
theorem dX7_fingerprint_65 : decode cX7_fingerprint 65 = .ok (.iinc 3 1, 3) := by decide +kernel
theorem dX7_fingerprint_68 : decode cX7_fingerprint 68 = .ok (.goto (-35), 3) := by decide +kernel
theorem dX7_fingerprint_71 : decode cX7_fingerprint 71 = .ok (.iconst 0, 1) := by decide +kernel
theorem dX7_fingerprint_72 : decode cX7_fingerprint 72 = .ok (.istore_n 3, 1) := by decide +kernel
theorem dX7_fingerprint_73 : decode cX7_fingerprint 73 = .ok (.iload_n 3, 1) := by decide +kernel
theorem dX7_fingerprint_74 : decode cX7_fingerprint 74 = .ok (.aload_n 0, 1) := by decide +kernel
theorem dX7_fingerprint_75 : decode cX7_fingerprint 75 = .ok (.getfield 19, 3) := by decide +kernel
theorem dX7_fingerprint_78 : decode cX7_fingerprint 78 = .ok (.getfield 80, 3) := by decide +kernel
theorem dX7_fingerprint_81 : decode cX7_fingerprint 81 = .ok (.if_icmp .ge 40, 3) := by decide +kernel
theorem dX7_fingerprint_84 : decode cX7_fingerprint 84 = .ok (.iconst 0, 1) := by decide +kernel
theorem dX7_fingerprint_85 : decode cX7_fingerprint 85 = .ok (.istore 4, 2) := by decide +kernel
theorem dX7_fingerprint_87 : decode cX7_fingerprint 87 = .ok (.iload 4, 2) := by decide +kernel
theorem dX7_fingerprint_89 : decode cX7_fingerprint 89 = .ok (.bipush 6, 2) := by decide +kernel
theorem dX7_fingerprint_91 : decode cX7_fingerprint 91 = .ok (.if_icmp .gt 24, 3) := by decide +kernel
theorem dX7_fingerprint_94 : decode cX7_fingerprint 94 = .ok (.ldc2_w 235, 3) := by decide +kernel
theorem dX7_fingerprint_97 : decode cX7_fingerprint 97 = .ok (.lload_n 1, 1) := by decide +kernel
theorem dX7_fingerprint_98 : decode cX7_fingerprint 98 = .ok (.lmul, 1) := by decide +kernel
theorem dX7_fingerprint_99 : decode cX7_fingerprint 99 = .ok (.aload_n 0, 1) := by decide +kernel
theorem dX7_fingerprint_100 : decode cX7_fingerprint 100 = .ok (.iload_n 3, 1) := by decide +kernel
theorem dX7_fingerprint_101 : decode cX7_fingerprint 101 = .ok (.iload 4, 2) := by decide +kernel
theorem dX7_fingerprint_103 : decode cX7_fingerprint 103 = .ok (.invokevirtual 243, 3) := by decide +kernel
theorem dX7_fingerprint_106 : decode cX7_fingerprint 106 = .ok (.i2l, 1) := by decide +kernel
theorem dX7_fingerprint_107 : decode cX7_fingerprint 107 = .ok (.ladd, 1) := by decide +kernel
theorem dX7_fingerprint_108 : decode cX7_fingerprint 108 = .ok (.lstore_n 1, 1) := by decide +kernel
theorem dX7_fingerprint_109 : decode cX7_fingerprint 109 = .ok (.iinc 4 1, 3) := by decide +kernel
theorem dX7_fingerprint_112 : decode cX7_fingerprint 112 = .ok (.goto (-25), 3) := by decide +kernel
theorem dX7_fingerprint_115 : decode cX7_fingerprint 115 = .ok (.iinc 3 1, 3) := by decide +kernel
theorem dX7_fingerprint_118 : decode cX7_fingerprint 118 = .ok (.goto (-45), 3) := by decide +kernel
theorem dX7_fingerprint_121 : decode cX7_fingerprint 121 = .ok (.ldc2_w 235, 3) := by decide +kernel
theorem dX7_fingerprint_124 : decode cX7_fingerprint 124 = .ok (.lload_n 1, 1) := by decide +kernel
theorem dX7_fingerprint_125 : decode cX7_fingerprint 125 = .ok (.lmul, 1) := by decide +kernel
theorem dX7_fingerprint_126 : decode cX7_fingerprint 126 = .ok (.aload_n 0, 1) := by decide +kernel
theorem dX7_fingerprint_127 : decode cX7_fingerprint 127 = .ok (.invokevirtual 246, 3) := by decide +kernel
theorem dX7_fingerprint_130 : decode cX7_fingerprint 130 = .ok (.i2l, 1) := by decide +kernel
theorem dX7_fingerprint_131 : decode cX7_fingerprint 131 = .ok (.ladd, 1) := by decide +kernel
theorem dX7_fingerprint_132 : decode cX7_fingerprint 132 = .ok (.lstore_n 1, 1) := by decide +kernel
theorem dX7_fingerprint_133 : decode cX7_fingerprint 133 = .ok (.ldc2_w 235, 3) := by decide +kernel
theorem dX7_fingerprint_136 : decode cX7_fingerprint 136 = .ok (.lload_n 1, 1) := by decide +kernel
theorem dX7_fingerprint_137 : decode cX7_fingerprint 137 = .ok (.lmul, 1) := by decide +kernel
theorem dX7_fingerprint_138 : decode cX7_fingerprint 138 = .ok (.aload_n 0, 1) := by decide +kernel
theorem dX7_fingerprint_139 : decode cX7_fingerprint 139 = .ok (.iconst 0, 1) := by decide +kernel
theorem dX7_fingerprint_140 : decode cX7_fingerprint 140 = .ok (.invokevirtual 203, 3) := by decide +kernel
theorem dX7_fingerprint_143 : decode cX7_fingerprint 143 = .ok (.i2l, 1) := by decide +kernel
theorem dX7_fingerprint_144 : decode cX7_fingerprint 144 = .ok (.ladd, 1) := by decide +kernel
theorem dX7_fingerprint_145 : decode cX7_fingerprint 145 = .ok (.lstore_n 1, 1) := by decide +kernel
theorem dX7_fingerprint_146 : decode cX7_fingerprint 146 = .ok (.ldc2_w 235, 3) := by decide +kernel
theorem dX7_fingerprint_149 : decode cX7_fingerprint 149 = .ok (.lload_n 1, 1) := by decide +kernel
theorem dX7_fingerprint_150 : decode cX7_fingerprint 150 = .ok (.lmul, 1) := by decide +kernel
theorem dX7_fingerprint_151 : decode cX7_fingerprint 151 = .ok (.aload_n 0, 1) := by decide +kernel
theorem dX7_fingerprint_152 : decode cX7_fingerprint 152 = .ok (.iconst 1, 1) := by decide +kernel
theorem dX7_fingerprint_153 : decode cX7_fingerprint 153 = .ok (.invokevirtual 203, 3) := by decide +kernel
theorem dX7_fingerprint_156 : decode cX7_fingerprint 156 = .ok (.i2l, 1) := by decide +kernel
theorem dX7_fingerprint_157 : decode cX7_fingerprint 157 = .ok (.ladd, 1) := by decide +kernel
theorem dX7_fingerprint_158 : decode cX7_fingerprint 158 = .ok (.lreturn, 1) := by decide +kernel
theorem dX7_greatest_0 : decode cX7_greatest 0 = .ok (.aload_n 0, 1) := by decide +kernel
theorem dX7_greatest_1 : decode cX7_greatest 1 = .ok (.getfield 19, 3) := by decide +kernel
theorem dX7_greatest_4 : decode cX7_greatest 4 = .ok (.getfield 105, 3) := by decide +kernel
theorem dX7_greatest_7 : decode cX7_greatest 7 = .ok (.bipush (-9), 2) := by decide +kernel
theorem dX7_greatest_9 : decode cX7_greatest 9 = .ok (.if_icmp .ne 6, 3) := by decide +kernel
theorem dX7_greatest_12 : decode cX7_greatest 12 = .ok (.bipush (-2), 2) := by decide +kernel
theorem dX7_greatest_14 : decode cX7_greatest 14 = .ok (.ireturn, 1) := by decide +kernel
theorem dX7_greatest_15 : decode cX7_greatest 15 = .ok (.aload_n 1, 1) := by decide +kernel
theorem dX7_greatest_16 : decode cX7_greatest 16 = .ok (.aload_n 0, 1) := by decide +kernel
theorem dX7_greatest_17 : decode cX7_greatest 17 = .ok (.getfield 19, 3) := by decide +kernel
theorem dX7_greatest_20 : decode cX7_greatest 20 = .ok (.iload_n 2, 1) := by decide +kernel
theorem dX7_greatest_21 : decode cX7_greatest 21 = .ok (.invokevirtual 168, 3) := by decide +kernel
theorem dX7_greatest_24 : decode cX7_greatest 24 = .ok (.aload_n 1, 1) := by decide +kernel
theorem dX7_greatest_25 : decode cX7_greatest 25 = .ok (.getfield 172, 3) := by decide +kernel
theorem dX7_greatest_28 : decode cX7_greatest 28 = .ok (.ifCond .eq 6, 3) := by decide +kernel
theorem dX7_greatest_31 : decode cX7_greatest 31 = .ok (.bipush (-3), 2) := by decide +kernel
theorem dX7_greatest_33 : decode cX7_greatest 33 = .ok (.ireturn, 1) := by decide +kernel
theorem dX7_greatest_34 : decode cX7_greatest 34 = .ok (.aload_n 1, 1) := by decide +kernel
theorem dX7_greatest_35 : decode cX7_greatest 35 = .ok (.iload_n 3, 1) := by decide +kernel
theorem dX7_greatest_36 : decode cX7_greatest 36 = .ok (.invokevirtual 218, 3) := by decide +kernel
theorem dX7_greatest_39 : decode cX7_greatest 39 = .ok (.astore 4, 2) := by decide +kernel
theorem dX7_greatest_41 : decode cX7_greatest 41 = .ok (.aload 4, 2) := by decide +kernel
theorem dX7_greatest_43 : decode cX7_greatest 43 = .ok (.aload_n 0, 1) := by decide +kernel
theorem dX7_greatest_44 : decode cX7_greatest 44 = .ok (.getfield 19, 3) := by decide +kernel
theorem dX7_greatest_47 : decode cX7_greatest 47 = .ok (.aload_n 1, 1) := by decide +kernel
theorem dX7_greatest_48 : decode cX7_greatest 48 = .ok (.invokevirtual 249, 3) := by decide +kernel
theorem dX7_greatest_51 : decode cX7_greatest 51 = .ok (.aload 4, 2) := by decide +kernel
theorem dX7_greatest_53 : decode cX7_greatest 53 = .ok (.getfield 253, 3) := by decide +kernel
theorem dX7_greatest_56 : decode cX7_greatest 56 = .ok (.ireturn, 1) := by decide +kernel
theorem dX7_nearerPlace_0 : decode cX7_nearerPlace 0 = .ok (.aload_n 0, 1) := by decide +kernel
theorem dX7_nearerPlace_1 : decode cX7_nearerPlace 1 = .ok (.getfield 36, 3) := by decide +kernel
theorem dX7_nearerPlace_4 : decode cX7_nearerPlace 4 = .ok (.aload_n 0, 1) := by decide +kernel
theorem dX7_nearerPlace_5 : decode cX7_nearerPlace 5 = .ok (.getfield 19, 3) := by decide +kernel
theorem dX7_nearerPlace_8 : decode cX7_nearerPlace 8 = .ok (.iload_n 1, 1) := by decide +kernel
theorem dX7_nearerPlace_9 : decode cX7_nearerPlace 9 = .ok (.invokevirtual 147, 3) := by decide +kernel
theorem dX7_nearerPlace_12 : decode cX7_nearerPlace 12 = .ok (.pop, 1) := by decide +kernel
theorem dX7_nearerPlace_13 : decode cX7_nearerPlace 13 = .ok (.iconst 0, 1) := by decide +kernel
theorem dX7_nearerPlace_14 : decode cX7_nearerPlace 14 = .ok (.istore 4, 2) := by decide +kernel
theorem dX7_nearerPlace_16 : decode cX7_nearerPlace 16 = .ok (.iload 4, 2) := by decide +kernel
theorem dX7_nearerPlace_18 : decode cX7_nearerPlace 18 = .ok (.bipush 24, 2) := by decide +kernel
theorem dX7_nearerPlace_20 : decode cX7_nearerPlace 20 = .ok (.if_icmp .ge 83, 3) := by decide +kernel
theorem dX7_nearerPlace_23 : decode cX7_nearerPlace 23 = .ok (.aload_n 0, 1) := by decide +kernel
theorem dX7_nearerPlace_24 : decode cX7_nearerPlace 24 = .ok (.getfield 36, 3) := by decide +kernel
theorem dX7_nearerPlace_27 : decode cX7_nearerPlace 27 = .ok (.getfield 161, 3) := by decide +kernel
theorem dX7_nearerPlace_30 : decode cX7_nearerPlace 30 = .ok (.iload 4, 2) := by decide +kernel
theorem dX7_nearerPlace_32 : decode cX7_nearerPlace 32 = .ok (.invokestatic 131, 3) := by decide +kernel
theorem dX7_nearerPlace_35 : decode cX7_nearerPlace 35 = .ok (.istore 5, 2) := by decide +kernel
theorem dX7_nearerPlace_37 : decode cX7_nearerPlace 37 = .ok (.iload_n 2, 1) := by decide +kernel
theorem dX7_nearerPlace_38 : decode cX7_nearerPlace 38 = .ok (.ifCond .eq 16, 3) := by decide +kernel
theorem dX7_nearerPlace_41 : decode cX7_nearerPlace 41 = .ok (.iload 5, 2) := by decide +kernel
theorem dX7_nearerPlace_43 : decode cX7_nearerPlace 43 = .ok (.ifCond .le 7, 3) := by decide +kernel
theorem dX7_nearerPlace_46 : decode cX7_nearerPlace 46 = .ok (.iconst 1, 1) := by decide +kernel
theorem dX7_nearerPlace_47 : decode cX7_nearerPlace 47 = .ok (.goto 18, 3) := by decide +kernel
theorem dX7_nearerPlace_50 : decode cX7_nearerPlace 50 = .ok (.iconst 0, 1) := by decide +kernel
theorem dX7_nearerPlace_51 : decode cX7_nearerPlace 51 = .ok (.goto 14, 3) := by decide +kernel
theorem dX7_nearerPlace_54 : decode cX7_nearerPlace 54 = .ok (.iload 5, 2) := by decide +kernel
theorem dX7_nearerPlace_56 : decode cX7_nearerPlace 56 = .ok (.iconst 1, 1) := by decide +kernel
theorem dX7_nearerPlace_57 : decode cX7_nearerPlace 57 = .ok (.if_icmp .ne 7, 3) := by decide +kernel
theorem dX7_nearerPlace_60 : decode cX7_nearerPlace 60 = .ok (.iconst 1, 1) := by decide +kernel
theorem dX7_nearerPlace_61 : decode cX7_nearerPlace 61 = .ok (.goto 4, 3) := by decide +kernel
theorem dX7_nearerPlace_64 : decode cX7_nearerPlace 64 = .ok (.iconst 0, 1) := by decide +kernel
theorem dX7_nearerPlace_65 : decode cX7_nearerPlace 65 = .ok (.istore 6, 2) := by decide +kernel
theorem dX7_nearerPlace_67 : decode cX7_nearerPlace 67 = .ok (.iload 6, 2) := by decide +kernel
theorem dX7_nearerPlace_69 : decode cX7_nearerPlace 69 = .ok (.ifCond .eq 28, 3) := by decide +kernel
theorem dX7_nearerPlace_72 : decode cX7_nearerPlace 72 = .ok (.aload_n 0, 1) := by decide +kernel
theorem dX7_nearerPlace_73 : decode cX7_nearerPlace 73 = .ok (.getfield 48, 3) := by decide +kernel
theorem dX7_nearerPlace_76 : decode cX7_nearerPlace 76 = .ok (.aload_n 0, 1) := by decide +kernel
theorem dX7_nearerPlace_77 : decode cX7_nearerPlace 77 = .ok (.getfield 19, 3) := by decide +kernel
theorem dX7_nearerPlace_80 : decode cX7_nearerPlace 80 = .ok (.iload_n 1, 1) := by decide +kernel
theorem dX7_nearerPlace_81 : decode cX7_nearerPlace 81 = .ok (.iload 4, 2) := by decide +kernel
theorem dX7_nearerPlace_83 : decode cX7_nearerPlace 83 = .ok (.invokevirtual 255, 3) := by decide +kernel
theorem dX7_nearerPlace_86 : decode cX7_nearerPlace 86 = .ok (.iload_n 2, 1) := by decide +kernel
theorem dX7_nearerPlace_87 : decode cX7_nearerPlace 87 = .ok (.invokevirtual 191, 3) := by decide +kernel
theorem dX7_nearerPlace_90 : decode cX7_nearerPlace 90 = .ok (.iload_n 3, 1) := by decide +kernel
theorem dX7_nearerPlace_91 : decode cX7_nearerPlace 91 = .ok (.if_icmp .ne 6, 3) := by decide +kernel
theorem dX7_nearerPlace_94 : decode cX7_nearerPlace 94 = .ok (.iload 4, 2) := by decide +kernel
theorem dX7_nearerPlace_96 : decode cX7_nearerPlace 96 = .ok (.ireturn, 1) := by decide +kernel
theorem dX7_nearerPlace_97 : decode cX7_nearerPlace 97 = .ok (.iinc 4 1, 3) := by decide +kernel
theorem dX7_nearerPlace_100 : decode cX7_nearerPlace 100 = .ok (.goto (-84), 3) := by decide +kernel
theorem dX7_nearerPlace_103 : decode cX7_nearerPlace 103 = .ok (.bipush (-9), 2) := by decide +kernel
theorem dX7_nearerPlace_105 : decode cX7_nearerPlace 105 = .ok (.ireturn, 1) := by decide +kernel
theorem dX7_at_0 : decode cX7_at 0 = .ok (.iload_n 1, 1) := by decide +kernel
theorem dX7_at_1 : decode cX7_at 1 = .ok (.ifCond .lt 15, 3) := by decide +kernel
theorem dX7_at_4 : decode cX7_at 4 = .ok (.iload_n 1, 1) := by decide +kernel
theorem dX7_at_5 : decode cX7_at 5 = .ok (.aload_n 0, 1) := by decide +kernel
theorem dX7_at_6 : decode cX7_at 6 = .ok (.arraylength, 1) := by decide +kernel
theorem dX7_at_7 : decode cX7_at 7 = .ok (.if_icmp .ge 9, 3) := by decide +kernel
theorem dX7_at_10 : decode cX7_at 10 = .ok (.aload_n 0, 1) := by decide +kernel
theorem dX7_at_11 : decode cX7_at 11 = .ok (.iload_n 1, 1) := by decide +kernel
theorem dX7_at_12 : decode cX7_at 12 = .ok (.iaload, 1) := by decide +kernel
theorem dX7_at_13 : decode cX7_at 13 = .ok (.goto 4, 3) := by decide +kernel
theorem dX7_at_16 : decode cX7_at 16 = .ok (.iconst 0, 1) := by decide +kernel
theorem dX7_at_17 : decode cX7_at 17 = .ok (.ireturn, 1) := by decide +kernel
theorem dX7_at__0 : decode cX7_at_ 0 = .ok (.iload_n 1, 1) := by decide +kernel
theorem dX7_at__1 : decode cX7_at_ 1 = .ok (.ifCond .lt 15, 3) := by decide +kernel
theorem dX7_at__4 : decode cX7_at_ 4 = .ok (.iload_n 1, 1) := by decide +kernel
theorem dX7_at__5 : decode cX7_at_ 5 = .ok (.aload_n 0, 1) := by decide +kernel
theorem dX7_at__6 : decode cX7_at_ 6 = .ok (.arraylength, 1) := by decide +kernel
theorem dX7_at__7 : decode cX7_at_ 7 = .ok (.if_icmp .ge 9, 3) := by decide +kernel
theorem dX7_at__10 : decode cX7_at_ 10 = .ok (.aload_n 0, 1) := by decide +kernel
theorem dX7_at__11 : decode cX7_at_ 11 = .ok (.iload_n 1, 1) := by decide +kernel
theorem dX7_at__12 : decode cX7_at_ 12 = .ok (.laload, 1) := by decide +kernel
theorem dX7_at__13 : decode cX7_at_ 13 = .ok (.goto 4, 3) := by decide +kernel
theorem dX7_at__16 : decode cX7_at_ 16 = .ok (.lconst 0, 1) := by decide +kernel
theorem dX7_at__17 : decode cX7_at_ 17 = .ok (.lreturn, 1) := by decide +kernel
theorem dX7_put_0 : decode cX7_put 0 = .ok (.iload_n 1, 1) := by decide +kernel
theorem dX7_put_1 : decode cX7_put 1 = .ok (.ifCond .lt 13, 3) := by decide +kernel
theorem dX7_put_4 : decode cX7_put 4 = .ok (.iload_n 1, 1) := by decide +kernel
theorem dX7_put_5 : decode cX7_put 5 = .ok (.aload_n 0, 1) := by decide +kernel
theorem dX7_put_6 : decode cX7_put 6 = .ok (.arraylength, 1) := by decide +kernel
theorem dX7_put_7 : decode cX7_put 7 = .ok (.if_icmp .ge 7, 3) := by decide +kernel
theorem dX7_put_10 : decode cX7_put 10 = .ok (.aload_n 0, 1) := by decide +kernel
theorem dX7_put_11 : decode cX7_put 11 = .ok (.iload_n 1, 1) := by decide +kernel
theorem dX7_put_12 : decode cX7_put 12 = .ok (.iload_n 2, 1) := by decide +kernel
theorem dX7_put_13 : decode cX7_put 13 = .ok (.iastore, 1) := by decide +kernel
theorem dX7_put_14 : decode cX7_put 14 = .ok (.return_, 1) := by decide +kernel
theorem dX7_put__0 : decode cX7_put_ 0 = .ok (.iload_n 1, 1) := by decide +kernel
theorem dX7_put__1 : decode cX7_put_ 1 = .ok (.ifCond .lt 13, 3) := by decide +kernel
theorem dX7_put__4 : decode cX7_put_ 4 = .ok (.iload_n 1, 1) := by decide +kernel
theorem dX7_put__5 : decode cX7_put_ 5 = .ok (.aload_n 0, 1) := by decide +kernel
theorem dX7_put__6 : decode cX7_put_ 6 = .ok (.arraylength, 1) := by decide +kernel
theorem dX7_put__7 : decode cX7_put_ 7 = .ok (.if_icmp .ge 7, 3) := by decide +kernel
theorem dX7_put__10 : decode cX7_put_ 10 = .ok (.aload_n 0, 1) := by decide +kernel
theorem dX7_put__11 : decode cX7_put_ 11 = .ok (.iload_n 1, 1) := by decide +kernel
theorem dX7_put__12 : decode cX7_put_ 12 = .ok (.lload_n 2, 1) := by decide +kernel
theorem dX7_put__13 : decode cX7_put_ 13 = .ok (.lastore, 1) := by decide +kernel
theorem dX7_put__14 : decode cX7_put_ 14 = .ok (.return_, 1) := by decide +kernel
theorem dX7_copyRow_0 : decode cX7_copyRow 0 = .ok (.aload_n 0, 1) := by decide +kernel
theorem dX7_copyRow_1 : decode cX7_copyRow 1 = .ok (.iconst 0, 1) := by decide +kernel
theorem dX7_copyRow_2 : decode cX7_copyRow 2 = .ok (.aload_n 1, 1) := by decide +kernel
theorem dX7_copyRow_3 : decode cX7_copyRow 3 = .ok (.iconst 0, 1) := by decide +kernel
theorem dX7_copyRow_4 : decode cX7_copyRow 4 = .ok (.aload_n 0, 1) := by decide +kernel
theorem dX7_copyRow_5 : decode cX7_copyRow 5 = .ok (.arraylength, 1) := by decide +kernel
theorem dX7_copyRow_6 : decode cX7_copyRow 6 = .ok (.aload_n 1, 1) := by decide +kernel
theorem dX7_copyRow_7 : decode cX7_copyRow 7 = .ok (.arraylength, 1) := by decide +kernel
theorem dX7_copyRow_8 : decode cX7_copyRow 8 = .ok (.invokestatic 259, 3) := by decide +kernel
theorem dX7_copyRow_11 : decode cX7_copyRow 11 = .ok (.invokestatic 264, 3) := by decide +kernel
theorem dX7_copyRow_14 : decode cX7_copyRow 14 = .ok (.return_, 1) := by decide +kernel
theorem dX7_keyShift_0 : decode cX7_keyShift 0 = .ok (.iconst 5, 1) := by decide +kernel
theorem dX7_keyShift_1 : decode cX7_keyShift 1 = .ok (.bipush 6, 2) := by decide +kernel
theorem dX7_keyShift_3 : decode cX7_keyShift 3 = .ok (.iload_n 0, 1) := by decide +kernel
theorem dX7_keyShift_4 : decode cX7_keyShift 4 = .ok (.isub, 1) := by decide +kernel
theorem dX7_keyShift_5 : decode cX7_keyShift 5 = .ok (.imul, 1) := by decide +kernel
theorem dX7_keyShift_6 : decode cX7_keyShift 6 = .ok (.ireturn, 1) := by decide +kernel
theorem dX7_placeIn_0 : decode cX7_placeIn 0 = .ok (.lload_n 0, 1) := by decide +kernel
theorem dX7_placeIn_1 : decode cX7_placeIn 1 = .ok (.iconst 5, 1) := by decide +kernel
theorem dX7_placeIn_2 : decode cX7_placeIn 2 = .ok (.bipush 6, 2) := by decide +kernel
theorem dX7_placeIn_4 : decode cX7_placeIn 4 = .ok (.iload_n 2, 1) := by decide +kernel
theorem dX7_placeIn_5 : decode cX7_placeIn 5 = .ok (.isub, 1) := by decide +kernel
theorem dX7_placeIn_6 : decode cX7_placeIn 6 = .ok (.imul, 1) := by decide +kernel
theorem dX7_placeIn_7 : decode cX7_placeIn 7 = .ok (.lushr, 1) := by decide +kernel
theorem dX7_placeIn_8 : decode cX7_placeIn 8 = .ok (.l2i, 1) := by decide +kernel
theorem dX7_placeIn_9 : decode cX7_placeIn 9 = .ok (.bipush 31, 2) := by decide +kernel
theorem dX7_placeIn_11 : decode cX7_placeIn 11 = .ok (.iand, 1) := by decide +kernel
theorem dX7_placeIn_12 : decode cX7_placeIn 12 = .ok (.ireturn, 1) := by decide +kernel
theorem dJ6_bitCount_0f7a4_0 : decode cJ6_bitCount_0f7a4 0 = .ok (.iload_n 0, 1) := by decide +kernel
theorem dJ6_bitCount_0f7a4_1 : decode cJ6_bitCount_0f7a4 1 = .ok (.iload_n 0, 1) := by decide +kernel
theorem dJ6_bitCount_0f7a4_2 : decode cJ6_bitCount_0f7a4 2 = .ok (.iconst 1, 1) := by decide +kernel
theorem dJ6_bitCount_0f7a4_3 : decode cJ6_bitCount_0f7a4 3 = .ok (.iushr, 1) := by decide +kernel
theorem dJ6_bitCount_0f7a4_4 : decode cJ6_bitCount_0f7a4 4 = .ok (.ldc_w 265, 3) := by decide +kernel
theorem dJ6_bitCount_0f7a4_7 : decode cJ6_bitCount_0f7a4 7 = .ok (.iand, 1) := by decide +kernel
theorem dJ6_bitCount_0f7a4_8 : decode cJ6_bitCount_0f7a4 8 = .ok (.isub, 1) := by decide +kernel
theorem dJ6_bitCount_0f7a4_9 : decode cJ6_bitCount_0f7a4 9 = .ok (.istore_n 0, 1) := by decide +kernel
theorem dJ6_bitCount_0f7a4_10 : decode cJ6_bitCount_0f7a4 10 = .ok (.iload_n 0, 1) := by decide +kernel
theorem dJ6_bitCount_0f7a4_11 : decode cJ6_bitCount_0f7a4 11 = .ok (.ldc_w 266, 3) := by decide +kernel
theorem dJ6_bitCount_0f7a4_14 : decode cJ6_bitCount_0f7a4 14 = .ok (.iand, 1) := by decide +kernel
theorem dJ6_bitCount_0f7a4_15 : decode cJ6_bitCount_0f7a4 15 = .ok (.iload_n 0, 1) := by decide +kernel
theorem dJ6_bitCount_0f7a4_16 : decode cJ6_bitCount_0f7a4 16 = .ok (.iconst 2, 1) := by decide +kernel
theorem dJ6_bitCount_0f7a4_17 : decode cJ6_bitCount_0f7a4 17 = .ok (.iushr, 1) := by decide +kernel
theorem dJ6_bitCount_0f7a4_18 : decode cJ6_bitCount_0f7a4 18 = .ok (.ldc_w 266, 3) := by decide +kernel
theorem dJ6_bitCount_0f7a4_21 : decode cJ6_bitCount_0f7a4 21 = .ok (.iand, 1) := by decide +kernel
theorem dJ6_bitCount_0f7a4_22 : decode cJ6_bitCount_0f7a4 22 = .ok (.iadd, 1) := by decide +kernel
theorem dJ6_bitCount_0f7a4_23 : decode cJ6_bitCount_0f7a4 23 = .ok (.istore_n 0, 1) := by decide +kernel
theorem dJ6_bitCount_0f7a4_24 : decode cJ6_bitCount_0f7a4 24 = .ok (.iload_n 0, 1) := by decide +kernel
theorem dJ6_bitCount_0f7a4_25 : decode cJ6_bitCount_0f7a4 25 = .ok (.iload_n 0, 1) := by decide +kernel
theorem dJ6_bitCount_0f7a4_26 : decode cJ6_bitCount_0f7a4 26 = .ok (.iconst 4, 1) := by decide +kernel
theorem dJ6_bitCount_0f7a4_27 : decode cJ6_bitCount_0f7a4 27 = .ok (.iushr, 1) := by decide +kernel
theorem dJ6_bitCount_0f7a4_28 : decode cJ6_bitCount_0f7a4 28 = .ok (.iadd, 1) := by decide +kernel
theorem dJ6_bitCount_0f7a4_29 : decode cJ6_bitCount_0f7a4 29 = .ok (.ldc_w 267, 3) := by decide +kernel
theorem dJ6_bitCount_0f7a4_32 : decode cJ6_bitCount_0f7a4 32 = .ok (.iand, 1) := by decide +kernel
theorem dJ6_bitCount_0f7a4_33 : decode cJ6_bitCount_0f7a4 33 = .ok (.istore_n 0, 1) := by decide +kernel
theorem dJ6_bitCount_0f7a4_34 : decode cJ6_bitCount_0f7a4 34 = .ok (.iload_n 0, 1) := by decide +kernel
theorem dJ6_bitCount_0f7a4_35 : decode cJ6_bitCount_0f7a4 35 = .ok (.iload_n 0, 1) := by decide +kernel
theorem dJ6_bitCount_0f7a4_36 : decode cJ6_bitCount_0f7a4 36 = .ok (.bipush 8, 2) := by decide +kernel
theorem dJ6_bitCount_0f7a4_38 : decode cJ6_bitCount_0f7a4 38 = .ok (.iushr, 1) := by decide +kernel
theorem dJ6_bitCount_0f7a4_39 : decode cJ6_bitCount_0f7a4 39 = .ok (.iadd, 1) := by decide +kernel
theorem dJ6_bitCount_0f7a4_40 : decode cJ6_bitCount_0f7a4 40 = .ok (.istore_n 0, 1) := by decide +kernel
theorem dJ6_bitCount_0f7a4_41 : decode cJ6_bitCount_0f7a4 41 = .ok (.iload_n 0, 1) := by decide +kernel
theorem dJ6_bitCount_0f7a4_42 : decode cJ6_bitCount_0f7a4 42 = .ok (.iload_n 0, 1) := by decide +kernel
theorem dJ6_bitCount_0f7a4_43 : decode cJ6_bitCount_0f7a4 43 = .ok (.bipush 16, 2) := by decide +kernel
theorem dJ6_bitCount_0f7a4_45 : decode cJ6_bitCount_0f7a4 45 = .ok (.iushr, 1) := by decide +kernel
theorem dJ6_bitCount_0f7a4_46 : decode cJ6_bitCount_0f7a4 46 = .ok (.iadd, 1) := by decide +kernel
theorem dJ6_bitCount_0f7a4_47 : decode cJ6_bitCount_0f7a4 47 = .ok (.istore_n 0, 1) := by decide +kernel
theorem dJ6_bitCount_0f7a4_48 : decode cJ6_bitCount_0f7a4 48 = .ok (.iload_n 0, 1) := by decide +kernel
theorem dJ6_bitCount_0f7a4_49 : decode cJ6_bitCount_0f7a4 49 = .ok (.bipush 63, 2) := by decide +kernel
theorem dJ6_bitCount_0f7a4_51 : decode cJ6_bitCount_0f7a4 51 = .ok (.iand, 1) := by decide +kernel
theorem dJ6_bitCount_0f7a4_52 : decode cJ6_bitCount_0f7a4 52 = .ok (.ireturn, 1) := by decide +kernel
theorem dJ9_max_7cf53_0 : decode cJ9_max_7cf53 0 = .ok (.iload_n 0, 1) := by decide +kernel
theorem dJ9_max_7cf53_1 : decode cJ9_max_7cf53 1 = .ok (.iload_n 1, 1) := by decide +kernel
theorem dJ9_max_7cf53_2 : decode cJ9_max_7cf53 2 = .ok (.if_icmp .lt 7, 3) := by decide +kernel
theorem dJ9_max_7cf53_5 : decode cJ9_max_7cf53 5 = .ok (.iload_n 0, 1) := by decide +kernel
theorem dJ9_max_7cf53_6 : decode cJ9_max_7cf53 6 = .ok (.goto 4, 3) := by decide +kernel
theorem dJ9_max_7cf53_9 : decode cJ9_max_7cf53 9 = .ok (.iload_n 1, 1) := by decide +kernel
theorem dJ9_max_7cf53_10 : decode cJ9_max_7cf53 10 = .ok (.ireturn, 1) := by decide +kernel
theorem dJ9_min_7cf53_0 : decode cJ9_min_7cf53 0 = .ok (.iload_n 0, 1) := by decide +kernel
theorem dJ9_min_7cf53_1 : decode cJ9_min_7cf53 1 = .ok (.iload_n 1, 1) := by decide +kernel
theorem dJ9_min_7cf53_2 : decode cJ9_min_7cf53 2 = .ok (.if_icmp .gt 7, 3) := by decide +kernel
theorem dJ9_min_7cf53_5 : decode cJ9_min_7cf53 5 = .ok (.iload_n 0, 1) := by decide +kernel
theorem dJ9_min_7cf53_6 : decode cJ9_min_7cf53 6 = .ok (.goto 4, 3) := by decide +kernel
theorem dJ9_min_7cf53_9 : decode cJ9_min_7cf53 9 = .ok (.iload_n 1, 1) := by decide +kernel
theorem dJ9_min_7cf53_10 : decode cJ9_min_7cf53 10 = .ok (.ireturn, 1) := by decide +kernel
theorem dJ7_fill_53178_0 : decode cJ7_fill_53178 0 = .ok (.iconst 0, 1) := by decide +kernel
theorem dJ7_fill_53178_1 : decode cJ7_fill_53178 1 = .ok (.istore_n 2, 1) := by decide +kernel
theorem dJ7_fill_53178_2 : decode cJ7_fill_53178 2 = .ok (.aload_n 0, 1) := by decide +kernel
theorem dJ7_fill_53178_3 : decode cJ7_fill_53178 3 = .ok (.arraylength, 1) := by decide +kernel
theorem dJ7_fill_53178_4 : decode cJ7_fill_53178 4 = .ok (.istore_n 3, 1) := by decide +kernel
theorem dJ7_fill_53178_5 : decode cJ7_fill_53178 5 = .ok (.iload_n 2, 1) := by decide +kernel
theorem dJ7_fill_53178_6 : decode cJ7_fill_53178 6 = .ok (.iload_n 3, 1) := by decide +kernel
theorem dJ7_fill_53178_7 : decode cJ7_fill_53178 7 = .ok (.if_icmp .ge 13, 3) := by decide +kernel
theorem dJ7_fill_53178_10 : decode cJ7_fill_53178 10 = .ok (.aload_n 0, 1) := by decide +kernel
theorem dJ7_fill_53178_11 : decode cJ7_fill_53178 11 = .ok (.iload_n 2, 1) := by decide +kernel
theorem dJ7_fill_53178_12 : decode cJ7_fill_53178 12 = .ok (.iload_n 1, 1) := by decide +kernel
theorem dJ7_fill_53178_13 : decode cJ7_fill_53178 13 = .ok (.iastore, 1) := by decide +kernel
theorem dJ7_fill_53178_14 : decode cJ7_fill_53178 14 = .ok (.iinc 2 1, 3) := by decide +kernel
theorem dJ7_fill_53178_17 : decode cJ7_fill_53178 17 = .ok (.goto (-12), 3) := by decide +kernel
theorem dJ7_fill_53178_20 : decode cJ7_fill_53178 20 = .ok (.return_, 1) := by decide +kernel
theorem dL_cell_0 : decode cL_cell 0 = .ok (.iload_n 1, 1) := by decide +kernel
theorem dL_cell_1 : decode cL_cell 1 = .ok (.aload_n 0, 1) := by decide +kernel
theorem dL_cell_2 : decode cL_cell 2 = .ok (.arraylength, 1) := by decide +kernel
theorem dL_cell_3 : decode cL_cell 3 = .ok (.if_icmp .ge 9, 3) := by decide +kernel
theorem dL_cell_6 : decode cL_cell 6 = .ok (.aload_n 0, 1) := by decide +kernel
theorem dL_cell_7 : decode cL_cell 7 = .ok (.iload_n 1, 1) := by decide +kernel
theorem dL_cell_8 : decode cL_cell 8 = .ok (.iaload, 1) := by decide +kernel
theorem dL_cell_9 : decode cL_cell 9 = .ok (.goto 9, 3) := by decide +kernel
theorem dL_cell_12 : decode cL_cell 12 = .ok (.ldc 7, 2) := by decide +kernel
theorem dL_cell_14 : decode cL_cell 14 = .ok (.iload_n 1, 1) := by decide +kernel
theorem dL_cell_15 : decode cL_cell 15 = .ok (.iconst 3, 1) := by decide +kernel
theorem dL_cell_16 : decode cL_cell 16 = .ok (.iadd, 1) := by decide +kernel
theorem dL_cell_17 : decode cL_cell 17 = .ok (.imul, 1) := by decide +kernel
theorem dL_cell_18 : decode cL_cell 18 = .ok (.ireturn, 1) := by decide +kernel
theorem dL_up_0 : decode cL_up 0 = .ok (.iload_n 0, 1) := by decide +kernel
theorem dL_up_1 : decode cL_up 1 = .ok (.ldc 8, 2) := by decide +kernel
theorem dL_up_3 : decode cL_up 3 = .ok (.iand, 1) := by decide +kernel
theorem dL_up_4 : decode cL_up 4 = .ok (.iload_n 1, 1) := by decide +kernel
theorem dL_up_5 : decode cL_up 5 = .ok (.irem, 1) := by decide +kernel
theorem dL_up_6 : decode cL_up 6 = .ok (.ireturn, 1) := by decide +kernel
theorem dL_fails_0 : decode cL_fails 0 = .ok (.aload_n 0, 1) := by decide +kernel
theorem dL_fails_1 : decode cL_fails 1 = .ok (.invokevirtual 9, 3) := by decide +kernel
theorem dL_fails_4 : decode cL_fails 4 = .ok (.lstore_n 1, 1) := by decide +kernel
theorem dL_fails_5 : decode cL_fails 5 = .ok (.aload_n 0, 1) := by decide +kernel
theorem dL_fails_6 : decode cL_fails 6 = .ok (.iconst 2, 1) := by decide +kernel
theorem dL_fails_7 : decode cL_fails 7 = .ok (.invokevirtual 15, 3) := by decide +kernel
theorem dL_fails_10 : decode cL_fails 10 = .ok (.istore_n 3, 1) := by decide +kernel
theorem dL_fails_11 : decode cL_fails 11 = .ok (.aload_n 0, 1) := by decide +kernel
theorem dL_fails_12 : decode cL_fails 12 = .ok (.iconst 0, 1) := by decide +kernel
theorem dL_fails_13 : decode cL_fails 13 = .ok (.invokevirtual 15, 3) := by decide +kernel
theorem dL_fails_16 : decode cL_fails 16 = .ok (.aload_n 0, 1) := by decide +kernel
theorem dL_fails_17 : decode cL_fails 17 = .ok (.iconst 1, 1) := by decide +kernel
theorem dL_fails_18 : decode cL_fails 18 = .ok (.invokevirtual 15, 3) := by decide +kernel
theorem dL_fails_21 : decode cL_fails 21 = .ok (.imul, 1) := by decide +kernel
theorem dL_fails_22 : decode cL_fails 22 = .ok (.istore 4, 2) := by decide +kernel
theorem dL_fails_24 : decode cL_fails 24 = .ok (.aload_n 0, 1) := by decide +kernel
theorem dL_fails_25 : decode cL_fails 25 = .ok (.bipush 31, 2) := by decide +kernel
theorem dL_fails_27 : decode cL_fails 27 = .ok (.invokevirtual 19, 3) := by decide +kernel
theorem dL_fails_30 : decode cL_fails 30 = .ok (.iconst (-1), 1) := by decide +kernel
theorem dL_fails_31 : decode cL_fails 31 = .ok (.if_icmp .ne 148, 3) := by decide +kernel
theorem dL_fails_34 : decode cL_fails 34 = .ok (.aload_n 0, 1) := by decide +kernel
theorem dL_fails_35 : decode cL_fails 35 = .ok (.bipush 9, 2) := by decide +kernel
theorem dL_fails_37 : decode cL_fails 37 = .ok (.invokevirtual 15, 3) := by decide +kernel
theorem dL_fails_40 : decode cL_fails 40 = .ok (.iconst (-1), 1) := by decide +kernel
theorem dL_fails_41 : decode cL_fails 41 = .ok (.if_icmp .ne 138, 3) := by decide +kernel
theorem dL_fails_44 : decode cL_fails 44 = .ok (.aload_n 0, 1) := by decide +kernel
theorem dL_fails_45 : decode cL_fails 45 = .ok (.iload 4, 2) := by decide +kernel
theorem dL_fails_47 : decode cL_fails 47 = .ok (.invokevirtual 22, 3) := by decide +kernel
theorem dL_fails_50 : decode cL_fails 50 = .ok (.iconst (-1), 1) := by decide +kernel
theorem dL_fails_51 : decode cL_fails 51 = .ok (.if_icmp .ne 128, 3) := by decide +kernel
theorem dL_fails_54 : decode cL_fails 54 = .ok (.aload_n 0, 1) := by decide +kernel
theorem dL_fails_55 : decode cL_fails 55 = .ok (.iconst (-1), 1) := by decide +kernel
theorem dL_fails_56 : decode cL_fails 56 = .ok (.invokevirtual 22, 3) := by decide +kernel
theorem dL_fails_59 : decode cL_fails 59 = .ok (.iconst (-1), 1) := by decide +kernel
theorem dL_fails_60 : decode cL_fails 60 = .ok (.if_icmp .ne 119, 3) := by decide +kernel
theorem dL_fails_63 : decode cL_fails 63 = .ok (.aload_n 0, 1) := by decide +kernel
theorem dL_fails_64 : decode cL_fails 64 = .ok (.iload_n 3, 1) := by decide +kernel
theorem dL_fails_65 : decode cL_fails 65 = .ok (.iconst 0, 1) := by decide +kernel
theorem dL_fails_66 : decode cL_fails 66 = .ok (.invokevirtual 25, 3) := by decide +kernel
theorem dL_fails_69 : decode cL_fails 69 = .ok (.iconst (-1), 1) := by decide +kernel
theorem dL_fails_70 : decode cL_fails 70 = .ok (.if_icmp .ne 109, 3) := by decide +kernel
theorem dL_fails_73 : decode cL_fails 73 = .ok (.aload_n 0, 1) := by decide +kernel
theorem dL_fails_74 : decode cL_fails 74 = .ok (.iconst 0, 1) := by decide +kernel
theorem dL_fails_75 : decode cL_fails 75 = .ok (.bipush 7, 2) := by decide +kernel
theorem dL_fails_77 : decode cL_fails 77 = .ok (.invokevirtual 25, 3) := by decide +kernel
theorem dL_fails_80 : decode cL_fails 80 = .ok (.iconst (-1), 1) := by decide +kernel
theorem dL_fails_81 : decode cL_fails 81 = .ok (.if_icmp .ne 98, 3) := by decide +kernel
theorem dL_fails_84 : decode cL_fails 84 = .ok (.aload_n 0, 1) := by decide +kernel
theorem dL_fails_85 : decode cL_fails 85 = .ok (.iload_n 3, 1) := by decide +kernel
theorem dL_fails_86 : decode cL_fails 86 = .ok (.iconst 0, 1) := by decide +kernel
theorem dL_fails_87 : decode cL_fails 87 = .ok (.invokevirtual 29, 3) := by decide +kernel
theorem dL_fails_90 : decode cL_fails 90 = .ok (.iconst (-1), 1) := by decide +kernel
theorem dL_fails_91 : decode cL_fails 91 = .ok (.if_icmp .ne 88, 3) := by decide +kernel
theorem dL_fails_94 : decode cL_fails 94 = .ok (.aload_n 0, 1) := by decide +kernel
theorem dL_fails_95 : decode cL_fails 95 = .ok (.iconst 0, 1) := by decide +kernel
theorem dL_fails_96 : decode cL_fails 96 = .ok (.iconst 4, 1) := by decide +kernel
theorem dL_fails_97 : decode cL_fails 97 = .ok (.invokevirtual 29, 3) := by decide +kernel
theorem dL_fails_100 : decode cL_fails 100 = .ok (.iconst (-1), 1) := by decide +kernel
theorem dL_fails_101 : decode cL_fails 101 = .ok (.if_icmp .ne 78, 3) := by decide +kernel
theorem dL_fails_104 : decode cL_fails 104 = .ok (.aload_n 0, 1) := by decide +kernel
theorem dL_fails_105 : decode cL_fails 105 = .ok (.iload_n 3, 1) := by decide +kernel
theorem dL_fails_106 : decode cL_fails 106 = .ok (.iconst 0, 1) := by decide +kernel
theorem dL_fails_107 : decode cL_fails 107 = .ok (.invokevirtual 32, 3) := by decide +kernel
theorem dL_fails_110 : decode cL_fails 110 = .ok (.iconst (-1), 1) := by decide +kernel
theorem dL_fails_111 : decode cL_fails 111 = .ok (.if_icmp .ne 68, 3) := by decide +kernel
theorem dL_fails_114 : decode cL_fails 114 = .ok (.aload_n 0, 1) := by decide +kernel
theorem dL_fails_115 : decode cL_fails 115 = .ok (.iconst 0, 1) := by decide +kernel
theorem dL_fails_116 : decode cL_fails 116 = .ok (.iload 4, 2) := by decide +kernel
theorem dL_fails_118 : decode cL_fails 118 = .ok (.invokevirtual 32, 3) := by decide +kernel
theorem dL_fails_121 : decode cL_fails 121 = .ok (.iconst (-1), 1) := by decide +kernel
theorem dL_fails_122 : decode cL_fails 122 = .ok (.if_icmp .ne 57, 3) := by decide +kernel
theorem dL_fails_125 : decode cL_fails 125 = .ok (.aload_n 0, 1) := by decide +kernel
theorem dL_fails_126 : decode cL_fails 126 = .ok (.iload_n 3, 1) := by decide +kernel
theorem dL_fails_127 : decode cL_fails 127 = .ok (.iconst 0, 1) := by decide +kernel
theorem dL_fails_128 : decode cL_fails 128 = .ok (.invokevirtual 35, 3) := by decide +kernel
theorem dL_fails_131 : decode cL_fails 131 = .ok (.iconst (-1), 1) := by decide +kernel
theorem dL_fails_132 : decode cL_fails 132 = .ok (.if_icmp .ne 47, 3) := by decide +kernel
theorem dL_fails_135 : decode cL_fails 135 = .ok (.aload_n 0, 1) := by decide +kernel
theorem dL_fails_136 : decode cL_fails 136 = .ok (.iconst 0, 1) := by decide +kernel
theorem dL_fails_137 : decode cL_fails 137 = .ok (.iload 4, 2) := by decide +kernel
theorem dL_fails_139 : decode cL_fails 139 = .ok (.invokevirtual 35, 3) := by decide +kernel
theorem dL_fails_142 : decode cL_fails 142 = .ok (.iconst (-1), 1) := by decide +kernel
theorem dL_fails_143 : decode cL_fails 143 = .ok (.if_icmp .ne 36, 3) := by decide +kernel
theorem dL_fails_146 : decode cL_fails 146 = .ok (.aload_n 0, 1) := by decide +kernel
theorem dL_fails_147 : decode cL_fails 147 = .ok (.iconst 0, 1) := by decide +kernel
theorem dL_fails_148 : decode cL_fails 148 = .ok (.iconst (-1), 1) := by decide +kernel
theorem dL_fails_149 : decode cL_fails 149 = .ok (.invokevirtual 35, 3) := by decide +kernel
theorem dL_fails_152 : decode cL_fails 152 = .ok (.iconst (-1), 1) := by decide +kernel
theorem dL_fails_153 : decode cL_fails 153 = .ok (.if_icmp .ne 26, 3) := by decide +kernel
theorem dL_fails_156 : decode cL_fails 156 = .ok (.aload_n 0, 1) := by decide +kernel
theorem dL_fails_157 : decode cL_fails 157 = .ok (.iload_n 3, 1) := by decide +kernel
theorem dL_fails_158 : decode cL_fails 158 = .ok (.invokevirtual 38, 3) := by decide +kernel
theorem dL_fails_161 : decode cL_fails 161 = .ok (.iconst (-1), 1) := by decide +kernel
theorem dL_fails_162 : decode cL_fails 162 = .ok (.if_icmp .ne 17, 3) := by decide +kernel
theorem dL_fails_165 : decode cL_fails 165 = .ok (.aload_n 0, 1) := by decide +kernel
theorem dL_fails_166 : decode cL_fails 166 = .ok (.iload_n 3, 1) := by decide +kernel
theorem dL_fails_167 : decode cL_fails 167 = .ok (.iconst 1, 1) := by decide +kernel
theorem dL_fails_168 : decode cL_fails 168 = .ok (.invokevirtual 41, 3) := by decide +kernel
theorem dL_fails_171 : decode cL_fails 171 = .ok (.iconst (-1), 1) := by decide +kernel
theorem dL_fails_172 : decode cL_fails 172 = .ok (.if_icmp .ne 7, 3) := by decide +kernel
theorem dL_fails_175 : decode cL_fails 175 = .ok (.iconst 1, 1) := by decide +kernel
theorem dL_fails_176 : decode cL_fails 176 = .ok (.goto 4, 3) := by decide +kernel
theorem dL_fails_179 : decode cL_fails 179 = .ok (.iconst 0, 1) := by decide +kernel
theorem dL_fails_180 : decode cL_fails 180 = .ok (.istore 5, 2) := by decide +kernel
theorem dL_fails_182 : decode cL_fails 182 = .ok (.aload_n 0, 1) := by decide +kernel
theorem dL_fails_183 : decode cL_fails 183 = .ok (.bipush 6, 2) := by decide +kernel
theorem dL_fails_185 : decode cL_fails 185 = .ok (.invokevirtual 15, 3) := by decide +kernel
theorem dL_fails_188 : decode cL_fails 188 = .ok (.ifCond .ge 100, 3) := by decide +kernel
theorem dL_fails_191 : decode cL_fails 191 = .ok (.iload 5, 2) := by decide +kernel
theorem dL_fails_193 : decode cL_fails 193 = .ok (.ifCond .eq 92, 3) := by decide +kernel
theorem dL_fails_196 : decode cL_fails 196 = .ok (.aload_n 0, 1) := by decide +kernel
theorem dL_fails_197 : decode cL_fails 197 = .ok (.invokevirtual 45, 3) := by decide +kernel
theorem dL_fails_200 : decode cL_fails 200 = .ok (.bipush (-2), 2) := by decide +kernel
theorem dL_fails_202 : decode cL_fails 202 = .ok (.if_icmp .ne 83, 3) := by decide +kernel
theorem dL_fails_205 : decode cL_fails 205 = .ok (.aload_n 0, 1) := by decide +kernel
theorem dL_fails_206 : decode cL_fails 206 = .ok (.iconst 1, 1) := by decide +kernel
theorem dL_fails_207 : decode cL_fails 207 = .ok (.invokevirtual 49, 3) := by decide +kernel
theorem dL_fails_210 : decode cL_fails 210 = .ok (.bipush (-2), 2) := by decide +kernel
theorem dL_fails_212 : decode cL_fails 212 = .ok (.if_icmp .ne 73, 3) := by decide +kernel
theorem dL_fails_215 : decode cL_fails 215 = .ok (.aload_n 0, 1) := by decide +kernel
theorem dL_fails_216 : decode cL_fails 216 = .ok (.iconst 0, 1) := by decide +kernel
theorem dL_fails_217 : decode cL_fails 217 = .ok (.invokevirtual 53, 3) := by decide +kernel
theorem dL_fails_220 : decode cL_fails 220 = .ok (.bipush (-2), 2) := by decide +kernel
theorem dL_fails_222 : decode cL_fails 222 = .ok (.if_icmp .ne 63, 3) := by decide +kernel
theorem dL_fails_225 : decode cL_fails 225 = .ok (.aload_n 0, 1) := by decide +kernel
theorem dL_fails_226 : decode cL_fails 226 = .ok (.iconst 0, 1) := by decide +kernel
theorem dL_fails_227 : decode cL_fails 227 = .ok (.invokevirtual 56, 3) := by decide +kernel
theorem dL_fails_230 : decode cL_fails 230 = .ok (.bipush (-2), 2) := by decide +kernel
theorem dL_fails_232 : decode cL_fails 232 = .ok (.if_icmp .ne 53, 3) := by decide +kernel
theorem dL_fails_235 : decode cL_fails 235 = .ok (.aload_n 0, 1) := by decide +kernel
theorem dL_fails_236 : decode cL_fails 236 = .ok (.iconst 1, 1) := by decide +kernel
theorem dL_fails_237 : decode cL_fails 237 = .ok (.invokevirtual 59, 3) := by decide +kernel
theorem dL_fails_240 : decode cL_fails 240 = .ok (.bipush (-2), 2) := by decide +kernel
theorem dL_fails_242 : decode cL_fails 242 = .ok (.if_icmp .ne 43, 3) := by decide +kernel
theorem dL_fails_245 : decode cL_fails 245 = .ok (.aload_n 0, 1) := by decide +kernel
theorem dL_fails_246 : decode cL_fails 246 = .ok (.iconst 1, 1) := by decide +kernel
theorem dL_fails_247 : decode cL_fails 247 = .ok (.invokevirtual 62, 3) := by decide +kernel
theorem dL_fails_250 : decode cL_fails 250 = .ok (.bipush (-2), 2) := by decide +kernel
theorem dL_fails_252 : decode cL_fails 252 = .ok (.if_icmp .ne 33, 3) := by decide +kernel
theorem dL_fails_255 : decode cL_fails 255 = .ok (.aload_n 0, 1) := by decide +kernel
theorem dL_fails_256 : decode cL_fails 256 = .ok (.iconst 0, 1) := by decide +kernel
theorem dL_fails_257 : decode cL_fails 257 = .ok (.invokevirtual 65, 3) := by decide +kernel
theorem dL_fails_260 : decode cL_fails 260 = .ok (.ldc 69, 2) := by decide +kernel
theorem dL_fails_262 : decode cL_fails 262 = .ok (.fcmp .l, 1) := by decide +kernel
theorem dL_fails_263 : decode cL_fails 263 = .ok (.ifCond .ne 22, 3) := by decide +kernel
theorem dL_fails_266 : decode cL_fails 266 = .ok (.iload_n 3, 1) := by decide +kernel
theorem dL_fails_267 : decode cL_fails 267 = .ok (.ifCond .eq 14, 3) := by decide +kernel
theorem dL_fails_270 : decode cL_fails 270 = .ok (.aload_n 0, 1) := by decide +kernel
theorem dL_fails_271 : decode cL_fails 271 = .ok (.iconst 0, 1) := by decide +kernel
theorem dL_fails_272 : decode cL_fails 272 = .ok (.iconst 1, 1) := by decide +kernel
theorem dL_fails_273 : decode cL_fails 273 = .ok (.invokevirtual 41, 3) := by decide +kernel
theorem dL_fails_276 : decode cL_fails 276 = .ok (.bipush (-2), 2) := by decide +kernel
theorem dL_fails_278 : decode cL_fails 278 = .ok (.if_icmp .ne 7, 3) := by decide +kernel
theorem dL_fails_281 : decode cL_fails 281 = .ok (.iconst 1, 1) := by decide +kernel
theorem dL_fails_282 : decode cL_fails 282 = .ok (.goto 4, 3) := by decide +kernel
theorem dL_fails_285 : decode cL_fails 285 = .ok (.iconst 0, 1) := by decide +kernel
theorem dL_fails_286 : decode cL_fails 286 = .ok (.istore 5, 2) := by decide +kernel
theorem dL_fails_288 : decode cL_fails 288 = .ok (.iload 5, 2) := by decide +kernel
theorem dL_fails_290 : decode cL_fails 290 = .ok (.ifCond .eq 16, 3) := by decide +kernel
theorem dL_fails_293 : decode cL_fails 293 = .ok (.aload_n 0, 1) := by decide +kernel
theorem dL_fails_294 : decode cL_fails 294 = .ok (.invokevirtual 9, 3) := by decide +kernel
theorem dL_fails_297 : decode cL_fails 297 = .ok (.lload_n 1, 1) := by decide +kernel
theorem dL_fails_298 : decode cL_fails 298 = .ok (.lcmp, 1) := by decide +kernel
theorem dL_fails_299 : decode cL_fails 299 = .ok (.ifCond .ne 7, 3) := by decide +kernel
theorem dL_fails_302 : decode cL_fails 302 = .ok (.iconst 1, 1) := by decide +kernel
theorem dL_fails_303 : decode cL_fails 303 = .ok (.goto 4, 3) := by decide +kernel
theorem dL_fails_306 : decode cL_fails 306 = .ok (.iconst 0, 1) := by decide +kernel
theorem dL_fails_307 : decode cL_fails 307 = .ok (.ireturn, 1) := by decide +kernel
theorem dL_fits_0 : decode cL_fits 0 = .ok (.iload_n 3, 1) := by decide +kernel
theorem dL_fits_1 : decode cL_fits 1 = .ok (.iload 5, 2) := by decide +kernel
theorem dL_fits_3 : decode cL_fits 3 = .ok (.iadd, 1) := by decide +kernel
theorem dL_fits_4 : decode cL_fits 4 = .ok (.iload_n 1, 1) := by decide +kernel
theorem dL_fits_5 : decode cL_fits 5 = .ok (.if_icmp .gt 12, 3) := by decide +kernel
theorem dL_fits_8 : decode cL_fits 8 = .ok (.iload 4, 2) := by decide +kernel
theorem dL_fits_10 : decode cL_fits 10 = .ok (.iload 6, 2) := by decide +kernel
theorem dL_fits_12 : decode cL_fits 12 = .ok (.iadd, 1) := by decide +kernel
theorem dL_fits_13 : decode cL_fits 13 = .ok (.iload_n 2, 1) := by decide +kernel
theorem dL_fits_14 : decode cL_fits 14 = .ok (.if_icmp .le 5, 3) := by decide +kernel
theorem dL_fits_17 : decode cL_fits 17 = .ok (.iconst 0, 1) := by decide +kernel
theorem dL_fits_18 : decode cL_fits 18 = .ok (.ireturn, 1) := by decide +kernel
theorem dL_fits_19 : decode cL_fits 19 = .ok (.iconst 1, 1) := by decide +kernel
theorem dL_fits_20 : decode cL_fits 20 = .ok (.istore 7, 2) := by decide +kernel
theorem dL_fits_22 : decode cL_fits 22 = .ok (.iconst 0, 1) := by decide +kernel
theorem dL_fits_23 : decode cL_fits 23 = .ok (.istore 8, 2) := by decide +kernel
theorem dL_fits_25 : decode cL_fits 25 = .ok (.iload 8, 2) := by decide +kernel
theorem dL_fits_27 : decode cL_fits 27 = .ok (.iload 5, 2) := by decide +kernel
theorem dL_fits_29 : decode cL_fits 29 = .ok (.iload 6, 2) := by decide +kernel
theorem dL_fits_31 : decode cL_fits 31 = .ok (.imul, 1) := by decide +kernel
theorem dL_fits_32 : decode cL_fits 32 = .ok (.if_icmp .ge 44, 3) := by decide +kernel
theorem dL_fits_35 : decode cL_fits 35 = .ok (.iload 7, 2) := by decide +kernel
theorem dL_fits_37 : decode cL_fits 37 = .ok (.ifCond .eq 30, 3) := by decide +kernel
theorem dL_fits_40 : decode cL_fits 40 = .ok (.aload_n 0, 1) := by decide +kernel
theorem dL_fits_41 : decode cL_fits 41 = .ok (.iload 4, 2) := by decide +kernel
theorem dL_fits_43 : decode cL_fits 43 = .ok (.iload 8, 2) := by decide +kernel
theorem dL_fits_45 : decode cL_fits 45 = .ok (.iload 5, 2) := by decide +kernel
theorem dL_fits_47 : decode cL_fits 47 = .ok (.idiv, 1) := by decide +kernel
theorem dL_fits_48 : decode cL_fits 48 = .ok (.iadd, 1) := by decide +kernel
theorem dL_fits_49 : decode cL_fits 49 = .ok (.iload_n 1, 1) := by decide +kernel
theorem dL_fits_50 : decode cL_fits 50 = .ok (.imul, 1) := by decide +kernel
theorem dL_fits_51 : decode cL_fits 51 = .ok (.iload_n 3, 1) := by decide +kernel
theorem dL_fits_52 : decode cL_fits 52 = .ok (.iadd, 1) := by decide +kernel
theorem dL_fits_53 : decode cL_fits 53 = .ok (.iload 8, 2) := by decide +kernel
theorem dL_fits_55 : decode cL_fits 55 = .ok (.iload 5, 2) := by decide +kernel
theorem dL_fits_57 : decode cL_fits 57 = .ok (.irem, 1) := by decide +kernel
theorem dL_fits_58 : decode cL_fits 58 = .ok (.iadd, 1) := by decide +kernel
theorem dL_fits_59 : decode cL_fits 59 = .ok (.iaload, 1) := by decide +kernel
theorem dL_fits_60 : decode cL_fits 60 = .ok (.ifCond .ne 7, 3) := by decide +kernel
theorem dL_fits_63 : decode cL_fits 63 = .ok (.iconst 1, 1) := by decide +kernel
theorem dL_fits_64 : decode cL_fits 64 = .ok (.goto 4, 3) := by decide +kernel
theorem dL_fits_67 : decode cL_fits 67 = .ok (.iconst 0, 1) := by decide +kernel
theorem dL_fits_68 : decode cL_fits 68 = .ok (.istore 7, 2) := by decide +kernel
theorem dL_fits_70 : decode cL_fits 70 = .ok (.iinc 8 1, 3) := by decide +kernel
theorem dL_fits_73 : decode cL_fits 73 = .ok (.goto (-48), 3) := by decide +kernel
theorem dL_fits_76 : decode cL_fits 76 = .ok (.iload 7, 2) := by decide +kernel
theorem dL_fits_78 : decode cL_fits 78 = .ok (.ireturn, 1) := by decide +kernel
theorem dL_frame_0 : decode cL_frame 0 = .ok (.bipush 24, 2) := by decide +kernel
theorem dL_frame_2 : decode cL_frame 2 = .ok (.newarray .int, 2) := by decide +kernel
theorem dL_frame_4 : decode cL_frame 4 = .ok (.astore 4, 2) := by decide +kernel
theorem dL_frame_6 : decode cL_frame 6 = .ok (.iconst 0, 1) := by decide +kernel
theorem dL_frame_7 : decode cL_frame 7 = .ok (.istore 5, 2) := by decide +kernel
theorem dL_frame_9 : decode cL_frame 9 = .ok (.iconst 0, 1) := by decide +kernel
theorem dL_frame_10 : decode cL_frame 10 = .ok (.istore 6, 2) := by decide +kernel
theorem dL_frame_12 : decode cL_frame 12 = .ok (.iload 6, 2) := by decide +kernel
theorem dL_frame_14 : decode cL_frame 14 = .ok (.bipush 6, 2) := by decide +kernel
theorem dL_frame_16 : decode cL_frame 16 = .ok (.if_icmp .ge 189, 3) := by decide +kernel
theorem dL_frame_19 : decode cL_frame 19 = .ok (.aload_n 1, 1) := by decide +kernel
theorem dL_frame_20 : decode cL_frame 20 = .ok (.iconst 1, 1) := by decide +kernel
theorem dL_frame_21 : decode cL_frame 21 = .ok (.iload 6, 2) := by decide +kernel
theorem dL_frame_23 : decode cL_frame 23 = .ok (.iadd, 1) := by decide +kernel
theorem dL_frame_24 : decode cL_frame 24 = .ok (.invokestatic 70, 3) := by decide +kernel
theorem dL_frame_27 : decode cL_frame 27 = .ok (.istore 7, 2) := by decide +kernel
theorem dL_frame_29 : decode cL_frame 29 = .ok (.iconst 1, 1) := by decide +kernel
theorem dL_frame_30 : decode cL_frame 30 = .ok (.iload 7, 2) := by decide +kernel
theorem dL_frame_32 : decode cL_frame 32 = .ok (.iconst 1, 1) := by decide +kernel
theorem dL_frame_33 : decode cL_frame 33 = .ok (.iand, 1) := by decide +kernel
theorem dL_frame_34 : decode cL_frame 34 = .ok (.iadd, 1) := by decide +kernel
theorem dL_frame_35 : decode cL_frame 35 = .ok (.istore 8, 2) := by decide +kernel
theorem dL_frame_37 : decode cL_frame 37 = .ok (.iconst 1, 1) := by decide +kernel
theorem dL_frame_38 : decode cL_frame 38 = .ok (.iload 7, 2) := by decide +kernel
theorem dL_frame_40 : decode cL_frame 40 = .ok (.iconst 1, 1) := by decide +kernel
theorem dL_frame_41 : decode cL_frame 41 = .ok (.ishr, 1) := by decide +kernel
theorem dL_frame_42 : decode cL_frame 42 = .ok (.iconst 1, 1) := by decide +kernel
theorem dL_frame_43 : decode cL_frame 43 = .ok (.iand, 1) := by decide +kernel
theorem dL_frame_44 : decode cL_frame 44 = .ok (.iadd, 1) := by decide +kernel
theorem dL_frame_45 : decode cL_frame 45 = .ok (.istore 9, 2) := by decide +kernel
theorem dL_frame_47 : decode cL_frame 47 = .ok (.iload 7, 2) := by decide +kernel
theorem dL_frame_49 : decode cL_frame 49 = .ok (.iconst 2, 1) := by decide +kernel
theorem dL_frame_50 : decode cL_frame 50 = .ok (.ishr, 1) := by decide +kernel
theorem dL_frame_51 : decode cL_frame 51 = .ok (.iload_n 2, 1) := by decide +kernel
theorem dL_frame_52 : decode cL_frame 52 = .ok (.invokestatic 75, 3) := by decide +kernel
theorem dL_frame_55 : decode cL_frame 55 = .ok (.istore 10, 2) := by decide +kernel
theorem dL_frame_57 : decode cL_frame 57 = .ok (.iload 7, 2) := by decide +kernel
theorem dL_frame_59 : decode cL_frame 59 = .ok (.bipush 6, 2) := by decide +kernel
theorem dL_frame_61 : decode cL_frame 61 = .ok (.ishr, 1) := by decide +kernel
theorem dL_frame_62 : decode cL_frame 62 = .ok (.iload_n 3, 1) := by decide +kernel
theorem dL_frame_63 : decode cL_frame 63 = .ok (.invokestatic 75, 3) := by decide +kernel
theorem dL_frame_66 : decode cL_frame 66 = .ok (.istore 11, 2) := by decide +kernel
theorem dL_frame_68 : decode cL_frame 68 = .ok (.aload 4, 2) := by decide +kernel
theorem dL_frame_70 : decode cL_frame 70 = .ok (.iload_n 2, 1) := by decide +kernel
theorem dL_frame_71 : decode cL_frame 71 = .ok (.iload_n 3, 1) := by decide +kernel
theorem dL_frame_72 : decode cL_frame 72 = .ok (.iload 10, 2) := by decide +kernel
theorem dL_frame_74 : decode cL_frame 74 = .ok (.iload 11, 2) := by decide +kernel
theorem dL_frame_76 : decode cL_frame 76 = .ok (.iload 8, 2) := by decide +kernel
theorem dL_frame_78 : decode cL_frame 78 = .ok (.iload 9, 2) := by decide +kernel
theorem dL_frame_80 : decode cL_frame 80 = .ok (.invokestatic 78, 3) := by decide +kernel
theorem dL_frame_83 : decode cL_frame 83 = .ok (.ifCond .eq 116, 3) := by decide +kernel
theorem dL_frame_86 : decode cL_frame 86 = .ok (.iload 6, 2) := by decide +kernel
theorem dL_frame_88 : decode cL_frame 88 = .ok (.iconst 5, 1) := by decide +kernel
theorem dL_frame_89 : decode cL_frame 89 = .ok (.if_icmp .ne 7, 3) := by decide +kernel
theorem dL_frame_92 : decode cL_frame 92 = .ok (.iconst 1, 1) := by decide +kernel
theorem dL_frame_93 : decode cL_frame 93 = .ok (.goto 4, 3) := by decide +kernel
theorem dL_frame_96 : decode cL_frame 96 = .ok (.iconst 0, 1) := by decide +kernel
theorem dL_frame_97 : decode cL_frame 97 = .ok (.istore 12, 2) := by decide +kernel
theorem dL_frame_99 : decode cL_frame 99 = .ok (.iload 5, 2) := by decide +kernel
theorem dL_frame_101 : decode cL_frame 101 = .ok (.iload 12, 2) := by decide +kernel
theorem dL_frame_103 : decode cL_frame 103 = .ok (.ifCond .eq 7, 3) := by decide +kernel
theorem dL_frame_106 : decode cL_frame 106 = .ok (.iconst 0, 1) := by decide +kernel
theorem dL_frame_107 : decode cL_frame 107 = .ok (.goto 4, 3) := by decide +kernel
theorem dL_frame_110 : decode cL_frame 110 = .ok (.iconst 1, 1) := by decide +kernel
theorem dL_frame_111 : decode cL_frame 111 = .ok (.iadd, 1) := by decide +kernel
theorem dL_frame_112 : decode cL_frame 112 = .ok (.istore 5, 2) := by decide +kernel
theorem dL_frame_114 : decode cL_frame 114 = .ok (.iconst 0, 1) := by decide +kernel
theorem dL_frame_115 : decode cL_frame 115 = .ok (.istore 13, 2) := by decide +kernel
theorem dL_frame_117 : decode cL_frame 117 = .ok (.iload 13, 2) := by decide +kernel
theorem dL_frame_119 : decode cL_frame 119 = .ok (.iload 8, 2) := by decide +kernel
theorem dL_frame_121 : decode cL_frame 121 = .ok (.iload 9, 2) := by decide +kernel
theorem dL_frame_123 : decode cL_frame 123 = .ok (.imul, 1) := by decide +kernel
theorem dL_frame_124 : decode cL_frame 124 = .ok (.if_icmp .ge 75, 3) := by decide +kernel
theorem dL_frame_127 : decode cL_frame 127 = .ok (.iload 13, 2) := by decide +kernel
theorem dL_frame_129 : decode cL_frame 129 = .ok (.iconst 3, 1) := by decide +kernel
theorem dL_frame_130 : decode cL_frame 130 = .ok (.if_icmp .ne 17, 3) := by decide +kernel
theorem dL_frame_133 : decode cL_frame 133 = .ok (.iload 7, 2) := by decide +kernel
theorem dL_frame_135 : decode cL_frame 135 = .ok (.bipush 10, 2) := by decide +kernel
theorem dL_frame_137 : decode cL_frame 137 = .ok (.ishr, 1) := by decide +kernel
theorem dL_frame_138 : decode cL_frame 138 = .ok (.iconst 1, 1) := by decide +kernel
theorem dL_frame_139 : decode cL_frame 139 = .ok (.iand, 1) := by decide +kernel
theorem dL_frame_140 : decode cL_frame 140 = .ok (.ifCond .ne 7, 3) := by decide +kernel
theorem dL_frame_143 : decode cL_frame 143 = .ok (.iconst 1, 1) := by decide +kernel
theorem dL_frame_144 : decode cL_frame 144 = .ok (.goto 4, 3) := by decide +kernel
theorem dL_frame_147 : decode cL_frame 147 = .ok (.iconst 0, 1) := by decide +kernel
theorem dL_frame_148 : decode cL_frame 148 = .ok (.istore 14, 2) := by decide +kernel
theorem dL_frame_150 : decode cL_frame 150 = .ok (.aload 4, 2) := by decide +kernel
theorem dL_frame_152 : decode cL_frame 152 = .ok (.iload 11, 2) := by decide +kernel
theorem dL_frame_154 : decode cL_frame 154 = .ok (.iload 13, 2) := by decide +kernel
theorem dL_frame_156 : decode cL_frame 156 = .ok (.iload 8, 2) := by decide +kernel
theorem dL_frame_158 : decode cL_frame 158 = .ok (.idiv, 1) := by decide +kernel
theorem dL_frame_159 : decode cL_frame 159 = .ok (.iadd, 1) := by decide +kernel
theorem dL_frame_160 : decode cL_frame 160 = .ok (.iload_n 2, 1) := by decide +kernel
theorem dL_frame_161 : decode cL_frame 161 = .ok (.imul, 1) := by decide +kernel
theorem dL_frame_162 : decode cL_frame 162 = .ok (.iload 10, 2) := by decide +kernel
theorem dL_frame_164 : decode cL_frame 164 = .ok (.iadd, 1) := by decide +kernel
theorem dL_frame_165 : decode cL_frame 165 = .ok (.iload 13, 2) := by decide +kernel
theorem dL_frame_167 : decode cL_frame 167 = .ok (.iload 8, 2) := by decide +kernel
theorem dL_frame_169 : decode cL_frame 169 = .ok (.irem, 1) := by decide +kernel
theorem dL_frame_170 : decode cL_frame 170 = .ok (.iadd, 1) := by decide +kernel
theorem dL_frame_171 : decode cL_frame 171 = .ok (.iload 14, 2) := by decide +kernel
theorem dL_frame_173 : decode cL_frame 173 = .ok (.ifCond .eq 7, 3) := by decide +kernel
theorem dL_frame_176 : decode cL_frame 176 = .ok (.iconst 0, 1) := by decide +kernel
theorem dL_frame_177 : decode cL_frame 177 = .ok (.goto 15, 3) := by decide +kernel
theorem dL_frame_180 : decode cL_frame 180 = .ok (.iload 12, 2) := by decide +kernel
theorem dL_frame_182 : decode cL_frame 182 = .ok (.ifCond .eq 8, 3) := by decide +kernel
theorem dL_frame_185 : decode cL_frame 185 = .ok (.bipush 9, 2) := by decide +kernel
theorem dL_frame_187 : decode cL_frame 187 = .ok (.goto 5, 3) := by decide +kernel
theorem dL_frame_190 : decode cL_frame 190 = .ok (.iload 5, 2) := by decide +kernel
theorem dL_frame_192 : decode cL_frame 192 = .ok (.iastore, 1) := by decide +kernel
theorem dL_frame_193 : decode cL_frame 193 = .ok (.iinc 13 1, 3) := by decide +kernel
theorem dL_frame_196 : decode cL_frame 196 = .ok (.goto (-79), 3) := by decide +kernel
theorem dL_frame_199 : decode cL_frame 199 = .ok (.iinc 6 1, 3) := by decide +kernel
theorem dL_frame_202 : decode cL_frame 202 = .ok (.goto (-190), 3) := by decide +kernel
theorem dL_frame_205 : decode cL_frame 205 = .ok (.iconst 0, 1) := by decide +kernel
theorem dL_frame_206 : decode cL_frame 206 = .ok (.istore 6, 2) := by decide +kernel
theorem dL_frame_208 : decode cL_frame 208 = .ok (.iconst 0, 1) := by decide +kernel
theorem dL_frame_209 : decode cL_frame 209 = .ok (.istore 7, 2) := by decide +kernel
theorem dL_frame_211 : decode cL_frame 211 = .ok (.iload 7, 2) := by decide +kernel
theorem dL_frame_213 : decode cL_frame 213 = .ok (.iload_n 2, 1) := by decide +kernel
theorem dL_frame_214 : decode cL_frame 214 = .ok (.iload_n 3, 1) := by decide +kernel
theorem dL_frame_215 : decode cL_frame 215 = .ok (.imul, 1) := by decide +kernel
theorem dL_frame_216 : decode cL_frame 216 = .ok (.if_icmp .ge 75, 3) := by decide +kernel
theorem dL_frame_219 : decode cL_frame 219 = .ok (.iload 7, 2) := by decide +kernel
theorem dL_frame_221 : decode cL_frame 221 = .ok (.ifCond .le 19, 3) := by decide +kernel
theorem dL_frame_224 : decode cL_frame 224 = .ok (.iload 7, 2) := by decide +kernel
theorem dL_frame_226 : decode cL_frame 226 = .ok (.iload_n 2, 1) := by decide +kernel
theorem dL_frame_227 : decode cL_frame 227 = .ok (.irem, 1) := by decide +kernel
theorem dL_frame_228 : decode cL_frame 228 = .ok (.ifCond .ne 12, 3) := by decide +kernel
theorem dL_frame_231 : decode cL_frame 231 = .ok (.aload_n 0, 1) := by decide +kernel
theorem dL_frame_232 : decode cL_frame 232 = .ok (.bipush 47, 2) := by decide +kernel
theorem dL_frame_234 : decode cL_frame 234 = .ok (.invokevirtual 19, 3) := by decide +kernel
theorem dL_frame_237 : decode cL_frame 237 = .ok (.goto 4, 3) := by decide +kernel
theorem dL_frame_240 : decode cL_frame 240 = .ok (.iconst 0, 1) := by decide +kernel
theorem dL_frame_241 : decode cL_frame 241 = .ok (.istore 6, 2) := by decide +kernel
theorem dL_frame_243 : decode cL_frame 243 = .ok (.aload_n 0, 1) := by decide +kernel
theorem dL_frame_244 : decode cL_frame 244 = .ok (.aload 4, 2) := by decide +kernel
theorem dL_frame_246 : decode cL_frame 246 = .ok (.iload 7, 2) := by decide +kernel
theorem dL_frame_248 : decode cL_frame 248 = .ok (.iaload, 1) := by decide +kernel
theorem dL_frame_249 : decode cL_frame 249 = .ok (.ifCond .ne 8, 3) := by decide +kernel
theorem dL_frame_252 : decode cL_frame 252 = .ok (.bipush 46, 2) := by decide +kernel
theorem dL_frame_254 : decode cL_frame 254 = .ok (.goto 26, 3) := by decide +kernel
theorem dL_frame_257 : decode cL_frame 257 = .ok (.aload 4, 2) := by decide +kernel
theorem dL_frame_259 : decode cL_frame 259 = .ok (.iload 7, 2) := by decide +kernel
theorem dL_frame_261 : decode cL_frame 261 = .ok (.iaload, 1) := by decide +kernel
theorem dL_frame_262 : decode cL_frame 262 = .ok (.bipush 9, 2) := by decide +kernel
theorem dL_frame_264 : decode cL_frame 264 = .ok (.if_icmp .ne 8, 3) := by decide +kernel
theorem dL_frame_267 : decode cL_frame 267 = .ok (.bipush 35, 2) := by decide +kernel
theorem dL_frame_269 : decode cL_frame 269 = .ok (.goto 11, 3) := by decide +kernel
theorem dL_frame_272 : decode cL_frame 272 = .ok (.bipush 122, 2) := by decide +kernel
theorem dL_frame_274 : decode cL_frame 274 = .ok (.aload 4, 2) := by decide +kernel
theorem dL_frame_276 : decode cL_frame 276 = .ok (.iload 7, 2) := by decide +kernel
theorem dL_frame_278 : decode cL_frame 278 = .ok (.iaload, 1) := by decide +kernel
theorem dL_frame_279 : decode cL_frame 279 = .ok (.isub, 1) := by decide +kernel
theorem dL_frame_280 : decode cL_frame 280 = .ok (.invokevirtual 19, 3) := by decide +kernel
theorem dL_frame_283 : decode cL_frame 283 = .ok (.istore 6, 2) := by decide +kernel
theorem dL_frame_285 : decode cL_frame 285 = .ok (.iinc 7 1, 3) := by decide +kernel
theorem dL_frame_288 : decode cL_frame 288 = .ok (.goto (-77), 3) := by decide +kernel
theorem dL_frame_291 : decode cL_frame 291 = .ok (.iload 5, 2) := by decide +kernel
theorem dL_frame_293 : decode cL_frame 293 = .ok (.ireturn, 1) := by decide +kernel
theorem dL_agrees_0 : decode cL_agrees 0 = .ok (.aload_n 0, 1) := by decide +kernel
theorem dL_agrees_1 : decode cL_agrees 1 = .ok (.iconst 2, 1) := by decide +kernel
theorem dL_agrees_2 : decode cL_agrees 2 = .ok (.invokevirtual 15, 3) := by decide +kernel
theorem dL_agrees_5 : decode cL_agrees 5 = .ok (.istore_n 1, 1) := by decide +kernel
theorem dL_agrees_6 : decode cL_agrees 6 = .ok (.aload_n 0, 1) := by decide +kernel
theorem dL_agrees_7 : decode cL_agrees 7 = .ok (.iconst 0, 1) := by decide +kernel
theorem dL_agrees_8 : decode cL_agrees 8 = .ok (.invokevirtual 15, 3) := by decide +kernel
theorem dL_agrees_11 : decode cL_agrees 11 = .ok (.istore_n 2, 1) := by decide +kernel
theorem dL_agrees_12 : decode cL_agrees 12 = .ok (.iload_n 2, 1) := by decide +kernel
theorem dL_agrees_13 : decode cL_agrees 13 = .ok (.aload_n 0, 1) := by decide +kernel
theorem dL_agrees_14 : decode cL_agrees 14 = .ok (.iconst 1, 1) := by decide +kernel
theorem dL_agrees_15 : decode cL_agrees 15 = .ok (.invokevirtual 15, 3) := by decide +kernel
theorem dL_agrees_18 : decode cL_agrees 18 = .ok (.imul, 1) := by decide +kernel
theorem dL_agrees_19 : decode cL_agrees 19 = .ok (.istore_n 3, 1) := by decide +kernel
theorem dL_agrees_20 : decode cL_agrees 20 = .ok (.iconst 0, 1) := by decide +kernel
theorem dL_agrees_21 : decode cL_agrees 21 = .ok (.istore 4, 2) := by decide +kernel
theorem dL_agrees_23 : decode cL_agrees 23 = .ok (.bipush 8, 2) := by decide +kernel
theorem dL_agrees_25 : decode cL_agrees 25 = .ok (.newarray .int, 2) := by decide +kernel
theorem dL_agrees_27 : decode cL_agrees 27 = .ok (.astore 5, 2) := by decide +kernel
theorem dL_agrees_29 : decode cL_agrees 29 = .ok (.iconst 0, 1) := by decide +kernel
theorem dL_agrees_30 : decode cL_agrees 30 = .ok (.istore 6, 2) := by decide +kernel
theorem dL_agrees_32 : decode cL_agrees 32 = .ok (.iload 6, 2) := by decide +kernel
theorem dL_agrees_34 : decode cL_agrees 34 = .ok (.iload_n 3, 1) := by decide +kernel
theorem dL_agrees_35 : decode cL_agrees 35 = .ok (.if_icmp .ge 80, 3) := by decide +kernel
theorem dL_agrees_38 : decode cL_agrees 38 = .ok (.aload_n 0, 1) := by decide +kernel
theorem dL_agrees_39 : decode cL_agrees 39 = .ok (.iload 6, 2) := by decide +kernel
theorem dL_agrees_41 : decode cL_agrees 41 = .ok (.invokevirtual 22, 3) := by decide +kernel
theorem dL_agrees_44 : decode cL_agrees 44 = .ok (.istore 7, 2) := by decide +kernel
theorem dL_agrees_46 : decode cL_agrees 46 = .ok (.iload 4, 2) := by decide +kernel
theorem dL_agrees_48 : decode cL_agrees 48 = .ok (.iload 7, 2) := by decide +kernel
theorem dL_agrees_50 : decode cL_agrees 50 = .ok (.bipush (-9), 2) := by decide +kernel
theorem dL_agrees_52 : decode cL_agrees 52 = .ok (.if_icmp .ne 7, 3) := by decide +kernel
theorem dL_agrees_55 : decode cL_agrees 55 = .ok (.iconst 1, 1) := by decide +kernel
theorem dL_agrees_56 : decode cL_agrees 56 = .ok (.goto 4, 3) := by decide +kernel
theorem dL_agrees_59 : decode cL_agrees 59 = .ok (.iconst 0, 1) := by decide +kernel
theorem dL_agrees_60 : decode cL_agrees 60 = .ok (.iadd, 1) := by decide +kernel
theorem dL_agrees_61 : decode cL_agrees 61 = .ok (.istore 4, 2) := by decide +kernel
theorem dL_agrees_63 : decode cL_agrees 63 = .ok (.iload 7, 2) := by decide +kernel
theorem dL_agrees_65 : decode cL_agrees 65 = .ok (.iload_n 1, 1) := by decide +kernel
theorem dL_agrees_66 : decode cL_agrees 66 = .ok (.if_icmp .ge 22, 3) := by decide +kernel
theorem dL_agrees_69 : decode cL_agrees 69 = .ok (.iload 7, 2) := by decide +kernel
theorem dL_agrees_71 : decode cL_agrees 71 = .ok (.ifCond .ge 19, 3) := by decide +kernel
theorem dL_agrees_74 : decode cL_agrees 74 = .ok (.iload 7, 2) := by decide +kernel
theorem dL_agrees_76 : decode cL_agrees 76 = .ok (.bipush (-9), 2) := by decide +kernel
theorem dL_agrees_78 : decode cL_agrees 78 = .ok (.if_icmp .eq 12, 3) := by decide +kernel
theorem dL_agrees_81 : decode cL_agrees 81 = .ok (.iload 7, 2) := by decide +kernel
theorem dL_agrees_83 : decode cL_agrees 83 = .ok (.bipush (-10), 2) := by decide +kernel
theorem dL_agrees_85 : decode cL_agrees 85 = .ok (.if_icmp .eq 5, 3) := by decide +kernel
theorem dL_agrees_88 : decode cL_agrees 88 = .ok (.iconst 0, 1) := by decide +kernel
theorem dL_agrees_89 : decode cL_agrees 89 = .ok (.ireturn, 1) := by decide +kernel
theorem dL_agrees_90 : decode cL_agrees 90 = .ok (.aload 5, 2) := by decide +kernel
theorem dL_agrees_92 : decode cL_agrees 92 = .ok (.iload 7, 2) := by decide +kernel
theorem dL_agrees_94 : decode cL_agrees 94 = .ok (.ifCond .ge 8, 3) := by decide +kernel
theorem dL_agrees_97 : decode cL_agrees 97 = .ok (.bipush 7, 2) := by decide +kernel
theorem dL_agrees_99 : decode cL_agrees 99 = .ok (.goto 5, 3) := by decide +kernel
theorem dL_agrees_102 : decode cL_agrees 102 = .ok (.iload 7, 2) := by decide +kernel
theorem dL_agrees_104 : decode cL_agrees 104 = .ok (.dup2, 1) := by decide +kernel
theorem dL_agrees_105 : decode cL_agrees 105 = .ok (.iaload, 1) := by decide +kernel
theorem dL_agrees_106 : decode cL_agrees 106 = .ok (.iconst 1, 1) := by decide +kernel
theorem dL_agrees_107 : decode cL_agrees 107 = .ok (.iadd, 1) := by decide +kernel
theorem dL_agrees_108 : decode cL_agrees 108 = .ok (.iastore, 1) := by decide +kernel
theorem dL_agrees_109 : decode cL_agrees 109 = .ok (.iinc 6 1, 3) := by decide +kernel
theorem dL_agrees_112 : decode cL_agrees 112 = .ok (.goto (-80), 3) := by decide +kernel
theorem dL_agrees_115 : decode cL_agrees 115 = .ok (.aload_n 0, 1) := by decide +kernel
theorem dL_agrees_116 : decode cL_agrees 116 = .ok (.invokevirtual 9, 3) := by decide +kernel
theorem dL_agrees_119 : decode cL_agrees 119 = .ok (.lstore 6, 2) := by decide +kernel
theorem dL_agrees_121 : decode cL_agrees 121 = .ok (.iconst 0, 1) := by decide +kernel
theorem dL_agrees_122 : decode cL_agrees 122 = .ok (.istore 8, 2) := by decide +kernel
theorem dL_agrees_124 : decode cL_agrees 124 = .ok (.iload 8, 2) := by decide +kernel
theorem dL_agrees_126 : decode cL_agrees 126 = .ok (.iload_n 1, 1) := by decide +kernel
theorem dL_agrees_127 : decode cL_agrees 127 = .ok (.if_icmp .ge 409, 3) := by decide +kernel
theorem dL_agrees_130 : decode cL_agrees 130 = .ok (.aload_n 0, 1) := by decide +kernel
theorem dL_agrees_131 : decode cL_agrees 131 = .ok (.iload 8, 2) := by decide +kernel
theorem dL_agrees_133 : decode cL_agrees 133 = .ok (.iconst 0, 1) := by decide +kernel
theorem dL_agrees_134 : decode cL_agrees 134 = .ok (.invokevirtual 25, 3) := by decide +kernel
theorem dL_agrees_137 : decode cL_agrees 137 = .ok (.istore 9, 2) := by decide +kernel
theorem dL_agrees_139 : decode cL_agrees 139 = .ok (.iconst 0, 1) := by decide +kernel
theorem dL_agrees_140 : decode cL_agrees 140 = .ok (.istore 10, 2) := by decide +kernel
theorem dL_agrees_142 : decode cL_agrees 142 = .ok (.aload_n 0, 1) := by decide +kernel
theorem dL_agrees_143 : decode cL_agrees 143 = .ok (.iload 8, 2) := by decide +kernel
theorem dL_agrees_145 : decode cL_agrees 145 = .ok (.iconst 1, 1) := by decide +kernel
theorem dL_agrees_146 : decode cL_agrees 146 = .ok (.invokevirtual 25, 3) := by decide +kernel
theorem dL_agrees_149 : decode cL_agrees 149 = .ok (.aload 5, 2) := by decide +kernel
theorem dL_agrees_151 : decode cL_agrees 151 = .ok (.iload 8, 2) := by decide +kernel
theorem dL_agrees_153 : decode cL_agrees 153 = .ok (.iaload, 1) := by decide +kernel
theorem dL_agrees_154 : decode cL_agrees 154 = .ok (.if_icmp .ne 76, 3) := by decide +kernel
theorem dL_agrees_157 : decode cL_agrees 157 = .ok (.iload 9, 2) := by decide +kernel
theorem dL_agrees_159 : decode cL_agrees 159 = .ok (.iload_n 2, 1) := by decide +kernel
theorem dL_agrees_160 : decode cL_agrees 160 = .ok (.irem, 1) := by decide +kernel
theorem dL_agrees_161 : decode cL_agrees 161 = .ok (.aload_n 0, 1) := by decide +kernel
theorem dL_agrees_162 : decode cL_agrees 162 = .ok (.iload 8, 2) := by decide +kernel
theorem dL_agrees_164 : decode cL_agrees 164 = .ok (.iconst 2, 1) := by decide +kernel
theorem dL_agrees_165 : decode cL_agrees 165 = .ok (.invokevirtual 25, 3) := by decide +kernel
theorem dL_agrees_168 : decode cL_agrees 168 = .ok (.iadd, 1) := by decide +kernel
theorem dL_agrees_169 : decode cL_agrees 169 = .ok (.iload_n 2, 1) := by decide +kernel
theorem dL_agrees_170 : decode cL_agrees 170 = .ok (.if_icmp .gt 60, 3) := by decide +kernel
theorem dL_agrees_173 : decode cL_agrees 173 = .ok (.aload_n 0, 1) := by decide +kernel
theorem dL_agrees_174 : decode cL_agrees 174 = .ok (.iload 8, 2) := by decide +kernel
theorem dL_agrees_176 : decode cL_agrees 176 = .ok (.bipush 6, 2) := by decide +kernel
theorem dL_agrees_178 : decode cL_agrees 178 = .ok (.invokevirtual 25, 3) := by decide +kernel
theorem dL_agrees_181 : decode cL_agrees 181 = .ok (.iload 8, 2) := by decide +kernel
theorem dL_agrees_183 : decode cL_agrees 183 = .ok (.if_icmp .gt 47, 3) := by decide +kernel
theorem dL_agrees_186 : decode cL_agrees 186 = .ok (.aload_n 0, 1) := by decide +kernel
theorem dL_agrees_187 : decode cL_agrees 187 = .ok (.aload_n 0, 1) := by decide +kernel
theorem dL_agrees_188 : decode cL_agrees 188 = .ok (.iload 8, 2) := by decide +kernel
theorem dL_agrees_190 : decode cL_agrees 190 = .ok (.bipush 6, 2) := by decide +kernel
theorem dL_agrees_192 : decode cL_agrees 192 = .ok (.invokevirtual 25, 3) := by decide +kernel
theorem dL_agrees_195 : decode cL_agrees 195 = .ok (.iconst 1, 1) := by decide +kernel
theorem dL_agrees_196 : decode cL_agrees 196 = .ok (.invokevirtual 25, 3) := by decide +kernel
theorem dL_agrees_199 : decode cL_agrees 199 = .ok (.aload 5, 2) := by decide +kernel
theorem dL_agrees_201 : decode cL_agrees 201 = .ok (.iload 8, 2) := by decide +kernel
theorem dL_agrees_203 : decode cL_agrees 203 = .ok (.iaload, 1) := by decide +kernel
theorem dL_agrees_204 : decode cL_agrees 204 = .ok (.if_icmp .ne 26, 3) := by decide +kernel
theorem dL_agrees_207 : decode cL_agrees 207 = .ok (.aload_n 0, 1) := by decide +kernel
theorem dL_agrees_208 : decode cL_agrees 208 = .ok (.aload_n 0, 1) := by decide +kernel
theorem dL_agrees_209 : decode cL_agrees 209 = .ok (.iload 8, 2) := by decide +kernel
theorem dL_agrees_211 : decode cL_agrees 211 = .ok (.bipush 6, 2) := by decide +kernel
theorem dL_agrees_213 : decode cL_agrees 213 = .ok (.invokevirtual 25, 3) := by decide +kernel
theorem dL_agrees_216 : decode cL_agrees 216 = .ok (.iconst 2, 1) := by decide +kernel
theorem dL_agrees_217 : decode cL_agrees 217 = .ok (.invokevirtual 25, 3) := by decide +kernel
theorem dL_agrees_220 : decode cL_agrees 220 = .ok (.aload_n 0, 1) := by decide +kernel
theorem dL_agrees_221 : decode cL_agrees 221 = .ok (.iload 8, 2) := by decide +kernel
theorem dL_agrees_223 : decode cL_agrees 223 = .ok (.iconst 2, 1) := by decide +kernel
theorem dL_agrees_224 : decode cL_agrees 224 = .ok (.invokevirtual 25, 3) := by decide +kernel
theorem dL_agrees_227 : decode cL_agrees 227 = .ok (.if_icmp .eq 5, 3) := by decide +kernel
theorem dL_agrees_230 : decode cL_agrees 230 = .ok (.iconst 0, 1) := by decide +kernel
theorem dL_agrees_231 : decode cL_agrees 231 = .ok (.ireturn, 1) := by decide +kernel
theorem dL_agrees_232 : decode cL_agrees 232 = .ok (.iconst 0, 1) := by decide +kernel
theorem dL_agrees_233 : decode cL_agrees 233 = .ok (.istore 11, 2) := by decide +kernel
theorem dL_agrees_235 : decode cL_agrees 235 = .ok (.iload 11, 2) := by decide +kernel
theorem dL_agrees_237 : decode cL_agrees 237 = .ok (.iconst 4, 1) := by decide +kernel
theorem dL_agrees_238 : decode cL_agrees 238 = .ok (.if_icmp .ge 130, 3) := by decide +kernel
theorem dL_agrees_241 : decode cL_agrees 241 = .ok (.iload 9, 2) := by decide +kernel
theorem dL_agrees_243 : decode cL_agrees 243 = .ok (.iload 11, 2) := by decide +kernel
theorem dL_agrees_245 : decode cL_agrees 245 = .ok (.ifCond .ne 8, 3) := by decide +kernel
theorem dL_agrees_248 : decode cL_agrees 248 = .ok (.iload_n 2, 1) := by decide +kernel
theorem dL_agrees_249 : decode cL_agrees 249 = .ok (.ineg, 1) := by decide +kernel
theorem dL_agrees_250 : decode cL_agrees 250 = .ok (.goto 24, 3) := by decide +kernel
theorem dL_agrees_253 : decode cL_agrees 253 = .ok (.iload 11, 2) := by decide +kernel
theorem dL_agrees_255 : decode cL_agrees 255 = .ok (.iconst 1, 1) := by decide +kernel
theorem dL_agrees_256 : decode cL_agrees 256 = .ok (.if_icmp .ne 7, 3) := by decide +kernel
theorem dL_agrees_259 : decode cL_agrees 259 = .ok (.iconst 1, 1) := by decide +kernel
theorem dL_agrees_260 : decode cL_agrees 260 = .ok (.goto 14, 3) := by decide +kernel
theorem dL_agrees_263 : decode cL_agrees 263 = .ok (.iload 11, 2) := by decide +kernel
theorem dL_agrees_265 : decode cL_agrees 265 = .ok (.iconst 2, 1) := by decide +kernel
theorem dL_agrees_266 : decode cL_agrees 266 = .ok (.if_icmp .ne 7, 3) := by decide +kernel
theorem dL_agrees_269 : decode cL_agrees 269 = .ok (.iload_n 2, 1) := by decide +kernel
theorem dL_agrees_270 : decode cL_agrees 270 = .ok (.goto 4, 3) := by decide +kernel
theorem dL_agrees_273 : decode cL_agrees 273 = .ok (.iconst (-1), 1) := by decide +kernel
theorem dL_agrees_274 : decode cL_agrees 274 = .ok (.iadd, 1) := by decide +kernel
theorem dL_agrees_275 : decode cL_agrees 275 = .ok (.istore 12, 2) := by decide +kernel
theorem dL_agrees_277 : decode cL_agrees 277 = .ok (.aload_n 0, 1) := by decide +kernel
theorem dL_agrees_278 : decode cL_agrees 278 = .ok (.iload 8, 2) := by decide +kernel
theorem dL_agrees_280 : decode cL_agrees 280 = .ok (.iload 11, 2) := by decide +kernel
theorem dL_agrees_282 : decode cL_agrees 282 = .ok (.invokevirtual 29, 3) := by decide +kernel
theorem dL_agrees_285 : decode cL_agrees 285 = .ok (.istore 13, 2) := by decide +kernel
theorem dL_agrees_287 : decode cL_agrees 287 = .ok (.iload 10, 2) := by decide +kernel
theorem dL_agrees_289 : decode cL_agrees 289 = .ok (.iload 13, 2) := by decide +kernel
theorem dL_agrees_291 : decode cL_agrees 291 = .ok (.ifCond .lt 10, 3) := by decide +kernel
theorem dL_agrees_294 : decode cL_agrees 294 = .ok (.iconst 1, 1) := by decide +kernel
theorem dL_agrees_295 : decode cL_agrees 295 = .ok (.iload 11, 2) := by decide +kernel
theorem dL_agrees_297 : decode cL_agrees 297 = .ok (.ishl, 1) := by decide +kernel
theorem dL_agrees_298 : decode cL_agrees 298 = .ok (.goto 4, 3) := by decide +kernel
theorem dL_agrees_301 : decode cL_agrees 301 = .ok (.iconst 0, 1) := by decide +kernel
theorem dL_agrees_302 : decode cL_agrees 302 = .ok (.ior, 1) := by decide +kernel
theorem dL_agrees_303 : decode cL_agrees 303 = .ok (.istore 10, 2) := by decide +kernel
theorem dL_agrees_305 : decode cL_agrees 305 = .ok (.iload 13, 2) := by decide +kernel
theorem dL_agrees_307 : decode cL_agrees 307 = .ok (.ifCond .lt 29, 3) := by decide +kernel
theorem dL_agrees_310 : decode cL_agrees 310 = .ok (.iload 13, 2) := by decide +kernel
theorem dL_agrees_312 : decode cL_agrees 312 = .ok (.iload 12, 2) := by decide +kernel
theorem dL_agrees_314 : decode cL_agrees 314 = .ok (.if_icmp .ne 46, 3) := by decide +kernel
theorem dL_agrees_317 : decode cL_agrees 317 = .ok (.aload_n 0, 1) := by decide +kernel
theorem dL_agrees_318 : decode cL_agrees 318 = .ok (.iload 8, 2) := by decide +kernel
theorem dL_agrees_320 : decode cL_agrees 320 = .ok (.iconst 0, 1) := by decide +kernel
theorem dL_agrees_321 : decode cL_agrees 321 = .ok (.invokevirtual 25, 3) := by decide +kernel
theorem dL_agrees_324 : decode cL_agrees 324 = .ok (.iload 12, 2) := by decide +kernel
theorem dL_agrees_326 : decode cL_agrees 326 = .ok (.if_icmp .ne 34, 3) := by decide +kernel
theorem dL_agrees_329 : decode cL_agrees 329 = .ok (.aload_n 0, 1) := by decide +kernel
theorem dL_agrees_330 : decode cL_agrees 330 = .ok (.invokevirtual 82, 3) := by decide +kernel
theorem dL_agrees_333 : decode cL_agrees 333 = .ok (.ifCond .lt 27, 3) := by decide +kernel
theorem dL_agrees_336 : decode cL_agrees 336 = .ok (.iload 13, 2) := by decide +kernel
theorem dL_agrees_338 : decode cL_agrees 338 = .ok (.ifCond .ge 10, 3) := by decide +kernel
theorem dL_agrees_341 : decode cL_agrees 341 = .ok (.iload 13, 2) := by decide +kernel
theorem dL_agrees_343 : decode cL_agrees 343 = .ok (.bipush (-2), 2) := by decide +kernel
theorem dL_agrees_345 : decode cL_agrees 345 = .ok (.if_icmp .ne 15, 3) := by decide +kernel
theorem dL_agrees_348 : decode cL_agrees 348 = .ok (.aload_n 0, 1) := by decide +kernel
theorem dL_agrees_349 : decode cL_agrees 349 = .ok (.iload 8, 2) := by decide +kernel
theorem dL_agrees_351 : decode cL_agrees 351 = .ok (.iconst 0, 1) := by decide +kernel
theorem dL_agrees_352 : decode cL_agrees 352 = .ok (.invokevirtual 25, 3) := by decide +kernel
theorem dL_agrees_355 : decode cL_agrees 355 = .ok (.iload 9, 2) := by decide +kernel
theorem dL_agrees_357 : decode cL_agrees 357 = .ok (.if_icmp .eq 5, 3) := by decide +kernel
theorem dL_agrees_360 : decode cL_agrees 360 = .ok (.iconst 0, 1) := by decide +kernel
theorem dL_agrees_361 : decode cL_agrees 361 = .ok (.ireturn, 1) := by decide +kernel
theorem dL_agrees_362 : decode cL_agrees 362 = .ok (.iinc 11 1, 3) := by decide +kernel
