theorem dX7_goal_48 : decode cX7_goal 48 = .ok (.iload_n 2, 1) := by decide +kernel
theorem dX7_goal_49 : decode cX7_goal 49 = .ok (.putfield 108, 3) := by decide +kernel
theorem dX7_goal_52 : decode cX7_goal 52 = .ok (.aload_n 0, 1) := by decide +kernel
theorem dX7_goal_53 : decode cX7_goal 53 = .ok (.getfield 19, 3) := by decide +kernel
theorem dX7_goal_56 : decode cX7_goal 56 = .ok (.invokevirtual 111, 3) := by decide +kernel
theorem dX7_goal_59 : decode cX7_goal 59 = .ok (.ifCond .eq 7, 3) := by decide +kernel
theorem dX7_goal_62 : decode cX7_goal 62 = .ok (.iconst 1, 1) := by decide +kernel
theorem dX7_goal_63 : decode cX7_goal 63 = .ok (.goto 4, 3) := by decide +kernel
theorem dX7_goal_66 : decode cX7_goal 66 = .ok (.iconst 0, 1) := by decide +kernel
theorem dX7_goal_67 : decode cX7_goal 67 = .ok (.ireturn, 1) := by decide +kernel
theorem dX7_states_0 : decode cX7_states 0 = .ok (.aload_n 0, 1) := by decide +kernel
theorem dX7_states_1 : decode cX7_states 1 = .ok (.getfield 48, 3) := by decide +kernel
theorem dX7_states_4 : decode cX7_states 4 = .ok (.aload_n 0, 1) := by decide +kernel
theorem dX7_states_5 : decode cX7_states 5 = .ok (.getfield 19, 3) := by decide +kernel
theorem dX7_states_8 : decode cX7_states 8 = .ok (.bipush (-9), 2) := by decide +kernel
theorem dX7_states_10 : decode cX7_states 10 = .ok (.invokevirtual 168, 3) := by decide +kernel
theorem dX7_states_13 : decode cX7_states 13 = .ok (.aload_n 0, 1) := by decide +kernel
theorem dX7_states_14 : decode cX7_states 14 = .ok (.getfield 48, 3) := by decide +kernel
theorem dX7_states_17 : decode cX7_states 17 = .ok (.getfield 172, 3) := by decide +kernel
theorem dX7_states_20 : decode cX7_states 20 = .ok (.ifCond .eq 8, 3) := by decide +kernel
theorem dX7_states_23 : decode cX7_states 23 = .ok (.bipush (-3), 2) := by decide +kernel
theorem dX7_states_25 : decode cX7_states 25 = .ok (.goto 10, 3) := by decide +kernel
theorem dX7_states_28 : decode cX7_states 28 = .ok (.aload_n 0, 1) := by decide +kernel
theorem dX7_states_29 : decode cX7_states 29 = .ok (.getfield 48, 3) := by decide +kernel
theorem dX7_states_32 : decode cX7_states 32 = .ok (.getfield 176, 3) := by decide +kernel
theorem dX7_states_35 : decode cX7_states 35 = .ok (.ireturn, 1) := by decide +kernel
theorem dX7_solved_0 : decode cX7_solved 0 = .ok (.aload_n 0, 1) := by decide +kernel
theorem dX7_solved_1 : decode cX7_solved 1 = .ok (.getfield 19, 3) := by decide +kernel
theorem dX7_solved_4 : decode cX7_solved 4 = .ok (.getfield 105, 3) := by decide +kernel
theorem dX7_solved_7 : decode cX7_solved 7 = .ok (.bipush (-9), 2) := by decide +kernel
theorem dX7_solved_9 : decode cX7_solved 9 = .ok (.if_icmp .ne 6, 3) := by decide +kernel
theorem dX7_solved_12 : decode cX7_solved 12 = .ok (.bipush (-2), 2) := by decide +kernel
theorem dX7_solved_14 : decode cX7_solved 14 = .ok (.ireturn, 1) := by decide +kernel
theorem dX7_solved_15 : decode cX7_solved 15 = .ok (.aload_n 0, 1) := by decide +kernel
theorem dX7_solved_16 : decode cX7_solved 16 = .ok (.getfield 48, 3) := by decide +kernel
theorem dX7_solved_19 : decode cX7_solved 19 = .ok (.aload_n 0, 1) := by decide +kernel
theorem dX7_solved_20 : decode cX7_solved 20 = .ok (.getfield 19, 3) := by decide +kernel
theorem dX7_solved_23 : decode cX7_solved 23 = .ok (.bipush (-9), 2) := by decide +kernel
theorem dX7_solved_25 : decode cX7_solved 25 = .ok (.invokevirtual 168, 3) := by decide +kernel
theorem dX7_solved_28 : decode cX7_solved 28 = .ok (.aload_n 0, 1) := by decide +kernel
theorem dX7_solved_29 : decode cX7_solved 29 = .ok (.getfield 48, 3) := by decide +kernel
theorem dX7_solved_32 : decode cX7_solved 32 = .ok (.getfield 172, 3) := by decide +kernel
theorem dX7_solved_35 : decode cX7_solved 35 = .ok (.ifCond .eq 8, 3) := by decide +kernel
theorem dX7_solved_38 : decode cX7_solved 38 = .ok (.bipush (-3), 2) := by decide +kernel
theorem dX7_solved_40 : decode cX7_solved 40 = .ok (.goto 24, 3) := by decide +kernel
theorem dX7_solved_43 : decode cX7_solved 43 = .ok (.aload_n 0, 1) := by decide +kernel
theorem dX7_solved_44 : decode cX7_solved 44 = .ok (.getfield 48, 3) := by decide +kernel
theorem dX7_solved_47 : decode cX7_solved 47 = .ok (.aload_n 0, 1) := by decide +kernel
theorem dX7_solved_48 : decode cX7_solved 48 = .ok (.getfield 19, 3) := by decide +kernel
theorem dX7_solved_51 : decode cX7_solved 51 = .ok (.getfield 105, 3) := by decide +kernel
theorem dX7_solved_54 : decode cX7_solved 54 = .ok (.aload_n 0, 1) := by decide +kernel
theorem dX7_solved_55 : decode cX7_solved 55 = .ok (.getfield 19, 3) := by decide +kernel
theorem dX7_solved_58 : decode cX7_solved 58 = .ok (.getfield 108, 3) := by decide +kernel
theorem dX7_solved_61 : decode cX7_solved 61 = .ok (.invokevirtual 179, 3) := by decide +kernel
theorem dX7_solved_64 : decode cX7_solved 64 = .ok (.ireturn, 1) := by decide +kernel
theorem dX7_distance_0 : decode cX7_distance 0 = .ok (.aload_n 0, 1) := by decide +kernel
theorem dX7_distance_1 : decode cX7_distance 1 = .ok (.aload_n 0, 1) := by decide +kernel
theorem dX7_distance_2 : decode cX7_distance 2 = .ok (.getfield 48, 3) := by decide +kernel
theorem dX7_distance_5 : decode cX7_distance 5 = .ok (.bipush (-9), 2) := by decide +kernel
theorem dX7_distance_7 : decode cX7_distance 7 = .ok (.iload_n 1, 1) := by decide +kernel
theorem dX7_distance_8 : decode cX7_distance 8 = .ok (.invokevirtual 183, 3) := by decide +kernel
theorem dX7_distance_11 : decode cX7_distance 11 = .ok (.istore_n 2, 1) := by decide +kernel
theorem dX7_distance_12 : decode cX7_distance 12 = .ok (.iload_n 2, 1) := by decide +kernel
theorem dX7_distance_13 : decode cX7_distance 13 = .ok (.ifCond .ge 7, 3) := by decide +kernel
theorem dX7_distance_16 : decode cX7_distance 16 = .ok (.iload_n 2, 1) := by decide +kernel
theorem dX7_distance_17 : decode cX7_distance 17 = .ok (.goto 20, 3) := by decide +kernel
theorem dX7_distance_20 : decode cX7_distance 20 = .ok (.aload_n 0, 1) := by decide +kernel
theorem dX7_distance_21 : decode cX7_distance 21 = .ok (.getfield 48, 3) := by decide +kernel
theorem dX7_distance_24 : decode cX7_distance 24 = .ok (.aload_n 0, 1) := by decide +kernel
theorem dX7_distance_25 : decode cX7_distance 25 = .ok (.getfield 19, 3) := by decide +kernel
theorem dX7_distance_28 : decode cX7_distance 28 = .ok (.bipush (-9), 2) := by decide +kernel
theorem dX7_distance_30 : decode cX7_distance 30 = .ok (.invokevirtual 187, 3) := by decide +kernel
theorem dX7_distance_33 : decode cX7_distance 33 = .ok (.iload_n 1, 1) := by decide +kernel
theorem dX7_distance_34 : decode cX7_distance 34 = .ok (.invokevirtual 191, 3) := by decide +kernel
theorem dX7_distance_37 : decode cX7_distance 37 = .ok (.ireturn, 1) := by decide +kernel
theorem dX7_hint_0 : decode cX7_hint 0 = .ok (.aload_n 0, 1) := by decide +kernel
theorem dX7_hint_1 : decode cX7_hint 1 = .ok (.aload_n 0, 1) := by decide +kernel
theorem dX7_hint_2 : decode cX7_hint 2 = .ok (.getfield 48, 3) := by decide +kernel
theorem dX7_hint_5 : decode cX7_hint 5 = .ok (.bipush (-9), 2) := by decide +kernel
theorem dX7_hint_7 : decode cX7_hint 7 = .ok (.iload_n 1, 1) := by decide +kernel
theorem dX7_hint_8 : decode cX7_hint 8 = .ok (.invokevirtual 183, 3) := by decide +kernel
theorem dX7_hint_11 : decode cX7_hint 11 = .ok (.istore_n 2, 1) := by decide +kernel
theorem dX7_hint_12 : decode cX7_hint 12 = .ok (.iload_n 2, 1) := by decide +kernel
theorem dX7_hint_13 : decode cX7_hint 13 = .ok (.ifCond .ge 5, 3) := by decide +kernel
theorem dX7_hint_16 : decode cX7_hint 16 = .ok (.iload_n 2, 1) := by decide +kernel
theorem dX7_hint_17 : decode cX7_hint 17 = .ok (.ireturn, 1) := by decide +kernel
theorem dX7_hint_18 : decode cX7_hint 18 = .ok (.aload_n 0, 1) := by decide +kernel
theorem dX7_hint_19 : decode cX7_hint 19 = .ok (.getfield 48, 3) := by decide +kernel
theorem dX7_hint_22 : decode cX7_hint 22 = .ok (.aload_n 0, 1) := by decide +kernel
theorem dX7_hint_23 : decode cX7_hint 23 = .ok (.getfield 19, 3) := by decide +kernel
theorem dX7_hint_26 : decode cX7_hint 26 = .ok (.bipush (-9), 2) := by decide +kernel
theorem dX7_hint_28 : decode cX7_hint 28 = .ok (.invokevirtual 187, 3) := by decide +kernel
theorem dX7_hint_31 : decode cX7_hint 31 = .ok (.iload_n 1, 1) := by decide +kernel
theorem dX7_hint_32 : decode cX7_hint 32 = .ok (.invokevirtual 191, 3) := by decide +kernel
theorem dX7_hint_35 : decode cX7_hint 35 = .ok (.istore_n 3, 1) := by decide +kernel
theorem dX7_hint_36 : decode cX7_hint 36 = .ok (.iconst 0, 1) := by decide +kernel
theorem dX7_hint_37 : decode cX7_hint 37 = .ok (.istore 4, 2) := by decide +kernel
theorem dX7_hint_39 : decode cX7_hint 39 = .ok (.iload_n 3, 1) := by decide +kernel
theorem dX7_hint_40 : decode cX7_hint 40 = .ok (.ifCond .le 47, 3) := by decide +kernel
theorem dX7_hint_43 : decode cX7_hint 43 = .ok (.iload 4, 2) := by decide +kernel
theorem dX7_hint_45 : decode cX7_hint 45 = .ok (.aload_n 0, 1) := by decide +kernel
theorem dX7_hint_46 : decode cX7_hint 46 = .ok (.getfield 19, 3) := by decide +kernel
theorem dX7_hint_49 : decode cX7_hint 49 = .ok (.getfield 80, 3) := by decide +kernel
theorem dX7_hint_52 : decode cX7_hint 52 = .ok (.if_icmp .ge 35, 3) := by decide +kernel
theorem dX7_hint_55 : decode cX7_hint 55 = .ok (.aload_n 0, 1) := by decide +kernel
theorem dX7_hint_56 : decode cX7_hint 56 = .ok (.iload 4, 2) := by decide +kernel
theorem dX7_hint_58 : decode cX7_hint 58 = .ok (.iload_n 1, 1) := by decide +kernel
theorem dX7_hint_59 : decode cX7_hint 59 = .ok (.iload_n 3, 1) := by decide +kernel
theorem dX7_hint_60 : decode cX7_hint 60 = .ok (.iconst 1, 1) := by decide +kernel
theorem dX7_hint_61 : decode cX7_hint 61 = .ok (.isub, 1) := by decide +kernel
theorem dX7_hint_62 : decode cX7_hint 62 = .ok (.invokevirtual 195, 3) := by decide +kernel
theorem dX7_hint_65 : decode cX7_hint 65 = .ok (.istore 5, 2) := by decide +kernel
theorem dX7_hint_67 : decode cX7_hint 67 = .ok (.iload 5, 2) := by decide +kernel
theorem dX7_hint_69 : decode cX7_hint 69 = .ok (.ifCond .lt 12, 3) := by decide +kernel
theorem dX7_hint_72 : decode cX7_hint 72 = .ok (.bipush 100, 2) := by decide +kernel
theorem dX7_hint_74 : decode cX7_hint 74 = .ok (.iload 4, 2) := by decide +kernel
theorem dX7_hint_76 : decode cX7_hint 76 = .ok (.imul, 1) := by decide +kernel
theorem dX7_hint_77 : decode cX7_hint 77 = .ok (.iload 5, 2) := by decide +kernel
theorem dX7_hint_79 : decode cX7_hint 79 = .ok (.iadd, 1) := by decide +kernel
theorem dX7_hint_80 : decode cX7_hint 80 = .ok (.ireturn, 1) := by decide +kernel
theorem dX7_hint_81 : decode cX7_hint 81 = .ok (.iinc 4 1, 3) := by decide +kernel
theorem dX7_hint_84 : decode cX7_hint 84 = .ok (.goto (-45), 3) := by decide +kernel
theorem dX7_hint_87 : decode cX7_hint 87 = .ok (.bipush (-9), 2) := by decide +kernel
theorem dX7_hint_89 : decode cX7_hint 89 = .ok (.ireturn, 1) := by decide +kernel
theorem dX7_follow_0 : decode cX7_follow 0 = .ok (.aload_n 0, 1) := by decide +kernel
theorem dX7_follow_1 : decode cX7_follow 1 = .ok (.iload_n 1, 1) := by decide +kernel
theorem dX7_follow_2 : decode cX7_follow 2 = .ok (.invokevirtual 199, 3) := by decide +kernel
theorem dX7_follow_5 : decode cX7_follow 5 = .ok (.istore_n 2, 1) := by decide +kernel
theorem dX7_follow_6 : decode cX7_follow 6 = .ok (.iload_n 2, 1) := by decide +kernel
theorem dX7_follow_7 : decode cX7_follow 7 = .ok (.ifCond .ge 6, 3) := by decide +kernel
theorem dX7_follow_10 : decode cX7_follow 10 = .ok (.bipush (-2), 2) := by decide +kernel
theorem dX7_follow_12 : decode cX7_follow 12 = .ok (.ireturn, 1) := by decide +kernel
theorem dX7_follow_13 : decode cX7_follow 13 = .ok (.iload_n 2, 1) := by decide +kernel
theorem dX7_follow_14 : decode cX7_follow 14 = .ok (.bipush 100, 2) := by decide +kernel
theorem dX7_follow_16 : decode cX7_follow 16 = .ok (.idiv, 1) := by decide +kernel
theorem dX7_follow_17 : decode cX7_follow 17 = .ok (.istore_n 3, 1) := by decide +kernel
theorem dX7_follow_18 : decode cX7_follow 18 = .ok (.iload_n 2, 1) := by decide +kernel
theorem dX7_follow_19 : decode cX7_follow 19 = .ok (.bipush 100, 2) := by decide +kernel
theorem dX7_follow_21 : decode cX7_follow 21 = .ok (.irem, 1) := by decide +kernel
theorem dX7_follow_22 : decode cX7_follow 22 = .ok (.istore 4, 2) := by decide +kernel
theorem dX7_follow_24 : decode cX7_follow 24 = .ok (.aload_n 0, 1) := by decide +kernel
theorem dX7_follow_25 : decode cX7_follow 25 = .ok (.getfield 36, 3) := by decide +kernel
theorem dX7_follow_28 : decode cX7_follow 28 = .ok (.aload_n 0, 1) := by decide +kernel
theorem dX7_follow_29 : decode cX7_follow 29 = .ok (.getfield 19, 3) := by decide +kernel
theorem dX7_follow_32 : decode cX7_follow 32 = .ok (.iload_n 3, 1) := by decide +kernel
theorem dX7_follow_33 : decode cX7_follow 33 = .ok (.invokevirtual 147, 3) := by decide +kernel
theorem dX7_follow_36 : decode cX7_follow 36 = .ok (.pop, 1) := by decide +kernel
theorem dX7_follow_37 : decode cX7_follow 37 = .ok (.aload_n 0, 1) := by decide +kernel
theorem dX7_follow_38 : decode cX7_follow 38 = .ok (.getfield 29, 3) := by decide +kernel
theorem dX7_follow_41 : decode cX7_follow 41 = .ok (.aload_n 0, 1) := by decide +kernel
theorem dX7_follow_42 : decode cX7_follow 42 = .ok (.getfield 19, 3) := by decide +kernel
theorem dX7_follow_45 : decode cX7_follow 45 = .ok (.invokevirtual 70, 3) := by decide +kernel
theorem dX7_follow_48 : decode cX7_follow 48 = .ok (.aload_n 0, 1) := by decide +kernel
theorem dX7_follow_49 : decode cX7_follow 49 = .ok (.getfield 19, 3) := by decide +kernel
theorem dX7_follow_52 : decode cX7_follow 52 = .ok (.iload_n 3, 1) := by decide +kernel
theorem dX7_follow_53 : decode cX7_follow 53 = .ok (.iload 4, 2) := by decide +kernel
theorem dX7_follow_55 : decode cX7_follow 55 = .ok (.aload_n 0, 1) := by decide +kernel
theorem dX7_follow_56 : decode cX7_follow 56 = .ok (.getfield 36, 3) := by decide +kernel
theorem dX7_follow_59 : decode cX7_follow 59 = .ok (.getfield 161, 3) := by decide +kernel
theorem dX7_follow_62 : decode cX7_follow 62 = .ok (.iload 4, 2) := by decide +kernel
theorem dX7_follow_64 : decode cX7_follow 64 = .ok (.invokestatic 131, 3) := by decide +kernel
theorem dX7_follow_67 : decode cX7_follow 67 = .ok (.iload_n 1, 1) := by decide +kernel
theorem dX7_follow_68 : decode cX7_follow 68 = .ok (.invokevirtual 157, 3) := by decide +kernel
theorem dX7_follow_71 : decode cX7_follow 71 = .ok (.aload_n 0, 1) := by decide +kernel
theorem dX7_follow_72 : decode cX7_follow 72 = .ok (.iload_n 1, 1) := by decide +kernel
theorem dX7_follow_73 : decode cX7_follow 73 = .ok (.invokevirtual 203, 3) := by decide +kernel
theorem dX7_follow_76 : decode cX7_follow 76 = .ok (.ireturn, 1) := by decide +kernel
theorem dX7_worst_0 : decode cX7_worst 0 = .ok (.aload_n 0, 1) := by decide +kernel
theorem dX7_worst_1 : decode cX7_worst 1 = .ok (.aload_n 0, 1) := by decide +kernel
theorem dX7_worst_2 : decode cX7_worst 2 = .ok (.getfield 48, 3) := by decide +kernel
theorem dX7_worst_5 : decode cX7_worst 5 = .ok (.bipush (-9), 2) := by decide +kernel
theorem dX7_worst_7 : decode cX7_worst 7 = .ok (.iload_n 1, 1) := by decide +kernel
theorem dX7_worst_8 : decode cX7_worst 8 = .ok (.invokevirtual 183, 3) := by decide +kernel
theorem dX7_worst_11 : decode cX7_worst 11 = .ok (.ireturn, 1) := by decide +kernel
theorem dX7_hardest_0 : decode cX7_hardest 0 = .ok (.aload_n 0, 1) := by decide +kernel
theorem dX7_hardest_1 : decode cX7_hardest 1 = .ok (.aload_n 0, 1) := by decide +kernel
theorem dX7_hardest_2 : decode cX7_hardest 2 = .ok (.getfield 48, 3) := by decide +kernel
theorem dX7_hardest_5 : decode cX7_hardest 5 = .ok (.bipush (-9), 2) := by decide +kernel
theorem dX7_hardest_7 : decode cX7_hardest 7 = .ok (.iload_n 1, 1) := by decide +kernel
theorem dX7_hardest_8 : decode cX7_hardest 8 = .ok (.invokevirtual 183, 3) := by decide +kernel
theorem dX7_hardest_11 : decode cX7_hardest 11 = .ok (.istore_n 2, 1) := by decide +kernel
theorem dX7_hardest_12 : decode cX7_hardest 12 = .ok (.iload_n 2, 1) := by decide +kernel
theorem dX7_hardest_13 : decode cX7_hardest 13 = .ok (.ifCond .ge 6, 3) := by decide +kernel
theorem dX7_hardest_16 : decode cX7_hardest 16 = .ok (.bipush (-2), 2) := by decide +kernel
theorem dX7_hardest_18 : decode cX7_hardest 18 = .ok (.ireturn, 1) := by decide +kernel
theorem dX7_hardest_19 : decode cX7_hardest 19 = .ok (.aload_n 0, 1) := by decide +kernel
theorem dX7_hardest_20 : decode cX7_hardest 20 = .ok (.getfield 29, 3) := by decide +kernel
theorem dX7_hardest_23 : decode cX7_hardest 23 = .ok (.aload_n 0, 1) := by decide +kernel
theorem dX7_hardest_24 : decode cX7_hardest 24 = .ok (.getfield 19, 3) := by decide +kernel
theorem dX7_hardest_27 : decode cX7_hardest 27 = .ok (.invokevirtual 70, 3) := by decide +kernel
theorem dX7_hardest_30 : decode cX7_hardest 30 = .ok (.aload_n 0, 1) := by decide +kernel
theorem dX7_hardest_31 : decode cX7_hardest 31 = .ok (.getfield 19, 3) := by decide +kernel
theorem dX7_hardest_34 : decode cX7_hardest 34 = .ok (.aload_n 0, 1) := by decide +kernel
theorem dX7_hardest_35 : decode cX7_hardest 35 = .ok (.getfield 48, 3) := by decide +kernel
theorem dX7_hardest_38 : decode cX7_hardest 38 = .ok (.iload_n 1, 1) := by decide +kernel
theorem dX7_hardest_39 : decode cX7_hardest 39 = .ok (.iload_n 2, 1) := by decide +kernel
theorem dX7_hardest_40 : decode cX7_hardest 40 = .ok (.invokevirtual 206, 3) := by decide +kernel
theorem dX7_hardest_43 : decode cX7_hardest 43 = .ok (.invokevirtual 210, 3) := by decide +kernel
theorem dX7_hardest_46 : decode cX7_hardest 46 = .ok (.aload_n 0, 1) := by decide +kernel
theorem dX7_hardest_47 : decode cX7_hardest 47 = .ok (.getfield 19, 3) := by decide +kernel
theorem dX7_hardest_50 : decode cX7_hardest 50 = .ok (.invokevirtual 214, 3) := by decide +kernel
theorem dX7_hardest_53 : decode cX7_hardest 53 = .ok (.iload_n 2, 1) := by decide +kernel
theorem dX7_hardest_54 : decode cX7_hardest 54 = .ok (.ireturn, 1) := by decide +kernel
theorem dX7_mean_0 : decode cX7_mean 0 = .ok (.aload_n 0, 1) := by decide +kernel
theorem dX7_mean_1 : decode cX7_mean 1 = .ok (.aload_n 0, 1) := by decide +kernel
theorem dX7_mean_2 : decode cX7_mean 2 = .ok (.getfield 48, 3) := by decide +kernel
theorem dX7_mean_5 : decode cX7_mean 5 = .ok (.bipush (-9), 2) := by decide +kernel
theorem dX7_mean_7 : decode cX7_mean 7 = .ok (.iload_n 1, 1) := by decide +kernel
theorem dX7_mean_8 : decode cX7_mean 8 = .ok (.invokevirtual 183, 3) := by decide +kernel
theorem dX7_mean_11 : decode cX7_mean 11 = .ok (.ifCond .lt 14, 3) := by decide +kernel
theorem dX7_mean_14 : decode cX7_mean 14 = .ok (.aload_n 0, 1) := by decide +kernel
theorem dX7_mean_15 : decode cX7_mean 15 = .ok (.getfield 48, 3) := by decide +kernel
theorem dX7_mean_18 : decode cX7_mean 18 = .ok (.getfield 176, 3) := by decide +kernel
theorem dX7_mean_21 : decode cX7_mean 21 = .ok (.iconst 1, 1) := by decide +kernel
theorem dX7_mean_22 : decode cX7_mean 22 = .ok (.if_icmp .ge 6, 3) := by decide +kernel
theorem dX7_mean_25 : decode cX7_mean 25 = .ok (.ldc 217, 2) := by decide +kernel
theorem dX7_mean_27 : decode cX7_mean 27 = .ok (.freturn, 1) := by decide +kernel
theorem dX7_mean_28 : decode cX7_mean 28 = .ok (.aload_n 0, 1) := by decide +kernel
theorem dX7_mean_29 : decode cX7_mean 29 = .ok (.getfield 48, 3) := by decide +kernel
theorem dX7_mean_32 : decode cX7_mean 32 = .ok (.iload_n 1, 1) := by decide +kernel
theorem dX7_mean_33 : decode cX7_mean 33 = .ok (.invokevirtual 218, 3) := by decide +kernel
theorem dX7_mean_36 : decode cX7_mean 36 = .ok (.getfield 222, 3) := by decide +kernel
theorem dX7_mean_39 : decode cX7_mean 39 = .ok (.i2f, 1) := by decide +kernel
theorem dX7_mean_40 : decode cX7_mean 40 = .ok (.aload_n 0, 1) := by decide +kernel
theorem dX7_mean_41 : decode cX7_mean 41 = .ok (.getfield 48, 3) := by decide +kernel
theorem dX7_mean_44 : decode cX7_mean 44 = .ok (.getfield 176, 3) := by decide +kernel
theorem dX7_mean_47 : decode cX7_mean 47 = .ok (.i2f, 1) := by decide +kernel
theorem dX7_mean_48 : decode cX7_mean 48 = .ok (.fdiv, 1) := by decide +kernel
theorem dX7_mean_49 : decode cX7_mean 49 = .ok (.freturn, 1) := by decide +kernel
theorem dX7_places_0 : decode cX7_places 0 = .ok (.aload_n 0, 1) := by decide +kernel
theorem dX7_places_1 : decode cX7_places 1 = .ok (.getfield 19, 3) := by decide +kernel
theorem dX7_places_4 : decode cX7_places 4 = .ok (.iload_n 1, 1) := by decide +kernel
theorem dX7_places_5 : decode cX7_places 5 = .ok (.invokevirtual 124, 3) := by decide +kernel
theorem dX7_places_8 : decode cX7_places 8 = .ok (.ifCond .ne 5, 3) := by decide +kernel
theorem dX7_places_11 : decode cX7_places 11 = .ok (.iconst (-1), 1) := by decide +kernel
theorem dX7_places_12 : decode cX7_places 12 = .ok (.ireturn, 1) := by decide +kernel
theorem dX7_places_13 : decode cX7_places 13 = .ok (.aload_n 0, 1) := by decide +kernel
theorem dX7_places_14 : decode cX7_places 14 = .ok (.getfield 48, 3) := by decide +kernel
theorem dX7_places_17 : decode cX7_places 17 = .ok (.aload_n 0, 1) := by decide +kernel
theorem dX7_places_18 : decode cX7_places 18 = .ok (.getfield 19, 3) := by decide +kernel
theorem dX7_places_21 : decode cX7_places 21 = .ok (.bipush (-9), 2) := by decide +kernel
theorem dX7_places_23 : decode cX7_places 23 = .ok (.invokevirtual 168, 3) := by decide +kernel
theorem dX7_places_26 : decode cX7_places 26 = .ok (.aload_n 0, 1) := by decide +kernel
theorem dX7_places_27 : decode cX7_places 27 = .ok (.getfield 48, 3) := by decide +kernel
theorem dX7_places_30 : decode cX7_places 30 = .ok (.getfield 172, 3) := by decide +kernel
theorem dX7_places_33 : decode cX7_places 33 = .ok (.ifCond .eq 8, 3) := by decide +kernel
theorem dX7_places_36 : decode cX7_places 36 = .ok (.bipush (-3), 2) := by decide +kernel
theorem dX7_places_38 : decode cX7_places 38 = .ok (.goto 11, 3) := by decide +kernel
theorem dX7_places_41 : decode cX7_places 41 = .ok (.aload_n 0, 1) := by decide +kernel
theorem dX7_places_42 : decode cX7_places 42 = .ok (.getfield 48, 3) := by decide +kernel
theorem dX7_places_45 : decode cX7_places 45 = .ok (.iload_n 1, 1) := by decide +kernel
theorem dX7_places_46 : decode cX7_places 46 = .ok (.invokevirtual 227, 3) := by decide +kernel
theorem dX7_places_49 : decode cX7_places 49 = .ok (.ireturn, 1) := by decide +kernel
theorem dX7_without_0 : decode cX7_without 0 = .ok (.aload_n 0, 1) := by decide +kernel
theorem dX7_without_1 : decode cX7_without 1 = .ok (.getfield 19, 3) := by decide +kernel
theorem dX7_without_4 : decode cX7_without 4 = .ok (.iload_n 1, 1) := by decide +kernel
theorem dX7_without_5 : decode cX7_without 5 = .ok (.invokevirtual 124, 3) := by decide +kernel
theorem dX7_without_8 : decode cX7_without 8 = .ok (.ifCond .ne 5, 3) := by decide +kernel
theorem dX7_without_11 : decode cX7_without 11 = .ok (.iconst (-1), 1) := by decide +kernel
theorem dX7_without_12 : decode cX7_without 12 = .ok (.ireturn, 1) := by decide +kernel
theorem dX7_without_13 : decode cX7_without 13 = .ok (.aload_n 0, 1) := by decide +kernel
theorem dX7_without_14 : decode cX7_without 14 = .ok (.getfield 19, 3) := by decide +kernel
theorem dX7_without_17 : decode cX7_without 17 = .ok (.getfield 105, 3) := by decide +kernel
theorem dX7_without_20 : decode cX7_without 20 = .ok (.iload_n 1, 1) := by decide +kernel
theorem dX7_without_21 : decode cX7_without 21 = .ok (.if_icmp .ne 6, 3) := by decide +kernel
theorem dX7_without_24 : decode cX7_without 24 = .ok (.bipush (-2), 2) := by decide +kernel
theorem dX7_without_26 : decode cX7_without 26 = .ok (.ireturn, 1) := by decide +kernel
theorem dX7_without_27 : decode cX7_without 27 = .ok (.aload_n 0, 1) := by decide +kernel
theorem dX7_without_28 : decode cX7_without 28 = .ok (.aload_n 0, 1) := by decide +kernel
theorem dX7_without_29 : decode cX7_without 29 = .ok (.getfield 52, 3) := by decide +kernel
theorem dX7_without_32 : decode cX7_without 32 = .ok (.iload_n 1, 1) := by decide +kernel
theorem dX7_without_33 : decode cX7_without 33 = .ok (.iload_n 2, 1) := by decide +kernel
theorem dX7_without_34 : decode cX7_without 34 = .ok (.invokevirtual 183, 3) := by decide +kernel
theorem dX7_without_37 : decode cX7_without 37 = .ok (.istore_n 3, 1) := by decide +kernel
theorem dX7_without_38 : decode cX7_without 38 = .ok (.iload_n 3, 1) := by decide +kernel
theorem dX7_without_39 : decode cX7_without 39 = .ok (.ifCond .ge 7, 3) := by decide +kernel
theorem dX7_without_42 : decode cX7_without 42 = .ok (.iload_n 3, 1) := by decide +kernel
theorem dX7_without_43 : decode cX7_without 43 = .ok (.goto 19, 3) := by decide +kernel
theorem dX7_without_46 : decode cX7_without 46 = .ok (.aload_n 0, 1) := by decide +kernel
theorem dX7_without_47 : decode cX7_without 47 = .ok (.getfield 52, 3) := by decide +kernel
theorem dX7_without_50 : decode cX7_without 50 = .ok (.aload_n 0, 1) := by decide +kernel
theorem dX7_without_51 : decode cX7_without 51 = .ok (.getfield 19, 3) := by decide +kernel
theorem dX7_without_54 : decode cX7_without 54 = .ok (.iload_n 1, 1) := by decide +kernel
theorem dX7_without_55 : decode cX7_without 55 = .ok (.invokevirtual 187, 3) := by decide +kernel
theorem dX7_without_58 : decode cX7_without 58 = .ok (.iload_n 2, 1) := by decide +kernel
theorem dX7_without_59 : decode cX7_without 59 = .ok (.invokevirtual 191, 3) := by decide +kernel
theorem dX7_without_62 : decode cX7_without 62 = .ok (.ireturn, 1) := by decide +kernel
theorem dX7_undo_0 : decode cX7_undo 0 = .ok (.aload_n 0, 1) := by decide +kernel
theorem dX7_undo_1 : decode cX7_undo 1 = .ok (.getfield 29, 3) := by decide +kernel
theorem dX7_undo_4 : decode cX7_undo 4 = .ok (.aload_n 0, 1) := by decide +kernel
theorem dX7_undo_5 : decode cX7_undo 5 = .ok (.getfield 19, 3) := by decide +kernel
theorem dX7_undo_8 : decode cX7_undo 8 = .ok (.invokevirtual 230, 3) := by decide +kernel
theorem dX7_undo_11 : decode cX7_undo 11 = .ok (.ireturn, 1) := by decide +kernel
theorem dX7_fingerprint_0 : decode cX7_fingerprint 0 = .ok (.ldc2_w 233, 3) := by decide +kernel
theorem dX7_fingerprint_3 : decode cX7_fingerprint 3 = .ok (.lstore_n 1, 1) := by decide +kernel
theorem dX7_fingerprint_4 : decode cX7_fingerprint 4 = .ok (.iconst 0, 1) := by decide +kernel
theorem dX7_fingerprint_5 : decode cX7_fingerprint 5 = .ok (.istore_n 3, 1) := by decide +kernel
theorem dX7_fingerprint_6 : decode cX7_fingerprint 6 = .ok (.iload_n 3, 1) := by decide +kernel
theorem dX7_fingerprint_7 : decode cX7_fingerprint 7 = .ok (.bipush 8, 2) := by decide +kernel
theorem dX7_fingerprint_9 : decode cX7_fingerprint 9 = .ok (.if_icmp .gt 22, 3) := by decide +kernel
theorem dX7_fingerprint_12 : decode cX7_fingerprint 12 = .ok (.ldc2_w 235, 3) := by decide +kernel
theorem dX7_fingerprint_15 : decode cX7_fingerprint 15 = .ok (.lload_n 1, 1) := by decide +kernel
theorem dX7_fingerprint_16 : decode cX7_fingerprint 16 = .ok (.lmul, 1) := by decide +kernel
theorem dX7_fingerprint_17 : decode cX7_fingerprint 17 = .ok (.aload_n 0, 1) := by decide +kernel
theorem dX7_fingerprint_18 : decode cX7_fingerprint 18 = .ok (.iload_n 3, 1) := by decide +kernel
theorem dX7_fingerprint_19 : decode cX7_fingerprint 19 = .ok (.invokevirtual 237, 3) := by decide +kernel
theorem dX7_fingerprint_22 : decode cX7_fingerprint 22 = .ok (.i2l, 1) := by decide +kernel
theorem dX7_fingerprint_23 : decode cX7_fingerprint 23 = .ok (.ladd, 1) := by decide +kernel
theorem dX7_fingerprint_24 : decode cX7_fingerprint 24 = .ok (.lstore_n 1, 1) := by decide +kernel
theorem dX7_fingerprint_25 : decode cX7_fingerprint 25 = .ok (.iinc 3 1, 3) := by decide +kernel
theorem dX7_fingerprint_28 : decode cX7_fingerprint 28 = .ok (.goto (-22), 3) := by decide +kernel
theorem dX7_fingerprint_31 : decode cX7_fingerprint 31 = .ok (.iconst 0, 1) := by decide +kernel
theorem dX7_fingerprint_32 : decode cX7_fingerprint 32 = .ok (.istore_n 3, 1) := by decide +kernel
theorem dX7_fingerprint_33 : decode cX7_fingerprint 33 = .ok (.iload_n 3, 1) := by decide +kernel
theorem dX7_fingerprint_34 : decode cX7_fingerprint 34 = .ok (.aload_n 0, 1) := by decide +kernel
theorem dX7_fingerprint_35 : decode cX7_fingerprint 35 = .ok (.getfield 19, 3) := by decide +kernel
theorem dX7_fingerprint_38 : decode cX7_fingerprint 38 = .ok (.getfield 83, 3) := by decide +kernel
theorem dX7_fingerprint_41 : decode cX7_fingerprint 41 = .ok (.aload_n 0, 1) := by decide +kernel
theorem dX7_fingerprint_42 : decode cX7_fingerprint 42 = .ok (.getfield 19, 3) := by decide +kernel
theorem dX7_fingerprint_45 : decode cX7_fingerprint 45 = .ok (.getfield 86, 3) := by decide +kernel
theorem dX7_fingerprint_48 : decode cX7_fingerprint 48 = .ok (.imul, 1) := by decide +kernel
theorem dX7_fingerprint_49 : decode cX7_fingerprint 49 = .ok (.if_icmp .ge 22, 3) := by decide +kernel
theorem dX7_fingerprint_52 : decode cX7_fingerprint 52 = .ok (.ldc2_w 235, 3) := by decide +kernel
theorem dX7_fingerprint_55 : decode cX7_fingerprint 55 = .ok (.lload_n 1, 1) := by decide +kernel
theorem dX7_fingerprint_56 : decode cX7_fingerprint 56 = .ok (.lmul, 1) := by decide +kernel
theorem dX7_fingerprint_57 : decode cX7_fingerprint 57 = .ok (.aload_n 0, 1) := by decide +kernel
theorem dX7_fingerprint_58 : decode cX7_fingerprint 58 = .ok (.iload_n 3, 1) := by decide +kernel
theorem dX7_fingerprint_59 : decode cX7_fingerprint 59 = .ok (.invokevirtual 240, 3) := by decide +kernel
theorem dX7_fingerprint_62 : decode cX7_fingerprint 62 = .ok (.i2l, 1) := by decide +kernel
theorem dX7_fingerprint_63 : decode cX7_fingerprint 63 = .ok (.ladd, 1) := by decide +kernel
theorem dX7_fingerprint_64 : decode cX7_fingerprint 64 = .ok (.lstore_n 1, 1) := by decide +kernel
theorem dX7_fingerprint_65 : decode cX7_fingerprint 65 = .ok (.iinc 3 1, 3) := by decide +kernel
theorem dX7_fingerprint_68 : decode cX7_fingerprint 68 = .ok (.goto (-35), 3) := by decide +kernel
theorem dX7_fingerprint_71 : decode cX7_fingerprint 71 = .ok (.iconst 0, 1) := by decide +kernel
theorem dX7_fingerprint_72 : decode cX7_fingerprint 72 = .ok (.istore_n 3, 1) := by decide +kernel
theorem dX7_fingerprint_73 : decode cX7_fingerprint 73 = .ok (.iload_n 3, 1) := by decide +kernel
theorem dX7_fingerprint_74 : decode cX7_fingerprint 74 = .ok (.aload_n 0, 1) := by decide +kernel
theorem dX7_fingerprint_75 : decode cX7_fingerprint 75 = .ok (.getfield 19, 3) := by decide +kernel
theorem dX7_fingerprint_78 : decode cX7_fingerprint 78 = .ok (.getfield 80, 3) := by decide +kernel
theorem dX7_fingerprint_81 : decode cX7_fingerprint 81 = .ok (.if_icmp .ge 40, 3) := by decide +kernel
theorem dX7_fingerprint_84 : decode cX7_fingerprint 84 = .ok (.iconst 0, 1) := by decide +kernel
theorem dX7_fingerprint_85 : decode cX7_fingerprint 85 = .ok (.istore 4, 2) := by decide +kernel
theorem dX7_fingerprint_87 : decode cX7_fingerprint 87 = .ok (.iload 4, 2) := by decide +kernel
theorem dX7_fingerprint_89 : decode cX7_fingerprint 89 = .ok (.bipush 6, 2) := by decide +kernel
theorem dX7_fingerprint_91 : decode cX7_fingerprint 91 = .ok (.if_icmp .gt 24, 3) := by decide +kernel
theorem dX7_fingerprint_94 : decode cX7_fingerprint 94 = .ok (.ldc2_w 235, 3) := by decide +kernel
theorem dX7_fingerprint_97 : decode cX7_fingerprint 97 = .ok (.lload_n 1, 1) := by decide +kernel
theorem dX7_fingerprint_98 : decode cX7_fingerprint 98 = .ok (.lmul, 1) := by decide +kernel
theorem dX7_fingerprint_99 : decode cX7_fingerprint 99 = .ok (.aload_n 0, 1) := by decide +kernel
theorem dX7_fingerprint_100 : decode cX7_fingerprint 100 = .ok (.iload_n 3, 1) := by decide +kernel
theorem dX7_fingerprint_101 : decode cX7_fingerprint 101 = .ok (.iload 4, 2) := by decide +kernel
theorem dX7_fingerprint_103 : decode cX7_fingerprint 103 = .ok (.invokevirtual 243, 3) := by decide +kernel
theorem dX7_fingerprint_106 : decode cX7_fingerprint 106 = .ok (.i2l, 1) := by decide +kernel
theorem dX7_fingerprint_107 : decode cX7_fingerprint 107 = .ok (.ladd, 1) := by decide +kernel
theorem dX7_fingerprint_108 : decode cX7_fingerprint 108 = .ok (.lstore_n 1, 1) := by decide +kernel
theorem dX7_fingerprint_109 : decode cX7_fingerprint 109 = .ok (.iinc 4 1, 3) := by decide +kernel
theorem dX7_fingerprint_112 : decode cX7_fingerprint 112 = .ok (.goto (-25), 3) := by decide +kernel
theorem dX7_fingerprint_115 : decode cX7_fingerprint 115 = .ok (.iinc 3 1, 3) := by decide +kernel
theorem dX7_fingerprint_118 : decode cX7_fingerprint 118 = .ok (.goto (-45), 3) := by decide +kernel
theorem dX7_fingerprint_121 : decode cX7_fingerprint 121 = .ok (.ldc2_w 235, 3) := by decide +kernel
theorem dX7_fingerprint_124 : decode cX7_fingerprint 124 = .ok (.lload_n 1, 1) := by decide +kernel
theorem dX7_fingerprint_125 : decode cX7_fingerprint 125 = .ok (.lmul, 1) := by decide +kernel
theorem dX7_fingerprint_126 : decode cX7_fingerprint 126 = .ok (.aload_n 0, 1) := by decide +kernel
theorem dX7_fingerprint_127 : decode cX7_fingerprint 127 = .ok (.invokevirtual 246, 3) := by decide +kernel
theorem dX7_fingerprint_130 : decode cX7_fingerprint 130 = .ok (.i2l, 1) := by decide +kernel
theorem dX7_fingerprint_131 : decode cX7_fingerprint 131 = .ok (.ladd, 1) := by decide +kernel
theorem dX7_fingerprint_132 : decode cX7_fingerprint 132 = .ok (.lstore_n 1, 1) := by decide +kernel
theorem dX7_fingerprint_133 : decode cX7_fingerprint 133 = .ok (.ldc2_w 235, 3) := by decide +kernel
theorem dX7_fingerprint_136 : decode cX7_fingerprint 136 = .ok (.lload_n 1, 1) := by decide +kernel
theorem dX7_fingerprint_137 : decode cX7_fingerprint 137 = .ok (.lmul, 1) := by decide +kernel
theorem dX7_fingerprint_138 : decode cX7_fingerprint 138 = .ok (.aload_n 0, 1) := by decide +kernel
theorem dX7_fingerprint_139 : decode cX7_fingerprint 139 = .ok (.iconst 0, 1) := by decide +kernel
theorem dX7_fingerprint_140 : decode cX7_fingerprint 140 = .ok (.invokevirtual 203, 3) := by decide +kernel
theorem dX7_fingerprint_143 : decode cX7_fingerprint 143 = .ok (.i2l, 1) := by decide +kernel
theorem dX7_fingerprint_144 : decode cX7_fingerprint 144 = .ok (.ladd, 1) := by decide +kernel
theorem dX7_fingerprint_145 : decode cX7_fingerprint 145 = .ok (.lstore_n 1, 1) := by decide +kernel
theorem dX7_fingerprint_146 : decode cX7_fingerprint 146 = .ok (.ldc2_w 235, 3) := by decide +kernel
theorem dX7_fingerprint_149 : decode cX7_fingerprint 149 = .ok (.lload_n 1, 1) := by decide +kernel
theorem dX7_fingerprint_150 : decode cX7_fingerprint 150 = .ok (.lmul, 1) := by decide +kernel
theorem dX7_fingerprint_151 : decode cX7_fingerprint 151 = .ok (.aload_n 0, 1) := by decide +kernel
theorem dX7_fingerprint_152 : decode cX7_fingerprint 152 = .ok (.iconst 1, 1) := by decide +kernel
theorem dX7_fingerprint_153 : decode cX7_fingerprint 153 = .ok (.invokevirtual 203, 3) := by decide +kernel
theorem dX7_fingerprint_156 : decode cX7_fingerprint 156 = .ok (.i2l, 1) := by decide +kernel
theorem dX7_fingerprint_157 : decode cX7_fingerprint 157 = .ok (.ladd, 1) := by decide +kernel
theorem dX7_fingerprint_158 : decode cX7_fingerprint 158 = .ok (.lreturn, 1) := by decide +kernel
theorem dX7_greatest_0 : decode cX7_greatest 0 = .ok (.aload_n 0, 1) := by decide +kernel
theorem dX7_greatest_1 : decode cX7_greatest 1 = .ok (.getfield 19, 3) := by decide +kernel
theorem dX7_greatest_4 : decode cX7_greatest 4 = .ok (.getfield 105, 3) := by decide +kernel
theorem dX7_greatest_7 : decode cX7_greatest 7 = .ok (.bipush (-9), 2) := by decide +kernel
theorem dX7_greatest_9 : decode cX7_greatest 9 = .ok (.if_icmp .ne 6, 3) := by decide +kernel
theorem dX7_greatest_12 : decode cX7_greatest 12 = .ok (.bipush (-2), 2) := by decide +kernel
theorem dX7_greatest_14 : decode cX7_greatest 14 = .ok (.ireturn, 1) := by decide +kernel
theorem dX7_greatest_15 : decode cX7_greatest 15 = .ok (.aload_n 1, 1) := by decide +kernel
theorem dX7_greatest_16 : decode cX7_greatest 16 = .ok (.aload_n 0, 1) := by decide +kernel
theorem dX7_greatest_17 : decode cX7_greatest 17 = .ok (.getfield 19, 3) := by decide +kernel
theorem dX7_greatest_20 : decode cX7_greatest 20 = .ok (.iload_n 2, 1) := by decide +kernel
theorem dX7_greatest_21 : decode cX7_greatest 21 = .ok (.invokevirtual 168, 3) := by decide +kernel
theorem dX7_greatest_24 : decode cX7_greatest 24 = .ok (.aload_n 1, 1) := by decide +kernel
theorem dX7_greatest_25 : decode cX7_greatest 25 = .ok (.getfield 172, 3) := by decide +kernel
theorem dX7_greatest_28 : decode cX7_greatest 28 = .ok (.ifCond .eq 6, 3) := by decide +kernel
theorem dX7_greatest_31 : decode cX7_greatest 31 = .ok (.bipush (-3), 2) := by decide +kernel
theorem dX7_greatest_33 : decode cX7_greatest 33 = .ok (.ireturn, 1) := by decide +kernel
theorem dX7_greatest_34 : decode cX7_greatest 34 = .ok (.aload_n 1, 1) := by decide +kernel
theorem dX7_greatest_35 : decode cX7_greatest 35 = .ok (.iload_n 3, 1) := by decide +kernel
theorem dX7_greatest_36 : decode cX7_greatest 36 = .ok (.invokevirtual 218, 3) := by decide +kernel
theorem dX7_greatest_39 : decode cX7_greatest 39 = .ok (.astore 4, 2) := by decide +kernel
theorem dX7_greatest_41 : decode cX7_greatest 41 = .ok (.aload 4, 2) := by decide +kernel
theorem dX7_greatest_43 : decode cX7_greatest 43 = .ok (.aload_n 0, 1) := by decide +kernel
theorem dX7_greatest_44 : decode cX7_greatest 44 = .ok (.getfield 19, 3) := by decide +kernel
theorem dX7_greatest_47 : decode cX7_greatest 47 = .ok (.aload_n 1, 1) := by decide +kernel
theorem dX7_greatest_48 : decode cX7_greatest 48 = .ok (.invokevirtual 249, 3) := by decide +kernel
theorem dX7_greatest_51 : decode cX7_greatest 51 = .ok (.aload 4, 2) := by decide +kernel
theorem dX7_greatest_53 : decode cX7_greatest 53 = .ok (.getfield 253, 3) := by decide +kernel
theorem dX7_greatest_56 : decode cX7_greatest 56 = .ok (.ireturn, 1) := by decide +kernel
theorem dX7_nearerPlace_0 : decode cX7_nearerPlace 0 = .ok (.aload_n 0, 1) := by decide +kernel
theorem dX7_nearerPlace_1 : decode cX7_nearerPlace 1 = .ok (.getfield 36, 3) := by decide +kernel
theorem dX7_nearerPlace_4 : decode cX7_nearerPlace 4 = .ok (.aload_n 0, 1) := by decide +kernel
theorem dX7_nearerPlace_5 : decode cX7_nearerPlace 5 = .ok (.getfield 19, 3) := by decide +kernel
theorem dX7_nearerPlace_8 : decode cX7_nearerPlace 8 = .ok (.iload_n 1, 1) := by decide +kernel
theorem dX7_nearerPlace_9 : decode cX7_nearerPlace 9 = .ok (.invokevirtual 147, 3) := by decide +kernel
theorem dX7_nearerPlace_12 : decode cX7_nearerPlace 12 = .ok (.pop, 1) := by decide +kernel
theorem dX7_nearerPlace_13 : decode cX7_nearerPlace 13 = .ok (.iconst 0, 1) := by decide +kernel
theorem dX7_nearerPlace_14 : decode cX7_nearerPlace 14 = .ok (.istore 4, 2) := by decide +kernel
theorem dX7_nearerPlace_16 : decode cX7_nearerPlace 16 = .ok (.iload 4, 2) := by decide +kernel
theorem dX7_nearerPlace_18 : decode cX7_nearerPlace 18 = .ok (.bipush 24, 2) := by decide +kernel
theorem dX7_nearerPlace_20 : decode cX7_nearerPlace 20 = .ok (.if_icmp .ge 83, 3) := by decide +kernel
theorem dX7_nearerPlace_23 : decode cX7_nearerPlace 23 = .ok (.aload_n 0, 1) := by decide +kernel
theorem dX7_nearerPlace_24 : decode cX7_nearerPlace 24 = .ok (.getfield 36, 3) := by decide +kernel
theorem dX7_nearerPlace_27 : decode cX7_nearerPlace 27 = .ok (.getfield 161, 3) := by decide +kernel
theorem dX7_nearerPlace_30 : decode cX7_nearerPlace 30 = .ok (.iload 4, 2) := by decide +kernel
theorem dX7_nearerPlace_32 : decode cX7_nearerPlace 32 = .ok (.invokestatic 131, 3) := by decide +kernel
theorem dX7_nearerPlace_35 : decode cX7_nearerPlace 35 = .ok (.istore 5, 2) := by decide +kernel
theorem dX7_nearerPlace_37 : decode cX7_nearerPlace 37 = .ok (.iload_n 2, 1) := by decide +kernel
theorem dX7_nearerPlace_38 : decode cX7_nearerPlace 38 = .ok (.ifCond .eq 16, 3) := by decide +kernel
theorem dX7_nearerPlace_41 : decode cX7_nearerPlace 41 = .ok (.iload 5, 2) := by decide +kernel
theorem dX7_nearerPlace_43 : decode cX7_nearerPlace 43 = .ok (.ifCond .le 7, 3) := by decide +kernel
theorem dX7_nearerPlace_46 : decode cX7_nearerPlace 46 = .ok (.iconst 1, 1) := by decide +kernel
theorem dX7_nearerPlace_47 : decode cX7_nearerPlace 47 = .ok (.goto 18, 3) := by decide +kernel
theorem dX7_nearerPlace_50 : decode cX7_nearerPlace 50 = .ok (.iconst 0, 1) := by decide +kernel
theorem dX7_nearerPlace_51 : decode cX7_nearerPlace 51 = .ok (.goto 14, 3) := by decide +kernel
theorem dX7_nearerPlace_54 : decode cX7_nearerPlace 54 = .ok (.iload 5, 2) := by decide +kernel
theorem dX7_nearerPlace_56 : decode cX7_nearerPlace 56 = .ok (.iconst 1, 1) := by decide +kernel
theorem dX7_nearerPlace_57 : decode cX7_nearerPlace 57 = .ok (.if_icmp .ne 7, 3) := by decide +kernel
theorem dX7_nearerPlace_60 : decode cX7_nearerPlace 60 = .ok (.iconst 1, 1) := by decide +kernel
theorem dX7_nearerPlace_61 : decode cX7_nearerPlace 61 = .ok (.goto 4, 3) := by decide +kernel
theorem dX7_nearerPlace_64 : decode cX7_nearerPlace 64 = .ok (.iconst 0, 1) := by decide +kernel
theorem dX7_nearerPlace_65 : decode cX7_nearerPlace 65 = .ok (.istore 6, 2) := by decide +kernel
theorem dX7_nearerPlace_67 : decode cX7_nearerPlace 67 = .ok (.iload 6, 2) := by decide +kernel
theorem dX7_nearerPlace_69 : decode cX7_nearerPlace 69 = .ok (.ifCond .eq 28, 3) := by decide +kernel
theorem dX7_nearerPlace_72 : decode cX7_nearerPlace 72 = .ok (.aload_n 0, 1) := by decide +kernel
theorem dX7_nearerPlace_73 : decode cX7_nearerPlace 73 = .ok (.getfield 48, 3) := by decide +kernel
theorem dX7_nearerPlace_76 : decode cX7_nearerPlace 76 = .ok (.aload_n 0, 1) := by decide +kernel
theorem dX7_nearerPlace_77 : decode cX7_nearerPlace 77 = .ok (.getfield 19, 3) := by decide +kernel
theorem dX7_nearerPlace_80 : decode cX7_nearerPlace 80 = .ok (.iload_n 1, 1) := by decide +kernel
theorem dX7_nearerPlace_81 : decode cX7_nearerPlace 81 = .ok (.iload 4, 2) := by decide +kernel
theorem dX7_nearerPlace_83 : decode cX7_nearerPlace 83 = .ok (.invokevirtual 255, 3) := by decide +kernel
theorem dX7_nearerPlace_86 : decode cX7_nearerPlace 86 = .ok (.iload_n 2, 1) := by decide +kernel
theorem dX7_nearerPlace_87 : decode cX7_nearerPlace 87 = .ok (.invokevirtual 191, 3) := by decide +kernel
theorem dX7_nearerPlace_90 : decode cX7_nearerPlace 90 = .ok (.iload_n 3, 1) := by decide +kernel
theorem dX7_nearerPlace_91 : decode cX7_nearerPlace 91 = .ok (.if_icmp .ne 6, 3) := by decide +kernel
theorem dX7_nearerPlace_94 : decode cX7_nearerPlace 94 = .ok (.iload 4, 2) := by decide +kernel
theorem dX7_nearerPlace_96 : decode cX7_nearerPlace 96 = .ok (.ireturn, 1) := by decide +kernel
theorem dX7_nearerPlace_97 : decode cX7_nearerPlace 97 = .ok (.iinc 4 1, 3) := by decide +kernel
theorem dX7_nearerPlace_100 : decode cX7_nearerPlace 100 = .ok (.goto (-84), 3) := by decide +kernel
theorem dX7_nearerPlace_103 : decode cX7_nearerPlace 103 = .ok (.bipush (-9), 2) := by decide +kernel
theorem dX7_nearerPlace_105 : decode cX7_nearerPlace 105 = .ok (.ireturn, 1) := by decide +kernel
theorem dX7_at_0 : decode cX7_at 0 = .ok (.iload_n 1, 1) := by decide +kernel
theorem dX7_at_1 : decode cX7_at 1 = .ok (.ifCond .lt 15, 3) := by decide +kernel
theorem dX7_at_4 : decode cX7_at 4 = .ok (.iload_n 1, 1) := by decide +kernel
theorem dX7_at_5 : decode cX7_at 5 = .ok (.aload_n 0, 1) := by decide +kernel
theorem dX7_at_6 : decode cX7_at 6 = .ok (.arraylength, 1) := by decide +kernel
theorem dX7_at_7 : decode cX7_at 7 = .ok (.if_icmp .ge 9, 3) := by decide +kernel
theorem dX7_at_10 : decode cX7_at 10 = .ok (.aload_n 0, 1) := by decide +kernel
theorem dX7_at_11 : decode cX7_at 11 = .ok (.iload_n 1, 1) := by decide +kernel
theorem dX7_at_12 : decode cX7_at 12 = .ok (.iaload, 1) := by decide +kernel
theorem dX7_at_13 : decode cX7_at 13 = .ok (.goto 4, 3) := by decide +kernel
theorem dX7_at_16 : decode cX7_at 16 = .ok (.iconst 0, 1) := by decide +kernel
theorem dX7_at_17 : decode cX7_at 17 = .ok (.ireturn, 1) := by decide +kernel
theorem dX7_at__0 : decode cX7_at_ 0 = .ok (.iload_n 1, 1) := by decide +kernel
theorem dX7_at__1 : decode cX7_at_ 1 = .ok (.ifCond .lt 15, 3) := by decide +kernel
theorem dX7_at__4 : decode cX7_at_ 4 = .ok (.iload_n 1, 1) := by decide +kernel
theorem dX7_at__5 : decode cX7_at_ 5 = .ok (.aload_n 0, 1) := by decide +kernel
theorem dX7_at__6 : decode cX7_at_ 6 = .ok (.arraylength, 1) := by decide +kernel
theorem dX7_at__7 : decode cX7_at_ 7 = .ok (.if_icmp .ge 9, 3) := by decide +kernel
theorem dX7_at__10 : decode cX7_at_ 10 = .ok (.aload_n 0, 1) := by decide +kernel
theorem dX7_at__11 : decode cX7_at_ 11 = .ok (.iload_n 1, 1) := by decide +kernel
theorem dX7_at__12 : decode cX7_at_ 12 = .ok (.laload, 1) := by decide +kernel
theorem dX7_at__13 : decode cX7_at_ 13 = .ok (.goto 4, 3) := by decide +kernel
theorem dX7_at__16 : decode cX7_at_ 16 = .ok (.lconst 0, 1) := by decide +kernel
theorem dX7_at__17 : decode cX7_at_ 17 = .ok (.lreturn, 1) := by decide +kernel
theorem dX7_put_0 : decode cX7_put 0 = .ok (.iload_n 1, 1) := by decide +kernel
theorem dX7_put_1 : decode cX7_put 1 = .ok (.ifCond .lt 13, 3) := by decide +kernel
theorem dX7_put_4 : decode cX7_put 4 = .ok (.iload_n 1, 1) := by decide +kernel
theorem dX7_put_5 : decode cX7_put 5 = .ok (.aload_n 0, 1) := by decide +kernel
theorem dX7_put_6 : decode cX7_put 6 = .ok (.arraylength, 1) := by decide +kernel
theorem dX7_put_7 : decode cX7_put 7 = .ok (.if_icmp .ge 7, 3) := by decide +kernel
theorem dX7_put_10 : decode cX7_put 10 = .ok (.aload_n 0, 1) := by decide +kernel
theorem dX7_put_11 : decode cX7_put 11 = .ok (.iload_n 1, 1) := by decide +kernel
theorem dX7_put_12 : decode cX7_put 12 = .ok (.iload_n 2, 1) := by decide +kernel
theorem dX7_put_13 : decode cX7_put 13 = .ok (.iastore, 1) := by decide +kernel
theorem dX7_put_14 : decode cX7_put 14 = .ok (.return_, 1) := by decide +kernel
theorem dX7_put__0 : decode cX7_put_ 0 = .ok (.iload_n 1, 1) := by decide +kernel
theorem dX7_put__1 : decode cX7_put_ 1 = .ok (.ifCond .lt 13, 3) := by decide +kernel
theorem dX7_put__4 : decode cX7_put_ 4 = .ok (.iload_n 1, 1) := by decide +kernel
theorem dX7_put__5 : decode cX7_put_ 5 = .ok (.aload_n 0, 1) := by decide +kernel
theorem dX7_put__6 : decode cX7_put_ 6 = .ok (.arraylength, 1) := by decide +kernel
theorem dX7_put__7 : decode cX7_put_ 7 = .ok (.if_icmp .ge 7, 3) := by decide +kernel
theorem dX7_put__10 : decode cX7_put_ 10 = .ok (.aload_n 0, 1) := by decide +kernel
theorem dX7_put__11 : decode cX7_put_ 11 = .ok (.iload_n 1, 1) := by decide +kernel
theorem dX7_put__12 : decode cX7_put_ 12 = .ok (.lload_n 2, 1) := by decide +kernel
theorem dX7_put__13 : decode cX7_put_ 13 = .ok (.lastore, 1) := by decide +kernel
theorem dX7_put__14 : decode cX7_put_ 14 = .ok (.return_, 1) := by decide +kernel
theorem dX7_copyRow_0 : decode cX7_copyRow 0 = .ok (.aload_n 0, 1) := by decide +kernel
theorem dX7_copyRow_1 : decode cX7_copyRow 1 = .ok (.iconst 0, 1) := by decide +kernel
theorem dX7_copyRow_2 : decode cX7_copyRow 2 = .ok (.aload_n 1, 1) := by decide +kernel
theorem dX7_copyRow_3 : decode cX7_copyRow 3 = .ok (.iconst 0, 1) := by decide +kernel
theorem dX7_copyRow_4 : decode cX7_copyRow 4 = .ok (.aload_n 0, 1) := by decide +kernel
theorem dX7_copyRow_5 : decode cX7_copyRow 5 = .ok (.arraylength, 1) := by decide +kernel
theorem dX7_copyRow_6 : decode cX7_copyRow 6 = .ok (.aload_n 1, 1) := by decide +kernel
theorem dX7_copyRow_7 : decode cX7_copyRow 7 = .ok (.arraylength, 1) := by decide +kernel
theorem dX7_copyRow_8 : decode cX7_copyRow 8 = .ok (.invokestatic 259, 3) := by decide +kernel
theorem dX7_copyRow_11 : decode cX7_copyRow 11 = .ok (.invokestatic 264, 3) := by decide +kernel
theorem dX7_copyRow_14 : decode cX7_copyRow 14 = .ok (.return_, 1) := by decide +kernel
theorem dX7_keyShift_0 : decode cX7_keyShift 0 = .ok (.iconst 5, 1) := by decide +kernel
theorem dX7_keyShift_1 : decode cX7_keyShift 1 = .ok (.bipush 6, 2) := by decide +kernel
theorem dX7_keyShift_3 : decode cX7_keyShift 3 = .ok (.iload_n 0, 1) := by decide +kernel
theorem dX7_keyShift_4 : decode cX7_keyShift 4 = .ok (.isub, 1) := by decide +kernel
theorem dX7_keyShift_5 : decode cX7_keyShift 5 = .ok (.imul, 1) := by decide +kernel
theorem dX7_keyShift_6 : decode cX7_keyShift 6 = .ok (.ireturn, 1) := by decide +kernel
theorem dX7_placeIn_0 : decode cX7_placeIn 0 = .ok (.lload_n 0, 1) := by decide +kernel
theorem dX7_placeIn_1 : decode cX7_placeIn 1 = .ok (.iconst 5, 1) := by decide +kernel
theorem dX7_placeIn_2 : decode cX7_placeIn 2 = .ok (.bipush 6, 2) := by decide +kernel
theorem dX7_placeIn_4 : decode cX7_placeIn 4 = .ok (.iload_n 2, 1) := by decide +kernel
theorem dX7_placeIn_5 : decode cX7_placeIn 5 = .ok (.isub, 1) := by decide +kernel
theorem dX7_placeIn_6 : decode cX7_placeIn 6 = .ok (.imul, 1) := by decide +kernel
theorem dX7_placeIn_7 : decode cX7_placeIn 7 = .ok (.lushr, 1) := by decide +kernel
theorem dX7_placeIn_8 : decode cX7_placeIn 8 = .ok (.l2i, 1) := by decide +kernel
theorem dX7_placeIn_9 : decode cX7_placeIn 9 = .ok (.bipush 31, 2) := by decide +kernel
theorem dX7_placeIn_11 : decode cX7_placeIn 11 = .ok (.iand, 1) := by decide +kernel
theorem dX7_placeIn_12 : decode cX7_placeIn 12 = .ok (.ireturn, 1) := by decide +kernel
theorem dX8_init_0 : decode cX8_init 0 = .ok (.aload_n 0, 1) := by decide +kernel
theorem dX8_init_1 : decode cX8_init 1 = .ok (.invokespecial 1, 3) := by decide +kernel
theorem dX8_init_4 : decode cX8_init 4 = .ok (.aload_n 0, 1) := by decide +kernel
theorem dX8_init_5 : decode cX8_init 5 = .ok (.bipush 44, 2) := by decide +kernel
theorem dX8_init_7 : decode cX8_init 7 = .ok (.newarray .int, 2) := by decide +kernel
theorem dX8_init_9 : decode cX8_init 9 = .ok (.putfield 7, 3) := by decide +kernel
theorem dX8_init_12 : decode cX8_init 12 = .ok (.aload_n 0, 1) := by decide +kernel
theorem dX8_init_13 : decode cX8_init 13 = .ok (.sipush 440, 3) := by decide +kernel
theorem dX8_init_16 : decode cX8_init 16 = .ok (.newarray .int, 2) := by decide +kernel
theorem dX8_init_18 : decode cX8_init 18 = .ok (.putfield 13, 3) := by decide +kernel
theorem dX8_init_21 : decode cX8_init 21 = .ok (.aload_n 0, 1) := by decide +kernel
theorem dX8_init_22 : decode cX8_init 22 = .ok (.bipush 40, 2) := by decide +kernel
theorem dX8_init_24 : decode cX8_init 24 = .ok (.newarray .int, 2) := by decide +kernel
theorem dX8_init_26 : decode cX8_init 26 = .ok (.putfield 16, 3) := by decide +kernel
theorem dX8_init_29 : decode cX8_init 29 = .ok (.aload_n 0, 1) := by decide +kernel
theorem dX8_init_30 : decode cX8_init 30 = .ok (.bipush 7, 2) := by decide +kernel
theorem dX8_init_32 : decode cX8_init 32 = .ok (.newarray .int, 2) := by decide +kernel
theorem dX8_init_34 : decode cX8_init 34 = .ok (.putfield 19, 3) := by decide +kernel
theorem dX8_init_37 : decode cX8_init 37 = .ok (.aload_n 0, 1) := by decide +kernel
theorem dX8_init_38 : decode cX8_init 38 = .ok (.bipush 7, 2) := by decide +kernel
theorem dX8_init_40 : decode cX8_init 40 = .ok (.newarray .int, 2) := by decide +kernel
theorem dX8_init_42 : decode cX8_init 42 = .ok (.putfield 22, 3) := by decide +kernel
theorem dX8_init_45 : decode cX8_init 45 = .ok (.aload_n 0, 1) := by decide +kernel
theorem dX8_init_46 : decode cX8_init 46 = .ok (.bipush 7, 2) := by decide +kernel
theorem dX8_init_48 : decode cX8_init 48 = .ok (.newarray .int, 2) := by decide +kernel
theorem dX8_init_50 : decode cX8_init 50 = .ok (.putfield 25, 3) := by decide +kernel
theorem dX8_init_53 : decode cX8_init 53 = .ok (.aload_n 0, 1) := by decide +kernel
theorem dX8_init_54 : decode cX8_init 54 = .ok (.bipush (-9), 2) := by decide +kernel
theorem dX8_init_56 : decode cX8_init 56 = .ok (.putfield 28, 3) := by decide +kernel
theorem dX8_init_59 : decode cX8_init 59 = .ok (.aload_n 0, 1) := by decide +kernel
theorem dX8_init_60 : decode cX8_init 60 = .ok (.bipush 24, 2) := by decide +kernel
theorem dX8_init_62 : decode cX8_init 62 = .ok (.newarray .int, 2) := by decide +kernel
theorem dX8_init_64 : decode cX8_init 64 = .ok (.putfield 32, 3) := by decide +kernel
theorem dX8_init_67 : decode cX8_init 67 = .ok (.aload_n 0, 1) := by decide +kernel
theorem dX8_init_68 : decode cX8_init 68 = .ok (.bipush 24, 2) := by decide +kernel
theorem dX8_init_70 : decode cX8_init 70 = .ok (.newarray .int, 2) := by decide +kernel
theorem dX8_init_72 : decode cX8_init 72 = .ok (.putfield 35, 3) := by decide +kernel
theorem dX8_init_75 : decode cX8_init 75 = .ok (.aload_n 0, 1) := by decide +kernel
theorem dX8_init_76 : decode cX8_init 76 = .ok (.sipush 2000, 3) := by decide +kernel
theorem dX8_init_79 : decode cX8_init 79 = .ok (.newarray .long, 2) := by decide +kernel
theorem dX8_init_81 : decode cX8_init 81 = .ok (.putfield 38, 3) := by decide +kernel
theorem dX8_init_84 : decode cX8_init 84 = .ok (.aload_n 0, 1) := by decide +kernel
theorem dX8_init_85 : decode cX8_init 85 = .ok (.sipush 8192, 3) := by decide +kernel
theorem dX8_init_88 : decode cX8_init 88 = .ok (.newarray .int, 2) := by decide +kernel
theorem dX8_init_90 : decode cX8_init 90 = .ok (.putfield 42, 3) := by decide +kernel
theorem dX8_init_93 : decode cX8_init 93 = .ok (.aload_n 0, 1) := by decide +kernel
theorem dX8_init_94 : decode cX8_init 94 = .ok (.sipush 2000, 3) := by decide +kernel
theorem dX8_init_97 : decode cX8_init 97 = .ok (.newarray .int, 2) := by decide +kernel
theorem dX8_init_99 : decode cX8_init 99 = .ok (.putfield 45, 3) := by decide +kernel
theorem dX8_init_102 : decode cX8_init 102 = .ok (.aload_n 0, 1) := by decide +kernel
theorem dX8_init_103 : decode cX8_init 103 = .ok (.sipush 2000, 3) := by decide +kernel
theorem dX8_init_106 : decode cX8_init 106 = .ok (.newarray .int, 2) := by decide +kernel
theorem dX8_init_108 : decode cX8_init 108 = .ok (.putfield 48, 3) := by decide +kernel
theorem dX8_init_111 : decode cX8_init 111 = .ok (.aload_n 0, 1) := by decide +kernel
theorem dX8_init_112 : decode cX8_init 112 = .ok (.getfield 7, 3) := by decide +kernel
theorem dX8_init_115 : decode cX8_init 115 = .ok (.iconst 0, 1) := by decide +kernel
theorem dX8_init_116 : decode cX8_init 116 = .ok (.iconst 1, 1) := by decide +kernel
theorem dX8_init_117 : decode cX8_init 117 = .ok (.iastore, 1) := by decide +kernel
theorem dX8_init_118 : decode cX8_init 118 = .ok (.aload_n 0, 1) := by decide +kernel
theorem dX8_init_119 : decode cX8_init 119 = .ok (.getfield 7, 3) := by decide +kernel
theorem dX8_init_122 : decode cX8_init 122 = .ok (.iconst 1, 1) := by decide +kernel
theorem dX8_init_123 : decode cX8_init 123 = .ok (.iconst 1, 1) := by decide +kernel
theorem dX8_init_124 : decode cX8_init 124 = .ok (.iastore, 1) := by decide +kernel
theorem dX8_init_125 : decode cX8_init 125 = .ok (.aload_n 0, 1) := by decide +kernel
theorem dX8_init_126 : decode cX8_init 126 = .ok (.getfield 7, 3) := by decide +kernel
theorem dX8_init_129 : decode cX8_init 129 = .ok (.bipush 6, 2) := by decide +kernel
theorem dX8_init_131 : decode cX8_init 131 = .ok (.bipush (-9), 2) := by decide +kernel
theorem dX8_init_133 : decode cX8_init 133 = .ok (.iastore, 1) := by decide +kernel
theorem dX8_init_134 : decode cX8_init 134 = .ok (.aload_n 0, 1) := by decide +kernel
theorem dX8_init_135 : decode cX8_init 135 = .ok (.getfield 7, 3) := by decide +kernel
theorem dX8_init_138 : decode cX8_init 138 = .ok (.bipush 7, 2) := by decide +kernel
theorem dX8_init_140 : decode cX8_init 140 = .ok (.bipush (-9), 2) := by decide +kernel
theorem dX8_init_142 : decode cX8_init 142 = .ok (.iastore, 1) := by decide +kernel
theorem dX8_init_143 : decode cX8_init 143 = .ok (.aload_n 0, 1) := by decide +kernel
theorem dX8_init_144 : decode cX8_init 144 = .ok (.getfield 7, 3) := by decide +kernel
theorem dX8_init_147 : decode cX8_init 147 = .ok (.bipush 8, 2) := by decide +kernel
theorem dX8_init_149 : decode cX8_init 149 = .ok (.bipush (-9), 2) := by decide +kernel
theorem dX8_init_151 : decode cX8_init 151 = .ok (.iastore, 1) := by decide +kernel
theorem dX8_init_152 : decode cX8_init 152 = .ok (.return_, 1) := by decide +kernel
theorem dX8_in_0 : decode cX8_in 0 = .ok (.iload_n 0, 1) := by decide +kernel
theorem dX8_in_1 : decode cX8_in 1 = .ok (.iload_n 1, 1) := by decide +kernel
theorem dX8_in_2 : decode cX8_in 2 = .ok (.if_icmp .lt 12, 3) := by decide +kernel
theorem dX8_in_5 : decode cX8_in 5 = .ok (.iload_n 0, 1) := by decide +kernel
theorem dX8_in_6 : decode cX8_in 6 = .ok (.iload_n 2, 1) := by decide +kernel
theorem dX8_in_7 : decode cX8_in 7 = .ok (.if_icmp .gt 7, 3) := by decide +kernel
theorem dX8_in_10 : decode cX8_in 10 = .ok (.iconst 1, 1) := by decide +kernel
theorem dX8_in_11 : decode cX8_in 11 = .ok (.goto 4, 3) := by decide +kernel
theorem dX8_in_14 : decode cX8_in 14 = .ok (.iconst 0, 1) := by decide +kernel
theorem dX8_in_15 : decode cX8_in 15 = .ok (.ireturn, 1) := by decide +kernel
theorem dX8_act_0 : decode cX8_act 0 = .ok (.aload_n 0, 1) := by decide +kernel
theorem dX8_act_1 : decode cX8_act 1 = .ok (.getfield 51, 3) := by decide +kernel
theorem dX8_act_4 : decode cX8_act 4 = .ok (.bipush 10, 2) := by decide +kernel
theorem dX8_act_6 : decode cX8_act 6 = .ok (.if_icmp .ne 43, 3) := by decide +kernel
theorem dX8_act_9 : decode cX8_act 9 = .ok (.iconst 0, 1) := by decide +kernel
theorem dX8_act_10 : decode cX8_act 10 = .ok (.istore_n 1, 1) := by decide +kernel
theorem dX8_act_11 : decode cX8_act 11 = .ok (.iload_n 1, 1) := by decide +kernel
theorem dX8_act_12 : decode cX8_act 12 = .ok (.sipush 396, 3) := by decide +kernel
theorem dX8_act_15 : decode cX8_act 15 = .ok (.if_icmp .ge 24, 3) := by decide +kernel
theorem dX8_act_18 : decode cX8_act 18 = .ok (.aload_n 0, 1) := by decide +kernel
theorem dX8_act_19 : decode cX8_act 19 = .ok (.getfield 13, 3) := by decide +kernel
theorem dX8_act_22 : decode cX8_act 22 = .ok (.iload_n 1, 1) := by decide +kernel
theorem dX8_act_23 : decode cX8_act 23 = .ok (.aload_n 0, 1) := by decide +kernel
theorem dX8_act_24 : decode cX8_act 24 = .ok (.getfield 13, 3) := by decide +kernel
theorem dX8_act_27 : decode cX8_act 27 = .ok (.iload_n 1, 1) := by decide +kernel
theorem dX8_act_28 : decode cX8_act 28 = .ok (.bipush 44, 2) := by decide +kernel
theorem dX8_act_30 : decode cX8_act 30 = .ok (.iadd, 1) := by decide +kernel
theorem dX8_act_31 : decode cX8_act 31 = .ok (.iaload, 1) := by decide +kernel
theorem dX8_act_32 : decode cX8_act 32 = .ok (.iastore, 1) := by decide +kernel
theorem dX8_act_33 : decode cX8_act 33 = .ok (.iinc 1 1, 3) := by decide +kernel
theorem dX8_act_36 : decode cX8_act 36 = .ok (.goto (-25), 3) := by decide +kernel
theorem dX8_act_39 : decode cX8_act 39 = .ok (.aload_n 0, 1) := by decide +kernel
theorem dX8_act_40 : decode cX8_act 40 = .ok (.dup, 1) := by decide +kernel
theorem dX8_act_41 : decode cX8_act 41 = .ok (.getfield 51, 3) := by decide +kernel
theorem dX8_act_44 : decode cX8_act 44 = .ok (.iconst 1, 1) := by decide +kernel
theorem dX8_act_45 : decode cX8_act 45 = .ok (.isub, 1) := by decide +kernel
theorem dX8_act_46 : decode cX8_act 46 = .ok (.putfield 51, 3) := by decide +kernel
theorem dX8_act_49 : decode cX8_act 49 = .ok (.iconst 0, 1) := by decide +kernel
theorem dX8_act_50 : decode cX8_act 50 = .ok (.istore_n 1, 1) := by decide +kernel
theorem dX8_act_51 : decode cX8_act 51 = .ok (.iload_n 1, 1) := by decide +kernel
theorem dX8_act_52 : decode cX8_act 52 = .ok (.bipush 44, 2) := by decide +kernel
theorem dX8_act_54 : decode cX8_act 54 = .ok (.if_icmp .ge 29, 3) := by decide +kernel
theorem dX8_act_57 : decode cX8_act 57 = .ok (.aload_n 0, 1) := by decide +kernel
theorem dX8_act_58 : decode cX8_act 58 = .ok (.getfield 13, 3) := by decide +kernel
theorem dX8_act_61 : decode cX8_act 61 = .ok (.bipush 44, 2) := by decide +kernel
theorem dX8_act_63 : decode cX8_act 63 = .ok (.aload_n 0, 1) := by decide +kernel
theorem dX8_act_64 : decode cX8_act 64 = .ok (.getfield 51, 3) := by decide +kernel
theorem dX8_act_67 : decode cX8_act 67 = .ok (.imul, 1) := by decide +kernel
theorem dX8_act_68 : decode cX8_act 68 = .ok (.iload_n 1, 1) := by decide +kernel
theorem dX8_act_69 : decode cX8_act 69 = .ok (.iadd, 1) := by decide +kernel
theorem dX8_act_70 : decode cX8_act 70 = .ok (.aload_n 0, 1) := by decide +kernel
theorem dX8_act_71 : decode cX8_act 71 = .ok (.getfield 7, 3) := by decide +kernel
theorem dX8_act_74 : decode cX8_act 74 = .ok (.iload_n 1, 1) := by decide +kernel
theorem dX8_act_75 : decode cX8_act 75 = .ok (.iaload, 1) := by decide +kernel
theorem dX8_act_76 : decode cX8_act 76 = .ok (.iastore, 1) := by decide +kernel
theorem dX8_act_77 : decode cX8_act 77 = .ok (.iinc 1 1, 3) := by decide +kernel
theorem dX8_act_80 : decode cX8_act 80 = .ok (.goto (-29), 3) := by decide +kernel
theorem dX8_act_83 : decode cX8_act 83 = .ok (.aload_n 0, 1) := by decide +kernel
theorem dX8_act_84 : decode cX8_act 84 = .ok (.dup, 1) := by decide +kernel
theorem dX8_act_85 : decode cX8_act 85 = .ok (.getfield 51, 3) := by decide +kernel
theorem dX8_act_88 : decode cX8_act 88 = .ok (.iconst 1, 1) := by decide +kernel
theorem dX8_act_89 : decode cX8_act 89 = .ok (.iadd, 1) := by decide +kernel
theorem dX8_act_90 : decode cX8_act 90 = .ok (.putfield 51, 3) := by decide +kernel
theorem dX8_act_93 : decode cX8_act 93 = .ok (.return_, 1) := by decide +kernel
theorem dX8_cells_0 : decode cX8_cells 0 = .ok (.aload_n 0, 1) := by decide +kernel
theorem dX8_cells_1 : decode cX8_cells 1 = .ok (.getfield 7, 3) := by decide +kernel
theorem dX8_cells_4 : decode cX8_cells 4 = .ok (.iconst 0, 1) := by decide +kernel
theorem dX8_cells_5 : decode cX8_cells 5 = .ok (.iaload, 1) := by decide +kernel
theorem dX8_cells_6 : decode cX8_cells 6 = .ok (.aload_n 0, 1) := by decide +kernel
theorem dX8_cells_7 : decode cX8_cells 7 = .ok (.getfield 7, 3) := by decide +kernel
theorem dX8_cells_10 : decode cX8_cells 10 = .ok (.iconst 1, 1) := by decide +kernel
theorem dX8_cells_11 : decode cX8_cells 11 = .ok (.iaload, 1) := by decide +kernel
theorem dX8_cells_12 : decode cX8_cells 12 = .ok (.imul, 1) := by decide +kernel
theorem dX8_cells_13 : decode cX8_cells 13 = .ok (.ireturn, 1) := by decide +kernel
theorem dX8_isBlock_0 : decode cX8_isBlock 0 = .ok (.iload_n 1, 1) := by decide +kernel
theorem dX8_isBlock_1 : decode cX8_isBlock 1 = .ok (.iconst 0, 1) := by decide +kernel
theorem dX8_isBlock_2 : decode cX8_isBlock 2 = .ok (.aload_n 0, 1) := by decide +kernel
theorem dX8_isBlock_3 : decode cX8_isBlock 3 = .ok (.getfield 7, 3) := by decide +kernel
theorem dX8_isBlock_6 : decode cX8_isBlock 6 = .ok (.iconst 2, 1) := by decide +kernel
theorem dX8_isBlock_7 : decode cX8_isBlock 7 = .ok (.iaload, 1) := by decide +kernel
theorem dX8_isBlock_8 : decode cX8_isBlock 8 = .ok (.iconst 1, 1) := by decide +kernel
theorem dX8_isBlock_9 : decode cX8_isBlock 9 = .ok (.isub, 1) := by decide +kernel
theorem dX8_isBlock_10 : decode cX8_isBlock 10 = .ok (.invokestatic 54, 3) := by decide +kernel
theorem dX8_isBlock_13 : decode cX8_isBlock 13 = .ok (.ireturn, 1) := by decide +kernel
theorem dX8_type_0 : decode cX8_type 0 = .ok (.iload_n 1, 1) := by decide +kernel
theorem dX8_type_1 : decode cX8_type 1 = .ok (.bipush 32, 2) := by decide +kernel
theorem dX8_type_3 : decode cX8_type 3 = .ok (.bipush 126, 2) := by decide +kernel
theorem dX8_type_5 : decode cX8_type 5 = .ok (.invokestatic 54, 3) := by decide +kernel
theorem dX8_type_8 : decode cX8_type 8 = .ok (.ifCond .ne 5, 3) := by decide +kernel
theorem dX8_type_11 : decode cX8_type 11 = .ok (.iconst (-1), 1) := by decide +kernel
theorem dX8_type_12 : decode cX8_type 12 = .ok (.ireturn, 1) := by decide +kernel
theorem dX8_type_13 : decode cX8_type 13 = .ok (.aload_n 0, 1) := by decide +kernel
theorem dX8_type_14 : decode cX8_type 14 = .ok (.getfield 58, 3) := by decide +kernel
theorem dX8_type_17 : decode cX8_type 17 = .ok (.bipush 40, 2) := by decide +kernel
theorem dX8_type_19 : decode cX8_type 19 = .ok (.if_icmp .ne 6, 3) := by decide +kernel
theorem dX8_type_22 : decode cX8_type 22 = .ok (.bipush (-3), 2) := by decide +kernel
theorem dX8_type_24 : decode cX8_type 24 = .ok (.ireturn, 1) := by decide +kernel
theorem dX8_type_25 : decode cX8_type 25 = .ok (.aload_n 0, 1) := by decide +kernel
theorem dX8_type_26 : decode cX8_type 26 = .ok (.getfield 16, 3) := by decide +kernel
theorem dX8_type_29 : decode cX8_type 29 = .ok (.aload_n 0, 1) := by decide +kernel
theorem dX8_type_30 : decode cX8_type 30 = .ok (.getfield 58, 3) := by decide +kernel
theorem dX8_type_33 : decode cX8_type 33 = .ok (.iload_n 1, 1) := by decide +kernel
theorem dX8_type_34 : decode cX8_type 34 = .ok (.iastore, 1) := by decide +kernel
theorem dX8_type_35 : decode cX8_type 35 = .ok (.aload_n 0, 1) := by decide +kernel
theorem dX8_type_36 : decode cX8_type 36 = .ok (.dup, 1) := by decide +kernel
theorem dX8_type_37 : decode cX8_type 37 = .ok (.getfield 58, 3) := by decide +kernel
theorem dX8_type_40 : decode cX8_type 40 = .ok (.iconst 1, 1) := by decide +kernel
theorem dX8_type_41 : decode cX8_type 41 = .ok (.iadd, 1) := by decide +kernel
theorem dX8_type_42 : decode cX8_type 42 = .ok (.putfield 58, 3) := by decide +kernel
theorem dX8_type_45 : decode cX8_type 45 = .ok (.aload_n 0, 1) := by decide +kernel
theorem dX8_type_46 : decode cX8_type 46 = .ok (.getfield 58, 3) := by decide +kernel
theorem dX8_type_49 : decode cX8_type 49 = .ok (.ireturn, 1) := by decide +kernel
theorem dX8_clear_0 : decode cX8_clear 0 = .ok (.aload_n 0, 1) := by decide +kernel
theorem dX8_clear_1 : decode cX8_clear 1 = .ok (.getfield 58, 3) := by decide +kernel
theorem dX8_clear_4 : decode cX8_clear 4 = .ok (.istore_n 1, 1) := by decide +kernel
theorem dX8_clear_5 : decode cX8_clear 5 = .ok (.aload_n 0, 1) := by decide +kernel
theorem dX8_clear_6 : decode cX8_clear 6 = .ok (.iconst 0, 1) := by decide +kernel
theorem dX8_clear_7 : decode cX8_clear 7 = .ok (.putfield 58, 3) := by decide +kernel
theorem dX8_clear_10 : decode cX8_clear 10 = .ok (.iload_n 1, 1) := by decide +kernel
theorem dX8_clear_11 : decode cX8_clear 11 = .ok (.ireturn, 1) := by decide +kernel
theorem dX8_lays_0 : decode cX8_lays 0 = .ok (.aload_n 0, 1) := by decide +kernel
theorem dX8_lays_1 : decode cX8_lays 1 = .ok (.iconst 0, 1) := by decide +kernel
theorem dX8_lays_2 : decode cX8_lays 2 = .ok (.putfield 61, 3) := by decide +kernel
theorem dX8_lays_5 : decode cX8_lays 5 = .ok (.aload_n 0, 1) := by decide +kernel
theorem dX8_lays_6 : decode cX8_lays 6 = .ok (.iconst 0, 1) := by decide +kernel
theorem dX8_lays_7 : decode cX8_lays 7 = .ok (.putfield 64, 3) := by decide +kernel
theorem dX8_lays_10 : decode cX8_lays 10 = .ok (.aload_n 0, 1) := by decide +kernel
theorem dX8_lays_11 : decode cX8_lays 11 = .ok (.iconst 0, 1) := by decide +kernel
theorem dX8_lays_12 : decode cX8_lays 12 = .ok (.putfield 67, 3) := by decide +kernel
theorem dX8_lays_15 : decode cX8_lays 15 = .ok (.aload_n 0, 1) := by decide +kernel
theorem dX8_lays_16 : decode cX8_lays 16 = .ok (.iconst 0, 1) := by decide +kernel
theorem dX8_lays_17 : decode cX8_lays 17 = .ok (.putfield 70, 3) := by decide +kernel
theorem dX8_lays_20 : decode cX8_lays 20 = .ok (.iconst 0, 1) := by decide +kernel
theorem dX8_lays_21 : decode cX8_lays 21 = .ok (.istore_n 1, 1) := by decide +kernel
theorem dX8_lays_22 : decode cX8_lays 22 = .ok (.iconst 0, 1) := by decide +kernel
theorem dX8_lays_23 : decode cX8_lays 23 = .ok (.istore_n 2, 1) := by decide +kernel
theorem dX8_lays_24 : decode cX8_lays 24 = .ok (.iconst 0, 1) := by decide +kernel
theorem dX8_lays_25 : decode cX8_lays 25 = .ok (.istore_n 3, 1) := by decide +kernel
theorem dX8_lays_26 : decode cX8_lays 26 = .ok (.iload_n 3, 1) := by decide +kernel
theorem dX8_lays_27 : decode cX8_lays 27 = .ok (.aload_n 0, 1) := by decide +kernel
theorem dX8_lays_28 : decode cX8_lays 28 = .ok (.getfield 58, 3) := by decide +kernel
theorem dX8_lays_31 : decode cX8_lays 31 = .ok (.if_icmp .ge 156, 3) := by decide +kernel
theorem dX8_lays_34 : decode cX8_lays 34 = .ok (.aload_n 0, 1) := by decide +kernel
theorem dX8_lays_35 : decode cX8_lays 35 = .ok (.getfield 16, 3) := by decide +kernel
theorem dX8_lays_38 : decode cX8_lays 38 = .ok (.iload_n 3, 1) := by decide +kernel
theorem dX8_lays_39 : decode cX8_lays 39 = .ok (.iaload, 1) := by decide +kernel
theorem dX8_lays_40 : decode cX8_lays 40 = .ok (.istore 4, 2) := by decide +kernel
theorem dX8_lays_42 : decode cX8_lays 42 = .ok (.iload 4, 2) := by decide +kernel
theorem dX8_lays_44 : decode cX8_lays 44 = .ok (.bipush 47, 2) := by decide +kernel
theorem dX8_lays_46 : decode cX8_lays 46 = .ok (.if_icmp .ne 52, 3) := by decide +kernel
theorem dX8_lays_49 : decode cX8_lays 49 = .ok (.iload_n 1, 1) := by decide +kernel
theorem dX8_lays_50 : decode cX8_lays 50 = .ok (.ifCond .eq 26, 3) := by decide +kernel
theorem dX8_lays_53 : decode cX8_lays 53 = .ok (.aload_n 0, 1) := by decide +kernel
theorem dX8_lays_54 : decode cX8_lays 54 = .ok (.getfield 64, 3) := by decide +kernel
theorem dX8_lays_57 : decode cX8_lays 57 = .ok (.ifCond .le 11, 3) := by decide +kernel
theorem dX8_lays_60 : decode cX8_lays 60 = .ok (.iload_n 1, 1) := by decide +kernel
theorem dX8_lays_61 : decode cX8_lays 61 = .ok (.aload_n 0, 1) := by decide +kernel
theorem dX8_lays_62 : decode cX8_lays 62 = .ok (.getfield 61, 3) := by decide +kernel
theorem dX8_lays_65 : decode cX8_lays 65 = .ok (.if_icmp .lt 11, 3) := by decide +kernel
theorem dX8_lays_68 : decode cX8_lays 68 = .ok (.aload_n 0, 1) := by decide +kernel
theorem dX8_lays_69 : decode cX8_lays 69 = .ok (.getfield 64, 3) := by decide +kernel
theorem dX8_lays_72 : decode cX8_lays 72 = .ok (.iconst 5, 1) := by decide +kernel
theorem dX8_lays_73 : decode cX8_lays 73 = .ok (.if_icmp .ne 5, 3) := by decide +kernel
theorem dX8_lays_76 : decode cX8_lays 76 = .ok (.iload_n 3, 1) := by decide +kernel
theorem dX8_lays_77 : decode cX8_lays 77 = .ok (.ireturn, 1) := by decide +kernel
theorem dX8_lays_78 : decode cX8_lays 78 = .ok (.aload_n 0, 1) := by decide +kernel
theorem dX8_lays_79 : decode cX8_lays 79 = .ok (.iload_n 1, 1) := by decide +kernel
theorem dX8_lays_80 : decode cX8_lays 80 = .ok (.putfield 61, 3) := by decide +kernel
theorem dX8_lays_83 : decode cX8_lays 83 = .ok (.aload_n 0, 1) := by decide +kernel
theorem dX8_lays_84 : decode cX8_lays 84 = .ok (.dup, 1) := by decide +kernel
theorem dX8_lays_85 : decode cX8_lays 85 = .ok (.getfield 64, 3) := by decide +kernel
theorem dX8_lays_88 : decode cX8_lays 88 = .ok (.iconst 1, 1) := by decide +kernel
theorem dX8_lays_89 : decode cX8_lays 89 = .ok (.iadd, 1) := by decide +kernel
theorem dX8_lays_90 : decode cX8_lays 90 = .ok (.putfield 64, 3) := by decide +kernel
theorem dX8_lays_93 : decode cX8_lays 93 = .ok (.iconst 0, 1) := by decide +kernel
theorem dX8_lays_94 : decode cX8_lays 94 = .ok (.istore_n 1, 1) := by decide +kernel
theorem dX8_lays_95 : decode cX8_lays 95 = .ok (.goto 86, 3) := by decide +kernel
theorem dX8_lays_98 : decode cX8_lays 98 = .ok (.iload 4, 2) := by decide +kernel
theorem dX8_lays_100 : decode cX8_lays 100 = .ok (.bipush 46, 2) := by decide +kernel
theorem dX8_lays_102 : decode cX8_lays 102 = .ok (.if_icmp .eq 22, 3) := by decide +kernel
theorem dX8_lays_105 : decode cX8_lays 105 = .ok (.iload 4, 2) := by decide +kernel
theorem dX8_lays_107 : decode cX8_lays 107 = .ok (.bipush 35, 2) := by decide +kernel
theorem dX8_lays_109 : decode cX8_lays 109 = .ok (.if_icmp .eq 15, 3) := by decide +kernel
theorem dX8_lays_112 : decode cX8_lays 112 = .ok (.iload 4, 2) := by decide +kernel
theorem dX8_lays_114 : decode cX8_lays 114 = .ok (.bipush 97, 2) := by decide +kernel
theorem dX8_lays_116 : decode cX8_lays 116 = .ok (.bipush 122, 2) := by decide +kernel
theorem dX8_lays_118 : decode cX8_lays 118 = .ok (.invokestatic 54, 3) := by decide +kernel
theorem dX8_lays_121 : decode cX8_lays 121 = .ok (.ifCond .eq 7, 3) := by decide +kernel
theorem dX8_lays_124 : decode cX8_lays 124 = .ok (.iconst 1, 1) := by decide +kernel
theorem dX8_lays_125 : decode cX8_lays 125 = .ok (.goto 4, 3) := by decide +kernel
theorem dX8_lays_128 : decode cX8_lays 128 = .ok (.iconst 0, 1) := by decide +kernel
theorem dX8_lays_129 : decode cX8_lays 129 = .ok (.istore 5, 2) := by decide +kernel
theorem dX8_lays_131 : decode cX8_lays 131 = .ok (.iload 5, 2) := by decide +kernel
theorem dX8_lays_133 : decode cX8_lays 133 = .ok (.ifCond .eq 40, 3) := by decide +kernel
theorem dX8_lays_136 : decode cX8_lays 136 = .ok (.iload_n 1, 1) := by decide +kernel
theorem dX8_lays_137 : decode cX8_lays 137 = .ok (.aload_n 0, 1) := by decide +kernel
theorem dX8_lays_138 : decode cX8_lays 138 = .ok (.getfield 64, 3) := by decide +kernel
theorem dX8_lays_141 : decode cX8_lays 141 = .ok (.ifCond .ne 8, 3) := by decide +kernel
theorem dX8_lays_144 : decode cX8_lays 144 = .ok (.bipush 6, 2) := by decide +kernel
theorem dX8_lays_146 : decode cX8_lays 146 = .ok (.goto 7, 3) := by decide +kernel
theorem dX8_lays_149 : decode cX8_lays 149 = .ok (.aload_n 0, 1) := by decide +kernel
theorem dX8_lays_150 : decode cX8_lays 150 = .ok (.getfield 61, 3) := by decide +kernel
theorem dX8_lays_153 : decode cX8_lays 153 = .ok (.if_icmp .eq 20, 3) := by decide +kernel
theorem dX8_lays_156 : decode cX8_lays 156 = .ok (.iload_n 2, 1) := by decide +kernel
theorem dX8_lays_157 : decode cX8_lays 157 = .ok (.bipush 24, 2) := by decide +kernel
theorem dX8_lays_159 : decode cX8_lays 159 = .ok (.if_icmp .eq 14, 3) := by decide +kernel
theorem dX8_lays_162 : decode cX8_lays 162 = .ok (.aload_n 0, 1) := by decide +kernel
theorem dX8_lays_163 : decode cX8_lays 163 = .ok (.iload 4, 2) := by decide +kernel
theorem dX8_lays_165 : decode cX8_lays 165 = .ok (.iload_n 2, 1) := by decide +kernel
theorem dX8_lays_166 : decode cX8_lays 166 = .ok (.iload_n 3, 1) := by decide +kernel
theorem dX8_lays_167 : decode cX8_lays 167 = .ok (.invokevirtual 73, 3) := by decide +kernel
theorem dX8_lays_170 : decode cX8_lays 170 = .ok (.ifCond .ne 5, 3) := by decide +kernel
theorem dX8_lays_173 : decode cX8_lays 173 = .ok (.iload_n 3, 1) := by decide +kernel
theorem dX8_lays_174 : decode cX8_lays 174 = .ok (.ireturn, 1) := by decide +kernel
theorem dX8_lays_175 : decode cX8_lays 175 = .ok (.iinc 1 1, 3) := by decide +kernel
theorem dX8_lays_178 : decode cX8_lays 178 = .ok (.iinc 2 1, 3) := by decide +kernel
theorem dX8_lays_181 : decode cX8_lays 181 = .ok (.iinc 3 1, 3) := by decide +kernel
theorem dX8_lays_184 : decode cX8_lays 184 = .ok (.goto (-158), 3) := by decide +kernel
theorem dX8_lays_187 : decode cX8_lays 187 = .ok (.iload_n 1, 1) := by decide +kernel
theorem dX8_lays_188 : decode cX8_lays 188 = .ok (.ifCond .eq 18, 3) := by decide +kernel
theorem dX8_lays_191 : decode cX8_lays 191 = .ok (.aload_n 0, 1) := by decide +kernel
theorem dX8_lays_192 : decode cX8_lays 192 = .ok (.getfield 64, 3) := by decide +kernel
theorem dX8_lays_195 : decode cX8_lays 195 = .ok (.ifCond .le 16, 3) := by decide +kernel
theorem dX8_lays_198 : decode cX8_lays 198 = .ok (.iload_n 1, 1) := by decide +kernel
theorem dX8_lays_199 : decode cX8_lays 199 = .ok (.aload_n 0, 1) := by decide +kernel
theorem dX8_lays_200 : decode cX8_lays 200 = .ok (.getfield 61, 3) := by decide +kernel
theorem dX8_lays_203 : decode cX8_lays 203 = .ok (.if_icmp .ge 8, 3) := by decide +kernel
theorem dX8_lays_206 : decode cX8_lays 206 = .ok (.aload_n 0, 1) := by decide +kernel
theorem dX8_lays_207 : decode cX8_lays 207 = .ok (.getfield 58, 3) := by decide +kernel
theorem dX8_lays_210 : decode cX8_lays 210 = .ok (.ireturn, 1) := by decide +kernel
theorem dX8_lays_211 : decode cX8_lays 211 = .ok (.aload_n 0, 1) := by decide +kernel
theorem dX8_lays_212 : decode cX8_lays 212 = .ok (.iload_n 1, 1) := by decide +kernel
theorem dX8_lays_213 : decode cX8_lays 213 = .ok (.putfield 61, 3) := by decide +kernel
theorem dX8_lays_216 : decode cX8_lays 216 = .ok (.aload_n 0, 1) := by decide +kernel
theorem dX8_lays_217 : decode cX8_lays 217 = .ok (.dup, 1) := by decide +kernel
theorem dX8_lays_218 : decode cX8_lays 218 = .ok (.getfield 64, 3) := by decide +kernel
theorem dX8_lays_221 : decode cX8_lays 221 = .ok (.iconst 1, 1) := by decide +kernel
theorem dX8_lays_222 : decode cX8_lays 222 = .ok (.iadd, 1) := by decide +kernel
theorem dX8_lays_223 : decode cX8_lays 223 = .ok (.putfield 64, 3) := by decide +kernel
theorem dX8_lays_226 : decode cX8_lays 226 = .ok (.iconst (-1), 1) := by decide +kernel
theorem dX8_lays_227 : decode cX8_lays 227 = .ok (.ireturn, 1) := by decide +kernel
theorem dX8_places_0 : decode cX8_places 0 = .ok (.iload_n 1, 1) := by decide +kernel
theorem dX8_places_1 : decode cX8_places 1 = .ok (.bipush 35, 2) := by decide +kernel
theorem dX8_places_3 : decode cX8_places 3 = .ok (.if_icmp .ne 15, 3) := by decide +kernel
theorem dX8_places_6 : decode cX8_places 6 = .ok (.aload_n 0, 1) := by decide +kernel
theorem dX8_places_7 : decode cX8_places 7 = .ok (.dup, 1) := by decide +kernel
theorem dX8_places_8 : decode cX8_places 8 = .ok (.getfield 67, 3) := by decide +kernel
theorem dX8_places_11 : decode cX8_places 11 = .ok (.iconst 1, 1) := by decide +kernel
theorem dX8_places_12 : decode cX8_places 12 = .ok (.iload_n 2, 1) := by decide +kernel
theorem dX8_places_13 : decode cX8_places 13 = .ok (.ishl, 1) := by decide +kernel
theorem dX8_places_14 : decode cX8_places 14 = .ok (.ior, 1) := by decide +kernel
theorem dX8_places_15 : decode cX8_places 15 = .ok (.putfield 67, 3) := by decide +kernel
theorem dX8_places_18 : decode cX8_places 18 = .ok (.iload_n 1, 1) := by decide +kernel
theorem dX8_places_19 : decode cX8_places 19 = .ok (.bipush 35, 2) := by decide +kernel
theorem dX8_places_21 : decode cX8_places 21 = .ok (.if_icmp .eq 9, 3) := by decide +kernel
theorem dX8_places_24 : decode cX8_places 24 = .ok (.iload_n 1, 1) := by decide +kernel
theorem dX8_places_25 : decode cX8_places 25 = .ok (.bipush 46, 2) := by decide +kernel
theorem dX8_places_27 : decode cX8_places 27 = .ok (.if_icmp .ne 5, 3) := by decide +kernel
theorem dX8_places_30 : decode cX8_places 30 = .ok (.iconst 1, 1) := by decide +kernel
theorem dX8_places_31 : decode cX8_places 31 = .ok (.ireturn, 1) := by decide +kernel
theorem dX8_places_32 : decode cX8_places 32 = .ok (.iconst 0, 1) := by decide +kernel
theorem dX8_places_33 : decode cX8_places 33 = .ok (.istore 4, 2) := by decide +kernel
theorem dX8_places_35 : decode cX8_places 35 = .ok (.iload 4, 2) := by decide +kernel
theorem dX8_places_37 : decode cX8_places 37 = .ok (.aload_n 0, 1) := by decide +kernel
theorem dX8_places_38 : decode cX8_places 38 = .ok (.getfield 70, 3) := by decide +kernel
theorem dX8_places_41 : decode cX8_places 41 = .ok (.if_icmp .ge 20, 3) := by decide +kernel
theorem dX8_places_44 : decode cX8_places 44 = .ok (.aload_n 0, 1) := by decide +kernel
theorem dX8_places_45 : decode cX8_places 45 = .ok (.getfield 19, 3) := by decide +kernel
theorem dX8_places_48 : decode cX8_places 48 = .ok (.iload 4, 2) := by decide +kernel
theorem dX8_places_50 : decode cX8_places 50 = .ok (.iaload, 1) := by decide +kernel
theorem dX8_places_51 : decode cX8_places 51 = .ok (.iload_n 1, 1) := by decide +kernel
theorem dX8_places_52 : decode cX8_places 52 = .ok (.if_icmp .eq 9, 3) := by decide +kernel
theorem dX8_places_55 : decode cX8_places 55 = .ok (.iinc 4 1, 3) := by decide +kernel
theorem dX8_places_58 : decode cX8_places 58 = .ok (.goto (-23), 3) := by decide +kernel
theorem dX8_places_61 : decode cX8_places 61 = .ok (.iload 4, 2) := by decide +kernel
theorem dX8_places_63 : decode cX8_places 63 = .ok (.bipush 7, 2) := by decide +kernel
theorem dX8_places_65 : decode cX8_places 65 = .ok (.if_icmp .ne 5, 3) := by decide +kernel
theorem dX8_places_68 : decode cX8_places 68 = .ok (.iconst 0, 1) := by decide +kernel
theorem dX8_places_69 : decode cX8_places 69 = .ok (.ireturn, 1) := by decide +kernel
theorem dX8_places_70 : decode cX8_places 70 = .ok (.iload 4, 2) := by decide +kernel
theorem dX8_places_72 : decode cX8_places 72 = .ok (.aload_n 0, 1) := by decide +kernel
theorem dX8_places_73 : decode cX8_places 73 = .ok (.getfield 70, 3) := by decide +kernel
theorem dX8_places_76 : decode cX8_places 76 = .ok (.if_icmp .ne 37, 3) := by decide +kernel
theorem dX8_places_79 : decode cX8_places 79 = .ok (.aload_n 0, 1) := by decide +kernel
theorem dX8_places_80 : decode cX8_places 80 = .ok (.getfield 19, 3) := by decide +kernel
theorem dX8_places_83 : decode cX8_places 83 = .ok (.iload 4, 2) := by decide +kernel
theorem dX8_places_85 : decode cX8_places 85 = .ok (.iload_n 1, 1) := by decide +kernel
theorem dX8_places_86 : decode cX8_places 86 = .ok (.iastore, 1) := by decide +kernel
theorem dX8_places_87 : decode cX8_places 87 = .ok (.aload_n 0, 1) := by decide +kernel
theorem dX8_places_88 : decode cX8_places 88 = .ok (.getfield 22, 3) := by decide +kernel
theorem dX8_places_91 : decode cX8_places 91 = .ok (.iload 4, 2) := by decide +kernel
theorem dX8_places_93 : decode cX8_places 93 = .ok (.iconst 0, 1) := by decide +kernel
theorem dX8_places_94 : decode cX8_places 94 = .ok (.iastore, 1) := by decide +kernel
theorem dX8_places_95 : decode cX8_places 95 = .ok (.aload_n 0, 1) := by decide +kernel
theorem dX8_places_96 : decode cX8_places 96 = .ok (.getfield 25, 3) := by decide +kernel
theorem dX8_places_99 : decode cX8_places 99 = .ok (.iload 4, 2) := by decide +kernel
theorem dX8_places_101 : decode cX8_places 101 = .ok (.iload_n 3, 1) := by decide +kernel
theorem dX8_places_102 : decode cX8_places 102 = .ok (.iastore, 1) := by decide +kernel
theorem dX8_places_103 : decode cX8_places 103 = .ok (.aload_n 0, 1) := by decide +kernel
theorem dX8_places_104 : decode cX8_places 104 = .ok (.dup, 1) := by decide +kernel
theorem dX8_places_105 : decode cX8_places 105 = .ok (.getfield 70, 3) := by decide +kernel
theorem dX8_places_108 : decode cX8_places 108 = .ok (.iconst 1, 1) := by decide +kernel
theorem dX8_places_109 : decode cX8_places 109 = .ok (.iadd, 1) := by decide +kernel
theorem dX8_places_110 : decode cX8_places 110 = .ok (.putfield 70, 3) := by decide +kernel
theorem dX8_places_113 : decode cX8_places 113 = .ok (.aload_n 0, 1) := by decide +kernel
theorem dX8_places_114 : decode cX8_places 114 = .ok (.getfield 22, 3) := by decide +kernel
theorem dX8_places_117 : decode cX8_places 117 = .ok (.iload 4, 2) := by decide +kernel
theorem dX8_places_119 : decode cX8_places 119 = .ok (.dup2, 1) := by decide +kernel
theorem dX8_places_120 : decode cX8_places 120 = .ok (.iaload, 1) := by decide +kernel
theorem dX8_places_121 : decode cX8_places 121 = .ok (.iconst 1, 1) := by decide +kernel
theorem dX8_places_122 : decode cX8_places 122 = .ok (.iload_n 2, 1) := by decide +kernel
theorem dX8_places_123 : decode cX8_places 123 = .ok (.ishl, 1) := by decide +kernel
theorem dX8_places_124 : decode cX8_places 124 = .ok (.ior, 1) := by decide +kernel
theorem dX8_places_125 : decode cX8_places 125 = .ok (.iastore, 1) := by decide +kernel
theorem dX8_places_126 : decode cX8_places 126 = .ok (.iconst 1, 1) := by decide +kernel
theorem dX8_places_127 : decode cX8_places 127 = .ok (.ireturn, 1) := by decide +kernel
theorem dX8_spreads_0 : decode cX8_spreads 0 = .ok (.iload_n 0, 1) := by decide +kernel
theorem dX8_spreads_1 : decode cX8_spreads 1 = .ok (.istore_n 3, 1) := by decide +kernel
theorem dX8_spreads_2 : decode cX8_spreads 2 = .ok (.iconst 0, 1) := by decide +kernel
theorem dX8_spreads_3 : decode cX8_spreads 3 = .ok (.istore 4, 2) := by decide +kernel
theorem dX8_spreads_5 : decode cX8_spreads 5 = .ok (.iload 4, 2) := by decide +kernel
theorem dX8_spreads_7 : decode cX8_spreads 7 = .ok (.iload_n 1, 1) := by decide +kernel
theorem dX8_spreads_8 : decode cX8_spreads 8 = .ok (.iload_n 2, 1) := by decide +kernel
theorem dX8_spreads_9 : decode cX8_spreads 9 = .ok (.imul, 1) := by decide +kernel
theorem dX8_spreads_10 : decode cX8_spreads 10 = .ok (.if_icmp .ge 104, 3) := by decide +kernel
theorem dX8_spreads_13 : decode cX8_spreads 13 = .ok (.iload_n 0, 1) := by decide +kernel
theorem dX8_spreads_14 : decode cX8_spreads 14 = .ok (.iload 4, 2) := by decide +kernel
theorem dX8_spreads_16 : decode cX8_spreads 16 = .ok (.ishr, 1) := by decide +kernel
theorem dX8_spreads_17 : decode cX8_spreads 17 = .ok (.iconst 1, 1) := by decide +kernel
theorem dX8_spreads_18 : decode cX8_spreads 18 = .ok (.iand, 1) := by decide +kernel
theorem dX8_spreads_19 : decode cX8_spreads 19 = .ok (.iconst 1, 1) := by decide +kernel
theorem dX8_spreads_20 : decode cX8_spreads 20 = .ok (.if_icmp .ne 88, 3) := by decide +kernel
theorem dX8_spreads_23 : decode cX8_spreads 23 = .ok (.iload_n 3, 1) := by decide +kernel
theorem dX8_spreads_24 : decode cX8_spreads 24 = .ok (.iload 4, 2) := by decide +kernel
theorem dX8_spreads_26 : decode cX8_spreads 26 = .ok (.iload_n 1, 1) := by decide +kernel
theorem dX8_spreads_27 : decode cX8_spreads 27 = .ok (.irem, 1) := by decide +kernel
theorem dX8_spreads_28 : decode cX8_spreads 28 = .ok (.ifCond .le 12, 3) := by decide +kernel
theorem dX8_spreads_31 : decode cX8_spreads 31 = .ok (.iconst 1, 1) := by decide +kernel
theorem dX8_spreads_32 : decode cX8_spreads 32 = .ok (.iload 4, 2) := by decide +kernel
theorem dX8_spreads_34 : decode cX8_spreads 34 = .ok (.iconst 1, 1) := by decide +kernel
theorem dX8_spreads_35 : decode cX8_spreads 35 = .ok (.isub, 1) := by decide +kernel
theorem dX8_spreads_36 : decode cX8_spreads 36 = .ok (.ishl, 1) := by decide +kernel
theorem dX8_spreads_37 : decode cX8_spreads 37 = .ok (.goto 4, 3) := by decide +kernel
theorem dX8_spreads_40 : decode cX8_spreads 40 = .ok (.iconst 0, 1) := by decide +kernel
theorem dX8_spreads_41 : decode cX8_spreads 41 = .ok (.ior, 1) := by decide +kernel
theorem dX8_spreads_42 : decode cX8_spreads 42 = .ok (.istore_n 3, 1) := by decide +kernel
theorem dX8_spreads_43 : decode cX8_spreads 43 = .ok (.iload_n 3, 1) := by decide +kernel
theorem dX8_spreads_44 : decode cX8_spreads 44 = .ok (.iload 4, 2) := by decide +kernel
theorem dX8_spreads_46 : decode cX8_spreads 46 = .ok (.iload_n 1, 1) := by decide +kernel
theorem dX8_spreads_47 : decode cX8_spreads 47 = .ok (.irem, 1) := by decide +kernel
theorem dX8_spreads_48 : decode cX8_spreads 48 = .ok (.iload_n 1, 1) := by decide +kernel
theorem dX8_spreads_49 : decode cX8_spreads 49 = .ok (.iconst 1, 1) := by decide +kernel
theorem dX8_spreads_50 : decode cX8_spreads 50 = .ok (.isub, 1) := by decide +kernel
theorem dX8_spreads_51 : decode cX8_spreads 51 = .ok (.if_icmp .ge 12, 3) := by decide +kernel
theorem dX8_spreads_54 : decode cX8_spreads 54 = .ok (.iconst 1, 1) := by decide +kernel
theorem dX8_spreads_55 : decode cX8_spreads 55 = .ok (.iload 4, 2) := by decide +kernel
theorem dX8_spreads_57 : decode cX8_spreads 57 = .ok (.iconst 1, 1) := by decide +kernel
theorem dX8_spreads_58 : decode cX8_spreads 58 = .ok (.iadd, 1) := by decide +kernel
theorem dX8_spreads_59 : decode cX8_spreads 59 = .ok (.ishl, 1) := by decide +kernel
theorem dX8_spreads_60 : decode cX8_spreads 60 = .ok (.goto 4, 3) := by decide +kernel
theorem dX8_spreads_63 : decode cX8_spreads 63 = .ok (.iconst 0, 1) := by decide +kernel
theorem dX8_spreads_64 : decode cX8_spreads 64 = .ok (.ior, 1) := by decide +kernel
theorem dX8_spreads_65 : decode cX8_spreads 65 = .ok (.istore_n 3, 1) := by decide +kernel
theorem dX8_spreads_66 : decode cX8_spreads 66 = .ok (.iload_n 3, 1) := by decide +kernel
theorem dX8_spreads_67 : decode cX8_spreads 67 = .ok (.iload 4, 2) := by decide +kernel
theorem dX8_spreads_69 : decode cX8_spreads 69 = .ok (.iload_n 1, 1) := by decide +kernel
theorem dX8_spreads_70 : decode cX8_spreads 70 = .ok (.if_icmp .lt 12, 3) := by decide +kernel
theorem dX8_spreads_73 : decode cX8_spreads 73 = .ok (.iconst 1, 1) := by decide +kernel
theorem dX8_spreads_74 : decode cX8_spreads 74 = .ok (.iload 4, 2) := by decide +kernel
theorem dX8_spreads_76 : decode cX8_spreads 76 = .ok (.iload_n 1, 1) := by decide +kernel
theorem dX8_spreads_77 : decode cX8_spreads 77 = .ok (.isub, 1) := by decide +kernel
theorem dX8_spreads_78 : decode cX8_spreads 78 = .ok (.ishl, 1) := by decide +kernel
theorem dX8_spreads_79 : decode cX8_spreads 79 = .ok (.goto 4, 3) := by decide +kernel
theorem dX8_spreads_82 : decode cX8_spreads 82 = .ok (.iconst 0, 1) := by decide +kernel
theorem dX8_spreads_83 : decode cX8_spreads 83 = .ok (.ior, 1) := by decide +kernel
theorem dX8_spreads_84 : decode cX8_spreads 84 = .ok (.istore_n 3, 1) := by decide +kernel
theorem dX8_spreads_85 : decode cX8_spreads 85 = .ok (.iload_n 3, 1) := by decide +kernel
theorem dX8_spreads_86 : decode cX8_spreads 86 = .ok (.iload 4, 2) := by decide +kernel
theorem dX8_spreads_88 : decode cX8_spreads 88 = .ok (.iload_n 1, 1) := by decide +kernel
theorem dX8_spreads_89 : decode cX8_spreads 89 = .ok (.iadd, 1) := by decide +kernel
theorem dX8_spreads_90 : decode cX8_spreads 90 = .ok (.iload_n 1, 1) := by decide +kernel
theorem dX8_spreads_91 : decode cX8_spreads 91 = .ok (.iload_n 2, 1) := by decide +kernel
theorem dX8_spreads_92 : decode cX8_spreads 92 = .ok (.imul, 1) := by decide +kernel
theorem dX8_spreads_93 : decode cX8_spreads 93 = .ok (.if_icmp .ge 12, 3) := by decide +kernel
theorem dX8_spreads_96 : decode cX8_spreads 96 = .ok (.iconst 1, 1) := by decide +kernel
theorem dX8_spreads_97 : decode cX8_spreads 97 = .ok (.iload 4, 2) := by decide +kernel
theorem dX8_spreads_99 : decode cX8_spreads 99 = .ok (.iload_n 1, 1) := by decide +kernel
theorem dX8_spreads_100 : decode cX8_spreads 100 = .ok (.iadd, 1) := by decide +kernel
theorem dX8_spreads_101 : decode cX8_spreads 101 = .ok (.ishl, 1) := by decide +kernel
theorem dX8_spreads_102 : decode cX8_spreads 102 = .ok (.goto 4, 3) := by decide +kernel
theorem dX8_spreads_105 : decode cX8_spreads 105 = .ok (.iconst 0, 1) := by decide +kernel
theorem dX8_spreads_106 : decode cX8_spreads 106 = .ok (.ior, 1) := by decide +kernel
theorem dX8_spreads_107 : decode cX8_spreads 107 = .ok (.istore_n 3, 1) := by decide +kernel
theorem dX8_spreads_108 : decode cX8_spreads 108 = .ok (.iinc 4 1, 3) := by decide +kernel
theorem dX8_spreads_111 : decode cX8_spreads 111 = .ok (.goto (-106), 3) := by decide +kernel
theorem dX8_spreads_114 : decode cX8_spreads 114 = .ok (.iload_n 3, 1) := by decide +kernel
theorem dX8_spreads_115 : decode cX8_spreads 115 = .ok (.ireturn, 1) := by decide +kernel
theorem dX8_isOne_0 : decode cX8_isOne 0 = .ok (.iload_n 1, 1) := by decide +kernel
theorem dX8_isOne_1 : decode cX8_isOne 1 = .ok (.iload_n 1, 1) := by decide +kernel
theorem dX8_isOne_2 : decode cX8_isOne 2 = .ok (.ineg, 1) := by decide +kernel
theorem dX8_isOne_3 : decode cX8_isOne 3 = .ok (.iand, 1) := by decide +kernel
theorem dX8_isOne_4 : decode cX8_isOne 4 = .ok (.istore_n 2, 1) := by decide +kernel
theorem dX8_isOne_5 : decode cX8_isOne 5 = .ok (.iconst 0, 1) := by decide +kernel
theorem dX8_isOne_6 : decode cX8_isOne 6 = .ok (.istore_n 3, 1) := by decide +kernel
theorem dX8_isOne_7 : decode cX8_isOne 7 = .ok (.iload_n 3, 1) := by decide +kernel
theorem dX8_isOne_8 : decode cX8_isOne 8 = .ok (.bipush 24, 2) := by decide +kernel
theorem dX8_isOne_10 : decode cX8_isOne 10 = .ok (.if_icmp .ge 24, 3) := by decide +kernel
theorem dX8_isOne_13 : decode cX8_isOne 13 = .ok (.iload_n 2, 1) := by decide +kernel
theorem dX8_isOne_14 : decode cX8_isOne 14 = .ok (.aload_n 0, 1) := by decide +kernel
theorem dX8_isOne_15 : decode cX8_isOne 15 = .ok (.getfield 61, 3) := by decide +kernel
theorem dX8_isOne_18 : decode cX8_isOne 18 = .ok (.aload_n 0, 1) := by decide +kernel
theorem dX8_isOne_19 : decode cX8_isOne 19 = .ok (.getfield 64, 3) := by decide +kernel
theorem dX8_isOne_22 : decode cX8_isOne 22 = .ok (.invokestatic 76, 3) := by decide +kernel
theorem dX8_isOne_25 : decode cX8_isOne 25 = .ok (.iload_n 1, 1) := by decide +kernel
theorem dX8_isOne_26 : decode cX8_isOne 26 = .ok (.iand, 1) := by decide +kernel
theorem dX8_isOne_27 : decode cX8_isOne 27 = .ok (.istore_n 2, 1) := by decide +kernel
theorem dX8_isOne_28 : decode cX8_isOne 28 = .ok (.iinc 3 1, 3) := by decide +kernel
theorem dX8_isOne_31 : decode cX8_isOne 31 = .ok (.goto (-24), 3) := by decide +kernel
theorem dX8_isOne_34 : decode cX8_isOne 34 = .ok (.iload_n 2, 1) := by decide +kernel
theorem dX8_isOne_35 : decode cX8_isOne 35 = .ok (.iload_n 1, 1) := by decide +kernel
theorem dX8_isOne_36 : decode cX8_isOne 36 = .ok (.if_icmp .ne 7, 3) := by decide +kernel
theorem dX8_isOne_39 : decode cX8_isOne 39 = .ok (.iconst 1, 1) := by decide +kernel
theorem dX8_isOne_40 : decode cX8_isOne 40 = .ok (.goto 4, 3) := by decide +kernel
theorem dX8_isOne_43 : decode cX8_isOne 43 = .ok (.iconst 0, 1) := by decide +kernel
theorem dX8_isOne_44 : decode cX8_isOne 44 = .ok (.ireturn, 1) := by decide +kernel
theorem dX8_wrongAt_0 : decode cX8_wrongAt 0 = .ok (.aload_n 0, 1) := by decide +kernel
theorem dX8_wrongAt_1 : decode cX8_wrongAt 1 = .ok (.invokevirtual 80, 3) := by decide +kernel
theorem dX8_wrongAt_4 : decode cX8_wrongAt 4 = .ok (.istore_n 1, 1) := by decide +kernel
theorem dX8_wrongAt_5 : decode cX8_wrongAt 5 = .ok (.iconst 0, 1) := by decide +kernel
theorem dX8_wrongAt_6 : decode cX8_wrongAt 6 = .ok (.istore_n 2, 1) := by decide +kernel
theorem dX8_wrongAt_7 : decode cX8_wrongAt 7 = .ok (.iload_n 2, 1) := by decide +kernel
theorem dX8_wrongAt_8 : decode cX8_wrongAt 8 = .ok (.aload_n 0, 1) := by decide +kernel
theorem dX8_wrongAt_9 : decode cX8_wrongAt 9 = .ok (.getfield 70, 3) := by decide +kernel
theorem dX8_wrongAt_12 : decode cX8_wrongAt 12 = .ok (.if_icmp .ge 37, 3) := by decide +kernel
theorem dX8_wrongAt_15 : decode cX8_wrongAt 15 = .ok (.iload_n 1, 1) := by decide +kernel
theorem dX8_wrongAt_16 : decode cX8_wrongAt 16 = .ok (.ifCond .ge 33, 3) := by decide +kernel
theorem dX8_wrongAt_19 : decode cX8_wrongAt 19 = .ok (.aload_n 0, 1) := by decide +kernel
theorem dX8_wrongAt_20 : decode cX8_wrongAt 20 = .ok (.aload_n 0, 1) := by decide +kernel
theorem dX8_wrongAt_21 : decode cX8_wrongAt 21 = .ok (.getfield 22, 3) := by decide +kernel
theorem dX8_wrongAt_24 : decode cX8_wrongAt 24 = .ok (.iload_n 2, 1) := by decide +kernel
theorem dX8_wrongAt_25 : decode cX8_wrongAt 25 = .ok (.iaload, 1) := by decide +kernel
theorem dX8_wrongAt_26 : decode cX8_wrongAt 26 = .ok (.invokevirtual 84, 3) := by decide +kernel
theorem dX8_wrongAt_29 : decode cX8_wrongAt 29 = .ok (.ifCond .eq 7, 3) := by decide +kernel
theorem dX8_wrongAt_32 : decode cX8_wrongAt 32 = .ok (.iload_n 1, 1) := by decide +kernel
theorem dX8_wrongAt_33 : decode cX8_wrongAt 33 = .ok (.goto 9, 3) := by decide +kernel
theorem dX8_wrongAt_36 : decode cX8_wrongAt 36 = .ok (.aload_n 0, 1) := by decide +kernel
theorem dX8_wrongAt_37 : decode cX8_wrongAt 37 = .ok (.getfield 25, 3) := by decide +kernel
theorem dX8_wrongAt_40 : decode cX8_wrongAt 40 = .ok (.iload_n 2, 1) := by decide +kernel
theorem dX8_wrongAt_41 : decode cX8_wrongAt 41 = .ok (.iaload, 1) := by decide +kernel
theorem dX8_wrongAt_42 : decode cX8_wrongAt 42 = .ok (.istore_n 1, 1) := by decide +kernel
theorem dX8_wrongAt_43 : decode cX8_wrongAt 43 = .ok (.iinc 2 1, 3) := by decide +kernel
theorem dX8_wrongAt_46 : decode cX8_wrongAt 46 = .ok (.goto (-39), 3) := by decide +kernel
theorem dX8_wrongAt_49 : decode cX8_wrongAt 49 = .ok (.iload_n 1, 1) := by decide +kernel
theorem dX8_wrongAt_50 : decode cX8_wrongAt 50 = .ok (.ireturn, 1) := by decide +kernel
theorem dX8_read_0 : decode cX8_read 0 = .ok (.aload_n 0, 1) := by decide +kernel
theorem dX8_read_1 : decode cX8_read 1 = .ok (.invokevirtual 88, 3) := by decide +kernel
theorem dX8_read_4 : decode cX8_read 4 = .ok (.istore_n 1, 1) := by decide +kernel
theorem dX8_read_5 : decode cX8_read 5 = .ok (.iload_n 1, 1) := by decide +kernel
theorem dX8_read_6 : decode cX8_read 6 = .ok (.ifCond .lt 8, 3) := by decide +kernel
theorem dX8_read_9 : decode cX8_read 9 = .ok (.bipush (-100), 2) := by decide +kernel
theorem dX8_read_11 : decode cX8_read 11 = .ok (.iload_n 1, 1) := by decide +kernel
theorem dX8_read_12 : decode cX8_read 12 = .ok (.isub, 1) := by decide +kernel
theorem dX8_read_13 : decode cX8_read 13 = .ok (.ireturn, 1) := by decide +kernel
theorem dX8_read_14 : decode cX8_read 14 = .ok (.aload_n 0, 1) := by decide +kernel
theorem dX8_read_15 : decode cX8_read 15 = .ok (.invokevirtual 91, 3) := by decide +kernel
theorem dX8_read_18 : decode cX8_read 18 = .ok (.aload_n 0, 1) := by decide +kernel
theorem dX8_read_19 : decode cX8_read 19 = .ok (.getfield 7, 3) := by decide +kernel
theorem dX8_read_22 : decode cX8_read 22 = .ok (.iconst 0, 1) := by decide +kernel
theorem dX8_read_23 : decode cX8_read 23 = .ok (.aload_n 0, 1) := by decide +kernel
theorem dX8_read_24 : decode cX8_read 24 = .ok (.getfield 61, 3) := by decide +kernel
theorem dX8_read_27 : decode cX8_read 27 = .ok (.iastore, 1) := by decide +kernel
theorem dX8_read_28 : decode cX8_read 28 = .ok (.aload_n 0, 1) := by decide +kernel
theorem dX8_read_29 : decode cX8_read 29 = .ok (.getfield 7, 3) := by decide +kernel
theorem dX8_read_32 : decode cX8_read 32 = .ok (.iconst 1, 1) := by decide +kernel
theorem dX8_read_33 : decode cX8_read 33 = .ok (.aload_n 0, 1) := by decide +kernel
theorem dX8_read_34 : decode cX8_read 34 = .ok (.getfield 64, 3) := by decide +kernel
theorem dX8_read_37 : decode cX8_read 37 = .ok (.iastore, 1) := by decide +kernel
theorem dX8_read_38 : decode cX8_read 38 = .ok (.aload_n 0, 1) := by decide +kernel
theorem dX8_read_39 : decode cX8_read 39 = .ok (.getfield 7, 3) := by decide +kernel
theorem dX8_read_42 : decode cX8_read 42 = .ok (.iconst 2, 1) := by decide +kernel
theorem dX8_read_43 : decode cX8_read 43 = .ok (.aload_n 0, 1) := by decide +kernel
theorem dX8_read_44 : decode cX8_read 44 = .ok (.getfield 70, 3) := by decide +kernel
theorem dX8_read_47 : decode cX8_read 47 = .ok (.iastore, 1) := by decide +kernel
theorem dX8_read_48 : decode cX8_read 48 = .ok (.aload_n 0, 1) := by decide +kernel
theorem dX8_read_49 : decode cX8_read 49 = .ok (.getfield 7, 3) := by decide +kernel
theorem dX8_read_52 : decode cX8_read 52 = .ok (.iconst 3, 1) := by decide +kernel
theorem dX8_read_53 : decode cX8_read 53 = .ok (.aload_n 0, 1) := by decide +kernel
theorem dX8_read_54 : decode cX8_read 54 = .ok (.getfield 67, 3) := by decide +kernel
theorem dX8_read_57 : decode cX8_read 57 = .ok (.iastore, 1) := by decide +kernel
theorem dX8_read_58 : decode cX8_read 58 = .ok (.aload_n 0, 1) := by decide +kernel
theorem dX8_read_59 : decode cX8_read 59 = .ok (.getfield 7, 3) := by decide +kernel
theorem dX8_read_62 : decode cX8_read 62 = .ok (.iconst 4, 1) := by decide +kernel
theorem dX8_read_63 : decode cX8_read 63 = .ok (.iconst 0, 1) := by decide +kernel
theorem dX8_read_64 : decode cX8_read 64 = .ok (.iastore, 1) := by decide +kernel
theorem dX8_read_65 : decode cX8_read 65 = .ok (.aload_n 0, 1) := by decide +kernel
theorem dX8_read_66 : decode cX8_read 66 = .ok (.getfield 7, 3) := by decide +kernel
theorem dX8_read_69 : decode cX8_read 69 = .ok (.iconst 5, 1) := by decide +kernel
theorem dX8_read_70 : decode cX8_read 70 = .ok (.iconst 0, 1) := by decide +kernel
theorem dX8_read_71 : decode cX8_read 71 = .ok (.iastore, 1) := by decide +kernel
theorem dX8_read_72 : decode cX8_read 72 = .ok (.aload_n 0, 1) := by decide +kernel
theorem dX8_read_73 : decode cX8_read 73 = .ok (.getfield 7, 3) := by decide +kernel
theorem dX8_read_76 : decode cX8_read 76 = .ok (.bipush 6, 2) := by decide +kernel
theorem dX8_read_78 : decode cX8_read 78 = .ok (.bipush (-9), 2) := by decide +kernel
theorem dX8_read_80 : decode cX8_read 80 = .ok (.iastore, 1) := by decide +kernel
theorem dX8_read_81 : decode cX8_read 81 = .ok (.aload_n 0, 1) := by decide +kernel
theorem dX8_read_82 : decode cX8_read 82 = .ok (.getfield 7, 3) := by decide +kernel
theorem dX8_read_85 : decode cX8_read 85 = .ok (.bipush 7, 2) := by decide +kernel
theorem dX8_read_87 : decode cX8_read 87 = .ok (.bipush (-9), 2) := by decide +kernel
theorem dX8_read_89 : decode cX8_read 89 = .ok (.iastore, 1) := by decide +kernel
theorem dX8_read_90 : decode cX8_read 90 = .ok (.aload_n 0, 1) := by decide +kernel
theorem dX8_read_91 : decode cX8_read 91 = .ok (.getfield 7, 3) := by decide +kernel
theorem dX8_read_94 : decode cX8_read 94 = .ok (.bipush 8, 2) := by decide +kernel
theorem dX8_read_96 : decode cX8_read 96 = .ok (.bipush (-9), 2) := by decide +kernel
theorem dX8_read_98 : decode cX8_read 98 = .ok (.iastore, 1) := by decide +kernel
theorem dX8_read_99 : decode cX8_read 99 = .ok (.iconst 0, 1) := by decide +kernel
theorem dX8_read_100 : decode cX8_read 100 = .ok (.istore_n 2, 1) := by decide +kernel
theorem dX8_read_101 : decode cX8_read 101 = .ok (.iload_n 2, 1) := by decide +kernel
theorem dX8_read_102 : decode cX8_read 102 = .ok (.aload_n 0, 1) := by decide +kernel
theorem dX8_read_103 : decode cX8_read 103 = .ok (.getfield 70, 3) := by decide +kernel
theorem dX8_read_106 : decode cX8_read 106 = .ok (.if_icmp .ge 20, 3) := by decide +kernel
theorem dX8_read_109 : decode cX8_read 109 = .ok (.aload_n 0, 1) := by decide +kernel
theorem dX8_read_110 : decode cX8_read 110 = .ok (.iload_n 2, 1) := by decide +kernel
theorem dX8_read_111 : decode cX8_read 111 = .ok (.aload_n 0, 1) := by decide +kernel
theorem dX8_read_112 : decode cX8_read 112 = .ok (.getfield 22, 3) := by decide +kernel
theorem dX8_read_115 : decode cX8_read 115 = .ok (.iload_n 2, 1) := by decide +kernel
theorem dX8_read_116 : decode cX8_read 116 = .ok (.iaload, 1) := by decide +kernel
theorem dX8_read_117 : decode cX8_read 117 = .ok (.invokevirtual 94, 3) := by decide +kernel
theorem dX8_read_120 : decode cX8_read 120 = .ok (.iinc 2 1, 3) := by decide +kernel
theorem dX8_read_123 : decode cX8_read 123 = .ok (.goto (-22), 3) := by decide +kernel
theorem dX8_read_126 : decode cX8_read 126 = .ok (.aload_n 0, 1) := by decide +kernel
theorem dX8_read_127 : decode cX8_read 127 = .ok (.iconst 0, 1) := by decide +kernel
theorem dX8_read_128 : decode cX8_read 128 = .ok (.putfield 58, 3) := by decide +kernel
theorem dX8_read_131 : decode cX8_read 131 = .ok (.aload_n 0, 1) := by decide +kernel
theorem dX8_read_132 : decode cX8_read 132 = .ok (.getfield 70, 3) := by decide +kernel
theorem dX8_read_135 : decode cX8_read 135 = .ok (.ireturn, 1) := by decide +kernel
theorem dX8_shapes_0 : decode cX8_shapes 0 = .ok (.bipush 9, 2) := by decide +kernel
theorem dX8_shapes_2 : decode cX8_shapes 2 = .ok (.istore_n 3, 1) := by decide +kernel
theorem dX8_shapes_3 : decode cX8_shapes 3 = .ok (.iconst 0, 1) := by decide +kernel
theorem dX8_shapes_4 : decode cX8_shapes 4 = .ok (.istore 4, 2) := by decide +kernel
theorem dX8_shapes_6 : decode cX8_shapes 6 = .ok (.bipush 9, 2) := by decide +kernel
theorem dX8_shapes_8 : decode cX8_shapes 8 = .ok (.istore 5, 2) := by decide +kernel
theorem dX8_shapes_10 : decode cX8_shapes 10 = .ok (.iconst 0, 1) := by decide +kernel
theorem dX8_shapes_11 : decode cX8_shapes 11 = .ok (.istore 6, 2) := by decide +kernel
theorem dX8_shapes_13 : decode cX8_shapes 13 = .ok (.iconst 0, 1) := by decide +kernel
theorem dX8_shapes_14 : decode cX8_shapes 14 = .ok (.istore 7, 2) := by decide +kernel
theorem dX8_shapes_16 : decode cX8_shapes 16 = .ok (.iload 7, 2) := by decide +kernel
theorem dX8_shapes_18 : decode cX8_shapes 18 = .ok (.aload_n 0, 1) := by decide +kernel
theorem dX8_shapes_19 : decode cX8_shapes 19 = .ok (.getfield 61, 3) := by decide +kernel
theorem dX8_shapes_22 : decode cX8_shapes 22 = .ok (.aload_n 0, 1) := by decide +kernel
theorem dX8_shapes_23 : decode cX8_shapes 23 = .ok (.getfield 64, 3) := by decide +kernel
theorem dX8_shapes_26 : decode cX8_shapes 26 = .ok (.imul, 1) := by decide +kernel
theorem dX8_shapes_27 : decode cX8_shapes 27 = .ok (.if_icmp .ge 120, 3) := by decide +kernel
theorem dX8_shapes_30 : decode cX8_shapes 30 = .ok (.iload_n 2, 1) := by decide +kernel
theorem dX8_shapes_31 : decode cX8_shapes 31 = .ok (.iload 7, 2) := by decide +kernel
theorem dX8_shapes_33 : decode cX8_shapes 33 = .ok (.ishr, 1) := by decide +kernel
theorem dX8_shapes_34 : decode cX8_shapes 34 = .ok (.iconst 1, 1) := by decide +kernel
theorem dX8_shapes_35 : decode cX8_shapes 35 = .ok (.iand, 1) := by decide +kernel
theorem dX8_shapes_36 : decode cX8_shapes 36 = .ok (.iconst 1, 1) := by decide +kernel
theorem dX8_shapes_37 : decode cX8_shapes 37 = .ok (.if_icmp .ne 104, 3) := by decide +kernel
theorem dX8_shapes_40 : decode cX8_shapes 40 = .ok (.iload 7, 2) := by decide +kernel
theorem dX8_shapes_42 : decode cX8_shapes 42 = .ok (.aload_n 0, 1) := by decide +kernel
theorem dX8_shapes_43 : decode cX8_shapes 43 = .ok (.getfield 61, 3) := by decide +kernel
theorem dX8_shapes_46 : decode cX8_shapes 46 = .ok (.irem, 1) := by decide +kernel
theorem dX8_shapes_47 : decode cX8_shapes 47 = .ok (.iload_n 3, 1) := by decide +kernel
theorem dX8_shapes_48 : decode cX8_shapes 48 = .ok (.if_icmp .ge 13, 3) := by decide +kernel
theorem dX8_shapes_51 : decode cX8_shapes 51 = .ok (.iload 7, 2) := by decide +kernel
theorem dX8_shapes_53 : decode cX8_shapes 53 = .ok (.aload_n 0, 1) := by decide +kernel
theorem dX8_shapes_54 : decode cX8_shapes 54 = .ok (.getfield 61, 3) := by decide +kernel
theorem dX8_shapes_57 : decode cX8_shapes 57 = .ok (.irem, 1) := by decide +kernel
theorem dX8_shapes_58 : decode cX8_shapes 58 = .ok (.goto 4, 3) := by decide +kernel
theorem dX8_shapes_61 : decode cX8_shapes 61 = .ok (.iload_n 3, 1) := by decide +kernel
theorem dX8_shapes_62 : decode cX8_shapes 62 = .ok (.istore_n 3, 1) := by decide +kernel
theorem dX8_shapes_63 : decode cX8_shapes 63 = .ok (.iload 7, 2) := by decide +kernel
theorem dX8_shapes_65 : decode cX8_shapes 65 = .ok (.aload_n 0, 1) := by decide +kernel
theorem dX8_shapes_66 : decode cX8_shapes 66 = .ok (.getfield 61, 3) := by decide +kernel
theorem dX8_shapes_69 : decode cX8_shapes 69 = .ok (.irem, 1) := by decide +kernel
theorem dX8_shapes_70 : decode cX8_shapes 70 = .ok (.iload 4, 2) := by decide +kernel
theorem dX8_shapes_72 : decode cX8_shapes 72 = .ok (.if_icmp .le 13, 3) := by decide +kernel
theorem dX8_shapes_75 : decode cX8_shapes 75 = .ok (.iload 7, 2) := by decide +kernel
theorem dX8_shapes_77 : decode cX8_shapes 77 = .ok (.aload_n 0, 1) := by decide +kernel
theorem dX8_shapes_78 : decode cX8_shapes 78 = .ok (.getfield 61, 3) := by decide +kernel
